/-! the reference: one pair -/
def aset2 (k sh : Nat) (es : List aE) (W : Nat → Nat → Bool) (n : Nat) (f : aP) (cs : List aP) : Nat × List aE × (Nat → Nat → Bool) × Nat × Nat :=
  if (adiv k (es.map Prod.fst) none n f [] (List.replicate es.length [])).1 = 0 then
        (if (adiv k (es.map Prod.fst) none n f [] (List.replicate es.length [])).2.2.1.length = 0 then (0, es, W, (adiv k (es.map Prod.fst) none n f [] (List.replicate es.length [])).2.1, 0) else
          match anew k sh es (adiv k (es.map Prod.fst) none n f [] (List.replicate es.length [])).2.2.2 (adiv k (es.map Prod.fst) none n f [] (List.replicate es.length [])).2.2.1 cs with
          | none => (2, es, W, (adiv k (es.map Prod.fst) none n f [] (List.replicate es.length [])).2.1, 0)
          | some E => (0, es ++ [E], won W es.length, (adiv k (es.map Prod.fst) none n f [] (List.replicate es.length [])).2.1, 0))
      else ((adiv k (es.map Prod.fst) none n f [] (List.replicate es.length [])).1, es, W, (adiv k (es.map Prod.fst) none n f [] (List.replicate es.length [])).2.1, 0)
def aset1 (k sh : Nat) (es : List aE) (W : Nat → Nat → Bool) (n l r : Nat) : Nat × List aE × (Nat → Nat → Bool) × Nat × Nat :=
  match aspol k (es.getD l aE0) (es.getD r aE0) (es.getD l aE0).1 (es.getD r aE0).1 with
  | none => (2, es, W, n, 0)
  | some f => match omp (fun kk => aspol k (es.getD l aE0) (es.getD r aE0) (acof es l kk) (acof es r kk)) sh with
    | none => (2, es, W, n, 0)
    | some cs => aset2 k sh es W n f cs
theorem asettle_eq {k sh : Nat} {es : List aE} {W : Nat → Nat → Bool} {n l r : Nat} : asettle k sh es W n l r = if aneed es (woff W l r) l r = true then (0, es, woff W l r, n, 1) else aset1 k sh es (woff W l r) n l r := rfl
/-- how a turn ended: 0 well, 1 SPENT, 2 FULL -/
def rfl3 (M : zM) (c : Nat) : Prop := (c = 0 ∧ zI M 1529 11 = 0 ∧ zI M 1529 12 = 0) ∨ (c = 1 ∧ zI M 1529 11 = 0 ∧ zI M 1529 12 = 1) ∨ (c = 2 ∧ zI M 1529 11 = 1 ∧ zI M 1529 12 = 0)
theorem op_c {d fo sh nv k lim n pd pp : Nat} {M : zM} {es : List aE} {W : Nat → Nat → Bool} {f : aP} {cs : List aP} {P : Int32 → zM → Prop} (o1 o2 o3 o4 o5 o7 : Option Value) (hd : 6 ≤ d) (hM : mst M) (hv : mvk M nv k) (hf2 : 40 ≤ fo ∧ fo + 25 ≤ 100) (hw : rwk M fo sh nv k lim es W n pd pp) (hf : qdy M 151 f) (hfg : pgd nv k f) (hcl : cs.length = sh) (hcs : ∀ c ∈ cs, pgd nv k c) (hcq : ∀ i, i < sh → qdy M (154 + i) (cs.getD i [])) (hz : zI M 1529 11 = 0) (hs : zI M 1529 12 = 0)
    (h : ∀ M', rfr (TP fo sh es.length) FP GW M M' → rwk M' fo sh nv k lim (aset2 k sh es W n f cs).2.1 (aset2 k sh es W n f cs).2.2.1 (aset2 k sh es W n f cs).2.2.2.1 pd (pp + (aset2 k sh es W n f cs).2.2.2.2) → rfl3 M' (aset2 k sh es W n f cs).1 → P 1 M') : wX8_onePair d (fun r M2 => ∃ x : Int32, r = [.int x] ∧ P x M2) 186 [some (.ref 1529), o1, o2, o3, o4, o5, some (.int 151), o7] [] M := by
  obtain ⟨⟨w19, w20, w21, wsh⟩, ⟨w13, w14, wn, wl⟩, ⟨wlen, wr, wg, ww⟩, w24, w25⟩ := id hw
  have hs8 := wsh.1
  have dis := fun i (hi : i < es.length) => TP_dis hf2 hs8 wlen hi
  have hnn : lim - (lim - n) = n := by omega
  refine sg_X8_onePair_186 _ _ _ _ _ _ _ _ _ ⟨hM.1, ?_⟩
  refine sp_rdivided (bs := es.map Prod.fst) (lo := none) (by omega) hM hv w19 hf2 w20 w21 (fun j hj => by cases hj) w13 w14 (by omega) wl hz hs (by rw [List.length_map]) wlen (fun i b hb => ?_) hf hfg fun dv M1 hdv hfr1 h13 c0 c1 c2 c3 => ?_
  · rw [List.getElem?_map] at hb
    cases hE : es[i]? with
    | none => rw [hE] at hb; cases hb
    | some E =>
      rw [hE] at hb
      cases hb
      exact ⟨(wr i E hE).1, (wg E (List.mem_of_getElem? hE)).1⟩
  · rw [hnn] at hdv
    have hle : dv.2.1 ≤ n := by rw [← hdv]; exact adiv_le _ _ _ _
    have has : aset2 k sh es W n f cs = if dv.1 = 0 then (if dv.2.2.1.length = 0 then (0, es, W, dv.2.1, 0) else match anew k sh es dv.2.2.2 dv.2.2.1 cs with
          | none => (2, es, W, dv.2.1, 0)
          | some E => (0, es ++ [E], won W es.length, dv.2.1, 0)) else (dv.1, es, W, dv.2.1, 0) := by rw [← hdv]; rfl
    generalize aset2 k sh es W n f cs = st at has h
    have hM1 := mst_fr hfr1 hM
    have hv1 := mvk_fr hfr1 (by unfold FD FF; omega) (by unfold FD FF; omega) hv
    have hfr1' : rfr (TP fo sh es.length) FD GN M M1 := rfr_up hfr1 (fun x z => by unfold TD at z; unfold TP; omega) (fun _ z => z) (fun _ z => z)
    have hfr1'' : rfr (TP fo sh es.length) FP GW M M1 := rfr_up hfr1' (fun _ z => z) (fun _ z => Or.inl z) (fun _ z => z.elim)
    have hw1 : rwk M1 fo sh nv k lim es W dv.2.1 pd pp := rwk_fr hfr1' dis (fun _ z => z) (fun z => z) h13 (by omega) hw
    rcases c3 with e | e | e
    · obtain ⟨z11, z12, q152, g152, ql, qg, qq⟩ := c0 e
      rw [if_pos e] at has
      obtain ⟨s16, ⟨r3, r4, r5, r6, -⟩, ⟨k0, k1, k2, k3⟩, -⟩ := id hM1
      have c152 := cl_n (n := 152) (by omega)
      refine ⟨s16, fun z => absurd z11 z, fun _ => ⟨s16, fun z => absurd z12 z, fun _ => ⟨s16, by rw [r6, k3], by rw [r6, k3]; exact zin_n (j := 152) (by omega) (by omega), fun z => ?_, fun z => ⟨Or.inr rfl, _, rfl, ?_⟩⟩⟩⟩
      · have hne : dv.2.2.1 ≠ [] := fun y => z (by
          rw [r6]
          show zI M1 1533 152 = 0
          rw [q152.1, y]
          rfl)
        have hl0 : ¬ dv.2.2.1.length = 0 := fun y => hne (List.length_eq_zero_iff.mp y)
        rw [if_neg hl0] at has
        have hr154 : ∀ i, i < sh → qdy M1 (154 + i) (cs.getD i []) := fun i hi => qdy_fr hfr1 (by unfold TD; omega) (getD_len (fun c hc => (hcs c hc).1) i).2.2 (hcq i hi)
        refine op_b _ _ _ _ _ _ _ hd hM1 hv1 hf2 hw1 q152 g152 hne hcl hcs hr154 qg qq z11 (fun E M2 hE hfr2 hw2 hz2 hs2 => ?_) (fun M2 hE hfr2 hw2 hz2 hs2 => ?_)
        · rw [hE] at has
          rw [has] at h
          exact h M2 (rfr_tr hfr1'' hfr2) hw2 (Or.inl ⟨rfl, hz2, by rw [hs2]; exact z12⟩)
        · rw [hE] at has
          rw [has] at h
          exact h M2 (rfr_tr hfr1'' hfr2) hw2 (Or.inr (Or.inr ⟨rfl, hz2, by rw [hs2]; exact z12⟩))
      · have hl0 : dv.2.2.1.length = 0 := by
          have z := Classical.not_not.mp z
          rw [r6] at z
          have z : zI M1 1533 152 = 0 := z
          rw [q152.1] at z
          exact (nI_z (by have := g152.1.2.2; omega)).mp z
        rw [if_pos hl0] at has
        rw [has] at h
        exact h M1 hfr1'' hw1 (Or.inl ⟨rfl, z11, z12⟩)
    · obtain ⟨z11, z12⟩ := c1 e
      rw [if_neg (by omega)] at has
      rw [has] at h
      exact ⟨hM1.1, fun z => absurd z11 z, fun _ => ⟨hM1.1, fun _ => ⟨Or.inr rfl, _, rfl, h M1 hfr1'' hw1 (Or.inr (Or.inl ⟨e, z11, z12⟩))⟩, fun z => absurd (Classical.not_not.mp z) (by rw [z12]; decide)⟩⟩
    · obtain ⟨z11, z12⟩ := c2 e
      rw [if_neg (by omega)] at has
      rw [has] at h
      exact ⟨hM1.1, fun _ => ⟨Or.inr rfl, _, rfl, h M1 hfr1'' hw1 (Or.inr (Or.inr ⟨e, z11, z12⟩))⟩, fun z => absurd (Classical.not_not.mp z) (by rw [z11]; decide)⟩
theorem sp_raddsP {d nv k f g : Nat} {M : zM} {F G : aP} {m : aM} {P : zM → Prop} (hd : 5 ≤ d) (hM : mst M) (hv : mvk M nv k) (hfl : f < 372) (hgl : g < 372) (hfg : f ≠ g) (hF : qdy M f F) (hG : qdy M g G) (hFk : pok k F) (hGk : pok k G) (hFv : pvn nv F) (hGv : pvn nv G) (hm : mok m) (hmv : vin nv m) (hz : zI M 1529 11 = 0) (h1 : ∀ F' M', aadds k (1, 1) m G F = some F' → rfr (fun x => x = f) FF GN M M' → zI M' 1529 11 = 0 → qdy M' f F' → P M') (h0 : ∀ F' M', aadds k (1, 1) m G F = none → rfr (fun x => x = f) FF GN M M' → zI M' 1529 11 = 1 → qdy M' f F' → F'.length ≤ 100 → P M') : ycV d nX8_adds [.ref 1529, .int (nI f), .int 1, .int 1, .int (e5 m), .int (nI g)] M P := sp_radds (c := (1, 1)) hd hM hv hfl hgl hfg hF hG hFk hGk hFv hGv fok_1 (by decide) hm hmv hz h1 h0
theorem sp_raddsN {d nv k f g : Nat} {M : zM} {F G : aP} {m : aM} {P : zM → Prop} (hd : 5 ≤ d) (hM : mst M) (hv : mvk M nv k) (hfl : f < 372) (hgl : g < 372) (hfg : f ≠ g) (hF : qdy M f F) (hG : qdy M g G) (hFk : pok k F) (hGk : pok k G) (hFv : pvn nv F) (hGv : pvn nv G) (hm : mok m) (hmv : vin nv m) (hz : zI M 1529 11 = 0) (h1 : ∀ F' M', aadds k (-1, 1) m G F = some F' → rfr (fun x => x = f) FF GN M M' → zI M' 1529 11 = 0 → qdy M' f F' → P M') (h0 : ∀ F' M', aadds k (-1, 1) m G F = none → rfr (fun x => x = f) FF GN M M' → zI M' 1529 11 = 1 → qdy M' f F' → F'.length ≤ 100 → P M') : ycV d nX8_adds [.ref 1529, .int (nI f), .int (-1), .int 1, .int (e5 m), .int (nI g)] M P := sp_radds (c := (-1, 1)) hd hM hv hfl hgl hfg hF hG hFk hGk hFv hGv fok_m1 (by decide) hm hmv hz h1 h0
theorem qdy_0 {M : zM} {p : Nat} (h : zI M 1533 p = 0) : qdy M p [] := ⟨h, fun j t hj => by cases hj⟩
/-- the difference of a pair, and its cofactors -/
theorem op_d {d fo sh nv k lim n pd pp l r : Nat} {M : zM} {es : List aE} {W : Nat → Nat → Bool} {P : Int32 → zM → Prop} (o4 o5 o6 o7 : Option Value) (hd : 6 ≤ d) (hM : mst M) (hv : mvk M nv k) (hf2 : 40 ≤ fo ∧ fo + 25 ≤ 100) (hw : rwk M fo sh nv k lim es W n pd pp) (hlr : l < r) (hrl : r < es.length) (hz : zI M 1529 11 = 0) (hs : zI M 1529 12 = 0)
    (h : ∀ M', rfr (TP fo sh es.length) FP GW M M' → rwk M' fo sh nv k lim (aset1 k sh es W n l r).2.1 (aset1 k sh es W n l r).2.2.1 (aset1 k sh es W n l r).2.2.2.1 pd (pp + (aset1 k sh es W n l r).2.2.2.2) → rfl3 M' (aset1 k sh es W n l r).1 → P 1 M') : wX8_onePair d (fun r M2 => ∃ x : Int32, r = [.int x] ∧ P x M2) 91 [some (.ref 1529), some (.int (nI l)), some (.int (nI r)), some (.int (e5 (mlcm (ald es l) (ald es r)))), o4, o5, o6, o7] [] M := by
  obtain ⟨⟨w19, w20, w21, wsh⟩, ⟨w13, w14, wn, wl⟩, ⟨wlen, wr, wg, ww⟩, w24, w25⟩ := id hw
  have hs8 := wsh.1
  have dis := fun i (hi : i < es.length) => TP_dis hf2 hs8 wlen hi
  obtain ⟨la, lca, lE, lm, lv⟩ := egd_ld wg (show l < es.length by omega)
  obtain ⟨ra, rca, rE, rm, rv⟩ := egd_ld wg hrl
  have hgl : es.getD l aE0 = (((1, 1), ald es l) :: la, lca) := by rw [List.getD_eq_getElem?_getD, lE]; rfl
  have hgr : es.getD r aE0 = (((1, 1), ald es r) :: ra, rca) := by rw [List.getD_eq_getElem?_getD, rE]; rfl
  have hA := (wg _ (List.mem_of_getElem? lE)).1.1
  have hB := (wg _ (List.mem_of_getElem? rE)).1.1
  have hqA := (wr l _ lE).1
  have hqB := (wr r _ rE).1
  have hX := msub_ok (b := ald es l) (mlcm_ok lm rm)
  have hY := msub_ok (b := ald es r) (mlcm_ok lm rm)
  have hXv := vin_sub (b := ald es l) (vin_lcm lv rv)
  have hYv := vin_sub (b := ald es r) (vin_lcm lv rv)
  have hsp : ∀ p q : aP, aspol k (es.getD l aE0) (es.getD r aE0) p q = match aadds k (1, 1) (msub (mlcm (ald es l) (ald es r)) (ald es l)) p [] with
    | none => none
    | some f => aadds k (-1, 1) (msub (mlcm (ald es l) (ald es r)) (ald es r)) q f := fun p q => rfl
  have has : aset1 k sh es W n l r = match aspol k (es.getD l aE0) (es.getD r aE0) (((1, 1), ald es l) :: la) (((1, 1), ald es r) :: ra) with
    | none => (2, es, W, n, 0)
    | some f => match omp (fun kk => aspol k (es.getD l aE0) (es.getD r aE0) (acof es l kk) (acof es r kk)) sh with
      | none => (2, es, W, n, 0)
      | some cs => aset2 k sh es W n f cs := by
    rw [show (((1, 1), ald es l) :: la) = (es.getD l aE0).1 by rw [hgl], show (((1, 1), ald es r) :: ra) = (es.getD r aE0).1 by rw [hgr]]
    rfl
  have hd1 := e5_sub (mdv_lcm1 (a := ald es l) (b := ald es r))
  have hd2 := e5_sub (mdv_lcm2 (a := ald es l) (b := ald es r))
  have e5l : ∀ L : aP, L = L := fun _ => rfl
  generalize hXd : msub (mlcm (ald es l) (ald es r)) (ald es l) = X at hX hXv hsp hd1
  generalize hYd : msub (mlcm (ald es l) (ald es r)) (ald es r) = Y at hY hYv hsp hd2
  generalize aset1 k sh es W n l r = st at h has
  generalize ((1, 1), ald es l) :: la = A at lE hA hqA has
  generalize ((1, 1), ald es r) :: ra = B at rE hB hqB has
  -- after FULL
  have over : ∀ (M1 : zM) (a7 : Int32) (o3 : Option Value) (a4 a5 : Int32), mst M1 → zI M1 1529 11 = 1 → P 1 M1 → wX8_onePair d (fun r M2 => ∃ x : Int32, r = [.int x] ∧ P x M2) 138 [some (.ref 1529), some (.int (nI l)), some (.int (nI r)), o3, some (.int a4), some (.int a5), some (.int 151), some (.int a7)] [] M1 := fun M1 a7 o3 a4 a5 hM1 hz1 hP => by
    have e : ∀ (o1 o2 o3 o4 o5 o7 : Option Value), wX8_onePair d (fun r M2 => ∃ x : Int32, r = [.int x] ∧ P x M2) 181 [some (.ref 1529), o1, o2, o3, o4, o5, some (.int 151), o7] [] M1 := fun o1 o2 o3 o4 o5 o7 => sg_X8_onePair_181 _ _ _ _ _ _ _ _ _ ⟨hM1.1, fun z => absurd z (by rw [hz1]; decide), fun _ => ⟨Or.inr rfl, _, rfl, hP⟩⟩
    exact sg_X8_onePair_138 _ _ _ _ _ _ _ _ _ ⟨hM1.1, fun _ => e _ _ _ _ _ _, fun _ => ⟨hM1.1, fun _ => e _ _ _ _ _ _, fun _ => ⟨hM1.1, fun _ => e _ _ _ _ _ _, fun z => absurd (Classical.not_not.mp z) (by rw [hz1]; decide)⟩⟩⟩
  -- how FULL ends here
  have full : ∀ M1, rfr (TP fo sh es.length) FF GN M M1 → st = (2, es, W, n, 0) → zI M1 1529 11 = 1 → P 1 M1 := fun M1 hfr1 hst hz1 => by
    have F1 : ∀ j, ¬ FF j → zI M1 1529 j = zI M 1529 j := fun j hj => hfr1.2.2.2.2.2.2.1 j hj
    rw [hst] at h
    exact h M1 (rfr_up hfr1 (fun _ z => z) (fun _ z => Or.inl (Or.inl z)) (fun _ z => z.elim)) (rwk_fr hfr1 dis (fun _ z => Or.inl z) (fun z => z) (by rw [F1 _ (by unfold FF; omega)]; exact w13) wn hw) (Or.inr (Or.inr ⟨rfl, hz1, by rw [F1 _ (by unfold FF; omega)]; exact hs⟩))
  -- the cofactors
  have loop : ∀ (m g : Nat) (f : aP) (pre : List aP) (M1 : zM) (o3 : Option Value), g + m = sh → rfr (fun x => x = 151 ∨ (154 ≤ x ∧ x < 162)) FF GN M M1 → zI M1 1529 11 = 0 → aspol k (es.getD l aE0) (es.getD r aE0) A B = some f → qdy M1 151 f → pgd nv k f → omp (fun kk => aspol k (es.getD l aE0) (es.getD r aE0) (acof es l kk) (acof es r kk)) g = some pre → (∀ c ∈ pre, pgd nv k c) → (∀ i, i < g → qdy M1 (154 + i) (pre.getD i [])) → wX8_onePair d (fun r M2 => ∃ x : Int32, r = [.int x] ∧ P x M2) 138 [some (.ref 1529), some (.int (nI l)), some (.int (nI r)), o3, some (.int (e5 X)), some (.int (e5 Y)), some (.int 151), some (.int (nI g))] [] M1 := by
    intro m
    induction m with
    | zero =>
      intro g f pre M1 o3 hg hfr hz1 hf hqf hfg hom hpg hpq
      have hM1 := mst_fr hfr hM
      have hv1 := mvk_fr hfr (by unfold FF; omega) (by unfold FF; omega) hv
      have hr1 := rsh_fr hfr (by unfold FF; omega) (by unfold FF; omega) wsh
      have F1 : ∀ j, ¬ FF j → zI M1 1529 j = zI M 1529 j := fun j hj => hfr.2.2.2.2.2.2.1 j hj
      have hfr' : rfr (TP fo sh es.length) FF GN M M1 := rfr_up hfr (fun x z => by unfold TP; omega) (fun _ z => z) (fun _ z => z)
      rw [show g = sh by omega] at hom hpq ⊢
      rw [hf] at has
      dsimp only at has
      rw [hom] at has
      dsimp only at has
      rw [has] at h
      have e : ∀ (o1 o2 o3 o4 o5 o7 : Option Value), wX8_onePair d (fun r M2 => ∃ x : Int32, r = [.int x] ∧ P x M2) 181 [some (.ref 1529), o1, o2, o3, o4, o5, some (.int 151), o7] [] M1 := fun o1 o2 o3 o4 o5 o7 => sg_X8_onePair_181 _ _ _ _ _ _ _ _ _ ⟨hM1.1, fun _ => op_c _ _ _ _ _ _ hd hM1 hv1 hf2 (rwk_fr hfr' dis (fun _ z => Or.inl z) (fun z => z) (by rw [F1 _ (by unfold FF; omega)]; exact w13) wn hw) hqf hfg (omp_len hom) hpg hpq hz1 (by rw [F1 _ (by unfold FF; omega)]; exact hs) (fun M2 hfr2 hw2 hfl => h M2 (rfr_tr (rfr_up hfr' (fun _ z => z) (fun _ z => Or.inl (Or.inl z)) (fun _ z => z.elim)) hfr2) hw2 hfl), fun z => absurd hz1 z⟩
      exact sg_X8_onePair_138 _ _ _ _ _ _ _ _ _ ⟨hM1.1, fun _ => e _ _ _ _ _ _, fun z => ⟨hM1.1, fun _ => e _ _ _ _ _ _, fun z2 => ((rsh_end hr1).elim (fun y => absurd y z) (fun y => absurd y z2))⟩⟩
    | succ m ih =>
      intro g f pre M1 o3 hg hfr hz1 hf hqf hfg hom hpg hpq
      have hM1 := mst_fr hfr hM
      have hv1 := mvk_fr hfr (by unfold FF; omega) (by unfold FF; omega) hv
      have hr1 := rsh_fr hfr (by unfold FF; omega) (by unfold FF; omega) wsh
      obtain ⟨go1, go2⟩ := rsh_go hr1 (show g < sh by omega)
      obtain ⟨s16, ⟨r3, r4, r5, r6, -⟩, ⟨k0, k1, k2, k3⟩, -⟩ := id hM1
      have hpl := omp_len hom
      have cg := cl_n (n := 154 + g) (by omega)
      obtain ⟨ck1, cv1⟩ := egd_cof wg l g
      obtain ⟨ck2, cv2⟩ := egd_cof wg r g
      have cq1 := rel_cof wr (show l < es.length by omega) (show g < sh by omega)
      have cq2 := rel_cof wr hrl (show g < sh by omega)
      have hos : omp (fun kk => aspol k (es.getD l aE0) (es.getD r aE0) (acof es l kk) (acof es r kk)) (g + 1) = match aspol k (es.getD l aE0) (es.getD r aE0) (acof es l g) (acof es r g) with
        | none => none
        | some c => some (pre ++ [c]) := by rw [omp_s, hom]; rfl
      have hbad : aspol k (es.getD l aE0) (es.getD r aE0) (acof es l g) (acof es r g) = none → st = (2, es, W, n, 0) := fun y => by
        rw [y] at hos
        rw [hf] at has
        dsimp only at has
        rw [omp_none (n := g + 1) hos (by omega)] at has
        exact has
      rw [hsp] at hos hbad
      refine sg_X8_onePair_138 _ _ _ _ _ _ _ _ _ ⟨s16, fun z => absurd z go1, fun _ => ⟨s16, fun z => absurd z go2, fun _ => ⟨s16, fun z => absurd hz1 z, fun _ => ?_⟩⟩⟩
      rw [show (154 : Int32) + nI g = nI (154 + g) from nI_add 154 g, cg]
      refine ⟨s16, by rw [r6, k3], by rw [r6, k3]; exact zin_n (by omega) (by omega), ?_⟩
      intro M2
      have m2 : M2 = zuI M1 1533 (154 + g) 0 := by rw [show M2 = zuI M1 (zR M1 1529 6) (154 + g) 0 from rfl, r6]
      clear_value M2
      have hfr2 : rfr (fun x => x = 154 + g) FF GN M1 M2 := by rw [m2]; exact rfr_3 rfl
      have hM2 := mst_fr hfr2 hM1
      have hv2 := mvk_fr hfr2 (by unfold FF; omega) (by unfold FF; omega) hv1
      have q2 : qdy M2 (154 + g) [] := qdy_0 (by rw [m2, zI_uI, if_pos ⟨rfl, rfl⟩])
      have z2 : zI M2 1529 11 = 0 := by rw [m2, zI_uI, if_neg (by omega)]; exact hz1
      have hfa2 := rfr_tr (rfr_up hfr (T' := fun x => x = 151 ∨ (154 ≤ x ∧ x < 162)) (fun _ z => z) (fun _ z => z) (fun _ z => z)) (rfr_up hfr2 (fun x z => Or.inr (by omega)) (fun _ z => z) (fun _ z => z))
      refine ⟨s16, sp_rcof (by omega) ⟨hM2.1, ?_⟩⟩
      refine sp_raddsP (by omega) hM2 hv2 (by omega) (by omega) (by omega) q2 (qdy_fr hfa2 (by omega) ck1.2.2 cq1) pok_nil ck1 pvn_nil cv1 hX hXv z2 (fun F1 M3 hF1 hfr3 hz3 hq3 => ?_) (fun F1 M3 hn3 hfr3 hz3 hq3 hl3 => ?_)
      · have hM3 := mst_fr hfr3 hM2
        have hv3 := mvk_fr hfr3 (by unfold FF; omega) (by unfold FF; omega) hv2
        have hfa3 := rfr_tr hfa2 (rfr_up hfr3 (fun x z => Or.inr (by omega)) (fun _ z => z) (fun _ z => z))
        have hk1 := aadds_ok fok_1 (by decide) ck1.1 pok_nil hF1
        have hv1' := aadds_vn hXv cv1 pvn_nil hF1
        rw [hF1] at hos hbad
        dsimp only at hos hbad
        refine ⟨hM3.1, sp_rcof (by omega) ⟨hM3.1, ?_⟩⟩
        refine sp_raddsN (by omega) hM3 hv3 (by omega) (by omega) (by omega) hq3 (qdy_fr hfa3 (by omega) ck2.2.2 cq2) hk1 ck2 hv1' cv2 hY hYv hz3 (fun F2 M4 hF2 hfr4 hz4 hq4 => ?_) (fun F2 M4 hn4 hfr4 hz4 hq4 hl4 => ?_)
        · have hfa4 := rfr_tr hfa3 (rfr_up hfr4 (fun x z => Or.inr (by omega)) (fun _ z => z) (fun _ z => z))
          have hf14 : rfr (fun x => x = 154 + g) FF GN M1 M4 := rfr_tr hfr2 (rfr_tr hfr3 hfr4)
          rw [hF2] at hos
          intro v7
          rw [show v7 = nI (g + 1) from nI_1 g]
          refine ih (g + 1) f (pre ++ [F2]) M4 _ (by omega) hfa4 hz4 hf (qdy_fr hf14 (by omega) hfg.1.2.2 hqf) hfg hos (fun c hc => ?_) fun i hi => ?_
          · rcases List.mem_append.mp hc with hc | hc
            · exact hpg c hc
            · rw [List.mem_singleton.mp hc]
              exact aadds_gd fok_m1 (by decide) hYv (egd_cofg wg r g) (aadds_gd fok_1 (by decide) hXv (egd_cofg wg l g) pgd_nil hF1) hF2
          · by_cases hig : i = g
            · have : (pre ++ [F2]).getD i [] = F2 := by
                rw [List.getD_eq_getElem?_getD, List.getElem?_append_right (by omega), hpl, hig, Nat.sub_self]
                rfl
              rw [this, hig]
              exact hq4
            · have : (pre ++ [F2]).getD i [] = pre.getD i [] := by
                rw [List.getD_eq_getElem?_getD, List.getElem?_append_left (by omega), List.getD_eq_getElem?_getD]
              rw [this]
              exact qdy_fr hf14 (by omega) (getD_len (fun c hc => (hpg c hc).1) i).2.2 (hpq i (by omega))
        · have hfa4 := rfr_tr hfa3 (rfr_up hfr4 (fun x z => Or.inr (by omega)) (fun _ z => z) (fun _ z => z))
          intro v7
          exact over M4 _ _ _ _ (mst_fr hfa4 hM) hz4 (full M4 (rfr_up hfa4 (fun x z => by unfold TP; omega) (fun _ z => z) (fun _ z => z)) (hbad hn4) hz4)
      · have hM3 := mst_fr hfr3 hM2
        have hfa3 := rfr_tr hfa2 (rfr_up hfr3 (fun x z => Or.inr (by omega)) (fun _ z => z) (fun _ z => z))
        rw [hn3] at hbad
        dsimp only at hbad
        refine ⟨hM3.1, sp_rcof (by omega) ⟨hM3.1, sp_raddsF (by omega) hM3 (by omega) hz3 ?_⟩⟩
        intro v7
        exact over M3 _ _ _ _ (mst_fr hfa3 hM) hz3 (full M3 (rfr_up hfa3 (fun x z => by unfold TP; omega) (fun _ z => z) (fun _ z => z)) (hbad rfl) hz3)
  refine sg_X8_onePair_91 _ _ _ _ _ _ _ _ _ ⟨hM.1, hM.1, ?_⟩
  rw [w19, nI_add]
  refine sp_rld (by omega) hM (by omega) wr wg (by omega) (by omega) ?_
  intro v4
  rw [show v4 = e5 X from hd1]
  clear_value v4
  refine ⟨hM.1, hM.1, ?_⟩
  rw [w19, nI_add]
  refine sp_rld (by omega) hM (by omega) wr wg hrl (by omega) ?_
  intro v5
  rw [show v5 = e5 Y from hd2]
  clear_value v5
  obtain ⟨s16, ⟨r3, r4, r5, r6, -⟩, ⟨k0, k1, k2, k3⟩, -⟩ := id hM
  have c151 := cl_n (n := 151) (by omega)
  refine ⟨s16, by rw [r6, k3], by rw [r6, k3]; exact zin_n (j := 151) (by omega) (by omega), ?_⟩
  intro M1
  have m1 : M1 = zuI M 1533 151 0 := by rw [show M1 = zuI M (zR M 1529 6) 151 0 from rfl, r6]
  clear_value M1
  have hfr1 : rfr (fun x => x = 151) FF GN M M1 := by rw [m1]; exact rfr_3 rfl
  have hM1 := mst_fr hfr1 hM
  have hv1 := mvk_fr hfr1 (by unfold FF; omega) (by unfold FF; omega) hv
  have q1 : qdy M1 151 [] := qdy_0 (by rw [m1, zI_uI, if_pos ⟨rfl, rfl⟩])
  have z1 : zI M1 1529 11 = 0 := by rw [m1, zI_uI, if_neg (by omega)]; exact hz
  have F19 : ∀ M', rfr (fun x => x = 151) FF GN M M' → zI M' 1529 19 = nI fo := fun M' hh => by rw [hh.2.2.2.2.2.2.1 19 (by unfold FF; omega)]; exact w19
  refine sg_X8_onePair_116 _ _ _ _ _ _ _ _ _ ⟨hM1.1, hM1.1, ?_⟩
  rw [F19 M1 hfr1, nI_add]
  have hsp0 := hsp A B
  refine sp_raddsP (f := 151) (by omega) hM1 hv1 (by omega) (by omega) (by omega) q1 (qdy_fr hfr1 (by omega) hA.1.2.2 hqA) pok_nil hA.1 pvn_nil hA.2.1 hX hXv z1 (fun F1 M2 hF1 hfr2 hz2 hq2 => ?_) (fun F1 M2 hn2 hfr2 hz2 hq2 hl2 => ?_)
  · have hfa2 := rfr_tr hfr1 hfr2
    have hM2 := mst_fr hfa2 hM
    have hv2 := mvk_fr hfa2 (by unfold FF; omega) (by unfold FF; omega) hv
    have hg1 := aadds_gd fok_1 (by decide) hXv hA pgd_nil hF1
    rw [hF1] at hsp0
    dsimp only at hsp0
    refine ⟨hM2.1, hM2.1, ?_⟩
    rw [F19 M2 hfa2, nI_add]
    refine sp_raddsN (f := 151) (by omega) hM2 hv2 (by omega) (by omega) (by omega) hq2 (qdy_fr hfa2 (by omega) hB.1.2.2 hqB) hg1.1 hB.1 hg1.2.1 hB.2.1 hY hYv hz2 (fun F2 M3 hF2 hfr3 hz3 hq3 => ?_) (fun F2 M3 hn3 hfr3 hz3 hq3 hl3 => ?_)
    · have hfa3 := rfr_tr hfa2 hfr3
      refine loop sh 0 F2 [] M3 _ (by omega) (rfr_up hfa3 (fun x z => Or.inl z) (fun _ z => z) (fun _ z => z)) hz3 (by rw [hsp0]; exact hF2) hq3 (aadds_gd fok_m1 (by decide) hYv hB hg1 hF2) rfl (fun c hc => absurd hc List.not_mem_nil) fun i hi => absurd hi (Nat.not_lt_zero _)
    · have hfa3 := rfr_tr hfa2 hfr3
      rw [hsp0, hn3] at has
      exact over M3 _ _ _ _ (mst_fr hfa3 hM) hz3 (full M3 (rfr_up hfa3 (fun x z => by unfold TP; omega) (fun _ z => z) (fun _ z => z)) has hz3)
  · have hfa2 := rfr_tr hfr1 hfr2
    have hM2 := mst_fr hfa2 hM
    rw [hn2] at hsp0
    dsimp only at hsp0
    rw [hsp0] at has
    refine ⟨hM2.1, hM2.1, ?_⟩
    rw [F19 M2 hfa2, nI_add]
    exact sp_raddsF (by omega) hM2 (by omega) hz2 (over M2 _ _ _ _ hM2 hz2 (full M2 (rfr_up hfa2 (fun x z => by unfold TP; omega) (fun _ z => z) (fun _ z => z)) has hz2))
