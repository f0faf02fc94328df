/-! the reference's calls: orders, generators, elements -/
theorem asrt_mem {k : Nat} : ∀ {l acc : aP} {t : aT}, t ∈ asrt k l acc → t ∈ l ∨ t ∈ acc
  | [], acc, t, h => Or.inr h
  | u :: l, acc, t, h => by
    rcases asrt_mem (l := l) (acc := ains k u acc) h with h | h
    · exact Or.inl (List.mem_cons_of_mem _ h)
    · rcases (List.mem_insertIdx (apos_le acc)).mp (show t ∈ acc.insertIdx (apos k u.2 acc) u from h) with h | h
      · exact Or.inl (by rw [h]; exact List.mem_cons_self)
      · exact Or.inr h
theorem asrt_gd {nv k k' : Nat} {L : aP} (h : pgd nv k L) : pgd nv k' (asrt k' L []) := ⟨asrt_pok h.1, fun t ht => by
  rcases asrt_mem ht with ht | ht
  · exact h.2.1 t ht
  · exact absurd ht List.not_mem_nil, fun t ht => by
  rcases asrt_mem ht with ht | ht
  · exact h.2.2 t ht
  · exact absurd ht List.not_mem_nil⟩
theorem cR_order {d : Nat} {M : zM} {s : aX} {a : Int32} {P : Int32 → zM → Prop} (hd : 10 ≤ d) (hx : rX M s) (h : rres (A_order s a) M P) : ycI d nX8_order [.ref 1529, .int a] M P := by
  obtain ⟨d, rfl, he⟩ := dS hd
  have hx0 := hx
  obtain ⟨⟨hM, hg⟩, ⟨f0, fv, f7, f9, f8⟩, hP, hGs, hE, ⟨d0, d1, d2, d3⟩, hQ⟩ := hx
  obtain ⟨n14, kk2, ⟨pl, pg⟩, ⟨gl2, gg⟩, eg, qg⟩ := id hg
  unfold A_order at h
  have no : idx a 3 = false → P (-2) M := fun z => by
    rw [if_neg (by rw [z]; decide)] at h
    exact h M hx0 zfm_rf
  refine en_X8_order _ _ M (sg_X8_order_0 _ _ M ⟨fun c => ⟨_, rfl, no (idx_ge (by omega) (Or.inl c))⟩, fun c0 => ⟨fun c => ?_, fun c => ⟨_, rfl, no (idx_ge (by omega) (Or.inr ?_))⟩⟩⟩)
  · have hid : idx a 3 = true := idx_lt (by omega) c0 fun z => by
      have z1 := Int32.le_iff_toInt_le.mp z
      have z2 := Int32.le_iff_toInt_le.mp c
      rw [show (nI 3).toInt = 3 by decide] at z1
      rw [show (2 : Int32).toInt = 2 by decide] at z2
      omega
    rw [if_pos hid] at h
    obtain ⟨k', hk', -, rfl, ck⟩ := idx_n hid
    rw [ck] at h
    refine sg_X8_order_7 _ _ _ _ M ⟨hM.1, ?_⟩
    intro v2
    rw [show v2 = nI (xk s) from fv.2.1]
    refine ⟨hM.1, ?_⟩
    intro M2
    have m2 : M2 = zuI M 1529 2 (nI k') := rfl
    clear_value M2
    have hfr2 : rfr TN (fun j => j = 2) GN M M2 := by rw [m2]; exact rfr_F rfl
    have hv2 : mvk M2 (xn s) k' := ⟨by rw [hfr2.2.2.2.2.2.2.1 1 (by omega)]; exact fv.1, by rw [m2, zI_uI, if_pos ⟨rfl, rfl⟩], by omega, n14⟩
    -- row x holds
    obtain ⟨R, hRp, hRg⟩ : ∃ R : Nat → aP, (∀ x, x < 40 → (xpl s)[x]? = some (R x)) ∧ (∀ i, i < (xgs s).length → (xgs s)[i]? = some (R (40 + i))) := ⟨fun x => if x < 40 then (xpl s).getD x [] else (xgs s).getD (x - 40) [], fun x hx4 => by
      dsimp only
      rw [if_pos hx4, List.getD_eq_getElem?_getD, List.getElem?_eq_getElem (show x < (xpl s).length by omega)]
      rfl, fun i hi => by
      dsimp only
      rw [if_neg (by omega), show 40 + i - 40 = i by omega, List.getD_eq_getElem?_getD, List.getElem?_eq_getElem hi]
      rfl⟩
    have row : ∀ x, x < 40 + (xgs s).length → qdy M x (R x) ∧ pgd (xn s) (xk s) (R x) := fun x hxl => by
      by_cases hx4 : x < 40
      · exact ⟨hP x _ (hRp x hx4), pg _ (List.mem_of_getElem? (hRp x hx4))⟩
      · have hu := hRg (x - 40) (by omega)
        rw [show 40 + (x - 40) = x by omega] at hu
        have hq := hGs (x - 40) _ hu
        rw [show 40 + (x - 40) = x by omega] at hq
        exact ⟨hq, gg _ (List.mem_of_getElem? hu)⟩
    have loop : ∀ (n x : Nat) (M' : zM) (o1 : Option Value), x + n = 40 + (xgs s).length → rfr (fun y => y < 40 + (xgs s).length) FF GN M2 M' → (∀ y, y < x → qdy M' y (asrt k' (R y) [])) → (∀ y, x ≤ y → y < 40 + (xgs s).length → qdy M' y (R y)) → wX8_order d (fun r M2 => ∃ x : Int32, r = [.int x] ∧ P x M2) 15 [some (.ref 1529), o1, some (.int (nI (xk s))), some (.int (nI x))] [] M' := by
      intro n
      induction n with
      | zero =>
        intro x M' o1 hxn hfr hdone hrest
        have hfa : rfr (fun y => y < 40 + (xgs s).length) (fun j => FF j ∨ j = 2) GN M M' := rfr_tr (rfr_up hfr2 (fun _ z => z.elim) (fun _ z => Or.inr z) (fun _ z => z)) (rfr_up hfr (fun _ z => z) (fun _ z => Or.inl z) (fun _ z => z))
        have hM' := mst_fr hfa hM
        have F' : ∀ j, ¬ (FF j ∨ j = 2) → zI M' 1529 j = zI M 1529 j := fun j hj => hfa.2.2.2.2.2.2.1 j hj
        refine sg_X8_order_15 _ _ _ _ _ ⟨hM'.1, fun _ => ⟨hM'.1, Or.inl rfl, ?_⟩, fun z => absurd (by rw [F' 7 (by unfold FF; omega), f7, show (40 : Int32) + nI (xgs s).length = nI (40 + (xgs s).length) from nI_add 40 _, show x = 40 + (xgs s).length by omega]; exact Int32.le_refl _) z⟩
        intro M3
        have m3 : M3 = zuI M' 1529 9 0 := rfl
        clear_value M3
        have hfr3 : rfr TN (fun j => j = 9) GN M' M3 := by rw [m3]; exact rfr_F rfl
        have F3 : ∀ j, j ≠ 9 → zI M3 1529 j = zI M' 1529 j := fun j hj => hfr3.2.2.2.2.2.2.1 j hj
        have D3 : ∀ j, zI M3 1534 j = zI M 1534 j := fun j => by
          rw [hfr3.2.2.2.2.2.1 1534 j (Or.inr ⟨by omega, fun z => z⟩), hfa.2.2.2.2.2.1 1534 j (Or.inr ⟨by omega, fun z => z⟩)]
        refine ⟨_, rfl, h M3 ⟨⟨mst_fr hfr3 hM', ⟨n14, by show k' ≤ 2; omega, ⟨?_, fun L hL => ?_⟩, ⟨?_, fun L hL => ?_⟩, fun z => (by cases z), fun z => (by cases z)⟩⟩, ⟨?_, ⟨?_, ?_, by show k' ≤ 2; omega, n14⟩, ?_, ?_, fun z => (by cases z)⟩, fun j L hj => ?_, fun j L hj => ?_, fun z => (by cases z), ⟨?_, ?_, ?_, ?_⟩, fun z => (by cases z)⟩ (zfm_tr (zfm_of hfa) (zfm_of hfr3))⟩
        · show ((xpl s).map _).length = 40
          rw [List.length_map]; exact pl
        · obtain ⟨L0, h1, rfl⟩ := List.mem_map.mp (show L ∈ (xpl s).map _ from hL)
          exact asrt_gd (pg L0 h1)
        · show ((xgs s).map _).length ≤ 8
          rw [List.length_map]; exact gl2
        · obtain ⟨L0, h1, rfl⟩ := List.mem_map.mp (show L ∈ (xgs s).map _ from hL)
          exact asrt_gd (gg L0 h1)
        · rw [F3 _ (by omega), F' _ (by unfold FF; omega)]; exact f0
        · rw [F3 _ (by omega), F' _ (by unfold FF; omega)]; exact fv.1
        · rw [F3 _ (by omega), hfr.2.2.2.2.2.2.1 2 (by unfold FF; omega)]; exact hv2.2.1
        · rw [F3 _ (by omega), F' _ (by unfold FF; omega), f7]
          show _ = nI ((xgs s).map _).length
          rw [List.length_map]
        · rw [m3, zI_uI, if_pos ⟨rfl, rfl⟩]; rfl
        · have hj : ((xpl s).map fun L => asrt k' L [])[j]? = some L := hj
          rw [List.getElem?_map] at hj
          cases hu : (xpl s)[j]? with
          | none => rw [hu] at hj; cases hj
          | some L0 =>
            rw [hu] at hj
            cases hj
            have hjl := (List.getElem?_eq_some_iff.mp hu).1
            have hgd := pg L0 (List.mem_of_getElem? hu)
            have e : L0 = R j := by
              have := hRp j (by omega)
              rw [hu] at this
              exact Option.some.inj this
            refine qdy_fr hfr3 (fun z => z) (asrt_pok (k' := k') hgd.1).2.2 ?_
            rw [e]
            exact hdone j (by omega)
        · have hj : ((xgs s).map fun L => asrt k' L [])[j]? = some L := hj
          rw [List.getElem?_map] at hj
          cases hu : (xgs s)[j]? with
          | none => rw [hu] at hj; cases hj
          | some L0 =>
            rw [hu] at hj
            cases hj
            have hjl := (List.getElem?_eq_some_iff.mp hu).1
            have hgd := gg L0 (List.mem_of_getElem? hu)
            have e : L0 = R (40 + j) := by
              have := hRg j (by omega)
              rw [hu] at this
              exact Option.some.inj this
            refine qdy_fr hfr3 (fun z => z) (asrt_pok (k' := k') hgd.1).2.2 ?_
            rw [e]
            exact hdone (40 + j) (by omega)
        · rw [D3]; exact d0
        · rw [D3]; exact d1
        · rw [D3]; exact d2
        · rw [D3]; exact d3
      | succ n ih =>
        intro x M' o1 hxn hfr hdone hrest
        have hfa : rfr (fun y => y < 40 + (xgs s).length) (fun j => FF j ∨ j = 2) GN M M' := rfr_tr (rfr_up hfr2 (fun _ z => z.elim) (fun _ z => Or.inr z) (fun _ z => z)) (rfr_up hfr (fun _ z => z) (fun _ z => Or.inl z) (fun _ z => z))
        have hM' := mst_fr hfa hM
        have hv' := mvk_fr hfr (by unfold FF; omega) (by unfold FF; omega) hv2
        obtain ⟨hq, hgd⟩ := row x (by omega)
        refine sg_X8_order_15 _ _ _ _ _ ⟨hM'.1, fun z => ?_, fun _ => ⟨hM'.1, ?_⟩⟩
        · rw [hfa.2.2.2.2.2.2.1 7 (by unfold FF; omega), f7, show (40 : Int32) + nI (xgs s).length = nI (40 + (xgs s).length) from nI_add 40 _] at z
          have := (nI_leI (by omega) (by omega)).mp z
          omega
        · refine sp_rsorted (k0 := xk s) (by omega) hM' hv' (by omega) (hrest x (Nat.le_refl _) (by omega)) hgd.1 hgd.2.1 fun M3 hfr3 _ hq3 => ?_
          intro v3
          rw [show v3 = nI (x + 1) from nI_1 x]
          refine ih (x + 1) M3 _ (by omega) (rfr_tr hfr (rfr_up hfr3 (fun y z => by omega) (fun _ z => z) (fun _ z => z))) (fun y hy => ?_) (fun y hy1 hy2 => qdy_fr hfr3 (by omega) (row y hy2).2.1.2.2 (hrest y (by omega) hy2))
          by_cases hyx : y = x
          · rw [hyx]
            exact hq3
          · exact qdy_fr hfr3 hyx (asrt_pok (k' := k') (row y (by omega)).2.1).2.2 (hdone y (by omega))
    exact loop (40 + (xgs s).length) 0 M2 _ (by omega) rfr_rf (fun y hy => absurd hy (Nat.not_lt_zero _)) fun y _ hy2 => qdy_fr hfr2 (fun z => z) (row y hy2).2.1.2.2 (row y hy2).1
  · exact Int32.le_iff_toInt_le.mpr (by
      have c : ¬ a.toInt ≤ (2 : Int32).toInt := fun z => c (Int32.le_iff_toInt_le.mpr z)
      rw [show (2 : Int32).toInt = 2 by decide] at c
      rw [show (nI 3).toInt = 3 by decide]
      omega)
theorem rX_gen {M M' : zM} {s : aX} {gs : List aP} (hx : rX M s) (h : rfr (fun x => x = 40 + (xgs s).length) (fun j => j = 7 ∨ j = 9) GN M M') (h9 : zI M' 1529 9 = 0) (h7 : zI M' 1529 7 = nI gs.length) (hl : gs.length ≤ 8) (hk : ∀ L ∈ gs, pgd (xn s) (xk s) L) (hq : ∀ (i : Nat) (L : aP), gs[i]? = some L → qdy M' (40 + i) L) : rX M' (xgen s gs) := by
  obtain ⟨⟨hM, hg⟩, ⟨f0, fv, f7, f9, f8⟩, hP, hGs, hE, ⟨d0, d1, d2, d3⟩, hQ⟩ := hx
  obtain ⟨n14, kk2, ⟨pl, pg⟩, ⟨gl2, gg⟩, eg, qg⟩ := hg
  have D : ∀ j, zI M' 1534 j = zI M 1534 j := fun j => h.2.2.2.2.2.1 1534 j (Or.inr ⟨by omega, fun z => z⟩)
  exact ⟨⟨mst_fr h hM, n14, kk2, ⟨pl, pg⟩, ⟨hl, hk⟩, fun z => (by cases z), fun z => (by cases z)⟩, ⟨by rw [h.2.2.2.2.2.2.1 0 (by omega)]; exact f0, mvk_fr h (by omega) (by omega) fv, h7, h9, fun z => (by cases z)⟩, fun i L hi => qdy_fr h (by have : i < (xpl s).length := (List.getElem?_eq_some_iff.mp hi).1; omega) (pg L (List.mem_of_getElem? hi)).1.2.2 (hP i L hi), hq, fun z => (by cases z), ⟨by rw [D]; exact d0, by rw [D]; exact d1, by rw [D]; exact d2, by rw [D]; exact d3⟩, fun z => (by cases z)⟩
theorem cR_clear {d : Nat} {M : zM} {s : aX} {P : Int32 → zM → Prop} (hd : 10 ≤ d) (hx : rX M s) (h : rres (A_clear s) M P) : ycI d nX8_clear [.ref 1529] M P := by
  obtain ⟨d, rfl, he⟩ := dS hd
  have s16 := hx.1.1.1
  refine en_X8_clear _ M (sg_X8_clear_0 _ M ⟨s16, ?_⟩)
  intro v1
  rw [show v1 = nI (xgs s).length from hx.2.1.2.2.1]
  refine ⟨s16, ?_⟩
  intro M2
  refine ⟨s16, Or.inl rfl, ?_⟩
  intro M3
  have m2 : M2 = zuI M 1529 7 0 := rfl
  have m3 : M3 = zuI M2 1529 9 0 := rfl
  clear_value M2 M3
  have hfr : rfr (fun x => x = 40 + (xgs s).length) (fun j => j = 7 ∨ j = 9) GN M M3 := by rw [m3, m2]; exact rfr_tr (rfr_F (Or.inl rfl)) (rfr_F (Or.inr rfl))
  exact ⟨_, rfl, h M3 (rX_gen hx hfr (by rw [m3, zI_uI, if_pos ⟨rfl, rfl⟩]) (by rw [m3, zI_uI, if_neg (by omega), m2, zI_uI, if_pos ⟨rfl, rfl⟩]; rfl) (Nat.zero_le _) (fun L hL => absurd hL List.not_mem_nil) (fun i L hi => by cases hi)) (zfm_of hfr)⟩
theorem cR_generator {d : Nat} {M : zM} {s : aX} {p : Int32} {P : Int32 → zM → Prop} (hd : 10 ≤ d) (hx : rX M s) (h : rres (A_generator s p) M P) : ycI d nX8_generator [.ref 1529, .int p] M P := by
  obtain ⟨d, rfl, he⟩ := dS hd
  unfold A_generator at h
  have hM := hx.1.1
  have f7 := hx.2.1.2.2.1
  have gl := hx.1.2.2.2.2.1.1
  refine en_X8_generator _ _ M (sg_X8_generator_0 _ _ M (sp_rplace (by omega) (fun hp => ⟨fun _ => ?_, fun z => absurd (Classical.not_not.mp z) (by decide)⟩) (fun hp => ⟨fun z => absurd rfl z, fun _ => ⟨_, rfl, ?_⟩⟩)))
  · rw [if_pos hp] at h
    obtain ⟨i, hi, -, rfl, ci⟩ := idx_n (n := 40) hp
    obtain ⟨qi, gi⟩ := rX_at hx hi
    refine sg_X8_generator_5 _ _ M ⟨hM.1, fun c => ⟨hM.1, hM.1, ?_⟩, fun c => ⟨_, rfl, ?_⟩⟩
    · have c : (xgs s).length ≠ 8 := fun z => c (by rw [f7, z]; rfl)
      rw [if_neg (by omega)] at h
      rw [f7, show (40 : Int32) + nI (xgs s).length = nI (40 + (xgs s).length) from nI_add 40 _]
      refine sp_rcopy (by omega) hM (by omega) (by omega) (by omega) qi gi.1.2.2 fun M1 hfr1 hq1 => ?_
      have hM1 := mst_fr hfr1 hM
      refine ⟨hM1.1, hM1.1, ?_⟩
      intro M2
      refine ⟨hM1.1, Or.inl rfl, ?_⟩
      intro M3
      have m2 : M2 = zuI M1 1529 7 (nI ((xgs s).length + 1)) := by rw [show M2 = zuI M1 1529 7 (zI M1 1529 7 + 1) from rfl, hfr1.2.2.2.2.2.2.1 7 (fun z => z), f7, nI_1]
      have m3 : M3 = zuI M2 1529 9 0 := rfl
      clear_value M2 M3
      have h7 : zI M3 1529 7 = nI ((xgs s).length + 1) := by rw [m3, zI_uI, if_neg (by omega), m2, zI_uI, if_pos ⟨rfl, rfl⟩]
      have hfr23 : rfr TN (fun j => j = 7 ∨ j = 9) GN M1 M3 := by rw [m3, m2]; exact rfr_tr (rfr_F (Or.inl rfl)) (rfr_F (Or.inr rfl))
      have hfr : rfr (fun x => x = 40 + (xgs s).length) (fun j => j = 7 ∨ j = 9) GN M M3 := rfr_tr (rfr_up hfr1 (fun _ z => z) (fun _ z => z.elim) (fun _ z => z)) (rfr_up hfr23 (fun _ z => z.elim) (fun _ z => z) (fun _ z => z))
      refine ⟨hM1.1, _, rfl, ?_⟩
      rw [h7, nI_pred]
      refine h M3 (rX_gen hx hfr (by rw [m3, zI_uI, if_pos ⟨rfl, rfl⟩]) (by rw [h7, List.length_append]; rfl) (by rw [List.length_append]; simp; omega) (fun L hL => ?_) fun j L hj => ?_) (zfm_of hfr)
      · rcases List.mem_append.mp hL with hL | hL
        · exact hx.1.2.2.2.2.1.2 L hL
        · rw [List.mem_singleton.mp hL]; exact gi
      · by_cases hjl : j < (xgs s).length
        · rw [List.getElem?_append_left hjl] at hj
          exact qdy_fr hfr (by omega) (hx.1.2.2.2.2.1.2 L (List.mem_of_getElem? hj)).1.2.2 (hx.2.2.2.1 j L hj)
        · rw [List.getElem?_append_right (by omega)] at hj
          have hj0 : j - (xgs s).length = 0 := by
            have := (List.getElem?_eq_some_iff.mp hj).1
            simp at this
            omega
          rw [hj0] at hj
          cases hj
          rw [show j = (xgs s).length by omega]
          exact qdy_fr hfr23 (fun z => z) gi.1.2.2 hq1
    · have c : (xgs s).length = 8 := by
        have c := Classical.not_not.mp c
        rw [f7] at c
        exact (nI_eq (b := 8) (by omega) (by omega)).mp c
      rw [if_pos (by omega)] at h
      exact h M hx zfm_rf
  · rw [if_neg (by rw [hp]; decide)] at h
    exact h M hx zfm_rf
theorem cR_done {d : Nat} {M : zM} {s : aX} {w : Int32} {P : Int32 → zM → Prop} (hd : 10 ≤ d) (hx : rX M s) (h : rres (A_done s w) M P) : ycI d nX8_done [.ref 1529, .int w] M P := by
  obtain ⟨d, rfl, he⟩ := dS hd
  unfold A_done at h
  obtain ⟨s16, ⟨-, -, -, -, r15, -⟩, -, s4, -⟩ := id hx.1.1
  obtain ⟨d0, d1, d2, d3⟩ := hx.2.2.2.2.2.1
  have no : (w.toInt < 0 ∨ 3 < w.toInt) → P (-2) M := fun z => by
    rw [if_neg (by omega), if_neg (by omega), if_neg (by omega), if_neg (by omega)] at h
    exact h M hx zfm_rf
  refine en_X8_done _ _ M (sg_X8_done_0 _ _ M ⟨fun c => ⟨_, rfl, no (Or.inl ?_)⟩, fun c => ⟨fun c2 => ?_, fun c2 => ⟨_, rfl, no (Or.inr ?_)⟩⟩⟩)
  · have c := Int32.lt_iff_toInt_lt.mp c
    rw [Int32.toInt_zero] at c
    exact c
  · have c : ¬ w.toInt < 0 := fun z => c (Int32.lt_iff_toInt_lt.mpr (by rw [Int32.toInt_zero]; exact z))
    have c2 := Int32.le_iff_toInt_le.mp c2
    rw [show (3 : Int32).toInt = 3 by decide] at c2
    have cw : w.toNatClampNeg = w.toInt.toNat := rfl
    refine ⟨s16, by rw [r15, s4], by rw [r15, s4]; exact zin_iff.mpr ⟨by omega, by omega⟩, _, rfl, ?_⟩
    rw [r15, cw]
    by_cases w0 : w.toInt = 0
    · rw [if_pos w0] at h
      rw [w0]
      show P (zI M 1534 0) M
      rw [d0]
      exact h M hx zfm_rf
    · by_cases w1 : w.toInt = 1
      · rw [if_neg w0, if_pos w1] at h
        rw [w1]
        show P (zI M 1534 1) M
        rw [d1]
        exact h M hx zfm_rf
      · by_cases w2 : w.toInt = 2
        · rw [if_neg w0, if_neg w1, if_pos w2] at h
          rw [w2]
          show P (zI M 1534 2) M
          rw [d2]
          exact h M hx zfm_rf
        · have w3 : w.toInt = 3 := by omega
          rw [if_neg w0, if_neg w1, if_neg w2, if_pos w3] at h
          rw [w3]
          show P (zI M 1534 3) M
          rw [d3]
          exact h M hx zfm_rf
  · have c2 : ¬ w.toInt ≤ (3 : Int32).toInt := fun z => c2 (Int32.le_iff_toInt_le.mpr z)
    rw [show (3 : Int32).toInt = 3 by decide] at c2
    omega
/-- a row into a place -/
theorem rX_take {M M1 : zM} {s : aX} {r : Nat} {L : aP} {P : Int32 → zM → Prop} (hx : rX M s) (hr : r < 40) (hL : pgd (xn s) (xk s) L) (hfr : rfr (fun x => x = r) FN GN M M1) (hq : qdy M1 r L) (h : rres (nI L.length, xput s (nI r) L) M P) : (zsh M1 1529).1 = 16 ∧ ((zsh M1 (zR M1 1529 6)).1 = 2 ∧ (zin (nI r) (zsh M1 (zR M1 1529 6)).2 ∧ ∃ x : Int32, [Value.int (zI M1 (zR M1 1529 6) (nI r).toNatClampNeg)] = [.int x] ∧ P x M1)) := by
  have hM1 := mst_fr hfr hx.1.1
  obtain ⟨s16, ⟨r3, r4, r5, r6, -⟩, ⟨k0, k1, k2, k3⟩, -⟩ := id hM1
  refine ⟨s16, by rw [r6, k3], by rw [r6, k3]; exact zin_n (by omega) (by omega), _, rfl, ?_⟩
  rw [r6, cl_n (by omega), hq.1]
  exact h M1 (rX_put hfr FN_11 (fun z => z) hr hq hL hx) (zfm_of hfr)
theorem rX_el {M : zM} {s : aX} {i : Nat} (hx : rX M s) (hh : xhs s = true) (hi : i < (xes s).length) : rel1 M 50 (xgs s).length i (xel s (nI i)) ∧ bgd (xn s) (xk s) (xel s (nI i)).1 ∧ (xel s (nI i)).2.length = (xgs s).length ∧ ∀ c ∈ (xel s (nI i)).2, pgd (xn s) (xk s) c := by
  have hl := (hx.1.2.2.2.2.2.1 hh).2.1
  have hu := List.getElem?_eq_getElem hi
  have e : xel s (nI i) = (xes s)[i] := by
    unfold xel
    rw [cl_n (by omega), List.getD_eq_getElem?_getD, hu]
    rfl
  rw [e]
  exact ⟨hx.2.2.2.2.1 hh i _ hu, (hx.1.2.2.2.2.2.1 hh).1 _ (List.getElem_mem hi)⟩
theorem cR_element {d : Nat} {M : zM} {s : aX} {i r : Int32} {P : Int32 → zM → Prop} (hd : 10 ≤ d) (hx : rX M s) (h : rres (A_element s i r) M P) : ycI d nX8_element [.ref 1529, .int i, .int r] M P := by
  obtain ⟨d, rfl, he⟩ := dS hd
  unfold A_element at h
  have hM := hx.1.1
  have f9 := hx.2.1.2.2.2.1
  refine en_X8_element _ _ _ M (sg_X8_element_0 _ _ _ M ⟨hM.1, fun c => ?_, fun c => ⟨_, rfl, ?_⟩⟩)
  · have hh : xhs s = true := eB_1.mp (by rw [← f9]; exact c)
    rw [if_pos hh] at h
    have hl := (hx.1.2.2.2.2.2.1 hh).2.1
    have f8 := (hx.2.1.2.2.2.2 hh).1
    have no : ¬ (idx i (xes s).length = true ∧ ipl r = true) → P (-1) M := fun z => by
      rw [if_neg z] at h
      exact h M hx zfm_rf
    refine ⟨fun c0 => ⟨_, rfl, no fun z => by rw [idx_ge (by omega) (Or.inl c0)] at z; exact absurd z.1 (by decide)⟩, fun c0 => ⟨hM.1, fun c1 => ⟨_, rfl, no fun z => by rw [idx_ge (by omega) (Or.inr (by rw [f8] at c1; exact c1))] at z; exact absurd z.1 (by decide)⟩, fun c1 => ?_⟩⟩
    have hid : idx i (xes s).length = true := idx_lt (by omega) c0 (by rw [f8] at c1; exact c1)
    refine sp_rplace (by omega) (fun hr => ⟨fun _ => ?_, fun z => absurd (Classical.not_not.mp z) (by decide)⟩) (fun hr => ⟨fun z => absurd rfl z, fun _ => ⟨_, rfl, no fun z => by rw [hr] at z; exact absurd z.2 (by decide)⟩⟩)
    rw [if_pos ⟨hid, hr⟩] at h
    obtain ⟨j, hj, -, rfl, cj⟩ := idx_n hid
    obtain ⟨l, hl', -, rfl, cl⟩ := idx_n (n := 40) hr
    obtain ⟨e1, e2, e3, e4⟩ := rX_el hx hh hj
    refine sg_X8_element_16 _ _ _ M ⟨hM.1, ?_⟩
    rw [show (50 : Int32) + nI j = nI (50 + j) from nI_add 50 j]
    exact sp_rcopy (by omega) hM (by omega) (by omega) (by omega) e1.1 e2.1.1.2.2 fun M1 hfr1 hq1 => rX_take hx hl' e2.1 hfr1 hq1 h
  · have hh : xhs s = false := eB_0.mp (by rw [← f9]; exact Classical.not_not.mp c)
    rw [if_neg (by rw [hh]; decide)] at h
    exact h M hx zfm_rf
theorem cR_share {d : Nat} {M : zM} {s : aX} {i g r : Int32} {P : Int32 → zM → Prop} (hd : 10 ≤ d) (hx : rX M s) (h : rres (A_share s i g r) M P) : ycI d nX8_share [.ref 1529, .int i, .int g, .int r] M P := by
  obtain ⟨d, rfl, he⟩ := dS hd
  unfold A_share at h
  have hM := hx.1.1
  have f9 := hx.2.1.2.2.2.1
  have f7 := hx.2.1.2.2.1
  have gl := hx.1.2.2.2.2.1.1
  refine en_X8_share _ _ _ _ M (sg_X8_share_0 _ _ _ _ M ⟨hM.1, fun c => ?_, fun c => ⟨_, rfl, ?_⟩⟩)
  · have hh : xhs s = true := eB_1.mp (by rw [← f9]; exact c)
    rw [if_pos hh] at h
    have hl := (hx.1.2.2.2.2.2.1 hh).2.1
    have f8 := (hx.2.1.2.2.2.2 hh).1
    have no : ¬ (idx i (xes s).length = true ∧ idx g (xgs s).length = true ∧ ipl r = true) → P (-1) M := fun z => by
      rw [if_neg z] at h
      exact h M hx zfm_rf
    refine ⟨fun c0 => ⟨_, rfl, no fun z => by rw [idx_ge (by omega) (Or.inl c0)] at z; exact absurd z.1 (by decide)⟩, fun c0 => ⟨hM.1, fun c1 => ⟨_, rfl, no fun z => by rw [idx_ge (by omega) (Or.inr (by rw [f8] at c1; exact c1))] at z; exact absurd z.1 (by decide)⟩, fun c1 => ?_⟩⟩
    have hid : idx i (xes s).length = true := idx_lt (by omega) c0 (by rw [f8] at c1; exact c1)
    refine ⟨fun c0 => ⟨_, rfl, no fun z => by rw [idx_ge (n := (xgs s).length) (by omega) (Or.inl c0)] at z; exact absurd z.2.1 (by decide)⟩, fun c0 => ⟨hM.1, fun c1 => ⟨_, rfl, no fun z => by rw [idx_ge (n := (xgs s).length) (by omega) (Or.inr (by rw [f7] at c1; exact c1))] at z; exact absurd z.2.1 (by decide)⟩, fun c1 => ?_⟩⟩
    have hid2 : idx g (xgs s).length = true := idx_lt (by omega) c0 (by rw [f7] at c1; exact c1)
    refine sp_rplace (by omega) (fun hr => ⟨fun _ => ?_, fun z => absurd (Classical.not_not.mp z) (by decide)⟩) (fun hr => ⟨fun z => absurd rfl z, fun _ => ⟨_, rfl, no fun z => by rw [hr] at z; exact absurd z.2.2 (by decide)⟩⟩)
    rw [if_pos ⟨hid, hid2, hr⟩] at h
    obtain ⟨j, hj, -, rfl, cj⟩ := idx_n hid
    obtain ⟨q, hq, -, rfl, cq⟩ := idx_n hid2
    obtain ⟨l, hl', -, rfl, cl⟩ := idx_n (n := 40) hr
    rw [cq] at h
    obtain ⟨e1, e2, e3, e4⟩ := rX_el hx hh hj
    have hgd := getD_gd e4 q
    refine sg_X8_share_22 _ _ _ _ M ⟨hM.1, sp_rcof (by omega) ⟨hM.1, ?_⟩⟩
    exact sp_rcopy (by omega) hM (by omega) (by omega) (by omega) (e1.2 q hq) hgd.1.2.2 fun M1 hfr1 hq1 => rX_take hx hl' hgd hfr1 hq1 h
  · have hh : xhs s = false := eB_0.mp (by rw [← f9]; exact Classical.not_not.mp c)
    rw [if_neg (by rw [hh]; decide)] at h
    exact h M hx zfm_rf
