/-! the reference: one element reduced by the others -/
def rwk2 (M : zM) (fo sh nv k lim : Nat) (es : List aE) (n : Nat) : Prop := (zI M 1529 19 = nI fo ∧ zI M 1529 20 = nI es.length ∧ zI M 1529 21 = -1 ∧ rsh M sh) ∧ (zI M 1529 13 = nI (lim - n) ∧ zI M 1529 14 = nI lim ∧ n ≤ lim ∧ lim ≤ 20000) ∧ es.length ≤ 24 ∧ rel M fo sh es ∧ egd nv k sh es
def FR (j : Nat) : Prop := FD j ∨ j = 21
theorem acome_tail {k : Nat} {m : aM} {l : aP} : acome k ((-1, 1), m) (((1, 1), m) :: l) = some l := by
  have hp : apos k m (((1, 1), m) :: l) = 0 := by
    unfold apos
    rw [if_neg (by dsimp only; omega)]
  unfold acome
  rw [show ((((-1, 1), m) : aT)).2 = m from rfl, hp, List.getElem?_cons_zero]
  dsimp only
  rw [if_pos rfl, show afsum (1, 1) (-1, 1) = some (0, 1) from rfl]
  rfl
theorem sp_rcomesP {d nv k p : Nat} {M : zM} {L : aP} {m : aM} {P : zM → Prop} (hd : 4 ≤ d) (hM : mst M) (hv : mvk M nv k) (hp : p < 372) (hL : qdy M p L) (hk : pok k L) (hin : pvn nv L) (hm : mok m) (hit : vin nv m) (hf : zI M 1529 11 = 0) (h1 : ∀ L' M', acome k ((1, 1), m) L = some L' → rfr (fun x => x = p) FF GN M M' → zI M' 1529 11 = 0 → qdy M' p L' → P M') (h0 : ∀ M', acome k ((1, 1), m) L = none → rfr (fun x => x = p) FF GN M M' → zI M' 1529 11 = 1 → qdy M' p L → P M') : ycV d nX8_comes [.ref 1529, .int (nI p), .int 1, .int 1, .int (e5 m)] M P := sp_rcomes (t := ((1, 1), m)) hd hM hv hp hL hk hin ⟨fok_1, (by decide : (1 : Int) ≠ 0), hm⟩ hit hf h1 h0
theorem sp_rcomesN {d nv k p : Nat} {M : zM} {L : aP} {m : aM} {P : zM → Prop} (hd : 4 ≤ d) (hM : mst M) (hv : mvk M nv k) (hp : p < 372) (hL : qdy M p L) (hk : pok k L) (hin : pvn nv L) (hm : mok m) (hit : vin nv m) (hf : zI M 1529 11 = 0) (h1 : ∀ L' M', acome k ((-1, 1), m) L = some L' → rfr (fun x => x = p) FF GN M M' → zI M' 1529 11 = 0 → qdy M' p L' → P M') (h0 : ∀ M', acome k ((-1, 1), m) L = none → rfr (fun x => x = p) FF GN M M' → zI M' 1529 11 = 1 → qdy M' p L → P M') : ycV d nX8_comes [.ref 1529, .int (nI p), .int (-1), .int 1, .int (e5 m)] M P := sp_rcomes (t := ((-1, 1), m)) hd hM hv hp hL hk hin ⟨fok_m1, (by decide : (-1 : Int) ≠ 0), hm⟩ hit hf h1 h0
theorem rel_set {M : zM} {fo sh e : Nat} {es : List aE} {E' : aE} (he : e < es.length) (h1 : ∀ (i : Nat) (E : aE), i ≠ e → es[i]? = some E → rel1 M fo sh i E) (h2 : rel1 M fo sh e E') : rel M fo sh (es.set e E') := fun i E hE => by
  by_cases hi : i = e
  · rw [hi, List.getElem?_set_self he] at hE
    cases hE
    rw [hi]
    exact h2
  · rw [List.getElem?_set_ne (Ne.symm hi)] at hE
    exact h1 i E hi hE
theorem egd_set {nv k sh e : Nat} {es : List aE} {E' : aE} (h : egd nv k sh es) (h2 : bgd nv k E'.1 ∧ E'.2.length = sh ∧ ∀ c ∈ E'.2, pgd nv k c) : egd nv k sh (es.set e E') := fun E hE => by
  rcases List.mem_or_eq_of_mem_set hE with hE | hE
  · exact h E hE
  · rw [hE]; exact h2
theorem ald_set {es : List aE} {e : Nat} {E : aE} (he : e < es.length) (h : lmon E.1 = ald es e) : ∀ j, ald (es.set e E) j = ald es j := fun j => by
  by_cases hj : j = e
  · subst hj
    rw [← h]
    unfold ald
    rw [List.getD_eq_getElem?_getD, List.getElem?_set_self he]
    rfl
  · unfold ald
    rw [List.getD_eq_getElem?_getD, List.getElem?_set_ne (Ne.symm hj), List.getD_eq_getElem?_getD]
theorem sp_rreduce {d fo sh nv k lim n e : Nat} {M : zM} {es : List aE} {P : zM → Prop} (hd : 7 ≤ d) (hM : mst M) (hv : mvk M nv k) (hf2 : 40 ≤ fo ∧ fo + 25 ≤ 100) (hw : rwk2 M fo sh nv k lim es n) (hel : e < es.length) (hz : zI M 1529 11 = 0) (hs : zI M 1529 12 = 0)
    (h : ∀ M', rfr (TM fo sh) FR GN M M' → zI M' 1529 13 = nI (lim - (ared k sh es n e).2.2) → (ared k sh es n e).2.2 ≤ lim → rfl3 M' (ared k sh es n e).1 → ((ared k sh es n e).1 = 0 → rwk2 M' fo sh nv k lim (ared k sh es n e).2.1 (ared k sh es n e).2.2 ∧ ∀ j, ald (ared k sh es n e).2.1 j = ald es j) → P M') : ycV d nX8_reduce [.ref 1529, .int (nI e)] M P := by
  obtain ⟨d, rfl, he⟩ := dS hd
  obtain ⟨⟨w19, w20, w21, wsh⟩, ⟨w13, w14, wn, wl⟩, wlen, wr, wg⟩ := id hw
  have hs8 := wsh.1
  have hnn : lim - (lim - n) = n := by omega
  obtain ⟨l, cs, hE, hm, hmv⟩ := egd_ld wg hel
  have hgd : es.getD e aE0 = (((1, 1), ald es e) :: l, cs) := by rw [List.getD_eq_getElem?_getD, hE]; rfl
  have hbg : pgd nv k (((1, 1), ald es e) :: l) := (wg _ (List.mem_of_getElem? hE)).1.1
  have hqE : qdy M (fo + e) (((1, 1), ald es e) :: l) := (wr e _ hE).1
  have has : ared k sh es n e = if (adiv k (es.map Prod.fst) (some e) n l [] (List.replicate es.length [])).1 = 0 then
    (match omp (fun kk => als k true kk es (adiv k (es.map Prod.fst) (some e) n l [] (List.replicate es.length [])).2.2.2 (acof es e kk) es.length) sh with
    | none => (2, es, (adiv k (es.map Prod.fst) (some e) n l [] (List.replicate es.length [])).2.1)
    | some cs => match acome k ((1, 1), ald es e) (adiv k (es.map Prod.fst) (some e) n l [] (List.replicate es.length [])).2.2.1 with
      | none => (2, es, (adiv k (es.map Prod.fst) (some e) n l [] (List.replicate es.length [])).2.1)
      | some b => (0, es.set e (b, cs), (adiv k (es.map Prod.fst) (some e) n l [] (List.replicate es.length [])).2.1))
    else ((adiv k (es.map Prod.fst) (some e) n l [] (List.replicate es.length [])).1, es, (adiv k (es.map Prod.fst) (some e) n l [] (List.replicate es.length [])).2.1) := by
    unfold ared
    rw [hgd]
    rfl
  have hhd : ∀ u ∈ l, ark k u.2 < ark k (ald es e) := fun u hu => by
    have := pok_head hbg.1 u hu
    dsimp only at this
    exact this
  have hlt := adiv_lt (k := k) (N := ark k (ald es e)) (bs := es.map Prod.fst) (lo := some e) (fun b hb => by
    obtain ⟨E, hE, rfl⟩ := List.mem_map.mp hb
    obtain ⟨g1, m2, l2, g2⟩ := (wg E hE).1
    exact ⟨g1.1, by rw [g2]; simp⟩) n l [] (List.replicate es.length []) (srt_tail hbg.1) hhd (fun t ht => absurd ht List.not_mem_nil)
  generalize hm' : ald es e = m at hm hmv hE hgd hbg hqE has hlt
  generalize ared k sh es n e = st at h has
  obtain ⟨s16, ⟨r3, r4, r5, r6, -⟩, ⟨k0, k1, k2, k3⟩, -⟩ := id hM
  have cx := cl_n (n := 100 * (fo + e)) (by omega)
  have zx : zin (nI (100 * (fo + e))) 37200 := zin_n (by omega) (by omega)
  obtain ⟨g0, g1, g2⟩ := hqE.2 0 _ rfl
  -- shares
  have s65 : ∀ (dv : Nat × Nat × aP × List aP) (b : aP) (MB : zM), (∀ q ∈ dv.2.2.2, pgd nv k q) → (∀ i, i < 25 → qdy MB (100 + i) (dv.2.2.2.getD i [])) → (omp (fun kk => als k true kk es dv.2.2.2 (acof es e kk) es.length) sh = none → st = (2, es, dv.2.1)) → (∀ cs, omp (fun kk => als k true kk es dv.2.2.2 (acof es e kk) es.length) sh = some cs → st = (0, es.set e (b, cs), dv.2.1)) → bgd nv k b → lmon b = ald es e → dv.2.1 ≤ lim → rfr (TM fo sh) FR GN M MB → zI MB 1529 13 = nI (lim - dv.2.1) → zI MB 1529 12 = 0 → zI MB 1529 21 = -1 → (∀ (i : Nat) (E : aE), i ≠ e → es[i]? = some E → rel1 MB fo sh i E) → qdy MB (fo + e) b → (∀ g, g < sh → qdy MB (170 + 8 * e + g) (acof es e g)) → ∀ (a g : Nat) (pre : List aP) (M' : zM) (o2 o3 o4 o5 o6 : Option Value), g + a = sh → rfr (fun x => (154 ≤ x ∧ x < 162) ∨ (170 + 8 * e ≤ x ∧ x < 170 + 8 * e + sh)) FF GN MB M' → zI M' 1529 11 = 0 → omp (fun kk => als k true kk es dv.2.2.2 (acof es e kk) es.length) g = some pre → (∀ c ∈ pre, pgd nv k c) → (∀ i, i < g → qdy M' (170 + 8 * e + i) (pre.getD i [])) → (∀ i, g ≤ i → i < sh → qdy M' (170 + 8 * e + i) (acof es e i)) → wX8_reduce d (fun r M2 => r = [] ∧ P M2) 65 [some (.ref 1529), some (.int (nI e)), o2, o3, o4, o5, o6, some (.int (nI g))] [] M' := by
    intro dv b MB hqg hqq hbad hgood hb hlb hdl hfrB h13 h12 h21 hoth hqb hcof a
    have hMB := mst_fr hfrB hM
    have hvB := mvk_fr hfrB (by unfold FR FD FF; omega) (by unfold FR FD FF; omega) hv
    have hrB := rsh_fr hfrB (by unfold FR FD FF; omega) (by unfold FR FD FF; omega) wsh
    have h20B : zI MB 1529 20 = nI es.length := by rw [hfrB.2.2.2.2.2.2.1 20 (by unfold FR FD FF; omega)]; exact w20
    have h19B : zI MB 1529 19 = nI fo := by rw [hfrB.2.2.2.2.2.2.1 19 (by unfold FR FD FF; omega)]; exact w19
    have h14B : zI MB 1529 14 = nI lim := by rw [hfrB.2.2.2.2.2.2.1 14 (by unfold FR FD FF; omega)]; exact w14
    have hup : ∀ M', rfr (fun x => (154 ≤ x ∧ x < 162) ∨ (170 + 8 * e ≤ x ∧ x < 170 + 8 * e + sh)) FF GN MB M' → rfr (TM fo sh) FR GN M M' := fun M' hh => rfr_tr hfrB (rfr_up hh (fun x z => by unfold TM; omega) (fun _ z => Or.inl (Or.inl z)) (fun _ z => z))
    induction a with
    | zero =>
      intro g pre M' o2 o3 o4 o5 o6 hg hfr hz1 hom hpg hpq hrest
      have hM' := mst_fr hfr hMB
      have hr1 := rsh_fr hfr (by unfold FF; omega) (by unfold FF; omega) hrB
      have F1 : ∀ j, ¬ FF j → zI M' 1529 j = zI MB 1529 j := fun j hj => hfr.2.2.2.2.2.2.1 j hj
      rw [show g = sh by omega] at hom hpq ⊢
      have hst := hgood pre hom
      have hpl := omp_len hom
      rw [hst] at h
      have hP : P M' := h M' (hup M' hfr) (by rw [F1 _ (by unfold FF; omega)]; exact h13) hdl (Or.inl ⟨rfl, hz1, by rw [F1 _ (by unfold FF; omega)]; exact h12⟩) fun _ => ⟨⟨⟨by rw [F1 _ (by unfold FF; omega)]; exact h19B, by rw [F1 _ (by unfold FF; omega), List.length_set]; exact h20B, by rw [F1 _ (by unfold FF; omega)]; exact h21, hr1⟩, ⟨by rw [F1 _ (by unfold FF; omega)]; exact h13, by rw [F1 _ (by unfold FF; omega)]; exact h14B, hdl, wl⟩, by rw [List.length_set]; exact wlen, rel_set hel (fun i E hi hiE => rel1_fr hfr (by have := (List.getElem?_eq_some_iff.mp hiE).1; omega) (fun g hg => by omega) (egd_eln wg E (List.mem_of_getElem? hiE)) (hoth i E hi hiE)) ⟨qdy_fr hfr (by omega) hb.1.1.2.2 hqb, hpq⟩, egd_set wg ⟨hb, hpl, hpg⟩⟩, ald_set hel hlb⟩
      exact sg_X8_reduce_65 _ _ _ _ _ _ _ _ _ ⟨hM'.1, fun _ => ⟨rfl, hP⟩, fun z => ⟨hM'.1, fun _ => ⟨rfl, hP⟩, fun z2 => ((rsh_end hr1).elim (fun y => absurd y z) (fun y => absurd y z2))⟩⟩
    | succ a ih =>
      intro g pre M' o2 o3 o4 o5 o6 hg hfr hz1 hom hpg hpq hrest
      have hM' := mst_fr hfr hMB
      have hr1 := rsh_fr hfr (by unfold FF; omega) (by unfold FF; omega) hrB
      obtain ⟨go1, go2⟩ := rsh_go hr1 (show g < sh by omega)
      have hpl := omp_len hom
      have hcl := fun i => (egd_cof wg e i).1.2.2
      refine sg_X8_reduce_65 _ _ _ _ _ _ _ _ _ ⟨hM'.1, fun z => absurd z go1, fun _ => ⟨hM'.1, fun z => absurd z go2, fun _ => ⟨hM'.1, fun z => absurd hz1 z, fun _ => ⟨hM'.1, sp_rcof (by omega) ⟨hM'.1, ?_⟩⟩⟩⟩⟩
      rw [show (154 : Int32) + nI g = nI (154 + g) from nI_add 154 g]
      refine sp_rcopy (by omega) hM' (by omega) (by omega) (by omega) (hrest g (Nat.le_refl _) (by omega)) (hcl g) fun M1 hfr1 hq1 => ?_
      have hM1 := mst_fr hfr1 hM'
      have hfa1 := rfr_tr hfr (rfr_up hfr1 (fun x z => Or.inl (by omega)) (fun _ z => z.elim) (fun _ z => z))
      have hv1 := mvk_fr hfa1 (by unfold FF; omega) (by unfold FF; omega) hvB
      refine ⟨hM1.1, ?_⟩
      refine sp_rless (s := true) (es := es) (qs := dv.2.2.2) (cnt := es.length) (by omega) hM1 hv1 (by omega) (by omega) (by rw [hfa1.2.2.2.2.2.2.1 20 (by unfold FF; omega)]; exact h20B) wlen (fun i hi => ⟨qdy_fr hfa1 (by omega) (getD_len (fun q hq => (hqg q hq).1) i).2.2 (hqq i (by omega)), getD_len (fun q hq => (hqg q hq).1) i, getD_vn (fun q hq => (hqg q hq).2.1) i⟩) (fun i hi => ⟨?_, (egd_cof wg i g).1, (egd_cof wg i g).2⟩) hq1 (egd_cof wg e g).1 (egd_cof wg e g).2 (by rw [hfr1.2.2.2.2.2.2.1 11 (fun z => z)]; exact hz1) (fun F' M2 hF' hfr2 hz2 hq2 hk2 hv2 => ?_) (fun F' M2 hn hfr2 hz2 hq2 hl2 => ?_)
      · by_cases hie : i = e
        · rw [hie]
          exact qdy_fr hfr1 (by omega) (hcl g) (hrest g (Nat.le_refl _) (by omega))
        · have hiE := List.getElem?_eq_getElem hi
          have := (hoth i _ hie hiE).2 g (by omega)
          have ha : acof es i g = es[i].2.getD g [] := by
            unfold acof
            rw [show es.getD i ([], []) = es[i] by rw [List.getD_eq_getElem?_getD, hiE]; rfl]
          rw [← ha] at this
          exact qdy_fr hfa1 (by omega) (egd_cof wg i g).1.2.2 this
      · have hM2 := mst_fr hfr2 hM1
        refine ⟨hM2.1, sp_rcof (by omega) ⟨hM2.1, ?_⟩⟩
        refine sp_rcopy (by omega) hM2 (by omega) (by omega) (by omega) hq2 hk2.2.2 fun M3 hfr3 hq3 => ?_
        intro v7
        rw [show v7 = nI (g + 1) from nI_1 g]
        have h13' : rfr (fun x => x = 154 + g ∨ x = 170 + 8 * e + g) FF GN M' M3 := rfr_tr (rfr_up hfr1 (fun x z => Or.inl z) (fun _ z => z.elim) (fun _ z => z)) (rfr_tr (rfr_up hfr2 (fun x z => Or.inl z) (fun _ z => z) (fun _ z => z)) (rfr_up hfr3 (fun x z => Or.inr z) (fun _ z => z.elim) (fun _ z => z)))
        refine ih (g + 1) (pre ++ [F']) M3 _ _ _ _ _ (by omega) (rfr_tr hfr (rfr_up h13' (fun x z => by omega) (fun _ z => z) (fun _ z => z))) (by rw [hfr3.2.2.2.2.2.2.1 11 (fun z => z)]; exact hz2) (by rw [omp_s, hom]; dsimp only; rw [hF']) (fun c hc => ?_) (fun i hi => ?_) (fun i hi1 hi2 => qdy_fr h13' (by omega) (hcl i) (hrest i (by omega) hi2))
        · rcases List.mem_append.mp hc with hc | hc
          · exact hpg c hc
          · rw [List.mem_singleton.mp hc]; exact als_gd (fun e => egd_cofg wg e g) hqg (egd_cofg wg e g) hF'
        · by_cases hig : i = g
          · have : (pre ++ [F']).getD i [] = F' := by
              rw [List.getD_eq_getElem?_getD, List.getElem?_append_right (by omega), hpl, hig, Nat.sub_self]
              rfl
            rw [this, hig]
            exact hq3
          · have : (pre ++ [F']).getD i [] = pre.getD i [] := by
              rw [List.getD_eq_getElem?_getD, List.getElem?_append_left (by omega), List.getD_eq_getElem?_getD]
            rw [this]
            exact qdy_fr h13' (by omega) (getD_len (fun c hc => (hpg c hc).1) i).2.2 (hpq i (by omega))
      · have hM2 := mst_fr hfr2 hM1
        refine ⟨hM2.1, sp_rcof (by omega) ⟨hM2.1, ?_⟩⟩
        refine sp_rcopy (by omega) hM2 (by omega) (by omega) (by omega) hq2 hl2 fun M3 hfr3 hq3 => ?_
        intro v7
        have h13' : rfr (fun x => x = 154 + g ∨ x = 170 + 8 * e + g) FF GN M' M3 := rfr_tr (rfr_up hfr1 (fun x z => Or.inl z) (fun _ z => z.elim) (fun _ z => z)) (rfr_tr (rfr_up hfr2 (fun x z => Or.inl z) (fun _ z => z) (fun _ z => z)) (rfr_up hfr3 (fun x z => Or.inr z) (fun _ z => z.elim) (fun _ z => z)))
        have hfa3 := rfr_tr hfr (rfr_up h13' (T' := fun x => (154 ≤ x ∧ x < 162) ∨ (170 + 8 * e ≤ x ∧ x < 170 + 8 * e + sh)) (fun x z => by omega) (fun _ z => z) (fun _ z => z))
        have hM3 := mst_fr hfa3 hMB
        have z3 : zI M3 1529 11 = 1 := by rw [hfr3.2.2.2.2.2.2.1 11 (fun z => z)]; exact hz2
        have F3 : ∀ j, ¬ FF j → zI M3 1529 j = zI MB 1529 j := fun j hj => hfa3.2.2.2.2.2.2.1 j hj
        have hst := hbad (omp_none (n := g + 1) (by rw [omp_s, hom]; dsimp only; rw [hn]) (by omega))
        rw [hst] at h
        have hP : P M3 := h M3 (hup M3 hfa3) (by rw [F3 _ (by unfold FF; omega)]; exact h13) hdl (Or.inr (Or.inr ⟨rfl, z3, by rw [F3 _ (by unfold FF; omega)]; exact h12⟩)) fun z => absurd (show (2 : Nat) = 0 from z) (by decide)
        exact sg_X8_reduce_65 _ _ _ _ _ _ _ _ _ ⟨hM3.1, fun _ => ⟨rfl, hP⟩, fun _ => ⟨hM3.1, fun _ => ⟨rfl, hP⟩, fun _ => ⟨hM3.1, fun _ => ⟨rfl, hP⟩, fun z => absurd (Classical.not_not.mp z) (by rw [z3]; decide)⟩⟩⟩
  refine en_X8_reduce _ _ M (sg_X8_reduce_0 _ _ M ⟨s16, ?_⟩)
  intro v2
  have e2 : v2 = nI (fo + e) := by rw [show v2 = zI M 1529 19 + nI e from rfl, w19, nI_add]
  clear_value v2
  subst e2
  rw [show (100 : Int32) * nI (fo + e) = nI (100 * (fo + e)) by rw [show (100 : Int32) = nI 100 from rfl, pk_mul], cx]
  refine ⟨s16, by rw [r3, k0], by rw [r3, k0]; exact zx, ?_⟩
  intro v4
  have e4 : v4 = 1 := by rw [show v4 = zI M (zR M 1529 3) (100 * (fo + e)) from rfl, r3]; exact g0
  clear_value v4
  subst e4
  refine ⟨s16, by rw [r4, k1], by rw [r4, k1]; exact zx, ?_⟩
  intro v5
  have e5' : v5 = 1 := by rw [show v5 = zI M (zR M 1529 4) (100 * (fo + e)) from rfl, r4]; exact g1
  clear_value v5
  subst e5'
  refine ⟨s16, sp_rlead (by omega) hM (by omega) hqE ⟨s16, ?_⟩⟩
  refine sp_rcopy (q := 151) (by omega) hM (by omega) (by omega) (by omega) hqE hbg.1.2.2 fun M1 hfr1 hq1 => ?_
  have hM1 := mst_fr hfr1 hM
  have hv1 := mvk_fr hfr1 (fun z => z) (fun z => z) hv
  refine ⟨hM1.1, ?_⟩
  refine sp_rcomesN (p := 151) (by omega) hM1 hv1 (by omega) hq1 hbg.1 hbg.2.1 hm hmv (by rw [hfr1.2.2.2.2.2.2.1 11 (fun z => z)]; exact hz) (fun L' M2 hL' hfr2 hz2 hq2 => ?_) (fun M2 hn _ _ _ => by rw [acome_tail] at hn; cases hn)
  rw [acome_tail] at hL'
  cases hL'
  have hfa2 : rfr (fun x => x = 151) FF GN M M2 := rfr_tr (rfr_up hfr1 (fun _ z => z) (fun _ z => z.elim) (fun _ z => z)) hfr2
  have hM2 := mst_fr hfa2 hM
  refine ⟨hM2.1, ?_⟩
  intro M3
  have m3 : M3 = zuI M2 1529 21 (nI e) := rfl
  clear_value M3
  have hfr3 : rfr TN (fun j => j = 21) GN M2 M3 := by rw [m3]; exact rfr_F rfl
  have hfa3 : rfr (fun x => x = 151) (fun j => FF j ∨ j = 21) GN M M3 := rfr_tr (rfr_up hfa2 (fun _ z => z) (fun _ z => Or.inl z) (fun _ z => z)) (rfr_up hfr3 (fun _ z => z.elim) (fun _ z => Or.inr z) (fun _ z => z))
  have hM3 := mst_fr hfa3 hM
  have hv3 := mvk_fr hfa3 (by unfold FF; omega) (by unfold FF; omega) hv
  have F3 : ∀ j, ¬ (FF j ∨ j = 21) → zI M3 1529 j = zI M 1529 j := fun j hj => hfa3.2.2.2.2.2.2.1 j hj
  refine ⟨hM2.1, ?_⟩
  refine sp_rdivided (bs := es.map Prod.fst) (lo := some e) (by omega) hM3 hv3 (by rw [F3 _ (by unfold FF; omega)]; exact w19) hf2 (by rw [F3 _ (by unfold FF; omega)]; exact w20) (by rw [m3, zI_uI, if_pos ⟨rfl, rfl⟩]; rfl) (fun j hj => by cases hj; omega) (by rw [F3 _ (by unfold FF; omega)]; exact w13) (by rw [F3 _ (by unfold FF; omega)]; exact w14) (by omega) wl (by rw [m3, zI_uI, if_neg (by omega)]; exact hz2) (by rw [F3 _ (by unfold FF; omega)]; exact hs) (by rw [List.length_map]) wlen (fun i b hb => ?_) (qdy_fr hfr3 (fun z => z) (by have := hbg.1.2.2; simp at this; omega) hq2) (pgd_tail hbg) fun dv M4 hdv hfr4 h13 c0 c1 c2 c3 => ?_
  · rw [List.getElem?_map] at hb
    cases hEi : es[i]? with
    | none => rw [hEi] at hb; cases hb
    | some E =>
      rw [hEi] at hb
      cases hb
      have hil := (List.getElem?_eq_some_iff.mp hEi).1
      have hb2 := (wg E (List.mem_of_getElem? hEi)).1
      exact ⟨qdy_fr hfa3 (by omega) hb2.1.1.2.2 (wr i E hEi).1, hb2⟩
  rw [hnn] at hdv
  rw [hdv] at has hlt
  have hdle : dv.2.1 ≤ lim := by
    have : dv.2.1 ≤ n := by rw [← hdv]; exact adiv_le _ _ _ _
    omega
  have hM4 := mst_fr hfr4 hM3
  refine ⟨hM4.1, ?_⟩
  intro M5
  have m5 : M5 = zuI M4 1529 21 (-1) := rfl
  clear_value M5
  have hfr5 : rfr TN (fun j => j = 21) GN M4 M5 := by rw [m5]; exact rfr_F rfl
  have F5 : ∀ j, j ≠ 21 → zI M5 1529 j = zI M4 1529 j := fun j hj => hfr5.2.2.2.2.2.2.1 j hj
  have hfa5 : rfr TD FR GN M M5 := rfr_tr (rfr_up hfa3 (fun x z => Or.inl z) (fun _ z => z.elim (fun y => Or.inl (Or.inl y)) Or.inr) (fun _ z => z)) (rfr_tr (rfr_up hfr4 (fun _ z => z) (fun _ z => Or.inl z) (fun _ z => z)) (rfr_up hfr5 (fun _ z => z.elim) (fun _ z => Or.inr z) (fun _ z => z)))
  have hfa5' : rfr (TM fo sh) FR GN M M5 := rfr_up hfa5 (fun x z => by unfold TD at z; unfold TM; omega) (fun _ z => z) (fun _ z => z)
  have hM5 := mst_fr hfa5 hM
  have h13' : zI M5 1529 13 = nI (lim - dv.2.1) := by rw [F5 _ (by omega)]; exact h13
  rcases c3 with ec | ec | ec
  · obtain ⟨z11, z12, q152, g152, ql, qg, qq⟩ := c0 ec
    rw [if_pos ec] at has
    refine ⟨hM4.1, fun z => absurd (by rw [F5 _ (by omega)]; exact z11) z, fun _ => ⟨hM4.1, fun _ => ?_, fun z => absurd (by rw [F5 _ (by omega)]; exact z12) z⟩⟩
    have hv5 := mvk_fr hfa5 (by unfold FR FD FF; omega) (by unfold FR FD FF; omega) hv
    have q152' := qdy_fr hfr5 (fun z => z) g152.1.2.2 q152
    refine sg_X8_reduce_53 _ _ _ _ _ _ _ _ _ ⟨hM5.1, ?_⟩
    refine sp_rcomesP (p := 152) (by omega) hM5 hv5 (by omega) q152' g152.1 g152.2.1 hm hmv (by rw [F5 _ (by omega)]; exact z11) (fun b M6 hb hfr6 hz6 hq6 => ?_) (fun M6 hn hfr6 hz6 hq6 => ?_)
    · have hbt := hb
      have hct := acome_top (k := k) (u := ((1, 1), m)) (L := dv.2.2.1) (by
        intro t ht
        have := hlt t ht
        dsimp only
        exact this)
      rw [hct] at hbt
      have hbe : b = ((1, 1), m) :: dv.2.2.1 := by
        split at hbt
        · cases hbt
        · exact (Option.some.inj hbt).symm
      have hbg' : bgd nv k b := ⟨acome_gd (t := ((1, 1), m)) g152 ⟨fok_1, (by decide : (1 : Int) ≠ 0), hm⟩ hmv (by show Int.gcd 1 1 = 1; decide) hb, m, dv.2.2.1, hbe⟩
      have hM6 := mst_fr hfr6 hM5
      refine ⟨hM6.1, ?_⟩
      refine sp_rcopy (p := 152) (by omega) hM6 (by omega) (by omega) (by omega) hq6 hbg'.1.1.2.2 fun M7 hfr7 hq7 => ?_
      have h57 : rfr (fun x => x = 152 ∨ x = fo + e) FF GN M5 M7 := rfr_tr (rfr_up hfr6 (fun x z => Or.inl z) (fun _ z => z) (fun _ z => z)) (rfr_up hfr7 (fun x z => Or.inr z) (fun _ z => z.elim) (fun _ z => z))
      have h7 : rfr (fun x => TD x ∨ x = fo + e) FR GN M M7 := rfr_tr (rfr_up hfa5 (fun _ z => Or.inl z) (fun _ z => z) (fun _ z => z)) (rfr_up h57 (fun x z => z.elim (fun y => Or.inl (Or.inr (Or.inl y))) Or.inr) (fun _ z => Or.inl (Or.inl z)) (fun _ z => z))
      have F7 : ∀ j, ¬ FF j → zI M7 1529 j = zI M5 1529 j := fun j hj => h57.2.2.2.2.2.2.1 j hj
      rw [hb] at has
      refine s65 dv b M7 qg (fun i hi => qdy_fr h57 (by omega) (getD_len (fun q hq => (qg q hq).1) i).2.2 (qdy_fr hfr5 (fun z => z) (getD_len (fun q hq => (qg q hq).1) i).2.2 (qq i hi))) (fun y => by rw [y] at has; exact has) (fun cs y => by rw [y] at has; exact has) hbg' (by rw [hbe, hm']; rfl) hdle (rfr_up h7 (fun x z => by unfold TD at z; unfold TM; omega) (fun _ z => z) (fun _ z => z)) (by rw [F7 _ (by unfold FF; omega)]; exact h13') (by rw [F7 _ (by unfold FF; omega), F5 _ (by omega)]; exact z12) (by rw [F7 _ (by unfold FF; omega), m5, zI_uI, if_pos ⟨rfl, rfl⟩]) (fun i E hi hiE => rel1_fr h7 (by have := (List.getElem?_eq_some_iff.mp hiE).1; unfold TD; omega) (fun g hg => by unfold TD; omega) (egd_eln wg E (List.mem_of_getElem? hiE)) (wr i E hiE)) hq7 (fun g hg => qdy_fr h7 (by unfold TD; omega) (egd_cof wg e g).1.2.2 (rel_cof wr hel hg)) sh 0 [] M7 _ _ _ _ _ (by omega) rfr_rf (by rw [hfr7.2.2.2.2.2.2.1 11 (fun z => z)]; exact hz6) rfl (fun c hc => absurd hc List.not_mem_nil) (fun i hi => absurd hi (Nat.not_lt_zero _)) (fun i _ hi => qdy_fr h7 (by unfold TD; omega) (egd_cof wg e i).1.2.2 (rel_cof wr hel hi))
    · have hM6 := mst_fr hfr6 hM5
      refine ⟨hM6.1, ?_⟩
      refine sp_rcopy (p := 152) (by omega) hM6 (by omega) (by omega) (by omega) hq6 g152.1.2.2 fun M7 hfr7 hq7 => ?_
      have h57 : rfr (fun x => x = 152 ∨ x = fo + e) FF GN M5 M7 := rfr_tr (rfr_up hfr6 (fun x z => Or.inl z) (fun _ z => z) (fun _ z => z)) (rfr_up hfr7 (fun x z => Or.inr z) (fun _ z => z.elim) (fun _ z => z))
      have F7 : ∀ j, ¬ FF j → zI M7 1529 j = zI M5 1529 j := fun j hj => h57.2.2.2.2.2.2.1 j hj
      have hM7 := mst_fr h57 hM5
      have z7 : zI M7 1529 11 = 1 := by rw [hfr7.2.2.2.2.2.2.1 11 (fun z => z)]; exact hz6
      have hst : st = (2, es, dv.2.1) := by
        rw [hn] at has
        split at has <;> exact has
      rw [hst] at h
      have hP : P M7 := h M7 (rfr_tr hfa5' (rfr_up h57 (fun x z => by unfold TM; omega) (fun _ z => Or.inl (Or.inl z)) (fun _ z => z))) (by rw [F7 _ (by unfold FF; omega)]; exact h13') hdle (Or.inr (Or.inr ⟨rfl, z7, by rw [F7 _ (by unfold FF; omega), F5 _ (by omega)]; exact z12⟩)) fun z => absurd (show (2 : Nat) = 0 from z) (by decide)
      exact sg_X8_reduce_65 _ _ _ _ _ _ _ _ _ ⟨hM7.1, fun _ => ⟨rfl, hP⟩, fun _ => ⟨hM7.1, fun _ => ⟨rfl, hP⟩, fun _ => ⟨hM7.1, fun _ => ⟨rfl, hP⟩, fun z => absurd (Classical.not_not.mp z) (by rw [z7]; decide)⟩⟩⟩
  · obtain ⟨z11, z12⟩ := c1 ec
    rw [if_neg (by omega)] at has
    rw [has] at h
    refine ⟨hM4.1, fun z => absurd (by rw [F5 _ (by omega)]; exact z11) z, fun _ => ⟨hM4.1, fun z => absurd z (by rw [F5 _ (by omega), z12]; decide), fun _ => ⟨rfl, h M5 hfa5' h13' hdle (Or.inr (Or.inl ⟨ec, by rw [F5 _ (by omega)]; exact z11, by rw [F5 _ (by omega)]; exact z12⟩)) fun z => ?_⟩⟩⟩
    have z : dv.1 = 0 := z
    omega
  · obtain ⟨z11, z12⟩ := c2 ec
    rw [if_neg (by omega)] at has
    rw [has] at h
    refine ⟨hM4.1, fun _ => ⟨rfl, h M5 hfa5' h13' hdle (Or.inr (Or.inr ⟨ec, by rw [F5 _ (by omega)]; exact z11, by rw [F5 _ (by omega)]; exact z12⟩)) fun z => ?_⟩, fun z => absurd (Classical.not_not.mp z) (by rw [F5 _ (by omega), z11]; decide)⟩
    have z : dv.1 = 0 := z
    omega
