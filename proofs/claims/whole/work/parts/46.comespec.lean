/-! a term comes, in the class -/
theorem alow_ok {a b : Int} {f : aF} (hb : 0 < b) (h : alow a b = some f) : fok f ∧ (f.1 = 0 ↔ a = 0) ∧ (a = 0 → f.2 = 1) := by
  have hg0 : 0 < Int.gcd a b := Int.gcd_pos_of_ne_zero_right _ (by omega)
  obtain ⟨b1, hb1⟩ := Int.gcd_dvd_right a b
  obtain ⟨a1, ha1⟩ := Int.gcd_dvd_left a b
  have hb1p : 0 < b1 := by
    rcases Int.lt_or_le 0 b1 with h | h
    · exact h
    · have := Int.mul_nonpos_of_nonneg_of_nonpos (Int.natCast_nonneg (Int.gcd a b)) h
      omega
  have eA : a / (Int.gcd a b : Int) = a1 := Int.ediv_eq_of_eq_mul_right (by omega) ha1
  have eB : b / (Int.gcd a b : Int) = b1 := Int.ediv_eq_of_eq_mul_right (by omega) hb1
  unfold alow at h
  rw [eA, eB] at h
  split at h
  · rename_i hc
    cases h
    refine ⟨⟨hc.1, hb1p, hc.2⟩, ⟨fun z => ?_, fun z => ?_⟩, fun z => ?_⟩
    · have z : a1 = 0 := z
      rw [z, Int.mul_zero] at ha1
      exact ha1
    · show a1 = 0
      rw [z, Int.zero_ediv] at eA
      exact eA.symm
    · show b1 = 1
      rw [z, Int.gcd_zero_left] at eB
      rw [← eB]
      have : ((b.natAbs : Nat) : Int) = b := by omega
      rw [this]
      exact Int.ediv_self (by omega)
  · cases h
theorem afsum_ok {f g s : aF} (hf : fok f) (hg : fok g) (h : afsum f g = some s) : fok s ∧ (s.1 = 0 → s.2 = 1) := by
  have h1 := alow_ok (Int.mul_pos hf.2.1 hg.2.1) h
  exact ⟨h1.1, fun z => h1.2.2 (h1.2.1.mp z)⟩
theorem afmul_ok {f g s : aF} (hf : fok f) (hg : fok g) (hf0 : f.1 ≠ 0) (hg0 : g.1 ≠ 0) (h : afmul f g = some s) : fok s ∧ s.1 ≠ 0 := by
  have h1 := alow_ok (Int.mul_pos hf.2.1 hg.2.1) h
  exact ⟨h1.1, fun z => by
    rcases Int.mul_eq_zero.mp (h1.2.1.mp z) with z | z
    · exact hf0 z
    · exact hg0 z⟩
theorem srt_iff {k : Nat} {L : aP} : srt k L ↔ ∀ (i j : Nat) (u v : aT), i < j → L[i]? = some u → L[j]? = some v → ark k v.2 < ark k u.2 := by
  unfold srt
  rw [List.pairwise_iff_getElem]
  constructor
  · intro h i j u v hij hu hv
    obtain ⟨h1, e1⟩ := List.getElem?_eq_some_iff.mp hu
    obtain ⟨h2, e2⟩ := List.getElem?_eq_some_iff.mp hv
    have := h i j h1 h2 hij
    rw [e1, e2] at this
    exact this
  · intro h i j h1 h2 hij
    exact h i j _ _ hij (List.getElem?_eq_getElem h1) (List.getElem?_eq_getElem h2)
theorem acome_ok {k : Nat} {t : aT} {L L' : aP} (hk : pok k L) (ht : tok t) (h : acome k t L = some L') : pok k L' := by
  obtain ⟨h1, h2, h3⟩ := hk
  have h2' := srt_iff.mp h2
  have hins : (∀ u, L[apos k t.2 L]? = some u → u.2 ≠ t.2) → ¬ 100 ≤ L.length → pok k (L.insertIdx (apos k t.2 L) t) := by
    intro hne hlt
    have hle := apos_le (k := k) (m := t.2) L
    refine ⟨fun u hu => ?_, srt_iff.mpr ?_, ?_⟩
    · rcases (List.mem_insertIdx hle).mp hu with rfl | hu
      · exact ht
      · exact h1 u hu
    · intro i j u v hij hu hv
      rw [List.getElem?_insertIdx] at hu hv
      have low : ∀ i u, L[i]? = some u → apos k t.2 L ≤ i → ark k u.2 < ark k t.2 := by
        intro i u hu hi
        have hle2 := apos_ge (m := t.2) h2 hi hu
        rcases Nat.lt_or_eq_of_le hle2 with z | z
        · exact z
        · exfalso
          have e := ark_inj (h1 u (List.mem_of_getElem? hu)).2.2 ht.2.2 z
          rcases Nat.lt_or_eq_of_le hi with q | q
          · have hp := List.getElem?_eq_getElem (l := L) (i := apos k t.2 L) (by have := (List.getElem?_eq_some_iff.mp hu).1; omega)
            have b1 := h2' _ _ _ _ q hp hu
            have b2 := apos_ge (m := t.2) h2 (Nat.le_refl _) hp
            omega
          · rw [q] at hne
            exact hne u hu e
      split at hu
      · rename_i c1
        split at hv
        · exact h2' i j u v hij hu hv
        · split at hv
          · split at hv
            · cases hv
              exact apos_lt c1 hu
            · cases hv
          · have hvj : L[j - 1]? = some v := hv
            exact h2' i (j - 1) u v (by omega) hu hvj
      · split at hu
        · rename_i c1 c2
          split at hu
          · cases hu
            split at hv
            · omega
            · split at hv
              · omega
              · exact low (j - 1) v hv (by omega)
          · cases hu
        · rename_i c1 c2
          split at hv
          · omega
          · split at hv
            · omega
            · exact h2' (i - 1) (j - 1) u v (by omega) hu hv
    · rw [List.length_insertIdx]
      split <;> omega
  unfold acome at h
  split at h
  · rename_i u hu
    split at h
    · rename_i hut
      split at h
      · cases h
      · rename_i s hs
        have hsok := afsum_ok (h1 u (List.mem_of_getElem? hu)).1 ht.1 hs
        split at h
        · cases h
          exact ⟨fun x hx => h1 x (List.mem_of_mem_eraseIdx hx), List.Pairwise.sublist (List.eraseIdx_sublist _ _) h2, by have := List.length_eraseIdx_le L (apos k t.2 L); omega⟩
        · rename_i hs0
          cases h
          refine ⟨fun x hx => ?_, srt_iff.mpr ?_, by rw [List.length_set]; exact h3⟩
          · rcases List.mem_or_eq_of_mem_set hx with hx | rfl
            · exact h1 x hx
            · exact ⟨hsok.1, hs0, ht.2.2⟩
          · intro i j x y hij hx hy
            have key : ∀ (i : Nat) (x : aT), (L.set (apos k t.2 L) (s, t.2))[i]? = some x → ∃ x0 : aT, L[i]? = some x0 ∧ x0.2 = x.2 := by
              intro i x hx
              rw [List.getElem?_set] at hx
              split at hx
              · rename_i e
                split at hx
                · cases hx
                  subst e
                  exact ⟨u, hu, hut⟩
                · cases hx
              · exact ⟨x, hx, rfl⟩
            obtain ⟨x0, a1, a2⟩ := key i x hx
            obtain ⟨y0, b1, b2⟩ := key j y hy
            rw [← a2, ← b2]
            exact h2' i j x0 y0 hij a1 b1
    · rename_i hut
      split at h
      · cases h
      · rename_i hlt
        cases h
        exact hins (fun v hv => by rw [hu] at hv; cases hv; exact hut) hlt
  · rename_i hu
    split at h
    · cases h
    · rename_i hlt
      cases h
      exact hins (fun v hv => by rw [hu] at hv; cases hv) hlt
theorem eF_1 {s : aF} (h : fok s) (h1 : s.1 = 0 → s.2 = 1) : (lg_cmp (eF s) 1 = 0) ↔ s.1 = 0 := by
  have e1 : (1 : Int64).toInt = 1 := by decide
  rw [lc_eq, eF_int h, e1]
  obtain ⟨⟨a1, a2⟩, a3, a4⟩ := h
  constructor
  · intro z; omega
  · intro z
    have := h1 z
    omega
theorem eF_0 {s : aF} (h : fok s) : ¬ (lg_cmp (eF s) 0 = 0) := by
  rw [lc_eq, eF_int h, Int64.toInt_zero]
  obtain ⟨⟨a1, a2⟩, a3, a4⟩ := h
  omega
theorem come_ins {d p o k : Nat} {M : zM} {L : aP} {t : aT} {P : Int32 → zM → Prop} (hd : 1 ≤ d) (hp : pst M p o) (hL : pdy M p k L) (hl : L.length ≤ 100) (i : Nat) (hi : i ≤ L.length) (o6 o7 : Option Value) (h1 : ¬ 100 ≤ L.length → ∀ M', zfr (inP p) M M' → pdy M' p k (L.insertIdx i t) → P 1 M') (h0 : 100 ≤ L.length → P 0 M) : wX6_come d (fun r M2 => ∃ x : Int32, r = [.int x] ∧ P x M2) 54 [some (.ref p), some (.long (eF t.1)), none, some (.int (e8 t.2)), some (.int (nI (ark k t.2))), some (.int (nI i)), o6, o7] [] M := by
  refine sg_X6_come_54 _ _ _ _ _ _ _ _ ⟨hp.1, fun c => ⟨hp.1, ?_⟩, fun c => ⟨Or.inl rfl, _, rfl, h0 ?_⟩⟩
  · rw [hL.1] at c
    have c : L.length < 100 := (nI_ltI (a := L.length) (b := 100) (by omega) (by omega)).mp c
    rw [nI_1]
    refine sp_shift (c := L.length) (f := i) (t := i + 1) hd hp hL.1 hi (by omega) hl fun M1 hf h4 g1 g2 g3 => ?_
    have hp1 := pst_fr hf hp
    have ci := cl_n (n := i) (by omega)
    have zi : zin (nI i) 100 := zin_n (by omega) (by omega)
    refine ⟨hp1.1, p_k1 hp1, by rw [p_l1 hp1]; exact zi, ?_⟩
    intro M2
    refine ⟨hp1.1, p_k2 hp1, by rw [p_l2 hp1]; exact zi, ?_⟩
    intro M3
    refine ⟨hp1.1, p_k3 hp1, by rw [p_l3 hp1]; exact zi, ?_⟩
    intro M4
    have f2 : zfr (inP p) M1 M2 := zfr_uL (by rw [hp1.2.2.1]; exact ⟨by omega, by omega⟩)
    have f3 : zfr (inP p) M2 M3 := zfr_uI (by rw [hp1.2.2.2.1]; exact ⟨by omega, by omega⟩)
    have f4 : zfr (inP p) M3 M4 := zfr_uI (by rw [hp1.2.2.2.2.1]; exact ⟨by omega, by omega⟩)
    refine ⟨Or.inr rfl, _, rfl, h1 (by omega) M4 (zfr_tr hf (zfr_tr f2 (zfr_tr f3 f4))) ⟨?_, fun j u hj => ?_⟩⟩
    · have q1 : zI M4 p 4 = zI M1 p 4 := by
        rw [show M4 = zuI M3 (zR M1 p 3) (nI i).toNatClampNeg (nI (ark k t.2)) from rfl, zI_uI, if_neg (by rw [hp1.2.2.2.2.1]; omega), show M3 = zuI M2 (zR M1 p 2) (nI i).toNatClampNeg (e8 t.2) from rfl, zI_uI, if_neg (by rw [hp1.2.2.2.1]; omega)]
        rfl
      rw [q1, h4, List.length_insertIdx, if_pos hi]
      congr 1
      omega
    · have r1 : zL M4 (p + 1) j = if j = i then eF t.1 else zL M1 (p + 1) j := by
        show zL M2 (p + 1) j = _
        rw [show M2 = zuL M1 (zR M1 p 1) (nI i).toNatClampNeg (eF t.1) from rfl, ci, hp1.2.2.1, zL_uL]
        simp only [true_and]
      have r2 : zI M4 (p + 2) j = if j = i then e8 t.2 else zI M1 (p + 2) j := by
        rw [show M4 = zuI M3 (zR M1 p 3) (nI i).toNatClampNeg (nI (ark k t.2)) from rfl, zI_uI, if_neg (by rw [hp1.2.2.2.2.1]; omega), show M3 = zuI M2 (zR M1 p 2) (nI i).toNatClampNeg (e8 t.2) from rfl, ci, hp1.2.2.2.1, zI_uI]
        simp only [true_and]
        rfl
      have r3 : zI M4 (p + 3) j = if j = i then nI (ark k t.2) else zI M1 (p + 3) j := by
        rw [show M4 = zuI M3 (zR M1 p 3) (nI i).toNatClampNeg (nI (ark k t.2)) from rfl, ci, hp1.2.2.2.2.1, zI_uI]
        simp only [true_and]
        have : zI M3 (p + 3) j = zI M1 (p + 3) j := by
          rw [show M3 = zuI M2 (zR M1 p 2) (nI i).toNatClampNeg (e8 t.2) from rfl, zI_uI, if_neg (by rw [hp1.2.2.2.1]; omega)]
          rfl
        rw [this]
      rw [r1, r2, r3]
      rw [List.getElem?_insertIdx] at hj
      split at hj
      · rename_i c1
        rw [if_neg (by omega), if_neg (by omega), if_neg (by omega), g1, g2, g3, if_neg (by omega), if_neg (by omega), if_neg (by omega)]
        exact hL.2 j u hj
      · split at hj
        · rename_i c1 c2
          subst c2
          have hut : some t = some u := by
            first
              | (rw [if_pos hi] at hj; exact hj)
              | (rw [if_neg (by omega)] at hj; exact hj)
          cases hut
          rw [if_pos rfl, if_pos rfl, if_pos rfl]
          exact ⟨rfl, rfl, rfl⟩
        · rename_i c1 c2
          have hlt : j - 1 < L.length := (List.getElem?_eq_some_iff.mp hj).1
          rw [if_neg c2, if_neg c2, if_neg c2, g1, g2, g3, if_pos (by omega), if_pos (by omega), if_pos (by omega), show i + (j - (i + 1)) = j - 1 by omega]
          exact hL.2 _ u hj
  · rw [hL.1] at c
    have c : ¬ L.length < 100 := fun z => c ((nI_ltI (a := L.length) (b := 100) (by omega) (by omega)).mpr z)
    omega
theorem sp_come {d p o k : Nat} {M : zM} {L : aP} {t : aT} {P : Int32 → zM → Prop} (hd : 3 ≤ d) (hp : pst M p o) (ho : ost M o k) (hL : pdy M p k L) (hk : pok k L) (ht : tok t) (h1 : ∀ L' M', acome k t L = some L' → zfr (inP p) M M' → pdy M' p k L' → P 1 M') (h0 : acome k t L = none → P 0 M) : ycI d nX6_come [.ref p, .long (eF t.1), .int (e8 t.2)] M P := by
  obtain ⟨d, rfl, he⟩ := dS hd
  have hle := apos_le (k := k) (m := t.2) L
  have hl := hk.2.2
  have hmr := ark_lt (k := k) ht.2.2
  refine en_X6_come _ _ _ M (sg_X6_come_0 _ _ _ M ⟨hp.1, by rw [hp.2.1]; exact ho.1, ?_⟩)
  rw [hp.2.1]
  refine sp_rank (by omega) ht.2.2 ho.1 ho.2.1 ho.2.2 ⟨hp.1, sp_find (by omega) hp hL hk ht.2.2 ⟨hp.1, fun c => ?_, fun c => ?_⟩⟩
  · rw [hL.1] at c
    have c := (nI_leI (by omega) (by omega)).mp c
    have hn : L[apos k t.2 L]? = none := List.getElem?_eq_none c
    refine come_ins (by omega) hp hL hl _ hle _ _ (fun q M' hf hd => h1 _ M' ?_ hf hd) (fun q => h0 ?_)
    · unfold acome
      rw [hn]
      exact if_neg q
    · unfold acome
      rw [hn]
      exact if_pos q
  · rw [hL.1] at c
    have c : ¬ L.length ≤ apos k t.2 L := fun z => c ((nI_leI (by omega) (by omega)).mpr z)
    have hlt : apos k t.2 L < L.length := by omega
    have hu := List.getElem?_eq_getElem hlt
    obtain ⟨g1, g2, g3⟩ := hL.2 _ _ hu
    have htu := hk.1 _ (List.mem_of_getElem? hu)
    have hmu := ark_lt (k := k) htu.2.2
    have ci := cl_n (n := apos k t.2 L) (by omega)
    have zi : zin (nI (apos k t.2 L)) 100 := zin_n (by omega) (by omega)
    refine ⟨hp.1, p_k3 hp, by rw [p_l3 hp]; exact zi, fun c2 => ?_, fun c2 => ?_⟩
    · rw [ci, hp.2.2.2.2.1, g3] at c2
      have hne : (L[apos k t.2 L]).2 ≠ t.2 := fun z => c2 (by rw [z])
      refine come_ins (by omega) hp hL hl _ hle _ _ (fun q M' hf hd => h1 _ M' ?_ hf hd) (fun q => h0 ?_)
      · unfold acome
        rw [hu]
        dsimp only
        rw [if_neg hne]
        exact if_neg q
      · unfold acome
        rw [hu]
        dsimp only
        rw [if_neg hne]
        exact if_pos q
    · rw [ci, hp.2.2.2.2.1, g3] at c2
      have c2 := Classical.not_not.mp c2
      have heq : (L[apos k t.2 L]).2 = t.2 := ark_inj htu.2.2 ht.2.2 ((nI_eq (by omega) (by omega)).mp c2)
      refine ⟨hp.1, p_k1 hp, by rw [p_l1 hp]; exact zi, ?_⟩
      rw [ci, hp.2.2.1, g1]
      refine sp_fsum (by omega) htu.1 ht.1 ?_
      cases hs : afsum (L[apos k t.2 L]).1 t.1 with
      | none =>
        have hnone : acome k t L = none := by
          unfold acome
          rw [hu]
          dsimp only
          rw [if_pos heq, hs]
        have z0 : lg_cmp (0 : Int64) 0 = 0 := by decide
        refine ⟨fun c3 => ⟨fun c4 => sg_X6_come_46 _ _ _ _ _ _ _ _ ⟨fun _ => ⟨Or.inl rfl, _, rfl, h0 hnone⟩, fun q => absurd z0 q⟩, fun c4 => absurd z0 c4⟩, fun c3 => absurd (Classical.not_not.mp c3) (by decide)⟩
      | some s =>
        have hsok := afsum_ok htu.1 ht.1 hs
        refine ⟨fun c3 => ⟨fun c4 => absurd c4 (eF_0 hsok.1), fun c4 => ⟨hp.1, p_k1 hp, by rw [p_l1 hp]; exact zi, ?_⟩⟩, fun c3 => ⟨hp.1, ?_⟩⟩
        · intro M7
          have hs0 : ¬ s.1 = 0 := fun z => c3 ((eF_1 hsok.1 hsok.2).mpr z)
          have hsome : acome k t L = some (L.set (apos k t.2 L) (s, t.2)) := by
            unfold acome
            rw [hu]
            dsimp only
            rw [if_pos heq, hs]
            exact if_neg hs0
          refine sg_X6_come_46 _ _ _ _ _ _ _ _ ⟨fun q => absurd q (eF_0 hsok.1), fun _ => ⟨Or.inr rfl, _, rfl, h1 _ M7 hsome (zfr_uL (by rw [hp.2.2.1]; exact ⟨by omega, by omega⟩)) ⟨?_, fun j u hj => ?_⟩⟩⟩
          · rw [List.length_set]
            exact hL.1
          · have r1 : zL M7 (p + 1) j = if j = apos k t.2 L then eF s else zL M (p + 1) j := by
              rw [show M7 = zuL M (zR M p 1) (apos k t.2 L) (eF s) from rfl, hp.2.2.1, zL_uL]
              simp only [true_and]
            rw [r1]
            rw [List.getElem?_set] at hj
            split at hj
            · rename_i e
              have hj2 : some (s, t.2) = some u := by
                first
                  | exact hj
                  | (rw [if_pos (by omega)] at hj; exact hj)
              cases hj2
              subst e
              rw [if_pos rfl]
              refine ⟨rfl, ?_, ?_⟩
              · show zI M (p + 2) _ = e8 t.2
                rw [g2, heq]
              · show zI M (p + 3) _ = nI (ark k t.2)
                rw [g3, heq]
            · rename_i e
              rw [if_neg (fun z => e z.symm)]
              exact hL.2 j u hj
        · have hs0 : s.1 = 0 := (eF_1 hsok.1 hsok.2).mp (Classical.not_not.mp c3)
          have hsome : acome k t L = some (L.eraseIdx (apos k t.2 L)) := by
            unfold acome
            rw [hu]
            dsimp only
            rw [if_pos heq, hs]
            exact if_pos hs0
          rw [nI_1]
          refine sp_shift (c := L.length) (f := apos k t.2 L + 1) (t := apos k t.2 L) (by omega) hp hL.1 (by omega) (by omega) hl fun M1 hf h4 q1 q2 q3 => ?_
          refine sg_X6_come_46 _ _ _ _ _ _ _ _ ⟨fun q => absurd q (eF_0 hsok.1), fun _ => ⟨Or.inr rfl, _, rfl, h1 _ M1 hsome hf ⟨?_, fun j u hj => ?_⟩⟩⟩
          · rw [h4, List.length_eraseIdx, if_pos hlt]
            congr 1
            omega
          · rw [List.getElem?_eraseIdx] at hj
            split at hj
            · rename_i c5
              rw [q1, q2, q3, if_neg (by omega), if_neg (by omega), if_neg (by omega)]
              exact hL.2 j u hj
            · rename_i c5
              have hlj : j + 1 < L.length := (List.getElem?_eq_some_iff.mp hj).1
              rw [q1, q2, q3, if_pos (by omega), if_pos (by omega), if_pos (by omega), show apos k t.2 L + 1 + (j - apos k t.2 L) = j + 1 by omega]
              exact hL.2 _ u hj
