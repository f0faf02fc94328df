/-! the class's polynomials: reading and single terms -/
theorem p_k1 {M : zM} {p o : Nat} (h : pst M p o) : (zsh M (zR M p 1)).1 = 3 := by rw [h.2.2.1, h.2.2.2.2.2.1]
theorem p_l1 {M : zM} {p o : Nat} (h : pst M p o) : (zsh M (zR M p 1)).2 = 100 := by rw [h.2.2.1, h.2.2.2.2.2.1]
theorem p_k2 {M : zM} {p o : Nat} (h : pst M p o) : (zsh M (zR M p 2)).1 = 2 := by rw [h.2.2.2.1, h.2.2.2.2.2.2.1]
theorem p_l2 {M : zM} {p o : Nat} (h : pst M p o) : (zsh M (zR M p 2)).2 = 100 := by rw [h.2.2.2.1, h.2.2.2.2.2.2.1]
theorem p_k3 {M : zM} {p o : Nat} (h : pst M p o) : (zsh M (zR M p 3)).1 = 2 := by rw [h.2.2.2.2.1, h.2.2.2.2.2.2.2]
theorem p_l3 {M : zM} {p o : Nat} (h : pst M p o) : (zsh M (zR M p 3)).2 = 100 := by rw [h.2.2.2.2.1, h.2.2.2.2.2.2.2]
theorem cl_n {n : Nat} (h : n < 2 ^ 31) : (nI n).toNatClampNeg = n := nI_clamp h
theorem zin_n {j n : Nat} (h : j < n) (hn : n < 2 ^ 31) : zin (nI j) n := vp_in_nI h hn
theorem i32_addsub (a b c : Int32) : a + (b - c) = a + b - c := by rw [Int32.sub_eq_add_neg, Int32.sub_eq_add_neg, Int32.add_assoc]
theorem sp_empty {d p o k : Nat} {M : zM} {P : zM → Prop} (hd : 1 ≤ d) (hp : pst M p o) (h : ∀ M', zfr (inP p) M M' → pdy M' p k [] → P M') : ycV d nX6_empty [.ref p] M P := by
  obtain ⟨d, rfl, he⟩ := dS hd
  refine en_X6_empty _ M (sg_X6_empty_0 _ M ⟨hp.1, ?_⟩)
  intro M1
  exact ⟨rfl, h M1 (zfr_uI ⟨Nat.le_refl _, by omega⟩) ⟨by rw [show M1 = zuI M p 4 0 from rfl, zI_uI, if_pos ⟨rfl, rfl⟩]; rfl, fun j t hj => by simp at hj⟩⟩
theorem sp_become {d p q o k : Nat} {M : zM} {L : aP} {P : zM → Prop} (hd : 1 ≤ d) (hp : pst M p o) (hq : pst M q o) (hpq : p + 4 ≤ q ∨ q + 4 ≤ p) (hL : pdy M q k L) (hl : L.length ≤ 100) (h : ∀ M', zfr (inP p) M M' → pdy M' p k L → P M') : ycV d nX6_become [.ref p, .ref q] M P := by
  obtain ⟨d, rfl, he⟩ := dS hd
  have hc := hL.1
  have c0 : (0 : Int32).toNatClampNeg = 0 := by decide
  have n0 : ¬ (0 : Int32) < 0 := by decide
  refine en_X6_become _ _ M (sg_X6_become_0 _ _ M ⟨hq.1, hp.1, ?_⟩)
  intro M1
  have e1 : zI M1 p 4 = nI L.length := by rw [show M1 = zuI M p 4 (zI M q 4) from rfl, zI_uI, if_pos ⟨rfl, rfl⟩, hc]
  have cn := cl_n (n := L.length) (by omega)
  have ng := nI_pos (n := L.length) (by omega)
  refine ⟨hq.1, hp.1, hp.1, p_k1 hq, p_k1 hp, n0, n0, by rw [e1]; exact ng, by rw [e1, cn, p_l1 hq, c0]; omega, by rw [e1, cn, p_l1 hp, c0]; omega, ?_⟩
  intro M2
  have e2 : zI M2 p 4 = nI L.length := e1
  refine ⟨hq.1, hp.1, hp.1, p_k2 hq, p_k2 hp, n0, n0, by rw [e2]; exact ng, by rw [e2, cn, p_l2 hq, c0]; omega, by rw [e2, cn, p_l2 hp, c0]; omega, ?_⟩
  intro M3
  have e3 : zI M3 p 4 = nI L.length := by
    rw [show M3 = zcI M2 (zR M q 2) (0 : Int32).toNatClampNeg (zR M p 2) (0 : Int32).toNatClampNeg (zI M2 p 4).toNatClampNeg from rfl, zI_cI, if_neg (by rw [hp.2.2.2.1]; omega)]
    exact e2
  refine ⟨hq.1, hp.1, hp.1, p_k3 hq, p_k3 hp, n0, n0, by rw [e3]; exact ng, by rw [e3, cn, p_l3 hq, c0]; omega, by rw [e3, cn, p_l3 hp, c0]; omega, ?_⟩
  intro M4
  have f1 : zfr (inP p) M M1 := zfr_uI ⟨Nat.le_refl _, by omega⟩
  have f2 : zfr (inP p) M1 M2 := zfr_cL (by rw [hp.2.2.1]; exact ⟨by omega, by omega⟩)
  have f3 : zfr (inP p) M2 M3 := zfr_cI (by rw [hp.2.2.2.1]; exact ⟨by omega, by omega⟩)
  have f4 : zfr (inP p) M3 M4 := zfr_cI (by rw [hp.2.2.2.2.1]; exact ⟨by omega, by omega⟩)
  refine ⟨rfl, h M4 (zfr_tr f1 (zfr_tr f2 (zfr_tr f3 f4))) ⟨?_, fun j t hj => ?_⟩⟩
  · rw [show M4 = zcI M3 (zR M q 3) (0 : Int32).toNatClampNeg (zR M p 3) (0 : Int32).toNatClampNeg (zI M3 p 4).toNatClampNeg from rfl, zI_cI, if_neg (by rw [hp.2.2.2.2.1]; omega)]
    exact e3
  · obtain ⟨g1, g2, g3⟩ := hL.2 j t hj
    have hjl : j < L.length := (List.getElem?_eq_some_iff.mp hj).1
    refine ⟨?_, ?_, ?_⟩
    · show zL M2 (p + 1) j = _
      rw [show M2 = zcL M1 (zR M q 1) (0 : Int32).toNatClampNeg (zR M p 1) (0 : Int32).toNatClampNeg (zI M1 p 4).toNatClampNeg from rfl, e1, cn, c0, hp.2.2.1, hq.2.2.1, zL_cL, if_pos ⟨rfl, by omega, by omega⟩, Nat.zero_add, Nat.sub_zero]
      exact g1
    · have hM4 : zI M4 (p + 2) j = zI M3 (p + 2) j := by
        rw [show M4 = zcI M3 (zR M q 3) (0 : Int32).toNatClampNeg (zR M p 3) (0 : Int32).toNatClampNeg (zI M3 p 4).toNatClampNeg from rfl, zI_cI, if_neg (by rw [hp.2.2.2.2.1]; omega)]
      rw [hM4, show M3 = zcI M2 (zR M q 2) (0 : Int32).toNatClampNeg (zR M p 2) (0 : Int32).toNatClampNeg (zI M2 p 4).toNatClampNeg from rfl, e2, cn, c0, hp.2.2.2.1, hq.2.2.2.1, zI_cI, if_pos ⟨rfl, by omega, by omega⟩, Nat.zero_add, Nat.sub_zero]
      show zI M1 (q + 2) j = _
      rw [(f1.2.2.2.2 (q + 2) (by unfold inP; omega)).1]
      exact g2
    · rw [show M4 = zcI M3 (zR M q 3) (0 : Int32).toNatClampNeg (zR M p 3) (0 : Int32).toNatClampNeg (zI M3 p 4).toNatClampNeg from rfl, e3, cn, c0, hp.2.2.2.2.1, hq.2.2.2.2.1, zI_cI, if_pos ⟨rfl, by omega, by omega⟩, Nat.zero_add, Nat.sub_zero]
      rw [((zfr_tr f1 (zfr_tr f2 f3)).2.2.2.2 (q + 3) (by unfold inP; omega)).1]
      exact g3
theorem sp_find {d p o k : Nat} {M : zM} {L : aP} {m : aM} {P : Int32 → zM → Prop} (hd : 1 ≤ d) (hp : pst M p o) (hL : pdy M p k L) (hk : pok k L) (hm : mok m) (h : P (nI (apos k m L)) M) : ycI d nX6_find [.ref p, .int (nI (ark k m))] M P := by
  obtain ⟨d, rfl, he⟩ := dS hd
  obtain ⟨hk1, hk2, hk3⟩ := hk
  have hmr := ark_lt (k := k) hm
  have loop : ∀ (n t lo hi : Nat) (o5 : Option Value), n + t = 7 → lo ≤ apos k m L → apos k m L ≤ hi → hi ≤ L.length → hi - lo < 2 ^ n → wX6_find d (fun r M2 => ∃ x : Int32, r = [.int x] ∧ P x M2) 7 [some (.ref p), some (.int (nI (ark k m))), some (.int (nI lo)), some (.int (nI hi)), some (.int (nI t)), o5] [] M := by
    intro n
    induction n with
    | zero =>
      intro t lo hi o5 ht h1 h2 h3 h4
      have hlo : lo = apos k m L := by omega
      have hhi : hi = lo := by omega
      refine sg_X6_find_7 _ _ _ _ _ _ _ ⟨fun _ => ⟨_, rfl, by rw [hlo]; exact h⟩, fun _ => ⟨fun _ => ⟨_, rfl, by rw [hlo]; exact h⟩, fun c => absurd (by rw [hhi]; exact Int32.le_refl _) c⟩⟩
    | succ n ih =>
      intro t lo hi o5 ht h1 h2 h3 h4
      refine sg_X6_find_7 _ _ _ _ _ _ _ ⟨fun c => ?_, fun _ => ⟨fun c => ⟨_, rfl, ?_⟩, fun c => ?_⟩⟩
      · have := (iv_lt (n := 8) (by omega) (by omega)).mp c
        omega
      · have := (iv_lt (by omega) (by omega)).mp c
        rw [show lo = apos k m L by omega]
        exact h
      · have hlt : ¬ hi ≤ lo := fun z => c ((iv_lt (by omega) (by omega)).mpr z)
        intro v5
        have e5 : v5 = nI ((lo + hi) / 2) := by
          rw [show v5 = ((nI lo + nI hi).toUInt32 >>> ((1 : Int32).toUInt32 &&& Int32.toUInt32 31)).toInt32 from rfl, nI_add, pk_ushrN (by omega) 1 1 (by decide)]
        clear_value v5
        subst e5
        have hml : (lo + hi) / 2 < L.length := by omega
        have hu := List.getElem?_eq_getElem hml
        obtain ⟨-, -, g3⟩ := hL.2 _ _ hu
        have hmo := ark_lt (k := k) (hk1 _ (List.mem_of_getElem? hu)).2.2
        rw [cl_n (by omega)]
        refine ⟨hp.1, p_k3 hp, by rw [p_l3 hp]; exact zin_n (by omega) (by omega), fun c2 => ?_, fun c2 => ?_⟩
        · rw [hp.2.2.2.2.1, g3] at c2
          have c2 := (nI_leI (by omega) (by omega)).mp c2
          intro v4
          rw [show v4 = nI (t + 1) from nI_1 t]
          refine ih (t + 1) lo ((lo + hi) / 2) _ (by omega) h1 ?_ (by omega) (by rw [Nat.pow_succ] at h4; omega)
          apply Nat.le_of_not_lt
          intro z
          have := apos_lt z hu
          omega
        · rw [hp.2.2.2.2.1, g3] at c2
          have c2 : ¬ ark k (L[(lo + hi) / 2]).2 ≤ ark k m := fun z => c2 ((nI_leI (by omega) (by omega)).mpr z)
          intro v2 v4
          rw [show v2 = nI ((lo + hi) / 2 + 1) from nI_1 _, show v4 = nI (t + 1) from nI_1 t]
          refine ih (t + 1) ((lo + hi) / 2 + 1) hi _ (by omega) ?_ h2 h3 (by rw [Nat.pow_succ] at h4; omega)
          apply Nat.le_of_not_lt
          intro z
          have := apos_ge (m := m) hk2 (Nat.le_of_lt_succ z) hu
          exact c2 this
  refine en_X6_find _ _ M (sg_X6_find_0 _ _ M ⟨hp.1, ?_⟩)
  intro v3
  rw [show v3 = nI L.length from hL.1]
  have hle := apos_le (k := k) (m := m) L
  have h128 : (2 : Nat) ^ 7 = 128 := by decide
  exact loop 7 0 0 L.length _ rfl (Nat.zero_le _) hle (Nat.le_refl _) (by omega)
theorem sp_shift {d p o c f t : Nat} {M : zM} {P : zM → Prop} (hd : 1 ≤ d) (hp : pst M p o) (hc : zI M p 4 = nI c) (hf : f ≤ c) (ht : t + (c - f) ≤ 100) (hc2 : c ≤ 100)
    (h : ∀ M', zfr (inP p) M M' → zI M' p 4 = nI (c + t - f) → (∀ j, zL M' (p + 1) j = if t ≤ j ∧ j < t + (c - f) then zL M (p + 1) (f + (j - t)) else zL M (p + 1) j) → (∀ j, zI M' (p + 2) j = if t ≤ j ∧ j < t + (c - f) then zI M (p + 2) (f + (j - t)) else zI M (p + 2) j) → (∀ j, zI M' (p + 3) j = if t ≤ j ∧ j < t + (c - f) then zI M (p + 3) (f + (j - t)) else zI M (p + 3) j) → P M') : ycV d nX6_shift [.ref p, .int (nI f), .int (nI t)] M P := by
  obtain ⟨d, rfl, he⟩ := dS hd
  have cf := cl_n (n := f) (by omega)
  have ct := cl_n (n := t) (by omega)
  have nf := nI_pos (n := f) (by omega)
  have nt := nI_pos (n := t) (by omega)
  have es : nI c - nI f = nI (c - f) := pk_sub hf
  have cs := cl_n (n := c - f) (by omega)
  have ns := nI_pos (n := c - f) (by omega)
  refine en_X6_shift _ _ _ M (sg_X6_shift_0 _ _ _ M ⟨hp.1, hp.1, hp.1, p_k1 hp, p_k1 hp, nf, nt, by rw [hc, es]; exact ns, by rw [hc, es, cf, cs, p_l1 hp]; omega, by rw [hc, es, ct, cs, p_l1 hp]; omega, ?_⟩)
  intro M1
  have e1 : zI M1 p 4 = nI c := hc
  refine ⟨hp.1, hp.1, hp.1, p_k2 hp, p_k2 hp, nf, nt, by rw [e1, es]; exact ns, by rw [e1, es, cf, cs, p_l2 hp]; omega, by rw [e1, es, ct, cs, p_l2 hp]; omega, ?_⟩
  intro M2
  have e2 : zI M2 p 4 = nI c := by
    rw [show M2 = zcI M1 (zR M p 2) (nI f).toNatClampNeg (zR M p 2) (nI t).toNatClampNeg (zI M1 p 4 - nI f).toNatClampNeg from rfl, zI_cI, if_neg (by rw [hp.2.2.2.1]; omega)]
    exact e1
  refine ⟨hp.1, hp.1, hp.1, p_k3 hp, p_k3 hp, nf, nt, by rw [e2, es]; exact ns, by rw [e2, es, cf, cs, p_l3 hp]; omega, by rw [e2, es, ct, cs, p_l3 hp]; omega, ?_⟩
  intro M3
  have e3 : zI M3 p 4 = nI c := by
    rw [show M3 = zcI M2 (zR M p 3) (nI f).toNatClampNeg (zR M p 3) (nI t).toNatClampNeg (zI M2 p 4 - nI f).toNatClampNeg from rfl, zI_cI, if_neg (by rw [hp.2.2.2.2.1]; omega)]
    exact e2
  refine ⟨hp.1, hp.1, ?_⟩
  intro M4
  have f1 : zfr (inP p) M M1 := zfr_cL (by rw [hp.2.2.1]; exact ⟨by omega, by omega⟩)
  have f2 : zfr (inP p) M1 M2 := zfr_cI (by rw [hp.2.2.2.1]; exact ⟨by omega, by omega⟩)
  have f3 : zfr (inP p) M2 M3 := zfr_cI (by rw [hp.2.2.2.2.1]; exact ⟨by omega, by omega⟩)
  have f4 : zfr (inP p) M3 M4 := zfr_uI ⟨Nat.le_refl _, by omega⟩
  refine ⟨rfl, h M4 (zfr_tr f1 (zfr_tr f2 (zfr_tr f3 f4))) ?_ (fun j => ?_) (fun j => ?_) (fun j => ?_)⟩
  · rw [show M4 = zuI M3 p 4 (zI M3 p 4 + (nI t - nI f)) from rfl, zI_uI, if_pos ⟨rfl, rfl⟩, e3, i32_addsub, nI_add, pk_sub (by omega)]
  · show zL M1 (p + 1) j = _
    rw [show M1 = zcL M (zR M p 1) (nI f).toNatClampNeg (zR M p 1) (nI t).toNatClampNeg (zI M p 4 - nI f).toNatClampNeg from rfl, hc, es, cf, ct, cs, hp.2.2.1, zL_cL]
    simp only [true_and]
  · have q1 : zI M4 (p + 2) j = zI M3 (p + 2) j := by
      rw [show M4 = zuI M3 p 4 (zI M3 p 4 + (nI t - nI f)) from rfl, zI_uI, if_neg (by omega)]
    have q2 : zI M3 (p + 2) j = zI M2 (p + 2) j := by
      rw [show M3 = zcI M2 (zR M p 3) (nI f).toNatClampNeg (zR M p 3) (nI t).toNatClampNeg (zI M2 p 4 - nI f).toNatClampNeg from rfl, zI_cI, if_neg (by rw [hp.2.2.2.2.1]; omega)]
    rw [q1, q2, show M2 = zcI M1 (zR M p 2) (nI f).toNatClampNeg (zR M p 2) (nI t).toNatClampNeg (zI M1 p 4 - nI f).toNatClampNeg from rfl, e1, es, cf, ct, cs, hp.2.2.2.1, zI_cI]
    simp only [true_and]
    rfl
  · have q1 : zI M4 (p + 3) j = zI M3 (p + 3) j := by
      rw [show M4 = zuI M3 p 4 (zI M3 p 4 + (nI t - nI f)) from rfl, zI_uI, if_neg (by omega)]
    have q2 : ∀ i, zI M2 (p + 3) i = zI M (p + 3) i := fun i => by
      rw [show M2 = zcI M1 (zR M p 2) (nI f).toNatClampNeg (zR M p 2) (nI t).toNatClampNeg (zI M1 p 4 - nI f).toNatClampNeg from rfl, zI_cI, if_neg (by rw [hp.2.2.2.1]; omega)]
      rfl
    rw [q1, show M3 = zcI M2 (zR M p 3) (nI f).toNatClampNeg (zR M p 3) (nI t).toNatClampNeg (zI M2 p 4 - nI f).toNatClampNeg from rfl, e2, es, cf, ct, cs, hp.2.2.2.2.1, zI_cI, q2, q2]
    simp only [true_and]
theorem sp_behead {d p o k : Nat} {M : zM} {L : aP} {P : zM → Prop} (hd : 2 ≤ d) (hp : pst M p o) (hL : pdy M p k L) (hl : L.length ≤ 100) (h : ∀ M', zfr (inP p) M M' → pdy M' p k L.tail → P M') : ycV d nX6_behead [.ref p] M P := by
  obtain ⟨d, rfl, he⟩ := dS hd
  refine en_X6_behead _ M (sg_X6_behead_0 _ M ⟨hp.1, fun c => ⟨rfl, h M zfr_rf ?_⟩, fun c => ⟨hp.1, ?_⟩⟩)
  · rw [hL.1] at c
    have hz : L.length = 0 := by
      have := (nI_leI (a := L.length) (b := 0) (by omega) (by omega)).mp c
      omega
    have : L = [] := List.eq_nil_of_length_eq_zero hz
    subst this
    exact hL
  · rw [hL.1] at c
    have hz : ¬ L.length ≤ 0 := fun z => c ((nI_leI (a := L.length) (b := 0) (by omega) (by omega)).mpr z)
    refine sp_shift (c := L.length) (f := 1) (t := 0) he hp hL.1 (by omega) (by omega) hl fun M' hf h4 h1 h2 h3 => ⟨rfl, h M' hf ⟨?_, fun j t hj => ?_⟩⟩
    · rw [h4, List.length_tail]
      congr 1
    · rw [List.getElem?_tail] at hj
      have hlt : j + 1 < L.length := (List.getElem?_eq_some_iff.mp hj).1
      obtain ⟨g1, g2, g3⟩ := hL.2 _ _ hj
      rw [h1, h2, h3, if_pos (by omega), if_pos (by omega), if_pos (by omega), show 1 + (j - 0) = j + 1 by omega]
      exact ⟨g1, g2, g3⟩
