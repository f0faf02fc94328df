/-! calls of the class: what all of them use -/
theorem idx_n {a : Int32} {n : Nat} (h : idx a n = true) : ∃ i, i < n ∧ i < 2 ^ 31 ∧ a = nI i ∧ a.toNatClampNeg = i := by
  have h := of_decide_eq_true h
  obtain ⟨j, hj, rfl⟩ := nI_of (x := a) (fun z => by
    have := Int32.lt_iff_toInt_lt.mp z
    rw [Int32.toInt_zero] at this
    omega)
  rw [nI_toInt hj] at h
  exact ⟨j, by omega, hj, rfl, cl_n hj⟩
theorem idx_no {a : Int32} {n : Nat} (hn : n < 2 ^ 31) (h : idx a n = false) : a < 0 ∨ (¬ a < 0 ∧ nI n ≤ a) := by
  have h := of_decide_eq_false h
  by_cases h0 : a < 0
  · exact Or.inl h0
  · right
    refine ⟨h0, ?_⟩
    obtain ⟨j, hj, rfl⟩ := nI_of h0
    rw [nI_toInt hj] at h
    exact (nI_leI hn hj).mpr (by omega)
theorem idx_lt {a : Int32} {n : Nat} (hn : n < 2 ^ 31) (h0 : ¬ a < 0) (h : ¬ nI n ≤ a) : idx a n = true := by
  cases hc : idx a n with
  | true => rfl
  | false =>
    rcases idx_no hn hc with z | z
    · exact absurd z h0
    · exact absurd z.2 h
theorem idx_ge {a : Int32} {n : Nat} (hn : n < 2 ^ 31) (h : a < 0 ∨ nI n ≤ a) : idx a n = false := by
  cases hc : idx a n with
  | false => rfl
  | true =>
    obtain ⟨i, h1, h2, rfl, h3⟩ := idx_n hc
    rcases h with z | z
    · exact absurd z (nI_pos h2)
    · have := (nI_leI hn h2).mp z
      omega
theorem sp_isPlace {d : Nat} {M : zM} {a : Int32} {P : Int32 → zM → Prop} (hd : 1 ≤ d) (h1 : ipl a = true → P 1 M) (h0 : ipl a = false → P 0 M) : ycI d nX7_isPlace [.int a] M P := by
  obtain ⟨d, rfl, he⟩ := dS hd
  exact en_X7_isPlace _ M (sg_X7_isPlace_0 _ M ⟨fun c => ⟨Or.inl rfl, _, rfl, h0 (idx_ge (n := 40) (by omega) (Or.inl c))⟩, fun c => ⟨fun c2 => ⟨Or.inl rfl, _, rfl, h0 (idx_ge (n := 40) (by omega) (Or.inr c2))⟩, fun c2 => ⟨Or.inr rfl, _, rfl, h1 (idx_lt (n := 40) (by omega) c c2)⟩⟩⟩)
theorem sp_isLarge {d : Nat} {M : zM} {a b : Int32} {n : Int} {P : Int32 → zM → Prop} (hd : 1 ≤ d) (hb : b.toInt = n) (hn : 0 ≤ n) (h1 : alg a n = true → P 1 M) (h0 : alg a n = false → P 0 M) : ycI d nX7_isLarge [.int a, .int b] M P := by
  obtain ⟨d, rfl, he⟩ := dS hd
  have en : (-b).toInt = -n := by rw [ti_neg (by omega), hb]
  refine en_X7_isLarge _ _ M (sg_X7_isLarge_0 _ _ M ⟨fun c => ⟨Or.inr rfl, _, rfl, h1 ?_⟩, fun c => ⟨fun c2 => ⟨Or.inl rfl, _, rfl, h0 ?_⟩, fun c2 => ⟨Or.inr rfl, _, rfl, h1 ?_⟩⟩⟩)
  · have := Int32.lt_iff_toInt_lt.mp c
    exact decide_eq_true (Or.inl (by omega))
  · have c2 := Int32.le_iff_toInt_le.mp c2
    rw [en] at c2
    exact decide_eq_false fun z => by
      rcases z with z | z
      · exact c (Int32.lt_iff_toInt_lt.mpr (by omega))
      · omega
  · exact decide_eq_true (Or.inr (by
      apply Int.lt_of_not_ge
      intro z
      exact c2 (Int32.le_iff_toInt_le.mpr (by rw [en]; exact z))))
theorem sp_put {d D F q r k : Nat} {M : zM} {e e2 : Nat → Nat} {L : aP} {P : Int32 → zM → Prop} (hd : 2 ≤ d) (hS : xS M D F e e2) (hr : r < 40) (hq : pst M q 3) (hqr : 9 + 4 * r ≤ q ∨ q + 4 ≤ 5 + 4 * r) (hL : pdy M q k L) (hl : L.length ≤ 100) (h : ∀ M', zfr (inP (5 + 4 * r)) M M' → pdy M' (5 + 4 * r) k L → P (nI L.length) M') : ycI d nX7_put [.ref 2, .ref q, .int (nI r)] M P := by
  obtain ⟨d, rfl, he⟩ := dS hd
  have cr := cl_n (n := r) (by omega)
  have h2 := hS.2.1.2.1
  have h4 := hS.2.2.1
  have hpr := h4.2 r hr
  refine en_X7_put _ _ _ M (sg_X7_put_0 _ _ _ M ⟨hS.1.1, by rw [h2, h4.1], by rw [h2, h4.1]; exact zin_n hr (by omega), by rw [h2, cr, hpr.1]; exact hpr.2.1, ?_⟩)
  rw [h2, cr, hpr.1]
  refine sp_become (by omega) hpr.2 hq (by omega) hL hl fun M1 hfr hpd => ⟨(pst_fr hfr hq).1, _, rfl, ?_⟩
  rw [(pdy_fr hfr (inP_ne (by omega)) hL).1]
  exact h M1 hfr hpd
theorem xput_n {s : aX} {r : Nat} {L : aP} (hr : r < 2 ^ 31) : xput s (nI r) L = (xn s, xk s, (xpl s).set r L, xgs s, xhs s, xes s, xdn s, xpv s, xqs s) := by
  unfold xput
  rw [cl_n hr]
theorem xok_put {s : aX} {r : Int32} {L : aP} (h : xok s) (hL : pok (xk s) L) : xok (xput s r L) := by
  obtain ⟨h1, h2, ⟨h3, h3'⟩, h4, h5, h6⟩ := h
  refine ⟨h1, h2, ⟨?_, fun x hx => ?_⟩, h4, h5, h6⟩
  · show ((xpl s).set r.toNatClampNeg L).length = 40
    rw [List.length_set]; exact h3
  · rcases List.mem_or_eq_of_mem_set (show x ∈ (xpl s).set r.toNatClampNeg L from hx) with hx | rfl
    · exact h3' x hx
    · exact hL
theorem xX_put {M M' : zM} {s : aX} {D F r : Nat} {e e2 : Nat → Nat} {L : aP} (h : zfr (inP (5 + 4 * r)) M M') (hr : r < 40) (hp : pdy M' (5 + 4 * r) (xk s) L) (hL : pok (xk s) L) (hx : xX M s D F e e2) : xX M' (xput s (nI r) L) D F e e2 := by
  obtain ⟨ok, hS, ⟨n1, n2, n3, n4, n5⟩, hP, hG, hE, ⟨d1, d2, d3, d4⟩, hQ⟩ := hx
  have hD := hS.2.2.2.2.2.1.2.2
  have f2 := h.2.2.2.2 2 (by unfold inP; omega)
  have f3 := h.2.2.2.2 3 (by unfold inP; omega)
  have f202 := h.2.2.2.2 202 (by unfold inP; omega)
  refine ⟨xok_put ok hL, xS_fr h hS, ⟨by rw [f3.1]; exact n1, by rw [f2.1]; exact n2, by rw [f2.1]; exact n3, by rw [f2.1]; exact n4, by rw [f2.1]; exact n5⟩, fun i L' hi => ?_, fun i L' hi => pdy_fr h (fun a ha => ?_) (hG i L' hi), fun hh => ⟨icn_fr h (by unfold inP; omega) (hE hh).1, iel_fr h hS.2.2.2.2.1.1 (ok.2.2.2.2.1 hh).1 ok.2.2.2.1.1 (ok.2.2.2.2.1 hh).2 (fun i hi a ha => ?_) (hE hh).2⟩, ⟨by rw [f202.1]; exact d1, by rw [f202.1]; exact d2, by rw [f202.1]; exact d3, by rw [f202.1]; exact d4⟩, fun hh hp i q hi => pdy_fr h (fun a ha => ?_) (hQ hh hp i q hi)⟩
  · rw [xput_n (by omega)] at hi
    have hi : ((xpl s).set r L)[i]? = some L' := hi
    rw [List.getElem?_set] at hi
    by_cases hir : r = i
    · subst hir
      rw [if_pos rfl, if_pos (by rw [ok.2.2.1.1]; exact hr)] at hi
      cases hi
      exact hp
    · rw [if_neg hir] at hi
      exact pdy_fr h (inP_ne (by omega)) (hP i L' hi)
  · unfold inP at ha
    unfold inP
    omega
  · have hl := (ok.2.2.2.2.1 hh).2
    have hi : i < (xes s).length := hi
    have := hS.2.2.2.2.1.1.2.2.1.1 i (by omega)
    unfold inE at ha
    unfold inP
    omega
  · unfold inP at ha
    unfold inP
    omega
theorem inP_c {r : Nat} (hr : r < 40) : ∀ a, inP (5 + 4 * r) a → 2 ≤ a ∧ a < 1529 := fun a ha => by unfold inP at ha; omega
/-- a place -/
theorem xX_at {M : zM} {s : aX} {D F i : Nat} {e e2 : Nat → Nat} (hx : xX M s D F e e2) (hi : i < 40) : xat s (nI i) = (xpl s).getD i [] ∧ pdy M (5 + 4 * i) (xk s) (xat s (nI i)) ∧ pok (xk s) (xat s (nI i)) ∧ pst M (5 + 4 * i) 3 := by
  have e1 : xat s (nI i) = (xpl s).getD i [] := by
    unfold xat
    rw [cl_n (by omega)]
  have hl : i < (xpl s).length := by rw [hx.1.2.2.1.1]; exact hi
  have hu : (xpl s)[i]? = some ((xpl s).getD i []) := by
    rw [List.getD_eq_getElem?_getD, List.getElem?_eq_getElem hl]
    rfl
  rw [e1]
  exact ⟨rfl, hx.2.2.2.1 i _ hu, hx.1.2.2.1.2 _ (List.mem_of_getElem? hu), (hx.2.1.2.2.1.2 i hi).2⟩
theorem xX_ost {M : zM} {s : aX} {D F : Nat} {e e2 : Nat → Nat} (hx : xX M s D F e e2) : ost M 3 (xk s) := ⟨hx.2.1.1.2, hx.2.2.1.1, hx.1.2.1⟩
theorem sp_forget {d D F : Nat} {M : zM} {e e2 : Nat → Nat} {P : zM → Prop} (hd : 1 ≤ d) (hS : xS M D F e e2) (h : ∀ M', zfr (fun a => a = 2) M M' → zI M' 2 6 = 0 → zI M' 2 10 = 0 → (∀ j, j ≠ 6 → j ≠ 10 → zI M' 2 j = zI M 2 j) → P M') : ycV d nX7_forgetBasis [.ref 2] M P := by
  obtain ⟨d, rfl, he⟩ := dS hd
  refine en_X7_forgetBasis _ M (sg_X7_forgetBasis_0 _ M ⟨hS.1.1, Or.inl rfl, ?_⟩)
  intro M1
  refine ⟨hS.1.1, Or.inl rfl, ?_⟩
  intro M2
  have e2 : M2 = zuI (zuI M 2 6 0) 2 10 0 := rfl
  refine ⟨rfl, h M2 (zfr_tr (zfr_uI rfl) (zfr_uI rfl)) ?_ ?_ fun j h6 h10 => ?_⟩
  · rw [e2, zI_uI, if_neg (by omega), zI_uI, if_pos ⟨rfl, rfl⟩]
  · rw [e2, zI_uI, if_pos ⟨rfl, rfl⟩]
  · rw [e2, zI_uI, if_neg (by omega), zI_uI, if_neg (by omega)]
theorem sp_isTold {d D F : Nat} {M : zM} {s : aX} {e e2 : Nat → Nat} {w : Int32} {P : Int32 → zM → Prop} (hd : 2 ≤ d) (hx : xX M s D F e e2) (h1 : atold (xn s) (b4 w) = true → P 1 M) (h0 : atold (xn s) (b4 w) = false → P 0 M) : ycI d nX7_isTold [.ref 2, .int w] M P := by
  obtain ⟨d, rfl, he⟩ := dS hd
  have hby := b4_by w
  have hn := hx.1.1
  have no : ¬ (mok (b4 w) ∧ vin (xn s) (b4 w)) → P 0 M := fun z => h0 (by
    cases hc : atold (xn s) (b4 w) with
    | false => rfl
    | true => exact absurd (atold_iff.mp hc) z)
  have loop : ∀ (n v : Nat) (o0 : Option Value), v + n = 4 → mok (b4 w) → xn s ≤ v → (∀ u, xn s ≤ u → u < v → aex (b4 w) u = 0) → wX7_isTold d (fun r M2 => ∃ x : Int32, r = [.int x] ∧ P x M2) 8 [o0, some (.int w), some (.int (nI v))] [] M := by
    intro n
    induction n with
    | zero =>
      intro v o0 hv hm hnv hz
      refine sg_X7_isTold_8 _ _ _ _ ⟨fun _ => ⟨Or.inr rfl, _, rfl, h1 (atold_iff.mpr ⟨hm, ?_⟩)⟩, fun c => absurd (by rw [show v = 4 by omega]; exact Int32.le_refl _) c⟩
      refine ⟨fun z => by omega, fun z => hz 1 z (by omega), fun z => hz 2 z (by omega), fun z => hz 3 z (by omega)⟩
    | succ n ih =>
      intro v o0 hv hm hnv hz
      refine sg_X7_isTold_8 _ _ _ _ ⟨fun c => ?_, fun _ => ?_⟩
      · have := (nI_leI (a := 4) (by omega) (by omega)).mp c
        omega
      · have hs := sp_exponent (d := d) (M := M) (m := b4 w) (v := v) (P := fun c2 M1 => ((c2 = 0 → (let v2_3 : Int32 := nI v + 1
wX7_isTold d (fun r M2 => ∃ x : Int32, r = [.int x] ∧ P x M2) 8 [o0, some (.int w), some (.int v2_3)] [] M1)) ∧ (¬ (c2 = 0) → (zb ((0 : Int32)) ∧ (∃ x : Int32, [Value.int 0] = [.int x] ∧ P x M1))))) (by omega) hby (by omega)
        rw [b4_e8] at hs
        have hb2 : aex (b4 w) v ≤ 30 := aex_ok hm v
        refine hs ⟨fun c => ?_, fun c => ⟨Or.inl rfl, _, rfl, no fun z => c ?_⟩⟩
        · have c := (nI_z (by omega)).mp c
          intro v2
          rw [show v2 = nI (v + 1) from nI_1 v]
          refine ih (v + 1) _ (by omega) hm (by omega) fun u h1 h2 => ?_
          by_cases e : u = v
          · rw [e]; exact c
          · exact hz u h1 (by omega)
        · obtain ⟨-, z0, z1, z2, z3⟩ := z
          match v, hv, hnv with
          | 0, _, hnv => omega
          | 1, _, hnv => show nI (b4 w).2.1 = 0; rw [z1 hnv]; rfl
          | 2, _, hnv => show nI (b4 w).2.2.1 = 0; rw [z2 hnv]; rfl
          | 3, _, hnv => show nI (b4 w).2.2.2 = 0; rw [z3 hnv]; rfl
          | v + 4, hv, _ => omega
  refine en_X7_isTold _ _ M (sg_X7_isTold_0 _ _ M ?_)
  have hs := sp_isInside (d := d) (M := M) (m := b4 w) (P := fun c2 M1 => ((¬ c2 = 0 → ((zsh M1 2).1 = 15 ∧ (let v2_3 : Int32 := zI M1 2 0
wX7_isTold d (fun r M2 => ∃ x : Int32, r = [.int x] ∧ P x M2) 8 [some (.ref 2), some (.int w), some (.int v2_3)] [] M1))) ∧ (¬ (¬ c2 = 0) → (zb ((0 : Int32)) ∧ (∃ x : Int32, [Value.int 0] = [.int x] ∧ P x M1))))) (by omega) hby
  rw [b4_e8] at hs
  refine hs (fun hm => ⟨fun _ => ⟨hx.2.1.1.1, ?_⟩, fun z => absurd (Classical.not_not.mp z) (by decide)⟩) (fun hm => ⟨fun z => absurd rfl z, fun _ => ⟨Or.inl rfl, _, rfl, no fun z => hm z.1⟩⟩)
  intro v2
  rw [show v2 = nI (xn s) from hx.2.2.1.2.1]
  exact loop (4 - xn s) (xn s) _ (by omega) hm (Nat.le_refl _) fun u h1 h2 => by omega
