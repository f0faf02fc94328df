/-! the class's fractions -/
theorem dS {d c : Nat} (h : c + 1 ≤ d) : ∃ e, d = e + 1 ∧ c ≤ e := ⟨d - 1, by omega, by omega⟩
theorem sp_over {d : Nat} {M : zM} {f : aF} {P : Int32 → zM → Prop} (hd : 1 ≤ d) (hf : fok f) (h : P (Int32.ofInt f.1) M) : ycI d nX2_over [.long (eF f)] M P := by
  obtain ⟨d, rfl, he⟩ := dS hd
  exact en_X2_over _ M (sg_X2_over_0 _ M ⟨_, rfl, by rw [eF_over hf]; exact h⟩)
theorem sp_under {d : Nat} {M : zM} {f : aF} {P : Int32 → zM → Prop} (hd : 1 ≤ d) (hf : fok f) (h : P (Int32.ofInt f.2) M) : ycI d nX2_under [.long (eF f)] M P := by
  obtain ⟨d, rfl, he⟩ := dS hd
  exact en_X2_under _ M (sg_X2_under_0 _ M ⟨_, rfl, by rw [eF_under hf]; exact h⟩)
theorem euc_half {c r k : Nat} (h1 : c < 2 ^ (k + 1)) (h2 : r < c) (h3 : 0 < r) : c % r < 2 ^ k := by
  rw [Nat.pow_succ] at h1
  have := Nat.mod_lt c h3
  by_cases h : r ≤ c / 2
  · omega
  · have : c % r = c - r := by
      rw [Nat.mod_eq_sub_mod (by omega), Nat.mod_eq_of_lt (by omega)]
    omega
theorem tl_rem {a b : Int64} {C R : Nat} (ha : a.toInt = C) (hb : b.toInt = R) (h : 0 < R) : (a - a / b * b).toInt = ((C % R : Nat) : Int) := by
  have hl := a.toInt_lt
  have e1 : (a / b).toInt = ((C / R : Nat) : Int) := by
    rw [tl_div (by omega), ha, hb, Int.ofNat_tdiv]
  have hq := Nat.div_mul_le_self C R
  have e2 : (a / b * b).toInt = ((C / R * R : Nat) : Int) := by
    have : (a / b).toInt * b.toInt = ((C / R * R : Nat) : Int) := by rw [e1, hb, Int.natCast_mul]
    rw [tl_mul (by rw [this]; omega), this]
  have hm := Nat.div_add_mod C R
  have hc : R * (C / R) = C / R * R := Nat.mul_comm _ _
  rw [tl_sub (by rw [e2, ha]; omega), e2, ha]
  omega
theorem lw_loop {d : Nat} {Q : List Value → zM → Prop} {M : zM} {a0 a2 : Int64} {g : Nat} (hfin : ∀ (a4 : Int64) (o6 o7 o8 o9 o10 o11 : Option Value), a4.toInt = (g : Int) → wX2_lowest d Q 30 [some (.long a0), none, some (.long a2), none, some (.long a4), none, o6, o7, o8, o9, o10, o11] [] M) :
    ∀ (n k C R t : Nat) (a4 a6 : Int64) (a8 : Int32) (o9 o10 o11 : Option Value), 200 - t ≤ n → a8.toInt = (t : Int) → a4.toInt = (C : Int) → a6.toInt = (R : Int) → Nat.gcd C R = g → (R < 2 ^ k ∧ t + 2 * k ≤ 199) ∨ (C < 2 ^ k ∧ R < C ∧ t + 2 * k ≤ 200) → wX2_lowest d Q 13 [some (.long a0), none, some (.long a2), none, some (.long a4), none, some (.long a6), none, some (.int a8), o9, o10, o11] [] M := by
  intro n
  induction n with
  | zero =>
    intro k C R t a4 a6 a8 o9 o10 o11 hn h8 h4 h6 hg hk
    have hR : R = 0 := by
      rcases hk with ⟨h1, h2⟩ | ⟨h1, h2, h3⟩
      · omega
      · have : k = 0 := by omega
        subst this
        omega
    subst hR
    have hC : (C : Int) = (g : Int) := by rw [← hg, Nat.gcd_zero_right]
    refine sg_X2_lowest_13 _ _ _ _ _ _ _ _ _ ⟨fun _ => hfin _ _ _ _ _ _ _ (h4.trans hC), fun _ => ⟨fun _ => hfin _ _ _ _ _ _ _ (h4.trans hC), fun h => absurd (lc_eq.mpr h6) h⟩⟩
  | succ n ih =>
    intro k C R t a4 a6 a8 o9 o10 o11 hn h8 h4 h6 hg hk
    by_cases hR : R = 0
    · subst hR
      have hC : (C : Int) = (g : Int) := by rw [← hg, Nat.gcd_zero_right]
      refine sg_X2_lowest_13 _ _ _ _ _ _ _ _ _ ⟨fun _ => hfin _ _ _ _ _ _ _ (h4.trans hC), fun _ => ⟨fun _ => hfin _ _ _ _ _ _ _ (h4.trans hC), fun h => absurd (lc_eq.mpr h6) h⟩⟩
    · have hRp : 0 < R := Nat.pos_of_ne_zero hR
      have ht : t < 200 := by
        rcases hk with ⟨h1, h2⟩ | ⟨h1, h2, h3⟩
        · omega
        · match k, h1, h3 with
          | 0, h1, _ => omega
          | k + 1, _, h3 => omega
      refine sg_X2_lowest_13 _ _ _ _ _ _ _ _ _ ⟨fun h => ?_, fun _ => ⟨fun h => ?_, fun h => ⟨fun e => ?_, ?_⟩⟩⟩
      · rw [Int32.le_iff_toInt_le, h8] at h
        have : (200 : Int32).toInt = 200 := by decide
        omega
      · have := lc_eq.mp h
        rw [h6, Int64.toInt_zero] at this
        omega
      · rw [e, Int64.toInt_zero] at h6
        omega
      · intro w9 v8
        have h8' : v8.toInt = ((t + 1 : Nat) : Int) := by
          have : (1 : Int32).toInt = 1 := by decide
          rw [ti_add (by rw [h8, this]; omega), h8, this]; omega
        have h9 : w9.toInt = ((C % R : Nat) : Int) := tl_rem h4 h6 hRp
        have hg' : Nat.gcd R (C % R) = g := by rw [← hg, Nat.gcd_comm R, ← Nat.gcd_rec, Nat.gcd_comm]
        have hlt := Nat.mod_lt C hRp
        rcases hk with ⟨h1, h2⟩ | ⟨h1, h2, h3⟩
        · exact ih k R (C % R) (t + 1) _ _ _ _ _ _ (by omega) h8' h6 h9 hg' (Or.inr ⟨h1, hlt, by omega⟩)
        · match k, h1, h3 with
          | 0, h1, _ => omega
          | k + 1, h1, h3 => exact ih k R (C % R) (t + 1) _ _ _ _ _ _ (by omega) h8' h6 h9 hg' (Or.inl ⟨euc_half h1 h2 hRp, by omega⟩)
theorem lowest_end {d : Nat} {Q : List Value → zM → Prop} {M : zM} {x y : Int64} {A B : Int} (o0 o1 o2 o3 o4 o5 o6 o7 : Option Value) (hx : x.toInt = A / (Int.gcd A B : Int)) (hy : y.toInt = B / (Int.gcd A B : Int)) (hy0 : 0 < y.toInt) (h : Q [.long (eFo (alow A B))] M) : wX2_lowest d Q 46 [o0, o1, o2, o3, o4, o5, o6, o7, some (.long x), none, some (.long y), none] [] M := by
  have e1 : (1000000000 : Int64).toInt = 1000000000 := by decide
  have e2 : (-1000000000 : Int64).toInt = -1000000000 := by decide
  have no : ¬ ((-1000000000 ≤ x.toInt ∧ x.toInt ≤ 1000000000) ∧ y.toInt ≤ 1000000000) → Q [.long 0] M := fun hn => by
    unfold alow at h
    rw [← hx, ← hy, if_neg hn] at h
    exact h
  refine sg_X2_lowest_46 _ _ _ _ _ _ _ _ _ _ _ ⟨fun c1 => ?_, fun c1 => ⟨fun c2 => ?_, fun c2 => ⟨fun c3 => ?_, fun c3 => ⟨fun c4 => ?_, fun c4 => ?_⟩⟩⟩⟩
  · rw [lc_gt, e1] at c1
    exact no (by omega)
  · rw [lc_lt, e2] at c2
    exact no (by omega)
  · rw [lc_gt, e1] at c3
    exact no (by omega)
  · rw [lc_gt, e1] at c1 c3
    rw [lc_lt, e2] at c2
    unfold alow at h
    rw [← hx, ← hy, if_pos (by omega)] at h
    rw [eF_pack (by omega) (by omega)]
    exact h
  · rw [lc_gt, Int64.toInt_zero] at c4
    omega
theorem sp_lowest {d : Nat} {M : zM} {a b : Int64} {A B : Int} {P : Int64 → zM → Prop} (hd : 1 ≤ d) (ha : a.toInt = A) (hb : b.toInt = B) (hA : -4000000000000000000 ≤ A ∧ A ≤ 4000000000000000000) (hB : 0 < B ∧ B ≤ 1000000000000000000) (h : P (eFo (alow A B)) M) : ycJ d nX2_lowest [.long a, .long b] M P := by
  obtain ⟨d, rfl, he⟩ := dS hd
  have h0 : (0 : Int64).toInt = 0 := by decide
  have h1 : (1 : Int64).toInt = 1 := by decide
  have hg0 : 0 < Int.gcd A B := Int.gcd_pos_of_ne_zero_right _ (by omega)
  obtain ⟨b1, hb1⟩ := Int.gcd_dvd_right A B
  obtain ⟨a1, ha1⟩ := Int.gcd_dvd_left A B
  have hb1p : 0 < b1 := by
    rcases Int.lt_or_le 0 b1 with h | h
    · exact h
    · have := Int.mul_nonpos_of_nonneg_of_nonpos (Int.natCast_nonneg (Int.gcd A B)) h
      omega
  have eA : A / (Int.gcd A B : Int) = a1 := Int.ediv_eq_of_eq_mul_right (by omega) ha1
  have eB : B / (Int.gcd A B : Int) = b1 := Int.ediv_eq_of_eq_mul_right (by omega) hb1
  have fin : ∀ (a4 : Int64) (o6 o7 o8 o9 o10 o11 : Option Value), a4.toInt = ((Int.gcd A B : Nat) : Int) → wX2_lowest d (fun r M2 => ∃ x : Int64, r = [.long x] ∧ P x M2) 30 [some (.long a), none, some (.long b), none, some (.long a4), none, o6, o7, o8, o9, o10, o11] [] M := by
    intro a4 o6 o7 o8 o9 o10 o11 h4
    refine sg_X2_lowest_30 _ _ _ _ _ _ _ _ _ _ ⟨fun c => ?_, fun c => ⟨fun e => ?_, ?_⟩⟩
    · rw [lc_le, h1, h4] at c
      have hg1 : Int.gcd A B = 1 := by omega
      rw [hg1] at eA eB
      refine lowest_end (A := A) (B := B) _ _ _ _ _ _ _ _ ?_ ?_ (by omega) ⟨_, rfl, h⟩
      · rw [ha, hg1]; omega
      · rw [hb, hg1]; omega
    · rw [e, h0] at h4
      omega
    · intro w8
      refine ⟨fun e => ?_, ?_⟩
      · rw [e, h0] at h4
        omega
      · intro w10
        have e8 : w8.toInt = A / (Int.gcd A B : Int) := by
          rw [show w8 = a / a4 from rfl, tl_div (by omega), ha, h4]
          exact Int.tdiv_eq_ediv_of_dvd (Int.gcd_dvd_left A B)
        have e10 : w10.toInt = B / (Int.gcd A B : Int) := by
          rw [show w10 = b / a4 from rfl, tl_div (by omega), hb, h4]
          exact Int.tdiv_eq_ediv_of_dvd (Int.gcd_dvd_right A B)
        exact lowest_end (A := A) (B := B) _ _ _ _ _ _ _ _ e8 e10 (by rw [e10, eB]; exact hb1p) ⟨_, rfl, h⟩
  have start : ∀ (s0 : Int64) (o4 o5 o6 o7 o8 o9 o10 o11 : Option Value), s0.toInt = ((A.natAbs : Nat) : Int) → wX2_lowest d (fun r M2 => ∃ x : Int64, r = [.long x] ∧ P x M2) 8 [some (.long a), none, some (.long b), none, o4, o5, o6, o7, o8, o9, o10, o11] [.long s0] M := by
    intro s0 o4 o5 o6 o7 o8 o9 o10 o11 hs
    refine sg_X2_lowest_8 _ _ _ _ _ _ _ _ _ _ _ _ ?_
    refine lw_loop (g := Int.gcd A B) fin 200 60 A.natAbs B.natAbs 0 _ _ _ _ _ _ (by omega) (by decide) hs (by rw [hb]; omega) rfl (Or.inl ⟨by
      have : (2 : Nat) ^ 60 = 1152921504606846976 := by decide
      omega, by omega⟩)
  refine en_X2_lowest _ _ M (sg_X2_lowest_0 _ _ M ⟨fun c => start _ _ _ _ _ _ _ _ _ ?_, fun c => start _ _ _ _ _ _ _ _ _ ?_⟩)
  · rw [lc_ge, h0, ha] at c
    omega
  · rw [lc_ge, h0, ha] at c
    rw [tl_neg (by rw [ha]; omega), ha]
    omega
theorem tI64 {n : Int} (h : -2147483648 ≤ n ∧ n < 2147483648) : (Int32.ofInt n).toInt64.toInt = n := by rw [Int32.toInt_toInt64, tI_of h]
theorem mul_le_abs {a b m n : Int} (ha : -m ≤ a ∧ a ≤ m) (hb : -n ≤ b ∧ b ≤ n) (hm : 0 ≤ m) (hn : 0 ≤ n) : -(m * n) ≤ a * b ∧ a * b ≤ m * n := by
  have h := Int.natAbs_mul a b
  have h1 : a.natAbs ≤ m.natAbs := by omega
  have h2 : b.natAbs ≤ n.natAbs := by omega
  have h3 := Nat.mul_le_mul h1 h2
  rw [← h, ← Int.natAbs_mul] at h3
  have h4 : 0 ≤ m * n := Int.mul_nonneg hm hn
  omega
theorem sp_fsum {d : Nat} {M : zM} {f g : aF} {P : Int64 → zM → Prop} (hd : 2 ≤ d) (hf : fok f) (hg : fok g) (h : P (eFo (afsum f g)) M) : ycJ d nX2_sum [.long (eF f), .long (eF g)] M P := by
  obtain ⟨d, rfl, he⟩ := dS hd
  obtain ⟨⟨f1, f2⟩, f3, f4⟩ := id hf
  obtain ⟨⟨g1, g2⟩, g3, g4⟩ := id hg
  have m1 := mul_le_abs (a := f.1) (b := g.2) (m := 1000000000) (n := 1000000000) (by omega) (by omega) (by omega) (by omega)
  have m2 := mul_le_abs (a := g.1) (b := f.2) (m := 1000000000) (n := 1000000000) (by omega) (by omega) (by omega) (by omega)
  have m3 := mul_le_abs (a := f.2) (b := g.2) (m := 1000000000) (n := 1000000000) (by omega) (by omega) (by omega) (by omega)
  have m4 := Int.mul_pos f3 g3
  refine en_X2_sum _ _ M (sg_X2_sum_0 _ _ M ?_)
  refine sp_over he hf (sp_under he hg (sp_over he hg (sp_under he hf ?_)))
  intro w4
  have e1 : ((Int32.ofInt f.1).toInt64 * (Int32.ofInt g.2).toInt64).toInt = f.1 * g.2 := by
    rw [tl_mul (by rw [tI64 (by omega), tI64 (by omega)]; omega), tI64 (by omega), tI64 (by omega)]
  have e2 : ((Int32.ofInt g.1).toInt64 * (Int32.ofInt f.2).toInt64).toInt = g.1 * f.2 := by
    rw [tl_mul (by rw [tI64 (by omega), tI64 (by omega)]; omega), tI64 (by omega), tI64 (by omega)]
  have e3 : ((Int32.ofInt f.2).toInt64 * (Int32.ofInt g.2).toInt64).toInt = f.2 * g.2 := by
    rw [tl_mul (by rw [tI64 (by omega), tI64 (by omega)]; omega), tI64 (by omega), tI64 (by omega)]
  refine sp_under he hf (sp_under he hg (sp_lowest he (A := f.1 * g.2 + g.1 * f.2) (B := f.2 * g.2) ?_ e3 (by omega) (by omega) ⟨_, rfl, h⟩))
  rw [show w4 = (Int32.ofInt f.1).toInt64 * (Int32.ofInt g.2).toInt64 + (Int32.ofInt g.1).toInt64 * (Int32.ofInt f.2).toInt64 from rfl, tl_add (by rw [e1, e2]; omega), e1, e2]
theorem sp_fmul {d : Nat} {M : zM} {f g : aF} {P : Int64 → zM → Prop} (hd : 2 ≤ d) (hf : fok f) (hg : fok g) (h : P (eFo (afmul f g)) M) : ycJ d nX2_product [.long (eF f), .long (eF g)] M P := by
  obtain ⟨d, rfl, he⟩ := dS hd
  obtain ⟨⟨f1, f2⟩, f3, f4⟩ := id hf
  obtain ⟨⟨g1, g2⟩, g3, g4⟩ := id hg
  have m1 := mul_le_abs (a := f.1) (b := g.1) (m := 1000000000) (n := 1000000000) (by omega) (by omega) (by omega) (by omega)
  have m3 := mul_le_abs (a := f.2) (b := g.2) (m := 1000000000) (n := 1000000000) (by omega) (by omega) (by omega) (by omega)
  have m4 := Int.mul_pos f3 g3
  refine en_X2_product _ _ M (sg_X2_product_0 _ _ M ?_)
  refine sp_over he hf (sp_over he hg (sp_under he hf (sp_under he hg ?_)))
  have e1 : ((Int32.ofInt f.1).toInt64 * (Int32.ofInt g.1).toInt64).toInt = f.1 * g.1 := by
    rw [tl_mul (by rw [tI64 (by omega), tI64 (by omega)]; omega), tI64 (by omega), tI64 (by omega)]
  have e3 : ((Int32.ofInt f.2).toInt64 * (Int32.ofInt g.2).toInt64).toInt = f.2 * g.2 := by
    rw [tl_mul (by rw [tI64 (by omega), tI64 (by omega)]; omega), tI64 (by omega), tI64 (by omega)]
  exact sp_lowest he (A := f.1 * g.1) (B := f.2 * g.2) e1 e3 (by omega) (by omega) ⟨_, rfl, h⟩
theorem sp_fneg {d : Nat} {M : zM} {f : aF} {P : Int64 → zM → Prop} (hd : 2 ≤ d) (hf : fok f) (h : P (eF (-f.1, f.2)) M) : ycJ d nX2_negative [.long (eF f)] M P := by
  obtain ⟨d, rfl, he⟩ := dS hd
  obtain ⟨⟨f1, f2⟩, f3, f4⟩ := id hf
  refine en_X2_negative _ M (sg_X2_negative_0 _ M ?_)
  refine sp_over he hf (sp_under he hf ⟨_, rfl, ?_⟩)
  have e1 : (-(Int32.ofInt f.1)).toInt64.toInt = -f.1 := by rw [Int32.toInt_toInt64, ti_neg (by rw [tI_of (by omega)]; omega), tI_of (by omega)]
  have e2 : (Int32.ofInt f.2).toInt64.toInt = f.2 := tI64 (by omega)
  rw [eF_pack (by rw [e1]; omega) (by rw [e2]; omega), e1, e2]
  exact h
/-- one by a fraction -/
def afinv (f : aF) : aF := if f.1 < 0 then (-f.2, -f.1) else (f.2, f.1)
theorem sp_finv {d : Nat} {M : zM} {f : aF} {P : Int64 → zM → Prop} (hd : 2 ≤ d) (hf : fok f) (h0 : f.1 ≠ 0) (h : P (eF (afinv f)) M) : ycJ d nX2_inverse [.long (eF f)] M P := by
  obtain ⟨d, rfl, he⟩ := dS hd
  obtain ⟨⟨f1, f2⟩, f3, f4⟩ := id hf
  refine en_X2_inverse _ M (sg_X2_inverse_0 _ M ?_)
  refine sp_over he hf ?_
  intro w2
  refine sp_under he hf ?_
  intro w4
  have e1 : w2.toInt = f.1 := tI64 (by omega)
  have e2 : w4.toInt = f.2 := tI64 (by omega)
  have e0 : (0 : Int64).toInt = 0 := by decide
  refine ⟨fun c => ⟨_, rfl, ?_⟩, fun c => ⟨_, rfl, ?_⟩⟩
  · rw [lc_ge, e0, e1] at c
    rw [eF_pack (by rw [e2]; omega) (by rw [e1]; omega), e1, e2]
    unfold afinv at h
    rw [if_neg (by omega)] at h
    exact h
  · rw [lc_ge, e0, e1] at c
    have e3 : (-w4).toInt = -f.2 := by rw [tl_neg (by rw [e2]; omega), e2]
    have e4 : (-w2).toInt = -f.1 := by rw [tl_neg (by rw [e1]; omega), e1]
    rw [eF_pack (by rw [e3]; omega) (by rw [e4]; omega), e3, e4]
    unfold afinv at h
    rw [if_pos (by omega)] at h
    exact h
