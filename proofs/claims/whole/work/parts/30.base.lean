/-! calls by the kind of their answer; numbers -/
def ycV (d m : Nat) (as : List Value) (M : zM) (P : zM → Prop) : Prop := zCl gTb d m as M fun r M2 => r = [] ∧ P M2
def ycI (d m : Nat) (as : List Value) (M : zM) (P : Int32 → zM → Prop) : Prop := zCl gTb d m as M fun r M2 => ∃ x : Int32, r = [.int x] ∧ P x M2
def ycJ (d m : Nat) (as : List Value) (M : zM) (P : Int64 → zM → Prop) : Prop := zCl gTb d m as M fun r M2 => ∃ x : Int64, r = [.long x] ∧ P x M2
def ycR (d m : Nat) (as : List Value) (M : zM) (P : Nat → zM → Prop) : Prop := zCl gTb d m as M fun r M2 => ∃ x : Nat, r = [.ref x] ∧ P x M2
theorem ti_add {a b : Int32} (h : -2147483648 ≤ a.toInt + b.toInt ∧ a.toInt + b.toInt < 2147483648) : (a + b).toInt = a.toInt + b.toInt := by
  rw [Int32.toInt_add]; exact Int.bmod_eq_of_le (by omega) (by omega)
theorem ti_sub {a b : Int32} (h : -2147483648 ≤ a.toInt - b.toInt ∧ a.toInt - b.toInt < 2147483648) : (a - b).toInt = a.toInt - b.toInt := by
  rw [Int32.toInt_sub]; exact Int.bmod_eq_of_le (by omega) (by omega)
theorem ti_mul {a b : Int32} (h : -2147483648 ≤ a.toInt * b.toInt ∧ a.toInt * b.toInt < 2147483648) : (a * b).toInt = a.toInt * b.toInt := by
  rw [Int32.toInt_mul]; exact Int.bmod_eq_of_le (by omega) (by omega)
theorem ti_neg {a : Int32} (h : -2147483648 < a.toInt) : (-a).toInt = -a.toInt := by
  have := a.toInt_lt
  rw [Int32.toInt_neg]; exact Int.bmod_eq_of_le (by omega) (by omega)
theorem tl_add {a b : Int64} (h : -9223372036854775808 ≤ a.toInt + b.toInt ∧ a.toInt + b.toInt < 9223372036854775808) : (a + b).toInt = a.toInt + b.toInt := by
  rw [Int64.toInt_add]; exact Int.bmod_eq_of_le (by omega) (by omega)
theorem tl_sub {a b : Int64} (h : -9223372036854775808 ≤ a.toInt - b.toInt ∧ a.toInt - b.toInt < 9223372036854775808) : (a - b).toInt = a.toInt - b.toInt := by
  rw [Int64.toInt_sub]; exact Int.bmod_eq_of_le (by omega) (by omega)
theorem tl_mul {a b : Int64} (h : -9223372036854775808 ≤ a.toInt * b.toInt ∧ a.toInt * b.toInt < 9223372036854775808) : (a * b).toInt = a.toInt * b.toInt := by
  rw [Int64.toInt_mul]; exact Int.bmod_eq_of_le (by omega) (by omega)
theorem tl_neg {a : Int64} (h : -9223372036854775808 < a.toInt) : (-a).toInt = -a.toInt := by
  have := a.toInt_lt
  rw [Int64.toInt_neg]; exact Int.bmod_eq_of_le (by omega) (by omega)
theorem tl_div {a b : Int64} (h : 0 < b.toInt) : (a / b).toInt = a.toInt.tdiv b.toInt := Int64.toInt_div_of_ne_right a b (fun e => by rw [e] at h; exact absurd h (by decide))
theorem tI_of {n : Int} (h : -2147483648 ≤ n ∧ n < 2147483648) : (Int32.ofInt n).toInt = n := Int32.toInt_ofInt_of_le (by omega) (by omega)
theorem tL_of {n : Int} (h : -9223372036854775808 ≤ n ∧ n < 9223372036854775808) : (Int64.ofInt n).toInt = n := Int64.toInt_ofInt_of_le (by omega) (by omega)
theorem tI_eq {x : Int32} {n : Int} (h : x.toInt = n) : x = Int32.ofInt n := by rw [← h, Int32.ofInt_toInt]
theorem tL_eq {x : Int64} {n : Int} (h : x.toInt = n) : x = Int64.ofInt n := by rw [← h, Int64.ofInt_toInt]
theorem lc_le {x y : Int64} : (lg_cmp x y ≤ 0) ↔ x.toInt ≤ y.toInt := (lg_cmp_le x y).trans Int64.le_iff_toInt_le
theorem lc_ge {x y : Int64} : (0 ≤ lg_cmp x y) ↔ y.toInt ≤ x.toInt := (lg_cmp_ge x y).trans Int64.le_iff_toInt_le
theorem lc_lt {x y : Int64} : (lg_cmp x y < 0) ↔ x.toInt < y.toInt := by
  have h := lc_ge (x := x) (y := y)
  rw [← Int32.not_le, h]; omega
theorem lc_gt {x y : Int64} : (0 < lg_cmp x y) ↔ y.toInt < x.toInt := by
  have h := lc_le (x := x) (y := y)
  rw [← Int32.not_le, h]; omega
theorem lc_eq {x y : Int64} : (lg_cmp x y = 0) ↔ x.toInt = y.toInt := by
  have h1 := lc_le (x := x) (y := y)
  have h2 := lc_ge (x := x) (y := y)
  constructor
  · intro h
    rw [h] at h1 h2
    have := h1.mp (Int32.le_refl 0)
    have := h2.mp (Int32.le_refl 0)
    omega
  · intro h
    exact Int32.le_antisymm (h1.mpr (by omega)) (h2.mpr (by omega))
theorem zin_iff {j : Int32} {n : Nat} : zin j n ↔ 0 ≤ j.toInt ∧ j.toInt < n := vp_in_iff
theorem clN {j : Int32} : j.toNatClampNeg = j.toInt.toNat := rfl
/-! THE DOCUMENT'S FRACTIONS -/
abbrev aF : Type := Int × Int
def fok (f : aF) : Prop := (-1000000000 ≤ f.1 ∧ f.1 ≤ 1000000000) ∧ 0 < f.2 ∧ f.2 ≤ 1000000000
/-- in lowest terms, if both parts are small enough (the denominator is above 0) -/
def alow (a b : Int) : Option aF := if (-1000000000 ≤ a / (Int.gcd a b : Int) ∧ a / (Int.gcd a b : Int) ≤ 1000000000) ∧ b / (Int.gcd a b : Int) ≤ 1000000000 then some (a / (Int.gcd a b : Int), b / (Int.gcd a b : Int)) else none
def afsum (x y : aF) : Option aF := alow (x.1 * y.2 + y.1 * x.2) (x.2 * y.2)
def afmul (x y : aF) : Option aF := alow (x.1 * y.1) (x.2 * y.2)
/-- a fraction as the class holds it -/
def eF (f : aF) : Int64 := Int64.ofInt (f.1 * 4294967296 + f.2)
def eFo : Option aF → Int64
  | none => 0
  | some f => eF f
theorem eF_int {f : aF} (h : fok f) : (eF f).toInt = f.1 * 4294967296 + f.2 := by
  obtain ⟨⟨h1, h2⟩, h3, h4⟩ := h
  exact tL_of (by omega)
theorem eF_inj {f g : aF} (hf : fok f) (hg : fok g) (h : eF f = eF g) : f = g := by
  have e := congrArg Int64.toInt h
  rw [eF_int hf, eF_int hg] at e
  obtain ⟨⟨h1, h2⟩, h3, h4⟩ := hf
  obtain ⟨⟨g1, g2⟩, g3, g4⟩ := hg
  exact Prod.ext (by omega) (by omega)
theorem eF_ne0 {f : aF} (h : fok f) : eF f ≠ 0 := by
  intro e
  have e := congrArg Int64.toInt e
  rw [eF_int h, Int64.toInt_zero] at e
  obtain ⟨⟨h1, h2⟩, h3, h4⟩ := h
  omega
theorem sh32 : ((32 : Int32).toInt64 &&& 63) = 32 := by decide
theorem eF_over {f : aF} (h : fok f) : (eF f >>> ((32 : Int32).toInt64 &&& 63)).toInt32 = Int32.ofInt f.1 := by
  have e : (eF f >>> (32 : Int64)).toInt = f.1 := by
    have : (eF f >>> (32 : Int64)).toInt = (eF f).toInt >>> 32 := by
      rw [← Int64.toInt_toBitVec, Int64.toBitVec_shiftRight, show (Int64.toBitVec 32).smod 64 = 32#64 by decide, BitVec.sshiftRight_eq', BitVec.toInt_sshiftRight]
      rfl
    rw [this, eF_int h, Int.shiftRight_eq_div_pow]
    obtain ⟨⟨h1, h2⟩, h3, h4⟩ := h
    omega
  rw [sh32, tL_eq e, Int64.toInt32_ofInt]
theorem eF_under {f : aF} (h : fok f) : (eF f).toInt32 = Int32.ofInt f.2 := by
  unfold eF
  rw [Int64.toInt32_ofInt]
  apply Int32.toInt_inj.mp
  rw [Int32.toInt_ofInt, Int32.toInt_ofInt]
  show Int.bmod (f.1 * 4294967296 + f.2) 4294967296 = Int.bmod f.2 4294967296
  rw [Int.add_comm, Int.mul_comm]
  exact Int.add_mul_bmod_self_left _ _ _
/-- a long put together of its two halves -/
theorem eF_pack {x y : Int64} (hx : -1000000000 ≤ x.toInt ∧ x.toInt ≤ 1000000000) (hy : 0 ≤ y.toInt ∧ y.toInt < 4294967296) : (x <<< ((32 : Int32).toInt64 &&& 63)) ||| y = Int64.ofInt (x.toInt * 4294967296 + y.toInt) := by
  rw [sh32]
  apply Int64.toBitVec_inj.mp
  rw [Int64.toBitVec_or, Int64.toBitVec_shiftLeft, show (Int64.toBitVec 32).smod 64 = 32#64 by decide]
  have hyn : y.toBitVec.toNat < 2 ^ 32 := by
    have h1 : y.toInt = (y.toBitVec.toNat : Int) := by
      rw [← Int64.toInt_toBitVec, BitVec.toInt_eq_toNat_of_lt]
      have h2 := hy.1
      rw [← Int64.toInt_toBitVec] at h2
      have := y.toBitVec.isLt
      rw [BitVec.toInt_eq_toNat_cond] at h2
      split at h2 <;> omega
    omega
  have hyi : y.toInt = (y.toBitVec.toNat : Int) := by
    rw [← Int64.toInt_toBitVec, BitVec.toInt_eq_toNat_of_lt (by omega)]
  apply BitVec.eq_of_toNat_eq
  have e1 : (x.toBitVec <<< 32#64).toNat = (x.toBitVec.toNat % 2 ^ 32) <<< 32 := by
    rw [BitVec.shiftLeft_eq', BitVec.toNat_shiftLeft, Nat.shiftLeft_eq, Nat.shiftLeft_eq]
    show x.toBitVec.toNat * 2 ^ 32 % 2 ^ 64 = _
    omega
  rw [BitVec.toNat_or, e1, ← Nat.shiftLeft_add_eq_or_of_lt hyn, Nat.shiftLeft_eq]
  show _ = (BitVec.ofInt 64 (x.toInt * 4294967296 + y.toInt)).toNat
  rw [BitVec.toNat_ofInt, hyi]
  have hxi := BitVec.toInt_eq_toNat_cond x.toBitVec
  rw [Int64.toInt_toBitVec] at hxi
  have hxl := x.toBitVec.isLt
  split at hxi <;> omega
