/-! THE DOCUMENT'S MONOMIALS: exponents of four variables -/
abbrev aM : Type := Nat × Nat × Nat × Nat
def aex (m : aM) : Nat → Nat
  | 0 => m.1
  | 1 => m.2.1
  | 2 => m.2.2.1
  | _ => m.2.2.2
def mok (m : aM) : Prop := m.1 ≤ 30 ∧ m.2.1 ≤ 30 ∧ m.2.2.1 ≤ 30 ∧ m.2.2.2 ≤ 30
def mby (m : aM) : Prop := m.1 < 256 ∧ m.2.1 < 256 ∧ m.2.2.1 < 256 ∧ m.2.2.2 < 256
theorem mok_by {m : aM} (h : mok m) : mby m := by unfold mok at h; unfold mby; omega
def c8 (m : aM) : Nat := m.1 + 256 * m.2.1 + 65536 * m.2.2.1 + 16777216 * m.2.2.2
/-- a monomial as the class holds it -/
def e8 (m : aM) : Int32 := nI (c8 m)
def madd (a b : aM) : aM := (a.1 + b.1, a.2.1 + b.2.1, a.2.2.1 + b.2.2.1, a.2.2.2 + b.2.2.2)
def msub (a b : aM) : aM := (a.1 - b.1, a.2.1 - b.2.1, a.2.2.1 - b.2.2.1, a.2.2.2 - b.2.2.2)
def mdvd (a b : aM) : Prop := a.1 ≤ b.1 ∧ a.2.1 ≤ b.2.1 ∧ a.2.2.1 ≤ b.2.2.1 ∧ a.2.2.2 ≤ b.2.2.2
def mlcm (a b : aM) : aM := (max a.1 b.1, max a.2.1 b.2.1, max a.2.2.1 b.2.2.1, max a.2.2.2 b.2.2.2)
def mapart (a b : aM) : Prop := (a.1 = 0 ∨ b.1 = 0) ∧ (a.2.1 = 0 ∨ b.2.1 = 0) ∧ (a.2.2.1 = 0 ∨ b.2.2.1 = 0) ∧ (a.2.2.2 = 0 ∨ b.2.2.2 = 0)
def mone : aM := (0, 0, 0, 0)
def munit : Nat → aM
  | 0 => (1, 0, 0, 0)
  | 1 => (0, 1, 0, 0)
  | 2 => (0, 0, 1, 0)
  | _ => (0, 0, 0, 1)
/-- the ORDER of a kind, as a number: the greater monomial has the greater one -/
def ark (k : Nat) (m : aM) : Nat := if k = 0 then m.1 * 16777216 + m.2.1 * 65536 + m.2.2.1 * 256 + m.2.2.2 else
  (if k = 1 then 0 else m.1 * 4194304) + ((m.1 + m.2.1 + m.2.2.1 + m.2.2.2) * 32768 + (30 - m.2.2.2) * 1024 + (30 - m.2.2.1) * 32 + (30 - m.2.1))
theorem ark_inj {k : Nat} {a b : aM} (ha : mok a) (hb : mok b) (h : ark k a = ark k b) : a = b := by
  obtain ⟨a0, a1, a2, a3⟩ := a
  obtain ⟨b0, b1, b2, b3⟩ := b
  unfold mok at ha hb
  unfold ark at h
  dsimp only at ha hb h
  have : a0 = b0 ∧ a1 = b1 ∧ a2 = b2 ∧ a3 = b3 := by
    split at h
    · omega
    · split at h <;> omega
  obtain ⟨rfl, rfl, rfl, rfl⟩ := this
  rfl
theorem ark_lt {k : Nat} {a : aM} (ha : mok a) : ark k a < 1073741824 := by
  unfold mok at ha
  unfold ark
  split
  · omega
  · split <;> omega
theorem c8_lt {m : aM} (h : mby m) : c8 m < 4294967296 := by unfold mby at h; unfold c8; omega
theorem c8_lt' {m : aM} (h : mok m) : c8 m < 536870912 := by unfold mok at h; unfold c8; omega
theorem c8_inj {a b : aM} (ha : mby a) (hb : mby b) (h : c8 a = c8 b) : a = b := by
  obtain ⟨a0, a1, a2, a3⟩ := a
  obtain ⟨b0, b1, b2, b3⟩ := b
  unfold mby at ha hb
  unfold c8 at h
  dsimp only at ha hb h
  have : a0 = b0 ∧ a1 = b1 ∧ a2 = b2 ∧ a3 = b3 := by omega
  obtain ⟨rfl, rfl, rfl, rfl⟩ := this
  rfl
theorem e8_inj {a b : aM} (ha : mok a) (hb : mok b) (h : e8 a = e8 b) : a = b := by
  have h1 := c8_lt' ha
  have h2 := c8_lt' hb
  exact c8_inj (mok_by ha) (mok_by hb) ((nI_eq (by omega) (by omega)).mp h)
theorem e8_add {a b : aM} : e8 a + e8 b = e8 (madd a b) := by
  unfold e8
  rw [nI_add]
  congr 1
  unfold c8 madd
  dsimp only
  omega
theorem e8_sub {a b : aM} (h : mdvd b a) : e8 a - e8 b = e8 (msub a b) := by
  unfold mdvd at h
  unfold e8
  rw [pk_sub (by unfold c8; omega)]
  congr 1
  unfold c8 msub
  dsimp only
  omega
theorem and2 {a a' x x' : Nat} (ha : a < 256) (ha' : a' < 256) : (a + 256 * x) &&& (a' + 256 * x') = (a &&& a') + 256 * (x &&& x') := by
  have h1 : ((a + 256 * x) &&& (a' + 256 * x')) % 2 ^ 8 = a &&& a' := by
    rw [Nat.and_mod_two_pow, show (a + 256 * x) % 2 ^ 8 = a by omega, show (a' + 256 * x') % 2 ^ 8 = a' by omega]
  have h2 : ((a + 256 * x) &&& (a' + 256 * x')) / 2 ^ 8 = x &&& x' := by
    rw [Nat.and_div_two_pow, show (a + 256 * x) / 2 ^ 8 = x by omega, show (a' + 256 * x') / 2 ^ 8 = x' by omega]
  omega
theorem or2 {a a' x x' : Nat} (ha : a < 256) (ha' : a' < 256) : (a + 256 * x) ||| (a' + 256 * x') = (a ||| a') + 256 * (x ||| x') := by
  have h1 : ((a + 256 * x) ||| (a' + 256 * x')) % 2 ^ 8 = a ||| a' := by
    rw [Nat.or_mod_two_pow, show (a + 256 * x) % 2 ^ 8 = a by omega, show (a' + 256 * x') % 2 ^ 8 = a' by omega]
  have h2 : ((a + 256 * x) ||| (a' + 256 * x')) / 2 ^ 8 = x ||| x' := by
    rw [Nat.or_div_two_pow, show (a + 256 * x) / 2 ^ 8 = x by omega, show (a' + 256 * x') / 2 ^ 8 = x' by omega]
  omega
theorem c8_n (m : aM) : c8 m = m.1 + 256 * (m.2.1 + 256 * (m.2.2.1 + 256 * m.2.2.2)) := by unfold c8; omega
theorem and4 {a b : aM} (ha : mby a) (hb : mby b) : c8 a &&& c8 b = c8 (a.1 &&& b.1, a.2.1 &&& b.2.1, a.2.2.1 &&& b.2.2.1, a.2.2.2 &&& b.2.2.2) := by
  unfold mby at ha hb
  rw [c8_n, c8_n, c8_n, and2 (by omega) (by omega), and2 (by omega) (by omega), and2 (by omega) (by omega)]
theorem or4 {a b : aM} (ha : mby a) (hb : mby b) : c8 a ||| c8 b = c8 (a.1 ||| b.1, a.2.1 ||| b.2.1, a.2.2.1 ||| b.2.2.1, a.2.2.2 ||| b.2.2.2) := by
  unfold mby at ha hb
  rw [c8_n, c8_n, c8_n, or2 (by omega) (by omega), or2 (by omega) (by omega), or2 (by omega) (by omega)]
theorem by224 : ∀ a, a < 256 → ((a &&& 224 = 0) ↔ a < 32) := by decide +kernel
theorem by128 : ∀ a, a < 256 → ((a &&& 128 = 128) ↔ 128 ≤ a) := by decide +kernel
theorem by128o : ∀ a, a < 128 → a ||| 128 = a + 128 := by decide +kernel
theorem by224z : ∀ a, a < 256 → a &&& 224 < 256 := by decide +kernel
theorem by128z : ∀ a, a < 256 → a &&& 128 < 256 := by decide +kernel
/-- every int is four bytes -/
theorem e8_all (x : Int32) : ∃ m : aM, mby m ∧ x = e8 m := by
  have hl := x.toBitVec.isLt
  refine ⟨(x.toBitVec.toNat % 256, x.toBitVec.toNat / 256 % 256, x.toBitVec.toNat / 65536 % 256, x.toBitVec.toNat / 16777216), by unfold mby; dsimp only; omega, ?_⟩
  apply Int32.toBitVec_inj.mp
  apply BitVec.eq_of_toNat_eq
  unfold e8
  rw [pk_tn (by unfold c8; dsimp only; omega)]
  unfold c8
  dsimp only
  omega
theorem tn_inj {x y : Int32} : x = y ↔ x.toBitVec.toNat = y.toBitVec.toNat := ⟨fun h => h ▸ rfl, fun h => Int32.toBitVec_inj.mp (BitVec.eq_of_toNat_eq h)⟩
theorem tn_e8 {m : aM} (h : mby m) : (e8 m).toBitVec.toNat = c8 m := pk_tn (by have := c8_lt h; omega)
theorem in_1 {m : aM} (h : mby m) : (e8 m &&& (-522133280)) = 0 ↔ m.1 < 32 ∧ m.2.1 < 32 ∧ m.2.2.1 < 32 ∧ m.2.2.2 < 32 := by
  have hm : (-522133280 : Int32).toBitVec.toNat = c8 (224, 224, 224, 224) := by decide
  have h' := h
  unfold mby at h'
  rw [tn_inj, Int32.toBitVec_and, BitVec.toNat_and, tn_e8 h, hm, and4 h (by unfold mby; decide), show (0 : Int32).toBitVec.toNat = 0 by decide]
  dsimp only
  have q1 := by224 _ h'.1
  have q2 := by224 _ h'.2.1
  have q3 := by224 _ h'.2.2.1
  have q4 := by224 _ h'.2.2.2
  rw [← q1, ← q2, ← q3, ← q4]
  unfold c8
  dsimp only
  omega
theorem in_ok {m : aM} (h : mby m) : ((e8 m &&& (-522133280)) = 0 ∧ ((e8 m + 16843009) &&& (-522133280)) = 0) ↔ mok m := by
  rw [in_1 h]
  constructor
  · rintro ⟨h1, h2⟩
    have e : e8 m + 16843009 = e8 (madd m (1, 1, 1, 1)) := by
      rw [← e8_add]
      rfl
    rw [e, in_1 (by unfold mby madd; dsimp only; omega)] at h2
    unfold madd at h2
    unfold mok
    dsimp only at h2
    omega
  · intro h1
    unfold mok at h1
    refine ⟨by omega, ?_⟩
    have e : e8 m + 16843009 = e8 (madd m (1, 1, 1, 1)) := by
      rw [← e8_add]
      rfl
    rw [e, in_1 (by unfold mby madd; dsimp only; omega)]
    unfold madd
    dsimp only
    omega
theorem dv_ok {a b : aM} (ha : mok a) (hb : mok b) : (((e8 b ||| (-2139062144)) - e8 a) &&& (-2139062144)) = (-2139062144) ↔ mdvd a b := by
  have hm : (-2139062144 : Int32).toBitVec.toNat = c8 (128, 128, 128, 128) := by decide
  have hb' := hb
  have ha' := ha
  unfold mok at ha' hb'
  have e1 : (e8 b ||| (-2139062144 : Int32)) = e8 (b.1 + 128, b.2.1 + 128, b.2.2.1 + 128, b.2.2.2 + 128) := by
    rw [tn_inj, Int32.toBitVec_or, BitVec.toNat_or, tn_e8 (mok_by hb), hm, or4 (mok_by hb) (by unfold mby; decide), tn_e8 (by unfold mby; dsimp only; omega)]
    dsimp only
    rw [by128o _ (by omega), by128o _ (by omega), by128o _ (by omega), by128o _ (by omega)]
  rw [e1, e8_sub (by unfold mdvd; dsimp only; omega)]
  have hmb : mby (msub (b.1 + 128, b.2.1 + 128, b.2.2.1 + 128, b.2.2.2 + 128) a) := by unfold mby msub; dsimp only; omega
  rw [tn_inj, Int32.toBitVec_and, BitVec.toNat_and, tn_e8 hmb, hm, and4 hmb (by unfold mby; decide)]
  unfold mdvd msub
  dsimp only
  have q1 := by128 (b.1 + 128 - a.1) (by omega)
  have q2 := by128 (b.2.1 + 128 - a.2.1) (by omega)
  have q3 := by128 (b.2.2.1 + 128 - a.2.2.1) (by omega)
  have q4 := by128 (b.2.2.2 + 128 - a.2.2.2) (by omega)
  have z1 := by128z (b.1 + 128 - a.1) (by omega)
  have z2 := by128z (b.2.1 + 128 - a.2.1) (by omega)
  have z3 := by128z (b.2.2.1 + 128 - a.2.2.1) (by omega)
  have z4 := by128z (b.2.2.2 + 128 - a.2.2.2) (by omega)
  have k : c8 ((b.1 + 128 - a.1) &&& 128, (b.2.1 + 128 - a.2.1) &&& 128, (b.2.2.1 + 128 - a.2.2.1) &&& 128, (b.2.2.2 + 128 - a.2.2.2) &&& 128) = c8 (128, 128, 128, 128) ↔ ((b.1 + 128 - a.1) &&& 128 = 128 ∧ (b.2.1 + 128 - a.2.1) &&& 128 = 128 ∧ (b.2.2.1 + 128 - a.2.2.1) &&& 128 = 128 ∧ (b.2.2.2 + 128 - a.2.2.2) &&& 128 = 128) := by
    unfold c8
    dsimp only
    omega
  rw [k, q1, q2, q3, q4]
  omega
/-- exponents out of a class's monomial -/
theorem ex_8 {m : aM} (h : mby m) {v : Nat} (hv : v < 4) : (((e8 m).toUInt32 >>> ((8 * nI v).toUInt32 &&& Int32.toUInt32 31)).toInt32 &&& 255) = nI (aex m v) := by
  have hl := c8_lt h
  unfold mby at h
  have key : ∀ (s : Int32) (k : Nat), ((s.toUInt32 &&& Int32.toUInt32 31).toBitVec % 32).toNat = k → (((e8 m).toUInt32 >>> (s.toUInt32 &&& Int32.toUInt32 31)).toInt32 &&& 255) = nI (c8 m / 2 ^ k % 2 ^ 8) := by
    intro s k hs
    unfold e8
    rw [pk_ushrN (by omega) s k hs, pk_andN (Nat.lt_of_le_of_lt (Nat.div_le_self _ _) (by omega)) 8 (by decide)]
  match v, hv with
  | 0, _ => rw [key _ 0 (by decide)]; show nI _ = nI m.1; congr 1; unfold c8; omega
  | 1, _ => rw [key _ 8 (by decide)]; show nI _ = nI m.2.1; congr 1; unfold c8; omega
  | 2, _ => rw [key _ 16 (by decide)]; show nI _ = nI m.2.2.1; congr 1; unfold c8; omega
  | 3, _ => rw [key _ 24 (by decide)]; show nI _ = nI m.2.2.2; congr 1; unfold c8; omega
