/-! the class's monomials and their order -/
theorem iv_lt {v : Nat} {n : Nat} (hv : v < 2 ^ 31) (hn : n < 2 ^ 31) : (nI n ≤ nI v) ↔ n ≤ v := nI_leI hn hv
theorem sp_exponent {d : Nat} {M : zM} {m : aM} {v : Nat} {P : Int32 → zM → Prop} (hd : 1 ≤ d) (hm : mby m) (hv : v < 4) (h : P (nI (aex m v)) M) : ycI d nX4_exponent [.int (e8 m), .int (nI v)] M P := by
  obtain ⟨d, rfl, he⟩ := dS hd
  exact en_X4_exponent _ _ M (sg_X4_exponent_0 _ _ M ⟨_, rfl, by rw [ex_8 hm hv]; exact h⟩)
theorem sp_single {d : Nat} {M : zM} {v : Nat} {P : Int32 → zM → Prop} (hd : 1 ≤ d) (hv : v < 4) (h : P (e8 (munit v)) M) : ycI d nX4_single [.int (nI v)] M P := by
  obtain ⟨d, rfl, he⟩ := dS hd
  have e : ((1 : Int32) <<< ((8 * nI v) &&& 31)) = e8 (munit v) := by
    match v, hv with
    | 0, _ => decide
    | 1, _ => decide
    | 2, _ => decide
    | 3, _ => decide
  exact en_X4_single _ M (sg_X4_single_0 _ M ⟨_, rfl, by rw [e]; exact h⟩)
theorem sp_isInside {d : Nat} {M : zM} {m : aM} {P : Int32 → zM → Prop} (hd : 1 ≤ d) (hm : mby m) (h1 : mok m → P 1 M) (h0 : ¬ mok m → P 0 M) : ycI d nX4_isInside [.int (e8 m)] M P := by
  obtain ⟨d, rfl, he⟩ := dS hd
  have k := in_ok hm
  refine en_X4_isInside _ M (sg_X4_isInside_0 _ M ⟨fun c => ⟨Or.inl rfl, _, rfl, h0 fun z => c (k.mpr z).1⟩, fun c => ⟨fun c2 => ⟨Or.inl rfl, _, rfl, h0 fun z => c2 (k.mpr z).2⟩, fun c2 => ⟨Or.inr rfl, _, rfl, h1 (k.mp ⟨Classical.not_not.mp c, Classical.not_not.mp c2⟩)⟩⟩⟩)
theorem sp_divides {d : Nat} {M : zM} {a b : aM} {P : Int32 → zM → Prop} (hd : 1 ≤ d) (ha : mok a) (hb : mok b) (h1 : mdvd a b → P 1 M) (h0 : ¬ mdvd a b → P 0 M) : ycI d nX4_divides [.int (e8 a), .int (e8 b)] M P := by
  obtain ⟨d, rfl, he⟩ := dS hd
  have k := dv_ok ha hb
  exact en_X4_divides _ _ M (sg_X4_divides_0 _ _ M ⟨fun c => ⟨Or.inl rfl, _, rfl, h0 fun z => c (k.mpr z)⟩, fun c => ⟨Or.inr rfl, _, rfl, h1 (k.mp (Classical.not_not.mp c))⟩⟩)
/-- the first v exponents alone; the one of v alone -/
def mfst : Nat → aM → aM
  | 0, _ => (0, 0, 0, 0)
  | 1, m => (m.1, 0, 0, 0)
  | 2, m => (m.1, m.2.1, 0, 0)
  | 3, m => (m.1, m.2.1, m.2.2.1, 0)
  | _, m => m
def mnly : Nat → aM → aM
  | 0, m => (m.1, 0, 0, 0)
  | 1, m => (0, m.2.1, 0, 0)
  | 2, m => (0, 0, m.2.2.1, 0)
  | _, m => (0, 0, 0, m.2.2.2)
theorem by255 : ∀ a, a < 256 → a &&& 255 = a := by decide +kernel
theorem mnly_8 {m : aM} (h : mok m) {v : Nat} (hv : v < 4) : e8 m &&& ((255 : Int32) <<< ((8 * nI v) &&& 31)) = e8 (mnly v m) := by
  have hb := mok_by h
  have key : ∀ (mk : Int32) (q : aM), mk.toBitVec.toNat = c8 q → mby q → e8 m &&& mk = e8 (m.1 &&& q.1, m.2.1 &&& q.2.1, m.2.2.1 &&& q.2.2.1, m.2.2.2 &&& q.2.2.2) := by
    intro mk q hq hqb
    have hz : mby (m.1 &&& q.1, m.2.1 &&& q.2.1, m.2.2.1 &&& q.2.2.1, m.2.2.2 &&& q.2.2.2) := by
      unfold mby at hb ⊢
      dsimp only
      have a1 := @Nat.and_le_left m.1 q.1
      have a2 := @Nat.and_le_left m.2.1 q.2.1
      have a3 := @Nat.and_le_left m.2.2.1 q.2.2.1
      have a4 := @Nat.and_le_left m.2.2.2 q.2.2.2
      omega
    rw [tn_inj, Int32.toBitVec_and, BitVec.toNat_and, tn_e8 hb, hq, and4 hb hqb, tn_e8 hz]
  unfold mby at hb
  match v, hv with
  | 0, _ => rw [key _ (255, 0, 0, 0) (by decide) (by unfold mby; decide)]; simp [by255 _ hb.1, mnly]
  | 1, _ => rw [key _ (0, 255, 0, 0) (by decide) (by unfold mby; decide)]; simp [by255 _ hb.2.1, mnly]
  | 2, _ => rw [key _ (0, 0, 255, 0) (by decide) (by unfold mby; decide)]; simp [by255 _ hb.2.2.1, mnly]
  | 3, _ => rw [key _ (0, 0, 0, 255) (by decide) (by unfold mby; decide)]; simp [by255 _ hb.2.2.2, mnly]
theorem or_8 {a b : aM} (ha : mby a) (hb : mby b) (hc : mby (a.1 ||| b.1, a.2.1 ||| b.2.1, a.2.2.1 ||| b.2.2.1, a.2.2.2 ||| b.2.2.2)) : e8 a ||| e8 b = e8 (a.1 ||| b.1, a.2.1 ||| b.2.1, a.2.2.1 ||| b.2.2.1, a.2.2.2 ||| b.2.2.2) := by
  rw [tn_inj, Int32.toBitVec_or, BitVec.toNat_or, tn_e8 ha, tn_e8 hb, or4 ha hb, tn_e8 hc]
theorem mfst_or {m : aM} (h : mok m) {v : Nat} (hv : v < 4) : e8 (mfst v m) ||| e8 (mnly v m) = e8 (mfst (v + 1) m) := by
  have hb := mok_by h
  unfold mby at hb
  match v, hv with
  | 0, _ => rw [or_8] <;> simp [mfst, mnly, mby] <;> omega
  | 1, _ => rw [or_8] <;> simp [mfst, mnly, mby] <;> omega
  | 2, _ => rw [or_8] <;> simp [mfst, mnly, mby] <;> omega
  | 3, _ => rw [or_8] <;> simp [mfst, mnly, mby] <;> omega
theorem mlcm_ok {a b : aM} (ha : mok a) (hb : mok b) : mok (mlcm a b) := by
  unfold mok at *
  unfold mlcm
  dsimp only
  omega
theorem mnly_max {a b : aM} {v : Nat} (hv : v < 4) : (aex b v ≤ aex a v → mnly v a = mnly v (mlcm a b)) ∧ (aex a v ≤ aex b v → mnly v b = mnly v (mlcm a b)) := by
  match v, hv with
  | 0, _ => exact ⟨fun h => by simp [mnly, mlcm, aex] at *; omega, fun h => by simp [mnly, mlcm, aex] at *; omega⟩
  | 1, _ => exact ⟨fun h => by simp [mnly, mlcm, aex] at *; omega, fun h => by simp [mnly, mlcm, aex] at *; omega⟩
  | 2, _ => exact ⟨fun h => by simp [mnly, mlcm, aex] at *; omega, fun h => by simp [mnly, mlcm, aex] at *; omega⟩
  | 3, _ => exact ⟨fun h => by simp [mnly, mlcm, aex] at *; omega, fun h => by simp [mnly, mlcm, aex] at *; omega⟩
theorem aex_lt {m : aM} (h : mok m) (v : Nat) : aex m v ≤ 30 := by
  unfold mok at h
  unfold aex
  split <;> omega
theorem sp_leastCommon {d : Nat} {M : zM} {a b : aM} {P : Int32 → zM → Prop} (hd : 2 ≤ d) (ha : mok a) (hb : mok b) (h : P (e8 (mlcm a b)) M) : ycI d nX4_leastCommon [.int (e8 a), .int (e8 b)] M P := by
  obtain ⟨d, rfl, he⟩ := dS hd
  have loop : ∀ (n v : Nat) (o4 : Option Value), v + n = 4 → wX4_leastCommon d (fun r M2 => ∃ x : Int32, r = [.int x] ∧ P x M2) 4 [some (.int (e8 a)), some (.int (e8 b)), some (.int (e8 (mfst v (mlcm a b)))), some (.int (nI v)), o4] [] M := by
    intro n
    induction n with
    | zero =>
      intro v o4 hv
      have : v = 4 := by omega
      subst this
      exact sg_X4_leastCommon_4 _ _ _ _ _ _ ⟨fun _ => ⟨_, rfl, h⟩, fun c => absurd (show (4 : Int32) ≤ nI 4 by decide) c⟩
    | succ n ih =>
      intro v o4 hv
      refine sg_X4_leastCommon_4 _ _ _ _ _ _ ⟨fun c => ?_, fun _ => ?_⟩
      · have := (iv_lt (n := 4) (by omega) (by omega)).mp c
        omega
      · intro v4
        refine sp_exponent he (mok_by ha) (by omega) (sp_exponent he (mok_by hb) (by omega) ⟨fun c => ?_, fun c => ?_⟩)
        · intro v2 v3
          have h1 := aex_lt ha v
          have h2 := aex_lt hb v
          have hle := (nI_ltI (by omega) (by omega)).mp c
          have e2 : v2 = e8 (mfst (v + 1) (mlcm a b)) := by
            rw [show v2 = e8 (mfst v (mlcm a b)) ||| (e8 b &&& v4) from rfl, mnly_8 hb (by omega), (mnly_max (a := a) (b := b) (by omega)).2 (by omega), mfst_or (mlcm_ok ha hb) (by omega)]
          have e3 : v3 = nI (v + 1) := nI_1 v
          rw [e2, e3]
          exact ih (v + 1) _ (by omega)
        · intro v2 v3
          have h1 := aex_lt ha v
          have h2 := aex_lt hb v
          have hle : ¬ aex a v < aex b v := fun z => c ((nI_ltI (by omega) (by omega)).mpr z)
          have e2 : v2 = e8 (mfst (v + 1) (mlcm a b)) := by
            rw [show v2 = e8 (mfst v (mlcm a b)) ||| (e8 a &&& v4) from rfl, mnly_8 ha (by omega), (mnly_max (a := a) (b := b) (by omega)).1 (by omega), mfst_or (mlcm_ok ha hb) (by omega)]
          have e3 : v3 = nI (v + 1) := nI_1 v
          rw [e2, e3]
          exact ih (v + 1) _ (by omega)
  exact en_X4_leastCommon _ _ M (sg_X4_leastCommon_0 _ _ M (loop 4 0 _ rfl))
theorem mapart_iff {a b : aM} : mapart a b ↔ ∀ v, v < 4 → aex a v = 0 ∨ aex b v = 0 := by
  unfold mapart
  constructor
  · rintro ⟨h0, h1, h2, h3⟩ v hv
    match v, hv with
    | 0, _ => exact h0
    | 1, _ => exact h1
    | 2, _ => exact h2
    | 3, _ => exact h3
  · intro h
    exact ⟨h 0 (by omega), h 1 (by omega), h 2 (by omega), h 3 (by omega)⟩
theorem nI_z {n : Nat} (h : n < 2 ^ 31) : nI n = 0 ↔ n = 0 := by
  rw [← nI_0]
  exact nI_eq h (by omega)
theorem sp_haveVar {d : Nat} {M : zM} {a b : aM} {P : Int32 → zM → Prop} (hd : 2 ≤ d) (ha : mok a) (hb : mok b) (h1 : ¬ mapart a b → P 1 M) (h0 : mapart a b → P 0 M) : ycI d nX4_haveVariableInCommon [.int (e8 a), .int (e8 b)] M P := by
  obtain ⟨d, rfl, he⟩ := dS hd
  have loop : ∀ (n v : Nat), v + n = 4 → (∀ u, u < v → aex a u = 0 ∨ aex b u = 0) → wX4_haveVariableInCommon d (fun r M2 => ∃ x : Int32, r = [.int x] ∧ P x M2) 2 [some (.int (e8 a)), some (.int (e8 b)), some (.int (nI v))] [] M := by
    intro n
    induction n with
    | zero =>
      intro v hv hu
      have : v = 4 := by omega
      subst this
      exact sg_X4_haveVariableInCommon_2 _ _ _ _ ⟨fun _ => ⟨Or.inl rfl, _, rfl, h0 (mapart_iff.mpr hu)⟩, fun c => absurd (show (4 : Int32) ≤ nI 4 by decide) c⟩
    | succ n ih =>
      intro v hv hu
      have q1 := aex_lt ha v
      have q2 := aex_lt hb v
      have next : (aex a v = 0 ∨ aex b v = 0) → wX4_haveVariableInCommon d (fun r M2 => ∃ x : Int32, r = [.int x] ∧ P x M2) 2 [some (.int (e8 a)), some (.int (e8 b)), some (.int (nI v + 1))] [] M := fun hz => by
        rw [nI_1]
        refine ih (v + 1) (by omega) fun u hu2 => ?_
        by_cases e : u = v
        · subst e; exact hz
        · exact hu u (by omega)
      refine sg_X4_haveVariableInCommon_2 _ _ _ _ ⟨fun c => ?_, fun _ => sp_exponent he (mok_by ha) (by omega) ⟨fun c => ?_, fun c => sp_exponent he (mok_by hb) (by omega) ⟨fun c2 => ?_, fun c2 => ?_⟩⟩⟩
      · have := (iv_lt (n := 4) (by omega) (by omega)).mp c
        omega
      · exact next (Or.inl ((nI_z (by omega)).mp c))
      · exact next (Or.inr ((nI_z (by omega)).mp c2))
      · refine ⟨Or.inr rfl, _, rfl, h1 fun z => ?_⟩
        rcases (mapart_iff.mp z) v (by omega) with z | z
        · exact c ((nI_z (by omega)).mpr z)
        · exact c2 ((nI_z (by omega)).mpr z)
  exact en_X4_haveVariableInCommon _ _ M (sg_X4_haveVariableInCommon_0 _ _ M (loop 4 0 rfl fun u hu => absurd hu (by omega)))
theorem or_nI {x y : Nat} (hx : x < 2 ^ 32) (hy : y < 2 ^ 32) : nI x ||| nI y = nI (x ||| y) := by
  rw [tn_inj, Int32.toBitVec_or, BitVec.toNat_or, pk_tn hx, pk_tn hy, pk_tn (Nat.or_lt_two_pow hx hy)]
theorem or_add {i a b : Nat} (h : b < 2 ^ i) : a * 2 ^ i ||| b = a * 2 ^ i + b := by
  rw [Nat.mul_comm, Nat.two_pow_add_eq_or_of_lt h]
theorem ex_key {m : aM} (h : mby m) (s : Int32) (k : Nat) (hs : ((s.toUInt32 &&& Int32.toUInt32 31).toBitVec % 32).toNat = k) : (((e8 m).toUInt32 >>> (s.toUInt32 &&& Int32.toUInt32 31)).toInt32 &&& 255) = nI (c8 m / 2 ^ k % 2 ^ 8) := by
  have hl := c8_lt h
  unfold e8
  rw [pk_ushrN (by omega) s k hs, pk_andN (Nat.lt_of_le_of_lt (Nat.div_le_self _ _) (by omega)) 8 (by decide)]
theorem sp_rank {d : Nat} {M : zM} {o k : Nat} {m : aM} {P : Int32 → zM → Prop} (hd : 1 ≤ d) (hm : mok m) (ho : (zsh M o).1 = 13) (hk : zI M o 0 = nI k) (hk2 : k ≤ 2) (h : P (nI (ark k m)) M) : ycI d nX5_rank [.ref o, .int (e8 m)] M P := by
  obtain ⟨d, rfl, he⟩ := dS hd
  have hb := mok_by hm
  have hl := c8_lt' hm
  unfold mok at hm
  have e2 : e8 m &&& 255 = nI m.1 := by
    unfold e8
    rw [pk_andN (by omega) 8 (by decide)]
    congr 1; unfold c8; omega
  have e3 : (((e8 m).toUInt32 >>> ((8 : Int32).toUInt32 &&& Int32.toUInt32 31)).toInt32 &&& 255) = nI m.2.1 := by
    rw [ex_key hb 8 8 (by decide)]; congr 1; unfold c8; omega
  have e4 : (((e8 m).toUInt32 >>> ((16 : Int32).toUInt32 &&& Int32.toUInt32 31)).toInt32 &&& 255) = nI m.2.2.1 := by
    rw [ex_key hb 16 16 (by decide)]; congr 1; unfold c8; omega
  have e5 : (((e8 m).toUInt32 >>> ((24 : Int32).toUInt32 &&& Int32.toUInt32 31)).toInt32 &&& 255) = nI m.2.2.2 := by
    rw [ex_key hb 24 24 (by decide)]; congr 1; unfold c8; omega
  refine en_X5_rank _ _ M (sg_X5_rank_0 _ _ M ?_)
  intro v2 v3 v4 v5
  have f2 : v2 = nI m.1 := e2
  have f3 : v3 = nI m.2.1 := e3
  have f4 : v4 = nI m.2.2.1 := e4
  have f5 : v5 = nI m.2.2.2 := e5
  clear_value v2 v3 v4 v5
  subst f2 f3 f4 f5
  have e6 : (((((nI m.1 + nI m.2.1) + nI m.2.2.1) + nI m.2.2.2) <<< ((15 : Int32) &&& 31)) ||| (((30 : Int32) - nI m.2.2.2) <<< ((10 : Int32) &&& 31)) ||| (((30 : Int32) - nI m.2.2.1) <<< ((5 : Int32) &&& 31))) ||| ((30 : Int32) - nI m.2.1) = nI ((m.1 + m.2.1 + m.2.2.1 + m.2.2.2) * 32768 + (30 - m.2.2.2) * 1024 + (30 - m.2.2.1) * 32 + (30 - m.2.1)) := by
    have h30 : (30 : Int32) = nI 30 := rfl
    rw [h30, nI_add, nI_add, nI_add, pk_sub (by omega), pk_sub (by omega), pk_sub (by omega), pk_shlN _ 15 (by decide) (by omega), pk_shlN _ 10 (by decide) (by omega), pk_shlN _ 5 (by decide) (by omega), or_nI (by omega) (by omega), or_add (by omega)]
    rw [or_nI (by omega) (by omega), show (m.1 + m.2.1 + m.2.2.1 + m.2.2.2) * 2 ^ 15 + (30 - m.2.2.2) * 2 ^ 10 = ((m.1 + m.2.1 + m.2.2.1 + m.2.2.2) * 32 + (30 - m.2.2.2)) * 2 ^ 10 by omega, or_add (by omega)]
    rw [or_nI (by omega) (by omega), show ((m.1 + m.2.1 + m.2.2.1 + m.2.2.2) * 32 + (30 - m.2.2.2)) * 2 ^ 10 + (30 - m.2.2.1) * 2 ^ 5 = (((m.1 + m.2.1 + m.2.2.1 + m.2.2.2) * 32 + (30 - m.2.2.2)) * 32 + (30 - m.2.2.1)) * 2 ^ 5 by omega, or_add (by omega)]
  refine ⟨ho, fun c => ?_, fun c => ?_⟩
  · intro v6
    have f6 : v6 = _ := e6
    clear_value v6
    have hk0 : k ≠ 0 := fun z => c (by rw [hk, z]; rfl)
    refine ⟨ho, fun c2 => ⟨_, rfl, ?_⟩, fun c2 => ⟨_, rfl, ?_⟩⟩
    · have hk1 : k ≠ 1 := fun z => c2 (by rw [hk, z]; rfl)
      rw [f6, pk_shlN _ 22 (by decide) (by omega), or_nI (by omega) (by omega), or_add (by omega)]
      unfold ark at h
      rw [if_neg hk0, if_neg hk1] at h
      exact h
    · have hk1 : k = 1 := by
        have := Classical.not_not.mp c2
        rw [hk] at this
        exact (nI_eq (a := k) (b := 1) (by omega) (by omega)).mp this
      rw [f6]
      unfold ark at h
      rw [if_neg hk0, if_pos hk1, Nat.zero_add] at h
      exact h
  · have hk0 : k = 0 := by
      have := Classical.not_not.mp c
      rw [hk] at this
      exact (nI_z (by omega)).mp this
    refine ⟨_, rfl, ?_⟩
    rw [pk_shlN _ 24 (by decide) (by omega), pk_shlN _ 16 (by decide) (by omega), pk_shlN _ 8 (by decide) (by omega), or_nI (by omega) (by omega), or_add (by omega), or_nI (by omega) (by omega), show m.1 * 2 ^ 24 + m.2.1 * 2 ^ 16 = (m.1 * 256 + m.2.1) * 2 ^ 16 by omega, or_add (by omega), or_nI (by omega) (by omega), show (m.1 * 256 + m.2.1) * 2 ^ 16 + m.2.2.1 * 2 ^ 8 = ((m.1 * 256 + m.2.1) * 256 + m.2.2.1) * 2 ^ 8 by omega, or_add (by omega)]
    unfold ark at h
    rw [if_pos hk0] at h
    have e : ((m.1 * 256 + m.2.1) * 256 + m.2.2.1) * 2 ^ 8 + m.2.2.2 = m.1 * 16777216 + m.2.1 * 65536 + m.2.2.1 * 256 + m.2.2.2 := by omega
    rw [e]
    exact h
