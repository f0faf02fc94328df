/-! the reference: monomials' products, fractions, copies -/
def TN (_ : Nat) : Prop := False
def FN (_ : Nat) : Prop := False
theorem sp_rdiv {d nv k : Nat} {M : zM} {a b : aM} {P : Int32 → zM → Prop} (hd : 2 ≤ d) (hM : mst M) (hv : mvk M nv k) (ha : mok a) (hb : mok b) (hia : vin nv a) (h1 : mdvd a b → P 1 M) (h0 : ¬ mdvd a b → P 0 M) : ycI d nX8_divides [.ref 1529, .int (e5 a), .int (e5 b)] M P := by
  obtain ⟨d, rfl, he⟩ := dS hd
  have da := aex_ok ha
  have db := aex_ok hb
  have hn4 := hv.2.2.2.2
  have loop : ∀ (n v : Nat), v + n = nv → (∀ u, u < v → aex a u ≤ aex b u) → wX8_divides d (fun r M2 => ∃ x : Int32, r = [.int x] ∧ P x M2) 2 [some (.ref 1529), some (.int (e5 a)), some (.int (e5 b)), some (.int (nI v))] [] M := by
    intro n
    induction n with
    | zero =>
      intro v hvn hle
      refine sg_X8_divides_2 _ _ _ _ _ ⟨hM.1, fun _ => ⟨Or.inr rfl, _, rfl, h1 ?_⟩, fun c => absurd (by rw [hv.1, show v = nv by omega]; exact Int32.le_refl _) c⟩
      have : ∀ u, u < 4 → aex a u ≤ aex b u := fun u hu => by
        by_cases huv : u < v
        · exact hle u huv
        · rw [vin_at hia (by omega) hu]
          exact Nat.zero_le _
      exact ⟨this 0 (by omega), this 1 (by omega), this 2 (by omega), this 3 (by omega)⟩
    | succ n ih =>
      intro v hvn hle
      have ev := da v
      have fv := db v
      refine sg_X8_divides_2 _ _ _ _ _ ⟨hM.1, fun c => ?_, fun _ => sp_rexp (by omega) ha (by omega) (sp_rexp (by omega) hb (by omega) ⟨fun c => ?_, fun c => ⟨Or.inl rfl, _, rfl, h0 fun z => c ?_⟩⟩)⟩
      · rw [hv.1] at c
        have := (nI_leI (by omega) (by omega)).mp c
        omega
      · have c := (nI_leI (by omega) (by omega)).mp c
        intro v3
        rw [show v3 = nI (v + 1) from nI_1 v]
        refine ih (v + 1) (by omega) fun u hu => ?_
        by_cases e : u = v
        · rw [e]; exact c
        · exact hle u (by omega)
      · refine (nI_leI (by omega) (by omega)).mpr ?_
        obtain ⟨z0, z1, z2, z3⟩ := z
        match v, (show v < 4 by omega) with
        | 0, _ => exact z0
        | 1, _ => exact z1
        | 2, _ => exact z2
        | 3, _ => exact z3
  exact en_X8_divides _ _ _ M (sg_X8_divides_0 _ _ _ M (loop nv 0 (by omega) fun u hu => absurd hu (Nat.not_lt_zero _)))
theorem or_5 {m : aM} (h : mok m) : ∀ v, v < 4 → e5 (mfst v m) ||| (nI (aex m v) <<< ((5 * nI v) &&& 31)) = e5 (mfst (v + 1) m) := by
  unfold mok at h
  have key : ∀ (c x s : Nat) (z : Int32), (z.toBitVec.smod 32).toNat = s → x * 2 ^ s < 2 ^ 32 → c < 2 ^ s → c < 2 ^ 32 → c + x * 2 ^ s < 2 ^ 32 → nI c ||| (nI x <<< z) = nI (c + x * 2 ^ s) := fun c x s z hz h1 h2 h4 h3 => by
    rw [pk_shlN z s hz h1, tn_inj, Int32.toBitVec_or, BitVec.toNat_or, pk_tn h4, pk_tn h1, pk_tn h3, Nat.or_comm, ← Nat.shiftLeft_eq, ← Nat.shiftLeft_add_eq_or_of_lt h2, Nat.add_comm]
  intro v hv
  match v, hv with
  | 0, _ =>
    show nI (c5 (0, 0, 0, 0)) ||| (nI m.1 <<< _) = nI (c5 (m.1, 0, 0, 0))
    rw [key _ _ 0 _ (by decide) (by omega) (by unfold c5; dsimp only; omega) (by unfold c5; dsimp only; omega) (by unfold c5; dsimp only; omega)]
    congr 1
    unfold c5
    dsimp only
    omega
  | 1, _ =>
    show nI (c5 (m.1, 0, 0, 0)) ||| (nI m.2.1 <<< _) = nI (c5 (m.1, m.2.1, 0, 0))
    rw [key _ _ 5 _ (by decide) (by omega) (by unfold c5; dsimp only; omega) (by unfold c5; dsimp only; omega) (by unfold c5; dsimp only; omega)]
    congr 1
    unfold c5
    dsimp only
    omega
  | 2, _ =>
    show nI (c5 (m.1, m.2.1, 0, 0)) ||| (nI m.2.2.1 <<< _) = nI (c5 (m.1, m.2.1, m.2.2.1, 0))
    rw [key _ _ 10 _ (by decide) (by omega) (by unfold c5; dsimp only; omega) (by unfold c5; dsimp only; omega) (by unfold c5; dsimp only; omega)]
    congr 1
    unfold c5
    dsimp only
    omega
  | 3, _ =>
    show nI (c5 (m.1, m.2.1, m.2.2.1, 0)) ||| (nI m.2.2.2 <<< _) = nI (c5 m)
    rw [key _ _ 15 _ (by decide) (by omega) (by unfold c5; dsimp only; omega) (by unfold c5; dsimp only; omega) (by unfold c5; dsimp only; omega)]
    congr 1
    unfold c5
    dsimp only
    omega
theorem aex_lcm {a b : aM} : ∀ v, v < 4 → aex (mlcm a b) v = max (aex a v) (aex b v)
  | 0, _ => rfl
  | 1, _ => rfl
  | 2, _ => rfl
  | 3, _ => rfl
theorem mfst_all {nv : Nat} {m : aM} (h : vin nv m) (h1 : 1 ≤ nv) (h4 : nv ≤ 4) : mfst nv m = m := by
  obtain ⟨m0, m1, m2, m3⟩ := m
  obtain ⟨-, v1, v2, v3⟩ := h
  dsimp only at v1 v2 v3
  match nv, h1, h4 with
  | 1, _, _ => rw [v1 (by omega), v2 (by omega), v3 (by omega)]; rfl
  | 2, _, _ => rw [v2 (by omega), v3 (by omega)]; rfl
  | 3, _, _ => rw [v3 (by omega)]; rfl
  | 4, _, _ => rfl
theorem vin_lcm {nv : Nat} {a b : aM} (ha : vin nv a) (hb : vin nv b) : vin nv (mlcm a b) := by
  obtain ⟨a0, a1, a2, a3⟩ := ha
  obtain ⟨b0, b1, b2, b3⟩ := hb
  refine ⟨fun z => ?_, fun z => ?_, fun z => ?_, fun z => ?_⟩
  · show max a.1 b.1 = 0; rw [a0 z, b0 z]; rfl
  · show max a.2.1 b.2.1 = 0; rw [a1 z, b1 z]; rfl
  · show max a.2.2.1 b.2.2.1 = 0; rw [a2 z, b2 z]; rfl
  · show max a.2.2.2 b.2.2.2 = 0; rw [a3 z, b3 z]; rfl
theorem vin_add {nv : Nat} {a b : aM} (ha : vin nv a) (hb : vin nv b) : vin nv (madd a b) := by
  obtain ⟨a0, a1, a2, a3⟩ := ha
  obtain ⟨b0, b1, b2, b3⟩ := hb
  refine ⟨fun z => ?_, fun z => ?_, fun z => ?_, fun z => ?_⟩
  · show a.1 + b.1 = 0; rw [a0 z, b0 z]
  · show a.2.1 + b.2.1 = 0; rw [a1 z, b1 z]
  · show a.2.2.1 + b.2.2.1 = 0; rw [a2 z, b2 z]
  · show a.2.2.2 + b.2.2.2 = 0; rw [a3 z, b3 z]
theorem vin_sub {nv : Nat} {a b : aM} (ha : vin nv a) : vin nv (msub a b) := by
  obtain ⟨a0, a1, a2, a3⟩ := ha
  refine ⟨fun z => ?_, fun z => ?_, fun z => ?_, fun z => ?_⟩
  · show a.1 - b.1 = 0; rw [a0 z]; exact Nat.zero_sub _
  · show a.2.1 - b.2.1 = 0; rw [a1 z]; exact Nat.zero_sub _
  · show a.2.2.1 - b.2.2.1 = 0; rw [a2 z]; exact Nat.zero_sub _
  · show a.2.2.2 - b.2.2.2 = 0; rw [a3 z]; exact Nat.zero_sub _
theorem sp_rcommon {d nv k : Nat} {M : zM} {a b : aM} {P : Int32 → zM → Prop} (hd : 2 ≤ d) (hM : mst M) (hv : mvk M nv k) (ha : mok a) (hb : mok b) (hia : vin nv a) (hib : vin nv b) (h : P (e5 (mlcm a b)) M) : ycI d nX8_common [.ref 1529, .int (e5 a), .int (e5 b)] M P := by
  obtain ⟨d, rfl, he⟩ := dS hd
  have da := aex_ok ha
  have db := aex_ok hb
  have hn4 := hv.2.2.2.2
  have hml := mlcm_ok ha hb
  have loop : ∀ (n v : Nat) (o5 o6 : Option Value), v + n = nv → wX8_common d (fun r M2 => ∃ x : Int32, r = [.int x] ∧ P x M2) 4 [some (.ref 1529), some (.int (e5 a)), some (.int (e5 b)), some (.int (e5 (mfst v (mlcm a b)))), some (.int (nI v)), o5, o6] [] M := by
    intro n
    induction n with
    | zero =>
      intro v o5 o6 hvn
      refine sg_X8_common_4 _ _ _ _ _ _ _ _ ⟨hM.1, fun _ => ⟨_, rfl, ?_⟩, fun c => absurd (by rw [hv.1, show v = nv by omega]; exact Int32.le_refl _) c⟩
      rw [show v = nv by omega, mfst_all (vin_lcm hia hib) hv.2.2.2.1 hn4]
      exact h
    | succ n ih =>
      intro v o5 o6 hvn
      have ev := da v
      have fv := db v
      have hmx := aex_lcm (a := a) (b := b) v (by omega)
      have hor := or_5 hml v (by omega)
      rw [hmx] at hor
      refine sg_X8_common_4 _ _ _ _ _ _ _ _ ⟨hM.1, fun c => ?_, fun _ => sp_rexp (by omega) ha (by omega) (sp_rexp (by omega) hb (by omega) ⟨fun c => ?_, fun c => ?_⟩)⟩
      · rw [hv.1] at c
        have := (nI_leI (by omega) (by omega)).mp c
        omega
      · have c := (nI_leI (by omega) (by omega)).mp c
        rw [Nat.max_eq_right c] at hor
        intro v3 v4
        rw [show v3 = e5 (mfst (v + 1) (mlcm a b)) from hor, show v4 = nI (v + 1) from nI_1 v]
        exact ih (v + 1) _ _ (by omega)
      · have c : ¬ aex a v ≤ aex b v := fun z => c ((nI_leI (by omega) (by omega)).mpr z)
        rw [Nat.max_eq_left (by omega)] at hor
        intro v3 v4
        rw [show v3 = e5 (mfst (v + 1) (mlcm a b)) from hor, show v4 = nI (v + 1) from nI_1 v]
        exact ih (v + 1) _ _ (by omega)
  refine en_X8_common _ _ _ M (sg_X8_common_0 _ _ _ M ?_)
  exact loop nv 0 _ _ (by omega)
theorem aex_add {a b : aM} : ∀ v, v < 4 → aex (madd a b) v = aex a v + aex b v
  | 0, _ => rfl
  | 1, _ => rfl
  | 2, _ => rfl
  | 3, _ => rfl
theorem sp_rprod {d nv k : Nat} {M : zM} {a b : aM} {P : Int32 → zM → Prop} (hd : 2 ≤ d) (hM : mst M) (hv : mvk M nv k) (ha : mok a) (hb : mok b) (hia : vin nv a) (hib : vin nv b) (hf : zI M 1529 11 = 0) (h1 : mok (madd a b) → ∀ M', rfr TN FF GN M M' → zI M' 1529 11 = 0 → P (e5 (madd a b)) M') (h0 : ¬ mok (madd a b) → ∀ M', rfr TN FF GN M M' → zI M' 1529 11 = 1 → P 0 M') : ycI d nX8_product [.ref 1529, .int (e5 a), .int (e5 b)] M P := by
  obtain ⟨d, rfl, he⟩ := dS hd
  have da := aex_ok ha
  have db := aex_ok hb
  have hn4 := hv.2.2.2.2
  have loop : ∀ (n v : Nat) (M' : zM), v + n = nv → rfr TN FF GN M M' → (zI M' 1529 11 = 0 ∧ (∀ u, u < v → aex a u + aex b u ≤ 30)) ∨ (zI M' 1529 11 = 1 ∧ ¬ mok (madd a b)) → wX8_product d (fun r M2 => ∃ x : Int32, r = [.int x] ∧ P x M2) 2 [some (.ref 1529), some (.int (e5 a)), some (.int (e5 b)), some (.int (nI v))] [] M' := by
    intro n
    induction n with
    | zero =>
      intro v M' hvn hfr hst
      have hM' := mst_fr hfr hM
      have hv' := mvk_fr hfr (by unfold FF; omega) (by unfold FF; omega) hv
      refine sg_X8_product_2 _ _ _ _ _ ⟨hM'.1, fun _ => ⟨hM'.1, fun c => ⟨_, rfl, ?_⟩, fun c => ⟨_, rfl, ?_⟩⟩, fun c => absurd (by rw [hv'.1, show v = nv by omega]; exact Int32.le_refl _) c⟩
      · rw [e5_add]
        rcases hst with ⟨s1, s2⟩ | ⟨s1, s2⟩
        · have : ∀ u, u < 4 → aex a u + aex b u ≤ 30 := fun u hu => by
            by_cases huv : u < v
            · exact s2 u huv
            · rw [vin_at hia (by omega) hu, vin_at hib (by omega) hu]
              omega
          exact h1 ⟨this 0 (by omega), this 1 (by omega), this 2 (by omega), this 3 (by omega)⟩ M' hfr s1
        · rw [s1] at c
          exact absurd c (by decide)
      · rcases hst with ⟨s1, s2⟩ | ⟨s1, s2⟩
        · exact absurd s1 c
        · exact h0 s2 M' hfr s1
    | succ n ih =>
      intro v M' hvn hfr hst
      have hM' := mst_fr hfr hM
      have hv' := mvk_fr hfr (by unfold FF; omega) (by unfold FF; omega) hv
      have ev := da v
      have fv := db v
      have up : ∀ x : Int32, rfr TN FF GN M (zuI M' 1529 11 x) := fun x => rfr_tr hfr (rfr_F (Or.inl rfl))
      have at11 : ∀ x : Int32, zI (zuI M' 1529 11 x) 1529 11 = x := fun x => by rw [zI_uI, if_pos ⟨rfl, rfl⟩]
      refine sg_X8_product_2 _ _ _ _ _ ⟨hM'.1, fun c => ?_, fun _ => ⟨hM'.1, fun c => ⟨hM'.1, Or.inr rfl, ?_⟩, fun c => sp_rexp (by omega) ha (by omega) (sp_rexp (by omega) hb (by omega) ⟨fun c2 => ⟨hM'.1, Or.inl rfl, ?_⟩, fun c2 => ⟨hM'.1, Or.inr rfl, ?_⟩⟩)⟩⟩
      · rw [hv'.1] at c
        have := (nI_leI (by omega) (by omega)).mp c
        omega
      · intro M1 v3
        rw [show v3 = nI (v + 1) from nI_1 v]
        refine ih (v + 1) M1 (by omega) (up 1) (Or.inr ⟨at11 1, ?_⟩)
        rcases hst with ⟨s1, s2⟩ | ⟨s1, s2⟩
        · exact absurd s1 c
        · exact s2
      · intro M1 v3
        rw [show v3 = nI (v + 1) from nI_1 v]
        rw [nI_add] at c2
        have c2 := (nI_leI (b := 30) (by omega) (by omega)).mp c2
        refine ih (v + 1) M1 (by omega) (up 0) (Or.inl ⟨at11 0, fun u hu => ?_⟩)
        rcases hst with ⟨s1, s2⟩ | ⟨s1, s2⟩
        · by_cases e : u = v
          · rw [e]; exact c2
          · exact s2 u (by omega)
        · rw [s1] at c
          exact absurd (by decide) c
      · intro M1 v3
        rw [show v3 = nI (v + 1) from nI_1 v]
        rw [nI_add] at c2
        have c2 : ¬ aex a v + aex b v ≤ 30 := fun z => c2 ((nI_leI (b := 30) (by omega) (by omega)).mpr z)
        refine ih (v + 1) M1 (by omega) (up 1) (Or.inr ⟨at11 1, fun z => c2 ?_⟩)
        have := aex_ok z v
        rw [aex_add v (by omega)] at this
        exact this
  exact en_X8_product _ _ _ M (sg_X8_product_0 _ _ _ M (loop nv 0 M (by omega) rfr_rf (Or.inl ⟨hf, fun u hu => absurd hu (Nat.not_lt_zero _)⟩)))
/-- a fraction that was made in passing -/
def rlo (M : zM) : Option aF → Prop
  | none => zI M 1529 11 = 1
  | some f => zI M 1529 11 = 0 ∧ zI M 1529 16 = Int32.ofInt f.1 ∧ zI M 1529 17 = Int32.ofInt f.2
theorem sp_rlow {d : Nat} {M : zM} {a b : Int64} {A B : Int} {P : zM → Prop} (hd : 1 ≤ d) (hM : mst M) (hf : zI M 1529 11 = 0) (ha : a.toInt = A) (hb : b.toInt = B) (hA : -4000000000000000000 ≤ A ∧ A ≤ 4000000000000000000) (hB : 0 < B ∧ B ≤ 1000000000000000000) (h : ∀ M', rfr TN FF GN M M' → rlo M' (alow A B) → P M') : ycV d nX8_lowest [.ref 1529, .long a, .long b] M P := by
  obtain ⟨d, rfl, he⟩ := dS hd
  have h0 : (0 : Int64).toInt = 0 := by decide
  have e1 : (1000000000 : Int64).toInt = 1000000000 := by decide
  have e2 : (-1000000000 : Int64).toInt = -1000000000 := by decide
  have hg0 : 0 < Int.gcd A B := Int.gcd_pos_of_ne_zero_right _ (by omega)
  have s16 := hM.1
  have fin : ∀ (g : Int64) (o7 o8 o9 o10 o11 o12 : Option Value), g.toInt = ((Int.gcd A B : Nat) : Int) → wX8_lowest d (fun r M2 => r = [] ∧ P M2) 24 [some (.ref 1529), some (.long a), none, some (.long b), none, some (.long g), none, o7, o8, o9, o10, o11, o12] [] M := by
    intro g o7 o8 o9 o10 o11 o12 hg
    have gne : ¬ g = 0 := fun e => by
      rw [e, h0] at hg
      omega
    refine sg_X8_lowest_24 _ _ _ _ _ _ _ _ _ _ _ ⟨gne, ?_⟩
    intro x
    refine ⟨gne, ?_⟩
    intro y
    have ex : x.toInt = A / (Int.gcd A B : Int) := by
      rw [show x = a / g from rfl, tl_div (by omega), ha, hg]
      exact Int.tdiv_eq_ediv_of_dvd (Int.gcd_dvd_left A B)
    have ey : y.toInt = B / (Int.gcd A B : Int) := by
      rw [show y = b / g from rfl, tl_div (by omega), hb, hg]
      exact Int.tdiv_eq_ediv_of_dvd (Int.gcd_dvd_right A B)
    clear_value x y
    have full : ¬ ((-1000000000 ≤ x.toInt ∧ x.toInt ≤ 1000000000) ∧ y.toInt ≤ 1000000000) → ∀ (o1 o2 o3 o4 o5 o6 o7 o8 : Option Value), wX8_lowest d (fun r M2 => r = [] ∧ P M2) 52 [some (.ref 1529), o1, o2, o3, o4, o5, o6, o7, o8, some (.long x), none, some (.long y), none] [] (zuI M 1529 11 1) := fun hn o1 o2 o3 o4 o5 o6 o7 o8 => by
      refine sg_X8_lowest_52 _ _ _ _ _ _ _ _ _ _ _ _ ⟨s16, fun z => absurd z (by rw [zI_uI, if_pos ⟨rfl, rfl⟩]; decide), fun _ => ⟨s16, ?_⟩⟩
      intro M2
      have f2 : zI M2 1529 11 = 1 := by rw [show M2 = zuI (zuI M 1529 11 1) 1529 16 0 from rfl, zI_uI, if_neg (by omega), zI_uI, if_pos ⟨rfl, rfl⟩]
      refine sg_X8_lowest_61 _ _ _ _ _ _ _ _ _ _ _ _ _ ⟨s16, fun z => absurd z (by rw [f2]; decide), fun _ => ⟨s16, ?_⟩⟩
      intro M3
      refine ⟨rfl, h M3 (rfr_tr (rfr_F (Or.inl rfl)) (rfr_tr (rfr_F (Or.inr (Or.inl rfl))) (rfr_F (Or.inr (Or.inr rfl))))) ?_⟩
      unfold alow
      rw [← ex, ← ey, if_neg hn]
      show zI M3 1529 11 = 1
      rw [show M3 = zuI M2 1529 17 1 from rfl, zI_uI, if_neg (by omega)]
      exact f2
    refine ⟨s16, fun z => absurd hf z, fun _ => ⟨fun c1 => ⟨s16, Or.inr rfl, ?_⟩, fun c1 => ⟨fun c2 => ⟨s16, Or.inr rfl, ?_⟩, fun c2 => ⟨fun c3 => ⟨s16, Or.inl rfl, ?_⟩, fun c3 => ⟨s16, Or.inr rfl, ?_⟩⟩⟩⟩⟩
    · rw [lc_gt, e1] at c1
      exact full (by omega) _ _ _ _ _ _ _ _
    · rw [lc_lt, e2] at c2
      exact full (by omega) _ _ _ _ _ _ _ _
    · rw [lc_gt, e1] at c1
      rw [lc_lt, e2] at c2
      rw [lc_le, e1] at c3
      intro M6
      have f6 : zI M6 1529 11 = 0 := by rw [show M6 = zuI M 1529 11 0 from rfl, zI_uI, if_pos ⟨rfl, rfl⟩]
      refine sg_X8_lowest_52 _ _ _ _ _ _ _ _ _ _ _ _ ⟨s16, fun _ => ⟨s16, ?_⟩, fun z => absurd f6 z⟩
      intro M7
      have f7 : zI M7 1529 11 = 0 := by rw [show M7 = zuI M6 1529 16 x.toInt32 from rfl, zI_uI, if_neg (by omega)]; exact f6
      refine sg_X8_lowest_61 _ _ _ _ _ _ _ _ _ _ _ _ _ ⟨s16, fun _ => ⟨s16, ?_⟩, fun z => absurd f7 z⟩
      intro M8
      refine ⟨rfl, h M8 (rfr_tr (rfr_F (Or.inl rfl)) (rfr_tr (rfr_F (Or.inr (Or.inl rfl))) (rfr_F (Or.inr (Or.inr rfl))))) ?_⟩
      unfold alow
      rw [← ex, ← ey, if_pos (by omega)]
      refine ⟨?_, ?_, ?_⟩
      · rw [show M8 = zuI M7 1529 17 y.toInt32 from rfl, zI_uI, if_neg (by omega)]
        exact f7
      · rw [show M8 = zuI M7 1529 17 y.toInt32 from rfl, zI_uI, if_neg (by omega), show M7 = zuI M6 1529 16 x.toInt32 from rfl, zI_uI, if_pos ⟨rfl, rfl⟩, tL_eq (x := x) rfl, Int64.toInt32_ofInt, tL_of ⟨x.le_toInt, x.toInt_lt⟩]
      · rw [show M8 = zuI M7 1529 17 y.toInt32 from rfl, zI_uI, if_pos ⟨rfl, rfl⟩, tL_eq (x := y) rfl, Int64.toInt32_ofInt, tL_of ⟨y.le_toInt, y.toInt_lt⟩]
    · rw [lc_le, e1] at c3
      exact full (by omega) _ _ _ _ _ _ _ _
  have loop : ∀ (n C R : Nat) (a5 a7 : Int64) (o9 o10 o11 o12 : Option Value), R ≤ n → a5.toInt = (C : Int) → a7.toInt = (R : Int) → Nat.gcd C R = Int.gcd A B → wX8_lowest d (fun r M2 => r = [] ∧ P M2) 11 [some (.ref 1529), some (.long a), none, some (.long b), none, some (.long a5), none, some (.long a7), none, o9, o10, o11, o12] [] M := by
    intro n
    induction n with
    | zero =>
      intro C R a5 a7 o9 o10 o11 o12 hR h5 h7 hg
      have hR0 : R = 0 := by omega
      subst hR0
      refine sg_X8_lowest_11 _ _ _ _ _ _ _ _ _ _ ⟨fun _ => fin _ _ _ _ _ _ _ (by rw [h5, ← hg, Nat.gcd_zero_right]), fun c => absurd (lc_eq.mpr h7) c⟩
    | succ n ih =>
      intro C R a5 a7 o9 o10 o11 o12 hR h5 h7 hg
      refine sg_X8_lowest_11 _ _ _ _ _ _ _ _ _ _ ⟨fun c => ?_, fun c => ?_⟩
      · have c := lc_eq.mp c
        rw [h7, h0] at c
        have hR0 : R = 0 := by omega
        subst hR0
        exact fin _ _ _ _ _ _ _ (by rw [h5, ← hg, Nat.gcd_zero_right])
      · have hRp : 0 < R := Nat.pos_of_ne_zero fun z => c (lc_eq.mpr (by rw [h7, z]; rfl))
        refine ⟨fun e => ?_, ?_⟩
        · rw [e, h0] at h7
          omega
        · intro w9
          have h9 : w9.toInt = ((C % R : Nat) : Int) := tl_rem h5 h7 hRp
          have hlt := Nat.mod_lt C hRp
          exact ih R (C % R) _ _ _ _ _ _ (by omega) h7 h9 (by rw [← hg, Nat.gcd_comm R, ← Nat.gcd_rec, Nat.gcd_comm])
  refine en_X8_lowest _ _ _ M (sg_X8_lowest_0 _ _ _ M ⟨fun c => ?_, fun c => ?_⟩)
  · rw [lc_ge, h0, ha] at c
    exact loop B.natAbs A.natAbs B.natAbs _ _ _ _ _ _ (Nat.le_refl _) (by rw [ha]; omega) (by rw [hb]; omega) rfl
  · rw [lc_ge, h0, ha] at c
    intro w5
    exact loop B.natAbs A.natAbs B.natAbs _ _ _ _ _ _ (Nat.le_refl _) (by rw [show w5 = -a from rfl, tl_neg (by rw [ha]; omega), ha]; omega) (by rw [hb]; omega) rfl
theorem sp_rmul {d : Nat} {M : zM} {a b c e : Int64} {A B C E : Int} {P : zM → Prop} (hd : 2 ≤ d) (hM : mst M) (hf : zI M 1529 11 = 0) (ha : a.toInt = A) (hb : b.toInt = B) (hc : c.toInt = C) (he : e.toInt = E) (hA : -1000000000 ≤ A ∧ A ≤ 1000000000) (hC : -1000000000 ≤ C ∧ C ≤ 1000000000) (hB : 0 < B ∧ B ≤ 1000000000) (hE : 0 < E ∧ E ≤ 1000000000) (h : ∀ M', rfr TN FF GN M M' → rlo M' (alow (A * C) (B * E)) → P M') : ycV d nX8_multiplied [.ref 1529, .long a, .long b, .long c, .long e] M P := by
  obtain ⟨d, rfl, hde⟩ := dS hd
  have b1 := mul_le_abs (m := 1000000000) (n := 1000000000) hA hC (by omega) (by omega)
  have b2 := mul_le_abs (a := B) (b := E) (m := 1000000000) (n := 1000000000) (by omega) (by omega) (by omega) (by omega)
  have b3 := Int.mul_pos hB.1 hE.1
  refine en_X8_multiplied _ _ _ _ _ M (sg_X8_multiplied_0 _ _ _ _ _ M ⟨hM.1, sp_rlow (A := A * C) (B := B * E) (by omega) hM hf ?_ ?_ (by omega) (by omega) fun M1 h1 h2 => ⟨rfl, h M1 h1 h2⟩⟩)
  · rw [tl_mul (by rw [ha, hc]; omega), ha, hc]
  · rw [tl_mul (by rw [hb, he]; omega), hb, he]
theorem ix100 (p j : Nat) : (100 : Int32) * nI p + nI j = nI (100 * p + j) := by
  rw [show (100 : Int32) = nI 100 from rfl, pk_mul, nI_add]
theorem sp_rcopy {d p q : Nat} {M : zM} {L : aP} {P : zM → Prop} (hd : 1 ≤ d) (hM : mst M) (hp : p < 372) (hq : q < 372) (hpq : p ≠ q) (hL : qdy M p L) (hl : L.length ≤ 100) (h : ∀ M', rfr (fun x => x = q) FN GN M M' → qdy M' q L → P M') : ycV d nX8_copy [.ref 1529, .int (nI p), .int (nI q)] M P := by
  obtain ⟨d, rfl, he⟩ := dS hd
  obtain ⟨s16, ⟨r3, r4, r5, r6, -⟩, ⟨k0, k1, k2, k3⟩, -⟩ := hM
  have cp := cl_n (n := p) (by omega)
  have cq := cl_n (n := q) (by omega)
  have loop : ∀ (n j : Nat) (M' : zM), j + n = L.length → rfr (fun x => x = q) FN GN M M' → zI M' 1533 q = nI L.length → (∀ i t, i < j → L[i]? = some t → zI M' 1530 (100 * q + i) = Int32.ofInt t.1.1 ∧ zI M' 1531 (100 * q + i) = Int32.ofInt t.1.2 ∧ zI M' 1532 (100 * q + i) = e5 t.2) → wX8_copy d (fun r M2 => r = [] ∧ P M2) 10 [some (.ref 1529), some (.int (nI p)), some (.int (nI q)), some (.int (nI j))] [] M' := by
    intro n
    induction n with
    | zero =>
      intro j M' hj hfr hs hc
      have R := hfr.2.2.2.1
      have S := hfr.1
      have hLp := qdy_fr hfr hpq hl hL
      refine sg_X8_copy_10 _ _ _ _ _ ⟨by rw [S]; exact s16, by rw [R, r6, S, k3], by rw [R, r6, S, k3]; exact zin_n hp (by omega), fun _ => ⟨rfl, h M' hfr ⟨hs, fun i t hi => hc i t (by have := (List.getElem?_eq_some_iff.mp hi).1; omega) hi⟩⟩, fun c => absurd (by rw [R, r6, cp, hLp.1, show j = L.length by omega]; exact Int32.le_refl _) c⟩
    | succ n ih =>
      intro j M' hj hfr hs hc
      have R := hfr.2.2.2.1
      have S := hfr.1
      have hLp := qdy_fr hfr hpq hl hL
      have hjl : j < L.length := by omega
      have hu := List.getElem?_eq_getElem hjl
      obtain ⟨g0, g1, g2⟩ := hLp.2 j _ hu
      have cpj := cl_n (n := 100 * p + j) (by omega)
      have cqj := cl_n (n := 100 * q + j) (by omega)
      have zp : zin (nI (100 * p + j)) 37200 := zin_n (by omega) (by omega)
      have zq : zin (nI (100 * q + j)) 37200 := zin_n (by omega) (by omega)
      refine sg_X8_copy_10 _ _ _ _ _ ⟨by rw [S]; exact s16, by rw [R, r6, S, k3], by rw [R, r6, S, k3]; exact zin_n hp (by omega), fun c => ?_, fun _ => ?_⟩
      · rw [R, r6, cp, hLp.1] at c
        have := (nI_leI (by omega) (by omega)).mp c
        omega
      · rw [ix100, ix100, cpj, cqj]
        have eq16 : (zsh M' 1529).1 = 16 := by rw [S]; exact s16
        refine ⟨eq16, eq16, by rw [R, r3, S, k0], by rw [R, r3, S, k0]; exact zp, by rw [R, r3, S, k0], by rw [R, r3, S, k0]; exact zq, ?_⟩
        intro M1
        refine ⟨eq16, eq16, by rw [R, r4, S, k1], by rw [R, r4, S, k1]; exact zp, by rw [R, r4, S, k1], by rw [R, r4, S, k1]; exact zq, ?_⟩
        intro M2
        refine ⟨eq16, eq16, by rw [R, r5, S, k2], by rw [R, r5, S, k2]; exact zp, by rw [R, r5, S, k2], by rw [R, r5, S, k2]; exact zq, ?_⟩
        intro M3 v3
        rw [show v3 = nI (j + 1) from nI_1 j]
        have m1 : M1 = zuI M' 1530 (100 * q + j) (Int32.ofInt L[j].1.1) := by rw [show M1 = zuI M' (zR M' 1529 3) (100 * q + j) (zI M' (zR M' 1529 3) (100 * p + j)) from rfl, R, r3, g0]
        have m2 : M2 = zuI M1 1531 (100 * q + j) (Int32.ofInt L[j].1.2) := by rw [show M2 = zuI M1 (zR M' 1529 4) (100 * q + j) (zI M1 (zR M' 1529 4) (100 * p + j)) from rfl, R, r4, m1, zI_uI, if_neg (by omega), g1]
        have m3 : M3 = zuI M2 1532 (100 * q + j) (e5 L[j].2) := by rw [show M3 = zuI M2 (zR M' 1529 5) (100 * q + j) (zI M2 (zR M' 1529 5) (100 * p + j)) from rfl, R, r5, m2, zI_uI, if_neg (by omega), m1, zI_uI, if_neg (by omega), g2]
        clear_value M1 M2 M3
        have hq100 : (100 * q + j) / 100 = q := by omega
        have hfr3 : rfr (fun x => x = q) FN GN M' M3 := by
          rw [m3, m2, m1]
          exact rfr_tr (rfr_0 hq100) (rfr_tr (rfr_1 hq100) (rfr_2 hq100))
        have e0 : ∀ x, zI M3 1530 x = if x = 100 * q + j then Int32.ofInt L[j].1.1 else zI M' 1530 x := fun x => by
          rw [m3, zI_uI, if_neg (by omega), m2, zI_uI, if_neg (by omega), m1, zI_uI]
          simp only [true_and]
        have e1 : ∀ x, zI M3 1531 x = if x = 100 * q + j then Int32.ofInt L[j].1.2 else zI M' 1531 x := fun x => by
          rw [m3, zI_uI, if_neg (by omega), m2, zI_uI, m1, zI_uI, if_neg (show ¬ (1531 = 1530 ∧ x = 100 * q + j) by omega)]
          simp only [true_and]
        have e2 : ∀ x, zI M3 1532 x = if x = 100 * q + j then e5 L[j].2 else zI M' 1532 x := fun x => by
          rw [m3, zI_uI, m2, zI_uI, if_neg (show ¬ (1532 = 1531 ∧ x = 100 * q + j) by omega), m1, zI_uI, if_neg (show ¬ (1532 = 1530 ∧ x = 100 * q + j) by omega)]
          simp only [true_and]
        refine ih (j + 1) M3 (by omega) (rfr_tr hfr hfr3) ?_ fun i t hi hit => ?_
        · rw [m3, zI_uI, if_neg (by omega), m2, zI_uI, if_neg (by omega), m1, zI_uI, if_neg (by omega)]
          exact hs
        · rw [e0, e1, e2]
          by_cases hij : i = j
          · subst hij
            rw [hu] at hit
            cases hit
            rw [if_pos rfl, if_pos rfl, if_pos rfl]
            exact ⟨rfl, rfl, rfl⟩
          · rw [if_neg (by omega), if_neg (by omega), if_neg (by omega)]
            exact hc i t (by omega) hit
  refine en_X8_copy _ _ _ M (sg_X8_copy_0 _ _ _ M ⟨s16, s16, by rw [r6, k3], by rw [r6, k3]; exact zin_n hp (by omega), by rw [r6, k3], by rw [r6, k3]; exact zin_n hq (by omega), ?_⟩)
  intro M1
  have m1 : M1 = zuI M 1533 q (nI L.length) := by rw [show M1 = zuI M (zR M 1529 6) (nI q).toNatClampNeg (zI M (zR M 1529 6) (nI p).toNatClampNeg) from rfl, r6, cp, cq, hL.1]
  clear_value M1
  refine loop L.length 0 M1 (by omega) (by rw [m1]; exact rfr_3 rfl) (by rw [m1, zI_uI, if_pos ⟨rfl, rfl⟩]) fun i t hi => absurd hi (Nat.not_lt_zero _)
theorem sp_rlead {d p : Nat} {M : zM} {t : aT} {l : aP} {P : Int32 → zM → Prop} (hd : 1 ≤ d) (hM : mst M) (hp : p < 372) (hL : qdy M p (t :: l)) (h : P (e5 t.2) M) : ycI d nX8_lead [.ref 1529, .int (nI p)] M P := by
  obtain ⟨d, rfl, he⟩ := dS hd
  obtain ⟨s16, ⟨r3, r4, r5, r6, -⟩, ⟨k0, k1, k2, k3⟩, -⟩ := hM
  have e : (100 : Int32) * nI p = nI (100 * p) := by rw [show (100 : Int32) = nI 100 from rfl, pk_mul]
  have c := cl_n (n := 100 * p) (by omega)
  refine en_X8_lead _ _ M (sg_X8_lead_0 _ _ M ⟨s16, by rw [r5, k2], by rw [r5, k2, e]; exact zin_n (by omega) (by omega), _, rfl, ?_⟩)
  rw [r5, e, c]
  have := (hL.2 0 t rfl).2.2
  rw [Nat.add_zero] at this
  rw [this]
  exact h
