/-! the reference's calls: terms, orders, generators, elements -/
theorem told_8 {m : aM} (h : mok m) {v : Nat} (hv : v < 4) : e8 (mfst v m) ||| (nI (aex m v) <<< ((8 * nI v) &&& 31)) = e8 (mfst (v + 1) m) := by
  have e : mpw v (aex m v) = mnly v m := by
    match v, hv with
    | 0, _ => rfl
    | 1, _ => rfl
    | 2, _ => rfl
    | 3, _ => rfl
  rw [shl8 (aex_ok h v) v hv, e, mfst_or h hv]
theorem cR_told {d : Nat} {M : zM} {s : aX} {p i w : Int32} {P : Int32 → zM → Prop} (hd : 10 ≤ d) (hx : rX M s) (h : rres (A_told s p i w) M P) : ycI d nX8_told [.ref 1529, .int p, .int i, .int w] M P := by
  obtain ⟨d, rfl, he⟩ := dS hd
  unfold A_told at h
  obtain ⟨s16, ⟨r3, r4, r5, r6, -⟩, ⟨k0, k1, k2, k3⟩, -⟩ := id hx.1.1
  refine en_X8_told _ _ _ _ M (sg_X8_told_0 _ _ _ _ M (sp_rplace (by omega) (fun hp => ⟨fun z => absurd z (by decide), fun _ => ?_⟩) (fun hp => ⟨fun _ => ⟨_, rfl, ?_⟩, fun z => absurd rfl z⟩)))
  · obtain ⟨c, hc, -, rfl, cc⟩ := idx_n (n := 40) hp
    obtain ⟨qc, gc⟩ := rX_at hx hc
    have hl := gc.1.2.2
    refine ⟨fun c0 => ⟨_, rfl, ?_⟩, fun c0 => ⟨s16, by rw [r6, k3], by rw [r6, k3]; exact zin_n (by omega) (by omega), ?_⟩⟩
    · rw [if_neg (fun z => by rw [idx_ge (by omega) (Or.inl c0)] at z; exact absurd z.2 (by decide))] at h
      exact h M hx zfm_rf
    · rw [r6, cc, qc.1]
      refine ⟨fun c1 => ?_, fun c1 => ⟨_, rfl, ?_⟩⟩
      · have hid : idx i (xat s (nI c)).length = true := idx_lt (by omega) c0 (Int32.not_le.mpr c1)
        rw [if_pos ⟨hp, hid⟩] at h
        obtain ⟨j, hj, -, rfl, cj⟩ := idx_n hid
        rw [cj] at h
        have hu : (xat s (nI c))[j]? = some ((xat s (nI c)).getD j ((0, 1), mone)) := by
          rw [List.getD_eq_getElem?_getD, List.getElem?_eq_getElem hj]
          rfl
        obtain ⟨g0, g1, g2⟩ := qc.2 j _ hu
        have htk := gc.1.1 _ (List.mem_of_getElem? hu)
        generalize (xat s (nI c)).getD j ((0, 1), mone) = t at h hu g0 g1 g2 htk
        have cx := cl_n (n := 100 * c + j) (by omega)
        have zx : zin (nI (100 * c + j)) 37200 := zin_n (by omega) (by omega)
        refine sg_X8_told_13 _ _ _ _ _ _ _ _ ?_
        intro v4
        rw [show v4 = nI (100 * c + j) from ix100 _ _]
        clear_value v4
        have fin : ∀ (o1 o2 o6 : Option Value), wX8_told d (fun r M2 => ∃ x : Int32, r = [.int x] ∧ P x M2) 41 [some (.ref 1529), o1, o2, some (.int w), some (.int (nI (100 * c + j))), some (.int (e8 t.2)), o6] [] M := fun o1 o2 o6 => by
          have ew : ∀ n : Int32, ∀ k : Int, n.toInt = k → (w = n ↔ w.toInt = k) := fun n k hn => ⟨fun z => by rw [z, hn], fun z => Int32.toInt_inj.mp (by rw [z, hn])⟩
          have e0 := ew 0 0 Int32.toInt_zero
          have e1 := ew 1 1 (by decide)
          have e2 := ew 2 2 (by decide)
          refine sg_X8_told_41 _ _ _ _ _ _ _ _ ⟨fun w0 => ⟨fun w1 => ⟨fun w2 => ⟨_, rfl, ?_⟩, fun w2 => ⟨_, rfl, ?_⟩⟩, fun w1 => ?_⟩, fun w0 => ?_⟩
          · rw [if_neg (fun z => w0 (e0.mpr z)), if_neg (fun z => w1 (e1.mpr z)), if_neg (fun z => w2 (e2.mpr z))] at h
            exact h M hx zfm_rf
          · rw [if_neg (fun z => w0 (e0.mpr z)), if_neg (fun z => w1 (e1.mpr z)), if_pos (e2.mp (Classical.not_not.mp w2))] at h
            exact h M hx zfm_rf
          · rw [if_neg (fun z => w0 (e0.mpr z)), if_pos (e1.mp (Classical.not_not.mp w1))] at h
            refine ⟨s16, by rw [r4, k1], by rw [r4, k1]; exact zx, _, rfl, ?_⟩
            rw [r4, cx, g1]
            exact h M hx zfm_rf
          · rw [if_pos (e0.mp (Classical.not_not.mp w0))] at h
            refine ⟨s16, by rw [r3, k0], by rw [r3, k0]; exact zx, _, rfl, ?_⟩
            rw [r3, cx, g0]
            exact h M hx zfm_rf
        have loop : ∀ (n v : Nat) (o1 o2 : Option Value), v + n = 4 → wX8_told d (fun r M2 => ∃ x : Int32, r = [.int x] ∧ P x M2) 23 [some (.ref 1529), o1, o2, some (.int w), some (.int (nI (100 * c + j))), some (.int (e8 (mfst v t.2))), some (.int (nI v))] [] M := by
          intro n
          induction n with
          | zero =>
            intro v o1 o2 hv
            rw [show v = 4 by omega]
            exact sg_X8_told_23 _ _ _ _ _ _ _ _ ⟨fun _ => fin _ _ _, fun z => absurd (Int32.le_refl _) z⟩
          | succ n ih =>
            intro v o1 o2 hv
            refine sg_X8_told_23 _ _ _ _ _ _ _ _ ⟨fun z => ?_, fun _ => ⟨s16, by rw [r5, k2], by rw [r5, k2]; exact zx, ?_⟩⟩
            · have := (nI_leI (a := 4) (by omega) (by omega)).mp z
              omega
            · rw [r5, cx, g2]
              refine sp_rexp (by omega) htk.2.2 (by omega) ?_
              intro v5 v6
              rw [show v5 = e8 (mfst (v + 1) t.2) from told_8 htk.2.2 (by omega), show v6 = nI (v + 1) from nI_1 v]
              exact ih (v + 1) _ _ (by omega)
        exact loop 4 0 _ _ (by omega)
      · rw [if_neg (fun z => by rw [idx_ge (by omega) (Or.inr (Int32.not_lt.mp c1))] at z; exact absurd z.2 (by decide))] at h
        exact h M hx zfm_rf
  · rw [if_neg (fun z => by rw [hp] at z; exact absurd z.1 (by decide))] at h
    exact h M hx zfm_rf
theorem mfst_mfst {m : aM} : ∀ {v : Nat}, v < 4 → mfst v (mfst (v + 1) m) = mfst v m ∧ aex (mfst (v + 1) m) v = aex m v ∧ mfst (v + 1) (mfst (v + 1) m) = mfst (v + 1) m
  | 0, _ => ⟨rfl, rfl, rfl⟩
  | 1, _ => ⟨rfl, rfl, rfl⟩
  | 2, _ => ⟨rfl, rfl, rfl⟩
  | 3, _ => ⟨rfl, rfl, rfl⟩
theorem mfst_ok {m : aM} : ∀ {v : Nat}, v ≤ 4 → (∀ u, u < v → aex m u ≤ 30) → mok (mfst v m)
  | 0, _, _ => ⟨Nat.zero_le _, Nat.zero_le _, Nat.zero_le _, Nat.zero_le _⟩
  | 1, _, h => ⟨h 0 (by omega), Nat.zero_le _, Nat.zero_le _, Nat.zero_le _⟩
  | 2, _, h => ⟨h 0 (by omega), h 1 (by omega), Nat.zero_le _, Nat.zero_le _⟩
  | 3, _, h => ⟨h 0 (by omega), h 1 (by omega), h 2 (by omega), Nat.zero_le _⟩
  | 4, _, h => ⟨h 0 (by omega), h 1 (by omega), h 2 (by omega), h 3 (by omega)⟩
theorem atold_all {n : Nat} {m : aM} (h1 : 1 ≤ n) (h4 : n ≤ 4) : atold n m = true ↔ ∀ u, u < 4 → aex m u ≤ (if u < n then 30 else 0) := by
  rw [atold_iff]
  constructor
  · rintro ⟨h1, h2⟩ u hu
    split
    · exact aex_ok h1 u
    · rw [vin_at h2 (by omega) hu]
      exact Nat.le_refl _
  · intro h
    have h30 : ∀ u, u < 4 → aex m u ≤ 30 := fun u hu => by
      have := h u hu
      split at this <;> omega
    have h0 : ∀ u, u < 4 → n ≤ u → aex m u = 0 := fun u hu hn => by
      have := h u hu
      rw [if_neg (by omega)] at this
      omega
    exact ⟨⟨h30 0 (by omega), h30 1 (by omega), h30 2 (by omega), h30 3 (by omega)⟩, fun z => h0 0 (by omega) z, fun z => h0 1 (by omega) z, fun z => h0 2 (by omega) z, fun z => h0 3 (by omega) z⟩
theorem and31 {x : Nat} (h : x ≤ 30) : nI x &&& 31 = nI x := by
  rw [pk_andN (by omega) 5 (by decide)]
  congr 1
  omega
theorem cR_term {d : Nat} {M : zM} {s : aX} {p a b w : Int32} {P : Int32 → zM → Prop} (hd : 10 ≤ d) (hx : rX M s) (h : rres (A_term s p a b w) M P) : ycI d nX8_term [.ref 1529, .int p, .int a, .int b, .int w] M P := by
  obtain ⟨d, rfl, he⟩ := dS hd
  unfold A_term at h
  obtain ⟨s16, ⟨r3, r4, r5, r6, -⟩, ⟨k0, k1, k2, k3⟩, -⟩ := id hx.1.1
  have hn := hx.1.2.1
  have f0 := hx.2.1.1
  have hby := b4_by w
  refine en_X8_term _ _ _ _ _ M (sg_X8_term_0 _ _ _ _ _ M (sp_rplace (by omega) (fun hp => ⟨fun _ => ?_, fun z => absurd (Classical.not_not.mp z) (by decide)⟩) (fun hp => ⟨fun z => absurd rfl z, fun _ => ⟨_, rfl, ?_⟩⟩)))
  · rw [if_pos hp] at h
    have no : (alg a 1000000000 = true ∨ alg b 1000000000 = true ∨ b = 0 ∨ atold (xn s) (b4 w) = false) → P (-2) M := fun z => by
      rw [if_pos z] at h
      exact h M hx zfm_rf
    obtain ⟨i, hi, -, rfl, ci⟩ := idx_n (n := 40) hp
    obtain ⟨qi, gi⟩ := rX_at hx hi
    -- it comes
    have s76 : alg a 1000000000 = false → alg b 1000000000 = false → b ≠ 0 → atold (xn s) (b4 w) = true → a ≠ 0 → ∀ (o4 o5 o7 o8 : Option Value), wX8_term d (fun r M2 => ∃ x : Int32, r = [.int x] ∧ P x M2) 76 [some (.ref 1529), some (.int (nI i)), some (.int a), some (.int b), o4, o5, some (.int (e5 (b4 w))), o7, o8] [] M := fun l1 l2 b0 l3 a0 o4 o5 o7 o8 => by
      rw [if_neg (fun z => by
        rcases z with z | z | z | z
        · rw [l1] at z; cases z
        · rw [l2] at z; cases z
        · exact b0 z
        · rw [l3] at z; cases z), if_neg a0] at h
      have hm := (atold_iff.mp l3).1
      have hmv := (atold_iff.mp l3).2
      have la := of_decide_eq_false l1
      have lb := of_decide_eq_false l2
      have hb0 : b.toInt ≠ 0 := fun z => b0 (Int32.toInt_inj.mp (by rw [z, Int32.toInt_zero]))
      have ha0 : a.toInt ≠ 0 := fun z => a0 (Int32.toInt_inj.mp (by rw [z, Int32.toInt_zero]))
      refine sg_X8_term_76 _ _ _ _ _ _ _ _ _ _ ⟨s16, Or.inl rfl, ?_⟩
      intro M1
      have m1 : M1 = zuI M 1529 11 0 := rfl
      clear_value M1
      have hfr1 : rfr TN FF GN M M1 := by rw [m1]; exact rfr_F (Or.inl rfl)
      have hx1 := rX_fr hfr1 (fun _ z => z.elim) FF_11 (fun z => z) hx
      have z1 : zI M1 1529 11 = 0 := by rw [m1, zI_uI, if_pos ⟨rfl, rfl⟩]
      obtain ⟨qi1, -⟩ := rX_at hx1 hi
      refine ⟨s16, sp_rcopy (q := 150) (by omega) hx1.1.1 (by omega) (by omega) (by omega) qi1 gi.1.2.2 fun M2 hfr2 hq2 => ?_⟩
      have hx2 := rX_fr hfr2 (fun x z => Or.inr (Or.inr (by omega))) FN_11 (fun z => z) hx1
      have hM2 := hx2.1.1
      have z2 : zI M2 1529 11 = 0 := by rw [hfr2.2.2.2.2.2.2.1 11 (fun z => z)]; exact z1
      have fin : ∀ (A B : Int), -1000000000 ≤ A ∧ A ≤ 1000000000 → 0 < B ∧ B ≤ 1000000000 → A ≠ 0 → A = (if b.toInt < 0 then -a.toInt else a.toInt) → B = (if b.toInt < 0 then -b.toInt else b.toInt) → ∀ (x y : Int64), x.toInt = A → y.toInt = B → ycV d nX8_lowest [.ref 1529, .long x, .long y] M2 fun M3 => wX8_term d (fun r M2 => ∃ x : Int32, r = [.int x] ∧ P x M2) 101 [some (.ref 1529), some (.int (nI i)), some (.int a), some (.int b), o4, o5, some (.int (e5 (b4 w))), o7, o8] [] M3 := by
        intro A B hA hB hA0 eA eB x y hxA hyB
        rw [← eA, ← eB] at h
        refine sp_rlow (by omega) hM2 z2 hxA hyB (by omega) (by omega) fun M3 hfr3 hlo => ?_
        have hal := alow_in hA hB
        cases hf : alow A B with
        | none => rw [hal] at hf; cases hf
        | some f =>
          rw [hf] at h hlo
          obtain ⟨l1, l2, l3⟩ := hlo
          obtain ⟨k1, k2, k3⟩ := alow_ok hB.1 hf
          have ht : tok (f, b4 w) := ⟨k1, fun z => hA0 (k2.mp z), hm⟩
          have hx3 := rX_fr hfr3 (fun _ z => z.elim) FF_11 (fun z => z) hx2
          have hM3 := hx3.1.1
          have hq3 := qdy_fr hfr3 (fun z => z) gi.1.2.2 hq2
          refine sg_X8_term_101 _ _ _ _ _ _ _ _ _ _ ⟨hM3.1, hM3.1, hM3.1, ?_⟩
          rw [l2, l3]
          have h : rres (match acome (xk s) (f, b4 w) (xat s (nI i)) with
              | none => (-7, s)
              | some L => (nI L.length, xput s (nI i) L)) M P := h
          refine sp_rcomes (p := 150) (t := (f, b4 w)) (by omega) hM3 hx3.2.1.2.1 (by omega) hq3 gi.1 gi.2.1 ht hmv l1 (fun L' M4 hL' hfr4 hz4 hq4 => ?_) (fun M4 hn4 hfr4 hz4 hq4 => ?_)
          · have hx4 := rX_fr hfr4 (fun x z => Or.inr (Or.inr (by omega))) FF_11 (fun z => z) hx3
            have hLg := acome_gd (t := (f, b4 w)) gi ht hmv (alow_cp hB.1 hf) hL'
            rw [hL'] at h
            refine ⟨hx4.1.1.1, sp_rtaken1 (by omega) hx4.1.1 hi hz4 hq4 hLg.1.2.2 fun M5 hfr5 hq5 => ⟨_, rfl, h M5 (rX_put hfr5 FN_11 (fun z => z) hi hq5 hLg hx4) (zfm_tr (zfm_of hfr1) (zfm_tr (zfm_of hfr2) (zfm_tr (zfm_of hfr3) (zfm_tr (zfm_of hfr4) (zfm_of hfr5)))))⟩⟩
          · have hx4 := rX_fr hfr4 (fun x z => Or.inr (Or.inr (by omega))) FF_11 (fun z => z) hx3
            rw [hn4] at h
            exact ⟨hx4.1.1.1, sp_rtaken0 (by omega) hx4.1.1 hz4 ⟨_, rfl, h M4 hx4 (zfm_tr (zfm_of hfr1) (zfm_tr (zfm_of hfr2) (zfm_tr (zfm_of hfr3) (zfm_of hfr4))))⟩⟩
      refine ⟨fun c => ⟨fun _ => ⟨hM2.1, ?_⟩, fun z => absurd c z⟩, fun c => ⟨fun z => absurd z c, fun _ => ⟨hM2.1, ?_⟩⟩⟩
      · have c := Int32.le_iff_toInt_le.mp c
        rw [Int32.toInt_zero] at c
        exact fin a.toInt b.toInt (by omega) (by omega) ha0 (by rw [if_neg (by omega)]) (by rw [if_neg (by omega)]) _ _ (Int32.toInt_toInt64 a) (Int32.toInt_toInt64 b)
      · have c : ¬ 0 ≤ b.toInt := fun z => c (Int32.le_iff_toInt_le.mpr (by rw [Int32.toInt_zero]; exact z))
        exact fin (-a.toInt) (-b.toInt) (by omega) (by omega) (by omega) (by rw [if_pos (by omega)]) (by rw [if_pos (by omega)]) _ _ (by rw [Int32.toInt_toInt64, ti_neg (by omega)]) (by rw [Int32.toInt_toInt64, ti_neg (by omega)])
    -- its powers
    have s27 : ∀ (g0 : Bool), (g0 = true ↔ alg a 1000000000 = false ∧ alg b 1000000000 = false ∧ b ≠ 0) → ∀ (n v : Nat) (g : Bool) (m6 : Int32) (o8 : Option Value), v + n = 4 → (g = true ↔ g0 = true ∧ ∀ u, u < v → aex (b4 w) u ≤ (if u < xn s then 30 else 0)) → (g = true → m6 = e5 (mfst v (b4 w))) → wX8_term d (fun r M2 => ∃ x : Int32, r = [.int x] ∧ P x M2) 27 [some (.ref 1529), some (.int (nI i)), some (.int a), some (.int b), some (.int w), some (.int (rbI g)), some (.int m6), some (.int (nI v)), o8] [] M := by
      intro g0 hg0 n
      induction n with
      | zero =>
        intro v g m6 o8 hv hg hm6
        rw [show v = 4 by omega] at hg hm6 ⊢
        refine sg_X8_term_27 _ _ _ _ _ _ _ _ _ _ ⟨fun _ => ?_, fun z => absurd (Int32.le_refl _) z⟩
        refine sg_X8_term_65 _ _ _ _ _ _ _ _ _ _ ⟨fun c => ?_, fun c => ⟨_, rfl, no ?_⟩⟩
        · have hgt : g = true := by
            cases g with
            | true => rfl
            | false => exact absurd rfl c
          obtain ⟨y1, y2⟩ := hg.mp hgt
          obtain ⟨l1, l2, b0⟩ := hg0.mp y1
          have l3 : atold (xn s) (b4 w) = true := (atold_all hn.1 hn.2).mpr y2
          rw [hm6 hgt]
          refine ⟨fun a0 => s76 l1 l2 b0 l3 a0 _ _ _ _, fun a0 => ⟨s16, by rw [r6, k3], by rw [r6, k3]; exact zin_n (by omega) (by omega), _, rfl, ?_⟩⟩
          have a0 := Classical.not_not.mp a0
          rw [if_neg (fun z => by
            rcases z with z | z | z | z
            · rw [l1] at z; cases z
            · rw [l2] at z; cases z
            · exact b0 z
            · rw [l3] at z; cases z), if_pos a0] at h
          rw [r6, ci, qi.1]
          exact h M hx zfm_rf
        · have hgf : g = false := rbI_0.mp (Classical.not_not.mp c)
          have hnt : ¬ (g0 = true ∧ ∀ u, u < 4 → aex (b4 w) u ≤ (if u < xn s then 30 else 0)) := fun z => by
            rw [hg.mpr z] at hgf
            cases hgf
          by_cases c1 : alg a 1000000000 = true
          · exact Or.inl c1
          · by_cases c2 : alg b 1000000000 = true
            · exact Or.inr (Or.inl c2)
            · by_cases c3 : b = 0
              · exact Or.inr (Or.inr (Or.inl c3))
              · refine Or.inr (Or.inr (Or.inr ?_))
                cases hc : atold (xn s) (b4 w) with
                | false => rfl
                | true => exact absurd ⟨hg0.mpr ⟨by simpa using c1, by simpa using c2, c3⟩, (atold_all hn.1 hn.2).mp hc⟩ hnt
      | succ n ih =>
        intro v g m6 o8 hv hg hm6
        have hv4 : v < 4 := by omega
        refine sg_X8_term_27 _ _ _ _ _ _ _ _ _ _ ⟨fun z => ?_, fun _ => ?_⟩
        · have := (nI_leI (a := 4) (by omega) (by omega)).mp z
          omega
        · intro v8
          have e8' : v8 = nI (aex (b4 w) v) := by
            have := ex_8 hby hv4
            rw [b4_e8] at this
            exact this
          clear_value v8
          subst e8'
          have hb256 : aex (b4 w) v < 256 := by
            unfold mby at hby
            match v, hv4 with
            | 0, _ => exact hby.1
            | 1, _ => exact hby.2.1
            | 2, _ => exact hby.2.2.1
            | 3, _ => exact hby.2.2.2
          have next : ∀ (g' : Bool) (o5 : Option Value), (g' = true ↔ g = true ∧ aex (b4 w) v ≤ (if v < xn s then 30 else 0)) → wX8_term d (fun r M2 => ∃ x : Int32, r = [.int x] ∧ P x M2) 52 [some (.ref 1529), some (.int (nI i)), some (.int a), some (.int b), some (.int w), o5, some (.int m6), some (.int (nI v)), some (.int (nI (aex (b4 w) v)))] [.int (rbI g')] M := fun g' o5 hg' => by
            refine sg_X8_term_52 _ _ _ _ _ _ _ _ _ _ _ ?_
            intro v6 v7
            have e6 : g' = true → v6 = e5 (mfst (v + 1) (b4 w)) := fun y => by
              obtain ⟨y1, y2⟩ := hg'.mp y
              obtain ⟨y3, y4⟩ := hg.mp y1
              have h30 : aex (b4 w) v ≤ 30 := by split at y2 <;> omega
              have hok : mok (mfst (v + 1) (b4 w)) := mfst_ok (by omega) fun u hu => by
                by_cases hh : u = v
                · rw [hh]; exact h30
                · have := y4 u (by omega)
                  split at this <;> omega
              obtain ⟨q1, q2, q3⟩ := mfst_mfst (m := b4 w) hv4
              have := or_5 hok v hv4
              rw [q1, q2, q3] at this
              rw [show v6 = m6 ||| ((nI (aex (b4 w) v) &&& 31) <<< ((5 * nI v) &&& 31)) from rfl, and31 h30, hm6 y1]
              exact this
            clear_value v6
            rw [show v7 = nI (v + 1) from nI_1 v]
            refine ih (v + 1) g' v6 _ (by omega) ?_ e6
            rw [hg', hg]
            constructor
            · rintro ⟨⟨y1, y2⟩, y3⟩
              refine ⟨y1, fun u hu => ?_⟩
              by_cases hh : u = v
              · rw [hh]; exact y3
              · exact y2 u (by omega)
            · rintro ⟨y1, y2⟩
              exact ⟨⟨y1, fun u hu => y2 u (by omega)⟩, y2 v (by omega)⟩
          refine ⟨fun c => next false _ ?_, fun c => ⟨s16, ?_⟩⟩
          · rw [rbI_0.mp c]
            simp
          · have hgt : g = true := by
              cases g with
              | true => rfl
              | false => exact absurd rfl c
            rw [f0]
            refine ⟨fun c1 => ⟨fun c2 => next false _ ?_, fun c2 => next true _ ?_⟩, fun c1 => ⟨fun c2 => next false _ ?_, fun c2 => next true _ ?_⟩⟩
            · have c1 := (nI_leI (by omega) (by omega)).mp c1
              have c2 : ¬ aex (b4 w) v ≤ 0 := fun y => absurd ((nI_leI (b := 0) (by omega) (by omega)).mpr y) (Int32.not_le.mpr c2)
              rw [if_neg (by omega)]
              exact ⟨fun z => (by cases z), fun z => absurd z.2 c2⟩
            · have c1 := (nI_leI (by omega) (by omega)).mp c1
              have c2 := (nI_leI (b := 0) (by omega) (by omega)).mp (Int32.not_lt.mp c2)
              rw [if_neg (by omega)]
              exact ⟨fun _ => ⟨hgt, c2⟩, fun _ => rfl⟩
            · have c1 : ¬ xn s ≤ v := fun y => c1 ((nI_leI (by omega) (by omega)).mpr y)
              have c2 : ¬ aex (b4 w) v ≤ 30 := fun y => absurd ((nI_leI (b := 30) (by omega) (by omega)).mpr y) (Int32.not_le.mpr c2)
              rw [if_pos (by omega)]
              exact ⟨fun z => (by cases z), fun z => absurd z.2 c2⟩
            · have c1 : ¬ xn s ≤ v := fun y => c1 ((nI_leI (by omega) (by omega)).mpr y)
              have c2 := (nI_leI (b := 30) (by omega) (by omega)).mp (Int32.not_lt.mp c2)
              rw [if_pos (by omega)]
              exact ⟨fun _ => ⟨hgt, c2⟩, fun _ => rfl⟩
    have s22 : ∀ (g0 : Bool) (o5 o6 o7 o8 : Option Value), (g0 = true ↔ alg a 1000000000 = false ∧ alg b 1000000000 = false ∧ b ≠ 0) → wX8_term d (fun r M2 => ∃ x : Int32, r = [.int x] ∧ P x M2) 22 [some (.ref 1529), some (.int (nI i)), some (.int a), some (.int b), some (.int w), o5, o6, o7, o8] [.int (rbI g0)] M := fun g0 o5 o6 o7 o8 hg0 => sg_X8_term_22 _ _ _ _ _ _ _ _ _ _ _ (s27 g0 hg0 4 0 g0 0 _ (by omega) ⟨fun z => ⟨z, fun u hu => absurd hu (Nat.not_lt_zero _)⟩, fun z => z.1⟩ (fun _ => rfl))
    have lo : ∀ x : Int32, x < (-1000000000) → alg x 1000000000 = true := fun x z => decide_eq_true (Or.inr (by
      have z := Int32.lt_iff_toInt_lt.mp z
      rw [show (-1000000000 : Int32).toInt = -1000000000 by decide] at z
      exact z))
    have hi' : ∀ x : Int32, (1000000000 : Int32) < x → alg x 1000000000 = true := fun x z => decide_eq_true (Or.inl (by
      have z := Int32.lt_iff_toInt_lt.mp z
      rw [show (1000000000 : Int32).toInt = 1000000000 by decide] at z
      exact z))
    have mid : ∀ x : Int32, ¬ x < (-1000000000) → ¬ (1000000000 : Int32) < x → alg x 1000000000 = false := fun x z1 z2 => decide_eq_false (by
      have z1 : ¬ x.toInt < (-1000000000 : Int32).toInt := fun y => z1 (Int32.lt_iff_toInt_lt.mpr y)
      have z2 : ¬ (1000000000 : Int32).toInt < x.toInt := fun y => z2 (Int32.lt_iff_toInt_lt.mpr y)
      rw [show (-1000000000 : Int32).toInt = -1000000000 by decide] at z1
      rw [show (1000000000 : Int32).toInt = 1000000000 by decide] at z2
      omega)
    refine ⟨fun c1 => s22 false _ _ _ _ ?_, fun c1 => ⟨fun c2 => s22 false _ _ _ _ ?_, fun c2 => ⟨fun c3 => s22 false _ _ _ _ ?_, fun c3 => ⟨fun c4 => s22 false _ _ _ _ ?_, fun c4 => ⟨fun c5 => s22 false _ _ _ _ ?_, fun c5 => s22 true _ _ _ _ ?_⟩⟩⟩⟩⟩
    · rw [lo a c1]; simp
    · rw [hi' a c2]; simp
    · rw [lo b c3]; simp
    · rw [hi' b c4]; simp
    · rw [c5]; simp
    · exact ⟨fun _ => ⟨mid a c1 c2, mid b c3 c4, c5⟩, fun _ => rfl⟩
  · rw [if_neg (by rw [hp]; decide)] at h
    exact h M hx zfm_rf
