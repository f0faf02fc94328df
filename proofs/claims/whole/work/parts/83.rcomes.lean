/-! the reference: a term comes -/
def cel (M : zM) (x : Nat) : Int32 × Int32 × Int32 := (zI M 1530 x, zI M 1531 x, zI M 1532 x)
def etm (t : aT) : Int32 × Int32 × Int32 := (Int32.ofInt t.1.1, Int32.ofInt t.1.2, e5 t.2)
def zu3 (M : zM) (y : Nat) (v : Int32 × Int32 × Int32) : zM := zuI (zuI (zuI M 1530 y v.1) 1531 y v.2.1) 1532 y v.2.2
theorem qdy_c {M : zM} {p : Nat} {L : aP} : qdy M p L ↔ zI M 1533 p = nI L.length ∧ ∀ j t, L[j]? = some t → cel M (100 * p + j) = etm t := by
  constructor
  · rintro ⟨h1, h2⟩
    refine ⟨h1, fun j t hj => ?_⟩
    obtain ⟨a, b, c⟩ := h2 j t hj
    unfold cel etm
    rw [a, b, c]
  · rintro ⟨h1, h2⟩
    refine ⟨h1, fun j t hj => ?_⟩
    have := h2 j t hj
    exact ⟨congrArg Prod.fst this, congrArg (fun x => x.2.1) this, congrArg (fun x => x.2.2) this⟩
theorem cel_3 {M : zM} {y x : Nat} {v : Int32 × Int32 × Int32} : cel (zu3 M y v) x = if x = y then v else cel M x := by
  unfold cel zu3
  rw [zI_uI, if_neg (by omega), zI_uI, if_neg (by omega), zI_uI, zI_uI, if_neg (show ¬ (1531 = 1532 ∧ x = y) by omega), zI_uI, zI_uI, if_neg (show ¬ (1531 = 1530 ∧ x = y) by omega), zI_uI, zI_uI, if_neg (show ¬ (1532 = 1531 ∧ x = y) by omega), zI_uI, if_neg (show ¬ (1532 = 1530 ∧ x = y) by omega)]
  by_cases h : x = y
  · rw [if_pos ⟨rfl, h⟩, if_pos ⟨rfl, h⟩, if_pos ⟨rfl, h⟩, if_pos h]
  · rw [if_neg (fun z => h z.2), if_neg (fun z => h z.2), if_neg (fun z => h z.2), if_neg h]
theorem zI_3 {M : zM} {y a j : Nat} {v : Int32 × Int32 × Int32} (h : a < 1530 ∨ 1532 < a) : zI (zu3 M y v) a j = zI M a j := by
  unfold zu3
  rw [zI_uI, if_neg (by omega), zI_uI, if_neg (by omega), zI_uI, if_neg (by omega)]
theorem rfr_c {T F G : Nat → Prop} {M : zM} {y : Nat} {v : Int32 × Int32 × Int32} (h : T (y / 100)) : rfr T F G M (zu3 M y v) := rfr_tr (rfr_0 h) (rfr_tr (rfr_1 h) (rfr_2 h))
theorem zu3_cp {M : zM} {y z : Nat} : zuI (zuI (zuI M 1530 y (zI M 1530 z)) 1531 y (zI (zuI M 1530 y (zI M 1530 z)) 1531 z)) 1532 y (zI (zuI (zuI M 1530 y (zI M 1530 z)) 1531 y (zI (zuI M 1530 y (zI M 1530 z)) 1531 z)) 1532 z) = zu3 M y (cel M z) := by
  unfold zu3 cel
  rw [show zI (zuI M 1530 y (zI M 1530 z)) 1531 z = zI M 1531 z by rw [zI_uI, if_neg (by omega)], show zI (zuI (zuI M 1530 y (zI M 1530 z)) 1531 y (zI M 1531 z)) 1532 z = zI M 1532 z by rw [zI_uI, if_neg (by omega), zI_uI, if_neg (by omega)]]
theorem acmp_pos {k : Nat} {a b : aM} : ¬ acmp k a b ≤ 0 ↔ ark k b < ark k a := by
  unfold acmp
  split
  · exact ⟨fun h => absurd (by decide) h, fun h => by omega⟩
  · split
    · exact ⟨fun _ => by assumption, fun _ => by decide⟩
    · exact ⟨fun h => absurd (by decide) h, fun h => by omega⟩
theorem acmp_neg {k : Nat} {a b : aM} : acmp k a b < 0 ↔ ark k a < ark k b := by
  unfold acmp
  split
  · exact ⟨fun _ => by assumption, fun _ => by decide⟩
  · split
    · exact ⟨fun h => absurd h (by decide), fun h => by omega⟩
    · exact ⟨fun h => absurd h (by decide), fun h => by omega⟩
/-- variables that there are -/
def pvn (nv : Nat) (L : aP) : Prop := ∀ t ∈ L, vin nv t.2
theorem sp_rcomesF {d : Nat} {M : zM} {p x y m : Int32} {P : zM → Prop} (hd : 1 ≤ d) (hM : mst M) (hf : zI M 1529 11 = 1) (h : P M) : ycV d nX8_comes [.ref 1529, .int p, .int x, .int y, .int m] M P := by
  obtain ⟨d, rfl, he⟩ := dS hd
  exact en_X8_comes _ _ _ _ _ M (sg_X8_comes_0 _ _ _ _ _ M ⟨hM.1, fun z => absurd z (by rw [hf]; decide), fun _ => ⟨rfl, h⟩⟩)
theorem sp_rcomes {d nv k p : Nat} {M : zM} {L : aP} {t : aT} {P : zM → Prop} (hd : 4 ≤ d) (hM : mst M) (hv : mvk M nv k) (hp : p < 372) (hL : qdy M p L) (hk : pok k L) (hin : pvn nv L) (ht : tok t) (hit : vin nv t.2) (hf : zI M 1529 11 = 0) (h1 : ∀ L' M', acome k t L = some L' → rfr (fun x => x = p) FF GN M M' → zI M' 1529 11 = 0 → qdy M' p L' → P M') (h0 : ∀ M', acome k t L = none → rfr (fun x => x = p) FF GN M M' → zI M' 1529 11 = 1 → qdy M' p L → P M') : ycV d nX8_comes [.ref 1529, .int (nI p), .int (Int32.ofInt t.1.1), .int (Int32.ofInt t.1.2), .int (e5 t.2)] M P := by
  obtain ⟨d, rfl, he⟩ := dS hd
  obtain ⟨s16, ⟨r3, r4, r5, r6, -⟩, ⟨k0, k1, k2, k3⟩, -⟩ := id hM
  have hl := hk.2.2
  have cp := cl_n (n := p) (by omega)
  have zp : zin (nI p) 372 := zin_n hp (by omega)
  obtain ⟨hs, hc⟩ := qdy_c.mp hL
  have ax : ∀ i, nI (100 * p) + nI i = nI (100 * p + i) := fun i => nI_add _ _
  have hpos := apos_le (k := k) (m := t.2) L
  -- the term is put between
  have insert : ∀ (i : Nat) (o7 : Option Value), apos k t.2 L = i → (acome k t L = if 100 ≤ L.length then none else some (L.insertIdx i t)) → wX8_comes d (fun r M2 => r = [] ∧ P M2) 159 [some (.ref 1529), some (.int (nI p)), some (.int (Int32.ofInt t.1.1)), some (.int (Int32.ofInt t.1.2)), some (.int (e5 t.2)), some (.int (nI (100 * p))), some (.int (nI i)), o7] [] M := by
    intro i o7 hi hac
    refine sg_X8_comes_159 _ _ _ _ _ _ _ _ _ ⟨s16, by rw [r6, k3], by rw [r6, k3]; exact zp, ?_⟩
    rw [r6, cp, hs]
    refine ⟨fun c => ?_, fun c => ⟨s16, Or.inr rfl, ?_⟩⟩
    · have c : L.length ≠ 100 := fun z => c (by rw [z]; rfl)
      rw [if_neg (by omega)] at hac
      refine sg_X8_comes_169 _ _ _ _ _ _ _ _ _ ⟨s16, by rw [r6, k3], by rw [r6, k3]; exact zp, ?_⟩
      intro v7
      rw [show v7 = nI L.length by rw [show v7 = zI M (zR M 1529 6) (nI p).toNatClampNeg from rfl, r6, cp]; exact hs]
      clear_value v7
      have loop : ∀ (n : Nat) (M' : zM), i + n ≤ L.length → rfr (fun x => x = p) FF GN M M' → zI M' 1529 11 = 0 → zI M' 1533 p = nI L.length → (∀ j u, j < i + n → L[j]? = some u → cel M' (100 * p + j) = etm u) → (∀ j u, i + n < j → j ≤ L.length → L[j - 1]? = some u → cel M' (100 * p + j) = etm u) → wX8_comes d (fun r M2 => r = [] ∧ P M2) 174 [some (.ref 1529), some (.int (nI p)), some (.int (Int32.ofInt t.1.1)), some (.int (Int32.ofInt t.1.2)), some (.int (e5 t.2)), some (.int (nI (100 * p))), some (.int (nI i)), some (.int (nI (i + n)))] [] M' := by
        intro n
        induction n with
        | zero =>
          intro M' hin2 hfr hf' hs' hlo hhi
          have R := hfr.2.2.2.1
          have S := hfr.1
          have q16 : (zsh M' 1529).1 = 16 := by rw [S]; exact s16
          have cx := cl_n (n := 100 * p + i) (by omega)
          have zx : zin (nI (100 * p + i)) 37200 := zin_n (by omega) (by omega)
          refine sg_X8_comes_174 _ _ _ _ _ _ _ _ _ ⟨fun _ => ?_, fun z => absurd (Int32.le_refl _) z⟩
          refine sg_X8_comes_221 _ _ _ _ _ _ _ _ _ ?_
          rw [ax, cx, cp]
          refine ⟨q16, by rw [R, r3, S, k0], by rw [R, r3, S, k0]; exact zx, ?_⟩
          intro M1
          refine ⟨q16, by rw [R, r4, S, k1], by rw [R, r4, S, k1]; exact zx, ?_⟩
          intro M2
          refine ⟨q16, by rw [R, r5, S, k2], by rw [R, r5, S, k2]; exact zx, ?_⟩
          intro M3
          refine ⟨q16, by rw [R, r6, S, k3], by rw [R, r6, S, k3]; exact zp, by rw [R, r6, S, k3], by rw [R, r6, S, k3]; exact zp, ?_⟩
          intro M4
          have m3 : M3 = zu3 M' (100 * p + i) (etm t) := by rw [show M3 = zuI (zuI (zuI M' (zR M' 1529 3) (100 * p + i) (Int32.ofInt t.1.1)) (zR M' 1529 4) (100 * p + i) (Int32.ofInt t.1.2)) (zR M' 1529 5) (100 * p + i) (e5 t.2) from rfl, R, R, R, r3, r4, r5]; rfl
          have m4 : M4 = zuI M3 1533 p (nI (L.length + 1)) := by rw [show M4 = zuI M3 (zR M' 1529 6) p (zI M3 (zR M' 1529 6) p + 1) from rfl, R, r6, m3, zI_3 (by omega), hs', nI_1]
          clear_value M3 M4
          have hfr4 : rfr (fun x => x = p) FF GN M' M4 := by
            rw [m4, m3]
            exact rfr_tr (rfr_c (by show (100 * p + i) / 100 = p; omega)) (rfr_3 rfl)
          refine ⟨rfl, h1 _ M4 hac (rfr_tr hfr hfr4) ?_ (qdy_c.mpr ⟨?_, fun j u hj => ?_⟩)⟩
          · rw [m4, zI_uI, if_neg (by omega), m3, zI_3 (by omega)]; exact hf'
          · rw [m4, zI_uI, if_pos ⟨rfl, rfl⟩, List.length_insertIdx, if_pos (by omega)]
          · have hcel : cel M4 (100 * p + j) = cel M3 (100 * p + j) := by
              rw [m4]
              unfold cel
              rw [zI_uI, if_neg (by omega), zI_uI, if_neg (by omega), zI_uI, if_neg (by omega)]
            rw [hcel, m3, cel_3]
            rw [List.getElem?_insertIdx] at hj
            by_cases hji : j < i
            · rw [if_pos hji] at hj
              rw [if_neg (by omega)]
              exact hlo j u (by omega) hj
            · rw [if_neg hji] at hj
              by_cases hje : j = i
              · rw [if_pos hje, if_pos (by omega)] at hj
                cases hj
                rw [if_pos (by omega)]
              · rw [if_neg hje] at hj
                rw [if_neg (by omega)]
                have hjl := (List.getElem?_eq_some_iff.mp hj).1
                exact hhi j u (by omega) (by omega) hj
        | succ n ih =>
          intro M' hin2 hfr hf' hs' hlo hhi
          have R := hfr.2.2.2.1
          have S := hfr.1
          have q16 : (zsh M' 1529).1 = 16 := by rw [S]; exact s16
          have cx := cl_n (n := 100 * p + (i + (n + 1))) (by omega)
          have cy := cl_n (n := 100 * p + (i + n)) (by omega)
          have zx : zin (nI (100 * p + (i + (n + 1)))) 37200 := zin_n (by omega) (by omega)
          have zy : zin (nI (100 * p + (i + n))) 37200 := zin_n (by omega) (by omega)
          have em : nI (100 * p + (i + (n + 1))) - 1 = nI (100 * p + (i + n)) := nI_pred _
          refine sg_X8_comes_174 _ _ _ _ _ _ _ _ _ ⟨fun z => ?_, fun _ => ?_⟩
          · have := (nI_leI (by omega) (by omega)).mp z
            omega
          · rw [ax, em, cx, cy]
            refine ⟨q16, q16, by rw [R, r3, S, k0], by rw [R, r3, S, k0]; exact zy, by rw [R, r3, S, k0], by rw [R, r3, S, k0]; exact zx, ?_⟩
            intro M1
            refine ⟨q16, q16, by rw [R, r4, S, k1], by rw [R, r4, S, k1]; exact zy, by rw [R, r4, S, k1], by rw [R, r4, S, k1]; exact zx, ?_⟩
            intro M2
            refine ⟨q16, q16, by rw [R, r5, S, k2], by rw [R, r5, S, k2]; exact zy, by rw [R, r5, S, k2], by rw [R, r5, S, k2]; exact zx, ?_⟩
            intro M3 v7
            have m3 : M3 = zu3 M' (100 * p + (i + (n + 1))) (cel M' (100 * p + (i + n))) := by
              rw [← zu3_cp]
              rw [show M3 = zuI M2 (zR M' 1529 5) (100 * p + (i + (n + 1))) (zI M2 (zR M' 1529 5) (100 * p + (i + n))) from rfl, show M2 = zuI M1 (zR M' 1529 4) (100 * p + (i + (n + 1))) (zI M1 (zR M' 1529 4) (100 * p + (i + n))) from rfl, show M1 = zuI M' (zR M' 1529 3) (100 * p + (i + (n + 1))) (zI M' (zR M' 1529 3) (100 * p + (i + n))) from rfl, R, R, R, r3, r4, r5]
            clear_value M3
            rw [show v7 = nI (i + n) from pk_m1 (i + n)]
            have hfr3 : rfr (fun x => x = p) FF GN M' M3 := by
              rw [m3]
              exact rfr_c (by show (100 * p + (i + (n + 1))) / 100 = p; omega)
            refine ih M3 (by omega) (rfr_tr hfr hfr3) (by rw [m3, zI_3 (by omega)]; exact hf') (by rw [m3, zI_3 (by omega)]; exact hs') (fun j u hj hu => ?_) (fun j u hj hjl hu => ?_)
            · rw [m3, cel_3, if_neg (by omega)]
              exact hlo j u (by omega) hu
            · rw [m3, cel_3]
              by_cases hje : j = i + (n + 1)
              · rw [if_pos (by omega)]
                rw [show j - 1 = i + n by omega] at hu
                exact hlo _ u (by omega) hu
              · rw [if_neg (by omega)]
                exact hhi j u (by omega) hjl hu
      have := loop (L.length - i) M (by omega) rfr_rf hf hs (fun j u _ hu => hc j u hu) (fun j u h1 h2 => by omega)
      rw [show i + (L.length - i) = L.length by omega] at this
      exact this
    · intro M1
      have c : L.length = 100 := (nI_eq (b := 100) (by omega) (by omega)).mp (Classical.not_not.mp c)
      rw [if_pos (by omega)] at hac
      exact ⟨rfl, h0 M1 hac (rfr_F (Or.inl rfl)) (by rw [show M1 = zuI M 1529 11 1 from rfl, zI_uI, if_pos ⟨rfl, rfl⟩]) (qdy_fr (T := TN) (F := FF) (G := GN) (rfr_F (Or.inl rfl)) (fun z => z) hl hL)⟩
  -- the place is found
  have at28 : ∀ (i : Nat) (o7 : Option Value), apos k t.2 L = i → wX8_comes d (fun r M2 => r = [] ∧ P M2) 28 [some (.ref 1529), some (.int (nI p)), some (.int (Int32.ofInt t.1.1)), some (.int (Int32.ofInt t.1.2)), some (.int (e5 t.2)), some (.int (nI (100 * p))), some (.int (nI i)), o7] [] M := by
    intro i o7 hi
    have hil : i ≤ L.length := by omega
    refine sg_X8_comes_28 _ _ _ _ _ _ _ _ _ ⟨s16, by rw [r6, k3], by rw [r6, k3]; exact zp, ?_⟩
    rw [r6, cp, hs]
    refine ⟨fun c => insert i _ hi ?_, fun c => ?_⟩
    · have c := (nI_leI (by omega) (by omega)).mp c
      unfold acome
      rw [hi, List.getElem?_eq_none (by omega)]
    · have c : ¬ L.length ≤ i := fun z => c ((nI_leI (by omega) (by omega)).mpr z)
      have hu := List.getElem?_eq_getElem (show i < L.length by omega)
      have cx := cl_n (n := 100 * p + i) (by omega)
      have zx : zin (nI (100 * p + i)) 37200 := zin_n (by omega) (by omega)
      obtain ⟨g0, g1, g2⟩ := hL.2 i _ hu
      have hku := hk.1 _ (List.getElem_mem (show i < L.length by omega))
      have hac0 : acome k t L = (if L[i].2 = t.2 then (match afsum L[i].1 t.1 with
        | none => none
        | some s => if s.1 = 0 then some (L.eraseIdx i) else some (L.set i (s, t.2)))
        else if 100 ≤ L.length then none else some (L.insertIdx i t)) := by
        unfold acome
        rw [hi, hu]
        rfl
      generalize L[i] = u at hu g0 g1 g2 hku hac0
      rw [ax, cx]
      refine ⟨s16, by rw [r5, k2], by rw [r5, k2]; exact zx, ?_⟩
      rw [r5, g2]
      refine ⟨fun c2 => insert i _ hi ?_, fun c2 => ?_⟩
      · rw [hac0, if_neg (fun z => c2 (by rw [z]))]
      · have c2 := e5_inj hku.2.2 ht.2.2 (Classical.not_not.mp c2)
        rw [if_pos c2] at hac0
        refine ⟨s16, by rw [r3, k0], by rw [r3, k0]; exact zx, s16, by rw [r4, k1], by rw [r4, k1]; exact zx, s16, by rw [r4, k1], by rw [r4, k1]; exact zx, s16, ?_⟩
        rw [r3, r4, g0, g1]
        obtain ⟨⟨u1, u2⟩, u3, u4⟩ := hku.1
        obtain ⟨⟨t1, t2⟩, t3, t4⟩ := ht.1
        have q1 := mul_le_abs (a := u.1.1) (b := t.1.2) (m := 1000000000) (n := 1000000000) (by omega) (by omega) (by omega) (by omega)
        have q2 := mul_le_abs (a := t.1.1) (b := u.1.2) (m := 1000000000) (n := 1000000000) (by omega) (by omega) (by omega) (by omega)
        have q3 := mul_le_abs (a := u.1.2) (b := t.1.2) (m := 1000000000) (n := 1000000000) (by omega) (by omega) (by omega) (by omega)
        have q4 := Int.mul_pos u3 t3
        have x1 : (Int32.ofInt u.1.1).toInt64.toInt = u.1.1 := tI64 (by omega)
        have x2 : (Int32.ofInt u.1.2).toInt64.toInt = u.1.2 := tI64 (by omega)
        have x3 : (Int32.ofInt t.1.1).toInt64.toInt = t.1.1 := tI64 (by omega)
        have x4 : (Int32.ofInt t.1.2).toInt64.toInt = t.1.2 := tI64 (by omega)
        have y1 : ((Int32.ofInt u.1.1).toInt64 * (Int32.ofInt t.1.2).toInt64).toInt = u.1.1 * t.1.2 := by rw [tl_mul (by rw [x1, x4]; omega), x1, x4]
        have y2 : ((Int32.ofInt t.1.1).toInt64 * (Int32.ofInt u.1.2).toInt64).toInt = t.1.1 * u.1.2 := by rw [tl_mul (by rw [x3, x2]; omega), x3, x2]
        have y3 : ((Int32.ofInt u.1.2).toInt64 * (Int32.ofInt t.1.2).toInt64).toInt = u.1.2 * t.1.2 := by rw [tl_mul (by rw [x2, x4]; omega), x2, x4]
        refine sp_rlow (A := u.1.1 * t.1.2 + t.1.1 * u.1.2) (B := u.1.2 * t.1.2) (by omega) hM hf (by rw [tl_add (by rw [y1, y2]; omega), y1, y2]) y3 (by omega) (by omega) fun M1 hfr1 hlo1 => ?_
        have hlo1 : rlo M1 (afsum u.1 t.1) := hlo1
        have hM1 := mst_fr hfr1 hM
        have hfr1' : rfr (fun x => x = p) FF GN M M1 := rfr_up hfr1 (fun _ z => z.elim) (fun _ z => z) (fun _ z => z)
        have hL1 := qdy_fr hfr1 (fun z => z) hl hL
        obtain ⟨hs1, hc1⟩ := qdy_c.mp hL1
        refine ⟨hM1.1, ?_⟩
        cases hsm : afsum u.1 t.1 with
        | none =>
          rw [hsm] at hlo1 hac0
          have hlo1 : zI M1 1529 11 = 1 := hlo1
          exact ⟨fun z => absurd z (by rw [hlo1]; decide), fun _ => ⟨rfl, h0 M1 hac0 hfr1' hlo1 hL1⟩⟩
        | some s =>
          rw [hsm] at hlo1 hac0
          obtain ⟨l1, l2, l3⟩ := hlo1
          have hac0 : acome k t L = if s.1 = 0 then some (L.eraseIdx i) else some (L.set i (s, t.2)) := hac0
          have hsk := (afsum_ok hku.1 ht.1 hsm).1
          refine ⟨fun _ => ?_, fun z => absurd l1 z⟩
          obtain ⟨q16, ⟨p3, p4, p5, p6, -⟩, ⟨w0, w1, w2, w3⟩, -⟩ := id hM1
          refine sg_X8_comes_79 _ _ _ _ _ _ _ _ _ ?_
          rw [ax, cx]
          refine ⟨q16, q16, by rw [p3, w0], by rw [p3, w0]; exact zx, ?_⟩
          intro M2
          refine ⟨q16, q16, by rw [p4, w1], by rw [p4, w1]; exact zx, ?_⟩
          intro M3
          have m2 : M2 = zuI M1 1530 (100 * p + i) (Int32.ofInt s.1) := by rw [show M2 = zuI M1 (zR M1 1529 3) (100 * p + i) (zI M1 1529 16) from rfl, p3, l2]
          have m3 : M3 = zuI M2 1531 (100 * p + i) (Int32.ofInt s.2) := by rw [show M3 = zuI M2 (zR M1 1529 4) (100 * p + i) (zI M2 1529 17) from rfl, p4, m2, zI_uI, if_neg (by omega), l3]
          clear_value M2 M3
          have hfr3 : rfr (fun x => x = p) FF GN M1 M3 := by
            rw [m3, m2]
            have e : (100 * p + i) / 100 = p := by omega
            exact rfr_tr (rfr_0 e) (rfr_1 e)
          have f3 : ∀ a j, a < 1530 ∨ 1531 < a → zI M3 a j = zI M1 a j := fun a j ha => by
            rw [m3, zI_uI, if_neg (by omega), m2, zI_uI, if_neg (by omega)]
          have c3 : ∀ x, cel M3 x = if x = 100 * p + i then (Int32.ofInt s.1, Int32.ofInt s.2, zI M1 1532 x) else cel M1 x := fun x => by
            unfold cel
            rw [f3 1532 x (by omega), m3, zI_uI, if_neg (show ¬ (1530 = 1531 ∧ x = 100 * p + i) by omega), zI_uI, m2, zI_uI, zI_uI, if_neg (show ¬ (1531 = 1530 ∧ x = 100 * p + i) by omega)]
            by_cases hx : x = 100 * p + i
            · rw [if_pos ⟨rfl, hx⟩, if_pos ⟨rfl, hx⟩, if_pos hx]
            · rw [if_neg (fun z => hx z.2), if_neg (fun z => hx z.2), if_neg hx]
          have hz16 : zI M3 1529 16 = Int32.ofInt s.1 := by rw [f3 _ _ (by omega)]; exact l2
          have hz11 : zI M3 1529 11 = 0 := by rw [f3 _ _ (by omega)]; exact l1
          refine ⟨q16, fun z => ?_, fun z => ?_⟩
          · have z : s.1 ≠ 0 := fun y => z (by rw [hz16, y]; rfl)
            rw [if_neg z] at hac0
            refine ⟨rfl, h1 _ M3 hac0 (rfr_tr hfr1' hfr3) hz11 (qdy_c.mpr ⟨?_, fun j v hj => ?_⟩)⟩
            · rw [f3 _ _ (by omega), hs1, List.length_set]
            · rw [c3]
              rw [List.getElem?_set] at hj
              by_cases hji : i = j
              · rw [if_pos hji, if_pos (by omega)] at hj
                cases hj
                rw [if_pos (by omega), ← hji]
                have := (hL1.2 i u hu).2.2
                show (_, _, zI M1 1532 (100 * p + i)) = _
                rw [this, c2]
                rfl
              · rw [if_neg hji] at hj
                rw [if_neg (by omega)]
                exact hc1 j v hj
          · have z : s.1 = 0 := by
              have z := Classical.not_not.mp z
              rw [hz16] at z
              have := congrArg Int32.toInt z
              rw [tI_of (by have := hsk.1; omega), Int32.toInt_zero] at this
              exact this
            rw [if_pos z] at hac0
            have hM3 := mst_fr hfr3 hM1
            obtain ⟨q16, ⟨p3, p4, p5, p6, -⟩, ⟨w0, w1, w2, w3⟩, -⟩ := id hM3
            refine sg_X8_comes_98 _ _ _ _ _ _ _ _ _ ⟨q16, by rw [p6, w3], by rw [p6, w3]; exact zp, by rw [p6, w3], by rw [p6, w3]; exact zp, ?_⟩
            intro M4
            have m4 : M4 = zuI M3 1533 p (nI (L.length - 1)) := by
              rw [show M4 = zuI M3 (zR M3 1529 6) (nI p).toNatClampNeg (zI M3 (zR M3 1529 6) (nI p).toNatClampNeg - 1) from rfl, p6, cp, f3 _ _ (by omega), hs1]
              rw [show L.length = (L.length - 1) + 1 by omega, nI_pred]
              rfl
            clear_value M4
            have hfr4 : rfr (fun x => x = p) FF GN M3 M4 := by rw [m4]; exact rfr_3 rfl
            have hcel4 : ∀ x, cel M4 x = cel M3 x := fun x => by
              rw [m4]
              unfold cel
              rw [zI_uI, if_neg (by omega), zI_uI, if_neg (by omega), zI_uI, if_neg (by omega)]
            have loop : ∀ (n j : Nat) (M' : zM) (o2 o3 o4 o6 : Option Value), j + n = L.length - 1 → i ≤ j → rfr (fun x => x = p) FF GN M M' → zI M' 1529 11 = 0 → zI M' 1533 p = nI (L.length - 1) → (∀ a v, a < i → L[a]? = some v → cel M' (100 * p + a) = etm v) → (∀ a v, i ≤ a → a < j → L[a + 1]? = some v → cel M' (100 * p + a) = etm v) → (∀ a v, j < a → L[a]? = some v → cel M' (100 * p + a) = etm v) → wX8_comes d (fun r M2 => r = [] ∧ P M2) 108 [some (.ref 1529), some (.int (nI p)), o2, o3, o4, some (.int (nI (100 * p))), o6, some (.int (nI j))] [] M' := by
              intro n
              induction n with
              | zero =>
                intro j M' o2 o3 o4 o6 hj hij hfr hf' hs' ha hb hcc
                have R := hfr.2.2.2.1
                have S := hfr.1
                refine sg_X8_comes_108 _ _ _ _ _ _ _ _ _ ⟨by rw [S]; exact s16, by rw [R, r6, S, k3], by rw [R, r6, S, k3]; exact zp, fun _ => ⟨rfl, h1 _ M' hac0 hfr hf' (qdy_c.mpr ⟨?_, fun a v hav => ?_⟩)⟩, fun y => absurd (by rw [R, r6, cp, hs', show j = L.length - 1 by omega]; exact Int32.le_refl _) y⟩
                · rw [hs', List.length_eraseIdx, if_pos (by omega)]
                · rw [List.getElem?_eraseIdx] at hav
                  by_cases hai : a < i
                  · rw [if_pos hai] at hav
                    exact ha a v hai hav
                  · rw [if_neg hai] at hav
                    have := (List.getElem?_eq_some_iff.mp hav).1
                    exact hb a v (by omega) (by omega) hav
              | succ n ih =>
                intro j M' o2 o3 o4 o6 hj hij hfr hf' hs' ha hb hcc
                have R := hfr.2.2.2.1
                have S := hfr.1
                have q16 : (zsh M' 1529).1 = 16 := by rw [S]; exact s16
                have cx := cl_n (n := 100 * p + j) (by omega)
                have cy := cl_n (n := 100 * p + j + 1) (by omega)
                have zx : zin (nI (100 * p + j)) 37200 := zin_n (by omega) (by omega)
                have zy : zin (nI (100 * p + j + 1)) 37200 := zin_n (by omega) (by omega)
                refine sg_X8_comes_108 _ _ _ _ _ _ _ _ _ ⟨q16, by rw [R, r6, S, k3], by rw [R, r6, S, k3]; exact zp, fun y => ?_, fun _ => ?_⟩
                · rw [R, r6, cp, hs'] at y
                  have := (nI_leI (by omega) (by omega)).mp y
                  omega
                · rw [ax, nI_1, cx, cy]
                  refine ⟨q16, q16, by rw [R, r3, S, k0], by rw [R, r3, S, k0]; exact zy, by rw [R, r3, S, k0], by rw [R, r3, S, k0]; exact zx, ?_⟩
                  intro N1
                  refine ⟨q16, q16, by rw [R, r4, S, k1], by rw [R, r4, S, k1]; exact zy, by rw [R, r4, S, k1], by rw [R, r4, S, k1]; exact zx, ?_⟩
                  intro N2
                  refine ⟨q16, q16, by rw [R, r5, S, k2], by rw [R, r5, S, k2]; exact zy, by rw [R, r5, S, k2], by rw [R, r5, S, k2]; exact zx, ?_⟩
                  intro N3 v7
                  have n3 : N3 = zu3 M' (100 * p + j) (cel M' (100 * p + j + 1)) := by
                    rw [← zu3_cp]
                    rw [show N3 = zuI N2 (zR M' 1529 5) (100 * p + j) (zI N2 (zR M' 1529 5) (100 * p + j + 1)) from rfl, show N2 = zuI N1 (zR M' 1529 4) (100 * p + j) (zI N1 (zR M' 1529 4) (100 * p + j + 1)) from rfl, show N1 = zuI M' (zR M' 1529 3) (100 * p + j) (zI M' (zR M' 1529 3) (100 * p + j + 1)) from rfl, R, R, R, r3, r4, r5]
                  clear_value N3
                  rw [show v7 = nI (j + 1) from nI_1 j]
                  refine ih (j + 1) N3 _ _ _ _ (by omega) (by omega) (rfr_tr hfr (by rw [n3]; exact rfr_c (by show (100 * p + j) / 100 = p; omega))) (by rw [n3, zI_3 (by omega)]; exact hf') (by rw [n3, zI_3 (by omega)]; exact hs') (fun a v hai hav => ?_) (fun a v hia haj hav => ?_) (fun a v haj hav => ?_)
                  · rw [n3, cel_3, if_neg (by omega)]
                    exact ha a v hai hav
                  · rw [n3, cel_3]
                    by_cases haje : a = j
                    · rw [if_pos (by omega)]
                      rw [haje] at hav
                      rw [show 100 * p + j + 1 = 100 * p + (j + 1) by omega]
                      exact hcc (j + 1) v (by omega) hav
                    · rw [if_neg (by omega)]
                      exact hb a v hia (by omega) hav
                  · rw [n3, cel_3, if_neg (by omega)]
                    exact hcc a v (by omega) hav
            refine loop (L.length - 1 - i) i M4 _ _ _ _ (by omega) (Nat.le_refl _) (rfr_tr hfr1' (rfr_tr hfr3 hfr4)) (by rw [m4, zI_uI, if_neg (by omega)]; exact hz11) (by rw [m4, zI_uI, if_pos ⟨rfl, rfl⟩]) (fun a v hai hav => ?_) (fun a v h1 h2 => by omega) (fun a v hai hav => ?_)
            · rw [hcel4, c3, if_neg (by omega)]
              exact hc1 a v hav
            · rw [hcel4, c3, if_neg (by omega)]
              exact hc1 a v hav
  -- the search
  have search : ∀ (n i : Nat) (o7 : Option Value), i + n = L.length → (∀ j u, j < i → L[j]? = some u → ark k t.2 < ark k u.2) → wX8_comes d (fun r M2 => r = [] ∧ P M2) 10 [some (.ref 1529), some (.int (nI p)), some (.int (Int32.ofInt t.1.1)), some (.int (Int32.ofInt t.1.2)), some (.int (e5 t.2)), some (.int (nI (100 * p))), some (.int (nI i)), o7] [] M := by
    intro n
    induction n with
    | zero =>
      intro i o7 hi hg
      refine sg_X8_comes_10 _ _ _ _ _ _ _ _ _ ⟨s16, by rw [r6, k3], by rw [r6, k3]; exact zp, fun _ => at28 i _ (apos_eq (by omega) hg fun j u hj hu => ?_), fun z => absurd (by rw [r6, cp, hs, show i = L.length by omega]; exact Int32.le_refl _) z⟩
      have := (List.getElem?_eq_some_iff.mp hu).1
      omega
    | succ n ih =>
      intro i o7 hi hg
      have hil : i < L.length := by omega
      have hu := List.getElem?_eq_getElem hil
      obtain ⟨g0, g1, g2⟩ := hL.2 i _ hu
      have hku := hk.1 _ (List.getElem_mem hil)
      have cx := cl_n (n := 100 * p + i) (by omega)
      refine sg_X8_comes_10 _ _ _ _ _ _ _ _ _ ⟨s16, by rw [r6, k3], by rw [r6, k3]; exact zp, fun z => ?_, fun _ => ⟨s16, by rw [r5, k2], by rw [r5, k2, ax]; exact zin_n (by omega) (by omega), s16, ?_⟩⟩
      · rw [r6, cp, hs] at z
        have := (nI_leI (by omega) (by omega)).mp z
        omega
      · rw [r5, ax, cx, g2]
        refine sp_rcmp (by omega) hM hv hku.2.2 ht.2.2 (hin _ (List.getElem_mem hil)) hit ⟨fun c => at28 i _ (apos_eq (by omega) hg fun j u hj huj => ?_), fun c => ?_⟩
        · have c : ¬ ark k t.2 < ark k L[i].2 := fun z => (acmp_pos.mpr z) c
          by_cases hij : j = i
          · subst hij
            rw [hu] at huj
            cases huj
            omega
          · have := srt_iff.mp hk.2.1 i j _ _ (by omega) hu huj
            omega
        · have c := acmp_pos.mp c
          intro v6
          rw [show v6 = nI (i + 1) from nI_1 i]
          refine ih (i + 1) _ (by omega) fun j u hj huj => ?_
          by_cases hij : j = i
          · subst hij
            rw [hu] at huj
            cases huj
            exact c
          · exact hg j u (by omega) huj
  refine en_X8_comes _ _ _ _ _ M (sg_X8_comes_0 _ _ _ _ _ M ⟨s16, fun _ => ?_, fun z => absurd hf z⟩)
  intro v5
  rw [show v5 = nI (100 * p) by rw [show v5 = (100 : Int32) * nI p from rfl, show (100 : Int32) = nI 100 from rfl, pk_mul]]
  exact search L.length 0 _ (by omega) fun j u hj => absurd hj (Nat.not_lt_zero _)
