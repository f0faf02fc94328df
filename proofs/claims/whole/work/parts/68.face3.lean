/-! calls of the class: points, order, generators, what stands -/
theorem atm_fk {pt : Nat → Int} {m : aM} {N : Nat} (hx : ∀ v, v < N → fok (pt v, 1)) : ∀ {n v : Nat} {c s : aF}, v + n ≤ N → fok c → atm pt m n v c = some s → fok s
  | 0, v, c, s, _, hc, h => by cases h; exact hc
  | n + 1, v, c, s, hv, hc, h => by
    unfold atm at h
    split at h
    · cases h
    · rename_i s1 hs1
      exact atm_fk hx (by omega) (apw_fok (hx v (by omega)) hc hs1) h
theorem aval_fk {pt : Nat → Int} {N : Nat} (hx : ∀ v, v < N → fok (pt v, 1)) : ∀ {L : aP} {c r : aF}, (∀ t ∈ L, tok t) → fok c → (c.1 = 0 → c.2 = 1) → aval pt N L c = some r → fok r ∧ (r.1 = 0 → r.2 = 1)
  | [], c, r, _, hc, h1, h => by cases h; exact ⟨hc, h1⟩
  | t :: l, c, r, hL, hc, h1, h => by
    unfold aval at h
    split at h
    · cases h
    · rename_i s hs
      split at h
      · cases h
      · rename_i q hq
        have hsk := atm_fk hx (by omega) (hL t List.mem_cons_self).1 hs
        obtain ⟨q1, q2⟩ := afsum_ok hc hsk hq
        exact aval_fk hx (fun u hu => hL u (List.mem_cons_of_mem _ hu)) q1 q2 h
theorem cX_vanishes {d D F : Nat} {M : zM} {s : aX} {e e2 : Nat → Nat} {p a b c g : Int32} {P : Int32 → zM → Prop} (hd : 10 ≤ d) (hx : xX M s D F e e2) (h : xres (A_vanishes s p a b c g) M P) : ycI d nX7_vanishes [.ref 2, .int p, .int a, .int b, .int c, .int g] M P := by
  obtain ⟨d, rfl, he⟩ := dS hd
  have r13 := hx.2.1.2.1.2.2.2.2.2.2.2.2.2
  have s13 := hx.2.1.2.2.2.2.2.2.2.2
  have s15 := hx.2.1.1.1
  have hnv := hx.1.1
  unfold A_vanishes at h
  refine en_X7_vanishes _ _ _ _ _ _ M (sg_X7_vanishes_0 _ _ _ _ _ _ M (sp_isPlace (by omega) (fun hp => ⟨fun _ => ?_, fun z => absurd (Classical.not_not.mp z) (by decide)⟩) (fun hp => ⟨fun z => absurd rfl z, fun _ => ⟨_, rfl, ?_⟩⟩)))
  · rw [if_pos hp] at h
    obtain ⟨i, hi, -, rfl, ci⟩ := idx_n (n := 40) hp
    have z0 : zin 0 4 := zin_n (j := 0) (by omega) (by omega)
    have z1 : zin 1 4 := zin_n (j := 1) (by omega) (by omega)
    have z2 : zin 2 4 := zin_n (j := 2) (by omega) (by omega)
    have z3 : zin 3 4 := zin_n (j := 3) (by omega) (by omega)
    refine ⟨s15, by rw [r13, s13], by rw [r13, s13]; exact z0, ?_⟩
    intro M3
    refine ⟨s15, by rw [r13, s13], by rw [r13, s13]; exact z1, ?_⟩
    intro M4
    refine ⟨s15, by rw [r13, s13], by rw [r13, s13]; exact z2, ?_⟩
    intro M5
    refine ⟨s15, by rw [r13, s13], by rw [r13, s13]; exact z3, ?_⟩
    intro M6
    have e6 : M6 = zuI (zuI (zuI (zuI M 1528 0 a) 1528 1 b) 1528 2 c) 1528 3 g := by
      rw [show M6 = zuI (zuI (zuI (zuI M (zR M 2 13) (0 : Int32).toNatClampNeg a) (zR M 2 13) (1 : Int32).toNatClampNeg b) (zR M 2 13) (2 : Int32).toNatClampNeg c) (zR M 2 13) (3 : Int32).toNatClampNeg g from rfl, r13]
      rfl
    clear_value M6
    have hfr : zfr (fun x => x = 1528) M M6 := by
      rw [e6]
      exact zfr_tr (zfr_uI rfl) (zfr_tr (zfr_uI rfl) (zfr_tr (zfr_uI rfl) (zfr_uI rfl)))
    have hx6 := xX_fr hfr (fun x hz => Or.inr (Or.inr (by omega))) hx
    have hfc : zfc M M6 := zfc_of hfr fun x hz => by omega
    have hpt : ptok M6 1528 (xpt a b c g) := by
      refine ⟨by rw [hfr.1]; exact s13, fun v hv => ?_⟩
      have rg : ∀ y : Int32, -2147483648 ≤ y.toInt ∧ y.toInt < 2147483648 := fun y => ⟨y.le_toInt, y.toInt_lt⟩
      match v, hv with
      | 0, _ => exact ⟨by rw [e6, zI_uI, if_neg (by omega), zI_uI, if_neg (by omega), zI_uI, if_neg (by omega), zI_uI, if_pos ⟨rfl, rfl⟩]; exact (Int32.ofInt_toInt a).symm, rg a⟩
      | 1, _ => exact ⟨by rw [e6, zI_uI, if_neg (by omega), zI_uI, if_neg (by omega), zI_uI, if_pos ⟨rfl, rfl⟩]; exact (Int32.ofInt_toInt b).symm, rg b⟩
      | 2, _ => exact ⟨by rw [e6, zI_uI, if_neg (by omega), zI_uI, if_pos ⟨rfl, rfl⟩]; exact (Int32.ofInt_toInt c).symm, rg c⟩
      | 3, _ => exact ⟨by rw [e6, zI_uI, if_pos ⟨rfl, rfl⟩]; exact (Int32.ofInt_toInt g).symm, rg g⟩
    have hS6 := hx6.2.1
    obtain ⟨-, pd, pk, ps⟩ := xX_at hx6 hi
    have loop : ∀ (n v : Nat) (o2 o3 o4 o5 o7 : Option Value), v + n = xn s → (∀ u, u < v → -1000 ≤ xpt a b c g u ∧ xpt a b c g u ≤ 1000) → wX7_vanishes d (fun r M2 => ∃ x : Int32, r = [.int x] ∧ P x M2) 27 [some (.ref 2), some (.int (nI i)), o2, o3, o4, o5, some (.int (nI v)), o7] [] M6 := by
      intro n
      induction n with
      | zero =>
        intro v o2 o3 o4 o5 o7 hv hb
        have hvn : v = xn s := by omega
        rw [hvn] at hb
        rw [if_neg (by
          rw [List.any_eq_true]
          rintro ⟨u, h1, h2⟩
          have := hb u (List.mem_range.mp h1)
          have := of_decide_eq_true h2
          omega)] at h
        refine sg_X7_vanishes_27 _ _ _ _ _ _ _ _ _ ⟨hS6.1.1, fun _ => ⟨hS6.1.1, by rw [hS6.2.1.2.1, hS6.2.2.1.1], by rw [hS6.2.1.2.1, hS6.2.2.1.1]; exact zin_n hi (by omega), hS6.1.1, hS6.1.1, by rw [hS6.2.1.2.1, ci, (hS6.2.2.1.2 i hi).1]; exact ps.1, ?_⟩, fun z => absurd (by rw [hx6.2.2.1.2.1, hvn]; exact Int32.le_refl _) z⟩
        rw [hS6.2.1.2.1, ci, (hS6.2.2.1.2 i hi).1, hS6.2.1.2.2.2.2.2.2.2.2.2, hx6.2.2.1.2.1]
        refine sp_valueAt (by omega) ps pd pk hpt hb hnv.2 ?_
        have hk2 : ∀ r, aval (xpt a b c g) (xn s) (xat s (nI i)) (0, 1) = some r → fok r ∧ (r.1 = 0 → r.2 = 1) := fun r hr => aval_fk (fun v hv => fok_x1 (by have := hb v hv; omega)) pk.1 (by unfold fok; decide) (fun _ => rfl) hr
        cases hv : aval (xpt a b c g) (xn s) (xat s (nI i)) (0, 1) with
        | none =>
          rw [hv] at h
          exact ⟨fun z => absurd (by decide) z, fun _ => ⟨_, rfl, h M6 D F e e2 hx6 hfc⟩⟩
        | some f =>
          rw [hv] at h
          obtain ⟨f1, f2⟩ := hk2 f hv
          have h : xres (if f.1 = 0 then (1, s) else (0, s)) M P := h
          refine ⟨fun _ => ⟨fun z => ⟨_, rfl, ?_⟩, fun z => ⟨_, rfl, ?_⟩⟩, fun z => absurd (Classical.not_not.mp z) (eF_0 f1)⟩
          · rw [if_neg (fun y => z ((eF_1 f1 f2).mpr y))] at h
            exact h M6 D F e e2 hx6 hfc
          · rw [if_pos ((eF_1 f1 f2).mp (Classical.not_not.mp z))] at h
            exact h M6 D F e e2 hx6 hfc
      | succ n ih =>
        intro v o2 o3 o4 o5 o7 hv hb
        have cv := cl_n (n := v) (by omega)
        refine sg_X7_vanishes_27 _ _ _ _ _ _ _ _ _ ⟨hS6.1.1, fun z => ?_, fun _ => ⟨hS6.1.1, by rw [hS6.2.1.2.2.2.2.2.2.2.2.2, hpt.1], by rw [hS6.2.1.2.2.2.2.2.2.2.2.2, hpt.1]; exact zin_n (by omega) (by omega), ?_⟩⟩
        · rw [hx6.2.2.1.2.1] at z
          have := (nI_leI (by omega) (by omega)).mp z
          omega
        · rw [hS6.2.1.2.2.2.2.2.2.2.2.2, cv, (hpt.2 v (by omega)).1]
          have hti : (Int32.ofInt (xpt a b c g v)).toInt = xpt a b c g v := tI_of (hpt.2 v (by omega)).2
          refine sp_isLarge (n := 1000) (by omega) (by decide) (by omega) (fun l1 => ⟨fun z => absurd z (by decide), fun _ => ⟨_, rfl, ?_⟩⟩) (fun l1 => ⟨fun _ => ?_, fun z => absurd rfl z⟩)
          · have l1 := of_decide_eq_true l1
            rw [hti] at l1
            rw [if_pos (by
              rw [List.any_eq_true]
              exact ⟨v, List.mem_range.mpr (by omega), decide_eq_true (by omega)⟩)] at h
            exact h M6 D F e e2 hx6 hfc
          · have l1 := of_decide_eq_false l1
            rw [hti] at l1
            intro v6
            rw [show v6 = nI (v + 1) from nI_1 v]
            refine ih (v + 1) _ _ _ _ _ (by omega) fun u hu => ?_
            by_cases e : u = v
            · rw [e]; omega
            · exact hb u (by omega)
    exact loop (xn s) 0 _ _ _ _ _ (by omega) fun u hu => absurd hu (Nat.not_lt_zero _)
  · rw [if_neg (by rw [hp]; decide)] at h
    exact h M D F e e2 hx zfc_rf
theorem cX_order {d D F : Nat} {M : zM} {s : aX} {e e2 : Nat → Nat} {a : Int32} {P : Int32 → zM → Prop} (hd : 10 ≤ d) (hx : xX M s D F e e2) (h : xres (A_order s a) M P) : ycI d nX7_order [.ref 2, .int a] M P := by
  obtain ⟨d, rfl, he⟩ := dS hd
  have r1 := hx.2.1.2.1.1
  have s15 := hx.2.1.1.1
  have s13 := hx.2.1.1.2
  obtain ⟨ok, hS, hN, hP, hG, hE, hDn, hQ⟩ := hx
  unfold A_order at h
  have no : idx a 3 = false → P (-2) M := fun z => by
    rw [if_neg (by rw [z]; decide)] at h
    exact h M D F e e2 ⟨ok, hS, hN, hP, hG, hE, hDn, hQ⟩ zfc_rf
  refine en_X7_order _ _ M (sg_X7_order_0 _ _ M ⟨fun c => ⟨_, rfl, no (idx_ge (by omega) (Or.inl c))⟩, fun c0 => ⟨fun c => ⟨s15, by rw [r1]; exact s13, ?_⟩, fun c => ⟨_, rfl, no (idx_ge (by omega) (Or.inr ?_))⟩⟩⟩)
  · have hid : idx a 3 = true := idx_lt (by omega) c0 fun z => by
      have z1 := Int32.le_iff_toInt_le.mp z
      have z2 := Int32.le_iff_toInt_le.mp c
      rw [show (nI 3).toInt = 3 by decide] at z1
      rw [show (2 : Int32).toInt = 2 by decide] at z2
      omega
    rw [if_pos hid] at h
    obtain ⟨k', hk', -, rfl, ck⟩ := idx_n hid
    rw [ck] at h
    intro v2
    rw [show v2 = nI (xk s) by rw [show v2 = zI M (zR M 2 1) 0 from rfl, r1]; exact hN.1]
    refine ⟨s15, by rw [r1]; exact s13, ?_⟩
    intro M2
    have e2' : M2 = zuI M 3 0 (nI k') := by rw [show M2 = zuI M (zR M 2 1) 0 (nI k') from rfl, r1]
    clear_value M2
    have hfr2 : zfr (fun x => x = 3) M M2 := by rw [e2']; exact zfr_uI rfl
    have ho2 : ost M2 3 k' := ⟨by rw [hfr2.1]; exact s13, by rw [e2', zI_uI, if_pos ⟨rfl, rfl⟩], by omega⟩
    have hP2 : ∀ (i : Nat) (L : aP), (xpl s)[i]? = some L → pdy M2 (5 + 4 * i) (xk s) L := fun i L hi => pdy_fr hfr2 (fun x hz => by unfold inP at hz; omega) (hP i L hi)
    have hG2 : ∀ (i : Nat) (L : aP), (xgs s)[i]? = some L → pdy M2 (166 + 4 * i) (xk s) L := fun i L hi => pdy_fr hfr2 (fun x hz => by unfold inP at hz; omega) (hG i L hi)
    have hpl := ok.2.2.1
    have hgl := ok.2.2.2.1
    -- generators
    have loopG : ∀ (n i : Nat) (M' : zM) (o1 : Option Value), i + n = (xgs s).length → zfr (fun x => x = 3 ∨ (5 ≤ x ∧ x < 202)) M M' → ost M' 3 k' → (∀ (j : Nat) (L : aP), (xpl s)[j]? = some L → pdy M' (5 + 4 * j) k' (asrt k' L [])) → (∀ (j : Nat) (L : aP), (xgs s)[j]? = some L → (j < i → pdy M' (166 + 4 * j) k' (asrt k' L [])) ∧ (i ≤ j → pdy M' (166 + 4 * j) (xk s) L)) → wX7_order d (fun r M2 => ∃ x : Int32, r = [.int x] ∧ P x M2) 29 [some (.ref 2), o1, some (.int (nI (xk s))), some (.int (nI i))] [] M' := by
      intro n
      induction n with
      | zero =>
        intro i M' o1 hi hfr ho' hp' hg'
        have hS' := xS_fr hfr hS
        have f2 : ∀ j, zI M' 2 j = zI M 2 j := (hfr.2.2.2.2 2 (by omega)).1
        refine sg_X7_order_29 _ _ _ _ _ ⟨hS'.1.1, fun _ => ⟨hS'.1.1, ?_⟩, fun z => absurd (by rw [f2, hN.2.2.1, show i = (xgs s).length by omega]; exact Int32.le_refl _) z⟩
        refine sp_forget (by omega) hS' fun M3 hfr3 h36 h310 h3o => ⟨_, rfl, ?_⟩
        have hfa : zfr (fun x => x = 2 ∨ x = 3 ∨ (5 ≤ x ∧ x < 202)) M M3 := zfr_tr (zfr_up hfr fun x hz => Or.inr hz) (zfr_up hfr3 fun x hz => Or.inl hz)
        refine h M3 D F e e2 ⟨⟨ok.1, by show k' ≤ 2; omega, ⟨?_, fun L hL => ?_⟩, ⟨?_, fun L hL => ?_⟩, fun z => (by cases z), fun z => (by cases z)⟩, xS_fr hfr3 hS', ⟨?_, ?_, ?_, h36, h310⟩, fun j L hj => ?_, fun j L hj => ?_, fun z => (by cases z), ?_, fun z => (by cases z)⟩ (zfc_of hfa fun x hz => by omega)
        · show ((xpl s).map _).length = 40
          rw [List.length_map]; exact hpl.1
        · obtain ⟨L0, h1, rfl⟩ := List.mem_map.mp (show L ∈ (xpl s).map _ from hL)
          exact asrt_pok (hpl.2 L0 h1)
        · show ((xgs s).map _).length ≤ 8
          rw [List.length_map]; exact hgl.1
        · obtain ⟨L0, h1, rfl⟩ := List.mem_map.mp (show L ∈ (xgs s).map _ from hL)
          exact asrt_pok (hgl.2 L0 h1)
        · rw [(hfr3.2.2.2.2 3 (by omega)).1]; exact ho'.2.1
        · rw [h3o 0 (by omega) (by omega), f2]; exact hN.2.1
        · rw [h3o 4 (by omega) (by omega), f2, hN.2.2.1]
          show _ = nI ((xgs s).map _).length
          rw [List.length_map]
        · have hj : ((xpl s).map fun L => asrt k' L [])[j]? = some L := hj
          rw [List.getElem?_map] at hj
          cases hu : (xpl s)[j]? with
          | none => rw [hu] at hj; cases hj
          | some L0 =>
            rw [hu] at hj
            cases hj
            exact pdy_fr hfr3 (fun x hz => by unfold inP at hz; omega) (hp' j L0 hu)
        · have hj : ((xgs s).map fun L => asrt k' L [])[j]? = some L := hj
          rw [List.getElem?_map] at hj
          cases hu : (xgs s)[j]? with
          | none => rw [hu] at hj; cases hj
          | some L0 =>
            rw [hu] at hj
            cases hj
            have := (List.getElem?_eq_some_iff.mp hu).1
            exact pdy_fr hfr3 (fun x hz => by unfold inP at hz; omega) ((hg' j L0 hu).1 (by omega))
        · have f202 : ∀ j, zI M3 202 j = zI M 202 j := (hfa.2.2.2.2 202 (by omega)).1
          exact ⟨by rw [f202]; exact hDn.1, by rw [f202]; exact hDn.2.1, by rw [f202]; exact hDn.2.2.1, by rw [f202]; exact hDn.2.2.2⟩
      | succ n ih =>
        intro i M' o1 hi hfr ho' hp' hg'
        have hS' := xS_fr hfr hS
        have f2 : ∀ j, zI M' 2 j = zI M 2 j := (hfr.2.2.2.2 2 (by omega)).1
        have ci := cl_n (n := i) (by omega)
        have hgi := hS'.2.2.2.1.2 i (by omega)
        have r3 := hS'.2.1.2.2.1
        have hil : i < (xgs s).length := by omega
        have hu := List.getElem?_eq_getElem hil
        refine sg_X7_order_29 _ _ _ _ _ ⟨hS'.1.1, fun z => ?_, fun _ => ⟨hS'.1.1, by rw [r3, hS'.2.2.2.1.1], by rw [r3, hS'.2.2.2.1.1]; exact zin_n (by omega) (by omega), by rw [r3, ci, hgi.1]; exact hgi.2.1, ?_⟩⟩
        · rw [f2, hN.2.2.1] at z
          have := (nI_leI (by omega) (by omega)).mp z
          omega
        · rw [r3, ci, hgi.1]
          refine sp_arrange (by omega) hgi.2 (by unfold inP; omega) ho' ((hg' i _ hu).2 (Nat.le_refl _)) (hgl.2 _ (List.getElem_mem hil)) fun M3 hfr3 hpd3 => ?_
          intro v3
          rw [show v3 = nI (i + 1) from nI_1 i]
          refine ih (i + 1) M3 _ (by omega) (zfr_tr hfr (zfr_up hfr3 fun x hz => Or.inr (by unfold inP at hz; omega))) (ost_fr hfr3 (by unfold inP; omega) ho') (fun j L hj => ?_) fun j L hj => ⟨fun hji => ?_, fun hji => ?_⟩
          · have hjl := (List.getElem?_eq_some_iff.mp hj).1
            rw [hpl.1] at hjl
            exact pdy_fr hfr3 (fun x hz => by unfold inP at hz; unfold inP; omega) (hp' j L hj)
          · by_cases hje : j = i
            · subst hje
              rw [hu] at hj
              cases hj
              rw [show 166 + 4 * j = 165 + 1 + 4 * j by omega]
              exact hpd3
            · exact pdy_fr hfr3 (fun x hz => by unfold inP at hz; unfold inP; omega) ((hg' j L hj).1 (by omega))
          · exact pdy_fr hfr3 (fun x hz => by unfold inP at hz; unfold inP; omega) ((hg' j L hj).2 (by omega))
    -- places
    have loopP : ∀ (n i : Nat) (M' : zM) (o1 : Option Value), i + n = 40 → zfr (fun x => x = 3 ∨ (5 ≤ x ∧ x < 165)) M M' → ost M' 3 k' → (∀ (j : Nat) (L : aP), (xpl s)[j]? = some L → (j < i → pdy M' (5 + 4 * j) k' (asrt k' L [])) ∧ (i ≤ j → pdy M' (5 + 4 * j) (xk s) L)) → wX7_order d (fun r M2 => ∃ x : Int32, r = [.int x] ∧ P x M2) 17 [some (.ref 2), o1, some (.int (nI (xk s))), some (.int (nI i))] [] M' := by
      intro n
      induction n with
      | zero =>
        intro i M' o1 hi hfr ho' hp'
        refine sg_X7_order_17 _ _ _ _ _ ⟨fun _ => ?_, fun z => absurd (by rw [show i = 40 by omega]; exact Int32.le_refl _) z⟩
        refine loopG (xgs s).length 0 M' _ (by omega) (zfr_up hfr fun x hz => by omega) ho' (fun j L hj => (hp' j L hj).1 ?_) fun j L hj => ⟨fun z => absurd z (Nat.not_lt_zero _), fun _ => ?_⟩
        · have := (List.getElem?_eq_some_iff.mp hj).1
          rw [hpl.1] at this
          omega
        · exact pdy_fr hfr (fun x hz => by unfold inP at hz; omega) (hG j L hj)
      | succ n ih =>
        intro i M' o1 hi hfr ho' hp'
        have hS' := xS_fr hfr hS
        have ci := cl_n (n := i) (by omega)
        have hgi := hS'.2.2.1.2 i (by omega)
        have r2 := hS'.2.1.2.1
        have hil : i < (xpl s).length := by rw [hpl.1]; omega
        have hu := List.getElem?_eq_getElem hil
        refine sg_X7_order_17 _ _ _ _ _ ⟨fun z => ?_, fun _ => ⟨hS'.1.1, by rw [r2, hS'.2.2.1.1], by rw [r2, hS'.2.2.1.1]; exact zin_n (by omega) (by omega), by rw [r2, ci, hgi.1]; exact hgi.2.1, ?_⟩⟩
        · have := (nI_leI (a := 40) (by omega) (by omega)).mp z
          omega
        · rw [r2, ci, hgi.1]
          refine sp_arrange (by omega) hgi.2 (by unfold inP; omega) ho' ((hp' i _ hu).2 (Nat.le_refl _)) (hpl.2 _ (List.getElem_mem hil)) fun M3 hfr3 hpd3 => ?_
          intro v3
          rw [show v3 = nI (i + 1) from nI_1 i]
          refine ih (i + 1) M3 _ (by omega) (zfr_tr hfr (zfr_up hfr3 fun x hz => Or.inr (by unfold inP at hz; omega))) (ost_fr hfr3 (by unfold inP; omega) ho') fun j L hj => ⟨fun hji => ?_, fun hji => ?_⟩
          · by_cases hje : j = i
            · subst hje
              rw [hu] at hj
              cases hj
              exact hpd3
            · exact pdy_fr hfr3 (inP_ne (by omega)) ((hp' j L hj).1 (by omega))
          · exact pdy_fr hfr3 (inP_ne (by omega)) ((hp' j L hj).2 (by omega))
    exact loopP 40 0 M2 _ (by omega) (zfr_up hfr2 fun x hz => Or.inl hz) ho2 fun j L hj => ⟨fun z => absurd z (Nat.not_lt_zero _), fun _ => hP2 j L hj⟩
  · have c := Int32.not_le.mp c
    have c1 := Int32.lt_iff_toInt_lt.mp c
    rw [show (2 : Int32).toInt = 2 by decide] at c1
    exact Int32.le_iff_toInt_le.mpr (by rw [show (nI 3).toInt = 3 by decide]; omega)
/-- generators are other ones -/
theorem xX_gen {M M' : zM} {s : aX} {D F : Nat} {e e2 : Nat → Nat} {gs : List aP} (hx : xX M s D F e e2) (h : zfr (fun x => x = 2 ∨ (166 ≤ x ∧ x < 202)) M M') (h6 : zI M' 2 6 = 0) (h10 : zI M' 2 10 = 0) (h0 : zI M' 2 0 = zI M 2 0) (h4 : zI M' 2 4 = nI gs.length) (hl : gs.length ≤ 8) (hk : ∀ L ∈ gs, pok (xk s) L) (hg : ∀ (i : Nat) (L : aP), gs[i]? = some L → pdy M' (166 + 4 * i) (xk s) L) : xX M' (xgen s gs) D F e e2 := by
  obtain ⟨ok, hS, hN, hP, hG, hE, hDn, hQ⟩ := hx
  have f202 : ∀ j, zI M' 202 j = zI M 202 j := (h.2.2.2.2 202 (by omega)).1
  refine ⟨⟨ok.1, ok.2.1, ok.2.2.1, ⟨hl, hk⟩, fun z => (by cases z), fun z => (by cases z)⟩, xS_fr h hS, ⟨?_, ?_, h4, h6, h10⟩, fun i L hi => ?_, hg, fun z => (by cases z), ⟨by rw [f202]; exact hDn.1, by rw [f202]; exact hDn.2.1, by rw [f202]; exact hDn.2.2.1, by rw [f202]; exact hDn.2.2.2⟩, fun z => (by cases z)⟩
  · rw [(h.2.2.2.2 3 (by omega)).1]; exact hN.1
  · rw [h0]; exact hN.2.1
  · have := (List.getElem?_eq_some_iff.mp hi).1
    have h40 := ok.2.2.1.1
    have : i < 40 := by rw [← h40]; exact this
    exact pdy_fr h (fun a ha => by unfold inP at ha; omega) (hP i L hi)
theorem cX_clear {d D F : Nat} {M : zM} {s : aX} {e e2 : Nat → Nat} {P : Int32 → zM → Prop} (hd : 10 ≤ d) (hx : xX M s D F e e2) (h : xres (A_clear s) M P) : ycI d nX7_clear [.ref 2] M P := by
  obtain ⟨d, rfl, he⟩ := dS hd
  have s15 := hx.2.1.1.1
  refine en_X7_clear _ M (sg_X7_clear_0 _ M ⟨s15, ?_⟩)
  intro v1
  rw [show v1 = nI (xgs s).length from hx.2.2.1.2.2.1]
  refine ⟨s15, ?_⟩
  intro M2
  have hfr2 : zfr (fun x => x = 2) M M2 := zfr_uI rfl
  have g : ∀ j, j ≠ 4 → zI M2 2 j = zI M 2 j := fun j hj => by rw [show M2 = zuI M 2 4 0 from rfl, zI_uI, if_neg (by omega)]
  refine ⟨s15, sp_forget (by omega) (xS_fr hfr2 hx.2.1) fun M3 hfr3 h36 h310 h3o => ⟨_, rfl, ?_⟩⟩
  have hfa := zfr_tr hfr2 hfr3
  refine h M3 D F e e2 (xX_gen hx (zfr_up hfa fun x hz => Or.inl hz) h36 h310 (by rw [h3o 0 (by omega) (by omega), g 0 (by omega)]) ?_ (Nat.zero_le _) (fun _ hL => absurd hL List.not_mem_nil) fun i L hi => by cases hi) (zfc_of hfa fun x hz => by omega)
  rw [h3o 4 (by omega) (by omega), show M2 = zuI M 2 4 0 from rfl, zI_uI, if_pos ⟨rfl, rfl⟩]
  rfl
theorem cX_generator {d D F : Nat} {M : zM} {s : aX} {e e2 : Nat → Nat} {p : Int32} {P : Int32 → zM → Prop} (hd : 10 ≤ d) (hx : xX M s D F e e2) (h : xres (A_generator s p) M P) : ycI d nX7_generator [.ref 2, .int p] M P := by
  obtain ⟨d, rfl, he⟩ := dS hd
  have h2 := hx.2.1.2.1.2.1
  have h4 := hx.2.1.2.2.1
  have s15 := hx.2.1.1.1
  have r3 := hx.2.1.2.1.2.2.1
  have hgl := hx.1.2.2.2.1
  have n4 := hx.2.2.1.2.2.1
  unfold A_generator at h
  refine en_X7_generator _ _ M (sg_X7_generator_0 _ _ M (sp_isPlace (by omega) (fun hp => ⟨fun _ => ⟨s15, fun c => ?_, fun c => ⟨_, rfl, ?_⟩⟩, fun z => absurd (Classical.not_not.mp z) (by decide)⟩) (fun hp => ⟨fun z => absurd rfl z, fun _ => ⟨_, rfl, ?_⟩⟩)))
  · rw [n4] at c
    have c := (nI_ltI (b := 8) (by omega) (by omega)).mp c
    rw [if_pos hp, if_neg (by omega)] at h
    obtain ⟨i, hi, -, rfl, ci⟩ := idx_n (n := 40) hp
    obtain ⟨-, pd, pk, ps⟩ := xX_at hx hi
    have cg := cl_n (n := (xgs s).length) (by omega)
    have hgn := hx.2.1.2.2.2.1.2 (xgs s).length (by omega)
    refine ⟨s15, s15, by rw [r3, hx.2.1.2.2.2.1.1], by rw [r3, hx.2.1.2.2.2.1.1, n4]; exact zin_n (by omega) (by omega), s15, by rw [h2, h4.1], by rw [h2, h4.1]; exact zin_n hi (by omega), by rw [r3, n4, cg, hgn.1]; exact hgn.2.1, ?_⟩
    rw [r3, n4, cg, hgn.1, h2, ci, (h4.2 i hi).1]
    refine sp_become (by omega) hgn.2 ps (by omega) pd pk.2.2 fun M1 hfr1 hpd1 => ?_
    have hS1 := xS_fr hfr1 hx.2.1
    have f2 : ∀ j, zI M1 2 j = zI M 2 j := (hfr1.2.2.2.2 2 (by unfold inP; omega)).1
    refine ⟨hS1.1.1, hS1.1.1, ?_⟩
    intro M2
    have hfr2 : zfr (fun x => x = 2) M1 M2 := zfr_uI rfl
    have g : ∀ j, j ≠ 4 → zI M2 2 j = zI M1 2 j := fun j hj => by rw [show M2 = zuI M1 2 4 (zI M1 2 4 + 1) from rfl, zI_uI, if_neg (by omega)]
    have g4 : zI M2 2 4 = nI ((xgs s).length + 1) := by rw [show M2 = zuI M1 2 4 (zI M1 2 4 + 1) from rfl, zI_uI, if_pos ⟨rfl, rfl⟩, f2, n4, nI_1]
    refine ⟨hS1.1.1, sp_forget (by omega) (xS_fr hfr2 hS1) fun M3 hfr3 h36 h310 h3o => ?_⟩
    have e4 : zI M3 2 4 = nI ((xgs s).length + 1) := by rw [h3o 4 (by omega) (by omega)]; exact g4
    have hfa : zfr (fun x => x = 2 ∨ (166 ≤ x ∧ x < 202)) M M3 := zfr_tr (zfr_up hfr1 fun x hz => Or.inr (by unfold inP at hz; omega)) (zfr_up (zfr_tr hfr2 hfr3) fun x hz => Or.inl hz)
    refine ⟨(xS_fr hfr3 (xS_fr hfr2 hS1)).1.1, _, rfl, ?_⟩
    rw [e4, show nI ((xgs s).length + 1) - 1 = nI (xgs s).length from nI_pred _]
    refine h M3 D F e e2 (xX_gen hx hfa h36 h310 (by rw [h3o 0 (by omega) (by omega), g 0 (by omega), f2]) (by rw [e4, List.length_append]; rfl) (by rw [List.length_append]; simp; omega) (fun L hL => ?_) fun j L hj => ?_) (zfc_of hfa fun x hz => by omega)
    · rcases List.mem_append.mp hL with hL | hL
      · exact hgl.2 L hL
      · rw [List.mem_singleton.mp hL]; exact pk
    · have h3p : ∀ {p : Nat} {L : aP}, 166 ≤ p → pdy M1 p (xk s) L → pdy M3 p (xk s) L := fun hp hq => pdy_fr (zfr_tr hfr2 hfr3) (fun x hz => by unfold inP at hz; omega) hq
      by_cases hjl : j < (xgs s).length
      · rw [List.getElem?_append_left hjl] at hj
        exact h3p (by omega) (pdy_fr hfr1 (fun x hz => by unfold inP at hz; unfold inP; omega) (hx.2.2.2.2.1 j L hj))
      · have hjj := (List.getElem?_eq_some_iff.mp hj).1
        rw [List.length_append] at hjj
        have hje : j = (xgs s).length := by simp at hjj; omega
        rw [List.getElem?_append_right (by omega), hje, Nat.sub_self] at hj
        have hj : some (xat s (nI i)) = some L := hj
        cases hj
        rw [hje]
        refine h3p (by omega) ?_
        rw [show 166 + 4 * (xgs s).length = 165 + 1 + 4 * (xgs s).length by omega]
        exact hpd1
  · rw [n4] at c
    have c : 8 ≤ (xgs s).length := Nat.le_of_not_lt fun z => c ((nI_ltI (b := 8) (by omega) (by omega)).mpr z)
    rw [if_pos hp, if_pos c] at h
    exact h M D F e e2 hx zfc_rf
  · rw [if_neg (by rw [hp]; decide)] at h
    exact h M D F e e2 hx zfc_rf
theorem cX_done {d D F : Nat} {M : zM} {s : aX} {e e2 : Nat → Nat} {w : Int32} {P : Int32 → zM → Prop} (hd : 10 ≤ d) (hx : xX M s D F e e2) (h : xres (A_done s w) M P) : ycI d nX7_done [.ref 2, .int w] M P := by
  obtain ⟨d, rfl, he⟩ := dS hd
  have s15 := hx.2.1.1.1
  have r5 := hx.2.1.2.1.2.2.2.1
  have s12 := hx.2.1.2.2.2.2.1.1.1.1
  have dn := hx.2.2.2.2.2.2.1
  unfold A_done at h
  refine en_X7_done _ _ M (sg_X7_done_0 _ _ M ⟨fun w0 => ⟨s15, by rw [r5]; exact s12, _, rfl, ?_⟩, fun w0 => ⟨fun w1 => ⟨s15, by rw [r5]; exact s12, _, rfl, ?_⟩, fun w1 => ⟨fun w2 => ⟨s15, by rw [r5]; exact s12, _, rfl, ?_⟩, fun w2 => ⟨fun w3 => ⟨s15, by rw [r5]; exact s12, _, rfl, ?_⟩, fun w3 => ⟨_, rfl, ?_⟩⟩⟩⟩⟩)
  · rw [if_pos w0] at h
    rw [r5, dn.1]
    exact h M D F e e2 hx zfc_rf
  · rw [if_neg w0, if_pos w1] at h
    rw [r5, dn.2.1]
    exact h M D F e e2 hx zfc_rf
  · rw [if_neg w0, if_neg w1, if_pos w2] at h
    rw [r5, dn.2.2.1]
    exact h M D F e e2 hx zfc_rf
  · rw [if_neg w0, if_neg w1, if_neg w2, if_pos w3] at h
    rw [r5, dn.2.2.2]
    exact h M D F e e2 hx zfc_rf
  · rw [if_neg w0, if_neg w1, if_neg w2, if_neg w3] at h
    exact h M D F e e2 hx zfc_rf
