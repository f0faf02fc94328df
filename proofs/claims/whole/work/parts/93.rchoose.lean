/-! the reference: which pair's turn it is -/
def cb1 : Option (Nat × Nat × Nat) → Int32
  | none => -1
  | some x => nI x.2.1
def cb2 : Option (Nat × Nat × Nat) → Int32
  | none => -1
  | some x => nI x.2.2
def cb3 (es : List aE) : Option (Nat × Nat × Nat) → Int32
  | none => 0
  | some x => e5 (mlcm (ald es x.2.1) (ald es x.2.2))
def cgo (k : Nat) (es : List aE) (b : Option (Nat × Nat × Nat)) : Prop := ∀ x, b = some x → x.1 = arp k es x.2.1 x.2.2 ∧ x.2.1 < x.2.2 ∧ x.2.2 < es.length
theorem apick_go {k : Nat} {es : List aE} {b : Option (Nat × Nat × Nat)} {i j : Nat} {w : Bool} (hb : cgo k es b) (hij : i < j) (hj : j < es.length) : cgo k es (apick (arp k es i j) i j w b) := by
  intro x hx
  cases w with
  | false => exact hb x hx
  | true =>
    cases b with
    | none =>
      have hx : some (arp k es i j, i, j) = some x := hx
      cases hx
      exact ⟨rfl, hij, hj⟩
    | some y =>
      have hx : (if arp k es i j < y.1 then some (arp k es i j, i, j) else some y) = some x := hx
      split at hx
      · cases hx
        exact ⟨rfl, hij, hj⟩
      · exact hb x hx
theorem rwt_off {M M' : zM} {n l r : Nat} {W : Nat → Nat → Bool} (hw : rwt M n W) (hlr : l < r) (hr : r < n) (hn : n ≤ 25) (hM : ∀ x, zI M' 1536 x = if x = 25 * l + r then 0 else zI M 1536 x) : rwt M' n (woff W l r) := fun i j hij hj => by
  rw [hM]
  unfold woff
  by_cases h : i = l ∧ j = r
  · rw [if_pos h, if_pos (by rw [h.1, h.2])]
    rfl
  · rw [if_neg h, if_neg (by omega)]
    exact hw i j hij hj
theorem sp_ronePair {d fo sh nv k lim n pd pp : Nat} {M : zM} {es : List aE} {W : Nat → Nat → Bool} {P : Int32 → zM → Prop} (hd : 7 ≤ d) (hM : mst M) (hv : mvk M nv k) (hf2 : 40 ≤ fo ∧ fo + 25 ≤ 100) (hw : rwk M fo sh nv k lim es W n pd pp) (hpd : pd < 1000000) (hpp : pp < 1000000) (hz : zI M 1529 11 = 0) (hs : zI M 1529 12 = 0)
    (h0 : achoose k es W = none → P 0 M)
    (h1 : ∀ x M', achoose k es W = some x → x.2.1 < x.2.2 → x.2.2 < es.length → rfr (TP fo sh es.length) FP GW M M' → rwk M' fo sh nv k lim (asettle k sh es W n x.2.1 x.2.2).2.1 (asettle k sh es W n x.2.1 x.2.2).2.2.1 (asettle k sh es W n x.2.1 x.2.2).2.2.2.1 (pd + 1) (pp + (asettle k sh es W n x.2.1 x.2.2).2.2.2.2) → rfl3 M' (asettle k sh es W n x.2.1 x.2.2).1 → P 1 M') : ycI d nX8_onePair [.ref 1529] M P := by
  obtain ⟨d, rfl, he⟩ := dS hd
  obtain ⟨⟨w19, w20, w21, wsh⟩, ⟨w13, w14, wn, wl⟩, ⟨wlen, wr, wg, ww⟩, w24, w25⟩ := id hw
  have hs8 := wsh.1
  have dis := fun i (hi : i < es.length) => TP_dis hf2 hs8 wlen hi
  obtain ⟨s16, ⟨r3, r4, r5, r6, r15, r18, r23, r27⟩, ⟨k0, k1, k2, k3⟩, s4, s5, k6, s7⟩ := id hM
  -- settled
  have s62 : ∀ (x : Nat × Nat × Nat) (o4 o5 o6 o7 : Option Value), achoose k es W = some x → x.2.1 < x.2.2 → x.2.2 < es.length → wX8_onePair d (fun r M2 => ∃ x : Int32, r = [.int x] ∧ P x M2) 62 [some (.ref 1529), some (.int (nI x.2.1)), some (.int (nI x.2.2)), some (.int (e5 (mlcm (ald es x.2.1) (ald es x.2.2)))), o4, o5, o6, o7] [] M := fun x o4 o5 o6 o7 hx hx1 hx2 => by
    have h1 := fun M' => h1 x M' hx hx1 hx2
    generalize x.2.1 = l at hx1 h1
    generalize x.2.2 = r at hx1 hx2 h1
    refine sg_X8_onePair_62 _ _ _ _ _ _ _ _ _ ⟨s16, ?_⟩
    rw [ix25, cl_n (by omega), r23, k6]
    refine ⟨rfl, zin_n (by omega) (by omega), Or.inl rfl, ?_⟩
    intro M1
    refine ⟨s16, s16, ?_⟩
    intro M2
    have m1 : M1 = zuI M 1536 (25 * l + r) 0 := rfl
    have m2 : M2 = zuI M1 1529 24 (nI (pd + 1)) := by rw [show M2 = zuI M1 1529 24 (zI M1 1529 24 + 1) from rfl, m1, zI_uI, if_neg (by omega), w24, nI_1]
    clear_value M1 M2
    have hfr1 : rfr TN FN GW M M1 := by rw [m1]; exact rfr_G rfl (by omega)
    have hfr2 : rfr TN (fun j => j = 24) GN M1 M2 := by rw [m2]; exact rfr_F rfl
    have hfa : rfr TN (fun j => j = 24) GW M M2 := rfr_tr (rfr_up hfr1 (fun _ z => z) (fun _ z => z.elim) (fun _ z => z)) (rfr_up hfr2 (fun _ z => z) (fun _ z => z) (fun _ z => z.elim))
    have hfa' : rfr (TP fo sh es.length) FP GW M M2 := rfr_up hfa (fun _ z => z.elim) (fun _ z => Or.inr (Or.inr (Or.inl z))) (fun _ z => z)
    have F2 : ∀ j, j ≠ 24 → zI M2 1529 j = zI M 1529 j := fun j hj => hfa.2.2.2.2.2.2.1 j hj
    have hM2 := mst_fr hfa hM
    have hv2 := mvk_fr hfa (by omega) (by omega) hv
    have hrel2 : rel M2 fo sh es := rel_fr hfa (fun i hi => ⟨fun z => z, fun _ _ z => z⟩) wg wr
    have hwt2 : rwt M2 es.length (woff W l r) := rwt_off ww hx1 hx2 (by omega) fun y => by
      rw [m2, zI_uI, if_neg (by omega), m1, zI_uI]
      by_cases hy : y = 25 * l + r
      · rw [if_pos ⟨rfl, hy⟩, if_pos hy]
      · rw [if_neg (fun z => hy z.2), if_neg hy]
    have hw2 : rwk M2 fo sh nv k lim es (woff W l r) n (pd + 1) pp := ⟨⟨by rw [F2 _ (by omega)]; exact w19, by rw [F2 _ (by omega)]; exact w20, by rw [F2 _ (by omega)]; exact w21, rsh_fr hfa (by omega) (by omega) wsh⟩, ⟨by rw [F2 _ (by omega)]; exact w13, by rw [F2 _ (by omega)]; exact w14, wn, wl⟩, ⟨wlen, hrel2, wg, hwt2⟩, by rw [m2, zI_uI, if_pos ⟨rfl, rfl⟩], by rw [F2 _ (by omega)]; exact w25⟩
    refine ⟨s16, sp_rpassed (by omega) hM2 hv2 hw2.1.1 hf2 hw2.1.2.1 wlen hrel2 wg hwt2 hx1 hx2 ⟨fun c => ?_, fun c => ⟨hM2.1, hM2.1, ?_⟩⟩⟩
    · have c := rbI_0.mp c
      rw [asettle_eq, if_neg (by rw [c]; decide)] at h1
      exact op_d _ _ _ _ (by omega) hM2 hv2 hf2 hw2 hx1 hx2 (by rw [F2 _ (by omega)]; exact hz) (by rw [F2 _ (by omega)]; exact hs) fun M3 hfr3 hw3 hfl => h1 M3 (rfr_tr hfa' hfr3) hw3 hfl
    · have c : aneed es (woff W l r) l r = true := by
        cases hh : aneed es (woff W l r) l r with
        | true => rfl
        | false => exact absurd (rbI_0.mpr hh) c
      rw [asettle_eq, if_pos c] at h1
      intro M3
      have m3 : M3 = zuI M2 1529 25 (nI (pp + 1)) := by rw [show M3 = zuI M2 1529 25 (zI M2 1529 25 + 1) from rfl, hw2.2.2.2.2, nI_1]
      clear_value M3
      have hfr3 : rfr TN (fun j => j = 25) GN M2 M3 := by rw [m3]; exact rfr_F rfl
      have F3 : ∀ j, j ≠ 25 → zI M3 1529 j = zI M2 1529 j := fun j hj => hfr3.2.2.2.2.2.2.1 j hj
      refine ⟨Or.inr rfl, _, rfl, h1 M3 (rfr_tr hfa' (rfr_up hfr3 (fun _ z => z.elim) (fun _ z => Or.inr (Or.inr (Or.inr z))) (fun _ z => z.elim))) ⟨⟨by rw [F3 _ (by omega)]; exact hw2.1.1, by rw [F3 _ (by omega)]; exact hw2.1.2.1, by rw [F3 _ (by omega)]; exact hw2.1.2.2.1, rsh_fr hfr3 (by omega) (by omega) hw2.1.2.2.2⟩, ⟨by rw [F3 _ (by omega)]; exact hw2.2.1.1, by rw [F3 _ (by omega)]; exact hw2.2.1.2.1, wn, wl⟩, ⟨wlen, rel_fr hfr3 (fun i hi => ⟨fun z => z, fun _ _ z => z⟩) wg hrel2, wg, rwt_fr hfr3 (fun z => z) hwt2⟩, by rw [F3 _ (by omega)]; exact hw2.2.2.2.1, by rw [m3, zI_uI, if_pos ⟨rfl, rfl⟩]⟩ (Or.inl ⟨rfl, by rw [F3 _ (by omega), F2 _ (by omega)]; exact hz, by rw [F3 _ (by omega), F2 _ (by omega)]; exact hs⟩)⟩
  have s58 : ∀ (o4 o5 o6 o7 : Option Value), cgo k es (achoose k es W) → wX8_onePair d (fun r M2 => ∃ x : Int32, r = [.int x] ∧ P x M2) 58 [some (.ref 1529), some (.int (cb1 (achoose k es W))), some (.int (cb2 (achoose k es W))), some (.int (cb3 es (achoose k es W))), o4, o5, o6, o7] [] M := fun o4 o5 o6 o7 hgo => by
    cases hx : achoose k es W with
    | none => exact sg_X8_onePair_58 _ _ _ _ _ _ _ _ _ ⟨fun z => absurd z (by decide), fun _ => ⟨Or.inl rfl, _, rfl, h0 hx⟩⟩
    | some x =>
      obtain ⟨-, g1, g2⟩ := hgo x hx
      exact sg_X8_onePair_58 _ _ _ _ _ _ _ _ _ ⟨fun _ => s62 x _ _ _ _ hx g1 g2, fun z => absurd (Int32.not_lt.mp (nI_pos (show x.2.1 < 2 ^ 31 by omega))) z⟩
  -- the first of one row
  have inner : ∀ (j : Nat) (b0 : Option (Nat × Nat × Nat)), j < es.length → (∀ (o5 o6 o7 : Option Value), cgo k es (achI (arp k es) W j j b0) → wX8_onePair d (fun r M2 => ∃ x : Int32, r = [.int x] ∧ P x M2) 8 [some (.ref 1529), some (.int (cb1 (achI (arp k es) W j j b0))), some (.int (cb2 (achI (arp k es) W j j b0))), some (.int (cb3 es (achI (arp k es) W j j b0))), some (.int (nI j + 1)), o5, o6, o7] [] M) → ∀ (m i : Nat) (o6 o7 : Option Value), i + m = j → cgo k es (achI (arp k es) W j i b0) → wX8_onePair d (fun r M2 => ∃ x : Int32, r = [.int x] ∧ P x M2) 14 [some (.ref 1529), some (.int (cb1 (achI (arp k es) W j i b0))), some (.int (cb2 (achI (arp k es) W j i b0))), some (.int (cb3 es (achI (arp k es) W j i b0))), some (.int (nI j)), some (.int (nI i)), o6, o7] [] M := by
    intro j b0 hj next m
    induction m with
    | zero =>
      intro i o6 o7 hi hgo
      rw [show i = j by omega] at hgo ⊢
      refine sg_X8_onePair_14 _ _ _ _ _ _ _ _ _ ⟨fun _ => ?_, fun z => absurd (Int32.le_refl _) z⟩
      intro v4
      exact next _ _ _ hgo
    | succ m ih =>
      intro i o6 o7 hi hgo
      have hst : achI (arp k es) W j (i + 1) b0 = apick (arp k es i j) i j (W i j) (achI (arp k es) W j i b0) := rfl
      have ih := fun o6 o7 => ih (i + 1) o6 o7 (by omega)
      rw [hst] at ih
      generalize achI (arp k es) W j i b0 = b at hgo ih
      have hgo' : cgo k es (apick (arp k es i j) i j (W i j) b) := apick_go hgo (by omega) hj
      have hww := ww i j (by omega) hj
      obtain ⟨ia, ica, -, im, iv⟩ := egd_ld wg (show i < es.length by omega)
      obtain ⟨ja, jca, -, jm, jv⟩ := egd_ld wg hj
      have keep : apick (arp k es i j) i j (W i j) b = b → ∀ (o6 o7 : Option Value), wX8_onePair d (fun r M2 => ∃ x : Int32, r = [.int x] ∧ P x M2) 54 [some (.ref 1529), some (.int (cb1 b)), some (.int (cb2 b)), some (.int (cb3 es b)), some (.int (nI j)), some (.int (nI i)), o6, o7] [] M := fun hk o6 o7 => by
        refine sg_X8_onePair_54 _ _ _ _ _ _ _ _ _ ?_
        intro v5
        rw [show v5 = nI (i + 1) from nI_1 i]
        rw [hk] at ih hgo'
        exact ih _ _ hgo'
      have take : apick (arp k es i j) i j (W i j) b = some (arp k es i j, i, j) → ∀ (o1 o2 o3 o7 : Option Value), wX8_onePair d (fun r M2 => ∃ x : Int32, r = [.int x] ∧ P x M2) 48 [some (.ref 1529), o1, o2, o3, some (.int (nI j)), some (.int (nI i)), some (.int (e5 (mlcm (ald es i) (ald es j)))), o7] [] M := fun hk o1 o2 o3 o7 => by
        refine sg_X8_onePair_48 _ _ _ _ _ _ _ _ _ ?_
        refine sg_X8_onePair_54 _ _ _ _ _ _ _ _ _ ?_
        intro v5
        rw [show v5 = nI (i + 1) from nI_1 i]
        rw [hk] at ih hgo'
        exact ih _ _ hgo'
      refine sg_X8_onePair_14 _ _ _ _ _ _ _ _ _ ⟨fun z => ?_, fun _ => ⟨s16, ?_⟩⟩
      · have := (nI_leI (by omega) (by omega)).mp z
        omega
      · rw [ix25, cl_n (by omega), r23, k6, hww]
        refine ⟨rfl, zin_n (by omega) (by omega), fun c => keep ?_ _ _, fun c => ⟨s16, s16, ?_⟩⟩
        · rw [rbI_0.mp c]
          rfl
        · have hW : W i j = true := by
            cases hh : W i j with
            | true => rfl
            | false => exact absurd (rbI_0.mpr hh) c
          rw [w19, nI_add]
          refine sp_rld (by omega) hM (by omega) wr wg (by omega) (by omega) ⟨s16, s16, ?_⟩
          rw [w19, nI_add]
          refine sp_rld (by omega) hM (by omega) wr wg hj (by omega) ⟨s16, ?_⟩
          refine sp_rcommon (by omega) hM hv im jm iv jv ?_
          cases b with
          | none =>
            exact ⟨fun _ => take (by rw [hW]; rfl) _ _ _ _, fun z => absurd (by decide) z⟩
          | some x =>
            obtain ⟨g0, g1, g2⟩ := hgo x rfl
            obtain ⟨xa, xca, -, xm, xv⟩ := egd_ld wg (show x.2.1 < es.length by omega)
            obtain ⟨ya, yca, -, ym, yv⟩ := egd_ld wg g2
            refine ⟨fun z => absurd z (nI_pos (show x.2.1 < 2 ^ 31 by omega)), fun _ => ⟨s16, ?_⟩⟩
            refine sp_rcmp (by omega) hM hv (mlcm_ok im jm) (mlcm_ok xm ym) (vin_lcm iv jv) (vin_lcm xv yv) ⟨fun c2 => keep ?_ _ _, fun c2 => take ?_ _ _ _ _⟩
            · have hn : ¬ arp k es i j < x.1 := fun z => by
                rw [g0] at z
                exact absurd (acmp_neg.mpr z) (Int32.not_lt.mpr c2)
              rw [hW]
              show (if arp k es i j < x.1 then some (arp k es i j, i, j) else some x) = some x
              rw [if_neg hn]
            · have hl : arp k es i j < x.1 := by
                rw [g0]
                exact acmp_neg.mp (Int32.not_le.mp c2)
              rw [hW]
              show (if arp k es i j < x.1 then some (arp k es i j, i, j) else some x) = _
              rw [if_pos hl]
  -- rows one after the other
  have outer : ∀ (m j : Nat) (o5 o6 o7 : Option Value), j + m = es.length → cgo k es (achJ (arp k es) W j) → wX8_onePair d (fun r M2 => ∃ x : Int32, r = [.int x] ∧ P x M2) 8 [some (.ref 1529), some (.int (cb1 (achJ (arp k es) W j))), some (.int (cb2 (achJ (arp k es) W j))), some (.int (cb3 es (achJ (arp k es) W j))), some (.int (nI j)), o5, o6, o7] [] M := by
    intro m
    induction m with
    | zero =>
      intro j o5 o6 o7 hj hgo
      rw [show j = es.length by omega] at hgo ⊢
      exact sg_X8_onePair_8 _ _ _ _ _ _ _ _ _ ⟨s16, fun _ => s58 _ _ _ _ hgo, fun z => absurd (by rw [w20]; exact Int32.le_refl _) z⟩
    | succ m ih =>
      intro j o5 o6 o7 hj hgo
      refine sg_X8_onePair_8 _ _ _ _ _ _ _ _ _ ⟨s16, fun z => ?_, fun _ => ?_⟩
      · rw [w20] at z
        have := (nI_leI (by omega) (by omega)).mp z
        omega
      · refine inner j (achJ (arp k es) W j) (by omega) (fun o5 o6 o7 hg2 => ?_) j 0 _ _ (by omega) hgo
        rw [nI_1]
        exact ih (j + 1) _ _ _ (by omega) hg2
  refine en_X8_onePair _ M (sg_X8_onePair_0 _ M ?_)
  intro v1 v2
  exact outer es.length 0 _ _ _ (by omega) fun x hx => by cases hx
