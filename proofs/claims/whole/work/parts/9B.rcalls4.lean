/-! the reference's calls: bases, divisions, certificates, checks -/
theorem rX_gq {M : zM} {s : aX} (hx : rX M s) : ∀ g, g < (xgs s).length → qdy M (40 + g) ((xgs s).getD g []) := fun g hg => by
  have hu := List.getElem?_eq_getElem hg
  rw [List.getD_eq_getElem?_getD, hu]
  exact hx.2.2.2.1 g _ hu
theorem rX_new {M M' : zM} {s : aX} {b : Bool} {es : List aE} {dn : Nat × Nat × Nat × Nat} (hx : rX M s) (h : rfr (TM 50 (xgs s).length) (fun j => 8 ≤ j) (fun a => a = 1534 ∨ a = 1536 ∨ a = 1537) M M') (h9 : zI M' 1529 9 = eB b) (hd : zI M' 1534 0 = nI dn.1 ∧ zI M' 1534 1 = nI dn.2.1 ∧ zI M' 1534 2 = nI dn.2.2.1 ∧ zI M' 1534 3 = nI dn.2.2.2) (hb : b = true → (zI M' 1529 8 = nI es.length ∧ zI M' 1529 10 = 0) ∧ es.length ≤ 24 ∧ rel M' 50 (xgs s).length es ∧ egd (xn s) (xk s) (xgs s).length es ∧ ndv es) : rX M' (xn s, xk s, xpl s, xgs s, b, es, dn, false, []) := by
  obtain ⟨⟨hM, hg⟩, ⟨f0, fv, f7, f9, f8⟩, hP, hGs, hE, -, hQ⟩ := hx
  obtain ⟨n14, kk2, ⟨pl, pg⟩, ⟨gl2, gg⟩, eg, qg⟩ := hg
  exact ⟨⟨mst_fr h hM, n14, kk2, ⟨pl, pg⟩, ⟨gl2, gg⟩, fun z => ⟨(hb z).2.2.2.1, (hb z).2.1, (hb z).2.2.2.2⟩, fun _ z => (by cases z)⟩, ⟨by rw [h.2.2.2.2.2.2.1 0 (by omega)]; exact f0, mvk_fr h (by omega) (by omega) fv, by rw [h.2.2.2.2.2.2.1 7 (by omega)]; exact f7, h9, fun z => (hb z).1⟩, fun i L hi => qdy_fr h (by have : i < (xpl s).length := (List.getElem?_eq_some_iff.mp hi).1; unfold TM; omega) (pg L (List.mem_of_getElem? hi)).1.2.2 (hP i L hi), fun i L hi => qdy_fr h (by have : i < (xgs s).length := (List.getElem?_eq_some_iff.mp hi).1; unfold TM; omega) (gg L (List.mem_of_getElem? hi)).1.2.2 (hGs i L hi), fun z => (hb z).2.2.1, hd, fun _ z => (by cases z)⟩
theorem cR_basis {d : Nat} {M : zM} {s : aX} {l : Int32} {P : Int32 → zM → Prop} (hd : 10 ≤ d) (hx : rX M s) (h : rres (A_basis s l) M P) : ycI d nX8_basis [.ref 1529, .int l] M P := by
  obtain ⟨d, rfl, he⟩ := dS hd
  have hM := hx.1.1
  have f7 := hx.2.1.2.2.1
  have gl := hx.1.2.2.2.2.1.1
  unfold A_basis at h
  have no : idx l 20001 = false → P (-2) M := fun z => by
    rw [if_neg (by rw [z]; decide)] at h
    exact h M hx zfm_rf
  refine en_X8_basis _ _ M (sg_X8_basis_0 _ _ M ⟨fun c => ⟨_, rfl, no (idx_ge (by omega) (Or.inl c))⟩, fun c0 => ⟨fun c1 => ?_, fun c1 => ⟨_, rfl, no (lim_no c1)⟩⟩⟩)
  have hid := lim_ok c0 c1
  rw [if_pos hid] at h
  obtain ⟨lim, hlim, -, rfl, cl⟩ := idx_n hid
  rw [cl] at h
  refine sg_X8_basis_7 _ _ M ⟨hM.1, Or.inl rfl, ?_⟩
  intro M1
  refine ⟨hM.1, Or.inl rfl, ?_⟩
  intro M2
  refine ⟨hM.1, ?_⟩
  intro M3
  refine ⟨hM.1, ?_⟩
  intro M4
  refine ⟨hM.1, Or.inl rfl, ?_⟩
  intro M5
  have hfr5 : rfr TN (fun j => j = 10 ∨ j = 11 ∨ j = 12 ∨ j = 13 ∨ j = 14) GN M M5 := rfr_tr (rfr_F (by omega)) (rfr_tr (rfr_F (by omega)) (rfr_tr (rfr_F (by omega)) (rfr_tr (rfr_F (by omega)) (rfr_F (by omega)))))
  have e10 : zI M5 1529 10 = 0 := rfl
  have e11 : zI M5 1529 11 = 0 := rfl
  have e12 : zI M5 1529 12 = 0 := rfl
  have e13 : zI M5 1529 13 = 0 := rfl
  have e14 : zI M5 1529 14 = nI lim := rfl
  clear_value M5
  have hM5 := mst_fr hfr5 hM
  have hv5 := mvk_fr hfr5 (by omega) (by omega) hx.2.1.2.1
  have e7 : zI M5 1529 7 = nI (xgs s).length := by rw [hfr5.2.2.2.2.2.2.1 7 (by omega)]; exact f7
  have ggd := hx.1.2.2.2.2.1.2
  refine ⟨hM.1, hM.1, ?_⟩
  rw [e7]
  refine sp_rmake (fo := 50) (sh := (xgs s).length) (gens := xgs s) (ws := true) (by omega) hM5 hv5 (by omega) (Or.inl ⟨rfl, e7⟩) gl (by omega) (fun g hg => qdy_fr hfr5 (fun z => z) (getD_len (fun c hc => (ggd c hc).1) g).2.2 (rX_gq hx g hg)) ggd e13 e14 (by omega) e11 e12 fun M6 hfr6 g13 g24 g25 g26 gfl gok => ?_
  generalize hB : abuild (xk s) (xgs s).length lim (xgs s) = B at h g13 g24 g25 g26 gfl gok
  have hM6 := mst_fr hfr6 hM5
  obtain ⟨s16, ⟨-, -, -, -, r15, -⟩, -, s4, -⟩ := id hM6
  have hz10 : zI M6 1529 10 = 0 := by rw [hfr6.2.2.2.2.2.2.1 10 (by unfold FM FP FD FF; omega)]; exact e10
  have zi : ∀ j, j < 4 → zin (nI j) 4 := fun j hj => zin_n hj (by omega)
  refine sg_X8_basis_28 _ _ M6 ⟨s16, s16, by rw [r15, s4], by rw [r15, s4]; exact zi 0 (by omega), ?_⟩
  intro N1
  refine ⟨s16, s16, by rw [r15, s4], by rw [r15, s4]; exact zi 1 (by omega), ?_⟩
  intro N2
  refine ⟨s16, s16, by rw [r15, s4], by rw [r15, s4]; exact zi 2 (by omega), ?_⟩
  intro N3
  refine ⟨s16, s16, by rw [r15, s4], by rw [r15, s4]; exact zi 3 (by omega), ?_⟩
  intro N4
  refine ⟨s16, s16, ?_⟩
  intro N5
  have n1 : N1 = zuI M6 1534 0 (zI M6 1529 13) := by rw [show N1 = zuI M6 (zR M6 1529 15) 0 (zI M6 1529 13) from rfl, r15]
  have n2 : N2 = zuI N1 1534 1 (zI M6 1529 24) := by rw [show N2 = zuI N1 (zR M6 1529 15) 1 (zI N1 1529 24) from rfl, r15, n1, zI_uI, if_neg (by omega)]
  have n3 : N3 = zuI N2 1534 2 (zI M6 1529 25) := by rw [show N3 = zuI N2 (zR M6 1529 15) 2 (zI N2 1529 25) from rfl, r15, n2, zI_uI, if_neg (by omega), n1, zI_uI, if_neg (by omega)]
  have n4 : N4 = zuI N3 1534 3 (zI M6 1529 26) := by rw [show N4 = zuI N3 (zR M6 1529 15) 3 (zI N3 1529 26) from rfl, r15, n3, zI_uI, if_neg (by omega), n2, zI_uI, if_neg (by omega), n1, zI_uI, if_neg (by omega)]
  have F4 : ∀ j, zI N4 1529 j = zI M6 1529 j := fun j => by rw [n4, zI_uI, if_neg (by omega), n3, zI_uI, if_neg (by omega), n2, zI_uI, if_neg (by omega), n1, zI_uI, if_neg (by omega)]
  have n5 : N5 = zuI N4 1529 8 (zI M6 1529 20) := by rw [show N5 = zuI N4 1529 8 (zI N4 1529 20) from rfl, F4]
  have hfrN : rfr (TM 50 (xgs s).length) (fun j => 8 ≤ j) (fun a => a = 1534 ∨ a = 1536 ∨ a = 1537) M6 N5 := by
    rw [n5, n4, n3, n2, n1]
    exact rfr_tr (rfr_G (Or.inl rfl) (by omega)) (rfr_tr (rfr_G (Or.inl rfl) (by omega)) (rfr_tr (rfr_G (Or.inl rfl) (by omega)) (rfr_tr (rfr_G (Or.inl rfl) (by omega)) (rfr_F (by omega)))))
  have D0 : zI N5 1534 0 = zI M6 1529 13 := by rw [n5, zI_uI, if_neg (by omega), n4, zI_uI, if_neg (by omega), n3, zI_uI, if_neg (by omega), n2, zI_uI, if_neg (by omega), n1, zI_uI, if_pos ⟨rfl, rfl⟩]
  have D1 : zI N5 1534 1 = zI M6 1529 24 := by rw [n5, zI_uI, if_neg (by omega), n4, zI_uI, if_neg (by omega), n3, zI_uI, if_neg (by omega), n2, zI_uI, if_pos ⟨rfl, rfl⟩]
  have D2 : zI N5 1534 2 = zI M6 1529 25 := by rw [n5, zI_uI, if_neg (by omega), n4, zI_uI, if_neg (by omega), n3, zI_uI, if_pos ⟨rfl, rfl⟩]
  have D3 : zI N5 1534 3 = zI M6 1529 26 := by rw [n5, zI_uI, if_neg (by omega), n4, zI_uI, if_pos ⟨rfl, rfl⟩]
  have F5 : ∀ j, j ≠ 8 → zI N5 1529 j = zI M6 1529 j := fun j hj => by rw [n5, zI_uI, if_neg (by omega), F4]
  have F58 : zI N5 1529 8 = zI M6 1529 20 := by rw [n5, zI_uI, if_pos ⟨rfl, rfl⟩]
  clear_value N1 N2 N3 N4 N5
  -- the last row
  have fin : ∀ (b : Bool), rfr (TM 50 (xgs s).length) (fun j => 8 ≤ j) (fun a => a = 1534 ∨ a = 1536 ∨ a = 1537) M (zuI N5 1529 9 (eB b)) := fun b => rfr_tr (rfr_up hfr5 (fun _ z => z.elim) (fun j z => by omega) (fun _ z => z.elim)) (rfr_tr (rfr_up hfr6 (fun _ z => z) (fun j z => by unfold FM FP FD FF at z; omega) (fun a z => Or.inr z)) (rfr_tr hfrN (rfr_F (by omega))))
  have hdn : ∀ (b : Bool), zI (zuI N5 1529 9 (eB b)) 1534 0 = nI (xnum lim B).1 ∧ zI (zuI N5 1529 9 (eB b)) 1534 1 = nI (xnum lim B).2.1 ∧ zI (zuI N5 1529 9 (eB b)) 1534 2 = nI (xnum lim B).2.2.1 ∧ zI (zuI N5 1529 9 (eB b)) 1534 3 = nI (xnum lim B).2.2.2 := fun b => ⟨by rw [zI_uI, if_neg (by omega), D0]; exact g13, by rw [zI_uI, if_neg (by omega), D1]; exact g24, by rw [zI_uI, if_neg (by omega), D2]; exact g25, by rw [zI_uI, if_neg (by omega), D3]; exact g26⟩
  have bad : B.1 ≠ 0 → P (ecode B.1) (zuI N5 1529 9 0) := fun hc => by
    rw [if_neg hc] at h
    exact h (zuI N5 1529 9 0) (rX_new (b := false) hx (fin false) (by rw [zI_uI, if_pos ⟨rfl, rfl⟩]; rfl) (hdn false) (fun z => by cases z)) (zfm_of (fin false))
  refine ⟨s16, ?_⟩
  rw [F5 11 (by omega), F5 12 (by omega)]
  rcases gfl with ⟨c, y11, y12⟩ | ⟨c, y11, y12⟩ | ⟨c, y11, y12⟩
  · refine ⟨fun z => absurd y11 z, fun _ => ⟨s16, fun z => absurd y12 z, fun _ => ⟨s16, Or.inr rfl, ?_⟩⟩⟩
    obtain ⟨g20, gl24, grel, gegd, gndv⟩ := gok c
    rw [if_pos c] at h
    intro N6
    have n6 : N6 = zuI N5 1529 9 (eB true) := rfl
    clear_value N6
    have F6 : ∀ j, j ≠ 9 → zI N6 1529 j = zI N5 1529 j := fun j hj => by rw [n6, zI_uI, if_neg (by omega)]
    refine ⟨s16, fun _ => ⟨s16, fun _ => ⟨s16, _, rfl, ?_⟩, fun z => absurd (by rw [F6 _ (by omega), F5 _ (by omega)]; exact y11) z⟩, fun z => absurd (by rw [F6 _ (by omega), F5 _ (by omega)]; exact y12) z⟩
    rw [F6 _ (by omega), F58, g20]
    have hrN : rfr TN (fun j => 8 ≤ j) (fun a => a = 1534) M6 N6 := by
      rw [n6, n5, n4, n3, n2, n1]
      exact rfr_tr (rfr_G rfl (by omega)) (rfr_tr (rfr_G rfl (by omega)) (rfr_tr (rfr_G rfl (by omega)) (rfr_tr (rfr_G rfl (by omega)) (rfr_tr (rfr_F (by omega)) (rfr_F (by omega))))))
    refine h N6 (rX_new (b := true) hx (by rw [n6]; exact fin true) (by rw [n6, zI_uI, if_pos ⟨rfl, rfl⟩]) (by rw [n6]; exact hdn true) fun _ => ⟨⟨by rw [F6 _ (by omega), F58, g20], by rw [F6 _ (by omega), F5 _ (by omega)]; exact hz10⟩, gl24, rel_fr hrN (fun i hi => ⟨fun z => z, fun _ _ z => z⟩) gegd grel, gegd, gndv⟩) (by rw [n6]; exact zfm_of (fin true))
  · refine ⟨fun z => absurd y11 z, fun _ => ⟨s16, fun _ => ⟨s16, Or.inl rfl, ?_⟩, fun z => absurd (Classical.not_not.mp z) (by rw [y12]; decide)⟩⟩
    intro N6
    have hb := bad (by omega)
    rw [c] at hb
    have F6 : ∀ j, j ≠ 9 → zI N6 1529 j = zI N5 1529 j := fun j hj => by rw [show N6 = zuI N5 1529 9 0 from rfl, zI_uI, if_neg (by omega)]
    exact ⟨s16, fun z => absurd z (by rw [F6 _ (by omega), F5 _ (by omega), y12]; decide), fun _ => ⟨_, rfl, hb⟩⟩
  · refine ⟨fun _ => ⟨s16, Or.inl rfl, ?_⟩, fun z => absurd (Classical.not_not.mp z) (by rw [y11]; decide)⟩
    intro N6
    have hb := bad (by omega)
    rw [c] at hb
    have F6 : ∀ j, j ≠ 9 → zI N6 1529 j = zI N5 1529 j := fun j hj => by rw [show N6 = zuI N5 1529 9 0 from rfl, zI_uI, if_neg (by omega)]
    exact ⟨s16, fun _ => ⟨s16, fun z => absurd z (by rw [F6 _ (by omega), F5 _ (by omega), y11]; decide), fun _ => ⟨_, rfl, hb⟩⟩, fun z => absurd (by rw [F6 _ (by omega), F5 _ (by omega)]; exact y12) z⟩
def FO (j : Nat) : Prop := j = 11 ∨ j = 12 ∨ j = 13 ∨ j = 19 ∨ j = 20 ∨ j = 21
theorem sp_rown {d n : Nat} {M : zM} {P : zM → Prop} (hd : 1 ≤ d) (hM : mst M) (h8 : zI M 1529 8 = nI n) (h : ∀ M', rfr TN FO GN M M' → zI M' 1529 19 = nI 50 → zI M' 1529 20 = nI n → zI M' 1529 21 = -1 → zI M' 1529 11 = 0 → zI M' 1529 12 = 0 → zI M' 1529 13 = 0 → P M') : ycV d nX8_own [.ref 1529] M P := by
  obtain ⟨d, rfl, he⟩ := dS hd
  refine en_X8_own _ M (sg_X8_own_0 _ M ⟨hM.1, ?_⟩)
  intro M1
  refine ⟨hM.1, hM.1, ?_⟩
  intro M2
  refine ⟨hM.1, ?_⟩
  intro M3
  refine ⟨hM.1, Or.inl rfl, ?_⟩
  intro M4
  refine ⟨hM.1, Or.inl rfl, ?_⟩
  intro M5
  refine ⟨hM.1, ?_⟩
  intro M6
  refine ⟨rfl, h M6 ?_ rfl ?_ rfl rfl rfl rfl⟩
  · exact rfr_tr (rfr_F (by unfold FO; omega)) (rfr_tr (rfr_F (by unfold FO; omega)) (rfr_tr (rfr_F (by unfold FO; omega)) (rfr_tr (rfr_F (by unfold FO; omega)) (rfr_tr (rfr_F (by unfold FO; omega)) (rfr_F (by unfold FO; omega))))))
  · exact h8
theorem FO_11 : ∀ j, FO j → 11 ≤ j := fun j h => by unfold FO at h; omega
theorem FD_11 : ∀ j, FD j → 11 ≤ j := fun j h => by unfold FD FF at h; omega
theorem rX_prove {M M' : zM} {s : aX} {b : Bool} {qs : List aP} (hx : rX M s) (hh : xhs s = true) (h : rfr (fun x => 125 ≤ x ∧ x < 150) (fun j => j = 10) GN M M') (h10 : zI M' 1529 10 = eB b) (hl : qs.length = (xes s).length) (hk : ∀ q ∈ qs, pgd (xn s) (xk s) q) (hq : ∀ i, i < 25 → qdy M' (125 + i) (qs.getD i [])) : rX M' (xprove s b qs) := by
  obtain ⟨⟨hM, hg⟩, ⟨f0, fv, f7, f9, f8⟩, hP, hGs, hE, ⟨d0, d1, d2, d3⟩, hQ⟩ := hx
  obtain ⟨n14, kk2, ⟨pl, pg⟩, ⟨gl2, gg⟩, eg, qg⟩ := hg
  have D : ∀ j, zI M' 1534 j = zI M 1534 j := fun j => h.2.2.2.2.2.1 1534 j (Or.inr ⟨by omega, fun z => z⟩)
  have hel := (eg hh).2.1
  exact ⟨⟨mst_fr h hM, n14, kk2, ⟨pl, pg⟩, ⟨gl2, gg⟩, eg, fun _ _ => ⟨hl, hk⟩⟩, ⟨by rw [h.2.2.2.2.2.2.1 0 (by omega)]; exact f0, mvk_fr h (by omega) (by omega) fv, by rw [h.2.2.2.2.2.2.1 7 (by omega)]; exact f7, by rw [h.2.2.2.2.2.2.1 9 (by omega)]; exact f9, fun z => ⟨by rw [h.2.2.2.2.2.2.1 8 (by omega)]; exact (f8 z).1, h10⟩⟩, fun i L hi => qdy_fr h (by have : i < (xpl s).length := (List.getElem?_eq_some_iff.mp hi).1; omega) (pg L (List.mem_of_getElem? hi)).1.2.2 (hP i L hi), fun i L hi => qdy_fr h (by have : i < (xgs s).length := (List.getElem?_eq_some_iff.mp hi).1; omega) (gg L (List.mem_of_getElem? hi)).1.2.2 (hGs i L hi), fun z => rel_fr (es := xes s) h (fun i (hi : i < (xes s).length) => ⟨by omega, fun g hgs => by omega⟩) (eg hh).1 (hE z), ⟨by rw [D]; exact d0, by rw [D]; exact d1, by rw [D]; exact d2, by rw [D]; exact d3⟩, fun _ _ => hq⟩
theorem cR_divide {d : Nat} {M : zM} {s : aX} {p r : Int32} {P : Int32 → zM → Prop} (hd : 10 ≤ d) (hx : rX M s) (h : rres (A_divide s p r) M P) : ycI d nX8_divide [.ref 1529, .int p, .int r] M P := by
  obtain ⟨d, rfl, he⟩ := dS hd
  have hM := hx.1.1
  have f9 := hx.2.1.2.2.2.1
  unfold A_divide at h
  have no : ¬ (ipl p = true ∧ ipl r = true) → P (-1) M := fun z => by
    rw [if_neg z] at h
    exact h M hx zfm_rf
  refine en_X8_divide _ _ _ M (sg_X8_divide_0 _ _ _ M (sp_rplace (by omega) (fun hp => ⟨fun z => absurd z (by decide), fun _ => ?_⟩) (fun hp => ⟨fun _ => ⟨_, rfl, no fun z => by rw [hp] at z; exact absurd z.1 (by decide)⟩, fun z => absurd rfl z⟩)))
  refine sp_rplace (by omega) (fun hr => ⟨fun _ => ?_, fun z => absurd (Classical.not_not.mp z) (by decide)⟩) (fun hr => ⟨fun z => absurd rfl z, fun _ => ⟨_, rfl, no fun z => by rw [hr] at z; exact absurd z.2 (by decide)⟩⟩)
  rw [if_pos ⟨hp, hr⟩] at h
  obtain ⟨i, hi, -, rfl, ci⟩ := idx_n (n := 40) hp
  obtain ⟨l, hl, -, rfl, cl⟩ := idx_n (n := 40) hr
  refine sg_X8_divide_8 _ _ _ _ M ⟨hM.1, fun c => ⟨hM.1, ?_⟩, fun c => ⟨_, rfl, ?_⟩⟩
  · have hh : xhs s = true := eB_1.mp (by rw [← f9]; exact c)
    rw [if_pos hh] at h
    obtain ⟨heg, hel, hnd⟩ := hx.1.2.2.2.2.2.1 hh
    refine sp_rown (by omega) hM (hx.2.1.2.2.2.2 hh).1 fun M1 hfr1 e19 e20 e21 e11 e12 e13 => ?_
    have hM1 := mst_fr hfr1 hM
    refine ⟨hM1.1, ?_⟩
    intro M2
    have m2 : M2 = zuI M1 1529 14 (nI 5000) := rfl
    clear_value M2
    have hfr2 : rfr TN (fun j => j = 14) GN M1 M2 := by rw [m2]; exact rfr_F rfl
    have F2 : ∀ j, j ≠ 14 → zI M2 1529 j = zI M1 1529 j := fun j hj => hfr2.2.2.2.2.2.2.1 j hj
    have hx2 := rX_fr hfr2 (fun _ z => z.elim) (fun j z => by omega) (fun z => z) (rX_fr hfr1 (fun _ z => z.elim) FO_11 (fun z => z) hx)
    obtain ⟨qi, gi⟩ := rX_at hx2 hi
    refine ⟨hM1.1, sp_rcopy (q := 151) (by omega) hx2.1.1 (by omega) (by omega) (by omega) qi gi.1.2.2 fun M3 hfr3 hq3 => ?_⟩
    have hx3 := rX_fr hfr3 (fun x z => Or.inr (Or.inr (by omega))) FN_11 (fun z => z) hx2
    have F3 : ∀ j, zI M3 1529 j = zI M2 1529 j := fun j => hfr3.2.2.2.2.2.2.1 j fun z => z
    have hrel3 := hx3.2.2.2.2.1 hh
    refine ⟨hx3.1.1.1, sp_rdivided (fo := 50) (lim := 5000) (st := 0) (bs := (xes s).map Prod.fst) (lo := none) (by omega) hx3.1.1 hx3.2.1.2.1 (by rw [F3, F2 _ (by omega)]; exact e19) (by omega) (by rw [F3, F2 _ (by omega)]; exact e20) (by rw [F3, F2 _ (by omega)]; exact e21) (fun j hj => by cases hj) (by rw [F3, F2 _ (by omega)]; exact e13) (by rw [F3, m2, zI_uI, if_pos ⟨rfl, rfl⟩]) (by omega) (by omega) (by rw [F3, F2 _ (by omega)]; exact e11) (by rw [F3, F2 _ (by omega)]; exact e12) (by rw [List.length_map]) hel (fun j b hb => ?_) hq3 gi fun dv M4 hdv hfr4 h13 c0 c1 c2 c3 => ?_⟩
    · rw [List.getElem?_map] at hb
      cases hE : (xes s)[j]? with
      | none => rw [hE] at hb; cases hb
      | some E =>
        rw [hE] at hb
        cases hb
        exact ⟨(hrel3 j E hE).1, (heg E (List.mem_of_getElem? hE)).1⟩
    · have hdv : xdv s (nI i) = dv := hdv
      rw [hdv] at h
      have hx4 := rX_fr hfr4 (fun x z => by unfold TD at z; unfold rsc; omega) FD_11 (fun z => z) hx3
      have hM4 := hx4.1.1
      have hz4 : zfm M M4 := zfm_tr (zfm_of hfr1) (zfm_tr (zfm_of hfr2) (zfm_tr (zfm_of hfr3) (zfm_of hfr4)))
      rcases c3 with e | e | e
      · obtain ⟨z11, z12, q152, g152, ql, qg, qq⟩ := c0 e
        rw [if_pos e] at h
        refine sg_X8_divide_26 _ _ _ _ M4 ⟨hM4.1, fun z => absurd z12 z, fun _ => ⟨hM4.1, fun _ => ?_, fun z => absurd z11 z⟩⟩
        refine sg_X8_divide_39 _ _ _ _ M4 ⟨hM4.1, ?_⟩
        refine sp_rcopy (p := 152) (by omega) hM4 (by omega) (by omega) (by omega) q152 g152.1.2.2 fun M5 hfr5 hq5 => ?_
        have hx5 := rX_put hfr5 FN_11 (fun z => z) hl hq5 g152 hx4
        obtain ⟨s16, ⟨r3, r4, r5, r6, -⟩, ⟨k0, k1, k2, k3⟩, -⟩ := id hx5.1.1
        -- the quotients are kept
        have keep : ∀ (b : Bool) (M6 : zM), rfr TN (fun j => j = 10) GN M5 M6 → zI M6 1529 10 = eB b → rres ((cond b 1 0 : Int32), xprove (xput s (nI l) dv.2.2.1) b dv.2.2.2) M P → ∀ (n g : Nat) (M' : zM) (o1 o2 : Option Value), g + n = 25 → rfr (fun x => 125 ≤ x ∧ x < 150) FN GN M6 M' → (∀ j, j < g → qdy M' (125 + j) (dv.2.2.2.getD j [])) → wX8_divide d (fun r M2 => ∃ x : Int32, r = [.int x] ∧ P x M2) 55 [some (.ref 1529), o1, o2, some (.int (nI g))] [] M' := by
          intro b M6 hfr6 h10 hK n
          induction n with
          | zero =>
            intro g M' o1 o2 hg hfr hq
            have hfa : rfr (fun x => 125 ≤ x ∧ x < 150) (fun j => j = 10) GN M5 M' := rfr_tr (rfr_up hfr6 (fun _ z => z.elim) (fun _ z => z) (fun _ z => z)) (rfr_up hfr (fun _ z => z) (fun _ z => z.elim) (fun _ z => z))
            have hx' := rX_prove (b := b) (qs := dv.2.2.2) hx5 hh hfa (by rw [hfr.2.2.2.2.2.2.1 10 (fun z => z)]; exact h10) ql qg (fun j hj => hq j (by omega))
            have h10' : zI M' 1529 10 = eB b := by rw [hfr.2.2.2.2.2.2.1 10 (fun z => z)]; exact h10
            have hP := hK M' hx' (zfm_tr hz4 (zfm_tr (zfm_of hfr5) (zfm_of hfa)))
            refine sg_X8_divide_55 _ _ _ _ _ ⟨fun _ => sg_X8_divide_68 _ _ _ _ _ ⟨hx'.1.1.1, fun z => ⟨_, rfl, ?_⟩, fun z => ⟨_, rfl, ?_⟩⟩, fun z => absurd (by rw [show g = 25 by omega]; exact Int32.le_refl _) z⟩
            · rw [h10'] at z
              rw [eB_0.mp z] at hP
              exact hP
            · rw [h10'] at z
              rw [eB_1.mp z] at hP
              exact hP
          | succ n ih =>
            intro g M' o1 o2 hg hfr hq
            have hM' := mst_fr hfr (mst_fr hfr6 hx5.1.1)
            have hql : ∀ j, (dv.2.2.2.getD j []).length ≤ 100 := fun j => (getD_len (fun q hq => (qg q hq).1) j).2.2
            have h46 : rfr (fun x => x = l) (fun j => j = 10) GN M4 M6 := rfr_tr (rfr_up hfr5 (fun _ z => z) (fun _ z => z.elim) (fun _ z => z)) (rfr_up hfr6 (fun _ z => z.elim) (fun _ z => z) (fun _ z => z))
            refine sg_X8_divide_55 _ _ _ _ _ ⟨fun z => ?_, fun _ => ⟨hM'.1, ?_⟩⟩
            · have := (nI_leI (a := 25) (by omega) (by omega)).mp z
              omega
            · rw [show (100 : Int32) + nI g = nI (100 + g) from nI_add 100 g, show (125 : Int32) + nI g = nI (125 + g) from nI_add 125 g]
              refine sp_rcopy (by omega) hM' (by omega) (by omega) (by omega) (qdy_fr hfr (by omega) (hql g) (qdy_fr h46 (by omega) (hql g) (qq g (by omega)))) (hql g) fun M7 hfr7 hq7 => ?_
              intro v3
              rw [show v3 = nI (g + 1) from nI_1 g]
              refine ih (g + 1) M7 _ _ (by omega) (rfr_tr hfr (rfr_up hfr7 (fun x z => by omega) (fun _ z => z) (fun _ z => z))) fun j hj => ?_
              by_cases hjg : j = g
              · rw [hjg]; exact hq7
              · exact qdy_fr hfr7 (by omega) (hql j) (hq j (by omega))
        refine ⟨s16, by rw [r6, k3], by rw [r6, k3]; exact zin_n (by omega) (by omega), ?_⟩
        rw [r6, cl_n (by omega), hq5.1]
        have hlen := g152.1.2.2
        refine ⟨fun z => ⟨s16, Or.inl rfl, ?_⟩, fun z => ⟨s16, Or.inr rfl, ?_⟩⟩
        · have z : dv.2.2.1.length ≠ 0 := fun y => z ((nI_z (by omega)).mpr y)
          rw [if_neg z] at h
          intro M6
          exact keep false M6 (rfr_F rfl) rfl h 25 0 M6 _ _ (by omega) rfr_rf fun j hj => absurd hj (Nat.not_lt_zero _)
        · have z : dv.2.2.1.length = 0 := (nI_z (by omega)).mp (Classical.not_not.mp z)
          rw [if_pos z] at h
          intro M6
          exact keep true M6 (rfr_F rfl) rfl h 25 0 M6 _ _ (by omega) rfr_rf fun j hj => absurd hj (Nat.not_lt_zero _)
      · obtain ⟨z11, z12⟩ := c1 e
        rw [if_neg (by omega)] at h
        have hP := h M4 hx4 hz4
        rw [show (ecode dv.1, s).1 = ecode dv.1 from rfl, e] at hP
        exact sg_X8_divide_26 _ _ _ _ M4 ⟨hM4.1, fun _ => ⟨hM4.1, fun z => absurd z (by rw [z12]; decide), fun _ => ⟨_, rfl, hP⟩⟩, fun z => absurd (Classical.not_not.mp z) (by rw [z12]; decide)⟩
      · obtain ⟨z11, z12⟩ := c2 e
        rw [if_neg (by omega)] at h
        have hP := h M4 hx4 hz4
        rw [show (ecode dv.1, s).1 = ecode dv.1 from rfl, e] at hP
        exact sg_X8_divide_26 _ _ _ _ M4 ⟨hM4.1, fun z => absurd z12 z, fun _ => ⟨hM4.1, fun z => absurd z (by rw [z11]; decide), fun _ => ⟨hM4.1, fun _ => ⟨_, rfl, hP⟩, fun z => absurd z12 z⟩⟩⟩
  · have hh : xhs s = false := eB_0.mp (by rw [← f9]; exact Classical.not_not.mp c)
    rw [if_neg (by rw [hh]; decide)] at h
    exact h M hx zfm_rf
