/-! calls of the class: divisions, certificates, checks, radicals -/
theorem zfr_uu {S : Nat → Prop} {M M' : zM} {a k : Nat} {v : Int32} (h : zfr S M M') : zfr S (zuI M a k v) (zuI M' a k v) := ⟨h.1, h.2.1, h.2.2.1, h.2.2.2.1, fun b hb => ⟨fun j => by rw [zI_uI, zI_uI, (h.2.2.2.2 b hb).1], (h.2.2.2.2 b hb).2⟩⟩
theorem zfq_un {M : zM} {R k v a n : Nat} {x : Int32} : zfq (fun y => y = a) R M (zuI (zuR M R k v) a n x) := zfq_tr (zfq_uR (S := fun y => y = a)) (zfq_of (zfr_uI rfl))
/-- the division at work becomes the proof -/
theorem xX_swap {M : zM} {s : aX} {D F : Nat} {e e2 : Nat → Nat} {b : Bool} {qs : List aP} (hx : xX M s D F e e2) (hh : xhs s = true) (hq : ∀ (i : Nat) (q : aP), qs[i]? = some q → pdy M (D + 10 + 4 * i) (xk s) q) (hl : qs.length = (xes s).length) (hk : ∀ q ∈ qs, pok (xk s) q) : xX (zuI (zuR (zuR M 2 8 F) 2 9 D) 2 10 (eB b)) (xprove s b qs) F D e e2 := by
  obtain ⟨ok, hS, hN, hP, hG, hE, hDn, hQ⟩ := hx
  have hD := hS.2.2.2.2.2.1.2.2
  have h : zfq (fun y => y = 2) 2 M (zuI (zuR (zuR M 2 8 F) 2 9 D) 2 10 (eB b)) := zfq_tr (zfq_uR (S := fun y => y = 2)) zfq_un
  have r89 : ∀ j, zR (zuI (zuR (zuR M 2 8 F) 2 9 D) 2 10 (eB b)) 2 j = if j = 9 then D else if j = 8 then F else zR M 2 j := fun j => by
    show zR (zuR (zuR M 2 8 F) 2 9 D) 2 j = _
    rw [zR_uR, zR_uR]
    simp only [true_and]
  have n2 : ∀ j, zI (zuI (zuR (zuR M 2 8 F) 2 9 D) 2 10 (eB b)) 2 j = if j = 10 then eB b else zI M 2 j := fun j => by
    rw [zI_uI]
    simp only [true_and]
    rfl
  generalize zuI (zuR (zuR M 2 8 F) 2 9 D) 2 10 (eB b) = M' at *
  obtain ⟨⟨h1, h1'⟩, ⟨r1, r2, r3, r5, r7, r8, r9, r11, r12, r13⟩, h3, h4, ⟨h5, h5'⟩, ⟨h6, h6', h6''⟩, h7, h8, h9⟩ := hS
  have f202 : ∀ j, zI M' 202 j = zI M 202 j := (h.2.2.2.2 202 (by omega)).1
  refine ⟨⟨ok.1, ok.2.1, ok.2.2.1, ok.2.2.2.1, ok.2.2.2.2.1, fun _ _ => ⟨hl, hk⟩⟩, ⟨⟨by rw [h.1]; exact h1, by rw [h.1]; exact h1'⟩, ⟨by rw [r89]; exact r1, by rw [r89]; exact r2, by rw [r89]; exact r3, by rw [r89]; exact r5, by rw [r89]; exact r7, by rw [r89]; rfl, by rw [r89]; rfl, by rw [r89]; exact r11, by rw [r89]; exact r12, by rw [r89]; exact r13⟩, ⟨by rw [h.1]; exact h3.1, fun i hi => ⟨by rw [h.2.2.2.1 _ _ (by omega)]; exact (h3.2 i hi).1, pst_fq h (by omega) (h3.2 i hi).2⟩⟩, gst_fq h (by omega) h4, ⟨ist_fo h (by unfold inI; omega) h5, ist_fo h (by unfold inI; omega) h5'⟩, ⟨dst_fq h (by unfold inD; omega) h6', dst_fq h (by unfold inD; omega) h6, by omega⟩, pst_fq h (by omega) h7, pst_fq h (by omega) h8, by rw [h.1]; exact h9⟩, ⟨?_, ?_, ?_, ?_, ?_⟩, fun i L hi => ?_, fun i L hi => ?_, fun _ => ⟨?_, fun i E hi => ?_⟩, ⟨by rw [f202]; exact hDn.1, by rw [f202]; exact hDn.2.1, by rw [f202]; exact hDn.2.2.1, by rw [f202]; exact hDn.2.2.2⟩, fun _ _ i q hi => ?_⟩
  · rw [(h.2.2.2.2 3 (by omega)).1]; exact hN.1
  · rw [n2]; exact hN.2.1
  · rw [n2]; exact hN.2.2.1
  · rw [n2]; exact hN.2.2.2.1
  · rw [n2]; rfl
  · exact pdy_fq h (fun a ha => by unfold inP at ha; omega) (hP i L hi)
  · exact pdy_fq h (fun a ha => by unfold inP at ha; omega) (hG i L hi)
  · obtain ⟨i1, i2, i3⟩ := (hE hh).1
    exact ⟨by rw [f202]; exact i1, by rw [f202]; exact i2, i3⟩
  · have hil : i < (xes s).length := (List.getElem?_eq_some_iff.mp hi).1
    have hl := (ok.2.2.2.2.1 hh).2
    have := h5.2.2.1.1 i (by omega)
    exact edy_fq (w := E.2.length) h (Nat.le_refl _) (fun a ha => by unfold inE at ha; omega) ((hE hh).2 i E hi)
  · exact pdy_fq h (fun a ha => by unfold inP at ha; omega) (hq i q hi)
theorem cX_divide {d D F : Nat} {M : zM} {s : aX} {e e2 : Nat → Nat} {p r : Int32} {P : Int32 → zM → Prop} (hd : 10 ≤ d) (hx : xX M s D F e e2) (h : xres (A_divide s p r) M P) : ycI d nX7_divide [.ref 2, .int p, .int r] M P := by
  obtain ⟨d, rfl, he⟩ := dS hd
  have s15 := hx.2.1.1.1
  have hDF := hx.2.1.2.2.2.2.2.1.2.2
  unfold A_divide at h
  have no : ¬ (ipl p = true ∧ ipl r = true) → P (-1) M := fun z => by
    rw [if_neg z] at h
    exact h M D F e e2 hx zfc_rf
  refine en_X7_divide _ _ _ M (sg_X7_divide_0 _ _ _ M (sp_isPlace (by omega) (fun hp => ⟨fun z => absurd z (by decide), fun _ => ?_⟩) (fun hp => ⟨fun _ => ⟨_, rfl, no fun z => by rw [hp] at z; exact absurd z.1 (by decide)⟩, fun z => absurd rfl z⟩)))
  refine sp_isPlace (by omega) (fun hr => ⟨fun _ => ⟨s15, fun c => ?_, fun c => ⟨_, rfl, ?_⟩⟩, fun z => absurd (Classical.not_not.mp z) (by decide)⟩) (fun hr => ⟨fun z => absurd rfl z, fun _ => ⟨_, rfl, no fun z => by rw [hr] at z; exact absurd z.2 (by decide)⟩⟩)
  · rw [hx.2.2.1.2.2.2.1] at c
    have hh := eB_1.mp c
    rw [if_pos ⟨hp, hr⟩, if_pos hh] at h
    obtain ⟨i, hi, -, rfl, ci⟩ := idx_n (n := 40) hp
    obtain ⟨l, hl, -, rfl, cl⟩ := idx_n (n := 40) hr
    have hDst := hx.2.1.2.2.2.2.2.1.1
    have r8 := hx.2.1.2.1.2.2.2.2.2.1
    have hok := (hx.1.2.2.2.2.1 hh).1
    have h24 := (hx.1.2.2.2.2.1 hh).2
    refine ⟨s15, by rw [r8]; exact hDst.1, ?_⟩
    rw [r8]
    refine sp_allow (lim := 5000) (by omega) hDst fun M1 hfr1 h13 h14 => ?_
    have hsD : ∀ a, inD D a → scr D a := fun a ha => Or.inl ha
    have hx1 := xX_fr hfr1 (fun a ha => Or.inl (by unfold inD; omega)) hx
    have hS1 := hx1.2.1
    have hc1 := (hx1.2.2.2.2.2.1 hh).1
    refine ⟨hS1.1.1, hS1.1.1, by rw [hS1.2.1.2.2.2.1]; exact hS1.2.2.2.2.1.1.1.1, by rw [hS1.2.1.2.2.2.2.2.1]; exact hS1.2.2.2.2.2.1.1.1, ?_⟩
    rw [hS1.2.1.2.2.2.2.2.1, hS1.2.1.2.2.2.1, hc1.1]
    refine sp_makeReady (k := xk s) (by omega) hS1.2.2.2.2.2.1.1 h24 fun M2 hfr2 hdd2 => ?_
    have hx2 := xX_fr hfr2 (fun a ha => Or.inl (by unfold inD1 at ha; unfold inD; omega)) hx1
    have hS2 := hx2.2.1
    have hD2 := hS2.2.2.2.2.2.1.1
    obtain ⟨-, pd, pk, ps⟩ := xX_at hx2 hi
    refine ⟨hS2.1.1, by rw [hS2.2.1.2.2.2.2.2.1]; exact hD2.1, hS2.1.1, by rw [hS2.2.1.2.1, hS2.2.2.1.1], by rw [hS2.2.1.2.1, hS2.2.2.1.1]; exact zin_n hi (by omega), by rw [hS2.2.1.2.2.2.2.2.1, hD2.2.1]; exact hD2.2.2.2.2.2.2.1.1, ?_⟩
    rw [hS2.2.1.2.2.2.2.2.1, hD2.2.1, hS2.2.1.2.1, ci, (hS2.2.2.1.2 i hi).1]
    refine sp_become (by omega) hD2.2.2.2.2.2.2.1 ps (by omega) pd pk.2.2 fun M3 hfr3 hpd3 => ?_
    have hx3 := xX_fr hfr3 (fun a ha => Or.inl (by unfold inP at ha; unfold inD; omega)) hx2
    have hS3 := hx3.2.1
    have hI3 := hS3.2.2.2.2.1.1
    have hD3 := hS3.2.2.2.2.2.1.1
    have hc3 := (hx3.2.2.2.2.2.1 hh).1
    have hE3 := (hx3.2.2.2.2.2.1 hh).2
    have d3 : ∀ j, zI M3 D j = zI M1 D j := fun j => by rw [(hfr3.2.2.2.2 D (by unfold inP; omega)).1, (hfr2.2.2.2.2 D (by unfold inD1; omega)).1]
    refine ⟨hS3.1.1, hS3.1.1, by rw [hS3.2.1.2.2.2.1]; exact hI3.1.1, hS3.1.1, by rw [hS3.2.1.2.2.2.1]; exact hI3.1.1, by rw [hS3.2.1.2.2.2.2.2.1]; exact hD3.1, ?_⟩
    rw [hS3.2.1.2.2.2.2.2.1, hS3.2.1.2.2.2.1, hI3.1.2.2.1, hc3.1]
    have hdd3 : ddy M3 D (xk s) (xat s (nI i)) [] (List.replicate (xes s).length []) := ⟨hpd3, pdy_fr hfr3 (inP_ne (by omega)) hdd2.2.1, fun j q hj => pdy_fr hfr3 (inP_ne (by omega)) (hdd2.2.2 j q hj)⟩
    have hb3 : ∀ (j : Nat) (b : aP), ((xes s).map Prod.fst)[j]? = some b → pdy M3 (e j + 1) (xk s) b ∧ pok (xk s) b ∧ b ≠ [] := fun j b hb => by
      rw [List.getElem?_map] at hb
      cases hej : (xes s)[j]? with
      | none => rw [hej] at hb; cases hb
      | some E =>
        rw [hej] at hb
        cases hb
        have hEk := hok E (List.mem_of_getElem? hej)
        exact ⟨(hE3 j E hej).1, hEk.1.1, hEk.2.1⟩
    refine sp_run (lo := none) (st0 := 0) (lim := 5000) (by omega) hD3 hI3.2.1 (xX_ost hx3) (by unfold inD; omega) (fun j hj => by have := hI3.2.2.1.1 j hj; omega) hb3 (by rw [List.length_map]) h24 (fun j hj => by cases hj) hdd3 pk pok_nil (fun q hq => by rw [(List.mem_replicate.mp hq).2]; exact pok_nil) List.length_replicate (by rw [d3, h13]; rfl) (by rw [d3]; exact h14) (by omega) (by omega) fun M4 hfr4 h44 h43 h4ok => ?_
    have h : xres (if (xdv s (nI i)).1 = 0 then (if (xdv s (nI i)).2.2.1.length = 0 then (1, xprove (xput s (nI l) (xdv s (nI i)).2.2.1) true (xdv s (nI i)).2.2.2) else (0, xprove (xput s (nI l) (xdv s (nI i)).2.2.1) false (xdv s (nI i)).2.2.2)) else (ecode (xdv s (nI i)).1, s)) M P := h
    have edv : adiv (xk s) ((xes s).map Prod.fst) none (5000 - 0) (xat s (nI i)) [] (List.replicate (xes s).length []) = xdv s (nI i) := rfl
    rw [edv] at h43 h4ok
    rw [edv]
    generalize xdv s (nI i) = dv at h h43 h4ok
    have hx4 := xX_fr hfr4 hsD hx3
    have hS4 := hx4.2.1
    have hfc4 : zfc M M4 := zfc_tr (zfc_of hfr1 fun a ha => by omega) (zfc_tr (zfc_of hfr2 fun a ha => by unfold inD1 at ha; omega) (zfc_tr (zfc_of hfr3 fun a ha => by unfold inP at ha; omega) (zfc_of hfr4 fun a ha => by unfold inD at ha; omega)))
    refine ⟨fun z => ⟨hS4.1.1, ?_⟩, fun z => ⟨_, rfl, ?_⟩⟩
    · have z := ecode_0.mp z
      rw [if_pos z] at h
      obtain ⟨hdd, hrk, hqk, hql⟩ := h4ok z
      intro r4
      have e4 : r4 = D := hS4.2.1.2.2.2.2.2.1
      clear_value r4
      subst e4
      refine ⟨hS4.1.1, hS4.1.1, ?_⟩
      intro M11
      refine ⟨hS4.1.1, ?_⟩
      intro M12
      have hD4 := hS4.2.2.2.2.2.1.1
      have e12 : M12 = zuR (zuR M4 2 8 F) 2 9 r4 := by rw [show M12 = zuR (zuR M4 2 8 (zR M4 2 9)) 2 9 r4 from rfl, hS4.2.1.2.2.2.2.2.2.1]
      clear_value M12
      have hsw : ∀ b, xX (zuI M12 2 10 (eB b)) (xprove s b dv.2.2.2) F r4 e e2 := fun b => by
        rw [e12]
        exact xX_swap hx4 hh hdd.2.2 hql hqk
      have hS12 : xS M12 F r4 e e2 := by
        have := (hsw true).2.1
        exact this
      refine ⟨hD4.1, hS4.1.1, ?_⟩
      have r12 : zR M12 r4 1 = r4 + 5 := by
        rw [e12, zR_uR, if_neg (by omega), zR_uR, if_neg (by omega)]
        exact hD4.2.2.1
      rw [r12]
      have hpd12 : pdy M12 (r4 + 5) (xk s) dv.2.2.1 := by
        rw [e12]
        exact hdd.2.1
      have hps12 := hS12.2.2.2.2.2.1.2.1.2.2.2.2.2.2.2.1
      have hfc12 : zfc M4 M12 := by
        rw [e12]
        exact zfc_ofq (S := fun _ => False) (zfq_tr (zfq_uR (R := 2)) zfq_uR) (by omega) fun a ha => ha.elim
      refine sp_put (by omega) hS12 hl hps12 (by omega) hpd12 hrk.2.2 fun M13 hfr13 hpd13 => ?_
      have hS13 := xS_fr hfr13 hS12
      have key : ∀ b, xX (zuI M13 2 10 (eB b)) (xprove (xput s (nI l) dv.2.2.1) b dv.2.2.2) F r4 e e2 := fun b => xX_put (s := xprove s b dv.2.2.2) (zfr_uu hfr13) hl (pdy_fr (zfr_uI (S := fun x => x = 2) rfl) (fun a ha => by unfold inP at ha; omega) hpd13) hrk (hsw b)
      have hfcb : ∀ b, zfc M (zuI M13 2 10 (eB b)) := fun b => zfc_tr hfc4 (zfc_tr hfc12 (zfc_tr (zfc_of hfr13 (inP_c hl)) (zfc_of (zfr_uI (S := fun x => x = 2) rfl) fun a ha => by omega)))
      have f10 : ∀ v : Int32, zI (zuI M13 2 10 v) 2 10 = v := fun v => by rw [zI_uI, if_pos ⟨rfl, rfl⟩]
      refine ⟨fun zl => ⟨hS13.1.1, Or.inl rfl, ?_⟩, fun zl => ⟨hS13.1.1, Or.inr rfl, ?_⟩⟩
      · intro M15
        have zl : ¬ dv.2.2.1.length = 0 := fun y => zl (by rw [y]; rfl)
        rw [if_neg zl] at h
        refine ⟨hS13.1.1, fun _ => ⟨_, rfl, h M15 F r4 e e2 (key false) (hfcb false)⟩, fun y => absurd (f10 0) y⟩
      · intro M15
        have zl : dv.2.2.1.length = 0 := (nI_z (by have := hrk.2.2; omega)).mp (Classical.not_not.mp zl)
        rw [if_pos zl] at h
        refine ⟨hS13.1.1, fun y => absurd ((f10 1).symm.trans y) (by decide), fun _ => ⟨_, rfl, h M15 F r4 e e2 (key true) (hfcb true)⟩⟩
    · have z : dv.1 ≠ 0 := fun y => z (ecode_0.mpr y)
      rw [if_neg z] at h
      exact h M4 D F e e2 hx4 hfc4
  · rw [hx.2.2.1.2.2.2.1] at c
    have hh := eB_0.mp (Classical.not_not.mp c)
    rw [if_pos ⟨hp, hr⟩, if_neg (by rw [hh]; decide)] at h
    exact h M D F e e2 hx zfc_rf
theorem als_ok {k kk : Nat} {es : List aE} {qs : List aP} (hes : ∀ e, pok k (acof es e kk)) (hqs : ∀ q ∈ qs, pok k q) {s : Bool} : ∀ {n : Nat} {f f' : aP}, pok k f → als k s kk es qs f n = some f' → pok k f'
  | 0, f, f', hf, h => by cases h; exact hf
  | n + 1, f, f', hf, h => by
    rw [als_s] at h
    split at h
    · cases h
    · rename_i f1 hf1
      refine aprod_ok (hes n).1 (asg_tok ?_) (als_ok hes hqs hf hf1) h
      by_cases hn : n < qs.length
      · rw [List.getD_eq_getElem?_getD, List.getElem?_eq_getElem hn]
        exact (hqs _ (List.getElem_mem hn)).1
      · rw [List.getD_eq_getElem?_getD, List.getElem?_eq_none (by omega)]
        exact fun t ht => absurd ht List.not_mem_nil
theorem acof_ok {k sh kk : Nat} {es : List aE} (hk : iok k sh es) (e : Nat) : pok k (acof es e kk) := by
  unfold acof
  by_cases he : e < es.length
  · rw [List.getD_eq_getElem?_getD, List.getD_eq_getElem?_getD, List.getElem?_eq_getElem he]
    show pok k ((es[e].2)[kk]?.getD [])
    by_cases hkk : kk < es[e].2.length
    · rw [List.getElem?_eq_getElem hkk]
      exact (hk _ (List.getElem_mem he)).1.2 _ (List.getElem_mem hkk)
    · rw [List.getElem?_eq_none (by omega)]
      exact pok_nil
  · rw [show es.getD e ([], []) = ([], []) by rw [List.getD_eq_getElem?_getD, List.getElem?_eq_none (by omega)]; rfl]
    exact pok_nil
theorem cX_certificate {d D F : Nat} {M : zM} {s : aX} {e e2 : Nat → Nat} {g r : Int32} {P : Int32 → zM → Prop} (hd : 10 ≤ d) (hx : xX M s D F e e2) (h : xres (A_certificate s g r) M P) : ycI d nX7_certificate [.ref 2, .int g, .int r] M P := by
  obtain ⟨d, rfl, he⟩ := dS hd
  have s15 := hx.2.1.1.1
  have hDF := hx.2.1.2.2.2.2.2.1.2.2
  unfold A_certificate at h
  have no3 : ¬ (xhs s = true ∧ xpv s = true) → P (-3) M := fun z => by
    rw [if_neg z] at h
    exact h M D F e e2 hx zfc_rf
  refine en_X7_certificate _ _ _ M (sg_X7_certificate_0 _ _ _ M ⟨s15, fun c => ⟨_, rfl, no3 fun z => ?_⟩, fun c => ⟨s15, fun c2 => ⟨s15, ?_⟩, fun c2 => ⟨_, rfl, no3 fun z => ?_⟩⟩⟩)
  · rw [hx.2.2.1.2.2.2.1, z.1] at c
    exact absurd c (by decide)
  · rw [hx.2.2.1.2.2.2.1] at c
    rw [hx.2.2.1.2.2.2.2] at c2
    have hh := eB_1.mp c
    have hpv := eB_1.mp c2
    rw [if_pos ⟨hh, hpv⟩] at h
    have no : ¬ (idx g (xgs s).length = true ∧ ipl r = true) → P (-1) M := fun z => by
      rw [if_neg z] at h
      exact h M D F e e2 hx zfc_rf
    refine sp_isGenerator (by omega) hx (fun hg => ⟨fun z => absurd z (by decide), fun _ => ?_⟩) (fun hg => ⟨fun _ => ⟨_, rfl, no fun z => by rw [hg] at z; exact absurd z.1 (by decide)⟩, fun z => absurd rfl z⟩)
    refine sp_isPlace (by omega) (fun hr => ⟨fun _ => ?_, fun z => absurd (Classical.not_not.mp z) (by decide)⟩) (fun hr => ⟨fun z => absurd rfl z, fun _ => ⟨_, rfl, no fun z => by rw [hr] at z; exact absurd z.2 (by decide)⟩⟩)
    rw [if_pos ⟨hg, hr⟩] at h
    obtain ⟨b, hb, -, rfl, cb⟩ := idx_n hg
    obtain ⟨l, hl, -, rfl, cl⟩ := idx_n (n := 40) hr
    rw [cb] at h
    have gl := hx.1.2.2.2.1.1
    have r11 := hx.2.1.2.1.2.2.2.2.2.2.2.1
    have ps11 := hx.2.1.2.2.2.2.2.2.1
    have hok := (hx.1.2.2.2.2.1 hh).1
    have h24 := (hx.1.2.2.2.2.1 hh).2
    obtain ⟨hql, hqk⟩ := hx.1.2.2.2.2.2 hh hpv
    have hs1 : ∀ a, inP 1520 a → scr D a := fun a ha => Or.inr (Or.inr (by unfold inP at ha; omega))
    have hfc1 : ∀ a, inP 1520 a → 2 ≤ a ∧ a < 1529 := fun a ha => by unfold inP at ha; omega
    refine ⟨s15, by rw [r11]; exact ps11.1, ?_⟩
    rw [r11]
    refine sp_empty (k := xk s) (by omega) ps11 fun M1 hfr1 hpd1 => ?_
    have loop : ∀ (n i : Nat) (f : aP) (M' : zM), i + n = (xes s).length → als (xk s) false b (xes s) (xqs s) [] i = some f → zfr (inP 1520) M M' → pdy M' 1520 (xk s) f → pok (xk s) f → wX7_certificate d (fun r M2 => ∃ x : Int32, r = [.int x] ∧ P x M2) 22 [some (.ref 2), some (.int (nI b)), some (.int (nI l)), some (.int (nI i))] [] M' := by
      intro n
      induction n with
      | zero =>
        intro i f M' hi hal hfr hpd hpk
        have hx' := xX_fr hfr hs1 hx
        have hS' := hx'.2.1
        have hc' := (hx'.2.2.2.2.2.1 hh).1
        rw [show i = (xes s).length by omega] at hal
        rw [hal] at h
        refine sg_X7_certificate_22 _ _ _ _ _ ⟨hS'.1.1, by rw [hS'.2.1.2.2.2.1]; exact hS'.2.2.2.2.1.1.1.1, fun _ => ⟨hS'.1.1, hS'.1.1, ?_⟩, fun z => absurd (by rw [hS'.2.1.2.2.2.1, hc'.1, show i = (xes s).length by omega]; exact Int32.le_refl _) z⟩
        rw [hS'.2.1.2.2.2.2.2.2.2.1]
        exact sp_put (by omega) hS' hl hS'.2.2.2.2.2.2.1 (by omega) hpd hpk.2.2 fun M3 hfr3 hpd3 => ⟨_, rfl, h M3 D F e e2 (xX_put hfr3 hl hpd3 hpk hx') (zfc_tr (zfc_of hfr hfc1) (zfc_of hfr3 (inP_c hl)))⟩
      | succ n ih =>
        intro i f M' hi hal hfr hpd hpk
        have hx' := xX_fr hfr hs1 hx
        have hS' := hx'.2.1
        have hI' := hS'.2.2.2.2.1.1
        have hF' := hS'.2.2.2.2.2.1.2.1
        have hc' := (hx'.2.2.2.2.2.1 hh).1
        have hil : i < (xes s).length := by omega
        have ci := cl_n (n := i) (by omega)
        have hR := hI'.2.1.2 i (by omega)
        have bi := hI'.2.2.1.1 i (by omega)
        have hcf := iel_cof (fun E hE => (hx'.2.2.2.2.2.1 hh).2 i E hE) hok hil hb
        have hqi : (xqs s)[i]? = some ((xqs s).getD i []) := by
          rw [List.getD_eq_getElem?_getD, List.getElem?_eq_getElem (by omega)]
          rfl
        have hqd := hx'.2.2.2.2.2.2.2 hh hpv i _ hqi
        have hqo := hqk _ (List.mem_of_getElem? hqi)
        have stp : als (xk s) false b (xes s) (xqs s) [] (i + 1) = aprod (xk s) (acof (xes s) i b) ((xqs s).getD i []) f := by rw [als_s, hal]; rfl
        have z24 : zin (nI i) 24 := zin_n (by omega) (by omega)
        have z25 : zin (nI i) 25 := zin_n (by omega) (by omega)
        refine sg_X7_certificate_22 _ _ _ _ _ ⟨hS'.1.1, by rw [hS'.2.1.2.2.2.1]; exact hI'.1.1, fun z => ?_, fun _ => ⟨hS'.1.1, hS'.1.1, by rw [hS'.2.1.2.2.2.2.2.2.1]; exact hF'.1, by rw [hS'.2.1.2.2.2.2.2.2.1, hF'.2.2.2.1, hF'.2.2.2.2.1], by rw [hS'.2.1.2.2.2.2.2.2.1, hF'.2.2.2.1, hF'.2.2.2.2.1]; exact z24, hS'.1.1, by rw [hS'.2.1.2.2.2.1]; exact hI'.1.1, by rw [hS'.2.1.2.2.2.1, hI'.1.2.2.1, hI'.2.1.1], by rw [hS'.2.1.2.2.2.1, hI'.1.2.2.1, hI'.2.1.1]; exact z25, by rw [hS'.2.1.2.2.2.1, hI'.1.2.2.1, ci, hR.1]; exact hR.2.1, by rw [hS'.2.1.2.2.2.1, hI'.1.2.2.1, ci, hR.1, hR.2.2.2.1, hR.2.2.2.2.1], by rw [hS'.2.1.2.2.2.1, hI'.1.2.2.1, ci, hR.1, hR.2.2.2.1, hR.2.2.2.2.1]; exact zin_n (by omega) (by omega), by rw [hS'.2.1.2.2.2.2.2.2.2.1]; exact hS'.2.2.2.2.2.2.1.1, ?_⟩⟩
        · rw [hS'.2.1.2.2.2.1, hc'.1] at z
          have := (nI_leI (by omega) (by omega)).mp z
          omega
        · rw [hS'.2.1.2.2.2.2.2.2.2.1, hS'.2.1.2.2.2.2.2.2.1, hF'.2.2.2.1, ci, hF'.2.2.2.2.2.1 i (by omega), hS'.2.1.2.2.2.1, hI'.1.2.2.1, hR.1, hR.2.2.2.1, cb, hR.2.2.2.2.2.1 b (by omega)]
          refine sp_addProduct (by omega) hS'.2.2.2.2.2.2.1 (hF'.2.2.2.2.2.2.2.2 i (by omega)) (hR.2.2.2.2.2.2.2 b (by omega)) (by omega) (by omega) (by unfold inP; omega) (xX_ost hx') hpd hqd hcf.1 hpk hqo hcf.2 (fun f' M2 hf' hfr2 hpd2 => ?_) (fun M2 hn hfr2 => ?_)
          · rw [hf'] at stp
            refine ⟨fun _ => ?_, fun z => absurd (Classical.not_not.mp z) (by decide)⟩
            intro v3
            rw [show v3 = nI (i + 1) from nI_1 i]
            exact ih (i + 1) f' M2 (by omega) stp (zfr_tr hfr hfr2) hpd2 (aprod_ok hcf.2.1 hqo.1 hpk hf')
          · rw [hn] at stp
            rw [als_none stp (by omega)] at h
            exact ⟨fun z => absurd rfl z, fun _ => ⟨_, rfl, h M2 D F e e2 (xX_fr (zfr_tr hfr hfr2) hs1 hx) (zfc_of (zfr_tr hfr hfr2) hfc1)⟩⟩
    exact loop (xes s).length 0 [] M1 (by omega) rfl hfr1 hpd1 pok_nil
  · rw [hx.2.2.1.2.2.2.2, z.2] at c2
    exact c2 (by decide)
