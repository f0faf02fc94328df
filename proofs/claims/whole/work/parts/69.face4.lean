/-! calls of the class: bases -/
theorem eB_1 {b : Bool} : ¬ eB b = 0 ↔ b = true := by cases b <;> decide
theorem eB_0 {b : Bool} : eB b = 0 ↔ b = false := by cases b <;> decide
theorem ist_fo {S : Nat → Prop} {R : Nat} {M M' : zM} {H o w : Nat} {eid : Nat → Nat} (h : zfq S R M M') (hR : ¬ inI H w R) (hi : ist M H o w eid) : ist M' H o w eid := by
  obtain ⟨⟨h1, h2, h3, h4, h5⟩, h6, h7, h8⟩ := hi
  have hn : ∀ a, inI H w a → a ≠ R := fun a ha e => hR (e ▸ ha)
  refine ⟨⟨by rw [h.1]; exact h1, by rw [h.2.2.2.1 _ _ (hn _ (by unfold inI; omega))]; exact h2, by rw [h.2.2.2.1 _ _ (hn _ (by unfold inI; omega))]; exact h3, by rw [h.2.2.2.1 _ _ (hn _ (by unfold inI; omega))]; exact h4, by rw [h.1]; exact h5⟩, ⟨by rw [h.1]; exact h6.1, fun i hi => ⟨by rw [h.2.2.2.1 _ _ (hn _ (by unfold inI; omega))]; exact (h6.2 i hi).1, est_fq h (fun z => hR ?_) (h6.2 i hi).2⟩⟩, h7, h8⟩
  have := h7.1 i hi
  unfold inE at z
  unfold inI
  omega
theorem xS_fq {S : Nat → Prop} {R : Nat} {M M' : zM} {D F : Nat} {e e2 e' e2' : Nat → Nat} (hR : R = 203 ∨ R = 1156) (h : zfq S R M M') (hx : xS M D F e e2) (g1 : ist M' 202 3 8 e') (g2 : ist M' 1155 3 0 e2') : xS M' D F e' e2' := by
  obtain ⟨⟨h1, h1'⟩, ⟨r1, r2, r3, r5, r7, r8, r9, r11, r12, r13⟩, h3, h4, ⟨h5, h5'⟩, ⟨h6, h6', h6''⟩, h7, h8, h9⟩ := hx
  have R2 : ∀ j, zR M' 2 j = zR M 2 j := fun j => h.2.2.2.1 2 j (by omega)
  exact ⟨⟨by rw [h.1]; exact h1, by rw [h.1]; exact h1'⟩, ⟨by rw [R2]; exact r1, by rw [R2]; exact r2, by rw [R2]; exact r3, by rw [R2]; exact r5, by rw [R2]; exact r7, by rw [R2]; exact r8, by rw [R2]; exact r9, by rw [R2]; exact r11, by rw [R2]; exact r12, by rw [R2]; exact r13⟩, ⟨by rw [h.1]; exact h3.1, fun i hi => ⟨by rw [h.2.2.2.1 _ _ (by omega)]; exact (h3.2 i hi).1, pst_fq h (by omega) (h3.2 i hi).2⟩⟩, gst_fq h (by omega) h4, ⟨g1, g2⟩, ⟨dst_fq h (by unfold inD; omega) h6, dst_fq h (by unfold inD; omega) h6', h6''⟩, pst_fq h (by omega) h7, pst_fq h (by omega) h8, by rw [h.1]; exact h9⟩
theorem xX_fq {S : Nat → Prop} {M M' : zM} {s : aX} {D F : Nat} {e e2 e2' : Nat → Nat} (h : zfq S 1156 M M') (hs : ∀ a, S a → scr D a ∨ (166 + 4 * (xgs s).length ≤ a ∧ a < 202)) (g2 : ist M' 1155 3 0 e2') (hx : xX M s D F e e2) : xX M' s D F e e2' := by
  obtain ⟨ok, hS, ⟨n1, n2, n3, n4, n5⟩, hP, hG, hE, ⟨d1, d2, d3, d4⟩, hQ⟩ := hx
  have hD := hS.2.2.2.2.2.1.2.2
  have gl := ok.2.2.2.1.1
  have ns : ∀ a, ¬ (scr D a ∨ (166 + 4 * (xgs s).length ≤ a ∧ a < 202)) → ¬ S a := fun a ha z => ha (hs a z)
  have f2 := h.2.2.2.2 2 (ns 2 (by unfold scr inD inI; omega))
  have f3 := h.2.2.2.2 3 (ns 3 (by unfold scr inD inI; omega))
  have f202 := h.2.2.2.2 202 (ns 202 (by unfold scr inD inI; omega))
  refine ⟨ok, xS_fq (Or.inr rfl) h hS (ist_fo h (by unfold inI; omega) hS.2.2.2.2.1.1) g2, ⟨by rw [f3.1]; exact n1, by rw [f2.1]; exact n2, by rw [f2.1]; exact n3, by rw [f2.1]; exact n4, by rw [f2.1]; exact n5⟩, fun i L hi => pdy_fq h (fun a ha => ns a ?_) (hP i L hi), fun i L hi => pdy_fq h (fun a ha => ns a ?_) (hG i L hi), fun hh => ⟨?_, fun i E hi => edy_fq (w := 8) h ?_ (fun a ha => ns a ?_) ((hE hh).2 i E hi)⟩, ⟨by rw [f202.1]; exact d1, by rw [f202.1]; exact d2, by rw [f202.1]; exact d3, by rw [f202.1]; exact d4⟩, fun hh hp i q hi => pdy_fq h (fun a ha => ns a ?_) (hQ hh hp i q hi)⟩
  · have := (List.getElem?_eq_some_iff.mp hi).1
    rw [ok.2.2.1.1] at this
    unfold inP at ha
    unfold scr inD inI
    omega
  · have := (List.getElem?_eq_some_iff.mp hi).1
    unfold inP at ha
    unfold scr inD inI
    omega
  · obtain ⟨i1, i2, i3⟩ := (hE hh).1
    exact ⟨by rw [f202.1]; exact i1, by rw [f202.1]; exact i2, i3⟩
  · rw [((ok.2.2.2.2.1 hh).1 E (List.mem_of_getElem? hi)).2.2]; exact gl
  · have hil := (List.getElem?_eq_some_iff.mp hi).1
    have hl := (ok.2.2.2.2.1 hh).2
    have := hS.2.2.2.2.1.1.2.2.1.1 i (by omega)
    unfold inE at ha
    unfold scr inD inI
    omega
  · have := (List.getElem?_eq_some_iff.mp hi).1
    have := (ok.2.2.2.2.2 hh hp).1
    have := (ok.2.2.2.2.1 hh).2
    unfold inP at ha
    unfold scr inD inI
    omega
theorem xX_gdy {M : zM} {s : aX} {D F : Nat} {e e2 : Nat → Nat} (hx : xX M s D F e e2) : gdy M 165 (xk s) (xgs s) := fun g L hg => by
  refine ⟨?_, hx.1.2.2.2.1.2 L (List.mem_of_getElem? hg)⟩
  rw [show 165 + 1 + 4 * g = 166 + 4 * g by omega]
  exact hx.2.2.2.2.1 g L hg
theorem sp_isElement {d D F : Nat} {M : zM} {s : aX} {e e2 : Nat → Nat} {i : Int32} {P : Int32 → zM → Prop} (hd : 1 ≤ d) (hx : xX M s D F e e2) (hh : xhs s = true) (h1 : idx i (xes s).length = true → P 1 M) (h0 : idx i (xes s).length = false → P 0 M) : ycI d nX7_isElement [.ref 2, .int i] M P := by
  obtain ⟨d, rfl, he⟩ := dS hd
  have r5 := hx.2.1.2.1.2.2.2.1
  have hc := (hx.2.2.2.2.2.1 hh).1
  have hl := hc.2.2
  refine en_X7_isElement _ _ M (sg_X7_isElement_0 _ _ M ⟨fun c => ⟨Or.inl rfl, _, rfl, h0 (idx_ge (by omega) (Or.inl c))⟩, fun c => ⟨hx.2.1.1.1, by rw [r5]; exact hx.2.1.2.2.2.2.1.1.1.1, ?_⟩⟩)
  rw [r5, hc.1]
  exact ⟨fun c2 => ⟨Or.inl rfl, _, rfl, h0 (idx_ge (by omega) (Or.inr c2))⟩, fun c2 => ⟨Or.inr rfl, _, rfl, h1 (idx_lt (by omega) c c2)⟩⟩
theorem sp_isGenerator {d D F : Nat} {M : zM} {s : aX} {e e2 : Nat → Nat} {i : Int32} {P : Int32 → zM → Prop} (hd : 1 ≤ d) (hx : xX M s D F e e2) (h1 : idx i (xgs s).length = true → P 1 M) (h0 : idx i (xgs s).length = false → P 0 M) : ycI d nX7_isGenerator [.ref 2, .int i] M P := by
  obtain ⟨d, rfl, he⟩ := dS hd
  have hl := hx.1.2.2.2.1.1
  refine en_X7_isGenerator _ _ M (sg_X7_isGenerator_0 _ _ M ⟨fun c => ⟨Or.inl rfl, _, rfl, h0 (idx_ge (by omega) (Or.inl c))⟩, fun c => ⟨hx.2.1.1.1, ?_⟩⟩)
  rw [hx.2.2.1.2.2.1]
  exact ⟨fun c2 => ⟨Or.inl rfl, _, rfl, h0 (idx_ge (by omega) (Or.inr c2))⟩, fun c2 => ⟨Or.inr rfl, _, rfl, h1 (idx_lt (by omega) c c2)⟩⟩
theorem cX_element {d D F : Nat} {M : zM} {s : aX} {e e2 : Nat → Nat} {i r : Int32} {P : Int32 → zM → Prop} (hd : 10 ≤ d) (hx : xX M s D F e e2) (h : xres (A_element s i r) M P) : ycI d nX7_element [.ref 2, .int i, .int r] M P := by
  obtain ⟨d, rfl, he⟩ := dS hd
  have s15 := hx.2.1.1.1
  have r5 := hx.2.1.2.1.2.2.2.1
  have hI := hx.2.1.2.2.2.2.1.1
  unfold A_element at h
  refine en_X7_element _ _ _ M (sg_X7_element_0 _ _ _ M ⟨s15, fun c => ⟨s15, ?_⟩, fun c => ⟨_, rfl, ?_⟩⟩)
  · rw [hx.2.2.1.2.2.2.1] at c
    have hh := eB_1.mp c
    rw [if_pos hh] at h
    have no : ¬ (idx i (xes s).length = true ∧ ipl r = true) → P (-1) M := fun z => by
      rw [if_neg z] at h
      exact h M D F e e2 hx zfc_rf
    refine sp_isElement (by omega) hx hh (fun hi => ⟨fun z => absurd z (by decide), fun _ => ?_⟩) (fun hi => ⟨fun _ => ⟨_, rfl, no fun z => by rw [hi] at z; exact absurd z.1 (by decide)⟩, fun z => absurd rfl z⟩)
    refine sp_isPlace (by omega) (fun hr => ⟨fun _ => ?_, fun z => absurd (Classical.not_not.mp z) (by decide)⟩) (fun hr => ⟨fun z => absurd rfl z, fun _ => ⟨_, rfl, no fun z => by rw [hr] at z; exact absurd z.2 (by decide)⟩⟩)
    rw [if_pos ⟨hi, hr⟩] at h
    obtain ⟨a, ha, -, rfl, ca⟩ := idx_n hi
    obtain ⟨l, hl, -, rfl, cl⟩ := idx_n (n := 40) hr
    have h24 := (hx.1.2.2.2.2.1 hh).2
    have hok := (hx.1.2.2.2.2.1 hh).1
    have hR := hI.2.1.2 a (by omega)
    have hb := iel_body (fun E hE => (hx.2.2.2.2.2.1 hh).2 a E hE) hok ha
    have ba := hI.2.2.1.1 a (by omega)
    have ex : xel s (nI a) = (xes s).getD a aE0 := by unfold xel; rw [ca]
    rw [ex] at h
    refine ⟨s15, by rw [r5]; exact hI.1.1, by rw [r5, hI.1.2.2.1, hI.2.1.1], by rw [r5, hI.1.2.2.1, hI.2.1.1]; exact zin_n (by omega) (by omega), by rw [r5, hI.1.2.2.1, ca, hR.1]; exact hR.2.1, s15, ?_⟩
    rw [r5, hI.1.2.2.1, ca, hR.1, hR.2.2.1]
    exact sp_put (by omega) hx.2.1 hl hR.2.2.2.2.2.2.1 (by omega) hb.1 hb.2.1.2.2 fun M1 hfr hpd => ⟨_, rfl, h M1 D F e e2 (xX_put hfr hl hpd hb.2.1 hx) (zfc_of hfr (inP_c hl))⟩
  · rw [hx.2.2.1.2.2.2.1] at c
    have hh := eB_0.mp (Classical.not_not.mp c)
    rw [if_neg (by rw [hh]; decide)] at h
    exact h M D F e e2 hx zfc_rf
theorem cX_share {d D F : Nat} {M : zM} {s : aX} {e e2 : Nat → Nat} {i g r : Int32} {P : Int32 → zM → Prop} (hd : 10 ≤ d) (hx : xX M s D F e e2) (h : xres (A_share s i g r) M P) : ycI d nX7_share [.ref 2, .int i, .int g, .int r] M P := by
  obtain ⟨d, rfl, he⟩ := dS hd
  have s15 := hx.2.1.1.1
  have r5 := hx.2.1.2.1.2.2.2.1
  have hI := hx.2.1.2.2.2.2.1.1
  unfold A_share at h
  refine en_X7_share _ _ _ _ M (sg_X7_share_0 _ _ _ _ M ⟨s15, fun c => ⟨s15, ?_⟩, fun c => ⟨_, rfl, ?_⟩⟩)
  · rw [hx.2.2.1.2.2.2.1] at c
    have hh := eB_1.mp c
    rw [if_pos hh] at h
    have no : ¬ (idx i (xes s).length = true ∧ idx g (xgs s).length = true ∧ ipl r = true) → P (-1) M := fun z => by
      rw [if_neg z] at h
      exact h M D F e e2 hx zfc_rf
    refine sp_isElement (by omega) hx hh (fun hi => ⟨fun z => absurd z (by decide), fun _ => ⟨s15, ?_⟩⟩) (fun hi => ⟨fun _ => ⟨_, rfl, no fun z => by rw [hi] at z; exact absurd z.1 (by decide)⟩, fun z => absurd rfl z⟩)
    refine sp_isGenerator (by omega) hx (fun hg => ⟨fun z => absurd z (by decide), fun _ => ?_⟩) (fun hg => ⟨fun _ => ⟨_, rfl, no fun z => by rw [hg] at z; exact absurd z.2.1 (by decide)⟩, fun z => absurd rfl z⟩)
    refine sp_isPlace (by omega) (fun hr => ⟨fun _ => ?_, fun z => absurd (Classical.not_not.mp z) (by decide)⟩) (fun hr => ⟨fun z => absurd rfl z, fun _ => ⟨_, rfl, no fun z => by rw [hr] at z; exact absurd z.2.2 (by decide)⟩⟩)
    rw [if_pos ⟨hi, hg, hr⟩] at h
    obtain ⟨a, ha, -, rfl, ca⟩ := idx_n hi
    obtain ⟨b, hb, -, rfl, cb⟩ := idx_n hg
    obtain ⟨l, hl, -, rfl, cl⟩ := idx_n (n := 40) hr
    have h24 := (hx.1.2.2.2.2.1 hh).2
    have hok := (hx.1.2.2.2.2.1 hh).1
    have gl := hx.1.2.2.2.1.1
    have hR := hI.2.1.2 a (by omega)
    have hcf := iel_cof (fun E hE => (hx.2.2.2.2.2.1 hh).2 a E hE) hok ha hb
    have ba := hI.2.2.1.1 a (by omega)
    have ex : (xel s (nI a)).2.getD (nI b).toNatClampNeg [] = acof (xes s) a b := by unfold xel acof; rw [ca, cb]; rfl
    rw [ex] at h
    refine ⟨s15, by rw [r5]; exact hI.1.1, by rw [r5, hI.1.2.2.1, hI.2.1.1], by rw [r5, hI.1.2.2.1, hI.2.1.1]; exact zin_n (by omega) (by omega), by rw [r5, hI.1.2.2.1, ca, hR.1]; exact hR.2.1, by rw [r5, hI.1.2.2.1, ca, hR.1, hR.2.2.2.1, hR.2.2.2.2.1], by rw [r5, hI.1.2.2.1, ca, hR.1, hR.2.2.2.1, hR.2.2.2.2.1]; exact zin_n (by omega) (by omega), s15, ?_⟩
    rw [r5, hI.1.2.2.1, ca, hR.1, hR.2.2.2.1, cb, hR.2.2.2.2.2.1 b (by omega)]
    exact sp_put (by omega) hx.2.1 hl (hR.2.2.2.2.2.2.2 b (by omega)) (by omega) hcf.1 hcf.2.2.2 fun M1 hfr hpd => ⟨_, rfl, h M1 D F e e2 (xX_put hfr hl hpd hcf.2 hx) (zfc_of hfr (inP_c hl))⟩
  · rw [hx.2.2.1.2.2.2.1] at c
    have hh := eB_0.mp (Classical.not_not.mp c)
    rw [if_neg (by rw [hh]; decide)] at h
    exact h M D F e e2 hx zfc_rf
theorem lim_ok {l : Int32} (c0 : ¬ l < 0) (c1 : l ≤ 20000) : idx l 20001 = true := idx_lt (by omega) c0 fun z => by
  have z1 := Int32.le_iff_toInt_le.mp z
  have z2 := Int32.le_iff_toInt_le.mp c1
  rw [show (nI 20001).toInt = 20001 by decide] at z1
  rw [show (20000 : Int32).toInt = 20000 by decide] at z2
  omega
theorem lim_no {l : Int32} (c1 : ¬ l ≤ 20000) : idx l 20001 = false := idx_ge (by omega) (Or.inr (by
  have c1 := Int32.lt_iff_toInt_lt.mp (Int32.not_le.mp c1)
  rw [show (20000 : Int32).toInt = 20000 by decide] at c1
  exact Int32.le_iff_toInt_le.mpr (by rw [show (nI 20001).toInt = 20001 by decide]; omega)))
theorem cX_basis {d D F : Nat} {M : zM} {s : aX} {e e2 : Nat → Nat} {l : Int32} {P : Int32 → zM → Prop} (hd : 10 ≤ d) (hx : xX M s D F e e2) (h : xres (A_basis s l) M P) : ycI d nX7_basis [.ref 2, .int l] M P := by
  obtain ⟨d, rfl, he⟩ := dS hd
  have s15 := hx.2.1.1.1
  unfold A_basis at h
  have no : idx l 20001 = false → P (-2) M := fun z => by
    rw [if_neg (by rw [z]; decide)] at h
    exact h M D F e e2 hx zfc_rf
  refine en_X7_basis _ _ M (sg_X7_basis_0 _ _ M ⟨fun c => ⟨_, rfl, no (idx_ge (by omega) (Or.inl c))⟩, fun c0 => ⟨fun c1 => ⟨s15, ?_⟩, fun c1 => ⟨_, rfl, no (lim_no c1)⟩⟩⟩)
  have hid := lim_ok c0 c1
  rw [if_pos hid] at h
  obtain ⟨lim, hlim, -, rfl, cl⟩ := idx_n hid
  rw [cl] at h
  refine sp_forget (by omega) hx.2.1 fun M1 hfr1 h16 h110 h1o => ?_
  have hS1 := xS_fr hfr1 hx.2.1
  have gl := hx.1.2.2.2.1
  have hDF := hx.2.1.2.2.2.2.2.1.2.2
  have hg1 : gdy M1 165 (xk s) (xgs s) := gdy_fr hfr1 (by omega) (fun a a1 a2 => by omega) (xX_gdy hx)
  have ho1 : ost M1 3 (xk s) := ost_fr hfr1 (by omega) (xX_ost hx)
  have n4 : zI M1 2 4 = nI (xgs s).length := by rw [h1o 4 (by omega) (by omega)]; exact hx.2.2.1.2.2.1
  have q15 := hS1.1.1
  refine ⟨q15, q15, q15, q15, q15, by rw [hS1.2.1.2.2.2.1]; exact hS1.2.2.2.2.1.1.1.1, ?_⟩
  rw [hS1.2.1.2.2.2.1, hS1.2.1.2.2.1, hS1.2.1.2.2.2.2.2.1, n4]
  refine sp_build (by omega) hS1.2.2.2.2.1.1 hS1.2.2.2.2.2.1.1 ho1 gl.1 (by omega) (by omega) (by omega) (by omega) hS1.2.2.2.1 hg1 (by omega) (by omega) fun x hxx e' M2 hfr2 hI2 d3 d4 d5 d6 hok2 => ?_
  rw [hxx] at h
  have hS2 := xS_fq (Or.inl rfl) hfr2 hS1 hI2 (ist_fo hfr2 (by unfold inI; omega) hS1.2.2.2.2.1.2)
  have f2 : ∀ j, zI M2 2 j = zI M1 2 j := (hfr2.2.2.2.2 2 (by unfold inI inD; omega)).1
  have f3 : ∀ j, zI M2 3 j = zI M 3 j := fun j => by rw [(hfr2.2.2.2.2 3 (by unfold inI inD; omega)).1, (hfr1.2.2.2.2 3 (by omega)).1]
  have hfc : zfc M M2 := zfc_tr (zfc_of hfr1 fun a ha => by omega) (zfc_ofq hfr2 (by omega) fun a ha => by unfold inI inD at ha; omega)
  have hP2 : xP M2 s := fun i L hi => by
    have := (List.getElem?_eq_some_iff.mp hi).1
    rw [hx.1.2.2.1.1] at this
    exact pdy_fq hfr2 (fun a ha => by unfold inP at ha; unfold inI inD; omega) (pdy_fr hfr1 (fun a ha => by unfold inP at ha; omega) (hx.2.2.2.1 i L hi))
  have hG2 : xG M2 s := fun i L hi => by
    have := (List.getElem?_eq_some_iff.mp hi).1
    exact pdy_fq hfr2 (fun a ha => by unfold inP at ha; unfold inI inD; omega) (pdy_fr hfr1 (fun a ha => by unfold inP at ha; omega) (hx.2.2.2.2.1 i L hi))
  refine ⟨fun z => ?_, fun z => ⟨_, rfl, ?_⟩⟩
  · have z := ecode_0.mp z
    rw [if_pos z] at h
    obtain ⟨y1, y2, y3⟩ := hok2 z
    refine ⟨hS2.1.1, Or.inr rfl, ?_⟩
    intro M4
    have hfr4 : zfr (fun a => a = 2) M2 M4 := zfr_uI rfl
    have hS4 := xS_fr hfr4 hS2
    have f4 : ∀ j, j ≠ 6 → zI M4 2 j = zI M1 2 j := fun j hj => by rw [show M4 = zuI M2 2 6 1 from rfl, zI_uI, if_neg (by omega), f2]
    have f202 : ∀ j, zI M4 202 j = zI M2 202 j := (hfr4.2.2.2.2 202 (by omega)).1
    refine ⟨hS2.1.1, by rw [hS2.2.1.2.2.2.1]; exact hI2.1.1, _, rfl, ?_⟩
    rw [hS2.2.1.2.2.2.1, f202, y1.1]
    refine h M4 D F e' e2 ⟨⟨hx.1.1, hx.1.2.1, hx.1.2.2.1, gl, fun _ => ⟨y3, y1.2.2⟩, fun _ z => (by cases z)⟩, hS4, ⟨?_, ?_, ?_, ?_, ?_⟩, fun i L hi => ?_, fun i L hi => ?_, fun _ => ⟨icn_fr hfr4 (by omega) y1, fun i E hi => ?_⟩, ⟨by rw [f202]; exact d3, by rw [f202]; exact d4, by rw [f202]; exact d5, by rw [f202]; exact d6⟩, fun _ z => (by cases z)⟩ (zfc_tr hfc (zfc_of hfr4 fun a ha => by omega))
    · rw [(hfr4.2.2.2.2 3 (by omega)).1, f3]; exact hx.2.2.1.1
    · rw [f4 0 (by omega), h1o 0 (by omega) (by omega)]; exact hx.2.2.1.2.1
    · rw [f4 4 (by omega)]; exact n4
    · rw [show M4 = zuI M2 2 6 1 from rfl, zI_uI, if_pos ⟨rfl, rfl⟩]; rfl
    · rw [f4 10 (by omega)]; exact h110
    · exact pdy_fr hfr4 (fun a ha => by unfold inP at ha; omega) (hP2 i L hi)
    · exact pdy_fr hfr4 (fun a ha => by unfold inP at ha; omega) (hG2 i L hi)
    · have hil := (List.getElem?_eq_some_iff.mp hi).1
      have hil : i < x.2.1.length := hil
      have y24 := y1.2.2
      have hap := hI2.2.2.1.1 i (by omega)
      exact edy_fr (w := 8) hfr4 (by rw [(y3 E (List.mem_of_getElem? hi)).2.2]; exact gl.1) (fun a ha => by unfold inE at ha; omega) (y2 i E hi)
  · have z : x.1 ≠ 0 := fun y => z (ecode_0.mpr y)
    rw [if_neg z] at h
    refine h M2 D F e' e2 ⟨⟨hx.1.1, hx.1.2.1, hx.1.2.2.1, gl, fun z => (by cases z), fun z => (by cases z)⟩, hS2, ⟨?_, ?_, ?_, ?_, ?_⟩, hP2, hG2, fun z => (by cases z), ⟨d3, d4, d5, d6⟩, fun z => (by cases z)⟩ hfc
    · rw [f3]; exact hx.2.2.1.1
    · rw [f2, h1o 0 (by omega) (by omega)]; exact hx.2.2.1.2.1
    · rw [f2]; exact n4
    · rw [f2]; exact h16
    · rw [f2]; exact h110
theorem cX_stairs {d D F : Nat} {M : zM} {s : aX} {e e2 : Nat → Nat} {P : Int32 → zM → Prop} (hd : 10 ≤ d) (hx : xX M s D F e e2) (h : xres (A_stairs s) M P) : ycI d nX7_stairs [.ref 2] M P := by
  obtain ⟨d, rfl, he⟩ := dS hd
  have s15 := hx.2.1.1.1
  have r5 := hx.2.1.2.1.2.2.2.1
  have hI := hx.2.1.2.2.2.2.1.1
  unfold A_stairs at h
  refine en_X7_stairs _ M (sg_X7_stairs_0 _ M ⟨s15, fun c => ⟨_, rfl, ?_⟩, fun c => ⟨s15, s15, by rw [r5]; exact hI.1.1, ?_⟩⟩)
  · rw [hx.2.2.1.2.2.2.1] at c
    have hh := eB_0.mp c
    rw [if_neg (by rw [hh]; decide)] at h
    exact h M D F e e2 hx zfc_rf
  · rw [hx.2.2.1.2.2.2.1] at c
    have hh := eB_1.mp c
    rw [if_pos hh] at h
    rw [r5, hx.2.2.1.2.1]
    exact sp_countBelow (by omega) hI (hx.2.2.2.2.2.1 hh).1 (hx.2.2.2.2.2.1 hh).2 (hx.1.2.2.2.2.1 hh).1 hx.1.1.2 ⟨_, rfl, h M D F e e2 hx zfc_rf⟩
theorem afr_iff {n : Nat} {L : aP} : afr n L = true ↔ ∀ t ∈ L, ∀ v, v < n → aex t.2 v = 0 := by
  unfold afr
  rw [List.all_eq_true]
  constructor
  · intro h t ht v hv
    have := h t ht
    rw [List.all_eq_true] at this
    exact eq_of_beq (this v (List.mem_range.mpr hv))
  · intro h t ht
    rw [List.all_eq_true]
    intro v hv
    exact beq_iff_eq.mpr (h t ht v (List.mem_range.mp hv))
theorem cX_free {d D F : Nat} {M : zM} {s : aX} {e e2 : Nat → Nat} {g : Int32} {P : Int32 → zM → Prop} (hd : 10 ≤ d) (hx : xX M s D F e e2) (h : xres (A_free s g) M P) : ycI d nX7_free [.ref 2, .int g] M P := by
  obtain ⟨d, rfl, he⟩ := dS hd
  have s15 := hx.2.1.1.1
  have r5 := hx.2.1.2.1.2.2.2.1
  have hI := hx.2.1.2.2.2.2.1.1
  have n0 := hx.2.2.1.2.1
  have hnv := hx.1.1
  unfold A_free at h
  have no : idx g (xn s + 1) = false → P (-2) M := fun z => by
    rw [if_neg (by rw [z]; decide)] at h
    exact h M D F e e2 hx zfc_rf
  refine en_X7_free _ _ M (sg_X7_free_0 _ _ M ⟨fun c => ⟨_, rfl, no (idx_ge (by omega) (Or.inl c))⟩, fun c0 => ⟨s15, fun c1 => ⟨s15, fun c => ?_, fun c => ⟨_, rfl, ?_⟩⟩, fun c1 => ⟨_, rfl, no ?_⟩⟩⟩)
  · rw [n0] at c1
    rw [hx.2.2.1.2.2.2.1] at c
    have hh := eB_1.mp c
    have hid : idx g (xn s + 1) = true := by
      obtain ⟨j, hj, rfl⟩ := nI_of c0
      have := (nI_leI hj (by omega)).mp c1
      exact decide_eq_true ⟨by rw [nI_toInt hj]; omega, by rw [nI_toInt hj]; omega⟩
    rw [if_pos hid, if_pos hh] at h
    obtain ⟨n, hn, -, rfl, cn⟩ := idx_n hid
    rw [cn] at h
    have hc := (hx.2.2.2.2.2.1 hh).1
    have hE := (hx.2.2.2.2.2.1 hh).2
    have hok := (hx.1.2.2.2.2.1 hh).1
    have hl := hc.2.2
    have loop : ∀ (m i : Nat), i + m = (xes s).length → wX7_free d (fun r M2 => ∃ x : Int32, r = [.int x] ∧ P x M2) 17 [some (.ref 2), some (.int (nI n)), some (.int (nI (afrs n (xes s) i))), some (.int (nI i))] [] M := by
      intro m
      induction m with
      | zero =>
        intro i hi
        refine sg_X7_free_17 _ _ _ _ _ ⟨s15, by rw [r5]; exact hI.1.1, fun _ => ⟨_, rfl, ?_⟩, fun z => absurd (by rw [r5, hc.1, show i = (xes s).length by omega]; exact Int32.le_refl _) z⟩
        rw [show i = (xes s).length by omega]
        exact h M D F e e2 hx zfc_rf
      | succ m ih =>
        intro i hi
        have ci := cl_n (n := i) (by omega)
        have hR := hI.2.1.2 i (by omega)
        have hb := iel_body (fun E hz => hE i E hz) hok (show i < (xes s).length by omega)
        have stp : afrs n (xes s) (i + 1) = if afr n ((xes s).getD i aE0).1 = true then afrs n (xes s) i + 1 else afrs n (xes s) i := rfl
        refine sg_X7_free_17 _ _ _ _ _ ⟨s15, by rw [r5]; exact hI.1.1, fun z => ?_, fun _ => ⟨s15, by rw [r5]; exact hI.1.1, by rw [r5, hI.1.2.2.1, hI.2.1.1], by rw [r5, hI.1.2.2.1, hI.2.1.1]; exact zin_n (by omega) (by omega), by rw [r5, hI.1.2.2.1, ci, hR.1]; exact hR.2.1, by rw [r5, hI.1.2.2.1, ci, hR.1, hR.2.2.1]; exact hR.2.2.2.2.2.2.1.1, ?_⟩⟩
        · rw [r5, hc.1] at z
          have := (nI_leI (by omega) (by omega)).mp z
          omega
        · rw [r5, hI.1.2.2.1, ci, hR.1, hR.2.2.1]
          refine sp_isWithout (by omega) hR.2.2.2.2.2.2.1 hb.1 hb.2.1 (by omega) (fun hf => ⟨fun z => absurd z (by decide), fun _ => ?_⟩) (fun hf => ⟨fun _ => ?_, fun z => absurd rfl z⟩)
          · rw [if_pos (afr_iff.mpr hf)] at stp
            intro v2 v3
            rw [show v2 = nI (afrs n (xes s) (i + 1)) by rw [stp]; exact nI_1 _, show v3 = nI (i + 1) from nI_1 i]
            exact ih (i + 1) (by omega)
          · rw [if_neg (fun z => hf (afr_iff.mp z))] at stp
            intro v3
            rw [show v3 = nI (i + 1) from nI_1 i, ← stp]
            exact ih (i + 1) (by omega)
    exact loop (xes s).length 0 (by omega)
  · rw [n0] at c1
    rw [hx.2.2.1.2.2.2.1] at c
    have hh := eB_0.mp (Classical.not_not.mp c)
    have hid : idx g (xn s + 1) = true := by
      obtain ⟨j, hj, rfl⟩ := nI_of c0
      have := (nI_leI hj (by omega)).mp c1
      exact decide_eq_true ⟨by rw [nI_toInt hj]; omega, by rw [nI_toInt hj]; omega⟩
    rw [if_pos hid, if_neg (by rw [hh]; decide)] at h
    exact h M D F e e2 hx zfc_rf
  · rw [n0] at c1
    obtain ⟨j, hj, rfl⟩ := nI_of c0
    have : ¬ j ≤ xn s := fun z => c1 ((nI_leI hj (by omega)).mpr z)
    exact decide_eq_false fun z => by
      rw [nI_toInt hj] at z
      omega
