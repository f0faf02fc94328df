/-! THE REFERENCE'S CALLS: how its memory holds a state -/
def rgd (s : aX) : Prop := (1 ≤ xn s ∧ xn s ≤ 4) ∧ xk s ≤ 2 ∧ ((xpl s).length = 40 ∧ ∀ L ∈ xpl s, pgd (xn s) (xk s) L) ∧ ((xgs s).length ≤ 8 ∧ ∀ L ∈ xgs s, pgd (xn s) (xk s) L) ∧ (xhs s = true → egd (xn s) (xk s) (xgs s).length (xes s) ∧ (xes s).length ≤ 24 ∧ ndv (xes s)) ∧ (xhs s = true → xpv s = true → (xqs s).length = (xes s).length ∧ ∀ q ∈ xqs s, pgd (xn s) (xk s) q)
def rX (M : zM) (s : aX) : Prop := (mst M ∧ rgd s) ∧ (zI M 1529 0 = nI (xn s) ∧ mvk M (xn s) (xk s) ∧ zI M 1529 7 = nI (xgs s).length ∧ zI M 1529 9 = eB (xhs s) ∧ (xhs s = true → zI M 1529 8 = nI (xes s).length ∧ zI M 1529 10 = eB (xpv s))) ∧ (∀ (i : Nat) (L : aP), (xpl s)[i]? = some L → qdy M i L) ∧ (∀ (i : Nat) (L : aP), (xgs s)[i]? = some L → qdy M (40 + i) L) ∧ (xhs s = true → rel M 50 (xgs s).length (xes s)) ∧ (zI M 1534 0 = nI (xdn s).1 ∧ zI M 1534 1 = nI (xdn s).2.1 ∧ zI M 1534 2 = nI (xdn s).2.2.1 ∧ zI M 1534 3 = nI (xdn s).2.2.2) ∧ (xhs s = true → xpv s = true → ∀ i, i < 25 → qdy M (125 + i) ((xqs s).getD i []))
def zfm (M M' : zM) : Prop := (∀ a, zsh M' a = zsh M a) ∧ zn M' = zn M ∧ zs M' = zs M ∧ (∀ a j, zR M' a j = zR M a j) ∧ (∀ a j, zL M' a j = zL M a j) ∧ ∀ a j, a < 1529 → zI M' a j = zI M a j
theorem zfm_rf {M : zM} : zfm M M := ⟨fun _ => rfl, rfl, rfl, fun _ _ => rfl, fun _ _ => rfl, fun _ _ _ => rfl⟩
theorem zfm_tr {M1 M2 M3 : zM} (h1 : zfm M1 M2) (h2 : zfm M2 M3) : zfm M1 M3 := ⟨fun a => (h2.1 a).trans (h1.1 a), h2.2.1.trans h1.2.1, h2.2.2.1.trans h1.2.2.1, fun a j => (h2.2.2.2.1 a j).trans (h1.2.2.2.1 a j), fun a j => (h2.2.2.2.2.1 a j).trans (h1.2.2.2.2.1 a j), fun a j ha => (h2.2.2.2.2.2 a j ha).trans (h1.2.2.2.2.2 a j ha)⟩
theorem zfm_of {T F G : Nat → Prop} {M M' : zM} (h : rfr T F G M M') : zfm M M' := ⟨h.1, h.2.1, h.2.2.1, h.2.2.2.1, h.2.2.2.2.1, fun a j ha => h.2.2.2.2.2.1 a j (Or.inl ha)⟩
def rres (x : Int32 × aX) (M : zM) (P : Int32 → zM → Prop) : Prop := ∀ (M' : zM), rX M' x.2 → zfm M M' → P x.1 M'
/-- rows that no state is held in -/
def rsc (s : aX) (x : Nat) : Prop := x = 40 + (xgs s).length ∨ (75 ≤ x ∧ x < 125) ∨ (150 ≤ x ∧ x < 170)
theorem rX_fr {T F G : Nat → Prop} {M M' : zM} {s : aX} (h : rfr T F G M M') (hT : ∀ x, T x → rsc s x) (hF : ∀ j, F j → 11 ≤ j) (hG : ¬ G 1534) (hx : rX M s) : rX M' s := by
  obtain ⟨⟨hM, hg⟩, ⟨f0, fv, f7, f9, f8⟩, hP, hGs, hE, ⟨d0, d1, d2, d3⟩, hQ⟩ := hx
  have fl : ∀ j, j < 11 → zI M' 1529 j = zI M 1529 j := fun j hj => h.2.2.2.2.2.2.1 j fun z => by have := hF j z; omega
  have gl : ∀ j, zI M' 1534 j = zI M 1534 j := fun j => h.2.2.2.2.2.1 1534 j (Or.inr ⟨by omega, hG⟩)
  have ns : ∀ x, ¬ rsc s x → ¬ T x := fun x hx z => hx (hT x z)
  have hg' := hg
  obtain ⟨-, -, ⟨pl, pg⟩, ⟨gl2, gg⟩, eg, qg⟩ := hg
  refine ⟨⟨mst_fr h hM, hg'⟩, ⟨by rw [fl 0 (by omega)]; exact f0, mvk_fr h (fun z => by have := hF _ z; omega) (fun z => by have := hF _ z; omega) fv, by rw [fl 7 (by omega)]; exact f7, by rw [fl 9 (by omega)]; exact f9, fun hh => ⟨by rw [fl 8 (by omega)]; exact (f8 hh).1, by rw [fl 10 (by omega)]; exact (f8 hh).2⟩⟩, fun i L hi => qdy_fr h (ns i ?_) (pg L (List.mem_of_getElem? hi)).1.2.2 (hP i L hi), fun i L hi => qdy_fr h (ns _ ?_) (gg L (List.mem_of_getElem? hi)).1.2.2 (hGs i L hi), fun hh => rel_fr h (fun i hi => ⟨ns _ ?_, fun g hgs => ns _ ?_⟩) (eg hh).1 (hE hh), ⟨by rw [gl]; exact d0, by rw [gl]; exact d1, by rw [gl]; exact d2, by rw [gl]; exact d3⟩, fun hh hp i hi => qdy_fr h (ns _ ?_) (getD_len (fun q hq => ((qg hh hp).2 q hq).1) i).2.2 (hQ hh hp i hi)⟩
  · have := (List.getElem?_eq_some_iff.mp hi).1
    unfold rsc
    omega
  · have := (List.getElem?_eq_some_iff.mp hi).1
    unfold rsc
    omega
  · have := (eg hh).2.1
    unfold rsc
    omega
  · unfold rsc
    omega
  · unfold rsc
    omega
theorem rgd_put {s : aX} {r : Int32} {L : aP} (h : rgd s) (hL : pgd (xn s) (xk s) L) : rgd (xput s r L) := by
  obtain ⟨h1, h2, ⟨h3, h4⟩, h5, h6, h7⟩ := h
  refine ⟨h1, h2, ⟨?_, fun X hX => ?_⟩, h5, h6, h7⟩
  · show ((xpl s).set r.toNatClampNeg L).length = 40
    rw [List.length_set]
    exact h3
  · rcases List.mem_or_eq_of_mem_set hX with hX | hX
    · exact h4 X hX
    · rw [hX]; exact hL
theorem rX_put {F G : Nat → Prop} {M M' : zM} {s : aX} {r : Nat} {L : aP} (h : rfr (fun x => x = r) F G M M') (hF : ∀ j, F j → 11 ≤ j) (hG : ¬ G 1534) (hr : r < 40) (hq : qdy M' r L) (hL : pgd (xn s) (xk s) L) (hx : rX M s) : rX M' (xput s (nI r) L) := by
  obtain ⟨⟨hM, hg⟩, ⟨f0, fv, f7, f9, f8⟩, hP, hGs, hE, ⟨d0, d1, d2, d3⟩, hQ⟩ := hx
  have fl : ∀ j, j < 11 → zI M' 1529 j = zI M 1529 j := fun j hj => h.2.2.2.2.2.2.1 j fun z => by have := hF j z; omega
  have gl : ∀ j, zI M' 1534 j = zI M 1534 j := fun j => h.2.2.2.2.2.1 1534 j (Or.inr ⟨by omega, hG⟩)
  have hgp := rgd_put (r := nI r) hg hL
  obtain ⟨-, -, ⟨pl, pg⟩, ⟨gl2, gg⟩, eg, qg⟩ := hg
  refine ⟨⟨mst_fr h hM, hgp⟩, ⟨by rw [fl 0 (by omega)]; exact f0, mvk_fr h (fun z => by have := hF _ z; omega) (fun z => by have := hF _ z; omega) fv, by rw [fl 7 (by omega)]; exact f7, by rw [fl 9 (by omega)]; exact f9, fun hh => ⟨by rw [fl 8 (by omega)]; exact (f8 hh).1, by rw [fl 10 (by omega)]; exact (f8 hh).2⟩⟩, fun i X hi => ?_, fun i X hi => qdy_fr h (by omega) (gg X (List.mem_of_getElem? hi)).1.2.2 (hGs i X hi), fun hh => rel_fr h (fun i hi => ⟨by omega, fun g hgs => by omega⟩) (eg hh).1 (hE hh), ⟨by rw [gl]; exact d0, by rw [gl]; exact d1, by rw [gl]; exact d2, by rw [gl]; exact d3⟩, fun hh hp i hi => qdy_fr h (by omega) (getD_len (fun q hq => ((qg hh hp).2 q hq).1) i).2.2 (hQ hh hp i hi)⟩
  have hi : ((xpl s).set (nI r).toNatClampNeg L)[i]? = some X := hi
  rw [cl_n (by omega)] at hi
  by_cases hir : i = r
  · rw [hir, List.getElem?_set_self (by omega)] at hi
    cases hi
    rw [hir]
    exact hq
  · rw [List.getElem?_set_ne (Ne.symm hir)] at hi
    exact qdy_fr h hir (pg X (List.mem_of_getElem? hi)).1.2.2 (hP i X hi)
theorem rX_at {M : zM} {s : aX} {i : Nat} (hx : rX M s) (hi : i < 40) : qdy M i (xat s (nI i)) ∧ pgd (xn s) (xk s) (xat s (nI i)) := by
  have hl : i < (xpl s).length := by rw [hx.1.2.2.2.1.1]; exact hi
  have hu := List.getElem?_eq_getElem hl
  unfold xat
  rw [cl_n (by omega), List.getD_eq_getElem?_getD, hu]
  exact ⟨hx.2.2.1 i _ hu, hx.1.2.2.2.1.2 _ (List.getElem_mem hl)⟩
theorem sp_rplace {d : Nat} {M : zM} {a : Int32} {P : Int32 → zM → Prop} (hd : 1 ≤ d) (h1 : ipl a = true → P 1 M) (h0 : ipl a = false → P 0 M) : ycI d nX8_isPlace [.int a] M P := by
  obtain ⟨d, rfl, he⟩ := dS hd
  exact en_X8_isPlace _ M (sg_X8_isPlace_0 _ M ⟨fun c => ⟨Or.inl rfl, _, rfl, h0 (idx_ge (n := 40) (by omega) (Or.inl c))⟩, fun c => ⟨fun c2 => ⟨Or.inl rfl, _, rfl, h0 (idx_ge (n := 40) (by omega) (Or.inr c2))⟩, fun c2 => ⟨Or.inr rfl, _, rfl, h1 (idx_lt (n := 40) (by omega) c c2)⟩⟩⟩)
theorem sp_rtaken1 {d r : Nat} {M : zM} {L : aP} {P : Int32 → zM → Prop} (hd : 2 ≤ d) (hM : mst M) (hr : r < 40) (hz : zI M 1529 11 = 0) (hq : qdy M 150 L) (hl : L.length ≤ 100) (h : ∀ M', rfr (fun x => x = r) FN GN M M' → qdy M' r L → P (nI L.length) M') : ycI d nX8_taken [.ref 1529, .int (nI 150), .int (nI r)] M P := by
  obtain ⟨d, rfl, he⟩ := dS hd
  refine en_X8_taken _ _ _ M (sg_X8_taken_0 _ _ _ M ⟨hM.1, fun _ => ⟨hM.1, sp_rcopy (by omega) hM (by omega) (by omega) (by omega) hq hl fun M1 hfr1 hq1 => ?_⟩, fun z => absurd hz z⟩)
  have hM1 := mst_fr hfr1 hM
  obtain ⟨s16, ⟨r3, r4, r5, r6, -⟩, ⟨k0, k1, k2, k3⟩, -⟩ := id hM1
  refine ⟨s16, by rw [r6, k3], by rw [r6, k3]; exact zin_n (by omega) (by omega), _, rfl, ?_⟩
  rw [r6, cl_n (by omega), hq1.1]
  exact h M1 hfr1 hq1
theorem sp_rtaken0 {d : Nat} {M : zM} {a b : Int32} {P : Int32 → zM → Prop} (hd : 1 ≤ d) (hM : mst M) (hz : zI M 1529 11 = 1) (h : P (-7) M) : ycI d nX8_taken [.ref 1529, .int a, .int b] M P := by
  obtain ⟨d, rfl, he⟩ := dS hd
  exact en_X8_taken _ _ _ M (sg_X8_taken_0 _ _ _ M ⟨hM.1, fun z => absurd z (by rw [hz]; decide), fun _ => ⟨_, rfl, h⟩⟩)
theorem FF_11 : ∀ j, FF j → 11 ≤ j := fun j h => by unfold FF at h; omega
theorem FN_11 : ∀ j, FN j → 11 ≤ j := fun j h => h.elim
theorem cR_variables {d : Nat} {M : zM} {s : aX} {P : Int32 → zM → Prop} (hd : 10 ≤ d) (hx : rX M s) (h : rres (A_variables s) M P) : ycI d nX8_variables [.ref 1529] M P := by
  obtain ⟨d, rfl, he⟩ := dS hd
  refine en_X8_variables _ M (sg_X8_variables_0 _ M ⟨hx.1.1.1, _, rfl, ?_⟩)
  rw [hx.2.1.1]
  exact h M hx zfm_rf
theorem cR_zero {d : Nat} {M : zM} {s : aX} {p : Int32} {P : Int32 → zM → Prop} (hd : 10 ≤ d) (hx : rX M s) (h : rres (A_zero s p) M P) : ycI d nX8_zero [.ref 1529, .int p] M P := by
  obtain ⟨d, rfl, he⟩ := dS hd
  unfold A_zero at h
  obtain ⟨s16, ⟨r3, r4, r5, r6, -⟩, ⟨k0, k1, k2, k3⟩, -⟩ := id hx.1.1
  refine en_X8_zero _ _ M (sg_X8_zero_0 _ _ M (sp_rplace (by omega) (fun hp => ⟨fun _ => ?_, fun z => absurd (Classical.not_not.mp z) (by decide)⟩) (fun hp => ⟨fun z => absurd rfl z, fun _ => ⟨_, rfl, ?_⟩⟩)))
  · rw [if_pos hp] at h
    obtain ⟨i, hi, -, rfl, ci⟩ := idx_n (n := 40) hp
    obtain ⟨qi, gi⟩ := rX_at hx hi
    have zi : zin (nI i) 372 := zin_n (by omega) (by omega)
    refine ⟨s16, by rw [r6, k3], by rw [r6, k3]; exact zi, ?_⟩
    intro v2
    refine ⟨s16, by rw [r6, k3], by rw [r6, k3]; exact zi, ?_⟩
    intro M1
    have e2 : v2 = nI (xat s (nI i)).length := by rw [show v2 = zI M (zR M 1529 6) (nI i).toNatClampNeg from rfl, r6, ci]; exact qi.1
    have m1 : M1 = zuI M 1533 i 0 := by rw [show M1 = zuI M (zR M 1529 6) (nI i).toNatClampNeg 0 from rfl, r6, ci]
    clear_value M1 v2
    have hfr : rfr (fun x => x = i) FN GN M M1 := by rw [m1]; exact rfr_3 rfl
    refine ⟨_, rfl, ?_⟩
    rw [e2]
    exact h M1 (rX_put hfr FN_11 (fun z => z) hi (qdy_0 (by rw [m1, zI_uI, if_pos ⟨rfl, rfl⟩])) pgd_nil hx) (zfm_of hfr)
  · rw [if_neg (by rw [hp]; decide)] at h
    exact h M hx zfm_rf
theorem cR_size {d : Nat} {M : zM} {s : aX} {p : Int32} {P : Int32 → zM → Prop} (hd : 10 ≤ d) (hx : rX M s) (h : rres (A_size s p) M P) : ycI d nX8_size [.ref 1529, .int p] M P := by
  obtain ⟨d, rfl, he⟩ := dS hd
  unfold A_size at h
  obtain ⟨s16, ⟨r3, r4, r5, r6, -⟩, ⟨k0, k1, k2, k3⟩, -⟩ := id hx.1.1
  refine en_X8_size _ _ M (sg_X8_size_0 _ _ M (sp_rplace (by omega) (fun hp => ⟨fun z => absurd z (by decide), fun _ => ?_⟩) (fun hp => ⟨fun _ => ⟨_, rfl, ?_⟩, fun z => absurd rfl z⟩)))
  · rw [if_pos hp] at h
    obtain ⟨i, hi, -, rfl, ci⟩ := idx_n (n := 40) hp
    obtain ⟨qi, gi⟩ := rX_at hx hi
    refine ⟨s16, by rw [r6, k3], by rw [r6, k3]; exact zin_n (by omega) (by omega), _, rfl, ?_⟩
    rw [r6, ci, qi.1]
    exact h M hx zfm_rf
  · rw [if_neg (by rw [hp]; decide)] at h
    exact h M hx zfm_rf
theorem cR_same {d : Nat} {M : zM} {s : aX} {p q : Int32} {P : Int32 → zM → Prop} (hd : 10 ≤ d) (hx : rX M s) (h : rres (A_same s p q) M P) : ycI d nX8_same [.ref 1529, .int p, .int q] M P := by
  obtain ⟨d, rfl, he⟩ := dS hd
  unfold A_same at h
  have s16 := hx.1.1.1
  have no : ¬ (ipl p = true ∧ ipl q = true) → P (-1) M := fun z => by
    rw [if_neg z] at h
    exact h M hx zfm_rf
  refine en_X8_same _ _ _ M (sg_X8_same_0 _ _ _ M (sp_rplace (by omega) (fun hp => ⟨fun z => absurd z (by decide), fun _ => ?_⟩) (fun hp => ⟨fun _ => ⟨_, rfl, no fun z => by rw [hp] at z; exact absurd z.1 (by decide)⟩, fun z => absurd rfl z⟩)))
  refine sp_rplace (by omega) (fun hq => ⟨fun _ => ?_, fun z => absurd (Classical.not_not.mp z) (by decide)⟩) (fun hq => ⟨fun z => absurd rfl z, fun _ => ⟨_, rfl, no fun z => by rw [hq] at z; exact absurd z.2 (by decide)⟩⟩)
  rw [if_pos ⟨hp, hq⟩] at h
  obtain ⟨i, hi, -, rfl, ci⟩ := idx_n (n := 40) hp
  obtain ⟨j, hj, -, rfl, cj⟩ := idx_n (n := 40) hq
  obtain ⟨qi, gi⟩ := rX_at hx hi
  obtain ⟨qj, gj⟩ := rX_at hx hj
  refine ⟨s16, sp_rsame (by omega) hx.1.1 (by omega) (by omega) qi qj gi.1 gj.1 (fun e => ⟨fun z => absurd z (by decide), fun _ => ⟨_, rfl, ?_⟩⟩) (fun e => ⟨fun _ => ⟨_, rfl, ?_⟩, fun z => absurd rfl z⟩)⟩
  · rw [if_pos e] at h
    exact h M hx zfm_rf
  · rw [if_neg e] at h
    exact h M hx zfm_rf
theorem cR_plus {d : Nat} {M : zM} {s : aX} {p q r : Int32} {P : Int32 → zM → Prop} (hd : 10 ≤ d) (hx : rX M s) (h : rres (A_plus s p q r) M P) : ycI d nX8_plus [.ref 1529, .int p, .int q, .int r] M P := by
  obtain ⟨d, rfl, he⟩ := dS hd
  unfold A_plus at h
  have no : ¬ (ipl p = true ∧ ipl q = true ∧ ipl r = true) → P (-1) M := fun z => by
    rw [if_neg z] at h
    exact h M hx zfm_rf
  refine en_X8_plus _ _ _ _ M (sg_X8_plus_0 _ _ _ _ M (sp_rplace (by omega) (fun hp => ⟨fun z => absurd z (by decide), fun _ => ?_⟩) (fun hp => ⟨fun _ => ⟨_, rfl, no fun z => by rw [hp] at z; exact absurd z.1 (by decide)⟩, fun z => absurd rfl z⟩)))
  refine sp_rplace (by omega) (fun hq => ⟨fun z => absurd z (by decide), fun _ => ?_⟩) (fun hq => ⟨fun _ => ⟨_, rfl, no fun z => by rw [hq] at z; exact absurd z.2.1 (by decide)⟩, fun z => absurd rfl z⟩)
  refine sp_rplace (by omega) (fun hr => ⟨fun _ => ?_, fun z => absurd (Classical.not_not.mp z) (by decide)⟩) (fun hr => ⟨fun z => absurd rfl z, fun _ => ⟨_, rfl, no fun z => by rw [hr] at z; exact absurd z.2.2 (by decide)⟩⟩)
  rw [if_pos ⟨hp, hq, hr⟩] at h
  obtain ⟨i, hi, -, rfl, ci⟩ := idx_n (n := 40) hp
  obtain ⟨j, hj, -, rfl, cj⟩ := idx_n (n := 40) hq
  obtain ⟨l, hl, -, rfl, cl⟩ := idx_n (n := 40) hr
  have hM := hx.1.1
  refine sg_X8_plus_11 _ _ _ _ M ⟨hM.1, Or.inl rfl, ?_⟩
  intro M1
  have m1 : M1 = zuI M 1529 11 0 := rfl
  clear_value M1
  have hfr1 : rfr TN FF GN M M1 := by rw [m1]; exact rfr_F (Or.inl rfl)
  have hx1 := rX_fr hfr1 (fun _ z => z.elim) FF_11 (fun z => z) hx
  have z1 : zI M1 1529 11 = 0 := by rw [m1, zI_uI, if_pos ⟨rfl, rfl⟩]
  obtain ⟨qi, gi⟩ := rX_at hx1 hi
  refine ⟨hM.1, sp_rcopy (q := 150) (by omega) hx1.1.1 (by omega) (by omega) (by omega) qi gi.1.2.2 fun M2 hfr2 hq2 => ?_⟩
  have hx2 := rX_fr hfr2 (fun x z => Or.inr (Or.inr (by omega))) FN_11 (fun z => z) hx1
  obtain ⟨qj, gj⟩ := rX_at hx2 hj
  refine ⟨hx2.1.1.1, sp_raddsP (f := 150) (m := mone) (by omega) hx2.1.1 hx2.2.1.2.1 (by omega) (by omega) (by omega) hq2 qj gi.1 gj.1 gi.2.1 gj.2.1 mone_ok vin_one (by rw [hfr2.2.2.2.2.2.2.1 11 (fun z => z)]; exact z1) (fun f M3 hf hfr3 hz3 hq3 => ?_) (fun f M3 hn hfr3 hz3 hq3 hl3 => ?_)⟩
  · have hx3 := rX_fr hfr3 (fun x z => Or.inr (Or.inr (by omega))) FF_11 (fun z => z) hx2
    have hfg := aadds_gd fok_1 (by decide) vin_one gj gi hf
    rw [hf] at h
    refine ⟨hx3.1.1.1, sp_rtaken1 (by omega) hx3.1.1 hl hz3 hq3 hfg.1.2.2 fun M4 hfr4 hq4 => ⟨_, rfl, h M4 (rX_put hfr4 FN_11 (fun z => z) hl hq4 hfg hx3) (zfm_tr (zfm_of hfr1) (zfm_tr (zfm_of hfr2) (zfm_tr (zfm_of hfr3) (zfm_of hfr4))))⟩⟩
  · have hx3 := rX_fr hfr3 (fun x z => Or.inr (Or.inr (by omega))) FF_11 (fun z => z) hx2
    rw [hn] at h
    exact ⟨hx3.1.1.1, sp_rtaken0 (by omega) hx3.1.1 hz3 ⟨_, rfl, h M3 hx3 (zfm_tr (zfm_of hfr1) (zfm_tr (zfm_of hfr2) (zfm_of hfr3)))⟩⟩
theorem cR_times {d : Nat} {M : zM} {s : aX} {p q r : Int32} {P : Int32 → zM → Prop} (hd : 10 ≤ d) (hx : rX M s) (h : rres (A_times s p q r) M P) : ycI d nX8_times [.ref 1529, .int p, .int q, .int r] M P := by
  obtain ⟨d, rfl, he⟩ := dS hd
  unfold A_times at h
  have no : ¬ (ipl p = true ∧ ipl q = true ∧ ipl r = true) → P (-1) M := fun z => by
    rw [if_neg z] at h
    exact h M hx zfm_rf
  refine en_X8_times _ _ _ _ M (sg_X8_times_0 _ _ _ _ M (sp_rplace (by omega) (fun hp => ⟨fun z => absurd z (by decide), fun _ => ?_⟩) (fun hp => ⟨fun _ => ⟨_, rfl, no fun z => by rw [hp] at z; exact absurd z.1 (by decide)⟩, fun z => absurd rfl z⟩)))
  refine sp_rplace (by omega) (fun hq => ⟨fun z => absurd z (by decide), fun _ => ?_⟩) (fun hq => ⟨fun _ => ⟨_, rfl, no fun z => by rw [hq] at z; exact absurd z.2.1 (by decide)⟩, fun z => absurd rfl z⟩)
  refine sp_rplace (by omega) (fun hr => ⟨fun _ => ?_, fun z => absurd (Classical.not_not.mp z) (by decide)⟩) (fun hr => ⟨fun z => absurd rfl z, fun _ => ⟨_, rfl, no fun z => by rw [hr] at z; exact absurd z.2.2 (by decide)⟩⟩)
  rw [if_pos ⟨hp, hq, hr⟩] at h
  obtain ⟨i, hi, -, rfl, ci⟩ := idx_n (n := 40) hp
  obtain ⟨j, hj, -, rfl, cj⟩ := idx_n (n := 40) hq
  obtain ⟨l, hl, -, rfl, cl⟩ := idx_n (n := 40) hr
  have hM := hx.1.1
  refine sg_X8_times_11 _ _ _ _ M ⟨hM.1, Or.inl rfl, ?_⟩
  intro M1
  have m1 : M1 = zuI M 1529 11 0 := rfl
  clear_value M1
  have hfr1 : rfr TN FF GN M M1 := by rw [m1]; exact rfr_F (Or.inl rfl)
  have hx1 := rX_fr hfr1 (fun _ z => z.elim) FF_11 (fun z => z) hx
  have z1 : zI M1 1529 11 = 0 := by rw [m1, zI_uI, if_pos ⟨rfl, rfl⟩]
  obtain ⟨qi, gi⟩ := rX_at hx1 hi
  obtain ⟨qj, gj⟩ := rX_at hx1 hj
  refine ⟨hM.1, sp_rmade (to := 150) (by omega) hx1.1.1 hx1.2.1.2.1 (by omega) (by omega) (by omega) (by omega) (by omega) qi qj gi.1 gj.1 gi.2.1 gj.2.1 z1 (fun f M3 hf hfr3 hz3 hq3 => ?_) (fun f M3 hn hfr3 hz3 hq3 hl3 => ?_)⟩
  · have hx3 := rX_fr hfr3 (fun x z => Or.inr (Or.inr (by omega))) FF_11 (fun z => z) hx1
    have hfg := aprod_gd gj (fun t ht => ⟨gi.1.1 t ht, gi.2.1 t ht⟩) pgd_nil hf
    rw [hf] at h
    refine ⟨hx3.1.1.1, sp_rtaken1 (by omega) hx3.1.1 hl hz3 hq3 hfg.1.2.2 fun M4 hfr4 hq4 => ⟨_, rfl, h M4 (rX_put hfr4 FN_11 (fun z => z) hl hq4 hfg hx3) (zfm_tr (zfm_of hfr1) (zfm_tr (zfm_of hfr3) (zfm_of hfr4)))⟩⟩
  · have hx3 := rX_fr hfr3 (fun x z => Or.inr (Or.inr (by omega))) FF_11 (fun z => z) hx1
    rw [hn] at h
    exact ⟨hx3.1.1.1, sp_rtaken0 (by omega) hx3.1.1 hz3 ⟨_, rfl, h M3 hx3 (zfm_tr (zfm_of hfr1) (zfm_of hfr3))⟩⟩
