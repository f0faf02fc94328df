/-! a new object of the class -/
def zgw (q : Nat) (M M' : zM) : Prop := ∀ a, 3 ≤ a → a < q → zsh M' a = zsh M a ∧ (∀ j, zI M' a j = zI M a j) ∧ (∀ j, zL M' a j = zL M a j) ∧ ∀ j, zR M' a j = zR M a j
theorem zgw_tr {q : Nat} {M1 M2 M3 : zM} (h1 : zgw q M1 M2) (h2 : zgw q M2 M3) : zgw q M1 M3 := fun a h3 ha => ⟨(h2 a h3 ha).1.trans (h1 a h3 ha).1, fun j => ((h2 a h3 ha).2.1 j).trans ((h1 a h3 ha).2.1 j), fun j => ((h2 a h3 ha).2.2.1 j).trans ((h1 a h3 ha).2.2.1 j), fun j => ((h2 a h3 ha).2.2.2 j).trans ((h1 a h3 ha).2.2.2 j)⟩
theorem zgw_f {p q : Nat} {M M' : zM} (h : zgf p M M') (hq : q ≤ p) : zgw q M M' := fun a _ ha => h a (by omega)
theorem zgw_u {q k v : Nat} {M : zM} : zgw q M (zuR M 2 k v) := fun a h3 _ => ⟨rfl, fun _ => rfl, fun _ => rfl, fun j => by rw [zR_uR, if_neg (by omega)]⟩
/-- all but the object itself, that is made a second time as one that is not there -/
theorem pst_w {q : Nat} {M M' : zM} {p o : Nat} (h : zgw q M M') (h3 : 3 ≤ p) (hq : p + 4 ≤ q) (hp : pst M p o) : pst M' p o := by
  unfold pst at *
  rw [(h p (by omega) (by omega)).1, (h (p + 1) (by omega) (by omega)).1, (h (p + 2) (by omega) (by omega)).1, (h (p + 3) (by omega) (by omega)).1, (h p (by omega) (by omega)).2.2.2, (h p (by omega) (by omega)).2.2.2, (h p (by omega) (by omega)).2.2.2, (h p (by omega) (by omega)).2.2.2]
  exact hp
theorem est_w {q : Nat} {M M' : zM} {e o w : Nat} (h : zgw q M M') (h3 : 3 ≤ e) (hq : e + 6 + 4 * w ≤ q) (he : est M e o w) : est M' e o w := by
  obtain ⟨h1, h2, h3', h4, h5, h6, h7⟩ := he
  exact ⟨by rw [(h e (by omega) (by omega)).1]; exact h1, by rw [(h e (by omega) (by omega)).2.2.2]; exact h2, by rw [(h e (by omega) (by omega)).2.2.2]; exact h3', by rw [(h (e + 5) (by omega) (by omega)).1]; exact h4, fun i hi => by rw [(h (e + 5) (by omega) (by omega)).2.2.2]; exact h5 i hi, pst_w h (by omega) (by omega) h6, fun i hi => pst_w h (by omega) (by omega) (h7 i hi)⟩
theorem dst_w {q : Nat} {M M' : zM} {D o : Nat} (h : zgw q M M') (h3 : 3 ≤ D) (hq : D + 106 ≤ q) (hd : dst M D o) : dst M' D o := by
  obtain ⟨h1, h2, h3', h4, h5, h6, h7, h8, h9⟩ := hd
  exact ⟨by rw [(h D (by omega) (by omega)).1]; exact h1, by rw [(h D (by omega) (by omega)).2.2.2]; exact h2, by rw [(h D (by omega) (by omega)).2.2.2]; exact h3', by rw [(h D (by omega) (by omega)).2.2.2]; exact h4, by rw [(h (D + 9) (by omega) (by omega)).1]; exact h5, fun i hi => by rw [(h (D + 9) (by omega) (by omega)).2.2.2]; exact h6 i hi, pst_w h (by omega) (by omega) h7, pst_w h (by omega) (by omega) h8, fun i hi => pst_w h (by omega) (by omega) (h9 i hi)⟩
theorem ist_w {q : Nat} {M M' : zM} {H o w : Nat} {eid : Nat → Nat} (h : zgw q M M') (h3 : 3 ≤ H) (hq : H + 153 + 100 * w ≤ q) (hi : ist M H o w eid) : ist M' H o w eid := by
  obtain ⟨⟨h1, h2, h3', h4, h5⟩, h6, h7, h8⟩ := hi
  refine ⟨⟨by rw [(h H (by omega) (by omega)).1]; exact h1, by rw [(h H (by omega) (by omega)).2.2.2]; exact h2, by rw [(h H (by omega) (by omega)).2.2.2]; exact h3', by rw [(h H (by omega) (by omega)).2.2.2]; exact h4, by rw [(h _ (by omega) (by omega)).1]; exact h5⟩, ⟨by rw [(h (H + 1) (by omega) (by omega)).1]; exact h6.1, fun i hi => ⟨by rw [(h (H + 1) (by omega) (by omega)).2.2.2]; exact (h6.2 i hi).1, est_w h ?_ ?_ (h6.2 i hi).2⟩⟩, h7, h8⟩
  · have := h7.1 i hi
    omega
  · have := h7.1 i hi
    omega
def s0 (nv : Nat) : aX := (nv, 0, List.replicate 40 [], [], false, [], (0, 0, 0, 0), false, [])
theorem sp_init5 {d n : Nat} {M : zM} {P : zM → Prop} (hd : 1 ≤ d) (h0 : n ≠ 0) (h : P M) : ycV d nX5_init [.ref n] M P := by
  obtain ⟨d, rfl, he⟩ := dS hd
  exact en_X5_init _ M (sg_X5_init_0 _ M ⟨h0, rfl, h⟩)
/-- so many variables -/
def anv (a : Int32) : Nat := if a.toInt < 1 then 1 else if 4 < a.toInt then 4 else a.toInt.toNat
theorem anv_ok {a : Int32} : 1 ≤ anv a ∧ anv a ≤ 4 := by
  unfold anv
  split
  · omega
  · split <;> omega
theorem sp_init7 {d : Nat} {M : zM} {a : Int32} {P : zM → Prop} (hd : 10 ≤ d) (hs : zsh M 2 = (15, 0)) (hn : zn M = 3) (hz : ∀ j, zI M 2 j = 0) (h : ∀ M' e e2, zgf 2 M M' → xX M' (s0 (anv a)) 1308 1414 e e2 → zn M' = 1529 → zs M' = zs M + 109301 → P M') : ycV d nX7_init [.ref 2, .int a] M P := by
  obtain ⟨d, rfl, he⟩ := dS hd
  have body : ∀ (M : zM) (o1 : Option Value), zsh M 2 = (15, 0) → zn M = 3 → zI M 2 0 = nI (anv a) → (∀ j, j ≠ 0 → zI M 2 j = 0) → (∀ M' e e2, zgf 2 M M' → xX M' (s0 (anv a)) 1308 1414 e e2 → zn M' = 1529 → zs M' = zs M + 109301 → P M') → wX7_init d (fun r M2 => r = [] ∧ P M2) 15 [some (.ref 2), o1] [] M := by
    intro M o1 hs hn hz0 hz h
    refine sg_X7_init_15 _ _ M ?_
    intro n1 M2
    have e1 : n1 = 3 := hn
    clear_value n1
    subst e1
    have g2 : zgf 3 M M2 := zgf_al (by omega)
    have o2 : zsh M2 3 = (13, 0) := by rw [show M2 = zal M (13, 0) 1 from rfl, zsh_al, if_pos hn.symm]
    have z2 : ∀ j, zI M2 3 j = 0 := fun j => by rw [show M2 = zal M (13, 0) 1 from rfl, zI_al, if_pos hn.symm]
    refine ⟨by rw [o2], sp_init5 (by omega) (by omega) ?_⟩
    have k2 : zsh M2 2 = (15, 0) := by rw [(g2 2 (by omega)).1]; exact hs
    refine ⟨by rw [k2], ?_⟩
    intro M4
    have n4 : zn M4 = 4 := by show zn M + 1 = _; omega
    have r4 : ∀ j, zR M4 2 j = if j = 1 then 3 else zR M 2 j := fun j => by
      rw [show M4 = zuR M2 2 1 3 from rfl, zR_uR, (g2 2 (by omega)).2.2.2]
      simp only [true_and]
    refine ⟨by rw [k2], ?_⟩
    rw [show zR M4 2 1 = 3 by rw [r4]; rfl]
    refine sp_row (n := 40) (by omega) (by omega) (by omega) fun M5 g5 h5s h5r h5n h5z => ?_
    rw [n4] at g5 h5s h5r h5n
    rw [n4]
    have k5 : zsh M5 2 = (15, 0) := by rw [(g5 2 (by omega)).1]; exact k2
    refine ⟨by rw [k5], ?_⟩
    intro M7
    have n7 : zn M7 = 165 := h5n
    have r7 : ∀ j, zR M7 2 j = if j = 2 then 4 else if j = 1 then 3 else zR M 2 j := fun j => by
      rw [show M7 = zuR M5 2 2 4 from rfl, zR_uR, (g5 2 (by omega)).2.2.2, r4]
      simp only [true_and]
    refine ⟨by rw [k5], ?_⟩
    rw [show zR M7 2 1 = 3 by rw [r7]; rfl]
    refine sp_row (n := 9) (by omega) (by omega) (by omega) fun M8 g8 h8s h8r h8n h8z => ?_
    rw [n7] at g8 h8s h8r h8n
    rw [n7]
    have k8 : zsh M8 2 = (15, 0) := by rw [(g8 2 (by omega)).1]; exact k5
    refine ⟨by rw [k8], ?_⟩
    intro M10 n11 M12
    have e11 : n11 = 202 := h8n
    clear_value n11
    subst e11
    have n10 : zn M10 = 202 := h8n
    have r10 : ∀ j, zR M10 2 j = if j = 3 then 165 else if j = 2 then 4 else if j = 1 then 3 else zR M 2 j := fun j => by
      rw [show M10 = zuR M8 2 3 165 from rfl, zR_uR, (g8 2 (by omega)).2.2.2, r7]
      simp only [true_and]
    have g12 : zgf 202 M10 M12 := zgf_al (by omega)
    have k12 : zsh M12 2 = (15, 0) := by rw [(g12 2 (by omega)).1]; exact k8
    have s12 : zsh M12 202 = (12, 0) := by rw [show M12 = zal M10 (12, 0) 11 from rfl, zsh_al, if_pos n10.symm]
    have z12 : ∀ j, zI M12 202 j = 0 := fun j => by rw [show M12 = zal M10 (12, 0) 11 from rfl, zI_al, if_pos n10.symm]
    have r12 : ∀ j, zR M12 2 j = zR M10 2 j := (g12 2 (by omega)).2.2.2
    refine ⟨by rw [k12], by rw [s12], ?_⟩
    rw [show zR M12 2 1 = 3 by rw [r12, r10]; rfl]
    refine sp_init3 (w := 8) (by omega) (by rw [s12]) (by show zn M10 + 1 = _; omega) (by omega) (Or.inl rfl) (by omega) fun M13 g13 hI13 hi13 hn13 hs13 => ?_
    have k13 : zsh M13 2 = (15, 0) := by rw [(g13 2 (by omega)).1]; exact k12
    refine ⟨by rw [k13], ?_⟩
    intro M14 n15 M16
    have e15 : n15 = 1155 := hn13
    clear_value n15
    subst e15
    have n14 : zn M14 = 1155 := hn13
    have r14 : ∀ j, zR M14 2 j = if j = 5 then 202 else zR M10 2 j := fun j => by
      rw [show M14 = zuR M13 2 5 202 from rfl, zR_uR, (g13 2 (by omega)).2.2.2, r12]
      simp only [true_and]
    have g16 : zgf 1155 M14 M16 := zgf_al (by omega)
    have k16 : zsh M16 2 = (15, 0) := by rw [(g16 2 (by omega)).1]; exact k13
    have s16 : zsh M16 1155 = (12, 0) := by rw [show M16 = zal M14 (12, 0) 11 from rfl, zsh_al, if_pos n14.symm]
    have r16 : ∀ j, zR M16 2 j = zR M14 2 j := (g16 2 (by omega)).2.2.2
    refine ⟨by rw [k16], by rw [s16], ?_⟩
    rw [show zR M16 2 1 = 3 by rw [r16, r14, r10]; rfl]
    refine sp_init3 (w := 0) (by omega) (by rw [s16]) (by show zn M14 + 1 = _; omega) (by omega) (Or.inr rfl) (by omega) fun M17 g17 hI17 hi17 hn17 hs17 => ?_
    have k17 : zsh M17 2 = (15, 0) := by rw [(g17 2 (by omega)).1]; exact k16
    refine ⟨by rw [k17], ?_⟩
    intro M18 n19 M20
    have e19 : n19 = 1308 := hn17
    clear_value n19
    subst e19
    have n18 : zn M18 = 1308 := hn17
    have r18 : ∀ j, zR M18 2 j = if j = 7 then 1155 else zR M14 2 j := fun j => by
      rw [show M18 = zuR M17 2 7 1155 from rfl, zR_uR, (g17 2 (by omega)).2.2.2, r16]
      simp only [true_and]
    have g20 : zgf 1308 M18 M20 := zgf_al (by omega)
    have k20 : zsh M20 2 = (15, 0) := by rw [(g20 2 (by omega)).1]; exact k17
    have s20 : zsh M20 1308 = (10, 0) := by rw [show M20 = zal M18 (10, 0) 5 from rfl, zsh_al, if_pos n18.symm]
    have r20 : ∀ j, zR M20 2 j = zR M18 2 j := (g20 2 (by omega)).2.2.2
    refine ⟨by rw [k20], by rw [s20], ?_⟩
    rw [show zR M20 2 1 = 3 by rw [r20, r18, r14, r10]; rfl]
    refine sp_init0 (by omega) (by rw [s20]) (by show zn M18 + 1 = _; omega) (by omega) fun M21 g21 hD21 hn21 hs21 => ?_
    have k21 : zsh M21 2 = (15, 0) := by rw [(g21 2 (by omega)).1]; exact k20
    refine ⟨by rw [k21], ?_⟩
    intro M22 n23 M24
    have e23 : n23 = 1414 := hn21
    clear_value n23
    subst e23
    have n22 : zn M22 = 1414 := hn21
    have r22 : ∀ j, zR M22 2 j = if j = 8 then 1308 else zR M18 2 j := fun j => by
      rw [show M22 = zuR M21 2 8 1308 from rfl, zR_uR, (g21 2 (by omega)).2.2.2, r20]
      simp only [true_and]
    have g24 : zgf 1414 M22 M24 := zgf_al (by omega)
    have k24 : zsh M24 2 = (15, 0) := by rw [(g24 2 (by omega)).1]; exact k21
    have s24 : zsh M24 1414 = (10, 0) := by rw [show M24 = zal M22 (10, 0) 5 from rfl, zsh_al, if_pos n22.symm]
    have r24 : ∀ j, zR M24 2 j = zR M22 2 j := (g24 2 (by omega)).2.2.2
    refine ⟨by rw [k24], by rw [s24], ?_⟩
    rw [show zR M24 2 1 = 3 by rw [r24, r22, r18, r14, r10]; rfl]
    refine sp_init0 (by omega) (by rw [s24]) (by show zn M22 + 1 = _; omega) (by omega) fun M25 g25 hD25 hn25 hs25 => ?_
    have k25 : zsh M25 2 = (15, 0) := by rw [(g25 2 (by omega)).1]; exact k24
    refine ⟨by rw [k25], ?_⟩
    intro M26 n27 M28
    have e27 : n27 = 1520 := hn25
    clear_value n27
    subst e27
    have n26 : zn M26 = 1520 := hn25
    have r26 : ∀ j, zR M26 2 j = if j = 9 then 1414 else zR M22 2 j := fun j => by
      rw [show M26 = zuR M25 2 9 1414 from rfl, zR_uR, (g25 2 (by omega)).2.2.2, r24]
      simp only [true_and]
    have g28 : zgf 1520 M26 M28 := zgf_al (by omega)
    have k28 : zsh M28 2 = (15, 0) := by rw [(g28 2 (by omega)).1]; exact k25
    have s28 : zsh M28 1520 = (14, 0) := by rw [show M28 = zal M26 (14, 0) 5 from rfl, zsh_al, if_pos n26.symm]
    have r28 : ∀ j, zR M28 2 j = zR M26 2 j := (g28 2 (by omega)).2.2.2
    refine ⟨by rw [k28], by rw [s28], ?_⟩
    rw [show zR M28 2 1 = 3 by rw [r28, r26, r22, r18, r14, r10]; rfl]
    refine sp_init6 (by omega) (by rw [s28]) (by show zn M26 + 1 = _; omega) (by omega) fun M29 g29 hp29 hi29 hn29 hs29 => ?_
    have k29 : zsh M29 2 = (15, 0) := by rw [(g29 2 (by omega)).1]; exact k28
    refine ⟨by rw [k29], ?_⟩
    intro M30 n31 M32
    have e31 : n31 = 1524 := hn29
    clear_value n31
    subst e31
    have n30 : zn M30 = 1524 := hn29
    have r30 : ∀ j, zR M30 2 j = if j = 11 then 1520 else zR M26 2 j := fun j => by
      rw [show M30 = zuR M29 2 11 1520 from rfl, zR_uR, (g29 2 (by omega)).2.2.2, r28]
      simp only [true_and]
    have g32 : zgf 1524 M30 M32 := zgf_al (by omega)
    have k32 : zsh M32 2 = (15, 0) := by rw [(g32 2 (by omega)).1]; exact k29
    have s32 : zsh M32 1524 = (14, 0) := by rw [show M32 = zal M30 (14, 0) 5 from rfl, zsh_al, if_pos n30.symm]
    have r32 : ∀ j, zR M32 2 j = zR M30 2 j := (g32 2 (by omega)).2.2.2
    refine ⟨by rw [k32], by rw [s32], ?_⟩
    rw [show zR M32 2 1 = 3 by rw [r32, r30, r26, r22, r18, r14, r10]; rfl]
    refine sp_init6 (by omega) (by rw [s32]) (by show zn M30 + 1 = _; omega) (by omega) fun M33 g33 hp33 hi33 hn33 hs33 => ?_
    have k33 : zsh M33 2 = (15, 0) := by rw [(g33 2 (by omega)).1]; exact k32
    refine ⟨by rw [k33], ?_⟩
    intro M34
    have n34 : zn M34 = 1528 := hn33
    refine ⟨by decide, by decide, ?_⟩
    rw [show (4 : Int32).toNatClampNeg = 4 by decide]
    intro n35 M36
    have e35 : n35 = 1528 := n34
    clear_value n35
    subst e35
    have r34 : ∀ j, zR M34 2 j = if j = 12 then 1524 else zR M30 2 j := fun j => by
      rw [show M34 = zuR M33 2 12 1524 from rfl, zR_uR, (g33 2 (by omega)).2.2.2, r32]
      simp only [true_and]
    have g36 : zgf 1528 M34 M36 := zgf_al (by omega)
    have k36 : zsh M36 2 = (15, 0) := by rw [(g36 2 (by omega)).1]; exact k33
    have s36 : zsh M36 1528 = (2, 4) := by rw [show M36 = zal M34 (2, 4) 4 from rfl, zsh_al, if_pos n34.symm]
    refine ⟨by rw [k36], ?_⟩
    intro M37
    have r37 : ∀ j, zR M37 2 j = if j = 13 then 1528 else zR M34 2 j := fun j => by
      rw [show M37 = zuR M36 2 13 1528 from rfl, zR_uR, (g36 2 (by omega)).2.2.2]
      simp only [true_and]
    -- what stays to the end
    have w36 : zgw 1529 M36 M37 := zgw_u
    have w34 : zgw 1528 M34 M37 := zgw_tr (zgw_f g36 (by omega)) (fun a h3 ha => w36 a h3 (by omega))
    have w33 : zgw 1528 M33 M37 := zgw_tr zgw_u w34
    have w30 : zgw 1524 M30 M37 := zgw_tr (zgw_f g32 (by omega)) (zgw_tr (zgw_f g33 (by omega)) (fun a h3 ha => w33 a h3 (by omega)))
    have w29 : zgw 1524 M29 M37 := zgw_tr zgw_u w30
    have w26 : zgw 1520 M26 M37 := zgw_tr (zgw_f g28 (by omega)) (zgw_tr (zgw_f g29 (by omega)) (fun a h3 ha => w29 a h3 (by omega)))
    have w25 : zgw 1520 M25 M37 := zgw_tr zgw_u w26
    have w22 : zgw 1414 M22 M37 := zgw_tr (zgw_f g24 (by omega)) (zgw_tr (zgw_f g25 (by omega)) (fun a h3 ha => w25 a h3 (by omega)))
    have w21 : zgw 1414 M21 M37 := zgw_tr zgw_u w22
    have w18 : zgw 1308 M18 M37 := zgw_tr (zgw_f g20 (by omega)) (zgw_tr (zgw_f g21 (by omega)) (fun a h3 ha => w21 a h3 (by omega)))
    have w17 : zgw 1308 M17 M37 := zgw_tr zgw_u w18
    have w14 : zgw 1155 M14 M37 := zgw_tr (zgw_f g16 (by omega)) (zgw_tr (zgw_f g17 (by omega)) (fun a h3 ha => w17 a h3 (by omega)))
    have w13 : zgw 1155 M13 M37 := zgw_tr zgw_u w14
    have w10 : zgw 202 M10 M37 := zgw_tr (zgw_f g12 (by omega)) (zgw_tr (zgw_f g13 (by omega)) (fun a h3 ha => w13 a h3 (by omega)))
    have w8 : zgw 202 M8 M37 := zgw_tr zgw_u w10
    have w7 : zgw 165 M7 M37 := zgw_tr (zgw_f g8 (by omega)) (fun a h3 ha => w8 a h3 (by omega))
    have w5 : zgw 165 M5 M37 := zgw_tr zgw_u w7
    have w4 : zgw 4 M4 M37 := zgw_tr (zgw_f g5 (by omega)) (fun a h3 ha => w5 a h3 (by omega))
    have w2 : zgw 4 M2 M37 := zgw_tr zgw_u w4
    have z37 : ∀ j, zI M37 2 j = zI M 2 j := fun j => by
      show zI M36 2 j = _
      rw [(g36 2 (by omega)).2.1]
      show zI M33 2 j = _
      rw [(g33 2 (by omega)).2.1, (g32 2 (by omega)).2.1]
      show zI M29 2 j = _
      rw [(g29 2 (by omega)).2.1, (g28 2 (by omega)).2.1]
      show zI M25 2 j = _
      rw [(g25 2 (by omega)).2.1, (g24 2 (by omega)).2.1]
      show zI M21 2 j = _
      rw [(g21 2 (by omega)).2.1, (g20 2 (by omega)).2.1]
      show zI M17 2 j = _
      rw [(g17 2 (by omega)).2.1, (g16 2 (by omega)).2.1]
      show zI M13 2 j = _
      rw [(g13 2 (by omega)).2.1, (g12 2 (by omega)).2.1]
      show zI M8 2 j = _
      rw [(g8 2 (by omega)).2.1]
      show zI M5 2 j = _
      rw [(g5 2 (by omega)).2.1]
      show zI M2 2 j = _
      rw [(g2 2 (by omega)).2.1]
    have below : zgf 2 M M37 := zgf_tr (zgf_le g2 (by omega)) (zgf_tr zgf_1 (zgf_tr (zgf_le g5 (by omega)) (zgf_tr zgf_1 (zgf_tr (zgf_le g8 (by omega)) (zgf_tr zgf_1 (zgf_tr (zgf_le g12 (by omega)) (zgf_tr (zgf_le g13 (by omega)) (zgf_tr zgf_1 (zgf_tr (zgf_le g16 (by omega)) (zgf_tr (zgf_le g17 (by omega)) (zgf_tr zgf_1 (zgf_tr (zgf_le g20 (by omega)) (zgf_tr (zgf_le g21 (by omega)) (zgf_tr zgf_1 (zgf_tr (zgf_le g24 (by omega)) (zgf_tr (zgf_le g25 (by omega)) (zgf_tr zgf_1 (zgf_tr (zgf_le g28 (by omega)) (zgf_tr (zgf_le g29 (by omega)) (zgf_tr zgf_1 (zgf_tr (zgf_le g32 (by omega)) (zgf_tr (zgf_le g33 (by omega)) (zgf_tr zgf_1 (zgf_tr (zgf_le g36 (by omega)) zgf_1))))))))))))))))))))))))
    have hI202 := ist_w w13 (by omega) (by omega) hI13
    have f202 : ∀ j, zI M37 202 j = 0 := fun j => by rw [(w13 202 (by omega) (by omega)).2.1, hi13]; exact z12 j
    have rr : ∀ j v, (if j = 13 then 1528 else if j = 12 then 1524 else if j = 11 then 1520 else if j = 9 then 1414 else if j = 8 then 1308 else if j = 7 then 1155 else if j = 5 then 202 else if j = 3 then 165 else if j = 2 then 4 else if j = 1 then 3 else zR M 2 j) = v → zR M37 2 j = v := fun j v hv => by
      rw [r37, r34, r30, r26, r22, r18, r14, r10]
      exact hv
    refine ⟨rfl, h M37 _ _ below ⟨⟨anv_ok, by show (0 : Nat) ≤ 2; omega, ⟨rfl, fun L hL => ?_⟩, ⟨by show (0 : Nat) ≤ 8; omega, fun L hL => absurd hL List.not_mem_nil⟩, fun z => (by cases z), fun z => (by cases z)⟩, ⟨⟨by show (zsh M36 2).1 = 15; rw [k36], ?_⟩, ⟨rr 1 3 rfl, rr 2 4 rfl, rr 3 165 rfl, rr 5 202 rfl, rr 7 1155 rfl, rr 8 1308 rfl, rr 9 1414 rfl, rr 11 1520 rfl, rr 12 1524 rfl, rr 13 1528 rfl⟩, ⟨?_, fun i hi => ⟨?_, ?_⟩⟩, ⟨?_, fun i hi => ⟨?_, ?_⟩⟩, ⟨hI202, ist_w w17 (by omega) (by omega) hI17⟩, ⟨dst_w w21 (by omega) (by omega) hD21, dst_w w25 (by omega) (by omega) hD25, Or.inl ⟨rfl, rfl⟩⟩, pst_w w29 (by omega) (by omega) hp29, pst_w w33 (by omega) (by omega) hp33, ?_⟩, ⟨?_, ?_, ?_, ?_, ?_⟩, fun i L hi => ?_, fun i L hi => (by cases hi), fun z => (by cases z), ⟨by rw [f202]; rfl, by rw [f202]; rfl, by rw [f202]; rfl, by rw [f202]; rfl⟩, fun z => (by cases z)⟩ (by show zn M34 + 1 = _; omega) ?_⟩
    · rw [(List.mem_replicate.mp (show L ∈ List.replicate 40 [] from hL)).2]; exact pok_nil
    · rw [(w2 3 (by omega) (by omega)).1, o2]
    · rw [(w5 4 (by omega) (by omega)).1]; exact h5s
    · rw [(w5 4 (by omega) (by omega)).2.2.2, (h5r i hi).1]
    · exact pst_w w5 (by omega) (by omega) (h5r i hi).2.1
    · rw [(w8 165 (by omega) (by omega)).1]; exact h8s
    · rw [(w8 165 (by omega) (by omega)).2.2.2, (h8r i hi).1]
    · exact pst_w w8 (by omega) (by omega) (h8r i hi).2.1
    · show zsh M36 1528 = _
      exact s36
    · rw [(w2 3 (by omega) (by omega)).2.1, z2]; rfl
    · rw [z37]; exact hz0
    · rw [z37, hz 4 (by omega)]; rfl
    · rw [z37, hz 6 (by omega)]; rfl
    · rw [z37, hz 10 (by omega)]; rfl
    · have hi : (List.replicate 40 ([] : aP))[i]? = some L := hi
      have hil := (List.getElem?_eq_some_iff.mp hi).1
      rw [List.length_replicate] at hil
      have hL := (List.mem_replicate.mp (List.mem_of_getElem? hi)).2
      subst hL
      refine ⟨?_, fun j t hj => by cases hj⟩
      rw [(w5 (5 + 4 * i) (by omega) (by omega)).2.1]
      exact (h5r i hil).2.2
    · have q1 : zs M37 = zs M33 + 4 := rfl
      have q2 : zs M32 = zs M29 + 5 := rfl
      have q3 : zs M28 = zs M25 + 5 := rfl
      have q4 : zs M24 = zs M21 + 5 := rfl
      have q5 : zs M20 = zs M17 + 5 := rfl
      have q6 : zs M16 = zs M13 + 11 := rfl
      have q7 : zs M12 = zs M8 + 11 := rfl
      have q8 : zs M7 = zs M5 := rfl
      have q9 : zs M4 = zs M + 1 := rfl
      omega
  have put : ∀ v : Int32, v = nI (anv a) → wX7_init d (fun r M2 => r = [] ∧ P M2) 15 [some (.ref 2), some (.int a)] [] (zuI M 2 0 v) := fun v hv => by
    have hg0 : zgf 2 M (zuI M 2 0 v) := fun b hb => ⟨rfl, fun j => by rw [zI_uI, if_neg (by omega)], fun _ => rfl, fun _ => rfl⟩
    refine body (zuI M 2 0 v) _ hs hn ?_ (fun j hj => ?_) fun M' e e2 hg hx hn' hs' => h M' e e2 (zgf_tr hg0 hg) hx hn' hs'
    · rw [zI_uI, if_pos ⟨rfl, rfl⟩]; exact hv
    · rw [zI_uI, if_neg (by omega)]; exact hz j
  have k15 : (zsh M 2).1 = 15 := by rw [hs]
  refine en_X7_init _ _ M (sg_X7_init_0 _ _ M ⟨by omega, fun c1 => ⟨fun c2 => ⟨k15, put a ?_⟩, fun c2 => ⟨k15, put 4 ?_⟩⟩, fun c1 => ⟨k15, put 1 ?_⟩⟩)
  · have c1 := Int32.le_iff_toInt_le.mp c1
    have c2 := Int32.le_iff_toInt_le.mp c2
    rw [show (1 : Int32).toInt = 1 by decide] at c1
    rw [show (4 : Int32).toInt = 4 by decide] at c2
    obtain ⟨j, hj, rfl⟩ := nI_of (x := a) (fun z => by
      have := Int32.lt_iff_toInt_lt.mp z
      rw [Int32.toInt_zero] at this
      omega)
    rw [nI_toInt hj] at c1 c2
    unfold anv
    rw [nI_toInt hj, if_neg (by omega), if_neg (by omega)]
    rfl
  · have c2 := Int32.lt_iff_toInt_lt.mp (Int32.not_le.mp c2)
    have c1 := Int32.le_iff_toInt_le.mp c1
    rw [show (1 : Int32).toInt = 1 by decide] at c1
    rw [show (4 : Int32).toInt = 4 by decide] at c2
    unfold anv
    rw [if_neg (by omega), if_pos (by omega)]
    rfl
  · have c1 := Int32.lt_iff_toInt_lt.mp (Int32.not_le.mp c1)
    rw [show (1 : Int32).toInt = 1 by decide] at c1
    unfold anv
    rw [if_pos (by omega)]
    rfl
