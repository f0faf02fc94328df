/-! THE LAW: class and reference side by side -/
def i8 (M : zM) (kd len j : Nat) : zM := zuR (zal M (kd, len) len) 1529 j (zn M)
theorem i8_n {M : zM} {kd len j : Nat} : zn (i8 M kd len j) = zn M + 1 := rfl
theorem i8_s {M : zM} {kd len j : Nat} : zs (i8 M kd len j) = zs M + len := rfl
theorem i8_sh {M : zM} {kd len j a : Nat} : zsh (i8 M kd len j) a = if a = zn M then (kd, len) else zsh M a := rfl
theorem i8_I {M : zM} {kd len j a i : Nat} : zI (i8 M kd len j) a i = if a = zn M then 0 else zI M a i := rfl
theorem i8_R {M : zM} {kd len j a i : Nat} : zR (i8 M kd len j) a i = if a = 1529 ∧ i = j then zn M else if a = zn M then 0 else zR M a i := rfl
theorem i8_g {M : zM} {kd len j : Nat} (h : 1529 ≤ zn M) : zgf 1529 M (i8 M kd len j) := zgf_tr (zgf_al h) (zgf_uR (Nat.le_refl _))
set_option maxRecDepth 100000 in
theorem sp_init8 {d : Nat} {M : zM} {a : Int32} {P : zM → Prop} (hd : 1 ≤ d) (hs : zsh M 1529 = (16, 0)) (hn : zn M = 1530) (hz : ∀ j, zI M 1529 j = 0) (h : ∀ M', zgf 1529 M M' → rX M' (s0 (anv a)) → zn M' = 1538 → zs M' = zs M + 112630 → P M') : ycV d nX8_init [.ref 1529, .int a] M P := by
  obtain ⟨d, rfl, he⟩ := dS hd
  have c1 : (37200 : Int32).toNatClampNeg = 37200 := by decide
  have c2 : (372 : Int32).toNatClampNeg = 372 := by decide
  have c3 : (4 : Int32).toNatClampNeg = 4 := by decide
  have c4 : (625 : Int32).toNatClampNeg = 625 := by decide
  have c5 : (25 : Int32).toNatClampNeg = 25 := by decide
  refine en_X8_init _ _ M (sg_X8_init_0 _ _ M ?_)
  rw [c1, c2, c3, c4, c5]
  have al : ∀ (N : zM) (kd len : Nat), 1529 < zn N → zsh N 1529 = (16, 0) → (zsh (zal N (kd, len) len) 1529).1 = 16 := fun N kd len h1 h2 => by
    rw [zsh_al, if_neg (by omega), h2]
  have keep : ∀ (N : zM) (kd len j : Nat), 1529 < zn N → zsh N 1529 = (16, 0) → zsh (i8 N kd len j) 1529 = (16, 0) := fun N kd len j h1 h2 => by
    rw [i8_sh, if_neg (by omega), h2]
  refine ⟨by omega, by decide, by omega, ?_⟩
  intro n1 M2
  refine ⟨al M 2 37200 (by omega) hs, ?_⟩
  intro M3
  have e3 : M3 = i8 M 2 37200 3 := rfl
  clear_value M3
  have n3 : zn M3 = 1531 := by rw [e3, i8_n, hn]
  have k3 : zsh M3 1529 = (16, 0) := by rw [e3]; exact keep M _ _ _ (by omega) hs
  refine ⟨by decide, by omega, ?_⟩
  intro n4 M5
  refine ⟨al M3 2 37200 (by omega) k3, ?_⟩
  intro M6
  have e6 : M6 = i8 M3 2 37200 4 := rfl
  clear_value M6
  have n6 : zn M6 = 1532 := by rw [e6, i8_n, n3]
  have k6 : zsh M6 1529 = (16, 0) := by rw [e6]; exact keep M3 _ _ _ (by omega) k3
  refine ⟨by decide, by omega, ?_⟩
  intro n7 M8
  refine ⟨al M6 2 37200 (by omega) k6, ?_⟩
  intro M9
  have e9 : M9 = i8 M6 2 37200 5 := rfl
  clear_value M9
  have n9 : zn M9 = 1533 := by rw [e9, i8_n, n6]
  have k9 : zsh M9 1529 = (16, 0) := by rw [e9]; exact keep M6 _ _ _ (by omega) k6
  refine ⟨by decide, by omega, ?_⟩
  intro n10 M11
  refine ⟨al M9 2 372 (by omega) k9, ?_⟩
  intro M12
  have e12 : M12 = i8 M9 2 372 6 := rfl
  clear_value M12
  have n12 : zn M12 = 1534 := by rw [e12, i8_n, n9]
  have k12 : zsh M12 1529 = (16, 0) := by rw [e12]; exact keep M9 _ _ _ (by omega) k9
  refine ⟨by decide, by omega, ?_⟩
  intro n13 M14
  refine ⟨al M12 2 4 (by omega) k12, ?_⟩
  intro M15
  have e15 : M15 = i8 M12 2 4 15 := rfl
  clear_value M15
  have n15 : zn M15 = 1535 := by rw [e15, i8_n, n12]
  have k15 : zsh M15 1529 = (16, 0) := by rw [e15]; exact keep M12 _ _ _ (by omega) k12
  refine ⟨by decide, by omega, ?_⟩
  intro n16 M17
  refine ⟨al M15 2 4 (by omega) k15, ?_⟩
  intro M18
  have e18 : M18 = i8 M15 2 4 18 := rfl
  clear_value M18
  have n18 : zn M18 = 1536 := by rw [e18, i8_n, n15]
  have k18 : zsh M18 1529 = (16, 0) := by rw [e18]; exact keep M15 _ _ _ (by omega) k15
  refine ⟨by decide, by omega, ?_⟩
  intro n19 M20
  refine ⟨al M18 4 625 (by omega) k18, ?_⟩
  intro M21
  have e21 : M21 = i8 M18 4 625 23 := rfl
  clear_value M21
  have n21 : zn M21 = 1537 := by rw [e21, i8_n, n18]
  have k21 : zsh M21 1529 = (16, 0) := by rw [e21]; exact keep M18 _ _ _ (by omega) k18
  refine ⟨by decide, by omega, ?_⟩
  intro n22 M23
  refine ⟨al M21 4 25 (by omega) k21, ?_⟩
  intro M24
  have e24 : M24 = i8 M21 4 25 27 := rfl
  clear_value M24
  have n24 : zn M24 = 1538 := by rw [e24, i8_n, n21]
  have k24 : zsh M24 1529 = (16, 0) := by rw [e24]; exact keep M21 _ _ _ (by omega) k21
  have s24' : zs M24 = zs M + 37200 + 37200 + 37200 + 372 + 4 + 4 + 625 + 25 := by rw [e24, i8_s, e21, i8_s, e18, i8_s, e15, i8_s, e12, i8_s, e9, i8_s, e6, i8_s, e3, i8_s]
  have s24 : zs M24 = zs M + 112630 := by omega
  have g24 : zgf 1529 M M24 := by
    have a1 : zgf 1529 M M3 := by rw [e3]; exact i8_g (by omega)
    have a2 : zgf 1529 M3 M6 := by rw [e6]; exact i8_g (by omega)
    have a3 : zgf 1529 M6 M9 := by rw [e9]; exact i8_g (by omega)
    have a4 : zgf 1529 M9 M12 := by rw [e12]; exact i8_g (by omega)
    have a5 : zgf 1529 M12 M15 := by rw [e15]; exact i8_g (by omega)
    have a6 : zgf 1529 M15 M18 := by rw [e18]; exact i8_g (by omega)
    have a7 : zgf 1529 M18 M21 := by rw [e21]; exact i8_g (by omega)
    have a8 : zgf 1529 M21 M24 := by rw [e24]; exact i8_g (by omega)
    exact zgf_tr a1 (zgf_tr a2 (zgf_tr a3 (zgf_tr a4 (zgf_tr a5 (zgf_tr a6 (zgf_tr a7 a8))))))
  have R24 : ∀ i, zR M24 1529 i = if i = 27 then 1537 else if i = 23 then 1536 else if i = 18 then 1535 else if i = 15 then 1534 else if i = 6 then 1533 else if i = 5 then 1532 else if i = 4 then 1531 else if i = 3 then 1530 else zR M 1529 i := fun i => by
    rw [e24, i8_R, n21, if_neg (show ¬ 1529 = 1537 by omega), e21, i8_R, n18, if_neg (show ¬ 1529 = 1536 by omega), e18, i8_R, n15, if_neg (show ¬ 1529 = 1535 by omega), e15, i8_R, n12, if_neg (show ¬ 1529 = 1534 by omega), e12, i8_R, n9, if_neg (show ¬ 1529 = 1533 by omega), e9, i8_R, n6, if_neg (show ¬ 1529 = 1532 by omega), e6, i8_R, n3, if_neg (show ¬ 1529 = 1531 by omega), e3, i8_R, hn, if_neg (show ¬ 1529 = 1530 by omega)]
    simp only [true_and]
  have S24 : ∀ x, zsh M24 x = if x = 1537 then (4, 25) else if x = 1536 then (4, 625) else if x = 1535 then (2, 4) else if x = 1534 then (2, 4) else if x = 1533 then (2, 372) else if x = 1532 then (2, 37200) else if x = 1531 then (2, 37200) else if x = 1530 then (2, 37200) else zsh M x := fun x => by
    rw [e24, i8_sh, n21, e21, i8_sh, n18, e18, i8_sh, n15, e15, i8_sh, n12, e12, i8_sh, n9, e9, i8_sh, n6, e6, i8_sh, n3, e3, i8_sh, hn]
  have I24 : ∀ x i, zI M24 x i = if x = 1537 then 0 else if x = 1536 then 0 else if x = 1535 then 0 else if x = 1534 then 0 else if x = 1533 then 0 else if x = 1532 then 0 else if x = 1531 then 0 else if x = 1530 then 0 else zI M x i := fun x i => by
    rw [e24, i8_I, n21, e21, i8_I, n18, e18, i8_I, n15, e15, i8_I, n12, e12, i8_I, n9, e9, i8_I, n6, e6, i8_I, n3, e3, i8_I, hn]
  have hI29 : ∀ i, zI M24 1529 i = 0 := fun i => by rw [I24]; exact hz i
  have hI33 : ∀ i, zI M24 1533 i = 0 := fun i => by rw [I24]; rfl
  have hI34 : ∀ i, zI M24 1534 i = 0 := fun i => by rw [I24]; rfl
  have m24 : mst M24 := ⟨by rw [k24], ⟨by rw [R24]; rfl, by rw [R24]; rfl, by rw [R24]; rfl, by rw [R24]; rfl, by rw [R24]; rfl, by rw [R24]; rfl, by rw [R24]; rfl, by rw [R24]; rfl⟩, ⟨by rw [S24]; rfl, by rw [S24]; rfl, by rw [S24]; rfl, by rw [S24]; rfl⟩, by rw [S24]; rfl, by rw [S24]; rfl, by rw [S24]; rfl, by rw [S24]; rfl⟩
  clear e3 e6 e9 e12 e15 e18 e21 e24
  -- the number of variables
  have fin : ∀ (v : Int32) (nv : Nat) (o1 : Option Value), v = nI nv → anv a = nv → 1 ≤ nv ∧ nv ≤ 4 → wX8_init d (fun r M2 => r = [] ∧ P M2) 46 [some (.ref 1529), o1] [.int v, .ref 1529] M24 := fun v nv o1 hv hnv h14 => by
    refine sg_X8_init_46 _ _ _ _ _ ⟨by rw [k24], ?_⟩
    intro M25
    refine ⟨by rw [k24], by rw [k24], ?_⟩
    intro M26
    have m25 : M25 = zuI M24 1529 0 (nI nv) := by rw [show M25 = zuI M24 1529 0 v from rfl, hv]
    have m26 : M26 = zuI M25 1529 1 (nI nv) := by rw [show M26 = zuI M25 1529 1 (zI M25 1529 0) from rfl, m25, zI_uI, if_pos ⟨rfl, rfl⟩]
    clear_value M25 M26
    have hfr : rfr TN (fun j => j = 0 ∨ j = 1) GN M24 M26 := by rw [m26, m25]; exact rfr_tr (rfr_F (Or.inl rfl)) (rfr_F (Or.inr rfl))
    have F : ∀ j, j ≠ 0 → j ≠ 1 → zI M26 1529 j = 0 := fun j h0 h1 => by rw [hfr.2.2.2.2.2.2.1 j (by omega)]; exact hI29 j
    have hg : zgf 1529 M24 M26 := fun x hx => ⟨hfr.1 x, fun j => hfr.2.2.2.2.2.1 x j (Or.inl hx), fun j => hfr.2.2.2.2.1 x j, fun j => hfr.2.2.2.1 x j⟩
    refine ⟨rfl, h M26 (zgf_tr g24 hg) ?_ (by rw [hfr.2.1]; exact n24) (by rw [hfr.2.2.1]; exact s24)⟩
    rw [hnv]
    refine ⟨⟨mst_fr hfr m24, h14, Nat.zero_le _, ⟨List.length_replicate, fun L hL => ?_⟩, ⟨Nat.zero_le _, fun L hL => absurd hL List.not_mem_nil⟩, fun z => (by cases z), fun z => (by cases z)⟩, ⟨?_, ⟨?_, ?_, Nat.zero_le _, h14⟩, ?_, ?_, fun z => (by cases z)⟩, fun i L hi => ?_, fun i L hi => (by have hi : ([] : List aP)[i]? = some L := hi; cases hi), fun z => (by cases z), ⟨?_, ?_, ?_, ?_⟩, fun z => (by cases z)⟩
    · rw [(List.mem_replicate.mp hL).2]
      exact pgd_nil
    · show zI M26 1529 0 = nI nv
      rw [m26, zI_uI, if_neg (by omega), m25, zI_uI, if_pos ⟨rfl, rfl⟩]
    · show zI M26 1529 1 = nI nv
      rw [m26, zI_uI, if_pos ⟨rfl, rfl⟩]
    · exact F 2 (by omega) (by omega)
    · exact F 7 (by omega) (by omega)
    · exact F 9 (by omega) (by omega)
    · have hi : (List.replicate 40 ([] : aP))[i]? = some L := hi
      rw [List.getElem?_replicate] at hi
      split at hi
      · cases hi
        refine qdy_0 ?_
        rw [hfr.2.2.2.2.2.2.2.2 i (fun z => z)]
        exact hI33 i
      · cases hi
    · show zI M26 1534 0 = 0
      rw [hfr.2.2.2.2.2.1 1534 _ (Or.inr ⟨by omega, fun z => z⟩)]
      exact hI34 _
    · show zI M26 1534 1 = 0
      rw [hfr.2.2.2.2.2.1 1534 _ (Or.inr ⟨by omega, fun z => z⟩)]
      exact hI34 _
    · show zI M26 1534 2 = 0
      rw [hfr.2.2.2.2.2.1 1534 _ (Or.inr ⟨by omega, fun z => z⟩)]
      exact hI34 _
    · show zI M26 1534 3 = 0
      rw [hfr.2.2.2.2.2.1 1534 _ (Or.inr ⟨by omega, fun z => z⟩)]
      exact hI34 _
  have t1 : (1 : Int32).toInt = 1 := by decide
  have t4 : (4 : Int32).toInt = 4 := by decide
  refine sg_X8_init_34 _ _ _ ⟨fun c => ⟨fun c2 => ?_, fun c2 => ?_⟩, fun c => ?_⟩
  · have c := Int32.le_iff_toInt_le.mp c
    have c2 := Int32.le_iff_toInt_le.mp c2
    rw [t1] at c
    rw [t4] at c2
    refine fin a a.toInt.toNat _ ?_ ?_ (by omega)
    · apply Int32.toInt_inj.mp
      rw [nI_toInt (by omega)]
      omega
    · unfold anv
      rw [if_neg (by omega), if_neg (by omega)]
  · have c := Int32.le_iff_toInt_le.mp c
    have c2 : ¬ a.toInt ≤ (4 : Int32).toInt := fun z => c2 (Int32.le_iff_toInt_le.mpr z)
    rw [t1] at c
    rw [t4] at c2
    refine fin 4 4 _ rfl ?_ (by omega)
    unfold anv
    rw [if_neg (by omega), if_pos (by omega)]
  · have c : ¬ (1 : Int32).toInt ≤ a.toInt := fun z => c (Int32.le_iff_toInt_le.mpr z)
    rw [t1] at c
    refine fin 1 1 _ rfl ?_ (by omega)
    unfold anv
    rw [if_pos (by omega)]
theorem sp_cell {d L : Nat} {M : zM} {P : Int32 → zM → Prop} (hd : 1 ≤ d) (hs : zsh M 1 = (1, L)) (hL : L ≤ 3073) (h : P (if L = 0 then 0 else zI M 1 0) M) : ycI d nL_cell [.ref 1, .int 0] M P := by
  obtain ⟨d, rfl, he⟩ := dS hd
  refine en_L_cell _ _ M (sg_L_cell_0 _ _ M ⟨rfl, ?_⟩)
  rw [hs]
  refine ⟨fun z => ⟨_, rfl, ?_⟩, fun z => ⟨rfl, ?_, _, rfl, ?_⟩⟩
  · have z : nI L ≤ nI 0 := z
    have := (nI_leI (by omega) (by omega)).mp z
    rw [if_pos (by omega)] at h
    exact h
  · have z : ¬ nI L ≤ nI 0 := z
    have z : ¬ L ≤ 0 := fun y => z ((nI_leI (by omega) (by omega)).mpr y)
    exact zin_n (j := 0) (by show 0 < L; omega) (by show L < 2 ^ 31; omega)
  · have z : ¬ nI L ≤ nI 0 := z
    have z : ¬ L ≤ 0 := fun y => z ((nI_leI (by omega) (by omega)).mpr y)
    rw [if_neg (by omega)] at h
    exact h
theorem rX_zfc {M M' : zM} {s : aX} (h : zfc M M') (hx : rX M s) : rX M' s := by
  obtain ⟨⟨⟨hm1, ⟨r3, r4, r5, r6, r15, r18, r23, r27⟩, ⟨k0, k1, k2, k3⟩, s4, s5, s6, s7⟩, hg⟩, ⟨f0, ⟨v1, v2, v3⟩, f7, f9, f8⟩, hP, hGs, hE, ⟨d0, d1, d2, d3⟩, hQ⟩ := hx
  have I : ∀ a j, 1529 ≤ a → zI M' a j = zI M a j := fun a j ha => (h.2.2.2 a (Or.inr ha)).1 j
  have R : ∀ j, zR M' 1529 j = zR M 1529 j := fun j => (h.2.2.2 1529 (Or.inr (Nat.le_refl _))).2.2 j
  have q : ∀ p L, qdy M p L → qdy M' p L := fun p L hq => ⟨by rw [I 1533 _ (by omega)]; exact hq.1, fun j t hj => by rw [I 1530 _ (by omega), I 1531 _ (by omega), I 1532 _ (by omega)]; exact hq.2 j t hj⟩
  exact ⟨⟨⟨by rw [h.1]; exact hm1, ⟨by rw [R]; exact r3, by rw [R]; exact r4, by rw [R]; exact r5, by rw [R]; exact r6, by rw [R]; exact r15, by rw [R]; exact r18, by rw [R]; exact r23, by rw [R]; exact r27⟩, ⟨by rw [h.1]; exact k0, by rw [h.1]; exact k1, by rw [h.1]; exact k2, by rw [h.1]; exact k3⟩, by rw [h.1]; exact s4, by rw [h.1]; exact s5, by rw [h.1]; exact s6, by rw [h.1]; exact s7⟩, hg⟩, ⟨by rw [I _ _ (by omega)]; exact f0, ⟨by rw [I _ _ (by omega)]; exact v1, by rw [I _ _ (by omega)]; exact v2, v3⟩, by rw [I _ _ (by omega)]; exact f7, by rw [I _ _ (by omega)]; exact f9, fun z => ⟨by rw [I _ _ (by omega)]; exact (f8 z).1, by rw [I _ _ (by omega)]; exact (f8 z).2⟩⟩, fun i L hi => q _ _ (hP i L hi), fun i L hi => q _ _ (hGs i L hi), fun z i E hiE => ⟨q _ _ (hE z i E hiE).1, fun g hgs => q _ _ ((hE z i E hiE).2 g hgs)⟩, ⟨by rw [I _ _ (by omega)]; exact d0, by rw [I _ _ (by omega)]; exact d1, by rw [I _ _ (by omega)]; exact d2, by rw [I _ _ (by omega)]; exact d3⟩, fun z z2 i hi => q _ _ (hQ z z2 i hi)⟩
theorem xX_zfm {M M' : zM} {s : aX} {D F : Nat} {e e2 : Nat → Nat} (hm : zfm M M') (hx : xX M s D F e e2) : xX M' s D F e e2 := by
  have h : zfr (fun a => 1529 ≤ a) M M' := ⟨hm.1, hm.2.1, hm.2.2.1, hm.2.2.2.1, fun a ha => ⟨fun j => hm.2.2.2.2.2 a j (by omega), fun j => hm.2.2.2.2.1 a j⟩⟩
  obtain ⟨ok, hS, ⟨n1, n2, n3, n4, n5⟩, hP, hG, hE, ⟨d1, d2, d3, d4⟩, hQ⟩ := hx
  have hD := hS.2.2.2.2.2.1.2.2
  have f2 := h.2.2.2.2 2 (by omega)
  have f3 := h.2.2.2.2 3 (by omega)
  have f202 := h.2.2.2.2 202 (by omega)
  refine ⟨ok, xS_fr h hS, ⟨by rw [f3.1]; exact n1, by rw [f2.1]; exact n2, by rw [f2.1]; exact n3, by rw [f2.1]; exact n4, by rw [f2.1]; exact n5⟩, fun i L hi => pdy_fr h (fun a ha => ?_) (hP i L hi), fun i L hi => pdy_fr h (fun a ha => ?_) (hG i L hi), fun hh => ⟨icn_fr h (by omega) (hE hh).1, iel_fr h hS.2.2.2.2.1.1 (ok.2.2.2.2.1 hh).1 ok.2.2.2.1.1 (ok.2.2.2.2.1 hh).2 (fun i hi a ha => ?_) (hE hh).2⟩, ⟨by rw [f202.1]; exact d1, by rw [f202.1]; exact d2, by rw [f202.1]; exact d3, by rw [f202.1]; exact d4⟩, fun hh hp i q hi => pdy_fr h (fun a ha => ?_) (hQ hh hp i q hi)⟩
  · have := (List.getElem?_eq_some_iff.mp hi).1
    rw [ok.2.2.1.1] at this
    unfold inP at ha
    omega
  · have := (List.getElem?_eq_some_iff.mp hi).1
    have := ok.2.2.2.1.1
    unfold inP at ha
    omega
  · have hl := (ok.2.2.2.2.1 hh).2
    have := hS.2.2.2.2.1.1.2.2.1.1 i (by omega)
    unfold inE at ha
    omega
  · have := (List.getElem?_eq_some_iff.mp hi).1
    have := (ok.2.2.2.2.2 hh hp).1
    have := (ok.2.2.2.2.1 hh).2
    unfold inP at ha
    omega
theorem xX_0 {M M' : zM} {nv : Nat} {e e2 : Nat → Nat} (h : zgf 1529 M M') (hx : xX M (s0 nv) 1308 1414 e e2) : xX M' (s0 nv) 1308 1414 e e2 := by
  obtain ⟨ok, hS, ⟨n1, n2, n3, n4, n5⟩, hP, hG, hE, ⟨d1, d2, d3, d4⟩, hQ⟩ := hx
  obtain ⟨⟨h1, h1'⟩, ⟨r1, r2, r3, r5, r7, r8, r9, r11, r12, r13⟩, h3, h4, ⟨h5, h5'⟩, ⟨h6, h6', h6''⟩, h7, h8, h9⟩ := hS
  have S : ∀ a, a < 1529 → zsh M' a = zsh M a := fun a ha => (h a ha).1
  have I : ∀ a j, a < 1529 → zI M' a j = zI M a j := fun a j ha => (h a ha).2.1 j
  have R : ∀ a j, a < 1529 → zR M' a j = zR M a j := fun a j ha => (h a ha).2.2.2 j
  refine ⟨ok, ⟨⟨by rw [S _ (by omega)]; exact h1, by rw [S _ (by omega)]; exact h1'⟩, ⟨by rw [R _ _ (by omega)]; exact r1, by rw [R _ _ (by omega)]; exact r2, by rw [R _ _ (by omega)]; exact r3, by rw [R _ _ (by omega)]; exact r5, by rw [R _ _ (by omega)]; exact r7, by rw [R _ _ (by omega)]; exact r8, by rw [R _ _ (by omega)]; exact r9, by rw [R _ _ (by omega)]; exact r11, by rw [R _ _ (by omega)]; exact r12, by rw [R _ _ (by omega)]; exact r13⟩, ⟨by rw [S _ (by omega)]; exact h3.1, fun i hi => ⟨by rw [R _ _ (by omega)]; exact (h3.2 i hi).1, pst_g h (by omega) (h3.2 i hi).2⟩⟩, gst_g h (by omega) h4, ⟨ist_g h (by omega) h5, ist_g h (by omega) h5'⟩, ⟨dst_g h (by omega) h6, dst_g h (by omega) h6', h6''⟩, pst_g h (by omega) h7, pst_g h (by omega) h8, by rw [S _ (by omega)]; exact h9⟩, ⟨by rw [I _ _ (by omega)]; exact n1, by rw [I _ _ (by omega)]; exact n2, by rw [I _ _ (by omega)]; exact n3, by rw [I _ _ (by omega)]; exact n4, by rw [I _ _ (by omega)]; exact n5⟩, fun i L hi => ?_, fun i L hi => (by have hi : ([] : List aP)[i]? = some L := hi; cases hi), fun z => (by cases z), ⟨by rw [I _ _ (by omega)]; exact d1, by rw [I _ _ (by omega)]; exact d2, by rw [I _ _ (by omega)]; exact d3, by rw [I _ _ (by omega)]; exact d4⟩, fun z => (by cases z)⟩
  have hp := hP i L hi
  have hi : (List.replicate 40 ([] : aP))[i]? = some L := hi
  rw [List.getElem?_replicate] at hi
  split at hi
  · cases hi
    exact ⟨by rw [I _ _ (by omega)]; exact hp.1, fun j t hj => by cases hj⟩
  · cases hi
/-- the law holds of every script, in its room -/
theorem law_ok {L : Nat} {M : zM} (hL : L ≤ 3073) (hs1 : zsh M 1 = (1, L)) (hn0 : zn M = 2) (hs0 : zs M = 0) : zCl gTb 11 nL_law [.ref 1] M (fun r M' => r = [.int 1] ∧ zn M' ≤ 600000 ∧ zs M' ≤ 7302250) := by
  have loop : ∀ (n i : Nat) (s : aX) (M : zM) (D F : Nat) (e e2 : Nat → Nat), L + 1 ≤ i + n → i ≤ L + 6 → zsh M 1 = (1, L) → zn M = 1538 → zs M ≤ 300000 → xX M s D F e e2 → rX M s → wL_law 10 (fun r M' => r = [.int 1] ∧ zn M' ≤ 600000 ∧ zs M' ≤ 7302250) 16 [some (.ref 1), some (.ref 2), some (.ref 1529), some (.int (nI i))] [] M := by
    intro n
    induction n with
    | zero =>
      intro i s M D F e e2 hi hi2 hsh hn hs hx hr
      refine sg_L_law_16 _ _ _ _ _ ⟨rfl, ?_⟩
      rw [hsh]
      have tl : (nI L - 6).toInt = L - 6 := by rw [ti_sub (by rw [nI_toInt (by omega), show (6 : Int32).toInt = 6 by decide]; omega), nI_toInt (by omega)]; rfl
      refine ⟨fun _ => sg_L_law_564 _ _ _ _ _ ⟨Or.inr rfl, rfl, by omega, by omega⟩, fun z => absurd (show nI L - 6 < nI i from Int32.lt_iff_toInt_lt.mpr (by rw [tl, nI_toInt (by omega)]; omega)) z⟩
    | succ n ih =>
      intro i s M D F e e2 hi hi2 hsh hn hs hx hr
      have tl : (nI L - 6).toInt = L - 6 := by rw [ti_sub (by rw [nI_toInt (by omega), show (6 : Int32).toInt = 6 by decide]; omega), nI_toInt (by omega)]; rfl
      refine sg_L_law_16 _ _ _ _ _ ⟨rfl, ?_⟩
      rw [show (Int32.ofNat (zsh M 1).2) = nI L by rw [hsh]; rfl]
      refine ⟨fun _ => sg_L_law_564 _ _ _ _ _ ⟨Or.inr rfl, rfl, by omega, by omega⟩, fun z => ⟨rfl, ?_⟩⟩
      have z : ¬ ((L : Int) - 6 < i) := fun y => z (Int32.lt_iff_toInt_lt.mpr (by rw [tl, nI_toInt (by omega)]; exact y))
      have hiL : i + 6 ≤ L := by omega
      have hzk : ∀ k, k ≤ 5 → zin (nI i + nI k) (zsh M 1).2 := fun k hk => by
        rw [hsh, nI_add]
        show zin (nI (i + k)) L
        exact zin_n (by omega) (by omega)
      have hz1 : zin (nI i + 1) (zsh M 1).2 := hzk 1 (by omega)
      have hz2 : zin (nI i + 2) (zsh M 1).2 := hzk 2 (by omega)
      have hz3 : zin (nI i + 3) (zsh M 1).2 := hzk 3 (by omega)
      have hz4 : zin (nI i + 4) (zsh M 1).2 := hzk 4 (by omega)
      have hz5 : zin (nI i + 5) (zsh M 1).2 := hzk 5 (by omega)
      have nxt : ∀ (s' : aX) (M3 : zM) (D' F' : Nat) (e' e2' : Nat → Nat), zsh M3 1 = (1, L) → zn M3 = 1538 → zs M3 ≤ 300000 → xX M3 s' D' F' e' e2' → rX M3 s' → wL_law 10 (fun r M' => r = [.int 1] ∧ zn M' ≤ 600000 ∧ zs M' ≤ 7302250) 562 [some (.ref 1), some (.ref 2), some (.ref 1529), some (.int (nI i))] [] M3 := fun s' M3 D' F' e' e2' a1 a2 a3 a4 a5 => by
        refine sg_L_law_562 _ _ _ _ _ ?_
        intro v3
        rw [show v3 = nI (i + 6) from nI_add i 6]
        exact ih (i + 6) s' M3 D' F' e' e2' (by omega) (by omega) a1 a2 a3 a4 a5
      have go : ∀ (s' : aX) (M1 M3 : zM) (D' F' : Nat) (e' e2' : Nat → Nat), xX M1 s' D' F' e' e2' → zfc M M1 → rX M3 s' → zfm M1 M3 → wL_law 10 (fun r M' => r = [.int 1] ∧ zn M' ≤ 600000 ∧ zs M' ≤ 7302250) 562 [some (.ref 1), some (.ref 2), some (.ref 1529), some (.int (nI i))] [] M3 := fun s' M1 M3 D' F' e' e2' a1 a2 a3 a4 => nxt s' M3 D' F' e' e2' (by rw [a4.1, a2.1]; exact hsh) (by rw [a4.2.1, a2.2.1]; exact hn) (by rw [a4.2.2.1, a2.2.2.1]; exact hs) (xX_zfm a4 a1) a3
      have c_variables : wL_law 10 (fun r M' => r = [.int 1] ∧ zn M' ≤ 600000 ∧ zs M' ≤ 7302250) 28 [some (.ref 1), some (.ref 2), some (.ref 1529), some (.int (nI i))] [] M := by
        refine sg_L_law_28 _ _ _ _ _ ⟨hx.2.1.1.1, cX_variables (Nat.le_refl _) hx fun M1 D1 F1 e1 e21 hx1 hf1 => ?_⟩
        have sh1 := hf1.1 1
        have hr1 := rX_zfc hf1 hr
        refine ⟨hr1.1.1.1, ?_⟩
        exact cR_variables (Nat.le_refl _) hr1 fun M3 hr3 hf3 => ⟨fun _ => go _ M1 M3 D1 F1 e1 e21 hx1 hf1 hr3 hf3, fun z => absurd rfl z⟩
      have c_order : wL_law 10 (fun r M' => r = [.int 1] ∧ zn M' ≤ 600000 ∧ zs M' ≤ 7302250) 35 [some (.ref 1), some (.ref 2), some (.ref 1529), some (.int (nI i))] [] M := by
        refine sg_L_law_35 _ _ _ _ _ ⟨rfl, hz1, hx.2.1.1.1, cX_order (Nat.le_refl _) hx fun M1 D1 F1 e1 e21 hx1 hf1 => ?_⟩
        have sh1 := hf1.1 1
        have hr1 := rX_zfc hf1 hr
        have row1 : ∀ j, zI M1 1 j = zI M 1 j := fun j => (hf1.2.2.2 1 (Or.inl (by omega))).1 j
        refine ⟨rfl, by rw [sh1]; exact hz1, hr1.1.1.1, ?_⟩
        simp only [row1]
        exact cR_order (Nat.le_refl _) hr1 fun M3 hr3 hf3 => ⟨fun _ => go _ M1 M3 D1 F1 e1 e21 hx1 hf1 hr3 hf3, fun z => absurd rfl z⟩
      have c_term : wL_law 10 (fun r M' => r = [.int 1] ∧ zn M' ≤ 600000 ∧ zs M' ≤ 7302250) 52 [some (.ref 1), some (.ref 2), some (.ref 1529), some (.int (nI i))] [] M := by
        refine sg_L_law_52 _ _ _ _ _ ⟨rfl, hz1, rfl, hz2, rfl, hz3, rfl, hz4, hx.2.1.1.1, cX_term (Nat.le_refl _) hx fun M1 D1 F1 e1 e21 hx1 hf1 => ?_⟩
        have sh1 := hf1.1 1
        have hr1 := rX_zfc hf1 hr
        have row1 : ∀ j, zI M1 1 j = zI M 1 j := fun j => (hf1.2.2.2 1 (Or.inl (by omega))).1 j
        refine ⟨rfl, by rw [sh1]; exact hz1, rfl, by rw [sh1]; exact hz2, rfl, by rw [sh1]; exact hz3, rfl, by rw [sh1]; exact hz4, hr1.1.1.1, ?_⟩
        simp only [row1]
        exact cR_term (Nat.le_refl _) hr1 fun M3 hr3 hf3 => ⟨fun _ => go _ M1 M3 D1 F1 e1 e21 hx1 hf1 hr3 hf3, fun z => absurd rfl z⟩
      have c_zero : wL_law 10 (fun r M' => r = [.int 1] ∧ zn M' ≤ 600000 ∧ zs M' ≤ 7302250) 99 [some (.ref 1), some (.ref 2), some (.ref 1529), some (.int (nI i))] [] M := by
        refine sg_L_law_99 _ _ _ _ _ ⟨rfl, hz1, hx.2.1.1.1, cX_zero (Nat.le_refl _) hx fun M1 D1 F1 e1 e21 hx1 hf1 => ?_⟩
        have sh1 := hf1.1 1
        have hr1 := rX_zfc hf1 hr
        have row1 : ∀ j, zI M1 1 j = zI M 1 j := fun j => (hf1.2.2.2 1 (Or.inl (by omega))).1 j
        refine ⟨rfl, by rw [sh1]; exact hz1, hr1.1.1.1, ?_⟩
        simp only [row1]
        exact cR_zero (Nat.le_refl _) hr1 fun M3 hr3 hf3 => ⟨fun _ => go _ M1 M3 D1 F1 e1 e21 hx1 hf1 hr3 hf3, fun z => absurd rfl z⟩
      have c_size : wL_law 10 (fun r M' => r = [.int 1] ∧ zn M' ≤ 600000 ∧ zs M' ≤ 7302250) 116 [some (.ref 1), some (.ref 2), some (.ref 1529), some (.int (nI i))] [] M := by
        refine sg_L_law_116 _ _ _ _ _ ⟨rfl, hz1, hx.2.1.1.1, cX_size (Nat.le_refl _) hx fun M1 D1 F1 e1 e21 hx1 hf1 => ?_⟩
        have sh1 := hf1.1 1
        have hr1 := rX_zfc hf1 hr
        have row1 : ∀ j, zI M1 1 j = zI M 1 j := fun j => (hf1.2.2.2 1 (Or.inl (by omega))).1 j
        refine ⟨rfl, by rw [sh1]; exact hz1, hr1.1.1.1, ?_⟩
        simp only [row1]
        exact cR_size (Nat.le_refl _) hr1 fun M3 hr3 hf3 => ⟨fun _ => go _ M1 M3 D1 F1 e1 e21 hx1 hf1 hr3 hf3, fun z => absurd rfl z⟩
      have c_told : wL_law 10 (fun r M' => r = [.int 1] ∧ zn M' ≤ 600000 ∧ zs M' ≤ 7302250) 133 [some (.ref 1), some (.ref 2), some (.ref 1529), some (.int (nI i))] [] M := by
        refine sg_L_law_133 _ _ _ _ _ ⟨rfl, hz1, rfl, hz2, rfl, hz3, hx.2.1.1.1, cX_told (Nat.le_refl _) hx fun M1 D1 F1 e1 e21 hx1 hf1 => ?_⟩
        have sh1 := hf1.1 1
        have hr1 := rX_zfc hf1 hr
        have row1 : ∀ j, zI M1 1 j = zI M 1 j := fun j => (hf1.2.2.2 1 (Or.inl (by omega))).1 j
        refine ⟨rfl, by rw [sh1]; exact hz1, rfl, by rw [sh1]; exact hz2, rfl, by rw [sh1]; exact hz3, hr1.1.1.1, ?_⟩
        simp only [row1]
        exact cR_told (Nat.le_refl _) hr1 fun M3 hr3 hf3 => ⟨fun _ => go _ M1 M3 D1 F1 e1 e21 hx1 hf1 hr3 hf3, fun z => absurd rfl z⟩
      have c_plus : wL_law 10 (fun r M' => r = [.int 1] ∧ zn M' ≤ 600000 ∧ zs M' ≤ 7302250) 170 [some (.ref 1), some (.ref 2), some (.ref 1529), some (.int (nI i))] [] M := by
        refine sg_L_law_170 _ _ _ _ _ ⟨rfl, hz1, rfl, hz2, rfl, hz3, hx.2.1.1.1, cX_plus (Nat.le_refl _) hx fun M1 D1 F1 e1 e21 hx1 hf1 => ?_⟩
        have sh1 := hf1.1 1
        have hr1 := rX_zfc hf1 hr
        have row1 : ∀ j, zI M1 1 j = zI M 1 j := fun j => (hf1.2.2.2 1 (Or.inl (by omega))).1 j
        refine ⟨rfl, by rw [sh1]; exact hz1, rfl, by rw [sh1]; exact hz2, rfl, by rw [sh1]; exact hz3, hr1.1.1.1, ?_⟩
        simp only [row1]
        exact cR_plus (Nat.le_refl _) hr1 fun M3 hr3 hf3 => ⟨fun _ => go _ M1 M3 D1 F1 e1 e21 hx1 hf1 hr3 hf3, fun z => absurd rfl z⟩
      have c_times : wL_law 10 (fun r M' => r = [.int 1] ∧ zn M' ≤ 600000 ∧ zs M' ≤ 7302250) 207 [some (.ref 1), some (.ref 2), some (.ref 1529), some (.int (nI i))] [] M := by
        refine sg_L_law_207 _ _ _ _ _ ⟨rfl, hz1, rfl, hz2, rfl, hz3, hx.2.1.1.1, cX_times (Nat.le_refl _) hx fun M1 D1 F1 e1 e21 hx1 hf1 => ?_⟩
        have sh1 := hf1.1 1
        have hr1 := rX_zfc hf1 hr
        have row1 : ∀ j, zI M1 1 j = zI M 1 j := fun j => (hf1.2.2.2 1 (Or.inl (by omega))).1 j
        refine ⟨rfl, by rw [sh1]; exact hz1, rfl, by rw [sh1]; exact hz2, rfl, by rw [sh1]; exact hz3, hr1.1.1.1, ?_⟩
        simp only [row1]
        exact cR_times (Nat.le_refl _) hr1 fun M3 hr3 hf3 => ⟨fun _ => go _ M1 M3 D1 F1 e1 e21 hx1 hf1 hr3 hf3, fun z => absurd rfl z⟩
      have c_same : wL_law 10 (fun r M' => r = [.int 1] ∧ zn M' ≤ 600000 ∧ zs M' ≤ 7302250) 244 [some (.ref 1), some (.ref 2), some (.ref 1529), some (.int (nI i))] [] M := by
        refine sg_L_law_244 _ _ _ _ _ ⟨rfl, hz1, rfl, hz2, hx.2.1.1.1, cX_same (Nat.le_refl _) hx fun M1 D1 F1 e1 e21 hx1 hf1 => ?_⟩
        have sh1 := hf1.1 1
        have hr1 := rX_zfc hf1 hr
        have row1 : ∀ j, zI M1 1 j = zI M 1 j := fun j => (hf1.2.2.2 1 (Or.inl (by omega))).1 j
        refine ⟨rfl, by rw [sh1]; exact hz1, rfl, by rw [sh1]; exact hz2, hr1.1.1.1, ?_⟩
        simp only [row1]
        exact cR_same (Nat.le_refl _) hr1 fun M3 hr3 hf3 => ⟨fun _ => go _ M1 M3 D1 F1 e1 e21 hx1 hf1 hr3 hf3, fun z => absurd rfl z⟩
      have c_vanishes : wL_law 10 (fun r M' => r = [.int 1] ∧ zn M' ≤ 600000 ∧ zs M' ≤ 7302250) 271 [some (.ref 1), some (.ref 2), some (.ref 1529), some (.int (nI i))] [] M := by
        refine sg_L_law_271 _ _ _ _ _ ⟨rfl, hz1, rfl, hz2, rfl, hz3, rfl, hz4, rfl, hz5, hx.2.1.1.1, cX_vanishes (Nat.le_refl _) hx fun M1 D1 F1 e1 e21 hx1 hf1 => ?_⟩
        have sh1 := hf1.1 1
        have hr1 := rX_zfc hf1 hr
        have row1 : ∀ j, zI M1 1 j = zI M 1 j := fun j => (hf1.2.2.2 1 (Or.inl (by omega))).1 j
        refine ⟨rfl, by rw [sh1]; exact hz1, rfl, by rw [sh1]; exact hz2, rfl, by rw [sh1]; exact hz3, rfl, by rw [sh1]; exact hz4, rfl, by rw [sh1]; exact hz5, hr1.1.1.1, ?_⟩
        simp only [row1]
        exact cR_vanishes (Nat.le_refl _) hr1 fun M3 hr3 hf3 => ⟨fun _ => go _ M1 M3 D1 F1 e1 e21 hx1 hf1 hr3 hf3, fun z => absurd rfl z⟩
      have c_generator : wL_law 10 (fun r M' => r = [.int 1] ∧ zn M' ≤ 600000 ∧ zs M' ≤ 7302250) 328 [some (.ref 1), some (.ref 2), some (.ref 1529), some (.int (nI i))] [] M := by
        refine sg_L_law_328 _ _ _ _ _ ⟨rfl, hz1, hx.2.1.1.1, cX_generator (Nat.le_refl _) hx fun M1 D1 F1 e1 e21 hx1 hf1 => ?_⟩
        have sh1 := hf1.1 1
        have hr1 := rX_zfc hf1 hr
        have row1 : ∀ j, zI M1 1 j = zI M 1 j := fun j => (hf1.2.2.2 1 (Or.inl (by omega))).1 j
        refine ⟨rfl, by rw [sh1]; exact hz1, hr1.1.1.1, ?_⟩
        simp only [row1]
        exact cR_generator (Nat.le_refl _) hr1 fun M3 hr3 hf3 => ⟨fun _ => go _ M1 M3 D1 F1 e1 e21 hx1 hf1 hr3 hf3, fun z => absurd rfl z⟩
      have c_clear : wL_law 10 (fun r M' => r = [.int 1] ∧ zn M' ≤ 600000 ∧ zs M' ≤ 7302250) 345 [some (.ref 1), some (.ref 2), some (.ref 1529), some (.int (nI i))] [] M := by
        refine sg_L_law_345 _ _ _ _ _ ⟨hx.2.1.1.1, cX_clear (Nat.le_refl _) hx fun M1 D1 F1 e1 e21 hx1 hf1 => ?_⟩
        have sh1 := hf1.1 1
        have hr1 := rX_zfc hf1 hr
        refine ⟨hr1.1.1.1, ?_⟩
        exact cR_clear (Nat.le_refl _) hr1 fun M3 hr3 hf3 => ⟨fun _ => go _ M1 M3 D1 F1 e1 e21 hx1 hf1 hr3 hf3, fun z => absurd rfl z⟩
      have c_basis : wL_law 10 (fun r M' => r = [.int 1] ∧ zn M' ≤ 600000 ∧ zs M' ≤ 7302250) 352 [some (.ref 1), some (.ref 2), some (.ref 1529), some (.int (nI i))] [] M := by
        refine sg_L_law_352 _ _ _ _ _ ⟨rfl, hz1, hx.2.1.1.1, cX_basis (Nat.le_refl _) hx fun M1 D1 F1 e1 e21 hx1 hf1 => ?_⟩
        have sh1 := hf1.1 1
        have hr1 := rX_zfc hf1 hr
        have row1 : ∀ j, zI M1 1 j = zI M 1 j := fun j => (hf1.2.2.2 1 (Or.inl (by omega))).1 j
        refine ⟨rfl, by rw [sh1]; exact hz1, hr1.1.1.1, ?_⟩
        simp only [row1]
        exact cR_basis (Nat.le_refl _) hr1 fun M3 hr3 hf3 => ⟨fun _ => go _ M1 M3 D1 F1 e1 e21 hx1 hf1 hr3 hf3, fun z => absurd rfl z⟩
      have c_done : wL_law 10 (fun r M' => r = [.int 1] ∧ zn M' ≤ 600000 ∧ zs M' ≤ 7302250) 369 [some (.ref 1), some (.ref 2), some (.ref 1529), some (.int (nI i))] [] M := by
        refine sg_L_law_369 _ _ _ _ _ ⟨rfl, hz1, hx.2.1.1.1, cX_done (Nat.le_refl _) hx fun M1 D1 F1 e1 e21 hx1 hf1 => ?_⟩
        have sh1 := hf1.1 1
        have hr1 := rX_zfc hf1 hr
        have row1 : ∀ j, zI M1 1 j = zI M 1 j := fun j => (hf1.2.2.2 1 (Or.inl (by omega))).1 j
        refine ⟨rfl, by rw [sh1]; exact hz1, hr1.1.1.1, ?_⟩
        simp only [row1]
        exact cR_done (Nat.le_refl _) hr1 fun M3 hr3 hf3 => ⟨fun _ => go _ M1 M3 D1 F1 e1 e21 hx1 hf1 hr3 hf3, fun z => absurd rfl z⟩
      have c_element : wL_law 10 (fun r M' => r = [.int 1] ∧ zn M' ≤ 600000 ∧ zs M' ≤ 7302250) 386 [some (.ref 1), some (.ref 2), some (.ref 1529), some (.int (nI i))] [] M := by
        refine sg_L_law_386 _ _ _ _ _ ⟨rfl, hz1, rfl, hz2, hx.2.1.1.1, cX_element (Nat.le_refl _) hx fun M1 D1 F1 e1 e21 hx1 hf1 => ?_⟩
        have sh1 := hf1.1 1
        have hr1 := rX_zfc hf1 hr
        have row1 : ∀ j, zI M1 1 j = zI M 1 j := fun j => (hf1.2.2.2 1 (Or.inl (by omega))).1 j
        refine ⟨rfl, by rw [sh1]; exact hz1, rfl, by rw [sh1]; exact hz2, hr1.1.1.1, ?_⟩
        simp only [row1]
        exact cR_element (Nat.le_refl _) hr1 fun M3 hr3 hf3 => ⟨fun _ => go _ M1 M3 D1 F1 e1 e21 hx1 hf1 hr3 hf3, fun z => absurd rfl z⟩
      have c_share : wL_law 10 (fun r M' => r = [.int 1] ∧ zn M' ≤ 600000 ∧ zs M' ≤ 7302250) 413 [some (.ref 1), some (.ref 2), some (.ref 1529), some (.int (nI i))] [] M := by
        refine sg_L_law_413 _ _ _ _ _ ⟨rfl, hz1, rfl, hz2, rfl, hz3, hx.2.1.1.1, cX_share (Nat.le_refl _) hx fun M1 D1 F1 e1 e21 hx1 hf1 => ?_⟩
        have sh1 := hf1.1 1
        have hr1 := rX_zfc hf1 hr
        have row1 : ∀ j, zI M1 1 j = zI M 1 j := fun j => (hf1.2.2.2 1 (Or.inl (by omega))).1 j
        refine ⟨rfl, by rw [sh1]; exact hz1, rfl, by rw [sh1]; exact hz2, rfl, by rw [sh1]; exact hz3, hr1.1.1.1, ?_⟩
        simp only [row1]
        exact cR_share (Nat.le_refl _) hr1 fun M3 hr3 hf3 => ⟨fun _ => go _ M1 M3 D1 F1 e1 e21 hx1 hf1 hr3 hf3, fun z => absurd rfl z⟩
      have c_divide : wL_law 10 (fun r M' => r = [.int 1] ∧ zn M' ≤ 600000 ∧ zs M' ≤ 7302250) 450 [some (.ref 1), some (.ref 2), some (.ref 1529), some (.int (nI i))] [] M := by
        refine sg_L_law_450 _ _ _ _ _ ⟨rfl, hz1, rfl, hz2, hx.2.1.1.1, cX_divide (Nat.le_refl _) hx fun M1 D1 F1 e1 e21 hx1 hf1 => ?_⟩
        have sh1 := hf1.1 1
        have hr1 := rX_zfc hf1 hr
        have row1 : ∀ j, zI M1 1 j = zI M 1 j := fun j => (hf1.2.2.2 1 (Or.inl (by omega))).1 j
        refine ⟨rfl, by rw [sh1]; exact hz1, rfl, by rw [sh1]; exact hz2, hr1.1.1.1, ?_⟩
        simp only [row1]
        exact cR_divide (Nat.le_refl _) hr1 fun M3 hr3 hf3 => ⟨fun _ => go _ M1 M3 D1 F1 e1 e21 hx1 hf1 hr3 hf3, fun z => absurd rfl z⟩
      have c_certificate : wL_law 10 (fun r M' => r = [.int 1] ∧ zn M' ≤ 600000 ∧ zs M' ≤ 7302250) 477 [some (.ref 1), some (.ref 2), some (.ref 1529), some (.int (nI i))] [] M := by
        refine sg_L_law_477 _ _ _ _ _ ⟨rfl, hz1, rfl, hz2, hx.2.1.1.1, cX_certificate (Nat.le_refl _) hx fun M1 D1 F1 e1 e21 hx1 hf1 => ?_⟩
        have sh1 := hf1.1 1
        have hr1 := rX_zfc hf1 hr
        have row1 : ∀ j, zI M1 1 j = zI M 1 j := fun j => (hf1.2.2.2 1 (Or.inl (by omega))).1 j
        refine ⟨rfl, by rw [sh1]; exact hz1, rfl, by rw [sh1]; exact hz2, hr1.1.1.1, ?_⟩
        simp only [row1]
        exact cR_certificate (Nat.le_refl _) hr1 fun M3 hr3 hf3 => ⟨fun _ => go _ M1 M3 D1 F1 e1 e21 hx1 hf1 hr3 hf3, fun z => absurd rfl z⟩
      have c_check : wL_law 10 (fun r M' => r = [.int 1] ∧ zn M' ≤ 600000 ∧ zs M' ≤ 7302250) 504 [some (.ref 1), some (.ref 2), some (.ref 1529), some (.int (nI i))] [] M := by
        refine sg_L_law_504 _ _ _ _ _ ⟨hx.2.1.1.1, cX_check (Nat.le_refl _) hx fun M1 D1 F1 e1 e21 hx1 hf1 => ?_⟩
        have sh1 := hf1.1 1
        have hr1 := rX_zfc hf1 hr
        refine ⟨hr1.1.1.1, ?_⟩
        exact cR_check (Nat.le_refl _) hr1 fun M3 hr3 hf3 => ⟨fun _ => go _ M1 M3 D1 F1 e1 e21 hx1 hf1 hr3 hf3, fun z => absurd rfl z⟩
      have c_radical : wL_law 10 (fun r M' => r = [.int 1] ∧ zn M' ≤ 600000 ∧ zs M' ≤ 7302250) 511 [some (.ref 1), some (.ref 2), some (.ref 1529), some (.int (nI i))] [] M := by
        refine sg_L_law_511 _ _ _ _ _ ⟨rfl, hz1, rfl, hz2, hx.2.1.1.1, cX_radical (Nat.le_refl _) hx fun M1 D1 F1 e1 e21 hx1 hf1 => ?_⟩
        have sh1 := hf1.1 1
        have hr1 := rX_zfc hf1 hr
        have row1 : ∀ j, zI M1 1 j = zI M 1 j := fun j => (hf1.2.2.2 1 (Or.inl (by omega))).1 j
        refine ⟨rfl, by rw [sh1]; exact hz1, rfl, by rw [sh1]; exact hz2, hr1.1.1.1, ?_⟩
        simp only [row1]
        exact cR_radical (Nat.le_refl _) hr1 fun M3 hr3 hf3 => ⟨fun _ => go _ M1 M3 D1 F1 e1 e21 hx1 hf1 hr3 hf3, fun z => absurd rfl z⟩
      have c_free : wL_law 10 (fun r M' => r = [.int 1] ∧ zn M' ≤ 600000 ∧ zs M' ≤ 7302250) 538 [some (.ref 1), some (.ref 2), some (.ref 1529), some (.int (nI i))] [] M := by
        refine sg_L_law_538 _ _ _ _ _ ⟨rfl, hz1, hx.2.1.1.1, cX_free (Nat.le_refl _) hx fun M1 D1 F1 e1 e21 hx1 hf1 => ?_⟩
        have sh1 := hf1.1 1
        have hr1 := rX_zfc hf1 hr
        have row1 : ∀ j, zI M1 1 j = zI M 1 j := fun j => (hf1.2.2.2 1 (Or.inl (by omega))).1 j
        refine ⟨rfl, by rw [sh1]; exact hz1, hr1.1.1.1, ?_⟩
        simp only [row1]
        exact cR_free (Nat.le_refl _) hr1 fun M3 hr3 hf3 => ⟨fun _ => go _ M1 M3 D1 F1 e1 e21 hx1 hf1 hr3 hf3, fun z => absurd rfl z⟩
      have c_stairs : wL_law 10 (fun r M' => r = [.int 1] ∧ zn M' ≤ 600000 ∧ zs M' ≤ 7302250) 555 [some (.ref 1), some (.ref 2), some (.ref 1529), some (.int (nI i))] [] M := by
        refine sg_L_law_555 _ _ _ _ _ ⟨hx.2.1.1.1, cX_stairs (Nat.le_refl _) hx fun M1 D1 F1 e1 e21 hx1 hf1 => ?_⟩
        have sh1 := hf1.1 1
        have hr1 := rX_zfc hf1 hr
        refine ⟨hr1.1.1.1, ?_⟩
        exact cR_stairs (Nat.le_refl _) hr1 fun M3 hr3 hf3 => ⟨fun _ => go _ M1 M3 D1 F1 e1 e21 hx1 hf1 hr3 hf3, fun z => absurd rfl z⟩
      refine ⟨by rw [hsh]; exact zin_n (by show i < L; omega) (by show L < 2 ^ 31; omega), ?_⟩
      intro v1
      exact ⟨fun _ => c_variables, fun _ => ⟨fun _ => c_order, fun _ => ⟨fun _ => c_term, fun _ => ⟨fun _ => c_zero, fun _ => ⟨fun _ => c_size, fun _ => ⟨fun _ => c_told, fun _ => ⟨fun _ => c_plus, fun _ => ⟨fun _ => c_times, fun _ => ⟨fun _ => c_same, fun _ => ⟨fun _ => c_vanishes, fun _ => ⟨fun _ => c_generator, fun _ => ⟨fun _ => c_clear, fun _ => ⟨fun _ => c_basis, fun _ => ⟨fun _ => c_done, fun _ => ⟨fun _ => c_element, fun _ => ⟨fun _ => c_share, fun _ => ⟨fun _ => c_divide, fun _ => ⟨fun _ => c_certificate, fun _ => ⟨fun _ => c_check, fun _ => ⟨fun _ => c_radical, fun _ => ⟨fun _ => c_free, fun _ => ⟨fun _ => c_stairs, fun _ => nxt s M D F e e2 hsh hn hs hx hr⟩⟩⟩⟩⟩⟩⟩⟩⟩⟩⟩⟩⟩⟩⟩⟩⟩⟩⟩⟩⟩⟩
  refine en_L_law _ M (sg_L_law_0 _ M ?_)
  intro n1 M2
  have e1 : n1 = 2 := hn0
  clear_value n1
  subst e1
  have m2 : M2 = zal M (15, 0) 14 := rfl
  clear_value M2
  have g2 : zgf 2 M M2 := by rw [m2]; exact zgf_al (by omega)
  have t2 : zsh M2 2 = (15, 0) := by rw [m2, zsh_al, if_pos hn0.symm]
  have t1 : zsh M2 1 = (1, L) := by rw [(g2 1 (by omega)).1]; exact hs1
  refine sp_cell (by omega) t1 hL ⟨by rw [t2], ?_⟩
  refine sp_init7 (Nat.le_refl _) t2 (by rw [m2, zn_al, hn0]) (fun j => by rw [m2, zI_al, if_pos hn0.symm]) fun M5 e e2 g5 hx5 n5 s5 => ?_
  have u1 : zsh M5 1 = (1, L) := by rw [(g5 1 (by omega)).1]; exact t1
  refine sg_L_law_7 _ _ _ _ _ ?_
  intro n1 M6
  have e1 : n1 = 1529 := n5
  clear_value n1
  subst e1
  have m6 : M6 = zal M5 (16, 0) 28 := rfl
  clear_value M6
  have g6 : zgf 1529 M5 M6 := by rw [m6]; exact zgf_al (by omega)
  have t6 : zsh M6 1529 = (16, 0) := by rw [m6, zsh_al, if_pos n5.symm]
  have w1 : zsh M6 1 = (1, L) := by rw [(g6 1 (by omega)).1]; exact u1
  refine sp_cell (by omega) w1 hL ⟨by rw [t6], ?_⟩
  rw [show zI M6 1 0 = zI M2 1 0 by rw [(g6 1 (by omega)).2.1, (g5 1 (by omega)).2.1]]
  refine sp_init8 (by omega) t6 (by rw [m6, zn_al, n5]) (fun j => by rw [m6, zI_al, if_pos n5.symm]) fun M7 g7 hr7 n7 s7 => ?_
  refine sg_L_law_14 _ _ _ _ _ ?_
  exact loop (L + 1) 1 _ M7 _ _ _ _ (by omega) (by omega) (by rw [(g7 1 (by omega)).1]; exact w1) n7 (by rw [s7, m6, zs_al, s5, m2, zs_al, hs0]; omega) (xX_0 (zgf_tr g6 g7) hx5) hr7
