/-! what constructors make, in the class -/
def zgf (p : Nat) (M M' : zM) : Prop := ∀ a, a < p → zsh M' a = zsh M a ∧ (∀ j, zI M' a j = zI M a j) ∧ (∀ j, zL M' a j = zL M a j) ∧ ∀ j, zR M' a j = zR M a j
theorem zgf_rf {p : Nat} {M : zM} : zgf p M M := fun _ _ => ⟨rfl, fun _ => rfl, fun _ => rfl, fun _ => rfl⟩
theorem zgf_tr {p : Nat} {M1 M2 M3 : zM} (h1 : zgf p M1 M2) (h2 : zgf p M2 M3) : zgf p M1 M3 := fun a ha => ⟨(h2 a ha).1.trans (h1 a ha).1, fun j => ((h2 a ha).2.1 j).trans ((h1 a ha).2.1 j), fun j => ((h2 a ha).2.2.1 j).trans ((h1 a ha).2.2.1 j), fun j => ((h2 a ha).2.2.2 j).trans ((h1 a ha).2.2.2 j)⟩
theorem zgf_le {p q : Nat} {M M' : zM} (h : zgf p M M') (hq : q ≤ p) : zgf q M M' := fun a ha => h a (by omega)
theorem zgf_uR {p a k v : Nat} {M : zM} (h : p ≤ a) : zgf p M (zuR M a k v) := fun b hb => ⟨rfl, fun _ => rfl, fun _ => rfl, fun j => by rw [zR_uR, if_neg (by omega)]⟩
theorem zgf_al {M : zM} {sh : Nat × Nat} {w p : Nat} (h : p ≤ zn M) : zgf p M (zal M sh w) := fun b hb => by
  have hn : b ≠ M.2.1 := fun e => by
    have : zn M = M.2.1 := rfl
    omega
  exact ⟨if_neg hn, fun j => if_neg hn, fun j => if_neg hn, fun j => if_neg hn⟩
theorem zsh_al {M : zM} {sh : Nat × Nat} {w a : Nat} : zsh (zal M sh w) a = if a = zn M then sh else zsh M a := rfl
theorem zn_al {M : zM} {sh : Nat × Nat} {w : Nat} : zn (zal M sh w) = zn M + 1 := rfl
theorem zs_al {M : zM} {sh : Nat × Nat} {w : Nat} : zs (zal M sh w) = zs M + w := rfl
theorem zI_al {M : zM} {sh : Nat × Nat} {w a j : Nat} : zI (zal M sh w) a j = if a = zn M then 0 else zI M a j := rfl
theorem zR_al {M : zM} {sh : Nat × Nat} {w a j : Nat} : zR (zal M sh w) a j = if a = zn M then 0 else zR M a j := rfl
theorem pst_g {q : Nat} {M M' : zM} {p o : Nat} (h : zgf q M M') (hq : p + 4 ≤ q) (hp : pst M p o) : pst M' p o := by
  unfold pst at *
  rw [(h p (by omega)).1, (h (p + 1) (by omega)).1, (h (p + 2) (by omega)).1, (h (p + 3) (by omega)).1, (h p (by omega)).2.2.2, (h p (by omega)).2.2.2, (h p (by omega)).2.2.2, (h p (by omega)).2.2.2]
  exact hp
theorem est_g {q : Nat} {M M' : zM} {e o w : Nat} (h : zgf q M M') (hq : e + 6 + 4 * w ≤ q) (he : est M e o w) : est M' e o w := by
  obtain ⟨h1, h2, h3, h4, h5, h6, h7⟩ := he
  exact ⟨by rw [(h e (by omega)).1]; exact h1, by rw [(h e (by omega)).2.2.2]; exact h2, by rw [(h e (by omega)).2.2.2]; exact h3, by rw [(h (e + 5) (by omega)).1]; exact h4, fun i hi => by rw [(h (e + 5) (by omega)).2.2.2]; exact h5 i hi, pst_g h (by omega) h6, fun i hi => pst_g h (by omega) (h7 i hi)⟩
theorem dst_g {q : Nat} {M M' : zM} {D o : Nat} (h : zgf q M M') (hq : D + 106 ≤ q) (hd : dst M D o) : dst M' D o := by
  obtain ⟨h1, h2, h3, h4, h5, h6, h7, h8, h9⟩ := hd
  exact ⟨by rw [(h D (by omega)).1]; exact h1, by rw [(h D (by omega)).2.2.2]; exact h2, by rw [(h D (by omega)).2.2.2]; exact h3, by rw [(h D (by omega)).2.2.2]; exact h4, by rw [(h (D + 9) (by omega)).1]; exact h5, fun i hi => by rw [(h (D + 9) (by omega)).2.2.2]; exact h6 i hi, pst_g h (by omega) h7, pst_g h (by omega) h8, fun i hi => pst_g h (by omega) (h9 i hi)⟩
theorem ist_g {q : Nat} {M M' : zM} {H o w : Nat} {eid : Nat → Nat} (h : zgf q M M') (hq : H + 153 + 100 * w ≤ q) (hi : ist M H o w eid) : ist M' H o w eid := by
  obtain ⟨⟨h1, h2, h3, h4, h5⟩, h6, h7, h8⟩ := hi
  refine ⟨⟨by rw [(h H (by omega)).1]; exact h1, by rw [(h H (by omega)).2.2.2]; exact h2, by rw [(h H (by omega)).2.2.2]; exact h3, by rw [(h H (by omega)).2.2.2]; exact h4, by rw [(h _ (by omega)).1]; exact h5⟩, ⟨by rw [(h (H + 1) (by omega)).1]; exact h6.1, fun i hi => ⟨by rw [(h (H + 1) (by omega)).2.2.2]; exact (h6.2 i hi).1, est_g h ?_ (h6.2 i hi).2⟩⟩, h7, h8⟩
  have := h7.1 i hi
  omega
theorem gst_g {q : Nat} {M M' : zM} {G o : Nat} (h : zgf q M M') (hq : G + 37 ≤ q) (hg : gst M G o) : gst M' G o := ⟨by rw [(h G (by omega)).1]; exact hg.1, fun g hl => ⟨by rw [(h G (by omega)).2.2.2]; exact (hg.2 g hl).1, pst_g h (by omega) (hg.2 g hl).2⟩⟩
theorem sp_init6 {d p o : Nat} {M : zM} {P : zM → Prop} (hd : 1 ≤ d) (hp : (zsh M p).1 = 14) (hn : zn M = p + 1) (h0 : p ≠ 0) (h : ∀ M', zgf p M M' → pst M' p o → zI M' p 4 = zI M p 4 → zn M' = p + 4 → zs M' = zs M + 300 → P M') : ycV d nX6_init [.ref p, .ref o] M P := by
  obtain ⟨d, rfl, he⟩ := dS hd
  have c100 : (100 : Int32).toNatClampNeg = 100 := by decide
  have n100 : ¬ (100 : Int32) < 0 := by decide
  refine en_X6_init _ _ M (sg_X6_init_0 _ _ M ⟨h0, hp, ?_⟩)
  rw [c100]
  intro M1
  refine ⟨n100, by omega, ?_⟩
  intro n2 M3
  have e2 : n2 = p + 1 := hn
  have k3 : zn M3 = p + 2 := by show zn M + 1 = _; omega
  refine ⟨by rw [show M3 = zal M1 (3, 100) 100 from rfl, zsh_al, if_neg (by show p ≠ zn M; omega)]; exact hp, ?_⟩
  intro M4
  refine ⟨n100, by omega, ?_⟩
  intro n5 M6
  have e5 : n5 = p + 2 := k3
  have k6 : zn M6 = p + 3 := by show zn M3 + 1 = _; omega
  have s6 : zsh M6 p = zsh M p := by
    rw [show M6 = zal M4 (2, 100) 100 from rfl, zsh_al, if_neg (by show p ≠ zn M3; omega)]
    show zsh M3 p = _
    rw [show M3 = zal M1 (3, 100) 100 from rfl, zsh_al, if_neg (by show p ≠ zn M; omega)]
    rfl
  refine ⟨by rw [s6]; exact hp, ?_⟩
  intro M7
  refine ⟨n100, by omega, ?_⟩
  intro n8 M9
  have e8 : n8 = p + 3 := k6
  have s9 : zsh M9 p = zsh M p := by
    rw [show M9 = zal M7 (2, 100) 100 from rfl, zsh_al, if_neg (by show p ≠ zn M6; omega)]
    exact s6
  refine ⟨by rw [s9]; exact hp, ?_⟩
  intro M10
  have g1 : zgf p M M1 := zgf_uR (Nat.le_refl _)
  have g3 : zgf p M1 M3 := zgf_al (by show p ≤ zn M; omega)
  have g4 : zgf p M3 M4 := zgf_uR (Nat.le_refl _)
  have g6 : zgf p M4 M6 := zgf_al (by show p ≤ zn M3; omega)
  have g7 : zgf p M6 M7 := zgf_uR (Nat.le_refl _)
  have g9 : zgf p M7 M9 := zgf_al (by show p ≤ zn M6; omega)
  have g10 : zgf p M9 M10 := zgf_uR (Nat.le_refl _)
  have rr : ∀ j, zR M10 p j = if j = 3 then p + 3 else if j = 2 then p + 2 else if j = 1 then p + 1 else if j = 0 then o else zR M p j := fun j => by
    rw [show M10 = zuR M9 p 3 n8 from rfl, zR_uR, show M9 = zal M7 (2, 100) 100 from rfl, zR_al, if_neg (show p ≠ zn M7 by show p ≠ zn M6; omega), show M7 = zuR M6 p 2 n5 from rfl, zR_uR, show M6 = zal M4 (2, 100) 100 from rfl, zR_al, if_neg (show p ≠ zn M4 by show p ≠ zn M3; omega), show M4 = zuR M3 p 1 n2 from rfl, zR_uR, show M3 = zal M1 (3, 100) 100 from rfl, zR_al, if_neg (show p ≠ zn M1 by show p ≠ zn M; omega), show M1 = zuR M p 0 o from rfl, zR_uR, e2, e5, e8]
    simp only [true_and]
  have ss : ∀ a, zsh M10 a = if a = p + 3 then (2, 100) else if a = p + 2 then (2, 100) else if a = p + 1 then (3, 100) else zsh M a := fun a => by
    show zsh M9 a = _
    rw [show M9 = zal M7 (2, 100) 100 from rfl, zsh_al, show zn M7 = p + 3 from k6]
    show (if a = p + 3 then _ else zsh M6 a) = _
    rw [show M6 = zal M4 (2, 100) 100 from rfl, zsh_al, show zn M4 = p + 2 from k3]
    show (if a = p + 3 then _ else if a = p + 2 then _ else zsh M3 a) = _
    rw [show M3 = zal M1 (3, 100) 100 from rfl, zsh_al, show zn M1 = p + 1 from hn]
    rfl
  refine ⟨rfl, h M10 (zgf_tr g1 (zgf_tr g3 (zgf_tr g4 (zgf_tr g6 (zgf_tr g7 (zgf_tr g9 g10)))))) ⟨?_, ?_, ?_, ?_, ?_, ?_, ?_, ?_⟩ ?_ ?_ ?_⟩
  · rw [ss, if_neg (by omega), if_neg (by omega), if_neg (by omega)]; exact hp
  · rw [rr]; rfl
  · rw [rr]; rfl
  · rw [rr]; rfl
  · rw [rr]; rfl
  · rw [ss, if_neg (by omega), if_neg (by omega), if_pos rfl]
  · rw [ss, if_neg (by omega), if_pos rfl]
  · rw [ss, if_pos rfl]
  · show zI M9 p 4 = _
    rw [show M9 = zal M7 (2, 100) 100 from rfl, zI_al, if_neg (show p ≠ zn M7 by show p ≠ zn M6; omega)]
    show zI M6 p 4 = _
    rw [show M6 = zal M4 (2, 100) 100 from rfl, zI_al, if_neg (show p ≠ zn M4 by show p ≠ zn M3; omega)]
    show zI M3 p 4 = _
    rw [show M3 = zal M1 (3, 100) 100 from rfl, zI_al, if_neg (show p ≠ zn M1 by show p ≠ zn M; omega)]
    rfl
  · show zn M6 + 1 = _; omega
  · show zs M + 100 + 100 + 100 = _; omega
theorem sp_row {d o n : Nat} {M : zM} {P : Nat → zM → Prop} (hd : 2 ≤ d) (hn : n ≤ 100) (h0 : zn M ≠ 0) (h : ∀ M', zgf (zn M) M M' → zsh M' (zn M) = (5, n) → (∀ i, i < n → zR M' (zn M) i = zn M + 1 + 4 * i ∧ pst M' (zn M + 1 + 4 * i) o ∧ zI M' (zn M + 1 + 4 * i) 4 = 0) → zn M' = zn M + 1 + 4 * n → zs M' = zs M + 306 * n → P (zn M) M') : ycR d nX7_row [.int (nI n), .ref o] M P := by
  obtain ⟨d, rfl, he⟩ := dS hd
  have cn := cl_n (n := n) (by omega)
  generalize hA : zn M = A at h h0
  have loop : ∀ (m i : Nat) (M' : zM), i + m = n → zgf A M M' → zsh M' A = (5, n) → (∀ j, j < i → zR M' A j = A + 1 + 4 * j ∧ pst M' (A + 1 + 4 * j) o ∧ zI M' (A + 1 + 4 * j) 4 = 0) → zn M' = A + 1 + 4 * i → zs M' = zs M + n + 305 * i → wX7_row d (fun r M2 => ∃ x : Nat, r = [.ref x] ∧ P x M2) 5 [some (.int (nI n)), some (.ref o), some (.ref A), some (.int (nI i))] [] M' := by
    intro m
    induction m with
    | zero =>
      intro i M' hi hg hs hr hzn hzs
      exact sg_X7_row_5 _ _ _ _ _ ⟨fun _ => ⟨_, rfl, h M' hg hs (fun j hj => hr j (by omega)) (by omega) (by omega)⟩, fun c => absurd (by rw [show i = n by omega]; exact Int32.le_refl _) c⟩
    | succ m ih =>
      intro i M' hi hg hs hr hzn hzs
      have ci := cl_n (n := i) (by omega)
      refine sg_X7_row_5 _ _ _ _ _ ⟨fun c => ?_, fun _ => ?_⟩
      · have := (nI_leI (by omega) (by omega)).mp c
        omega
      · intro n1 M2
        have e1 : n1 = A + 1 + 4 * i := hzn
        clear_value n1
        subst e1
        have s2 : zsh M2 (A + 1 + 4 * i) = (14, 0) := by rw [show M2 = zal M' (14, 0) 5 from rfl, zsh_al, if_pos hzn.symm]
        have g2 : zgf (A + 1 + 4 * i) M' M2 := zgf_al (by omega)
        refine ⟨by rw [s2], sp_init6 (by omega) (by rw [s2]) (by show zn M' + 1 = _; omega) (by omega) fun M3 hg3 hp3 hi3 hn3 hs3 => ?_⟩
        have g23 := zgf_tr g2 hg3
        have s3 : zsh M3 A = (5, n) := by rw [(g23 A (by omega)).1]; exact hs
        refine ⟨by rw [s3], by rw [s3]; exact zin_n (by omega) (by omega), hp3.1, ?_⟩
        rw [ci]
        intro M4 v3
        rw [show v3 = nI (i + 1) from nI_1 i]
        refine ih (i + 1) M4 (by omega) (zgf_tr hg (zgf_tr (zgf_le g23 (by omega)) (zgf_uR (Nat.le_refl _)))) s3 (fun j hj => ?_) (by show zn M3 = _; omega) (by show zs M3 = _; rw [hs3, show zs M2 = zs M' + 5 from rfl]; omega)
        have r4 : ∀ a j, a ≠ A → zR M4 a j = zR M3 a j := fun a j ha => by rw [show M4 = zuR M3 A i (A + 1 + 4 * i) from rfl, zR_uR, if_neg (fun z => ha z.1)]
        have p4 : ∀ {p : Nat}, p ≠ A → pst M3 p o → pst M4 p o := fun hne hp => by
          obtain ⟨q1, q2, q3, q4, q5, q6⟩ := hp
          exact ⟨q1, by rw [r4 _ _ hne]; exact q2, by rw [r4 _ _ hne]; exact q3, by rw [r4 _ _ hne]; exact q4, by rw [r4 _ _ hne]; exact q5, q6⟩
        by_cases hji : j = i
        · subst hji
          refine ⟨by rw [show M4 = zuR M3 A j (A + 1 + 4 * j) from rfl, zR_uR, if_pos ⟨rfl, rfl⟩], p4 (by omega) hp3, ?_⟩
          show zI M3 _ 4 = 0
          rw [hi3, show M2 = zal M' (14, 0) 5 from rfl, zI_al, if_pos hzn.symm]
        · obtain ⟨t1, t2, t3⟩ := hr j (by omega)
          refine ⟨?_, p4 (by omega) (pst_g g23 (by omega) t2), ?_⟩
          · rw [show M4 = zuR M3 A i (A + 1 + 4 * i) from rfl, zR_uR, if_neg (fun z => hji z.2), (g23 A (by omega)).2.2.2]
            exact t1
          · show zI M3 _ 4 = 0
            rw [(g23 _ (by omega)).2.1]
            exact t3
  refine en_X7_row _ _ M (sg_X7_row_0 _ _ M ⟨nI_pos (by omega), by rw [cn]; omega, ?_⟩)
  rw [cn]
  intro n1 M2
  have e1 : n1 = A := hA
  clear_value n1
  subst e1
  refine loop n 0 M2 (by omega) (zgf_al (by omega)) ?_ (fun j hj => absurd hj (Nat.not_lt_zero _)) (by show zn M + 1 = _; omega) (by show zs M + n = _; omega)
  rw [show M2 = zal M (5, n) n from rfl, zsh_al, if_pos hA.symm]
theorem zgf_1 {p k v : Nat} {M : zM} : zgf p M (zuR M p k v) := zgf_uR (Nat.le_refl _)
theorem pst_u {M : zM} {p o a k v : Nat} (h : a ≠ p) (hp : pst M p o) : pst (zuR M a k v) p o := by
  obtain ⟨q1, q2, q3, q4, q5, q6⟩ := hp
  have r : ∀ j, zR (zuR M a k v) p j = zR M p j := fun j => by rw [zR_uR, if_neg (fun z => h z.1.symm)]
  exact ⟨q1, by rw [r]; exact q2, by rw [r]; exact q3, by rw [r]; exact q4, by rw [r]; exact q5, q6⟩
theorem sp_init1 {d e o w : Nat} {M : zM} {P : zM → Prop} (hd : 3 ≤ d) (hp : (zsh M e).1 = 11) (hn : zn M = e + 1) (h0 : e ≠ 0) (hw : w ≤ 8) (h : ∀ M', zgf e M M' → est M' e o w → zn M' = e + 6 + 4 * w → zs M' = zs M + 305 + 306 * w → P M') : ycV d nX1_init [.ref e, .ref o, .int (nI w)] M P := by
  obtain ⟨d, rfl, he⟩ := dS hd
  refine en_X1_init _ _ _ M (sg_X1_init_0 _ _ _ M ⟨h0, ?_⟩)
  intro n1 M2
  have e1 : n1 = e + 1 := hn
  clear_value n1
  subst e1
  have s2 : zsh M2 (e + 1) = (14, 0) := by rw [show M2 = zal M (14, 0) 5 from rfl, zsh_al, if_pos hn.symm]
  have g2 : zgf (e + 1) M M2 := zgf_al (by omega)
  refine ⟨by rw [s2], sp_init6 (by omega) (by rw [s2]) (by show zn M + 1 = _; omega) (by omega) fun M3 g3 hp3 hi3 hn3 hs3 => ?_⟩
  have g23 := zgf_tr g2 g3
  have k3 : (zsh M3 e).1 = 11 := by rw [(g23 e (by omega)).1]; exact hp
  refine ⟨k3, ?_⟩
  intro M4
  have hn4 : zn M4 = e + 5 := hn3
  refine sp_row (by omega) (by omega) (by omega) fun M5 g5 h5s h5r h5n h5z => ?_
  rw [hn4] at g5 h5s h5r h5n
  rw [hn4]
  refine ⟨by rw [(g5 e (by omega)).1]; exact k3, ?_⟩
  intro M7
  have rE : ∀ j, zR M7 e j = if j = 1 then e + 5 else if j = 0 then e + 1 else zR M e j := fun j => by
    rw [show M7 = zuR M5 e 1 (e + 5) from rfl, zR_uR, (g5 e (by omega)).2.2.2, show M4 = zuR M3 e 0 (e + 1) from rfl, zR_uR, (g23 e (by omega)).2.2.2]
    simp only [true_and]
  have rO : ∀ a j, a ≠ e → zR M7 a j = zR M5 a j := fun a j ha => by rw [show M7 = zuR M5 e 1 (e + 5) from rfl, zR_uR, if_neg (fun z => ha z.1)]
  refine ⟨rfl, h M7 (zgf_tr (zgf_le g23 (by omega)) (zgf_tr zgf_1 (zgf_tr (zgf_le g5 (by omega)) zgf_1))) ⟨?_, by rw [rE]; rfl, by rw [rE]; rfl, h5s, fun i hi => ?_, pst_u (by omega) (pst_g g5 (by omega) (pst_u (by omega) hp3)), fun i hi => ?_⟩ (by show zn M5 = _; omega) (by show zs M5 = _; rw [h5z, show zs M4 = zs M3 from rfl, hs3, show zs M2 = zs M + 5 from rfl])⟩
  · show (zsh M5 e).1 = 11
    rw [(g5 e (by omega)).1]; exact k3
  · rw [rO _ _ (by omega), (h5r i hi).1]
  · exact pst_u (by omega) (by have := (h5r i hi).2.1; rw [show e + 6 + 4 * i = e + 5 + 1 + 4 * i by omega]; exact this)
theorem sp_init0 {d D o : Nat} {M : zM} {P : zM → Prop} (hd : 3 ≤ d) (hp : (zsh M D).1 = 10) (hn : zn M = D + 1) (h0 : D ≠ 0) (h : ∀ M', zgf D M M' → dst M' D o → zn M' = D + 106 → zs M' = zs M + 7954 → P M') : ycV d nX0_init [.ref D, .ref o] M P := by
  obtain ⟨d, rfl, he⟩ := dS hd
  refine en_X0_init _ _ M (sg_X0_init_0 _ _ M ⟨h0, ?_⟩)
  intro n1 M2
  have e1 : n1 = D + 1 := hn
  clear_value n1
  subst e1
  have s2 : zsh M2 (D + 1) = (14, 0) := by rw [show M2 = zal M (14, 0) 5 from rfl, zsh_al, if_pos hn.symm]
  have g2 : zgf (D + 1) M M2 := zgf_al (by omega)
  refine ⟨by rw [s2], sp_init6 (by omega) (by rw [s2]) (by show zn M + 1 = _; omega) (by omega) fun M3 g3 hp3 hi3 hn3 hs3 => ?_⟩
  have g23 := zgf_tr g2 g3
  have k3 : (zsh M3 D).1 = 10 := by rw [(g23 D (by omega)).1]; exact hp
  refine ⟨k3, ?_⟩
  intro M4 n5 M6
  have e5 : n5 = D + 5 := hn3
  clear_value n5
  subst e5
  have hn4 : zn M4 = D + 5 := hn3
  have s6 : zsh M6 (D + 5) = (14, 0) := by rw [show M6 = zal M4 (14, 0) 5 from rfl, zsh_al, if_pos hn4.symm]
  have g6 : zgf (D + 5) M4 M6 := zgf_al (by omega)
  refine ⟨by rw [s6], sp_init6 (by omega) (by rw [s6]) (by show zn M4 + 1 = _; omega) (by omega) fun M7 g7 hp7 hi7 hn7 hs7 => ?_⟩
  have g67 := zgf_tr g6 g7
  have k7 : (zsh M7 D).1 = 10 := by rw [(g67 D (by omega)).1]; exact k3
  refine ⟨k7, ?_⟩
  intro M8
  have hn8 : zn M8 = D + 9 := hn7
  refine sp_row (n := 24) (by omega) (by omega) (by omega) fun M9 g9 h9s h9r h9n h9z => ?_
  rw [hn8] at g9 h9s h9r h9n
  rw [hn8]
  have k9 : (zsh M9 D).1 = 10 := by rw [(g9 D (by omega)).1]; exact k7
  refine ⟨k9, ?_⟩
  intro M11
  have rE : ∀ j, zR M11 D j = if j = 2 then D + 9 else if j = 1 then D + 5 else if j = 0 then D + 1 else zR M D j := fun j => by
    rw [show M11 = zuR M9 D 2 (D + 9) from rfl, zR_uR, (g9 D (by omega)).2.2.2, show M8 = zuR M7 D 1 (D + 5) from rfl, zR_uR, (g67 D (by omega)).2.2.2, show M4 = zuR M3 D 0 (D + 1) from rfl, zR_uR, (g23 D (by omega)).2.2.2]
    simp only [true_and]
  have rO : ∀ a j, a ≠ D → zR M11 a j = zR M9 a j := fun a j ha => by rw [show M11 = zuR M9 D 2 (D + 9) from rfl, zR_uR, if_neg (fun z => ha z.1)]
  refine ⟨rfl, h M11 (zgf_tr (zgf_le g23 (by omega)) (zgf_tr zgf_1 (zgf_tr (zgf_le g67 (by omega)) (zgf_tr zgf_1 (zgf_tr (zgf_le g9 (by omega)) zgf_1))))) ⟨k9, by rw [rE]; rfl, by rw [rE]; rfl, by rw [rE]; rfl, h9s, fun i hi => by rw [rO _ _ (by omega), (h9r i hi).1], pst_u (by omega) (pst_g g9 (by omega) (pst_u (by omega) (pst_g g67 (by omega) (pst_u (by omega) hp3)))), pst_u (by omega) (pst_g g9 (by omega) (pst_u (by omega) hp7)), fun i hi => pst_u (by omega) ?_⟩ (by show zn M9 = _; omega) (by show zs M9 = _; rw [h9z, show zs M8 = zs M7 from rfl, hs7, show zs M6 = zs M3 + 5 from rfl, hs3, show zs M2 = zs M + 5 from rfl])⟩
  rw [show D + 10 + 4 * i = D + 9 + 1 + 4 * i by omega]
  exact (h9r i hi).2.1
theorem est_u {M : zM} {e o w a k v : Nat} (h : ¬ inE w e a) (he : est M e o w) : est (zuR M a k v) e o w := by
  obtain ⟨h1, h2, h3, h4, h5, h6, h7⟩ := he
  have r : ∀ b j, inE w e b → zR (zuR M a k v) b j = zR M b j := fun b j hb => by
    rw [zR_uR, if_neg]
    rintro ⟨rfl, -⟩
    exact h hb
  exact ⟨h1, by rw [r _ _ (by unfold inE; omega)]; exact h2, by rw [r _ _ (by unfold inE; omega)]; exact h3, h4, fun i hi => by rw [r _ _ (by unfold inE; omega)]; exact h5 i hi, pst_u (fun z => h (by unfold inE; omega)) h6, fun i hi => pst_u (fun z => h (by unfold inE; omega)) (h7 i hi)⟩
theorem sp_init3 {d H o w : Nat} {M : zM} {P : zM → Prop} (hd : 4 ≤ d) (hp : (zsh M H).1 = 12) (hn : zn M = H + 1) (h0 : H ≠ 0) (hw : w = 8 ∨ w = 0) (ho : o < H) (h : ∀ M', zgf H M M' → ist M' H o w (fun i => H + 2 + (6 + 4 * w) * i) → (∀ j, zI M' H j = zI M H j) → zn M' = H + 153 + 100 * w → zs M' = zs M + 8276 + 7650 * w → P M') : ycV d nX3_init [.ref H, .ref o, .int (nI w)] M P := by
  obtain ⟨d, rfl, he⟩ := dS hd
  have c25 : (25 : Int32).toNatClampNeg = 25 := by decide
  have c576 : (576 : Int32).toNatClampNeg = 576 := by decide
  have iap0 : iap H w (fun i => H + 2 + (6 + 4 * w) * i) := by
    rcases hw with rfl | rfl
    · exact ⟨fun i hi => by dsimp only; omega, fun i j hi hj hij => by dsimp only; omega⟩
    · exact ⟨fun i hi => by dsimp only; omega, fun i j hi hj hij => by dsimp only; omega⟩
  have loop : ∀ (m i : Nat) (M' : zM), i + m = 25 → zgf H M M' → (zsh M' H).1 = 12 → (∀ j, zI M' H j = zI M H j) → zR M' H 0 = o → zR M' H 1 = H + 1 → zsh M' (H + 1) = (6, 25) → (∀ j, j < i → zR M' (H + 1) j = H + 2 + (6 + 4 * w) * j ∧ est M' (H + 2 + (6 + 4 * w) * j) o w) → zn M' = H + 2 + (6 + 4 * w) * i → zs M' = zs M + 25 + (307 + 306 * w) * i → wX3_init d (fun r M2 => r = [] ∧ P M2) 11 [some (.ref H), some (.ref o), some (.int (nI w)), some (.int (nI i))] [] M' := by
    intro m
    induction m with
    | zero =>
      intro i M' hi hg hs hI hr0 hr1 hs1 hr hzn hzs
      have hin : i = 25 := by omega
      subst hin
      have hz2 : zn M' = H + 152 + 100 * w := by rcases hw with rfl | rfl <;> omega
      refine sg_X3_init_11 _ _ _ _ _ ⟨fun _ => ⟨by decide, by decide, ?_⟩, fun c => absurd (by decide) c⟩
      rw [c576]
      intro n1 M2
      have e1 : n1 = H + 152 + 100 * w := hz2
      clear_value n1
      subst e1
      have g2 : zgf (H + 152 + 100 * w) M' M2 := zgf_al (by omega)
      refine ⟨by rw [(g2 H (by omega)).1]; exact hs, ?_⟩
      intro M3
      have r3 : ∀ a j, a ≠ H → zR M3 a j = zR M2 a j := fun a j ha => by rw [show M3 = zuR M2 H 7 (H + 152 + 100 * w) from rfl, zR_uR, if_neg (fun z => ha z.1)]
      have rH : ∀ j, j ≠ 7 → zR M3 H j = zR M' H j := fun j hj => by rw [show M3 = zuR M2 H 7 (H + 152 + 100 * w) from rfl, zR_uR, if_neg (fun z => hj z.2), (g2 H (by omega)).2.2.2]
      refine ⟨rfl, h M3 (zgf_tr hg (zgf_tr (zgf_le g2 (by omega)) zgf_1)) ⟨⟨?_, by rw [rH 0 (by omega)]; exact hr0, by rw [rH 1 (by omega)]; exact hr1, by rw [show M3 = zuR M2 H 7 (H + 152 + 100 * w) from rfl, zR_uR, if_pos ⟨rfl, rfl⟩], ?_⟩, ⟨?_, fun j hj => ⟨?_, ?_⟩⟩, iap0, ho, by omega⟩ (fun j => ?_) (by show zn M' + 1 = _; omega) ?_⟩
      · show (zsh M2 H).1 = 12
        rw [(g2 H (by omega)).1]; exact hs
      · show zsh M2 _ = _
        rw [show M2 = zal M' (2, 576) 576 from rfl, zsh_al, if_pos hz2.symm]
      · show zsh M2 (H + 1) = _
        rw [(g2 (H + 1) (by omega)).1]; exact hs1
      · rw [r3 _ _ (by omega), (g2 (H + 1) (by omega)).2.2.2]
        exact (hr j hj).1
      · have := iap0.1 j hj
        exact est_u (by unfold inE; omega) (est_g g2 (by omega) (hr j hj).2)
      · show zI M2 H j = _
        rw [(g2 H (by omega)).2.1]; exact hI j
      · show zs M' + 576 = _
        rw [hzs]
        rcases hw with rfl | rfl <;> omega
    | succ m ih =>
      intro i M' hi hg hs hI hr0 hr1 hs1 hr hzn hzs
      have ci := cl_n (n := i) (by omega)
      refine sg_X3_init_11 _ _ _ _ _ ⟨fun c => ?_, fun _ => ⟨hs, ?_⟩⟩
      · have := (nI_ltI (a := 24) (by omega) (by omega)).mp c
        omega
      · intro n4 M5
        have e4 : n4 = H + 2 + (6 + 4 * w) * i := hzn
        clear_value n4
        subst e4
        have s5 : zsh M5 (H + 2 + (6 + 4 * w) * i) = (11, 0) := by rw [show M5 = zal M' (11, 0) 2 from rfl, zsh_al, if_pos hzn.symm]
        have g5 : zgf (H + 2 + (6 + 4 * w) * i) M' M5 := zgf_al (by omega)
        refine ⟨by rw [s5], sp_init1 (by omega) (by rw [s5]) (by show zn M' + 1 = _; omega) (by omega) (by omega) fun M6 g6 he6 hn6 hs6 => ?_⟩
        have g56 := zgf_tr g5 g6
        rw [hr1]
        have s6 : zsh M6 (H + 1) = (6, 25) := by rw [(g56 (H + 1) (by omega)).1]; exact hs1
        refine ⟨by rw [s6], by rw [s6]; exact zin_n (by omega) (by omega), he6.1, ?_⟩
        rw [ci]
        intro M7 v3
        rw [show v3 = nI (i + 1) from nI_1 i]
        have rO : ∀ a j, a ≠ H + 1 → zR M7 a j = zR M6 a j := fun a j ha => by rw [show M7 = zuR M6 (H + 1) i (H + 2 + (6 + 4 * w) * i) from rfl, zR_uR, if_neg (fun z => ha z.1)]
        refine ih (i + 1) M7 (by omega) (zgf_tr hg (zgf_tr (zgf_le g56 (by omega)) (zgf_uR (by omega)))) ?_ (fun j => ?_) ?_ ?_ s6 (fun j hj => ?_) ?_ ?_
        · show (zsh M6 H).1 = 12
          rw [(g56 H (by omega)).1]; exact hs
        · show zI M6 H j = _
          rw [(g56 H (by omega)).2.1]; exact hI j
        · rw [rO _ _ (by omega), (g56 H (by omega)).2.2.2]; exact hr0
        · rw [rO _ _ (by omega), (g56 H (by omega)).2.2.2]; exact hr1
        · by_cases hji : j = i
          · subst hji
            exact ⟨by rw [show M7 = zuR M6 (H + 1) j (H + 2 + (6 + 4 * w) * j) from rfl, zR_uR, if_pos ⟨rfl, rfl⟩], est_u (by unfold inE; omega) he6⟩
          · obtain ⟨t1, t2⟩ := hr j (by omega)
            refine ⟨?_, est_u ?_ (est_g g56 ?_ t2)⟩
            · rw [show M7 = zuR M6 (H + 1) i (H + 2 + (6 + 4 * w) * i) from rfl, zR_uR, if_neg (fun z => hji z.2), (g56 (H + 1) (by omega)).2.2.2]
              exact t1
            · unfold inE
              rcases hw with rfl | rfl <;> omega
            · rcases hw with rfl | rfl <;> omega
        · show zn M6 = _
          rw [hn6]
          rcases hw with rfl | rfl <;> omega
        · show zs M6 = _
          rw [hs6, show zs M5 = zs M' + 2 from rfl, hzs]
          rcases hw with rfl | rfl <;> omega
  refine en_X3_init _ _ _ M (sg_X3_init_0 _ _ _ M ⟨h0, hp, ?_⟩)
  intro M1
  refine ⟨by decide, by decide, ?_⟩
  rw [c25]
  intro n2 M3
  have e2 : n2 = H + 1 := hn
  clear_value n2
  subst e2
  have hn1 : zn M1 = H + 1 := hn
  have g3 : zgf (H + 1) M1 M3 := zgf_al (by omega)
  have k3 : (zsh M3 H).1 = 12 := by rw [(g3 H (by omega)).1]; exact hp
  refine ⟨k3, ?_⟩
  intro M4
  refine loop 25 0 M4 (by omega) (zgf_tr zgf_1 (zgf_tr (zgf_le g3 (by omega)) zgf_1)) k3 (fun j => ?_) ?_ ?_ ?_ (fun j hj => absurd hj (Nat.not_lt_zero _)) (by show zn M + 1 = _; omega) (by show zs M + 25 = _; omega)
  · show zI M3 H j = _
    rw [(g3 H (by omega)).2.1]; rfl
  · rw [show M4 = zuR M3 H 1 (H + 1) from rfl, zR_uR, if_neg (by omega), (g3 H (by omega)).2.2.2, show M1 = zuR M H 0 o from rfl, zR_uR, if_pos ⟨rfl, rfl⟩]
  · rw [show M4 = zuR M3 H 1 (H + 1) from rfl, zR_uR, if_pos ⟨rfl, rfl⟩]
  · show zsh M3 (H + 1) = _
    rw [show M3 = zal M1 (6, 25) 25 from rfl, zsh_al, if_pos hn1.symm]
