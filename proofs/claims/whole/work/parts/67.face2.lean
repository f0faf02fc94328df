/-! calls of the class: polynomials -/
def xres (x : Int32 × aX) (M : zM) (P : Int32 → zM → Prop) : Prop := ∀ (M' : zM) (D F : Nat) (e e2 : Nat → Nat), xX M' x.2 D F e e2 → zfc M M' → P x.1 M'
theorem cX_variables {d D F : Nat} {M : zM} {s : aX} {e e2 : Nat → Nat} {P : Int32 → zM → Prop} (hd : 10 ≤ d) (hx : xX M s D F e e2) (h : xres (A_variables s) M P) : ycI d nX7_variables [.ref 2] M P := by
  obtain ⟨d, rfl, he⟩ := dS hd
  refine en_X7_variables _ M (sg_X7_variables_0 _ M ⟨hx.2.1.1.1, _, rfl, ?_⟩)
  rw [hx.2.2.1.2.1]
  exact h M D F e e2 hx zfc_rf
theorem cX_zero {d D F : Nat} {M : zM} {s : aX} {e e2 : Nat → Nat} {p : Int32} {P : Int32 → zM → Prop} (hd : 10 ≤ d) (hx : xX M s D F e e2) (h : xres (A_zero s p) M P) : ycI d nX7_zero [.ref 2, .int p] M P := by
  obtain ⟨d, rfl, he⟩ := dS hd
  have h2 := hx.2.1.2.1.2.1
  have h4 := hx.2.1.2.2.1
  unfold A_zero at h
  refine en_X7_zero _ _ M (sg_X7_zero_0 _ _ M (sp_isPlace (by omega) (fun hp => ⟨fun _ => ?_, fun z => absurd (Classical.not_not.mp z) (by decide)⟩) (fun hp => ⟨fun z => absurd rfl z, fun _ => ⟨_, rfl, ?_⟩⟩)))
  · rw [if_pos hp] at h
    obtain ⟨i, hi, -, rfl, ci⟩ := idx_n (n := 40) hp
    obtain ⟨-, pd, pk, ps⟩ := xX_at hx hi
    have z4 : zin (nI i) 40 := zin_n hi (by omega)
    refine ⟨hx.2.1.1.1, by rw [h2, h4.1], by rw [h2, h4.1]; exact z4, by rw [h2, ci, (h4.2 i hi).1]; exact ps.1, ?_⟩
    intro v2
    refine ⟨hx.2.1.1.1, by rw [h2, h4.1], by rw [h2, h4.1]; exact z4, by rw [h2, ci, (h4.2 i hi).1]; exact ps.1, ?_⟩
    have ev : v2 = nI (xat s (nI i)).length := by rw [show v2 = zI M (zR M (zR M 2 2) (nI i).toNatClampNeg) 4 from rfl, h2, ci, (h4.2 i hi).1]; exact pd.1
    rw [h2, ci, (h4.2 i hi).1, ev]
    exact sp_empty (k := xk s) (by omega) ps fun M1 hfr hpd => ⟨_, rfl, h M1 D F e e2 (xX_put hfr hi hpd pok_nil hx) (zfc_of hfr (inP_c hi))⟩
  · rw [if_neg (by rw [hp]; decide)] at h
    exact h M D F e e2 hx zfc_rf
theorem cX_size {d D F : Nat} {M : zM} {s : aX} {e e2 : Nat → Nat} {p : Int32} {P : Int32 → zM → Prop} (hd : 10 ≤ d) (hx : xX M s D F e e2) (h : xres (A_size s p) M P) : ycI d nX7_size [.ref 2, .int p] M P := by
  obtain ⟨d, rfl, he⟩ := dS hd
  have h2 := hx.2.1.2.1.2.1
  have h4 := hx.2.1.2.2.1
  unfold A_size at h
  refine en_X7_size _ _ M (sg_X7_size_0 _ _ M (sp_isPlace (by omega) (fun hp => ⟨fun z => absurd z (by decide), fun _ => ?_⟩) (fun hp => ⟨fun _ => ⟨_, rfl, ?_⟩, fun z => absurd rfl z⟩)))
  · rw [if_pos hp] at h
    obtain ⟨i, hi, -, rfl, ci⟩ := idx_n (n := 40) hp
    obtain ⟨-, pd, pk, ps⟩ := xX_at hx hi
    refine ⟨hx.2.1.1.1, by rw [h2, h4.1], by rw [h2, h4.1]; exact zin_n hi (by omega), by rw [h2, ci, (h4.2 i hi).1]; exact ps.1, _, rfl, ?_⟩
    rw [h2, ci, (h4.2 i hi).1, pd.1]
    exact h M D F e e2 hx zfc_rf
  · rw [if_neg (by rw [hp]; decide)] at h
    exact h M D F e e2 hx zfc_rf
theorem cX_told {d D F : Nat} {M : zM} {s : aX} {e e2 : Nat → Nat} {p i w : Int32} {P : Int32 → zM → Prop} (hd : 10 ≤ d) (hx : xX M s D F e e2) (h : xres (A_told s p i w) M P) : ycI d nX7_told [.ref 2, .int p, .int i, .int w] M P := by
  obtain ⟨d, rfl, he⟩ := dS hd
  have h2 := hx.2.1.2.1.2.1
  have h4 := hx.2.1.2.2.1
  have s15 := hx.2.1.1.1
  unfold A_told at h
  refine en_X7_told _ _ _ _ M (sg_X7_told_0 _ _ _ _ M (sp_isPlace (by omega) (fun hp => ⟨fun z => absurd z (by decide), fun _ => ?_⟩) (fun hp => ⟨fun _ => ⟨_, rfl, ?_⟩, fun z => absurd rfl z⟩)))
  · obtain ⟨c, hc, -, rfl, cc⟩ := idx_n (n := 40) hp
    obtain ⟨-, pd, pk, ps⟩ := xX_at hx hc
    have hl := pk.2.2
    have z4 : zin (nI c) 40 := zin_n hc (by omega)
    refine ⟨fun c0 => ⟨_, rfl, ?_⟩, fun c0 => ⟨s15, by rw [h2, h4.1], by rw [h2, h4.1]; exact z4, by rw [h2, cc, (h4.2 c hc).1]; exact ps.1, ?_⟩⟩
    · rw [if_neg (fun z => by rw [idx_ge (by omega) (Or.inl c0)] at z; exact absurd z.2 (by decide))] at h
      exact h M D F e e2 hx zfc_rf
    · rw [h2, cc, (h4.2 c hc).1, pd.1]
      refine ⟨fun c1 => ?_, fun c1 => ⟨_, rfl, ?_⟩⟩
      · have hid : idx i (xat s (nI c)).length = true := idx_lt (by omega) c0 (Int32.not_le.mpr c1)
        rw [if_pos ⟨hp, hid⟩] at h
        obtain ⟨j, hj, -, rfl, cj⟩ := idx_n hid
        rw [cj] at h
        have hu : (xat s (nI c))[j]? = some ((xat s (nI c)).getD j ((0, 1), mone)) := by
          rw [List.getD_eq_getElem?_getD, List.getElem?_eq_getElem hj]
          rfl
        obtain ⟨g1, g2, -⟩ := pd.2 j _ hu
        have htk := pk.1 _ (List.mem_of_getElem? hu)
        have zj : zin (nI j) 100 := zin_n (by omega) (by omega)
        refine ⟨fun w0 => ?_, fun w0 => ⟨fun w1 => ?_, fun w1 => ⟨fun w2 => ?_, fun w2 => ⟨_, rfl, ?_⟩⟩⟩⟩
        · rw [if_pos w0] at h
          refine ⟨s15, by rw [h4.1], by rw [h4.1]; exact z4, ps.1, p_k1 ps, by rw [p_l1 ps]; exact zj, ?_⟩
          rw [ps.2.2.1, cj, g1]
          exact sp_over (by omega) htk.1 ⟨_, rfl, h M D F e e2 hx zfc_rf⟩
        · rw [if_neg w0, if_pos w1] at h
          refine ⟨s15, by rw [h4.1], by rw [h4.1]; exact z4, ps.1, p_k1 ps, by rw [p_l1 ps]; exact zj, ?_⟩
          rw [ps.2.2.1, cj, g1]
          exact sp_under (by omega) htk.1 ⟨_, rfl, h M D F e e2 hx zfc_rf⟩
        · rw [if_neg w0, if_neg w1, if_pos w2] at h
          refine ⟨s15, by rw [h4.1], by rw [h4.1]; exact z4, ps.1, p_k2 ps, by rw [p_l2 ps]; exact zj, _, rfl, ?_⟩
          rw [ps.2.2.2.1, cj, g2]
          exact h M D F e e2 hx zfc_rf
        · rw [if_neg w0, if_neg w1, if_neg w2] at h
          exact h M D F e e2 hx zfc_rf
      · rw [if_neg (fun z => by rw [idx_ge (by omega) (Or.inr (Int32.not_lt.mp c1))] at z; exact absurd z.2 (by decide))] at h
        exact h M D F e e2 hx zfc_rf
  · rw [if_neg (fun z => by rw [hp] at z; exact absurd z.1 (by decide))] at h
    exact h M D F e e2 hx zfc_rf
theorem mone_e8 : (0 : Int32) = e8 mone := by decide
theorem cX_plus {d D F : Nat} {M : zM} {s : aX} {e e2 : Nat → Nat} {p q r : Int32} {P : Int32 → zM → Prop} (hd : 10 ≤ d) (hx : xX M s D F e e2) (h : xres (A_plus s p q r) M P) : ycI d nX7_plus [.ref 2, .int p, .int q, .int r] M P := by
  obtain ⟨d, rfl, he⟩ := dS hd
  have h2 := hx.2.1.2.1.2.1
  have h4 := hx.2.1.2.2.1
  have s15 := hx.2.1.1.1
  have r11 := hx.2.1.2.1.2.2.2.2.2.2.2.1
  have ps11 := hx.2.1.2.2.2.2.2.2.1
  have hDF := hx.2.1.2.2.2.2.2.1.2.2
  unfold A_plus at h
  have no : ¬ (ipl p = true ∧ ipl q = true ∧ ipl r = true) → P (-1) M := fun z => by
    rw [if_neg z] at h
    exact h M D F e e2 hx zfc_rf
  refine en_X7_plus _ _ _ _ M (sg_X7_plus_0 _ _ _ _ M (sp_isPlace (by omega) (fun hp => ⟨fun z => absurd z (by decide), fun _ => ?_⟩) (fun hp => ⟨fun _ => ⟨_, rfl, no fun z => by rw [hp] at z; exact absurd z.1 (by decide)⟩, fun z => absurd rfl z⟩)))
  refine sp_isPlace (by omega) (fun hq => ⟨fun z => absurd z (by decide), fun _ => ?_⟩) (fun hq => ⟨fun _ => ⟨_, rfl, no fun z => by rw [hq] at z; exact absurd z.2.1 (by decide)⟩, fun z => absurd rfl z⟩)
  refine sp_isPlace (by omega) (fun hr => ⟨fun _ => ?_, fun z => absurd (Classical.not_not.mp z) (by decide)⟩) (fun hr => ⟨fun z => absurd rfl z, fun _ => ⟨_, rfl, no fun z => by rw [hr] at z; exact absurd z.2.2 (by decide)⟩⟩)
  rw [if_pos ⟨hp, hq, hr⟩] at h
  obtain ⟨i, hi, -, rfl, ci⟩ := idx_n (n := 40) hp
  obtain ⟨j, hj, -, rfl, cj⟩ := idx_n (n := 40) hq
  obtain ⟨l, hl, -, rfl, cl⟩ := idx_n (n := 40) hr
  obtain ⟨-, pdi, pki, psi⟩ := xX_at hx hi
  obtain ⟨-, pdj, pkj, psj⟩ := xX_at hx hj
  refine ⟨s15, s15, by rw [h2, h4.1], by rw [h2, h4.1]; exact zin_n hi (by omega), by rw [r11]; exact ps11.1, ?_⟩
  rw [r11, h2, ci, (h4.2 i hi).1]
  refine sp_become (by omega) ps11 psi (by omega) pdi pki.2.2 fun M1 hfr1 hpd1 => ?_
  have hs1 : ∀ a, inP 1520 a → scr D a := fun a ha => Or.inr (Or.inr (by unfold inP at ha; omega))
  have hx1 := xX_fr hfr1 hs1 hx
  have hS1 := hx1.2.1
  refine ⟨hS1.1.1, hS1.1.1, by rw [hS1.2.1.2.1, hS1.2.2.1.1], by rw [hS1.2.1.2.1, hS1.2.2.1.1]; exact zin_n hj (by omega), by rw [hS1.2.1.2.2.2.2.2.2.2.1]; exact hS1.2.2.2.2.2.2.1.1, ?_⟩
  rw [hS1.2.1.2.2.2.2.2.2.2.1, hS1.2.1.2.1, cj, (hS1.2.2.1.2 j hj).1]
  refine sp_adds (c := (1, 1)) (m := mone) (by omega) hS1.2.2.2.2.2.2.1 (hS1.2.2.1.2 j hj).2 (by omega) (by unfold inP; omega) (xX_ost hx1) hpd1 (xX_at hx1 hj).2.1 pki pkj fok_1 (by decide) mone_ok (fun f M2 hf hfr2 hpd2 => ?_) (fun M2 hn hfr2 => ?_)
  · rw [hf] at h
    have hx2 := xX_fr hfr2 hs1 hx1
    have hS2 := hx2.2.1
    have hfk := aadds_ok fok_1 (by decide) pkj.1 pki hf
    refine ⟨fun z => absurd z (by decide), fun _ => ⟨hS2.1.1, hS2.1.1, ?_⟩⟩
    rw [hS2.2.1.2.2.2.2.2.2.2.1]
    refine sp_put (by omega) hS2 hl hS2.2.2.2.2.2.2.1 (by omega) hpd2 hfk.2.2 fun M3 hfr3 hpd3 => ⟨_, rfl, h M3 D F e e2 (xX_put hfr3 hl hpd3 hfk hx2) ?_⟩
    exact zfc_tr (zfc_of hfr1 fun a ha => by unfold inP at ha; omega) (zfc_tr (zfc_of hfr2 fun a ha => by unfold inP at ha; omega) (zfc_of hfr3 (inP_c hl)))
  · rw [hn] at h
    exact ⟨fun _ => ⟨_, rfl, h M2 D F e e2 (xX_fr hfr2 hs1 hx1) (zfc_tr (zfc_of hfr1 fun a ha => by unfold inP at ha; omega) (zfc_of hfr2 fun a ha => by unfold inP at ha; omega))⟩, fun z => absurd rfl z⟩
theorem cX_times {d D F : Nat} {M : zM} {s : aX} {e e2 : Nat → Nat} {p q r : Int32} {P : Int32 → zM → Prop} (hd : 10 ≤ d) (hx : xX M s D F e e2) (h : xres (A_times s p q r) M P) : ycI d nX7_times [.ref 2, .int p, .int q, .int r] M P := by
  obtain ⟨d, rfl, he⟩ := dS hd
  have h2 := hx.2.1.2.1.2.1
  have h4 := hx.2.1.2.2.1
  have s15 := hx.2.1.1.1
  have r12 := hx.2.1.2.1.2.2.2.2.2.2.2.2.1
  have ps12 := hx.2.1.2.2.2.2.2.2.2.1
  have hDF := hx.2.1.2.2.2.2.2.1.2.2
  unfold A_times at h
  have no : ¬ (ipl p = true ∧ ipl q = true ∧ ipl r = true) → P (-1) M := fun z => by
    rw [if_neg z] at h
    exact h M D F e e2 hx zfc_rf
  refine en_X7_times _ _ _ _ M (sg_X7_times_0 _ _ _ _ M (sp_isPlace (by omega) (fun hp => ⟨fun z => absurd z (by decide), fun _ => ?_⟩) (fun hp => ⟨fun _ => ⟨_, rfl, no fun z => by rw [hp] at z; exact absurd z.1 (by decide)⟩, fun z => absurd rfl z⟩)))
  refine sp_isPlace (by omega) (fun hq => ⟨fun z => absurd z (by decide), fun _ => ?_⟩) (fun hq => ⟨fun _ => ⟨_, rfl, no fun z => by rw [hq] at z; exact absurd z.2.1 (by decide)⟩, fun z => absurd rfl z⟩)
  refine sp_isPlace (by omega) (fun hr => ⟨fun _ => ?_, fun z => absurd (Classical.not_not.mp z) (by decide)⟩) (fun hr => ⟨fun z => absurd rfl z, fun _ => ⟨_, rfl, no fun z => by rw [hr] at z; exact absurd z.2.2 (by decide)⟩⟩)
  rw [if_pos ⟨hp, hq, hr⟩] at h
  obtain ⟨i, hi, -, rfl, ci⟩ := idx_n (n := 40) hp
  obtain ⟨j, hj, -, rfl, cj⟩ := idx_n (n := 40) hq
  obtain ⟨l, hl, -, rfl, cl⟩ := idx_n (n := 40) hr
  obtain ⟨-, pdi, pki, psi⟩ := xX_at hx hi
  obtain ⟨-, pdj, pkj, psj⟩ := xX_at hx hj
  refine ⟨s15, s15, by rw [h2, h4.1], by rw [h2, h4.1]; exact zin_n hi (by omega), s15, by rw [h2, h4.1], by rw [h2, h4.1]; exact zin_n hj (by omega), by rw [r12]; exact ps12.1, ?_⟩
  rw [r12, h2, ci, cj, (h4.2 i hi).1, (h4.2 j hj).1]
  have hs1 : ∀ a, inP 1524 a → scr D a := fun a ha => Or.inr (Or.inr (by unfold inP at ha; omega))
  refine sp_becomeProduct (by omega) ps12 psi psj (by omega) (by omega) (by unfold inP; omega) (xX_ost hx) pdi pdj pki pkj (fun f M2 hf hfr2 hpd2 => ?_) (fun M2 hn hfr2 => ?_)
  · rw [hf] at h
    have hx2 := xX_fr hfr2 hs1 hx
    have hS2 := hx2.2.1
    have hfk := aprod_ok pkj.1 pki.1 pok_nil hf
    refine ⟨fun z => absurd z (by decide), fun _ => ⟨hS2.1.1, hS2.1.1, ?_⟩⟩
    rw [hS2.2.1.2.2.2.2.2.2.2.2.1]
    refine sp_put (by omega) hS2 hl hS2.2.2.2.2.2.2.2.1 (by omega) hpd2 hfk.2.2 fun M3 hfr3 hpd3 => ⟨_, rfl, h M3 D F e e2 (xX_put hfr3 hl hpd3 hfk hx2) ?_⟩
    exact zfc_tr (zfc_of hfr2 fun a ha => by unfold inP at ha; omega) (zfc_of hfr3 (inP_c hl))
  · rw [hn] at h
    exact ⟨fun _ => ⟨_, rfl, h M2 D F e e2 (xX_fr hfr2 hs1 hx) (zfc_of hfr2 fun a ha => by unfold inP at ha; omega)⟩, fun z => absurd rfl z⟩
theorem cX_same {d D F : Nat} {M : zM} {s : aX} {e e2 : Nat → Nat} {p q : Int32} {P : Int32 → zM → Prop} (hd : 10 ≤ d) (hx : xX M s D F e e2) (h : xres (A_same s p q) M P) : ycI d nX7_same [.ref 2, .int p, .int q] M P := by
  obtain ⟨d, rfl, he⟩ := dS hd
  have h2 := hx.2.1.2.1.2.1
  have h4 := hx.2.1.2.2.1
  have s15 := hx.2.1.1.1
  unfold A_same at h
  have no : ¬ (ipl p = true ∧ ipl q = true) → P (-1) M := fun z => by
    rw [if_neg z] at h
    exact h M D F e e2 hx zfc_rf
  refine en_X7_same _ _ _ M (sg_X7_same_0 _ _ _ M (sp_isPlace (by omega) (fun hp => ⟨fun z => absurd z (by decide), fun _ => ?_⟩) (fun hp => ⟨fun _ => ⟨_, rfl, no fun z => by rw [hp] at z; exact absurd z.1 (by decide)⟩, fun z => absurd rfl z⟩)))
  refine sp_isPlace (by omega) (fun hq => ⟨fun _ => ?_, fun z => absurd (Classical.not_not.mp z) (by decide)⟩) (fun hq => ⟨fun z => absurd rfl z, fun _ => ⟨_, rfl, no fun z => by rw [hq] at z; exact absurd z.2 (by decide)⟩⟩)
  rw [if_pos ⟨hp, hq⟩] at h
  obtain ⟨i, hi, -, rfl, ci⟩ := idx_n (n := 40) hp
  obtain ⟨j, hj, -, rfl, cj⟩ := idx_n (n := 40) hq
  obtain ⟨-, pdi, pki, psi⟩ := xX_at hx hi
  obtain ⟨-, pdj, pkj, psj⟩ := xX_at hx hj
  refine ⟨s15, by rw [h2, h4.1], by rw [h2, h4.1]; exact zin_n hi (by omega), s15, by rw [h2, h4.1], by rw [h2, h4.1]; exact zin_n hj (by omega), by rw [h2, ci, (h4.2 i hi).1]; exact psi.1, ?_⟩
  rw [h2, ci, cj, (h4.2 i hi).1, (h4.2 j hj).1]
  refine sp_isLike (by omega) psi psj pdi pdj pki pkj (fun heq => ⟨fun z => absurd z (by decide), fun _ => ⟨_, rfl, ?_⟩⟩) (fun heq => ⟨fun _ => ⟨_, rfl, ?_⟩, fun z => absurd rfl z⟩)
  · rw [if_pos heq] at h
    exact h M D F e e2 hx zfc_rf
  · rw [if_neg heq] at h
    exact h M D F e e2 hx zfc_rf
theorem gcd_le {a b : Int} (hb : 0 < b) : 0 < (Int.gcd a b : Int) := by
  have : 0 < Int.gcd a b := Int.gcd_pos_of_ne_zero_right a (by omega)
  omega
theorem ediv_bd {a g n : Int} (hg : 0 < g) (hn : 0 ≤ n) (h1 : -n ≤ a) (h2 : a ≤ n) : -n ≤ a / g ∧ a / g ≤ n := by
  have hgn : n ≤ n * g := by
    have := Int.mul_le_mul_of_nonneg_left (show (1 : Int) ≤ g by omega) hn
    rw [Int.mul_one] at this
    exact this
  constructor
  · apply Int.le_ediv_of_mul_le hg
    rw [Int.neg_mul]
    omega
  · by_cases h0 : 0 ≤ a
    · exact Int.le_trans (Int.ediv_le_self g h0) h2
    · have : a / g < 0 := Int.ediv_neg_of_neg_of_pos (by omega) hg
      omega
theorem alow_in {a b : Int} (ha : -1000000000 ≤ a ∧ a ≤ 1000000000) (hb : 0 < b ∧ b ≤ 1000000000) : alow a b = some (a / (Int.gcd a b : Int), b / (Int.gcd a b : Int)) := by
  have hg := gcd_le (a := a) hb.1
  unfold alow
  rw [if_pos ⟨ediv_bd hg (by omega) ha.1 ha.2, (ediv_bd hg (by omega) (by omega) hb.2).2⟩]
theorem cX_term {d D F : Nat} {M : zM} {s : aX} {e e2 : Nat → Nat} {p a b w : Int32} {P : Int32 → zM → Prop} (hd : 10 ≤ d) (hx : xX M s D F e e2) (h : xres (A_term s p a b w) M P) : ycI d nX7_term [.ref 2, .int p, .int a, .int b, .int w] M P := by
  obtain ⟨d, rfl, he⟩ := dS hd
  have h2 := hx.2.1.2.1.2.1
  have h4 := hx.2.1.2.2.1
  have s15 := hx.2.1.1.1
  unfold A_term at h
  refine en_X7_term _ _ _ _ _ M (sg_X7_term_0 _ _ _ _ _ M (sp_isPlace (by omega) (fun hp => ⟨fun _ => ?_, fun z => absurd (Classical.not_not.mp z) (by decide)⟩) (fun hp => ⟨fun z => absurd rfl z, fun _ => ⟨_, rfl, ?_⟩⟩)))
  · rw [if_pos hp] at h
    have no : (alg a 1000000000 = true ∨ alg b 1000000000 = true ∨ b = 0 ∨ atold (xn s) (b4 w) = false) → P (-2) M := fun z => by
      rw [if_pos z] at h
      exact h M D F e e2 hx zfc_rf
    refine sp_isLarge (n := 1000000000) (by omega) (by decide) (by omega) (fun l1 => ⟨fun _ => ⟨_, rfl, no (Or.inl l1)⟩, fun z => absurd (Classical.not_not.mp z) (by decide)⟩) (fun l1 => ⟨fun z => absurd rfl z, fun _ => ?_⟩)
    refine sp_isLarge (n := 1000000000) (by omega) (by decide) (by omega) (fun l2 => ⟨fun _ => ⟨_, rfl, no (Or.inr (Or.inl l2))⟩, fun z => absurd (Classical.not_not.mp z) (by decide)⟩) (fun l2 => ⟨fun z => absurd rfl z, fun _ => ⟨fun b0 => ⟨_, rfl, no (Or.inr (Or.inr (Or.inl b0)))⟩, fun b0 => ⟨s15, ?_⟩⟩⟩)
    refine sp_isTold (by omega) hx (fun l3 => ⟨fun _ => ?_, fun z => absurd (Classical.not_not.mp z) (by decide)⟩) (fun l3 => ⟨fun z => absurd rfl z, fun _ => ⟨_, rfl, no (Or.inr (Or.inr (Or.inr l3)))⟩⟩)
    rw [if_neg (fun z => by
      rcases z with z | z | z | z
      · rw [l1] at z; cases z
      · rw [l2] at z; cases z
      · exact b0 z
      · rw [l3] at z; cases z)] at h
    obtain ⟨i, hi, -, rfl, ci⟩ := idx_n (n := 40) hp
    obtain ⟨-, pd, pk, ps⟩ := xX_at hx hi
    refine ⟨s15, by rw [h2, h4.1], by rw [h2, h4.1]; exact zin_n hi (by omega), ?_⟩
    intro r5
    have e5 : r5 = 5 + 4 * i := by rw [show r5 = zR M (zR M 2 2) (nI i).toNatClampNeg from rfl, h2, ci, (h4.2 i hi).1]
    clear_value r5
    subst e5
    have hm := (atold_iff.mp l3).1
    have la := of_decide_eq_false l1
    have lb := of_decide_eq_false l2
    have hb0 : b.toInt ≠ 0 := fun z => b0 (Int32.toInt_inj.mp (by rw [z, Int32.toInt_zero]))
    refine ⟨fun a0 => ⟨ps.1, _, rfl, ?_⟩, fun a0 => ?_⟩
    · rw [if_pos a0] at h
      rw [pd.1]
      exact h M D F e e2 hx zfc_rf
    · rw [if_neg a0] at h
      have ha0 : a.toInt ≠ 0 := fun z => a0 (Int32.toInt_inj.mp (by rw [z, Int32.toInt_zero]))
      -- what comes
      have fin : ∀ (A B : Int), -1000000000 ≤ A ∧ A ≤ 1000000000 → 0 < B ∧ B ≤ 1000000000 → A ≠ 0 → A = (if b.toInt < 0 then -a.toInt else a.toInt) → B = (if b.toInt < 0 then -b.toInt else b.toInt) → ∀ (x y : Int64), x.toInt = A → y.toInt = B → ycJ d nX2_lowest [.long x, .long y] M fun c11 M10 => ((zsh M10 (5 + 4 * i)).1 = 14 ∧ (ycI d nX6_come [.ref (5 + 4 * i), .long c11, .int w] M10 fun c13 M12 => ((¬ c13 = 0 → ((zsh M12 (5 + 4 * i)).1 = 14 ∧ (∃ x : Int32, [Value.int (zI M12 (5 + 4 * i) 4)] = [.int x] ∧ P x M12))) ∧ (¬ (¬ c13 = 0) → (∃ x : Int32, [Value.int (-7)] = [.int x] ∧ P x M12))))) := by
        intro A B hA hB hA0 eA eB x y hxA hyB
        rw [← eA, ← eB] at h
        refine sp_lowest (by omega) hxA hyB (by omega) (by omega) ⟨ps.1, ?_⟩
        have hal := alow_in hA hB
        cases hf : alow A B with
        | none => rw [hal] at hf; cases hf
        | some f =>
          rw [hf] at h
          obtain ⟨k1, k2, k3⟩ := alow_ok hB.1 hf
          have ht : tok (f, b4 w) := ⟨k1, fun z => hA0 (k2.mp z), hm⟩
          have hc := sp_come (d := d) (p := 5 + 4 * i) (o := 3) (k := xk s) (M := M) (L := xat s (nI i)) (t := (f, b4 w)) (P := fun c13 M12 => ((¬ c13 = 0 → ((zsh M12 (5 + 4 * i)).1 = 14 ∧ (∃ x : Int32, [Value.int (zI M12 (5 + 4 * i) 4)] = [.int x] ∧ P x M12))) ∧ (¬ (¬ c13 = 0) → (∃ x : Int32, [Value.int (-7)] = [.int x] ∧ P x M12)))) (by omega) ps (xX_ost hx) pd pk ht
          have hc := by
            have e : e8 (f, b4 w).2 = w := b4_e8 w
            rw [e] at hc
            exact hc
          refine hc (fun L' M' hL' hfr hpd => ⟨fun _ => ⟨(pst_fr hfr ps).1, _, rfl, ?_⟩, fun z => absurd (Classical.not_not.mp z) (by decide)⟩) (fun hn => ⟨fun z => absurd rfl z, fun _ => ⟨_, rfl, ?_⟩⟩)
          · have h : xres (match acome (xk s) (f, b4 w) (xat s (nI i)) with
              | none => (-7, s)
              | some L => (nI L.length, xput s (nI i) L)) M P := h
            rw [hL'] at h
            rw [hpd.1]
            exact h M' D F e e2 (xX_put hfr hi hpd (acome_ok pk ht hL') hx) (zfc_of hfr (inP_c hi))
          · have h : xres (match acome (xk s) (f, b4 w) (xat s (nI i)) with
              | none => (-7, s)
              | some L => (nI L.length, xput s (nI i) L)) M P := h
            rw [hn] at h
            exact h M D F e e2 hx zfc_rf
      refine ⟨fun c => ?_, fun c => ?_⟩
      · have c := Int32.le_iff_toInt_le.mp c
        rw [Int32.toInt_zero] at c
        exact fin a.toInt b.toInt (by omega) (by omega) ha0 (by rw [if_neg (by omega)]) (by rw [if_neg (by omega)]) _ _ (Int32.toInt_toInt64 a) (Int32.toInt_toInt64 b)
      · have c : ¬ 0 ≤ b.toInt := fun z => c (Int32.le_iff_toInt_le.mpr (by rw [Int32.toInt_zero]; exact z))
        exact fin (-a.toInt) (-b.toInt) (by omega) (by omega) (by omega) (by rw [if_pos (by omega)]) (by rw [if_pos (by omega)]) _ _ (by rw [Int32.toInt_toInt64, ti_neg (by omega)]) (by rw [Int32.toInt_toInt64, ti_neg (by omega)])
  · rw [if_neg (by rw [hp]; decide)] at h
    exact h M D F e e2 hx zfc_rf
