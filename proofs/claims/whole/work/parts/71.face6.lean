/-! calls of the class: checks, radicals -/
theorem asmu_s {k g : Nat} {gs cs : List aP} : asmu k gs cs (g + 1) = (match asmu k gs cs g with
    | none => none
    | some f => match aprod k (gs.getD g []) (cs.getD g []) [] with
      | none => none
      | some p => aadds k (1, 1) mone p f) := rfl
theorem asmu_none {k n : Nat} {gs cs : List aP} (h : asmu k gs cs n = none) : ∀ {m : Nat}, n ≤ m → asmu k gs cs m = none
  | 0, hm => by rw [show n = 0 by omega] at h; exact h
  | m + 1, hm => by
    by_cases e : n = m + 1
    · rw [← e]; exact h
    · rw [asmu_s, asmu_none h (show n ≤ m by omega)]
theorem sp_sumUp {d D F c k : Nat} {M : zM} {s : aX} {e e2 : Nat → Nat} {cs : List aP} {P : Int32 → zM → Prop} (hd : 7 ≤ d) (hx : xX M s D F e e2) (hk : xk s = k) (hcs : zsh M c = (5, 8)) (hcr : ∀ i, i < 8 → zR M c i = c + 1 + 4 * i ∧ pst M (c + 1 + 4 * i) 3) (hcd : ∀ (i : Nat) (L : aP), cs[i]? = some L → pdy M (c + 1 + 4 * i) k L ∧ pok k L) (hcl : cs.length = (xgs s).length) (hc : 205 ≤ c ∧ c < 1155)
    (h1 : ∀ f M', asmu k (xgs s) cs (xgs s).length = some f → zfr (fun a => 1520 ≤ a ∧ a < 1528) M M' → pdy M' 1520 k f → pok k f → P 1 M') (h0 : ∀ M', asmu k (xgs s) cs (xgs s).length = none → zfr (fun a => 1520 ≤ a ∧ a < 1528) M M' → P 0 M') : ycI d nX7_sumUp [.ref 2, .ref c] M P := by
  obtain ⟨d, rfl, he⟩ := dS hd
  subst hk
  have gl := hx.1.2.2.2.1
  have r11 := hx.2.1.2.1.2.2.2.2.2.2.2.1
  have ps11 := hx.2.1.2.2.2.2.2.2.1
  have up1 : ∀ a, inP 1520 a → 1520 ≤ a ∧ a < 1528 := fun a ha => by unfold inP at ha; omega
  have up2 : ∀ a, inP 1524 a → 1520 ≤ a ∧ a < 1528 := fun a ha => by unfold inP at ha; omega
  have loop : ∀ (n g : Nat) (f : aP) (M' : zM), g + n = (xgs s).length → asmu (xk s) (xgs s) cs g = some f → zfr (fun a => 1520 ≤ a ∧ a < 1528) M M' → pdy M' 1520 (xk s) f → pok (xk s) f → wX7_sumUp d (fun r M2 => ∃ x : Int32, r = [.int x] ∧ P x M2) 5 [some (.ref 2), some (.ref c), some (.int (nI g))] [] M' := by
    intro n
    induction n with
    | zero =>
      intro g f M' hg has hfr hpd hpk
      have hx' := xX_fr hfr (fun a ha => Or.inr (Or.inr (by omega))) hx
      rw [show g = (xgs s).length by omega] at has
      exact sg_X7_sumUp_5 _ _ _ _ ⟨hx'.2.1.1.1, fun _ => ⟨Or.inr rfl, _, rfl, h1 f M' has hfr hpd hpk⟩, fun z => absurd (by rw [hx'.2.2.1.2.2.1, show g = (xgs s).length by omega]; exact Int32.le_refl _) z⟩
    | succ n ih =>
      intro g f M' hg has hfr hpd hpk
      have hx' := xX_fr hfr (fun a ha => Or.inr (Or.inr (by omega))) hx
      have hS' := hx'.2.1
      have hgl : g < (xgs s).length := by omega
      have cg := cl_n (n := g) (by omega)
      have hcg := hcr g (by omega)
      have hgg := hS'.2.2.2.1.2 g (by omega)
      have hug : (xgs s)[g]? = some ((xgs s).getD g []) := by
        rw [List.getD_eq_getElem?_getD, List.getElem?_eq_getElem hgl]
        rfl
      have huc : cs[g]? = some (cs.getD g []) := by
        rw [List.getD_eq_getElem?_getD, List.getElem?_eq_getElem (by omega)]
        rfl
      obtain ⟨gd, gk⟩ := xX_gdy hx' g _ hug
      obtain ⟨cd, ck⟩ := hcd g _ huc
      have cd := pdy_fr hfr (fun a ha => by unfold inP at ha; omega) cd
      have cs' := pst_fr hfr hcg.2
      have zr : zR M' c g = c + 1 + 4 * g := by rw [hfr.2.2.2.1]; exact hcg.1
      have zs' : zsh M' c = (5, 8) := by rw [hfr.1]; exact hcs
      have stp := asmu_s (k := xk s) (g := g) (gs := xgs s) (cs := cs)
      rw [has] at stp
      dsimp only at stp
      refine sg_X7_sumUp_5 _ _ _ _ ⟨hS'.1.1, fun z => ?_, fun _ => ⟨hS'.1.1, by rw [zs'], by rw [zs']; exact zin_n (by omega) (by omega), hS'.1.1, by rw [hS'.2.1.2.2.1, hS'.2.2.2.1.1], by rw [hS'.2.1.2.2.1, hS'.2.2.2.1.1]; exact zin_n (by omega) (by omega), by rw [hS'.2.1.2.2.2.2.2.2.2.2.1]; exact hS'.2.2.2.2.2.2.2.1.1, ?_⟩⟩
      · rw [hx'.2.2.1.2.2.1] at z
        have := (nI_leI (by omega) (by omega)).mp z
        omega
      · rw [hS'.2.1.2.2.2.2.2.2.2.2.1, cg, zr, hS'.2.1.2.2.1, hgg.1]
        refine sp_becomeProduct (by omega) hS'.2.2.2.2.2.2.2.1 cs' hgg.2 (by omega) (by omega) (by unfold inP; omega) (xX_ost hx') cd gd ck gk (fun p M2 hp hfr2 hpd2 => ?_) (fun M2 hn hfr2 => ?_)
        · rw [hp] at stp
          dsimp only at stp
          have hpk2 := aprod_ok gk.1 ck.1 pok_nil hp
          have hfa := zfr_tr hfr (zfr_up hfr2 up2)
          have hx2 := xX_fr hfa (fun a ha => Or.inr (Or.inr (by omega))) hx
          have hS2 := hx2.2.1
          refine ⟨fun z => absurd z (by decide), fun _ => ⟨hS2.1.1, hS2.1.1, by rw [hS2.2.1.2.2.2.2.2.2.2.1]; exact hS2.2.2.2.2.2.2.1.1, ?_⟩⟩
          rw [hS2.2.1.2.2.2.2.2.2.2.1, hS2.2.1.2.2.2.2.2.2.2.2.1]
          refine sp_adds (c := (1, 1)) (m := mone) (by omega) hS2.2.2.2.2.2.2.1 hS2.2.2.2.2.2.2.2.1 (by omega) (by unfold inP; omega) (xX_ost hx2) (pdy_fr hfr2 (inP_ne (by omega)) hpd) hpd2 hpk hpk2 fok_1 (by decide) mone_ok (fun f' M3 hf' hfr3 hpd3 => ?_) (fun M3 hn3 hfr3 => ?_)
          · rw [hf'] at stp
            refine ⟨fun _ => ?_, fun z => absurd (Classical.not_not.mp z) (by decide)⟩
            intro v2
            rw [show v2 = nI (g + 1) from nI_1 g]
            exact ih (g + 1) f' M3 (by omega) stp (zfr_tr hfa (zfr_up hfr3 up1)) hpd3 (aadds_ok fok_1 (by decide) hpk2.1 hpk hf')
          · rw [hn3] at stp
            exact ⟨fun z => absurd rfl z, fun _ => ⟨Or.inl rfl, _, rfl, h0 M3 (asmu_none stp (by omega)) (zfr_tr hfa (zfr_up hfr3 up1))⟩⟩
        · rw [hn] at stp
          exact ⟨fun _ => ⟨Or.inl rfl, _, rfl, h0 M2 (asmu_none stp (by omega)) (zfr_tr hfr (zfr_up hfr2 up2))⟩, fun z => absurd rfl z⟩
  refine en_X7_sumUp _ _ M (sg_X7_sumUp_0 _ _ M ⟨hx.2.1.1.1, by rw [r11]; exact ps11.1, ?_⟩)
  rw [r11]
  exact sp_empty (k := xk s) (by omega) ps11 fun M1 hfr1 hpd1 => loop (xgs s).length 0 [] M1 (by omega) rfl (zfr_up hfr1 up1) hpd1 pok_nil
theorem achk_s {k i : Nat} {gs : List aP} {es : List aE} : achk k gs es (i + 1) = (match achk k gs es i with
    | none => none
    | some b => match asmu k gs (es.getD i aE0).2 gs.length with
      | none => none
      | some f => some (b && decide (f = (es.getD i aE0).1))) := rfl
theorem achk_none {k n : Nat} {gs : List aP} {es : List aE} (h : achk k gs es n = none) : ∀ {m : Nat}, n ≤ m → achk k gs es m = none
  | 0, hm => by rw [show n = 0 by omega] at h; exact h
  | m + 1, hm => by
    by_cases e : n = m + 1
    · rw [← e]; exact h
    · rw [achk_s, achk_none h (show n ≤ m by omega)]
theorem cX_check {d D F : Nat} {M : zM} {s : aX} {e e2 : Nat → Nat} {P : Int32 → zM → Prop} (hd : 10 ≤ d) (hx : xX M s D F e e2) (h : xres (A_check s) M P) : ycI d nX7_check [.ref 2] M P := by
  obtain ⟨d, rfl, he⟩ := dS hd
  have s15 := hx.2.1.1.1
  unfold A_check at h
  refine en_X7_check _ M (sg_X7_check_0 _ M ⟨s15, fun c => ?_, fun c => ⟨_, rfl, ?_⟩⟩)
  · rw [hx.2.2.1.2.2.2.1] at c
    have hh := eB_1.mp c
    rw [if_pos hh] at h
    have hok := (hx.1.2.2.2.2.1 hh).1
    have h24 := (hx.1.2.2.2.2.1 hh).2
    have gl := hx.1.2.2.2.1.1
    have hsc : ∀ a, (1520 ≤ a ∧ a < 1528) → scr D a := fun a ha => Or.inr (Or.inr (by omega))
    have hfc1 : ∀ a, (1520 ≤ a ∧ a < 1528) → 2 ≤ a ∧ a < 1529 := fun a ha => by omega
    have loop : ∀ (n i : Nat) (b : Bool) (M' : zM) (o3 : Option Value), i + n = (xes s).length → achk (xk s) (xgs s) (xes s) i = some b → zfr (fun a => 1520 ≤ a ∧ a < 1528) M M' → wX7_check d (fun r M2 => ∃ x : Int32, r = [.int x] ∧ P x M2) 9 [some (.ref 2), some (.int (eB b)), some (.int (nI i)), o3] [] M' := by
      intro n
      induction n with
      | zero =>
        intro i b M' o3 hi hb hfr
        have hx' := xX_fr hfr hsc hx
        have hS' := hx'.2.1
        have hc' := (hx'.2.2.2.2.2.1 hh).1
        rw [show i = (xes s).length by omega] at hb
        rw [hb] at h
        refine sg_X7_check_9 _ _ _ _ _ ⟨hS'.1.1, by rw [hS'.2.1.2.2.2.1]; exact hS'.2.2.2.2.1.1.1.1, fun _ => ⟨_, rfl, ?_⟩, fun z => absurd (by rw [hS'.2.1.2.2.2.1, hc'.1, show i = (xes s).length by omega]; exact Int32.le_refl _) z⟩
        cases b with
        | true => exact h M' D F e e2 hx' (zfc_of hfr hfc1)
        | false => exact h M' D F e e2 hx' (zfc_of hfr hfc1)
      | succ n ih =>
        intro i b M' o3 hi hb hfr
        have hx' := xX_fr hfr hsc hx
        have hS' := hx'.2.1
        have hI' := hS'.2.2.2.2.1.1
        have hc' := (hx'.2.2.2.2.2.1 hh).1
        have hil : i < (xes s).length := by omega
        have ci := cl_n (n := i) (by omega)
        have hR := hI'.2.1.2 i (by omega)
        have bi := hI'.2.2.1.1 i (by omega)
        have hui : (xes s)[i]? = some ((xes s).getD i aE0) := by
          rw [List.getD_eq_getElem?_getD, List.getElem?_eq_getElem hil]
          rfl
        have hEi := (hx'.2.2.2.2.2.1 hh).2 i _ hui
        have hki := hok _ (List.mem_of_getElem? hui)
        have stp := achk_s (k := xk s) (i := i) (gs := xgs s) (es := xes s)
        rw [hb] at stp
        dsimp only at stp
        generalize (xes s).getD i aE0 = E at hui hEi hki stp
        refine sg_X7_check_9 _ _ _ _ _ ⟨hS'.1.1, by rw [hS'.2.1.2.2.2.1]; exact hI'.1.1, fun z => ?_, fun _ => ⟨hS'.1.1, by rw [hS'.2.1.2.2.2.1]; exact hI'.1.1, by rw [hS'.2.1.2.2.2.1, hI'.1.2.2.1, hI'.2.1.1], by rw [hS'.2.1.2.2.2.1, hI'.1.2.2.1, hI'.2.1.1]; exact zin_n (by omega) (by omega), ?_⟩⟩
        · rw [hS'.2.1.2.2.2.1, hc'.1] at z
          have := (nI_leI (by omega) (by omega)).mp z
          omega
        · intro r3
          have e3 : r3 = e i := by rw [show r3 = zR M' (zR M' (zR M' 2 5) 1) (nI i).toNatClampNeg from rfl, hS'.2.1.2.2.2.1, hI'.1.2.2.1, ci, hR.1]
          clear_value r3
          subst e3
          refine ⟨hR.2.1, hS'.1.1, ?_⟩
          rw [hR.2.2.2.1]
          refine sp_sumUp (k := xk s) (by omega) hx' rfl hR.2.2.2.2.1 (fun j hj => ⟨by rw [hR.2.2.2.2.2.1 j hj], hR.2.2.2.2.2.2.2 j hj⟩) (fun j L hj => ⟨hEi.2 j L hj, hki.1.2 L (List.mem_of_getElem? hj)⟩) hki.2.2 (by omega) (fun f M2 hf hfr2 hpd2 hpk2 => ?_) (fun M2 hn hfr2 => ?_)
          · rw [hf] at stp
            dsimp only at stp
            have hfa := zfr_tr hfr hfr2
            have hx2 := xX_fr hfa hsc hx
            have hS2 := hx2.2.1
            have hR2 := hS2.2.2.2.2.1.1.2.1.2 i (by omega)
            refine ⟨fun _ => ⟨hS2.1.1, hR2.2.1, by rw [hS2.2.1.2.2.2.2.2.2.2.1]; exact hS2.2.2.2.2.2.2.1.1, ?_⟩, fun z => absurd (Classical.not_not.mp z) (by decide)⟩
            rw [hS2.2.1.2.2.2.2.2.2.2.1, hR2.2.2.1]
            refine sp_isLike (by omega) hS2.2.2.2.2.2.2.1 hR2.2.2.2.2.2.2.1 hpd2 (pdy_fr hfr2 (fun a ha => by unfold inP at ha; omega) hEi.1) hpk2 hki.1.1 (fun heq => ⟨fun _ => ?_, fun z => absurd (Classical.not_not.mp z) (by decide)⟩) (fun heq => ⟨fun z => absurd rfl z, fun _ => ?_⟩)
            · intro v2
              rw [show v2 = nI (i + 1) from nI_1 i]
              exact ih (i + 1) b M2 _ (by omega) (by rw [stp, decide_eq_true heq, Bool.and_true]) hfa
            · intro v2
              rw [show v2 = nI (i + 1) from nI_1 i]
              exact ih (i + 1) false M2 _ (by omega) (by rw [stp, decide_eq_false heq, Bool.and_false]) hfa
          · rw [hn] at stp
            rw [achk_none stp (by omega)] at h
            exact ⟨fun z => absurd rfl z, fun _ => ⟨_, rfl, h M2 D F e e2 (xX_fr (zfr_tr hfr hfr2) hsc hx) (zfc_of (zfr_tr hfr hfr2) hfc1)⟩⟩
    exact loop (xes s).length 0 true M _ (by omega) rfl zfr_rf
  · rw [hx.2.2.1.2.2.2.1] at c
    have hh := eB_0.mp (Classical.not_not.mp c)
    rw [if_neg (by rw [hh]; decide)] at h
    exact h M D F e e2 hx zfc_rf
theorem munit_ok {v : Nat} : mok (munit v) := by
  unfold mok munit
  split <;> decide
theorem cX_radical {d D F : Nat} {M : zM} {s : aX} {e e2 : Nat → Nat} {p l : Int32} {P : Int32 → zM → Prop} (hd : 10 ≤ d) (hx : xX M s D F e e2) (h : xres (A_radical s p l) M P) : ycI d nX7_radical [.ref 2, .int p, .int l] M P := by
  obtain ⟨d, rfl, he⟩ := dS hd
  have s15 := hx.2.1.1.1
  have hnv := hx.1.1
  have n0 := hx.2.2.1.2.1
  have n4 := hx.2.2.1.2.2.1
  have r3 := hx.2.1.2.1.2.2.1
  have gl := hx.1.2.2.2.1
  have hDF := hx.2.1.2.2.2.2.2.1.2.2
  unfold A_radical at h
  refine en_X7_radical _ _ _ M (sg_X7_radical_0 _ _ _ M (sp_isPlace (by omega) (fun hp => ⟨fun _ => ?_, fun z => absurd (Classical.not_not.mp z) (by decide)⟩) (fun hp => ⟨fun z => absurd rfl z, fun _ => ⟨_, rfl, ?_⟩⟩)))
  · rw [if_pos hp] at h
    have no : idx l 20001 = false → P (-2) M := fun z => by
      rw [if_neg (by rw [z]; decide)] at h
      exact h M D F e e2 hx zfc_rf
    refine ⟨fun c => ⟨_, rfl, no (idx_ge (by omega) (Or.inl c))⟩, fun c0 => ⟨fun c1 => ⟨s15, ?_⟩, fun c1 => ⟨_, rfl, no (lim_no c1)⟩⟩⟩
    have hid := lim_ok c0 c1
    rw [if_pos hid] at h
    obtain ⟨lim, hlim, -, rfl, cl⟩ := idx_n hid
    rw [cl] at h
    rw [n0]
    refine ⟨fun c4 => ?_, fun c4 => ⟨_, rfl, ?_⟩⟩
    · have c4 := (nI_ltI (b := 4) (by omega) (by omega)).mp c4
      rw [if_neg (by omega)] at h
      obtain ⟨i, hi, -, rfl, ci⟩ := idx_n (n := 40) hp
      have cg := cl_n (n := (xgs s).length) (by omega)
      have hgn := hx.2.1.2.2.2.1.2 (xgs s).length (by omega)
      refine ⟨s15, s15, by rw [r3, hx.2.1.2.2.2.1.1], by rw [r3, hx.2.1.2.2.2.1.1, n4]; exact zin_n (by omega) (by omega), ?_⟩
      intro r3'
      have e3 : r3' = 165 + 1 + 4 * (xgs s).length := by rw [show r3' = zR M (zR M 2 3) (zI M 2 4).toNatClampNeg from rfl, r3, n4, cg, hgn.1]
      clear_value r3'
      subst e3
      have hs : ∀ a, inP (165 + 1 + 4 * (xgs s).length) a → scr D a ∨ (166 + 4 * (xgs s).length ≤ a ∧ a < 202) := fun a ha => Or.inr (by unfold inP at ha; omega)
      have hfcs : ∀ a, inP (165 + 1 + 4 * (xgs s).length) a → 2 ≤ a ∧ a < 1529 := fun a ha => by unfold inP at ha; omega
      refine ⟨hgn.2.1, sp_empty (k := xk s) (by omega) hgn.2 fun M1 hfr1 hpd1 => ?_⟩
      have hx1 := xX_fq (zfq_of hfr1) hs (ist_fr hfr1 hx.2.1.2.2.2.2.1.2) hx
      have hgn1 := pst_fr hfr1 hgn.2
      refine ⟨hgn1.1, ?_⟩
      refine sp_come (t := ((1, 1), mone)) (by omega) hgn1 (xX_ost hx1) hpd1 pok_nil tok_1 (fun L' M2 hL' hfr2 hpd2 => ?_) (fun hn => by cases hn)
      have hL' : some [((1, 1), mone)] = some L' := hL'
      cases hL'
      have hfa2 := zfr_tr hfr1 hfr2
      have hx2 := xX_fq (zfq_of hfa2) hs (ist_fr hfa2 hx.2.1.2.2.2.2.1.2) hx
      have hS2 := hx2.2.1
      have hgn2 := pst_fr hfr2 hgn1
      refine ⟨fun z => absurd z (by decide), fun _ => ⟨hS2.1.1, ?_⟩⟩
      rw [hx2.2.2.1.2.1]
      refine sp_single (by omega) (by omega) ⟨hS2.1.1, by rw [hS2.2.1.2.1, hS2.2.2.1.1], by rw [hS2.2.1.2.1, hS2.2.2.1.1]; exact zin_n hi (by omega), hgn2.1, ?_⟩
      obtain ⟨-, pd, pk, ps⟩ := xX_at hx2 hi
      rw [hS2.2.1.2.1, ci, (hS2.2.2.1.2 i hi).1]
      refine sp_adds (c := (-1, 1)) (m := munit (xn s)) (by omega) hgn2 ps (by omega) (by unfold inP; omega) (xX_ost hx2) hpd2 pd (pok_1 tok_1) pk fok_m1 (by decide) munit_ok (fun g M3 hg hfr3 hpd3 => ?_) (fun M3 hn hfr3 => ?_)
      · rw [show xrad s (nI i) = some g from hg] at h
        have hgk := aadds_ok fok_m1 (by decide) pk.1 (pok_1 tok_1) hg
        have hfa3 := zfr_tr hfa2 hfr3
        have hx3 := xX_fq (zfq_of hfa3) hs (ist_fr hfa3 hx.2.1.2.2.2.2.1.2) hx
        have hS3 := hx3.2.1
        have q15 := hS3.1.1
        refine ⟨fun _ => ⟨q15, q15, q15, q15, by rw [hS3.2.1.2.2.2.2.1]; exact hS3.2.2.2.2.1.2.1.1, ?_⟩, fun z => absurd (Classical.not_not.mp z) (by decide)⟩
        rw [hS3.2.1.2.2.2.2.1, hS3.2.1.2.2.1, hS3.2.1.2.2.2.2.2.1, hx3.2.2.1.2.2.1, nI_1, show (xgs s).length + 1 = (xgs s ++ [g]).length by rw [List.length_append]; rfl]
        have hgd : gdy M3 165 (xk s) (xgs s ++ [g]) := fun j L hj => by
          by_cases hjl : j < (xgs s).length
          · rw [List.getElem?_append_left hjl] at hj
            exact xX_gdy hx3 j L hj
          · have hjj := (List.getElem?_eq_some_iff.mp hj).1
            rw [List.length_append] at hjj
            have hje : j = (xgs s).length := by simp at hjj; omega
            rw [List.getElem?_append_right (by omega), hje, Nat.sub_self] at hj
            have hj : some g = some L := hj
            cases hj
            rw [hje]
            exact ⟨hpd3, hgk⟩
        refine sp_build (sh := 0) (by omega) hS3.2.2.2.2.1.2 hS3.2.2.2.2.2.1.1 (xX_ost hx3) (by omega) (by omega) (by omega) (by omega) (by omega) hS3.2.2.2.1 hgd (by rw [List.length_append]; simp; omega) (by omega) fun x hxx e' M4 hfr4 hI4 d3 d4 d5 d6 hok4 => ?_
        dsimp only at h
        rw [hxx] at h
        have hx4 := xX_fq hfr4 (fun a ha => Or.inl (by
          rcases ha with ha | ha
          · exact Or.inr (Or.inl ha)
          · exact Or.inl ha)) hI4 hx3
        have hS4 := hx4.2.1
        have hfc4 : zfc M M4 := zfc_tr (zfc_of hfa3 hfcs) (zfc_ofq hfr4 (by omega) fun a ha => by unfold inI inD at ha; omega)
        refine ⟨fun z => ⟨hS4.1.1, by rw [hS4.2.1.2.2.2.2.1]; exact hI4.1.1, ?_⟩, fun z => ⟨_, rfl, ?_⟩⟩
        · have z := ecode_0.mp z
          rw [if_pos z] at h
          obtain ⟨y1, y2, y3⟩ := hok4 z
          rw [hS4.2.1.2.2.2.2.1]
          refine sp_isWhole (by omega) hI4 y1 y2 y3 (fun hw => ⟨fun z => absurd z (by decide), fun _ => ⟨_, rfl, ?_⟩⟩) (fun hw => ⟨fun _ => ⟨_, rfl, ?_⟩, fun z => absurd rfl z⟩)
          · rw [if_pos (awhb_iff.mpr hw)] at h
            exact h M4 D F e e' hx4 hfc4
          · rw [if_neg (fun y => hw (awhb_iff.mp y))] at h
            exact h M4 D F e e' hx4 hfc4
        · have z : x.1 ≠ 0 := fun y => z (ecode_0.mpr y)
          rw [if_neg z] at h
          exact h M4 D F e e' hx4 hfc4
      · rw [show xrad s (nI i) = none from hn] at h
        have hfa3 := zfr_tr hfa2 hfr3
        exact ⟨fun z => absurd rfl z, fun _ => ⟨_, rfl, h M3 D F e e2 (xX_fq (zfq_of hfa3) hs (ist_fr hfa3 hx.2.1.2.2.2.2.1.2) hx) (zfc_of hfa3 hfcs)⟩⟩
    · have c4 : 4 ≤ xn s := Nat.le_of_not_lt fun z => c4 ((nI_ltI (b := 4) (by omega) (by omega)).mpr z)
      rw [if_pos c4] at h
      exact h M D F e e2 hx zfc_rf
  · rw [if_neg (by rw [hp]; decide)] at h
    exact h M D F e e2 hx zfc_rf
