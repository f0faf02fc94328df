/-! the reference's calls: certificates, checks, what is free, radicals -/
theorem cR_certificate {d : Nat} {M : zM} {s : aX} {g r : Int32} {P : Int32 → zM → Prop} (hd : 10 ≤ d) (hx : rX M s) (h : rres (A_certificate s g r) M P) : ycI d nX8_certificate [.ref 1529, .int g, .int r] M P := by
  obtain ⟨d, rfl, he⟩ := dS hd
  have hM := hx.1.1
  have f9 := hx.2.1.2.2.2.1
  have f7 := hx.2.1.2.2.1
  have gl := hx.1.2.2.2.2.1.1
  unfold A_certificate at h
  have no3 : ¬ (xhs s = true ∧ xpv s = true) → P (-3) M := fun z => by
    rw [if_neg z] at h
    exact h M hx zfm_rf
  refine en_X8_certificate _ _ _ M (sg_X8_certificate_0 _ _ _ M ⟨hM.1, fun c => ⟨_, rfl, no3 fun z => by rw [f9, eB_0] at c; rw [c] at z; exact absurd z.1 (by decide)⟩, fun c => ⟨hM.1, ?_⟩⟩)
  have hh : xhs s = true := eB_1.mp (by rw [← f9]; exact c)
  have f10 := (hx.2.1.2.2.2.2 hh).2
  refine ⟨fun c2 => ?_, fun c2 => ⟨_, rfl, no3 fun z => by have c2 := Classical.not_not.mp c2; rw [f10, eB_0] at c2; rw [c2] at z; exact absurd z.2 (by decide)⟩⟩
  have hp : xpv s = true := eB_1.mp (by rw [← f10]; exact c2)
  rw [if_pos ⟨hh, hp⟩] at h
  have no : ¬ (idx g (xgs s).length = true ∧ ipl r = true) → P (-1) M := fun z => by
    rw [if_neg z] at h
    exact h M hx zfm_rf
  refine sg_X8_certificate_8 _ _ _ _ M ⟨fun c0 => ⟨_, rfl, no fun z => by rw [idx_ge (n := (xgs s).length) (by omega) (Or.inl c0)] at z; exact absurd z.1 (by decide)⟩, fun c0 => ⟨hM.1, fun c1 => ⟨_, rfl, no fun z => by rw [idx_ge (n := (xgs s).length) (by omega) (Or.inr (by rw [f7] at c1; exact c1))] at z; exact absurd z.1 (by decide)⟩, fun c1 => ?_⟩⟩
  have hid : idx g (xgs s).length = true := idx_lt (by omega) c0 (by rw [f7] at c1; exact c1)
  refine sp_rplace (by omega) (fun hr => ⟨fun _ => ?_, fun z => absurd (Classical.not_not.mp z) (by decide)⟩) (fun hr => ⟨fun z => absurd rfl z, fun _ => ⟨_, rfl, no fun z => by rw [hr] at z; exact absurd z.2 (by decide)⟩⟩)
  rw [if_pos ⟨hid, hr⟩] at h
  obtain ⟨q, hq, -, rfl, cq⟩ := idx_n hid
  obtain ⟨l, hl, -, rfl, cl⟩ := idx_n (n := 40) hr
  rw [cq] at h
  obtain ⟨heg, hel, hnd⟩ := hx.1.2.2.2.2.2.1 hh
  obtain ⟨hql, hqg⟩ := hx.1.2.2.2.2.2.2 hh hp
  have hqn : ∀ j, pok (xk s) ((xqs s).getD j []) := fun j => getD_len (fun q hq => (hqg q hq).1) j
  refine sg_X8_certificate_19 _ _ _ _ M ⟨hM.1, ?_⟩
  refine sp_rown (by omega) hM (hx.2.1.2.2.2.2 hh).1 fun M1 hfr1 e19 e20 e21 e11 e12 e13 => ?_
  have hx1 := rX_fr hfr1 (fun _ z => z.elim) FO_11 (fun z => z) hx
  have hQ1 := hx1.2.2.2.2.2.2 hh hp
  -- the kept quotients
  have loop : ∀ (n j : Nat) (M' : zM), j + n = 25 → rfr (fun x => 100 ≤ x ∧ x < 125) FN GN M1 M' → (∀ i, i < j → qdy M' (100 + i) ((xqs s).getD i [])) → wX8_certificate d (fun r M2 => ∃ x : Int32, r = [.int x] ∧ P x M2) 23 [some (.ref 1529), some (.int (nI q)), some (.int (nI l)), some (.int (nI j))] [] M' := by
    intro n
    induction n with
    | zero =>
      intro j M' hj hfr hqq
      have hx' := rX_fr hfr (fun x z => Or.inr (Or.inl (by omega))) FN_11 (fun z => z) hx1
      refine sg_X8_certificate_23 _ _ _ _ _ ⟨fun _ => ?_, fun z => absurd (by rw [show j = 25 by omega]; exact Int32.le_refl _) z⟩
      obtain ⟨s16, ⟨r3, r4, r5, r6, -⟩, ⟨k0, k1, k2, k3⟩, -⟩ := id hx'.1.1
      refine sg_X8_certificate_36 _ _ _ _ _ ⟨s16, by rw [r6, k3], by rw [r6, k3]; exact zin_n (j := 150) (by omega) (by omega), ?_⟩
      intro M2
      have m2 : M2 = zuI M' 1533 150 0 := by rw [show M2 = zuI M' (zR M' 1529 6) 150 0 from rfl, r6]
      clear_value M2
      have hfr2 : rfr (fun x => x = 150) FN GN M' M2 := by rw [m2]; exact rfr_3 rfl
      have hx2 := rX_fr hfr2 (fun x z => Or.inr (Or.inr (by omega))) FN_11 (fun z => z) hx'
      have F2 : ∀ i, zI M2 1529 i = zI M1 1529 i := fun i => by rw [hfr2.2.2.2.2.2.2.1 i (fun z => z), hfr.2.2.2.2.2.2.1 i (fun z => z)]
      have hrel2 := hx2.2.2.2.2.1 hh
      refine ⟨s16, ?_⟩
      refine sp_rless (p := 150) (s := false) (es := xes s) (qs := xqs s) (F := []) (by omega) hx2.1.1 hx2.2.1.2.1 (by omega) (by omega) (by rw [F2]; exact e20) hel (fun i hi => ⟨qdy_fr hfr2 (by omega) (hqn i).2.2 (hqq i (by omega)), hqn i, getD_vn (fun q hq => (hqg q hq).2.1) i⟩) (fun i hi => ⟨rel_cof hrel2 hi hq, (egd_cof heg i q).1, (egd_cof heg i q).2⟩) (qdy_0 (by rw [m2, zI_uI, if_pos ⟨rfl, rfl⟩])) pok_nil pvn_nil (by rw [F2]; exact e11) (fun F' M3 hF' hfr3 hz3 hq3 hk3 hv3 => ?_) (fun F' M3 hn hfr3 hz3 hq3 hl3 => ?_)
      · have hx3 := rX_fr hfr3 (fun x z => Or.inr (Or.inr (by omega))) FF_11 (fun z => z) hx2
        have hFg := als_gd (fun e => egd_cofg heg e q) hqg pgd_nil hF'
        rw [hF'] at h
        exact ⟨hx3.1.1.1, sp_rtaken1 (by omega) hx3.1.1 hl hz3 hq3 hFg.1.2.2 fun M4 hfr4 hq4 => ⟨_, rfl, h M4 (rX_put hfr4 FN_11 (fun z => z) hl hq4 hFg hx3) (zfm_tr (zfm_of hfr1) (zfm_tr (zfm_of hfr) (zfm_tr (zfm_of hfr2) (zfm_tr (zfm_of hfr3) (zfm_of hfr4)))))⟩⟩
      · have hx3 := rX_fr hfr3 (fun x z => Or.inr (Or.inr (by omega))) FF_11 (fun z => z) hx2
        rw [hn] at h
        exact ⟨hx3.1.1.1, sp_rtaken0 (by omega) hx3.1.1 hz3 ⟨_, rfl, h M3 hx3 (zfm_tr (zfm_of hfr1) (zfm_tr (zfm_of hfr) (zfm_tr (zfm_of hfr2) (zfm_of hfr3))))⟩⟩
    | succ n ih =>
      intro j M' hj hfr hqq
      have hM' := mst_fr hfr hx1.1.1
      refine sg_X8_certificate_23 _ _ _ _ _ ⟨fun z => ?_, fun _ => ⟨hM'.1, ?_⟩⟩
      · have := (nI_leI (a := 25) (by omega) (by omega)).mp z
        omega
      · rw [show (100 : Int32) + nI j = nI (100 + j) from nI_add 100 j, show (125 : Int32) + nI j = nI (125 + j) from nI_add 125 j]
        refine sp_rcopy (by omega) hM' (by omega) (by omega) (by omega) (qdy_fr hfr (by omega) (hqn j).2.2 (hQ1 j (by omega))) (hqn j).2.2 fun M2 hfr2 hq2 => ?_
        intro v3
        rw [show v3 = nI (j + 1) from nI_1 j]
        refine ih (j + 1) M2 (by omega) (rfr_tr hfr (rfr_up hfr2 (fun x z => by omega) (fun _ z => z) (fun _ z => z))) fun i hi => ?_
        by_cases hij : i = j
        · rw [hij]; exact hq2
        · exact qdy_fr hfr2 (by omega) (hqn i).2.2 (hqq i (by omega))
  exact loop 25 0 M1 (by omega) rfr_rf fun i hi => absurd hi (Nat.not_lt_zero _)
theorem cR_check {d : Nat} {M : zM} {s : aX} {P : Int32 → zM → Prop} (hd : 10 ≤ d) (hx : rX M s) (h : rres (A_check s) M P) : ycI d nX8_check [.ref 1529] M P := by
  obtain ⟨d, rfl, he⟩ := dS hd
  have hM := hx.1.1
  have f9 := hx.2.1.2.2.2.1
  have gl := hx.1.2.2.2.2.1.1
  have ggd := hx.1.2.2.2.2.1.2
  unfold A_check at h
  refine en_X8_check _ M (sg_X8_check_0 _ M ⟨hM.1, fun c => ⟨hM.1, Or.inl rfl, ?_⟩, fun c => ⟨_, rfl, ?_⟩⟩)
  · have hh : xhs s = true := eB_1.mp (by rw [← f9]; exact c)
    rw [if_pos hh] at h
    obtain ⟨heg, hel, hnd⟩ := hx.1.2.2.2.2.2.1 hh
    intro M1
    have m1 : M1 = zuI M 1529 11 0 := rfl
    clear_value M1
    have hfr1 : rfr TN FF GN M M1 := by rw [m1]; exact rfr_F (Or.inl rfl)
    have hx1 := rX_fr hfr1 (fun _ z => z.elim) FF_11 (fun z => z) hx
    -- one after the other
    have outer : ∀ (n i : Nat) (b : Bool) (M' : zM) (o3 : Option Value), i + n = (xes s).length → rX M' s → zfm M M' → zI M' 1529 11 = 0 → achk (xk s) (xgs s) (xes s) i = some b → wX8_check d (fun r M2 => ∃ x : Int32, r = [.int x] ∧ P x M2) 12 [some (.ref 1529), some (.int (rbI b)), some (.int (nI i)), o3] [] M' := by
      intro n
      induction n with
      | zero =>
        intro i b M' o3 hi hx' hz' h11 hac
        have f8 := (hx'.2.1.2.2.2.2 hh).1
        rw [show i = (xes s).length by omega] at hac ⊢
        rw [hac] at h
        dsimp only at h
        refine sg_X8_check_12 _ _ _ _ _ ⟨hx'.1.1.1, fun _ => sg_X8_check_66 _ _ _ _ _ ⟨fun z => ⟨_, rfl, ?_⟩, fun z => ⟨_, rfl, ?_⟩⟩, fun z => absurd (by rw [f8]; exact Int32.le_refl _) z⟩
        · rw [if_neg (by rw [rbI_0.mp z]; decide)] at h
          exact h M' hx' hz'
        · have : b = true := by
            cases b with
            | true => rfl
            | false => exact absurd rfl z
          rw [if_pos this] at h
          exact h M' hx' hz'
      | succ n ih =>
        intro i b M' o3 hi hx' hz' h11 hac
        have f8 := (hx'.2.1.2.2.2.2 hh).1
        have f7 := hx'.2.1.2.2.1
        have hrel := hx'.2.2.2.2.1 hh
        obtain ⟨s16, ⟨r3, r4, r5, r6, -⟩, ⟨k0, k1, k2, k3⟩, -⟩ := id hx'.1.1
        have hil : i < (xes s).length := by omega
        have hu := List.getElem?_eq_getElem hil
        have hgd : (xes s).getD i aE0 = (xes s)[i] := by rw [List.getD_eq_getElem?_getD, hu]; rfl
        have hss := achk_s (k := xk s) (i := i) (gs := xgs s) (es := xes s)
        rw [hac, hgd] at hss
        dsimp only at hss
        have hEr := hrel i _ hu
        have hEg := heg _ (List.getElem_mem hil)
        generalize (xes s)[i] = E at hu hgd hss hEr hEg
        have hcg := fun g => getD_gd hEg.2.2 g
        refine sg_X8_check_12 _ _ _ _ _ ⟨s16, fun z => ?_, fun _ => ⟨s16, by rw [r6, k3], by rw [r6, k3]; exact zin_n (j := 150) (by omega) (by omega), ?_⟩⟩
        · rw [f8] at z
          have := (nI_leI (by omega) (by omega)).mp z
          omega
        intro M2
        have m2 : M2 = zuI M' 1533 150 0 := by rw [show M2 = zuI M' (zR M' 1529 6) 150 0 from rfl, r6]
        clear_value M2
        have hfr2 : rfr (fun x => x = 150) FF GN M' M2 := by rw [m2]; exact rfr_3 rfl
        -- after FULL
        have over : ∀ (a g : Nat) (N : zM), g + a = (xgs s).length → rX N s → zfm M N → zI N 1529 11 = 1 → achk (xk s) (xgs s) (xes s) (xes s).length = none → wX8_check d (fun r M2 => ∃ x : Int32, r = [.int x] ∧ P x M2) 23 [some (.ref 1529), some (.int (rbI b)), some (.int (nI i)), some (.int (nI g))] [] N := by
          intro a
          induction a with
          | zero =>
            intro g N hg hxN hzN z11 hn
            rw [hn] at h
            refine sg_X8_check_23 _ _ _ _ _ ⟨hxN.1.1.1, fun _ => sg_X8_check_46 _ _ _ _ _ ⟨hxN.1.1.1, fun z => absurd z (by rw [z11]; decide), fun _ => ⟨_, rfl, h N hxN hzN⟩⟩, fun z => absurd (by rw [hxN.2.1.2.2.1, show g = (xgs s).length by omega]; exact Int32.le_refl _) z⟩
          | succ a iha =>
            intro g N hg hxN hzN z11 hn
            refine sg_X8_check_23 _ _ _ _ _ ⟨hxN.1.1.1, fun z => ?_, fun _ => ⟨hxN.1.1.1, sp_rcof (by omega) ⟨hxN.1.1.1, ?_⟩⟩⟩
            · rw [hxN.2.1.2.2.1] at z
              have := (nI_leI (by omega) (by omega)).mp z
              omega
            · rw [show (40 : Int32) + nI g = nI (40 + g) from nI_add 40 g]
              refine sp_rmadeF (to := 151) (by omega) hxN.1.1 (by omega) (by omega) z11 fun N1 hfrN hz1 => ?_
              have hx1 := rX_fr hfrN (fun x z => Or.inr (Or.inr (by omega))) FF_11 (fun z => z) hxN
              refine ⟨hx1.1.1.1, sp_raddsF (g := 151) (by omega) hx1.1.1 (by omega) hz1 ?_⟩
              intro v3
              rw [show v3 = nI (g + 1) from nI_1 g]
              exact iha (g + 1) N1 (by omega) hx1 (zfm_tr hzN (zfm_of hfrN)) hz1 hn
        have inner : ∀ (a g : Nat) (f : aP) (N : zM), g + a = (xgs s).length → rfr (fun x => x = 150 ∨ x = 151) FF GN M' N → zI N 1529 11 = 0 → qdy N 150 f → pgd (xn s) (xk s) f → asmu (xk s) (xgs s) E.2 g = some f → wX8_check d (fun r M2 => ∃ x : Int32, r = [.int x] ∧ P x M2) 23 [some (.ref 1529), some (.int (rbI b)), some (.int (nI i)), some (.int (nI g))] [] N := by
          intro a
          induction a with
          | zero =>
            intro g f N hg hfrN z11 hqf hfg hsm
            have hxN := rX_fr hfrN (fun x z => Or.inr (Or.inr (by omega))) FF_11 (fun z => z) hx'
            have hzN := zfm_tr hz' (zfm_of hfrN)
            rw [show g = (xgs s).length by omega] at hsm
            rw [hsm] at hss
            dsimp only at hss
            have next : ∀ (b' : Bool) (o1 o3 : Option Value), b' = (b && decide (f = E.1)) → wX8_check d (fun r M2 => ∃ x : Int32, r = [.int x] ∧ P x M2) 63 [some (.ref 1529), o1, some (.int (nI i)), o3] [.int (rbI b')] N := fun b' o1 o3 hb' => by
              refine sg_X8_check_63 _ _ _ _ _ _ ?_
              intro v2
              rw [show v2 = nI (i + 1) from nI_1 i]
              exact ih (i + 1) b' N _ (by omega) hxN hzN z11 (by rw [hss, hb'])
            refine sg_X8_check_23 _ _ _ _ _ ⟨hxN.1.1.1, fun _ => sg_X8_check_46 _ _ _ _ _ ⟨hxN.1.1.1, fun _ => ⟨fun c => next false _ _ ?_, fun c => ⟨hxN.1.1.1, ?_⟩⟩, fun z => absurd z11 z⟩, fun z => absurd (by rw [hxN.2.1.2.2.1, show g = (xgs s).length by omega]; exact Int32.le_refl _) z⟩
            · rw [rbI_0.mp c]; rfl
            · have hbt : b = true := by
                cases b with
                | true => rfl
                | false => exact absurd rfl c
              rw [show (50 : Int32) + nI i = nI (50 + i) from nI_add 50 i]
              refine sp_rsame (p := 150) (by omega) hxN.1.1 (by omega) (by omega) hqf (qdy_fr hfrN (by omega) hEg.1.1.1.2.2 hEr.1) hfg.1 hEg.1.1.1 (fun e => ⟨fun z => absurd z (by decide), fun _ => next true _ _ ?_⟩) (fun e => ⟨fun _ => next false _ _ ?_, fun z => absurd rfl z⟩)
              · rw [hbt, decide_eq_true e]; rfl
              · rw [hbt, decide_eq_false e]; rfl
          | succ a iha =>
            intro g f N hg hfrN z11 hqf hfg hsm
            have hxN := rX_fr hfrN (fun x z => Or.inr (Or.inr (by omega))) FF_11 (fun z => z) hx'
            have hzN := zfm_tr hz' (zfm_of hfrN)
            have hms := asmu_s (k := xk s) (g := g) (gs := xgs s) (cs := E.2)
            rw [hsm] at hms
            dsimp only at hms
            have hGq := rX_gq hxN g (by omega)
            have hGg := getD_gd ggd g
            have hCq := qdy_fr hfrN (by omega) (hcg g).1.2.2 (hEr.2 g (by omega))
            have hCg := hcg g
            generalize (xgs s).getD g [] = G at hms hGq hGg
            generalize E.2.getD g [] = C at hms hCq hCg
            have bad : asmu (xk s) (xgs s) E.2 (g + 1) = none → achk (xk s) (xgs s) (xes s) (xes s).length = none := fun y => by
              have hn := asmu_none y (m := (xgs s).length) (by omega)
              rw [hn] at hss
              exact achk_none hss (by omega)
            refine sg_X8_check_23 _ _ _ _ _ ⟨hxN.1.1.1, fun z => ?_, fun _ => ⟨hxN.1.1.1, sp_rcof (by omega) ⟨hxN.1.1.1, ?_⟩⟩⟩
            · rw [hxN.2.1.2.2.1] at z
              have := (nI_leI (by omega) (by omega)).mp z
              omega
            · rw [show (40 : Int32) + nI g = nI (40 + g) from nI_add 40 g]
              refine sp_rmade (to := 151) (by omega) hxN.1.1 hxN.2.1.2.1 (by omega) (by omega) (by omega) (by omega) (by omega) hCq hGq hCg.1 hGg.1 hCg.2.1 hGg.2.1 z11 (fun p N1 hp hfr3 hz3 hq3 => ?_) (fun p N1 hn hfr3 hz3 hq3 hl3 => ?_)
              · have hx1 := rX_fr hfr3 (fun x z => Or.inr (Or.inr (by omega))) FF_11 (fun z => z) hxN
                have hpg := aprod_gd hGg (fun t ht => ⟨hCg.1.1 t ht, hCg.2.1 t ht⟩) pgd_nil hp
                rw [hp] at hms
                dsimp only at hms
                refine ⟨hx1.1.1.1, sp_raddsP (f := 150) (g := 151) (m := mone) (by omega) hx1.1.1 hx1.2.1.2.1 (by omega) (by omega) (by omega) (qdy_fr hfr3 (by omega) hfg.1.2.2 hqf) hq3 hfg.1 hpg.1 hfg.2.1 hpg.2.1 mone_ok vin_one hz3 (fun f' N2 hf' hfr4 hz4 hq4 => ?_) (fun f' N2 hn hfr4 hz4 hq4 hl4 => ?_)⟩
                · rw [hf'] at hms
                  intro v3
                  rw [show v3 = nI (g + 1) from nI_1 g]
                  exact iha (g + 1) f' N2 (by omega) (rfr_tr hfrN (rfr_tr (rfr_up hfr3 (fun x z => Or.inr z) (fun _ z => z) (fun _ z => z)) (rfr_up hfr4 (fun x z => Or.inl z) (fun _ z => z) (fun _ z => z)))) hz4 hq4 (aadds_gd fok_1 (by decide) vin_one hpg hfg hf') hms
                · rw [hn] at hms
                  have hx2 := rX_fr hfr4 (fun x z => Or.inr (Or.inr (by omega))) FF_11 (fun z => z) hx1
                  intro v3
                  rw [show v3 = nI (g + 1) from nI_1 g]
                  exact over a (g + 1) N2 (by omega) hx2 (zfm_tr hzN (zfm_tr (zfm_of hfr3) (zfm_of hfr4))) hz4 (bad hms)
              · have hx1 := rX_fr hfr3 (fun x z => Or.inr (Or.inr (by omega))) FF_11 (fun z => z) hxN
                rw [hn] at hms
                refine ⟨hx1.1.1.1, sp_raddsF (g := 151) (by omega) hx1.1.1 (by omega) hz3 ?_⟩
                intro v3
                rw [show v3 = nI (g + 1) from nI_1 g]
                exact over a (g + 1) N1 (by omega) hx1 (zfm_tr hzN (zfm_of hfr3)) hz3 (bad hms)
        exact inner (xgs s).length 0 [] M2 (by omega) (rfr_up hfr2 (fun x z => Or.inl z) (fun _ z => z) (fun _ z => z)) (by rw [m2, zI_uI, if_neg (by omega)]; exact h11) (qdy_0 (by rw [m2, zI_uI, if_pos ⟨rfl, rfl⟩])) pgd_nil rfl
    exact outer (xes s).length 0 true M1 _ (by omega) hx1 (zfm_of hfr1) (by rw [m1, zI_uI, if_pos ⟨rfl, rfl⟩]) rfl
  · have hh : xhs s = false := eB_0.mp (by rw [← f9]; exact Classical.not_not.mp c)
    rw [if_neg (by rw [hh]; decide)] at h
    exact h M hx zfm_rf
theorem free_5 {m : aM} (h : mok m) : ∀ {g : Nat}, g ≤ 4 → ((e5 m &&& (((1 : Int32) <<< ((5 * nI g) &&& 31)) - 1)) = 0 ↔ ∀ v, v < g → aex m v = 0) := by
  have hl := c5_lt h
  intro g hg
  have key : ∀ (z : Int32) (k : Nat), z.toBitVec.toNat = 2 ^ k - 1 → ((e5 m &&& z) = 0 ↔ c5 m % 2 ^ k = 0) := fun z k hz => by
    unfold e5
    rw [pk_andN (by omega) k hz]
    exact nI_z (Nat.lt_of_le_of_lt (Nat.mod_le _ _) (by omega))
  unfold mok at h
  obtain ⟨m0, m1, m2, m3⟩ := m
  dsimp only at h
  match g, hg with
  | 0, _ =>
    rw [key _ 0 (by decide)]
    exact ⟨fun _ v hv => absurd hv (Nat.not_lt_zero _), fun _ => by omega⟩
  | 1, _ =>
    rw [key _ 5 (by decide)]
    unfold c5
    dsimp only
    refine ⟨fun z v hv => ?_, fun z => ?_⟩
    · match v, hv with
      | 0, _ => show m0 = 0; omega
    · have a0 : m0 = 0 := z 0 (by omega)
      omega
  | 2, _ =>
    rw [key _ 10 (by decide)]
    unfold c5
    dsimp only
    refine ⟨fun z v hv => ?_, fun z => ?_⟩
    · match v, hv with
      | 0, _ => show m0 = 0; omega
      | 1, _ => show m1 = 0; omega
    · have a0 : m0 = 0 := z 0 (by omega)
      have a1 : m1 = 0 := z 1 (by omega)
      omega
  | 3, _ =>
    rw [key _ 15 (by decide)]
    unfold c5
    dsimp only
    refine ⟨fun z v hv => ?_, fun z => ?_⟩
    · match v, hv with
      | 0, _ => show m0 = 0; omega
      | 1, _ => show m1 = 0; omega
      | 2, _ => show m2 = 0; omega
    · have a0 : m0 = 0 := z 0 (by omega)
      have a1 : m1 = 0 := z 1 (by omega)
      have a2 : m2 = 0 := z 2 (by omega)
      omega
  | 4, _ =>
    rw [key _ 20 (by decide)]
    unfold c5
    dsimp only
    refine ⟨fun z v hv => ?_, fun z => ?_⟩
    · match v, hv with
      | 0, _ => show m0 = 0; omega
      | 1, _ => show m1 = 0; omega
      | 2, _ => show m2 = 0; omega
      | 3, _ => show m3 = 0; omega
    · have a0 : m0 = 0 := z 0 (by omega)
      have a1 : m1 = 0 := z 1 (by omega)
      have a2 : m2 = 0 := z 2 (by omega)
      have a3 : m3 = 0 := z 3 (by omega)
      omega
theorem afrs_le {n : Nat} {es : List aE} : ∀ i, afrs n es i ≤ i
  | 0 => Nat.le_refl _
  | i + 1 => by
    have := afrs_le (n := n) (es := es) i
    show (if afr n (es.getD i aE0).1 = true then afrs n es i + 1 else afrs n es i) ≤ i + 1
    split <;> omega
theorem cR_free {d : Nat} {M : zM} {s : aX} {g : Int32} {P : Int32 → zM → Prop} (hd : 10 ≤ d) (hx : rX M s) (h : rres (A_free s g) M P) : ycI d nX8_free [.ref 1529, .int g] M P := by
  obtain ⟨d, rfl, he⟩ := dS hd
  have f9 := hx.2.1.2.2.2.1
  have f0 := hx.2.1.1
  have hn := hx.1.2.1
  obtain ⟨s16, ⟨r3, r4, r5, r6, -⟩, ⟨k0, k1, k2, k3⟩, -⟩ := id hx.1.1
  unfold A_free at h
  have no : idx g (xn s + 1) = false → P (-2) M := fun z => by
    rw [if_neg (by rw [z]; decide)] at h
    exact h M hx zfm_rf
  refine en_X8_free _ _ M (sg_X8_free_0 _ _ M ⟨fun c => ⟨_, rfl, no (idx_ge (by omega) (Or.inl c))⟩, fun c0 => ⟨s16, fun c1 => ⟨s16, ?_⟩, fun c1 => ⟨_, rfl, no (idx_ge (by omega) (Or.inr ?_))⟩⟩⟩)
  · have hid : idx g (xn s + 1) = true := idx_lt (by omega) c0 fun z => by
      rw [f0] at c1
      have z1 := Int32.le_iff_toInt_le.mp z
      have z2 := Int32.le_iff_toInt_le.mp c1
      rw [nI_toInt (by omega)] at z1
      rw [nI_toInt (by omega)] at z2
      omega
    rw [if_pos hid] at h
    obtain ⟨q, hq, -, rfl, cq⟩ := idx_n hid
    rw [cq] at h
    refine ⟨fun c => ?_, fun c => ⟨_, rfl, ?_⟩⟩
    · have hh : xhs s = true := eB_1.mp (by rw [← f9]; exact c)
      rw [if_pos hh] at h
      obtain ⟨heg, hel, hnd⟩ := hx.1.2.2.2.2.2.1 hh
      have f8 := (hx.2.1.2.2.2.2 hh).1
      have hrel := hx.2.2.2.2.1 hh
      have outer : ∀ (n i : Nat) (o4 o5 : Option Value), i + n = (xes s).length → wX8_free d (fun r M2 => ∃ x : Int32, r = [.int x] ∧ P x M2) 17 [some (.ref 1529), some (.int (nI q)), some (.int (nI (afrs q (xes s) i))), some (.int (nI i)), o4, o5] [] M := by
        intro n
        induction n with
        | zero =>
          intro i o4 o5 hi
          rw [show i = (xes s).length by omega]
          exact sg_X8_free_17 _ _ _ _ _ _ _ ⟨s16, fun _ => ⟨_, rfl, h M hx zfm_rf⟩, fun z => absurd (by rw [f8]; exact Int32.le_refl _) z⟩
        | succ n ih =>
          intro i o4 o5 hi
          have hil : i < (xes s).length := by omega
          have hu := List.getElem?_eq_getElem hil
          have hgd : (xes s).getD i aE0 = (xes s)[i] := by rw [List.getD_eq_getElem?_getD, hu]; rfl
          have hEr := (hrel i _ hu).1
          have hEg := (heg _ (List.getElem_mem hil)).1.1
          have hss : afrs q (xes s) (i + 1) = if afr q ((xes s).getD i aE0).1 = true then afrs q (xes s) i + 1 else afrs q (xes s) i := rfl
          rw [hgd] at hss
          generalize (xes s)[i].1 = L at hEr hEg hss
          have hL := hEg.1.2.2
          have c50 := cl_n (n := 50 + i) (by omega)
          have z50 : zin (nI (50 + i)) 372 := zin_n (by omega) (by omega)
          have inner : ∀ (a j : Nat) (b : Bool), j + a = L.length → (b = true ↔ ∀ x t, x < j → L[x]? = some t → ∀ v, v < q → aex t.2 v = 0) → wX8_free d (fun r M2 => ∃ x : Int32, r = [.int x] ∧ P x M2) 25 [some (.ref 1529), some (.int (nI q)), some (.int (nI (afrs q (xes s) i))), some (.int (nI i)), some (.int (rbI b)), some (.int (nI j))] [] M := by
            intro a
            induction a with
            | zero =>
              intro j b hj hb
              refine sg_X8_free_25 _ _ _ _ _ _ _ ?_
              rw [show (50 : Int32) + nI i = nI (50 + i) from nI_add 50 i, c50]
              refine ⟨s16, by rw [r6, k3], by rw [r6, k3]; exact z50, fun _ => ?_, fun z => absurd (by rw [r6, hEr.1, show j = L.length by omega]; exact Int32.le_refl _) z⟩
              have hfr : afr q L = b := by
                have e : afr q L = true ↔ b = true := by
                  rw [afr_iff, hb]
                  constructor
                  · exact fun y x t _ hx => y t (List.mem_of_getElem? hx)
                  · intro y t ht
                    obtain ⟨x, hx⟩ := List.getElem?_of_mem ht
                    have := (List.getElem?_eq_some_iff.mp hx).1
                    exact y x t (by omega) hx
                cases b with
                | true => exact e.mpr rfl
                | false =>
                  cases hc : afr q L with
                  | true => exact (e.mp hc).symm
                  | false => rfl
              rw [hfr] at hss
              refine sg_X8_free_60 _ _ _ _ _ _ _ ⟨fun z => ?_, fun z => ?_⟩
              · rw [if_neg (by rw [rbI_0.mp z]; decide)] at hss
                intro v2 v3
                rw [show v2 = nI (afrs q (xes s) (i + 1)) by rw [hss]; exact Int32.add_zero _, show v3 = nI (i + 1) from nI_1 i]
                exact ih (i + 1) _ _ (by omega)
              · have hbt : b = true := by
                  cases b with
                  | true => rfl
                  | false => exact absurd rfl z
                rw [if_pos hbt] at hss
                intro v2 v3
                rw [show v2 = nI (afrs q (xes s) (i + 1)) by rw [hss]; exact nI_1 _, show v3 = nI (i + 1) from nI_1 i]
                exact ih (i + 1) _ _ (by omega)
            | succ a iha =>
              intro j b hj hb
              have hjl : j < L.length := by omega
              have hut := List.getElem?_eq_getElem hjl
              obtain ⟨g0, g1, g2⟩ := hEr.2 j _ hut
              have htk := hEg.1.1 _ (List.getElem_mem hjl)
              generalize L[j] = t at hut g0 g1 g2 htk
              have cx := cl_n (n := 100 * (50 + i) + j) (by omega)
              have zx : zin (nI (100 * (50 + i) + j)) 37200 := zin_n (by omega) (by omega)
              have next : ∀ b' : Bool, (b' = true ↔ b = true ∧ ∀ v, v < q → aex t.2 v = 0) → wX8_free d (fun r M2 => ∃ x : Int32, r = [.int x] ∧ P x M2) 25 [some (.ref 1529), some (.int (nI q)), some (.int (nI (afrs q (xes s) i))), some (.int (nI i)), some (.int (rbI b')), some (.int (nI j + 1))] [] M := fun b' hb' => by
                rw [nI_1]
                refine iha (j + 1) b' (by omega) ?_
                rw [hb', hb]
                constructor
                · rintro ⟨y1, y2⟩ x u hx hxu
                  by_cases hxj : x = j
                  · rw [hxj, hut] at hxu
                    cases hxu
                    exact y2
                  · exact y1 x u (by omega) hxu
                · exact fun y => ⟨fun x u hx hxu => y x u (by omega) hxu, y j t (by omega) hut⟩
              refine sg_X8_free_25 _ _ _ _ _ _ _ ?_
              rw [show (50 : Int32) + nI i = nI (50 + i) from nI_add 50 i, c50, ix100, cx]
              refine ⟨s16, by rw [r6, k3], by rw [r6, k3]; exact z50, fun z => ?_, fun _ => ⟨fun c => ?_, fun c => ⟨s16, by rw [r5, k2], by rw [r5, k2]; exact zx, ?_⟩⟩⟩
              · rw [r6, hEr.1] at z
                have := (nI_leI (by omega) (by omega)).mp z
                omega
              · intro v5
                exact next false (by rw [rbI_0.mp c]; simp)
              · have hbt : b = true := by
                  cases b with
                  | true => rfl
                  | false => exact absurd rfl c
                rw [r5, g2]
                have hf := free_5 htk.2.2 (show q ≤ 4 by omega)
                refine ⟨fun z => ?_, fun z => ?_⟩
                · intro v5
                  exact next false ⟨fun y => (by cases y), fun y => absurd (hf.mpr y.2) z⟩
                · intro v5
                  exact next true ⟨fun _ => ⟨hbt, hf.mp (Classical.not_not.mp z)⟩, fun _ => rfl⟩
          refine sg_X8_free_17 _ _ _ _ _ _ _ ⟨s16, fun z => ?_, fun _ => ?_⟩
          · rw [f8] at z
            have := (nI_leI (by omega) (by omega)).mp z
            omega
          · exact inner L.length 0 true (by omega) ⟨fun _ x t hx => absurd hx (Nat.not_lt_zero _), fun _ => rfl⟩
      exact outer (xes s).length 0 _ _ (by omega)
    · have hh : xhs s = false := eB_0.mp (by rw [← f9]; exact Classical.not_not.mp c)
      rw [if_neg (by rw [hh]; decide)] at h
      exact h M hx zfm_rf
  · rw [f0] at c1
    exact Int32.le_iff_toInt_le.mpr (by
      have c1 : ¬ g.toInt ≤ (nI (xn s)).toInt := fun z => c1 (Int32.le_iff_toInt_le.mpr z)
      rw [nI_toInt (by omega)] at c1
      rw [nI_toInt (by omega)]
      omega)
