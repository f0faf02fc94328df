/-! the reference's calls: radicals, points -/
theorem rX_fr1 {T F G : Nat → Prop} {M M' : zM} {s : aX} (h : rfr T F G M M') (hT : ∀ x, T x → rsc s x) (hF : ∀ j, F j → j = 1 ∨ 11 ≤ j) (h1 : zI M' 1529 1 = nI (xn s)) (hG : ¬ G 1534) (hx : rX M s) : rX M' s := by
  obtain ⟨⟨hM, hg⟩, ⟨f0, fv, f7, f9, f8⟩, hP, hGs, hE, ⟨d0, d1, d2, d3⟩, hQ⟩ := hx
  have fl : ∀ j, j ≠ 1 → j < 11 → zI M' 1529 j = zI M 1529 j := fun j hj1 hj => h.2.2.2.2.2.2.1 j fun z => by have := hF j z; omega
  have gl : ∀ j, zI M' 1534 j = zI M 1534 j := fun j => h.2.2.2.2.2.1 1534 j (Or.inr ⟨by omega, hG⟩)
  have ns : ∀ x, ¬ rsc s x → ¬ T x := fun x hx z => hx (hT x z)
  have hg' := hg
  obtain ⟨-, -, ⟨pl, pg⟩, ⟨gl2, gg⟩, eg, qg⟩ := hg
  refine ⟨⟨mst_fr h hM, hg'⟩, ⟨by rw [fl 0 (by omega) (by omega)]; exact f0, ⟨h1, by rw [fl 2 (by omega) (by omega)]; exact fv.2.1, fv.2.2⟩, by rw [fl 7 (by omega) (by omega)]; exact f7, by rw [fl 9 (by omega) (by omega)]; exact f9, fun hh => ⟨by rw [fl 8 (by omega) (by omega)]; exact (f8 hh).1, by rw [fl 10 (by omega) (by omega)]; exact (f8 hh).2⟩⟩, fun i L hi => qdy_fr h (ns i ?_) (pg L (List.mem_of_getElem? hi)).1.2.2 (hP i L hi), fun i L hi => qdy_fr h (ns _ ?_) (gg L (List.mem_of_getElem? hi)).1.2.2 (hGs i L hi), fun hh => rel_fr h (fun i hi => ⟨ns _ ?_, fun g hgs => ns _ ?_⟩) (eg hh).1 (hE hh), ⟨by rw [gl]; exact d0, by rw [gl]; exact d1, by rw [gl]; exact d2, by rw [gl]; exact d3⟩, fun hh hp i hi => qdy_fr h (ns _ ?_) (getD_len (fun q hq => ((qg hh hp).2 q hq).1) i).2.2 (hQ hh hp i hi)⟩
  · have := (List.getElem?_eq_some_iff.mp hi).1
    unfold rsc
    omega
  · have := (List.getElem?_eq_some_iff.mp hi).1
    unfold rsc
    omega
  · have := (eg hh).2.1
    unfold rsc
    omega
  · unfold rsc
    omega
  · unfold rsc
    omega
theorem pgd_up {n k : Nat} {L : aP} (h : pgd n k L) : pgd (n + 1) k L := ⟨h.1, fun t ht => by
  obtain ⟨v0, v1, v2, v3⟩ := h.2.1 t ht
  exact ⟨fun z => v0 (by omega), fun z => v1 (by omega), fun z => v2 (by omega), fun z => v3 (by omega)⟩, h.2.2⟩
theorem unit_5 : ∀ {n : Nat}, n < 4 → (1 : Int32) <<< ((5 * nI n) &&& 31) = e5 (munit n)
  | 0, _ => by decide
  | 1, _ => by decide
  | 2, _ => by decide
  | 3, _ => by decide
theorem vin_unit : ∀ {n : Nat}, n < 4 → vin (n + 1) (munit n)
  | 0, _ => ⟨fun z => by omega, fun _ => rfl, fun _ => rfl, fun _ => rfl⟩
  | 1, _ => ⟨fun _ => rfl, fun z => by omega, fun _ => rfl, fun _ => rfl⟩
  | 2, _ => ⟨fun _ => rfl, fun _ => rfl, fun z => by omega, fun _ => rfl⟩
  | 3, _ => ⟨fun _ => rfl, fun _ => rfl, fun _ => rfl, fun z => by omega⟩
theorem e5_0 {m : aM} (h : mok m) : e5 m = 0 ↔ m = mone := by
  rw [← e5_one]
  exact ⟨fun z => e5_inj h mone_ok z, fun z => by rw [z]⟩
theorem cR_radical {d : Nat} {M : zM} {s : aX} {p l : Int32} {P : Int32 → zM → Prop} (hd : 10 ≤ d) (hx : rX M s) (h : rres (A_radical s p l) M P) : ycI d nX8_radical [.ref 1529, .int p, .int l] M P := by
  obtain ⟨d, rfl, he⟩ := dS hd
  have f0 := hx.2.1.1
  have f7 := hx.2.1.2.2.1
  have hn := hx.1.2.1
  have gl := hx.1.2.2.2.2.1.1
  have ggd := hx.1.2.2.2.2.1.2
  obtain ⟨s16, ⟨r3, r4, r5, r6, -⟩, ⟨k0, k1, k2, k3⟩, -⟩ := id hx.1.1
  unfold A_radical at h
  refine en_X8_radical _ _ _ M (sg_X8_radical_0 _ _ _ M (sp_rplace (by omega) (fun hp => ⟨fun _ => ?_, fun z => absurd (Classical.not_not.mp z) (by decide)⟩) (fun hp => ⟨fun z => absurd rfl z, fun _ => ⟨_, rfl, ?_⟩⟩)))
  · rw [if_pos hp] at h
    have no : idx l 20001 = false → P (-2) M := fun z => by
      rw [if_neg (by rw [z]; decide)] at h
      exact h M hx zfm_rf
    refine ⟨fun c => ⟨_, rfl, no (idx_ge (by omega) (Or.inl c))⟩, fun c0 => ⟨fun c1 => ⟨s16, ?_⟩, fun c1 => ⟨_, rfl, no (lim_no c1)⟩⟩⟩
    have hid := lim_ok c0 c1
    rw [if_pos hid] at h
    obtain ⟨lim, hlim, -, rfl, cl⟩ := idx_n hid
    rw [cl] at h
    rw [f0]
    refine ⟨fun c4 => ?_, fun c4 => ⟨_, rfl, ?_⟩⟩
    · have c4 : xn s ≠ 4 := fun z => c4 (by rw [z]; rfl)
      rw [if_neg (by omega)] at h
      obtain ⟨i, hi, -, rfl, ci⟩ := idx_n (n := 40) hp
      obtain ⟨qi, gi⟩ := rX_at hx hi
      -- at the end
      have s92 : ∀ (s0 : Int32) (N : zM) (c : Nat) (x : Int32) (o1 o2 o3 o4 : Option Value), rfr (rsc s) (fun j => j = 1 ∨ 11 ≤ j) (fun a => a = 1536 ∨ a = 1537) M N → rfl3 N c → (c = 0 → x = if s0 = 0 then 0 else 1) → (c ≠ 0 → x = ecode c) → rres (x, s) M P → wX8_radical d (fun r M2 => ∃ x : Int32, r = [.int x] ∧ P x M2) 92 [some (.ref 1529), o1, o2, o3, o4] [.int s0] N := fun s0 N c x o1 o2 o3 o4 hfr hfl hx0 hxc hK => by
        have hN := mst_fr hfr hx.1.1
        refine sg_X8_radical_92 _ _ _ _ _ _ _ ⟨hN.1, hN.1, ?_⟩
        intro N1
        have n1 : N1 = zuI N 1529 1 (nI (xn s)) := by rw [show N1 = zuI N 1529 1 (zI N 1529 0) from rfl, hfr.2.2.2.2.2.2.1 0 (by omega), f0]
        clear_value N1
        have hfr1 : rfr (rsc s) (fun j => j = 1 ∨ 11 ≤ j) (fun a => a = 1536 ∨ a = 1537) M N1 := rfr_tr hfr (by rw [n1]; exact rfr_F (Or.inl rfl))
        have F1 : ∀ j, j ≠ 1 → zI N1 1529 j = zI N 1529 j := fun j hj => by rw [n1, zI_uI, if_neg (by omega)]
        have hP := hK N1 (rX_fr1 hfr1 (fun _ z => z) (fun _ z => z) (by rw [n1, zI_uI, if_pos ⟨rfl, rfl⟩]) (by omega) hx) (zfm_of hfr1)
        have hP : P x N1 := hP
        refine ⟨hN.1, ?_⟩
        rw [F1 11 (by omega), F1 12 (by omega)]
        rcases hfl with ⟨e, y11, y12⟩ | ⟨e, y11, y12⟩ | ⟨e, y11, y12⟩
        · have hxx := hx0 e
          refine ⟨fun _ => ⟨hN.1, fun _ => ⟨fun z => ⟨_, rfl, ?_⟩, fun z => ⟨_, rfl, ?_⟩⟩, fun z => absurd y11 z⟩, fun z => absurd y12 z⟩
          · rw [if_pos z] at hxx
            rw [hxx] at hP
            exact hP
          · rw [if_neg z] at hxx
            rw [hxx] at hP
            exact hP
        · have hxx := hxc (by omega)
          rw [e] at hxx
          rw [hxx] at hP
          exact ⟨fun z => absurd z (by rw [y12]; decide), fun _ => ⟨_, rfl, hP⟩⟩
        · have hxx := hxc (by omega)
          rw [e] at hxx
          rw [hxx] at hP
          exact ⟨fun _ => ⟨hN.1, fun z => absurd z (by rw [y11]; decide), fun _ => ⟨_, rfl, hP⟩⟩, fun z => absurd y12 z⟩
      refine sg_X8_radical_18 _ _ _ _ _ M ⟨s16, Or.inl rfl, ?_⟩
      intro M1
      refine ⟨s16, Or.inl rfl, ?_⟩
      intro M2
      refine ⟨s16, ?_⟩
      intro M3
      refine ⟨s16, ?_⟩
      intro M4
      refine ⟨s16, s16, ?_⟩
      intro M5
      have hfr5 : rfr TN (fun j => j = 1 ∨ 11 ≤ j) GN M M5 := rfr_tr (rfr_F (by omega)) (rfr_tr (rfr_F (by omega)) (rfr_tr (rfr_F (by omega)) (rfr_tr (rfr_F (by omega)) (rfr_F (by omega)))))
      have e11 : zI M5 1529 11 = 0 := rfl
      have e12 : zI M5 1529 12 = 0 := rfl
      have e13 : zI M5 1529 13 = 0 := rfl
      have e14 : zI M5 1529 14 = nI lim := rfl
      have e1 : zI M5 1529 1 = nI (xn s + 1) := by
        rw [show zI M5 1529 1 = zI M 1529 0 + 1 from rfl, f0, nI_1]
      have e2 : zI M5 1529 2 = nI (xk s) := hx.2.1.2.1.2.1
      have e7 : zI M5 1529 7 = nI (xgs s).length := f7
      have e0 : zI M5 1529 0 = nI (xn s) := f0
      clear_value M5
      have hv5 : mvk M5 (xn s + 1) (xk s) := ⟨e1, e2, hx.1.2.2.1, by omega, by omega⟩
      refine ⟨s16, ?_⟩
      intro v3
      have e3 : v3 = nI (40 + (xgs s).length) := by rw [show v3 = 40 + zI M5 1529 7 from rfl, e7, show (40 : Int32) + nI (xgs s).length = nI (40 + (xgs s).length) from nI_add 40 _]
      clear_value v3
      subst e3
      refine ⟨s16, by rw [r6, k3], by rw [r6, k3]; exact zin_n (by omega) (by omega), ?_⟩
      intro M7
      have m7 : M7 = zuI M5 1533 (40 + (xgs s).length) 0 := by rw [show M7 = zuI M5 (zR M 1529 6) (nI (40 + (xgs s).length)).toNatClampNeg 0 from rfl, r6, cl_n (by omega)]
      clear_value M7
      have hfr7 : rfr (fun x => x = 40 + (xgs s).length) FF GN M5 M7 := by rw [m7]; exact rfr_3 rfl
      have hfa7 : rfr (fun x => x = 40 + (xgs s).length) (fun j => j = 1 ∨ 11 ≤ j) GN M M7 := rfr_tr (rfr_up hfr5 (fun _ z => z.elim) (fun _ z => z) (fun _ z => z)) (rfr_up hfr7 (fun _ z => z) (fun _ z => Or.inr (FF_11 _ z)) (fun _ z => z))
      have hM7 := mst_fr hfa7 hx.1.1
      have hv7 := mvk_fr hfr7 (by unfold FF; omega) (by unfold FF; omega) hv5
      refine ⟨s16, sp_rcomesP (m := mone) (by omega) hM7 hv7 (by omega) (qdy_0 (by rw [m7, zI_uI, if_pos ⟨rfl, rfl⟩])) pok_nil pvn_nil mone_ok vin_one (by rw [m7, zI_uI, if_neg (by omega)]; exact e11) (fun L' M8 hL' hfr8 hz8 hq8 => ?_) (fun M8 hn _ _ _ => by cases hn)⟩
      have hL' : some [((1, 1), mone)] = some L' := hL'
      cases hL'
      have hfa8 : rfr (fun x => x = 40 + (xgs s).length) (fun j => j = 1 ∨ 11 ≤ j) GN M M8 := rfr_tr hfa7 (rfr_up hfr8 (fun _ z => z) (fun _ z => Or.inr (FF_11 _ z)) (fun _ z => z))
      have hM8 := mst_fr hfa8 hx.1.1
      have hv8 := mvk_fr hfr8 (by unfold FF; omega) (by unfold FF; omega) hv7
      have F8 : ∀ j, ¬ FF j → zI M8 1529 j = zI M5 1529 j := fun j hj => by rw [hfr8.2.2.2.2.2.2.1 j hj, hfr7.2.2.2.2.2.2.1 j hj]
      have g1 : pgd (xn s + 1) (xk s) [((1, 1), mone)] := ⟨pok_1 tok_1, fun t ht => by rw [List.mem_singleton.mp ht]; exact vin_one, fun t ht => by rw [List.mem_singleton.mp ht]; decide⟩
      refine ⟨hM8.1, hM8.1, ?_⟩
      rw [F8 0 (by unfold FF; omega), e0, unit_5 (show xn s < 4 by omega)]
      have giu := pgd_up gi
      have hxr : xrad s (nI i) = aadds (xk s) (-1, 1) (munit (xn s)) (xat s (nI i)) [((1, 1), mone)] := rfl
      refine sp_raddsN (by omega) hM8 hv8 (by omega) (by omega) (by omega) hq8 (qdy_fr hfa8 (by omega) gi.1.2.2 qi) g1.1 gi.1 g1.2.1 giu.2.1 munit_ok (vin_unit (by omega)) hz8 (fun G M9 hG hfr9 hz9 hq9 => ?_) (fun G M9 hG hfr9 hz9 hq9 hl9 => ?_)
      · rw [hxr, hG] at h
        dsimp only at h
        have hGg := aadds_gd fok_m1 (by decide) (vin_unit (show xn s < 4 by omega)) giu g1 hG
        have hfa9 : rfr (fun x => x = 40 + (xgs s).length) (fun j => j = 1 ∨ 11 ≤ j) GN M M9 := rfr_tr hfa8 (rfr_up hfr9 (fun _ z => z) (fun _ z => Or.inr (FF_11 _ z)) (fun _ z => z))
        have hM9 := mst_fr hfa9 hx.1.1
        have hv9 := mvk_fr hfr9 (by unfold FF; omega) (by unfold FF; omega) hv8
        have F9 : ∀ j, ¬ FF j → zI M9 1529 j = zI M5 1529 j := fun j hj => by rw [hfr9.2.2.2.2.2.2.1 j hj, F8 j hj]
        refine sg_X8_radical_64 _ _ _ _ _ _ ⟨hM9.1, fun z => absurd hz9 z, fun _ => ⟨hM9.1, hM9.1, ?_⟩⟩
        rw [F9 7 (by unfold FF; omega), e7, nI_1]
        have hlen : (xgs s ++ [G]).length = (xgs s).length + 1 := by rw [List.length_append]; rfl
        rw [← hlen]
        refine sp_rmake (fo := 75) (sh := 0) (gens := xgs s ++ [G]) (ws := false) (by omega) hM9 hv9 (by omega) (Or.inr ⟨rfl, rfl⟩) (by omega) (by omega) (fun g hg => ?_) (fun L hL => ?_) (by rw [F9 _ (by unfold FF; omega)]; exact e13) (by rw [F9 _ (by unfold FF; omega)]; exact e14) (by omega) hz9 (by rw [F9 _ (by unfold FF; omega)]; exact e12) fun N hfrN g13 g24 g25 g26 gfl gok => ?_
        · by_cases hgl : g < (xgs s).length
          · rw [show (xgs s ++ [G]).getD g [] = (xgs s).getD g [] by rw [List.getD_eq_getElem?_getD, List.getElem?_append_left hgl, List.getD_eq_getElem?_getD]]
            exact qdy_fr hfa9 (by omega) (getD_len (fun c hc => (ggd c hc).1) g).2.2 (rX_gq hx g hgl)
          · have hge : g = (xgs s).length := by omega
            rw [show (xgs s ++ [G]).getD g [] = G by rw [List.getD_eq_getElem?_getD, List.getElem?_append_right (by omega), hge, Nat.sub_self]; rfl, hge]
            exact hq9
        · rcases List.mem_append.mp hL with hL | hL
          · exact pgd_up (ggd L hL)
          · rw [List.mem_singleton.mp hL]; exact hGg
        · generalize abuild (xk s) 0 lim (xgs s ++ [G]) = B at h g13 g24 g25 g26 gfl gok
          have hfaN : rfr (rsc s) (fun j => j = 1 ∨ 11 ≤ j) (fun a => a = 1536 ∨ a = 1537) M N := rfr_tr (rfr_up hfa9 (fun x z => Or.inl z) (fun _ z => z) (fun _ z => z.elim)) (rfr_up hfrN (fun x z => by unfold TM at z; unfold rsc; omega) (fun j z => by unfold FM FP FD FF at z; omega) (fun _ z => z))
          have hN := mst_fr hfrN hM9
          have hvN := mvk_fr hfrN (by unfold FM FP FD FF; omega) (by unfold FM FP FD FF; omega) hv9
          rcases id gfl with ⟨e, y11, y12⟩ | ⟨e, y11, y12⟩ | ⟨e, y11, y12⟩
          · rw [if_pos e] at h
            obtain ⟨g20, gl24, grel, gegd, gndv⟩ := gok e
            refine sg_X8_radical_75 _ _ _ _ _ _ ⟨hN.1, fun z => absurd y11 z, fun _ => ⟨hN.1, fun z => absurd y12 z, fun _ => ⟨hN.1, ?_⟩⟩⟩
            rw [g20]
            refine ⟨fun z => ?_, fun z => ⟨hN.1, ?_⟩⟩
            · rw [if_neg (fun y => by
                have := (awhb_iff.mp y).1
                exact z (by rw [this]; rfl))] at h
              exact s92 0 N B.1 0 _ _ _ _ hfaN gfl (fun _ => by rw [if_pos rfl]) (fun y => absurd e y) h
            · have hl1 : B.2.1.length = 1 := (nI_eq (b := 1) (by omega) (by omega)).mp (Classical.not_not.mp z)
              obtain ⟨ll, lcs, hlE, lm, lv⟩ := egd_ld gegd (show 0 < B.2.1.length by omega)
              refine sp_rld (fo := 75) (i := 0) (by omega) hN (by omega) grel gegd (by omega) (by omega) ⟨fun z => ?_, fun z => ?_⟩
              · have hne : ald B.2.1 0 ≠ mone := fun y => z ((e5_0 lm).mpr y)
                rw [if_neg (fun y => hne (awhb_iff.mp y).2)] at h
                exact s92 0 N B.1 0 _ _ _ _ hfaN gfl (fun _ => by rw [if_pos rfl]) (fun y => absurd e y) h
              · have heq := (e5_0 lm).mp (Classical.not_not.mp z)
                rw [if_pos (awhb_iff.mpr ⟨hl1, heq⟩)] at h
                exact s92 1 N B.1 1 _ _ _ _ hfaN gfl (fun _ => by rw [if_neg (by decide)]) (fun y => absurd e y) h
          · rw [if_neg (by omega)] at h
            exact sg_X8_radical_75 _ _ _ _ _ _ ⟨hN.1, fun z => absurd y11 z, fun _ => ⟨hN.1, fun _ => s92 0 N B.1 _ _ _ _ _ hfaN gfl (fun y => by omega) (fun _ => rfl) h, fun z => absurd (Classical.not_not.mp z) (by rw [y12]; decide)⟩⟩
          · rw [if_neg (by omega)] at h
            exact sg_X8_radical_75 _ _ _ _ _ _ ⟨hN.1, fun _ => s92 0 N B.1 _ _ _ _ _ hfaN gfl (fun y => by omega) (fun _ => rfl) h, fun z => absurd (Classical.not_not.mp z) (by rw [y11]; decide)⟩
      · rw [hxr, hG] at h
        have hfa9 : rfr (fun x => x = 40 + (xgs s).length) (fun j => j = 1 ∨ 11 ≤ j) GN M M9 := rfr_tr hfa8 (rfr_up hfr9 (fun _ z => z) (fun _ z => Or.inr (FF_11 _ z)) (fun _ z => z))
        have hM9 := mst_fr hfa9 hx.1.1
        have z12 : zI M9 1529 12 = 0 := by rw [hfr9.2.2.2.2.2.2.1 12 (by unfold FF; omega), F8 _ (by unfold FF; omega)]; exact e12
        refine sg_X8_radical_64 _ _ _ _ _ _ ⟨hM9.1, fun _ => ?_, fun z => absurd (Classical.not_not.mp z) (by rw [hz9]; decide)⟩
        exact sg_X8_radical_75 _ _ _ _ _ _ ⟨hM9.1, fun _ => s92 0 M9 2 (-7) _ _ _ _ (rfr_up hfa9 (fun x z => Or.inl z) (fun _ z => z) (fun _ z => z.elim)) (Or.inr (Or.inr ⟨rfl, hz9, z12⟩)) (fun y => by omega) (fun _ => rfl) h, fun z => absurd (Classical.not_not.mp z) (by rw [hz9]; decide)⟩
    · have c4 : xn s = 4 := (nI_eq (b := 4) (by omega) (by omega)).mp (Classical.not_not.mp c4)
      rw [if_pos (by omega)] at h
      exact h M hx zfm_rf
  · rw [if_neg (by rw [hp]; decide)] at h
    exact h M hx zfm_rf
def GA (a : Nat) : Prop := a = 1535
theorem cR_vanishes {d : Nat} {M : zM} {s : aX} {p a b c g : Int32} {P : Int32 → zM → Prop} (hd : 10 ≤ d) (hx : rX M s) (h : rres (A_vanishes s p a b c g) M P) : ycI d nX8_vanishes [.ref 1529, .int p, .int a, .int b, .int c, .int g] M P := by
  obtain ⟨d, rfl, he⟩ := dS hd
  have hnv := hx.1.2.1
  obtain ⟨s16, ⟨-, -, -, -, -, r18, -⟩, -, -, s5, -⟩ := id hx.1.1
  unfold A_vanishes at h
  refine en_X8_vanishes _ _ _ _ _ _ M (sg_X8_vanishes_0 _ _ _ _ _ _ M (sp_rplace (by omega) (fun hp => ⟨fun _ => ?_, fun z => absurd (Classical.not_not.mp z) (by decide)⟩) (fun hp => ⟨fun z => absurd rfl z, fun _ => ⟨_, rfl, ?_⟩⟩)))
  · rw [if_pos hp] at h
    obtain ⟨i, hi, -, rfl, ci⟩ := idx_n (n := 40) hp
    have zz : ∀ j, j < 4 → zin (nI j) 4 := fun j hj => zin_n hj (by omega)
    refine sg_X8_vanishes_5 _ _ _ _ _ _ _ _ _ _ _ _ _ M ⟨s16, by rw [r18, s5], by rw [r18, s5]; exact zz 0 (by omega), ?_⟩
    intro M3
    refine ⟨s16, by rw [r18, s5], by rw [r18, s5]; exact zz 1 (by omega), ?_⟩
    intro M4
    refine ⟨s16, by rw [r18, s5], by rw [r18, s5]; exact zz 2 (by omega), ?_⟩
    intro M5
    refine ⟨s16, by rw [r18, s5], by rw [r18, s5]; exact zz 3 (by omega), ?_⟩
    intro M6
    have e6 : M6 = zuI (zuI (zuI (zuI M 1535 0 a) 1535 1 b) 1535 2 c) 1535 3 g := by
      rw [show M6 = zuI (zuI (zuI (zuI M (zR M 1529 18) (0 : Int32).toNatClampNeg a) (zR M 1529 18) (1 : Int32).toNatClampNeg b) (zR M 1529 18) (2 : Int32).toNatClampNeg c) (zR M 1529 18) (3 : Int32).toNatClampNeg g from rfl, r18]
      rfl
    clear_value M6
    have hfr : rfr TN FF GA M M6 := by
      rw [e6]
      exact rfr_tr (rfr_G rfl (by omega)) (rfr_tr (rfr_G rfl (by omega)) (rfr_tr (rfr_G rfl (by omega)) (rfr_G rfl (by omega))))
    have hx6 := rX_fr hfr (fun _ z => z.elim) FF_11 (fun z => by unfold GA at z; omega) hx
    have rg : ∀ y : Int32, -2147483648 ≤ y.toInt ∧ y.toInt < 2147483648 := fun y => ⟨y.le_toInt, y.toInt_lt⟩
    have hpt : ∀ v, v < 4 → zI M6 1535 v = Int32.ofInt (xpt a b c g v) ∧ (-2147483648 ≤ xpt a b c g v ∧ xpt a b c g v < 2147483648) := fun v hv => by
      match v, hv with
      | 0, _ => exact ⟨by rw [e6, zI_uI, if_neg (by omega), zI_uI, if_neg (by omega), zI_uI, if_neg (by omega), zI_uI, if_pos ⟨rfl, rfl⟩]; exact (Int32.ofInt_toInt a).symm, rg a⟩
      | 1, _ => exact ⟨by rw [e6, zI_uI, if_neg (by omega), zI_uI, if_neg (by omega), zI_uI, if_pos ⟨rfl, rfl⟩]; exact (Int32.ofInt_toInt b).symm, rg b⟩
      | 2, _ => exact ⟨by rw [e6, zI_uI, if_neg (by omega), zI_uI, if_pos ⟨rfl, rfl⟩]; exact (Int32.ofInt_toInt c).symm, rg c⟩
      | 3, _ => exact ⟨by rw [e6, zI_uI, if_pos ⟨rfl, rfl⟩]; exact (Int32.ofInt_toInt g).symm, rg g⟩
    clear e6
    generalize xpt a b c g = pt at h hpt
    have hM6 := hx6.1.1
    obtain ⟨q16, ⟨p3, p4, p5, p6, -, p18, -⟩, ⟨w0, w1, w2, w3⟩, -, w5, -⟩ := id hM6
    have f0 := hx6.2.1.1
    -- the values
    have vals : (∀ u, u < xn s → -1000 ≤ pt u ∧ pt u ≤ 1000) → rres (match aval pt (xn s) (xat s (nI i)) (0, 1) with
        | none => (-7, s)
        | some f => if f.1 = 0 then (1, s) else (0, s)) M P → ∀ (o2 o3 o4 o5 o6 o7 o8 o9 o10 o11 o12 : Option Value), wX8_vanishes d (fun r M2 => ∃ x : Int32, r = [.int x] ∧ P x M2) 47 [some (.ref 1529), some (.int (nI i)), o2, o3, o4, o5, o6, o7, o8, o9, o10, o11, o12] [] M6 := fun hb h o2 o3 o4 o5 o6 o7 o8 o9 o10 o11 o12 => by
      have hfx : ∀ v, v < xn s → fok (pt v, 1) := fun v hv => fok_x1 (by have := hb v hv; omega)
      obtain ⟨qi, gi⟩ := rX_at hx6 hi
      have hl := gi.1.2.2
      have hgk := gi.1.1
      generalize hfin : aval pt (xn s) (xat s (nI i)) (0, 1) = fin at h
      generalize xat s (nI i) = L at qi gi hl hgk hfin
      -- all is told by the numbers in passing
      have full : ∀ M', rfr TN FF GN M6 M' → fin = none → P (-7) M' := fun M' hh hf => by
        rw [hf] at h
        exact h M' (rX_fr hh (fun _ z => z.elim) FF_11 (fun z => z) hx6) (zfm_tr (zfm_of hfr) (zfm_of hh))
      have terms : ∀ (n j : Nat) (tot : aF) (M' : zM) (o2 o3 o4 o5 o9 o10 o11 o12 : Option Value), j + n = L.length → rfr TN FF GN M6 M' → zI M' 1529 11 = 0 → fok tot → aval pt (xn s) (L.drop j) tot = fin → wX8_vanishes d (fun r M2 => ∃ x : Int32, r = [.int x] ∧ P x M2) 56 [some (.ref 1529), some (.int (nI i)), o2, o3, o4, o5, some (.int (Int32.ofInt tot.1)), some (.int (Int32.ofInt tot.2)), some (.int (nI j)), o9, o10, o11, o12] [] M' := by
        intro n
        induction n with
        | zero =>
          intro j tot M' o2 o3 o4 o5 o9 o10 o11 o12 hj hfr' z11 htk heq
          have hx' := rX_fr hfr' (fun _ z => z.elim) FF_11 (fun z => z) hx6
          obtain ⟨q16, ⟨p3, p4, p5, p6, -, p18, -⟩, ⟨w0, w1, w2, w3⟩, -, w5, -⟩ := id hx'.1.1
          have qi' := qdy_fr hfr' (fun z => z) hl qi
          rw [List.drop_of_length_le (by omega)] at heq
          have heq : some tot = fin := heq
          rw [← heq] at h
          have h : rres (if tot.1 = 0 then (1, s) else (0, s)) M P := h
          obtain ⟨⟨t1, t2⟩, t3, t4⟩ := id htk
          have e0 : Int32.ofInt tot.1 = 0 ↔ tot.1 = 0 := ⟨fun z => by
            have := congrArg Int32.toInt z
            rw [tI_of (by omega), Int32.toInt_zero] at this
            exact this, fun z => by rw [z]; rfl⟩
          refine sg_X8_vanishes_56 _ _ _ _ _ _ _ _ _ _ _ _ _ _ ⟨q16, by rw [p6, w3], by rw [p6, w3]; exact zin_n (by omega) (by omega), fun _ => ?_, fun z => absurd (by rw [p6, cl_n (by omega), qi'.1, show j = L.length by omega]; exact Int32.le_refl _) z⟩
          refine sg_X8_vanishes_158 _ _ _ _ _ _ _ _ _ _ _ _ _ _ ⟨fun z => ⟨_, rfl, ?_⟩, fun z => ⟨_, rfl, ?_⟩⟩
          · rw [if_neg (fun y => z (e0.mpr y))] at h
            exact h M' hx' (zfm_tr (zfm_of hfr) (zfm_of hfr'))
          · rw [if_pos (e0.mp (Classical.not_not.mp z))] at h
            exact h M' hx' (zfm_tr (zfm_of hfr) (zfm_of hfr'))
        | succ n ih =>
          intro j tot M' o2 o3 o4 o5 o9 o10 o11 o12 hj hfr' z11 htk heq
          have hx' := rX_fr hfr' (fun _ z => z.elim) FF_11 (fun z => z) hx6
          obtain ⟨q16, ⟨p3, p4, p5, p6, -, p18, -⟩, ⟨w0, w1, w2, w3⟩, -, w5, -⟩ := id hx'.1.1
          have qi' := qdy_fr hfr' (fun z => z) hl qi
          have hjl : j < L.length := by omega
          have hu := List.getElem?_eq_getElem hjl
          have htt := hgk _ (List.getElem_mem hjl)
          rw [List.drop_eq_getElem_cons hjl] at heq
          generalize L[j] = t at hu htt heq
          obtain ⟨g0, g1, g2⟩ := qi'.2 j _ hu
          have cx := cl_n (n := 100 * i + j) (by omega)
          have zx : zin (nI (100 * i + j)) 37200 := zin_n (by omega) (by omega)
          have heq : (match atm pt t.2 (xn s) 0 t.1 with
            | none => none
            | some s1 => match afsum tot s1 with
              | none => none
              | some r => aval pt (xn s) (L.drop (j + 1)) r) = fin := heq
          obtain ⟨⟨t1, t2⟩, t3, t4⟩ := id htk
          -- its variables
          have pows : ∀ (n v : Nat) (c : aF) (N : zM) (o2 o3 o4 o5 o12 : Option Value), v + n = xn s → rfr TN FF GN M6 N → zI N 1529 11 = 0 → fok c → atm pt t.2 n v c = atm pt t.2 (xn s) 0 t.1 → wX8_vanishes d (fun r M2 => ∃ x : Int32, r = [.int x] ∧ P x M2) 82 [some (.ref 1529), some (.int (nI i)), o2, o3, o4, o5, some (.int (Int32.ofInt tot.1)), some (.int (Int32.ofInt tot.2)), some (.int (nI j)), some (.int (Int32.ofInt c.1)), some (.int (Int32.ofInt c.2)), some (.int (nI v)), o12] [] N := by
            intro n
            induction n with
            | zero =>
              intro v c N o2 o3 o4 o5 o12 hv hfN z11 hck hat
              have hxN := rX_fr hfN (fun _ z => z.elim) FF_11 (fun z => z) hx6
              have hat : some c = atm pt t.2 (xn s) 0 t.1 := hat
              rw [← hat] at heq
              dsimp only at heq
              obtain ⟨⟨c1, c2⟩, c3, c4⟩ := id hck
              refine sg_X8_vanishes_82 _ _ _ _ _ _ _ _ _ _ _ _ _ _ ⟨hxN.1.1.1, fun _ => ?_, fun z => absurd (by rw [hxN.2.1.1, show v = xn s by omega]; exact Int32.le_refl _) z⟩
              have tl : ∀ n : Int, -1000000000 ≤ n ∧ n ≤ 1000000000 → (Int32.ofInt n).toInt64.toInt = n := fun n hn => tI64 (by omega)
              have m1 : ∀ x y : Int, -1000000000 ≤ x ∧ x ≤ 1000000000 → 0 < y ∧ y ≤ 1000000000 → -1000000000000000000 ≤ x * y ∧ x * y ≤ 1000000000000000000 := fun x y hx hy => ⟨by
                have h1 := Int.mul_le_mul_of_nonneg_right hx.1 (show 0 ≤ y by omega)
                have h2 : -1000000000 * 1000000000 ≤ -1000000000 * y := Int.mul_le_mul_of_nonpos_left (by omega) hy.2
                omega, by
                have h1 := Int.mul_le_mul_of_nonneg_right hx.2 (show 0 ≤ y by omega)
                have h2 : 1000000000 * y ≤ 1000000000 * 1000000000 := Int.mul_le_mul_of_nonneg_left hy.2 (by omega)
                omega⟩
              have b1 := m1 tot.1 c.2 ⟨t1, t2⟩ ⟨c3, c4⟩
              have b2 := m1 c.1 tot.2 ⟨c1, c2⟩ ⟨t3, t4⟩
              have b3 := m1 tot.2 c.2 (by omega) ⟨c3, c4⟩
              have b4 : 0 < tot.2 * c.2 := Int.mul_pos t3 c3
              have k1 : ((Int32.ofInt tot.1).toInt64 * (Int32.ofInt c.2).toInt64).toInt = tot.1 * c.2 := by rw [tl_mul (by rw [tl _ ⟨t1, t2⟩, tl _ (by omega)]; omega), tl _ ⟨t1, t2⟩, tl _ (by omega)]
              have k2 : ((Int32.ofInt c.1).toInt64 * (Int32.ofInt tot.2).toInt64).toInt = c.1 * tot.2 := by rw [tl_mul (by rw [tl _ ⟨c1, c2⟩, tl _ (by omega)]; omega), tl _ ⟨c1, c2⟩, tl _ (by omega)]
              have k3 : ((Int32.ofInt tot.2).toInt64 * (Int32.ofInt c.2).toInt64).toInt = tot.2 * c.2 := by rw [tl_mul (by rw [tl _ (by omega), tl _ (by omega)]; omega), tl _ (by omega), tl _ (by omega)]
              refine sg_X8_vanishes_127 _ _ _ _ _ _ _ _ _ _ _ _ _ _ ⟨hxN.1.1.1, ?_⟩
              refine sp_rlow (A := tot.1 * c.2 + c.1 * tot.2) (B := tot.2 * c.2) (by omega) hxN.1.1 z11 (by rw [tl_add (by rw [k1, k2]; omega), k1, k2]) k3 (by omega) (by omega) fun N1 hfr1 hlo => ?_
              have hlo : rlo N1 (afsum tot c) := hlo
              have hfN1 := rfr_tr hfN hfr1
              have hM1 := mst_fr hfr1 hxN.1.1
              cases hs : afsum tot c with
              | none =>
                rw [hs] at heq hlo
                have heq : none = fin := heq
                have hlo : zI N1 1529 11 = 1 := hlo
                exact ⟨hM1.1, fun z => absurd z (by rw [hlo]; decide), fun _ => ⟨_, rfl, full N1 hfN1 heq.symm⟩⟩
              | some r =>
                rw [hs] at heq hlo
                obtain ⟨l1, l2, l3⟩ := hlo
                refine ⟨hM1.1, fun _ => ⟨hM1.1, ?_⟩, fun z => absurd l1 z⟩
                intro v6
                refine ⟨hM1.1, ?_⟩
                intro v7 v8
                rw [show v6 = Int32.ofInt r.1 from l2, show v7 = Int32.ofInt r.2 from l3, show v8 = nI (j + 1) from nI_1 j]
                exact ih (j + 1) r N1 _ _ _ _ _ _ _ _ (by omega) hfN1 l1 (afsum_ok htk hck hs).1 heq
            | succ n ihv =>
              intro v c N o2 o3 o4 o5 o12 hv hfN z11 hck hat
              have hxN := rX_fr hfN (fun _ z => z.elim) FF_11 (fun z => z) hx6
              have hvx := hb v (by omega)
              refine sg_X8_vanishes_82 _ _ _ _ _ _ _ _ _ _ _ _ _ _ ⟨hxN.1.1.1, fun z => ?_, fun _ => ?_⟩
              · rw [hxN.2.1.1] at z
                have := (nI_leI (by omega) (by omega)).mp z
                omega
              have hat : (match apw (pt v) (aex t.2 v) c with
                | none => none
                | some s1 => atm pt t.2 n (v + 1) s1) = atm pt t.2 (xn s) 0 t.1 := hat
              have hexb := aex_ok htt.2.2 v
              have mult : ∀ (a e : Nat) (c' : aF) (N' : zM) (o2 o3 o4 o5 : Option Value), e + a = aex t.2 v → rfr TN FF GN M6 N' → zI N' 1529 11 = 0 → fok c' → apw (pt v) a c' = apw (pt v) (aex t.2 v) c → wX8_vanishes d (fun r M2 => ∃ x : Int32, r = [.int x] ∧ P x M2) 88 [some (.ref 1529), some (.int (nI i)), o2, o3, o4, o5, some (.int (Int32.ofInt tot.1)), some (.int (Int32.ofInt tot.2)), some (.int (nI j)), some (.int (Int32.ofInt c'.1)), some (.int (Int32.ofInt c'.2)), some (.int (nI v)), some (.int (nI e))] [] N' := by
                intro a
                induction a with
                | zero =>
                  intro e c' N' o2 o3 o4 o5 hea hfN' z11' hck' hpw
                  have hxN' := rX_fr hfN' (fun _ z => z.elim) FF_11 (fun z => z) hx6
                  obtain ⟨q16, ⟨p3, p4, p5, p6, -, p18, -⟩, ⟨w0, w1, w2, w3⟩, -, w5, -⟩ := id hxN'.1.1
                  have g2' := ((qdy_fr hfN' (fun z => z) hl qi).2 j _ hu).2.2
                  have hpw : some c' = apw (pt v) (aex t.2 v) c := hpw
                  rw [← hpw] at hat
                  refine sg_X8_vanishes_88 _ _ _ _ _ _ _ _ _ _ _ _ _ _ ?_
                  rw [ix100, cx]
                  refine ⟨q16, by rw [p5, w2], by rw [p5, w2]; exact zx, ?_⟩
                  rw [p5, g2']
                  refine sp_rexp (by omega) htt.2.2 (by omega) ⟨fun _ => ?_, fun z => absurd (by rw [show e = aex t.2 v by omega]; exact Int32.le_refl _) z⟩
                  refine sg_X8_vanishes_125 _ _ _ _ _ _ _ _ _ _ _ _ _ _ ?_
                  intro v11
                  rw [show v11 = nI (v + 1) from nI_1 v]
                  exact ihv (v + 1) c' N' _ _ _ _ _ (by omega) hfN' z11' hck' hat
                | succ a iha =>
                  intro e c' N' o2 o3 o4 o5 hea hfN' z11' hck' hpw
                  have hxN' := rX_fr hfN' (fun _ z => z.elim) FF_11 (fun z => z) hx6
                  obtain ⟨q16, ⟨p3, p4, p5, p6, -, p18, -⟩, ⟨w0, w1, w2, w3⟩, -, w5, -⟩ := id hxN'.1.1
                  have g2' := ((qdy_fr hfN' (fun z => z) hl qi).2 j _ hu).2.2
                  have hpt' : zI N' 1535 v = Int32.ofInt (pt v) := by rw [hfN'.2.2.2.2.2.1 1535 v (Or.inr ⟨by omega, fun z => z⟩)]; exact (hpt v (by omega)).1
                  have hpw : (match afmul c' (pt v, 1) with
                    | none => none
                    | some s1 => apw (pt v) a s1) = apw (pt v) (aex t.2 v) c := hpw
                  obtain ⟨⟨d1, d2⟩, d3, d4⟩ := id hck'
                  refine sg_X8_vanishes_88 _ _ _ _ _ _ _ _ _ _ _ _ _ _ ?_
                  rw [ix100, cx]
                  refine ⟨q16, by rw [p5, w2], by rw [p5, w2]; exact zx, ?_⟩
                  rw [p5, g2']
                  refine sp_rexp (by omega) htt.2.2 (by omega) ⟨fun z => ?_, fun _ => ⟨q16, by rw [p18, w5], by rw [p18, w5]; exact zz v (by omega), q16, ?_⟩⟩
                  · have := (nI_leI (by omega) (by omega)).mp z
                    omega
                  · rw [p18, cl_n (by omega), hpt']
                    refine sp_rmul (A := c'.1) (B := c'.2) (C := pt v) (E := 1) (by omega) hxN'.1.1 z11' (tI64 (by omega)) (tI64 (by omega)) (tI64 (by omega)) (by decide) (by omega) (by omega) (by omega) (by omega) fun N1 hfr1 hlo => ?_
                    have hlo : rlo N1 (afmul c' (pt v, 1)) := hlo
                    have hfN1 := rfr_tr hfN' hfr1
                    have hM1 := mst_fr hfr1 hxN'.1.1
                    cases hs : afmul c' (pt v, 1) with
                    | none =>
                      rw [hs] at hpw hlo
                      have hpw : none = apw (pt v) (aex t.2 v) c := hpw
                      rw [← hpw] at hat
                      have hat : none = atm pt t.2 (xn s) 0 t.1 := hat
                      rw [← hat] at heq
                      have heq : none = fin := heq
                      have hlo : zI N1 1529 11 = 1 := hlo
                      exact ⟨hM1.1, fun z => absurd z (by rw [hlo]; decide), fun _ => ⟨_, rfl, full N1 hfN1 heq.symm⟩⟩
                    | some r =>
                      rw [hs] at hpw hlo
                      obtain ⟨l1, l2, l3⟩ := hlo
                      refine ⟨hM1.1, fun _ => ⟨hM1.1, ?_⟩, fun z => absurd l1 z⟩
                      intro v9
                      refine ⟨hM1.1, ?_⟩
                      intro v10 v12
                      rw [show v9 = Int32.ofInt r.1 from l2, show v10 = Int32.ofInt r.2 from l3, show v12 = nI (e + 1) from nI_1 e]
                      exact iha (e + 1) r N1 _ _ _ _ (by omega) hfN1 l1 (afmul_fok hck' (hfx v (by omega)) hs) hpw
              exact mult (aex t.2 v) 0 c N _ _ _ _ (by omega) hfN z11 hck rfl
          refine sg_X8_vanishes_56 _ _ _ _ _ _ _ _ _ _ _ _ _ _ ⟨q16, by rw [p6, w3], by rw [p6, w3]; exact zin_n (by omega) (by omega), fun z => ?_, fun _ => ?_⟩
          · rw [p6, cl_n (by omega), qi'.1] at z
            have := (nI_leI (by omega) (by omega)).mp z
            omega
          · rw [ix100, cx]
            refine ⟨q16, by rw [p3, w0], by rw [p3, w0]; exact zx, ?_⟩
            intro v9
            refine ⟨q16, by rw [p4, w1], by rw [p4, w1]; exact zx, ?_⟩
            intro v10
            rw [show v9 = Int32.ofInt t.1.1 by rw [show v9 = zI M' (zR M' 1529 3) (100 * i + j) from rfl, p3]; exact g0, show v10 = Int32.ofInt t.1.2 by rw [show v10 = zI M' (zR M' 1529 4) (100 * i + j) from rfl, p4]; exact g1]
            exact pows (xn s) 0 t.1 M' _ _ _ _ _ (by omega) hfr' z11 htt.1 rfl
      refine sg_X8_vanishes_47 _ _ _ _ _ _ _ _ _ _ _ _ _ _ ⟨hM6.1, Or.inl rfl, ?_⟩
      intro M7
      have m7 : M7 = zuI M6 1529 11 0 := rfl
      clear_value M7
      exact terms L.length 0 (0, 1) M7 _ _ _ _ _ _ _ _ (by omega) (by rw [m7]; exact rfr_F (Or.inl rfl)) (by rw [m7, zI_uI, if_pos ⟨rfl, rfl⟩]) (by unfold fok; decide) hfin
    have loop : ∀ (n v : Nat) (o2 o3 o4 o5 o7 o8 o9 o10 o11 o12 : Option Value), v + n = xn s → (∀ u, u < v → -1000 ≤ pt u ∧ pt u ≤ 1000) → wX8_vanishes d (fun r M2 => ∃ x : Int32, r = [.int x] ∧ P x M2) 27 [some (.ref 1529), some (.int (nI i)), o2, o3, o4, o5, some (.int (nI v)), o7, o8, o9, o10, o11, o12] [] M6 := by
      intro n
      induction n with
      | zero =>
        intro v o2 o3 o4 o5 o7 o8 o9 o10 o11 o12 hv hb
        have hvn : v = xn s := by omega
        rw [hvn] at hb
        rw [if_neg (by
          rw [List.any_eq_true]
          rintro ⟨u, h1, h2⟩
          have := hb u (List.mem_range.mp h1)
          have := of_decide_eq_true h2
          omega)] at h
        exact sg_X8_vanishes_27 _ _ _ _ _ _ _ _ _ _ _ _ _ _ ⟨q16, fun _ => vals hb h _ _ _ _ _ _ _ _ _ _ _, fun z => absurd (by rw [f0, hvn]; exact Int32.le_refl _) z⟩
      | succ n ih =>
        intro v o2 o3 o4 o5 o7 o8 o9 o10 o11 o12 hv hb
        have cv := cl_n (n := v) (by omega)
        have hti : (Int32.ofInt (pt v)).toInt = pt v := tI_of (hpt v (by omega)).2
        have no : (1000 < pt v ∨ pt v < -1000) → P (-2) M6 := fun z => by
          rw [if_pos (by
            rw [List.any_eq_true]
            exact ⟨v, List.mem_range.mpr (by omega), decide_eq_true z⟩)] at h
          exact h M6 hx6 (zfm_of hfr)
        refine sg_X8_vanishes_27 _ _ _ _ _ _ _ _ _ _ _ _ _ _ ⟨q16, fun z => ?_, fun _ => ⟨q16, by rw [p18, w5], by rw [p18, w5]; exact zz v (by omega), ?_⟩⟩
        · rw [f0] at z
          have := (nI_leI (by omega) (by omega)).mp z
          omega
        · rw [p18, cv, (hpt v (by omega)).1]
          refine ⟨fun z => ⟨_, rfl, no (Or.inr ?_)⟩, fun z => ⟨q16, by rw [w5], by rw [w5]; exact zz v (by omega), fun z2 => ?_, fun z2 => ⟨_, rfl, no (Or.inl ?_)⟩⟩⟩
          · have z := Int32.lt_iff_toInt_lt.mp z
            rw [hti, show (-1000 : Int32).toInt = -1000 by decide] at z
            exact z
          · have z : ¬ (Int32.ofInt (pt v)).toInt < (-1000 : Int32).toInt := fun y => z (Int32.lt_iff_toInt_lt.mpr y)
            have z2 := Int32.le_iff_toInt_le.mp z2
            rw [hti, show (-1000 : Int32).toInt = -1000 by decide] at z
            rw [hti, show (1000 : Int32).toInt = 1000 by decide] at z2
            refine sg_X8_vanishes_45 _ _ _ _ _ _ _ _ _ _ _ _ _ _ ?_
            intro v6
            rw [show v6 = nI (v + 1) from nI_1 v]
            refine ih (v + 1) _ _ _ _ _ _ _ _ _ _ (by omega) fun u hu => ?_
            by_cases e : u = v
            · rw [e]; omega
            · exact hb u (by omega)
          · have z2 : ¬ (Int32.ofInt (pt v)).toInt ≤ (1000 : Int32).toInt := fun y => z2 (Int32.le_iff_toInt_le.mpr y)
            rw [hti, show (1000 : Int32).toInt = 1000 by decide] at z2
            omega
    exact loop (xn s) 0 _ _ _ _ _ _ _ _ _ _ (by omega) fun u hu => absurd hu (Nat.not_lt_zero _)
  · rw [if_neg (by rw [hp]; decide)] at h
    exact h M hx zfm_rf
