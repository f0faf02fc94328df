/-! the reference: sums, products, multiples -/
theorem madd_cm {a b : aM} : madd a b = madd b a := by
  unfold madd
  rw [Nat.add_comm a.1, Nat.add_comm a.2.1, Nat.add_comm a.2.2.1, Nat.add_comm a.2.2.2]
theorem pvn_nil {nv : Nat} : pvn nv [] := fun _ h => absurd h List.not_mem_nil
theorem acome_vn {nv k : Nat} {t : aT} {L L' : aP} (hL : pvn nv L) (ht : vin nv t.2) (h : acome k t L = some L') : pvn nv L' := by
  have hle := apos_le (k := k) (m := t.2) L
  have ins : pvn nv (L.insertIdx (apos k t.2 L) t) := fun u hu => by
    rcases (List.mem_insertIdx hle).mp hu with rfl | hu
    · exact ht
    · exact hL u hu
  unfold acome at h
  split at h
  · split at h
    · split at h
      · cases h
      · split at h
        · cases h
          exact fun u hu => hL u (List.mem_of_mem_eraseIdx hu)
        · cases h
          intro u hu
          rcases List.mem_or_eq_of_mem_set hu with hu | rfl
          · exact hL u hu
          · exact ht
    · split at h
      · cases h
      · cases h
        exact ins
  · split at h
    · cases h
    · cases h
      exact ins
theorem aadds_vn {nv k : Nat} {c : aF} {m : aM} (hm : vin nv m) : ∀ {g f f' : aP}, pvn nv g → pvn nv f → aadds k c m g f = some f' → pvn nv f'
  | [], f, f', _, hf, h => by cases h; exact hf
  | t :: g, f, f', hg, hf, h => by
    by_cases hmo : mok (madd t.2 m)
    · rw [aadds_in hmo] at h
      split at h
      · cases h
      · rename_i s hs
        split at h
        · cases h
        · rename_i f1 hf1
          exact aadds_vn hm (fun u hu => hg u (List.mem_cons_of_mem _ hu)) (acome_vn (t := (s, madd t.2 m)) hf (vin_add (hg t List.mem_cons_self) hm) hf1) h
    · rw [aadds_out hmo] at h
      cases h
theorem aprod_vn {nv k : Nat} {g : aP} (hg : pvn nv g) : ∀ {us f f' : aP}, pvn nv us → pvn nv f → aprod k g us f = some f' → pvn nv f'
  | [], f, f', _, hf, h => by cases h; exact hf
  | u :: us, f, f', hu, hf, h => by
    rw [aprod_cons] at h
    split at h
    · cases h
    · rename_i f1 hf1
      exact aprod_vn hg (fun t ht => hu t (List.mem_cons_of_mem _ ht)) (aadds_vn (hu u List.mem_cons_self) hg hf hf1) h
theorem sp_raddsF {d g : Nat} {M : zM} {f x y m : Int32} {P : zM → Prop} (hd : 1 ≤ d) (hM : mst M) (hg : g < 372) (hf : zI M 1529 11 = 1) (h : P M) : ycV d nX8_adds [.ref 1529, .int f, .int x, .int y, .int m, .int (nI g)] M P := by
  obtain ⟨d, rfl, he⟩ := dS hd
  obtain ⟨s16, ⟨r3, r4, r5, r6, -⟩, ⟨k0, k1, k2, k3⟩, -⟩ := id hM
  refine en_X8_adds _ _ _ _ _ _ M (sg_X8_adds_0 _ _ _ _ _ _ M (sg_X8_adds_2 _ _ _ _ _ _ _ _ _ _ ⟨s16, by rw [r6, k3], by rw [r6, k3]; exact zin_n hg (by omega), fun _ => ⟨rfl, h⟩, fun _ => ⟨s16, fun _ => ⟨rfl, h⟩, fun z => absurd (Classical.not_not.mp z) (by rw [hf]; decide)⟩⟩))
theorem sp_radds {d nv k f g : Nat} {M : zM} {F G : aP} {c : aF} {m : aM} {P : zM → Prop} (hd : 5 ≤ d) (hM : mst M) (hv : mvk M nv k) (hfl : f < 372) (hgl : g < 372) (hfg : f ≠ g) (hF : qdy M f F) (hG : qdy M g G) (hFk : pok k F) (hGk : pok k G) (hFv : pvn nv F) (hGv : pvn nv G) (hc : fok c) (hc0 : c.1 ≠ 0) (hm : mok m) (hmv : vin nv m) (hz : zI M 1529 11 = 0) (h1 : ∀ F' M', aadds k c m G F = some F' → rfr (fun x => x = f) FF GN M M' → zI M' 1529 11 = 0 → qdy M' f F' → P M') (h0 : ∀ F' M', aadds k c m G F = none → rfr (fun x => x = f) FF GN M M' → zI M' 1529 11 = 1 → qdy M' f F' → F'.length ≤ 100 → P M') : ycV d nX8_adds [.ref 1529, .int (nI f), .int (Int32.ofInt c.1), .int (Int32.ofInt c.2), .int (e5 m), .int (nI g)] M P := by
  obtain ⟨d, rfl, he⟩ := dS hd
  have hgll := hGk.2.2
  have cg := cl_n (n := g) (by omega)
  have zg : zin (nI g) 372 := zin_n hgl (by omega)
  obtain ⟨⟨c1, c2⟩, c3, c4⟩ := id hc
  -- once it is full
  have stop : ∀ (i : Nat) (F' : aP) (M' : zM) (o7 o8 : Option Value), aadds k c m G F = none → rfr (fun x => x = f) FF GN M M' → zI M' 1529 11 = 1 → qdy M' f F' → F'.length ≤ 100 → wX8_adds d (fun r M2 => r = [] ∧ P M2) 55 [some (.ref 1529), some (.int (nI f)), some (.int (Int32.ofInt c.1)), some (.int (Int32.ofInt c.2)), some (.int (e5 m)), some (.int (nI g)), some (.int (nI i)), o7, o8] [] M' := fun i F' M' o7 o8 hn hfr hone hq hql => by
    have hM' := mst_fr hfr hM
    obtain ⟨s16, ⟨r3, r4, r5, r6, -⟩, ⟨k0, k1, k2, k3⟩, -⟩ := id hM'
    refine sg_X8_adds_55 _ _ _ _ _ _ _ _ _ _ ?_
    intro v6
    exact sg_X8_adds_2 _ _ _ _ _ _ _ _ _ _ ⟨s16, by rw [r6, k3], by rw [r6, k3]; exact zg, fun _ => ⟨rfl, h0 F' M' hn hfr hone hq hql⟩, fun _ => ⟨s16, fun _ => ⟨rfl, h0 F' M' hn hfr hone hq hql⟩, fun z => absurd (Classical.not_not.mp z) (by rw [hone]; decide)⟩⟩
  have loop : ∀ (n i : Nat) (Fi : aP) (M' : zM) (o7 o8 : Option Value), i + n = G.length → rfr (fun x => x = f) FF GN M M' → zI M' 1529 11 = 0 → qdy M' f Fi → pok k Fi → pvn nv Fi → aadds k c m (G.drop i) Fi = aadds k c m G F → wX8_adds d (fun r M2 => r = [] ∧ P M2) 2 [some (.ref 1529), some (.int (nI f)), some (.int (Int32.ofInt c.1)), some (.int (Int32.ofInt c.2)), some (.int (e5 m)), some (.int (nI g)), some (.int (nI i)), o7, o8] [] M' := by
    intro n
    induction n with
    | zero =>
      intro i Fi M' o7 o8 hi hfr hzz hq hqk hqv heq
      have hM' := mst_fr hfr hM
      obtain ⟨s16, ⟨r3, r4, r5, r6, -⟩, ⟨k0, k1, k2, k3⟩, -⟩ := id hM'
      have hG' := qdy_fr hfr (Ne.symm hfg) hgll hG
      rw [List.drop_of_length_le (by omega)] at heq
      have heq : some Fi = aadds k c m G F := heq
      exact sg_X8_adds_2 _ _ _ _ _ _ _ _ _ _ ⟨s16, by rw [r6, k3], by rw [r6, k3]; exact zg, fun _ => ⟨rfl, h1 Fi M' heq.symm hfr hzz hq⟩, fun z => absurd (by rw [r6, cg, hG'.1, show i = G.length by omega]; exact Int32.le_refl _) z⟩
    | succ n ih =>
      intro i Fi M' o7 o8 hi hfr hzz hq hqk hqv heq
      have hM' := mst_fr hfr hM
      have hv' := mvk_fr hfr (by unfold FF; omega) (by unfold FF; omega) hv
      obtain ⟨s16, ⟨r3, r4, r5, r6, -⟩, ⟨k0, k1, k2, k3⟩, -⟩ := id hM'
      have hG' := qdy_fr hfr (Ne.symm hfg) hgll hG
      have hil : i < G.length := by omega
      have hu := List.getElem?_eq_getElem hil
      have hku := hGk.1 _ (List.getElem_mem hil)
      have hvu := hGv _ (List.getElem_mem hil)
      have cx := cl_n (n := 100 * g + i) (by omega)
      have zx : zin (nI (100 * g + i)) 37200 := zin_n (by omega) (by omega)
      rw [List.drop_eq_getElem_cons hil] at heq
      obtain ⟨g0, g1, g2⟩ := hG'.2 i _ hu
      generalize G[i] = u at hu hku hvu heq g0 g1 g2
      refine sg_X8_adds_2 _ _ _ _ _ _ _ _ _ _ ⟨s16, by rw [r6, k3], by rw [r6, k3]; exact zg, fun z => ?_, fun _ => ⟨s16, fun z => absurd hzz z, fun _ => ?_⟩⟩
      · rw [r6, cg, hG'.1] at z
        have := (nI_leI (by omega) (by omega)).mp z
        omega
      · intro v7
        have e7 : v7 = nI (100 * g + i) := ix100 g i
        clear_value v7
        subst e7
        rw [cx]
        refine ⟨s16, by rw [r5, k2], by rw [r5, k2]; exact zx, s16, ?_⟩
        rw [r5, g2]
        refine sp_rprod (by omega) hM' hv' hm hku.2.2 hmv hvu hzz (fun hok M2 hfr2 hz2 => ?_) (fun hno M2 hfr2 hz2 => ?_)
        · have hok' : mok (madd u.2 m) := by rw [madd_cm]; exact hok
          rw [aadds_in hok'] at heq
          have hM2 := mst_fr hfr2 hM'
          have hv2 := mvk_fr hfr2 (by unfold FF; omega) (by unfold FF; omega) hv'
          have hG2 := qdy_fr hfr2 (fun z => z) hgll hG'
          obtain ⟨q16, ⟨p3, p4, p5, p6, -⟩, ⟨w0, w1, w2, w3⟩, -⟩ := id hM2
          obtain ⟨b0, b1, b2⟩ := hG2.2 i u hu
          refine ⟨q16, fun z => absurd hz2 z, fun _ => ⟨q16, by rw [p3, w0], by rw [p3, w0]; exact zx, q16, by rw [p4, w1], by rw [p4, w1]; exact zx, q16, ?_⟩⟩
          rw [p3, p4, b0, b1]
          obtain ⟨⟨u1, u2⟩, u3, u4⟩ := id hku.1
          refine sp_rmul (by omega) hM2 hz2 (tI64 (n := c.1) (by omega)) (tI64 (n := c.2) (by omega)) (tI64 (n := u.1.1) (by omega)) (tI64 (n := u.1.2) (by omega)) (by omega) (by omega) (by omega) (by omega) fun M4 hfr4 hlo4 => ?_
          have hlo4 : rlo M4 (afmul u.1 c) := by
            unfold afmul
            rw [Int.mul_comm u.1.1, Int.mul_comm u.1.2]
            exact hlo4
          have hM4 := mst_fr hfr4 hM2
          have hv4 := mvk_fr hfr4 (by unfold FF; omega) (by unfold FF; omega) hv2
          have hq4 := qdy_fr hfr4 (fun z => z) hqk.2.2 (qdy_fr hfr2 (fun z => z) hqk.2.2 hq)
          have hfa : rfr (fun x => x = f) FF GN M M4 := rfr_tr hfr (rfr_up (rfr_tr hfr2 hfr4) (fun _ z => z.elim) (fun _ z => z) (fun _ z => z))
          cases hs : afmul u.1 c with
          | none =>
            rw [hs] at heq hlo4
            have hlo4 : zI M4 1529 11 = 1 := hlo4
            have heq : none = aadds k c m G F := heq
            exact sg_X8_adds_44 _ _ _ _ _ _ _ _ _ _ ⟨hM4.1, fun _ => stop i Fi M4 _ _ heq.symm hfa hlo4 hq4 hqk.2.2, fun z => absurd (Classical.not_not.mp z) (by rw [hlo4]; decide)⟩
          | some s =>
            rw [hs] at heq hlo4
            dsimp only at heq
            obtain ⟨l1, l2, l3⟩ := hlo4
            have hsk := afmul_ok hku.1 hc hku.2.1 hc0 hs
            have ht : tok (s, madd u.2 m) := ⟨hsk.1, hsk.2, hok'⟩
            refine sg_X8_adds_44 _ _ _ _ _ _ _ _ _ _ ⟨hM4.1, fun z => absurd l1 z, fun _ => ⟨hM4.1, hM4.1, hM4.1, ?_⟩⟩
            rw [l2, l3, madd_cm]
            refine sp_rcomes (t := (s, madd u.2 m)) (by omega) hM4 hv4 hfl hq4 hqk hqv ht (vin_add hvu hmv) l1 (fun L' M5 hL' hfr5 hz5 hq5 => ?_) (fun M5 hn hfr5 hz5 hq5 => ?_)
            · rw [hL'] at heq
              refine sg_X8_adds_55 _ _ _ _ _ _ _ _ _ _ ?_
              intro v6
              rw [show v6 = nI (i + 1) from nI_1 i]
              exact ih (i + 1) L' M5 _ _ (by omega) (rfr_tr hfa hfr5) hz5 hq5 (acome_ok hqk ht hL') (acome_vn hqv (vin_add hvu hmv) hL') heq
            · rw [hn] at heq
              have heq : none = aadds k c m G F := heq
              exact stop i Fi M5 _ _ heq.symm (rfr_tr hfa hfr5) hz5 hq5 hqk.2.2
        · have hno' : ¬ mok (madd u.2 m) := by rw [madd_cm]; exact hno
          rw [aadds_out hno'] at heq
          have hM2 := mst_fr hfr2 hM'
          have hq2 := qdy_fr hfr2 (fun z => z) hqk.2.2 hq
          have hfa : rfr (fun x => x = f) FF GN M M2 := rfr_tr hfr (rfr_up hfr2 (fun _ z => z.elim) (fun _ z => z) (fun _ z => z))
          refine ⟨hM2.1, fun _ => ?_, fun z => absurd (Classical.not_not.mp z) (by rw [hz2]; decide)⟩
          exact sg_X8_adds_44 _ _ _ _ _ _ _ _ _ _ ⟨hM2.1, fun _ => stop i Fi M2 _ _ heq.symm hfa hz2 hq2 hqk.2.2, fun z => absurd (Classical.not_not.mp z) (by rw [hz2]; decide)⟩
  exact en_X8_adds _ _ _ _ _ _ M (sg_X8_adds_0 _ _ _ _ _ _ M (loop G.length 0 F M _ _ (by omega) rfr_rf hz hF hFk hFv rfl))
theorem sp_rmadeF {d f g to : Nat} {M : zM} {P : zM → Prop} (hd : 1 ≤ d) (hM : mst M) (hf : f < 372) (ht : to < 372) (hz : zI M 1529 11 = 1) (h : ∀ M', rfr (fun x => x = to) FF GN M M' → zI M' 1529 11 = 1 → P M') : ycV d nX8_made [.ref 1529, .int (nI f), .int (nI g), .int (nI to)] M P := by
  obtain ⟨d, rfl, he⟩ := dS hd
  obtain ⟨s16, ⟨r3, r4, r5, r6, -⟩, ⟨k0, k1, k2, k3⟩, -⟩ := id hM
  have ct := cl_n (n := to) (by omega)
  refine en_X8_made _ _ _ _ M (sg_X8_made_0 _ _ _ _ M ⟨s16, by rw [r6, k3], by rw [r6, k3]; exact zin_n ht (by omega), ?_⟩)
  intro M1
  have m1 : M1 = zuI M 1533 to 0 := by rw [show M1 = zuI M (zR M 1529 6) (nI to).toNatClampNeg 0 from rfl, r6, ct]
  clear_value M1
  have hfr : rfr (fun x => x = to) FF GN M M1 := by rw [m1]; exact rfr_3 rfl
  have hM1 := mst_fr hfr hM
  have z1 : zI M1 1529 11 = 1 := by rw [m1, zI_uI, if_neg (by omega)]; exact hz
  obtain ⟨q16, ⟨p3, p4, p5, p6, -⟩, ⟨w0, w1, w2, w3⟩, -⟩ := id hM1
  exact sg_X8_made_7 _ _ _ _ _ _ ⟨q16, by rw [p6, w3], by rw [p6, w3]; exact zin_n hf (by omega), fun _ => ⟨rfl, h M1 hfr z1⟩, fun _ => ⟨q16, fun _ => ⟨rfl, h M1 hfr z1⟩, fun z => absurd (Classical.not_not.mp z) (by rw [z1]; decide)⟩⟩
theorem sp_rmade {d nv k f g to : Nat} {M : zM} {F G : aP} {P : zM → Prop} (hd : 6 ≤ d) (hM : mst M) (hv : mvk M nv k) (hfl : f < 372) (hgl : g < 372) (htl : to < 372) (htf : to ≠ f) (htg : to ≠ g) (hF : qdy M f F) (hG : qdy M g G) (hFk : pok k F) (hGk : pok k G) (hFv : pvn nv F) (hGv : pvn nv G) (hz : zI M 1529 11 = 0) (h1 : ∀ F' M', aprod k G F [] = some F' → rfr (fun x => x = to) FF GN M M' → zI M' 1529 11 = 0 → qdy M' to F' → P M') (h0 : ∀ F' M', aprod k G F [] = none → rfr (fun x => x = to) FF GN M M' → zI M' 1529 11 = 1 → qdy M' to F' → F'.length ≤ 100 → P M') : ycV d nX8_made [.ref 1529, .int (nI f), .int (nI g), .int (nI to)] M P := by
  obtain ⟨d, rfl, he⟩ := dS hd
  have hfll := hFk.2.2
  have cf := cl_n (n := f) (by omega)
  have ct := cl_n (n := to) (by omega)
  have zf : zin (nI f) 372 := zin_n hfl (by omega)
  have loop : ∀ (n i : Nat) (T : aP) (M' : zM), i + n = F.length → rfr (fun x => x = to) FF GN M M' → zI M' 1529 11 = 0 → qdy M' to T → pok k T → pvn nv T → aprod k G (F.drop i) T = aprod k G F [] → wX8_made d (fun r M2 => r = [] ∧ P M2) 7 [some (.ref 1529), some (.int (nI f)), some (.int (nI g)), some (.int (nI to)), some (.int (nI i))] [] M' := by
    intro n
    induction n with
    | zero =>
      intro i T M' hi hfr hzz hq hqk hqv heq
      have hM' := mst_fr hfr hM
      obtain ⟨s16, ⟨r3, r4, r5, r6, -⟩, ⟨k0, k1, k2, k3⟩, -⟩ := id hM'
      have hF' := qdy_fr hfr (Ne.symm htf) hfll hF
      rw [List.drop_of_length_le (by omega)] at heq
      have heq : some T = aprod k G F [] := heq
      exact sg_X8_made_7 _ _ _ _ _ _ ⟨s16, by rw [r6, k3], by rw [r6, k3]; exact zf, fun _ => ⟨rfl, h1 T M' heq.symm hfr hzz hq⟩, fun z => absurd (by rw [r6, cf, hF'.1, show i = F.length by omega]; exact Int32.le_refl _) z⟩
    | succ n ih =>
      intro i T M' hi hfr hzz hq hqk hqv heq
      have hM' := mst_fr hfr hM
      have hv' := mvk_fr hfr (by unfold FF; omega) (by unfold FF; omega) hv
      obtain ⟨s16, ⟨r3, r4, r5, r6, -⟩, ⟨k0, k1, k2, k3⟩, -⟩ := id hM'
      have hF' := qdy_fr hfr (Ne.symm htf) hfll hF
      have hG' := qdy_fr hfr (Ne.symm htg) hGk.2.2 hG
      have hil : i < F.length := by omega
      have hu := List.getElem?_eq_getElem hil
      have hku := hFk.1 _ (List.getElem_mem hil)
      have hvu := hFv _ (List.getElem_mem hil)
      have cx := cl_n (n := 100 * f + i) (by omega)
      have zx : zin (nI (100 * f + i)) 37200 := zin_n (by omega) (by omega)
      rw [List.drop_eq_getElem_cons hil, aprod_cons] at heq
      obtain ⟨g0, g1, g2⟩ := hF'.2 i _ hu
      generalize F[i] = u at hu hku hvu heq g0 g1 g2
      refine sg_X8_made_7 _ _ _ _ _ _ ⟨s16, by rw [r6, k3], by rw [r6, k3]; exact zf, fun z => ?_, fun _ => ⟨s16, fun z => absurd hzz z, fun _ => ?_⟩⟩
      · rw [r6, cf, hF'.1] at z
        have := (nI_leI (by omega) (by omega)).mp z
        omega
      · rw [ix100, cx]
        refine ⟨s16, by rw [r3, k0], by rw [r3, k0]; exact zx, s16, by rw [r4, k1], by rw [r4, k1]; exact zx, s16, by rw [r5, k2], by rw [r5, k2]; exact zx, s16, ?_⟩
        rw [r3, r4, r5, g0, g1, g2]
        refine sp_radds (by omega) hM' hv' htl hgl htg hq hG' hqk hGk hqv hGv hku.1 hku.2.1 hku.2.2 hvu hzz (fun T' M2 hT hfr2 hz2 hq2 => ?_) (fun T' M2 hn hfr2 hz2 hq2 hql2 => ?_)
        · rw [hT] at heq
          intro v4
          rw [show v4 = nI (i + 1) from nI_1 i]
          exact ih (i + 1) T' M2 (by omega) (rfr_tr hfr hfr2) hz2 hq2 (aadds_ok hku.1 hku.2.1 hGk.1 hqk hT) (aadds_vn hvu hGv hqv hT) heq
        · rw [hn] at heq
          have heq : none = aprod k G F [] := heq
          have hfa := rfr_tr hfr hfr2
          have hM2 := mst_fr hfa hM
          obtain ⟨q16, ⟨p3, p4, p5, p6, -⟩, ⟨w0, w1, w2, w3⟩, -⟩ := id hM2
          intro v4
          exact sg_X8_made_7 _ _ _ _ _ _ ⟨q16, by rw [p6, w3], by rw [p6, w3]; exact zf, fun _ => ⟨rfl, h0 T' M2 heq.symm hfa hz2 hq2 hql2⟩, fun _ => ⟨q16, fun _ => ⟨rfl, h0 T' M2 heq.symm hfa hz2 hq2 hql2⟩, fun z => absurd (Classical.not_not.mp z) (by rw [hz2]; decide)⟩⟩
  obtain ⟨s16, ⟨r3, r4, r5, r6, -⟩, ⟨k0, k1, k2, k3⟩, -⟩ := id hM
  refine en_X8_made _ _ _ _ M (sg_X8_made_0 _ _ _ _ M ⟨s16, by rw [r6, k3], by rw [r6, k3]; exact zin_n htl (by omega), ?_⟩)
  intro M1
  have m1 : M1 = zuI M 1533 to 0 := by rw [show M1 = zuI M (zR M 1529 6) (nI to).toNatClampNeg 0 from rfl, r6, ct]
  clear_value M1
  refine loop F.length 0 [] M1 (by omega) (by rw [m1]; exact rfr_3 rfl) (by rw [m1, zI_uI, if_neg (by omega)]; exact hz) ⟨by rw [m1, zI_uI, if_pos ⟨rfl, rfl⟩]; rfl, fun j t hj => by cases hj⟩ pok_nil pvn_nil rfl
theorem sp_rsame {d k p q : Nat} {M : zM} {L L2 : aP} {P : Int32 → zM → Prop} (hd : 1 ≤ d) (hM : mst M) (hp : p < 372) (hq : q < 372) (hL : qdy M p L) (hL2 : qdy M q L2) (hk : pok k L) (hk2 : pok k L2) (h1 : L = L2 → P 1 M) (h0 : L ≠ L2 → P 0 M) : ycI d nX8_isSame [.ref 1529, .int (nI p), .int (nI q)] M P := by
  obtain ⟨d, rfl, he⟩ := dS hd
  obtain ⟨s16, ⟨r3, r4, r5, r6, -⟩, ⟨k0, k1, k2, k3⟩, -⟩ := id hM
  have hl := hk.2.2
  have hl2 := hk2.2.2
  have cp := cl_n (n := p) (by omega)
  have cq := cl_n (n := q) (by omega)
  have zp : zin (nI p) 372 := zin_n hp (by omega)
  have zq : zin (nI q) 372 := zin_n hq (by omega)
  have loop : ∀ (n i : Nat), i + n = L.length → L.length = L2.length → (∀ j, j < i → L[j]? = L2[j]?) → wX8_isSame d (fun r M2 => ∃ x : Int32, r = [.int x] ∧ P x M2) 13 [some (.ref 1529), some (.int (nI p)), some (.int (nI q)), some (.int (nI i))] [] M := by
    intro n
    induction n with
    | zero =>
      intro i hi hll heq
      refine sg_X8_isSame_13 _ _ _ _ _ ⟨s16, by rw [r6, k3], by rw [r6, k3]; exact zp, fun _ => ⟨Or.inr rfl, _, rfl, h1 (List.ext_getElem? fun j => ?_)⟩, fun z => absurd (by rw [r6, cp, hL.1, show i = L.length by omega]; exact Int32.le_refl _) z⟩
      by_cases hj : j < i
      · exact heq j hj
      · rw [List.getElem?_eq_none (by omega), List.getElem?_eq_none (by omega)]
    | succ n ih =>
      intro i hi hll heq
      have hil : i < L.length := by omega
      have hu := List.getElem?_eq_getElem hil
      have hw := List.getElem?_eq_getElem (show i < L2.length by omega)
      obtain ⟨a0, a1, a2⟩ := hL.2 i _ hu
      obtain ⟨b0, b1, b2⟩ := hL2.2 i _ hw
      have hku := hk.1 _ (List.getElem_mem hil)
      have hkw := hk2.1 _ (List.getElem_mem (show i < L2.length by omega))
      have cx := cl_n (n := 100 * p + i) (by omega)
      have cy := cl_n (n := 100 * q + i) (by omega)
      have zx : zin (nI (100 * p + i)) 37200 := zin_n (by omega) (by omega)
      have zy : zin (nI (100 * q + i)) 37200 := zin_n (by omega) (by omega)
      have no : L[i] ≠ L2[i] → P 0 M := fun hne => h0 fun e => hne (by
        have : L[i]? = L2[i]? := by rw [e]
        rw [hu, hw] at this
        exact Option.some.inj this)
      refine sg_X8_isSame_13 _ _ _ _ _ ⟨s16, by rw [r6, k3], by rw [r6, k3]; exact zp, fun z => ?_, fun _ => ?_⟩
      · rw [r6, cp, hL.1] at z
        have := (nI_leI (by omega) (by omega)).mp z
        omega
      · rw [ix100, ix100, cx, cy]
        refine ⟨s16, by rw [r3, k0], by rw [r3, k0]; exact zx, s16, by rw [r3, k0], by rw [r3, k0]; exact zy, ?_⟩
        rw [r3, a0, b0]
        refine ⟨fun c => ⟨Or.inl rfl, _, rfl, no fun e => c (by rw [e])⟩, fun c => ⟨s16, by rw [r4, k1], by rw [r4, k1]; exact zx, s16, by rw [r4, k1], by rw [r4, k1]; exact zy, ?_⟩⟩
        rw [r4, a1, b1]
        refine ⟨fun c1 => ⟨Or.inl rfl, _, rfl, no fun e => c1 (by rw [e])⟩, fun c1 => ⟨s16, by rw [r5, k2], by rw [r5, k2]; exact zx, s16, by rw [r5, k2], by rw [r5, k2]; exact zy, ?_⟩⟩
        rw [r5, a2, b2]
        refine ⟨fun c2 => ?_, fun c2 => ⟨Or.inl rfl, _, rfl, no fun e => c2 (by rw [e])⟩⟩
        have e0 := congrArg Int32.toInt (Classical.not_not.mp c)
        have e1 := congrArg Int32.toInt (Classical.not_not.mp c1)
        have f1 := hku.1
        have f2 := hkw.1
        unfold fok at f1 f2
        rw [tI_of (by omega), tI_of (by omega)] at e0 e1
        have e2 := e5_inj hku.2.2 hkw.2.2 c2
        intro v3
        rw [show v3 = nI (i + 1) from nI_1 i]
        refine ih (i + 1) (by omega) hll fun j hj => ?_
        by_cases hji : j = i
        · subst hji
          rw [hu, hw]
          exact congrArg some (Prod.ext (Prod.ext e0 e1) e2)
        · exact heq j (by omega)
  refine en_X8_isSame _ _ _ M (sg_X8_isSame_0 _ _ _ M ⟨s16, by rw [r6, k3], by rw [r6, k3]; exact zp, s16, by rw [r6, k3], by rw [r6, k3]; exact zq, ?_⟩)
  rw [r6, cp, cq, hL.1, hL2.1]
  refine ⟨fun c => loop L.length 0 (by omega) ((nI_eq (by omega) (by omega)).mp c) fun j hj => absurd hj (Nat.not_lt_zero _), fun c => ⟨Or.inl rfl, _, rfl, h0 fun e => c (by rw [e])⟩⟩
theorem sp_rscaled {d k p : Nat} {M : zM} {L : aP} {c : aF} {P : zM → Prop} (hd : 3 ≤ d) (hM : mst M) (hp : p < 372) (hL : qdy M p L) (hk : pok k L) (hc : fok c) (hz : zI M 1529 11 = 0) (h1 : ∀ L' M', ascal c L = some L' → rfr (fun x => x = p) FF GN M M' → zI M' 1529 11 = 0 → qdy M' p L' → P M') (h0 : ∀ M', ascal c L = none → rfr (fun x => x = p) FF GN M M' → zI M' 1529 11 = 1 → P M') : ycV d nX8_scaled [.ref 1529, .int (nI p), .int (Int32.ofInt c.1), .int (Int32.ofInt c.2)] M P := by
  obtain ⟨d, rfl, he⟩ := dS hd
  have hl := hk.2.2
  have cp := cl_n (n := p) (by omega)
  have zp : zin (nI p) 372 := zin_n hp (by omega)
  obtain ⟨⟨c1, c2⟩, c3, c4⟩ := id hc
  have loop : ∀ (n i : Nat) (pre : aP) (M' : zM), i + n = L.length → pre.length = i → rfr (fun x => x = p) FF GN M M' → zI M' 1529 11 = 0 → qdy M' p (pre ++ L.drop i) → (ascal c (L.drop i)).map (fun x => pre ++ x) = ascal c L → wX8_scaled d (fun r M2 => r = [] ∧ P M2) 2 [some (.ref 1529), some (.int (nI p)), some (.int (Int32.ofInt c.1)), some (.int (Int32.ofInt c.2)), some (.int (nI i))] [] M' := by
    intro n
    induction n with
    | zero =>
      intro i pre M' hi hpl hfr hzz hq heq
      have hM' := mst_fr hfr hM
      obtain ⟨s16, ⟨r3, r4, r5, r6, -⟩, ⟨k0, k1, k2, k3⟩, -⟩ := id hM'
      rw [List.drop_of_length_le (by omega)] at heq hq
      have heq : some (pre ++ []) = ascal c L := heq
      rw [List.append_nil] at heq hq
      exact sg_X8_scaled_2 _ _ _ _ _ _ ⟨s16, by rw [r6, k3], by rw [r6, k3]; exact zp, fun _ => ⟨rfl, h1 pre M' heq.symm hfr hzz hq⟩, fun z => absurd (by rw [r6, cp, hq.1, show i = pre.length by omega]; exact Int32.le_refl _) z⟩
    | succ n ih =>
      intro i pre M' hi hpl hfr hzz hq heq
      have hM' := mst_fr hfr hM
      obtain ⟨s16, ⟨r3, r4, r5, r6, -⟩, ⟨k0, k1, k2, k3⟩, -⟩ := id hM'
      have hil : i < L.length := by omega
      have hku := hk.1 _ (List.getElem_mem hil)
      have hlen : (pre ++ L.drop i).length = L.length := by rw [List.length_append, List.length_drop]; omega
      rw [List.drop_eq_getElem_cons hil, ascal_cons] at heq
      have hu : (pre ++ L.drop i)[i]? = some L[i] := by
        rw [List.getElem?_append_right (by omega), hpl, Nat.sub_self, List.drop_eq_getElem_cons hil]
        rfl
      obtain ⟨g0, g1, g2⟩ := hq.2 i _ hu
      have cx := cl_n (n := 100 * p + i) (by omega)
      have zx : zin (nI (100 * p + i)) 37200 := zin_n (by omega) (by omega)
      have hdrop : L.drop i = L[i] :: L.drop (i + 1) := List.drop_eq_getElem_cons hil
      generalize L[i] = u at hku heq hu g0 g1 g2 hdrop
      refine sg_X8_scaled_2 _ _ _ _ _ _ ⟨s16, by rw [r6, k3], by rw [r6, k3]; exact zp, fun z => ?_, fun _ => ⟨s16, fun z => absurd hzz z, fun _ => ?_⟩⟩
      · rw [r6, cp, hq.1, hlen] at z
        have := (nI_leI (by omega) (by omega)).mp z
        omega
      · rw [ix100, cx]
        refine ⟨s16, by rw [r3, k0], by rw [r3, k0]; exact zx, s16, by rw [r4, k1], by rw [r4, k1]; exact zx, s16, ?_⟩
        rw [r3, r4, g0, g1]
        obtain ⟨⟨u1, u2⟩, u3, u4⟩ := id hku.1
        refine sp_rmul (by omega) hM' hzz (tI64 (n := u.1.1) (by omega)) (tI64 (n := u.1.2) (by omega)) (tI64 (n := c.1) (by omega)) (tI64 (n := c.2) (by omega)) (by omega) (by omega) (by omega) (by omega) fun M1 hfr1 hlo1 => ?_
        have hlo1 : rlo M1 (afmul u.1 c) := hlo1
        have hM1 := mst_fr hfr1 hM'
        have hq1 := qdy_fr hfr1 (fun z => z) (by rw [hlen]; exact hl) hq
        obtain ⟨q16, ⟨p3, p4, p5, p6, -⟩, ⟨w0, w1, w2, w3⟩, -⟩ := id hM1
        refine ⟨q16, q16, by rw [p3, w0], by rw [p3, w0]; exact zx, ?_⟩
        intro M2
        refine ⟨q16, q16, by rw [p4, w1], by rw [p4, w1]; exact zx, ?_⟩
        intro M3 v4
        have m2 : M2 = zuI M1 1530 (100 * p + i) (zI M1 1529 16) := by rw [show M2 = zuI M1 (zR M1 1529 3) (100 * p + i) (zI M1 1529 16) from rfl, p3]
        have m3 : M3 = zuI M2 1531 (100 * p + i) (zI M1 1529 17) := by rw [show M3 = zuI M2 (zR M1 1529 4) (100 * p + i) (zI M2 1529 17) from rfl, p4, m2, zI_uI, if_neg (by omega)]
        clear_value M2 M3
        rw [show v4 = nI (i + 1) from nI_1 i]
        have e : (100 * p + i) / 100 = p := by omega
        have hfr3 : rfr (fun x => x = p) FF GN M M3 := rfr_tr hfr (rfr_tr (rfr_up hfr1 (fun _ z => z.elim) (fun _ z => z) (fun _ z => z)) (by rw [m3, m2]; exact rfr_tr (rfr_0 e) (rfr_1 e)))
        have f3 : ∀ a j, a < 1530 ∨ 1531 < a → zI M3 a j = zI M1 a j := fun a j ha => by
          rw [m3, zI_uI, if_neg (by omega), m2, zI_uI, if_neg (by omega)]
        cases hs : afmul u.1 c with
        | none =>
          rw [hs] at heq hlo1
          have hlo1 : zI M1 1529 11 = 1 := hlo1
          have heq : none = ascal c L := heq
          have z3 : zI M3 1529 11 = 1 := by rw [f3 _ _ (by omega)]; exact hlo1
          have hM3 := mst_fr hfr3 hM
          obtain ⟨q16, ⟨p3, p4, p5, p6, -⟩, ⟨w0, w1, w2, w3⟩, -⟩ := id hM3
          exact sg_X8_scaled_2 _ _ _ _ _ _ ⟨q16, by rw [p6, w3], by rw [p6, w3]; exact zp, fun _ => ⟨rfl, h0 M3 heq.symm hfr3 z3⟩, fun _ => ⟨q16, fun _ => ⟨rfl, h0 M3 heq.symm hfr3 z3⟩, fun z => absurd (Classical.not_not.mp z) (by rw [z3]; decide)⟩⟩
        | some s =>
          rw [hs] at heq hlo1
          obtain ⟨l1, l2, l3⟩ := hlo1
          refine ih (i + 1) (pre ++ [(s, u.2)]) M3 (by omega) (by rw [List.length_append, hpl]; rfl) hfr3 (by rw [f3 _ _ (by omega)]; exact l1) ?_ ?_
          · obtain ⟨hs1, hc1⟩ := qdy_c.mp hq1
            refine qdy_c.mpr ⟨?_, fun j v hj => ?_⟩
            · rw [f3 _ _ (by omega), hs1, hlen, List.length_append, List.length_append, List.length_drop, hpl]
              congr 1
              show L.length = i + 1 + (L.length - (i + 1))
              omega
            · have c3 : cel M3 (100 * p + j) = if j = i then (Int32.ofInt s.1, Int32.ofInt s.2, zI M1 1532 (100 * p + j)) else cel M1 (100 * p + j) := by
                unfold cel
                rw [f3 1532 _ (by omega), m3, zI_uI, if_neg (show ¬ (1530 = 1531 ∧ 100 * p + j = 100 * p + i) by omega), zI_uI, m2, zI_uI, zI_uI, if_neg (show ¬ (1531 = 1530 ∧ 100 * p + j = 100 * p + i) by omega), l2, l3]
                by_cases hx : j = i
                · rw [if_pos ⟨rfl, by omega⟩, if_pos ⟨rfl, by omega⟩, if_pos hx]
                · rw [if_neg (by omega), if_neg (by omega), if_neg hx]
              rw [c3]
              by_cases hji : j = i
              · subst hji
                rw [List.append_assoc, List.getElem?_append_right (by omega), hpl, Nat.sub_self] at hj
                have hj : some (s, u.2) = some v := hj
                cases hj
                rw [if_pos rfl]
                have := hc1 j u hu
                have e2 : zI M1 1532 (100 * p + j) = e5 u.2 := congrArg (fun x => x.2.2) this
                rw [e2]
                rfl
              · rw [if_neg hji]
                refine hc1 j v ?_
                rw [← hj]
                by_cases hjl : j < i
                · rw [List.append_assoc, List.getElem?_append_left (by omega), List.getElem?_append_left (by omega)]
                · rw [List.getElem?_append_right (by omega), List.getElem?_append_right (by rw [List.length_append, hpl]; simp; omega), List.getElem?_drop, List.getElem?_drop, List.length_append, hpl]
                  congr 1
                  simp
                  omega
          · rw [← heq]
            cases ascal c (L.drop (i + 1)) with
            | none => rfl
            | some l => simp
  refine en_X8_scaled _ _ _ _ M (sg_X8_scaled_0 _ _ _ _ M (loop L.length 0 [] M (by omega) rfl rfr_rf hz (by simpa using hL) ?_))
  rw [List.drop_zero]
  cases ascal c L <;> rfl
theorem sp_rcof {d e g : Nat} {M : zM} {P : Int32 → zM → Prop} (hd : 1 ≤ d) (h : P (nI (170 + 8 * e + g)) M) : ycI d nX8_cofactor [.ref 1529, .int (nI e), .int (nI g)] M P := by
  obtain ⟨d, rfl, he⟩ := dS hd
  refine en_X8_cofactor _ _ _ M (sg_X8_cofactor_0 _ _ _ M ⟨_, rfl, ?_⟩)
  rw [show (8 : Int32) = nI 8 from rfl, show (170 : Int32) = nI 170 from rfl, pk_mul, nI_add, nI_add]
  exact h
