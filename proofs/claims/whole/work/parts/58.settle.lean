/-! a pair is settled, in the class -/
theorem adiv_le {k : Nat} {bs : List aP} {lo : Option Nat} : ∀ (n : Nat) (f r : aP) (qs : List aP), (adiv k bs lo n f r qs).2.1 ≤ n
  | 0, [], r, qs => Nat.le_refl _
  | 0, _ :: _, r, qs => Nat.le_refl _
  | n + 1, [], r, qs => Nat.le_refl _
  | n + 1, t :: f, r, qs => by
    rw [adiv_step]
    split
    · split
      · exact Nat.le_succ n
      · exact Nat.le_succ_of_le (adiv_le n _ _ _)
    · split
      · exact Nat.le_succ n
      · split
        · exact Nat.le_succ n
        · exact Nat.le_succ_of_le (adiv_le n _ _ _)
theorem ecode_0 {c : Nat} : ecode c = 0 ↔ c = 0 := by
  match c with
  | 0 => exact ⟨fun _ => rfl, fun _ => rfl⟩
  | 1 => exact ⟨fun h => absurd h (by decide), fun h => absurd h (by decide)⟩
  | c + 2 => exact ⟨fun h => absurd h (by show ¬ (-7 : Int32) = 0; decide), fun h => absurd h (by omega)⟩
theorem sp_settle {d H D o w k sh l r st lim : Nat} {M : zM} {eid : Nat → Nat} {es : List aE} {W : Nat → Nat → Bool} {P : Int32 → zM → Prop} (hd : 6 ≤ d) (hI : ist M H o w eid) (hD : dst M D o) (ho : ost M o k) (hsh : sh ≤ w) (hHD : H + 153 + 100 * w ≤ D ∨ D + 106 ≤ H) (hoD : o < D) (hc : icn M H sh es.length) (hE : iel M eid k es) (hk : iok k sh es) (hW : iwt M H w k es W) (hL : zI M H 8 = nI l) (hR : zI M H 9 = nI r) (hlr : l < r) (hr : r < es.length) (hst : zI M D 3 = nI st) (hlim : zI M D 4 = nI lim) (hsl : st ≤ lim) (hl2 : lim ≤ 20000)
    (h : ∀ x, asettle k sh es W (lim - st) l r = x → ∀ M', zfr (fun a => inI H w a ∨ inD D a) M M' → zI M' H 4 = zI M H 4 + 1 → zI M' H 5 = zI M H 5 + nI x.2.2.2.2 → zI M' D 4 = nI lim → zI M' D 3 = nI (lim - x.2.2.2.1) → icn M' H sh x.2.1.length → (x.1 = 0 → x.2.2.2.1 ≤ lim ∧ iel M' eid k x.2.1 ∧ iok k sh x.2.1 ∧ iwt M' H w k x.2.1 x.2.2.1) → P (ecode x.1) M') : ycI d nX3_settlePair [.ref H, .ref D] M P := by
  obtain ⟨d, rfl, he⟩ := dS hd
  have hl := hc.2.2
  have hw8 := hI.2.2.2.2
  have hoH := hI.2.2.2.1
  have s := hI.1.1
  have hr1 := hI.1.2.2.1
  have hr7 := hI.1.2.2.2.1
  have ix : zI M H 9 * 24 + zI M H 8 = nI (24 * r + l) := by
    rw [hR, hL, show (24 : Int32) = nI 24 from rfl, pk_mul, nI_add, Nat.mul_comm]
  have cx := cl_n (n := 24 * r + l) (by omega)
  have cl := cl_n (n := l) (by omega)
  have cr := cl_n (n := r) (by omega)
  have cn := cl_n (n := es.length) (by omega)
  have bn := hI.2.2.1.1 es.length (by omega)
  refine en_X3_settlePair _ _ M (sg_X3_settlePair_0 _ _ M ⟨s, s, s, by rw [hr7, hI.1.2.2.2.2], by rw [hr7, ix, hI.1.2.2.2.2]; exact zin_n (by omega) (by omega), ?_⟩)
  intro M1
  refine ⟨s, s, ?_⟩
  intro M2
  have e1 : M1 = zuI M (H + 152 + 100 * w) (24 * r + l) (-1) := by rw [show M1 = zuI M (zR M H 7) (zI M H 9 * 24 + zI M H 8).toNatClampNeg (-1) from rfl, hr7, ix, cx]
  have e2 : M2 = zuI M1 H 4 (zI M1 H 4 + 1) := rfl
  clear_value M2 M1
  subst e2
  generalize hM2 : zuI M1 H 4 (zI M1 H 4 + 1) = M2
  have hf1 : ∀ j, zI M1 H j = zI M H j := fun j => by rw [e1, zI_uI, if_neg (by omega)]
  have hf4 : zI M2 H 4 = zI M H 4 + 1 := by rw [← hM2, zI_uI, if_pos ⟨rfl, rfl⟩, hf1]
  have hf2 : ∀ j, j ≠ 4 → zI M2 H j = zI M H j := fun j hj => by rw [← hM2, zI_uI, if_neg (by omega), hf1]
  have hfr2 : zfr (fun a => a = H ∨ a = H + 152 + 100 * w) M M2 := zfr_tr (M2 := M1) (by rw [e1]; exact zfr_uI (Or.inr rfl)) (by rw [← hM2]; exact zfr_uI (Or.inl rfl))
  have hI2 := ist_fr hfr2 hI
  have hD2 := dst_fr hfr2 hD
  have ho2 := ost_fr hfr2 (by omega) ho
  have hc2 : icn M2 H sh es.length := ⟨by rw [hf2 2 (by omega)]; exact hc.1, by rw [hf2 10 (by omega)]; exact hc.2.1, hl⟩
  have hE2 : iel M2 eid k es := iel_fr hfr2 hI hk hsh hl (fun i hi a ha => by
    have := hI.2.2.1.1 i (by omega)
    unfold inE at ha
    omega) hE
  have hW2 : iwt M2 H w k es (woff W l r) := fun i j hij hj => by
    rw [← hM2, zI_uI, if_neg (by omega), e1, zI_uI]
    by_cases hz : i = l ∧ j = r
    · rw [if_pos ⟨rfl, by omega⟩, show woff W l r i j = false from if_pos hz]
      rfl
    · rw [if_neg (by omega), hW i j hij hj, show woff W l r i j = W i j from if_neg hz]
  have hL2 : zI M2 H 8 = nI l := by rw [hf2 8 (by omega)]; exact hL
  have hR2 : zI M2 H 9 = nI r := by rw [hf2 9 (by omega)]; exact hR
  have hD32 : zI M2 D 3 = nI st := by rw [(hfr2.2.2.2.2 D (by omega)).1]; exact hst
  have hD42 : zI M2 D 4 = nI lim := by rw [(hfr2.2.2.2.2 D (by omega)).1]; exact hlim
  have hRl := hI2.2.1.2 l (by omega)
  have hRr := hI2.2.1.2 r (by omega)
  have s2 := hI2.1.1
  have hr12 := hI2.1.2.2.1
  -- what stays
  have keep : ∀ M', zfr (fun a => inE w (eid es.length) a ∨ inD D a) M2 M' → icn M' H sh es.length ∧ iel M' eid k es ∧ iwt M' H w k es (woff W l r) ∧ zI M' H 4 = zI M H 4 + 1 ∧ zI M' H 5 = zI M H 5 ∧ zfr (fun a => inI H w a ∨ inD D a) M M' := fun M' hf => by
    have hH := hf.2.2.2.2 H (by unfold inE inD; omega)
    refine ⟨icn_fr hf (by unfold inE inD; omega) hc2, iel_fr hf hI2 hk hsh hl (fun i hi a ha => ?_) hE2, iwt_fr hf (by unfold inE inD; omega) hW2, by rw [hH.1]; exact hf4, by rw [hH.1]; exact hf2 5 (by omega), zfr_tr (zfr_up hfr2 fun a ha => Or.inl (by unfold inI; omega)) (zfr_up hf fun a ha => ?_)⟩
    · have := hI.2.2.1.1 i (by omega)
      have := hI.2.2.1.2 i es.length (by omega) (by omega) (by omega)
      unfold inE at ha
      unfold inE inD
      omega
    · unfold inE inD at ha
      unfold inI inD
      omega
  rw [show zsh M = zsh M2 from funext fun a => (hfr2.1 a).symm]
  refine ⟨s2, s2, ?_⟩
  have eR : ∀ a j, zR M a j = zR M2 a j := fun a j => (hfr2.2.2.2.1 a j).symm
  rw [eR H 1, eR (zR M2 H 1) (zI M2 H 8).toNatClampNeg, hr12, hL2, cl, hRl.1]
  refine ⟨by rw [hI2.2.1.1], by rw [hI2.2.1.1]; exact zin_n (by omega) (by omega), hRl.2.1, sp_ld (by omega) hI2 hE2 hk (by omega) (by omega) ⟨s2, s2, by rw [hr12, hI2.2.1.1], by rw [hr12, hI2.2.1.1, hR2]; exact zin_n (by omega) (by omega), by rw [hr12, hR2, cr, hRr.1]; exact hRr.2.1, ?_⟩⟩
  rw [hr12, hR2, cr, hRr.1]
  refine sp_ld (by omega) hI2 hE2 hk (by omega) hr (sp_leastCommon (by omega) (iok_mok hk _) (iok_mok hk _) ⟨s2, ?_⟩)
  refine sp_isNeedless (by omega) hI2 hc2 hE2 hk hW2 hL2 hR2 hlr hr (fun hn => ⟨fun z => absurd z (by decide), fun _ => ⟨s2, s2, ?_⟩⟩) (fun hn => ⟨fun _ => ⟨s2, hD2.1, ?_⟩, fun z => absurd rfl z⟩)
  · -- passed over
    intro M3
    refine ⟨_, rfl, ?_⟩
    have hfr3 : zfr (fun a => a = H) M2 M3 := zfr_uI rfl
    have g5 : ∀ j, j ≠ 5 → zI M3 H j = zI M2 H j := fun j hj => by rw [show M3 = zuI M2 H 5 (zI M2 H 5 + 1) from rfl, zI_uI, if_neg (by omega)]
    refine h (0, es, woff W l r, lim - st, 1) (by unfold asettle; rw [if_pos hn]) M3 (zfr_tr (zfr_up hfr2 fun a ha => Or.inl (by unfold inI; omega)) (zfr_up hfr3 fun a ha => Or.inl (by unfold inI; omega))) (by rw [g5 4 (by omega)]; exact hf4) (by rw [show M3 = zuI M2 H 5 (zI M2 H 5 + 1) from rfl, zI_uI, if_pos ⟨rfl, rfl⟩, hf2 5 (by omega)]; rfl) (by rw [(hfr3.2.2.2.2 D (by omega)).1]; exact hD42) (by rw [(hfr3.2.2.2.2 D (by omega)).1, hD32]; congr 1; show st = lim - (lim - st); omega) ⟨by rw [g5 2 (by omega)]; exact hc2.1, by rw [g5 10 (by omega)]; exact hc2.2.1, hl⟩ fun _ => ⟨by show lim - st ≤ lim; omega, ?_, hk, iwt_fr hfr3 (by omega) hW2⟩
    exact iel_fr hfr3 hI2 hk hsh hl (fun i hi a ha => by
      have := hI.2.2.1.1 i (Nat.lt_of_lt_of_le (show i < es.length from hi) (by omega))
      unfold inE at ha
      omega) hE2
  · -- divided
    have hA : asettle k sh es W (lim - st) l r = (match aspol k (es.getD l aE0) (es.getD r aE0) (es.getD l aE0).1 (es.getD r aE0).1 with
      | none => (2, es, woff W l r, lim - st, 0)
      | some f => match omp (fun kk => aspol k (es.getD l aE0) (es.getD r aE0) (acof es l kk) (acof es r kk)) sh with
        | none => (2, es, woff W l r, lim - st, 0)
        | some cs => if (adiv k (es.map Prod.fst) none (lim - st) f [] (List.replicate es.length [])).1 = 0 then
            (if (adiv k (es.map Prod.fst) none (lim - st) f [] (List.replicate es.length [])).2.2.1.length = 0 then (0, es, woff W l r, (adiv k (es.map Prod.fst) none (lim - st) f [] (List.replicate es.length [])).2.1, 0) else
              match anew k sh es (adiv k (es.map Prod.fst) none (lim - st) f [] (List.replicate es.length [])).2.2.2 (adiv k (es.map Prod.fst) none (lim - st) f [] (List.replicate es.length [])).2.2.1 cs with
              | none => (2, es, woff W l r, (adiv k (es.map Prod.fst) none (lim - st) f [] (List.replicate es.length [])).2.1, 0)
              | some E => (0, es ++ [E], won (woff W l r) es.length, (adiv k (es.map Prod.fst) none (lim - st) f [] (List.replicate es.length [])).2.1, 0))
          else ((adiv k (es.map Prod.fst) none (lim - st) f [] (List.replicate es.length [])).1, es, woff W l r, (adiv k (es.map Prod.fst) none (lim - st) f [] (List.replicate es.length [])).2.1, 0)) := by
      unfold asettle
      rw [if_neg (by rw [hn]; decide)]
      rfl
    rw [hc2.1]
    refine sp_makeReady (k := k) (by omega) hD2 (by omega) fun M3 hfr3 hdd3 => ?_
    have hfr3' : zfr (fun a => inE w (eid es.length) a ∨ inD D a) M2 M3 := zfr_up hfr3 fun a ha => Or.inr (by unfold inD1 at ha; unfold inD; omega)
    obtain ⟨c3, E3, W3, -, -, -⟩ := keep M3 hfr3'
    have hI3 := ist_fr hfr3 hI2
    have hD3 := dst_fr hfr3 hD2
    have ho3 := ost_fr hfr3 (by unfold inD1; omega) ho2
    have dd : ∀ j, zI M3 D j = zI M2 D j := (hfr3.2.2.2.2 D (by unfold inD1; omega)).1
    refine ⟨hD3.1, hI3.1.1, ?_⟩
    rw [hD3.2.1]
    refine sp_crossOut (by omega) hI3 ho3 hsh c3 E3 hk (by rw [(hfr3.2.2.2.2 H (by unfold inD1; omega)).1]; exact hL2) (by rw [(hfr3.2.2.2.2 H (by unfold inD1; omega)).1]; exact hR2) hlr hr hD3.2.2.2.2.2.2.1 (by unfold inP; omega) (by omega) hdd3.1 (fun f cs M4 hf hcs hfr4 hpd4 hpk4 hcc4 => ⟨fun _ => ?_, fun z => absurd (Classical.not_not.mp z) (by decide)⟩) (fun M4 hn4 hfr4 => ⟨fun z => absurd rfl z, fun _ => ⟨_, rfl, ?_⟩⟩)
    · rw [hf, hcs] at hA
      dsimp only at hA
      have hfr4' : zfr (fun a => inE w (eid es.length) a ∨ inD D a) M2 M4 := zfr_tr hfr3' (zfr_up hfr4 fun a ha => by unfold inP inC at ha; unfold inE inD; omega)
      obtain ⟨c4, E4, W4, -, -, -⟩ := keep M4 hfr4'
      have hI4 := ist_fr hfr4 hI3
      have hD4 := dst_fr hfr4 hD3
      have ho4 := ost_fr hfr4 (by unfold inP inC; omega) ho3
      have dd4 : ∀ j, zI M4 D j = zI M2 D j := fun j => by rw [(hfr4.2.2.2.2 D (by unfold inP inC; omega)).1, dd]
      refine ⟨hI4.1.1, hI4.1.1, hD4.1, ?_⟩
      rw [hI4.1.2.2.1, c4.1]
      have hb4 : ∀ (i : Nat) (b : aP), (es.map Prod.fst)[i]? = some b → pdy M4 (eid i + 1) k b ∧ pok k b ∧ b ≠ [] := fun i b hb => by
        rw [List.getElem?_map] at hb
        cases hei : es[i]? with
        | none => rw [hei] at hb; cases hb
        | some E =>
          rw [hei] at hb
          cases hb
          have hE := hk E (List.mem_of_getElem? hei)
          exact ⟨(E4 i E hei).1, hE.1.1, hE.2.1⟩
      have hdd4 : ddy M4 D k f [] (List.replicate es.length []) := ⟨hpd4, pdy_fr hfr4 (fun a ha => by unfold inP at ha; unfold inP inC; omega) hdd3.2.1, fun i q hi => pdy_fr hfr4 (fun a ha => by
        have := (List.getElem?_eq_some_iff.mp hi).1
        rw [List.length_replicate] at this
        unfold inP at ha
        unfold inP inC
        omega) (hdd3.2.2 i q hi)⟩
      refine sp_run (lo := none) (st0 := st) (lim := lim) (by omega) hD4 hI4.2.1 ho4 (by unfold inD; omega) (fun i hi => by have := hI4.2.2.1.1 i hi; omega) hb4 (by rw [List.length_map]) (by omega) (fun j hj => by cases hj) hdd4 hpk4 pok_nil (fun q hq => by rw [(List.mem_replicate.mp hq).2]; exact pok_nil) List.length_replicate (by rw [dd4]; exact hD32) (by rw [dd4]; exact hD42) hsl hl2 fun M5 hfr5 h54 h53 h5ok => ?_
      have hle := adiv_le (k := k) (bs := es.map Prod.fst) (lo := none) (lim - st) f [] (List.replicate es.length [])
      generalize adiv k (es.map Prod.fst) none (lim - st) f [] (List.replicate es.length []) = dv at hA h53 h5ok hle
      have hfr5' : zfr (fun a => inE w (eid es.length) a ∨ inD D a) M2 M5 := zfr_tr hfr4' (zfr_up hfr5 fun a ha => Or.inr ha)
      obtain ⟨c5, E5, W5, f54, f55, fr5⟩ := keep M5 hfr5'
      refine ⟨fun z => ?_, fun z => ?_⟩
      · have z : dv.1 ≠ 0 := fun e => z (by rw [e]; rfl)
        rw [if_neg z] at hA
        exact ⟨_, rfl, h _ hA M5 fr5 f54 (by rw [f55]; exact (Int32.add_zero _).symm) h54 h53 c5 (fun e => absurd e z)⟩
      · have z : dv.1 = 0 := ecode_0.mp (Classical.not_not.mp z)
        rw [if_pos z] at hA
        obtain ⟨hdd5, hrk5, hqk5, hql5⟩ := h5ok z
        have hI5 := ist_fr hfr5 hI4
        have hD5 := dst_fr hfr5 hD4
        have hrl := hrk5.2.2
        refine ⟨hD5.1, by rw [hD5.2.2.1]; exact hD5.2.2.2.2.2.2.2.1.1, ?_⟩
        rw [hD5.2.2.1, hdd5.2.1.1]
        refine ⟨fun zr => ?_, fun zr => ?_⟩
        · have zr : ¬ dv.2.2.1.length = 0 := fun e => zr (by rw [e]; rfl)
          rw [if_neg zr] at hA
          have hRn := hI5.2.1.2 es.length (by omega)
          refine ⟨hI5.1.1, hI5.1.1, by rw [hI5.1.2.2.1, hI5.2.1.1], by rw [hI5.1.2.2.1, hI5.2.1.1, c5.1]; exact zin_n (by omega) (by omega), ?_⟩
          intro r4
          have e4 : r4 = eid es.length := by rw [show r4 = zR M5 (zR M5 H 1) (zI M5 H 2).toNatClampNeg from rfl, hI5.1.2.2.1, c5.1, cn, hRn.1]
          clear_value r4
          subst e4
          refine ⟨hRn.2.1, hD5.1, by rw [hRn.2.2.1]; exact hRn.2.2.2.2.2.2.1.1, ?_⟩
          rw [hRn.2.2.1]
          refine sp_become (by omega) hRn.2.2.2.2.2.2.1 hD5.2.2.2.2.2.2.2.1 (by omega) hdd5.2.1 hrl fun M6 hfr6 hpd6 => ?_
          have hfr6' : zfr (fun a => inE w (eid es.length) a ∨ inD D a) M2 M6 := zfr_tr hfr5' (zfr_up hfr6 fun a ha => Or.inl (by unfold inP at ha; unfold inE; omega))
          obtain ⟨c6, E6, W6, f64, f65, fr6⟩ := keep M6 hfr6'
          have hI6 := ist_fr hfr6 hI5
          have hD6 := dst_fr hfr6 hD5
          have ho6 := ost_fr hfr6' (by unfold inE inD; omega) ho2
          have d6 : ∀ j, zI M6 D j = zI M5 D j := (hfr6.2.2.2.2 D (by unfold inP; omega)).1
          refine ⟨hI6.1.1, ?_⟩
          rw [c6.1]
          refine ⟨fun c24 => ?_, fun c24 => ⟨hI6.1.1, ?_⟩⟩
          · have c24 := (nI_leI (a := 24) (by omega) (by omega)).mp c24
            rw [show anew k sh es dv.2.2.2 dv.2.2.1 cs = none from if_pos c24] at hA
            exact ⟨_, rfl, h _ hA M6 fr6 f64 (by rw [f65]; exact (Int32.add_zero _).symm) (by rw [d6]; exact h54) (by rw [d6]; exact h53) c6 (fun e => absurd (show (2 : Nat) = 0 from e) (by decide))⟩
          · have c24 : ¬ 24 ≤ es.length := fun z => c24 ((nI_leI (a := 24) (by omega) (by omega)).mpr z)
            have hnew : anew k sh es dv.2.2.2 dv.2.2.1 cs = (match omp (fun kk => als k true kk es dv.2.2.2 (cs.getD kk []) es.length) sh with
              | none => none
              | some cs' => amonic (dv.2.2.1, cs')) := if_neg c24
            refine sp_takeQ (cs := cs) (qs := dv.2.2.2) (by omega) hI6 hD6 ho6 hsh hHD c6 (by omega) (fun e E _ hx => E6 e E hx) hk (fun e q hq => ⟨pdy_fr hfr6 (fun a ha => by
                have := (List.getElem?_eq_some_iff.mp hq).1
                unfold inP at ha
                unfold inP
                omega) (hdd5.2.2 e q hq), hqk5 q (List.mem_of_getElem? hq), fun e0 => by
                have := (List.getElem?_eq_some_iff.mp hq).1
                omega⟩) hql5 (fun j c hj => ?_) (omp_len hcs) (fun cs' M7 hcs' hfr7 hcc7 => ?_) (fun M7 hn7 hfr7 => ?_)
            · have hjl := (List.getElem?_eq_some_iff.mp hj).1
              rw [omp_len hcs] at hjl
              obtain ⟨a1, a2⟩ := hcc4 j c hj
              exact ⟨pdy_fr hfr6 (inP_ne (by omega)) (pdy_fr hfr5 (fun a ha => by unfold inP at ha; unfold inD; omega) a1), a2⟩
            · rw [hcs'] at hnew
              dsimp only at hnew
              have hfr7' : zfr (fun a => inE w (eid es.length) a ∨ inD D a) M2 M7 := zfr_tr hfr6' (zfr_up hfr7 fun a ha => Or.inl (by unfold inC at ha; unfold inE; omega))
              obtain ⟨c7, E7, W7, f74, f75, fr7⟩ := keep M7 hfr7'
              have hI7 := ist_fr hfr7 hI6
              have hRn7 := hI7.2.1.2 es.length (by omega)
              have hek : eok k (dv.2.2.1, cs') := ⟨hrk5, fun L hL => by
                obtain ⟨i, hi⟩ := List.getElem?_of_mem hL
                exact (hcc7 i L hi).2⟩
              refine ⟨fun z => absurd z (by decide), fun _ => ⟨hI7.1.1, hRn7.2.1, ?_⟩⟩
              rw [c7.2.1]
              refine sp_makeMonic (E := (dv.2.2.1, cs')) (by omega) hRn7.2 ⟨pdy_fr hfr7 (fun a ha => by unfold inP at ha; unfold inC; omega) hpd6, fun j L hj => (hcc7 j L hj).1⟩ hek (fun e => zr (by rw [show dv.2.2.1 = [] from e]; rfl)) (omp_len hcs') hsh hw8 (fun E' M8 hE' hfr8 hed8 => ?_) (fun M8 hn8 hfr8 => ?_)
              · rw [hnew, hE'] at hA
                have hA : asettle k sh es W (lim - st) l r = (0, es ++ [E'], won (woff W l r) es.length, dv.2.1, 0) := hA
                have hfr8' := zfr_tr hfr7' (zfr_up hfr8 fun a ha => Or.inl ha)
                obtain ⟨c8', E8', W8, f84, f85, fr8⟩ := keep M8 hfr8'
                have hI8 := ist_fr hfr8 hI7
                obtain ⟨k1, k2, k3⟩ := amonic_ok hek hE'
                have hok8 := iok_app hk k1 (amonic_ne hek hE') (k2.trans (omp_len hcs'))
                refine ⟨fun _ => ⟨hI8.1.1, ?_⟩, fun z => absurd (Classical.not_not.mp z) (by decide)⟩
                refine sp_add (by omega) hI8 (ost_fr hfr8' (by unfold inE inD; omega) ho2) hsh c8' (by omega) (iel_app E8' hed8) hok8 W8 fun M9 hfr9 hf9 hc9 hw9 => ⟨_, rfl, ?_⟩
                have d9 : ∀ j, zI M9 D j = zI M5 D j := fun j => by
                  rw [(hfr9.2.2.2.2 D (by omega)).1, (hfr8.2.2.2.2 D (by unfold inE; omega)).1, (hfr7.2.2.2.2 D (by unfold inC; omega)).1, d6]
                refine h _ hA M9 (zfr_tr fr8 (zfr_up hfr9 fun a ha => Or.inl (by unfold inI; omega))) (by rw [hf9 4 (by omega)]; exact f84) (by rw [hf9 5 (by omega), f85]; exact (Int32.add_zero _).symm) (by rw [d9]; exact h54) (by rw [d9]; exact h53) (by rw [List.length_append]; exact hc9) fun _ => ⟨by show dv.2.1 ≤ lim; omega, ?_, hok8, hw9⟩
                exact iel_fr hfr9 hI8 hok8 hsh (by simp; omega) (fun i hi a ha => by
                  have hi2 : i < es.length + 1 := by simpa using hi
                  have := hI.2.2.1.1 i (by omega)
                  unfold inE at ha
                  omega) (iel_app E8' hed8)
              · rw [hnew, hn8] at hA
                have hfr8' := zfr_tr hfr7' (zfr_up hfr8 fun a ha => Or.inl ha)
                obtain ⟨c8', E8', W8, f84, f85, fr8⟩ := keep M8 hfr8'
                have d8 : ∀ j, zI M8 D j = zI M5 D j := fun j => by
                  rw [(hfr8.2.2.2.2 D (by unfold inE; omega)).1, (hfr7.2.2.2.2 D (by unfold inC; omega)).1, d6]
                exact ⟨fun z => absurd rfl z, fun _ => ⟨_, rfl, h _ hA M8 fr8 f84 (by rw [f85]; exact (Int32.add_zero _).symm) (by rw [d8]; exact h54) (by rw [d8]; exact h53) c8' (fun e => absurd (show (2 : Nat) = 0 from e) (by decide))⟩⟩
            · rw [hn7] at hnew
              rw [hnew] at hA
              have hfr7' : zfr (fun a => inE w (eid es.length) a ∨ inD D a) M2 M7 := zfr_tr hfr6' (zfr_up hfr7 fun a ha => Or.inl (by unfold inC at ha; unfold inE; omega))
              obtain ⟨c7, E7, W7, f74, f75, fr7⟩ := keep M7 hfr7'
              have d7 : ∀ j, zI M7 D j = zI M5 D j := fun j => by
                rw [(hfr7.2.2.2.2 D (by unfold inC; omega)).1, d6]
              exact ⟨fun _ => ⟨_, rfl, h _ hA M7 fr7 f74 (by rw [f75]; exact (Int32.add_zero _).symm) (by rw [d7]; exact h54) (by rw [d7]; exact h53) c7 (fun e => absurd (show (2 : Nat) = 0 from e) (by decide))⟩, fun z => absurd rfl z⟩
        · have zr : dv.2.2.1.length = 0 := (nI_z (by omega)).mp (Classical.not_not.mp zr)
          rw [if_pos zr] at hA
          rw [z]
          exact ⟨_, rfl, h _ hA M5 fr5 f54 (by rw [f55]; exact (Int32.add_zero _).symm) h54 h53 c5 fun _ => ⟨by show dv.2.1 ≤ lim; omega, E5, hk, W5⟩⟩
    · have hA : asettle k sh es W (lim - st) l r = (2, es, woff W l r, lim - st, 0) := by
        rw [hA]
        rcases hn4 with hn4 | hn4
        · rw [hn4]
        · rw [hn4]
          split <;> rfl
      have hfr4' : zfr (fun a => inE w (eid es.length) a ∨ inD D a) M2 M4 := zfr_tr hfr3' (zfr_up hfr4 fun a ha => by unfold inP inC at ha; unfold inE inD; omega)
      obtain ⟨c4, E4, W4, f44, f45, fr4⟩ := keep M4 hfr4'
      have dd4 : ∀ j, zI M4 D j = zI M2 D j := fun j => by rw [(hfr4.2.2.2.2 D (by unfold inP inC; omega)).1, dd]
      exact h _ hA M4 fr4 f44 (by rw [f45]; exact (Int32.add_zero _).symm) (by rw [dd4]; exact hD42) (by rw [dd4, hD32]; congr 1; show st = lim - (lim - st); omega) c4 (fun e => absurd (show (2 : Nat) = 0 from e) (by decide))
