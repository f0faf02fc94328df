/-! an element reduced; a basis built, in the class -/
theorem sp_reduce {d H D o w k sh i st lim : Nat} {M : zM} {eid : Nat → Nat} {es : List aE} {P : Int32 → zM → Prop} (hd : 6 ≤ d) (hI : ist M H o w eid) (hD : dst M D o) (ho : ost M o k) (hsh : sh ≤ w) (hHD : H + 153 + 100 * w ≤ D ∨ D + 106 ≤ H) (hoD : o < D) (hc : icn M H sh es.length) (hE : iel M eid k es) (hk : iok k sh es) (hi : i < es.length) (hst : zI M D 3 = nI st) (hlim : zI M D 4 = nI lim) (hsl : st ≤ lim) (hl2 : lim ≤ 20000)
    (h : ∀ x, ared k sh es (lim - st) i = x → ∀ M', zfr (fun a => inE w (eid i) a ∨ inD D a) M M' → zI M' D 4 = nI lim → zI M' D 3 = nI (lim - x.2.2) → (x.1 = 0 → x.2.2 ≤ lim ∧ x.2.1.length = es.length ∧ iel M' eid k x.2.1 ∧ iok k sh x.2.1) → P (ecode x.1) M') : ycI d nX3_reduceElement [.ref H, .int (nI i), .ref D] M P := by
  obtain ⟨d, rfl, he⟩ := dS hd
  have hl := hc.2.2
  have hw8 := hI.2.2.2.2
  have hoH := hI.2.2.2.1
  have s := hI.1.1
  have hr1 := hI.1.2.2.1
  have ci := cl_n (n := i) (by omega)
  have hRi := hI.2.1.2 i (by omega)
  have bi := hI.2.2.1.1 i (by omega)
  obtain ⟨t, l, cs, gi, gl, gm, gc, gk⟩ := iok_lead hk hi
  have gD : es.getD i aE0 = (t :: l, cs) := by rw [List.getD_eq_getElem?_getD, gi]; rfl
  have hA : ared k sh es (lim - st) i = (if (adiv k (es.map Prod.fst) (some i) (lim - st) l [] (List.replicate es.length [])).1 = 0 then
    (match omp (fun kk => als k true kk es (adiv k (es.map Prod.fst) (some i) (lim - st) l [] (List.replicate es.length [])).2.2.2 (cs.getD kk []) es.length) sh with
    | none => (2, es, (adiv k (es.map Prod.fst) (some i) (lim - st) l [] (List.replicate es.length [])).2.1)
    | some cs => match acome k ((1, 1), ald es i) (adiv k (es.map Prod.fst) (some i) (lim - st) l [] (List.replicate es.length [])).2.2.1 with
      | none => (2, es, (adiv k (es.map Prod.fst) (some i) (lim - st) l [] (List.replicate es.length [])).2.1)
      | some b => (0, es.set i (b, cs), (adiv k (es.map Prod.fst) (some i) (lim - st) l [] (List.replicate es.length [])).2.1))
    else ((adiv k (es.map Prod.fst) (some i) (lim - st) l [] (List.replicate es.length [])).1, es, (adiv k (es.map Prod.fst) (some i) (lim - st) l [] (List.replicate es.length [])).2.1)) := by
    unfold ared
    have e1 : ∀ kk, acof es i kk = cs.getD kk [] := fun kk => by
      show (es.getD i aE0).2.getD kk [] = _
      rw [gD]
    rw [show (fun kk => als k true kk es (adiv k (es.map Prod.fst) (some i) (lim - st) (es.getD i aE0).1.tail [] (List.replicate es.length [])).2.2.2 (acof es i kk) es.length) = (fun kk => als k true kk es (adiv k (es.map Prod.fst) (some i) (lim - st) (es.getD i aE0).1.tail [] (List.replicate es.length [])).2.2.2 (cs.getD kk []) es.length) from funext fun kk => by rw [e1], gD]
    rfl
  have hbs : ∀ (j : Nat) (b : aP), (es.map Prod.fst)[j]? = some b → ∃ E, es[j]? = some E ∧ E.1 = b := fun j b hb => by
    rw [List.getElem?_map] at hb
    cases hej : es[j]? with
    | none => rw [hej] at hb; cases hb
    | some E =>
      rw [hej] at hb
      cases hb
      exact ⟨E, rfl, rfl⟩
  have hlt := adiv_lt (k := k) (N := ark k t.2) (bs := es.map Prod.fst) (lo := some i) (fun b hb => by
    obtain ⟨E, h1, h2⟩ := List.mem_map.mp hb
    have := hk E h1
    rw [← h2]
    exact ⟨this.1.1, this.2.1⟩) (lim - st) l [] (List.replicate es.length []) (srt_tail gk.1) (pok_head gk.1) (fun _ hz => absurd hz List.not_mem_nil)
  have hlo := adiv_lo (k := k) (i := i) (bs := es.map Prod.fst) (lim - st) l [] (List.replicate es.length []) (fun q hq => by
    have := List.mem_of_getElem? hq
    exact (List.mem_replicate.mp this).2)
  have hle := adiv_le (k := k) (bs := es.map Prod.fst) (lo := some i) (lim - st) l [] (List.replicate es.length [])
  refine en_X3_reduceElement _ _ _ M (sg_X3_reduceElement_0 _ _ _ M ⟨s, by rw [hr1, hI.2.1.1], by rw [hr1, hI.2.1.1]; exact zin_n (by omega) (by omega), ?_⟩)
  intro r3
  have e3 : r3 = eid i := by rw [show r3 = zR M (zR M H 1) (nI i).toNatClampNeg from rfl, hr1, ci, hRi.1]
  clear_value r3
  subst e3
  refine ⟨hRi.2.1, sp_ld (by omega) hI hE hk (by omega) hi ⟨s, hD.1, ?_⟩⟩
  rw [hc.1]
  refine sp_makeReady (k := k) (by omega) hD (by omega) fun M3 hfr3 hdd3 => ?_
  have hI3 := ist_fr hfr3 hI
  have hD3 := dst_fr hfr3 hD
  have hRi3 := hI3.2.1.2 i (by omega)
  refine ⟨hD3.1, hRi3.2.1, by rw [hD3.2.1]; exact hD3.2.2.2.2.2.2.1.1, ?_⟩
  rw [hD3.2.1, hRi3.2.2.1]
  refine sp_become (by omega) hD3.2.2.2.2.2.2.1 hRi3.2.2.2.2.2.2.1 (by omega) (pdy_fr hfr3 (fun a ha => by unfold inP at ha; unfold inD1; omega) (hE i _ gi).1) gk.1.2.2 fun M4 hfr4 hpd4 => ?_
  have hD4 := dst_fr hfr4 hD3
  refine ⟨hD4.1, by rw [hD4.2.1]; exact hD4.2.2.2.2.2.2.1.1, ?_⟩
  rw [hD4.2.1]
  refine sp_behead (by omega) hD4.2.2.2.2.2.2.1 hpd4 gk.1.2.2 fun M5 hfr5 hpd5 => ?_
  have hpd5 : pdy M5 (D + 1) k l := hpd5
  have hD5 := dst_fr hfr5 hD4
  have hI5 := ist_fr hfr5 (ist_fr hfr4 hI3)
  have up1 : ∀ a, inP (D + 1) a → inD1 D a := fun a ha => by unfold inP at ha; unfold inD1; omega
  have hfa : zfr (inD1 D) M M5 := zfr_tr hfr3 (zfr_tr (zfr_up hfr4 up1) (zfr_up hfr5 up1))
  have ho5 := ost_fr hfa (by unfold inD1; omega) ho
  have hE5 := iel_fr hfa hI hk hsh hl (fun j hj a ha => by
    have := hI.2.2.1.1 j (by omega)
    unfold inE at ha
    unfold inD1
    omega) hE
  have hc5 := icn_fr hfa (by unfold inD1; omega) hc
  have d5 : ∀ j, zI M5 D j = zI M D j := (hfa.2.2.2.2 D (by unfold inD1; omega)).1
  refine ⟨hI5.1.1, hI5.1.1, hD5.1, ?_⟩
  rw [hI5.1.2.2.1, hc5.1]
  have hdd5 : ddy M5 D k l [] (List.replicate es.length []) := ⟨hpd5, pdy_fr hfr5 (inP_ne (by omega)) (pdy_fr hfr4 (inP_ne (by omega)) hdd3.2.1), fun j q hj => pdy_fr hfr5 (inP_ne (by omega)) (pdy_fr hfr4 (inP_ne (by omega)) (hdd3.2.2 j q hj))⟩
  refine sp_run (lo := some i) (st0 := st) (lim := lim) (by omega) hD5 hI5.2.1 ho5 (by unfold inD; omega) (fun j hj => by have := hI5.2.2.1.1 j hj; omega) (fun j b hb => by
      obtain ⟨E, h1, h2⟩ := hbs j b hb
      have := hk E (List.mem_of_getElem? h1)
      rw [← h2]
      exact ⟨(hE5 j E h1).1, this.1.1, this.2.1⟩) (by rw [List.length_map]) (by omega) (fun j hj => by cases hj; omega) hdd5 (srt_tail gk.1) pok_nil (fun q hq => by rw [(List.mem_replicate.mp hq).2]; exact pok_nil) List.length_replicate (by rw [d5]; exact hst) (by rw [d5]; exact hlim) hsl hl2 fun M6 hfr6 h64 h63 h6ok => ?_
  generalize adiv k (es.map Prod.fst) (some i) (lim - st) l [] (List.replicate es.length []) = dv at hA h63 h6ok hle hlt hlo
  have hfb : zfr (fun a => inE w (eid i) a ∨ inD D a) M M6 := zfr_tr (zfr_up hfa fun a ha => Or.inr (by unfold inD1 at ha; unfold inD; omega)) (zfr_up hfr6 fun a ha => Or.inr ha)
  refine ⟨fun z => ?_, fun z => ?_⟩
  · have z := ecode_0.mp z
    rw [if_pos z] at hA
    obtain ⟨hdd6, hrk6, hqk6, hql6⟩ := h6ok z
    have hI6 := ist_fr hfr6 hI5
    have hD6 := dst_fr hfr6 hD5
    have ho6 := ost_fr hfr6 (by unfold inD; omega) ho5
    have hc6 := icn_fr hfr6 (by unfold inD; omega) hc5
    have hE6 := iel_fr hfr6 hI5 hk hsh hl (fun j hj a ha => by
      have := hI.2.2.1.1 j (by omega)
      unfold inE at ha
      unfold inD
      omega) hE5
    refine ⟨hI6.1.1, ?_⟩
    refine sp_takeQ (x := i) (cs := cs) (qs := dv.2.2.2) (by omega) hI6 hD6 ho6 hsh hHD hc6 (by omega) (fun e E _ hx => hE6 e E hx) hk (fun e q hq => ⟨hdd6.2.2 e q hq, hqk6 q (List.mem_of_getElem? hq), fun e0 => hlo q (by rw [← e0]; exact hq)⟩) hql6 (fun j c hj => ⟨(hE6 i _ gi).2 j c hj, gk.2 c (List.mem_of_getElem? hj)⟩) gc (fun cs' M7 hcs' hfr7 hcc7 => ?_) (fun M7 hn7 hfr7 => ?_)
    · rw [hcs'] at hA
      dsimp only at hA
      have hI7 := ist_fr hfr7 hI6
      have hD7 := dst_fr hfr7 hD6
      have hRi7 := hI7.2.1.2 i (by omega)
      have ho7 := ost_fr hfr7 (by unfold inC; omega) ho6
      refine ⟨fun _ => ⟨hRi7.2.1, hD7.1, by rw [hRi7.2.2.1]; exact hRi7.2.2.2.2.2.2.1.1, ?_⟩, fun z => absurd (Classical.not_not.mp z) (by decide)⟩
      rw [hRi7.2.2.1, hD7.2.2.1]
      refine sp_become (by omega) hRi7.2.2.2.2.2.2.1 hD7.2.2.2.2.2.2.2.1 (by omega) (pdy_fr hfr7 (fun a ha => by unfold inP at ha; unfold inC; omega) hdd6.2.1) hrk6.2.2 fun M8 hfr8 hpd8 => ?_
      have hI8 := ist_fr hfr8 hI7
      have hRi8 := hI8.2.1.2 i (by omega)
      refine ⟨hRi8.2.1, by rw [hRi8.2.2.1]; exact hRi8.2.2.2.2.2.2.1.1, ?_⟩
      rw [hRi8.2.2.1]
      have ht1 : tok ((1, 1), ald es i) := ⟨fok_1, (by decide : (1 : Int) ≠ 0), by rw [gl]; exact gm⟩
      have htop := acome_top (k := k) (u := ((1, 1), ald es i)) (L := dv.2.2.1) (fun u hu => by rw [gl]; exact hlt u hu)
      have hfc : zfr (inE w (eid i)) M6 M8 := zfr_tr (zfr_up hfr7 fun a ha => by unfold inC at ha; unfold inE; omega) (zfr_up hfr8 fun a ha => by unfold inP at ha; unfold inE; omega)
      refine sp_come (t := ((1, 1), ald es i)) (by omega) hRi8.2.2.2.2.2.2.1 (ost_fr hfr8 (by unfold inP; omega) ho7) hpd8 hrk6 ht1 (fun b M9 hb hfr9 hpd9 => ?_) (fun hn9 => ?_)
      · rw [hb] at hA
        dsimp only at hA
        have hfd : zfr (inE w (eid i)) M6 M9 := zfr_tr hfc (zfr_up hfr9 fun a ha => by unfold inP at ha; unfold inE; omega)
        have dD : ∀ j, zI M9 D j = zI M6 D j := (hfd.2.2.2.2 D (by unfold inE; omega)).1
        have hbne : b ≠ [] := fun e => by
          rw [hb, e] at htop
          split at htop <;> cases htop
        refine ⟨fun z => absurd z (by decide), fun _ => ⟨_, rfl, h _ hA M9 (zfr_tr hfb (zfr_up hfd fun a ha => Or.inl ha)) (by rw [dD]; exact h64) (by rw [dD]; exact h63) fun _ => ⟨by show dv.2.1 ≤ lim; omega, by rw [List.length_set], fun j E hj => ?_, fun E hE => ?_⟩⟩⟩
        · rw [List.getElem?_set] at hj
          by_cases hji : i = j
          · subst hji
            rw [if_pos rfl, if_pos hi] at hj
            cases hj
            refine ⟨hpd9, fun kk c hkk => ?_⟩
            have := (List.getElem?_eq_some_iff.mp hkk).1
            exact pdy_fr hfr9 (inP_ne (by omega)) (pdy_fr hfr8 (inP_ne (by omega)) (hcc7 kk c hkk).1)
          · rw [if_neg hji] at hj
            have hjl := (List.getElem?_eq_some_iff.mp hj).1
            have := hI.2.2.1.2 i j (by omega) (by omega) hji
            exact edy_fr (w := w) hfd (by rw [(hk E (List.mem_of_getElem? hj)).2.2]; exact hsh) (fun a ha => by unfold inE at ha; unfold inE; omega) (hE6 j E hj)
        · rcases List.mem_or_eq_of_mem_set hE with hE | rfl
          · exact hk E hE
          · refine ⟨⟨acome_ok hrk6 ht1 hb, fun c hc => ?_⟩, hbne, omp_len hcs'⟩
            obtain ⟨kk, hkk⟩ := List.getElem?_of_mem hc
            exact (hcc7 kk c hkk).2
      · rw [hn9] at hA
        have dD : ∀ j, zI M8 D j = zI M6 D j := (hfc.2.2.2.2 D (by unfold inE; omega)).1
        exact ⟨fun _ => ⟨_, rfl, h _ hA M8 (zfr_tr hfb (zfr_up hfc fun a ha => Or.inl ha)) (by rw [dD]; exact h64) (by rw [dD]; exact h63) (fun e => absurd (show (2 : Nat) = 0 from e) (by decide))⟩, fun z => absurd rfl z⟩
    · rw [hn7] at hA
      have dD : ∀ j, zI M7 D j = zI M6 D j := (hfr7.2.2.2.2 D (by unfold inC; omega)).1
      exact ⟨fun z => absurd rfl z, fun _ => ⟨_, rfl, h _ hA M7 (zfr_tr hfb (zfr_up hfr7 fun a ha => Or.inl (by unfold inC at ha; unfold inE; omega))) (by rw [dD]; exact h64) (by rw [dD]; exact h63) (fun e => absurd (show (2 : Nat) = 0 from e) (by decide))⟩⟩
  · have z : dv.1 ≠ 0 := fun e => z (by rw [e]; rfl)
    rw [if_neg z] at hA
    exact ⟨_, rfl, h _ hA M6 hfb h64 h63 (fun e => absurd e z)⟩
theorem areds_s {k sh n i : Nat} {es : List aE} : areds k sh es n (i + 1) = if (areds k sh es n i).1 = 0 then ared k sh (areds k sh es n i).2.1 (areds k sh es n i).2.2 i else areds k sh es n i := rfl
theorem areds_no {k sh n i : Nat} {es : List aE} (h : (areds k sh es n i).1 ≠ 0) : ∀ {m : Nat}, i ≤ m → areds k sh es n m = areds k sh es n i
  | 0, hm => by rw [show i = 0 by omega]
  | m + 1, hm => by
    by_cases e : i = m + 1
    · rw [e]
    · have ih := areds_no h (show i ≤ m by omega)
      rw [areds_s, if_neg (by rw [ih]; exact h), ih]
theorem apairs_s {k sh f : Nat} {s : aS} : apairs k sh (f + 1) s = (match achoose k s.1 s.2.1 with
    | none => (0, s)
    | some x => if (asettle k sh s.1 s.2.1 s.2.2.1 x.2.1 x.2.2).1 = 0 then apairs k sh f ((asettle k sh s.1 s.2.1 s.2.2.1 x.2.1 x.2.2).2.1, (asettle k sh s.1 s.2.1 s.2.2.1 x.2.1 x.2.2).2.2.1, (asettle k sh s.1 s.2.1 s.2.2.1 x.2.1 x.2.2).2.2.2.1, s.2.2.2.1 + 1, s.2.2.2.2 + (asettle k sh s.1 s.2.1 s.2.2.1 x.2.1 x.2.2).2.2.2.2)
      else ((asettle k sh s.1 s.2.1 s.2.2.1 x.2.1 x.2.2).1, ((asettle k sh s.1 s.2.1 s.2.2.1 x.2.1 x.2.2).2.1, (asettle k sh s.1 s.2.1 s.2.2.1 x.2.1 x.2.2).2.2.1, (asettle k sh s.1 s.2.1 s.2.2.1 x.2.1 x.2.2).2.2.2.1, s.2.2.2.1 + 1, s.2.2.2.2 + (asettle k sh s.1 s.2.1 s.2.2.1 x.2.1 x.2.2).2.2.2.2))) := rfl
theorem sp_build {d H D G o w k sh lim : Nat} {M : zM} {eid : Nat → Nat} {gens : List aP} {P : Int32 → zM → Prop} (hd : 7 ≤ d) (hI : ist M H o w eid) (hD : dst M D o) (ho : ost M o k) (hsh : sh ≤ w) (hHD : H + 153 + 100 * w ≤ D ∨ D + 106 ≤ H) (hoD : o < D) (hGH : G + 37 ≤ H) (hGD : G + 37 ≤ D) (hG : gst M G o) (hg : gdy M G k gens) (hgl : gens.length ≤ 9) (hl2 : lim ≤ 20000)
    (h : ∀ x, abuild k sh lim gens = x → ∀ e M', zfq (fun a => inI H w a ∨ inD D a) (H + 1) M M' → ist M' H o w e → zI M' H 3 = nI (lim - x.2.2.1) → zI M' H 4 = nI x.2.2.2.1 → zI M' H 5 = nI x.2.2.2.2.1 → zI M' H 6 = nI x.2.2.2.2.2 → (x.1 = 0 → icn M' H sh x.2.1.length ∧ iel M' e k x.2.1 ∧ iok k sh x.2.1) → P (ecode x.1) M') : ycI d nX3_build [.ref H, .ref G, .int (nI gens.length), .int (nI sh), .ref D, .int (nI lim)] M P := by
  obtain ⟨d, rfl, he⟩ := dS hd
  have hw8 := hI.2.2.2.2
  have hoH := hI.2.2.2.1
  -- reducing
  have last : ∀ (n i : Nat) (es0 : List aE) (n0 : Nat) (f1 : Nat × aS) (e : Nat → Nat) (M' : zM) (o1 o2 o3 o5 : Option Value), abld1 k sh lim (aadopt sh gens gens.length) = f1 → abld2 k sh f1 = areds k sh es0 n0 es0.length → i + n = es0.length → (areds k sh es0 n0 i).1 = 0 → (areds k sh es0 n0 i).2.1.length = es0.length → (areds k sh es0 n0 i).2.2 ≤ lim → zfq (fun a => inI H w a ∨ inD D a) (H + 1) M M' → ist M' H o w e → zI M' H 4 = nI f1.2.2.2.2.1 → zI M' H 5 = nI f1.2.2.2.2.2 → zI M' H 6 = nI f1.2.1.length → icn M' H sh es0.length → iel M' e k (areds k sh es0 n0 i).2.1 → iok k sh (areds k sh es0 n0 i).2.1 → zI M' D 4 = nI lim → zI M' D 3 = nI (lim - (areds k sh es0 n0 i).2.2) → wX3_build d (fun r M2 => ∃ x : Int32, r = [.int x] ∧ P x M2) 39 [some (.ref H), o1, o2, o3, some (.ref D), o5, some (.int 0), some (.int (nI i))] [] M' := by
    intro n
    induction n with
    | zero =>
      intro i es0 n0 f1 e M' o1 o2 o3 o5 hf1 hf2 hi hx0 hxl hxn hfr hI' h4 h5 h6 hc hel hok hd4 hd3
      have hD' := dst_fq hfr (by unfold inD; omega) hD
      rw [show i = es0.length by omega] at hx0 hxl hxn hel hok hd3
      refine sg_X3_build_39 _ _ _ _ _ _ _ _ _ ⟨hI'.1.1, fun _ => ⟨hD'.1, hI'.1.1, ?_⟩, fun c => absurd (by rw [hc.1, show i = es0.length by omega]; exact Int32.le_refl _) c⟩
      intro M1
      have hfr1 : zfr (fun a => a = H) M' M1 := zfr_uI rfl
      have g : ∀ j, j ≠ 3 → zI M1 H j = zI M' H j := fun j hj => by rw [show M1 = zuI M' H 3 (zI M' D 3) from rfl, zI_uI, if_neg (by omega)]
      refine ⟨_, rfl, ?_⟩
      have := h _ rfl e M1 (zfq_tr hfr (zfq_of (zfr_up hfr1 fun a ha => Or.inl (by unfold inI; omega)))) (ist_fr hfr1 hI')
      unfold abuild at this
      rw [hf1, hf2] at this
      rw [hx0] at this
      refine this ?_ ?_ ?_ ?_ fun _ => ⟨?_, ?_, hok⟩
      · rw [show M1 = zuI M' H 3 (zI M' D 3) from rfl, zI_uI, if_pos ⟨rfl, rfl⟩]
        exact hd3
      · rw [g 4 (by omega)]; exact h4
      · rw [g 5 (by omega)]; exact h5
      · rw [g 6 (by omega)]; exact h6
      · show icn M1 H sh (areds k sh es0 n0 es0.length).2.1.length
        rw [hxl]
        exact ⟨by rw [g 2 (by omega)]; exact hc.1, by rw [g 10 (by omega)]; exact hc.2.1, hc.2.2⟩
      · exact iel_fr hfr1 hI' hok hsh (by rw [hxl]; exact hc.2.2) (fun j hj a ha => by
          have hj2 : j < es0.length := by rw [← hxl]; exact hj
          have := hI'.2.2.1.1 j (by have := hc.2.2; omega)
          unfold inE at ha
          omega) hel
    | succ n ih =>
      intro i es0 n0 f1 e M' o1 o2 o3 o5 hf1 hf2 hi hx0 hxl hxn hfr hI' h4 h5 h6 hc hel hok hd4 hd3
      have hD' := dst_fq hfr (by unfold inD; omega) hD
      have ho' := ost_fq hfr (by unfold inI inD; omega) ho
      have hcl := hc.2.2
      refine sg_X3_build_39 _ _ _ _ _ _ _ _ _ ⟨hI'.1.1, fun c => ?_, fun _ => ⟨fun z => absurd rfl z, fun _ => ⟨hI'.1.1, ?_⟩⟩⟩
      · rw [hc.1] at c
        have := (nI_leI (by omega) (by omega)).mp c
        omega
      · have stp := areds_s (k := k) (sh := sh) (n := n0) (i := i) (es := es0)
        rw [if_pos hx0] at stp
        refine sp_reduce (st := lim - (areds k sh es0 n0 i).2.2) (by omega) hI' hD' ho' hsh hHD hoD (by rw [hxl]; exact hc) hel hok (by omega) hd3 hd4 (by omega) hl2 fun x hx M2 hfr2 h24 h23 h2ok => ?_
        rw [show lim - (lim - (areds k sh es0 n0 i).2.2) = (areds k sh es0 n0 i).2.2 by omega] at hx
        rw [hx] at stp
        have bi := hI'.2.2.1.1 i (by omega)
        have hH2 : ∀ j, zI M2 H j = zI M' H j := (hfr2.2.2.2.2 H (by unfold inE inD; omega)).1
        have hfa : zfq (fun a => inI H w a ∨ inD D a) (H + 1) M M2 := zfq_tr hfr (zfq_of (zfr_up hfr2 fun a ha => by unfold inE inD at ha; unfold inI inD; omega))
        have hI2 := ist_fr hfr2 hI'
        intro v7
        rw [show v7 = nI (i + 1) from nI_1 i]
        by_cases hx1 : x.1 = 0
        · obtain ⟨y1, y2, y3, y4⟩ := h2ok hx1
          rw [hx1]
          rw [← stp] at y1 y2 y3 y4 h23 hx1
          exact ih (i + 1) es0 n0 f1 e M2 _ _ _ _ hf1 hf2 (by omega) hx1 (y2.trans hxl) y1 hfa hI2 (by rw [hH2]; exact h4) (by rw [hH2]; exact h5) (by rw [hH2]; exact h6) ⟨by rw [hH2]; exact hc.1, by rw [hH2]; exact hc.2.1, hcl⟩ y3 y4 h24 h23
        · -- it ends here
          have hno := areds_no (k := k) (sh := sh) (n := n0) (i := i + 1) (es := es0) (by rw [stp]; exact hx1) (show i + 1 ≤ es0.length by omega)
          rw [stp] at hno
          have hD2 := dst_fr hfr2 hD'
          have done : ∀ M3, M3 = zuI M2 H 3 (zI M2 D 3) → P (ecode x.1) M3 := fun M3 e3 => by
            have hfr3 : zfr (fun a => a = H) M2 M3 := by rw [e3]; exact zfr_uI rfl
            have g : ∀ j, j ≠ 3 → zI M3 H j = zI M' H j := fun j hj => by rw [e3, zI_uI, if_neg (by omega)]; exact hH2 j
            have := h _ rfl e M3 (zfq_tr hfa (zfq_of (zfr_up hfr3 fun a ha => Or.inl (by unfold inI; omega)))) (ist_fr hfr3 hI2)
            unfold abuild at this
            rw [hf1, hf2, hno] at this
            refine this ?_ ?_ ?_ ?_ fun z => absurd z hx1
            · rw [e3, zI_uI, if_pos ⟨rfl, rfl⟩]
              exact h23
            · rw [g 4 (by omega)]; exact h4
            · rw [g 5 (by omega)]; exact h5
            · rw [g 6 (by omega)]; exact h6
          refine sg_X3_build_39 _ _ _ _ _ _ _ _ _ ⟨hI2.1.1, fun _ => ⟨hD2.1, hI2.1.1, ?_⟩, fun _ => ⟨fun _ => ⟨hD2.1, hI2.1.1, ?_⟩, fun z => absurd (ecode_0.mp (Classical.not_not.mp z)) hx1⟩⟩
          · intro M3
            exact ⟨_, rfl, done M3 rfl⟩
          · intro M3
            exact ⟨_, rfl, done M3 rfl⟩
  -- pairs are through
  have exit : ∀ (c : Nat) (s : aS) (M' : zM) (o1 o2 o3 o5 : Option Value), abld1 k sh lim (aadopt sh gens gens.length) = (c, s) → zfr (fun a => inI H w a ∨ inD D a) M M' → ist M' H o w eid → icn M' H sh s.1.length → zI M' H 4 = nI s.2.2.2.1 → zI M' H 5 = nI s.2.2.2.2 → zI M' D 4 = nI lim → zI M' D 3 = nI (lim - s.2.2.1) → (c = 0 → s.2.2.1 ≤ lim ∧ iel M' eid k s.1 ∧ iok k sh s.1) → ((zsh M' H).1 = 12 ∧ ((zsh M' H).1 = 12 ∧ (let M1 : zM := zuI M' H 6 (zI M' H 2)
(¬ ecode c = 0 → (wX3_build d (fun r M2 => ∃ x : Int32, r = [.int x] ∧ P x M2) 39 [some (.ref H), o1, o2, o3, some (.ref D), o5, some (.int (ecode c)), some (.int ((0 : Int32)))] [] M1)) ∧ (¬ (¬ ecode c = 0) → ((zsh M' H).1 = 12 ∧ (ycV d nX3_dropNeedless [.ref H] M1 fun M2 => ((zsh M2 H).1 = 12 ∧ (ycV d nX3_sortElements [.ref H] M2 fun M3 => (wX3_build d (fun r M2 => ∃ x : Int32, r = [.int x] ∧ P x M2) 39 [some (.ref H), o1, o2, o3, some (.ref D), o5, some (.int (ecode c)), some (.int ((0 : Int32)))] [] M3))))))))) := by
    intro c s M' o1 o2 o3 o5 hfin hfr hI' hc h4 h5 hd4 hd3 hok
    have sH := hI'.1.1
    have hcl := hc.2.2
    refine ⟨sH, sH, ?_⟩
    intro M1
    have hfr1 : zfr (fun a => a = H) M' M1 := zfr_uI rfl
    have g : ∀ j, j ≠ 6 → zI M1 H j = zI M' H j := fun j hj => by rw [show M1 = zuI M' H 6 (zI M' H 2) from rfl, zI_uI, if_neg (by omega)]
    have g6 : zI M1 H 6 = nI s.1.length := by rw [show M1 = zuI M' H 6 (zI M' H 2) from rfl, zI_uI, if_pos ⟨rfl, rfl⟩]; exact hc.1
    have hI1 := ist_fr hfr1 hI'
    have hc1 : icn M1 H sh s.1.length := ⟨by rw [g 2 (by omega)]; exact hc.1, by rw [g 10 (by omega)]; exact hc.2.1, hcl⟩
    have hfa : zfr (fun a => inI H w a ∨ inD D a) M M1 := zfr_tr hfr (zfr_up hfr1 fun a ha => Or.inl (by unfold inI; omega))
    have d1 : ∀ j, zI M1 D j = zI M' D j := (hfr1.2.2.2.2 D (by omega)).1
    refine ⟨fun z => ?_, fun z => ?_⟩
    · have z : c ≠ 0 := fun e => z (by rw [e]; rfl)
      have hD1 := dst_fr hfa hD
      have done : ∀ M3, M3 = zuI M1 H 3 (zI M1 D 3) → P (ecode c) M3 := fun M3 e3 => by
        have hfr3 : zfr (fun a => a = H) M1 M3 := by rw [e3]; exact zfr_uI rfl
        have g3 : ∀ j, j ≠ 3 → zI M3 H j = zI M1 H j := fun j hj => by rw [e3, zI_uI, if_neg (by omega)]
        have := h _ rfl eid M3 (zfq_of (zfr_tr hfa (zfr_up hfr3 fun a ha => Or.inl (by unfold inI; omega)))) (ist_fr hfr3 hI1)
        unfold abuild at this
        rw [hfin, show abld2 k sh (c, s) = (c, s.1, s.2.2.1) from if_neg z] at this
        refine this ?_ ?_ ?_ ?_ fun e => absurd e z
        · rw [e3, zI_uI, if_pos ⟨rfl, rfl⟩, d1]
          exact hd3
        · rw [g3 4 (by omega), g 4 (by omega)]; exact h4
        · rw [g3 5 (by omega), g 5 (by omega)]; exact h5
        · rw [g3 6 (by omega)]; exact g6
      refine sg_X3_build_39 _ _ _ _ _ _ _ _ _ ⟨hI1.1.1, fun _ => ⟨hD1.1, hI1.1.1, ?_⟩, fun _ => ⟨fun _ => ⟨hD1.1, hI1.1.1, ?_⟩, fun y => absurd (ecode_0.mp (Classical.not_not.mp y)) z⟩⟩
      · intro M3
        exact ⟨_, rfl, done M3 rfl⟩
      · intro M3
        exact ⟨_, rfl, done M3 rfl⟩
    · have z : c = 0 := ecode_0.mp (Classical.not_not.mp z)
      subst z
      obtain ⟨y1, y2, y3⟩ := hok rfl
      have hel1 := iel_fr hfr1 hI' y3 hsh hcl (fun j hj a ha => by
        have := hI'.2.2.1.1 j (by omega)
        unfold inE at ha
        omega) y2
      refine ⟨sH, sp_dropNeedless (by omega) hI1 hc1 hel1 y3 fun e2 M2 hfr2 hI2 hf2 hc2 hel2 => ⟨hI2.1.1, ?_⟩⟩
      have hokc := iok_clean y3 (Nat.le_refl s.1.length)
      have ho2 := ost_fq hfr2 (by omega) (ost_fr hfa (by unfold inI inD; omega) ho)
      refine sp_sortElements (by omega) hI2 ho2 hc2 hel2 hokc fun e3 M3 hfr3 hI3 hel3 => ?_
      have hH3 : ∀ j, zI M3 H j = zI M2 H j := (hfr3.2.2.2.2 H (fun z => z)).1
      have hD3 : ∀ j, zI M3 D j = zI M' D j := fun j => by rw [(hfr3.2.2.2.2 D (fun z => z)).1, (hfr2.2.2.2.2 D (by omega)).1, d1]
      have hlen : (acsort k s.1).length = (aclean s.1 s.1.length).length := aesrt_len
      refine last (acsort k s.1).length 0 (acsort k s.1) s.2.2.1 (0, s) e3 M3 _ _ _ _ hfin (if_pos rfl) (by omega) rfl rfl y1 (zfq_tr (zfq_of hfa) (zfq_tr (zfq_up hfr2 fun a ha => Or.inl (by unfold inI; omega)) (zfq_up hfr3 fun a ha => ha.elim))) hI3 ?_ ?_ ?_ ?_ hel3 (iok_srt hokc (Nat.le_refl _)) (by rw [hD3]; exact hd4) (by rw [hD3]; exact hd3)
      · rw [hH3, hf2 4 (by omega), g 4 (by omega)]; exact h4
      · rw [hH3, hf2 5 (by omega), g 5 (by omega)]; exact h5
      · rw [hH3, hf2 6 (by omega)]; exact g6
      · rw [hlen]
        exact ⟨by rw [hH3]; exact hc2.1, by rw [hH3]; exact hc2.2.1, hc2.2.2⟩
  -- the pairs
  have pairs : ∀ (n t c : Nat) (s : aS) (M' : zM) (o1 o2 o3 o5 : Option Value), t + n = 276 → (c = 0 → abld1 k sh lim (aadopt sh gens gens.length) = apairs k sh n s) → (c ≠ 0 → abld1 k sh lim (aadopt sh gens gens.length) = (c, s)) → zfr (fun a => inI H w a ∨ inD D a) M M' → icn M' H sh s.1.length → zI M' H 4 = nI s.2.2.2.1 → zI M' H 5 = nI s.2.2.2.2 → zI M' D 4 = nI lim → zI M' D 3 = nI (lim - s.2.2.1) → (c = 0 → s.2.2.1 ≤ lim ∧ iel M' eid k s.1 ∧ iok k sh s.1 ∧ iwt M' H w k s.1 s.2.1) → wX3_build d (fun r M2 => ∃ x : Int32, r = [.int x] ∧ P x M2) 13 [some (.ref H), o1, o2, o3, some (.ref D), o5, some (.int (ecode c)), some (.int (nI t))] [] M' := by
    intro n
    induction n with
    | zero =>
      intro t c s M' o1 o2 o3 o5 ht hz hnz hfr hc h4 h5 hd4 hd3 hok
      have hI' := ist_fr hfr hI
      have hfin : abld1 k sh lim (aadopt sh gens gens.length) = (c, s) := by
        by_cases e : c = 0
        · rw [hz e, e]; rfl
        · exact hnz e
      refine sg_X3_build_13 _ _ _ _ _ _ _ _ _ ⟨fun _ => exit c s M' _ _ _ _ hfin hfr hI' hc h4 h5 hd4 hd3 fun e => ⟨(hok e).1, (hok e).2.1, (hok e).2.2.1⟩, fun z => absurd (by rw [show t = 276 by omega]; exact Int32.le_refl _) z⟩
    | succ n ih =>
      intro t c s M' o1 o2 o3 o5 ht hz hnz hfr hc h4 h5 hd4 hd3 hok
      have hI' := ist_fr hfr hI
      have hcl := hc.2.2
      refine sg_X3_build_13 _ _ _ _ _ _ _ _ _ ⟨fun z => ?_, fun _ => ⟨fun z => ?_, fun z => ⟨hI'.1.1, ?_⟩⟩⟩
      · have := (nI_leI (a := 276) (by omega) (by omega)).mp z
        omega
      · have z : c ≠ 0 := fun e => z (by rw [e]; rfl)
        exact exit c s M' _ _ _ _ (hnz z) hfr hI' hc h4 h5 hd4 hd3 fun e => absurd e z
      · have z : c = 0 := ecode_0.mp (Classical.not_not.mp z)
        subst z
        have hz := hz rfl
        obtain ⟨y1, y2, y3, y4⟩ := hok rfl
        refine sp_choosePair (by omega) hI' hc y3 y4 fun v M2 hfr2 hf2 hnone hsome => ?_
        have hI2 := ist_fr hfr2 hI'
        have hfa : zfr (fun a => inI H w a ∨ inD D a) M M2 := zfr_tr hfr (zfr_up hfr2 fun a ha => Or.inl (by unfold inI; omega))
        have hc2 : icn M2 H sh s.1.length := ⟨by rw [hf2 2 (by omega) (by omega)]; exact hc.1, by rw [hf2 10 (by omega) (by omega)]; exact hc.2.1, hcl⟩
        have d2 : ∀ j, zI M2 D j = zI M' D j := (hfr2.2.2.2.2 D (by omega)).1
        have hel2 := iel_fr hfr2 hI' y3 hsh hcl (fun j hj a ha => by
          have := hI'.2.2.1.1 j (by omega)
          unfold inE at ha
          omega) y2
        rw [apairs_s] at hz
        cases hch : achoose k s.1 s.2.1 with
        | none =>
          rw [hch] at hz
          rw [hnone hch]
          refine ⟨fun _ => exit 0 s M2 _ _ _ _ hz hfa hI2 hc2 (by rw [hf2 4 (by omega) (by omega)]; exact h4) (by rw [hf2 5 (by omega) (by omega)]; exact h5) (by rw [d2]; exact hd4) (by rw [d2]; exact hd3) fun _ => ⟨y1, hel2, y3⟩, fun z => absurd rfl z⟩
        | some x =>
          rw [hch] at hz
          dsimp only at hz
          obtain ⟨v1, x1, x2, x3, x4⟩ := hsome x hch
          rw [v1]
          refine ⟨fun z => absurd z (by decide), fun _ => ⟨hI2.1.1, ?_⟩⟩
          refine sp_settle (st := lim - s.2.2.1) (by omega) hI2 (dst_fr hfa hD) (ost_fr hfa (by unfold inI inD; omega) ho) hsh hHD hoD hc2 hel2 y3 (iwt_fr hfr2 (by omega) y4) x3 x4 x1 x2 (by rw [d2]; exact hd3) (by rw [d2]; exact hd4) (by omega) hl2 fun y hy M3 hfr3 h34 h35 h3d4 h3d3 hc3 hok3 => ?_
          rw [show lim - (lim - s.2.2.1) = s.2.2.1 by omega] at hy
          rw [hy] at hz
          intro v7
          rw [show v7 = nI (t + 1) from nI_1 t]
          refine ih (t + 1) y.1 (y.2.1, y.2.2.1, y.2.2.2.1, s.2.2.2.1 + 1, s.2.2.2.2 + y.2.2.2.2) M3 _ _ _ _ (by omega) (fun e => by rw [hz, if_pos e]) (fun e => by rw [hz, if_neg e]) (zfr_tr hfa hfr3) hc3 ?_ ?_ h3d4 h3d3 hok3
          · rw [h34, hf2 4 (by omega) (by omega), h4]
            exact nI_1 _
          · rw [h35, hf2 5 (by omega) (by omega), h5]
            exact nI_add _ _
  -- the beginning
  refine en_X3_build _ _ _ _ _ _ M (sg_X3_build_0 _ _ _ _ _ _ M ⟨hI.1.1, sp_begin (by omega) hI fun M1 hfr1 hc1 h14 h15 => ?_⟩)
  have hD1 := dst_fr hfr1 hD
  refine ⟨hD1.1, sp_allow (by omega) hD1 fun M2 hfr2 h23 h24 => ?_⟩
  have hfa : zfr (fun a => inI H w a ∨ inD D a) M M2 := zfr_tr (zfr_up hfr1 fun a ha => Or.inl (by unfold inI; omega)) (zfr_up hfr2 fun a ha => Or.inr (by unfold inD; omega))
  have hI2 := ist_fr hfa hI
  have hH2 : ∀ j, zI M2 H j = zI M1 H j := (hfr2.2.2.2.2 H (by omega)).1
  refine ⟨hI2.1.1, sp_adopt (by omega) hI2 (ost_fr hfa (by unfold inI inD; omega) ho) hsh hGH (gst_fr hfa hG) (gdy_fr hfa hgl (fun a a1 a2 => by unfold inI inD; omega) hg) hgl (icn_fr hfr2 (by omega) hc1) fun M3 hfr3 hf3 hc3 hel3 hok3 hwt3 => ?_⟩
  have d3 : ∀ j, zI M3 D j = zI M2 D j := (hfr3.2.2.2.2 D (by unfold inI; omega)).1
  refine pairs 276 0 (aadopt sh gens gens.length).1 ((aadopt sh gens gens.length).2.1, (aadopt sh gens gens.length).2.2, lim, 0, 0) M3 _ _ _ _ rfl (fun e => if_pos e) (fun e => if_neg e) (zfr_tr hfa (zfr_up hfr3 fun a ha => Or.inl ha)) hc3 ?_ ?_ (by rw [d3]; exact h24) (by rw [d3, h23]; show (0 : Int32) = nI (lim - lim); rw [Nat.sub_self]; rfl) fun _ => ⟨Nat.le_refl _, hel3, hok3, hwt3⟩
  · rw [hf3 4 (by omega), hH2, h14]; rfl
  · rw [hf3 5 (by omega), hH2, h15]; rfl
