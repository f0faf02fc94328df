/-! sums and products of the class's polynomials -/
theorem madd_by {a b : aM} (ha : mok a) (hb : mok b) : mby (madd a b) := by
  unfold mok at ha hb
  unfold mby madd
  dsimp only
  omega
theorem aadds_in {k : Nat} {c : aF} {m : aM} {t : aT} {g f : aP} (h : mok (madd t.2 m)) : aadds k c m (t :: g) f = (match afmul t.1 c with
      | none => none
      | some s => match acome k (s, madd t.2 m) f with
        | none => none
        | some f' => aadds k c m g f') := if_pos h
theorem aadds_out {k : Nat} {c : aF} {m : aM} {t : aT} {g f : aP} (h : ¬ mok (madd t.2 m)) : aadds k c m (t :: g) f = none := if_neg h
theorem aprod_cons {k : Nat} {u : aT} {g us f : aP} : aprod k g (u :: us) f = (match aadds k u.1 u.2 g f with
    | none => none
    | some f' => aprod k g us f') := rfl
theorem aadds_ok {k : Nat} {c : aF} {m : aM} (hc : fok c) (hc0 : c.1 ≠ 0) : ∀ {g f f' : aP}, (∀ t ∈ g, tok t) → pok k f → aadds k c m g f = some f' → pok k f'
  | [], f, f', _, hf, h => by cases h; exact hf
  | t :: g, f, f', hg, hf, h => by
    have ht := hg t List.mem_cons_self
    unfold aadds at h
    split at h
    · rename_i hmo
      split at h
      · cases h
      · rename_i s hs
        have hs2 := afmul_ok ht.1 hc ht.2.1 hc0 hs
        split at h
        · cases h
        · rename_i f1 hf1
          exact aadds_ok hc hc0 (fun t ht => hg t (List.mem_cons_of_mem _ ht)) (acome_ok (t := (s, madd t.2 m)) hf ⟨hs2.1, hs2.2, hmo⟩ hf1) h
    · cases h
theorem sp_adds {d p q o k : Nat} {M : zM} {f g : aP} {c : aF} {m : aM} {P : Int32 → zM → Prop} (hd : 4 ≤ d) (hp : pst M p o) (hq : pst M q o) (hpq : p + 4 ≤ q ∨ q + 4 ≤ p) (hop : ¬ inP p o) (ho : ost M o k) (hf : pdy M p k f) (hg : pdy M q k g) (hfk : pok k f) (hgk : pok k g) (hc : fok c) (hc0 : c.1 ≠ 0) (hm : mok m)
    (h1 : ∀ f' M', aadds k c m g f = some f' → zfr (inP p) M M' → pdy M' p k f' → P 1 M') (h0 : ∀ M', aadds k c m g f = none → zfr (inP p) M M' → P 0 M') : ycI d nX6_addMultiple [.ref p, .long (eF c), .int (e8 m), .ref q] M P := by
  obtain ⟨d, rfl, he⟩ := dS hd
  have hgl := hgk.2.2
  have loop : ∀ (n i : Nat) (fi : aP) (M' : zM) (o6 o7 o8 : Option Value), i + n = g.length → zfr (inP p) M M' → pdy M' p k fi → pok k fi → aadds k c m (g.drop i) fi = aadds k c m g f → wX6_addMultiple d (fun r M2 => ∃ x : Int32, r = [.int x] ∧ P x M2) 2 [some (.ref p), some (.long (eF c)), none, some (.int (e8 m)), some (.ref q), some (.int (nI i)), o6, o7, o8] [] M' := by
    intro n
    induction n with
    | zero =>
      intro i fi M' o6 o7 o8 hi hfr hpd hpk heq
      have hq' := pst_fr hfr hq
      have hg' := pdy_fr hfr (inP_ne hpq.symm) hg
      have hi' : i = g.length := by omega
      subst hi'
      rw [List.drop_length] at heq
      refine sg_X6_addMultiple_2 _ _ _ _ _ _ _ _ _ ⟨hq'.1, fun _ => ⟨Or.inr rfl, _, rfl, h1 fi M' heq.symm hfr hpd⟩, fun c => absurd (by rw [hg'.1]; exact Int32.le_refl _) c⟩
    | succ n ih =>
      intro i fi M' o6 o7 o8 hi hfr hpd hpk heq
      have hp' := pst_fr hfr hp
      have hq' := pst_fr hfr hq
      have ho' := ost_fr hfr hop ho
      have hg' := pdy_fr hfr (inP_ne hpq.symm) hg
      have hlt : i < g.length := by omega
      have hu := List.getElem?_eq_getElem hlt
      obtain ⟨g1, g2, g3⟩ := hg'.2 _ _ hu
      have htu := hgk.1 _ (List.mem_of_getElem? hu)
      have ci := cl_n (n := i) (by omega)
      have zi : zin (nI i) 100 := zin_n (by omega) (by omega)
      rw [List.drop_eq_getElem_cons hlt] at heq
      refine sg_X6_addMultiple_2 _ _ _ _ _ _ _ _ _ ⟨hq'.1, fun c => ?_, fun _ => ⟨hq'.1, p_k2 hq', by rw [p_l2 hq']; exact zi, ?_⟩⟩
      · rw [hg'.1] at c
        have := (nI_leI (by omega) (by omega)).mp c
        omega
      · intro v6
        have e6 : v6 = e8 (madd (g[i]).2 m) := by
          rw [show v6 = zI M' (zR M' q 2) (nI i).toNatClampNeg + e8 m from rfl, ci, hq'.2.2.2.1, g2, e8_add]
        clear_value v6
        subst e6
        refine sp_isInside (by omega) (madd_by htu.2.2 hm) (fun hin => ?_) (fun hout => ?_)
        · refine ⟨fun _ => ⟨hq'.1, p_k1 hq', by rw [p_l1 hq']; exact zi, ?_⟩, fun z => absurd (Classical.not_not.mp z) (by decide)⟩
          rw [ci, hq'.2.2.1, g1]
          rw [aadds_in hin] at heq
          refine sp_fmul (by omega) htu.1 hc ?_
          cases hs : afmul (g[i]).1 c with
          | none =>
            rw [hs] at heq
            refine ⟨fun _ => ⟨Or.inl rfl, _, rfl, h0 M' heq.symm hfr⟩, fun z => absurd (by decide) z⟩
          | some s =>
            rw [hs] at heq
            dsimp only at heq
            have hs2 := afmul_ok htu.1 hc htu.2.1 hc0 hs
            refine ⟨fun z => absurd z (eF_0 hs2.1), fun _ => ⟨hp'.1, ?_⟩⟩
            refine sp_come (t := (s, madd (g[i]).2 m)) (by omega) hp' ho' hpd hpk ⟨hs2.1, hs2.2, hin⟩ (fun L' M2 hL' hfr2 hpd2 => ?_) (fun hn => ?_)
            · rw [hL'] at heq
              dsimp only at heq
              refine ⟨fun _ => ?_, fun z => absurd (Classical.not_not.mp z) (by decide)⟩
              intro v5
              rw [show v5 = nI (i + 1) from nI_1 i]
              exact ih (i + 1) L' M2 _ _ _ (by omega) (zfr_tr hfr hfr2) hpd2 (acome_ok hpk ⟨hs2.1, hs2.2, hin⟩ hL') heq
            · rw [hn] at heq
              exact ⟨fun z => absurd rfl z, fun _ => ⟨Or.inl rfl, _, rfl, h0 M' heq.symm hfr⟩⟩
        · rw [aadds_out hout] at heq
          exact ⟨fun z => absurd rfl z, fun _ => ⟨Or.inl rfl, _, rfl, h0 M' heq.symm hfr⟩⟩
  exact en_X6_addMultiple _ _ _ _ M (sg_X6_addMultiple_0 _ _ _ _ M (loop g.length 0 f M _ _ _ (by omega) zfr_rf hf hfk rfl))
theorem aprod_ok {k : Nat} {g : aP} (hg : ∀ t ∈ g, tok t) : ∀ {us f f' : aP}, (∀ t ∈ us, tok t) → pok k f → aprod k g us f = some f' → pok k f'
  | [], f, f', _, hf, h => by cases h; exact hf
  | u :: us, f, f', hu, hf, h => by
    unfold aprod at h
    have htu := hu u List.mem_cons_self
    split at h
    · cases h
    · rename_i f1 hf1
      exact aprod_ok hg (fun t ht => hu t (List.mem_cons_of_mem _ ht)) (aadds_ok htu.1 htu.2.1 hg hf hf1) h
/-- this PLUS u g for each term u of f: three polynomials apart -/
theorem sp_addProduct {d p q r o k : Nat} {M : zM} {f us g : aP} {P : Int32 → zM → Prop} (hd : 5 ≤ d) (hp : pst M p o) (hq : pst M q o) (hr : pst M r o) (hpq : p + 4 ≤ q ∨ q + 4 ≤ p) (hpr : p + 4 ≤ r ∨ r + 4 ≤ p) (hop : ¬ inP p o) (ho : ost M o k) (hf : pdy M p k f) (hus : pdy M q k us) (hg : pdy M r k g) (hfk : pok k f) (husk : pok k us) (hgk : pok k g)
    (h1 : ∀ f' M', aprod k g us f = some f' → zfr (inP p) M M' → pdy M' p k f' → P 1 M') (h0 : ∀ M', aprod k g us f = none → zfr (inP p) M M' → P 0 M') : ycI d nX6_addProduct [.ref p, .ref q, .ref r] M P := by
  obtain ⟨d, rfl, he⟩ := dS hd
  have hul := husk.2.2
  have loop : ∀ (n i : Nat) (fi : aP) (M' : zM), i + n = us.length → zfr (inP p) M M' → pdy M' p k fi → pok k fi → aprod k g (us.drop i) fi = aprod k g us f → wX6_addProduct d (fun r M2 => ∃ x : Int32, r = [.int x] ∧ P x M2) 2 [some (.ref p), some (.ref q), some (.ref r), some (.int (nI i))] [] M' := by
    intro n
    induction n with
    | zero =>
      intro i fi M' hi hfr hpd hpk heq
      have hq' := pst_fr hfr hq
      have hu' := pdy_fr hfr (inP_ne hpq.symm) hus
      have hi' : i = us.length := by omega
      subst hi'
      rw [List.drop_length] at heq
      refine sg_X6_addProduct_2 _ _ _ _ _ ⟨hq'.1, fun _ => ⟨Or.inr rfl, _, rfl, h1 fi M' heq.symm hfr hpd⟩, fun c => absurd (by rw [hu'.1]; exact Int32.le_refl _) c⟩
    | succ n ih =>
      intro i fi M' hi hfr hpd hpk heq
      have hp' := pst_fr hfr hp
      have hq' := pst_fr hfr hq
      have hr' := pst_fr hfr hr
      have ho' := ost_fr hfr hop ho
      have hu' := pdy_fr hfr (inP_ne hpq.symm) hus
      have hg' := pdy_fr hfr (inP_ne hpr.symm) hg
      have hlt : i < us.length := by omega
      have hu := List.getElem?_eq_getElem hlt
      obtain ⟨g1, g2, g3⟩ := hu'.2 _ _ hu
      have htu := husk.1 _ (List.mem_of_getElem? hu)
      have ci := cl_n (n := i) (by omega)
      have zi : zin (nI i) 100 := zin_n (by omega) (by omega)
      rw [List.drop_eq_getElem_cons hlt, aprod_cons] at heq
      refine sg_X6_addProduct_2 _ _ _ _ _ ⟨hq'.1, fun c => ?_, fun _ => ⟨hq'.1, p_k1 hq', by rw [p_l1 hq']; exact zi, hq'.1, p_k2 hq', by rw [p_l2 hq']; exact zi, hp'.1, ?_⟩⟩
      · rw [hu'.1] at c
        have := (nI_leI (by omega) (by omega)).mp c
        omega
      · rw [ci, hq'.2.2.1, hq'.2.2.2.1, g1, g2]
        refine sp_adds (by omega) hp' hr' hpr hop ho' hpd hg' hpk hgk htu.1 htu.2.1 htu.2.2 (fun f' M2 hf' hfr2 hpd2 => ?_) (fun M2 hn hfr2 => ?_)
        · rw [hf'] at heq
          dsimp only at heq
          refine ⟨fun _ => ?_, fun z => absurd (Classical.not_not.mp z) (by decide)⟩
          intro v3
          rw [show v3 = nI (i + 1) from nI_1 i]
          exact ih (i + 1) f' M2 (by omega) (zfr_tr hfr hfr2) hpd2 (aadds_ok htu.1 htu.2.1 hgk.1 hpk hf') heq
        · rw [hn] at heq
          exact ⟨fun z => absurd rfl z, fun _ => ⟨Or.inl rfl, _, rfl, h0 M2 heq.symm (zfr_tr hfr hfr2)⟩⟩
  exact en_X6_addProduct _ _ _ M (sg_X6_addProduct_0 _ _ _ M (loop us.length 0 f M (by omega) zfr_rf hf hfk rfl))
theorem pok_nil {k : Nat} : pok k [] := ⟨fun _ h => absurd h List.not_mem_nil, List.Pairwise.nil, by simp⟩
theorem sp_becomeProduct {d p q r o k : Nat} {M : zM} {us g : aP} {P : Int32 → zM → Prop} (hd : 6 ≤ d) (hp : pst M p o) (hq : pst M q o) (hr : pst M r o) (hpq : p + 4 ≤ q ∨ q + 4 ≤ p) (hpr : p + 4 ≤ r ∨ r + 4 ≤ p) (hop : ¬ inP p o) (ho : ost M o k) (hus : pdy M q k us) (hg : pdy M r k g) (husk : pok k us) (hgk : pok k g)
    (h1 : ∀ f' M', aprod k g us [] = some f' → zfr (inP p) M M' → pdy M' p k f' → P 1 M') (h0 : ∀ M', aprod k g us [] = none → zfr (inP p) M M' → P 0 M') : ycI d nX6_becomeProduct [.ref p, .ref q, .ref r] M P := by
  obtain ⟨d, rfl, he⟩ := dS hd
  refine en_X6_becomeProduct _ _ _ M (sg_X6_becomeProduct_0 _ _ _ M ⟨hp.1, sp_empty (k := k) (by omega) hp fun M1 hfr hpd => ⟨(pst_fr hfr hp).1, ?_⟩⟩)
  refine sp_addProduct (by omega) (pst_fr hfr hp) (pst_fr hfr hq) (pst_fr hfr hr) hpq hpr hop (ost_fr hfr hop ho) hpd (pdy_fr hfr (inP_ne hpq.symm) hus) (pdy_fr hfr (inP_ne hpr.symm) hg) pok_nil husk hgk (fun f' M2 hf' hfr2 hpd2 => ⟨Or.inr rfl, _, rfl, h1 f' M2 hf' (zfr_tr hfr hfr2) hpd2⟩) (fun M2 hn hfr2 => ⟨Or.inl rfl, _, rfl, h0 M2 hn (zfr_tr hfr hfr2)⟩)
/-- all fractions multiplied -/
def ascal (c : aF) : aP → Option aP
  | [] => some []
  | t :: l => match afmul t.1 c with
    | none => none
    | some s => (ascal c l).map fun l' => (s, t.2) :: l'
theorem ascal_cons {c : aF} {t : aT} {l : aP} : ascal c (t :: l) = (match afmul t.1 c with
    | none => none
    | some s => (ascal c l).map fun l' => (s, t.2) :: l') := rfl
theorem ascal_ok {k : Nat} {c : aF} (hc : fok c) (hc0 : c.1 ≠ 0) : ∀ {L L' : aP}, (∀ t ∈ L, tok t) → ascal c L = some L' → (∀ t ∈ L', tok t) ∧ L'.map (fun t => ark k t.2) = L.map (fun t => ark k t.2) ∧ L'.map Prod.snd = L.map Prod.snd
  | [], L', _, h => by cases h; exact ⟨fun _ h => absurd h List.not_mem_nil, rfl, rfl⟩
  | t :: l, L', ht, h => by
    have ht0 := ht t List.mem_cons_self
    unfold ascal at h
    split at h
    · cases h
    · rename_i s hs
      have hs2 := afmul_ok ht0.1 hc ht0.2.1 hc0 hs
      cases hl : ascal c l with
      | none => rw [hl] at h; cases h
      | some l' =>
        rw [hl] at h
        cases h
        obtain ⟨i1, i2, i3⟩ := ascal_ok (k := k) hc hc0 (fun t h => ht t (List.mem_cons_of_mem _ h)) hl
        refine ⟨fun x hx => ?_, by simp [i2], by simp [i3]⟩
        rcases List.mem_cons.mp hx with rfl | hx
        · exact ⟨hs2.1, hs2.2, ht0.2.2⟩
        · exact i1 x hx
theorem ascal_pok {k : Nat} {c : aF} {L L' : aP} (hc : fok c) (hc0 : c.1 ≠ 0) (hL : pok k L) (h : ascal c L = some L') : pok k L' := by
  obtain ⟨h1, h2, h3⟩ := ascal_ok (k := k) hc hc0 hL.1 h
  refine ⟨h1, ?_, ?_⟩
  · have e1 : (L'.map fun t => ark k t.2).Pairwise (fun x y => y < x) ↔ srt k L' := List.pairwise_map
    have e2 : (L.map fun t => ark k t.2).Pairwise (fun x y => y < x) ↔ srt k L := List.pairwise_map
    rw [h2] at e1
    exact e1.mp (e2.mpr hL.2.1)
  · have := congrArg List.length h3
    rw [List.length_map, List.length_map] at this
    rw [this]
    exact hL.2.2
theorem sp_multiply {d p o k : Nat} {M : zM} {L : aP} {c : aF} {P : Int32 → zM → Prop} (hd : 3 ≤ d) (hp : pst M p o) (hL : pdy M p k L) (hk : pok k L) (hc : fok c) (hc0 : c.1 ≠ 0) (h1 : ∀ L' M', ascal c L = some L' → zfr (inP p) M M' → pdy M' p k L' → P 1 M') (h0 : ∀ M', ascal c L = none → zfr (inP p) M M' → P 0 M') : ycI d nX6_multiply [.ref p, .long (eF c)] M P := by
  obtain ⟨d, rfl, he⟩ := dS hd
  have hl := hk.2.2
  have loop : ∀ (n i : Nat) (pre : aP) (M' : zM) (o4 o5 : Option Value), i + n = L.length → pre.length = i → zfr (inP p) M M' → pdy M' p k (pre ++ L.drop i) → (ascal c (L.drop i)).map (fun l => pre ++ l) = ascal c L → wX6_multiply d (fun r M2 => ∃ x : Int32, r = [.int x] ∧ P x M2) 2 [some (.ref p), some (.long (eF c)), none, some (.int (nI i)), o4, o5] [] M' := by
    intro n
    induction n with
    | zero =>
      intro i pre M' o4 o5 hi hpre hfr hpd heq
      have hp' := pst_fr hfr hp
      have hi' : i = L.length := by omega
      subst hi'
      rw [List.drop_length] at heq hpd
      rw [List.append_nil] at hpd
      have heq : some (pre ++ []) = ascal c L := heq
      rw [List.append_nil] at heq
      refine sg_X6_multiply_2 _ _ _ _ _ _ ⟨hp'.1, fun _ => ⟨Or.inr rfl, _, rfl, h1 pre M' heq.symm hfr hpd⟩, fun c => absurd (by rw [hpd.1, hpre]; exact Int32.le_refl _) c⟩
    | succ n ih =>
      intro i pre M' o4 o5 hi hpre hfr hpd heq
      have hp' := pst_fr hfr hp
      have hlt : i < L.length := by omega
      have hlen : (pre ++ L.drop i).length = L.length := by rw [List.length_append, List.length_drop]; omega
      have hu : (pre ++ L.drop i)[i]? = some L[i] := by
        rw [List.getElem?_append_right (by omega), hpre, Nat.sub_self, List.drop_eq_getElem_cons hlt]
        rfl
      obtain ⟨g1, g2, g3⟩ := hpd.2 _ _ hu
      have htu := hk.1 _ (List.getElem_mem hlt)
      have ci := cl_n (n := i) (by omega)
      have zi : zin (nI i) 100 := zin_n (by omega) (by omega)
      rw [List.drop_eq_getElem_cons hlt, ascal_cons] at heq
      refine sg_X6_multiply_2 _ _ _ _ _ _ ⟨hp'.1, fun c => ?_, fun _ => ⟨hp'.1, p_k1 hp', by rw [p_l1 hp']; exact zi, ?_⟩⟩
      · rw [hpd.1, hlen] at c
        have := (nI_leI (by omega) (by omega)).mp c
        omega
      · rw [ci, hp'.2.2.1, g1]
        refine sp_fmul (by omega) htu.1 hc ?_
        cases hs : afmul (L[i]).1 c with
        | none =>
          rw [hs] at heq
          exact ⟨fun z => absurd (show lg_cmp (0 : Int64) 0 = 0 by decide) z, fun _ => ⟨Or.inl rfl, _, rfl, h0 M' heq.symm hfr⟩⟩
        | some s =>
          rw [hs] at heq
          have hs2 := afmul_ok htu.1 hc htu.2.1 hc0 hs
          refine ⟨fun _ => ⟨hp'.1, p_k1 hp', by rw [p_l1 hp']; exact zi, ?_⟩, fun z => absurd (Classical.not_not.mp z) (eF_0 hs2.1)⟩
          intro M3 v3
          rw [show v3 = nI (i + 1) from nI_1 i]
          have hfr3 : zfr (inP p) M' M3 := zfr_uL (by rw [hp'.2.2.1]; exact ⟨by omega, by omega⟩)
          refine ih (i + 1) (pre ++ [(s, (L[i]).2)]) M3 _ _ (by omega) (by rw [List.length_append, hpre]; rfl) (zfr_tr hfr hfr3) ⟨?_, fun j t hj => ?_⟩ ?_
          · rw [List.append_assoc, List.length_append, List.length_append, List.length_drop, hpre]
            have : zI M3 p 4 = zI M' p 4 := rfl
            rw [this, hpd.1, hlen]
            congr 1
            show L.length = i + (1 + (L.length - (i + 1)))
            omega
          · have r1 : zL M3 (p + 1) j = if j = i then eF s else zL M' (p + 1) j := by
              rw [show M3 = zuL M' (zR M' p 1) i (eF s) from rfl, hp'.2.2.1, zL_uL]
              simp only [true_and]
            rw [r1]
            by_cases hji : j = i
            · subst hji
              rw [List.append_assoc, List.getElem?_append_right (by omega), hpre, Nat.sub_self] at hj
              cases hj
              rw [if_pos rfl]
              exact ⟨rfl, g2, g3⟩
            · rw [if_neg hji]
              refine hpd.2 j t ?_
              rw [← hj]
              by_cases hjl : j < i
              · rw [List.append_assoc, List.getElem?_append_left (by omega), List.getElem?_append_left (by omega)]
              · rw [List.getElem?_append_right (by omega), List.getElem?_append_right (by rw [List.length_append, hpre]; simp; omega), List.getElem?_drop, List.getElem?_drop, List.length_append, hpre]
                congr 1
                simp
                omega
          · rw [← heq]
            cases ascal c (L.drop (i + 1)) with
            | none => rfl
            | some l => simp
  exact en_X6_multiply _ _ M (sg_X6_multiply_0 _ _ M (loop L.length 0 [] M _ _ (by omega) rfl zfr_rf hL (by rw [List.drop_zero]; cases ascal c L <;> rfl)))
