/-! generators become elements, in the class -/
def gst (M : zM) (G o : Nat) : Prop := zsh M G = (5, 9) ∧ ∀ g, g < 9 → zR M G g = G + 1 + 4 * g ∧ pst M (G + 1 + 4 * g) o
def gdy (M : zM) (G k : Nat) (gens : List aP) : Prop := ∀ (g : Nat) (L : aP), gens[g]? = some L → pdy M (G + 1 + 4 * g) k L ∧ pok k L
theorem gst_fr {S : Nat → Prop} {M M' : zM} {G o : Nat} (h : zfr S M M') (hg : gst M G o) : gst M' G o := ⟨by rw [h.1]; exact hg.1, fun g hl => ⟨by rw [h.2.2.2.1]; exact (hg.2 g hl).1, pst_fr h (hg.2 g hl).2⟩⟩
theorem gdy_fr {S : Nat → Prop} {M M' : zM} {G k : Nat} {gens : List aP} (h : zfr S M M') (hl : gens.length ≤ 9) (hd : ∀ a, G + 1 ≤ a → a < G + 37 → ¬ S a) (hg : gdy M G k gens) : gdy M' G k gens := fun g L hL => by
  have := (List.getElem?_eq_some_iff.mp hL).1
  exact ⟨pdy_fr h (fun a ha => hd a (by unfold inP at ha; omega) (by unfold inP at ha; omega)) (hg g L hL).1, (hg g L hL).2⟩
theorem aunit_len {sh g : Nat} : (aunit sh g).length = sh := by unfold aunit; simp
theorem aunit_at {sh g i : Nat} {L : aP} (h : (aunit sh g)[i]? = some L) : i < sh ∧ L = if i = g then [((1, 1), mone)] else [] := by
  have hi := (List.getElem?_eq_some_iff.mp h).1
  rw [aunit_len] at hi
  refine ⟨hi, ?_⟩
  unfold aunit at h
  rw [List.getElem?_map, List.getElem?_range hi] at h
  exact (Option.some.inj h).symm
theorem mone_ok : mok mone := by unfold mok mone; decide
theorem tok_1 : tok ((1, 1), mone) := ⟨fok_1, by decide, mone_ok⟩
theorem pok_1 {k : Nat} {t : aT} (h : tok t) : pok k [t] := ⟨fun u hu => by rw [List.mem_singleton.mp hu]; exact h, List.pairwise_singleton _ _, by simp⟩
theorem aunit_ok {k sh g : Nat} : ∀ L ∈ aunit sh g, pok k L := fun L hL => by
  obtain ⟨i, hi⟩ := List.getElem?_of_mem hL
  rw [(aunit_at hi).2]
  split
  · exact pok_1 tok_1
  · exact pok_nil
theorem aadopt_s {sh g : Nat} {gens : List aP} : aadopt sh gens (g + 1) = if (aadopt sh gens g).1 = 0 ∧ (gens.getD g []).length ≠ 0 then (match amonic (gens.getD g [], aunit sh g) with
      | none => (2, (aadopt sh gens g).2)
      | some E => (0, (aadopt sh gens g).2.1 ++ [E], won (aadopt sh gens g).2.2 (aadopt sh gens g).2.1.length)) else aadopt sh gens g := rfl
theorem aadopt_no {sh g : Nat} {gens : List aP} (h : (aadopt sh gens g).1 ≠ 0) : ∀ {m : Nat}, g ≤ m → aadopt sh gens m = aadopt sh gens g
  | 0, hm => by rw [show g = 0 by omega]
  | m + 1, hm => by
    by_cases e : g = m + 1
    · rw [e]
    · have ih := aadopt_no h (show g ≤ m by omega)
      rw [aadopt_s, if_neg (by rw [ih]; exact fun z => h z.1), ih]
theorem amonic_ne {k : Nat} {E E' : aE} (hE : eok k E) (h : amonic E = some E') : E'.1 ≠ [] := by
  have h2 := (amonic_ok hE h).2.2
  intro z
  rw [z] at h2
  have h2 : [] = E.1.map Prod.snd := h2
  unfold amonic at h
  split at h
  · cases h
  · rename_i t l hl
    rw [hl] at h2
    cases h2
theorem sp_adopt {d H G o w k sh : Nat} {M : zM} {eid : Nat → Nat} {gens : List aP} {P : Int32 → zM → Prop} (hd : 5 ≤ d) (hI : ist M H o w eid) (ho : ost M o k) (hsh : sh ≤ w) (hGH : G + 37 ≤ H) (hG : gst M G o) (hg : gdy M G k gens) (hgl : gens.length ≤ 9) (hc : icn M H sh 0)
    (h : ∀ M', zfr (inI H w) M M' → (∀ j, j ≠ 2 → zI M' H j = zI M H j) → icn M' H sh (aadopt sh gens gens.length).2.1.length → iel M' eid k (aadopt sh gens gens.length).2.1 → iok k sh (aadopt sh gens gens.length).2.1 → iwt M' H w k (aadopt sh gens gens.length).2.1 (aadopt sh gens gens.length).2.2 → P (ecode (aadopt sh gens gens.length).1) M') : ycI d nX3_adopt [.ref H, .ref G, .int (nI gens.length)] M P := by
  obtain ⟨d, rfl, he⟩ := dS hd
  have hw8 := hI.2.2.2.2
  have hoH := hI.2.2.2.1
  have hIe : ∀ i, i < 25 → ∀ a, inE w (eid i) a → inI H w a := fun i hi a ha => by
    have := hI.2.2.1.1 i hi
    unfold inE at ha
    unfold inI
    omega
  have loop : ∀ (n g : Nat) (M' : zM) (o4 o5 : Option Value), g + n = gens.length → (aadopt sh gens g).1 = 0 → (aadopt sh gens g).2.1.length ≤ g → zfr (inI H w) M M' → (∀ j, j ≠ 2 → zI M' H j = zI M H j) → icn M' H sh (aadopt sh gens g).2.1.length → iel M' eid k (aadopt sh gens g).2.1 → iok k sh (aadopt sh gens g).2.1 → iwt M' H w k (aadopt sh gens g).2.1 (aadopt sh gens g).2.2 → wX3_adopt d (fun r M2 => ∃ x : Int32, r = [.int x] ∧ P x M2) 2 [some (.ref H), some (.ref G), some (.int (nI gens.length)), some (.int (nI g)), o4, o5] [] M' := by
    intro n
    induction n with
    | zero =>
      intro g M' o4 o5 hgn hx0 hxl hfr hf hcn hel hok hwt
      rw [show g = gens.length by omega] at hx0 hcn hel hok hwt
      refine sg_X3_adopt_2 _ _ _ _ _ _ _ ⟨fun _ => ⟨_, rfl, ?_⟩, fun c => absurd (by rw [show g = gens.length by omega]; exact Int32.le_refl _) c⟩
      have := h M' hfr hf hcn hel hok hwt
      rw [hx0] at this
      exact this
    | succ n ih =>
      intro g M' o4 o5 hgn hx0 hxl hfr hf hcn hel hok hwt
      have hgl2 : g < gens.length := by omega
      have cg := cl_n (n := g) (by omega)
      have hG' := gst_fr hfr hG
      have hI' := ist_fr hfr hI
      have ho' := ost_fr hfr (by unfold inI; omega) ho
      have hgg := gdy_fr hfr hgl (fun a h1 h2 => by unfold inI; omega) hg g _ (show gens[g]? = some (gens.getD g []) by rw [List.getD_eq_getElem?_getD, List.getElem?_eq_getElem hgl2]; rfl)
      have stp := aadopt_s (sh := sh) (g := g) (gens := gens)
      generalize hxx : aadopt sh gens g = x at hx0 hxl hcn hel hok hwt stp
      generalize gens.getD g [] = b at hgg stp
      have hbl := hgg.2.2.2
      have hGg := hG'.2 g (by omega)
      refine sg_X3_adopt_2 _ _ _ _ _ _ _ ⟨fun c => ?_, fun _ => ⟨by rw [hG'.1], by rw [hG'.1]; exact zin_n (by omega) (by omega), by rw [cg, hGg.1]; exact hGg.2.1, ?_⟩⟩
      · have := (nI_leI (by omega) (by omega)).mp c
        omega
      · rw [cg, hGg.1, hgg.1.1]
        refine ⟨fun c => ?_, fun c => ?_⟩
        · have c := (nI_leI (b := 0) (by omega) (by omega)).mp c
          rw [if_neg (fun z => z.2 (by omega))] at stp
          intro v3
          rw [show v3 = nI (g + 1) from nI_1 g]
          rw [← stp] at hx0 hxl hcn hel hok hwt
          exact ih (g + 1) M' _ _ (by omega) hx0 (by omega) hfr hf hcn hel hok hwt
        · have hb0 : b.length ≠ 0 := fun z => c (by rw [z]; decide)
          rw [if_pos ⟨hx0, hb0⟩] at stp
          have hc' := hcn
          have hlx : x.2.1.length ≤ 8 := by omega
          have cn := cl_n (n := x.2.1.length) (by omega)
          have s' := hI'.1.1
          have hr1 := hI'.1.2.2.1
          have hRn := hI'.2.1.2 x.2.1.length (by omega)
          have bn := hI'.2.2.1.1 x.2.1.length (by omega)
          refine ⟨s', s', by rw [hr1, hI'.2.1.1], by rw [hr1, hI'.2.1.1, hc'.1]; exact zin_n (by omega) (by omega), ?_⟩
          intro r4
          have e4 : r4 = eid x.2.1.length := by rw [show r4 = zR M' (zR M' H 1) (zI M' H 2).toNatClampNeg from rfl, hr1, hc'.1, cn, hRn.1]
          clear_value r4
          subst e4
          refine ⟨hRn.2.1, by rw [hG'.1], by rw [hG'.1]; exact zin_n (by omega) (by omega), by rw [hRn.2.2.1]; exact hRn.2.2.2.2.2.2.1.1, ?_⟩
          rw [hRn.2.2.1]
          refine sp_become (by omega) hRn.2.2.2.2.2.2.1 hGg.2 (by omega) hgg.1 hbl fun M3 hfr3 hpd3 => ?_
          -- the last steps: made monic, and added
          have fin : ∀ (M5 : zM) (o5 : Option Value), zfr (inE w (eid x.2.1.length)) M' M5 → edy M5 (eid x.2.1.length) k (b, aunit sh g) → ycI d nX1_makeMonic [.ref (eid x.2.1.length), .int (zI M5 H 10)] M5 fun c8 M7 => ((¬ c8 = 0 → ((zsh M7 H).1 = 12 ∧ (ycV d nX3_add [.ref H] M7 fun M9 => (let v3_10 : Int32 := nI g + 1
wX3_adopt d (fun r M2 => ∃ x : Int32, r = [.int x] ∧ P x M2) 2 [some (.ref H), some (.ref G), some (.int (nI gens.length)), some (.int v3_10), some (.ref (eid x.2.1.length)), o5] [] M9)))) ∧ (¬ (¬ c8 = 0) → (∃ x : Int32, [Value.int (((-7) : Int32))] = [.int x] ∧ P x M7))) := by
            intro M5 o5 hfr5 hed
            have hI5 := ist_fr hfr5 hI'
            have hRn5 := hI5.2.1.2 x.2.1.length (by omega)
            have hc5 := icn_fr hfr5 (by unfold inE; omega) hc'
            have hek : eok k (b, aunit sh g) := ⟨hgg.2, aunit_ok⟩
            rw [hc5.2.1]
            have hHf : ∀ {M7 : zM}, zfr (inE w (eid x.2.1.length)) M5 M7 → ∀ j, zI M7 H j = zI M' H j := fun hfr7 j => by rw [(hfr7.2.2.2.2 H (by unfold inE; omega)).1, (hfr5.2.2.2.2 H (by unfold inE; omega)).1]
            have hother : ∀ {M7 : zM}, zfr (inE w (eid x.2.1.length)) M5 M7 → iel M7 eid k x.2.1 := fun hfr7 => iel_fr (zfr_tr hfr5 hfr7) hI' hok hsh (by omega) (fun i hi a ha => by
              have := hI'.2.2.1.2 i x.2.1.length (by omega) (by omega) (by omega)
              unfold inE at ha
              unfold inE
              omega) hel
            refine sp_makeMonic (by omega) hRn5.2 hed hek (fun z => hb0 (by rw [show b = [] from z]; rfl)) aunit_len hsh hw8 (fun E' M7 hE' hfr7 hed7 => ?_) (fun M7 hn7 hfr7 => ?_)
            · rw [hE'] at stp
              have hI7 := ist_fr hfr7 hI5
              obtain ⟨k1, k2, k3⟩ := amonic_ok hek hE'
              have hok7 := iok_app hok k1 (amonic_ne hek hE') (k2.trans aunit_len)
              refine ⟨fun _ => ⟨hI7.1.1, ?_⟩, fun z => absurd (Classical.not_not.mp z) (by decide)⟩
              refine sp_add (by omega) hI7 (ost_fr (zfr_tr hfr5 hfr7) (by unfold inE; omega) ho') hsh (icn_fr hfr7 (by unfold inE; omega) hc5) (by omega) (iel_app (hother hfr7) hed7) hok7 (iwt_fr (zfr_tr hfr5 hfr7) (by unfold inE; omega) hwt) fun M9 hfr9 hf9 hc9 hw9 => ?_
              intro v3
              rw [show v3 = nI (g + 1) from nI_1 g]
              have hfa : zfr (inI H w) M' M9 := zfr_tr (zfr_up (zfr_tr hfr5 hfr7) (hIe _ (by omega))) (zfr_up hfr9 fun a ha => by unfold inI; omega)
              have hel9 : iel M9 eid k (x.2.1 ++ [E']) := iel_fr hfr9 hI7 hok7 hsh (by simp; omega) (fun i hi a ha => by
                have hi2 : i < x.2.1.length + 1 := by simpa using hi
                have := hI7.2.2.1.1 i (by omega)
                unfold inE at ha
                omega) (iel_app (hother hfr7) hed7)
              have el : (aadopt sh gens (g + 1)).2.1 = x.2.1 ++ [E'] := by rw [stp]
              have ew : (aadopt sh gens (g + 1)).2.2 = won x.2.2 x.2.1.length := by rw [stp]
              refine ih (g + 1) M9 _ _ (by omega) (by rw [stp]) (by rw [el]; simp; omega) (zfr_tr hfr hfa) (fun j hj => ?_) (by rw [el, List.length_append]; exact hc9) (by rw [el]; exact hel9) (by rw [el]; exact hok7) (by rw [el, ew]; exact hw9)
              rw [hf9 j hj, hHf hfr7 j]
              exact hf j hj
            · rw [hn7] at stp
              have stp : aadopt sh gens (g + 1) = (2, x.2) := stp
              have hno := aadopt_no (sh := sh) (g := g + 1) (gens := gens) (by rw [stp]; exact (by decide : (2 : Nat) ≠ 0)) (show g + 1 ≤ gens.length by omega)
              rw [stp] at hno
              refine ⟨fun z => absurd rfl z, fun _ => ⟨_, rfl, ?_⟩⟩
              have := h M7 (zfr_tr hfr (zfr_up (zfr_tr hfr5 hfr7) (hIe _ (by omega)))) (fun j hj => by rw [hHf hfr7 j]; exact hf j hj)
              rw [hno] at this
              exact this (icn_fr hfr7 (by unfold inE; omega) hc5) (hother hfr7) hok (iwt_fr (zfr_tr hfr5 hfr7) (by unfold inE; omega) hwt)
          -- cofactors emptied
          have inner : ∀ (m i : Nat) (M4 : zM), i + m = sh → zfr (inE w (eid x.2.1.length)) M' M4 → pdy M4 (eid x.2.1.length + 1) k b → (∀ j, j < i → pdy M4 (eid x.2.1.length + 6 + 4 * j) k []) → wX3_adopt d (fun r M2 => ∃ x : Int32, r = [.int x] ∧ P x M2) 24 [some (.ref H), some (.ref G), some (.int (nI gens.length)), some (.int (nI g)), some (.ref (eid x.2.1.length)), some (.int (nI i))] [] M4 := by
            intro m
            induction m with
            | zero =>
              intro i M4 him hfr4 hpd4 hem
              have hI4 := ist_fr hfr4 hI'
              have hRn4 := hI4.2.1.2 x.2.1.length (by omega)
              have hc4 := icn_fr hfr4 (by unfold inE; omega) hc'
              have hin : i = sh := by omega
              refine sg_X3_adopt_24 _ _ _ _ _ _ _ ⟨hI4.1.1, fun _ => ⟨hI4.1.1, fun c => ⟨hI4.1.1, hRn4.2.1, ?_⟩, fun c => ?_⟩, fun c => absurd (by rw [hc4.2.1, hin]; exact Int32.le_refl _) c⟩
              · rw [hc4.2.1] at c
                have c := (nI_leI (by omega) (by omega)).mp c
                refine fin M4 _ hfr4 ⟨hpd4, fun j L hj => ?_⟩
                obtain ⟨j1, j2⟩ := aunit_at hj
                rw [j2, if_neg (by omega)]
                exact hem j (by omega)
              · rw [hc4.2.1] at c
                have c : ¬ sh ≤ g := fun z => c ((nI_leI (by omega) (by omega)).mpr z)
                have hp := hRn4.2.2.2.2.2.2.2 g (by omega)
                refine ⟨hRn4.2.1, by rw [hRn4.2.2.2.1, hRn4.2.2.2.2.1], by rw [hRn4.2.2.2.1, hRn4.2.2.2.2.1]; exact zin_n (by omega) (by omega), by rw [hRn4.2.2.2.1, cg, hRn4.2.2.2.2.2.1 g (by omega)]; exact hp.1, ?_⟩
                rw [hRn4.2.2.2.1, cg, hRn4.2.2.2.2.2.1 g (by omega)]
                refine sp_come (t := ((1, 1), mone)) (by omega) hp (ost_fr hfr4 (by unfold inE; omega) ho') (hem g (by omega)) pok_nil tok_1 (fun L' M5 hL' hfr5 hpd5 => ?_) (fun hn => by cases hn)
                have hL' : some [((1, 1), mone)] = some L' := hL'
                cases hL'
                have hfr5' : zfr (inE w (eid x.2.1.length)) M4 M5 := zfr_up hfr5 fun a ha => by unfold inP at ha; unfold inE; omega
                have hI5 := ist_fr hfr5 hI4
                refine ⟨fun _ => ⟨hI5.1.1, (hI5.2.1.2 _ (by omega)).2.1, fin M5 _ (zfr_tr hfr4 hfr5') ⟨pdy_fr hfr5 (inP_ne (by omega)) hpd4, fun j L hj => ?_⟩⟩, fun z => absurd (Classical.not_not.mp z) (by decide)⟩
                obtain ⟨j1, j2⟩ := aunit_at hj
                by_cases hjg : j = g
                · rw [j2, if_pos hjg, hjg]
                  exact hpd5
                · rw [j2, if_neg hjg]
                  exact pdy_fr hfr5 (inP_ne (by omega)) (hem j (by omega))
            | succ m ihm =>
              intro i M4 him hfr4 hpd4 hem
              have hI4 := ist_fr hfr4 hI'
              have hRn4 := hI4.2.1.2 x.2.1.length (by omega)
              have hc4 := icn_fr hfr4 (by unfold inE; omega) hc'
              have ci := cl_n (n := i) (by omega)
              have hp := hRn4.2.2.2.2.2.2.2 i (by omega)
              refine sg_X3_adopt_24 _ _ _ _ _ _ _ ⟨hI4.1.1, fun c => ?_, fun _ => ⟨hRn4.2.1, by rw [hRn4.2.2.2.1, hRn4.2.2.2.2.1], by rw [hRn4.2.2.2.1, hRn4.2.2.2.2.1]; exact zin_n (by omega) (by omega), by rw [hRn4.2.2.2.1, ci, hRn4.2.2.2.2.2.1 i (by omega)]; exact hp.1, ?_⟩⟩
              · rw [hc4.2.1] at c
                have := (nI_leI (by omega) (by omega)).mp c
                omega
              · rw [hRn4.2.2.2.1, ci, hRn4.2.2.2.2.2.1 i (by omega)]
                refine sp_empty (k := k) (by omega) hp fun M5 hfr5 hpd5 => ?_
                intro v5
                rw [show v5 = nI (i + 1) from nI_1 i]
                refine ihm (i + 1) M5 (by omega) (zfr_tr hfr4 (zfr_up hfr5 fun a ha => by unfold inP at ha; unfold inE; omega)) (pdy_fr hfr5 (inP_ne (by omega)) hpd4) fun j hj => ?_
                by_cases hji : j = i
                · rw [hji]; exact hpd5
                · exact pdy_fr hfr5 (inP_ne (by omega)) (hem j (by omega))
          exact inner sh 0 M3 (by omega) (zfr_up hfr3 fun a ha => by unfold inP at ha; unfold inE; omega) hpd3 fun j hj => absurd hj (Nat.not_lt_zero _)
  exact en_X3_adopt _ _ _ M (sg_X3_adopt_0 _ _ _ M (loop gens.length 0 M _ _ (by omega) rfl (Nat.le_refl _) zfr_rf (fun _ _ => rfl) hc (fun i E hi => by cases hi) (fun E hE => absurd hE List.not_mem_nil) (fun i j _ hj => absurd hj (Nat.not_lt_zero _))))
