/-! the reference: a new element -/
theorem alow_one {a : Int} (h : 0 < a) : alow a a = some (1, 1) := by
  have hg : ((Int.gcd a a : Nat) : Int) = a := by rw [Int.gcd_self]; omega
  have h1 : a / a = 1 := Int.ediv_self (by omega)
  unfold alow
  rw [hg, h1, if_pos (by omega)]
theorem afmul_inv {f : aF} (hf : fok f) (h0 : f.1 ≠ 0) : afmul f (afinv f) = some (1, 1) := by
  obtain ⟨⟨h1, h2⟩, h3, h4⟩ := hf
  unfold afmul afinv
  split
  · rename_i hn
    show alow (f.1 * -f.2) (f.2 * -f.1) = _
    rw [show f.1 * -f.2 = f.2 * -f.1 by rw [Int.mul_neg, Int.mul_neg, Int.mul_comm]]
    exact alow_one (Int.mul_pos h3 (by omega))
  · rename_i hn
    show alow (f.1 * f.2) (f.2 * f.1) = _
    rw [Int.mul_comm f.1 f.2]
    exact alow_one (Int.mul_pos h3 (by omega))
theorem ascal_cp {c : aF} (hc : fok c) : ∀ {L L' : aP}, (∀ t ∈ L, tok t) → ascal c L = some L' → pcp L'
  | [], L', _, h => by cases h; exact pcp_nil
  | t :: l, L', hL, h => by
    rw [ascal_cons] at h
    have ht := hL t List.mem_cons_self
    split at h
    · cases h
    · rename_i s hs
      cases hl : ascal c l with
      | none => rw [hl] at h; cases h
      | some l' =>
        rw [hl] at h
        cases h
        intro u hu
        rcases List.mem_cons.mp hu with rfl | hu
        · exact alow_cp (Int.mul_pos ht.1.2.1 hc.2.1) hs
        · exact ascal_cp hc (fun t ht => hL t (List.mem_cons_of_mem _ ht)) hl u hu
theorem ascal_vn {nv k : Nat} {c : aF} {L L' : aP} (hc : fok c) (hc0 : c.1 ≠ 0) (hk : pok k L) (hv : pvn nv L) (h : ascal c L = some L') : pvn nv L' := fun t ht => by
  have e := (ascal_ok (k := k) hc hc0 hk.1 h).2.2
  have : t.2 ∈ L.map Prod.snd := by rw [← e]; exact List.mem_map_of_mem ht
  obtain ⟨u, hu, hut⟩ := List.mem_map.mp this
  rw [← hut]
  exact hv u hu
theorem ascals_mem {c : aF} : ∀ {Ls Ls' : List aP}, ascals c Ls = some Ls' → ∀ L' ∈ Ls', ∃ L ∈ Ls, ascal c L = some L'
  | [], Ls', h, L', hL' => by cases h; exact absurd hL' List.not_mem_nil
  | L :: Ls, Ls', h, L', hL' => by
    rw [ascals_cons] at h
    split at h
    · cases h
    · rename_i L2 h2
      cases hl : ascals c Ls with
      | none => rw [hl] at h; cases h
      | some l' =>
        rw [hl] at h
        cases h
        rcases List.mem_cons.mp hL' with rfl | hu
        · exact ⟨L, List.mem_cons_self, h2⟩
        · obtain ⟨Lx, hx1, hx2⟩ := ascals_mem hl L' hu
          exact ⟨Lx, List.mem_cons_of_mem _ hx1, hx2⟩
theorem amonic_gd {nv k : Nat} {b : aP} {cs : List aP} {E : aE} (hb : pgd nv k b) (hcs : ∀ c ∈ cs, pgd nv k c) (h : amonic (b, cs) = some E) : bgd nv k E.1 ∧ E.2.length = cs.length ∧ ∀ c ∈ E.2, pgd nv k c := by
  cases b with
  | nil => cases h
  | cons t l =>
    have ht := hb.1.1 t List.mem_cons_self
    obtain ⟨i1, i2⟩ := afinv_ok ht.1 ht.2.1
    have h : (match ascal (afinv t.1) (t :: l) with
      | none => none
      | some b => match ascals (afinv t.1) cs with
        | none => none
        | some cs => some (b, cs)) = some E := h
    split at h
    · cases h
    · rename_i b' hb'
      split at h
      · cases h
      · rename_i cs' hcs'
        cases h
        obtain ⟨c1, c2⟩ := ascals_ok (k := k) i1 i2 (fun L hL => (hcs L hL).1) hcs'
        refine ⟨⟨⟨ascal_pok i1 i2 hb.1 hb', ascal_vn i1 i2 hb.1 hb.2.1 hb', ascal_cp i1 hb.1.1 hb'⟩, t.2, ?_⟩, c2, fun c hc => ?_⟩
        · rw [ascal_cons, afmul_inv ht.1 ht.2.1] at hb'
          cases hl : ascal (afinv t.1) l with
          | none => rw [hl] at hb'; cases hb'
          | some l' => rw [hl] at hb'; cases hb'; exact ⟨l', rfl⟩
        · obtain ⟨L, hL, hLc⟩ := ascals_mem hcs' c hc
          exact ⟨c1 c hc, ascal_vn i1 i2 (hcs L hL).1 (hcs L hL).2.1 hLc, ascal_cp i1 (hcs L hL).1.1 hLc⟩
theorem als_vn {nv k kk : Nat} {es : List aE} {qs : List aP} (hes : ∀ e, pvn nv (acof es e kk)) (hqs : ∀ q ∈ qs, pvn nv q) {s : Bool} : ∀ {n : Nat} {f f' : aP}, pvn nv f → als k s kk es qs f n = some f' → pvn nv f'
  | 0, f, f', hf, h => by cases h; exact hf
  | n + 1, f, f', hf, h => by
    rw [als_s] at h
    split at h
    · cases h
    · rename_i f2 h2
      refine aprod_vn (hes n) (fun t ht => ?_) (als_vn hes hqs hf h2) h
      rw [asg_map] at ht
      obtain ⟨u, hu, rfl⟩ := List.mem_map.mp ht
      rw [← sgt_3]
      exact getD_vn hqs n u hu
theorem aprod_gd {nv k : Nat} {g : aP} (hg : pgd nv k g) : ∀ {us f f' : aP}, (∀ t ∈ us, tok t ∧ vin nv t.2) → pgd nv k f → aprod k g us f = some f' → pgd nv k f'
  | [], f, f', _, hf, h => by cases h; exact hf
  | u :: us, f, f', hu, hf, h => by
    have h1 := hu u List.mem_cons_self
    rw [aprod_cons] at h
    split at h
    · cases h
    · rename_i f2 h2
      exact aprod_gd hg (fun t ht => hu t (List.mem_cons_of_mem _ ht)) (aadds_gd h1.1.1 h1.1.2.1 h1.2 hg hf h2) h
theorem getD_gd {L : List aP} {nv k : Nat} (h : ∀ c ∈ L, pgd nv k c) (g : Nat) : pgd nv k (L.getD g []) := by
  rw [List.getD_eq_getElem?_getD]
  by_cases hg : g < L.length
  · rw [List.getElem?_eq_getElem hg]
    exact h _ (List.getElem_mem hg)
  · rw [List.getElem?_eq_none (by omega)]
    exact pgd_nil
theorem als_gd {nv k kk : Nat} {es : List aE} {qs : List aP} (hes : ∀ e, pgd nv k (acof es e kk)) (hqs : ∀ q ∈ qs, pgd nv k q) {s : Bool} : ∀ {n : Nat} {f f' : aP}, pgd nv k f → als k s kk es qs f n = some f' → pgd nv k f'
  | 0, f, f', hf, h => by cases h; exact hf
  | n + 1, f, f', hf, h => by
    rw [als_s] at h
    split at h
    · cases h
    · rename_i f2 h2
      refine aprod_gd (hes n) (fun t ht => ?_) (als_gd hes hqs hf h2) h
      rw [asg_map] at ht
      obtain ⟨u, hu, rfl⟩ := List.mem_map.mp ht
      have hg := getD_gd hqs n
      exact ⟨sgt_tok (hg.1.1 u hu), by rw [← sgt_3]; exact hg.2.1 u hu⟩
theorem rel_app {M : zM} {fo sh : Nat} {es : List aE} {E : aE} (h : rel M fo sh es) (h1 : qdy M (fo + es.length) E.1) (h2 : ∀ g, g < sh → qdy M (170 + 8 * es.length + g) (E.2.getD g [])) : rel M fo sh (es ++ [E]) := fun i x hx => by
  by_cases hi : i < es.length
  · rw [List.getElem?_append_left hi] at hx
    exact h i x hx
  · rw [List.getElem?_append_right (by omega)] at hx
    have hx0 : i - es.length = 0 := by
      have := (List.getElem?_eq_some_iff.mp hx).1
      simp at this
      omega
    rw [hx0] at hx
    cases hx
    rw [show i = es.length by omega]
    exact ⟨h1, h2⟩
theorem egd_app {nv k sh : Nat} {es : List aE} {E : aE} (h : egd nv k sh es) (hE : bgd nv k E.1 ∧ E.2.length = sh ∧ ∀ c ∈ E.2, pgd nv k c) : egd nv k sh (es ++ [E]) := fun x hx => by
  rcases List.mem_append.mp hx with hx | hx
  · exact h x hx
  · rw [List.mem_singleton.mp hx]; exact hE
/-- the reference at work on a basis: elements, what waits, steps left, pairs taken, pairs passed over -/
def rwk (M : zM) (fo sh nv k lim : Nat) (es : List aE) (W : Nat → Nat → Bool) (n pd pp : Nat) : Prop := (zI M 1529 19 = nI fo ∧ zI M 1529 20 = nI es.length ∧ zI M 1529 21 = -1 ∧ rsh M sh) ∧ (zI M 1529 13 = nI (lim - n) ∧ zI M 1529 14 = nI lim ∧ n ≤ lim ∧ lim ≤ 20000) ∧ (es.length ≤ 24 ∧ rel M fo sh es ∧ egd nv k sh es ∧ rwt M es.length W) ∧ zI M 1529 24 = nI pd ∧ zI M 1529 25 = nI pp
def FP (j : Nat) : Prop := FD j ∨ j = 20 ∨ j = 24 ∨ j = 25
def TP (fo sh n x : Nat) : Prop := (150 ≤ x ∧ x < 162) ∨ (100 ≤ x ∧ x < 125) ∨ x = fo + n ∨ (170 + 8 * n ≤ x ∧ x < 170 + 8 * n + sh)
theorem TP_dis {fo sh n i : Nat} (hf : 40 ≤ fo ∧ fo + 25 ≤ 100) (hs : sh ≤ 8) (hn : n ≤ 24) (hi : i < n) : ¬ TP fo sh n (fo + i) ∧ ∀ g, g < sh → ¬ TP fo sh n (170 + 8 * i + g) := by
  unfold TP
  exact ⟨by omega, fun g hg => by omega⟩
theorem rwk_fr {T F G : Nat → Prop} {M M' : zM} {fo sh nv k lim : Nat} {es : List aE} {W : Nat → Nat → Bool} {n n' pd pp : Nat} (h : rfr T F G M M') (hT : ∀ i, i < es.length → ¬ T (fo + i) ∧ ∀ g, g < sh → ¬ T (170 + 8 * i + g)) (hF : ∀ j, F j → FD j) (hG : ¬ G 1536) (h13 : zI M' 1529 13 = nI (lim - n')) (hn : n' ≤ lim) (hw : rwk M fo sh nv k lim es W n pd pp) : rwk M' fo sh nv k lim es W n' pd pp := by
  obtain ⟨⟨w19, w20, w21, wsh⟩, ⟨w13, w14, wn, wl⟩, ⟨wlen, wr, wg, ww⟩, w24, w25⟩ := hw
  have fld : ∀ j, ¬ FD j → zI M' 1529 j = zI M 1529 j := fun j hj => h.2.2.2.2.2.2.1 j fun z => hj (hF j z)
  exact ⟨⟨by rw [fld _ (by unfold FD FF; omega)]; exact w19, by rw [fld _ (by unfold FD FF; omega)]; exact w20, by rw [fld _ (by unfold FD FF; omega)]; exact w21, rsh_fr h (fun z => by have := hF _ z; unfold FD FF at this; omega) (fun z => by have := hF _ z; unfold FD FF at this; omega) wsh⟩, ⟨h13, by rw [fld _ (by unfold FD FF; omega)]; exact w14, hn, wl⟩, ⟨wlen, rel_fr h hT wg wr, wg, rwt_fr h hG ww⟩, by rw [fld _ (by unfold FD FF; omega)]; exact w24, by rw [fld _ (by unfold FD FF; omega)]; exact w25⟩
/-- the rest becomes an element -/
theorem op_a {d fo sh nv k lim n pd pp : Nat} {M : zM} {es : List aE} {W : Nat → Nat → Bool} {rest : aP} {cs : List aP} {P : Int32 → zM → Prop} (o1 o2 o3 o4 o5 o6 o7 : Option Value) (hd : 5 ≤ d) (hM : mst M) (hf2 : 40 ≤ fo ∧ fo + 25 ≤ 100) (hw : rwk M fo sh nv k lim es W n pd pp) (hlen : es.length < 24) (hr : qdy M 152 rest) (hrg : pgd nv k rest) (hne : rest ≠ []) (hcl : cs.length = sh) (hcs : ∀ c ∈ cs, pgd nv k c) (hcq : ∀ i, i < sh → qdy M (154 + i) (cs.getD i [])) (hz : zI M 1529 11 = 0)
    (h1 : ∀ E M', amonic (rest, cs) = some E → rfr (TP fo sh es.length) FP GW M M' → rwk M' fo sh nv k lim (es ++ [E]) (won W es.length) n pd pp → zI M' 1529 11 = 0 → zI M' 1529 12 = zI M 1529 12 → P 1 M')
    (h0 : ∀ M', amonic (rest, cs) = none → rfr (TP fo sh es.length) FP GW M M' → rwk M' fo sh nv k lim es W n pd pp → zI M' 1529 11 = 1 → zI M' 1529 12 = zI M 1529 12 → P 1 M') : wX8_onePair d (fun r M2 => ∃ x : Int32, r = [.int x] ∧ P x M2) 238 [some (.ref 1529), o1, o2, o3, o4, o5, o6, o7] [] M := by
  obtain ⟨⟨w19, w20, w21, wsh⟩, ⟨w13, w14, wn, wl⟩, ⟨wlen, wr, wg, ww⟩, w24, w25⟩ := id hw
  have hs8 := wsh.1
  have dis := fun i (hi : i < es.length) => TP_dis hf2 hs8 wlen hi
  -- made monic
  have s267 : ∀ (M1 : zM) (o1 o2 o3 o4 o5 o6 o7 : Option Value), rfr (TP fo sh es.length) FN GN M M1 → qdy M1 (fo + es.length) rest → (∀ g, g < sh → qdy M1 (170 + 8 * es.length + g) (cs.getD g [])) → wX8_onePair d (fun r M2 => ∃ x : Int32, r = [.int x] ∧ P x M2) 267 [some (.ref 1529), o1, o2, o3, o4, o5, o6, o7] [] M1 := fun M1 o1 o2 o3 o4 o5 o6 o7 hfr hb hc => by
    have hM1 := mst_fr hfr hM
    have F1 : ∀ j, zI M1 1529 j = zI M 1529 j := fun j => hfr.2.2.2.2.2.2.1 j fun z => z
    have hw1 : rwk M1 fo sh nv k lim es W n pd pp := rwk_fr hfr dis (fun _ z => z.elim) (fun z => z) (by rw [F1]; exact w13) wn hw
    refine sg_X8_onePair_267 _ _ _ _ _ _ _ _ _ ⟨hM1.1, hM1.1, ?_⟩
    rw [F1 20, w20]
    refine sp_rmonic (E := (rest, cs)) (by omega) hM1 (by rw [F1]; exact w19) hf2 (by omega) hw1.1.2.2.2 hb hc ⟨hrg.1, fun c hc => (hcs c hc).1⟩ hcl hne (by rw [F1]; exact hz) (fun E M2 hE hfr2 hz2 hb2 hc2 => ?_) (fun M2 hE hfr2 hz2 => ?_)
    · have hM2 := mst_fr hfr2 hM1
      have hfr2' : rfr (TP fo sh es.length) FF GN M1 M2 := rfr_up hfr2 (fun x z => by unfold TE at z; unfold TP; omega) (fun _ z => z) (fun _ z => z)
      have F2 : ∀ j, ¬ FF j → zI M2 1529 j = zI M1 1529 j := fun j hj => hfr2.2.2.2.2.2.2.1 j hj
      have hw2 : rwk M2 fo sh nv k lim es W n pd pp := rwk_fr hfr2' dis (fun _ z => Or.inl z) (fun z => z) (by rw [F2 _ (by unfold FF; omega)]; exact hw1.2.1.1) wn hw1
      refine ⟨hM2.1, fun _ => ⟨hM2.1, hM2.1, ?_⟩, fun z => absurd hz2 z⟩
      rw [hw2.1.2.1]
      refine sp_rpairs (by omega) hM2 hw2.2.2.1.2.2.2 wlen fun M3 hfr3 hw3 => ?_
      have hM3 := mst_fr hfr3 hM2
      refine ⟨hM3.1, hM3.1, ?_⟩
      intro M4
      have F3 : ∀ j, zI M3 1529 j = zI M2 1529 j := fun j => hfr3.2.2.2.2.2.2.1 j fun z => z
      have m4 : M4 = zuI M3 1529 20 (nI (es.length + 1)) := by rw [show M4 = zuI M3 1529 20 (zI M3 1529 20 + 1) from rfl, F3, hw2.1.2.1, nI_1]
      clear_value M4
      have hfr4 : rfr TN (fun j => j = 20) GN M3 M4 := by rw [m4]; exact rfr_F rfl
      have F4 : ∀ j, j ≠ 20 → zI M4 1529 j = zI M2 1529 j := fun j hj => by rw [hfr4.2.2.2.2.2.2.1 j hj, F3]
      have hfa : rfr (TP fo sh es.length) FP GW M M4 := rfr_tr (rfr_up hfr (fun _ z => z) (fun _ z => z.elim) (fun _ z => z.elim)) (rfr_tr (rfr_up hfr2' (fun _ z => z) (fun _ z => Or.inl (Or.inl z)) (fun _ z => z.elim)) (rfr_tr (rfr_up hfr3 (fun _ z => z.elim) (fun _ z => z.elim) (fun _ z => z)) (rfr_up hfr4 (fun _ z => z.elim) (fun _ z => Or.inr (Or.inl z)) (fun _ z => z.elim))))
      have hEg := amonic_gd hrg hcs hE
      have hfr34 : rfr TN (fun j => j = 20) GW M2 M4 := rfr_tr (rfr_up hfr3 (fun _ z => z) (fun _ z => z.elim) (fun _ z => z)) (rfr_up hfr4 (fun _ z => z) (fun _ z => z) (fun _ z => z.elim))
      refine ⟨Or.inr rfl, _, rfl, h1 E M4 hE hfa ⟨⟨by rw [F4 _ (by omega)]; exact hw2.1.1, by rw [m4, zI_uI, if_pos ⟨rfl, rfl⟩, List.length_append]; rfl, by rw [F4 _ (by omega)]; exact hw2.1.2.2.1, rsh_fr hfr34 (by omega) (by omega) hw2.1.2.2.2⟩, ⟨by rw [F4 _ (by omega)]; exact hw2.2.1.1, by rw [F4 _ (by omega)]; exact hw2.2.1.2.1, wn, wl⟩, ⟨by rw [List.length_append]; simp; omega, ?_, egd_app wg ⟨hEg.1, by rw [hEg.2.1, hcl], hEg.2.2⟩, ?_⟩, by rw [F4 _ (by omega)]; exact hw2.2.2.2.1, by rw [F4 _ (by omega)]; exact hw2.2.2.2.2⟩ (by rw [F4 _ (by omega)]; exact hz2) (by rw [F4 _ (by omega), F2 _ (by unfold FF; omega), F1])⟩
      · refine rel_app (rel_fr hfr34 (fun i hi => ⟨fun z => z, fun _ _ z => z⟩) wg hw2.2.2.1.2.1) (qdy_fr hfr34 (fun z => z) hEg.1.1.1.2.2 hb2) fun g hg => qdy_fr hfr34 (fun z => z) (getD_len (fun c hc => (hEg.2.2 c hc).1) g).2.2 (hc2 g hg)
      · rw [List.length_append]
        exact rwt_fr hfr4 (fun z => z) hw3
    · have hM2 := mst_fr hfr2 hM1
      have hfr2' : rfr (TP fo sh es.length) FF GN M1 M2 := rfr_up hfr2 (fun x z => by unfold TE at z; unfold TP; omega) (fun _ z => z) (fun _ z => z)
      have F2 : ∀ j, ¬ FF j → zI M2 1529 j = zI M1 1529 j := fun j hj => hfr2.2.2.2.2.2.2.1 j hj
      have hw2 : rwk M2 fo sh nv k lim es W n pd pp := rwk_fr hfr2' dis (fun _ z => Or.inl z) (fun z => z) (by rw [F2 _ (by unfold FF; omega)]; exact hw1.2.1.1) wn hw1
      refine ⟨hM2.1, fun z => absurd z (by rw [hz2]; decide), fun _ => ⟨Or.inr rfl, _, rfl, h0 M2 hE (rfr_tr (rfr_up hfr (fun _ z => z) (fun _ z => z.elim) (fun _ z => z.elim)) (rfr_up hfr2' (fun _ z => z) (fun _ z => Or.inl (Or.inl z)) (fun _ z => z.elim))) hw2 hz2 (by rw [F2 _ (by unfold FF; omega), F1])⟩⟩
  -- its cofactors
  have loop : ∀ (m g : Nat) (M1 : zM) (o1 o2 o3 o4 o5 o6 : Option Value), g + m = sh → rfr (fun x => x = fo + es.length ∨ (170 + 8 * es.length ≤ x ∧ x < 170 + 8 * es.length + sh)) FN GN M M1 → qdy M1 (fo + es.length) rest → (∀ i, i < g → qdy M1 (170 + 8 * es.length + i) (cs.getD i [])) → wX8_onePair d (fun r M2 => ∃ x : Int32, r = [.int x] ∧ P x M2) 248 [some (.ref 1529), o1, o2, o3, o4, o5, o6, some (.int (nI g))] [] M1 := by
    intro m
    induction m with
    | zero =>
      intro g M1 o1 o2 o3 o4 o5 o6 hg hfr hb hc
      have hM1 := mst_fr hfr hM
      have hr := rsh_fr hfr (fun z => z) (fun z => z) wsh
      rw [show g = sh by omega] at hc ⊢
      have hfr' : rfr (TP fo sh es.length) FN GN M M1 := rfr_up hfr (fun x z => by unfold TP; omega) (fun _ z => z) (fun _ z => z)
      exact sg_X8_onePair_248 _ _ _ _ _ _ _ _ _ ⟨hM1.1, fun _ => s267 M1 _ _ _ _ _ _ _ hfr' hb hc, fun z => ⟨hM1.1, fun _ => s267 M1 _ _ _ _ _ _ _ hfr' hb hc, fun z2 => ((rsh_end hr).elim (fun y => absurd y z) (fun y => absurd y z2))⟩⟩
    | succ m ih =>
      intro g M1 o1 o2 o3 o4 o5 o6 hg hfr hb hc
      have hM1 := mst_fr hfr hM
      have hr := rsh_fr hfr (fun z => z) (fun z => z) wsh
      obtain ⟨go1, go2⟩ := rsh_go hr (show g < sh by omega)
      have hcl' : ∀ i, (cs.getD i []).length ≤ 100 := fun i => (getD_len (fun c hc => (hcs c hc).1) i).2.2
      refine sg_X8_onePair_248 _ _ _ _ _ _ _ _ _ ⟨hM1.1, fun z => absurd z go1, fun _ => ⟨hM1.1, fun z => absurd z go2, fun _ => ⟨hM1.1, hM1.1, ?_⟩⟩⟩
      rw [hfr.2.2.2.2.2.2.1 20 (fun z => z), w20, show (154 : Int32) + nI g = nI (154 + g) from nI_add 154 g]
      refine sp_rcof (by omega) ⟨hM1.1, ?_⟩
      refine sp_rcopy (by omega) hM1 (by omega) (by omega) (by omega) (qdy_fr hfr (by omega) (hcl' g) (hcq g (by omega))) (hcl' g) fun M2 hfr2 hq2 => ?_
      intro v7
      rw [show v7 = nI (g + 1) from nI_1 g]
      refine ih (g + 1) M2 _ _ _ _ _ _ (by omega) (rfr_tr hfr (rfr_up hfr2 (fun x z => Or.inr (by omega)) (fun _ z => z) (fun _ z => z))) (qdy_fr hfr2 (by omega) hrg.1.2.2 hb) fun i hi => ?_
      by_cases hig : i = g
      · rw [hig]; exact hq2
      · exact qdy_fr hfr2 (by omega) (hcl' i) (hc i (by omega))
  refine sg_X8_onePair_238 _ _ _ _ _ _ _ _ _ ⟨hM.1, hM.1, hM.1, ?_⟩
  rw [w19, w20, nI_add]
  refine sp_rcopy (p := 152) (by omega) hM (by omega) (by omega) (by omega) hr hrg.1.2.2 fun M1 hfr1 hq1 => ?_
  exact loop sh 0 M1 _ _ _ _ _ _ (by omega) (rfr_up hfr1 (fun x z => Or.inl z) (fun _ z => z) (fun _ z => z)) hq1 fun i hi => absurd hi (Nat.not_lt_zero _)
/-- the cofactors of the rest -/
theorem op_b {d fo sh nv k lim n pd pp : Nat} {M : zM} {es : List aE} {W : Nat → Nat → Bool} {rest : aP} {cs qs : List aP} {P : Int32 → zM → Prop} (o1 o2 o3 o4 o5 o6 o7 : Option Value) (hd : 6 ≤ d) (hM : mst M) (hv : mvk M nv k) (hf2 : 40 ≤ fo ∧ fo + 25 ≤ 100) (hw : rwk M fo sh nv k lim es W n pd pp) (hr : qdy M 152 rest) (hrg : pgd nv k rest) (hne : rest ≠ []) (hcl : cs.length = sh) (hcs : ∀ c ∈ cs, pgd nv k c) (hcq : ∀ i, i < sh → qdy M (154 + i) (cs.getD i [])) (hqg : ∀ q ∈ qs, pgd nv k q) (hqq : ∀ i, i < 25 → qdy M (100 + i) (qs.getD i [])) (hz : zI M 1529 11 = 0)
    (h1 : ∀ E M', anew k sh es qs rest cs = some E → rfr (TP fo sh es.length) FP GW M M' → rwk M' fo sh nv k lim (es ++ [E]) (won W es.length) n pd pp → zI M' 1529 11 = 0 → zI M' 1529 12 = zI M 1529 12 → P 1 M')
    (h0 : ∀ M', anew k sh es qs rest cs = none → rfr (TP fo sh es.length) FP GW M M' → rwk M' fo sh nv k lim es W n pd pp → zI M' 1529 11 = 1 → zI M' 1529 12 = zI M 1529 12 → P 1 M') : wX8_onePair d (fun r M2 => ∃ x : Int32, r = [.int x] ∧ P x M2) 203 [some (.ref 1529), o1, o2, o3, o4, o5, o6, o7] [] M := by
  obtain ⟨⟨w19, w20, w21, wsh⟩, ⟨w13, w14, wn, wl⟩, ⟨wlen, wr, wg, ww⟩, w24, w25⟩ := id hw
  have hs8 := wsh.1
  have dis := fun i (hi : i < es.length) => TP_dis hf2 hs8 wlen hi
  refine sg_X8_onePair_203 _ _ _ _ _ _ _ _ _ ⟨hM.1, fun c => ?_, fun c => ⟨hM.1, Or.inr rfl, ?_⟩⟩
  · have c : es.length ≠ 24 := fun z => c (by rw [w20, z]; rfl)
    have hlen : es.length < 24 := by omega
    have han : anew k sh es qs rest cs = (match omp (fun kk => als k true kk es qs (cs.getD kk []) es.length) sh with
      | none => none
      | some cs' => amonic (rest, cs')) := by
      unfold anew
      rw [if_neg (by omega)]
      rfl
    have hcl' : ∀ i, pok k (cs.getD i []) := fun i => getD_len (fun c hc => (hcs c hc).1) i
    have hcv' : ∀ i, pvn nv (cs.getD i []) := fun i => getD_vn (fun c hc => (hcs c hc).2.1) i
    -- after FULL
    have over : ∀ (M1 : zM) (a7 : Int32) (o1 o2 o3 o4 o5 o6 : Option Value), mst M1 → zI M1 1529 11 = 1 → P 1 M1 → wX8_onePair d (fun r M2 => ∃ x : Int32, r = [.int x] ∧ P x M2) 214 [some (.ref 1529), o1, o2, o3, o4, o5, o6, some (.int a7)] [] M1 := fun M1 a7 o1 o2 o3 o4 o5 o6 hM1 hz1 hP => by
      have e : ∀ (o1 o2 o3 o4 o5 o6 o7 : Option Value), wX8_onePair d (fun r M2 => ∃ x : Int32, r = [.int x] ∧ P x M2) 233 [some (.ref 1529), o1, o2, o3, o4, o5, o6, o7] [] M1 := fun o1 o2 o3 o4 o5 o6 o7 => sg_X8_onePair_233 _ _ _ _ _ _ _ _ _ ⟨hM1.1, fun z => absurd z (by rw [hz1]; decide), fun _ => ⟨Or.inr rfl, _, rfl, hP⟩⟩
      exact sg_X8_onePair_214 _ _ _ _ _ _ _ _ _ ⟨hM1.1, fun _ => e _ _ _ _ _ _ _, fun _ => ⟨hM1.1, fun _ => e _ _ _ _ _ _ _, fun _ => ⟨hM1.1, fun _ => e _ _ _ _ _ _ _, fun z => absurd (Classical.not_not.mp z) (by rw [hz1]; decide)⟩⟩⟩
    have loop : ∀ (m g : Nat) (pre : List aP) (M1 : zM) (o1 o2 o3 o4 o5 o6 : Option Value), g + m = sh → rfr (fun x => 154 ≤ x ∧ x < 162) FF GN M M1 → zI M1 1529 11 = 0 → omp (fun kk => als k true kk es qs (cs.getD kk []) es.length) g = some pre → (∀ c ∈ pre, pgd nv k c) → (∀ i, i < g → qdy M1 (154 + i) (pre.getD i [])) → (∀ i, g ≤ i → i < sh → qdy M1 (154 + i) (cs.getD i [])) → wX8_onePair d (fun r M2 => ∃ x : Int32, r = [.int x] ∧ P x M2) 214 [some (.ref 1529), o1, o2, o3, o4, o5, o6, some (.int (nI g))] [] M1 := by
      intro m
      induction m with
      | zero =>
        intro g pre M1 o1 o2 o3 o4 o5 o6 hg hfr hz1 hom hpg hpq hrest
        have hM1 := mst_fr hfr hM
        have hr1 := rsh_fr hfr (by unfold FF; omega) (by unfold FF; omega) wsh
        have F1 : ∀ j, ¬ FF j → zI M1 1529 j = zI M 1529 j := fun j hj => hfr.2.2.2.2.2.2.1 j hj
        have hfr' : rfr (TP fo sh es.length) FF GN M M1 := rfr_up hfr (fun x z => by unfold TP; omega) (fun _ z => z) (fun _ z => z)
        have hfr'' : rfr (TP fo sh es.length) FP GW M M1 := rfr_up hfr' (fun _ z => z) (fun _ z => Or.inl (Or.inl z)) (fun _ z => z.elim)
        have hw1 : rwk M1 fo sh nv k lim es W n pd pp := rwk_fr hfr' dis (fun _ z => Or.inl z) (fun z => z) (by rw [F1 _ (by unfold FF; omega)]; exact w13) wn hw
        rw [show g = sh by omega] at hom hpq ⊢
        rw [hom] at han
        have hpl := omp_len hom
        have e : ∀ (o1 o2 o3 o4 o5 o6 o7 : Option Value), wX8_onePair d (fun r M2 => ∃ x : Int32, r = [.int x] ∧ P x M2) 233 [some (.ref 1529), o1, o2, o3, o4, o5, o6, o7] [] M1 := fun o1 o2 o3 o4 o5 o6 o7 => sg_X8_onePair_233 _ _ _ _ _ _ _ _ _ ⟨hM1.1, fun _ => op_a _ _ _ _ _ _ _ (by omega) hM1 hf2 hw1 hlen (qdy_fr hfr (by omega) hrg.1.2.2 hr) hrg hne hpl hpg hpq hz1 (fun E M2 hE hfr2 hw2 hz2 hs2 => h1 E M2 (by rw [han]; exact hE) (rfr_tr hfr'' hfr2) hw2 hz2 (by rw [hs2, F1 _ (by unfold FF; omega)])) (fun M2 hE hfr2 hw2 hz2 hs2 => h0 M2 (by rw [han]; exact hE) (rfr_tr hfr'' hfr2) hw2 hz2 (by rw [hs2, F1 _ (by unfold FF; omega)])), fun z => absurd hz1 z⟩
        exact sg_X8_onePair_214 _ _ _ _ _ _ _ _ _ ⟨hM1.1, fun _ => e _ _ _ _ _ _ _, fun z => ⟨hM1.1, fun _ => e _ _ _ _ _ _ _, fun z2 => ((rsh_end hr1).elim (fun y => absurd y z) (fun y => absurd y z2))⟩⟩
      | succ m ih =>
        intro g pre M1 o1 o2 o3 o4 o5 o6 hg hfr hz1 hom hpg hpq hrest
        have hM1 := mst_fr hfr hM
        have hv1 := mvk_fr hfr (by unfold FF; omega) (by unfold FF; omega) hv
        have hr1 := rsh_fr hfr (by unfold FF; omega) (by unfold FF; omega) wsh
        obtain ⟨go1, go2⟩ := rsh_go hr1 (show g < sh by omega)
        have F1 : ∀ j, ¬ FF j → zI M1 1529 j = zI M 1529 j := fun j hj => hfr.2.2.2.2.2.2.1 j hj
        have hpl := omp_len hom
        refine sg_X8_onePair_214 _ _ _ _ _ _ _ _ _ ⟨hM1.1, fun z => absurd z go1, fun _ => ⟨hM1.1, fun z => absurd z go2, fun _ => ⟨hM1.1, fun z => absurd hz1 z, fun _ => ⟨hM1.1, ?_⟩⟩⟩⟩
        rw [show (154 : Int32) + nI g = nI (154 + g) from nI_add 154 g]
        refine sp_rless (s := true) (es := es) (qs := qs) (by omega) hM1 hv1 (by omega) (by omega) (by rw [F1 _ (by unfold FF; omega)]; exact w20) wlen (fun i hi => ⟨qdy_fr hfr (by omega) (getD_len (fun q hq => (hqg q hq).1) i).2.2 (hqq i (by omega)), getD_len (fun q hq => (hqg q hq).1) i, getD_vn (fun q hq => (hqg q hq).2.1) i⟩) (fun i hi => ⟨qdy_fr hfr (by omega) (egd_cof wg i g).1.2.2 (rel_cof wr hi (by omega)), (egd_cof wg i g).1, (egd_cof wg i g).2⟩) (hrest g (Nat.le_refl _) (by omega)) (hcl' g) (hcv' g) hz1 (fun F' M2 hF' hfr2 hz2 hq2 hk2 hv2 => ?_) (fun F' M2 hn hfr2 hz2 hq2 hl2 => ?_)
        · intro v7
          rw [show v7 = nI (g + 1) from nI_1 g]
          refine ih (g + 1) (pre ++ [F']) M2 _ _ _ _ _ _ (by omega) (rfr_tr hfr (rfr_up hfr2 (fun x z => by omega) (fun _ z => z) (fun _ z => z))) hz2 (by rw [omp_s, hom]; dsimp only; rw [hF']) (fun c hc => ?_) (fun i hi => ?_) (fun i hi1 hi2 => qdy_fr hfr2 (by omega) (hcl' i).2.2 (hrest i (by omega) hi2))
          · rcases List.mem_append.mp hc with hc | hc
            · exact hpg c hc
            · rw [List.mem_singleton.mp hc]; exact als_gd (fun e => egd_cofg wg e g) hqg (getD_gd hcs g) hF'
          · by_cases hig : i = g
            · have : (pre ++ [F']).getD i [] = F' := by
                rw [List.getD_eq_getElem?_getD, List.getElem?_append_right (by omega), hpl, hig, Nat.sub_self]
                rfl
              rw [this, hig]
              exact hq2
            · have : (pre ++ [F']).getD i [] = pre.getD i [] := by
                rw [List.getD_eq_getElem?_getD, List.getElem?_append_left (by omega), List.getD_eq_getElem?_getD]
              rw [this]
              exact qdy_fr hfr2 (by omega) (getD_len (fun c hc => (hpg c hc).1) i).2.2 (hpq i (by omega))
        · have hfa : rfr (fun x => 154 ≤ x ∧ x < 162) FF GN M M2 := rfr_tr hfr (rfr_up hfr2 (fun x z => by omega) (fun _ z => z) (fun _ z => z))
          have hfa' : rfr (TP fo sh es.length) FF GN M M2 := rfr_up hfa (fun x z => by unfold TP; omega) (fun _ z => z) (fun _ z => z)
          have F2 : ∀ j, ¬ FF j → zI M2 1529 j = zI M 1529 j := fun j hj => hfa.2.2.2.2.2.2.1 j hj
          have hnn : omp (fun kk => als k true kk es qs (cs.getD kk []) es.length) sh = none := omp_none (n := g + 1) (by rw [omp_s, hom]; dsimp only; rw [hn]) (by omega)
          rw [hnn] at han
          intro v7
          exact over M2 _ _ _ _ _ _ _ (mst_fr hfa hM) hz2 (h0 M2 han (rfr_up hfa' (fun _ z => z) (fun _ z => Or.inl (Or.inl z)) (fun _ z => z.elim)) (rwk_fr hfa' dis (fun _ z => Or.inl z) (fun z => z) (by rw [F2 _ (by unfold FF; omega)]; exact w13) wn hw) hz2 (F2 _ (by unfold FF; omega)))
    refine sg_X8_onePair_212 _ _ _ _ _ _ _ _ _ ?_
    exact loop sh 0 [] M _ _ _ _ _ _ (by omega) rfr_rf hz rfl (fun c hc => absurd hc List.not_mem_nil) (fun i hi => absurd hi (Nat.not_lt_zero _)) fun i _ hi => hcq i hi
  · have c : es.length = 24 := by
      have c := Classical.not_not.mp c
      rw [w20] at c
      exact (nI_eq (b := 24) (by omega) (by omega)).mp c
    intro M1
    have m1 : M1 = zuI M 1529 11 1 := rfl
    clear_value M1
    have hfr : rfr (TP fo sh es.length) FF GN M M1 := by rw [m1]; exact rfr_F (Or.inl rfl)
    have F1 : ∀ j, j ≠ 11 → zI M1 1529 j = zI M 1529 j := fun j hj => by rw [m1, zI_uI, if_neg (by omega)]
    exact ⟨Or.inr rfl, _, rfl, h0 M1 (by unfold anew; rw [if_pos (by omega)]) (rfr_up hfr (fun _ z => z) (fun _ z => Or.inl (Or.inl z)) (fun _ z => z.elim)) (rwk_fr hfr dis (fun _ z => Or.inl z) (fun z => z) (by rw [F1 _ (by omega)]; exact w13) wn hw) (by rw [m1, zI_uI, if_pos ⟨rfl, rfl⟩]) (F1 _ (by omega))⟩
