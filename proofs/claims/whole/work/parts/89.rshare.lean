/-! the reference: shares, monic elements, what waits -/
def rsh (M : zM) (sh : Nat) : Prop := sh ≤ 8 ∧ ((zI M 1529 22 = 1 ∧ zI M 1529 7 = nI sh) ∨ (zI M 1529 22 = 0 ∧ sh = 0))
theorem rsh_fr {T F G : Nat → Prop} {M M' : zM} {sh : Nat} (h : rfr T F G M M') (h7 : ¬ F 7) (h22 : ¬ F 22) (hs : rsh M sh) : rsh M' sh := by
  unfold rsh at *
  rw [h.2.2.2.2.2.2.1 7 h7, h.2.2.2.2.2.2.1 22 h22]
  exact hs
theorem rsh_go {M : zM} {sh g : Nat} (h : rsh M sh) (hg : g < sh) : ¬ zI M 1529 7 ≤ nI g ∧ ¬ zI M 1529 22 = 0 := by
  obtain ⟨h8, ⟨h1, h2⟩ | ⟨-, h2⟩⟩ := h
  · rw [h1, h2]
    exact ⟨fun z => by have := (nI_leI (by omega) (by omega)).mp z; omega, by decide⟩
  · omega
theorem rsh_end {M : zM} {sh : Nat} (h : rsh M sh) : zI M 1529 7 ≤ nI sh ∨ zI M 1529 22 = 0 := by
  obtain ⟨h8, ⟨h1, h2⟩ | ⟨h1, h2⟩⟩ := h
  · exact Or.inl (by rw [h2]; exact Int32.le_refl _)
  · exact Or.inr h1
def sgt (s : Bool) (t : aT) : aT := cond s ((-t.1.1, t.1.2), t.2) t
theorem asg_map {s : Bool} {q : aP} : asg s q = q.map (sgt s) := by
  cases s
  · show q = q.map fun t => t
    simp
  · rfl
def sgI (s : Bool) : Int32 := cond s (-1) 1
theorem sgI_mul {s : Bool} {n : Int} (h : -1000000000 ≤ n ∧ n ≤ 1000000000) : sgI s * Int32.ofInt n = Int32.ofInt (cond s (-n) n) := by
  cases s
  · show (1 : Int32) * _ = _
    rw [Int32.one_mul]
    rfl
  · show (-1 : Int32) * _ = Int32.ofInt (-n)
    rw [← ineg h, Int32.neg_mul, Int32.one_mul]
theorem sgt_tok {s : Bool} {t : aT} (h : tok t) : tok (sgt s t) := by
  cases s
  · exact h
  · obtain ⟨h1, h2, h3⟩ := h
    exact ⟨fneg_ok h1, by show -t.1.1 ≠ 0; omega, h3⟩
theorem sgt_1 {s : Bool} {t : aT} : cond s (-t.1.1) t.1.1 = (sgt s t).1.1 := by cases s <;> rfl
theorem sgt_2 {s : Bool} {t : aT} : t.1.2 = (sgt s t).1.2 := by cases s <;> rfl
theorem sgt_3 {s : Bool} {t : aT} : t.2 = (sgt s t).2 := by cases s <;> rfl
theorem sp_rless {d nv k p kk cnt : Nat} {s : Bool} {M : zM} {es : List aE} {qs : List aP} {F : aP} {P : zM → Prop} (hd : 6 ≤ d) (hM : mst M) (hv : mvk M nv k) (hp : 125 ≤ p ∧ p < 170) (hkk : kk < 8) (hmo : zI M 1529 20 = nI cnt) (hcnt : cnt ≤ 24) (hqs : ∀ i, i < cnt → qdy M (100 + i) (qs.getD i []) ∧ pok k (qs.getD i []) ∧ pvn nv (qs.getD i [])) (hcs : ∀ i, i < cnt → qdy M (170 + 8 * i + kk) (acof es i kk) ∧ pok k (acof es i kk) ∧ pvn nv (acof es i kk)) (hF : qdy M p F) (hFk : pok k F) (hFv : pvn nv F) (hz : zI M 1529 11 = 0)
    (h1 : ∀ F' M', als k s kk es qs F cnt = some F' → rfr (fun x => x = p) FF GN M M' → zI M' 1529 11 = 0 → qdy M' p F' → pok k F' → pvn nv F' → P M') (h0 : ∀ F' M', als k s kk es qs F cnt = none → rfr (fun x => x = p) FF GN M M' → zI M' 1529 11 = 1 → qdy M' p F' → F'.length ≤ 100 → P M') : ycV d nX8_lessShares [.ref 1529, .int (nI p), .int (nI kk), .int (sgI s)] M P := by
  obtain ⟨d, rfl, he⟩ := dS hd
  have mo : ∀ M', rfr (fun x => x = p) FF GN M M' → zI M' 1529 20 = nI cnt := fun M' h => by rw [h.2.2.2.2.2.2.1 20 (by unfold FF; omega)]; exact hmo
  have over : ∀ (a4 : Int32) (o5 o6 : Option Value) (M' : zM), mst M' → zI M' 1529 11 = 1 → P M' → wX8_lessShares d (fun r M2 => r = [] ∧ P M2) 2 [some (.ref 1529), some (.int (nI p)), some (.int (nI kk)), some (.int (sgI s)), some (.int a4), o5, o6] [] M' := fun a4 o5 o6 M' hM' hz' hP => sg_X8_lessShares_2 _ _ _ _ _ _ _ _ ⟨hM'.1, fun _ => ⟨rfl, hP⟩, fun _ => ⟨hM'.1, fun _ => ⟨rfl, hP⟩, fun z => absurd (Classical.not_not.mp z) (by rw [hz']; decide)⟩⟩
  have loop : ∀ (n e : Nat) (T : aP) (M' : zM) (o5 o6 : Option Value), e + n = cnt → rfr (fun x => x = p) FF GN M M' → zI M' 1529 11 = 0 → qdy M' p T → pok k T → pvn nv T → als k s kk es qs F e = some T → wX8_lessShares d (fun r M2 => r = [] ∧ P M2) 2 [some (.ref 1529), some (.int (nI p)), some (.int (nI kk)), some (.int (sgI s)), some (.int (nI e)), o5, o6] [] M' := by
    intro n
    induction n with
    | zero =>
      intro e T M' o5 o6 hen hfr hzz hT hTk hTv hal
      rw [show e = cnt by omega] at hal ⊢
      exact sg_X8_lessShares_2 _ _ _ _ _ _ _ _ ⟨(mst_fr hfr hM).1, fun _ => ⟨rfl, h1 T M' hal hfr hzz hT hTk hTv⟩, fun z => absurd (by rw [mo M' hfr]; exact Int32.le_refl _) z⟩
    | succ n ih =>
      intro e T M' o5 o6 hen hfr hzz hT hTk hTv hal
      obtain ⟨hq, hqk, hqv⟩ := hqs e (by omega)
      obtain ⟨hc, hck, hcv⟩ := hcs e (by omega)
      have hal1 : als k s kk es qs F (e + 1) = aprod k (acof es e kk) (asg s (qs.getD e [])) T := by rw [als_s, hal]
      have hql := hqk.2.2
      generalize qs.getD e [] = q at hq hqk hqv hql hal1
      generalize acof es e kk = G at hc hck hcv hal1
      have hA : (asg s q).length = q.length := by rw [asg_map, List.length_map]
      have ce := cl_n (n := 100 + e) (by omega)
      have ze : zin (nI (100 + e)) 372 := zin_n (by omega) (by omega)
      refine sg_X8_lessShares_2 _ _ _ _ _ _ _ _ ⟨(mst_fr hfr hM).1, fun z => ?_, fun _ => ⟨(mst_fr hfr hM).1, fun z => absurd hzz z, fun _ => ?_⟩⟩
      · rw [mo M' hfr] at z
        have := (nI_leI (by omega) (by omega)).mp z
        omega
      have inner : ∀ (a j : Nat) (U : aP) (M2 : zM) (o6 : Option Value), j + a = q.length → rfr (fun x => x = p) FF GN M M2 → zI M2 1529 11 = 0 → qdy M2 p U → pok k U → pvn nv U → aprod k G ((asg s q).drop j) U = aprod k G (asg s q) T → wX8_lessShares d (fun r M2 => r = [] ∧ P M2) 11 [some (.ref 1529), some (.int (nI p)), some (.int (nI kk)), some (.int (sgI s)), some (.int (nI e)), some (.int (nI j)), o6] [] M2 := by
        intro a
        induction a with
        | zero =>
          intro j U M2 o6 hj hfr2 hz2 hU hUk hUv heq
          have hM2 := mst_fr hfr2 hM
          obtain ⟨s16, ⟨r3, r4, r5, r6, -⟩, ⟨k0, k1, k2, k3⟩, -⟩ := id hM2
          have hq2 := qdy_fr hfr2 (by omega) hql hq
          rw [List.drop_of_length_le (by omega)] at heq
          have heq : some U = aprod k G (asg s q) T := heq
          refine sg_X8_lessShares_11 _ _ _ _ _ _ _ _ ?_
          rw [show (100 : Int32) + nI e = nI (100 + e) from nI_add 100 e, ce]
          refine ⟨s16, by rw [r6, k3], by rw [r6, k3]; exact ze, fun _ => ?_, fun z => absurd (by rw [r6, hq2.1, show j = q.length by omega]; exact Int32.le_refl _) z⟩
          intro v4
          rw [show v4 = nI (e + 1) from nI_1 e]
          exact ih (e + 1) U M2 _ _ (by omega) hfr2 hz2 hU hUk hUv (by rw [hal1]; exact heq.symm)
        | succ a iha =>
          intro j U M2 o6 hj hfr2 hz2 hU hUk hUv heq
          have hM2 := mst_fr hfr2 hM
          have hv2 := mvk_fr hfr2 (by unfold FF; omega) (by unfold FF; omega) hv
          obtain ⟨s16, ⟨r3, r4, r5, r6, -⟩, ⟨k0, k1, k2, k3⟩, -⟩ := id hM2
          have hq2 := qdy_fr hfr2 (by omega) hql hq
          have hc2 := qdy_fr hfr2 (by omega) hck.2.2 hc
          have hjl : j < q.length := by omega
          have hu := List.getElem?_eq_getElem hjl
          have hku := hqk.1 _ (List.getElem_mem hjl)
          have hvu := hqv _ (List.getElem_mem hjl)
          obtain ⟨g0, g1, g2⟩ := hq2.2 j _ hu
          have hAj : (asg s q)[j]'(by omega) = sgt s q[j] := by
            simp only [asg_map, List.getElem_map]
          rw [List.drop_eq_getElem_cons (show j < (asg s q).length by omega), aprod_cons, hAj] at heq
          generalize q[j] = u at hu hku hvu heq g0 g1 g2 hAj
          have cx := cl_n (n := 100 * (100 + e) + j) (by omega)
          have zx : zin (nI (100 * (100 + e) + j)) 37200 := zin_n (by omega) (by omega)
          refine sg_X8_lessShares_11 _ _ _ _ _ _ _ _ ?_
          rw [show (100 : Int32) + nI e = nI (100 + e) from nI_add 100 e, ce]
          refine ⟨s16, by rw [r6, k3], by rw [r6, k3]; exact ze, fun z => ?_, fun _ => ⟨s16, fun z => absurd hz2 z, fun _ => ?_⟩⟩
          · rw [r6, hq2.1] at z
            have := (nI_leI (by omega) (by omega)).mp z
            omega
          · intro v6
            rw [show v6 = nI (100 * (100 + e) + j) from ix100 _ _, cx]
            refine ⟨s16, by rw [r3, k0], by rw [r3, k0]; exact zx, s16, by rw [r4, k1], by rw [r4, k1]; exact zx, s16, by rw [r5, k2], by rw [r5, k2]; exact zx, s16, sp_rcof (by omega) ⟨s16, ?_⟩⟩
            rw [r3, r4, r5, g0, g1, g2, sgI_mul hku.1.1, sgt_1 (s := s) (t := u)]
            have hw := sgt_tok (s := s) hku
            have hwv : vin nv (sgt s u).2 := by rw [← sgt_3]; exact hvu
            rw [sgt_2 (s := s) (t := u), sgt_3 (s := s) (t := u)]
            generalize sgt s u = w at heq hw hwv
            refine sp_radds (c := w.1) (m := w.2) (by omega) hM2 hv2 (by omega) (by omega) (by omega) hU hc2 hUk hck hUv hcv hw.1 hw.2.1 hw.2.2 hwv hz2 (fun U' M3 hU' hfr3 hz3 hq3 => ?_) (fun U' M3 hn hfr3 hz3 hq3 hql3 => ?_)
            · rw [hU'] at heq
              intro v5
              rw [show v5 = nI (j + 1) from nI_1 j]
              exact iha (j + 1) U' M3 _ (by omega) (rfr_tr hfr2 hfr3) hz3 hq3 (aadds_ok hw.1 hw.2.1 hck.1 hUk hU') (aadds_vn hwv hcv hUv hU') heq
            · rw [hn] at heq
              have heq : none = aprod k G (asg s q) T := heq
              have hfa := rfr_tr hfr2 hfr3
              have hM3 := mst_fr hfa hM
              obtain ⟨q16, ⟨p3, p4, p5, p6, -⟩, ⟨w0, w1, w2, w3⟩, -⟩ := id hM3
              have hP : P M3 := h0 U' M3 (als_none (by rw [hal1]; exact heq.symm) (by omega)) hfa hz3 hq3 hql3
              intro v5
              refine sg_X8_lessShares_11 _ _ _ _ _ _ _ _ ?_
              rw [show (100 : Int32) + nI e = nI (100 + e) from nI_add 100 e, ce]
              exact ⟨q16, by rw [p6, w3], by rw [p6, w3]; exact ze, fun _ => over _ _ _ M3 hM3 hz3 hP, fun _ => ⟨q16, fun _ => over _ _ _ M3 hM3 hz3 hP, fun z => absurd (Classical.not_not.mp z) (by rw [hz3]; decide)⟩⟩
      exact inner q.length 0 T M' _ (by omega) hfr hzz hT hTk hTv rfl
  exact en_X8_lessShares _ _ _ _ M (sg_X8_lessShares_0 _ _ _ _ M (loop cnt 0 F M _ _ (by omega) rfr_rf hz hF hFk hFv rfl))
def TE (fo e sh x : Nat) : Prop := x = fo + e ∨ (170 + 8 * e ≤ x ∧ x < 170 + 8 * e + sh)
theorem ofI_pos {n : Int} (h : -1000000000 ≤ n ∧ n ≤ 1000000000) : (0 : Int32) ≤ Int32.ofInt n ↔ 0 ≤ n := by
  rw [Int32.le_iff_toInt_le, tI_of (by omega), Int32.toInt_zero]
theorem sp_rmonic {d k fo e sh : Nat} {M : zM} {E : aE} {P : zM → Prop} (hd : 4 ≤ d) (hM : mst M) (hfo : zI M 1529 19 = nI fo) (hf2 : 40 ≤ fo ∧ fo + 25 ≤ 100) (he2 : e < 25) (hsh : rsh M sh) (hB : qdy M (fo + e) E.1) (hC : ∀ g, g < sh → qdy M (170 + 8 * e + g) (E.2.getD g [])) (hk : eok k E) (hl : E.2.length = sh) (hne : E.1 ≠ []) (hz : zI M 1529 11 = 0)
    (h1 : ∀ E' M', amonic E = some E' → rfr (TE fo e sh) FF GN M M' → zI M' 1529 11 = 0 → qdy M' (fo + e) E'.1 → (∀ g, g < sh → qdy M' (170 + 8 * e + g) (E'.2.getD g [])) → P M')
    (h0 : ∀ M', amonic E = none → rfr (TE fo e sh) FF GN M M' → zI M' 1529 11 = 1 → P M') : ycV d nX8_monic [.ref 1529, .int (nI e)] M P := by
  obtain ⟨d, rfl, he⟩ := dS hd
  obtain ⟨b, cs⟩ := E
  cases b with
  | nil => exact absurd rfl hne
  | cons t l =>
    have hB : qdy M (fo + e) (t :: l) := hB
    have hC : ∀ g, g < sh → qdy M (170 + 8 * e + g) (cs.getD g []) := hC
    have hl : cs.length = sh := hl
    have hkb : pok k (t :: l) := hk.1
    have hkc : ∀ L ∈ cs, pok k L := hk.2
    have ht := hkb.1 t List.mem_cons_self
    have hsh8 := hsh.1
    have hiv := afinv_ok ht.1 ht.2.1
    have hivd : afinv t.1 = if t.1.1 < 0 then (-t.1.2, -t.1.1) else (t.1.2, t.1.1) := rfl
    have ham : amonic (t :: l, cs) = (match ascal (afinv t.1) (t :: l) with
      | none => none
      | some b => match ascals (afinv t.1) cs with
        | none => none
        | some cs => some (b, cs)) := rfl
    generalize afinv t.1 = c at hiv hivd ham
    have over : ∀ (a7 : Int32) (o2 o3 o4 : Option Value) (M' : zM), mst M' → zI M' 1529 11 = 1 → P M' → wX8_monic d (fun r M2 => r = [] ∧ P M2) 40 [some (.ref 1529), some (.int (nI e)), o2, o3, o4, some (.int (Int32.ofInt c.1)), some (.int (Int32.ofInt c.2)), some (.int a7)] [] M' := fun a7 o2 o3 o4 M' hM' hz' hP => sg_X8_monic_40 _ _ _ _ _ _ _ _ _ ⟨hM'.1, fun _ => ⟨rfl, hP⟩, fun _ => ⟨hM'.1, fun _ => ⟨rfl, hP⟩, fun _ => ⟨hM'.1, fun _ => ⟨rfl, hP⟩, fun z => absurd (Classical.not_not.mp z) (by rw [hz']; decide)⟩⟩⟩
    have loop : ∀ (n g : Nat) (pre : List aP) (b' : aP) (M' : zM) (o2 o3 o4 : Option Value), g + n = sh → pre.length = g → ascal c (t :: l) = some b' → pok k b' → rfr (TE fo e sh) FF GN M M' → zI M' 1529 11 = 0 → qdy M' (fo + e) b' → (∀ i, i < g → qdy M' (170 + 8 * e + i) (pre.getD i []) ∧ (pre.getD i []).length ≤ 100) → (∀ i, g ≤ i → i < sh → qdy M' (170 + 8 * e + i) (cs.getD i [])) → (ascals c (cs.drop g)).map (fun x => pre ++ x) = ascals c cs → wX8_monic d (fun r M2 => r = [] ∧ P M2) 40 [some (.ref 1529), some (.int (nI e)), o2, o3, o4, some (.int (Int32.ofInt c.1)), some (.int (Int32.ofInt c.2)), some (.int (nI g))] [] M' := by
      intro n
      induction n with
      | zero =>
        intro g pre b' M' o2 o3 o4 hg hpl hb hbk hfr hzz hqb hpre hrest heq
        have hM' := mst_fr hfr hM
        have hr := rsh_fr hfr (by unfold FF; omega) (by unfold FF; omega) hsh
        rw [List.drop_of_length_le (by omega)] at heq
        have heq : some (pre ++ []) = ascals c cs := heq
        rw [List.append_nil] at heq
        have hP : P M' := h1 (b', pre) M' (by rw [ham, hb, ← heq]) hfr hzz hqb (fun i hi => (hpre i (by omega)).1)
        rw [show g = sh by omega]
        exact sg_X8_monic_40 _ _ _ _ _ _ _ _ _ ⟨hM'.1, fun _ => ⟨rfl, hP⟩, fun z => ⟨hM'.1, fun _ => ⟨rfl, hP⟩, fun z2 => ((rsh_end hr).elim (fun y => absurd y z) (fun y => absurd y z2))⟩⟩
      | succ n ih =>
        intro g pre b' M' o2 o3 o4 hg hpl hb hbk hfr hzz hqb hpre hrest heq
        have hM' := mst_fr hfr hM
        have hr := rsh_fr hfr (by unfold FF; omega) (by unfold FF; omega) hsh
        obtain ⟨hgo1, hgo2⟩ := rsh_go hr (show g < sh by omega)
        have hgl : g < cs.length := by omega
        have hgd : cs.getD g [] = cs[g] := by rw [List.getD_eq_getElem?_getD, List.getElem?_eq_getElem hgl]; rfl
        have hq0 := hrest g (Nat.le_refl _) (by omega)
        rw [hgd] at hq0
        have hqk := hkc _ (List.getElem_mem hgl)
        rw [List.drop_eq_getElem_cons hgl, ascals_cons] at heq
        generalize cs[g] = L at hq0 hqk heq hgd
        refine sg_X8_monic_40 _ _ _ _ _ _ _ _ _ ⟨hM'.1, fun z => absurd z hgo1, fun _ => ⟨hM'.1, fun z => absurd z hgo2, fun _ => ⟨hM'.1, fun z => absurd hzz z, fun _ => ⟨hM'.1, sp_rcof (by omega) ⟨hM'.1, ?_⟩⟩⟩⟩⟩
        refine sp_rscaled (by omega) hM' (by omega) hq0 hqk hiv.1 hzz (fun L' M2 hL' hfr2 hz2 hq2 => ?_) (fun M2 hn hfr2 hz2 => ?_)
        · rw [hL'] at heq
          intro v7
          rw [show v7 = nI (g + 1) from nI_1 g]
          have hLk := ascal_pok hiv.1 hiv.2 hqk hL'
          refine ih (g + 1) (pre ++ [L']) b' M2 _ _ _ (by omega) (by rw [List.length_append, hpl]; rfl) hb hbk (rfr_tr hfr (rfr_up hfr2 (fun x z => by unfold TE; omega) (fun _ z => z) (fun _ z => z))) hz2 (qdy_fr hfr2 (by omega) hbk.2.2 hqb) (fun i hi => ?_) (fun i hi1 hi2 => ?_) ?_
          · by_cases hig : i = g
            · subst hig
              have : (pre ++ [L']).getD i [] = L' := by
                rw [List.getD_eq_getElem?_getD, List.getElem?_append_right (by omega), hpl, Nat.sub_self]
                rfl
              rw [this]
              exact ⟨hq2, hLk.2.2⟩
            · have : (pre ++ [L']).getD i [] = pre.getD i [] := by
                rw [List.getD_eq_getElem?_getD, List.getElem?_append_left (by omega), List.getD_eq_getElem?_getD]
              rw [this]
              obtain ⟨y1, y2⟩ := hpre i (by omega)
              exact ⟨qdy_fr hfr2 (by omega) y2 y1, y2⟩
          · have hil : i < cs.length := by omega
            have y := hrest i (by omega) hi2
            have hid : cs.getD i [] = cs[i] := by rw [List.getD_eq_getElem?_getD, List.getElem?_eq_getElem hil]; rfl
            refine qdy_fr hfr2 (by omega) ?_ y
            rw [hid]
            exact (hkc _ (List.getElem_mem hil)).2.2
          · rw [← heq]
            cases ascals c (cs.drop (g + 1)) with
            | none => rfl
            | some x => simp
        · rw [hn] at heq
          have heq : none = ascals c cs := heq
          have hfa : rfr (TE fo e sh) FF GN M M2 := rfr_tr hfr (rfr_up hfr2 (fun x z => by unfold TE; omega) (fun _ z => z) (fun _ z => z))
          intro v7
          exact over _ _ _ _ M2 (mst_fr hfa hM) hz2 (h0 M2 (by rw [ham, hb, ← heq]) hfa hz2)
    have body : ∀ (o3 o4 o7 : Option Value), wX8_monic d (fun r M2 => r = [] ∧ P M2) 33 [some (.ref 1529), some (.int (nI e)), some (.int (nI (fo + e))), o3, o4, some (.int (Int32.ofInt c.1)), some (.int (Int32.ofInt c.2)), o7] [] M := fun o3 o4 o7 => by
      refine sg_X8_monic_33 _ _ _ _ _ _ _ _ _ ⟨hM.1, ?_⟩
      refine sp_rscaled (by omega) hM (by omega) hB hkb hiv.1 hz (fun b' M2 hb' hfr2 hz2 hq2 => ?_) (fun M2 hn hfr2 hz2 => ?_)
      · refine loop sh 0 [] b' M2 _ _ _ (by omega) rfl hb' (ascal_pok hiv.1 hiv.2 hkb hb') (rfr_up hfr2 (fun x z => Or.inl z) (fun _ z => z) (fun _ z => z)) hz2 hq2 (fun i hi => absurd hi (Nat.not_lt_zero _)) (fun i _ hi2 => ?_) ?_
        · have hil : i < cs.length := by omega
          have hid : cs.getD i [] = cs[i] := by rw [List.getD_eq_getElem?_getD, List.getElem?_eq_getElem hil]; rfl
          refine qdy_fr hfr2 (by omega) ?_ (hC i hi2)
          rw [hid]
          exact (hkc _ (List.getElem_mem hil)).2.2
        · rw [List.drop_zero]
          cases ascals c cs <;> rfl
      · have hfa : rfr (TE fo e sh) FF GN M M2 := rfr_up hfr2 (fun x z => Or.inl z) (fun _ z => z) (fun _ z => z)
        exact over _ _ _ _ M2 (mst_fr hfa hM) hz2 (h0 M2 (by rw [ham, hn]) hfa hz2)
    obtain ⟨s16, ⟨r3, r4, r5, r6, -⟩, ⟨k0, k1, k2, k3⟩, -⟩ := id hM
    obtain ⟨g0, g1, g2⟩ := hB.2 0 t rfl
    have cx := cl_n (n := 100 * (fo + e)) (by omega)
    have zx : zin (nI (100 * (fo + e))) 37200 := zin_n (by omega) (by omega)
    refine en_X8_monic _ _ M (sg_X8_monic_0 _ _ M ⟨s16, ?_⟩)
    intro v2
    have e2 : v2 = nI (fo + e) := by rw [show v2 = zI M 1529 19 + nI e from rfl, hfo, nI_add]
    clear_value v2
    subst e2
    rw [show (100 : Int32) * nI (fo + e) = nI (100 * (fo + e)) by rw [show (100 : Int32) = nI 100 from rfl, pk_mul], cx]
    refine ⟨s16, by rw [r3, k0], by rw [r3, k0]; exact zx, ?_⟩
    intro v3
    have e3 : v3 = Int32.ofInt t.1.1 := by rw [show v3 = zI M (zR M 1529 3) (100 * (fo + e)) from rfl, r3]; exact g0
    clear_value v3
    subst e3
    refine ⟨s16, by rw [r4, k1], by rw [r4, k1]; exact zx, ?_⟩
    intro v4
    have e4 : v4 = Int32.ofInt t.1.2 := by rw [show v4 = zI M (zR M 1529 4) (100 * (fo + e)) from rfl, r4]; exact g1
    clear_value v4
    subst e4
    obtain ⟨⟨f1, f2⟩, f3, f4⟩ := id ht.1
    refine ⟨fun z => ?_, fun z => ?_⟩
    · have z' := (ofI_pos ⟨f1, f2⟩).mp z
      rw [if_neg (by omega)] at hivd
      refine sg_X8_monic_26 _ _ _ _ _ _ _ _ _ ⟨fun _ => ?_, fun y => absurd z y⟩
      rw [show t.1.2 = c.1 by rw [hivd], show t.1.1 = c.2 by rw [hivd]]
      exact body _ _ _
    · have z' : ¬ 0 ≤ t.1.1 := fun y => z ((ofI_pos ⟨f1, f2⟩).mpr y)
      rw [if_pos (by omega)] at hivd
      intro v5
      refine sg_X8_monic_26 _ _ _ _ _ _ _ _ _ ⟨fun y => absurd y z, fun _ => ?_⟩
      intro v6
      rw [show v5 = Int32.ofInt c.1 by rw [show v5 = -Int32.ofInt t.1.2 from rfl, ineg (by omega), hivd], show v6 = Int32.ofInt c.2 by rw [show v6 = -Int32.ofInt t.1.1 from rfl, ineg (by omega), hivd]]
      exact body _ _ _
