/-! the reference: its elements; which pairs wait; which are passed over -/
def rel (M : zM) (fo sh : Nat) (es : List aE) : Prop := ∀ (i : Nat) (E : aE), es[i]? = some E → qdy M (fo + i) E.1 ∧ ∀ g, g < sh → qdy M (170 + 8 * i + g) (E.2.getD g [])
def egd (nv k sh : Nat) (es : List aE) : Prop := ∀ E ∈ es, bgd nv k E.1 ∧ E.2.length = sh ∧ ∀ c ∈ E.2, pgd nv k c
theorem getD_len {L : List aP} {k : Nat} (h : ∀ c ∈ L, pok k c) (g : Nat) : pok k (L.getD g []) := by
  rw [List.getD_eq_getElem?_getD]
  by_cases hg : g < L.length
  · rw [List.getElem?_eq_getElem hg]
    exact h _ (List.getElem_mem hg)
  · rw [List.getElem?_eq_none (by omega)]
    exact pok_nil
theorem getD_vn {L : List aP} {nv : Nat} (h : ∀ c ∈ L, pvn nv c) (g : Nat) : pvn nv (L.getD g []) := by
  rw [List.getD_eq_getElem?_getD]
  by_cases hg : g < L.length
  · rw [List.getElem?_eq_getElem hg]
    exact h _ (List.getElem_mem hg)
  · rw [List.getElem?_eq_none (by omega)]
    exact pvn_nil
theorem egd_eok {nv k sh : Nat} {es : List aE} (h : egd nv k sh es) : ∀ E ∈ es, eok k E := fun E hE => ⟨(h E hE).1.1.1, fun L hL => ((h E hE).2.2 L hL).1⟩
theorem rel_fr {T F G : Nat → Prop} {M M' : zM} {fo sh nv k : Nat} {es : List aE} (h : rfr T F G M M') (hT : ∀ i, i < es.length → ¬ T (fo + i) ∧ ∀ g, g < sh → ¬ T (170 + 8 * i + g)) (hg : egd nv k sh es) (hr : rel M fo sh es) : rel M' fo sh es := fun i E hE => by
  have hi := (List.getElem?_eq_some_iff.mp hE).1
  obtain ⟨t1, t2⟩ := hT i hi
  obtain ⟨r1, r2⟩ := hr i E hE
  have hm := List.mem_of_getElem? hE
  exact ⟨qdy_fr h t1 (hg E hm).1.1.1.2.2 r1, fun g hgs => qdy_fr h (t2 g hgs) (getD_len (fun c hc => ((hg E hm).2.2 c hc).1) g).2.2 (r2 g hgs)⟩
theorem egd_ld {nv k sh : Nat} {es : List aE} (h : egd nv k sh es) {i : Nat} (hi : i < es.length) : ∃ l cs, es[i]? = some (((1, 1), ald es i) :: l, cs) ∧ mok (ald es i) ∧ vin nv (ald es i) := by
  have hu := List.getElem?_eq_getElem hi
  have hm := List.getElem_mem hi
  obtain ⟨⟨hb, m, l, hbe⟩, -⟩ := h _ hm
  obtain ⟨b, cs, hE⟩ : ∃ b cs, es[i] = (b, cs) := ⟨_, _, rfl⟩
  rw [hE] at hu hb hbe
  have hbe : b = ((1, 1), m) :: l := hbe
  subst hbe
  have ha : ald es i = m := by
    unfold ald
    rw [List.getD_eq_getElem?_getD, hu]
    rfl
  rw [ha]
  exact ⟨l, cs, hu, (hb.1.1 _ List.mem_cons_self).2.2, hb.2.1 _ List.mem_cons_self⟩
theorem egd_cof {nv k sh : Nat} {es : List aE} (h : egd nv k sh es) (e kk : Nat) : pok k (acof es e kk) ∧ pvn nv (acof es e kk) := by
  unfold acof
  by_cases he : e < es.length
  · have hm := List.getElem_mem he
    rw [show es.getD e ([], []) = es[e] by rw [List.getD_eq_getElem?_getD, List.getElem?_eq_getElem he]; rfl]
    exact ⟨getD_len (fun c hc => ((h _ hm).2.2 c hc).1) kk, getD_vn (fun c hc => ((h _ hm).2.2 c hc).2.1) kk⟩
  · rw [show es.getD e ([], []) = ([], []) by rw [List.getD_eq_getElem?_getD, List.getElem?_eq_none (by omega)]; rfl]
    exact ⟨getD_len (L := []) (fun c hc => absurd hc List.not_mem_nil) kk, getD_vn (L := []) (fun c hc => absurd hc List.not_mem_nil) kk⟩
theorem egd_cofg {nv k sh : Nat} {es : List aE} (h : egd nv k sh es) (e kk : Nat) : pgd nv k (acof es e kk) := by
  have key : ∀ (L : List aP), (∀ c ∈ L, pgd nv k c) → pgd nv k (L.getD kk []) := fun L hL => by
    rw [List.getD_eq_getElem?_getD]
    by_cases hg : kk < L.length
    · rw [List.getElem?_eq_getElem hg]
      exact hL _ (List.getElem_mem hg)
    · rw [List.getElem?_eq_none (by omega)]
      exact pgd_nil
  unfold acof
  by_cases he : e < es.length
  · have hm := List.getElem_mem he
    rw [show es.getD e ([], []) = es[e] by rw [List.getD_eq_getElem?_getD, List.getElem?_eq_getElem he]; rfl]
    exact key _ (h _ hm).2.2
  · rw [show es.getD e ([], []) = ([], []) by rw [List.getD_eq_getElem?_getD, List.getElem?_eq_none (by omega)]; rfl]
    exact key [] (fun c hc => absurd hc List.not_mem_nil)
theorem rel_cof {M : zM} {fo sh : Nat} {es : List aE} (h : rel M fo sh es) {e kk : Nat} (he : e < es.length) (hk : kk < sh) : qdy M (170 + 8 * e + kk) (acof es e kk) := by
  unfold acof
  rw [show es.getD e ([], []) = es[e] by rw [List.getD_eq_getElem?_getD, List.getElem?_eq_getElem he]; rfl]
  exact (h e _ (List.getElem?_eq_getElem he)).2 kk hk
theorem sp_rld {d fo sh nv k i : Nat} {M : zM} {es : List aE} {P : Int32 → zM → Prop} (hd : 1 ≤ d) (hM : mst M) (hf2 : fo + 25 ≤ 100) (hr : rel M fo sh es) (hg : egd nv k sh es) (hi : i < es.length) (hi2 : i < 25) (h : P (e5 (ald es i)) M) : ycI d nX8_lead [.ref 1529, .int (nI (fo + i))] M P := by
  obtain ⟨l, cs, hE, -⟩ := egd_ld hg hi
  exact sp_rlead hd hM (by omega) (hr i _ hE).1 h
/-- what waits -/
def rbI (b : Bool) : Int32 := cond b 1 0
theorem rbI_0 {b : Bool} : rbI b = 0 ↔ b = false := by cases b <;> decide
theorem rbI_b {b : Bool} : zb (rbI b) := by cases b; exact Or.inl rfl; exact Or.inr rfl
def rwt (M : zM) (n : Nat) (W : Nat → Nat → Bool) : Prop := ∀ i j, i < j → j < n → zI M 1536 (25 * i + j) = rbI (W i j)
theorem rwt_fr {T F G : Nat → Prop} {M M' : zM} {n : Nat} {W : Nat → Nat → Bool} (h : rfr T F G M M') (hG : ¬ G 1536) (hw : rwt M n W) : rwt M' n W := fun i j hi hj => by
  rw [h.2.2.2.2.2.1 1536 _ (Or.inr ⟨by omega, hG⟩)]
  exact hw i j hi hj
theorem ix25 (i j : Nat) : (25 : Int32) * nI i + nI j = nI (25 * i + j) := by
  rw [show (25 : Int32) = nI 25 from rfl, pk_mul, nI_add]
theorem sp_rwaiting {d n a b : Nat} {M : zM} {W : Nat → Nat → Bool} {P : Int32 → zM → Prop} (hd : 1 ≤ d) (hM : mst M) (hw : rwt M n W) (hn : n ≤ 25) (ha : a < n) (hb : b < n) (hab : a ≠ b) (h : P (rbI (awt W a b)) M) : ycI d nX8_isWaiting [.ref 1529, .int (nI a), .int (nI b)] M P := by
  obtain ⟨d, rfl, he⟩ := dS hd
  obtain ⟨s16, ⟨-, -, -, -, -, -, r23, -⟩, -, -, -, k6, -⟩ := id hM
  unfold awt at h
  refine en_X8_isWaiting _ _ _ M (sg_X8_isWaiting_0 _ _ _ M ⟨s16, fun z => ?_, fun z => ?_⟩)
  · have z' := (nI_leI (by omega) (by omega)).mp z
    rw [if_neg (by omega)] at h
    rw [ix25, cl_n (by omega), r23, k6, hw b a (by omega) ha]
    exact ⟨rfl, zin_n (by omega) (by omega), rbI_b, _, rfl, h⟩
  · have z' : ¬ b ≤ a := fun y => z ((nI_leI (by omega) (by omega)).mpr y)
    rw [if_pos (by omega)] at h
    rw [ix25, cl_n (by omega), r23, k6, hw a b (by omega) hb]
    exact ⟨rfl, zin_n (by omega) (by omega), rbI_b, _, rfl, h⟩
def GW (a : Nat) : Prop := a = 1536
theorem sp_rpairs {d n : Nat} {M : zM} {W : Nat → Nat → Bool} {P : zM → Prop} (hd : 1 ≤ d) (hM : mst M) (hw : rwt M n W) (hn : n ≤ 24) (h : ∀ M', rfr TN FN GW M M' → rwt M' (n + 1) (won W n) → P M') : ycV d nX8_addPairs [.ref 1529, .int (nI n)] M P := by
  obtain ⟨d, rfl, he⟩ := dS hd
  have loop : ∀ (m i : Nat) (M' : zM), i + m = n → rfr TN FN GW M M' → rwt M' n W → (∀ a, a < i → zI M' 1536 (25 * a + n) = 1) → wX8_addPairs d (fun r M2 => r = [] ∧ P M2) 2 [some (.ref 1529), some (.int (nI n)), some (.int (nI i))] [] M' := by
    intro m
    induction m with
    | zero =>
      intro i M' hi hfr hw' ha
      refine sg_X8_addPairs_2 _ _ _ _ ⟨fun _ => ⟨rfl, h M' hfr fun a b hab hb => ?_⟩, fun z => absurd (by rw [show i = n by omega]; exact Int32.le_refl _) z⟩
      unfold won
      by_cases hbn : b = n
      · rw [if_pos hbn, hbn]
        exact ha a (by omega)
      · rw [if_neg hbn]
        exact hw' a b hab (by omega)
    | succ m ih =>
      intro i M' hi hfr hw' ha
      have hM' := mst_fr hfr hM
      obtain ⟨s16, ⟨-, -, -, -, -, -, r23, -⟩, -, -, -, k6, -⟩ := id hM'
      refine sg_X8_addPairs_2 _ _ _ _ ⟨fun z => ?_, fun _ => ?_⟩
      · have := (nI_leI (by omega) (by omega)).mp z
        omega
      · rw [ix25, cl_n (by omega), r23, k6]
        refine ⟨s16, rfl, zin_n (by omega) (by omega), Or.inr rfl, ?_⟩
        intro M1 v2
        have m1 : M1 = zuI M' 1536 (25 * i + n) 1 := rfl
        clear_value M1
        rw [show v2 = nI (i + 1) from nI_1 i]
        have hfr1 : rfr TN FN GW M' M1 := by rw [m1]; exact rfr_G rfl (by omega)
        refine ih (i + 1) M1 (by omega) (rfr_tr hfr hfr1) (fun a b hab hb => ?_) (fun a hai => ?_)
        · rw [m1, zI_uI, if_neg (by omega)]
          exact hw' a b hab hb
        · rw [m1, zI_uI]
          by_cases hh : a = i
          · rw [if_pos ⟨rfl, by rw [hh]⟩]
          · rw [if_neg (by omega)]
            exact ha a (by omega)
  exact en_X8_addPairs _ _ M (sg_X8_addPairs_0 _ _ M (loop n 0 M (by omega) rfr_rf hw fun a ha => absurd ha (Nat.not_lt_zero _)))
theorem mapb_all {nv : Nat} {a b : aM} (h4 : nv ≤ 4) (ha : vin nv a) : mapb a b = true ↔ ∀ u, u < nv → aex a u = 0 ∨ aex b u = 0 := by
  rw [mapb_iff]
  unfold mapart
  obtain ⟨v0, v1, v2, v3⟩ := ha
  constructor
  · rintro ⟨h0, h1, h2, h3⟩ u hu
    match u, hu with
    | 0, _ => exact h0
    | 1, _ => exact h1
    | 2, _ => exact h2
    | 3, _ => exact h3
    | (_ + 4), hu => omega
  · intro h
    refine ⟨?_, ?_, ?_, ?_⟩
    · by_cases c : 0 < nv
      · exact h 0 c
      · exact Or.inl (v0 (by omega))
    · by_cases c : 1 < nv
      · exact h 1 c
      · exact Or.inl (v1 (by omega))
    · by_cases c : 2 < nv
      · exact h 2 c
      · exact Or.inl (v2 (by omega))
    · by_cases c : 3 < nv
      · exact h 3 c
      · exact Or.inl (v3 (by omega))
theorem sp_rpassed {d fo sh nv k l r : Nat} {M : zM} {es : List aE} {W : Nat → Nat → Bool} {P : Int32 → zM → Prop} (hd : 3 ≤ d) (hM : mst M) (hv : mvk M nv k) (hfo : zI M 1529 19 = nI fo) (hf2 : 40 ≤ fo ∧ fo + 25 ≤ 100) (hmo : zI M 1529 20 = nI es.length) (hl : es.length ≤ 24) (hr : rel M fo sh es) (hg : egd nv k sh es) (hw : rwt M es.length W) (hlr : l < r) (hrl : r < es.length) (h : P (rbI (aneed es W l r)) M) : ycI d nX8_isPassed [.ref 1529, .int (nI l), .int (nI r), .int (e5 (mlcm (ald es l) (ald es r)))] M P := by
  obtain ⟨d, rfl, he⟩ := dS hd
  obtain ⟨la, lca, -, lm, lv⟩ := egd_ld hg (show l < es.length by omega)
  obtain ⟨ra, rca, -, rm, rv⟩ := egd_ld hg hrl
  have hcm := mlcm_ok lm rm
  have key : aneed es W l r = (mapb (ald es l) (ald es r) || (List.range es.length).any fun c => anec es W l r c) := rfl
  -- the others
  have loop : ∀ (n i : Nat) (b : Bool) (o4 o5 : Option Value), i + n = es.length → (b = true → aneed es W l r = true) → (b = false → mapb (ald es l) (ald es r) = false ∧ ∀ c, c < i → anec es W l r c = false) → wX8_isPassed d (fun r M2 => ∃ x : Int32, r = [.int x] ∧ P x M2) 40 [some (.ref 1529), some (.int (nI l)), some (.int (nI r)), some (.int (e5 (mlcm (ald es l) (ald es r)))), o4, o5, some (.int (rbI b)), some (.int (nI i))] [] M := by
    intro n
    induction n with
    | zero =>
      intro i b o4 o5 hi hb1 hb0
      refine sg_X8_isPassed_40 _ _ _ _ _ _ _ _ _ ⟨hM.1, fun _ => ⟨rbI_b, _, rfl, ?_⟩, fun z => absurd (by rw [hmo, show i = es.length by omega]; exact Int32.le_refl _) z⟩
      cases b with
      | true => rw [hb1 rfl] at h; exact h
      | false =>
        obtain ⟨c1, c2⟩ := hb0 rfl
        have : aneed es W l r = false := by
          rw [key, c1, Bool.false_or, List.any_eq_false]
          intro c hc
          rw [c2 c (by have := List.mem_range.mp hc; omega)]
          decide
        rw [this] at h
        exact h
    | succ n ih =>
      intro i b o4 o5 hi hb1 hb0
      refine sg_X8_isPassed_40 _ _ _ _ _ _ _ _ _ ⟨hM.1, fun z => ?_, fun _ => ⟨fun z => ⟨rbI_b, _, rfl, ?_⟩, fun z => ?_⟩⟩
      · rw [hmo] at z
        have := (nI_leI (by omega) (by omega)).mp z
        omega
      · cases b with
        | true => rw [hb1 rfl] at h; exact h
        | false => exact absurd rfl z
      · have hbf : b = false := rbI_0.mp (Classical.not_not.mp z)
        obtain ⟨c1, c2⟩ := hb0 hbf
        have no : anec es W l r i = false → ∀ (o4 o5 : Option Value), wX8_isPassed d (fun r M2 => ∃ x : Int32, r = [.int x] ∧ P x M2) 76 [some (.ref 1529), some (.int (nI l)), some (.int (nI r)), some (.int (e5 (mlcm (ald es l) (ald es r)))), o4, o5, some (.int 0), some (.int (nI i))] [] M := fun hn o4 o5 => by
          refine sg_X8_isPassed_76 _ _ _ _ _ _ _ _ _ ?_
          intro v7
          rw [show v7 = nI (i + 1) from nI_1 i]
          refine ih (i + 1) false _ _ (by omega) (fun z => by cases z) fun _ => ⟨c1, fun c hc => ?_⟩
          by_cases hci : c = i
          · rw [hci]; exact hn
          · exact c2 c (by omega)
        have yes : anec es W l r i = true → ∀ (o4 o5 : Option Value), wX8_isPassed d (fun r M2 => ∃ x : Int32, r = [.int x] ∧ P x M2) 76 [some (.ref 1529), some (.int (nI l)), some (.int (nI r)), some (.int (e5 (mlcm (ald es l) (ald es r)))), o4, o5, some (.int 1), some (.int (nI i))] [] M := fun hn o4 o5 => by
          refine sg_X8_isPassed_76 _ _ _ _ _ _ _ _ _ ?_
          intro v7
          rw [show v7 = nI (i + 1) from nI_1 i]
          refine ih (i + 1) true _ _ (by omega) (fun _ => ?_) fun z => by cases z
          rw [key, List.any_eq_true.mpr ⟨i, List.mem_range.mpr (by omega), hn⟩, Bool.or_true]
        refine ⟨fun c => no ?_ _ _, fun c => ⟨fun c' => no ?_ _ _, fun c' => ⟨hM.1, hM.1, ?_⟩⟩⟩
        · have : i = l := (nI_eq (by omega) (by omega)).mp c
          unfold anec
          rw [this]
          simp
        · have : i = r := (nI_eq (by omega) (by omega)).mp c'
          unfold anec
          rw [this]
          simp
        · have hil : i ≠ l := fun z => c (by rw [z])
          have hir : i ≠ r := fun z => c' (by rw [z])
          have e1 : (i != l) = true := by simpa using hil
          have e2 : (i != r) = true := by simpa using hir
          obtain ⟨ia, ica, -, im, iv⟩ := egd_ld hg (show i < es.length by omega)
          rw [hfo, nI_add]
          refine sp_rld (by omega) hM (by omega) hr hg (by omega) (by omega) ⟨hM.1, ?_⟩
          refine sp_rdiv (by omega) hM hv im hcm iv (fun hdv => ⟨fun z => absurd z (by decide), fun _ => ⟨hM.1, ?_⟩⟩) (fun hdv => ⟨fun _ => no ?_ _ _, fun z => absurd rfl z⟩)
          · have e3 := mdv_iff.mpr hdv
            refine sp_rwaiting (by omega) hM hw (by omega) (by omega) (by omega) hil ⟨fun z => no ?_ _ _, fun z => ⟨hM.1, ?_⟩⟩
            · unfold anec
              cases hh : awt W i l with
              | true => simp
              | false => exact absurd (rbI_0.mpr hh) z
            · have e4 := rbI_0.mp (Classical.not_not.mp z)
              refine sp_rwaiting (by omega) hM hw (by omega) (by omega) (by omega) hir ⟨fun z2 => no ?_ _ _, fun z2 => yes ?_ _ _⟩
              · unfold anec
                cases hh : awt W i r with
                | true => simp
                | false => exact absurd (rbI_0.mpr hh) z2
              · have e5' := rbI_0.mp (Classical.not_not.mp z2)
                unfold anec
                rw [e1, e2, e3, e4, e5']
                rfl
          · have e3 : mdv (ald es i) (mlcm (ald es l) (ald es r)) = false := by
              cases hh : mdv (ald es i) (mlcm (ald es l) (ald es r)) with
              | true => exact absurd (mdv_iff.mp hh) hdv
              | false => rfl
            unfold anec
            rw [e3]
            simp
  -- no variable in common
  have vars : ∀ (n v : Nat) (b : Bool), v + n = nv → (b = true ↔ ∀ u, u < v → aex (ald es l) u = 0 ∨ aex (ald es r) u = 0) → wX8_isPassed d (fun r M2 => ∃ x : Int32, r = [.int x] ∧ P x M2) 18 [some (.ref 1529), some (.int (nI l)), some (.int (nI r)), some (.int (e5 (mlcm (ald es l) (ald es r)))), some (.int (e5 (ald es l))), some (.int (e5 (ald es r))), some (.int (rbI b)), some (.int (nI v))] [] M := by
    intro n
    induction n with
    | zero =>
      intro v b hvn hb
      rw [show v = nv by omega] at hb ⊢
      refine sg_X8_isPassed_18 _ _ _ _ _ _ _ _ _ ⟨hM.1, fun _ => ?_, fun z => absurd (by rw [hv.1]; exact Int32.le_refl _) z⟩
      have hm : mapb (ald es l) (ald es r) = b := by
        have := (mapb_all (b := ald es r) hv.2.2.2.2 lv).trans hb.symm
        cases b with
        | true => exact this.mpr rfl
        | false =>
          cases hh : mapb (ald es l) (ald es r) with
          | true => exact (this.mp hh).symm
          | false => rfl
      refine loop es.length 0 b _ _ (by omega) (fun z => by rw [key, hm, z]; rfl) fun z => ⟨by rw [hm, z], fun c hc => absurd hc (Nat.not_lt_zero _)⟩
    | succ n ih =>
      intro v b hvn hb
      have h4 := hv.2.2.2.2
      have xa := aex_ok lm v
      have xb := aex_ok rm v
      have fin : ∀ b' : Bool, (b' = true ↔ b = true ∧ (aex (ald es l) v = 0 ∨ aex (ald es r) v = 0)) → wX8_isPassed d (fun r M2 => ∃ x : Int32, r = [.int x] ∧ P x M2) 36 [some (.ref 1529), some (.int (nI l)), some (.int (nI r)), some (.int (e5 (mlcm (ald es l) (ald es r)))), some (.int (e5 (ald es l))), some (.int (e5 (ald es r))), some (.int (rbI b')), some (.int (nI v))] [] M := fun b' hb' => by
        refine sg_X8_isPassed_36 _ _ _ _ _ _ _ _ _ ?_
        intro v7
        rw [show v7 = nI (v + 1) from nI_1 v]
        refine ih (v + 1) b' (by omega) ?_
        rw [hb', hb]
        constructor
        · rintro ⟨y1, y2⟩ u hu
          by_cases e : u = v
          · rw [e]; exact y2
          · exact y1 u (by omega)
        · exact fun y => ⟨fun u hu => y u (by omega), y v (by omega)⟩
      refine sg_X8_isPassed_18 _ _ _ _ _ _ _ _ _ ⟨hM.1, fun z => ?_, fun _ => ⟨fun z => fin false ?_, fun z => ?_⟩⟩
      · rw [hv.1] at z
        have := (nI_leI (by omega) (by omega)).mp z
        omega
      · have := rbI_0.mp z
        rw [this]
        simp
      · have hbt : b = true := by
          cases b with
          | true => rfl
          | false => exact absurd rfl z
        refine sp_rexp (by omega) lm (by omega) ⟨fun c => fin true ?_, fun c => sp_rexp (by omega) rm (by omega) ⟨fun c2 => fin false ?_, fun c2 => fin true ?_⟩⟩
        · have := (nI_z (by omega)).mp c
          simp [hbt, this]
        · have c : aex (ald es l) v ≠ 0 := fun y => c ((nI_z (by omega)).mpr y)
          have c2 : aex (ald es r) v ≠ 0 := fun y => c2 ((nI_z (by omega)).mpr y)
          simp [c, c2]
        · have := (nI_z (by omega)).mp (Classical.not_not.mp c2)
          simp [hbt, this]
  refine en_X8_isPassed _ _ _ _ M (sg_X8_isPassed_0 _ _ _ _ M ⟨hM.1, hM.1, ?_⟩)
  rw [hfo, nI_add]
  refine sp_rld (by omega) hM (by omega) hr hg (by omega) (by omega) ⟨hM.1, hM.1, ?_⟩
  rw [hfo, nI_add]
  refine sp_rld (by omega) hM (by omega) hr hg hrl (by omega) ?_
  exact vars nv 0 true (by omega) ⟨fun _ u hu => absurd hu (Nat.not_lt_zero _), fun _ => rfl⟩
