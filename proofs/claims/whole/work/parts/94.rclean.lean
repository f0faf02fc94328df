/-! the reference: what goes, and the order of the rest -/
def rel1 (M : zM) (fo sh i : Nat) (E : aE) : Prop := qdy M (fo + i) E.1 ∧ ∀ g, g < sh → qdy M (170 + 8 * i + g) (E.2.getD g [])
def eln (E : aE) : Prop := E.1.length ≤ 100 ∧ ∀ g, (E.2.getD g []).length ≤ 100
theorem egd_eln {nv k sh : Nat} {es : List aE} (h : egd nv k sh es) : ∀ E ∈ es, eln E := fun E hE => ⟨(h E hE).1.1.1.2.2, fun g => (getD_len (fun c hc => ((h E hE).2.2 c hc).1) g).2.2⟩
theorem rel1_fr {T F G : Nat → Prop} {M M' : zM} {fo sh i : Nat} {E : aE} (h : rfr T F G M M') (h1 : ¬ T (fo + i)) (h2 : ∀ g, g < sh → ¬ T (170 + 8 * i + g)) (hE : eln E) (hr : rel1 M fo sh i E) : rel1 M' fo sh i E := ⟨qdy_fr h h1 hE.1 hr.1, fun g hg => qdy_fr h (h2 g hg) (hE.2 g) (hr.2 g hg)⟩
theorem rel1_te {F G : Nat → Prop} {M M' : zM} {fo sh i b : Nat} {E : aE} (h : rfr (TE fo b sh) F G M M') (hf : fo + 25 ≤ 100) (hs : sh ≤ 8) (hi : i < 25) (hb : b < 25) (hib : i ≠ b) (hE : eln E) (hr : rel1 M fo sh i E) : rel1 M' fo sh i E := rel1_fr h (by unfold TE; omega) (fun g hg => by unfold TE; omega) hE hr
theorem sp_rmove0 {d a : Nat} {M : zM} {P : zM → Prop} (hd : 1 ≤ d) (h : P M) : ycV d nX8_move [.ref 1529, .int (nI a), .int (nI a)] M P := by
  obtain ⟨d, rfl, he⟩ := dS hd
  exact en_X8_move _ _ _ M (sg_X8_move_0 _ _ _ M ⟨fun z => absurd rfl z, fun _ => ⟨rfl, h⟩⟩)
theorem sp_rmove {d fo sh a b : Nat} {M : zM} {E : aE} {P : zM → Prop} (hd : 2 ≤ d) (hM : mst M) (hfo : zI M 1529 19 = nI fo) (hf2 : 40 ≤ fo ∧ fo + 25 ≤ 100) (ha : a < 25) (hb : b < 25) (hsh : rsh M sh) (hab : a ≠ b) (hr : rel1 M fo sh a E) (hE : eln E) (h : ∀ M', rfr (TE fo b sh) FN GN M M' → rel1 M' fo sh b E → P M') : ycV d nX8_move [.ref 1529, .int (nI a), .int (nI b)] M P := by
  obtain ⟨d, rfl, he⟩ := dS hd
  have hs8 := hsh.1
  have loop : ∀ (m g : Nat) (M' : zM), g + m = sh → rfr (TE fo b sh) FN GN M M' → qdy M' (fo + b) E.1 → (∀ i, i < g → qdy M' (170 + 8 * b + i) (E.2.getD i [])) → wX8_move d (fun r M2 => r = [] ∧ P M2) 16 [some (.ref 1529), some (.int (nI a)), some (.int (nI b)), some (.int (nI g))] [] M' := by
    intro m
    induction m with
    | zero =>
      intro g M' hg hfr hq hc
      have hM' := mst_fr hfr hM
      have hr' := rsh_fr hfr (fun z => z) (fun z => z) hsh
      rw [show g = sh by omega] at hc ⊢
      have hP := h M' hfr ⟨hq, hc⟩
      exact sg_X8_move_16 _ _ _ _ _ ⟨hM'.1, fun _ => ⟨rfl, hP⟩, fun z => ⟨hM'.1, fun _ => ⟨rfl, hP⟩, fun z2 => ((rsh_end hr').elim (fun y => absurd y z) (fun y => absurd y z2))⟩⟩
    | succ m ih =>
      intro g M' hg hfr hq hc
      have hM' := mst_fr hfr hM
      have hr' := rsh_fr hfr (fun z => z) (fun z => z) hsh
      obtain ⟨go1, go2⟩ := rsh_go hr' (show g < sh by omega)
      refine sg_X8_move_16 _ _ _ _ _ ⟨hM'.1, fun z => absurd z go1, fun _ => ⟨hM'.1, fun z => absurd z go2, fun _ => ⟨hM'.1, sp_rcof (by omega) ⟨hM'.1, sp_rcof (by omega) ⟨hM'.1, ?_⟩⟩⟩⟩⟩
      refine sp_rcopy (by omega) hM' (by omega) (by omega) (by omega) (qdy_fr hfr (by unfold TE; omega) (hE.2 g) (hr.2 g (by omega))) (hE.2 g) fun M2 hfr2 hq2 => ?_
      intro v3
      rw [show v3 = nI (g + 1) from nI_1 g]
      refine ih (g + 1) M2 (by omega) (rfr_tr hfr (rfr_up hfr2 (fun x z => by unfold TE; omega) (fun _ z => z) (fun _ z => z))) (qdy_fr hfr2 (by omega) hE.1 hq) fun i hi => ?_
      by_cases hig : i = g
      · rw [hig]; exact hq2
      · exact qdy_fr hfr2 (by omega) (hE.2 i) (hc i (by omega))
  refine en_X8_move _ _ _ M (sg_X8_move_0 _ _ _ M ⟨fun _ => ⟨hM.1, hM.1, hM.1, ?_⟩, fun z => absurd ((nI_eq (by omega) (by omega)).mp (Classical.not_not.mp z)) hab⟩)
  rw [hfo, nI_add, nI_add]
  refine sp_rcopy (by omega) hM (by omega) (by omega) (by omega) hr.1 hE.1 fun M1 hfr1 hq1 => ?_
  exact loop sh 0 M1 (by omega) (rfr_up hfr1 (fun x z => Or.inl z) (fun _ z => z) (fun _ z => z)) hq1 fun i hi => absurd hi (Nat.not_lt_zero _)
def TM (fo sh x : Nat) : Prop := (fo ≤ x ∧ x < fo + 25) ∨ (100 ≤ x ∧ x < 125) ∨ (150 ≤ x ∧ x < 162) ∨ (170 ≤ x ∧ x < 370 ∧ 0 < sh)
theorem TE_TM {fo b sh x : Nat} (hb : b < 25) (hs : sh ≤ 8) (h : TE fo b sh x) : TM fo sh x := by
  unfold TE at h
  unfold TM
  omega
theorem TP_TM {fo n sh x : Nat} (hn : n < 25) (hs : sh ≤ 8) (h : TP fo sh n x) : TM fo sh x := by
  unfold TP at h
  unfold TM
  omega
def gcn (es : List aE) (i j : Nat) : Bool := j != i && (mdv (ald es j) (ald es i) && (ald es j != ald es i || decide (j < i)))
def gpt (es : List aE) (i j : Nat) : Bool := (List.range j).any fun j => gcn es i j
theorem gpt_s {es : List aE} {i j : Nat} : gpt es i (j + 1) = (gpt es i j || gcn es i j) := by
  unfold gpt
  rw [List.range_succ, List.any_append]
  simp
theorem gpt_all {es : List aE} {i : Nat} : gpt es i es.length = agoes es i := rfl
def GC (a : Nat) : Prop := a = 1537
theorem sp_rclean {d fo sh nv k : Nat} {M : zM} {es : List aE} {P : zM → Prop} (hd : 4 ≤ d) (hM : mst M) (hv : mvk M nv k) (hfo : zI M 1529 19 = nI fo) (hf2 : 40 ≤ fo ∧ fo + 25 ≤ 100) (hmo : zI M 1529 20 = nI es.length) (hsh : rsh M sh) (hl : es.length ≤ 24) (hr : rel M fo sh es) (hg : egd nv k sh es) (h : ∀ M', rfr (TM fo sh) (fun j => j = 20) GC M M' → zI M' 1529 20 = nI (acsort k es).length → rel M' fo sh (acsort k es) → P M') : ycV d nX8_clean [.ref 1529] M P := by
  obtain ⟨d, rfl, he⟩ := dS hd
  have hs8 := hsh.1
  -- sorting
  have hCl := aclean_len (es := es) (i := es.length)
  have hCe : ∀ E ∈ aclean es es.length, E ∈ es := fun E hE => by
    obtain ⟨j, hj, -, hjE⟩ := aclean_mem.mp hE
    rw [← hjE, List.getD_eq_getElem?_getD, List.getElem?_eq_getElem hj]
    exact List.getElem_mem hj
  have hCg : egd nv k sh (aclean es es.length) := fun E hE => hg E (hCe E hE)
  have hacs : acsort k es = aesrt k (aclean es es.length) (aclean es es.length).length := rfl
  rw [hacs] at h
  have sorting : ∀ (C : List aE), egd nv k sh C → C.length ≤ 24 → (∀ M', rfr (TM fo sh) (fun j => j = 20) GC M M' → zI M' 1529 20 = nI (aesrt k C C.length).length → rel M' fo sh (aesrt k C C.length) → P M') → ∀ (m i : Nat) (M' : zM) (o1 o3 o4 : Option Value), i + m = max C.length 1 → 1 ≤ i → rfr (TM fo sh) (fun j => j = 20) GC M M' → zI M' 1529 20 = nI C.length → (∀ (x : Nat) (E : aE), i ≤ C.length → (aesrt k C i)[x]? = some E → rel1 M' fo sh x E) → (∀ (x : Nat) (E : aE), i ≤ x → C[x]? = some E → rel1 M' fo sh x E) → wX8_clean d (fun r M2 => r = [] ∧ P M2) 86 [some (.ref 1529), o1, some (.int (nI i)), o3, o4] [] M' := by
    intro C hC hCl h m
    induction m with
    | zero =>
      intro i M' o1 o3 o4 hi hi1 hfr h20 hs ht
      have hM' := mst_fr hfr hM
      refine sg_X8_clean_86 _ _ _ _ _ _ ⟨hM'.1, fun _ => ⟨rfl, h M' hfr (by rw [aesrt_len]; exact h20) fun x E hx => ?_⟩, fun c => absurd (by rw [h20]; exact (nI_leI (by omega) (by omega)).mpr (by omega)) c⟩
      by_cases h0 : C.length = 0
      · rw [h0] at hx
        cases hx
      · rw [show C.length = i by omega] at hx
        exact hs x E (by omega) hx
    | succ m ih =>
      intro i M' o1 o3 o4 hi hi1 hfr h20 hs ht
      have hil : i < C.length := by omega
      have hM' := mst_fr hfr hM
      have hei := List.getElem?_eq_getElem hil
      have hgd : C.getD i aE0 = C[i] := by rw [List.getD_eq_getElem?_getD, hei]; rfl
      have hld : ald C i = lmon C[i].1 := by rw [ald_getD, hgd]
      have hss := aesrt_s (k := k) (es := C) (i := i)
      rw [hgd] at hss
      have hlen := aesrt_len (k := k) (es := C) (i := i)
      have hem := List.getElem_mem hil
      generalize C[i] = e at hei hgd hld hss hem
      have heln := egd_eln hC e hem
      have hSe : ∀ E ∈ aesrt k C i, E ∈ C := aesrt_mem (by omega)
      have hSg : egd nv k sh (aesrt k C i) := fun E hE => hC E (hSe E hE)
      obtain ⟨el, ecs, heE, em, ev⟩ := egd_ld hC hil
      have hee : e = (((1, 1), ald C i) :: el, ecs) := by rw [hei] at heE; exact Option.some.inj heE
      generalize aesrt k C i = S at hs hss hlen hSe hSg
      -- one row goes down
      have down : ∀ (j : Nat) (M1 : zM) (o1 o4 : Option Value), j ≤ i → rfr (TM fo sh) (fun j => j = 20) GC M M1 → zI M1 1529 20 = nI C.length → (∀ (x : Nat) (E : aE), x < j → S[x]? = some E → rel1 M1 fo sh x E) → rel1 M1 fo sh j e → (∀ (x : Nat) (E : aE), j < x → x ≤ i → S[x - 1]? = some E → rel1 M1 fo sh x E) → (∀ (x : Nat) (E : aE), i < x → C[x]? = some E → rel1 M1 fo sh x E) → aescan k (ark k (ald C i)) S i = aescan k (ark k (ald C i)) S j → wX8_clean d (fun r M2 => r = [] ∧ P M2) 92 [some (.ref 1529), o1, some (.int (nI i)), some (.int (nI j)), o4] [] M1 := by
        intro j
        -- it has come to its place
        have fin : ∀ (j : Nat) (M1 : zM) (o1 o3 o4 : Option Value), j ≤ i → rfr (TM fo sh) (fun j => j = 20) GC M M1 → zI M1 1529 20 = nI C.length → (∀ (x : Nat) (E : aE), x < j → S[x]? = some E → rel1 M1 fo sh x E) → rel1 M1 fo sh j e → (∀ (x : Nat) (E : aE), j < x → x ≤ i → S[x - 1]? = some E → rel1 M1 fo sh x E) → (∀ (x : Nat) (E : aE), i < x → C[x]? = some E → rel1 M1 fo sh x E) → aescan k (ark k (ald C i)) S i = j → wX8_clean d (fun r M2 => r = [] ∧ P M2) 86 [some (.ref 1529), o1, some (.int (nI i + 1)), o3, o4] [] M1 := fun j M1 o1 o3 o4 hj hfr1 h20' h1 h2 h3 h4 hsc => by
          rw [nI_1]
          rw [hsc] at hss
          refine ih (i + 1) M1 _ _ _ (by omega) (by omega) hfr1 h20' (fun x E _ hx => ?_) fun x E hx hxE => h4 x E (by omega) hxE
          rw [hss, List.getElem?_insertIdx] at hx
          by_cases c1 : x < j
          · rw [if_pos c1] at hx
            exact h1 x E c1 hx
          · rw [if_neg c1] at hx
            by_cases c2 : x = j
            · rw [if_pos c2, if_pos (by omega)] at hx
              cases hx
              rw [c2]
              exact h2
            · rw [if_neg c2] at hx
              have := (List.getElem?_eq_some_iff.mp hx).1
              exact h3 x E (by omega) (by omega) hx
        induction j with
        | zero =>
          intro M1 o1 o4 hj hfr1 h20' h1 h2 h3 h4 hsc
          refine sg_X8_clean_92 _ _ _ _ _ _ ⟨fun _ => ?_, fun z => absurd (Int32.le_refl _) z⟩
          intro v2
          exact fin 0 M1 _ _ _ hj hfr1 h20' h1 h2 h3 h4 hsc
        | succ j ihj =>
          intro M1 o1 o4 hj hfr1 h20' h1 h2 h3 h4 hsc
          have hM1 := mst_fr hfr1 hM
          have hv1 := mvk_fr hfr1 (by omega) (by omega) hv
          have hr1 := rsh_fr hfr1 (by omega) (by omega) hsh
          have h19 : zI M1 1529 19 = nI fo := by rw [hfr1.2.2.2.2.2.2.1 19 (by omega)]; exact hfo
          have hjS : j < S.length := by omega
          have hsj := List.getElem?_eq_getElem hjS
          have hsm := List.getElem_mem hjS
          obtain ⟨sl, scs, hsE, sm, sv⟩ := egd_ld hSg hjS
          have hs1 := h1 j _ (by omega) hsE
          have hsn := egd_eln hSg _ (List.mem_of_getElem? hsE)
          have hsc1 : aescan k (ark k (ald C i)) S (j + 1) = if ark k (ald C i) < ark k (ald S j) then aescan k (ark k (ald C i)) S j else j + 1 := rfl
          refine sg_X8_clean_92 _ _ _ _ _ _ ⟨fun z => ?_, fun _ => ⟨hM1.1, hM1.1, ?_⟩⟩
          · have := (nI_leI (b := 0) (by omega) (by omega)).mp z
            omega
          · rw [h19, nI_add, show nI (fo + (j + 1)) - 1 = nI (fo + j) by rw [show fo + (j + 1) = (fo + j) + 1 by omega, nI_pred]]
            refine sp_rlead (by omega) hM1 (by omega) hs1.1 ⟨hM1.1, hM1.1, ?_⟩
            rw [h19, nI_add]
            have h2' := h2.1
            rw [hee] at h2'
            refine sp_rlead (by omega) hM1 (by omega) h2' ⟨hM1.1, ?_⟩
            refine sp_rcmp (by omega) hM1 hv1 sm em sv ev ⟨fun c => ?_, fun c => ⟨hM1.1, ?_⟩⟩
            · have hn : ¬ ark k (ald C i) < ark k (ald S j) := fun z => (acmp_pos.mpr z) c
              rw [if_neg hn] at hsc1
              intro v2
              exact fin (j + 1) M1 _ _ _ hj hfr1 h20' h1 h2 h3 h4 (by rw [hsc, hsc1])
            · have hlt := acmp_pos.mp c
              rw [if_pos hlt] at hsc1
              refine sp_rmove (b := 24) (by omega) hM1 h19 hf2 (by omega) (by omega) hr1 (by omega) h2 heln fun M2 hfr2 hr2 => ?_
              have hM2 := mst_fr hfr2 hM1
              have hrs2 := rsh_fr hfr2 (fun z => z) (fun z => z) hr1
              have h19' : zI M2 1529 19 = nI fo := by rw [hfr2.2.2.2.2.2.2.1 19 (fun z => z)]; exact h19
              have hs2 := rel1_te hfr2 hf2.2 hs8 (show j < 25 by omega) (by omega) (by omega) hsn hs1
              refine ⟨hM2.1, ?_⟩
              rw [show nI (j + 1) - 1 = nI j from nI_pred j]
              refine sp_rmove (by omega) hM2 h19' hf2 (by omega) (by omega) hrs2 (by omega) hs2 hsn fun M3 hfr3 hr3 => ?_
              have hM3 := mst_fr hfr3 hM2
              have hrs3 := rsh_fr hfr3 (fun z => z) (fun z => z) hrs2
              have h19'' : zI M3 1529 19 = nI fo := by rw [hfr3.2.2.2.2.2.2.1 19 (fun z => z)]; exact h19'
              have he3 := rel1_te hfr3 hf2.2 hs8 (show 24 < 25 by omega) (by omega) (by omega) heln hr2
              refine ⟨hM3.1, ?_⟩
              refine sp_rmove (a := 24) (by omega) hM3 h19'' hf2 (by omega) (by omega) hrs3 (by omega) he3 heln fun M4 hfr4 hr4 => ?_
              intro v3
              rw [show v3 = nI j by rw [show v3 = nI (j + 1) + (-1) from rfl, ← Int32.sub_eq_add_neg, nI_pred]]
              have up : ∀ (x : Nat) (E : aE), x < 24 → x ≠ j → x ≠ j + 1 → eln E → rel1 M1 fo sh x E → rel1 M4 fo sh x E := fun x E hx hx1 hx2 hE hh => rel1_te hfr4 hf2.2 hs8 (by omega) (by omega) hx1 hE (rel1_te hfr3 hf2.2 hs8 (by omega) (by omega) hx2 hE (rel1_te hfr2 hf2.2 hs8 (by omega) (by omega) (by omega) hE hh))
              have hSn : ∀ (x : Nat) (E : aE), S[x]? = some E → eln E := fun x E hx => egd_eln hSg E (List.mem_of_getElem? hx)
              have hfa : rfr (TM fo sh) (fun j => j = 20) GC M M4 := rfr_tr hfr1 (rfr_tr (rfr_up hfr2 (fun x z => TE_TM (by omega) hs8 z) (fun _ z => z.elim) (fun _ z => z.elim)) (rfr_tr (rfr_up hfr3 (fun x z => TE_TM (by omega) hs8 z) (fun _ z => z.elim) (fun _ z => z.elim)) (rfr_up hfr4 (fun x z => TE_TM (by omega) hs8 z) (fun _ z => z.elim) (fun _ z => z.elim))))
              refine ihj M4 _ _ (by omega) hfa (by rw [hfr4.2.2.2.2.2.2.1 20 (fun z => z), hfr3.2.2.2.2.2.2.1 20 (fun z => z), hfr2.2.2.2.2.2.2.1 20 (fun z => z)]; exact h20') (fun x E hx hxE => up x E (by omega) (by omega) (by omega) (hSn x E hxE) (h1 x E (by omega) hxE)) hr4 (fun x E hx1 hx2 hxE => ?_) (fun x E hx hxE => ?_) (by rw [hsc, hsc1])
              · by_cases hxj : x = j + 1
                · rw [hxj, show j + 1 - 1 = j by omega, hsE] at hxE
                  cases hxE
                  rw [hxj]
                  exact rel1_te hfr4 hf2.2 hs8 (by omega) (by omega) (by omega) hsn hr3
                · exact up x E (by omega) (by omega) (by omega) (hSn _ E hxE) (h3 x E (by omega) hx2 hxE)
              · have hxl := (List.getElem?_eq_some_iff.mp hxE).1
                exact up x E (by omega) (by omega) (by omega) (egd_eln hC E (List.mem_of_getElem? hxE)) (h4 x E hx hxE)
      refine sg_X8_clean_86 _ _ _ _ _ _ ⟨hM'.1, fun z => ?_, fun _ => ?_⟩
      · rw [h20] at z
        have := (nI_leI (by omega) (by omega)).mp z
        omega
      · exact down i M' _ _ (Nat.le_refl _) hfr h20 (fun x E _ hx => hs x E (by omega) hx) (ht i e (Nat.le_refl _) hei) (fun x E h1 h2 _ => by omega) (fun x E hx hxE => ht x E (by omega) hxE) rfl
  -- those that stay move up
  have moving : ∀ (m i : Nat) (M' : zM) (o3 o4 : Option Value), i + m = es.length → rfr (TM fo sh) (fun j => j = 20) GC M M' → zI M' 1529 20 = nI es.length → (∀ x, x < es.length → zI M' 1537 x = rbI (agoes es x)) → rel M' fo sh (aclean es i) → (∀ (x : Nat) (E : aE), i ≤ x → es[x]? = some E → rel1 M' fo sh x E) → wX8_clean d (fun r M2 => r = [] ∧ P M2) 65 [some (.ref 1529), some (.int (nI (aclean es i).length)), some (.int (nI i)), o3, o4] [] M' := by
    intro m
    induction m with
    | zero =>
      intro i M' o3 o4 hi hfr h20 hgo hrl hrest
      have hM' := mst_fr hfr hM
      rw [show i = es.length by omega] at hrl ⊢
      refine sg_X8_clean_65 _ _ _ _ _ _ ⟨hM'.1, fun _ => ⟨hM'.1, ?_⟩, fun z => absurd (by rw [h20]; exact Int32.le_refl _) z⟩
      intro M1
      have m1 : M1 = zuI M' 1529 20 (nI (aclean es es.length).length) := rfl
      clear_value M1
      have hfr1 : rfr (TM fo sh) (fun j => j = 20) GC M' M1 := by rw [m1]; exact rfr_F rfl
      have hfr1' : rfr TN (fun j => j = 20) GN M' M1 := by rw [m1]; exact rfr_F rfl
      have hrl1 : rel M1 fo sh (aclean es es.length) := rel_fr hfr1' (fun i hi => ⟨fun z => z, fun _ _ z => z⟩) hCg hrl
      refine sorting (aclean es es.length) hCg (by omega) h (max (aclean es es.length).length 1 - 1) 1 M1 _ _ _ (by omega) (by omega) (rfr_tr hfr hfr1) (by rw [m1, zI_uI, if_pos ⟨rfl, rfl⟩]) (fun x E hle hx => ?_) fun x E _ hx => hrl1 x E hx
      have h1 : aesrt k (aclean es es.length) 1 = [(aclean es es.length).getD 0 aE0] := rfl
      rw [h1] at hx
      have hx0 : x = 0 := by
        have := (List.getElem?_eq_some_iff.mp hx).1
        simp at this
        omega
      rw [hx0] at hx ⊢
      have hx : some ((aclean es es.length).getD 0 aE0) = some E := hx
      cases hx
      refine hrl1 0 _ ?_
      rw [List.getD_eq_getElem?_getD, List.getElem?_eq_getElem (by omega)]
      rfl
    | succ m ih =>
      intro i M' o3 o4 hi hfr h20 hgo hrl hrest
      have hM' := mst_fr hfr hM
      have hrs := rsh_fr hfr (by omega) (by omega) hsh
      have h19 : zI M' 1529 19 = nI fo := by rw [hfr.2.2.2.2.2.2.1 19 (by omega)]; exact hfo
      obtain ⟨s16, ⟨-, -, -, -, -, -, -, r27⟩, -, -, -, -, k7⟩ := id hM'
      have hil : i < es.length := by omega
      have hei := List.getElem?_eq_getElem hil
      have hgd : es.getD i aE0 = es[i] := by rw [List.getD_eq_getElem?_getD, hei]; rfl
      have hs := aclean_s (es := es) (i := i)
      rw [hgd] at hs
      have hem := List.getElem_mem hil
      generalize es[i] = e at hei hgd hs hem
      have heln := egd_eln hg e hem
      have hcl := aclean_len (es := es) (i := i)
      have hcln : ∀ x E, (aclean es i)[x]? = some E → eln E := fun x E hx => by
        obtain ⟨j, hj, -, hjE⟩ := aclean_mem.mp (List.mem_of_getElem? hx)
        refine egd_eln hg E ?_
        rw [← hjE, List.getD_eq_getElem?_getD, List.getElem?_eq_getElem (show j < es.length by omega)]
        exact List.getElem_mem _
      have cgi := hgo i hil
      refine sg_X8_clean_65 _ _ _ _ _ _ ⟨s16, fun z => ?_, fun _ => ⟨s16, ?_⟩⟩
      · rw [h20] at z
        have := (nI_leI (by omega) (by omega)).mp z
        omega
      · rw [cl_n (by omega), r27, k7, cgi]
        refine ⟨rfl, zin_n (by omega) (by omega), fun c => ?_, fun c => ⟨s16, ?_⟩⟩
        · have c : agoes es i = true := by
            cases hh : agoes es i with
            | true => rfl
            | false => exact absurd (rbI_0.mpr hh) c
          rw [if_pos c] at hs
          intro v2
          rw [show v2 = nI (i + 1) from nI_1 i, ← hs]
          exact ih (i + 1) M' _ _ (by omega) hfr h20 hgo (by rw [hs]; exact hrl) fun x E hx hxE => hrest x E (by omega) hxE
        · have c := rbI_0.mp (Classical.not_not.mp c)
          rw [if_neg (by rw [c]; decide)] at hs
          have hlen1 : (aclean es (i + 1)).length = (aclean es i).length + 1 := by rw [hs, List.length_append]; rfl
          have go : ∀ M2, rfr (TE fo (aclean es i).length sh) FN GN M' M2 → rel1 M2 fo sh (aclean es i).length e → (∀ (x : Nat) (E : aE), i + 1 ≤ x → es[x]? = some E → rel1 M2 fo sh x E) → wX8_clean d (fun r M2 => r = [] ∧ P M2) 65 [some (.ref 1529), some (.int (nI (aclean es i).length + 1)), some (.int (nI i + 1)), o3, o4] [] M2 := fun M2 hfr2 hr2 hrest2 => by
            rw [nI_1, nI_1, ← hlen1]
            have hfa := rfr_tr hfr (rfr_up hfr2 (fun x z => TE_TM (by omega) hs8 z) (fun _ z => z.elim) (fun _ z => z.elim))
            refine ih (i + 1) M2 _ _ (by omega) hfa (by rw [hfr2.2.2.2.2.2.2.1 20 (fun z => z)]; exact h20) (fun x hx => by rw [hfr2.2.2.2.2.2.1 1537 _ (Or.inr ⟨by omega, fun z => z⟩)]; exact hgo x hx) ?_ hrest2
            rw [hs]
            refine rel_app (fun x E hx => ?_) hr2.1 hr2.2
            have hxl := (List.getElem?_eq_some_iff.mp hx).1
            exact rel1_te hfr2 hf2.2 hs8 (by omega) (by omega) (by omega) (hcln x E hx) (hrl x E hx)
          by_cases hmi : i = (aclean es i).length
          · have hr0 := hrest i e (Nat.le_refl _) hei
            have hmv : ∀ (a b : Nat) (Q : zM → Prop), a = b → Q M' → ycV d nX8_move [.ref 1529, .int (nI a), .int (nI b)] M' Q := fun a b Q hab hQ => by
              rw [hab]
              exact sp_rmove0 (by omega) hQ
            refine hmv _ _ _ hmi ?_
            intro v1 v2
            exact go M' rfr_rf (by rw [← hmi]; exact hr0) fun x E hx hxE => hrest x E (by omega) hxE
          · refine sp_rmove (by omega) hM' h19 hf2 (by omega) (by omega) hrs hmi (hrest i e (Nat.le_refl _) hei) heln fun M2 hfr2 hr2 => ?_
            intro v1 v2
            exact go M2 hfr2 hr2 fun x E hx hxE => rel1_te hfr2 hf2.2 hs8 (by have := (List.getElem?_eq_some_iff.mp hxE).1; omega) (by omega) (by omega) (egd_eln hg E (List.mem_of_getElem? hxE)) (hrest x E (by omega) hxE)
  -- which go
  have going : ∀ (m i : Nat) (M' : zM) (o2 o3 o4 : Option Value), i + m = es.length → rfr TN FN GC M M' → (∀ x, x < i → zI M' 1537 x = rbI (agoes es x)) → wX8_clean d (fun r M2 => r = [] ∧ P M2) 2 [some (.ref 1529), some (.int (nI i)), o2, o3, o4] [] M' := by
    intro m
    induction m with
    | zero =>
      intro i M' o2 o3 o4 hi hfr hgo
      have hM' := mst_fr hfr hM
      have h20 : zI M' 1529 20 = nI es.length := by rw [hfr.2.2.2.2.2.2.1 20 (fun z => z)]; exact hmo
      have hrl : rel M' fo sh es := rel_fr hfr (fun i hi => ⟨fun z => z, fun _ _ z => z⟩) hg hr
      refine sg_X8_clean_2 _ _ _ _ _ _ ⟨hM'.1, fun _ => ?_, fun z => absurd (by rw [h20, show i = es.length by omega]; exact Int32.le_refl _) z⟩
      exact moving es.length 0 M' _ _ (by omega) (rfr_up hfr (fun _ z => z.elim) (fun _ z => z.elim) (fun _ z => z)) h20 (fun x hx => hgo x (by omega)) (fun x E hx => by cases hx) fun x E _ hx => hrl x E hx
    | succ m ih =>
      intro i M' o2 o3 o4 hi hfr hgo
      have hM' := mst_fr hfr hM
      have h20 : zI M' 1529 20 = nI es.length := by rw [hfr.2.2.2.2.2.2.1 20 (fun z => z)]; exact hmo
      have hil : i < es.length := by omega
      obtain ⟨s16, ⟨-, -, -, -, -, -, -, r27⟩, -, -, -, -, k7⟩ := id hM'
      have ci := cl_n (n := i) (by omega)
      obtain ⟨ia, ica, -, im, iv⟩ := egd_ld hg hil
      have inner : ∀ (a j : Nat) (M1 : zM) (o3 o4 : Option Value), j + a = es.length → rfr TN FN GC M M1 → (∀ x, x < i → zI M1 1537 x = rbI (agoes es x)) → zI M1 1537 i = rbI (gpt es i j) → wX8_clean d (fun r M2 => r = [] ∧ P M2) 13 [some (.ref 1529), some (.int (nI i)), some (.int (nI j)), o3, o4] [] M1 := by
        intro a
        induction a with
        | zero =>
          intro j M1 o3 o4 hj hfr1 hgo1 hgi
          have hM1 := mst_fr hfr1 hM
          have h20' : zI M1 1529 20 = nI es.length := by rw [hfr1.2.2.2.2.2.2.1 20 (fun z => z)]; exact hmo
          refine sg_X8_clean_13 _ _ _ _ _ _ ⟨hM1.1, fun _ => ?_, fun z => absurd (by rw [h20', show j = es.length by omega]; exact Int32.le_refl _) z⟩
          intro v1
          rw [show v1 = nI (i + 1) from nI_1 i]
          refine ih (i + 1) M1 _ _ _ (by omega) hfr1 fun x hx => ?_
          by_cases hxi : x = i
          · rw [hxi, hgi, show j = es.length by omega, gpt_all]
          · exact hgo1 x (by omega)
        | succ a iha =>
          intro j M1 o3 o4 hj hfr1 hgo1 hgi
          have hM1 := mst_fr hfr1 hM
          have hv1 := mvk_fr hfr1 (fun z => z) (fun z => z) hv
          have h20' : zI M1 1529 20 = nI es.length := by rw [hfr1.2.2.2.2.2.2.1 20 (fun z => z)]; exact hmo
          have h19 : zI M1 1529 19 = nI fo := by rw [hfr1.2.2.2.2.2.2.1 19 (fun z => z)]; exact hfo
          have hrl1 : rel M1 fo sh es := rel_fr hfr1 (fun i hi => ⟨fun z => z, fun _ _ z => z⟩) hg hr
          obtain ⟨t16, ⟨-, -, -, -, -, -, -, t27⟩, -, -, -, -, u7⟩ := id hM1
          have hjl : j < es.length := by omega
          obtain ⟨ja, jca, -, jm, jv⟩ := egd_ld hg hjl
          have hgs := gpt_s (es := es) (i := i) (j := j)
          -- the flag is set
          have fin : ∀ (b : Bool) (o3 o4 : Option Value), gpt es i (j + 1) = b → (zsh M1 1537).1 = 4 ∧ (zin (nI i) (zsh M1 1537).2 ∧ (zb (rbI b) ∧ (let M2 : zM := zuI M1 1537 i (rbI b)
let v2 : Int32 := nI j + 1
wX8_clean d (fun r M2 => r = [] ∧ P M2) 13 [some (.ref 1529), some (.int (nI i)), some (.int v2), o3, o4] [] M2))) := fun b o3 o4 hb => by
            refine ⟨by rw [u7], by rw [u7]; exact zin_n (by omega) (by omega), rbI_b, ?_⟩
            intro M2 v2
            have m2 : M2 = zuI M1 1537 i (rbI b) := rfl
            clear_value M2
            rw [show v2 = nI (j + 1) from nI_1 j]
            have hfr2 : rfr TN FN GC M1 M2 := by rw [m2]; exact rfr_G rfl (by omega)
            refine iha (j + 1) M2 _ _ (by omega) (rfr_tr hfr1 hfr2) (fun x hx => by rw [m2, zI_uI, if_neg (by omega)]; exact hgo1 x hx) (by rw [m2, zI_uI, if_pos ⟨rfl, rfl⟩, hb])
          refine sg_X8_clean_13 _ _ _ _ _ _ ⟨t16, fun z => ?_, fun _ => ⟨t16, t16, ?_⟩⟩
          · rw [h20'] at z
            have := (nI_leI (by omega) (by omega)).mp z
            omega
          · rw [h19, nI_add]
            refine sp_rld (by omega) hM1 (by omega) hrl1 hg hjl (by omega) ⟨t16, t16, ?_⟩
            rw [h19, nI_add]
            refine sp_rld (by omega) hM1 (by omega) hrl1 hg hil (by omega) ?_
            refine sg_X8_clean_31 _ _ _ _ _ _ ⟨t16, t16, ?_⟩
            rw [ci, t27]
            refine ⟨by rw [u7], by rw [u7]; exact zin_n (by omega) (by omega), fun c => fin true _ _ ?_, fun c => ⟨fun c2 => fin false _ _ ?_, fun c2 => ⟨t16, ?_⟩⟩⟩
            · have : gpt es i j = true := by
                cases hh : gpt es i j with
                | true => rfl
                | false => rw [hgi, hh] at c; exact absurd rfl c
              rw [hgs, this]
              rfl
            · have c := Classical.not_not.mp c
              rw [hgi] at c
              have e : j = i := (nI_eq (by omega) (by omega)).mp c2
              rw [hgs, rbI_0.mp c, e]
              unfold gcn
              simp
            · have c := Classical.not_not.mp c
              rw [hgi] at c
              have c := rbI_0.mp c
              have hji : j ≠ i := fun z => c2 (by rw [z])
              have e1 : (j != i) = true := by simpa using hji
              have hgs : gpt es i (j + 1) = (mdv (ald es j) (ald es i) && (ald es j != ald es i || decide (j < i))) := by
                rw [hgs, c, Bool.false_or]
                unfold gcn
                rw [e1, Bool.true_and]
              refine sp_rdiv (by omega) hM1 hv1 jm im jv (fun hdv => ⟨fun z => absurd z (by decide), fun _ => ⟨fun c3 => fin true _ _ ?_, fun c3 => ⟨fun c4 => fin false _ _ ?_, fun c4 => fin true _ _ ?_⟩⟩⟩) (fun hdv => ⟨fun _ => fin false _ _ ?_, fun z => absurd rfl z⟩)
              · have hne : ald es j ≠ ald es i := fun z => c3 (by rw [z])
                rw [hgs, mdv_iff.mpr hdv, Bool.true_and, show (ald es j != ald es i) = true by simpa using hne, Bool.true_or]
              · have heq := e5_inj jm im (Classical.not_not.mp c3)
                have c4 := (nI_leI (by omega) (by omega)).mp c4
                rw [hgs, heq, show decide (j < i) = false by simpa using c4]
                simp
              · have c4 : ¬ i ≤ j := fun y => c4 ((nI_leI (by omega) (by omega)).mpr y)
                rw [hgs, mdv_iff.mpr hdv, Bool.true_and, show decide (j < i) = true by simpa using (show j < i by omega), Bool.or_true]
              · have e3 : mdv (ald es j) (ald es i) = false := by
                  cases hh : mdv (ald es j) (ald es i) with
                  | true => exact absurd (mdv_iff.mp hh) hdv
                  | false => rfl
                rw [hgs, e3, Bool.false_and]
      refine sg_X8_clean_2 _ _ _ _ _ _ ⟨s16, fun z => ?_, fun _ => ⟨s16, ?_⟩⟩
      · rw [h20] at z
        have := (nI_leI (by omega) (by omega)).mp z
        omega
      · rw [ci, r27, k7]
        refine ⟨rfl, zin_n (by omega) (by omega), Or.inl rfl, ?_⟩
        intro M1
        have m1 : M1 = zuI M' 1537 i 0 := rfl
        clear_value M1
        have hfr1 : rfr TN FN GC M' M1 := by rw [m1]; exact rfr_G rfl (by omega)
        exact inner es.length 0 M1 _ _ (by omega) (rfr_tr hfr hfr1) (fun x hx => by rw [m1, zI_uI, if_neg (by omega)]; exact hgo x hx) (by rw [m1, zI_uI, if_pos ⟨rfl, rfl⟩]; rfl)
  exact en_X8_clean _ M (sg_X8_clean_0 _ M (going es.length 0 M _ _ _ (by omega) rfr_rf fun x hx => absurd hx (Nat.not_lt_zero _)))
