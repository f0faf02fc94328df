/-! choosing pairs, in the class -/
def ebst : Option (Nat × Nat × Nat) → Int32
  | none => -1
  | some x => nI x.1
theorem nI_m1 {n : Nat} (h : n < 2 ^ 31) : ¬ nI n = -1 := fun e => by
  have e := congrArg Int32.toInt e
  rw [nI_toInt h, show (-1 : Int32).toInt = -1 by decide] at e
  omega
theorem sp_choosePair {d H o w k sh : Nat} {M : zM} {eid : Nat → Nat} {es : List aE} {W : Nat → Nat → Bool} {P : Int32 → zM → Prop} (hd : 1 ≤ d) (hI : ist M H o w eid) (hc : icn M H sh es.length) (hk : iok k sh es) (hW : iwt M H w k es W)
    (h : ∀ (c : Int32) M', zfr (fun a => a = H) M M' → (∀ j, j ≠ 8 → j ≠ 9 → zI M' H j = zI M H j) → (achoose k es W = none → c = 0) → (∀ x, achoose k es W = some x → c = 1 ∧ x.2.1 < x.2.2 ∧ x.2.2 < es.length ∧ zI M' H 8 = nI x.2.1 ∧ zI M' H 9 = nI x.2.2) → P c M') : ycI d nX3_choosePair [.ref H] M P := by
  obtain ⟨d, rfl, he⟩ := dS hd
  have hl := hc.2.2
  have hrk : ∀ i j, arp k es i j < 1073741824 := fun i j => ark_lt (mlcm_ok (iok_mok hk _) (iok_mok hk _))
  have outer : ∀ (n j : Nat) (M' : zM) (o3 o4 : Option Value), j + n = max es.length 1 → 1 ≤ j → zfr (fun a => a = H) M M' → (∀ f, f ≠ 8 → f ≠ 9 → zI M' H f = zI M H f) → (∀ x, achJ (arp k es) W j = some x → x.1 < 1073741824 ∧ x.2.1 < x.2.2 ∧ x.2.2 < es.length ∧ zI M' H 8 = nI x.2.1 ∧ zI M' H 9 = nI x.2.2) → wX3_choosePair d (fun r M2 => ∃ x : Int32, r = [.int x] ∧ P x M2) 4 [some (.ref H), some (.int (ebst (achJ (arp k es) W j))), some (.int (nI j)), o3, o4] [] M' := by
    intro n
    induction n with
    | zero =>
      intro j M' o3 o4 hj hj1 hfr hf hb
      have hI' := ist_fr hfr hI
      have s' := hI'.1.1
      have hc2 : zI M' H 2 = nI es.length := by rw [hf 2 (by omega) (by omega)]; exact hc.1
      have heq : achoose k es W = achJ (arp k es) W j := by
        unfold achoose
        by_cases h0 : es.length = 0
        · rw [h0, show j = 1 by omega]; rfl
        · rw [show es.length = j by omega]
      refine sg_X3_choosePair_4 _ _ _ _ _ _ ⟨s', fun _ => ⟨fun c => ⟨Or.inl rfl, _, rfl, h 0 M' hfr hf (fun _ => rfl) fun x hx => ?_⟩, fun c => ⟨Or.inr rfl, _, rfl, h 1 M' hfr hf (fun hn => ?_) fun x hx => ⟨rfl, ?_⟩⟩⟩, fun c => absurd (by rw [hc2]; exact (nI_leI (by omega) (by omega)).mpr (by omega)) c⟩
      · rw [heq] at hx
        rw [hx] at c
        exact absurd c (nI_m1 (by have := (hb x hx).1; omega))
      · rw [heq] at hn
        rw [hn] at c
        exact absurd rfl c
      · rw [heq] at hx
        exact (hb x hx).2
    | succ n ih =>
      intro j M' o3 o4 hj hj1 hfr hf hb
      have hjl : j < es.length := by omega
      have inner : ∀ (m i : Nat) (M2 : zM) (o4 : Option Value), i + m = j → zfr (fun a => a = H) M M2 → (∀ f, f ≠ 8 → f ≠ 9 → zI M2 H f = zI M H f) → (∀ x, achI (arp k es) W j i (achJ (arp k es) W j) = some x → x.1 < 1073741824 ∧ x.2.1 < x.2.2 ∧ x.2.2 < es.length ∧ zI M2 H 8 = nI x.2.1 ∧ zI M2 H 9 = nI x.2.2) → wX3_choosePair d (fun r M2 => ∃ x : Int32, r = [.int x] ∧ P x M2) 10 [some (.ref H), some (.int (ebst (achI (arp k es) W j i (achJ (arp k es) W j)))), some (.int (nI j)), some (.int (nI i)), o4] [] M2 := by
        intro m
        induction m with
        | zero =>
          intro i M2 o4 hi hfr2 hf2 hb2
          refine sg_X3_choosePair_10 _ _ _ _ _ _ ⟨fun _ => ?_, fun c => absurd (by rw [show i = j by omega]; exact Int32.le_refl _) c⟩
          intro v2
          rw [show v2 = nI (j + 1) from nI_1 j]
          have e : achI (arp k es) W j i (achJ (arp k es) W j) = achJ (arp k es) W (j + 1) := by rw [show i = j by omega]; rfl
          rw [e] at hb2
          rw [e]
          exact ih (j + 1) M2 _ _ (by omega) (by omega) hfr2 hf2 hb2
        | succ m ihm =>
          intro i M2 o4 hi hfr2 hf2 hb2
          have hI' := ist_fr hfr2 hI
          have s' := hI'.1.1
          have hr7 := hI'.1.2.2.2.1
          have ix : nI j * 24 + nI i = nI (24 * j + i) := by
            rw [show (24 : Int32) = nI 24 from rfl, pk_mul, nI_add, Nat.mul_comm]
          have cx := cl_n (n := 24 * j + i) (by omega)
          have hcell := iwt_fr hfr2 (by omega) hW i j (by omega) hjl
          have hr := hrk i j
          have stp : achI (arp k es) W j (i + 1) (achJ (arp k es) W j) = apick (arp k es i j) i j (W i j) (achI (arp k es) W j i (achJ (arp k es) W j)) := rfl
          refine sg_X3_choosePair_10 _ _ _ _ _ _ ⟨fun c => ?_, fun _ => ⟨s', by rw [hr7, hI'.1.2.2.2.2], by rw [hr7, ix, hI'.1.2.2.2.2]; exact zin_n (by omega) (by omega), ?_⟩⟩
          · have := (nI_leI (by omega) (by omega)).mp c
            omega
          · intro v4
            have ev : v4 = if W i j = true then nI (arp k es i j) else -1 := by
              rw [show v4 = zI M2 (zR M2 H 7) (nI j * 24 + nI i).toNatClampNeg from rfl, hr7, ix, cx]
              exact hcell
            clear_value v4
            generalize achI (arp k es) W j i (achJ (arp k es) W j) = b at hb2 stp
            cases hw : W i j with
            | false =>
              rw [hw] at ev stp
              have stp : achI (arp k es) W j (i + 1) (achJ (arp k es) W j) = b := stp
              refine ⟨fun _ => ?_, fun z => absurd ev z⟩
              intro v3
              rw [show v3 = nI (i + 1) from nI_1 i]
              rw [← stp] at hb2
              rw [← stp]
              exact ihm (i + 1) M2 _ (by omega) hfr2 hf2 hb2
            | true =>
              rw [hw] at ev stp
              have ev : v4 = nI (arp k es i j) := ev
              subst ev
              have put : achI (arp k es) W j (i + 1) (achJ (arp k es) W j) = some (arp k es i j, i, j) → wX3_choosePair d (fun r M2 => ∃ x : Int32, r = [.int x] ∧ P x M2) 10 [some (.ref H), some (.int (nI (arp k es i j))), some (.int (nI j)), some (.int (nI i + 1)), some (.int (nI (arp k es i j)))] [] (zuI (zuI M2 H 8 (nI i)) H 9 (nI j)) := fun heq => by
                rw [nI_1, show nI (arp k es i j) = ebst (achI (arp k es) W j (i + 1) (achJ (arp k es) W j)) by rw [heq]; rfl]
                refine ihm (i + 1) _ _ (by omega) (zfr_tr hfr2 (zfr_tr (zfr_uI rfl) (zfr_uI rfl))) (fun f h8 h9 => ?_) fun x hx => ?_
                · rw [zI_uI, if_neg (by omega), zI_uI, if_neg (by omega)]
                  exact hf2 f h8 h9
                · rw [heq] at hx
                  cases hx
                  refine ⟨hr, (by show i < j; omega), hjl, ?_, ?_⟩
                  · rw [zI_uI, if_neg (by omega), zI_uI, if_pos ⟨rfl, rfl⟩]
                  · rw [zI_uI, if_pos ⟨rfl, rfl⟩]
              refine ⟨fun z => absurd z (nI_m1 (by omega)), fun _ => ?_⟩
              cases b with
              | none => exact ⟨fun _ => ⟨s', s', put stp⟩, fun z => absurd rfl z⟩
              | some x =>
                have hx1 := (hb2 x rfl).1
                refine ⟨fun z => absurd z (nI_m1 (by omega)), fun _ => ⟨fun c => ?_, fun c => ?_⟩⟩
                · have c := (nI_leI (by omega) (by omega)).mp c
                  have stp : achI (arp k es) W j (i + 1) (achJ (arp k es) W j) = some x := by
                    rw [stp]
                    show (if arp k es i j < x.1 then _ else some x) = _
                    rw [if_neg (by omega)]
                  intro v3
                  rw [show v3 = nI (i + 1) from nI_1 i]
                  rw [← stp] at hb2
                  rw [← stp]
                  exact ihm (i + 1) M2 _ (by omega) hfr2 hf2 hb2
                · have c : ¬ x.1 ≤ arp k es i j := fun z => c ((nI_leI (by omega) (by omega)).mpr z)
                  refine ⟨s', s', put ?_⟩
                  rw [stp]
                  show (if arp k es i j < x.1 then _ else some x) = _
                  rw [if_pos (by omega)]
      have hI' := ist_fr hfr hI
      have s' := hI'.1.1
      have hc2 : zI M' H 2 = nI es.length := by rw [hf 2 (by omega) (by omega)]; exact hc.1
      refine sg_X3_choosePair_4 _ _ _ _ _ _ ⟨s', fun c => ?_, fun _ => inner j 0 M' o4 (by omega) hfr hf hb⟩
      rw [hc2] at c
      have := (nI_leI (by omega) (by omega)).mp c
      omega
  exact en_X3_choosePair _ M (sg_X3_choosePair_0 _ M (outer (max es.length 1 - 1) 1 M _ _ (by omega) (by omega) zfr_rf (fun _ _ _ => rfl) fun x hx => by cases hx))
theorem sp_isWaiting {d H o w k : Nat} {M : zM} {eid : Nat → Nat} {es : List aE} {W : Nat → Nat → Bool} {a b : Nat} {P : Int32 → zM → Prop} (hd : 1 ≤ d) (hI : ist M H o w eid) (hl : es.length ≤ 24) (hk : ∀ i j, arp k es i j < 1073741824) (hW : iwt M H w k es W) (ha : a < es.length) (hb : b < es.length) (hab : a ≠ b) (h1 : awt W a b = true → P 1 M) (h0 : awt W a b = false → P 0 M) : ycI d nX3_isWaiting [.ref H, .int (nI a), .int (nI b)] M P := by
  obtain ⟨d, rfl, he⟩ := dS hd
  have s := hI.1.1
  have hr7 := hI.1.2.2.2.1
  have ix : ∀ x y : Nat, nI x * 24 + nI y = nI (24 * x + y) := fun x y => by
    rw [show (24 : Int32) = nI 24 from rfl, pk_mul, nI_add, Nat.mul_comm]
  have key : ∀ i j, i < j → j < es.length → awt W a b = W i j → (zI M (zR M H 7) (nI (24 * j + i)).toNatClampNeg = -1 → (zb 0 ∧ ∃ x : Int32, [Value.int 0] = [.int x] ∧ P x M)) ∧ (¬ zI M (zR M H 7) (nI (24 * j + i)).toNatClampNeg = -1 → (zb 1 ∧ ∃ x : Int32, [Value.int 1] = [.int x] ∧ P x M)) := fun i j hij hj e => by
    rw [cl_n (by omega), hr7, hW i j hij hj]
    cases hw : W i j with
    | true => exact ⟨fun z => absurd z (nI_m1 (by have := hk i j; omega)), fun _ => ⟨Or.inr rfl, _, rfl, h1 (e.trans hw)⟩⟩
    | false => exact ⟨fun _ => ⟨Or.inl rfl, _, rfl, h0 (e.trans hw)⟩, fun z => absurd rfl z⟩
  refine en_X3_isWaiting _ _ _ M (sg_X3_isWaiting_0 _ _ _ M ⟨fun c => ?_, fun c => ?_⟩)
  · have c := (nI_leI (by omega) (by omega)).mp c
    intro v3
    rw [show v3 = nI (24 * a + b) from ix a b]
    exact ⟨s, by rw [hr7, hI.1.2.2.2.2], by rw [hr7, hI.1.2.2.2.2]; exact zin_n (by omega) (by omega), key b a (by omega) ha (if_neg (by omega))⟩
  · have c : ¬ b ≤ a := fun z => c ((nI_leI (by omega) (by omega)).mpr z)
    intro v3
    rw [show v3 = nI (24 * b + a) from ix b a]
    exact ⟨s, by rw [hr7, hI.1.2.2.2.2], by rw [hr7, hI.1.2.2.2.2]; exact zin_n (by omega) (by omega), key a b (by omega) hb (if_pos (by omega))⟩
theorem sp_isNeedless {d H o w k sh l r : Nat} {M : zM} {eid : Nat → Nat} {es : List aE} {W : Nat → Nat → Bool} {P : Int32 → zM → Prop} (hd : 3 ≤ d) (hI : ist M H o w eid) (hc : icn M H sh es.length) (hE : iel M eid k es) (hk : iok k sh es) (hW : iwt M H w k es W) (hL : zI M H 8 = nI l) (hR : zI M H 9 = nI r) (hlr : l < r) (hr : r < es.length) (h1 : aneed es W l r = true → P 1 M) (h0 : aneed es W l r = false → P 0 M) : ycI d nX3_isNeedless [.ref H, .int (e8 (mlcm (ald es l) (ald es r)))] M P := by
  obtain ⟨d, rfl, he⟩ := dS hd
  have hl := hc.2.2
  have s := hI.1.1
  have hr1 := hI.1.2.2.1
  have hrk : ∀ i j, arp k es i j < 1073741824 := fun i j => ark_lt (mlcm_ok (iok_mok hk _) (iok_mok hk _))
  have loop : ∀ (n i : Nat), i + n = es.length → mapb (ald es l) (ald es r) = false → (∀ c, c < i → anec es W l r c = false) → wX3_isNeedless d (fun r M2 => ∃ x : Int32, r = [.int x] ∧ P x M2) 18 [some (.ref H), some (.int (e8 (mlcm (ald es l) (ald es r)))), some (.int (nI i))] [] M := by
    intro n
    induction n with
    | zero =>
      intro i hi hm hb
      refine sg_X3_isNeedless_18 _ _ _ _ ⟨s, fun _ => ⟨Or.inl rfl, _, rfl, h0 ?_⟩, fun c => absurd (by rw [hc.1, show i = es.length by omega]; exact Int32.le_refl _) c⟩
      unfold aneed
      rw [hm, Bool.false_or, List.any_eq_false]
      intro c hc
      rw [hb c (by rw [List.mem_range] at hc; omega)]
      decide
    | succ n ih =>
      intro i hi hm hb
      have hil : i < es.length := by omega
      have next : anec es W l r i = false → wX3_isNeedless d (fun r M2 => ∃ x : Int32, r = [.int x] ∧ P x M2) 18 [some (.ref H), some (.int (e8 (mlcm (ald es l) (ald es r)))), some (.int (nI i + 1))] [] M := fun hf => by
        rw [nI_1]
        refine ih (i + 1) (by omega) hm fun c hc => ?_
        by_cases e : c = i
        · rw [e]; exact hf
        · exact hb c (by omega)
      have ci := cl_n (n := i) (by omega)
      have hRi := hI.2.1.2 i (by omega)
      refine sg_X3_isNeedless_18 _ _ _ _ ⟨s, fun c => ?_, fun _ => ⟨s, fun c => next ?_, fun c1 => ⟨s, fun c => next ?_, fun c2 => ⟨s, by rw [hr1, hI.2.1.1], by rw [hr1, hI.2.1.1]; exact zin_n (by omega) (by omega), by rw [hr1, ci, hRi.1]; exact hRi.2.1, ?_⟩⟩⟩⟩
      · rw [hc.1] at c
        have := (nI_leI (by omega) (by omega)).mp c
        omega
      · rw [hL] at c
        have c := (nI_eq (by omega) (by omega)).mp c
        unfold anec
        rw [c]
        simp
      · rw [hR] at c
        have c := (nI_eq (by omega) (by omega)).mp c
        unfold anec
        rw [c]
        simp
      · rw [hL] at c1
        rw [hR] at c2
        have c1 : i ≠ l := fun e => c1 (by rw [e])
        have c2 : i ≠ r := fun e => c2 (by rw [e])
        rw [hr1, ci, hRi.1]
        refine sp_ld (by omega) hI hE hk (by omega) hil (sp_divides (by omega) (iok_mok hk _) (mlcm_ok (iok_mok hk _) (iok_mok hk _)) (fun hdv => ⟨fun z => absurd z (by decide), fun _ => ⟨s, s, ?_⟩⟩) (fun hdv => ⟨fun _ => next ?_, fun z => absurd rfl z⟩))
        · have hdv := mdv_iff.mpr hdv
          rw [hL]
          refine sp_isWaiting (es := es) (by omega) hI (by omega) hrk hW hil (by omega) c1 (fun w1 => ⟨fun _ => next ?_, fun z => absurd (Classical.not_not.mp z) (by decide)⟩) (fun w1 => ⟨fun z => absurd rfl z, fun _ => ⟨s, s, ?_⟩⟩)
          · unfold anec
            rw [w1]
            simp
          · rw [hR]
            refine sp_isWaiting (es := es) (by omega) hI (by omega) hrk hW hil (by omega) c2 (fun w2 => ⟨fun _ => next ?_, fun z => absurd (Classical.not_not.mp z) (by decide)⟩) (fun w2 => ⟨fun z => absurd rfl z, fun _ => ⟨Or.inr rfl, _, rfl, h1 ?_⟩⟩)
            · unfold anec
              rw [w2]
              simp
            · unfold aneed
              rw [hm, Bool.false_or, List.any_eq_true]
              refine ⟨i, List.mem_range.mpr hil, ?_⟩
              unfold anec
              rw [w1, w2, hdv, bne_iff_ne.mpr c1, bne_iff_ne.mpr c2]
              rfl
        · have hdv : mdv (ald es i) (mlcm (ald es l) (ald es r)) = false := by
            cases hv : mdv (ald es i) (mlcm (ald es l) (ald es r)) with
            | false => rfl
            | true => exact absurd (mdv_iff.mp hv) hdv
          unfold anec
          rw [hdv]
          simp
  have cl := cl_n (n := l) (by omega)
  have cr := cl_n (n := r) (by omega)
  have hRl := hI.2.1.2 l (by omega)
  have hRr := hI.2.1.2 r (by omega)
  refine en_X3_isNeedless _ _ M (sg_X3_isNeedless_0 _ _ M ⟨s, s, by rw [hr1, hI.2.1.1], by rw [hr1, hI.2.1.1, hL]; exact zin_n (by omega) (by omega), by rw [hr1, hL, cl, hRl.1]; exact hRl.2.1, ?_⟩)
  rw [hr1, hL, cl, hRl.1]
  refine sp_ld (by omega) hI hE hk (by omega) (by omega) ⟨s, s, by rw [hr1, hI.2.1.1], by rw [hr1, hI.2.1.1, hR]; exact zin_n (by omega) (by omega), by rw [hr1, hR, cr, hRr.1]; exact hRr.2.1, ?_⟩
  rw [hr1, hR, cr, hRr.1]
  refine sp_ld (by omega) hI hE hk (by omega) hr (sp_haveVar (by omega) (iok_mok hk _) (iok_mok hk _) (fun hv => ⟨fun _ => ?_, fun z => absurd (Classical.not_not.mp z) (by decide)⟩) (fun hv => ⟨fun z => absurd rfl z, fun _ => ⟨Or.inr rfl, _, rfl, h1 ?_⟩⟩))
  · refine loop es.length 0 (by omega) ?_ fun c h => absurd h (Nat.not_lt_zero _)
    cases hm : mapb (ald es l) (ald es r) with
    | false => rfl
    | true => exact absurd (mapb_iff.mp hm) hv
  · unfold aneed
    rw [mapb_iff.mpr hv]
    rfl
