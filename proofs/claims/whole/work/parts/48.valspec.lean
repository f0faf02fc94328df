/-! likeness, variables, values of the class's polynomials -/
theorem sp_isLike {d p q o k : Nat} {M : zM} {L L2 : aP} {P : Int32 → zM → Prop} (hd : 1 ≤ d) (hp : pst M p o) (hq : pst M q o) (hL : pdy M p k L) (hL2 : pdy M q k L2) (hk : pok k L) (hk2 : pok k L2) (h1 : L = L2 → P 1 M) (h0 : L ≠ L2 → P 0 M) : ycI d nX6_isLike [.ref p, .ref q] M P := by
  obtain ⟨d, rfl, he⟩ := dS hd
  have hl := hk.2.2
  have hl2 := hk2.2.2
  have loop : ∀ (n i : Nat), i + n = L.length → L.length = L2.length → (∀ j, j < i → L[j]? = L2[j]?) → wX6_isLike d (fun r M2 => ∃ x : Int32, r = [.int x] ∧ P x M2) 9 [some (.ref p), some (.ref q), some (.int (nI i))] [] M := by
    intro n
    induction n with
    | zero =>
      intro i hi hll hj
      refine sg_X6_isLike_9 _ _ _ _ ⟨hp.1, fun _ => ⟨Or.inr rfl, _, rfl, h1 (List.ext_getElem? fun j => ?_)⟩, fun c => absurd (by rw [hL.1, show i = L.length by omega]; exact Int32.le_refl _) c⟩
      by_cases hji : j < i
      · exact hj j hji
      · rw [List.getElem?_eq_none (by omega), List.getElem?_eq_none (by omega)]
    | succ n ih =>
      intro i hi hll hj
      have hlt : i < L.length := by omega
      have hu := List.getElem?_eq_getElem hlt
      have hu2 := List.getElem?_eq_getElem (l := L2) (i := i) (by omega)
      obtain ⟨g1, g2, g3⟩ := hL.2 _ _ hu
      obtain ⟨r1, r2, r3⟩ := hL2.2 _ _ hu2
      have ht := hk.1 _ (List.mem_of_getElem? hu)
      have ht2 := hk2.1 _ (List.mem_of_getElem? hu2)
      have ci := cl_n (n := i) (by omega)
      have zi : zin (nI i) 100 := zin_n (by omega) (by omega)
      have no : (L[i]).2 ≠ (L2[i]).2 ∨ (L[i]).1 ≠ (L2[i]).1 → P 0 M := fun hne => h0 fun e => by
        subst e
        rcases hne with h | h <;> exact h rfl
      refine sg_X6_isLike_9 _ _ _ _ ⟨hp.1, fun c => ?_, fun _ => ⟨hp.1, p_k2 hp, by rw [p_l2 hp]; exact zi, hq.1, p_k2 hq, by rw [p_l2 hq]; exact zi, fun c => ⟨Or.inl rfl, _, rfl, no (Or.inl fun e => c ?_)⟩, fun c => ⟨hp.1, p_k1 hp, by rw [p_l1 hp]; exact zi, hq.1, p_k1 hq, by rw [p_l1 hq]; exact zi, fun c2 => ?_, fun c2 => ⟨Or.inl rfl, _, rfl, no (Or.inr fun e => c2 ?_)⟩⟩⟩⟩
      · rw [hL.1] at c
        have := (nI_leI (by omega) (by omega)).mp c
        omega
      · rw [ci, hp.2.2.2.1, hq.2.2.2.1, g2, r2, e]
      · intro v2
        rw [show v2 = nI (i + 1) from nI_1 i]
        have c := Classical.not_not.mp c
        rw [ci, hp.2.2.2.1, hq.2.2.2.1, g2, r2] at c
        rw [ci, hp.2.2.1, hq.2.2.1, g1, r1, lc_eq, Int64.toInt_inj] at c2
        refine ih (i + 1) (by omega) hll fun j hj2 => ?_
        by_cases hji : j = i
        · subst hji
          rw [hu, hu2]
          congr 1
          exact Prod.ext (eF_inj ht.1 ht2.1 c2) (e8_inj ht.2.2 ht2.2.2 c)
        · exact hj j (by omega)
      · rw [ci, hp.2.2.1, hq.2.2.1, g1, r1, e, lc_eq]
  refine en_X6_isLike _ _ M (sg_X6_isLike_0 _ _ M ⟨hp.1, hq.1, fun c => ?_, fun c => ⟨Or.inl rfl, _, rfl, h0 fun e => c ?_⟩⟩)
  · rw [hL.1, hL2.1] at c
    exact loop L.length 0 (by omega) ((nI_eq (by omega) (by omega)).mp c) fun j hj => absurd hj (by omega)
  · rw [hL.1, hL2.1, e]
theorem sp_isWithout {d p o k n : Nat} {M : zM} {L : aP} {P : Int32 → zM → Prop} (hd : 2 ≤ d) (hp : pst M p o) (hL : pdy M p k L) (hk : pok k L) (hn : n ≤ 4) (h1 : (∀ t ∈ L, ∀ v, v < n → aex t.2 v = 0) → P 1 M) (h0 : ¬ (∀ t ∈ L, ∀ v, v < n → aex t.2 v = 0) → P 0 M) : ycI d nX6_isWithout [.ref p, .int (nI n)] M P := by
  obtain ⟨d, rfl, he⟩ := dS hd
  have hl := hk.2.2
  have loop : ∀ (r i : Nat) (o3 : Option Value), i + r = L.length → (∀ (j : Nat) (t : aT), j < i → L[j]? = some t → ∀ v, v < n → aex t.2 v = 0) → wX6_isWithout d (fun r M2 => ∃ x : Int32, r = [.int x] ∧ P x M2) 2 [some (.ref p), some (.int (nI n)), some (.int (nI i)), o3] [] M := by
    intro r
    induction r with
    | zero =>
      intro i o3 hi hj
      refine sg_X6_isWithout_2 _ _ _ _ _ ⟨hp.1, fun _ => ⟨Or.inr rfl, _, rfl, h1 fun t ht => ?_⟩, fun c => absurd (by rw [hL.1, show i = L.length by omega]; exact Int32.le_refl _) c⟩
      obtain ⟨j, hjt⟩ := List.getElem?_of_mem ht
      exact hj j t (by have := (List.getElem?_eq_some_iff.mp hjt).1; omega) hjt
    | succ r ih =>
      intro i o3 hi hj
      have hlt : i < L.length := by omega
      have hu := List.getElem?_eq_getElem hlt
      obtain ⟨g1, g2, g3⟩ := hL.2 _ _ hu
      have ht := hk.1 _ (List.mem_of_getElem? hu)
      have ci := cl_n (n := i) (by omega)
      have zi : zin (nI i) 100 := zin_n (by omega) (by omega)
      have inner : ∀ (s v : Nat), v + s = n → (∀ u, u < v → aex (L[i]).2 u = 0) → wX6_isWithout d (fun r M2 => ∃ x : Int32, r = [.int x] ∧ P x M2) 8 [some (.ref p), some (.int (nI n)), some (.int (nI i)), some (.int (nI v))] [] M := by
        intro s
        induction s with
        | zero =>
          intro v hv hu2
          refine sg_X6_isWithout_8 _ _ _ _ _ ⟨fun _ => ?_, fun c => absurd (by rw [show v = n by omega]; exact Int32.le_refl _) c⟩
          intro v2
          rw [show v2 = nI (i + 1) from nI_1 i]
          refine ih (i + 1) _ (by omega) fun j t hj2 hjt w hw => ?_
          by_cases hji : j = i
          · subst hji
            rw [hu] at hjt
            cases hjt
            exact hu2 w (by omega)
          · exact hj j t (by omega) hjt w hw
        | succ s ih2 =>
          intro v hv hu2
          have q1 := aex_lt ht.2.2 v
          refine sg_X6_isWithout_8 _ _ _ _ _ ⟨fun c => ?_, fun _ => ⟨hp.1, p_k2 hp, by rw [p_l2 hp]; exact zi, ?_⟩⟩
          · have := (nI_leI (by omega) (by omega)).mp c
            omega
          · rw [ci, hp.2.2.2.1, g2]
            refine sp_exponent (by omega) (mok_by ht.2.2) (by omega) ⟨fun c => ?_, fun c => ⟨Or.inl rfl, _, rfl, h0 fun z => c ?_⟩⟩
            · intro v3
              rw [show v3 = nI (v + 1) from nI_1 v]
              refine ih2 (v + 1) (by omega) fun u hu3 => ?_
              by_cases huv : u = v
              · subst huv; exact (nI_z (by omega)).mp c
              · exact hu2 u (by omega)
            · rw [z _ (List.mem_of_getElem? hu) v (by omega)]
              rfl
      refine sg_X6_isWithout_2 _ _ _ _ _ ⟨hp.1, fun c => ?_, fun _ => inner n 0 (by omega) fun u hu => absurd hu (by omega)⟩
      rw [hL.1] at c
      have := (nI_leI (by omega) (by omega)).mp c
      omega
  exact en_X6_isWithout _ _ M (sg_X6_isWithout_0 _ _ M (loop L.length 0 _ (by omega) fun j t hj => absurd hj (by omega)))
/-- a fraction times a number, so often -/
def apw (x : Int) : Nat → aF → Option aF
  | 0, c => some c
  | n + 1, c => match afmul c (x, 1) with
    | none => none
    | some s => apw x n s
def atm (pt : Nat → Int) (m : aM) : Nat → Nat → aF → Option aF
  | 0, _, c => some c
  | n + 1, v, c => match apw (pt v) (aex m v) c with
    | none => none
    | some s => atm pt m n (v + 1) s
def aval (pt : Nat → Int) (nv : Nat) : aP → aF → Option aF
  | [], tot => some tot
  | t :: l, tot => match atm pt t.2 nv 0 t.1 with
    | none => none
    | some s => match afsum tot s with
      | none => none
      | some r => aval pt nv l r
theorem fok_x1 {x : Int} (h : -1000000000 ≤ x ∧ x ≤ 1000000000) : fok (x, 1) := ⟨h, by show (0 : Int) < 1; decide, by show (1 : Int) ≤ 1000000000; decide⟩
theorem afmul_fok {f g s : aF} (hf : fok f) (hg : fok g) (h : afmul f g = some s) : fok s := (alow_ok (Int.mul_pos hf.2.1 hg.2.1) h).1
theorem alow_x1 {x : Int} (h : -1000000000 ≤ x ∧ x ≤ 1000000000) : alow x 1 = some (x, 1) := by
  unfold alow
  have hg : Int.gcd x 1 = 1 := Int.gcd_one_right x
  rw [hg]
  have e1 : x / ((1 : Nat) : Int) = x := Int.ediv_one x
  have e2 : (1 : Int) / ((1 : Nat) : Int) = 1 := by decide
  rw [e1, e2, if_pos ⟨h, by decide⟩]
theorem apw_fok {x : Int} (hx : fok (x, 1)) : ∀ {n : Nat} {c s : aF}, fok c → apw x n c = some s → fok s
  | 0, c, s, hc, h => by cases h; exact hc
  | n + 1, c, s, hc, h => by
    unfold apw at h
    split at h
    · cases h
    · rename_i s1 hs1
      exact apw_fok hx (afmul_fok hc hx hs1) h
theorem atm_fok {pt : Nat → Int} {m : aM} (hx : ∀ v, v < 4 → fok (pt v, 1)) : ∀ {n v : Nat} {c s : aF}, v + n ≤ 4 → fok c → atm pt m n v c = some s → fok s
  | 0, v, c, s, _, hc, h => by cases h; exact hc
  | n + 1, v, c, s, hv, hc, h => by
    unfold atm at h
    split at h
    · cases h
    · rename_i s1 hs1
      exact atm_fok hx (by omega) (apw_fok (hx v (by omega)) hc hs1) h
/-- the point's row -/
def ptok (M : zM) (a : Nat) (pt : Nat → Int) : Prop := zsh M a = (2, 4) ∧ ∀ v, v < 4 → zI M a v = Int32.ofInt (pt v) ∧ (-2147483648 ≤ pt v ∧ pt v < 2147483648)
theorem sp_termAt {d p o k a i nv : Nat} {M : zM} {L : aP} {t : aT} {pt : Nat → Int} {P : Int64 → zM → Prop} (hd : 3 ≤ d) (hp : pst M p o) (hL : pdy M p k L) (hk : pok k L) (hi : L[i]? = some t) (ha : ptok M a pt) (hpt : ∀ v, v < nv → -1000 ≤ pt v ∧ pt v ≤ 1000) (hnv : nv ≤ 4) (h : P (eFo (atm pt t.2 nv 0 t.1)) M) : ycJ d nX6_termAt [.ref p, .int (nI i), .ref a, .int (nI nv)] M P := by
  obtain ⟨d, rfl, he⟩ := dS hd
  have hil := (List.getElem?_eq_some_iff.mp hi).1
  have hl := hk.2.2
  obtain ⟨g1, g2, g3⟩ := hL.2 _ _ hi
  have ht := hk.1 _ (List.mem_of_getElem? hi)
  have ci := cl_n (n := i) (by omega)
  have zi : zin (nI i) 100 := zin_n (by omega) (by omega)
  have outer : ∀ (r v : Nat) (c : aF) (o7 o8 o9 o10 : Option Value), v + r = nv → fok c → atm pt t.2 r v c = atm pt t.2 nv 0 t.1 → wX6_termAt d (fun r M2 => ∃ x : Int64, r = [.long x] ∧ P x M2) 7 [some (.ref p), some (.int (nI i)), some (.ref a), some (.int (nI nv)), some (.long (eF c)), none, some (.int (nI v)), o7, o8, o9, o10] [] M := by
    intro r
    induction r with
    | zero =>
      intro v c o7 o8 o9 o10 hv hc heq
      have heq : some c = atm pt t.2 nv 0 t.1 := heq
      refine sg_X6_termAt_7 _ _ _ _ _ _ _ _ _ _ _ ⟨fun _ => ⟨_, rfl, by rw [← heq] at h; exact h⟩, fun c => absurd (by rw [show v = nv by omega]; exact Int32.le_refl _) c⟩
    | succ r ih =>
      intro v c o7 o8 o9 o10 hv hc heq
      have q1 := aex_lt ht.2.2 v
      have hx := hpt v (by omega)
      have hxf : fok (pt v, 1) := fok_x1 (by omega)
      have heq : (match apw (pt v) (aex t.2 v) c with | none => none | some s => atm pt t.2 r (v + 1) s) = atm pt t.2 nv 0 t.1 := heq
      have inner : ∀ (s u : Nat) (c' : aF), u + s = aex t.2 v → fok c' → (match apw (pt v) s c' with | none => none | some s => atm pt t.2 r (v + 1) s) = atm pt t.2 nv 0 t.1 → wX6_termAt d (fun r M2 => ∃ x : Int64, r = [.long x] ∧ P x M2) 26 [some (.ref p), some (.int (nI i)), some (.ref a), some (.int (nI nv)), some (.long (eF c')), none, some (.int (nI v)), some (.int (nI (aex t.2 v))), some (.long (eF (pt v, 1))), none, some (.int (nI u))] [] M := by
        intro s
        induction s with
        | zero =>
          intro u c' hu hc' heq'
          have heq' : atm pt t.2 r (v + 1) c' = atm pt t.2 nv 0 t.1 := heq'
          refine sg_X6_termAt_26 _ _ _ _ _ _ _ _ _ _ ⟨fun _ => ?_, fun c => absurd (by rw [show u = aex t.2 v by omega]; exact Int32.le_refl _) c⟩
          intro v6
          rw [show v6 = nI (v + 1) from nI_1 v]
          exact ih (v + 1) c' _ _ _ _ (by omega) hc' heq'
        | succ s ih2 =>
          intro u c' hu hc' heq'
          unfold apw at heq'
          refine sg_X6_termAt_26 _ _ _ _ _ _ _ _ _ _ ⟨fun c => ?_, fun _ => sp_fmul (by omega) hc' hxf ?_⟩
          · have := (nI_leI (by omega) (by omega)).mp c
            omega
          · cases hs : afmul c' (pt v, 1) with
            | none =>
              rw [hs] at heq'
              have heq' : none = atm pt t.2 nv 0 t.1 := heq'
              exact ⟨fun z => absurd (show lg_cmp (0 : Int64) 0 = 0 by decide) z, fun _ => ⟨_, rfl, by rw [← heq'] at h; exact h⟩⟩
            | some s1 =>
              rw [hs] at heq'
              have hs1 := afmul_fok hc' hxf hs
              refine ⟨fun _ => ?_, fun z => absurd (Classical.not_not.mp z) (eF_0 hs1)⟩
              intro v10
              rw [show v10 = nI (u + 1) from nI_1 u]
              exact ih2 (u + 1) s1 (by omega) hs1 heq'
      refine sg_X6_termAt_7 _ _ _ _ _ _ _ _ _ _ _ ⟨fun c => ?_, fun _ => ⟨hp.1, p_k2 hp, by rw [p_l2 hp]; exact zi, ?_⟩⟩
      · have := (nI_leI (by omega) (by omega)).mp c
        omega
      · rw [ci, hp.2.2.2.1, g2]
        refine sp_exponent (by omega) (mok_by ht.2.2) (by omega) ⟨by rw [ha.1], by rw [ha.1]; exact zin_n (by omega) (by omega), ?_⟩
        rw [cl_n (by omega), (ha.2 v (by omega)).1]
        refine sp_lowest (A := pt v) (B := 1) (by omega) (tI64 (ha.2 v (by omega)).2) (by decide) (by omega) (by omega) ?_
        rw [alow_x1 (by omega)]
        exact inner (aex t.2 v) 0 c (by omega) hc heq
  refine en_X6_termAt _ _ _ _ M (sg_X6_termAt_0 _ _ _ _ M ⟨hp.1, p_k1 hp, by rw [p_l1 hp]; exact zi, ?_⟩)
  intro w4
  rw [show w4 = eF t.1 by rw [show w4 = zL M (zR M p 1) (nI i).toNatClampNeg from rfl, ci, hp.2.2.1, g1]]
  exact outer nv 0 t.1 _ _ _ _ (by omega) ht.1 rfl
theorem sp_valueAt {d p o k a nv : Nat} {M : zM} {L : aP} {pt : Nat → Int} {P : Int64 → zM → Prop} (hd : 4 ≤ d) (hp : pst M p o) (hL : pdy M p k L) (hk : pok k L) (ha : ptok M a pt) (hpt : ∀ v, v < nv → -1000 ≤ pt v ∧ pt v ≤ 1000) (hnv : nv ≤ 4) (h : P (eFo (aval pt nv L (0, 1))) M) : ycJ d nX6_valueAt [.ref p, .ref a, .int (nI nv)] M P := by
  obtain ⟨d, rfl, he⟩ := dS hd
  have hl := hk.2.2
  have h01 : fok ((0 : Int), (1 : Int)) := ⟨⟨by decide, by decide⟩, by decide, by decide⟩
  have loop : ∀ (r i : Nat) (tot : aF) (o6 o7 : Option Value), i + r = L.length → fok tot → aval pt nv (L.drop i) tot = aval pt nv L (0, 1) → wX6_valueAt d (fun r M2 => ∃ x : Int64, r = [.long x] ∧ P x M2) 4 [some (.ref p), some (.ref a), some (.int (nI nv)), some (.long (eF tot)), none, some (.int (nI i)), o6, o7] [] M := by
    intro r
    induction r with
    | zero =>
      intro i tot o6 o7 hi hf heq
      rw [show i = L.length by omega, List.drop_length] at heq
      have heq : some tot = aval pt nv L (0, 1) := heq
      refine sg_X6_valueAt_4 _ _ _ _ _ _ _ _ ⟨hp.1, fun _ => ⟨_, rfl, by rw [← heq] at h; exact h⟩, fun c => absurd (by rw [hL.1, show i = L.length by omega]; exact Int32.le_refl _) c⟩
    | succ r ih =>
      intro i tot o6 o7 hi hf heq
      have hlt : i < L.length := by omega
      have hu := List.getElem?_eq_getElem hlt
      have ht := hk.1 _ (List.mem_of_getElem? hu)
      rw [List.drop_eq_getElem_cons hlt] at heq
      have heq : (match atm pt (L[i]).2 nv 0 (L[i]).1 with | none => none | some s => match afsum tot s with | none => none | some r => aval pt nv (L.drop (i + 1)) r) = aval pt nv L (0, 1) := heq
      refine sg_X6_valueAt_4 _ _ _ _ _ _ _ _ ⟨hp.1, fun c => ?_, fun _ => ⟨hp.1, sp_termAt (by omega) hp hL hk hu ha hpt hnv ?_⟩⟩
      · rw [hL.1] at c
        have := (nI_leI (by omega) (by omega)).mp c
        omega
      · cases hs : atm pt (L[i]).2 nv 0 (L[i]).1 with
        | none =>
          rw [hs] at heq
          have heq : none = aval pt nv L (0, 1) := heq
          exact ⟨fun z => absurd (show lg_cmp (0 : Int64) 0 = 0 by decide) z, fun _ => ⟨_, rfl, by rw [← heq] at h; exact h⟩⟩
        | some s =>
          rw [hs] at heq
          have hxs : ∀ v, v < nv → fok (pt v, 1) := fun v hv => by
            have := hpt v hv
            exact fok_x1 (by omega)
          have hsf : fok s := by
            have key : ∀ {n v : Nat} {c s : aF}, v + n ≤ nv → fok c → atm pt (L[i]).2 n v c = some s → fok s := by
              intro n
              induction n with
              | zero => intro v c s _ hc h; cases h; exact hc
              | succ n ihn =>
                intro v c s hv hc h
                unfold atm at h
                split at h
                · cases h
                · rename_i s1 hs1
                  exact ihn (by omega) (apw_fok (hxs v (by omega)) hc hs1) h
            exact key (by omega) ht.1 hs
          refine ⟨fun _ => sp_fsum (by omega) hf hsf ?_, fun z => absurd (Classical.not_not.mp z) (eF_0 hsf)⟩
          cases hr : afsum tot s with
          | none =>
            have heq : none = aval pt nv L (0, 1) := by
              rw [← heq]
              show _ = (match afsum tot s with | none => none | some r => aval pt nv (L.drop (i + 1)) r)
              rw [hr]
            exact ⟨fun z => absurd (show lg_cmp (0 : Int64) 0 = 0 by decide) z, fun _ => ⟨_, rfl, by rw [← heq] at h; exact h⟩⟩
          | some r1 =>
            have heq : aval pt nv (L.drop (i + 1)) r1 = aval pt nv L (0, 1) := by
              rw [← heq]
              show _ = (match afsum tot s with | none => none | some r => aval pt nv (L.drop (i + 1)) r)
              rw [hr]
            have hr1 := (afsum_ok hf hsf hr).1
            refine ⟨fun _ => ?_, fun z => absurd (Classical.not_not.mp z) (eF_0 hr1)⟩
            intro v5
            rw [show v5 = nI (i + 1) from nI_1 i]
            exact ih (i + 1) r1 _ _ (by omega) hr1 heq
  exact en_X6_valueAt _ _ _ M (sg_X6_valueAt_0 _ _ _ M (loop L.length 0 (0, 1) _ _ (by omega) h01 rfl))
