/-! THE DOCUMENT'S BASES: pairs, cofactors, cleaning, sorting, reducing -/
def omp (f : Nat → Option aP) : Nat → Option (List aP)
  | 0 => some []
  | n + 1 => match omp f n with
    | none => none
    | some l => match f n with
      | none => none
      | some c => some (l ++ [c])
theorem omp_s {f : Nat → Option aP} {n : Nat} : omp f (n + 1) = (match omp f n with
    | none => none
    | some l => match f n with
      | none => none
      | some c => some (l ++ [c])) := rfl
theorem omp_none {f : Nat → Option aP} {n : Nat} (h : omp f n = none) : ∀ {m : Nat}, n ≤ m → omp f m = none
  | 0, hm => by
    have : n = 0 := by omega
    subst this
    exact h
  | m + 1, hm => by
    by_cases e : n = m + 1
    · subst e; exact h
    · rw [omp_s, omp_none h (show n ≤ m by omega)]
theorem omp_len {f : Nat → Option aP} : ∀ {n : Nat} {l : List aP}, omp f n = some l → l.length = n
  | 0, l, h => by cases h; rfl
  | n + 1, l, h => by
    rw [omp_s] at h
    split at h
    · cases h
    · rename_i l' hl
      split at h
      · cases h
      · cases h
        rw [List.length_append, omp_len hl]
        rfl
theorem omp_at {f : Nat → Option aP} : ∀ {n : Nat} {l : List aP} {i : Nat}, omp f n = some l → i < n → f i = l[i]?
  | n + 1, l, i, h, hi => by
    rw [omp_s] at h
    split at h
    · cases h
    · rename_i l' hl
      split at h
      · cases h
      · rename_i c hc
        cases h
        have hll := omp_len hl
        by_cases e : i < n
        · rw [List.getElem?_append_left (by omega)]
          exact omp_at hl e
        · have : i = n := by omega
          subst this
          rw [List.getElem?_append_right (by omega), hll, Nat.sub_self, hc]
          rfl
/-- terms with the other sign, or as they are -/
def asg (s : Bool) (q : aP) : aP := cond s (q.map fun t => ((-t.1.1, t.1.2), t.2)) q
def acof (es : List aE) (e kk : Nat) : aP := (es.getD e ([], [])).2.getD kk []
/-- f, and the quotients (with a sign) TIMES one cofactor of each -/
def als (k : Nat) (s : Bool) (kk : Nat) (es : List aE) (qs : List aP) (f : aP) : Nat → Option aP
  | 0 => some f
  | e + 1 => match als k s kk es qs f e with
    | none => none
    | some f' => aprod k (acof es e kk) (asg s (qs.getD e [])) f'
theorem als_s {k : Nat} {s : Bool} {kk : Nat} {es : List aE} {qs : List aP} {f : aP} {e : Nat} : als k s kk es qs f (e + 1) = (match als k s kk es qs f e with
    | none => none
    | some f' => aprod k (acof es e kk) (asg s (qs.getD e [])) f') := rfl
theorem als_none {k : Nat} {s : Bool} {kk : Nat} {es : List aE} {qs : List aP} {f : aP} {n : Nat} (h : als k s kk es qs f n = none) : ∀ {m : Nat}, n ≤ m → als k s kk es qs f m = none
  | 0, hm => by
    have : n = 0 := by omega
    subst this
    exact h
  | m + 1, hm => by
    by_cases e : n = m + 1
    · subst e; exact h
    · rw [als_s, als_none h (show n ≤ m by omega)]
theorem asg_tok {s : Bool} {q : aP} (h : ∀ t ∈ q, tok t) : ∀ t ∈ asg s q, tok t := by
  cases s
  · exact h
  · intro t ht
    obtain ⟨u, hu, rfl⟩ := List.mem_map.mp (show t ∈ q.map _ from ht)
    obtain ⟨h1, h2, h3⟩ := h u hu
    exact ⟨fneg_ok h1, by dsimp only; omega, h3⟩
/-- a leading monomial -/
def ald (es : List aE) (i : Nat) : aM := lmon (es.getD i ([], [])).1
def apick (rk i j : Nat) (w : Bool) (b : Option (Nat × Nat × Nat)) : Option (Nat × Nat × Nat) := cond w (match b with
  | none => some (rk, i, j)
  | some x => if rk < x.1 then some (rk, i, j) else some x) b
def achI (rk : Nat → Nat → Nat) (W : Nat → Nat → Bool) (j : Nat) : Nat → Option (Nat × Nat × Nat) → Option (Nat × Nat × Nat)
  | 0, b => b
  | i + 1, b => apick (rk i j) i j (W i j) (achI rk W j i b)
def achJ (rk : Nat → Nat → Nat) (W : Nat → Nat → Bool) : Nat → Option (Nat × Nat × Nat)
  | 0 => none
  | j + 1 => achI rk W j j (achJ rk W j)
def arp (k : Nat) (es : List aE) (i j : Nat) : Nat := ark k (mlcm (ald es i) (ald es j))
/-- the pair whose turn it is -/
def achoose (k : Nat) (es : List aE) (W : Nat → Nat → Bool) : Option (Nat × Nat × Nat) := achJ (arp k es) W es.length
def woff (W : Nat → Nat → Bool) (l r : Nat) : Nat → Nat → Bool := fun i j => if i = l ∧ j = r then false else W i j
def won (W : Nat → Nat → Bool) (n : Nat) : Nat → Nat → Bool := fun i j => if j = n then true else W i j
def awt (W : Nat → Nat → Bool) (a b : Nat) : Bool := if a < b then W a b else W b a
def mapb (a b : aM) : Bool := decide ((a.1 = 0 ∨ b.1 = 0) ∧ (a.2.1 = 0 ∨ b.2.1 = 0) ∧ (a.2.2.1 = 0 ∨ b.2.2.1 = 0) ∧ (a.2.2.2 = 0 ∨ b.2.2.2 = 0))
theorem mapb_iff {a b : aM} : mapb a b = true ↔ mapart a b := decide_eq_true_iff
def anec (es : List aE) (W : Nat → Nat → Bool) (l r c : Nat) : Bool := c != l && (c != r && (mdv (ald es c) (mlcm (ald es l) (ald es r)) && (!awt W c l && !awt W c r)))
/-- PASSED OVER -/
def aneed (es : List aE) (W : Nat → Nat → Bool) (l r : Nat) : Bool := mapb (ald es l) (ald es r) || (List.range es.length).any fun c => anec es W l r c
def aspol (k : Nat) (A B : aE) (p q : aP) : Option aP := match aadds k (1, 1) (msub (mlcm (lmon A.1) (lmon B.1)) (lmon A.1)) p [] with
  | none => none
  | some f => aadds k (-1, 1) (msub (mlcm (lmon A.1) (lmon B.1)) (lmon B.1)) q f
def anew (k sh : Nat) (es : List aE) (qs : List aP) (rest : aP) (cs : List aP) : Option aE := if 24 ≤ es.length then none else match omp (fun kk => als k true kk es qs (cs.getD kk []) es.length) sh with
  | none => none
  | some cs' => amonic (rest, cs')
def aE0 : aE := ([], [])
/-- a pair SETTLED: code, elements, what waits, steps left, 1 if passed over -/
def asettle (k sh : Nat) (es : List aE) (W : Nat → Nat → Bool) (n l r : Nat) : Nat × List aE × (Nat → Nat → Bool) × Nat × Nat :=
  if aneed es (woff W l r) l r = true then (0, es, woff W l r, n, 1) else
  match aspol k (es.getD l aE0) (es.getD r aE0) (es.getD l aE0).1 (es.getD r aE0).1 with
  | none => (2, es, woff W l r, n, 0)
  | some f => match omp (fun kk => aspol k (es.getD l aE0) (es.getD r aE0) (acof es l kk) (acof es r kk)) sh with
    | none => (2, es, woff W l r, n, 0)
    | some cs => if (adiv k (es.map Prod.fst) none n f [] (List.replicate es.length [])).1 = 0 then
        (if (adiv k (es.map Prod.fst) none n f [] (List.replicate es.length [])).2.2.1.length = 0 then (0, es, woff W l r, (adiv k (es.map Prod.fst) none n f [] (List.replicate es.length [])).2.1, 0) else
          match anew k sh es (adiv k (es.map Prod.fst) none n f [] (List.replicate es.length [])).2.2.2 (adiv k (es.map Prod.fst) none n f [] (List.replicate es.length [])).2.2.1 cs with
          | none => (2, es, woff W l r, (adiv k (es.map Prod.fst) none n f [] (List.replicate es.length [])).2.1, 0)
          | some E => (0, es ++ [E], won (woff W l r) es.length, (adiv k (es.map Prod.fst) none n f [] (List.replicate es.length [])).2.1, 0))
      else ((adiv k (es.map Prod.fst) none n f [] (List.replicate es.length [])).1, es, woff W l r, (adiv k (es.map Prod.fst) none n f [] (List.replicate es.length [])).2.1, 0)
abbrev aS : Type := List aE × (Nat → Nat → Bool) × Nat × Nat × Nat
/-- pairs one after the other, so many at most: code, and elements, what waits, steps left, pairs taken, pairs passed over -/
def apairs (k sh : Nat) : Nat → aS → Nat × aS
  | 0, s => (0, s)
  | f + 1, s => match achoose k s.1 s.2.1 with
    | none => (0, s)
    | some x => if (asettle k sh s.1 s.2.1 s.2.2.1 x.2.1 x.2.2).1 = 0 then apairs k sh f ((asettle k sh s.1 s.2.1 s.2.2.1 x.2.1 x.2.2).2.1, (asettle k sh s.1 s.2.1 s.2.2.1 x.2.1 x.2.2).2.2.1, (asettle k sh s.1 s.2.1 s.2.2.1 x.2.1 x.2.2).2.2.2.1, s.2.2.2.1 + 1, s.2.2.2.2 + (asettle k sh s.1 s.2.1 s.2.2.1 x.2.1 x.2.2).2.2.2.2)
      else ((asettle k sh s.1 s.2.1 s.2.2.1 x.2.1 x.2.2).1, ((asettle k sh s.1 s.2.1 s.2.2.1 x.2.1 x.2.2).2.1, (asettle k sh s.1 s.2.1 s.2.2.1 x.2.1 x.2.2).2.2.1, (asettle k sh s.1 s.2.1 s.2.2.1 x.2.1 x.2.2).2.2.2.1, s.2.2.2.1 + 1, s.2.2.2.2 + (asettle k sh s.1 s.2.1 s.2.2.1 x.2.1 x.2.2).2.2.2.2))
/-- 1 for the generator itself, 0 for the others -/
def aunit (sh g : Nat) : List aP := (List.range sh).map fun kk => if kk = g then [((1, 1), mone)] else []
/-- the generators that are not 0, MADE MONIC -/
def aadopt (sh : Nat) (gens : List aP) : Nat → Nat × List aE × (Nat → Nat → Bool)
  | 0 => (0, [], fun _ _ => false)
  | g + 1 => if (aadopt sh gens g).1 = 0 ∧ (gens.getD g []).length ≠ 0 then (match amonic (gens.getD g [], aunit sh g) with
      | none => (2, (aadopt sh gens g).2)
      | some E => (0, (aadopt sh gens g).2.1 ++ [E], won (aadopt sh gens g).2.2 (aadopt sh gens g).2.1.length)) else aadopt sh gens g
/-- one that GOES -/
def agoes (es : List aE) (i : Nat) : Bool := (List.range es.length).any fun j => j != i && (mdv (ald es j) (ald es i) && (ald es j != ald es i || decide (j < i)))
def aclean (es : List aE) : Nat → List aE
  | 0 => []
  | i + 1 => if agoes es i = true then aclean es i else aclean es i ++ [es.getD i aE0]
def aescan (k r : Nat) (L : List aE) : Nat → Nat
  | 0 => 0
  | n + 1 => if r < ark k (ald L n) then aescan k r L n else n + 1
def aesrt (k : Nat) (es : List aE) : Nat → List aE
  | 0 => []
  | i + 1 => (aesrt k es i).insertIdx (aescan k (ark k (ald es i)) (aesrt k es i) i) (es.getD i aE0)
/-- one REDUCED by the others: code, elements, steps left -/
def ared (k sh : Nat) (es : List aE) (n i : Nat) : Nat × List aE × Nat :=
  if (adiv k (es.map Prod.fst) (some i) n (es.getD i aE0).1.tail [] (List.replicate es.length [])).1 = 0 then
    (match omp (fun kk => als k true kk es (adiv k (es.map Prod.fst) (some i) n (es.getD i aE0).1.tail [] (List.replicate es.length [])).2.2.2 (acof es i kk) es.length) sh with
    | none => (2, es, (adiv k (es.map Prod.fst) (some i) n (es.getD i aE0).1.tail [] (List.replicate es.length [])).2.1)
    | some cs => match acome k ((1, 1), ald es i) (adiv k (es.map Prod.fst) (some i) n (es.getD i aE0).1.tail [] (List.replicate es.length [])).2.2.1 with
      | none => (2, es, (adiv k (es.map Prod.fst) (some i) n (es.getD i aE0).1.tail [] (List.replicate es.length [])).2.1)
      | some b => (0, es.set i (b, cs), (adiv k (es.map Prod.fst) (some i) n (es.getD i aE0).1.tail [] (List.replicate es.length [])).2.1))
  else ((adiv k (es.map Prod.fst) (some i) n (es.getD i aE0).1.tail [] (List.replicate es.length [])).1, es, (adiv k (es.map Prod.fst) (some i) n (es.getD i aE0).1.tail [] (List.replicate es.length [])).2.1)
def areds (k sh : Nat) (es : List aE) (n : Nat) : Nat → Nat × List aE × Nat
  | 0 => (0, es, n)
  | i + 1 => if (areds k sh es n i).1 = 0 then ared k sh (areds k sh es n i).2.1 (areds k sh es n i).2.2 i else areds k sh es n i
def acsort (k : Nat) (es : List aE) : List aE := aesrt k (aclean es es.length) (aclean es es.length).length
def abld2 (k sh : Nat) (x : Nat × aS) : Nat × List aE × Nat := if x.1 = 0 then areds k sh (acsort k x.2.1) x.2.2.2.1 (acsort k x.2.1).length else (x.1, x.2.1, x.2.2.2.1)
def abld1 (k sh lim : Nat) (x : Nat × List aE × (Nat → Nat → Bool)) : Nat × aS := if x.1 = 0 then apairs k sh 276 (x.2.1, x.2.2, lim, 0, 0) else (x.1, x.2.1, x.2.2, lim, 0, 0)
/-- A BASIS: code, elements, steps left, pairs taken, pairs passed over, elements made -/
def abuild (k sh lim : Nat) (gens : List aP) : Nat × List aE × Nat × Nat × Nat × Nat :=
  ((abld2 k sh (abld1 k sh lim (aadopt sh gens gens.length))).1, (abld2 k sh (abld1 k sh lim (aadopt sh gens gens.length))).2.1, (abld2 k sh (abld1 k sh lim (aadopt sh gens gens.length))).2.2,
   (abld1 k sh lim (aadopt sh gens gens.length)).2.2.2.2.1, (abld1 k sh lim (aadopt sh gens gens.length)).2.2.2.2.2, (abld1 k sh lim (aadopt sh gens gens.length)).2.1.length)
/-! how memory holds the class's ideals -/
def iap (H w : Nat) (eid : Nat → Nat) : Prop := (∀ i, i < 25 → H + 2 ≤ eid i ∧ eid i + 6 + 4 * w ≤ H + 152 + 100 * w) ∧ ∀ i j, i < 25 → j < 25 → i ≠ j → eid i + 6 + 4 * w ≤ eid j ∨ eid j + 6 + 4 * w ≤ eid i
def ist (M : zM) (H o w : Nat) (eid : Nat → Nat) : Prop := ((zsh M H).1 = 12 ∧ zR M H 0 = o ∧ zR M H 1 = H + 1 ∧ zR M H 7 = H + 152 + 100 * w ∧ zsh M (H + 152 + 100 * w) = (2, 576)) ∧ rst M (H + 1) o w eid ∧ iap H w eid ∧ o < H ∧ w ≤ 8
def inI (H w a : Nat) : Prop := H ≤ a ∧ a < H + 153 + 100 * w
theorem ist_fr {S : Nat → Prop} {M M' : zM} {H o w : Nat} {eid : Nat → Nat} (h : zfr S M M') (hi : ist M H o w eid) : ist M' H o w eid := by
  obtain ⟨⟨h1, h2, h3, h4, h5⟩, h6, h7⟩ := hi
  exact ⟨⟨by rw [h.1]; exact h1, by rw [h.2.2.2.1]; exact h2, by rw [h.2.2.2.1]; exact h3, by rw [h.2.2.2.1]; exact h4, by rw [h.1]; exact h5⟩, rst_fr h h6, h7⟩
def icn (M : zM) (H sh n : Nat) : Prop := zI M H 2 = nI n ∧ zI M H 10 = nI sh ∧ n ≤ 24
def iel (M : zM) (eid : Nat → Nat) (k : Nat) (es : List aE) : Prop := ∀ (i : Nat) (E : aE), es[i]? = some E → edy M (eid i) k E
def iok (k sh : Nat) (es : List aE) : Prop := ∀ E ∈ es, eok k E ∧ E.1 ≠ [] ∧ E.2.length = sh
def iwt (M : zM) (H w k : Nat) (es : List aE) (W : Nat → Nat → Bool) : Prop := ∀ i j, i < j → j < es.length → zI M (H + 152 + 100 * w) (24 * j + i) = if W i j = true then nI (arp k es i j) else -1
theorem icn_fr {S : Nat → Prop} {M M' : zM} {H sh n : Nat} (h : zfr S M M') (hd : ¬ S H) (hc : icn M H sh n) : icn M' H sh n := by
  unfold icn at *
  rw [(h.2.2.2.2 H hd).1, (h.2.2.2.2 H hd).1]
  exact hc
theorem iwt_fr {S : Nat → Prop} {M M' : zM} {H w k : Nat} {es : List aE} {W : Nat → Nat → Bool} (h : zfr S M M') (hd : ¬ S (H + 152 + 100 * w)) (hc : iwt M H w k es W) : iwt M' H w k es W := fun i j hi hj => by
  rw [(h.2.2.2.2 _ hd).1]
  exact hc i j hi hj
theorem iel_fr {S : Nat → Prop} {M M' : zM} {H o w k sh : Nat} {eid : Nat → Nat} {es : List aE} (h : zfr S M M') (hi : ist M H o w eid) (hk : iok k sh es) (hsh : sh ≤ w) (hl : es.length ≤ 24) (hd : ∀ i, i < es.length → ∀ a, inE w (eid i) a → ¬ S a) (hE : iel M eid k es) : iel M' eid k es := fun i E hiE => by
  have hlt := (List.getElem?_eq_some_iff.mp hiE).1
  exact edy_fr h (by rw [(hk E (List.mem_of_getElem? hiE)).2.2]; exact hsh) (hd i hlt) (hE i E hiE)
theorem iok_lead {k sh : Nat} {es : List aE} (hk : iok k sh es) {i : Nat} (hi : i < es.length) : ∃ t l cs, es[i]? = some (t :: l, cs) ∧ ald es i = t.2 ∧ mok t.2 ∧ cs.length = sh ∧ eok k (t :: l, cs) := by
  have hu := List.getElem?_eq_getElem hi
  obtain ⟨h1, h2, h3⟩ := hk _ (List.getElem_mem hi)
  cases hE : es[i] with
  | mk b cs =>
    rw [hE] at h1 h2 h3 hu
    cases b with
    | nil => exact absurd rfl h2
    | cons t l =>
      refine ⟨t, l, cs, hu, ?_, (h1.1.1 t List.mem_cons_self).2.2, h3, h1⟩
      unfold ald
      rw [List.getD_eq_getElem?_getD, hu]
      rfl
theorem iok_mok {k sh : Nat} {es : List aE} (hk : iok k sh es) (i : Nat) : mok (ald es i) := by
  by_cases hi : i < es.length
  · obtain ⟨t, l, cs, h1, h2, h3, -⟩ := iok_lead hk hi
    rw [h2]; exact h3
  · unfold ald
    rw [List.getD_eq_getElem?_getD, List.getElem?_eq_none (by omega)]
    exact ⟨Nat.zero_le _, Nat.zero_le _, Nat.zero_le _, Nat.zero_le _⟩
/-- the leading monomial of an element in a row -/
theorem sp_ld {d H o w k sh : Nat} {M : zM} {eid : Nat → Nat} {es : List aE} {P : Int32 → zM → Prop} {i : Nat} (hd : 1 ≤ d) (hI : ist M H o w eid) (hE : iel M eid k es) (hk : iok k sh es) (hl : es.length ≤ 25) (hi : i < es.length) (h : P (e8 (ald es i)) M) : ycI d nX1_leading [.ref (eid i)] M P := by
  obtain ⟨t, l, cs, h1, h2, h3, -⟩ := iok_lead hk hi
  rw [h2] at h
  exact sp_leading hd (hI.2.1.2 i (by omega)).2 (hE i _ h1).1 h
theorem sp_begin {d H o w sh : Nat} {M : zM} {eid : Nat → Nat} {P : zM → Prop} (hd : 1 ≤ d) (hI : ist M H o w eid) (h : ∀ M', zfr (fun a => a = H) M M' → icn M' H sh 0 → zI M' H 4 = 0 → zI M' H 5 = 0 → P M') : ycV d nX3_begin [.ref H, .int (nI sh)] M P := by
  obtain ⟨d, rfl, he⟩ := dS hd
  have s := hI.1.1
  refine en_X3_begin _ _ M (sg_X3_begin_0 _ _ M ⟨s, ?_⟩)
  intro M1
  refine ⟨s, ?_⟩
  intro M2
  refine ⟨s, ?_⟩
  intro M3
  refine ⟨s, ?_⟩
  intro M4
  have f1 : zfr (fun a => a = H) M M1 := zfr_uI rfl
  have f2 : zfr (fun a => a = H) M1 M2 := zfr_uI rfl
  have f3 : zfr (fun a => a = H) M2 M3 := zfr_uI rfl
  have f4 : zfr (fun a => a = H) M3 M4 := zfr_uI rfl
  refine ⟨rfl, h M4 (zfr_tr f1 (zfr_tr f2 (zfr_tr f3 f4))) ⟨?_, ?_, by omega⟩ ?_ ?_⟩
  · show zI (zuI (zuI (zuI (zuI M H 10 (nI sh)) H 2 0) H 4 0) H 5 0) H 2 = 0
    rw [zI_uI, if_neg (by omega), zI_uI, if_neg (by omega), zI_uI, if_pos ⟨rfl, rfl⟩]
  · show zI (zuI (zuI (zuI (zuI M H 10 (nI sh)) H 2 0) H 4 0) H 5 0) H 10 = nI sh
    rw [zI_uI, if_neg (by omega), zI_uI, if_neg (by omega), zI_uI, if_neg (by omega), zI_uI, if_pos ⟨rfl, rfl⟩]
  · show zI (zuI (zuI (zuI (zuI M H 10 (nI sh)) H 2 0) H 4 0) H 5 0) H 4 = 0
    rw [zI_uI, if_neg (by omega), zI_uI, if_pos ⟨rfl, rfl⟩]
  · show zI (zuI (zuI (zuI (zuI M H 10 (nI sh)) H 2 0) H 4 0) H 5 0) H 5 = 0
    rw [zI_uI, if_pos ⟨rfl, rfl⟩]
theorem ald_app {es : List aE} {E : aE} {i : Nat} (hi : i < es.length) : ald (es ++ [E]) i = ald es i := by
  unfold ald
  rw [List.getD_eq_getElem?_getD, List.getD_eq_getElem?_getD, List.getElem?_append_left hi]
theorem iok_app {k sh : Nat} {es : List aE} {E : aE} (hk : iok k sh es) (h1 : eok k E) (h2 : E.1 ≠ []) (h3 : E.2.length = sh) : iok k sh (es ++ [E]) := fun x hx => by
  rcases List.mem_append.mp hx with hx | hx
  · exact hk x hx
  · rw [List.mem_singleton.mp hx]; exact ⟨h1, h2, h3⟩
theorem iel_app {M : zM} {eid : Nat → Nat} {k : Nat} {es : List aE} {E : aE} (hE : iel M eid k es) (h : edy M (eid es.length) k E) : iel M eid k (es ++ [E]) := fun i x hx => by
  by_cases hi : i < es.length
  · rw [List.getElem?_append_left hi] at hx
    exact hE i x hx
  · rw [List.getElem?_append_right (by omega)] at hx
    have hl := (List.getElem?_eq_some_iff.mp hx).1
    have hi2 : i = es.length := by simp at hl; omega
    subst hi2
    rw [Nat.sub_self] at hx
    cases hx
    exact h
theorem sp_add {d H o w k sh : Nat} {M : zM} {eid : Nat → Nat} {es : List aE} {E : aE} {W : Nat → Nat → Bool} {P : zM → Prop} (hd : 3 ≤ d) (hI : ist M H o w eid) (ho : ost M o k) (hsh : sh ≤ w) (hc : icn M H sh es.length) (hl : es.length ≤ 23) (hE : iel M eid k (es ++ [E])) (hk : iok k sh (es ++ [E])) (hW : iwt M H w k es W)
    (h : ∀ M', zfr (fun a => a = H ∨ a = H + 152 + 100 * w) M M' → (∀ j, j ≠ 2 → zI M' H j = zI M H j) → icn M' H sh (es.length + 1) → iwt M' H w k (es ++ [E]) (won W es.length) → P M') : ycV d nX3_add [.ref H] M P := by
  obtain ⟨d, rfl, he⟩ := dS hd
  have s := hI.1.1
  have hel : (es ++ [E]).length = es.length + 1 := by simp
  have cn := cl_n (n := es.length) (by omega)
  have loop : ∀ (n i : Nat) (M' : zM) (o2 : Option Value), i + n = es.length → zfr (fun a => a = H + 152 + 100 * w) M M' → (∀ i', i' < i → zI M' (H + 152 + 100 * w) (24 * es.length + i') = nI (arp k (es ++ [E]) i' es.length)) → (∀ x, x < 24 * es.length → zI M' (H + 152 + 100 * w) x = zI M (H + 152 + 100 * w) x) → wX3_add d (fun r M2 => r = [] ∧ P M2) 2 [some (.ref H), some (.int (nI i)), o2] [] M' := by
    intro n
    induction n with
    | zero =>
      intro i M' o2 hi hfr h1 h2
      have hI' := ist_fr hfr hI
      have s' := hI'.1.1
      have hc' := icn_fr hfr (by omega) hc
      have hH : ∀ j, zI M' H j = zI M H j := (hfr.2.2.2.2 H (by omega)).1
      refine sg_X3_add_2 _ _ _ _ ⟨s', fun _ => ⟨s', s', ?_⟩, fun c => absurd (by rw [hc'.1, show i = es.length by omega]; exact Int32.le_refl _) c⟩
      intro M1
      refine ⟨rfl, h M1 (zfr_tr (zfr_up hfr fun a ha => Or.inr ha) (zfr_uI (Or.inl rfl))) (fun j hj => ?_) ⟨?_, ?_, by omega⟩ fun a b hab hb => ?_⟩
      · rw [show M1 = zuI M' H 2 (zI M' H 2 + 1) from rfl, zI_uI, if_neg (by omega)]
        exact hH j
      · rw [show M1 = zuI M' H 2 (zI M' H 2 + 1) from rfl, zI_uI, if_pos ⟨rfl, rfl⟩, hc'.1, nI_1]
      · rw [show M1 = zuI M' H 2 (zI M' H 2 + 1) from rfl, zI_uI, if_neg (by omega)]
        exact hc'.2.1
      · rw [hel] at hb
        rw [show M1 = zuI M' H 2 (zI M' H 2 + 1) from rfl, zI_uI, if_neg (by omega)]
        by_cases hbn : b = es.length
        · subst hbn
          rw [if_pos (show won W es.length a es.length = true from if_pos rfl)]
          exact h1 a (by omega)
        · rw [h2 _ (by omega), hW a b hab (by omega), show won W es.length a b = W a b from if_neg hbn]
          unfold arp
          rw [ald_app (by omega), ald_app (by omega)]
    | succ n ih =>
      intro i M' o2 hi hfr h1 h2
      have hI' := ist_fr hfr hI
      have s' := hI'.1.1
      have hc' := icn_fr hfr (by omega) hc
      have ho' := ost_fr hfr (by have := hI.2.2.2.1; omega) ho
      have hE' : iel M' eid k (es ++ [E]) := fun j x hj => by
        have hjl := (List.getElem?_eq_some_iff.mp hj).1
        rw [hel] at hjl
        have hap := hI.2.2.1.1 j (by omega)
        exact edy_fr (w := w) hfr (by rw [(hk x (List.mem_of_getElem? hj)).2.2]; exact hsh) (fun a ha => by
          unfold inE at ha
          omega) (hE j x hj)
      have ci := cl_n (n := i) (by omega)
      have hRi := hI'.2.1.2 i (by omega)
      have hRn := hI'.2.1.2 es.length (by omega)
      have hr1 := hI'.1.2.2.1
      refine sg_X3_add_2 _ _ _ _ ⟨s', fun c => ?_, fun _ => ⟨s', by rw [hr1, hI'.2.1.1], by rw [hr1, hI'.2.1.1]; exact zin_n (by omega) (by omega), by rw [hr1, ci, hRi.1]; exact hRi.2.1, ?_⟩⟩
      · rw [hc'.1] at c
        have := (nI_leI (by omega) (by omega)).mp c
        omega
      · rw [hr1, ci, hRi.1]
        refine sp_ld (es := es ++ [E]) (by omega) hI' hE' hk (by omega) (by omega) ⟨s', s', by rw [hr1, hI'.2.1.1], by rw [hr1, hI'.2.1.1, hc'.1]; exact zin_n (by omega) (by omega), by rw [hr1, hc'.1, cn, hRn.1]; exact hRn.2.1, ?_⟩
        rw [hr1, hc'.1, cn, hRn.1]
        refine sp_ld (es := es ++ [E]) (by omega) hI' hE' hk (by omega) (by omega) (sp_leastCommon (by omega) (iok_mok hk _) (iok_mok hk _) ?_)
        have hr0 := hI'.1.2.1
        have hr7 := hI'.1.2.2.2.1
        refine ⟨s', s', s', by rw [hr0]; exact ho'.1, ?_⟩
        rw [hr0]
        refine sp_rank (by omega) (mlcm_ok (iok_mok hk _) (iok_mok hk _)) ho'.1 ho'.2.1 ho'.2.2 ?_
        have ix : zI M' H 2 * 24 + nI i = nI (24 * es.length + i) := by
          rw [hc'.1, show (24 : Int32) = nI 24 from rfl, pk_mul, nI_add, Nat.mul_comm]
        have cx := cl_n (n := 24 * es.length + i) (by omega)
        rw [hr7, ix, cx]
        refine ⟨by rw [hI'.1.2.2.2.2], by rw [hI'.1.2.2.2.2]; exact zin_n (by omega) (by omega), ?_⟩
        intro M1 v1
        rw [show v1 = nI (i + 1) from nI_1 i]
        have ew : ∀ x, zI M1 (H + 152 + 100 * w) x = if x = 24 * es.length + i then nI (ark k (mlcm (ald (es ++ [E]) i) (ald (es ++ [E]) es.length))) else zI M' (H + 152 + 100 * w) x := fun x => by
          rw [show M1 = zuI M' (H + 152 + 100 * w) (24 * es.length + i) (nI (ark k (mlcm (ald (es ++ [E]) i) (ald (es ++ [E]) es.length)))) from rfl, zI_uI]
          simp only [true_and]
        refine ih (i + 1) M1 _ (by omega) (zfr_tr hfr (zfr_uI rfl)) (fun i' hi' => ?_) (fun x hx => ?_)
        · rw [ew]
          by_cases e : i' = i
          · subst e; rw [if_pos rfl]; rfl
          · rw [if_neg (by omega)]
            exact h1 i' (by omega)
        · rw [ew, if_neg (by omega)]
          exact h2 x hx
  exact en_X3_add _ M (sg_X3_add_0 _ M (loop es.length 0 M _ (by omega) zfr_rf (fun _ h => absurd h (Nat.not_lt_zero _)) fun _ _ => rfl))
