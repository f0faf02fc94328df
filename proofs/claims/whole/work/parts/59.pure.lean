/-! cleaning, sorting, bounds: without memory -/
def mdeg (m : aM) : Nat := m.1 + m.2.1 + m.2.2.1 + m.2.2.2
theorem mdeg_lt {a b : aM} (h : mdvd a b) (hn : a ≠ b) : mdeg a < mdeg b := by
  obtain ⟨a0, a1, a2, a3⟩ := a
  obtain ⟨b0, b1, b2, b3⟩ := b
  unfold mdvd at h
  unfold mdeg
  dsimp only at h ⊢
  apply Nat.lt_of_not_le
  intro hz
  exact hn (by rw [show a0 = b0 by omega, show a1 = b1 by omega, show a2 = b2 by omega, show a3 = b3 by omega])
theorem mdvd_tr {a b c : aM} (h1 : mdvd a b) (h2 : mdvd b c) : mdvd a c := by
  unfold mdvd at *
  omega
theorem mdvd_rf {a : aM} : mdvd a a := by
  unfold mdvd
  omega
theorem agoes_iff {es : List aE} {i : Nat} : agoes es i = true ↔ ∃ j, j < es.length ∧ j ≠ i ∧ mdvd (ald es j) (ald es i) ∧ (ald es j ≠ ald es i ∨ j < i) := by
  unfold agoes
  rw [List.any_eq_true]
  constructor
  · rintro ⟨j, h1, h2⟩
    rw [Bool.and_eq_true, Bool.and_eq_true, Bool.or_eq_true, bne_iff_ne, bne_iff_ne, decide_eq_true_iff, mdv_iff] at h2
    exact ⟨j, List.mem_range.mp h1, h2⟩
  · rintro ⟨j, h1, h2⟩
    refine ⟨j, List.mem_range.mpr h1, ?_⟩
    rw [Bool.and_eq_true, Bool.and_eq_true, Bool.or_eq_true, bne_iff_ne, bne_iff_ne, decide_eq_true_iff, mdv_iff]
    exact h2
/-- one that goes has one that stays dividing it -/
theorem agoes_st {es : List aE} (hl : es.length ≤ 24) : ∀ (N j : Nat), j < es.length → 25 * mdeg (ald es j) + j ≤ N → ∃ c, c < es.length ∧ agoes es c = false ∧ mdvd (ald es c) (ald es j) := by
  intro N
  induction N with
  | zero =>
    intro j hj hN
    refine ⟨j, hj, ?_, mdvd_rf⟩
    cases hg : agoes es j with
    | false => rfl
    | true =>
      obtain ⟨c, h1, h2, h3, h4⟩ := agoes_iff.mp hg
      rcases h4 with h4 | h4
      · have := mdeg_lt h3 h4
        omega
      · omega
  | succ N ih =>
    intro j hj hN
    cases hg : agoes es j with
    | false => exact ⟨j, hj, hg, mdvd_rf⟩
    | true =>
      obtain ⟨c, h1, h2, h3, h4⟩ := agoes_iff.mp hg
      have hm : 25 * mdeg (ald es c) + c ≤ N := by
        by_cases he : ald es c = ald es j
        · rw [he]
          rcases h4 with h4 | h4
          · exact absurd he h4
          · omega
        · have := mdeg_lt h3 he
          omega
      obtain ⟨c', g1, g2, g3⟩ := ih c h1 hm
      exact ⟨c', g1, g2, mdvd_tr g3 h3⟩
theorem aclean_s {es : List aE} {i : Nat} : aclean es (i + 1) = if agoes es i = true then aclean es i else aclean es i ++ [es.getD i aE0] := rfl
theorem aclean_mem {es : List aE} {E : aE} : ∀ {i : Nat}, E ∈ aclean es i ↔ ∃ j, j < i ∧ agoes es j = false ∧ es.getD j aE0 = E
  | 0 => ⟨fun h => absurd h List.not_mem_nil, fun ⟨_, h, _⟩ => absurd h (Nat.not_lt_zero _)⟩
  | i + 1 => by
    rw [aclean_s]
    split
    · rename_i hg
      rw [aclean_mem]
      constructor
      · rintro ⟨j, h1, h2⟩
        exact ⟨j, by omega, h2⟩
      · rintro ⟨j, h1, h2, h3⟩
        refine ⟨j, ?_, h2, h3⟩
        have : j ≠ i := fun e => by rw [e, hg] at h2; cases h2
        omega
    · rename_i hg
      rw [List.mem_append, aclean_mem, List.mem_singleton]
      constructor
      · rintro (⟨j, h1, h2⟩ | rfl)
        · exact ⟨j, by omega, h2⟩
        · exact ⟨i, by omega, by simpa using hg, rfl⟩
      · rintro ⟨j, h1, h2, h3⟩
        by_cases e : j = i
        · subst e
          exact Or.inr h3.symm
        · exact Or.inl ⟨j, by omega, h2, h3⟩
theorem aclean_len {es : List aE} : ∀ {i : Nat}, (aclean es i).length ≤ i
  | 0 => Nat.le_refl _
  | i + 1 => by
    have := aclean_len (es := es) (i := i)
    rw [aclean_s]
    split
    · omega
    · rw [List.length_append]
      simp
      omega
theorem ald_getD {es : List aE} {i : Nat} : ald es i = lmon (es.getD i aE0).1 := rfl
/-- what the class looks at is enough -/
theorem acover_iff {es : List aE} (hl : es.length ≤ 24) {i : Nat} (hi : i < es.length) : agoes es i = true ↔ (∃ j, j < (aclean es i).length ∧ mdvd (ald (aclean es i) j) (ald es i)) ∨ ∃ j, i < j ∧ j < es.length ∧ ald es j ≠ ald es i ∧ mdvd (ald es j) (ald es i) := by
  constructor
  · intro hg
    obtain ⟨j, h1, h2, h3, h4⟩ := agoes_iff.mp hg
    obtain ⟨c, g1, g2, g3⟩ := agoes_st hl _ j h1 (Nat.le_refl _)
    have g3 := mdvd_tr g3 h3
    rcases Nat.lt_trichotomy c i with hc | hc | hc
    · left
      have hm : es.getD c aE0 ∈ aclean es i := aclean_mem.mpr ⟨c, hc, g2, rfl⟩
      obtain ⟨j', hj'⟩ := List.getElem?_of_mem hm
      refine ⟨j', (List.getElem?_eq_some_iff.mp hj').1, ?_⟩
      rw [ald_getD, List.getD_eq_getElem?_getD, hj']
      exact g3
    · rw [hc, hg] at g2
      cases g2
    · right
      refine ⟨c, hc, g1, fun e => ?_, g3⟩
      have : agoes es c = true := agoes_iff.mpr ⟨i, hi, by omega, by rw [e]; exact mdvd_rf, Or.inr hc⟩
      rw [this] at g2
      cases g2
  · rintro (⟨j, h1, h2⟩ | ⟨j, h1, h2, h3, h4⟩)
    · have hu := List.getElem?_eq_getElem h1
      obtain ⟨c, g1, g2, g3⟩ := aclean_mem.mp (List.mem_of_getElem? hu)
      refine agoes_iff.mpr ⟨c, by omega, by omega, ?_, Or.inr g1⟩
      rw [ald_getD, List.getD_eq_getElem?_getD, hu] at h2
      rw [ald_getD, g3]
      exact h2
    · exact agoes_iff.mpr ⟨j, h2, by omega, h4, Or.inl h3⟩
theorem aesrt_s {k : Nat} {es : List aE} {i : Nat} : aesrt k es (i + 1) = (aesrt k es i).insertIdx (aescan k (ark k (ald es i)) (aesrt k es i) i) (es.getD i aE0) := rfl
theorem aescan_le {k r : Nat} {L : List aE} : ∀ {n : Nat}, aescan k r L n ≤ n
  | 0 => Nat.le_refl _
  | n + 1 => by
    unfold aescan
    split
    · exact Nat.le_succ_of_le aescan_le
    · exact Nat.le_refl _
theorem aesrt_len {k : Nat} {es : List aE} : ∀ {i : Nat}, (aesrt k es i).length = i
  | 0 => rfl
  | i + 1 => by
    have h := aesrt_len (k := k) (es := es) (i := i)
    rw [aesrt_s, List.length_insertIdx_of_le_length (by rw [h]; exact aescan_le), h]
theorem aesrt_mem {k : Nat} {es : List aE} : ∀ {i : Nat}, i ≤ es.length → ∀ E ∈ aesrt k es i, E ∈ es
  | 0, _, E, hE => absurd hE List.not_mem_nil
  | i + 1, hi, E, hE => by
    rw [aesrt_s, List.mem_insertIdx (by rw [aesrt_len]; exact aescan_le)] at hE
    rcases hE with rfl | hE
    · rw [List.getD_eq_getElem?_getD, List.getElem?_eq_getElem (by omega)]
      exact List.getElem_mem _
    · exact aesrt_mem (by omega) E hE
theorem iok_clean {k sh : Nat} {es : List aE} (hk : iok k sh es) {i : Nat} (hi : i ≤ es.length) : iok k sh (aclean es i) := fun E hE => by
  obtain ⟨j, h1, h2, h3⟩ := aclean_mem.mp hE
  refine hk E ?_
  rw [← h3, List.getD_eq_getElem?_getD, List.getElem?_eq_getElem (by omega)]
  exact List.getElem_mem _
theorem iok_srt {k sh : Nat} {es : List aE} (hk : iok k sh es) {i : Nat} (hi : i ≤ es.length) : iok k sh (aesrt k es i) := fun E hE => hk E (aesrt_mem hi E hE)
/-! the order and sums -/
theorem ark_sum {k : Nat} {a q : aM} (ha : mok (madd a q)) : ark k (madd a q) + (if k = 0 then 0 else q.2.2.2 * 1024 + q.2.2.1 * 32 + q.2.1) = ark k a + (if k = 0 then q.1 * 16777216 + q.2.1 * 65536 + q.2.2.1 * 256 + q.2.2.2 else (if k = 1 then 0 else q.1 * 4194304) + (q.1 + q.2.1 + q.2.2.1 + q.2.2.2) * 32768) := by
  obtain ⟨a0, a1, a2, a3⟩ := a
  obtain ⟨q0, q1, q2, q3⟩ := q
  unfold mok madd at ha
  unfold ark madd
  dsimp only at ha ⊢
  split
  · omega
  · split <;> omega
theorem ark_add {k : Nat} {a b q : aM} (ha : mok (madd a q)) (hb : mok (madd b q)) (h : ark k a ≤ ark k b) : ark k (madd a q) ≤ ark k (madd b q) := by
  have e1 := ark_sum (k := k) ha
  have e2 := ark_sum (k := k) hb
  generalize ark k (madd a q) = A at *
  generalize ark k (madd b q) = B at *
  generalize (if k = 0 then 0 else q.2.2.2 * 1024 + q.2.2.1 * 32 + q.2.1) = X at *
  generalize (if k = 0 then q.1 * 16777216 + q.2.1 * 65536 + q.2.2.1 * 256 + q.2.2.2 else (if k = 1 then 0 else q.1 * 4194304) + (q.1 + q.2.1 + q.2.2.1 + q.2.2.2) * 32768) = Y at *
  omega
theorem acome_lt {k N : Nat} {u : aT} {L L' : aP} (hL : ∀ t ∈ L, ark k t.2 < N) (hu : ark k u.2 < N) (h : acome k u L = some L') : ∀ t ∈ L', ark k t.2 < N := by
  have ins : ∀ i, i ≤ L.length → ∀ t ∈ L.insertIdx i u, ark k t.2 < N := fun i hi t ht => by
    rcases (List.mem_insertIdx hi).mp ht with rfl | ht
    · exact hu
    · exact hL t ht
  have hle := apos_le (k := k) (m := u.2) L
  unfold acome at h
  split at h
  · rename_i v hv
    split at h
    · split at h
      · cases h
      · rename_i s hs
        split at h
        · cases h
          exact fun t ht => hL t (List.mem_of_mem_eraseIdx ht)
        · cases h
          intro t ht
          rcases List.mem_or_eq_of_mem_set ht with ht | rfl
          · exact hL t ht
          · exact hu
    · split at h
      · cases h
      · cases h
        exact ins _ hle
  · split at h
    · cases h
    · cases h
      exact ins _ hle
theorem aadds_lt {k N : Nat} {c : aF} {m : aM} : ∀ {g f f' : aP}, (∀ t ∈ g, mok (madd t.2 m) → ark k (madd t.2 m) < N) → (∀ t ∈ f, ark k t.2 < N) → aadds k c m g f = some f' → ∀ t ∈ f', ark k t.2 < N
  | [], f, f', _, hf, h => by cases h; exact hf
  | t :: g, f, f', hg, hf, h => by
    by_cases hm : mok (madd t.2 m)
    · rw [aadds_in hm] at h
      split at h
      · cases h
      · rename_i s hs
        split at h
        · cases h
        · rename_i f1 hf1
          exact aadds_lt (fun t ht => hg t (List.mem_cons_of_mem _ ht)) (acome_lt (u := (s, madd t.2 m)) hf (hg t List.mem_cons_self hm) hf1) h
    · rw [aadds_out hm] at h
      cases h
theorem madd_msub {a b : aM} (h : mdvd b a) : madd b (msub a b) = a := by
  obtain ⟨a0, a1, a2, a3⟩ := a
  obtain ⟨b0, b1, b2, b3⟩ := b
  unfold mdvd at h
  unfold madd msub
  dsimp only at h ⊢
  rw [show b0 + (a0 - b0) = a0 by omega, show b1 + (a1 - b1) = a1 by omega, show b2 + (a2 - b2) = a2 by omega, show b3 + (a3 - b3) = a3 by omega]
/-- the greatest of a polynomial leads it -/
theorem pok_head {k : Nat} {t : aT} {l : aP} (h : pok k (t :: l)) : ∀ u ∈ l, ark k u.2 < ark k t.2 := (List.pairwise_cons.mp h.2.1).1
theorem aadds_div {k N : Nat} {c : aF} {t t2 : aT} {l2 f f' : aP} (hb : pok k (t2 :: l2)) (ht : mok t.2) (hd : mdvd t2.2 t.2) (hN : ark k t.2 < N) (hf : ∀ u ∈ f, ark k u.2 < N) (h : aadds k c (msub t.2 t2.2) (t2 :: l2) f = some f') : ∀ u ∈ f', ark k u.2 < N := by
  refine aadds_lt (fun u hu hm => ?_) hf h
  have e := madd_msub hd
  have h1 : ark k u.2 ≤ ark k t2.2 := by
    rcases List.mem_cons.mp hu with rfl | hu
    · exact Nat.le_refl _
    · exact Nat.le_of_lt (pok_head hb u hu)
  have h2 := ark_add (q := msub t.2 t2.2) hm (by rw [e]; exact ht) h1
  rw [e] at h2
  omega
/-- what is kept through a division: the bound of the rest, the quotient of the one left out, what is well made -/
theorem adiv_lt {k N : Nat} {bs : List aP} {lo : Option Nat} (hb : ∀ b ∈ bs, pok k b ∧ b ≠ []) : ∀ (n : Nat) (f r : aP) (qs : List aP), pok k f → (∀ t ∈ f, ark k t.2 < N) → (∀ t ∈ r, ark k t.2 < N) → ∀ t ∈ (adiv k bs lo n f r qs).2.2.1, ark k t.2 < N
  | 0, [], r, qs, _, _, hr => hr
  | 0, _ :: _, r, qs, _, _, hr => hr
  | n + 1, [], r, qs, _, _, hr => hr
  | n + 1, t :: f, r, qs, hk, hf, hr => by
    have htk := hk.1 t List.mem_cons_self
    rw [adiv_step]
    split
    · split
      · exact hr
      · rename_i r' hr'
        exact adiv_lt hb n f r' qs (srt_tail hk) (fun u hu => hf u (List.mem_cons_of_mem _ hu)) (acome_lt hr (hf t List.mem_cons_self) hr')
    · rename_i i hi
      obtain ⟨-, h2, b, h3, h4⟩ := afst_at hi
      rw [Nat.sub_zero] at h3
      rw [show bs.getD i [] = b by rw [List.getD_eq_getElem?_getD, h3]; rfl]
      obtain ⟨k1, k2⟩ := hb b (List.mem_of_getElem? h3)
      cases b with
      | nil => exact absurd rfl k2
      | cons t2 l2 =>
        split
        · exact hr
        · rename_i f' hf'
          split
          · exact hr
          · exact adiv_lt hb n f' r _ (aadds_ok (fneg_ok htk.1) (by have := htk.2.1; dsimp only; omega) k1.1 hk hf') (aadds_div k1 htk.2.2 h4 (hf t List.mem_cons_self) hf hf') hr
theorem adiv_lo {k i : Nat} {bs : List aP} : ∀ (n : Nat) (f r : aP) (qs : List aP), (∀ q, qs[i]? = some q → q = []) → ∀ q, (adiv k bs (some i) n f r qs).2.2.2[i]? = some q → q = []
  | 0, [], r, qs, h => h
  | 0, _ :: _, r, qs, h => h
  | n + 1, [], r, qs, h => h
  | n + 1, t :: f, r, qs, h => by
    rw [adiv_step]
    split
    · split
      · exact h
      · exact adiv_lo n _ _ _ h
    · rename_i j hj
      obtain ⟨-, h2, -⟩ := afst_at hj
      split
      · exact h
      · split
        · exact h
        · refine adiv_lo n _ _ _ fun q hq => h q ?_
          rw [List.getElem?_set, if_neg (fun e => h2 (by rw [e]))] at hq
          exact hq
theorem acome_top {k : Nat} {u : aT} {L : aP} (h : ∀ t ∈ L, ark k t.2 < ark k u.2) : acome k u L = if 100 ≤ L.length then none else some (u :: L) := by
  cases L with
  | nil => rfl
  | cons v l =>
    have hv := h v List.mem_cons_self
    have e : apos k u.2 (v :: l) = 0 := if_neg (by omega)
    unfold acome
    rw [e]
    show (if v.2 = u.2 then _ else _) = _
    rw [if_neg (fun z => by rw [z] at hv; omega)]
    rfl
