/-! the reference: a basis -/
def pwI (W : Nat → Nat → Bool) (j : Nat) : Nat → Nat
  | 0 => 0
  | i + 1 => pwI W j i + (if W i j = true then 1 else 0)
def pwJ (W : Nat → Nat → Bool) : Nat → Nat
  | 0 => 0
  | j + 1 => pwJ W j + pwI W j j
def tri : Nat → Nat
  | 0 => 0
  | n + 1 => tri n + n
theorem tri_le {n : Nat} (h : n ≤ 24) : tri n ≤ 276 := (by decide : ∀ n, n < 25 → tri n ≤ 276) n (by omega)
theorem pwI_off {W : Nat → Nat → Bool} {l r j : Nat} : ∀ (i : Nat), pwI (woff W l r) j i + (if j = r ∧ l < i ∧ W l r = true then 1 else 0) = pwI W j i
  | 0 => by
    rw [if_neg (by omega)]
    rfl
  | i + 1 => by
    have ih := pwI_off (W := W) (l := l) (r := r) (j := j) i
    show pwI (woff W l r) j i + (if woff W l r i j = true then 1 else 0) + _ = pwI W j i + (if W i j = true then 1 else 0)
    have ho : woff W l r i j = if i = l ∧ j = r then false else W i j := rfl
    by_cases hjr : j = r
    · by_cases hil : i = l
      · rw [if_pos ⟨hil, hjr⟩] at ho
        have hw2 : W i j = W l r := by rw [hil, hjr]
        rw [if_neg (by omega)] at ih
        rw [ho, if_neg (by decide), hw2]
        by_cases hw : W l r = true
        · rw [if_pos ⟨hjr, by omega, hw⟩, if_pos hw]
          omega
        · rw [if_neg (fun z => hw z.2.2), if_neg hw]
          omega
      · rw [if_neg (fun z => hil z.1)] at ho
        rw [ho]
        generalize (if W i j = true then 1 else 0) = w
        by_cases hw : l < i ∧ W l r = true
        · rw [if_pos ⟨hjr, by omega, hw.2⟩]
          rw [if_pos ⟨hjr, hw⟩] at ih
          omega
        · rw [if_neg (fun z => hw ⟨by omega, z.2.2⟩)]
          rw [if_neg (fun z => hw z.2)] at ih
          omega
    · rw [if_neg (fun z => hjr z.2)] at ho
      rw [ho]
      generalize (if W i j = true then 1 else 0) = w
      rw [if_neg (fun z => hjr z.1)]
      rw [if_neg (fun z => hjr z.1)] at ih
      omega
theorem pwJ_off {W : Nat → Nat → Bool} {l r : Nat} (hlr : l < r) (hw : W l r = true) : ∀ (n : Nat), pwJ (woff W l r) n + (if r < n then 1 else 0) = pwJ W n
  | 0 => by
    rw [if_neg (by omega)]
    rfl
  | n + 1 => by
    have ih := pwJ_off hlr hw n
    have hi := pwI_off (W := W) (l := l) (r := r) (j := n) n
    show pwJ (woff W l r) n + pwI (woff W l r) n n + _ = pwJ W n + pwI W n n
    by_cases hnr : n = r
    · rw [if_pos ⟨hnr, by omega, hw⟩] at hi
      rw [if_neg (by omega)] at ih
      rw [if_pos (by omega)]
      omega
    · rw [if_neg (fun z => hnr z.1)] at hi
      by_cases c : r < n
      · rw [if_pos c] at ih
        rw [if_pos (by omega)]
        omega
      · rw [if_neg c] at ih
        rw [if_neg (by omega)]
        omega
theorem pwI_on {W : Nat → Nat → Bool} {n j : Nat} (h : j ≠ n) : ∀ (i : Nat), pwI (won W n) j i = pwI W j i
  | 0 => rfl
  | i + 1 => by
    show pwI (won W n) j i + (if won W n i j = true then 1 else 0) = _
    rw [pwI_on h i]
    unfold won
    rw [if_neg h]
    rfl
theorem pwI_on2 {W : Nat → Nat → Bool} {n : Nat} : ∀ (i : Nat), pwI (won W n) n i = i
  | 0 => rfl
  | i + 1 => by
    show pwI (won W n) n i + (if won W n i n = true then 1 else 0) = _
    rw [pwI_on2 i]
    unfold won
    rw [if_pos rfl, if_pos rfl]
theorem pwJ_on1 {W : Nat → Nat → Bool} {n : Nat} : ∀ (m : Nat), m ≤ n → pwJ (won W n) m = pwJ W m
  | 0, _ => rfl
  | m + 1, h => by
    show pwJ (won W n) m + pwI (won W n) m m = _
    rw [pwJ_on1 m (by omega), pwI_on (by omega)]
    rfl
theorem pwJ_on {W : Nat → Nat → Bool} {n : Nat} : pwJ (won W n) (n + 1) = pwJ W n + n := by
  show pwJ (won W n) n + pwI (won W n) n n = _
  rw [pwJ_on1 n (Nat.le_refl _), pwI_on2]
theorem achI_0 {rk : Nat → Nat → Nat} {W : Nat → Nat → Bool} {j : Nat} {b : Option (Nat × Nat × Nat)} : ∀ (i : Nat), pwI W j i = 0 → achI rk W j i b = b
  | 0, _ => rfl
  | i + 1, h => by
    have h : pwI W j i + (if W i j = true then 1 else 0) = 0 := h
    have hw : W i j = false := by
      cases hh : W i j with
      | false => rfl
      | true => rw [hh, if_pos rfl] at h; omega
    show apick (rk i j) i j (W i j) (achI rk W j i b) = b
    rw [hw, achI_0 i (by omega)]
    rfl
theorem achJ_0 {rk : Nat → Nat → Nat} {W : Nat → Nat → Bool} : ∀ (n : Nat), pwJ W n = 0 → achJ rk W n = none
  | 0, _ => rfl
  | n + 1, h => by
    have h : pwJ W n + pwI W n n = 0 := h
    show achI rk W n n (achJ rk W n) = none
    rw [achI_0 n (by omega), achJ_0 n (by omega)]
def pwW (W : Nat → Nat → Bool) (b : Option (Nat × Nat × Nat)) : Prop := ∀ x, b = some x → W x.2.1 x.2.2 = true
theorem apick_W {W : Nat → Nat → Bool} {rk i j : Nat} {b : Option (Nat × Nat × Nat)} (hb : pwW W b) : pwW W (apick rk i j (W i j) b) := by
  intro x hx
  cases hw : W i j with
  | false => rw [hw] at hx; exact hb x hx
  | true =>
    rw [hw] at hx
    cases b with
    | none =>
      have hx : some (rk, i, j) = some x := hx
      cases hx
      exact hw
    | some y =>
      have hx : (if rk < y.1 then some (rk, i, j) else some y) = some x := hx
      split at hx
      · cases hx
        exact hw
      · exact hb x hx
theorem achI_W {rk : Nat → Nat → Nat} {W : Nat → Nat → Bool} {j : Nat} {b : Option (Nat × Nat × Nat)} (hb : pwW W b) : ∀ (i : Nat), pwW W (achI rk W j i b)
  | 0 => hb
  | i + 1 => apick_W (achI_W hb i)
theorem achJ_W {rk : Nat → Nat → Nat} {W : Nat → Nat → Bool} : ∀ (n : Nat), pwW W (achJ rk W n)
  | 0 => fun x hx => by cases hx
  | n + 1 => achI_W (achJ_W n) n
theorem achoose_W {k : Nat} {es : List aE} {W : Nat → Nat → Bool} {x : Nat × Nat × Nat} (h : achoose k es W = some x) : W x.2.1 x.2.2 = true := achJ_W es.length x h
theorem ared_len {k sh n i : Nat} {es : List aE} : (ared k sh es n i).2.1.length = es.length := by
  unfold ared
  split
  · split
    · rfl
    · split
      · rfl
      · exact List.length_set
  · rfl
/-- of a settled pair: what waits and what was taken -/
theorem asettle_cw {k sh n l r : Nat} {es : List aE} {W : Nat → Nat → Bool} (hlr : l < r) (hr : r < es.length) (hw : W l r = true) : pwJ (asettle k sh es W n l r).2.2.1 (asettle k sh es W n l r).2.1.length + 1 + tri es.length = pwJ W es.length + tri (asettle k sh es W n l r).2.1.length ∧ (asettle k sh es W n l r).2.2.2.2 ≤ 1 := by
  have hc := pwJ_off hlr hw es.length
  rw [if_pos hr] at hc
  have base : ∀ (c n' p : Nat), p ≤ 1 → pwJ ((c, es, woff W l r, n', p) : Nat × List aE × (Nat → Nat → Bool) × Nat × Nat).2.2.1 ((c, es, woff W l r, n', p) : Nat × List aE × (Nat → Nat → Bool) × Nat × Nat).2.1.length + 1 + tri es.length = pwJ W es.length + tri ((c, es, woff W l r, n', p) : Nat × List aE × (Nat → Nat → Bool) × Nat × Nat).2.1.length ∧ ((c, es, woff W l r, n', p) : Nat × List aE × (Nat → Nat → Bool) × Nat × Nat).2.2.2.2 ≤ 1 := fun c n' p hp => ⟨by dsimp only; omega, hp⟩
  rw [asettle_eq]
  split
  · exact base _ _ _ (by omega)
  · unfold aset1
    split
    · exact base _ _ _ (by omega)
    · split
      · exact base _ _ _ (by omega)
      · unfold aset2
        split
        · split
          · exact base _ _ _ (by omega)
          · split
            · exact base _ _ _ (by omega)
            · rename_i E _
              refine ⟨?_, by dsimp only; omega⟩
              dsimp only
              rw [List.length_append, show es.length + [E].length = es.length + 1 from rfl, pwJ_on]
              show _ = _ + (tri es.length + es.length)
              omega
        · exact base _ _ _ (by omega)
def FM (j : Nat) : Prop := FP j ∨ j = 19 ∨ j = 21 ∨ j = 22 ∨ j = 26
def GM (a : Nat) : Prop := a = 1536 ∨ a = 1537
theorem rfr_id {M : zM} {j : Nat} {v : Int32} (h : v = zI M 1529 j) : rfr TN FN GN M (zuI M 1529 j v) := by
  have e : ∀ a i, zI (zuI M 1529 j v) a i = zI M a i := fun a i => by
    rw [zI_uI]
    by_cases c : a = 1529 ∧ i = j
    · rw [if_pos c, h, c.1, c.2]
    · rw [if_neg c]
  exact ⟨fun _ => rfl, rfl, rfl, fun _ _ => rfl, fun _ _ => rfl, fun a i _ => e a i, fun i _ => e _ i, fun x _ => ⟨e _ x, e _ x, e _ x⟩, fun p _ => e _ p⟩
theorem vin_one {nv : Nat} : vin nv mone := ⟨fun _ => rfl, fun _ => rfl, fun _ => rfl, fun _ => rfl⟩
theorem aunit_gd {nv k sh g : Nat} : ∀ c ∈ aunit sh g, pgd nv k c := fun c hc => ⟨aunit_ok c hc, by
  obtain ⟨i, hi⟩ := List.getElem?_of_mem hc
  obtain ⟨-, e⟩ := aunit_at hi
  rw [e]
  split
  · exact ⟨fun t ht => by rw [List.mem_singleton.mp ht]; exact vin_one, fun t ht => by rw [List.mem_singleton.mp ht]; decide⟩
  · exact ⟨pvn_nil, pcp_nil⟩⟩
theorem aunit_getD {sh g i : Nat} (h : i < sh) : (aunit sh g).getD i [] = if i = g then [((1, 1), mone)] else [] := by
  have hl : i < (aunit sh g).length := by rw [aunit_len]; exact h
  rw [List.getD_eq_getElem?_getD]
  have hu := List.getElem?_eq_getElem hl
  rw [hu]
  exact (aunit_at hu).2
/-- no leading monomial divides another -/
def ndv (es : List aE) : Prop := ∀ (i j : Nat) (A B : aE), es[i]? = some A → es[j]? = some B → i ≠ j → ¬ mdvd (lmon A.1) (lmon B.1)
theorem ald_at {es : List aE} {i : Nat} {A : aE} (h : es[i]? = some A) : ald es i = lmon A.1 := by
  unfold ald
  rw [List.getD_eq_getElem?_getD, h]
  rfl
theorem ndv_app {L : List aE} {e : aE} (h : ndv L) (h1 : ∀ E ∈ L, ¬ mdvd (lmon E.1) (lmon e.1) ∧ ¬ mdvd (lmon e.1) (lmon E.1)) : ndv (L ++ [e]) := fun i j A B hA hB hij => by
  have key : ∀ (x : Nat) (C : aE), (L ++ [e])[x]? = some C → (x < L.length ∧ L[x]? = some C) ∨ (x = L.length ∧ C = e) := fun x C hC => by
    by_cases hx : x < L.length
    · rw [List.getElem?_append_left hx] at hC
      exact Or.inl ⟨hx, hC⟩
    · rw [List.getElem?_append_right (by omega)] at hC
      have := (List.getElem?_eq_some_iff.mp hC).1
      have hx0 : x - L.length = 0 := by
        simp at this
        omega
      rw [hx0] at hC
      cases hC
      exact Or.inr ⟨by omega, rfl⟩
  rcases key i A hA with ⟨a1, a2⟩ | ⟨a1, a2⟩
  · rcases key j B hB with ⟨b1, b2⟩ | ⟨b1, b2⟩
    · exact h i j A B a2 b2 hij
    · rw [b2]; exact (h1 A (List.mem_of_getElem? a2)).1
  · rcases key j B hB with ⟨b1, b2⟩ | ⟨b1, b2⟩
    · rw [a2]; exact (h1 B (List.mem_of_getElem? b2)).2
    · omega
theorem ndv_ins {L : List aE} {e : aE} {p : Nat} (hp : p ≤ L.length) (h : ndv L) (h1 : ∀ E ∈ L, ¬ mdvd (lmon E.1) (lmon e.1) ∧ ¬ mdvd (lmon e.1) (lmon E.1)) : ndv (L.insertIdx p e) := fun i j A B hA hB hij => by
  have key : ∀ (x : Nat) (C : aE), (L.insertIdx p e)[x]? = some C → (x < p ∧ L[x]? = some C) ∨ (x = p ∧ C = e) ∨ (p < x ∧ L[x - 1]? = some C) := fun x C hC => by
    rw [List.getElem?_insertIdx] at hC
    by_cases c1 : x < p
    · rw [if_pos c1] at hC
      exact Or.inl ⟨c1, hC⟩
    · rw [if_neg c1] at hC
      by_cases c2 : x = p
      · rw [if_pos c2, if_pos (by omega)] at hC
        cases hC
        exact Or.inr (Or.inl ⟨c2, rfl⟩)
      · rw [if_neg c2] at hC
        exact Or.inr (Or.inr ⟨by omega, hC⟩)
  rcases key i A hA with ⟨a1, a2⟩ | ⟨a1, a2⟩ | ⟨a1, a2⟩
  · rcases key j B hB with ⟨b1, b2⟩ | ⟨b1, b2⟩ | ⟨b1, b2⟩
    · exact h i j A B a2 b2 hij
    · rw [b2]; exact (h1 A (List.mem_of_getElem? a2)).1
    · exact h i (j - 1) A B a2 b2 (by omega)
  · rcases key j B hB with ⟨b1, b2⟩ | ⟨b1, b2⟩ | ⟨b1, b2⟩
    · rw [a2]; exact (h1 B (List.mem_of_getElem? b2)).2
    · omega
    · rw [a2]; exact (h1 B (List.mem_of_getElem? b2)).2
  · rcases key j B hB with ⟨b1, b2⟩ | ⟨b1, b2⟩ | ⟨b1, b2⟩
    · exact h (i - 1) j A B a2 b2 (by omega)
    · rw [b2]; exact (h1 A (List.mem_of_getElem? a2)).1
    · exact h (i - 1) (j - 1) A B a2 b2 (by omega)
theorem ndv_clean {es : List aE} : ∀ (i : Nat), i ≤ es.length → ndv (aclean es i)
  | 0, _ => fun i j A B hA _ _ => by cases hA
  | i + 1, hi => by
    rw [aclean_s]
    split
    · exact ndv_clean i (by omega)
    · rename_i hg
      refine ndv_app (ndv_clean i (by omega)) fun E hE => ?_
      obtain ⟨j, hj, hgj, hjE⟩ := aclean_mem.mp hE
      rw [← hjE]
      have c1 : ¬ mdvd (ald es j) (ald es i) := fun z => hg (agoes_iff.mpr ⟨j, by omega, by omega, z, Or.inr hj⟩)
      refine ⟨c1, fun z => ?_⟩
      have z : mdvd (ald es i) (ald es j) := z
      have hne : ald es i ≠ ald es j := fun y => c1 (by rw [y]; exact mdvd_rf)
      have : agoes es j = true := agoes_iff.mpr ⟨i, by omega, by omega, z, Or.inl hne⟩
      rw [this] at hgj
      cases hgj
theorem aesrt_at {k : Nat} {C : List aE} : ∀ (i : Nat), ∀ E ∈ aesrt k C i, ∃ j, j < i ∧ C.getD j aE0 = E
  | 0, E, hE => absurd hE List.not_mem_nil
  | i + 1, E, hE => by
    rw [aesrt_s] at hE
    rcases (List.mem_insertIdx (by rw [aesrt_len]; exact aescan_le)).mp hE with rfl | hE
    · exact ⟨i, by omega, rfl⟩
    · obtain ⟨j, hj, hjE⟩ := aesrt_at i E hE
      exact ⟨j, by omega, hjE⟩
theorem ndv_srt {k : Nat} {C : List aE} (hC : ndv C) : ∀ (i : Nat), i ≤ C.length → ndv (aesrt k C i)
  | 0, _ => fun i j A B hA _ _ => by cases hA
  | i + 1, hi => by
    rw [aesrt_s]
    refine ndv_ins (by rw [aesrt_len]; exact aescan_le) (ndv_srt hC i (by omega)) fun E hE => ?_
    obtain ⟨j, hj, hjE⟩ := aesrt_at i E hE
    have key : ∀ x, x < C.length → C[x]? = some (C.getD x aE0) := fun x hx => by
      rw [List.getD_eq_getElem?_getD, List.getElem?_eq_getElem hx]
      rfl
    rw [← hjE]
    exact ⟨hC j i _ _ (key j (by omega)) (key i (by omega)) (by omega), hC i j _ _ (key i (by omega)) (key j (by omega)) (by omega)⟩
theorem ndv_csort {k : Nat} {es : List aE} : ndv (acsort k es) := ndv_srt (ndv_clean es.length (Nat.le_refl _)) _ (Nat.le_refl _)
theorem ndv_same {L C : List aE} (hC : ndv C) (hl : L.length = C.length) (h : ∀ j, ald L j = ald C j) : ndv L := fun i j A B hA hB hij => by
  have hi := (List.getElem?_eq_some_iff.mp hA).1
  have hj := (List.getElem?_eq_some_iff.mp hB).1
  rw [← ald_at hA, ← ald_at hB, h i, h j, ald_at (List.getElem?_eq_getElem (show i < C.length by omega)), ald_at (List.getElem?_eq_getElem (show j < C.length by omega))]
  exact hC i j _ _ (List.getElem?_eq_getElem (by omega)) (List.getElem?_eq_getElem (by omega)) hij
theorem sp_rmake {d fo sh nv k lim : Nat} {M : zM} {gens : List aP} {ws : Bool} {P : zM → Prop} (hd : 8 ≤ d) (hM : mst M) (hv : mvk M nv k) (hf3 : 50 ≤ fo ∧ fo + 25 ≤ 100) (hws : (ws = true ∧ zI M 1529 7 = nI sh) ∨ (ws = false ∧ sh = 0)) (hs8 : sh ≤ 8) (hgl : gens.length ≤ 9) (hgq : ∀ g, g < gens.length → qdy M (40 + g) (gens.getD g [])) (hgg : ∀ L ∈ gens, pgd nv k L) (h13 : zI M 1529 13 = 0) (h14 : zI M 1529 14 = nI lim) (hlim : lim ≤ 20000) (hz : zI M 1529 11 = 0) (hs : zI M 1529 12 = 0)
    (h : ∀ M', rfr (TM fo sh) FM GM M M' → zI M' 1529 13 = nI (lim - (abuild k sh lim gens).2.2.1) → zI M' 1529 24 = nI (abuild k sh lim gens).2.2.2.1 → zI M' 1529 25 = nI (abuild k sh lim gens).2.2.2.2.1 → zI M' 1529 26 = nI (abuild k sh lim gens).2.2.2.2.2 → rfl3 M' (abuild k sh lim gens).1 → ((abuild k sh lim gens).1 = 0 → zI M' 1529 20 = nI (abuild k sh lim gens).2.1.length ∧ (abuild k sh lim gens).2.1.length ≤ 24 ∧ rel M' fo sh (abuild k sh lim gens).2.1 ∧ egd nv k sh (abuild k sh lim gens).2.1 ∧ ndv (abuild k sh lim gens).2.1) → P M') : ycV d nX8_make [.ref 1529, .int (nI fo), .int (nI gens.length), .int (rbI ws)] M P := by
  obtain ⟨d, rfl, he⟩ := dS hd
  have hf2 : 40 ≤ fo ∧ fo + 25 ≤ 100 := by omega
  have hB : abuild k sh lim gens = ((abld2 k sh (abld1 k sh lim (aadopt sh gens gens.length))).1, (abld2 k sh (abld1 k sh lim (aadopt sh gens gens.length))).2.1, (abld2 k sh (abld1 k sh lim (aadopt sh gens gens.length))).2.2, (abld1 k sh lim (aadopt sh gens gens.length)).2.2.2.2.1, (abld1 k sh lim (aadopt sh gens gens.length)).2.2.2.2.2, (abld1 k sh lim (aadopt sh gens gens.length)).2.1.length) := rfl
  rw [hB] at h
  dsimp only at h
  have hX : abld1 k sh lim (aadopt sh gens gens.length) = if (aadopt sh gens gens.length).1 = 0 then apairs k sh 276 ((aadopt sh gens gens.length).2.1, (aadopt sh gens gens.length).2.2, lim, 0, 0) else ((aadopt sh gens gens.length).1, (aadopt sh gens gens.length).2.1, (aadopt sh gens gens.length).2.2, lim, 0, 0) := rfl
  have hY : abld2 k sh (abld1 k sh lim (aadopt sh gens gens.length)) = if (abld1 k sh lim (aadopt sh gens gens.length)).1 = 0 then areds k sh (acsort k (abld1 k sh lim (aadopt sh gens gens.length)).2.1) (abld1 k sh lim (aadopt sh gens gens.length)).2.2.2.1 (acsort k (abld1 k sh lim (aadopt sh gens gens.length)).2.1).length else ((abld1 k sh lim (aadopt sh gens gens.length)).1, (abld1 k sh lim (aadopt sh gens gens.length)).2.1, (abld1 k sh lim (aadopt sh gens gens.length)).2.2.2.1) := rfl
  generalize abld1 k sh lim (aadopt sh gens gens.length) = X at h hX hY
  generalize abld2 k sh X = Y at h hY
  -- at the end
  have out : ∀ (a4 : Int32) (M' : zM) (o1 o2 o3 o5 : Option Value), mst M' → (zI M' 1529 11 = 1 ∨ zI M' 1529 12 = 1) → P M' → wX8_make d (fun r M2 => r = [] ∧ P M2) 136 [some (.ref 1529), o1, o2, o3, some (.int a4), o5] [] M' := fun a4 M' o1 o2 o3 o5 hM' hfl hP => sg_X8_make_136 _ _ _ _ _ _ _ ⟨hM'.1, fun _ => ⟨rfl, hP⟩, fun _ => ⟨hM'.1, fun _ => ⟨rfl, hP⟩, fun z => ⟨hM'.1, fun _ => ⟨rfl, hP⟩, fun z2 => absurd (hfl.elim (fun y => by rw [y] at z; exact absurd (by decide) z) (fun y => by rw [y] at z2; exact absurd (by decide) z2)) (fun z : False => z)⟩⟩⟩
  -- reduced one after the other
  have s136 : ∀ (C : List aE) (n0 : Nat) (Mc : zM), mst Mc → mvk Mc nv k → (∀ M', rfr (TM fo sh) FR GN Mc M' → zI M' 1529 13 = nI (lim - (areds k sh C n0 C.length).2.2) → rfl3 M' (areds k sh C n0 C.length).1 → ((areds k sh C n0 C.length).1 = 0 → rwk2 M' fo sh nv k lim (areds k sh C n0 C.length).2.1 (areds k sh C n0 C.length).2.2 ∧ (areds k sh C n0 C.length).2.1.length = C.length ∧ ∀ j, ald (areds k sh C n0 C.length).2.1 j = ald C j) → P M') → ∀ (a i : Nat) (M' : zM) (o1 o2 o3 o5 : Option Value), i + a = C.length → rfr (TM fo sh) FR GN Mc M' → zI M' 1529 11 = 0 → zI M' 1529 12 = 0 → (areds k sh C n0 i).1 = 0 → (areds k sh C n0 i).2.1.length = C.length → rwk2 M' fo sh nv k lim (areds k sh C n0 i).2.1 (areds k sh C n0 i).2.2 → (∀ j, ald (areds k sh C n0 i).2.1 j = ald C j) → wX8_make d (fun r M2 => r = [] ∧ P M2) 136 [some (.ref 1529), o1, o2, o3, some (.int (nI i)), o5] [] M' := by
    intro C n0 Mc hMc hvc hK a
    induction a with
    | zero =>
      intro i M' o1 o2 o3 o5 hi hfr z11 z12 hc hlen hw hld
      have hM' := mst_fr hfr hMc
      rw [show i = C.length by omega] at hc hw hlen hld ⊢
      exact sg_X8_make_136 _ _ _ _ _ _ _ ⟨hM'.1, fun _ => ⟨rfl, hK M' hfr hw.2.1.1 (Or.inl ⟨hc, z11, z12⟩) fun _ => ⟨hw, hlen, hld⟩⟩, fun z => absurd (by rw [hw.1.2.1, hlen]; exact Int32.le_refl _) z⟩
    | succ a ih =>
      intro i M' o1 o2 o3 o5 hi hfr z11 z12 hc hlen hw hld
      have hM' := mst_fr hfr hMc
      have hv' := mvk_fr hfr (by unfold FR FD FF; omega) (by unfold FR FD FF; omega) hvc
      have hss := areds_s (k := k) (sh := sh) (n := n0) (i := i) (es := C)
      rw [if_pos hc] at hss
      have hl24 := hw.2.2.1
      refine sg_X8_make_136 _ _ _ _ _ _ _ ⟨hM'.1, fun z => ?_, fun _ => ⟨hM'.1, fun z => absurd z11 z, fun _ => ⟨hM'.1, fun z => absurd z12 z, fun _ => ⟨hM'.1, ?_⟩⟩⟩⟩
      · rw [hw.1.2.1] at z
        have := (nI_leI (by omega) (by omega)).mp z
        omega
      · refine sp_rreduce (by omega) hM' hv' hf2 hw (by omega) z11 z12 fun M1 hfr1 h13' hle hfl hok => ?_
        rw [← hss] at h13' hle hfl hok
        have hl1 : (areds k sh C n0 (i + 1)).2.1.length = C.length := by rw [hss, ared_len]; exact hlen
        have hfa := rfr_tr hfr hfr1
        have hM1 := mst_fr hfa hMc
        intro v4
        rw [show v4 = nI (i + 1) from nI_1 i]
        rcases hfl with ⟨c, y11, y12⟩ | ⟨c, y11, y12⟩ | ⟨c, y11, y12⟩
        · exact ih (i + 1) M1 _ _ _ _ (by omega) hfa y11 y12 c hl1 (hok c).1 (fun j => by rw [(hok c).2 j]; exact hld j)
        · have hno := areds_no (k := k) (sh := sh) (n := n0) (i := i + 1) (es := C) (by omega) (m := C.length) (by omega)
          rw [hno] at hK
          exact out _ M1 _ _ _ _ hM1 (Or.inr y12) (hK M1 hfa h13' (Or.inr (Or.inl ⟨c, y11, y12⟩)) fun z => by omega)
        · have hno := areds_no (k := k) (sh := sh) (n := n0) (i := i + 1) (es := C) (by omega) (m := C.length) (by omega)
          rw [hno] at hK
          exact out _ M1 _ _ _ _ hM1 (Or.inl y11) (hK M1 hfa h13' (Or.inr (Or.inr ⟨c, y11, y12⟩)) fun z => by omega)
  -- cleaned
  have s122 : ∀ (M' : zM) (o1 o2 o3 o4 o5 : Option Value), rfr (TM fo sh) FM GM M M' → rwk M' fo sh nv k lim X.2.1 X.2.2.1 X.2.2.2.1 X.2.2.2.2.1 X.2.2.2.2.2 → rfl3 M' X.1 → wX8_make d (fun r M2 => r = [] ∧ P M2) 122 [some (.ref 1529), o1, o2, o3, o4, o5] [] M' := fun M' o1 o2 o3 o4 o5 hfr hw hfl => by
    obtain ⟨⟨w19, w20, w21, wsh⟩, ⟨w13, w14, wn, wl⟩, ⟨wlen, wr, wg, ww⟩, w24, w25⟩ := id hw
    have hM' := mst_fr hfr hM
    have hv' := mvk_fr hfr (by unfold FM FP FD FF; omega) (by unfold FM FP FD FF; omega) hv
    refine sg_X8_make_122 _ _ _ _ _ _ _ ⟨hM'.1, hM'.1, ?_⟩
    intro M1
    have m1 : M1 = zuI M' 1529 26 (nI X.2.1.length) := by rw [show M1 = zuI M' 1529 26 (zI M' 1529 20) from rfl, w20]
    clear_value M1
    have hfr1 : rfr TN (fun j => j = 26) GN M' M1 := by rw [m1]; exact rfr_F rfl
    have hfr1' : rfr (TM fo sh) FM GM M' M1 := rfr_up hfr1 (fun _ z => z.elim) (fun j z => by unfold FM; omega) (fun _ z => z.elim)
    have hfa1 := rfr_tr hfr hfr1'
    have hM1 := mst_fr hfa1 hM
    have hv1 := mvk_fr hfr1 (by omega) (by omega) hv'
    have F1 : ∀ j, j ≠ 26 → zI M1 1529 j = zI M' 1529 j := fun j hj => hfr1.2.2.2.2.2.2.1 j hj
    have h26 : zI M1 1529 26 = nI X.2.1.length := by rw [m1, zI_uI, if_pos ⟨rfl, rfl⟩]
    have bad : X.1 ≠ 0 → rfl3 M1 X.1 → P M1 := fun hc hfl1 => by
      rw [if_neg hc] at hY
      rw [hY] at h
      exact h M1 hfa1 (by rw [F1 _ (by omega)]; exact w13) (by rw [F1 _ (by omega)]; exact w24) (by rw [F1 _ (by omega)]; exact w25) h26 hfl1 fun z => absurd z hc
    refine ⟨hM'.1, ?_⟩
    rw [F1 11 (by omega), F1 12 (by omega)]
    rcases hfl with ⟨c, y11, y12⟩ | ⟨c, y11, y12⟩ | ⟨c, y11, y12⟩
    · refine ⟨fun z => absurd y11 z, fun _ => ⟨hM'.1, fun z => absurd y12 z, fun _ => ⟨hM'.1, ?_⟩⟩⟩
      rw [if_pos c] at hY
      have wr1 : rel M1 fo sh X.2.1 := rel_fr hfr1 (fun i hi => ⟨fun z => z, fun _ _ z => z⟩) wg wr
      refine sp_rclean (by omega) hM1 hv1 (by rw [F1 _ (by omega)]; exact w19) hf2 (by rw [F1 _ (by omega)]; exact w20) (rsh_fr hfr1 (by omega) (by omega) wsh) wlen wr1 wg fun M2 hfr2 h20 hr2 => ?_
      have hfa2 : rfr (TM fo sh) FM GM M M2 := rfr_tr hfa1 (rfr_up hfr2 (fun _ z => z) (fun j z => Or.inl (Or.inr (Or.inl z))) (fun _ z => Or.inr z))
      have hM2 := mst_fr hfa2 hM
      have hv2 := mvk_fr hfr2 (by omega) (by omega) hv1
      have F2 : ∀ j, j ≠ 20 → zI M2 1529 j = zI M1 1529 j := fun j hj => hfr2.2.2.2.2.2.2.1 j hj
      have hCe : ∀ E ∈ acsort k X.2.1, E ∈ X.2.1 := fun E hE => by
        have hE := aesrt_mem (Nat.le_refl _) E hE
        obtain ⟨j, hj, -, hjE⟩ := aclean_mem.mp hE
        rw [← hjE, List.getD_eq_getElem?_getD, List.getElem?_eq_getElem hj]
        exact List.getElem_mem hj
      have hCg : egd nv k sh (acsort k X.2.1) := fun E hE => wg E (hCe E hE)
      have hCl : (acsort k X.2.1).length ≤ 24 := by
        have h1 := aclean_len (es := X.2.1) (i := X.2.1.length)
        have h2 : (acsort k X.2.1).length = (aclean X.2.1 X.2.1.length).length := aesrt_len
        omega
      refine sg_X8_make_134 _ _ _ _ _ _ _ ?_
      refine s136 (acsort k X.2.1) X.2.2.2.1 M2 hM2 hv2 (fun M3 hfr3 h13' hfl3 hok => ?_) (acsort k X.2.1).length 0 M2 _ _ _ _ (by omega) rfr_rf (by rw [F2 _ (by omega), F1 _ (by omega)]; exact y11) (by rw [F2 _ (by omega), F1 _ (by omega)]; exact y12) rfl rfl ⟨⟨by rw [F2 _ (by omega), F1 _ (by omega)]; exact w19, h20, by rw [F2 _ (by omega), F1 _ (by omega)]; exact w21, rsh_fr hfr2 (by omega) (by omega) (rsh_fr hfr1 (by omega) (by omega) wsh)⟩, ⟨by rw [F2 _ (by omega), F1 _ (by omega)]; exact w13, by rw [F2 _ (by omega), F1 _ (by omega)]; exact w14, wn, wl⟩, hCl, hr2, hCg⟩ (fun j => rfl)
      rw [← hY] at h13' hfl3 hok
      have F3 : ∀ j, ¬ FR j → zI M3 1529 j = zI M2 1529 j := fun j hj => hfr3.2.2.2.2.2.2.1 j hj
      have hfa3 : rfr (TM fo sh) FM GM M M3 := rfr_tr hfa2 (rfr_up hfr3 (fun _ z => z) (fun j z => z.elim (fun y => Or.inl (Or.inl y)) (fun y => Or.inr (Or.inr (Or.inl y)))) (fun _ z => z.elim))
      exact h M3 hfa3 h13' (by rw [F3 _ (by unfold FR FD FF; omega), F2 _ (by omega), F1 _ (by omega)]; exact w24) (by rw [F3 _ (by unfold FR FD FF; omega), F2 _ (by omega), F1 _ (by omega)]; exact w25) (by rw [F3 _ (by unfold FR FD FF; omega), F2 _ (by omega)]; exact h26) hfl3 fun z => ⟨(hok z).1.1.2.1, (hok z).1.2.2.1, (hok z).1.2.2.2.1, (hok z).1.2.2.2.2, ndv_same ndv_csort (hok z).2.1 (hok z).2.2⟩
    · refine ⟨fun z => absurd y11 z, fun _ => ⟨hM'.1, fun _ => sg_X8_make_134 _ _ _ _ _ _ _ (out _ M1 _ _ _ _ hM1 (Or.inr (by rw [F1 _ (by omega)]; exact y12)) (bad (by omega) (Or.inr (Or.inl ⟨c, by rw [F1 _ (by omega)]; exact y11, by rw [F1 _ (by omega)]; exact y12⟩)))), fun z => absurd (Classical.not_not.mp z) (by rw [y12]; decide)⟩⟩
    · refine ⟨fun _ => sg_X8_make_134 _ _ _ _ _ _ _ (out _ M1 _ _ _ _ hM1 (Or.inl (by rw [F1 _ (by omega)]; exact y11)) (bad (by omega) (Or.inr (Or.inr ⟨c, by rw [F1 _ (by omega)]; exact y11, by rw [F1 _ (by omega)]; exact y12⟩)))), fun z => absurd (Classical.not_not.mp z) (by rw [y11]; decide)⟩
  have out106 : ∀ (M' : zM) (o1 o2 o3 o4 o5 : Option Value), rfr (TM fo sh) FM GM M M' → rwk M' fo sh nv k lim X.2.1 X.2.2.1 X.2.2.2.1 X.2.2.2.2.1 X.2.2.2.2.2 → rfl3 M' X.1 → X.1 ≠ 0 → wX8_make d (fun r M2 => r = [] ∧ P M2) 106 [some (.ref 1529), o1, o2, o3, o4, o5] [] M' := fun M' o1 o2 o3 o4 o5 hfr hw hfl hc => by
    have hM' := mst_fr hfr hM
    have e := s122 M' o1 o2 o3 o4 o5 hfr hw hfl
    rcases hfl with ⟨c, y11, y12⟩ | ⟨c, y11, y12⟩ | ⟨c, y11, y12⟩
    · exact absurd c hc
    · exact sg_X8_make_106 _ _ _ _ _ _ _ ⟨hM'.1, fun z => absurd y11 z, fun _ => ⟨hM'.1, fun _ => e, fun z => absurd (Classical.not_not.mp z) (by rw [y12]; decide)⟩⟩
    · exact sg_X8_make_106 _ _ _ _ _ _ _ ⟨hM'.1, fun _ => e, fun z => absurd (Classical.not_not.mp z) (by rw [y11]; decide)⟩
  -- pair by pair
  have s106 : ∀ (f : Nat) (s : aS) (M' : zM) (o1 o2 o3 o4 o5 : Option Value), apairs k sh f s = X → f + s.2.2.2.1 = 276 → s.2.2.2.1 + pwJ s.2.1 s.1.length ≤ tri s.1.length → s.2.2.2.2 ≤ s.2.2.2.1 → rfr (TM fo sh) FM GM M M' → rwk M' fo sh nv k lim s.1 s.2.1 s.2.2.1 s.2.2.2.1 s.2.2.2.2 → zI M' 1529 11 = 0 → zI M' 1529 12 = 0 → wX8_make d (fun r M2 => r = [] ∧ P M2) 106 [some (.ref 1529), o1, o2, o3, o4, o5] [] M' := by
    intro f
    induction f with
    | zero =>
      intro s M' o1 o2 o3 o4 o5 hX' hf hcw hpp hfr hw z11 z12
      have hM' := mst_fr hfr hM
      have hv' := mvk_fr hfr (by unfold FM FP FD FF; omega) (by unfold FM FP FD FF; omega) hv
      have htr := tri_le hw.2.2.1.1
      have hno : achoose k s.1 s.2.1 = none := achJ_0 _ (by omega)
      have hX' : (0, s) = X := hX'
      refine sg_X8_make_106 _ _ _ _ _ _ _ ⟨hM'.1, fun z => absurd z11 z, fun _ => ⟨hM'.1, fun z => absurd z12 z, fun _ => ⟨hM'.1, ?_⟩⟩⟩
      refine sp_ronePair (by omega) hM' hv' hf2 hw (by omega) (by omega) z11 z12 (fun _ => ⟨fun _ => ?_, fun z => absurd rfl z⟩) (fun x M2 hx => by rw [hno] at hx; cases hx)
      exact s122 M' _ _ _ _ _ hfr (by rw [← hX']; exact hw) (Or.inl ⟨by rw [← hX'], z11, z12⟩)
    | succ f ih =>
      intro s M' o1 o2 o3 o4 o5 hX' hf hcw hpp hfr hw z11 z12
      have hM' := mst_fr hfr hM
      have hv' := mvk_fr hfr (by unfold FM FP FD FF; omega) (by unfold FM FP FD FF; omega) hv
      rw [apairs_s] at hX'
      refine sg_X8_make_106 _ _ _ _ _ _ _ ⟨hM'.1, fun z => absurd z11 z, fun _ => ⟨hM'.1, fun z => absurd z12 z, fun _ => ⟨hM'.1, ?_⟩⟩⟩
      refine sp_ronePair (by omega) hM' hv' hf2 hw (by omega) (by omega) z11 z12 (fun hno => ⟨fun _ => ?_, fun z => absurd rfl z⟩) (fun x M1 hx hx1 hx2 hfr1 hw1 hfl1 => ⟨fun z => absurd z (by decide), fun _ => ?_⟩)
      · rw [hno] at hX'
        have hX' : (0, s) = X := hX'
        exact s122 M' _ _ _ _ _ hfr (by rw [← hX']; exact hw) (Or.inl ⟨by rw [← hX'], z11, z12⟩)
      · rw [hx] at hX'
        dsimp only at hX'
        obtain ⟨cw1, cp1⟩ := asettle_cw (k := k) (sh := sh) (n := s.2.2.1) hx1 hx2 (achoose_W hx)
        have hfa1 : rfr (TM fo sh) FM GM M M1 := rfr_tr hfr (rfr_up hfr1 (fun x z => TP_TM (by have := hw.2.2.1.1; omega) hs8 z) (fun _ z => Or.inl z) (fun _ z => Or.inl z))
        have hM1 := mst_fr hfa1 hM
        refine ⟨hM1.1, hM1.1, ?_⟩
        intro M2
        have hfr2 : rfr TN FN GN M1 M2 := rfr_id (Int32.add_zero _)
        clear_value M2
        have F2 : ∀ j, zI M2 1529 j = zI M1 1529 j := fun j => hfr2.2.2.2.2.2.2.1 j (fun z => z)
        have hfa2 : rfr (TM fo sh) FM GM M M2 := rfr_tr hfa1 (rfr_up hfr2 (fun _ z => z.elim) (fun _ z => z.elim) (fun _ z => z.elim))
        have hw2 := rwk_fr hfr2 (fun i _ => ⟨fun z => z, fun _ _ z => z⟩) (fun _ z => z.elim) (fun z => z) (by rw [F2]; exact hw1.2.1.1) hw1.2.1.2.2.1 hw1
        have hfl2 : rfl3 M2 (asettle k sh s.1 s.2.1 s.2.2.1 x.2.1 x.2.2).1 := by
          unfold rfl3 at hfl1 ⊢
          rw [F2, F2]
          exact hfl1
        by_cases hc : (asettle k sh s.1 s.2.1 s.2.2.1 x.2.1 x.2.2).1 = 0
        · rw [if_pos hc] at hX'
          have hfl0 : zI M2 1529 11 = 0 ∧ zI M2 1529 12 = 0 := by
            rcases hfl2 with ⟨-, y⟩ | ⟨y, -⟩ | ⟨y, -⟩
            · exact y
            · omega
            · omega
          refine ih _ M2 _ _ _ _ _ hX' (by dsimp only; omega) (by dsimp only; omega) (by dsimp only; omega) hfa2 hw2 hfl0.1 hfl0.2
        · rw [if_neg hc] at hX'
          exact out106 M2 _ _ _ _ _ hfa2 (by rw [← hX']; exact hw2) (by rw [← hX']; exact hfl2) (by rw [← hX']; exact hc)
  have hgi : ∀ g, pgd nv k (gens.getD g []) := fun g => by
    rw [List.getD_eq_getElem?_getD]
    by_cases hg : g < gens.length
    · rw [List.getElem?_eq_getElem hg]
      exact hgg _ (List.getElem_mem hg)
    · rw [List.getElem?_eq_none (by omega)]
      exact pgd_nil
  -- the generators
  have s32 : ∀ (a g : Nat) (M' : zM) (o5 : Option Value), g + a = gens.length → (aadopt sh gens g).1 = 0 → (aadopt sh gens g).2.1.length ≤ g → pwJ (aadopt sh gens g).2.2 (aadopt sh gens g).2.1.length = tri (aadopt sh gens g).2.1.length → rfr (TM fo sh) FM GM M M' → rwk M' fo sh nv k lim (aadopt sh gens g).2.1 (aadopt sh gens g).2.2 lim 0 0 → zI M' 1529 11 = 0 → zI M' 1529 12 = 0 → wX8_make d (fun r M2 => r = [] ∧ P M2) 32 [some (.ref 1529), some (.int (nI fo)), some (.int (nI gens.length)), some (.int (rbI ws)), some (.int (nI g)), o5] [] M' := by
    intro a
    induction a with
    | zero =>
      intro g M' o5 hg hc hlen hcw hfr hw z11 z12
      rw [show g = gens.length by omega] at hc hlen hcw hw ⊢
      rw [if_pos hc] at hX
      refine sg_X8_make_32 _ _ _ _ _ _ _ ⟨fun _ => ?_, fun z => absurd (Int32.le_refl _) z⟩
      exact s106 276 _ M' _ _ _ _ _ hX.symm rfl (by dsimp only; omega) (Nat.le_refl _) hfr hw z11 z12
    | succ a ih =>
      intro g M' o5 hg hc hlen hcw hfr hw z11 z12
      have hM' := mst_fr hfr hM
      have hv' := mvk_fr hfr (by unfold FM FP FD FF; omega) (by unfold FM FP FD FF; omega) hv
      obtain ⟨s16, ⟨r3, r4, r5, r6, -⟩, ⟨k0, k1, k2, k3⟩, -⟩ := id hM'
      have hss := aadopt_s (sh := sh) (g := g) (gens := gens)
      have hGq : qdy M' (40 + g) (gens.getD g []) := qdy_fr hfr (by unfold TM; omega) (hgi g).1.2.2 (hgq g (by omega))
      have hGg := hgi g
      have cg := cl_n (n := 40 + g) (by omega)
      have z7 : ∀ M2, rfr (TM fo sh) FM GM M M2 → zI M2 1529 7 = zI M 1529 7 := fun M2 hh => hh.2.2.2.2.2.2.1 7 (by unfold FM FP FD FF; omega)
      generalize gens.getD g [] = G at hss hGq hGg
      generalize aadopt sh gens g = A at hc hlen hcw hw hss
      obtain ⟨⟨w19, w20, w21, wsh⟩, ⟨w13, w14, wn, wl⟩, ⟨wlen, wr, wg, ww⟩, w24, w25⟩ := id hw
      have dis := fun i (hi : i < A.2.1.length) => TP_dis hf2 hs8 wlen hi
      refine sg_X8_make_32 _ _ _ _ _ _ _ ⟨fun z => ?_, fun _ => ⟨s16, fun z => absurd z11 z, fun _ => ?_⟩⟩
      · have := (nI_leI (by omega) (by omega)).mp z
        omega
      · rw [show (40 : Int32) + nI g = nI (40 + g) from nI_add 40 g, cg]
        refine ⟨s16, by rw [r6, k3], by rw [r6, k3]; exact zin_n (by omega) (by omega), fun cz => ⟨s16, s16, ?_⟩, fun cz => ?_⟩
        · have hne : G ≠ [] := fun y => cz (by rw [r6, hGq.1, y]; rfl)
          have hl0 : G.length ≠ 0 := fun y => hne (List.length_eq_zero_iff.mp y)
          rw [if_pos ⟨hc, hl0⟩] at hss
          rw [w20, nI_add]
          refine sp_rcopy (by omega) hM' (by omega) (by omega) (by omega) hGq hGg.1.2.2 fun M1 hfr1 hq1 => ?_
          -- made monic
          have s87 : ∀ (M2 : zM) (o5 : Option Value), rfr (TP fo sh A.2.1.length) FF GN M' M2 → zI M2 1529 11 = 0 → qdy M2 (fo + A.2.1.length) G → (∀ i, i < sh → qdy M2 (170 + 8 * A.2.1.length + i) ((aunit sh g).getD i [])) → wX8_make d (fun r M2 => r = [] ∧ P M2) 87 [some (.ref 1529), some (.int (nI fo)), some (.int (nI gens.length)), some (.int (rbI ws)), some (.int (nI g)), o5] [] M2 := fun M2 o5 hfr2 y11 hb hcs => by
            have hM2 := mst_fr hfr2 hM'
            have F2 : ∀ j, ¬ FF j → zI M2 1529 j = zI M' 1529 j := fun j hj => hfr2.2.2.2.2.2.2.1 j hj
            have hw2 : rwk M2 fo sh nv k lim A.2.1 A.2.2 lim 0 0 := rwk_fr hfr2 dis (fun _ z => Or.inl z) (fun z => z) (by rw [F2 _ (by unfold FF; omega)]; exact w13) wn hw
            have hfa2 : rfr (TM fo sh) FM GM M M2 := rfr_tr hfr (rfr_up hfr2 (fun x z => TP_TM (by omega) hs8 z) (fun _ z => Or.inl (Or.inl (Or.inl z))) (fun _ z => z.elim))
            refine sg_X8_make_87 _ _ _ _ _ _ _ ⟨hM2.1, hM2.1, ?_⟩
            rw [hw2.1.2.1]
            refine sp_rmonic (E := (G, aunit sh g)) (by omega) hM2 hw2.1.1 hf2 (by omega) hw2.1.2.2.2 hb hcs ⟨hGg.1, aunit_ok⟩ aunit_len hne y11 (fun E M3 hE hfr3 hz3 hb3 hc3 => ?_) (fun M3 hE hfr3 hz3 => ?_)
            · have hM3 := mst_fr hfr3 hM2
              have hfr3' : rfr (TP fo sh A.2.1.length) FF GN M2 M3 := rfr_up hfr3 (fun x z => by unfold TE at z; unfold TP; omega) (fun _ z => z) (fun _ z => z)
              have F3 : ∀ j, ¬ FF j → zI M3 1529 j = zI M2 1529 j := fun j hj => hfr3.2.2.2.2.2.2.1 j hj
              have hw3 : rwk M3 fo sh nv k lim A.2.1 A.2.2 lim 0 0 := rwk_fr hfr3' dis (fun _ z => Or.inl z) (fun z => z) (by rw [F3 _ (by unfold FF; omega)]; exact hw2.2.1.1) wn hw2
              rw [hE] at hss
              dsimp only at hss
              have hEg := amonic_gd hGg aunit_gd hE
              refine ⟨hM3.1, fun z => absurd hz3 z, fun _ => ⟨hM3.1, hM3.1, ?_⟩⟩
              rw [hw3.1.2.1]
              refine sp_rpairs (by omega) hM3 hw3.2.2.1.2.2.2 wlen fun M4 hfr4 hw4 => ?_
              have hM4 := mst_fr hfr4 hM3
              refine ⟨hM4.1, hM4.1, ?_⟩
              intro M5
              have F4 : ∀ j, zI M4 1529 j = zI M3 1529 j := fun j => hfr4.2.2.2.2.2.2.1 j fun z => z
              have m5 : M5 = zuI M4 1529 20 (nI (A.2.1.length + 1)) := by rw [show M5 = zuI M4 1529 20 (zI M4 1529 20 + 1) from rfl, F4, hw3.1.2.1, nI_1]
              clear_value M5
              have hfr5 : rfr TN (fun j => j = 20) GN M4 M5 := by rw [m5]; exact rfr_F rfl
              have F5 : ∀ j, j ≠ 20 → zI M5 1529 j = zI M3 1529 j := fun j hj => by rw [hfr5.2.2.2.2.2.2.1 j hj, F4]
              have hfr35 : rfr TN (fun j => j = 20) GW M3 M5 := rfr_tr (rfr_up hfr4 (fun _ z => z) (fun _ z => z.elim) (fun _ z => z)) (rfr_up hfr5 (fun _ z => z) (fun _ z => z) (fun _ z => z.elim))
              have hfa5 : rfr (TM fo sh) FM GM M M5 := rfr_tr hfa2 (rfr_tr (rfr_up hfr3' (fun x z => TP_TM (by omega) hs8 z) (fun _ z => Or.inl (Or.inl (Or.inl z))) (fun _ z => z.elim)) (rfr_up hfr35 (fun _ z => z.elim) (fun _ z => Or.inl (Or.inr (Or.inl z))) (fun _ z => Or.inl z)))
              refine sg_X8_make_104 _ _ _ _ _ _ _ ?_
              intro v4
              rw [show v4 = nI (g + 1) from nI_1 g]
              refine ih (g + 1) M5 _ (by omega) (by rw [hss]) (by rw [hss]; dsimp only; rw [List.length_append]; simp; omega) ?_ hfa5 ?_ (by rw [F5 _ (by omega)]; exact hz3) (by rw [F5 _ (by omega), F3 _ (by unfold FF; omega), F2 _ (by unfold FF; omega)]; exact z12)
              · rw [hss]
                dsimp only
                rw [List.length_append, show A.2.1.length + [E].length = A.2.1.length + 1 from rfl, pwJ_on, hcw]
                rfl
              · rw [hss]
                dsimp only
                refine ⟨⟨by rw [F5 _ (by omega)]; exact hw3.1.1, by rw [m5, zI_uI, if_pos ⟨rfl, rfl⟩, List.length_append]; rfl, by rw [F5 _ (by omega)]; exact hw3.1.2.2.1, rsh_fr hfr35 (by omega) (by omega) hw3.1.2.2.2⟩, ⟨by rw [F5 _ (by omega)]; exact hw3.2.1.1, by rw [F5 _ (by omega)]; exact hw3.2.1.2.1, wn, wl⟩, ⟨by rw [List.length_append]; simp; omega, ?_, egd_app wg ⟨hEg.1, by rw [hEg.2.1, aunit_len], hEg.2.2⟩, ?_⟩, by rw [F5 _ (by omega)]; exact hw3.2.2.2.1, by rw [F5 _ (by omega)]; exact hw3.2.2.2.2⟩
                · exact rel_app (rel_fr hfr35 (fun i hi => ⟨fun z => z, fun _ _ z => z⟩) wg hw3.2.2.1.2.1) (qdy_fr hfr35 (fun z => z) hEg.1.1.1.2.2 hb3) fun i hi => qdy_fr hfr35 (fun z => z) (getD_len (fun c hc => (hEg.2.2 c hc).1) i).2.2 (hc3 i hi)
                · rw [List.length_append]
                  exact rwt_fr hfr5 (fun z => z) hw4
            · have hM3 := mst_fr hfr3 hM2
              have hfr3' : rfr (TP fo sh A.2.1.length) FF GN M2 M3 := rfr_up hfr3 (fun x z => by unfold TE at z; unfold TP; omega) (fun _ z => z) (fun _ z => z)
              have F3 : ∀ j, ¬ FF j → zI M3 1529 j = zI M2 1529 j := fun j hj => hfr3.2.2.2.2.2.2.1 j hj
              have hw3 : rwk M3 fo sh nv k lim A.2.1 A.2.2 lim 0 0 := rwk_fr hfr3' dis (fun _ z => Or.inl z) (fun z => z) (by rw [F3 _ (by unfold FF; omega)]; exact hw2.2.1.1) wn hw2
              have hfa3 : rfr (TM fo sh) FM GM M M3 := rfr_tr hfa2 (rfr_up hfr3' (fun x z => TP_TM (by omega) hs8 z) (fun _ z => Or.inl (Or.inl (Or.inl z))) (fun _ z => z.elim))
              rw [hE] at hss
              have hss : aadopt sh gens (g + 1) = (2, A.2) := hss
              have hno : aadopt sh gens gens.length = (2, A.2) := by
                rw [aadopt_no (g := g + 1) (by rw [hss]; exact (by decide : (2 : Nat) ≠ 0)) (by omega), hss]
              rw [hno, if_neg (show ¬ (2 : Nat) = 0 by decide)] at hX
              have e106 := out106 M3 (some (.int (nI fo))) (some (.int (nI gens.length))) (some (.int (rbI ws))) (some (.int (nI g + 1))) o5 hfa3 (by rw [hX]; exact hw3) (by rw [hX]; exact Or.inr (Or.inr ⟨rfl, hz3, by rw [F3 _ (by unfold FF; omega), F2 _ (by unfold FF; omega)]; exact z12⟩)) (by rw [hX]; exact (by decide : (2 : Nat) ≠ 0))
              refine ⟨hM3.1, fun _ => ?_, fun z => absurd (Classical.not_not.mp z) (by rw [hz3]; decide)⟩
              refine sg_X8_make_104 _ _ _ _ _ _ _ ?_
              intro v4
              exact sg_X8_make_32 _ _ _ _ _ _ _ ⟨fun _ => e106, fun _ => ⟨hM3.1, fun _ => e106, fun z => absurd (Classical.not_not.mp z) (by rw [hz3]; decide)⟩⟩
          -- its cofactors: 1 and 0
          have s57 : ∀ (b i : Nat) (M2 : zM), i + b = sh → rfr (TP fo sh A.2.1.length) FF GN M' M2 → zI M2 1529 11 = 0 → qdy M2 (fo + A.2.1.length) G → (∀ j, j < i → qdy M2 (170 + 8 * A.2.1.length + j) ((aunit sh g).getD j [])) → wX8_make d (fun r M2 => r = [] ∧ P M2) 57 [some (.ref 1529), some (.int (nI fo)), some (.int (nI gens.length)), some (.int (rbI ws)), some (.int (nI g)), some (.int (nI i))] [] M2 := by
            intro b
            induction b with
            | zero =>
              intro i M2 hi hfr2 y11 hb hcs
              have hM2 := mst_fr hfr2 hM'
              have hfa2 : rfr (TM fo sh) FM GM M M2 := rfr_tr hfr (rfr_up hfr2 (fun x z => TP_TM (by omega) hs8 z) (fun _ z => Or.inl (Or.inl (Or.inl z))) (fun _ z => z.elim))
              rw [show i = sh by omega] at hcs ⊢
              refine sg_X8_make_57 _ _ _ _ _ _ _ ⟨hM2.1, fun _ => s87 M2 _ hfr2 y11 hb hcs, fun z => ⟨fun _ => s87 M2 _ hfr2 y11 hb hcs, fun z2 => ?_⟩⟩
              rcases hws with ⟨e1, e2⟩ | ⟨e1, e2⟩
              · exact absurd (by rw [z7 M2 hfa2, e2]; exact Int32.le_refl _) z
              · exact absurd (by rw [e1]; rfl) z2
            | succ b ihb =>
              intro i M2 hi hfr2 y11 hb hcs
              have hM2 := mst_fr hfr2 hM'
              have hv2 := mvk_fr hfr2 (by unfold FF; omega) (by unfold FF; omega) hv'
              have hfa2 : rfr (TM fo sh) FM GM M M2 := rfr_tr hfr (rfr_up hfr2 (fun x z => TP_TM (by omega) hs8 z) (fun _ z => Or.inl (Or.inl (Or.inl z))) (fun _ z => z.elim))
              obtain ⟨e1, e2⟩ : ws = true ∧ zI M 1529 7 = nI sh := by
                rcases hws with y | y
                · exact y
                · omega
              have h20 : zI M2 1529 20 = nI A.2.1.length := by rw [hfr2.2.2.2.2.2.2.1 20 (by unfold FF; omega)]; exact w20
              obtain ⟨t16, ⟨t3, t4, t5, t6, -⟩, ⟨u0, u1, u2, u3⟩, -⟩ := id hM2
              have cc := cl_n (n := 170 + 8 * A.2.1.length + i) (by omega)
              have hun := aunit_getD (g := g) (show i < sh by omega)
              refine sg_X8_make_57 _ _ _ _ _ _ _ ⟨t16, fun z => ?_, fun _ => ⟨fun z => absurd z (by rw [e1]; decide), fun _ => ⟨t16, t16, t16, ?_⟩⟩⟩
              · rw [z7 M2 hfa2, e2] at z
                have := (nI_leI (by omega) (by omega)).mp z
                omega
              · rw [h20]
                refine sp_rcof (by omega) ?_
                rw [t6, cc]
                refine ⟨by rw [u3], by rw [u3]; exact zin_n (by omega) (by omega), ?_⟩
                intro M3
                have m3 : M3 = zuI M2 1533 (170 + 8 * A.2.1.length + i) 0 := rfl
                clear_value M3
                have hfr3 : rfr (fun x => x = 170 + 8 * A.2.1.length + i) FF GN M2 M3 := by rw [m3]; exact rfr_3 rfl
                have hM3 := mst_fr hfr3 hM2
                have hv3 := mvk_fr hfr3 (by unfold FF; omega) (by unfold FF; omega) hv2
                have q3 : qdy M3 (170 + 8 * A.2.1.length + i) [] := qdy_0 (by rw [m3, zI_uI, if_pos ⟨rfl, rfl⟩])
                have z3 : zI M3 1529 11 = 0 := by rw [m3, zI_uI, if_neg (by omega)]; exact y11
                have next : ∀ M4, rfr (fun x => x = 170 + 8 * A.2.1.length + i) FF GN M2 M4 → zI M4 1529 11 = 0 → qdy M4 (170 + 8 * A.2.1.length + i) ((aunit sh g).getD i []) → wX8_make d (fun r M2 => r = [] ∧ P M2) 85 [some (.ref 1529), some (.int (nI fo)), some (.int (nI gens.length)), some (.int (rbI ws)), some (.int (nI g)), some (.int (nI i))] [] M4 := fun M4 hfr4 z4 q4 => by
                  refine sg_X8_make_85 _ _ _ _ _ _ _ ?_
                  intro v5
                  rw [show v5 = nI (i + 1) from nI_1 i]
                  refine ihb (i + 1) M4 (by omega) (rfr_tr hfr2 (rfr_up hfr4 (fun x z => by unfold TP; omega) (fun _ z => z) (fun _ z => z))) z4 (qdy_fr hfr4 (by omega) hGg.1.2.2 hb) fun j hj => ?_
                  by_cases hji : j = i
                  · rw [hji]; exact q4
                  · exact qdy_fr hfr4 (by omega) (getD_len (k := k) aunit_ok j).2.2 (hcs j (by omega))
                refine ⟨fun c => next M3 hfr3 z3 ?_, fun c => ⟨t16, t16, ?_⟩⟩
                · have hig : i ≠ g := fun z => c (by rw [z])
                  rw [hun, if_neg hig]
                  exact q3
                · have hig : i = g := (nI_eq (by omega) (by omega)).mp (Classical.not_not.mp c)
                  rw [hfr3.2.2.2.2.2.2.1 20 (by unfold FF; omega), h20]
                  refine sp_rcof (by omega) ⟨hM3.1, ?_⟩
                  refine sp_rcomesP (m := mone) (by omega) hM3 hv3 (by omega) q3 pok_nil pvn_nil mone_ok vin_one z3 (fun L' M4 hL' hfr4 hz4 hq4 => ?_) (fun M4 hn _ _ _ => by cases hn)
                  have hL' : some [((1, 1), mone)] = some L' := hL'
                  cases hL'
                  exact next M4 (rfr_tr hfr3 hfr4) hz4 (by rw [hun, if_pos hig]; exact hq4)
          exact s57 sh 0 M1 (by omega) (rfr_up hfr1 (fun x z => by unfold TP; omega) (fun _ z => z.elim) (fun _ z => z)) (by rw [hfr1.2.2.2.2.2.2.1 11 (fun z => z)]; exact z11) hq1 fun j hj => absurd hj (Nat.not_lt_zero _)
        · have hl0 : G.length = 0 := by
            have cz := Classical.not_not.mp cz
            rw [r6, hGq.1] at cz
            exact (nI_z (by have := hGg.1.2.2; omega)).mp cz
          rw [if_neg (fun z => z.2 hl0)] at hss
          refine sg_X8_make_104 _ _ _ _ _ _ _ ?_
          intro v4
          rw [show v4 = nI (g + 1) from nI_1 g]
          exact ih (g + 1) M' _ (by omega) (by rw [hss]; exact hc) (by rw [hss]; omega) (by rw [hss]; exact hcw) hfr (by rw [hss]; exact hw) z11 z12
  -- nothing waits yet
  have s20 : ∀ (a i : Nat) (M1 : zM) (M' : zM) (o5 : Option Value), i + a = 625 → mst M1 → rfr TN FN GW M1 M' → (∀ M', rfr TN FN GW M1 M' → ∀ o5, wX8_make d (fun r M2 => r = [] ∧ P M2) 32 [some (.ref 1529), some (.int (nI fo)), some (.int (nI gens.length)), some (.int (rbI ws)), some (.int 0), o5] [] M') → wX8_make d (fun r M2 => r = [] ∧ P M2) 20 [some (.ref 1529), some (.int (nI fo)), some (.int (nI gens.length)), some (.int (rbI ws)), some (.int (nI i)), o5] [] M' := by
    intro a
    induction a with
    | zero =>
      intro i M1 M' o5 hi hM1 hfr hK
      exact sg_X8_make_20 _ _ _ _ _ _ _ ⟨fun _ => hK M' hfr _, fun z => absurd (by rw [show i = 625 by omega]; exact Int32.le_refl _) z⟩
    | succ a ih =>
      intro i M1 M' o5 hi hM1 hfr hK
      have hM' := mst_fr hfr hM1
      obtain ⟨s16, ⟨-, -, -, -, -, -, r23, -⟩, -, -, -, k6, -⟩ := id hM'
      refine sg_X8_make_20 _ _ _ _ _ _ _ ⟨fun z => ?_, fun _ => ?_⟩
      · have := (nI_leI (a := 625) (by omega) (by omega)).mp z
        omega
      · rw [cl_n (by omega), r23, k6]
        refine ⟨s16, rfl, zin_n (by omega) (by omega), Or.inl rfl, ?_⟩
        intro M2 v4
        rw [show v4 = nI (i + 1) from nI_1 i]
        exact ih (i + 1) M1 M2 _ (by omega) hM1 (rfr_tr hfr (rfr_G rfl (by omega))) hK
  refine en_X8_make _ _ _ _ M (sg_X8_make_0 _ _ _ _ M ⟨hM.1, ?_⟩)
  intro M1
  refine ⟨hM.1, ?_⟩
  intro M2
  refine ⟨hM.1, ?_⟩
  intro M3
  refine ⟨hM.1, rbI_b, ?_⟩
  intro M4
  refine ⟨hM.1, ?_⟩
  intro M5
  refine ⟨hM.1, ?_⟩
  intro M6
  have hfr6 : rfr TN (fun j => j = 19 ∨ j = 20 ∨ j = 21 ∨ j = 22 ∨ j = 24 ∨ j = 25) GN M M6 := rfr_tr (rfr_F (by omega)) (rfr_tr (rfr_F (by omega)) (rfr_tr (rfr_F (by omega)) (rfr_tr (rfr_F (by omega)) (rfr_tr (rfr_F (by omega)) (rfr_F (by omega))))))
  have e19 : zI M6 1529 19 = nI fo := rfl
  have e20 : zI M6 1529 20 = 0 := rfl
  have e21 : zI M6 1529 21 = -1 := rfl
  have e22 : zI M6 1529 22 = rbI ws := rfl
  have e24 : zI M6 1529 24 = 0 := rfl
  have e25 : zI M6 1529 25 = 0 := rfl
  clear_value M6
  have F6 : ∀ j, ¬ (j = 19 ∨ j = 20 ∨ j = 21 ∨ j = 22 ∨ j = 24 ∨ j = 25) → zI M6 1529 j = zI M 1529 j := fun j hj => hfr6.2.2.2.2.2.2.1 j hj
  refine s20 625 0 M6 M6 _ (by omega) (mst_fr hfr6 hM) rfr_rf fun M7 hfr7 o5 => ?_
  have F7 : ∀ j, zI M7 1529 j = zI M6 1529 j := fun j => hfr7.2.2.2.2.2.2.1 j (fun z => z)
  refine s32 gens.length 0 M7 _ (by omega) rfl (Nat.le_refl _) rfl (rfr_tr (rfr_up hfr6 (fun _ z => z.elim) (fun j z => by unfold FM FP; omega) (fun _ z => z.elim)) (rfr_up hfr7 (fun _ z => z.elim) (fun _ z => z.elim) (fun _ z => Or.inl z))) ⟨⟨by rw [F7]; exact e19, by rw [F7]; exact e20, by rw [F7]; exact e21, hs8, ?_⟩, ⟨by rw [F7, F6 _ (by omega), h13, Nat.sub_self]; rfl, by rw [F7, F6 _ (by omega)]; exact h14, Nat.le_refl _, hlim⟩, ⟨Nat.zero_le _, fun i E hE => (by cases hE), fun E hE => absurd hE List.not_mem_nil, fun i j _ hj => absurd hj (Nat.not_lt_zero _)⟩, by rw [F7]; exact e24, by rw [F7]; exact e25⟩ (by rw [F7, F6 _ (by omega)]; exact hz) (by rw [F7, F6 _ (by omega)]; exact hs)
  rw [F7, F7, e22, F6 7 (by omega)]
  rcases hws with ⟨y1, y2⟩ | ⟨y1, y2⟩
  · exact Or.inl ⟨by rw [y1]; rfl, y2⟩
  · exact Or.inr ⟨by rw [y1]; rfl, y2⟩
