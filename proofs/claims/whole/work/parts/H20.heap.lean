/-! WHAT THE SMALL MACHINE'S MEMORY IS IN THE HEAP -/
def zro (ad : Nat → Nat) (x : Nat) : Option Nat := if x = 0 then none else some (ad x)
def zV (ad : Nat → Nat) : Value → Value
  | .ref x => va_rf (zro ad x)
  | v => v
def zfs (fk : Nat → List Nat) (ad : Nat → Nat) (M : zM) (a ci : Nat) : List Value := (List.range (fk ci).length).map fun k => cond ((fk ci).getD k 0 == 2) (va_rf (zro ad (zR M a k))) (.int (zI M a k))
def zar (ad : Nat → Nat) (M : zM) (a kd : Nat) : vp_A := ((zsh M a).2, cond (kd == 3) (.inr (.inl (zL M a))) (cond (Nat.ble 5 kd) (.inr (.inr (.inr (.inr fun j => zro ad (zR M a j))))) (.inl (zI M a))))
def zE (fk : Nat → List Nat) (cO : Nat → ClassId) (ad : Nat → Nat) (M : zM) (a : Nat) : va_E := cond (Nat.ble 10 (zsh M a).1) (.inr ((zsh M a).1 - 10, zfs fk ad M a ((zsh M a).1 - 10))) (.inl (cO (zsh M a).1, zar ad M a (zsh M a).1))
def zws (fk : Nat → List Nat) (cO : Nat → ClassId) (ad : Nat → Nat) (M : zM) : va_W := (List.range (zn M - 2)).map fun i => (ad (i + 2), zE fk cO ad M (i + 2))
def zinv (M : zM) : Prop := 2 ≤ zn M ∧ (∀ a, a < 2 ∨ zn M ≤ a → (zsh M a).1 < 2) ∧ ∀ a k, zR M a k < zn M
def zscr (L : Nat) (xs : Nat → Int32) (M : zM) : Prop := zsh M 1 = (1, L) ∧ ∀ j, zI M 1 j = xs j
def zval (n : Nat) : Value → Prop
  | .ref x => x < n
  | _ => True
def zlv (ad : Nat → Nat) (ls : Array Slot) (nL : Nat) (lv : zLv) : Prop := ls.size = nL ∧ lv_wf ls ∧ ∀ j v, zat lv j = some (some v) → ls[j]? = some (.val (zV ad v))
theorem zin_ids {M : zM} (h : zinv M) {a : Nat} (hk : 2 ≤ (zsh M a).1) : 2 ≤ a ∧ a < zn M := by
  refine ⟨Nat.le_of_not_lt fun q => ?_, Nat.lt_of_not_le fun q => ?_⟩
  · have := h.2.1 a (Or.inl q); omega
  · have := h.2.1 a (Or.inr q); omega
theorem zws_get {fk : Nat → List Nat} {cO : Nat → ClassId} {ad : Nat → Nat} {M : zM} {a : Nat} (h : 2 ≤ a ∧ a < zn M) : (zws fk cO ad M)[a - 2]? = some (ad a, zE fk cO ad M a) := by
  unfold zws
  rw [List.getElem?_map, List.getElem?_range (by omega)]
  show some (ad (a - 2 + 2), zE fk cO ad M (a - 2 + 2)) = _
  rw [show a - 2 + 2 = a by omega]
theorem zws_mem {fk : Nat → List Nat} {cO : Nat → ClassId} {ad : Nat → Nat} {M : zM} {k : Nat} {q : Nat × va_E} (h : (zws fk cO ad M)[k]? = some q) : k + 2 < zn M ∧ q = (ad (k + 2), zE fk cO ad M (k + 2)) := by
  unfold zws at h
  rw [List.getElem?_map] at h
  by_cases hk : k < zn M - 2
  · rw [List.getElem?_range hk] at h
    exact ⟨by omega, (Option.some.inj h).symm⟩
  · rw [List.getElem?_eq_none (by rw [List.length_range]; omega)] at h
    cases h
theorem zws_upd {fk : Nat → List Nat} {cO : Nat → ClassId} {ad : Nat → Nat} {M M' : zM} {a : Nat} (h : 2 ≤ a ∧ a < zn M) (hn : zn M' = zn M) (ho : ∀ x, x ≠ a → zE fk cO ad M' x = zE fk cO ad M x) : (zws fk cO ad M).set (a - 2) (ad a, zE fk cO ad M' a) = zws fk cO ad M' := by
  apply List.ext_getElem?
  intro k
  by_cases hk : k = a - 2
  · subst hk
    rw [List.getElem?_set_self (by simp [zws]; omega), zws_get (M := M') (by rw [hn]; exact h)]
  · rw [List.getElem?_set_ne (Ne.symm hk)]
    unfold zws
    rw [List.getElem?_map, List.getElem?_map, hn]
    by_cases hk2 : k < zn M - 2
    · rw [List.getElem?_range hk2]
      show some (ad (k + 2), zE fk cO ad M (k + 2)) = some (ad (k + 2), zE fk cO ad M' (k + 2))
      rw [ho (k + 2) (by omega)]
    · rw [List.getElem?_eq_none (by rw [List.length_range]; omega)]
      rfl
theorem zE_obj {fk : Nat → List Nat} {cO : Nat → ClassId} {ad : Nat → Nat} {M : zM} {a ci : Nat} (h : (zsh M a).1 = 10 + ci) : zE fk cO ad M a = .inr (ci, zfs fk ad M a ci) := by
  unfold zE
  rw [h, show Nat.ble 10 (10 + ci) = true from Nat.ble_eq_true_of_le (Nat.le_add_right _ _), Nat.add_sub_cancel_left]
  rfl
theorem zE_arr {fk : Nat → List Nat} {cO : Nat → ClassId} {ad : Nat → Nat} {M : zM} {a kd : Nat} (h : (zsh M a).1 = kd) (hk : Nat.ble 10 kd = false) : zE fk cO ad M a = .inl (cO kd, zar ad M a kd) := by
  unfold zE
  rw [h, hk]
  rfl
theorem zE_same {fk : Nat → List Nat} {cO : Nat → ClassId} {ad : Nat → Nat} {M M' : zM} {a : Nat} (h1 : zsh M' a = zsh M a) (h2 : ∀ k, zI M' a k = zI M a k) (h3 : ∀ k, zL M' a k = zL M a k) (h4 : ∀ k, zR M' a k = zR M a k) : zE fk cO ad M' a = zE fk cO ad M a := by
  have e2 : zI M' a = zI M a := funext h2
  have e3 : zL M' a = zL M a := funext h3
  have e4 : zR M' a = zR M a := funext h4
  unfold zE zfs zar
  rw [h1, e2, e3, e4]
theorem zfs_get {fk : Nat → List Nat} {ad : Nat → Nat} {M : zM} {a ci k : Nat} (hk : k < (fk ci).length) : (zfs fk ad M a ci)[k]? = some (cond ((fk ci).getD k 0 == 2) (va_rf (zro ad (zR M a k))) (.int (zI M a k))) := by
  unfold zfs
  rw [List.getElem?_map, List.getElem?_range hk]
  rfl
theorem zfs_len {fk : Nat → List Nat} {ad : Nat → Nat} {M : zM} {a ci : Nat} : (zfs fk ad M a ci).length = (fk ci).length := by simp [zfs]
theorem zfs_uI {fk : Nat → List Nat} {ad : Nat → Nat} {M : zM} {a ci k : Nat} {v : Int32} (hk : ((fk ci).getD k 0 == 2) = false) : (zfs fk ad M a ci).set k (.int v) = zfs fk ad (zuI M a k v) a ci := by
  apply List.ext_getElem?
  intro j
  by_cases hj : j = k
  · subst hj
    by_cases hl : j < (fk ci).length
    · rw [List.getElem?_set_self (by rw [zfs_len]; exact hl), zfs_get hl, hk]
      simp [zI, zuI]
    · rw [List.getElem?_eq_none (by rw [List.length_set, zfs_len]; omega), List.getElem?_eq_none (by rw [zfs_len]; omega)]
  · rw [List.getElem?_set_ne (Ne.symm hj)]
    by_cases hl : j < (fk ci).length
    · rw [zfs_get hl, zfs_get hl]
      simp [zI, zuI, zR, hj]
    · rw [List.getElem?_eq_none (by rw [zfs_len]; omega), List.getElem?_eq_none (by rw [zfs_len]; omega)]
theorem zfs_uR {fk : Nat → List Nat} {ad : Nat → Nat} {M : zM} {a ci k : Nat} {v : Nat} (hk : ((fk ci).getD k 0 == 2) = true) : (zfs fk ad M a ci).set k (va_rf (zro ad v)) = zfs fk ad (zuR M a k v) a ci := by
  apply List.ext_getElem?
  intro j
  by_cases hj : j = k
  · subst hj
    by_cases hl : j < (fk ci).length
    · rw [List.getElem?_set_self (by rw [zfs_len]; exact hl), zfs_get hl, hk]
      simp [zR, zuR]
    · rw [List.getElem?_eq_none (by rw [List.length_set, zfs_len]; omega), List.getElem?_eq_none (by rw [zfs_len]; omega)]
  · rw [List.getElem?_set_ne (Ne.symm hj)]
    by_cases hl : j < (fk ci).length
    · rw [zfs_get hl, zfs_get hl]
      simp [zI, zuR, zR, hj]
    · rw [List.getElem?_eq_none (by rw [zfs_len]; omega), List.getElem?_eq_none (by rw [zfs_len]; omega)]
/-- other addresses for new rows change nothing of the old ones -/
theorem zro_ad {ad ad' : Nat → Nat} {n x : Nat} (h : ∀ x, x < n → ad' x = ad x) (hx : x < n) : zro ad' x = zro ad x := by
  unfold zro
  rw [h x hx]
theorem zV_ad {ad ad' : Nat → Nat} {n : Nat} {v : Value} (h : ∀ x, x < n → ad' x = ad x) (hx : zval n v) : zV ad' v = zV ad v := by
  cases v with
  | ref x => show va_rf (zro ad' x) = va_rf (zro ad x); rw [zro_ad h hx]
  | _ => rfl
theorem zVs_ad {ad ad' : Nat → Nat} {n : Nat} (h : ∀ x, x < n → ad' x = ad x) : ∀ (st : List Value), (∀ v ∈ st, zval n v) → st.map (zV ad') = st.map (zV ad)
  | [], _ => rfl
  | v :: st, hv => by
    rw [List.map_cons, List.map_cons, zV_ad h (hv v List.mem_cons_self), zVs_ad h st fun w hw => hv w (List.mem_cons_of_mem _ hw)]
theorem zE_ad {fk : Nat → List Nat} {cO : Nat → ClassId} {ad ad' : Nat → Nat} {M : zM} (hi : zinv M) (h : ∀ x, x < zn M → ad' x = ad x) (a : Nat) : zE fk cO ad' M a = zE fk cO ad M a := by
  have e : ∀ k, zro ad' (zR M a k) = zro ad (zR M a k) := fun k => zro_ad h (hi.2.2 a k)
  unfold zE zfs zar
  simp only [e]
theorem zws_al {fk : Nat → List Nat} {cO : Nat → ClassId} {ad ad' : Nat → Nat} {M : zM} {sh : Nat × Nat} {w q : Nat} (hi : zinv M) (h : ∀ x, x < zn M → ad' x = ad x) (hq : ad' (zn M) = q) : zws fk cO ad' (zal M sh w) = zws fk cO ad M ++ [(q, zE fk cO ad' (zal M sh w) (zn M))] := by
  have hn : zn (zal M sh w) = zn M + 1 := rfl
  have h2 := hi.1
  have old : ∀ i, i < zn M → zE fk cO ad' (zal M sh w) i = zE fk cO ad M i := fun i hi' => by
    rw [← zE_ad hi h i]
    have hne : i ≠ M.2.1 := Nat.ne_of_lt hi'
    exact zE_same (by simp [zsh, zal, hne]) (fun k => by simp [zI, zal, hne]) (fun k => by simp [zL, zal, hne]) (fun k => by simp [zR, zal, hne])
  unfold zws
  rw [hn, show zn M + 1 - 2 = (zn M - 2) + 1 by omega, List.range_succ, List.map_append]
  congr 1
  · apply List.map_congr_left
    intro i hi'
    rw [List.mem_range] at hi'
    rw [h (i + 2) (by omega), old (i + 2) (by omega)]
  · rw [List.map_singleton, show zn M - 2 + 2 = zn M by omega, hq]
theorem zinv_al {M : zM} {sh : Nat × Nat} {w : Nat} (h : zinv M) : zinv (zal M sh w) := by
  have hn : zn (zal M sh w) = zn M + 1 := rfl
  refine ⟨by rw [hn]; have := h.1; omega, fun a ha => ?_, fun a k => ?_⟩
  · have h2 := h.1
    have hne : a ≠ M.2.1 := by
      have : zn M = M.2.1 := rfl
      rcases ha with ha | ha
      · omega
      · rw [hn] at ha; omega
    have : zsh (zal M sh w) a = zsh M a := by simp [zsh, zal, hne]
    rw [this]
    refine h.2.1 a ?_
    rcases ha with ha | ha
    · exact Or.inl ha
    · rw [hn] at ha; exact Or.inr (by omega)
  · rw [hn]
    by_cases ha : a = M.2.1
    · have : zR (zal M sh w) a k = 0 := by simp [zR, zal, ha]
      rw [this]; omega
    · have : zR (zal M sh w) a k = zR M a k := by simp [zR, zal, ha]
      rw [this]; have := h.2.2 a k; omega
theorem zinv_uI {M : zM} {a k : Nat} {v : Int32} (h : zinv M) : zinv (zuI M a k v) := h
theorem zinv_uL {M : zM} {a k : Nat} {v : Int64} (h : zinv M) : zinv (zuL M a k v) := h
theorem zinv_uR {M : zM} {a k : Nat} {v : Nat} (h : zinv M) (hv : v < zn M) : zinv (zuR M a k v) := by
  refine ⟨h.1, h.2.1, fun i j => ?_⟩
  by_cases c : i = a ∧ j = k
  · have : zR (zuR M a k v) i j = v := by simp [zR, zuR, c]
    rw [this]; exact hv
  · have : zR (zuR M a k v) i j = zR M i j := by simp [zR, zuR, c]
    rw [this]; exact h.2.2 i j
theorem zinv_cI {M : zM} {a sp b dp n : Nat} (h : zinv M) : zinv (zcI M a sp b dp n) := h
theorem zinv_cL {M : zM} {a sp b dp n : Nat} (h : zinv M) : zinv (zcL M a sp b dp n) := h
theorem zscr_uI {L : Nat} {xs : Nat → Int32} {M : zM} {a k : Nat} {v : Int32} (h : zscr L xs M) (ha : 2 ≤ a) : zscr L xs (zuI M a k v) := ⟨h.1, fun j => by
  have : zI (zuI M a k v) 1 j = zI M 1 j := by
    have : ¬ (1 = a ∧ j = k) := by omega
    simp [zI, zuI, this]
  rw [this]; exact h.2 j⟩
theorem zscr_cI {L : Nat} {xs : Nat → Int32} {M : zM} {a sp b dp n : Nat} (h : zscr L xs M) (hb : 2 ≤ b) : zscr L xs (zcI M a sp b dp n) := ⟨h.1, fun j => by
  have : zI (zcI M a sp b dp n) 1 j = zI M 1 j := by
    have : ¬ (1 = b ∧ dp ≤ j ∧ j < dp + n) := by omega
    simp [zI, zcI, this]
  rw [this]; exact h.2 j⟩
theorem zscr_al {L : Nat} {xs : Nat → Int32} {M : zM} {sh : Nat × Nat} {w : Nat} (h : zscr L xs M) (hi : zinv M) : zscr L xs (zal M sh w) := by
  have h2 : 2 ≤ M.2.1 := hi.1
  have hne : (1 : Nat) ≠ M.2.1 := by omega
  exact ⟨by have : zsh (zal M sh w) 1 = zsh M 1 := by simp [zsh, zal, hne]
            rw [this]; exact h.1, fun j => by have : zI (zal M sh w) 1 j = zI M 1 j := by simp [zI, zal, hne]
                                              rw [this]; exact h.2 j⟩
/-! locals -/
theorem zat_zset {α : Type} : ∀ (l : List α) (i j : Nat) (v : α), zat (zset l i v) j = if j = i ∧ i < l.length then some v else zat l j
  | [], i, j, v => by simp [zset, zat]
  | a :: l, 0, 0, v => by simp [zset, zat]
  | a :: l, 0, j + 1, v => by simp [zset, zat]
  | a :: l, i + 1, 0, v => by simp [zset, zat]
  | a :: l, i + 1, j + 1, v => by
    show zat (zset l i v) j = _
    rw [zat_zset l i j v]
    simp [zat]
theorem zat_zkl : ∀ (l : zLv) (i j : Nat), zat (zkl l i) j = if j + 1 = i then (zat l j).map zwipe else zat l j
  | [], i, j => by cases i <;> simp [zkl, zat]
  | a :: l, 0, j => by simp [zkl]
  | a :: l, 1, 0 => by simp [zkl, zat]
  | a :: l, 1, j + 1 => by simp [zkl, zat]
  | a :: l, i + 2, 0 => by simp [zkl, zat]
  | a :: l, i + 2, j + 1 => by
    show zat (zkl l (i + 1)) j = _
    rw [zat_zkl l (i + 1) j]
    simp [zat]
theorem zkl_len : ∀ (l : zLv) (i : Nat), (zkl l i).length = l.length
  | [], i => by cases i <;> rfl
  | a :: l, 0 => rfl
  | a :: l, 1 => rfl
  | a :: l, i + 2 => by show (zkl l (i + 1)).length + 1 = _; rw [zkl_len l (i + 1)]; rfl
theorem zset_len {α : Type} : ∀ (l : List α) (i : Nat) (v : α), (zset l i v).length = l.length
  | [], _, _ => rfl
  | _ :: _, 0, _ => rfl
  | _ :: l, i + 1, v => by show (zset l i v).length + 1 = _; rw [zset_len l i v]; rfl
def zprs (ad : Nat → Nat) (lv : zLv) : List (Nat × Value) := (List.range lv.length).filterMap fun j => match zat lv j with
  | some (some v) => some (j, zV ad v)
  | _ => none
theorem zat_lt {α : Type} : ∀ (l : List α) (j : Nat) (v : α), zat l j = some v → j < l.length
  | a :: l, 0, v, h => by simp
  | a :: l, j + 1, v, h => by have := zat_lt l j v h; simp; omega
theorem zprs_mem {ad : Nat → Nat} {lv : zLv} {q : Nat × Value} : q ∈ zprs ad lv ↔ ∃ v, zat lv q.1 = some (some v) ∧ q.2 = zV ad v := by
  obtain ⟨j, w⟩ := q
  unfold zprs
  rw [List.mem_filterMap]
  constructor
  · rintro ⟨i, hi, h⟩
    split at h
    · rename_i v hv
      cases h
      exact ⟨v, hv, rfl⟩
    · cases h
  · rintro ⟨v, hv, hw⟩
    refine ⟨j, List.mem_range.mpr (zat_lt _ _ _ hv), ?_⟩
    have hv' : zat lv j = some (some v) := hv
    rw [hv']
    simp only
    rw [show w = zV ad v from hw]
theorem zlv_has {ad : Nat → Nat} {ls : Array Slot} {nL : Nat} {lv : zLv} (h : zlv ad ls nL lv) : lv_has ls nL (zprs ad lv) := ⟨h.1, h.2.1, fun q hq => by
  obtain ⟨v, hv, hw⟩ := zprs_mem.mp hq
  rw [hw]
  exact h.2.2 q.1 v hv⟩
theorem zV_cat {ad : Nat → Nat} (v : Value) : (zV ad v).category = v.category := by
  cases v with
  | ref x =>
    show (va_rf (zro ad x)).category = _
    unfold zro
    split <;> rfl
  | _ => rfl
theorem zwipe_cat {v w : Value} (h : zwipe (some v) = some w) : w = v ∧ v.category = 1 := by
  cases v <;> simp [zwipe] at h <;> subst h <;> exact ⟨rfl, rfl⟩
theorem zlv_st1 {ad : Nat → Nat} {ls : Array Slot} {nL i : Nat} {lv : zLv} {v : Value} (h : lv_has ls nL ((i, zV ad v) :: (zprs ad lv).filter (fun q => !(q.1 == i) && !(q.1 + 1 == i && q.2.category == 2)))) : zlv ad ls nL (zst1 lv i v) := by
  refine ⟨h.1, h.2.1, fun j w hj => ?_⟩
  unfold zst1 at hj
  rw [zat_zset] at hj
  split at hj
  · rename_i hc
    cases hj
    rw [hc.1]
    exact h.2.2 (i, zV ad v) List.mem_cons_self
  · rename_i hc
    rw [zat_zkl] at hj
    by_cases hji : j = i
    · subst hji
      exfalso
      rw [if_neg (by omega)] at hj
      exact hc ⟨rfl, by rw [zkl_len]; exact zat_lt _ _ _ hj⟩
    · refine h.2.2 (j, zV ad w) (List.mem_cons_of_mem _ (List.mem_filter.mpr ⟨zprs_mem.mpr ?_, ?_⟩))
      · by_cases h1 : j + 1 = i
        · rw [if_pos h1] at hj
          cases hz : zat lv j with
          | none => rw [hz] at hj; cases hj
          | some o =>
            cases o with
            | none => rw [hz] at hj; cases hj
            | some u =>
              rw [hz] at hj
              obtain ⟨e, -⟩ := zwipe_cat (Option.some.inj hj)
              exact ⟨u, rfl, by rw [e]⟩
        · rw [if_neg h1] at hj
          exact ⟨w, hj, rfl⟩
      · have hb : (j == i) = false := by simp [hji]
        by_cases h1 : j + 1 = i
        · rw [if_pos h1] at hj
          cases hz : zat lv j with
          | none => rw [hz] at hj; cases hj
          | some o =>
            cases o with
            | none => rw [hz] at hj; cases hj
            | some u =>
              rw [hz] at hj
              obtain ⟨e, e2⟩ := zwipe_cat (Option.some.inj hj)
              simp [hb, zV_cat, e, e2]
        · simp [hb, h1]
theorem zlv_st2 {ad : Nat → Nat} {ls : Array Slot} {nL i : Nat} {lv : zLv} {v : Value} (h : lv_has ls nL ((i, zV ad v) :: (zprs ad lv).filter (fun q => !(q.1 == i) && (!(q.1 == i + 1) && !(q.1 + 1 == i && q.2.category == 2))))) : zlv ad ls nL (zst2 lv i v) := by
  refine ⟨h.1, h.2.1, fun j w hj => ?_⟩
  unfold zst2 at hj
  rw [zat_zset] at hj
  split at hj
  · cases hj
  · rename_i hc0
    rw [zat_zset] at hj
    split at hj
    · rename_i hc
      cases hj
      rw [hc.1]
      exact h.2.2 (i, zV ad v) List.mem_cons_self
    · rename_i hc
      rw [zat_zkl] at hj
      have hlt : j < lv.length := by
        split at hj
        · cases hz : zat lv j with
          | none => rw [hz] at hj; cases hj
          | some o => exact zat_lt _ _ _ hz
        · exact zat_lt _ _ _ hj
      have hji : j ≠ i := fun e => hc ⟨e, by rw [zkl_len]; omega⟩
      have hji1 : j ≠ i + 1 := fun e => hc0 ⟨e, by rw [zset_len, zkl_len]; omega⟩
      refine h.2.2 (j, zV ad w) (List.mem_cons_of_mem _ (List.mem_filter.mpr ⟨zprs_mem.mpr ?_, ?_⟩))
      · by_cases h1 : j + 1 = i
        · rw [if_pos h1] at hj
          cases hz : zat lv j with
          | none => rw [hz] at hj; cases hj
          | some o =>
            cases o with
            | none => rw [hz] at hj; cases hj
            | some u =>
              rw [hz] at hj
              obtain ⟨e, -⟩ := zwipe_cat (Option.some.inj hj)
              exact ⟨u, rfl, by rw [e]⟩
        · rw [if_neg h1] at hj
          exact ⟨w, hj, rfl⟩
      · have hb : (j == i) = false := by simp [hji]
        have hb1 : (j == i + 1) = false := by simp [hji1]
        by_cases h1 : j + 1 = i
        · rw [if_pos h1] at hj
          cases hz : zat lv j with
          | none => rw [hz] at hj; cases hj
          | some o =>
            cases o with
            | none => rw [hz] at hj; cases hj
            | some u =>
              rw [hz] at hj
              obtain ⟨e, e2⟩ := zwipe_cat (Option.some.inj hj)
              simp [hb, hb1, zV_cat, e, e2]
        · simp [hb, hb1, h1]
