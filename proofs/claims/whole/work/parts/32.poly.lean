/-! THE DOCUMENT'S POLYNOMIALS, and how memory holds them -/
abbrev aT : Type := aF × aM
abbrev aP : Type := List aT
def tok (t : aT) : Prop := fok t.1 ∧ t.1.1 ≠ 0 ∧ mok t.2
/-- terms from the greatest on -/
def srt (k : Nat) (L : aP) : Prop := L.Pairwise fun a b => ark k b.2 < ark k a.2
def pok (k : Nat) (L : aP) : Prop := (∀ t ∈ L, tok t) ∧ srt k L ∧ L.length ≤ 100
/-- how many terms are greater -/
def apos (k : Nat) (m : aM) : aP → Nat
  | [] => 0
  | u :: l => if ark k m < ark k u.2 then apos k m l + 1 else 0
/-- a TERM COMES -/
def acome (k : Nat) (t : aT) (L : aP) : Option aP := match L[apos k t.2 L]? with
  | some u => if u.2 = t.2 then (match afsum u.1 t.1 with
      | none => none
      | some s => if s.1 = 0 then some (L.eraseIdx (apos k t.2 L)) else some (L.set (apos k t.2 L) (s, t.2)))
    else if 100 ≤ L.length then none else some (L.insertIdx (apos k t.2 L) t)
  | none => if 100 ≤ L.length then none else some (L.insertIdx (apos k t.2 L) t)
/-- f PLUS u g -/
def aadds (k : Nat) (c : aF) (m : aM) : aP → aP → Option aP
  | [], f => some f
  | t :: g, f => if (madd t.2 m).1 ≤ 30 ∧ (madd t.2 m).2.1 ≤ 30 ∧ (madd t.2 m).2.2.1 ≤ 30 ∧ (madd t.2 m).2.2.2 ≤ 30 then (match afmul t.1 c with
      | none => none
      | some s => match acome k (s, madd t.2 m) f with
        | none => none
        | some f' => aadds k c m g f') else none
/-- f PLUS u g for each term u of the first -/
def aprod (k : Nat) (g : aP) : aP → aP → Option aP
  | [], f => some f
  | u :: us, f => match aadds k u.1 u.2 g f with
    | none => none
    | some f' => aprod k g us f'
theorem apos_le {k : Nat} {m : aM} : ∀ (L : aP), apos k m L ≤ L.length
  | [] => Nat.le_refl _
  | u :: l => by
    unfold apos
    split
    · have := apos_le (k := k) (m := m) l
      simp; omega
    · simp
theorem apos_lt {k : Nat} {m : aM} : ∀ {L : aP} {j : Nat} {u : aT}, j < apos k m L → L[j]? = some u → ark k m < ark k u.2
  | [], j, u, h, _ => by simp [apos] at h
  | v :: l, j, u, h, hu => by
    unfold apos at h
    split at h
    · rename_i hv
      cases j with
      | zero => simp at hu; subst hu; exact hv
      | succ j => exact apos_lt (L := l) (j := j) (by omega) (by simpa using hu)
    · omega
theorem apos_ge {k : Nat} {m : aM} : ∀ {L : aP} {j : Nat} {u : aT}, srt k L → apos k m L ≤ j → L[j]? = some u → ark k u.2 ≤ ark k m
  | [], j, u, _, _, hu => by simp at hu
  | v :: l, j, u, hs, h, hu => by
    unfold srt at hs
    rw [List.pairwise_cons] at hs
    unfold apos at h
    split at h
    · cases j with
      | zero => omega
      | succ j => exact apos_ge (L := l) (j := j) hs.2 (by omega) (by simpa using hu)
    · rename_i hv
      cases j with
      | zero => simp at hu; subst hu; omega
      | succ j =>
        have hu' : l[j]? = some u := by simpa using hu
        have := hs.1 u (List.mem_of_getElem? hu')
        omega
/-- the only place where a number stands between -/
theorem apos_eq {k : Nat} {m : aM} {L : aP} {p : Nat} (hp : p ≤ L.length) (h1 : ∀ j u, j < p → L[j]? = some u → ark k m < ark k u.2) (h2 : ∀ j u, p ≤ j → L[j]? = some u → ark k u.2 ≤ ark k m) : apos k m L = p := by
  have hle := apos_le (k := k) (m := m) L
  rcases Nat.lt_trichotomy (apos k m L) p with h | h | h
  · exfalso
    have hl : apos k m L < L.length := by omega
    have hu := List.getElem?_eq_getElem hl
    have a := h1 _ _ h hu
    -- the place itself holds a term that is not greater
    have key : ∀ (L : aP) (hl : apos k m L < L.length), ark k (L[apos k m L]).2 ≤ ark k m := by
      intro L
      induction L with
      | nil => intro hl; simp at hl
      | cons v l ih =>
        intro hl
        by_cases hv : ark k m < ark k v.2
        · have e : apos k m (v :: l) = apos k m l + 1 := by simp [apos, hv]
          simp only [e, List.getElem_cons_succ]
          exact ih (by rw [e] at hl; simpa using hl)
        · have e : apos k m (v :: l) = 0 := by simp [apos, hv]
          simp only [e, List.getElem_cons_zero]
          omega
    have b := key L hl
    omega
  · exact h
  · exfalso
    have hl : p < L.length := by omega
    have hu := List.getElem?_eq_getElem hl
    have a := apos_lt h hu
    have b := h2 _ _ (Nat.le_refl _) hu
    omega
/-! memory: only these rows of numbers change -/
def zfr (S : Nat → Prop) (M M' : zM) : Prop := (∀ a, zsh M' a = zsh M a) ∧ zn M' = zn M ∧ zs M' = zs M ∧ (∀ a j, zR M' a j = zR M a j) ∧ ∀ a, ¬ S a → (∀ j, zI M' a j = zI M a j) ∧ ∀ j, zL M' a j = zL M a j
theorem zfr_rf {S : Nat → Prop} {M : zM} : zfr S M M := ⟨fun _ => rfl, rfl, rfl, fun _ _ => rfl, fun _ _ => ⟨fun _ => rfl, fun _ => rfl⟩⟩
theorem zfr_tr {S : Nat → Prop} {M1 M2 M3 : zM} (h1 : zfr S M1 M2) (h2 : zfr S M2 M3) : zfr S M1 M3 := ⟨fun a => (h2.1 a).trans (h1.1 a), h2.2.1.trans h1.2.1, h2.2.2.1.trans h1.2.2.1, fun a j => (h2.2.2.2.1 a j).trans (h1.2.2.2.1 a j), fun a ha => ⟨fun j => ((h2.2.2.2.2 a ha).1 j).trans ((h1.2.2.2.2 a ha).1 j), fun j => ((h2.2.2.2.2 a ha).2 j).trans ((h1.2.2.2.2 a ha).2 j)⟩⟩
theorem zfr_up {S S' : Nat → Prop} {M M' : zM} (h : zfr S M M') (hs : ∀ a, S a → S' a) : zfr S' M M' := ⟨h.1, h.2.1, h.2.2.1, h.2.2.2.1, fun a ha => h.2.2.2.2 a fun z => ha (hs a z)⟩
theorem zI_uI {M : zM} {a k : Nat} {v : Int32} {i j : Nat} : zI (zuI M a k v) i j = if i = a ∧ j = k then v else zI M i j := rfl
theorem zL_uL {M : zM} {a k : Nat} {v : Int64} {i j : Nat} : zL (zuL M a k v) i j = if i = a ∧ j = k then v else zL M i j := rfl
theorem zI_cI {M : zM} {a sp b dp n i j : Nat} : zI (zcI M a sp b dp n) i j = if i = b ∧ dp ≤ j ∧ j < dp + n then zI M a (sp + (j - dp)) else zI M i j := rfl
theorem zL_cL {M : zM} {a sp b dp n i j : Nat} : zL (zcL M a sp b dp n) i j = if i = b ∧ dp ≤ j ∧ j < dp + n then zL M a (sp + (j - dp)) else zL M i j := rfl
theorem zfr_uI {S : Nat → Prop} {M : zM} {a k : Nat} {v : Int32} (h : S a) : zfr S M (zuI M a k v) := ⟨fun _ => rfl, rfl, rfl, fun _ _ => rfl, fun b hb => ⟨fun j => (by rw [zI_uI, if_neg]; rintro ⟨rfl, -⟩; exact hb h), fun _ => rfl⟩⟩
theorem zfr_uL {S : Nat → Prop} {M : zM} {a k : Nat} {v : Int64} (h : S a) : zfr S M (zuL M a k v) := ⟨fun _ => rfl, rfl, rfl, fun _ _ => rfl, fun b hb => ⟨fun _ => rfl, fun j => by rw [zL_uL, if_neg]; rintro ⟨rfl, -⟩; exact hb h⟩⟩
theorem zfr_cI {S : Nat → Prop} {M : zM} {a sp b dp n : Nat} (h : S b) : zfr S M (zcI M a sp b dp n) := ⟨fun _ => rfl, rfl, rfl, fun _ _ => rfl, fun c hc => ⟨fun j => (by rw [zI_cI, if_neg]; rintro ⟨rfl, -⟩; exact hc h), fun _ => rfl⟩⟩
theorem zfr_cL {S : Nat → Prop} {M : zM} {a sp b dp n : Nat} (h : S b) : zfr S M (zcL M a sp b dp n) := ⟨fun _ => rfl, rfl, rfl, fun _ _ => rfl, fun c hc => ⟨fun _ => rfl, fun j => by rw [zL_cL, if_neg]; rintro ⟨rfl, -⟩; exact hc h⟩⟩
/-- a polynomial of the class: its four rows -/
def inP (p a : Nat) : Prop := p ≤ a ∧ a < p + 4
def pst (M : zM) (p o : Nat) : Prop := (zsh M p).1 = 14 ∧ zR M p 0 = o ∧ zR M p 1 = p + 1 ∧ zR M p 2 = p + 2 ∧ zR M p 3 = p + 3 ∧ zsh M (p + 1) = (3, 100) ∧ zsh M (p + 2) = (2, 100) ∧ zsh M (p + 3) = (2, 100)
def pdy (M : zM) (p k : Nat) (L : aP) : Prop := zI M p 4 = nI L.length ∧ ∀ j t, L[j]? = some t → zL M (p + 1) j = eF t.1 ∧ zI M (p + 2) j = e8 t.2 ∧ zI M (p + 3) j = nI (ark k t.2)
def ost (M : zM) (o k : Nat) : Prop := (zsh M o).1 = 13 ∧ zI M o 0 = nI k ∧ k ≤ 2
theorem pst_fr {S : Nat → Prop} {M M' : zM} {p o : Nat} (h : zfr S M M') (hp : pst M p o) : pst M' p o := by
  unfold pst at *
  rw [h.1, h.1, h.1, h.1, h.2.2.2.1, h.2.2.2.1, h.2.2.2.1, h.2.2.2.1]
  exact hp
theorem pdy_fr {S : Nat → Prop} {M M' : zM} {p k : Nat} {L : aP} (h : zfr S M M') (hd : ∀ a, inP p a → ¬ S a) (hp : pdy M p k L) : pdy M' p k L := by
  have h0 := h.2.2.2.2 p (hd p ⟨by omega, by omega⟩)
  have h1 := h.2.2.2.2 (p + 1) (hd _ ⟨by omega, by omega⟩)
  have h2 := h.2.2.2.2 (p + 2) (hd _ ⟨by omega, by omega⟩)
  have h3 := h.2.2.2.2 (p + 3) (hd _ ⟨by omega, by omega⟩)
  refine ⟨by rw [h0.1]; exact hp.1, fun j t hj => ?_⟩
  rw [h1.2, h2.1, h3.1]
  exact hp.2 j t hj
theorem ost_fr {S : Nat → Prop} {M M' : zM} {o k : Nat} (h : zfr S M M') (hd : ¬ S o) (ho : ost M o k) : ost M' o k := by
  unfold ost at *
  rw [h.1, (h.2.2.2.2 o hd).1]
  exact ho
theorem inP_ne {p q : Nat} (h : p + 4 ≤ q ∨ q + 4 ≤ p) : ∀ a, inP p a → ¬ inP q a := fun a h1 h2 => by
  unfold inP at h1 h2
  omega
