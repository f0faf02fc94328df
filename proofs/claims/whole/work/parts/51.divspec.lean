/-! elements and divisions of the class -/
abbrev aE : Type := aP × List aP
def est (M : zM) (e o w : Nat) : Prop := (zsh M e).1 = 11 ∧ zR M e 0 = e + 1 ∧ zR M e 1 = e + 5 ∧ zsh M (e + 5) = (5, w) ∧ (∀ i, i < w → zR M (e + 5) i = e + 6 + 4 * i) ∧ pst M (e + 1) o ∧ ∀ i, i < w → pst M (e + 6 + 4 * i) o
def edy (M : zM) (e k : Nat) (E : aE) : Prop := pdy M (e + 1) k E.1 ∧ ∀ (i : Nat) (L : aP), E.2[i]? = some L → pdy M (e + 6 + 4 * i) k L
def eok (k : Nat) (E : aE) : Prop := pok k E.1 ∧ ∀ L ∈ E.2, pok k L
def inE (w e a : Nat) : Prop := e ≤ a ∧ a < e + 6 + 4 * w
theorem est_fr {S : Nat → Prop} {M M' : zM} {e o w : Nat} (h : zfr S M M') (he : est M e o w) : est M' e o w := by
  obtain ⟨h1, h2, h3, h4, h5, h6, h7⟩ := he
  exact ⟨by rw [h.1]; exact h1, by rw [h.2.2.2.1]; exact h2, by rw [h.2.2.2.1]; exact h3, by rw [h.1]; exact h4, fun i hi => by rw [h.2.2.2.1]; exact h5 i hi, pst_fr h h6, fun i hi => pst_fr h (h7 i hi)⟩
theorem edy_fr {S : Nat → Prop} {M M' : zM} {e k w : Nat} {E : aE} (h : zfr S M M') (hw : E.2.length ≤ w) (hd : ∀ a, inE w e a → ¬ S a) (hE : edy M e k E) : edy M' e k E := by
  refine ⟨pdy_fr h (fun a ha => hd a (by unfold inP at ha; unfold inE; omega)) hE.1, fun i L hi => pdy_fr h (fun a ha => hd a ?_) (hE.2 i L hi)⟩
  have := (List.getElem?_eq_some_iff.mp hi).1
  unfold inP at ha
  unfold inE
  omega
theorem sp_leading {d e o w k : Nat} {M : zM} {t : aT} {l : aP} {P : Int32 → zM → Prop} (hd : 1 ≤ d) (he : est M e o w) (hE : pdy M (e + 1) k (t :: l)) (h : P (e8 t.2) M) : ycI d nX1_leading [.ref e] M P := by
  obtain ⟨d, rfl, _⟩ := dS hd
  have hp := he.2.2.2.2.2.1
  have c0 : (0 : Int32).toNatClampNeg = 0 := by decide
  refine en_X1_leading _ M (sg_X1_leading_0 _ M ⟨he.1, by rw [he.2.1]; exact hp.1, by rw [he.2.1]; exact p_k2 hp, by rw [he.2.1, p_l2 hp]; exact zin_n (j := 0) (by omega) (by omega), _, rfl, ?_⟩)
  rw [he.2.1, hp.2.2.2.1, c0, (hE.2 0 t rfl).2.1]
  exact h
def ascals (c : aF) : List aP → Option (List aP)
  | [] => some []
  | L :: Ls => match ascal c L with
    | none => none
    | some L' => (ascals c Ls).map fun l => L' :: l
theorem ascals_cons {c : aF} {L : aP} {Ls : List aP} : ascals c (L :: Ls) = (match ascal c L with
    | none => none
    | some L' => (ascals c Ls).map fun l => L' :: l) := rfl
/-- MADE MONIC -/
def amonic (E : aE) : Option aE := match E.1 with
  | [] => none
  | t :: _ => match ascal (afinv t.1) E.1 with
    | none => none
    | some b => match ascals (afinv t.1) E.2 with
      | none => none
      | some cs => some (b, cs)
theorem afinv_ok {f : aF} (hf : fok f) (h0 : f.1 ≠ 0) : fok (afinv f) ∧ (afinv f).1 ≠ 0 := by
  obtain ⟨⟨h1, h2⟩, h3, h4⟩ := hf
  unfold afinv
  split
  · exact ⟨⟨by dsimp only; omega, by dsimp only; omega⟩, by dsimp only; omega⟩
  · exact ⟨⟨by dsimp only; omega, by dsimp only; omega⟩, by dsimp only; omega⟩
theorem ascals_ok {k : Nat} {c : aF} (hc : fok c) (hc0 : c.1 ≠ 0) : ∀ {Ls Ls' : List aP}, (∀ L ∈ Ls, pok k L) → ascals c Ls = some Ls' → (∀ L ∈ Ls', pok k L) ∧ Ls'.length = Ls.length
  | [], Ls', _, h => by cases h; exact ⟨fun _ h => absurd h List.not_mem_nil, rfl⟩
  | L :: Ls, Ls', hL, h => by
    rw [ascals_cons] at h
    split at h
    · cases h
    · rename_i L' hL'
      cases hl : ascals c Ls with
      | none => rw [hl] at h; cases h
      | some l =>
        rw [hl] at h
        cases h
        obtain ⟨i1, i2⟩ := ascals_ok hc hc0 (fun L h => hL L (List.mem_cons_of_mem _ h)) hl
        refine ⟨fun x hx => ?_, by simp [i2]⟩
        rcases List.mem_cons.mp hx with rfl | hx
        · exact ascal_pok hc hc0 (hL L List.mem_cons_self) hL'
        · exact i1 x hx
theorem amonic_ok {k : Nat} {E E' : aE} (hE : eok k E) (h : amonic E = some E') : eok k E' ∧ E'.2.length = E.2.length ∧ E'.1.map Prod.snd = E.1.map Prod.snd := by
  unfold amonic at h
  split at h
  · cases h
  · rename_i t l hl
    have ht := hE.1.1 t (by rw [hl]; exact List.mem_cons_self)
    have hi := afinv_ok ht.1 ht.2.1
    split at h
    · cases h
    · rename_i b hb
      split at h
      · cases h
      · rename_i cs hcs
        cases h
        obtain ⟨a1, a2⟩ := ascals_ok hi.1 hi.2 hE.2 hcs
        exact ⟨⟨ascal_pok hi.1 hi.2 hE.1 hb, a1⟩, a2, (ascal_ok (k := k) hi.1 hi.2 hE.1.1 hb).2.2⟩
theorem sp_makeMonic {d e o w k n : Nat} {M : zM} {E : aE} {P : Int32 → zM → Prop} (hd : 4 ≤ d) (he : est M e o w) (hE : edy M e k E) (hk : eok k E) (hne : E.1 ≠ []) (hn : E.2.length = n) (hw : n ≤ w) (hw8 : w ≤ 8) (h1 : ∀ E' M', amonic E = some E' → zfr (inE w e) M M' → edy M' e k E' → P 1 M') (h0 : ∀ M', amonic E = none → zfr (inE w e) M M' → P 0 M') : ycI d nX1_makeMonic [.ref e, .int (nI n)] M P := by
  obtain ⟨d, rfl, hde⟩ := dS hd
  obtain ⟨b, cs⟩ := E
  dsimp only at hn hne
  obtain ⟨t, l, rfl⟩ : ∃ t l, b = t :: l := by
    cases b with
    | nil => exact absurd rfl hne
    | cons t l => exact ⟨t, l, rfl⟩
  have hp := he.2.2.2.2.2.1
  have c0 : (0 : Int32).toNatClampNeg = 0 := by decide
  have ht := hk.1.1 t List.mem_cons_self
  have hi := afinv_ok ht.1 ht.2.1
  have hP1 : ∀ a, inP (e + 1) a → inE w e a := fun a ha => by unfold inP at ha; unfold inE; omega
  have hPc : ∀ i, i < w → ∀ a, inP (e + 6 + 4 * i) a → inE w e a := fun i hi a ha => by unfold inP at ha; unfold inE; omega
  -- the cofactors
  have loop : ∀ (r i : Nat) (b' : aP) (pre : List aP) (M' : zM), i + r = n → pre.length = i → ascal (afinv t.1) (t :: l) = some b' → zfr (inE w e) M M' → pdy M' (e + 1) k b' → (∀ (j : Nat) (L : aP), (pre ++ cs.drop i)[j]? = some L → pdy M' (e + 6 + 4 * j) k L) → (ascals (afinv t.1) (cs.drop i)).map (fun x => pre ++ x) = ascals (afinv t.1) cs → wX1_makeMonic d (fun r M2 => ∃ x : Int32, r = [.int x] ∧ P x M2) 16 [some (.ref e), some (.int (nI n)), some (.long (eF (afinv t.1))), none, some (.int (nI i))] [] M' := by
    intro r
    induction r with
    | zero =>
      intro i b' pre M' hr hpre hb hfr hpd hcs heq
      rw [List.drop_of_length_le (by omega), List.append_nil] at hcs
      rw [List.drop_of_length_le (by omega)] at heq
      have heq : some (pre ++ []) = ascals (afinv t.1) cs := heq
      rw [List.append_nil] at heq
      refine sg_X1_makeMonic_16 _ _ _ _ _ ⟨fun _ => ⟨Or.inr rfl, _, rfl, h1 (b', pre) M' ?_ hfr ⟨hpd, hcs⟩⟩, fun c => absurd (by rw [show i = n by omega]; exact Int32.le_refl _) c⟩
      unfold amonic
      dsimp only
      rw [hb, ← heq]
    | succ r ih =>
      intro i b' pre M' hr hpre hb hfr hpd hcs heq
      have he' := est_fr hfr he
      have hlt : i < cs.length := by omega
      have hdrop := List.drop_eq_getElem_cons hlt
      have hpi := he'.2.2.2.2.2.2 i (by omega)
      have ci := cl_n (n := i) (by omega)
      have hui : (pre ++ cs.drop i)[i]? = some cs[i] := by
        rw [List.getElem?_append_right (by omega), hpre, Nat.sub_self, hdrop]
        rfl
      rw [hdrop, ascals_cons] at heq
      refine sg_X1_makeMonic_16 _ _ _ _ _ ⟨fun c => ?_, fun _ => ⟨he'.1, by rw [he'.2.2.1, he'.2.2.2.1], by rw [he'.2.2.1, he'.2.2.2.1]; exact zin_n (by omega) (by omega), by rw [he'.2.2.1, ci, he'.2.2.2.2.1 i (by omega)]; exact hpi.1, ?_⟩⟩
      · have := (nI_leI (by omega) (by omega)).mp c
        omega
      · rw [he'.2.2.1, ci, he'.2.2.2.2.1 i (by omega)]
        refine sp_multiply (by omega) hpi (hcs i _ hui) (hk.2 _ (List.getElem_mem hlt)) hi.1 hi.2 (fun L' M2 hL' hfr2 hpd2 => ?_) (fun M2 hn2 hfr2 => ?_)
        · rw [hL'] at heq
          refine ⟨fun _ => ?_, fun z => absurd (Classical.not_not.mp z) (by decide)⟩
          intro v4
          rw [show v4 = nI (i + 1) from nI_1 i]
          have hfr3 := zfr_up hfr2 (hPc i (by omega))
          refine ih (i + 1) b' (pre ++ [L']) M2 (by omega) (by rw [List.length_append, hpre]; rfl) hb (zfr_tr hfr hfr3) (pdy_fr hfr2 (inP_ne (by omega)) hpd) (fun j L hj => ?_) ?_
          · by_cases hji : j = i
            · subst hji
              rw [List.append_assoc, List.getElem?_append_right (by omega), hpre, Nat.sub_self] at hj
              cases hj
              exact hpd2
            · refine pdy_fr hfr2 (inP_ne (by omega)) (hcs j L ?_)
              rw [← hj]
              by_cases hjl : j < i
              · rw [List.append_assoc, List.getElem?_append_left (by omega), List.getElem?_append_left (by omega)]
              · rw [List.getElem?_append_right (by omega), List.getElem?_append_right (by rw [List.length_append, hpre]; simp; omega), List.getElem?_drop, List.getElem?_drop, List.length_append, hpre]
                congr 1
                simp
                omega
          · rw [← heq]
            cases ascals (afinv t.1) (cs.drop (i + 1)) with
            | none => rfl
            | some l => simp
        · rw [hn2] at heq
          have heq : none = ascals (afinv t.1) cs := heq
          refine ⟨fun z => absurd rfl z, fun _ => ⟨Or.inl rfl, _, rfl, h0 M2 ?_ (zfr_tr hfr (zfr_up hfr2 (hPc i (by omega))))⟩⟩
          unfold amonic
          dsimp only
          rw [hb, ← heq]
  refine en_X1_makeMonic _ _ M (sg_X1_makeMonic_0 _ _ M ⟨he.1, by rw [he.2.1]; exact hp.1, by rw [he.2.1]; exact p_k1 hp, by rw [he.2.1, p_l1 hp]; exact zin_n (j := 0) (by omega) (by omega), ?_⟩)
  rw [he.2.1, hp.2.2.1, c0, (hE.1.2 0 t rfl).1]
  refine sp_finv (by omega) ht.1 ht.2.1 ⟨he.1, by rw [he.2.1]; exact hp.1, ?_⟩
  rw [he.2.1]
  refine sp_multiply (by omega) hp hE.1 hk.1 hi.1 hi.2 (fun b' M2 hb hfr hpd => ⟨fun _ => ?_, fun z => absurd (Classical.not_not.mp z) (by decide)⟩) (fun M2 hn2 hfr => ⟨fun z => absurd rfl z, fun _ => ⟨Or.inl rfl, _, rfl, h0 M2 ?_ (zfr_up hfr hP1)⟩⟩)
  · refine loop n 0 b' [] M2 (by omega) rfl hb (zfr_up hfr hP1) hpd (fun j L hj => pdy_fr hfr (inP_ne (by omega)) (hE.2 j L (by simpa using hj))) ?_
    rw [List.drop_zero]
    cases ascals (afinv t.1) cs <;> rfl
  · unfold amonic
    dsimp only
    rw [hn2]
/-! divisions -/
def dst (M : zM) (D o : Nat) : Prop := (zsh M D).1 = 10 ∧ zR M D 0 = D + 1 ∧ zR M D 1 = D + 5 ∧ zR M D 2 = D + 9 ∧ zsh M (D + 9) = (5, 24) ∧ (∀ i, i < 24 → zR M (D + 9) i = D + 10 + 4 * i) ∧ pst M (D + 1) o ∧ pst M (D + 5) o ∧ ∀ i, i < 24 → pst M (D + 10 + 4 * i) o
def inD (D a : Nat) : Prop := D ≤ a ∧ a < D + 106
def ddy (M : zM) (D k : Nat) (f r : aP) (qs : List aP) : Prop := pdy M (D + 1) k f ∧ pdy M (D + 5) k r ∧ ∀ (i : Nat) (q : aP), qs[i]? = some q → pdy M (D + 10 + 4 * i) k q
theorem dst_fr {S : Nat → Prop} {M M' : zM} {D o : Nat} (h : zfr S M M') (hd : dst M D o) : dst M' D o := by
  obtain ⟨h1, h2, h3, h4, h5, h6, h7, h8, h9⟩ := hd
  exact ⟨by rw [h.1]; exact h1, by rw [h.2.2.2.1]; exact h2, by rw [h.2.2.2.1]; exact h3, by rw [h.2.2.2.1]; exact h4, by rw [h.1]; exact h5, fun i hi => by rw [h.2.2.2.1]; exact h6 i hi, pst_fr h h7, pst_fr h h8, fun i hi => pst_fr h (h9 i hi)⟩
/-- a row of elements -/
def rst (M : zM) (R o w : Nat) (eid : Nat → Nat) : Prop := zsh M R = (6, 25) ∧ ∀ i, i < 25 → zR M R i = eid i ∧ est M (eid i) o w
theorem rst_fr {S : Nat → Prop} {M M' : zM} {R o w : Nat} {eid : Nat → Nat} (h : zfr S M M') (hr : rst M R o w eid) : rst M' R o w eid := ⟨by rw [h.1]; exact hr.1, fun i hi => ⟨by rw [h.2.2.2.1]; exact (hr.2 i hi).1, est_fr h (hr.2 i hi).2⟩⟩
def lmon : aP → aM
  | [] => (0, 0, 0, 0)
  | t :: _ => t.2
def mdv (a b : aM) : Bool := decide (a.1 ≤ b.1 ∧ a.2.1 ≤ b.2.1 ∧ a.2.2.1 ≤ b.2.2.1 ∧ a.2.2.2 ≤ b.2.2.2)
theorem mdv_iff {a b : aM} : mdv a b = true ↔ mdvd a b := decide_eq_true_iff
/-- the first in the row, but the one left out, whose leading monomial divides -/
def afst (lo : Option Nat) (m : aM) : Nat → List aP → Option Nat
  | _, [] => none
  | i, b :: bs => if lo ≠ some i ∧ mdv (lmon b) m = true then some i else afst lo m (i + 1) bs
def elo : Option Nat → Int32
  | none => -1
  | some i => nI i
theorem elo_eq {lo : Option Nat} {i : Nat} (hi : i < 2 ^ 31) (hlo : ∀ j, lo = some j → j < 2 ^ 31) : nI i = elo lo ↔ lo = some i := by
  cases lo with
  | none =>
    refine ⟨fun h => ?_, fun h => by cases h⟩
    have e := congrArg Int32.toInt h
    rw [nI_toInt hi, show (elo none).toInt = -1 by decide] at e
    omega
  | some j =>
    have := hlo j rfl
    show nI i = nI j ↔ _
    rw [nI_eq hi this]
    exact ⟨fun h => by rw [h], fun h => (Option.some.inj h).symm⟩
theorem sp_firstDivisor {d D R o w k cnt : Nat} {M : zM} {t : aT} {f : aP} {bs : List aP} {eid : Nat → Nat} {lo : Option Nat} {P : Int32 → zM → Prop} (hd : 2 ≤ d) (hD : dst M D o) (hR : rst M R o w eid) (hf : pdy M (D + 1) k (t :: f)) (ht : mok t.2) (hbs : ∀ (i : Nat) (b : aP), bs[i]? = some b → pdy M (eid i + 1) k b ∧ pok k b ∧ b ≠ []) (hc : bs.length = cnt) (hcnt : cnt ≤ 24) (hlo : ∀ j, lo = some j → j < 2 ^ 31) (h : ∀ x : Int32, (∀ i, afst lo t.2 0 bs = some i → x = nI i ∧ i < cnt) → (afst lo t.2 0 bs = none → x = -1) → P x M) : ycI d nX0_firstDivisor [.ref D, .ref R, .int (nI cnt), .int (elo lo)] M P := by
  obtain ⟨d, rfl, hde⟩ := dS hd
  have hp := hD.2.2.2.2.2.2.1
  have c0 : (0 : Int32).toNatClampNeg = 0 := by decide
  have loop : ∀ (r i : Nat), i + r = cnt → afst lo t.2 i (bs.drop i) = afst lo t.2 0 bs → wX0_firstDivisor d (fun r M2 => ∃ x : Int32, r = [.int x] ∧ P x M2) 2 [some (.ref D), some (.ref R), some (.int (nI cnt)), some (.int (elo lo)), some (.int (nI i))] [] M := by
    intro r
    induction r with
    | zero =>
      intro i hr heq
      rw [List.drop_of_length_le (by omega)] at heq
      have heq : none = afst lo t.2 0 bs := heq
      exact sg_X0_firstDivisor_2 _ _ _ _ _ _ ⟨fun _ => ⟨_, rfl, h _ (fun i hi => by rw [← heq] at hi; cases hi) (fun _ => rfl)⟩, fun c => absurd (by rw [show i = cnt by omega]; exact Int32.le_refl _) c⟩
    | succ r ih =>
      intro i hr heq
      have hlt : i < bs.length := by omega
      have hu := List.getElem?_eq_getElem hlt
      obtain ⟨g1, g2, g3⟩ := hbs i _ hu
      rw [List.drop_eq_getElem_cons hlt] at heq
      have heq : (if lo ≠ some i ∧ mdv (lmon bs[i]) t.2 = true then some i else afst lo t.2 (i + 1) (bs.drop (i + 1))) = afst lo t.2 0 bs := heq
      have ci := cl_n (n := i) (by omega)
      have hRi := hR.2 i (by omega)
      have next : ¬ (lo ≠ some i ∧ mdv (lmon bs[i]) t.2 = true) → wX0_firstDivisor d (fun r M2 => ∃ x : Int32, r = [.int x] ∧ P x M2) 2 [some (.ref D), some (.ref R), some (.int (nI cnt)), some (.int (elo lo)), some (.int (nI i + 1))] [] M := fun hz => by
        rw [if_neg hz] at heq
        rw [nI_1]
        exact ih (i + 1) (by omega) heq
      obtain ⟨t2, l2, hb2⟩ : ∃ t2 l2, bs[i] = t2 :: l2 := by
        cases hb : bs[i] with
        | nil => exact absurd hb g3
        | cons t2 l2 => exact ⟨t2, l2, rfl⟩
      rw [hb2] at g1 g2
      have ht2 := g2.1 t2 List.mem_cons_self
      refine sg_X0_firstDivisor_2 _ _ _ _ _ _ ⟨fun c => ?_, fun _ => ⟨fun c => next fun z => z.1 ((elo_eq (by omega) hlo).mp c), fun c => ⟨by rw [hR.1], by rw [hR.1]; exact zin_n (by omega) (by omega), by rw [ci, hRi.1]; exact hRi.2.1, ?_⟩⟩⟩
      · have := (nI_leI (by omega) (by omega)).mp c
        omega
      · rw [ci, hRi.1]
        refine sp_leading (by omega) hRi.2 g1 ⟨hD.1, by rw [hD.2.1]; exact hp.1, by rw [hD.2.1]; exact p_k2 hp, by rw [hD.2.1, p_l2 hp]; exact zin_n (j := 0) (by omega) (by omega), ?_⟩
        rw [hD.2.1, hp.2.2.2.1, c0, (hf.2 0 t rfl).2.1]
        have hlm : lmon bs[i] = t2.2 := by rw [hb2]; rfl
        refine sp_divides (by omega) ht2.2.2 ht (fun hdv => ⟨fun z => absurd z (by decide), fun _ => ⟨_, rfl, ?_⟩⟩) (fun hdv => ⟨fun _ => next fun z => hdv ?_, fun z => absurd rfl z⟩)
        · rw [if_pos ⟨fun z => c ((elo_eq (by omega) hlo).mpr z), by rw [hlm, mdv_iff]; exact hdv⟩] at heq
          exact h _ (fun j hj => by rw [← heq] at hj; cases hj; exact ⟨rfl, by omega⟩) (fun hn => by rw [← heq] at hn; cases hn)
        · have := z.2
          rw [hlm, mdv_iff] at this
          exact this
  exact en_X0_firstDivisor _ _ _ _ M (sg_X0_firstDivisor_0 _ _ _ _ M (loop cnt 0 (by omega) rfl))
theorem sp_allow {d D o lim : Nat} {M : zM} {P : zM → Prop} (hd : 1 ≤ d) (hD : dst M D o) (h : ∀ M', zfr (fun a => a = D) M M' → zI M' D 3 = 0 → zI M' D 4 = nI lim → P M') : ycV d nX0_allow [.ref D, .int (nI lim)] M P := by
  obtain ⟨d, rfl, hde⟩ := dS hd
  refine en_X0_allow _ _ M (sg_X0_allow_0 _ _ M ⟨hD.1, ?_⟩)
  intro M1
  refine ⟨hD.1, ?_⟩
  intro M2
  refine ⟨rfl, h M2 (zfr_tr (zfr_uI rfl) (zfr_uI rfl)) ?_ ?_⟩
  · rw [show M2 = zuI M1 D 3 0 from rfl, zI_uI, if_pos ⟨rfl, rfl⟩]
  · rw [show M2 = zuI M1 D 3 0 from rfl, zI_uI, if_neg (by omega), show M1 = zuI M D 4 (nI lim) from rfl, zI_uI, if_pos ⟨rfl, rfl⟩]
def inD1 (D a : Nat) : Prop := D + 1 ≤ a ∧ a < D + 106
theorem sp_makeReady {d D o k cnt : Nat} {M : zM} {P : zM → Prop} (hd : 2 ≤ d) (hD : dst M D o) (hcnt : cnt ≤ 24) (h : ∀ M', zfr (inD1 D) M M' → ddy M' D k [] [] (List.replicate cnt []) → P M') : ycV d nX0_makeReady [.ref D, .int (nI cnt)] M P := by
  obtain ⟨d, rfl, hde⟩ := dS hd
  have loop : ∀ (r i : Nat) (M' : zM), i + r = cnt → zfr (inD1 D) M M' → pdy M' (D + 1) k [] → pdy M' (D + 5) k [] → (∀ j, j < i → pdy M' (D + 10 + 4 * j) k []) → wX0_makeReady d (fun r M2 => r = [] ∧ P M2) 8 [some (.ref D), some (.int (nI cnt)), some (.int (nI i))] [] M' := by
    intro r
    induction r with
    | zero =>
      intro i M' hr hfr h1 h2 h3
      refine sg_X0_makeReady_8 _ _ _ _ ⟨fun _ => ⟨rfl, h M' hfr ⟨h1, h2, fun j q hj => ?_⟩⟩, fun c => absurd (by rw [show i = cnt by omega]; exact Int32.le_refl _) c⟩
      rw [List.getElem?_replicate] at hj
      split at hj
      · cases hj
        exact h3 j (by omega)
      · cases hj
    | succ r ih =>
      intro i M' hr hfr h1 h2 h3
      have hD' := dst_fr hfr hD
      have ci := cl_n (n := i) (by omega)
      have hpi := hD'.2.2.2.2.2.2.2.2 i (by omega)
      refine sg_X0_makeReady_8 _ _ _ _ ⟨fun c => ?_, fun _ => ⟨hD'.1, by rw [hD'.2.2.2.1, hD'.2.2.2.2.1], by rw [hD'.2.2.2.1, hD'.2.2.2.2.1]; exact zin_n (by omega) (by omega), by rw [hD'.2.2.2.1, ci, hD'.2.2.2.2.2.1 i (by omega)]; exact hpi.1, ?_⟩⟩
      · have := (nI_leI (by omega) (by omega)).mp c
        omega
      · rw [hD'.2.2.2.1, ci, hD'.2.2.2.2.2.1 i (by omega)]
        refine sp_empty (k := k) (by omega) hpi fun M2 hfr2 hpd => ?_
        intro v2
        rw [show v2 = nI (i + 1) from nI_1 i]
        refine ih (i + 1) M2 (by omega) (zfr_tr hfr (zfr_up hfr2 fun a ha => by unfold inP at ha; unfold inD1; omega)) (pdy_fr hfr2 (inP_ne (by omega)) h1) (pdy_fr hfr2 (inP_ne (by omega)) h2) fun j hj => ?_
        by_cases hji : j = i
        · subst hji; exact hpd
        · exact pdy_fr hfr2 (inP_ne (by omega)) (h3 j (by omega))
  have hp1 := hD.2.2.2.2.2.2.1
  refine en_X0_makeReady _ _ M (sg_X0_makeReady_0 _ _ M ⟨hD.1, by rw [hD.2.1]; exact hp1.1, ?_⟩)
  rw [hD.2.1]
  refine sp_empty (k := k) (by omega) hp1 fun M1 hfr1 hpd1 => ?_
  have hD1 := dst_fr hfr1 hD
  have hp2 := hD1.2.2.2.2.2.2.2.1
  refine ⟨hD1.1, by rw [hD1.2.2.1]; exact hp2.1, ?_⟩
  rw [hD1.2.2.1]
  refine sp_empty (k := k) (by omega) hp2 fun M2 hfr2 hpd2 => ?_
  exact loop cnt 0 M2 (by omega) (zfr_tr (zfr_up hfr1 fun a ha => by unfold inP at ha; unfold inD1; omega) (zfr_up hfr2 fun a ha => by unfold inP at ha; unfold inD1; omega)) (pdy_fr hfr2 (inP_ne (by omega)) hpd1) hpd2 fun j hj => absurd hj (by omega)
