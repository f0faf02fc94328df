/-! which steps end a method, which call -/
def znr (r : zRes) : Prop := match r with
  | none => True
  | some (_, ch, o) => (∀ w, o ≠ .inr (.inl w)) ∧ ∀ q ∈ ch, ∀ w, q.2 ≠ .inr (.inl w)
theorem znr_nx {i : Nat} {lv : zLv} {st : List Value} {M : zM} : znr (znx i lv st M) := ⟨fun _ h => (by cases h), fun _ h => by cases h⟩
theorem znr_cs {cs : List Prop} {i : Nat} {lv : zLv} {st : List Value} {M : zM} : znr (zcs cs i lv st M) := ⟨fun _ h => (by cases h), fun _ h => by cases h⟩
theorem znr_br {c : Prop} {t i : Nat} {lv : zLv} {st : List Value} {M : zM} : znr (zbr c t i lv st M) := ⟨fun _ h => (by cases h), fun q h => by
  rw [List.mem_singleton] at h
  subst h
  intro w hw
  cases hw⟩
theorem zsw_nr {x : Int32} {lv : zLv} {r : List Value} {M : zM} : ∀ (ts : List Int) (v : Int) (q : Prop × zO), q ∈ zsw x lv r M v ts → ∀ w, q.2 ≠ .inr (.inl w)
  | [], _, _, h => by cases h
  | t :: ts, v, q, h => by
    rcases List.mem_cons.mp h with rfl | h
    · intro w hw; cases hw
    · exact zsw_nr ts (v + 1) q h
theorem znr_call {x : Nat} {ob : Bool} {i : Nat} {lv : zLv} {st : List Value} {M : zM} : znr (zcall x ob i lv st M) := by
  unfold zcall
  split
  · trivial
  · cases Nat.ble _ 8
    · trivial
    · cases ob
      · exact ⟨fun _ h => (by cases h), fun _ h => by cases h⟩
      · dsimp only [cond]
        split
        · exact ⟨fun _ h => (by cases h), fun _ h => by cases h⟩
        · trivial
theorem znr_pick {cs : List Prop} {ch : List (Prop × zO)} {o : zO} (h : znr (some (cs, ch, o))) (w : List Value × zM) : zpick ch o ≠ .inr (.inl w) := by
  rcases zpick_mem ch o with e | ⟨q, hq, e⟩
  · rw [e]; exact h.1 w
  · rw [e]; exact h.2 q hq w
theorem znr_ti {st : List Value} {f : Int32 → List Value → zRes} (h : ∀ a0 a1, znr (f a0 a1)) : znr (zti st f) := by
  unfold zti; split
  · exact h _ _
  · trivial
theorem znr_tii {st : List Value} {f : Int32 → Int32 → List Value → zRes} (h : ∀ a0 a1 a2, znr (f a0 a1 a2)) : znr (ztii st f) := by
  unfold ztii; split
  · exact h _ _ _
  · trivial
theorem znr_tl {st : List Value} {f : Int64 → List Value → zRes} (h : ∀ a0 a1, znr (f a0 a1)) : znr (ztl st f) := by
  unfold ztl; split
  · exact h _ _
  · trivial
theorem znr_tll {st : List Value} {f : Int64 → Int64 → List Value → zRes} (h : ∀ a0 a1 a2, znr (f a0 a1 a2)) : znr (ztll st f) := by
  unfold ztll; split
  · exact h _ _ _
  · trivial
theorem znr_tli {st : List Value} {f : Int64 → Int32 → List Value → zRes} (h : ∀ a0 a1 a2, znr (f a0 a1 a2)) : znr (ztli st f) := by
  unfold ztli; split
  · exact h _ _ _
  · trivial
theorem znr_tr {st : List Value} {f : Nat → List Value → zRes} (h : ∀ a0 a1, znr (f a0 a1)) : znr (ztr st f) := by
  unfold ztr; split
  · exact h _ _
  · trivial
theorem znr_tri {st : List Value} {f : Nat → Int32 → List Value → zRes} (h : ∀ a0 a1 a2, znr (f a0 a1 a2)) : znr (ztri st f) := by
  unfold ztri; split
  · exact h _ _ _
  · trivial
theorem znr_trii {st : List Value} {f : Nat → Int32 → Int32 → List Value → zRes} (h : ∀ a0 a1 a2 a3, znr (f a0 a1 a2 a3)) : znr (ztrii st f) := by
  unfold ztrii; split
  · exact h _ _ _ _
  · trivial
theorem znr_tril {st : List Value} {f : Nat → Int32 → Int64 → List Value → zRes} (h : ∀ a0 a1 a2 a3, znr (f a0 a1 a2 a3)) : znr (ztril st f) := by
  unfold ztril; split
  · exact h _ _ _ _
  · trivial
theorem znr_trir {st : List Value} {f : Nat → Int32 → Nat → List Value → zRes} (h : ∀ a0 a1 a2 a3, znr (f a0 a1 a2 a3)) : znr (ztrir st f) := by
  unfold ztrir; split
  · exact h _ _ _ _
  · trivial
theorem znr_trr {st : List Value} {f : Nat → Nat → List Value → zRes} (h : ∀ a0 a1 a2, znr (f a0 a1 a2)) : znr (ztrr st f) := by
  unfold ztrr; split
  · exact h _ _ _
  · trivial
theorem znr_tcp {st : List Value} {f : Nat → Int32 → Nat → Int32 → Int32 → zRes} (h : ∀ a0 a1 a2 a3 a4, znr (f a0 a1 a2 a3 a4)) : znr (ztcp st f) := by
  unfold ztcp; split
  · exact h _ _ _ _ _
  · trivial
theorem znr_tii0 {st : List Value} {f : Int32 → Int32 → zRes} (h : ∀ a0 a1, znr (f a0 a1)) : znr (ztii0 st f) := by
  unfold ztii0; split
  · exact h _ _
  · trivial
theorem znr_tr0 {st : List Value} {f : Nat → zRes} (h : ∀ a0, znr (f a0)) : znr (ztr0 st f) := by
  unfold ztr0; split
  · exact h _
  · trivial
set_option maxHeartbeats 4000000 in
theorem znr_step (rk : Nat) (ins : Instr) (i : Nat) (lv : zLv) (st : List Value) (M : zM) (h1 : ins ≠ .ireturn) (h2 : ins ≠ .lreturn) (h3 : ins ≠ .areturn) (h4 : ins ≠ .return_) : znr (zstep rk ins i lv st M) := by
  unfold zstep
  split
  all_goals first
    | exact trivial
    | exact znr_nx
    | exact znr_ti fun _ _ => znr_nx
    | exact znr_ti fun _ _ => znr_cs
    | exact znr_tii fun _ _ _ => znr_nx
    | exact znr_tii fun _ _ _ => znr_cs
    | exact znr_tl fun _ _ => znr_nx
    | exact znr_tl fun _ _ => znr_cs
    | exact znr_tll fun _ _ _ => znr_nx
    | exact znr_tll fun _ _ _ => znr_cs
    | exact znr_tli fun _ _ _ => znr_nx
    | exact znr_tli fun _ _ _ => znr_cs
    | exact znr_tr fun _ _ => znr_nx
    | exact znr_tr fun _ _ => znr_cs
    | exact znr_tri fun _ _ _ => znr_nx
    | exact znr_tri fun _ _ _ => znr_cs
    | exact znr_trii fun _ _ _ _ => znr_nx
    | exact znr_trii fun _ _ _ _ => znr_cs
    | exact znr_tril fun _ _ _ _ => znr_nx
    | exact znr_tril fun _ _ _ _ => znr_cs
    | exact znr_trir fun _ _ _ _ => znr_nx
    | exact znr_trir fun _ _ _ _ => znr_cs
    | exact znr_trr fun _ _ _ => znr_nx
    | exact znr_trr fun _ _ _ => znr_cs
    | exact znr_tcp fun _ _ _ _ _ => znr_nx
    | exact znr_tcp fun _ _ _ _ _ => znr_cs
    | exact znr_tii0 fun _ _ => znr_nx
    | exact znr_tii0 fun _ _ => znr_cs
    | exact znr_tr0 fun _ => znr_nx
    | exact znr_tr0 fun _ => znr_cs
    | exact znr_ti fun _ _ => znr_br
    | exact znr_tii fun _ _ _ => znr_br
    | exact znr_call
    | exact absurd rfl h1
    | exact absurd rfl h2
    | exact absurd rfl h3
    | exact absurd rfl h4
    | exact znr_ti fun _ _ => ⟨fun _ h => (by cases h), fun q hq => zsw_nr _ _ q hq⟩
    | (split
       · exact znr_nx
       · exact trivial)
    | (split
       · exact znr_nx
       · exact znr_nx
       · exact trivial)
    | skip
  all_goals
    cases h : (_ % 10 == 2)
    · dsimp only [cond]
      split
      · exact znr_cs
      · exact trivial
    · exact znr_trr fun _ _ _ => znr_cs
theorem zs_noret {rk : Nat} {ins : Instr} {i : Nat} {lv : zLv} {st : List Value} {M : zM} {cs : List Prop} {ch : List (Prop × zO)} {q : zO} (hst : zstep rk ins i lv st M = some (cs, ch, q)) (h1 : ¬ ins = .ireturn) (h2 : ¬ ins = .lreturn) (h3 : ¬ ins = .areturn) (h4 : ¬ ins = .return_) {w : List Value × zM} : zpick ch q ≠ .inr (.inl w) := by
  have h := znr_step rk ins i lv st M h1 h2 h3 h4
  rw [hst] at h
  exact znr_pick h w
/-! ends, calls, whole methods -/
def zQc (D : va_G) (cO : Nat → ClassId) (A : Nat → Prop) (b L : Nat) (xs : Nat → Int32) (ad0 : Nat → Nat) (n0 : Nat) (r0 : List Value) (Mf : zM) : Array Value → State → Outcome → State → Prop := fun _ st oc t =>
  (∃ ad' : Nat → Nat, (∀ x, x < n0 → ad' x = ad0 x) ∧ oc = .returned ((r0.map (zV ad')).head?) ∧ va_P D gCl (zws gFk cO ad' Mf) t.heap ∧ va_D A (zws gFk cO ad' Mf) ∧ zinv Mf ∧ zscr L xs Mf ∧ ad' 1 = b ∧ ∀ v ∈ r0, zval (zn Mf) v) ∧ va_F A st t
section ZR
variable {p : Program} {l : Launch} {e : Env} {R : Room} {s : State} {m : MethodId} {args : Array Value} {below : List Frame} {meth : Method} {c : Code} {D : va_G} {cO : Nat → ClassId} {A : Nat → Prop} {b L : Nat} {xs : Nat → Int32} {ad0 : Nat → Nat} {n0 s0 k : Nat} {i pc len : Nat} {lv : zLv} {st : List Value} {M : zM} {o : Instr}
theorem zs_ret (F : zfx p R s m args meth c D cO A b L xs k) (hpc : zat (gPc k) i = some pc) (hdec : decode (gMe k).2.1 pc = .ok (o, len)) {ins : Instr} (hm : zmt (gMe k).1 (gMe k).2.2.1 (gPc k) i pc o len ins = true) {cs : List Prop} {ch : List (Prop × zO)} {q : zO} (hst : zstep (zrk (gMe k).2.2.2) ins i lv st M = some (cs, ch, q)) (hcs : ∀ c ∈ cs, c) {r0 : List Value} {Mf : zM} (hq : zpick ch q = .inr (.inl (r0, Mf))) : zGo p l e R s m args below meth c (MQ below (zQc D cO A b L xs ad0 n0 r0 Mf) args s (zn Mf - n0) (zs Mf - s0) A) D cO A b L xs ad0 n0 s0 k i lv st M := by
  have hg := zgr_step (zrk (gMe k).2.2.2) ins i lv st M
  intro ad ls H locs h
  obtain ⟨hx, hb, hml, hown, hts, hnest, hover, hr, hlocks, hname, hK, hX, hbl, hbA, hA, hfr, hlo⟩ := F
  have fin : ∀ (r : List Value), (∀ v ∈ r, v ∈ st) → ∀ t : State, t.heap = H → s.WarmedH t.vm → zQc D cO A b L xs ad0 n0 r M args s (.returned ((r.map (zV ad)).head?)) t := fun r hr t ht _ =>
    ⟨⟨ad, h.2.2.2.2.2.2.2.2.2.1, rfl, by rw [ht]; exact h.1, h.2.1, h.2.2.2.1, h.2.2.2.2.1, h.2.2.2.2.2.1, fun v hv => h.2.2.2.2.2.2.2.1 v (hr v hv)⟩, h.2.2.1.F ht⟩
  have hrt := hr
  rw [hpc]
  have base : (∃ v : Int32, ins = .ireturn ∧ st = [.int v]) ∨ (∃ v : Int64, ins = .lreturn ∧ st = [.long v]) ∨ (∃ v : Nat, ins = .areturn ∧ st = [.ref v]) ∨ (ins = .return_ ∧ st = []) ∨ False := by
    by_cases h1 : ins = .ireturn
    · subst h1
      simp only [zstep] at hst
      split at hst
      · exact Or.inl ⟨_, rfl, rfl⟩
      · cases hst
    · by_cases h2 : ins = .lreturn
      · subst h2
        simp only [zstep] at hst
        split at hst
        · exact Or.inr (Or.inl ⟨_, rfl, rfl⟩)
        · cases hst
      · by_cases h3 : ins = .areturn
        · subst h3
          simp only [zstep] at hst
          split at hst
          · exact Or.inr (Or.inr (Or.inl ⟨_, rfl, rfl⟩))
          · cases hst
        · by_cases h4 : ins = .return_
          · subst h4
            simp only [zstep] at hst
            split at hst
            · exact Or.inr (Or.inr (Or.inr (Or.inl ⟨rfl, rfl⟩)))
            · cases hst
          · exact absurd hq (zs_noret hst h1 h2 h3 h4)
  rcases base with ⟨v, rfl, rfl⟩ | ⟨v, rfl, rfl⟩ | ⟨v, rfl, rfl⟩ | ⟨rfl, rfl⟩ | hF
  · obtain ⟨rfl, rfl⟩ : _ ∧ _ := by simpa only [zmt, Bool.and_eq_true, decide_eq_true_eq] using hm
    have hst : zretq (zrk (gMe k).2.2.2) [.int v] M = some (cs, ch, q) := hst
    rw [zretq_no hst] at hq
    cases hq
    unfold zretq at hst
    dsimp only at hst
    cases hrk : (gMe k).2.2.2 with
    | none => rw [hrk] at hst; cases hst
    | some t =>
      cases t with
      | int => rw [hrk] at hrt; exact W.iret hx hb hrt (fin [.int v] (fun _ h => h)) h.2.2.1.2.2 hdec
      | boolean =>
        rw [hrk] at hst hrt
        cases hst
        have hz : zb v := hcs _ List.mem_cons_self
        exact W.zret (ty := .boolean) hx hb hrt (by rcases hz with rfl | rfl <;> decide) (fin [.int v] (fun _ h => h)) h.2.2.1.2.2 hdec
      | _ => rw [hrk] at hst; cases hst
  · obtain ⟨rfl, rfl⟩ : _ ∧ _ := by simpa only [zmt, Bool.and_eq_true, decide_eq_true_eq] using hm
    have hst : zretq (zrk (gMe k).2.2.2) [.long v] M = some (cs, ch, q) := hst
    rw [zretq_no hst] at hq
    cases hq
    unfold zretq at hst
    dsimp only at hst
    cases hrk : (gMe k).2.2.2 with
    | none => rw [hrk] at hst; cases hst
    | some t =>
      cases t with
      | long => rw [hrk] at hrt; exact W.lret hx hb hrt (fin [.long v] (fun _ h => h)) h.2.2.1.2.2 hdec
      | _ => rw [hrk] at hst; cases hst
  · obtain ⟨rfl, rfl⟩ : _ ∧ _ := by simpa only [zmt, Bool.and_eq_true, decide_eq_true_eq] using hm
    have hst : zretq (zrk (gMe k).2.2.2) [.ref v] M = some (cs, ch, q) := hst
    rw [zretq_no hst] at hq
    cases hq
    unfold zretq at hst
    dsimp only at hst
    have hv : zV ad (.ref v) = .null ∨ ∃ a, zV ad (.ref v) = .ref a := by
      show va_rf (zro ad v) = .null ∨ ∃ a, va_rf (zro ad v) = .ref a
      cases zro ad v
      · exact Or.inl rfl
      · exact Or.inr ⟨_, rfl⟩
    cases hrk : (gMe k).2.2.2 with
    | none => rw [hrk] at hst; cases hst
    | some t =>
      cases t with
      | object nm => rw [hrk] at hrt; exact W.aret (v := zV ad (.ref v)) hx hb hrt (Or.inl ⟨_, rfl⟩) hv (fin [.ref v] (fun _ h => h)) h.2.2.1.2.2 hdec
      | array nm => rw [hrk] at hrt; exact W.aret (v := zV ad (.ref v)) hx hb hrt (Or.inr ⟨_, rfl⟩) hv (fin [.ref v] (fun _ h => h)) h.2.2.1.2.2 hdec
      | _ => rw [hrk] at hst; cases hst
  · obtain ⟨rfl, rfl⟩ : _ ∧ _ := by simpa only [zmt, Bool.and_eq_true, decide_eq_true_eq] using hm
    have hst : zretq (zrk (gMe k).2.2.2) [] M = some (cs, ch, q) := hst
    rw [zretq_no hst] at hq
    cases hq
    unfold zretq at hst
    dsimp only at hst
    cases hrk : (gMe k).2.2.2 with
    | none => rw [hrk] at hrt; exact W.vret hx hb hrt (fin [] (fun _ h => h)) h.2.2.1.2.2 hdec
    | some t => cases t <;> (rw [hrk] at hst; cases hst)
  · exact hF.elim
end ZR
