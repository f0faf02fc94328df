def zcj : List Prop → Prop → Prop
  | [], p => p
  | c :: l, p => c ∧ zcj l p
def zch {α : Type} : List (Prop × α) → α → (α → Prop) → Prop
  | [], o, k => k o
  | (c, x) :: l, o, k => (c → k x) ∧ (¬ c → zch l o k)
noncomputable def zpick {α : Type} : List (Prop × α) → α → α
  | [], o => o
  | (c, x) :: l, o => @ite α c (Classical.propDecidable c) x (zpick l o)
/-- the answer of a call, by its kind -/
def zrv (rk : Nat) (r : List Value) (f : List Value → Prop) : Prop := match rk with
  | 0 => r = [] ∧ f []
  | 1 => ∃ x : Int32, r = [.int x] ∧ f [.int x]
  | 2 => ∃ x : Int32, r = [.int x] ∧ f [.int x]
  | 3 => ∃ x : Int64, r = [.long x] ∧ f [.long x]
  | _ => ∃ x : Nat, r = [.ref x] ∧ f [.ref x]
abbrev zCall : Type := Nat → List Value → zM → (List Value → zM → Prop) → Prop
def zout (Cl : zCall) (k : Nat → zLv → List Value → zM → Prop) (Q : List Value → zM → Prop) : zO → Prop
  | .inl (i, lv, st, M) => k i lv st M
  | .inr (.inl (r, M)) => Q r M
  | .inr (.inr (m, rk, as, i, lv, st, M)) => Cl m as M fun r M2 => zrv rk r fun vs => k i lv (vs ++ st) M2
def zres (r : zRes) (k : zO → Prop) : Prop := match r with
  | none => False
  | some (cs, ch, o) => zcj cs (zch ch o k)
def zgo (rk : Nat) (code : List Instr) (i : Nat) (lv : zLv) (st : List Value) (M : zM) (k : zO → Prop) : Prop := match zat code i with
  | none => False
  | some ins => zres (zstep rk ins i lv st M) k
/-- from here on, in at most so many steps: to an end with Q, or to a place where it stops, with K -/
def zwp (Cl : zCall) (rk : Nat) (code : List Instr) (stop : Nat → Bool) (K : Nat → zLv → List Value → zM → Prop) (Q : List Value → zM → Prop) : Nat → Nat → zLv → List Value → zM → Prop
  | 0, _, _, _, _ => False
  | f + 1, i, lv, st, M => zgo rk code i lv st M (zout Cl (fun i lv st M => cond (stop i) (K i lv st M) (zwp Cl rk code stop K Q f i lv st M)) Q)
def zW (Cl : zCall) (rk : Nat) (code : List Instr) (Q : List Value → zM → Prop) (i : Nat) (lv : zLv) (st : List Value) (M : zM) : Prop := ∃ f, zwp Cl rk code (fun _ => false) (fun _ _ _ _ => False) Q f i lv st M
theorem zcj_imp : ∀ {cs : List Prop} {p q : Prop}, (p → q) → zcj cs p → zcj cs q
  | [], _, _, h, a => h a
  | _ :: _, _, _, h, a => ⟨a.1, zcj_imp h a.2⟩
theorem zcj_iff : ∀ {cs : List Prop} {p : Prop}, zcj cs p ↔ (∀ c ∈ cs, c) ∧ p
  | [], p => ⟨fun h => ⟨fun c hc => absurd hc List.not_mem_nil, h⟩, fun h => h.2⟩
  | c :: cs, p => by
    show c ∧ zcj cs p ↔ _
    rw [zcj_iff]
    constructor
    · rintro ⟨a, b, d⟩
      refine ⟨fun x hx => ?_, d⟩
      rcases List.mem_cons.mp hx with rfl | hx
      · exact a
      · exact b x hx
    · rintro ⟨a, d⟩
      exact ⟨a _ List.mem_cons_self, fun x hx => a x (List.mem_cons_of_mem _ hx), d⟩
theorem zch_iff {α : Type} : ∀ {ch : List (Prop × α)} {o : α} {k : α → Prop}, zch ch o k ↔ k (zpick ch o)
  | [], o, k => Iff.rfl
  | (c, x) :: l, o, k => by
    show ((c → k x) ∧ (¬ c → zch l o k)) ↔ k (@ite α c (Classical.propDecidable c) x (zpick l o))
    rw [zch_iff]
    by_cases h : c
    · simp [h]
    · simp [h]
theorem zrv_iff {rk : Nat} {r : List Value} {f : List Value → Prop} : zrv rk r f ↔ zrv rk r (fun _ => True) ∧ f r := by
  unfold zrv
  split
  · exact ⟨fun ⟨h, a⟩ => ⟨⟨h, trivial⟩, h ▸ a⟩, fun ⟨⟨h, _⟩, a⟩ => ⟨h, h ▸ a⟩⟩
  · exact ⟨fun ⟨x, h, a⟩ => ⟨⟨x, h, trivial⟩, h ▸ a⟩, fun ⟨⟨x, h, _⟩, a⟩ => ⟨x, h, h ▸ a⟩⟩
  · exact ⟨fun ⟨x, h, a⟩ => ⟨⟨x, h, trivial⟩, h ▸ a⟩, fun ⟨⟨x, h, _⟩, a⟩ => ⟨x, h, h ▸ a⟩⟩
  · exact ⟨fun ⟨x, h, a⟩ => ⟨⟨x, h, trivial⟩, h ▸ a⟩, fun ⟨⟨x, h, _⟩, a⟩ => ⟨x, h, h ▸ a⟩⟩
  · exact ⟨fun ⟨x, h, a⟩ => ⟨⟨x, h, trivial⟩, h ▸ a⟩, fun ⟨⟨x, h, _⟩, a⟩ => ⟨x, h, h ▸ a⟩⟩
/-- calls are good: they say no less of more, and have one end -/
def zgood (Cl : zCall) : Prop := (∀ m as M (Q Q' : List Value → zM → Prop), (∀ r M2, Q r M2 → Q' r M2) → Cl m as M Q → Cl m as M Q') ∧ ∀ m as M Q, Cl m as M Q → ∃ r M2, Q r M2 ∧ zn M ≤ zn M2 ∧ zs M ≤ zs M2 ∧ Cl m as M (fun r' M' => r' = r ∧ M' = M2)
theorem zres_imp {r : zRes} {k k' : zO → Prop} (h : ∀ o, k o → k' o) (a : zres r k) : zres r k' := by
  match r, a with
  | some (cs, ch, o), a => exact zcj_imp (fun b => zch_iff.mpr (h _ (zch_iff.mp b))) a
theorem zgo_imp {rk : Nat} {code : List Instr} {i : Nat} {lv : zLv} {st : List Value} {M : zM} {k k' : zO → Prop} (h : ∀ o, k o → k' o) (a : zgo rk code i lv st M k) : zgo rk code i lv st M k' := by
  unfold zgo at a ⊢
  split at a
  · exact a
  · exact zres_imp h a
theorem zout_imp {Cl : zCall} (hC : zgood Cl) {k k' : Nat → zLv → List Value → zM → Prop} {Q Q' : List Value → zM → Prop} (hk : ∀ i lv st M, k i lv st M → k' i lv st M) (hQ : ∀ r M, Q r M → Q' r M) : ∀ o, zout Cl k Q o → zout Cl k' Q' o
  | .inl (_, _, _, _), a => hk _ _ _ _ a
  | .inr (.inl (_, _)), a => hQ _ _ a
  | .inr (.inr (m, rk, as, i, lv, st, M)), a => hC.1 m as M _ _ (fun r M2 b => zrv_iff.mpr ⟨(zrv_iff.mp b).1, hk _ _ _ _ (zrv_iff.mp b).2⟩) a
theorem zwp_imp {Cl : zCall} (hC : zgood Cl) {rk : Nat} {code : List Instr} {stop : Nat → Bool} {K K' : Nat → zLv → List Value → zM → Prop} {Q Q' : List Value → zM → Prop} (hK : ∀ i lv st M, K i lv st M → K' i lv st M) (hQ : ∀ r M, Q r M → Q' r M) : ∀ (f i : Nat) (lv : zLv) (st : List Value) (M : zM), zwp Cl rk code stop K Q f i lv st M → zwp Cl rk code stop K' Q' f i lv st M
  | 0, _, _, _, _, a => a
  | f + 1, i, lv, st, M, a => zgo_imp (zout_imp hC (fun i lv st M b => by
      cases hs : stop i
      · rw [hs] at b; exact zwp_imp hC hK hQ f i lv st M b
      · rw [hs] at b; exact hK _ _ _ _ b) hQ) a
theorem zwp_fuel {Cl : zCall} (hC : zgood Cl) {rk : Nat} {code : List Instr} {stop : Nat → Bool} {K : Nat → zLv → List Value → zM → Prop} {Q : List Value → zM → Prop} : ∀ (f f' i : Nat) (lv : zLv) (st : List Value) (M : zM), f ≤ f' → zwp Cl rk code stop K Q f i lv st M → zwp Cl rk code stop K Q f' i lv st M
  | 0, _, _, _, _, _, _, a => a.elim
  | f + 1, 0, _, _, _, _, h, _ => absurd h (Nat.not_succ_le_zero f)
  | f + 1, f' + 1, i, lv, st, M, h, a => zgo_imp (zout_imp hC (fun i lv st M b => by
      cases hs : stop i
      · rw [hs] at b; exact zwp_fuel hC f f' i lv st M (Nat.le_of_succ_le_succ h) b
      · rw [hs] at b; exact b) (fun _ _ b => b)) a
def zOM : zO → zM
  | .inl (_, _, _, M) => M
  | .inr (.inl (_, M)) => M
  | .inr (.inr (_, _, _, _, _, _, M)) => M
/-- memory only grows -/
def zgr (M : zM) (r : zRes) : Prop := match r with
  | none => True
  | some (_, ch, o) => (zn M ≤ zn (zOM o) ∧ zs M ≤ zs (zOM o)) ∧ ∀ q ∈ ch, zn M ≤ zn (zOM q.2) ∧ zs M ≤ zs (zOM q.2)
theorem zgr_nx {M : zM} {i : Nat} {lv : zLv} {st : List Value} {M' : zM} (h : zn M ≤ zn M' ∧ zs M ≤ zs M') : zgr M (znx i lv st M') := ⟨h, fun _ h => by cases h⟩
theorem zgr_cs {M : zM} {cs : List Prop} {i : Nat} {lv : zLv} {st : List Value} {M' : zM} (h : zn M ≤ zn M' ∧ zs M ≤ zs M') : zgr M (zcs cs i lv st M') := ⟨h, fun _ h => by cases h⟩
theorem zgr_br {M : zM} {c : Prop} {t i : Nat} {lv : zLv} {st : List Value} : zgr M (zbr c t i lv st M) := ⟨⟨Nat.le_refl _, Nat.le_refl _⟩, fun q h => by
  rw [List.mem_singleton] at h
  subst h
  exact ⟨Nat.le_refl _, Nat.le_refl _⟩⟩
theorem zsw_mem {x : Int32} {lv : zLv} {r : List Value} {M : zM} : ∀ (ts : List Int) (v : Int) (q : Prop × zO), q ∈ zsw x lv r M v ts → zOM q.2 = M
  | [], _, _, h => by cases h
  | t :: ts, v, q, h => by
    rcases List.mem_cons.mp h with rfl | h
    · rfl
    · exact zsw_mem ts (v + 1) q h
theorem zgr_call {M : zM} {x : Nat} {ob : Bool} {i : Nat} {lv : zLv} {st : List Value} : zgr M (zcall x ob i lv st M) := by
  have h0 : zn M ≤ zn M ∧ zs M ≤ zs M := ⟨Nat.le_refl _, Nat.le_refl _⟩
  unfold zcall
  split
  · trivial
  · cases Nat.ble _ 8
    · trivial
    · cases ob
      · exact ⟨h0, fun _ h => by cases h⟩
      · dsimp only [cond]
        split
        · exact ⟨h0, fun _ h => by cases h⟩
        · trivial
theorem zgr_retq {M : zM} {rk : Nat} {st : List Value} : zgr M (zretq rk st M) := by
  have h0 : zn M ≤ zn M ∧ zs M ≤ zs M := ⟨Nat.le_refl _, Nat.le_refl _⟩
  unfold zretq
  split
  · cases rk == 0
    · trivial
    · exact ⟨h0, fun _ h => by cases h⟩
  · cases rk == 1
    · cases rk == 2
      · trivial
      · exact ⟨h0, fun _ h => by cases h⟩
    · exact ⟨h0, fun _ h => by cases h⟩
  · cases rk == 3
    · trivial
    · exact ⟨h0, fun _ h => by cases h⟩
  · cases rk == 4
    · trivial
    · exact ⟨h0, fun _ h => by cases h⟩
  · trivial
theorem zgr_ti {M : zM} {st : List Value} {f : Int32 → List Value → zRes} (h : ∀ x r, zgr M (f x r)) : zgr M (zti st f) := by
  unfold zti; split
  · exact h _ _
  · trivial
theorem zgr_tii {M : zM} {st : List Value} {f : Int32 → Int32 → List Value → zRes} (h : ∀ x y r, zgr M (f x y r)) : zgr M (ztii st f) := by
  unfold ztii; split
  · exact h _ _ _
  · trivial
theorem zgr_tl {M : zM} {st : List Value} {f : Int64 → List Value → zRes} (h : ∀ x r, zgr M (f x r)) : zgr M (ztl st f) := by
  unfold ztl; split
  · exact h _ _
  · trivial
theorem zgr_tll {M : zM} {st : List Value} {f : Int64 → Int64 → List Value → zRes} (h : ∀ x y r, zgr M (f x y r)) : zgr M (ztll st f) := by
  unfold ztll; split
  · exact h _ _ _
  · trivial
theorem zgr_tli {M : zM} {st : List Value} {f : Int64 → Int32 → List Value → zRes} (h : ∀ x y r, zgr M (f x y r)) : zgr M (ztli st f) := by
  unfold ztli; split
  · exact h _ _ _
  · trivial
theorem zgr_tr {M : zM} {st : List Value} {f : Nat → List Value → zRes} (h : ∀ x r, zgr M (f x r)) : zgr M (ztr st f) := by
  unfold ztr; split
  · exact h _ _
  · trivial
theorem zgr_tri {M : zM} {st : List Value} {f : Nat → Int32 → List Value → zRes} (h : ∀ x y r, zgr M (f x y r)) : zgr M (ztri st f) := by
  unfold ztri; split
  · exact h _ _ _
  · trivial
theorem zgr_trii {M : zM} {st : List Value} {f : Nat → Int32 → Int32 → List Value → zRes} (h : ∀ x y z r, zgr M (f x y z r)) : zgr M (ztrii st f) := by
  unfold ztrii; split
  · exact h _ _ _ _
  · trivial
theorem zgr_tril {M : zM} {st : List Value} {f : Nat → Int32 → Int64 → List Value → zRes} (h : ∀ x y z r, zgr M (f x y z r)) : zgr M (ztril st f) := by
  unfold ztril; split
  · exact h _ _ _ _
  · trivial
theorem zgr_trir {M : zM} {st : List Value} {f : Nat → Int32 → Nat → List Value → zRes} (h : ∀ x y z r, zgr M (f x y z r)) : zgr M (ztrir st f) := by
  unfold ztrir; split
  · exact h _ _ _ _
  · trivial
theorem zgr_trr {M : zM} {st : List Value} {f : Nat → Nat → List Value → zRes} (h : ∀ x y r, zgr M (f x y r)) : zgr M (ztrr st f) := by
  unfold ztrr; split
  · exact h _ _ _
  · trivial
theorem zgr_tcp {M : zM} {st : List Value} {f : Nat → Int32 → Nat → Int32 → Int32 → zRes} (h : ∀ a b c d e, zgr M (f a b c d e)) : zgr M (ztcp st f) := by
  unfold ztcp; split
  · exact h _ _ _ _ _
  · trivial
theorem zgr_tii0 {M : zM} {st : List Value} {f : Int32 → Int32 → zRes} (h : ∀ x y, zgr M (f x y)) : zgr M (ztii0 st f) := by
  unfold ztii0; split
  · exact h _ _
  · trivial
theorem zgr_tr0 {M : zM} {st : List Value} {f : Nat → zRes} (h : ∀ x, zgr M (f x)) : zgr M (ztr0 st f) := by
  unfold ztr0; split
  · exact h _
  · trivial
set_option maxHeartbeats 4000000 in
theorem zgr_step (rk : Nat) (ins : Instr) (i : Nat) (lv : zLv) (st : List Value) (M : zM) : zgr M (zstep rk ins i lv st M) := by
  have h0 : zn M ≤ zn M ∧ zs M ≤ zs M := ⟨Nat.le_refl _, Nat.le_refl _⟩
  have h1 : ∀ sh w, zn M ≤ zn (zal M sh w) ∧ zs M ≤ zs (zal M sh w) := fun sh w => ⟨Nat.le_succ _, Nat.le_add_right _ _⟩
  unfold zstep
  split
  all_goals first
    | exact trivial
    | exact zgr_nx h0
    | exact zgr_nx (h1 _ _)
    | exact zgr_ti fun _ _ => zgr_nx h0
    | exact zgr_tii fun _ _ _ => zgr_nx h0
    | exact zgr_tl fun _ _ => zgr_nx h0
    | exact zgr_tll fun _ _ _ => zgr_nx h0
    | exact zgr_tli fun _ _ _ => zgr_nx h0
    | exact zgr_tr fun _ _ => zgr_nx h0
    | exact zgr_tri fun _ _ _ => zgr_nx h0
    | exact zgr_ti fun _ _ => zgr_cs (h1 _ _)
    | exact zgr_tll fun _ _ _ => zgr_cs h0
    | exact zgr_tr fun _ _ => zgr_cs h0
    | exact zgr_tri fun _ _ _ => zgr_cs h0
    | exact zgr_trii fun _ _ _ _ => zgr_cs h0
    | exact zgr_tril fun _ _ _ _ => zgr_cs h0
    | exact zgr_trir fun _ _ _ _ => zgr_cs h0
    | exact zgr_tcp fun _ _ _ _ _ => zgr_cs h0
    | exact zgr_tii0 fun _ _ => zgr_nx h0
    | exact zgr_tr0 fun _ => zgr_cs h0
    | exact zgr_ti fun _ _ => zgr_br
    | exact zgr_tii fun _ _ _ => zgr_br
    | exact zgr_call
    | (split
       · exact zgr_retq
       · exact trivial)
    | exact zgr_ti fun _ _ => ⟨h0, fun q hq => by rw [zsw_mem _ _ q hq]; exact h0⟩
    | (split
       · exact zgr_nx h0
       · exact trivial)
    | (split
       · exact zgr_nx h0
       · exact zgr_nx h0
       · exact trivial)
    | skip
  all_goals
    cases h : (_ % 10 == 2)
    · dsimp only [cond]
      split
      · exact zgr_cs h0
      · exact trivial
    · exact zgr_trr fun _ _ _ => zgr_cs h0
theorem zpick_mem {α : Type} : ∀ (ch : List (Prop × α)) (o : α), zpick ch o = o ∨ ∃ q ∈ ch, zpick ch o = q.2
  | [], o => Or.inl rfl
  | (c, x) :: l, o => by
    show @ite α c (Classical.propDecidable c) x (zpick l o) = o ∨ _
    by_cases h : c
    · exact Or.inr ⟨(c, x), List.mem_cons_self, by show @ite α c (Classical.propDecidable c) x (zpick l o) = x; rw [if_pos h]⟩
    · rcases zpick_mem l o with h1 | ⟨q, hq, h1⟩
      · exact Or.inl (by rw [if_neg h]; exact h1)
      · exact Or.inr ⟨q, List.mem_cons_of_mem _ hq, by show @ite α c (Classical.propDecidable c) x (zpick l o) = q.2; rw [if_neg h]; exact h1⟩
/-- a step has one way on -/
theorem zgo_one {rk : Nat} {code : List Instr} {i : Nat} {lv : zLv} {st : List Value} {M : zM} {k : zO → Prop} (a : zgo rk code i lv st M k) : ∃ o, k o ∧ zn M ≤ zn (zOM o) ∧ zs M ≤ zs (zOM o) ∧ ∀ k' : zO → Prop, k' o → zgo rk code i lv st M k' := by
  unfold zgo at a ⊢
  split at a
  · exact a.elim
  · rename_i ins he
    have hg := zgr_step rk ins i lv st M
    revert a hg
    cases zstep rk ins i lv st M with
    | none => exact fun h => h.elim
    | some r =>
      obtain ⟨cs, ch, o⟩ := r
      intro a hg
      have a' := zcj_iff.mp a
      have hp : zn M ≤ zn (zOM (zpick ch o)) ∧ zs M ≤ zs (zOM (zpick ch o)) := by
        rcases zpick_mem ch o with h | ⟨q, hq, h⟩
        · rw [h]; exact hg.1
        · rw [h]; exact hg.2 q hq
      exact ⟨zpick ch o, zch_iff.mp a'.2, hp.1, hp.2, fun k' hk => zcj_iff.mpr ⟨a'.1, zch_iff.mpr hk⟩⟩
theorem zwp_det {Cl : zCall} (hC : zgood Cl) {rk : Nat} {code : List Instr} {Q : List Value → zM → Prop} : ∀ (f i : Nat) (lv : zLv) (st : List Value) (M : zM), zwp Cl rk code (fun _ => false) (fun _ _ _ _ => False) Q f i lv st M → ∃ r M2, Q r M2 ∧ zn M ≤ zn M2 ∧ zs M ≤ zs M2 ∧ zwp Cl rk code (fun _ => false) (fun _ _ _ _ => False) (fun r' M' => r' = r ∧ M' = M2) f i lv st M
  | 0, _, _, _, _, a => a.elim
  | f + 1, i, lv, st, M, a => by
    obtain ⟨o, ho, g1, g2, hk⟩ := zgo_one a
    match o, ho, g1, g2, hk with
    | .inl (i', lv', st', M'), ho, g1, g2, hk =>
      obtain ⟨r, M2, hq, h1, h2, h3⟩ := zwp_det hC f i' lv' st' M' ho
      exact ⟨r, M2, hq, Nat.le_trans g1 h1, Nat.le_trans g2 h2, hk _ h3⟩
    | .inr (.inl (r, M')), ho, g1, g2, hk => exact ⟨r, M', ho, g1, g2, hk _ ⟨rfl, rfl⟩⟩
    | .inr (.inr (m, rk', as, i', lv', st', M')), ho, g1, g2, hk =>
      obtain ⟨r1, M1, b, e1, e2, e3⟩ := hC.2 _ _ _ _ ho
      obtain ⟨b1, b2⟩ := zrv_iff.mp b
      obtain ⟨r, M2, hq, h1, h2, h3⟩ := zwp_det hC f i' lv' (r1 ++ st') M1 b2
      exact ⟨r, M2, hq, Nat.le_trans g1 (Nat.le_trans e1 h1), Nat.le_trans g2 (Nat.le_trans e2 h2), hk _ (hC.1 _ _ _ _ _ (fun r' M' ⟨x, y⟩ => by subst x; subst y; exact zrv_iff.mpr ⟨b1, h3⟩) e3)⟩
/-- a stretch, then what is behind its stops -/
theorem zseg {Cl : zCall} (hC : zgood Cl) {rk : Nat} {code : List Instr} {Q : List Value → zM → Prop} (stop : Nat → Bool) : ∀ (f : Nat) {i : Nat} {lv : zLv} {st : List Value} {M : zM}, zwp Cl rk code stop (zW Cl rk code Q) Q f i lv st M → zW Cl rk code Q i lv st M
  | 0, _, _, _, _, a => a.elim
  | f + 1, i, lv, st, M, a => by
    obtain ⟨o, ho, -, -, hk⟩ := zgo_one a
    have key : ∀ i' lv' st' M', (cond (stop i') (zW Cl rk code Q i' lv' st' M') (zwp Cl rk code stop (zW Cl rk code Q) Q f i' lv' st' M')) → zW Cl rk code Q i' lv' st' M' := by
      intro i' lv' st' M' h
      cases hs : stop i'
      · rw [hs] at h; exact zseg hC stop f h
      · rw [hs] at h; exact h
    match o, ho, hk with
    | .inl (i', lv', st', M'), ho, hk =>
      obtain ⟨g, hg⟩ := key _ _ _ _ ho
      exact ⟨g + 1, hk _ hg⟩
    | .inr (.inl (r, M')), ho, hk => exact ⟨1, hk _ ho⟩
    | .inr (.inr (m, rk', as, i', lv', st', M')), ho, hk =>
      obtain ⟨r1, M1, b, -, -, e3⟩ := hC.2 _ _ _ _ ho
      obtain ⟨b1, b2⟩ := zrv_iff.mp b
      obtain ⟨g, hg⟩ := key _ _ _ _ b2
      exact ⟨g + 1, hk _ (hC.1 _ _ _ _ _ (fun r' M' ⟨x, y⟩ => by subst x; subst y; exact zrv_iff.mpr ⟨b1, hg⟩) e3)⟩
theorem zW_imp {Cl : zCall} (hC : zgood Cl) {rk : Nat} {code : List Instr} {Q Q' : List Value → zM → Prop} (h : ∀ r M, Q r M → Q' r M) {i : Nat} {lv : zLv} {st : List Value} {M : zM} (a : zW Cl rk code Q i lv st M) : zW Cl rk code Q' i lv st M := by
  obtain ⟨f, a⟩ := a
  exact ⟨f, zwp_imp hC (fun _ _ _ _ h => h) h f i lv st M a⟩
/-- the locals at a method's entry -/
def zarg : List Value → zLv
  | [] => []
  | .long x :: l => some (.long x) :: none :: zarg l
  | .double x :: l => some (.double x) :: none :: zarg l
  | v :: l => some v :: zarg l
def zpad : Nat → zLv → zLv
  | 0, l => l
  | n + 1, [] => none :: zpad n []
  | n + 1, a :: l => a :: zpad n l
/-- a method: its code, its answer's kind, how many locals -/
abbrev zMe : Type := List Instr × Nat × Nat
def zCl (tb : Nat → zMe) : Nat → zCall
  | 0 => fun _ _ _ _ => False
  | d + 1 => fun m as M Q => (zarg as).length ≤ (tb m).2.2 ∧ zW (zCl tb d) (tb m).2.1 (tb m).1 Q 0 (zpad (tb m).2.2 (zarg as)) [] M
theorem zCl_good (tb : Nat → zMe) : ∀ d, zgood (zCl tb d)
  | 0 => ⟨fun _ _ _ _ _ _ h => h, fun _ _ _ _ h => h.elim⟩
  | d + 1 => by
    refine ⟨fun m as M Q Q' h a => ⟨a.1, zW_imp (zCl_good tb d) h a.2⟩, fun m as M Q a => ?_⟩
    obtain ⟨a0, f, a⟩ := a
    obtain ⟨r, M2, h1, h2, h3, h4⟩ := zwp_det (zCl_good tb d) f _ _ _ _ a
    exact ⟨r, M2, h1, h2, h3, a0, f, h4⟩
