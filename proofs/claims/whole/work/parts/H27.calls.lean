def znc (r : zRes) : Prop := match r with
  | none => True
  | some (_, ch, o) => (∀ w, o ≠ .inr (.inr w)) ∧ ∀ q ∈ ch, ∀ w, q.2 ≠ .inr (.inr w)
theorem znc_nx {i : Nat} {lv : zLv} {st : List Value} {M : zM} : znc (znx i lv st M) := ⟨fun _ h => (by cases h), fun _ h => by cases h⟩
theorem znc_cs {cs : List Prop} {i : Nat} {lv : zLv} {st : List Value} {M : zM} : znc (zcs cs i lv st M) := ⟨fun _ h => (by cases h), fun _ h => by cases h⟩
theorem znc_br {c : Prop} {t i : Nat} {lv : zLv} {st : List Value} {M : zM} : znc (zbr c t i lv st M) := ⟨fun _ h => (by cases h), fun q h => by
  rw [List.mem_singleton] at h
  subst h
  intro w hw
  cases hw⟩
theorem zsw_nc {x : Int32} {lv : zLv} {r : List Value} {M : zM} : ∀ (ts : List Int) (v : Int) (q : Prop × zO), q ∈ zsw x lv r M v ts → ∀ w, q.2 ≠ .inr (.inr w)
  | [], _, _, h => by cases h
  | t :: ts, v, q, h => by
    rcases List.mem_cons.mp h with rfl | h
    · intro w hw; cases hw
    · exact zsw_nc ts (v + 1) q h
theorem znc_retq {rk : Nat} {st : List Value} {M : zM} : znc (zretq rk st M) := by
  cases h : zretq rk st M with
  | none => trivial
  | some q =>
    obtain ⟨cs, ch, o⟩ := q
    unfold zretq at h
    split at h
    · revert h
      cases rk == 0
      · intro h; cases h
      · intro h; cases h; exact ⟨fun _ h => (by cases h), fun _ h => by cases h⟩
    · revert h
      cases rk == 1
      · cases rk == 2
        · intro h; cases h
        · intro h; cases h; exact ⟨fun _ h => (by cases h), fun _ h => by cases h⟩
      · intro h; cases h; exact ⟨fun _ h => (by cases h), fun _ h => by cases h⟩
    · revert h
      cases rk == 3
      · intro h; cases h
      · intro h; cases h; exact ⟨fun _ h => (by cases h), fun _ h => by cases h⟩
    · revert h
      cases rk == 4
      · intro h; cases h
      · intro h; cases h; exact ⟨fun _ h => (by cases h), fun _ h => by cases h⟩
    · cases h
theorem znc_pick {cs : List Prop} {ch : List (Prop × zO)} {o : zO} (h : znc (some (cs, ch, o))) (w : Nat × Nat × List Value × Nat × zLv × List Value × zM) : zpick ch o ≠ .inr (.inr w) := by
  rcases zpick_mem ch o with e | ⟨q, hq, e⟩
  · rw [e]; exact h.1 w
  · rw [e]; exact h.2 q hq w
theorem znc_ti {st : List Value} {f : Int32 → List Value → zRes} (h : ∀ a0 a1, znc (f a0 a1)) : znc (zti st f) := by
  unfold zti; split
  · exact h _ _
  · trivial
theorem znc_tii {st : List Value} {f : Int32 → Int32 → List Value → zRes} (h : ∀ a0 a1 a2, znc (f a0 a1 a2)) : znc (ztii st f) := by
  unfold ztii; split
  · exact h _ _ _
  · trivial
theorem znc_tl {st : List Value} {f : Int64 → List Value → zRes} (h : ∀ a0 a1, znc (f a0 a1)) : znc (ztl st f) := by
  unfold ztl; split
  · exact h _ _
  · trivial
theorem znc_tll {st : List Value} {f : Int64 → Int64 → List Value → zRes} (h : ∀ a0 a1 a2, znc (f a0 a1 a2)) : znc (ztll st f) := by
  unfold ztll; split
  · exact h _ _ _
  · trivial
theorem znc_tli {st : List Value} {f : Int64 → Int32 → List Value → zRes} (h : ∀ a0 a1 a2, znc (f a0 a1 a2)) : znc (ztli st f) := by
  unfold ztli; split
  · exact h _ _ _
  · trivial
theorem znc_tr {st : List Value} {f : Nat → List Value → zRes} (h : ∀ a0 a1, znc (f a0 a1)) : znc (ztr st f) := by
  unfold ztr; split
  · exact h _ _
  · trivial
theorem znc_tri {st : List Value} {f : Nat → Int32 → List Value → zRes} (h : ∀ a0 a1 a2, znc (f a0 a1 a2)) : znc (ztri st f) := by
  unfold ztri; split
  · exact h _ _ _
  · trivial
theorem znc_trii {st : List Value} {f : Nat → Int32 → Int32 → List Value → zRes} (h : ∀ a0 a1 a2 a3, znc (f a0 a1 a2 a3)) : znc (ztrii st f) := by
  unfold ztrii; split
  · exact h _ _ _ _
  · trivial
theorem znc_tril {st : List Value} {f : Nat → Int32 → Int64 → List Value → zRes} (h : ∀ a0 a1 a2 a3, znc (f a0 a1 a2 a3)) : znc (ztril st f) := by
  unfold ztril; split
  · exact h _ _ _ _
  · trivial
theorem znc_trir {st : List Value} {f : Nat → Int32 → Nat → List Value → zRes} (h : ∀ a0 a1 a2 a3, znc (f a0 a1 a2 a3)) : znc (ztrir st f) := by
  unfold ztrir; split
  · exact h _ _ _ _
  · trivial
theorem znc_trr {st : List Value} {f : Nat → Nat → List Value → zRes} (h : ∀ a0 a1 a2, znc (f a0 a1 a2)) : znc (ztrr st f) := by
  unfold ztrr; split
  · exact h _ _ _
  · trivial
theorem znc_tcp {st : List Value} {f : Nat → Int32 → Nat → Int32 → Int32 → zRes} (h : ∀ a0 a1 a2 a3 a4, znc (f a0 a1 a2 a3 a4)) : znc (ztcp st f) := by
  unfold ztcp; split
  · exact h _ _ _ _ _
  · trivial
theorem znc_tii0 {st : List Value} {f : Int32 → Int32 → zRes} (h : ∀ a0 a1, znc (f a0 a1)) : znc (ztii0 st f) := by
  unfold ztii0; split
  · exact h _ _
  · trivial
theorem znc_tr0 {st : List Value} {f : Nat → zRes} (h : ∀ a0, znc (f a0)) : znc (ztr0 st f) := by
  unfold ztr0; split
  · exact h _
  · trivial
set_option maxHeartbeats 4000000 in
theorem znc_step (rk : Nat) (ins : Instr) (i : Nat) (lv : zLv) (st : List Value) (M : zM) (h1 : ∀ x, ins ≠ .invokestatic x) (h2 : ∀ x, ins ≠ .invokevirtual x) (h3 : ∀ x, ins ≠ .invokespecial x) : znc (zstep rk ins i lv st M) := by
  unfold zstep
  split
  all_goals first
    | exact trivial
    | exact znc_nx
    | exact znc_ti fun _ _ => znc_nx
    | exact znc_ti fun _ _ => znc_cs
    | exact znc_tii fun _ _ _ => znc_nx
    | exact znc_tii fun _ _ _ => znc_cs
    | exact znc_tl fun _ _ => znc_nx
    | exact znc_tl fun _ _ => znc_cs
    | exact znc_tll fun _ _ _ => znc_nx
    | exact znc_tll fun _ _ _ => znc_cs
    | exact znc_tli fun _ _ _ => znc_nx
    | exact znc_tli fun _ _ _ => znc_cs
    | exact znc_tr fun _ _ => znc_nx
    | exact znc_tr fun _ _ => znc_cs
    | exact znc_tri fun _ _ _ => znc_nx
    | exact znc_tri fun _ _ _ => znc_cs
    | exact znc_trii fun _ _ _ _ => znc_nx
    | exact znc_trii fun _ _ _ _ => znc_cs
    | exact znc_tril fun _ _ _ _ => znc_nx
    | exact znc_tril fun _ _ _ _ => znc_cs
    | exact znc_trir fun _ _ _ _ => znc_nx
    | exact znc_trir fun _ _ _ _ => znc_cs
    | exact znc_trr fun _ _ _ => znc_nx
    | exact znc_trr fun _ _ _ => znc_cs
    | exact znc_tcp fun _ _ _ _ _ => znc_nx
    | exact znc_tcp fun _ _ _ _ _ => znc_cs
    | exact znc_tii0 fun _ _ => znc_nx
    | exact znc_tii0 fun _ _ => znc_cs
    | exact znc_tr0 fun _ => znc_nx
    | exact znc_tr0 fun _ => znc_cs
    | exact znc_ti fun _ _ => znc_br
    | exact znc_tii fun _ _ _ => znc_br
    | exact absurd rfl (h1 _)
    | exact absurd rfl (h2 _)
    | exact absurd rfl (h3 _)
    | (split
       · exact znc_retq
       · exact trivial)
    | exact znc_ti fun _ _ => ⟨fun _ h => (by cases h), fun q hq => zsw_nc _ _ q hq⟩
    | (split
       · exact znc_nx
       · exact trivial)
    | (split
       · exact znc_nx
       · exact znc_nx
       · exact trivial)
    | skip
  all_goals
    cases h : (_ % 10 == 2)
    · dsimp only [cond]
      split
      · exact znc_cs
      · exact trivial
    · exact znc_trr fun _ _ _ => znc_cs
theorem zs_nocall {rk : Nat} {ins : Instr} {i : Nat} {lv : zLv} {st : List Value} {M : zM} {cs : List Prop} {ch : List (Prop × zO)} {q : zO} (hst : zstep rk ins i lv st M = some (cs, ch, q)) (h1 : ∀ x, ins ≠ .invokestatic x) (h2 : ∀ x, ins ≠ .invokevirtual x) (h3 : ∀ x, ins ≠ .invokespecial x) {w : Nat × Nat × List Value × Nat × zLv × List Value × zM} : zpick ch q ≠ .inr (.inr w) := by
  have h := znc_step rk ins i lv st M h1 h2 h3
  rw [hst] at h
  exact znc_pick h w
theorem zck_max {m : Nat} (h : m < gMeL.length) : (gMe m).2.2.1 ≤ 13 := by
  have h1 := zck m h
  simp only [zckm, Bool.and_eq_true, decide_eq_true_eq] at h1
  exact h1.1.1.1.1.2
/-! calls: the callee's contract gives the caller's step -/
theorem zcbn_in {own : String} {idx x : Nat} (h : zcbn own idx x = true) : Cond.methodLinkNest own idx (gMe (x / 10000)).1 gHs ∈ lw_tbl := by simpa only [zcbn, gNB, decide_eq_true_eq] using h
theorem zpop_at : ∀ (n : Nat) (acc st as r : List Value), zpop n acc st = some (as, r) → ∃ pre, as = pre ++ acc ∧ pre.length = n ∧ st = pre.reverse ++ r
  | 0, acc, st, as, r, h => by cases h; exact ⟨[], rfl, rfl, rfl⟩
  | n + 1, acc, [], as, r, h => by cases h
  | n + 1, acc, v :: st, as, r, h => by
    obtain ⟨pre, h1, h2, h3⟩ := zpop_at n (v :: acc) st as r h
    exact ⟨pre ++ [v], by rw [h1]; simp, by simp [h2], by rw [h3]; simp⟩
theorem zcat_eq {ad : Nat → Nat} : ∀ (r : List Value), ((r.map (zV ad)).map fun v => v.category).sum = zcat r
  | [] => rfl
  | v :: r => by
    rw [List.map_cons, List.map_cons, List.sum_cons, zV_cat, zcat_eq r]
    cases v <;> simp [zcat, Value.category] <;> omega
theorem gTB_good : ∀ w ∈ gTB, w ∈ gTB ∧ ((w.onTables && w.keeps) = true ∨ ∃ ty, w = .arrayClass ty) := fun w hw => ⟨hw, good_of_word (List.mem_filter.mp hw).2⟩
def zws0 (k : Nat) : List Cond := .code (gMe k).1 (gMe k).2.1 (gMe k).2.2.1 (gMe k).2.2.2 :: gTB
def zlo (d : Nat) : Nat := 8 + 32 * d
def zrm (d mc ms : Nat) : Room := { frames := d, cells := mc, slots := ms, locals := zlo d }
/-- what a method's start holds -/
def zPre (D : va_G) (cO : Nat → ClassId) (b L : Nat) (xs : Nat → Int32) (ad : Nat → Nat) (M : zM) (sz : Nat) (U : State) : Prop :=
  U.heap.size = sz ∧ va_P D gCl (zws gFk cO ad M) U.heap ∧ va_K D gCl (zTys cO) U ∧ va_D (fun _ => True) (zws gFk cO ad M) ∧ va_X b L xs U U.heap ∧ b < sz ∧ (∀ (j : Nat) (q : Nat × va_E), (zws gFk cO ad M)[j]? = some q → q.1 ≠ b) ∧ (∀ o i y h, Cond.methodLinkNest o i y h ∈ lw_tbl → va_Nw (.methodLinkNest o i y h) U) ∧ ∀ C, Cond.arrayOver (.object C) ∈ lw_tbl → va_AO C U
theorem zPre_blind {D : va_G} {cO : Nat → ClassId} {b L : Nat} {xs : Nat → Int32} {ad : Nat → Nat} {M : zM} {sz : Nat} {as : List Value} : FrameBlind (va_Pc as (zPre D cO b L xs ad M sz)) := by
  intro a U g mk h
  obtain ⟨h0, h1, h2, h3, h4, h5, h6, h7, h8, h9⟩ := h
  exact ⟨h0, h1, h2, va_K.moved (u := U) (U := U.calling g mk a) (Vm.Alike.refl U.vm) h3, h4, va_X.moved (u := U) (U := U.calling g mk a) (Vm.Alike.refl U.vm) h5, h6, h7, fun o i y h hm => va_Nw.same rfl rfl (h8 o i y h hm), fun C hm => va_AO.moved (u := U) (U := U.calling g mk a) (Vm.Alike.refl U.vm) (h9 C hm)⟩
/-- a method's contract, from what its run is in the small machine -/
def zMet (d : Nat) (xs : Nat → Int32) (L : Nat) : Prop := ∀ (mn : Nat) (as : List Value) (M : zM) (r : List Value) (Mf : zM), zCl gTb d mn as M (fun r' M' => r' = r ∧ M' = Mf) → mn < gMeL.length → zinv M → zscr L xs M → (∀ v ∈ as, zval (zn M) v) → ∀ (l : Launch) (D : va_G) (cO : Nat → ClassId) (ad : Nat → Nat) (b sz : Nat), ad 1 = b → Met l (gMe mn).1 (zws0 mn) (zrm d (zn Mf - zn M) (zs Mf - zs M)) (va_Pc (as.map (zV ad)) (zPre D cO b L xs ad M sz)) (zQc D cO (va_A (zws gFk cO ad M) sz) b L xs ad (zn M) r Mf) (zn Mf - zn M) (zs Mf - zs M) (va_A (zws gFk cO ad M) sz)
section ZC
variable {p : Program} {l : Launch} {e : Env} {R : Room} {s : State} {m : MethodId} {args : Array Value} {below : List Frame} {meth : Method} {c : Code} {Q : State → Prop} {D : va_G} {cO : Nat → ClassId} {A : Nat → Prop} {b L : Nat} {xs : Nat → Int32} {ad0 : Nat → Nat} {n0 s0 k : Nat} {i pc len : Nat} {lv : zLv} {st : List Value} {M : zM} {o : Instr}
theorem zcall_go {H : Heap} {locs : List Loc} {cells slots mc ms : Nat} {ls : Array Slot} {st0 rest : List Value} {Qa : State → Outcome → State → Prop} {free : Addr → Prop} (hr : va_Run p l e R s m args below meth c H locs cells slots mc ms (F0 m pc ls st0) rest Qa free) (hS : ∀ l ∈ locs, A l.base) (hf : ∀ q, free q → A q)
    (kk : ∀ (v : Option Value) (st₀ t : State) (locs1 : List Loc), st₀.heap = H → Qa st₀ (.returned v) t → (∀ l ∈ locs1, A l.base) → W p l e R s m args below meth c t.heap locs1 (cells + mc) (slots + ms) Q (F0 m (pc + 3) ls (v.toList ++ rest))) : W p l e R s m args below meth c H locs cells slots Q (F0 m pc ls st0) := by
  intro T hT X
  obtain ⟨v, st₀, t, T', Lc, h0, X', hL, e1, e2, hq, hst⟩ := hr T hT X
  obtain ⟨t2, a1, b1⟩ := kk v st₀ t (locs ++ Lc) h0 hq (fun q hq => by
      rcases List.mem_append.mp hq with h | h
      · exact hS q h
      · exact hf _ (hL q h)) T' e1 X'
  exact ⟨t2, hst t2 a1, b1⟩
theorem zs_call (F : zfx p R s m args meth c D cO A b L xs k) (hpc : zat (gPc k) i = some pc) (hdec : decode (gMe k).2.1 pc = .ok (o, len)) {rk : Nat} {ins : Instr} (hm : zmt (gMe k).1 (gMe k).2.2.1 (gPc k) i pc o len ins = true) {cs : List Prop} {ch : List (Prop × zO)} {q : zO} (hst : zstep rk ins i lv st M = some (cs, ch, q)) (hcs : ∀ c ∈ cs, c) {m1 rk1 i1 : Nat} {as : List Value} {lv1 : zLv} {r : List Value} {M0 : zM} (hq : zpick ch q = .inr (.inr (m1, rk1, as, i1, lv1, r, M0)))
    {d : Nat} (hR : d + 1 ≤ R.frames ∧ zlo (d + 1) ≤ R.locals) (hMt : zMet d xs L) {r1 : List Value} {M1 : zM} (hC : zCl gTb d m1 as M0 (fun r' M' => r' = r1 ∧ M' = M1)) (hr1 : zrv rk1 r1 fun _ => True) (hle : zn M ≤ zn M1 ∧ zs M ≤ zs M1) (hrm : zn M1 - n0 ≤ R.cells ∧ zs M1 - s0 ≤ R.slots) (nx : zGo p l e R s m args below meth c Q D cO A b L xs ad0 n0 s0 k i1 lv1 (r1 ++ r) M1) : zGo p l e R s m args below meth c Q D cO A b L xs ad0 n0 s0 k i lv st M := by
  intro ad ls H locs h
  obtain ⟨hx, hb, hml, hown, hts, hnest, hover, hr, hlocks, hname, hK, hX, hbl, hbA, hA, hfr, hlo⟩ := F
  -- the callee's own part of the heap
  have hA1 : ∀ q, va_A (zws gFk cO ad M) H.size q → A q := fun q hq => by
    rcases hq with ⟨j, e, hj⟩ | hq
    · exact h.2.1.2 j (q, e) hj
    · exact hA q (Nat.le_trans h.2.2.1.1 hq)
  have hpre : ∀ (As : List Value) (U : State), U.heap = H → s.WarmedH U.vm → va_Pc As (zPre D cO b L xs ad M H.size) As.toArray U := fun As U hU hW => by
    refine ⟨rfl, by rw [hU], by rw [hU]; exact h.1, va_K.moved hW.alike hK, h.2.1.weaken (fun _ _ _ _ => trivial), ?_, Nat.lt_of_lt_of_le hbl h.2.2.1.1, fun j q hj => fun e => hbA (by rw [← e]; exact h.2.1.2 j q hj), fun o i y h hm => va_Nw.warmM hW (hnest o i y h hm), fun C hm => va_AO.moved hW.alike (hover C hm)⟩
    rw [hU]
    exact va_X.moved hW.alike (hX.kept (h.2.2.1.2.1 b hbl hbA))
  have hv1 : (r1.length ≤ 1) := by
    unfold zrv at hr1
    split at hr1
    · obtain ⟨e, -⟩ := hr1; rw [e]; exact Nat.zero_le _
    · obtain ⟨x, e, -⟩ := hr1; rw [e]; exact Nat.le_refl _
    · obtain ⟨x, e, -⟩ := hr1; rw [e]; exact Nat.le_refl _
    · obtain ⟨x, e, -⟩ := hr1; rw [e]; exact Nat.le_refl _
    · obtain ⟨x, e, -⟩ := hr1; rw [e]; exact Nat.le_refl _
  have hge := h.2.2.2.2.2.2.2.2.2.2
  -- behind the call
  have after : ∀ (hM0 : M0 = M) (hlv : lv1 = lv) (hrs : ∀ v ∈ r, v ∈ st) (hnx : zat (gPc k) i1 = some (pc + 3)) (aa : Array Value) (v : Option Value) (st₀ t : State) (locs1 : List Loc), st₀.heap = H → zQc D cO (va_A (zws gFk cO ad M) H.size) b L xs ad (zn M) r1 M1 aa st₀ (.returned v) t → (∀ l ∈ locs1, A l.base) → W p l e R s m args below meth c t.heap locs1 (zn M - n0 + (zn M1 - zn M)) (zs M - s0 + (zs M1 - zs M)) Q (F0 m (pc + 3) ls (v.toList ++ r.map (zV ad))) := by
    intro hM0 hlv hrs hnx aa v st₀ t locs1 h0 hq hl1
    subst hM0 hlv
    obtain ⟨⟨ad', g1, g2, g3, g4, g5, g6, g7, g8⟩, g9, g10⟩ := hq
    cases g2
    rw [h0] at g9 g10
    have e1 : ((r1.map (zV ad')).head?).toList = r1.map (zV ad') := by
      cases r1 with
      | nil => rfl
      | cons a r2 =>
        cases r2 with
        | nil => rfl
        | cons a2 r3 => simp at hv1
    have e2 : r.map (zV ad) = r.map (zV ad') := (zVs_ad g1 r fun v hv => h.2.2.2.2.2.2.2.1 v (hrs v hv)).symm
    rw [e1, e2, ← List.map_append]
    have a1 := nx ad' ls t.heap locs1 ⟨g3, g4.weaken (fun _ q _ hq => hA1 q.1 hq), ⟨Nat.le_trans h.2.2.1.1 g9, fun q q1 q2 => (g10 q (Nat.lt_of_lt_of_le q1 h.2.2.1.1) (fun z => q2 (hA1 q z))).trans (h.2.2.1.2.1 q q1 q2), hl1⟩, g5, g6, g7, zlv_ad h.2.2.2.2.2.2.1 h.2.2.2.2.2.2.2.2.1 g1, fun v hv => by
        rcases List.mem_append.mp hv with hv | hv
        · exact g8 v hv
        · exact zval_up hle.1 (h.2.2.2.2.2.2.2.1 v (hrs v hv)), fun j v hj => zval_up hle.1 (h.2.2.2.2.2.2.2.2.1 j v hj), fun x hx => (g1 x (Nat.lt_of_lt_of_le hx hge.1)).trans (h.2.2.2.2.2.2.2.2.2.1 x hx), Nat.le_trans hge.1 hle.1, Nat.le_trans hge.2 hle.2⟩
    rw [hnx] at a1
    exact W.cs (by omega) (by omega) a1
  have mkGood : ∀ (m2 : Nat), zwd (.code (gMe m2).1 (gMe m2).2.1 (gMe m2).2.2.1 (gMe m2).2.2.2) = true → GoodIn gTB (zws0 m2) := fun m2 hw w hw2 => by
    rcases List.mem_cons.mp hw2 with rfl | hw2
    · exact gTB_good _ (zwd_in hw)
    · exact gTB_good w hw2
  have hroom : ∀ (m2 : Nat), (gMe m2).2.2.1 ≤ 13 → (zrm d (zn M1 - zn M) (zs M1 - zs M)).frames + 1 ≤ R.frames ∧ 8 + ((gMe m2).2.2.1 + 11) + (zrm d (zn M1 - zn M) (zs M1 - zs M)).locals ≤ R.locals := fun m2 hm2 => by
    show d + 1 ≤ R.frames ∧ 8 + ((gMe m2).2.2.1 + 11) + zlo d ≤ R.locals
    have h1 := hR.1
    have h2 := hR.2
    unfold zlo at h2 ⊢
    omega
  rw [hpc]
  cases ins with
  | invokestatic x =>
    have hst : zcall x false i lv st M = some (cs, ch, q) := hst
    unfold zcall at hst
    split at hst
    · cases hst
    · rename_i as' r' hp
      cases hbl8 : Nat.ble (zcat r') 8
      · rw [hbl8] at hst; cases hst
      · rw [hbl8] at hst
        cases hst
        cases hq
        obtain ⟨pre, p1, p2, p3⟩ := zpop_at _ _ _ _ _ hp
        rw [List.append_nil] at p1
        subst p1
        simp only [zmt, Bool.and_eq_true, decide_eq_true_eq] at hm
        obtain ⟨hnx, hm⟩ := hm
        split at hm
        · obtain ⟨⟨⟨rfl, w0⟩, w1⟩, w2⟩ : ((_ ∧ _) ∧ _) ∧ _ := by simpa only [Bool.and_eq_true, decide_eq_true_eq] using hm
          simp only [zcb, Bool.and_eq_true, decide_eq_true_eq] at w0
          obtain ⟨⟨⟨⟨⟨⟨⟨z1, z2⟩, z3⟩, z4⟩, z5⟩, z6⟩, z7⟩, z8⟩ := w0
          have hmax : (gMe (x / 10000)).2.2.1 ≤ 13 := zck_max z7
          have hM := hMt (x / 10000) _ M r1 M1 hC z7 h.2.2.2.1 h.2.2.2.2.1 (fun v hv => h.2.2.2.2.2.2.2.1 v (by rw [p3]; exact List.mem_append_left _ (List.mem_reverse.mpr hv))) l D cO ad b H.size h.2.2.2.2.2.1
          have hstk : st.map (zV ad) = (List.map (zV ad) as).reverse ++ r.map (zV ad) := by rw [p3, List.map_append, List.map_reverse]
          rw [hstk]
          have hn1 : (List.map (zV ad) as).length = x / 1000 % 10 := by rw [List.length_map, p2]
          rcases (Bool.or_eq_true _ _).mp w2 with w2 | w2
          · exact zcall_go (va_runS ⟨hx, hb, hml, hown, hts⟩ hM ⟨callB_of (x / 1000 % 10) hts (mkGood _ z6) rfl rfl rfl (hts _ (zwd_in z5)) (hts _ (zwd_in w2)) ⟨z2, z3, z1⟩ (hroom _ hmax), hts _ (zwd_in w1)⟩ ⟨zPre_blind, hpre _⟩ rfl hn1 h.2.2.2.2.2.2.1.1 rfl (lv_room (by rw [zcat_eq]; exact Nat.le_of_ble_eq_true hbl8)) hdec ⟨by omega, by omega⟩) h.2.2.1.2.2 hA1 (after rfl rfl (fun v hv => by rw [p3]; exact List.mem_append_right _ hv) hnx _)
          · have w3 := zcbn_in w2
            exact zcall_go (va_runSN ⟨hx, hb, hml, hown, hts⟩ hM ⟨va_cnB (x / 1000 % 10) hts (mkGood _ z6) rfl rfl rfl (hnest _ _ _ _ w3) (hts _ (zwd_in z5)) ⟨z2, z3, z1⟩ (hroom _ hmax), hts _ (zwd_in w1), trivial⟩ ⟨zPre_blind, hpre _⟩ rfl hn1 h.2.2.2.2.2.2.1.1 rfl (lv_room (by rw [zcat_eq]; exact Nat.le_of_ble_eq_true hbl8)) hdec ⟨by omega, by omega⟩) h.2.2.1.2.2 hA1 (after rfl rfl (fun v hv => by rw [p3]; exact List.mem_append_right _ hv) hnx _)
        · cases hm
  | invokevirtual x =>
    have hst : zcall x true i lv st M = some (cs, ch, q) := hst
    unfold zcall at hst
    split at hst
    · cases hst
    · rename_i as' r' hp
      cases hbl8 : Nat.ble (zcat r') 8
      · rw [hbl8] at hst; cases hst
      · rw [hbl8] at hst
        dsimp only [cond] at hst
        split at hst
        · rename_i a as2
          cases hst
          cases hq
          obtain ⟨pre, p1, p2, p3⟩ := zpop_at _ _ _ _ _ hp
          rw [List.append_nil] at p1
          subst p1
          have hsh : (zsh M a).1 = 10 + x % 100 := hcs _ List.mem_cons_self
          have hids := zin_ids h.2.2.2.1 (a := a) (by omega)
          have hg := zws_get (fk := gFk) (cO := cO) (ad := ad) hids
          rw [zE_obj hsh] at hg
          simp only [zmt, Bool.and_eq_true, decide_eq_true_eq] at hm
          obtain ⟨hnx, hm⟩ := hm
          split at hm
          · obtain ⟨⟨⟨⟨⟨⟨rfl, w0⟩, w1⟩, w2⟩, w3⟩, w4⟩, w5⟩ : (((((_ ∧ _) ∧ _) ∧ _) ∧ _) ∧ _) ∧ _ := by simpa only [Bool.and_eq_true, decide_eq_true_eq] using hm
            simp only [zcb, Bool.and_eq_true, decide_eq_true_eq] at w0
            obtain ⟨⟨⟨⟨⟨⟨⟨z1, z2⟩, z3⟩, z4⟩, z5⟩, z6⟩, z7⟩, z8⟩ := w0
            split at w5
            · rename_i rc hrc
              have hcl : rc.1 = (gMe (x / 10000)).1.cls := by simpa only [decide_eq_true_eq] using w5
              have hmax : (gMe (x / 10000)).2.2.1 ≤ 13 := zck_max z7
              have hM := hMt (x / 10000) _ M r1 M1 hC z7 h.2.2.2.1 h.2.2.2.2.1 (fun v hv => h.2.2.2.2.2.2.2.1 v (by rw [p3]; exact List.mem_append_left _ (List.mem_reverse.mpr hv))) l D cO ad b H.size h.2.2.2.2.2.1
              have hM' : Met l (gMe (x / 10000)).1 (zws0 (x / 10000)) (zrm d (zn M1 - zn M) (zs M1 - zs M)) (va_Pc (.ref (ad a) :: as2.map (zV ad)) (zPre D cO b L xs ad M H.size)) (zQc D cO (va_A (zws gFk cO ad M) H.size) b L xs ad (zn M) r1 M1) (zn M1 - zn M) (zs M1 - zs M) (va_A (zws gFk cO ad M) H.size) := by
                rw [List.map_cons, zV_ref hids.1] at hM
                exact hM
              have hstk : st.map (zV ad) = (List.map (zV ad) as2).reverse ++ .ref (ad a) :: r.map (zV ad) := by rw [p3, List.map_append, List.map_reverse, List.map_cons, zV_ref hids.1, List.reverse_cons, List.append_assoc]; rfl
              rw [hstk]
              have hn1 : (List.map (zV ad) as2).length = x / 1000 % 10 - 1 := by
                rw [List.length_map]
                rw [List.length_cons] at p2
                omega
              exact zcall_go (va_runV (C := (gMe (x / 10000)).1.cls) ⟨hx, hb, hml, hown, hts⟩ hM' ⟨callB_of (x / 1000 % 10 - 1) hts (mkGood _ z6) rfl rfl rfl (hts _ (zwd_in z5)) (hts _ (zwd_in w4)) ⟨z2, z3, z1⟩ (hroom _ hmax), hts _ (zwd_in w2), hts _ (zwd_in w3)⟩ ⟨zPre_blind, by rw [← hcl]; exact va_recv hK h.1 hrc hg, hpre _⟩ rfl hn1 h.2.2.2.2.2.2.1.1 rfl (lv_room (by rw [zcat_eq]; exact Nat.le_of_ble_eq_true hbl8)) hdec ⟨by omega, by omega⟩) h.2.2.1.2.2 hA1 (after rfl rfl (fun v hv => by rw [p3]; exact List.mem_append_right _ hv) hnx _)
            · cases w5
          · cases hm
        · cases hst
  | invokespecial x =>
    have hst : zcall x true i lv st M = some (cs, ch, q) := hst
    unfold zcall at hst
    split at hst
    · cases hst
    · rename_i as' r' hp
      cases hbl8 : Nat.ble (zcat r') 8
      · rw [hbl8] at hst; cases hst
      · rw [hbl8] at hst
        dsimp only [cond] at hst
        split at hst
        · rename_i a as2
          cases hst
          cases hq
          obtain ⟨pre, p1, p2, p3⟩ := zpop_at _ _ _ _ _ hp
          rw [List.append_nil] at p1
          subst p1
          have hsh : (zsh M a).1 = 10 + x % 100 := hcs _ List.mem_cons_self
          have hids := zin_ids h.2.2.2.1 (a := a) (by omega)
          simp only [zmt, Bool.and_eq_true, decide_eq_true_eq] at hm
          obtain ⟨hnx, hm⟩ := hm
          split at hm
          · obtain ⟨⟨⟨⟨⟨⟨rfl, w0⟩, w1⟩, w2⟩, w3⟩, w4⟩, w5⟩ : (((((_ ∧ _) ∧ _) ∧ _) ∧ _) ∧ _) ∧ _ := by simpa only [Bool.and_eq_true, decide_eq_true_eq] using hm
            simp only [zcb, Bool.and_eq_true, decide_eq_true_eq] at w0
            obtain ⟨⟨⟨⟨⟨⟨⟨z1, z2⟩, z3⟩, z4⟩, z5⟩, z6⟩, z7⟩, z8⟩ := w0
            have hmax : (gMe (x / 10000)).2.2.1 ≤ 13 := zck_max z7
            have hM := hMt (x / 10000) _ M r1 M1 hC z7 h.2.2.2.1 h.2.2.2.2.1 (fun v hv => h.2.2.2.2.2.2.2.1 v (by rw [p3]; exact List.mem_append_left _ (List.mem_reverse.mpr hv))) l D cO ad b H.size h.2.2.2.2.2.1
            have hM' : Met l (gMe (x / 10000)).1 (zws0 (x / 10000)) (zrm d (zn M1 - zn M) (zs M1 - zs M)) (va_Pc (.ref (ad a) :: as2.map (zV ad)) (zPre D cO b L xs ad M H.size)) (zQc D cO (va_A (zws gFk cO ad M) H.size) b L xs ad (zn M) r1 M1) (zn M1 - zn M) (zs M1 - zs M) (va_A (zws gFk cO ad M) H.size) := by
              rw [List.map_cons, zV_ref hids.1] at hM
              exact hM
            have hstk : st.map (zV ad) = (List.map (zV ad) as2).reverse ++ .ref (ad a) :: r.map (zV ad) := by rw [p3, List.map_append, List.map_reverse, List.map_cons, zV_ref hids.1, List.reverse_cons, List.append_assoc]; rfl
            rw [hstk]
            have hn1 : (List.map (zV ad) as2).length = x / 1000 % 10 - 1 := by
              rw [List.length_map]
              rw [List.length_cons] at p2
              omega
            have hw : zws0 (x / 10000) = Cond.code (gMe (x / 10000)).1 (gMe (x / 10000)).2.1 (gMe (x / 10000)).2.2.1 none :: gTB := by unfold zws0; rw [w3]
            rcases (Bool.or_eq_true _ _).mp w5 with w5 | w5
            · exact zcall_go (va_runI ⟨hx, hb, hml, hown, hts⟩ hM' ⟨callB_of (x / 1000 % 10 - 1) hts (mkGood _ z6) hw rfl rfl (hts _ (zwd_in z5)) (hts _ (zwd_in w5)) ⟨z2, z3, z1⟩ (hroom _ hmax), w2, hts _ (zwd_in w4)⟩ ⟨zPre_blind, hpre _⟩ rfl hn1 h.2.2.2.2.2.2.1.1 rfl (lv_room (by rw [zcat_eq]; exact Nat.le_of_ble_eq_true hbl8)) hdec ⟨by omega, by omega⟩) h.2.2.1.2.2 hA1 (after rfl rfl (fun v hv => by rw [p3]; exact List.mem_append_right _ hv) hnx _)
            · have w6 := zcbn_in w5
              exact zcall_go (va_runIN ⟨hx, hb, hml, hown, hts⟩ hM' ⟨va_cnB (x / 1000 % 10 - 1) hts (mkGood _ z6) hw rfl rfl (hnest _ _ _ _ w6) (hts _ (zwd_in z5)) ⟨z2, z3, z1⟩ (hroom _ hmax), w2, hts _ (zwd_in w4)⟩ ⟨zPre_blind, hpre _⟩ rfl hn1 h.2.2.2.2.2.2.1.1 rfl (lv_room (by rw [zcat_eq]; exact Nat.le_of_ble_eq_true hbl8)) hdec ⟨by omega, by omega⟩) h.2.2.1.2.2 hA1 (after rfl rfl (fun v hv => by rw [p3]; exact List.mem_append_right _ hv) hnx _)
          · cases hm
        · cases hst
  | _ => exact absurd hq (zs_nocall hst (fun _ h => by cases h) (fun _ h => by cases h) (fun _ h => by cases h))
end ZC
