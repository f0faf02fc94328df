/-! THE CLAIM OUT OF ONE WALK OF THE LAW'S BODY. Your part is whole_start (and what it stands on); all else here is the same for every law, but numbers. -/
def R_law : String := "IdealProverLaw"
def lw_P (b : Addr) (xs : List Int32) (args : Array Value) (s : State) : Prop := args = #[.ref b] ∧ s.IntsAt b xs ∧ xs.length ≤ 3073 ∧ (Jvm.Cond.and given_1 narrow_1).before args s = true
def lw_Q (_ : Array Value) (s : State) (o : Outcome) (t : State) : Prop := o = .returned (some (.int 1)) ∧ Framed s o t [] 600000 7302250
def lw_Z (below : List Frame) (a : Array Value) (s : State) : State → Prop := fun t => ∃ o, t.status = .running ∧ Ended t below o ∧ lw_Q a s o t
/-- the law's own end, with 1 on the stack, nothing written that was there before, its room as the claim has it -/
theorem lw_ret {p : Program} {l : Launch} {e : Env} {s : State} {m : MethodId} {below : List Frame} {meth : Method} {c : Code} {b : Nat} (hx : p.tables.exec = Jvm.exec) (hb : c.code = code) (hr : meth.sig.returnType = ret) (hlocks : meth.locks = false) {pc : Nat} {H : Heap} {ls : Array Slot} (hdg : decode code pc = .ok (.ireturn, 1)) : W p l e room_1 s m #[Value.ref b] below meth c H [] 600000 7302250 (lw_Z below #[Value.ref b] s) (F0 m pc ls [.int 1]) := by
  intro T hT X
  obtain ⟨fs, hret, hrun, hended, hW, hframe⟩ := X.leave (v := some (.int 1)) (hlocks := hlocks) (fun h => by rw [hr] at h; cases h)
  have hmeth' : T.vm.method? m = some meth := X.method'
  refine ⟨T.setFrames fs, ?_, .returned (some (.int 1)), hrun, hended, rfl, ⟨_, rfl⟩, hW, hframe⟩
  jvm_step X.here [X.here.top, hx, hb, hdg, hmeth', hr, ret, narrow_b1]
  (try refine ⟨rfl, ?_⟩); (try refine ⟨rfl, ?_⟩)
  first | (intro acts; rw [hret _ acts rfl rfl rfl]) | rw [hret _ _ rfl rfl rfl]
  exact Steps.refl _
/-- what holds at the law's entry: the machine, the code, the tables' words (any of lw_tbl by 'hts w (by decide +kernel)'), the script of L ints xs at the cell b, what the Statement gives of the start (any of its parts by flat_of_before) -/
def lw_At (p : Program) (s : State) (m : MethodId) (meth : Method) (c : Code) (b L : Nat) (xs : Nat → Int32) : Prop :=
  p.tables.exec = Jvm.exec ∧ c.code = code ∧ meth.sig.returnType = ret ∧ c.maxLocals = 4 ∧ s.vm.findClass R_law = some m.cls ∧ (∀ w ∈ lw_tbl, w.before #[Value.ref b] s = true) ∧ va_X b L xs s s.heap ∧ b < s.heap.size ∧ meth.locks = false ∧ (Jvm.Cond.and given_1 narrow_1).before #[Value.ref b] s = true
/-! the law, if the small machine runs it well -/
def zM0 (L : Nat) (xs : Nat → Int32) : zM := ((fun a => if a = 1 then (1, L) else (0, 0)), 2, 0, (fun a j => if a = 1 then xs j else 0), (fun _ _ => 0), (fun _ _ => 0))
def zLaw : Prop := ∀ (L : Nat) (xs : Nat → Int32), L ≤ 3073 → zCl gTb 11 nL_law [.ref 1] (zM0 L xs) (fun r M' => r = [.int 1] ∧ zn M' ≤ 600000 ∧ zs M' ≤ 7302250)
theorem gMe_law : gMe nL_law = (yL_law, code, 4, some .boolean) := rfl
theorem g_law_lt : nL_law < gMeL.length := by decide +kernel
theorem g_law_w1 : Cond.arrayClass .int ∈ lw_tbl := by decide +kernel
theorem g_law_w2 : Cond.arrayClass .long ∈ lw_tbl := by decide +kernel
theorem g_law_w3 : Cond.arrayClass .boolean ∈ lw_tbl := by decide +kernel
theorem g_law_w4 : Cond.arrayOver (.object (gEl 0)) ∈ lw_tbl := by decide +kernel
theorem g_law_w5 : Cond.arrayOver (.object (gEl 1)) ∈ lw_tbl := by decide +kernel
theorem g_arr {s : State} {args : Array Value} {ty : FieldType} (h : (Cond.arrayClass ty).before args s = true) (hp : ∀ cA, va_RA s cA ty ↔ s.vm.findClass ("[" ++ ty.toString) = some cA) : ∃ cA : ClassId, ArrOfT s cA ty ∧ va_RA s cA ty := by
  obtain ⟨cA, kA, comp, h1, h2, h3⟩ := Cond.arrayClass_spec h
  exact ⟨cA, fun n z => ⟨fun k h => (by cases h), kA, h2, comp, h3⟩, (hp cA).mpr h1⟩
theorem g_arrO {s : State} {args : Array Value} {C : String} (h : (Cond.arrayOver (.object C)).before args s = true) : ∃ cA : ClassId, ArrOfT s cA (.object C) ∧ va_RA s cA (.object C) := by
  obtain ⟨comp, cA, kA, h1, h2, h3, h4, h5⟩ := Cond.arrayOver_spec h
  exact ⟨cA, fun n z => ⟨fun k h => (by cases h), kA, h3, comp, h4⟩, kA, comp, h3, h4, h1, h5⟩
theorem g_known {s : State} {args : Array Value} (hts : ∀ w ∈ lw_tbl, w.before args s = true) : ∃ (D : va_G), ∀ (k : Nat) (q : vw_C), gCl[k]? = some q → u_Kn s q.1 q.2.1 q.2.2 (D.1 k) (D.2 k) := by
  have h : ∀ (k : Nat), ∃ (w : ClassId × (Nat → Nat)), ∀ (q : vw_C), gCl[k]? = some q → u_Kn s q.1 q.2.1 q.2.2 w.1 w.2 := by
    intro k
    by_cases hk : k < gCl.length
    · have hq : gCl[k]? = some gCl[k] := List.getElem?_eq_getElem hk
      obtain ⟨n, hn⟩ := g_inst k hk
      obtain ⟨cC, iS, hKn⟩ := u_known (C := gCl[k].1) (T := gCl[k].2.1) (N := gCl[k].2.2) (n := n) (fun w hw => hts w hw) (fun w hw => (List.mem_filter.mp ((gcl_ok k _ hq).1 w hw)).1) (hts _ hn)
      exact ⟨(cC, iS), fun q h => by rw [hq] at h; cases h; exact hKn⟩
    · exact ⟨(0, fun _ => 0), fun q h => by rw [List.getElem?_eq_none (by omega)] at h; cases h⟩
  exact ⟨(fun k => (Classical.choose (h k)).1, fun k => (Classical.choose (h k)).2), fun k q hq => Classical.choose_spec (h k) q hq⟩
theorem start_of (hlaw : zLaw) {p : Program} {e : Env} {s : State} {m : MethodId} {below : List Frame} {meth : Method} {c : Code} (l : Launch) {b L : Nat} {xs : Nat → Int32} (hL : L ≤ 3073) (C0 : lw_At p s m meth c b L xs) : W p l e room_1 s m #[Value.ref b] below meth c s.heap [] 0 0 (lw_Z below #[Value.ref b] s) (entryFrame m ([Value.ref b] : List Value).toArray 4) := by
  obtain ⟨hx, hb, hr, hml, hown, hts, hX, hbl, hlocks, hgv⟩ := id C0
  obtain ⟨D, hKn⟩ := g_known hts
  obtain ⟨c2, k2⟩ := g_arr (ty := .int) (hts _ g_law_w1) (fun _ => Iff.rfl)
  obtain ⟨c3, k3⟩ := g_arr (ty := .long) (hts _ g_law_w2) (fun _ => Iff.rfl)
  obtain ⟨c4, k4⟩ := g_arr (ty := .boolean) (hts _ g_law_w3) (fun _ => Iff.rfl)
  obtain ⟨c5, k5⟩ := g_arrO (hts _ g_law_w4)
  obtain ⟨c6, k6⟩ := g_arrO (hts _ g_law_w5)
  obtain ⟨cO, e2, e3, e4, e5, e6⟩ : ∃ cO : Nat → ClassId, cO 2 = c2 ∧ cO 3 = c3 ∧ cO 4 = c4 ∧ cO 5 = c5 ∧ cO 6 = c6 := ⟨fun k => if k = 2 then c2 else if k = 3 then c3 else if k = 4 then c4 else if k = 5 then c5 else c6, rfl, rfl, rfl, rfl, rfl⟩
  have hK : va_K D gCl (zTys cO) s := by
    refine ⟨hKn, fun k q hq => ?_⟩
    unfold zTys at hq
    rw [e2, e3, e4, e5, e6] at hq
    match k, hq with
    | 0, hq => cases hq; exact k2
    | 1, hq => cases hq; exact k3
    | 2, hq => cases hq; exact k4
    | 3, hq => cases hq; exact k5
    | 4, hq => cases hq; exact k6
    | k + 5, hq => simp at hq
  obtain ⟨hlen, hwl⟩ := hlaw L xs hL
  obtain ⟨f, hwl⟩ := hwl
  obtain ⟨r, Mf, ⟨hr1, hc1, hs1⟩, -, -, hw⟩ := zwp_det (zCl_good gTb 10) f _ _ _ _ hwl
  subst hr1
  have hA : ∀ q : Nat, s.heap.size ≤ q → (fun q : Nat => s.heap.size ≤ q) q := fun _ h => h
  have hbA : ¬ (fun q : Nat => s.heap.size ≤ q) b := Nat.not_le.mpr hbl
  have F : zfx p room_1 s m #[Value.ref b] meth c D cO (fun q : Nat => s.heap.size ≤ q) b L xs nL_law := by
    refine ⟨hx, hb, hml, hown, fun w hw => hts w (List.mem_filter.mp hw).1, fun o i y h hm => va_Nw.of rfl (hts _ hm), fun C hm => va_AO.of (hts _ hm), hr, hlocks, fun hi => absurd hi (by decide), hK, hX, hbl, hbA, hA, by decide, by decide⟩
  have hwS : zws gFk cO (fun _ => b) (zM0 L xs) = [] := rfl
  have key := zbody (l := l) (e := e) (below := below) (ad0 := fun _ => b) (n0 := 2) (s0 := 0) (Q := lw_Z below #[Value.ref b] s) F g_law_lt (d := 10) ⟨by decide, by decide⟩ (zmain xs L 10) (r0 := [.int 1]) (Mf := Mf) ⟨by show zn Mf - 2 ≤ 600000; omega, by show zs Mf - 0 ≤ 7302250; omega⟩ (fun i pc len lv st M' o ins cs ch q a1 a2 a3 a4 a5 a6 => ?_) f 0 _ [] (zM0 L xs) hw (fun _ => b) _ s.heap [] ⟨by rw [hwS]; exact fun k q h => by simp at h, by rw [hwS]; exact ⟨fun i j p q h => by simp at h, fun k q h => by simp at h⟩, va_S.rf, ⟨Nat.le_refl _, fun a ha => ?_, fun a k => (show (0 : Nat) < 2 from Nat.zero_lt_two)⟩, ⟨rfl, fun j => rfl⟩, rfl, zentry (ad := fun _ => b) hlen, fun v hv => absurd hv List.not_mem_nil, fun j v hj => zarg_val _ j v (fun v hv => by rw [List.mem_singleton] at hv; subst hv; show 1 < 2; decide) (zpad_at _ _ j v hj), fun _ _ => rfl, Nat.le_refl _, Nat.le_refl _⟩
  · rw [lg_entry_eq]
    exact key
  · intro ad ls H locs h
    by_cases h1 : ins = .ireturn
    · subst h1
      simp only [zstep] at a4
      split at a4
      · rename_i v
        rw [zretq_no a4] at a6
        cases a6
        obtain ⟨rfl, rfl⟩ : _ ∧ _ := by simpa only [zmt, Bool.and_eq_true, decide_eq_true_eq] using a3
        rw [a1]
        refine va_forget (fun q hq => h.2.2.1.2.2 q hq) ?_
        refine W.widen (k := 600000) (n := 7302250) (by omega) (by omega) ?_
        exact lw_ret hx hb hr hlocks a2
      · cases a4
    · by_cases h2 : ins = .lreturn
      · subst h2
        simp only [zstep] at a4
        split at a4
        · rw [zretq_no a4] at a6; cases a6
        · cases a4
      · by_cases h3 : ins = .areturn
        · subst h3
          simp only [zstep] at a4
          split at a4
          · rw [zretq_no a4] at a6; cases a6
          · cases a4
        · by_cases h4 : ins = .return_
          · subst h4
            simp only [zstep] at a4
            split at a4
            · rw [zretq_no a4] at a6; cases a6
            · cases a4
          · exact absurd a6 (zs_noret a4 h1 h2 h3 h4)
  · show (if a = 1 then ((1 : Nat), L) else (0, 0)).1 < 2
    split
    · exact Nat.one_lt_two
    · exact Nat.zero_lt_two
