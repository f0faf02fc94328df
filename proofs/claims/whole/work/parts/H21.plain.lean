/-! WHAT THE SMALL MACHINE DOES, THE MACHINE DOES: an instruction a row (by wip/whole/gensound.py) -/
def zTys (cO : Nat → ClassId) : List (ClassId × FieldType) := [(cO 2, .int), (cO 3, .long), (cO 4, .boolean), (cO 5, .object (gEl 0)), (cO 6, .object (gEl 1))]
/-- what stays while a method k runs -/
def zfx (p : Program) (R : Room) (s : State) (m : MethodId) (args : Array Value) (meth : Method) (c : Code) (D : va_G) (cO : Nat → ClassId) (A : Nat → Prop) (b L : Nat) (xs : Nat → Int32) (k : Nat) : Prop :=
  p.tables.exec = Jvm.exec ∧ c.code = (gMe k).2.1 ∧ c.maxLocals = (gMe k).2.2.1 ∧ s.vm.findClass (gMe k).1.cls = some m.cls ∧ (∀ w ∈ gTB, w.before args s = true) ∧ (∀ o i y h, Cond.methodLinkNest o i y h ∈ lw_tbl → va_Nw (.methodLinkNest o i y h) s) ∧ (∀ C, Cond.arrayOver (.object C) ∈ lw_tbl → va_AO C s) ∧
  meth.sig.returnType = (gMe k).2.2.2 ∧ meth.locks = false ∧ ((gMe k).1.name = "<init>" → meth.name = "<init>") ∧ va_K D gCl (zTys cO) s ∧ va_X b L xs s s.heap ∧ b < s.heap.size ∧ ¬ A b ∧ (∀ q, s.heap.size ≤ q → A q) ∧ 1 ≤ R.frames ∧ 40 ≤ R.locals
/-- the heap, the locals and the stack hold what the small machine's memory, locals and stack say -/
def zrl (s : State) (D : va_G) (cO : Nat → ClassId) (A : Nat → Prop) (b L : Nat) (xs : Nat → Int32) (nL : Nat) (ad0 : Nat → Nat) (n0 s0 : Nat) (ad : Nat → Nat) (ls : Array Slot) (H : Heap) (locs : List Loc) (lv : zLv) (st : List Value) (M : zM) : Prop :=
  va_P D gCl (zws gFk cO ad M) H ∧ va_D A (zws gFk cO ad M) ∧ va_S A s.heap H locs ∧ zinv M ∧ zscr L xs M ∧ ad 1 = b ∧ zlv ad ls nL lv ∧ (∀ v ∈ st, zval (zn M) v) ∧ (∀ j v, zat lv j = some (some v) → zval (zn M) v) ∧ (∀ x, x < n0 → ad x = ad0 x) ∧ n0 ≤ zn M ∧ s0 ≤ zs M
def zGo (p : Program) (l : Launch) (e : Env) (R : Room) (s : State) (m : MethodId) (args : Array Value) (below : List Frame) (meth : Method) (c : Code) (Q : State → Prop) (D : va_G) (cO : Nat → ClassId) (A : Nat → Prop) (b L : Nat) (xs : Nat → Int32) (ad0 : Nat → Nat) (n0 s0 k : Nat) (i : Nat) (lv : zLv) (st : List Value) (M : zM) : Prop :=
  ∀ ad ls H locs, zrl s D cO A b L xs (gMe k).2.2.1 ad0 n0 s0 ad ls H locs lv st M → W p l e R s m args below meth c H locs (zn M - n0) (zs M - s0) Q (F0 m ((zat (gPc k) i).getD 0) ls (st.map (zV ad)))
theorem zrl_st {s : State} {D : va_G} {cO : Nat → ClassId} {A : Nat → Prop} {b L : Nat} {xs : Nat → Int32} {nL : Nat} {ad0 : Nat → Nat} {n0 s0 : Nat} {ad : Nat → Nat} {ls : Array Slot} {H : Heap} {locs : List Loc} {lv : zLv} {st st' : List Value} {M : zM} (h : zrl s D cO A b L xs nL ad0 n0 s0 ad ls H locs lv st M) (hs : ∀ v ∈ st', zval (zn M) v) : zrl s D cO A b L xs nL ad0 n0 s0 ad ls H locs lv st' M := by
  obtain ⟨h1, h2, h3, h4, h5, h6, h7, h8, h9⟩ := h
  exact ⟨h1, h2, h3, h4, h5, h6, h7, hs, h9⟩
theorem zrl_lv {s : State} {D : va_G} {cO : Nat → ClassId} {A : Nat → Prop} {b L : Nat} {xs : Nat → Int32} {nL : Nat} {ad0 : Nat → Nat} {n0 s0 : Nat} {ad : Nat → Nat} {ls ls' : Array Slot} {H : Heap} {locs : List Loc} {lv lv' : zLv} {st st' : List Value} {M : zM} (h : zrl s D cO A b L xs nL ad0 n0 s0 ad ls H locs lv st M) (hs : ∀ v ∈ st', zval (zn M) v) (hl : zlv ad ls' nL lv') (hv : ∀ j v, zat lv' j = some (some v) → zval (zn M) v) : zrl s D cO A b L xs nL ad0 n0 s0 ad ls' H locs lv' st' M := by
  obtain ⟨h1, h2, h3, h4, h5, h6, h7, h8, h9, h10⟩ := h
  exact ⟨h1, h2, h3, h4, h5, h6, hl, hs, hv, h10⟩
theorem zst1_val {n : Nat} {lv : zLv} {i : Nat} {v : Value} (h : ∀ j v, zat lv j = some (some v) → zval n v) (hv : zval n v) : ∀ j w, zat (zst1 lv i v) j = some (some w) → zval n w := by
  intro j w hj
  unfold zst1 at hj
  rw [zat_zset] at hj
  split at hj
  · cases hj; exact hv
  · rw [zat_zkl] at hj
    split at hj
    · cases hz : zat lv j with
      | none => rw [hz] at hj; cases hj
      | some o =>
        cases o with
        | none => rw [hz] at hj; cases hj
        | some u =>
          rw [hz] at hj
          obtain ⟨e, -⟩ := zwipe_cat (Option.some.inj hj)
          rw [e]; exact h j u hz
    · exact h j w hj
theorem zst2_val {n : Nat} {lv : zLv} {i : Nat} {v : Value} (h : ∀ j v, zat lv j = some (some v) → zval n v) (hv : zval n v) : ∀ j w, zat (zst2 lv i v) j = some (some w) → zval n w := by
  intro j w hj
  unfold zst2 at hj
  rw [zat_zset] at hj
  split at hj
  · cases hj
  · exact zst1_val h hv j w hj
section ZS
variable {p : Program} {l : Launch} {e : Env} {R : Room} {s : State} {m : MethodId} {args : Array Value} {below : List Frame} {meth : Method} {c : Code} {Q : State → Prop} {D : va_G} {cO : Nat → ClassId} {A : Nat → Prop} {b L : Nat} {xs : Nat → Int32} {ad0 : Nat → Nat} {n0 s0 k : Nat} {i pc len : Nat} {lv : zLv} {r : List Value} {M : zM} {o : Instr}
theorem zs_iadd (F : zfx p R s m args meth c D cO A b L xs k) (hpc : zat (gPc k) i = some pc) (hdec : decode (gMe k).2.1 pc = .ok (.iadd, 1)) (hnx : zat (gPc k) (i + 1) = some (pc + 1)) {x y : Int32} (nx : zGo p l e R s m args below meth c Q D cO A b L xs ad0 n0 s0 k (i + 1) lv (.int (x + y) :: r) M) : zGo p l e R s m args below meth c Q D cO A b L xs ad0 n0 s0 k i lv (.int y :: .int x :: r) M := by
  intro ad ls H locs h
  obtain ⟨hx, hb, hml, hown, hts, hnest, hover, hr, hlocks, hname, hK, hX, hbl, hbA, hA, hfr, hlo⟩ := F
  have a := nx ad ls H locs (zrl_st h (fun v hv => by rcases List.mem_cons.mp hv with rfl | hv; exact trivial; exact h.2.2.2.2.2.2.2.1 v (List.mem_cons_of_mem _ (List.mem_cons_of_mem _ hv))))
  rw [hnx] at a
  rw [hpc]
  exact lv_iadd hx hb hdec a
theorem zs_isub (F : zfx p R s m args meth c D cO A b L xs k) (hpc : zat (gPc k) i = some pc) (hdec : decode (gMe k).2.1 pc = .ok (.isub, 1)) (hnx : zat (gPc k) (i + 1) = some (pc + 1)) {x y : Int32} (nx : zGo p l e R s m args below meth c Q D cO A b L xs ad0 n0 s0 k (i + 1) lv (.int (x - y) :: r) M) : zGo p l e R s m args below meth c Q D cO A b L xs ad0 n0 s0 k i lv (.int y :: .int x :: r) M := by
  intro ad ls H locs h
  obtain ⟨hx, hb, hml, hown, hts, hnest, hover, hr, hlocks, hname, hK, hX, hbl, hbA, hA, hfr, hlo⟩ := F
  have a := nx ad ls H locs (zrl_st h (fun v hv => by rcases List.mem_cons.mp hv with rfl | hv; exact trivial; exact h.2.2.2.2.2.2.2.1 v (List.mem_cons_of_mem _ (List.mem_cons_of_mem _ hv))))
  rw [hnx] at a
  rw [hpc]
  exact lv_isub hx hb hdec a
theorem zs_imul (F : zfx p R s m args meth c D cO A b L xs k) (hpc : zat (gPc k) i = some pc) (hdec : decode (gMe k).2.1 pc = .ok (.imul, 1)) (hnx : zat (gPc k) (i + 1) = some (pc + 1)) {x y : Int32} (nx : zGo p l e R s m args below meth c Q D cO A b L xs ad0 n0 s0 k (i + 1) lv (.int (x * y) :: r) M) : zGo p l e R s m args below meth c Q D cO A b L xs ad0 n0 s0 k i lv (.int y :: .int x :: r) M := by
  intro ad ls H locs h
  obtain ⟨hx, hb, hml, hown, hts, hnest, hover, hr, hlocks, hname, hK, hX, hbl, hbA, hA, hfr, hlo⟩ := F
  have a := nx ad ls H locs (zrl_st h (fun v hv => by rcases List.mem_cons.mp hv with rfl | hv; exact trivial; exact h.2.2.2.2.2.2.2.1 v (List.mem_cons_of_mem _ (List.mem_cons_of_mem _ hv))))
  rw [hnx] at a
  rw [hpc]
  exact lv_imul hx hb hdec a
theorem zs_iand (F : zfx p R s m args meth c D cO A b L xs k) (hpc : zat (gPc k) i = some pc) (hdec : decode (gMe k).2.1 pc = .ok (.iand, 1)) (hnx : zat (gPc k) (i + 1) = some (pc + 1)) {x y : Int32} (nx : zGo p l e R s m args below meth c Q D cO A b L xs ad0 n0 s0 k (i + 1) lv (.int (x &&& y) :: r) M) : zGo p l e R s m args below meth c Q D cO A b L xs ad0 n0 s0 k i lv (.int y :: .int x :: r) M := by
  intro ad ls H locs h
  obtain ⟨hx, hb, hml, hown, hts, hnest, hover, hr, hlocks, hname, hK, hX, hbl, hbA, hA, hfr, hlo⟩ := F
  have a := nx ad ls H locs (zrl_st h (fun v hv => by rcases List.mem_cons.mp hv with rfl | hv; exact trivial; exact h.2.2.2.2.2.2.2.1 v (List.mem_cons_of_mem _ (List.mem_cons_of_mem _ hv))))
  rw [hnx] at a
  rw [hpc]
  exact lv_iand hx hb hdec a
theorem zs_ior (F : zfx p R s m args meth c D cO A b L xs k) (hpc : zat (gPc k) i = some pc) (hdec : decode (gMe k).2.1 pc = .ok (.ior, 1)) (hnx : zat (gPc k) (i + 1) = some (pc + 1)) {x y : Int32} (nx : zGo p l e R s m args below meth c Q D cO A b L xs ad0 n0 s0 k (i + 1) lv (.int (x ||| y) :: r) M) : zGo p l e R s m args below meth c Q D cO A b L xs ad0 n0 s0 k i lv (.int y :: .int x :: r) M := by
  intro ad ls H locs h
  obtain ⟨hx, hb, hml, hown, hts, hnest, hover, hr, hlocks, hname, hK, hX, hbl, hbA, hA, hfr, hlo⟩ := F
  have a := nx ad ls H locs (zrl_st h (fun v hv => by rcases List.mem_cons.mp hv with rfl | hv; exact trivial; exact h.2.2.2.2.2.2.2.1 v (List.mem_cons_of_mem _ (List.mem_cons_of_mem _ hv))))
  rw [hnx] at a
  rw [hpc]
  exact lv_ior hx hb hdec a
theorem zs_ishl (F : zfx p R s m args meth c D cO A b L xs k) (hpc : zat (gPc k) i = some pc) (hdec : decode (gMe k).2.1 pc = .ok (.ishl, 1)) (hnx : zat (gPc k) (i + 1) = some (pc + 1)) {x y : Int32} (nx : zGo p l e R s m args below meth c Q D cO A b L xs ad0 n0 s0 k (i + 1) lv (.int (x <<< (y &&& 31)) :: r) M) : zGo p l e R s m args below meth c Q D cO A b L xs ad0 n0 s0 k i lv (.int y :: .int x :: r) M := by
  intro ad ls H locs h
  obtain ⟨hx, hb, hml, hown, hts, hnest, hover, hr, hlocks, hname, hK, hX, hbl, hbA, hA, hfr, hlo⟩ := F
  have a := nx ad ls H locs (zrl_st h (fun v hv => by rcases List.mem_cons.mp hv with rfl | hv; exact trivial; exact h.2.2.2.2.2.2.2.1 v (List.mem_cons_of_mem _ (List.mem_cons_of_mem _ hv))))
  rw [hnx] at a
  rw [hpc]
  exact lv_ishl hx hb hdec a
theorem zs_ishr (F : zfx p R s m args meth c D cO A b L xs k) (hpc : zat (gPc k) i = some pc) (hdec : decode (gMe k).2.1 pc = .ok (.ishr, 1)) (hnx : zat (gPc k) (i + 1) = some (pc + 1)) {x y : Int32} (nx : zGo p l e R s m args below meth c Q D cO A b L xs ad0 n0 s0 k (i + 1) lv (.int (x >>> (y &&& 31)) :: r) M) : zGo p l e R s m args below meth c Q D cO A b L xs ad0 n0 s0 k i lv (.int y :: .int x :: r) M := by
  intro ad ls H locs h
  obtain ⟨hx, hb, hml, hown, hts, hnest, hover, hr, hlocks, hname, hK, hX, hbl, hbA, hA, hfr, hlo⟩ := F
  have a := nx ad ls H locs (zrl_st h (fun v hv => by rcases List.mem_cons.mp hv with rfl | hv; exact trivial; exact h.2.2.2.2.2.2.2.1 v (List.mem_cons_of_mem _ (List.mem_cons_of_mem _ hv))))
  rw [hnx] at a
  rw [hpc]
  exact lv_ishr hx hb hdec a
theorem zs_iushr (F : zfx p R s m args meth c D cO A b L xs k) (hpc : zat (gPc k) i = some pc) (hdec : decode (gMe k).2.1 pc = .ok (.iushr, 1)) (hnx : zat (gPc k) (i + 1) = some (pc + 1)) {x y : Int32} (nx : zGo p l e R s m args below meth c Q D cO A b L xs ad0 n0 s0 k (i + 1) lv (.int (x.toUInt32 >>> (y.toUInt32 &&& Int32.toUInt32 31)).toInt32 :: r) M) : zGo p l e R s m args below meth c Q D cO A b L xs ad0 n0 s0 k i lv (.int y :: .int x :: r) M := by
  intro ad ls H locs h
  obtain ⟨hx, hb, hml, hown, hts, hnest, hover, hr, hlocks, hname, hK, hX, hbl, hbA, hA, hfr, hlo⟩ := F
  have a := nx ad ls H locs (zrl_st h (fun v hv => by rcases List.mem_cons.mp hv with rfl | hv; exact trivial; exact h.2.2.2.2.2.2.2.1 v (List.mem_cons_of_mem _ (List.mem_cons_of_mem _ hv))))
  rw [hnx] at a
  rw [hpc]
  exact lv_iushr hx hb hdec rfl a
theorem zs_ineg (F : zfx p R s m args meth c D cO A b L xs k) (hpc : zat (gPc k) i = some pc) (hdec : decode (gMe k).2.1 pc = .ok (.ineg, 1)) (hnx : zat (gPc k) (i + 1) = some (pc + 1)) {x : Int32} (nx : zGo p l e R s m args below meth c Q D cO A b L xs ad0 n0 s0 k (i + 1) lv (.int (-x) :: r) M) : zGo p l e R s m args below meth c Q D cO A b L xs ad0 n0 s0 k i lv (.int x :: r) M := by
  intro ad ls H locs h
  obtain ⟨hx, hb, hml, hown, hts, hnest, hover, hr, hlocks, hname, hK, hX, hbl, hbA, hA, hfr, hlo⟩ := F
  have a := nx ad ls H locs (zrl_st h (fun v hv => by rcases List.mem_cons.mp hv with rfl | hv; exact trivial; exact h.2.2.2.2.2.2.2.1 v (List.mem_cons_of_mem _ hv)))
  rw [hnx] at a
  rw [hpc]
  exact lv_ineg hx hb hdec a
theorem zs_ladd (F : zfx p R s m args meth c D cO A b L xs k) (hpc : zat (gPc k) i = some pc) (hdec : decode (gMe k).2.1 pc = .ok (.ladd, 1)) (hnx : zat (gPc k) (i + 1) = some (pc + 1)) {x y : Int64} (nx : zGo p l e R s m args below meth c Q D cO A b L xs ad0 n0 s0 k (i + 1) lv (.long (x + y) :: r) M) : zGo p l e R s m args below meth c Q D cO A b L xs ad0 n0 s0 k i lv (.long y :: .long x :: r) M := by
  intro ad ls H locs h
  obtain ⟨hx, hb, hml, hown, hts, hnest, hover, hr, hlocks, hname, hK, hX, hbl, hbA, hA, hfr, hlo⟩ := F
  have a := nx ad ls H locs (zrl_st h (fun v hv => by rcases List.mem_cons.mp hv with rfl | hv; exact trivial; exact h.2.2.2.2.2.2.2.1 v (List.mem_cons_of_mem _ (List.mem_cons_of_mem _ hv))))
  rw [hnx] at a
  rw [hpc]
  exact lv_ladd hx hb hdec a
theorem zs_lsub (F : zfx p R s m args meth c D cO A b L xs k) (hpc : zat (gPc k) i = some pc) (hdec : decode (gMe k).2.1 pc = .ok (.lsub, 1)) (hnx : zat (gPc k) (i + 1) = some (pc + 1)) {x y : Int64} (nx : zGo p l e R s m args below meth c Q D cO A b L xs ad0 n0 s0 k (i + 1) lv (.long (x - y) :: r) M) : zGo p l e R s m args below meth c Q D cO A b L xs ad0 n0 s0 k i lv (.long y :: .long x :: r) M := by
  intro ad ls H locs h
  obtain ⟨hx, hb, hml, hown, hts, hnest, hover, hr, hlocks, hname, hK, hX, hbl, hbA, hA, hfr, hlo⟩ := F
  have a := nx ad ls H locs (zrl_st h (fun v hv => by rcases List.mem_cons.mp hv with rfl | hv; exact trivial; exact h.2.2.2.2.2.2.2.1 v (List.mem_cons_of_mem _ (List.mem_cons_of_mem _ hv))))
  rw [hnx] at a
  rw [hpc]
  exact lv_lsub hx hb hdec a
theorem zs_lmul (F : zfx p R s m args meth c D cO A b L xs k) (hpc : zat (gPc k) i = some pc) (hdec : decode (gMe k).2.1 pc = .ok (.lmul, 1)) (hnx : zat (gPc k) (i + 1) = some (pc + 1)) {x y : Int64} (nx : zGo p l e R s m args below meth c Q D cO A b L xs ad0 n0 s0 k (i + 1) lv (.long (x * y) :: r) M) : zGo p l e R s m args below meth c Q D cO A b L xs ad0 n0 s0 k i lv (.long y :: .long x :: r) M := by
  intro ad ls H locs h
  obtain ⟨hx, hb, hml, hown, hts, hnest, hover, hr, hlocks, hname, hK, hX, hbl, hbA, hA, hfr, hlo⟩ := F
  have a := nx ad ls H locs (zrl_st h (fun v hv => by rcases List.mem_cons.mp hv with rfl | hv; exact trivial; exact h.2.2.2.2.2.2.2.1 v (List.mem_cons_of_mem _ (List.mem_cons_of_mem _ hv))))
  rw [hnx] at a
  rw [hpc]
  exact lv_lmul hx hb hdec a
theorem zs_lor (F : zfx p R s m args meth c D cO A b L xs k) (hpc : zat (gPc k) i = some pc) (hdec : decode (gMe k).2.1 pc = .ok (.lor, 1)) (hnx : zat (gPc k) (i + 1) = some (pc + 1)) {x y : Int64} (nx : zGo p l e R s m args below meth c Q D cO A b L xs ad0 n0 s0 k (i + 1) lv (.long (x ||| y) :: r) M) : zGo p l e R s m args below meth c Q D cO A b L xs ad0 n0 s0 k i lv (.long y :: .long x :: r) M := by
  intro ad ls H locs h
  obtain ⟨hx, hb, hml, hown, hts, hnest, hover, hr, hlocks, hname, hK, hX, hbl, hbA, hA, hfr, hlo⟩ := F
  have a := nx ad ls H locs (zrl_st h (fun v hv => by rcases List.mem_cons.mp hv with rfl | hv; exact trivial; exact h.2.2.2.2.2.2.2.1 v (List.mem_cons_of_mem _ (List.mem_cons_of_mem _ hv))))
  rw [hnx] at a
  rw [hpc]
  exact lv_lor hx hb hdec a
theorem zs_land (F : zfx p R s m args meth c D cO A b L xs k) (hpc : zat (gPc k) i = some pc) (hdec : decode (gMe k).2.1 pc = .ok (.land, 1)) (hnx : zat (gPc k) (i + 1) = some (pc + 1)) {x y : Int64} (nx : zGo p l e R s m args below meth c Q D cO A b L xs ad0 n0 s0 k (i + 1) lv (.long (x &&& y) :: r) M) : zGo p l e R s m args below meth c Q D cO A b L xs ad0 n0 s0 k i lv (.long y :: .long x :: r) M := by
  intro ad ls H locs h
  obtain ⟨hx, hb, hml, hown, hts, hnest, hover, hr, hlocks, hname, hK, hX, hbl, hbA, hA, hfr, hlo⟩ := F
  have a := nx ad ls H locs (zrl_st h (fun v hv => by rcases List.mem_cons.mp hv with rfl | hv; exact trivial; exact h.2.2.2.2.2.2.2.1 v (List.mem_cons_of_mem _ (List.mem_cons_of_mem _ hv))))
  rw [hnx] at a
  rw [hpc]
  exact lv_land hx hb hdec a
theorem zs_ldiv (F : zfx p R s m args meth c D cO A b L xs k) (hpc : zat (gPc k) i = some pc) (hdec : decode (gMe k).2.1 pc = .ok (.ldiv, 1)) (hnx : zat (gPc k) (i + 1) = some (pc + 1)) {x y : Int64} (hne : ¬ y = 0) (nx : zGo p l e R s m args below meth c Q D cO A b L xs ad0 n0 s0 k (i + 1) lv (.long (x / y) :: r) M) : zGo p l e R s m args below meth c Q D cO A b L xs ad0 n0 s0 k i lv (.long y :: .long x :: r) M := by
  intro ad ls H locs h
  obtain ⟨hx, hb, hml, hown, hts, hnest, hover, hr, hlocks, hname, hK, hX, hbl, hbA, hA, hfr, hlo⟩ := F
  have a := nx ad ls H locs (zrl_st h (fun v hv => by rcases List.mem_cons.mp hv with rfl | hv; exact trivial; exact h.2.2.2.2.2.2.2.1 v (List.mem_cons_of_mem _ (List.mem_cons_of_mem _ hv))))
  rw [hnx] at a
  rw [hpc]
  exact lv_ldiv hx hb hdec hne a
theorem zs_lrem (F : zfx p R s m args meth c D cO A b L xs k) (hpc : zat (gPc k) i = some pc) (hdec : decode (gMe k).2.1 pc = .ok (.lrem, 1)) (hnx : zat (gPc k) (i + 1) = some (pc + 1)) {x y : Int64} (hne : ¬ y = 0) (nx : zGo p l e R s m args below meth c Q D cO A b L xs ad0 n0 s0 k (i + 1) lv (.long (x - x / y * y) :: r) M) : zGo p l e R s m args below meth c Q D cO A b L xs ad0 n0 s0 k i lv (.long y :: .long x :: r) M := by
  intro ad ls H locs h
  obtain ⟨hx, hb, hml, hown, hts, hnest, hover, hr, hlocks, hname, hK, hX, hbl, hbA, hA, hfr, hlo⟩ := F
  have a := nx ad ls H locs (zrl_st h (fun v hv => by rcases List.mem_cons.mp hv with rfl | hv; exact trivial; exact h.2.2.2.2.2.2.2.1 v (List.mem_cons_of_mem _ (List.mem_cons_of_mem _ hv))))
  rw [hnx] at a
  rw [hpc]
  exact lv_lrem hx hb hdec hne a
theorem zs_lneg (F : zfx p R s m args meth c D cO A b L xs k) (hpc : zat (gPc k) i = some pc) (hdec : decode (gMe k).2.1 pc = .ok (.lneg, 1)) (hnx : zat (gPc k) (i + 1) = some (pc + 1)) {x : Int64} (nx : zGo p l e R s m args below meth c Q D cO A b L xs ad0 n0 s0 k (i + 1) lv (.long (-x) :: r) M) : zGo p l e R s m args below meth c Q D cO A b L xs ad0 n0 s0 k i lv (.long x :: r) M := by
  intro ad ls H locs h
  obtain ⟨hx, hb, hml, hown, hts, hnest, hover, hr, hlocks, hname, hK, hX, hbl, hbA, hA, hfr, hlo⟩ := F
  have a := nx ad ls H locs (zrl_st h (fun v hv => by rcases List.mem_cons.mp hv with rfl | hv; exact trivial; exact h.2.2.2.2.2.2.2.1 v (List.mem_cons_of_mem _ hv)))
  rw [hnx] at a
  rw [hpc]
  exact lv_lneg hx hb hdec a
theorem zs_lshl (F : zfx p R s m args meth c D cO A b L xs k) (hpc : zat (gPc k) i = some pc) (hdec : decode (gMe k).2.1 pc = .ok (.lshl, 1)) (hnx : zat (gPc k) (i + 1) = some (pc + 1)) {x : Int64} {y : Int32} (nx : zGo p l e R s m args below meth c Q D cO A b L xs ad0 n0 s0 k (i + 1) lv (.long (x <<< (y.toInt64 &&& 63)) :: r) M) : zGo p l e R s m args below meth c Q D cO A b L xs ad0 n0 s0 k i lv (.int y :: .long x :: r) M := by
  intro ad ls H locs h
  obtain ⟨hx, hb, hml, hown, hts, hnest, hover, hr, hlocks, hname, hK, hX, hbl, hbA, hA, hfr, hlo⟩ := F
  have a := nx ad ls H locs (zrl_st h (fun v hv => by rcases List.mem_cons.mp hv with rfl | hv; exact trivial; exact h.2.2.2.2.2.2.2.1 v (List.mem_cons_of_mem _ (List.mem_cons_of_mem _ hv))))
  rw [hnx] at a
  rw [hpc]
  exact lv_lshl hx hb hdec rfl a
theorem zs_lshr (F : zfx p R s m args meth c D cO A b L xs k) (hpc : zat (gPc k) i = some pc) (hdec : decode (gMe k).2.1 pc = .ok (.lshr, 1)) (hnx : zat (gPc k) (i + 1) = some (pc + 1)) {x : Int64} {y : Int32} (nx : zGo p l e R s m args below meth c Q D cO A b L xs ad0 n0 s0 k (i + 1) lv (.long (x >>> (y.toInt64 &&& 63)) :: r) M) : zGo p l e R s m args below meth c Q D cO A b L xs ad0 n0 s0 k i lv (.int y :: .long x :: r) M := by
  intro ad ls H locs h
  obtain ⟨hx, hb, hml, hown, hts, hnest, hover, hr, hlocks, hname, hK, hX, hbl, hbA, hA, hfr, hlo⟩ := F
  have a := nx ad ls H locs (zrl_st h (fun v hv => by rcases List.mem_cons.mp hv with rfl | hv; exact trivial; exact h.2.2.2.2.2.2.2.1 v (List.mem_cons_of_mem _ (List.mem_cons_of_mem _ hv))))
  rw [hnx] at a
  rw [hpc]
  exact lv_lshr hx hb hdec rfl a
theorem zs_i2l (F : zfx p R s m args meth c D cO A b L xs k) (hpc : zat (gPc k) i = some pc) (hdec : decode (gMe k).2.1 pc = .ok (.i2l, 1)) (hnx : zat (gPc k) (i + 1) = some (pc + 1)) {x : Int32} (nx : zGo p l e R s m args below meth c Q D cO A b L xs ad0 n0 s0 k (i + 1) lv (.long x.toInt64 :: r) M) : zGo p l e R s m args below meth c Q D cO A b L xs ad0 n0 s0 k i lv (.int x :: r) M := by
  intro ad ls H locs h
  obtain ⟨hx, hb, hml, hown, hts, hnest, hover, hr, hlocks, hname, hK, hX, hbl, hbA, hA, hfr, hlo⟩ := F
  have a := nx ad ls H locs (zrl_st h (fun v hv => by rcases List.mem_cons.mp hv with rfl | hv; exact trivial; exact h.2.2.2.2.2.2.2.1 v (List.mem_cons_of_mem _ hv)))
  rw [hnx] at a
  rw [hpc]
  exact lv_i2l hx hb hdec rfl a
theorem zs_l2i (F : zfx p R s m args meth c D cO A b L xs k) (hpc : zat (gPc k) i = some pc) (hdec : decode (gMe k).2.1 pc = .ok (.l2i, 1)) (hnx : zat (gPc k) (i + 1) = some (pc + 1)) {x : Int64} (nx : zGo p l e R s m args below meth c Q D cO A b L xs ad0 n0 s0 k (i + 1) lv (.int x.toInt32 :: r) M) : zGo p l e R s m args below meth c Q D cO A b L xs ad0 n0 s0 k i lv (.long x :: r) M := by
  intro ad ls H locs h
  obtain ⟨hx, hb, hml, hown, hts, hnest, hover, hr, hlocks, hname, hK, hX, hbl, hbA, hA, hfr, hlo⟩ := F
  have a := nx ad ls H locs (zrl_st h (fun v hv => by rcases List.mem_cons.mp hv with rfl | hv; exact trivial; exact h.2.2.2.2.2.2.2.1 v (List.mem_cons_of_mem _ hv)))
  rw [hnx] at a
  rw [hpc]
  exact lv_l2i hx hb hdec rfl a
theorem zs_lcmp (F : zfx p R s m args meth c D cO A b L xs k) (hpc : zat (gPc k) i = some pc) (hdec : decode (gMe k).2.1 pc = .ok (.lcmp, 1)) (hnx : zat (gPc k) (i + 1) = some (pc + 1)) {x y : Int64} (nx : zGo p l e R s m args below meth c Q D cO A b L xs ad0 n0 s0 k (i + 1) lv (.int (lg_cmp x y) :: r) M) : zGo p l e R s m args below meth c Q D cO A b L xs ad0 n0 s0 k i lv (.long y :: .long x :: r) M := by
  intro ad ls H locs h
  obtain ⟨hx, hb, hml, hown, hts, hnest, hover, hr, hlocks, hname, hK, hX, hbl, hbA, hA, hfr, hlo⟩ := F
  have a := nx ad ls H locs (zrl_st h (fun v hv => by rcases List.mem_cons.mp hv with rfl | hv; exact trivial; exact h.2.2.2.2.2.2.2.1 v (List.mem_cons_of_mem _ (List.mem_cons_of_mem _ hv))))
  rw [hnx] at a
  rw [hpc]
  exact W.lcmp hx hb hdec a
theorem zs_dupI (F : zfx p R s m args meth c D cO A b L xs k) (hpc : zat (gPc k) i = some pc) (hdec : decode (gMe k).2.1 pc = .ok (.dup, 1)) (hnx : zat (gPc k) (i + 1) = some (pc + 1)) {x : Int32} (nx : zGo p l e R s m args below meth c Q D cO A b L xs ad0 n0 s0 k (i + 1) lv (.int x :: .int x :: r) M) : zGo p l e R s m args below meth c Q D cO A b L xs ad0 n0 s0 k i lv (.int x :: r) M := by
  intro ad ls H locs h
  obtain ⟨hx, hb, hml, hown, hts, hnest, hover, hr, hlocks, hname, hK, hX, hbl, hbA, hA, hfr, hlo⟩ := F
  have a := nx ad ls H locs (zrl_st h (fun v hv => by rcases List.mem_cons.mp hv with rfl | hv; exact trivial; exact h.2.2.2.2.2.2.2.1 v hv))
  rw [hnx] at a
  rw [hpc]
  exact lv_dup hx hb hdec rfl a
theorem zs_dupR (F : zfx p R s m args meth c D cO A b L xs k) (hpc : zat (gPc k) i = some pc) (hdec : decode (gMe k).2.1 pc = .ok (.dup, 1)) (hnx : zat (gPc k) (i + 1) = some (pc + 1)) {x : Nat} (nx : zGo p l e R s m args below meth c Q D cO A b L xs ad0 n0 s0 k (i + 1) lv (.ref x :: .ref x :: r) M) : zGo p l e R s m args below meth c Q D cO A b L xs ad0 n0 s0 k i lv (.ref x :: r) M := by
  intro ad ls H locs h
  obtain ⟨hx, hb, hml, hown, hts, hnest, hover, hr, hlocks, hname, hK, hX, hbl, hbA, hA, hfr, hlo⟩ := F
  have a := nx ad ls H locs (zrl_st h (fun v hv => by rcases List.mem_cons.mp hv with rfl | hv; exact h.2.2.2.2.2.2.2.1 _ List.mem_cons_self; exact h.2.2.2.2.2.2.2.1 v hv))
  rw [hnx] at a
  rw [hpc]
  exact lv_dup hx hb hdec (zV_cat (.ref x)) a
theorem zs_dup2 (F : zfx p R s m args meth c D cO A b L xs k) (hpc : zat (gPc k) i = some pc) (hdec : decode (gMe k).2.1 pc = .ok (.dup2, 1)) (hnx : zat (gPc k) (i + 1) = some (pc + 1)) {x : Nat} {j : Int32} (nx : zGo p l e R s m args below meth c Q D cO A b L xs ad0 n0 s0 k (i + 1) lv (.int j :: .ref x :: .int j :: .ref x :: r) M) : zGo p l e R s m args below meth c Q D cO A b L xs ad0 n0 s0 k i lv (.int j :: .ref x :: r) M := by
  intro ad ls H locs h
  obtain ⟨hx, hb, hml, hown, hts, hnest, hover, hr, hlocks, hname, hK, hX, hbl, hbA, hA, hfr, hlo⟩ := F
  have a := nx ad ls H locs (zrl_st h (fun v hv => by rcases List.mem_cons.mp hv with rfl | hv; exact trivial; rcases List.mem_cons.mp hv with rfl | hv; exact h.2.2.2.2.2.2.2.1 _ (List.mem_cons_of_mem _ List.mem_cons_self); exact h.2.2.2.2.2.2.2.1 v hv))
  rw [hnx] at a
  rw [hpc]
  exact lv_dup2_11 hx hb hdec rfl (zV_cat (.ref x)) a
theorem zs_pop (F : zfx p R s m args meth c D cO A b L xs k) (hpc : zat (gPc k) i = some pc) (hdec : decode (gMe k).2.1 pc = .ok (.pop, 1)) (hnx : zat (gPc k) (i + 1) = some (pc + 1)) {x : Int32} (nx : zGo p l e R s m args below meth c Q D cO A b L xs ad0 n0 s0 k (i + 1) lv (r) M) : zGo p l e R s m args below meth c Q D cO A b L xs ad0 n0 s0 k i lv (.int x :: r) M := by
  intro ad ls H locs h
  obtain ⟨hx, hb, hml, hown, hts, hnest, hover, hr, hlocks, hname, hK, hX, hbl, hbA, hA, hfr, hlo⟩ := F
  have a := nx ad ls H locs (zrl_st h (fun v hv => h.2.2.2.2.2.2.2.1 v (List.mem_cons_of_mem _ hv)))
  rw [hnx] at a
  rw [hpc]
  exact lv_pop hx hb hdec rfl a
theorem zs_iconst (F : zfx p R s m args meth c D cO A b L xs k) (hpc : zat (gPc k) i = some pc) (hdec : decode (gMe k).2.1 pc = .ok (o, len)) {n : Int} (hm : zmt (gMe k).1 (gMe k).2.2.1 (gPc k) i pc o len (.iconst n) = true) (nx : zGo p l e R s m args below meth c Q D cO A b L xs ad0 n0 s0 k (i + 1) lv (.int (zc n) :: r) M) : zGo p l e R s m args below meth c Q D cO A b L xs ad0 n0 s0 k i lv r M := by
  intro ad ls H locs h
  obtain ⟨hx, hb, hml, hown, hts, hnest, hover, hr, hlocks, hname, hK, hX, hbl, hbA, hA, hfr, hlo⟩ := F
  have a := nx ad ls H locs (zrl_st h (fun v hv => by rcases List.mem_cons.mp hv with rfl | hv; exact trivial; exact h.2.2.2.2.2.2.2.1 v hv))
  simp only [zmt, Bool.and_eq_true, decide_eq_true_eq] at hm
  obtain ⟨hnx, hm⟩ := hm
  rw [hnx] at a
  rw [hpc]
  split at hm
  · obtain ⟨rfl, e⟩ : _ ∧ _ := by simpa only [Bool.and_eq_true, decide_eq_true_eq] using hm
    exact lv_iconst hx hb hdec e a
  · obtain ⟨rfl, e⟩ : _ ∧ _ := by simpa only [Bool.and_eq_true, decide_eq_true_eq] using hm
    exact lv_bipush hx hb hdec e a
  · obtain ⟨rfl, e⟩ : _ ∧ _ := by simpa only [Bool.and_eq_true, decide_eq_true_eq] using hm
    exact lv_sipush hx hb hdec e a
  · obtain ⟨rfl, e⟩ : _ ∧ _ := by simpa only [Bool.and_eq_true, decide_eq_true_eq] using hm
    exact lv_ldc hx hb hown (hts _ (zwd_in e)) hdec a
  · cases hm
theorem zs_lconst (F : zfx p R s m args meth c D cO A b L xs k) (hpc : zat (gPc k) i = some pc) (hdec : decode (gMe k).2.1 pc = .ok (o, len)) {n : Int} (hm : zmt (gMe k).1 (gMe k).2.2.1 (gPc k) i pc o len (.jsr_w n) = true) (nx : zGo p l e R s m args below meth c Q D cO A b L xs ad0 n0 s0 k (i + 1) lv (.long (zcl n) :: r) M) : zGo p l e R s m args below meth c Q D cO A b L xs ad0 n0 s0 k i lv r M := by
  intro ad ls H locs h
  obtain ⟨hx, hb, hml, hown, hts, hnest, hover, hr, hlocks, hname, hK, hX, hbl, hbA, hA, hfr, hlo⟩ := F
  have a := nx ad ls H locs (zrl_st h (fun v hv => by rcases List.mem_cons.mp hv with rfl | hv; exact trivial; exact h.2.2.2.2.2.2.2.1 v hv))
  simp only [zmt, Bool.and_eq_true, decide_eq_true_eq] at hm
  obtain ⟨hnx, hm⟩ := hm
  rw [hnx] at a
  rw [hpc]
  split at hm
  · obtain ⟨rfl, e⟩ : _ ∧ _ := by simpa only [Bool.and_eq_true, decide_eq_true_eq] using hm
    exact lv_lconst hx hb hdec e a
  · obtain ⟨rfl, e⟩ : _ ∧ _ := by simpa only [Bool.and_eq_true, decide_eq_true_eq] using hm
    exact lv_ldc2 hx hb hown (hts _ (zwd_in e)) hdec a
  · cases hm
theorem zs_iload (F : zfx p R s m args meth c D cO A b L xs k) (hpc : zat (gPc k) i = some pc) (hdec : decode (gMe k).2.1 pc = .ok (o, len)) {j : Nat} {x : Int32} (hm : zmt (gMe k).1 (gMe k).2.2.1 (gPc k) i pc o len (.iload j) = true) (hj : zat lv j = some (some (.int x))) (nx : zGo p l e R s m args below meth c Q D cO A b L xs ad0 n0 s0 k (i + 1) lv (.int x :: r) M) : zGo p l e R s m args below meth c Q D cO A b L xs ad0 n0 s0 k i lv r M := by
  intro ad ls H locs h
  obtain ⟨hx, hb, hml, hown, hts, hnest, hover, hr, hlocks, hname, hK, hX, hbl, hbA, hA, hfr, hlo⟩ := F
  have a := nx ad ls H locs (zrl_st h (fun v hv => by rcases List.mem_cons.mp hv with rfl | hv; exact trivial; exact h.2.2.2.2.2.2.2.1 v hv))
  have hl : ls[j]? = some (.val (.int x)) := h.2.2.2.2.2.2.1.2.2 j _ hj
  simp only [zmt, Bool.and_eq_true, decide_eq_true_eq] at hm
  obtain ⟨hnx, hm⟩ := hm
  rw [hnx] at a
  rw [hpc]
  split at hm
  · obtain ⟨rfl, e⟩ : _ ∧ _ := by simpa only [Bool.and_eq_true, decide_eq_true_eq] using hm
    exact lv_iload_n hx hb hdec e hl a
  · obtain ⟨rfl, rfl⟩ : _ ∧ _ := by simpa only [Bool.and_eq_true, decide_eq_true_eq] using hm
    exact lv_iload hx hb hdec hl a
  · cases hm
theorem zs_lload (F : zfx p R s m args meth c D cO A b L xs k) (hpc : zat (gPc k) i = some pc) (hdec : decode (gMe k).2.1 pc = .ok (o, len)) {j : Nat} {x : Int64} (hm : zmt (gMe k).1 (gMe k).2.2.1 (gPc k) i pc o len (.lload j) = true) (hj : zat lv j = some (some (.long x))) (nx : zGo p l e R s m args below meth c Q D cO A b L xs ad0 n0 s0 k (i + 1) lv (.long x :: r) M) : zGo p l e R s m args below meth c Q D cO A b L xs ad0 n0 s0 k i lv r M := by
  intro ad ls H locs h
  obtain ⟨hx, hb, hml, hown, hts, hnest, hover, hr, hlocks, hname, hK, hX, hbl, hbA, hA, hfr, hlo⟩ := F
  have a := nx ad ls H locs (zrl_st h (fun v hv => by rcases List.mem_cons.mp hv with rfl | hv; exact trivial; exact h.2.2.2.2.2.2.2.1 v hv))
  have hl : ls[j]? = some (.val (.long x)) := h.2.2.2.2.2.2.1.2.2 j _ hj
  simp only [zmt, Bool.and_eq_true, decide_eq_true_eq] at hm
  obtain ⟨hnx, hm⟩ := hm
  rw [hnx] at a
  rw [hpc]
  split at hm
  · obtain ⟨rfl, e⟩ : _ ∧ _ := by simpa only [Bool.and_eq_true, decide_eq_true_eq] using hm
    exact lv_lload_n hx hb hdec e hl a
  · obtain ⟨rfl, rfl⟩ : _ ∧ _ := by simpa only [Bool.and_eq_true, decide_eq_true_eq] using hm
    exact lv_lload hx hb hdec hl a
  · cases hm
theorem zs_aload (F : zfx p R s m args meth c D cO A b L xs k) (hpc : zat (gPc k) i = some pc) (hdec : decode (gMe k).2.1 pc = .ok (o, len)) {j : Nat} {x : Nat} (hm : zmt (gMe k).1 (gMe k).2.2.1 (gPc k) i pc o len (.aload j) = true) (hj : zat lv j = some (some (.ref x))) (nx : zGo p l e R s m args below meth c Q D cO A b L xs ad0 n0 s0 k (i + 1) lv (.ref x :: r) M) : zGo p l e R s m args below meth c Q D cO A b L xs ad0 n0 s0 k i lv r M := by
  intro ad ls H locs h
  obtain ⟨hx, hb, hml, hown, hts, hnest, hover, hr, hlocks, hname, hK, hX, hbl, hbA, hA, hfr, hlo⟩ := F
  have a := nx ad ls H locs (zrl_st h (fun v hv => by rcases List.mem_cons.mp hv with rfl | hv; exact h.2.2.2.2.2.2.2.2.1 j _ hj; exact h.2.2.2.2.2.2.2.1 v hv))
  have hl : ls[j]? = some (.val (va_rf (zro ad x))) := h.2.2.2.2.2.2.1.2.2 j _ hj
  simp only [zmt, Bool.and_eq_true, decide_eq_true_eq] at hm
  obtain ⟨hnx, hm⟩ := hm
  rw [hnx] at a
  rw [hpc]
  rw [List.map_cons] at a
  rw [show zV ad (.ref x) = va_rf (zro ad x) from rfl] at a
  revert a hl
  cases zro ad x with
  | none =>
    intro a hl
    split at hm
    · obtain ⟨rfl, e⟩ : _ ∧ _ := by simpa only [Bool.and_eq_true, decide_eq_true_eq] using hm
      exact lv_aload_nN hx hb hdec e hl a
    · obtain ⟨rfl, rfl⟩ : _ ∧ _ := by simpa only [Bool.and_eq_true, decide_eq_true_eq] using hm
      exact lv_aloadN hx hb hdec hl a
    · cases hm
  | some q =>
    intro a hl
    split at hm
    · obtain ⟨rfl, e⟩ : _ ∧ _ := by simpa only [Bool.and_eq_true, decide_eq_true_eq] using hm
      exact lv_aload_n hx hb hdec e hl a
    · obtain ⟨rfl, rfl⟩ : _ ∧ _ := by simpa only [Bool.and_eq_true, decide_eq_true_eq] using hm
      exact lv_aload hx hb hdec hl a
    · cases hm
theorem zs_istore (F : zfx p R s m args meth c D cO A b L xs k) (hpc : zat (gPc k) i = some pc) (hdec : decode (gMe k).2.1 pc = .ok (o, len)) {j : Nat} {x : Int32} (hm : zmt (gMe k).1 (gMe k).2.2.1 (gPc k) i pc o len (.istore j) = true) (nx : zGo p l e R s m args below meth c Q D cO A b L xs ad0 n0 s0 k (i + 1) (zst1 lv j (.int x)) r M) : zGo p l e R s m args below meth c Q D cO A b L xs ad0 n0 s0 k i lv (.int x :: r) M := by
  intro ad ls H locs h
  obtain ⟨hx, hb, hml, hown, hts, hnest, hover, hr, hlocks, hname, hK, hX, hbl, hbA, hA, hfr, hlo⟩ := F
  have a := fun ls' hl' => nx ad ls' H locs (zrl_lv h (fun v hv => h.2.2.2.2.2.2.2.1 v (List.mem_cons_of_mem _ hv)) hl' (zst1_val h.2.2.2.2.2.2.2.2.1 trivial))
  have hh := zlv_has h.2.2.2.2.2.2.1
  simp only [zmt, Bool.and_eq_true, decide_eq_true_eq] at hm
  obtain ⟨hnx, hm⟩ := hm
  rw [hnx] at a
  rw [hpc]
  split at hm
  · obtain ⟨⟨rfl, e⟩, hn⟩ : (_ ∧ _) ∧ _ := by simpa only [Bool.and_eq_true, decide_eq_true_eq] using hm
    exact lv_istore_n hx hb hdec e hh hn rfl fun ls' hl' => a ls' (zlv_st1 hl')
  · obtain ⟨⟨rfl, rfl⟩, hn⟩ : (_ ∧ _) ∧ _ := by simpa only [Bool.and_eq_true, decide_eq_true_eq] using hm
    exact lv_istore hx hb hdec hh hn rfl fun ls' hl' => a ls' (zlv_st1 hl')
  · cases hm
theorem zs_lstore (F : zfx p R s m args meth c D cO A b L xs k) (hpc : zat (gPc k) i = some pc) (hdec : decode (gMe k).2.1 pc = .ok (o, len)) {j : Nat} {x : Int64} (hm : zmt (gMe k).1 (gMe k).2.2.1 (gPc k) i pc o len (.lstore j) = true) (nx : zGo p l e R s m args below meth c Q D cO A b L xs ad0 n0 s0 k (i + 1) (zst2 lv j (.long x)) r M) : zGo p l e R s m args below meth c Q D cO A b L xs ad0 n0 s0 k i lv (.long x :: r) M := by
  intro ad ls H locs h
  obtain ⟨hx, hb, hml, hown, hts, hnest, hover, hr, hlocks, hname, hK, hX, hbl, hbA, hA, hfr, hlo⟩ := F
  have a := fun ls' hl' => nx ad ls' H locs (zrl_lv h (fun v hv => h.2.2.2.2.2.2.2.1 v (List.mem_cons_of_mem _ hv)) hl' (zst2_val h.2.2.2.2.2.2.2.2.1 trivial))
  have hh := zlv_has h.2.2.2.2.2.2.1
  simp only [zmt, Bool.and_eq_true, decide_eq_true_eq] at hm
  obtain ⟨hnx, hm⟩ := hm
  rw [hnx] at a
  rw [hpc]
  split at hm
  · obtain ⟨⟨rfl, e⟩, hn⟩ : (_ ∧ _) ∧ _ := by simpa only [Bool.and_eq_true, decide_eq_true_eq] using hm
    exact lv_lstore_n hx hb hdec e hh hn rfl fun ls' hl' => a ls' (zlv_st2 hl')
  · obtain ⟨⟨rfl, rfl⟩, hn⟩ : (_ ∧ _) ∧ _ := by simpa only [Bool.and_eq_true, decide_eq_true_eq] using hm
    exact lv_lstore hx hb hdec hh hn rfl fun ls' hl' => a ls' (zlv_st2 hl')
  · cases hm
theorem zs_astore (F : zfx p R s m args meth c D cO A b L xs k) (hpc : zat (gPc k) i = some pc) (hdec : decode (gMe k).2.1 pc = .ok (o, len)) {j : Nat} {x : Nat} (hm : zmt (gMe k).1 (gMe k).2.2.1 (gPc k) i pc o len (.astore j) = true) (nx : zGo p l e R s m args below meth c Q D cO A b L xs ad0 n0 s0 k (i + 1) (zst1 lv j (.ref x)) r M) : zGo p l e R s m args below meth c Q D cO A b L xs ad0 n0 s0 k i lv (.ref x :: r) M := by
  intro ad ls H locs h
  obtain ⟨hx, hb, hml, hown, hts, hnest, hover, hr, hlocks, hname, hK, hX, hbl, hbA, hA, hfr, hlo⟩ := F
  have a := fun ls' hl' => nx ad ls' H locs (zrl_lv h (fun v hv => h.2.2.2.2.2.2.2.1 v (List.mem_cons_of_mem _ hv)) hl' (zst1_val h.2.2.2.2.2.2.2.2.1 (h.2.2.2.2.2.2.2.1 _ List.mem_cons_self)))
  have hh := zlv_has h.2.2.2.2.2.2.1
  simp only [zmt, Bool.and_eq_true, decide_eq_true_eq] at hm
  obtain ⟨hnx, hm⟩ := hm
  rw [hnx] at a
  rw [hpc, List.map_cons]
  have key : ∀ ls', lv_has ls' (gMe k).2.2.1 ((j, zV ad (.ref x)) :: (zprs ad lv).filter (fun q => !(q.1 == j) && !(q.1 + 1 == j && q.2.category == 2))) → W p l e R s m args below meth c H locs (zn M - n0) (zs M - s0) Q (F0 m (pc + len) ls' (r.map (zV ad))) := fun ls' hl' => a ls' (zlv_st1 hl')
  rw [show zV ad (.ref x) = va_rf (zro ad x) from rfl] at key ⊢
  revert key
  cases zro ad x with
  | none =>
    intro key
    split at hm
    · obtain ⟨⟨rfl, e⟩, hn⟩ : (_ ∧ _) ∧ _ := by simpa only [Bool.and_eq_true, decide_eq_true_eq] using hm
      exact lv_astore_nN hx hb hdec e hh hn rfl key
    · obtain ⟨⟨rfl, rfl⟩, hn⟩ : (_ ∧ _) ∧ _ := by simpa only [Bool.and_eq_true, decide_eq_true_eq] using hm
      exact lv_astoreN hx hb hdec hh hn rfl key
    · cases hm
  | some q =>
    intro key
    split at hm
    · obtain ⟨⟨rfl, e⟩, hn⟩ : (_ ∧ _) ∧ _ := by simpa only [Bool.and_eq_true, decide_eq_true_eq] using hm
      exact lv_astore_n hx hb hdec e hh hn rfl key
    · obtain ⟨⟨rfl, rfl⟩, hn⟩ : (_ ∧ _) ∧ _ := by simpa only [Bool.and_eq_true, decide_eq_true_eq] using hm
      exact lv_astore hx hb hdec hh hn rfl key
    · cases hm
theorem zs_iinc (F : zfx p R s m args meth c D cO A b L xs k) (hpc : zat (gPc k) i = some pc) (hdec : decode (gMe k).2.1 pc = .ok (o, len)) {j : Nat} {x : Int32} {n : Int} (hm : zmt (gMe k).1 (gMe k).2.2.1 (gPc k) i pc o len (.iinc j n) = true) (hj : zat lv j = some (some (.int x))) (nx : zGo p l e R s m args below meth c Q D cO A b L xs ad0 n0 s0 k (i + 1) (zst1 lv j (.int (x + zc n))) r M) : zGo p l e R s m args below meth c Q D cO A b L xs ad0 n0 s0 k i lv r M := by
  intro ad ls H locs h
  obtain ⟨hx, hb, hml, hown, hts, hnest, hover, hr, hlocks, hname, hK, hX, hbl, hbA, hA, hfr, hlo⟩ := F
  have a := fun ls' hl' => nx ad ls' H locs (zrl_lv h h.2.2.2.2.2.2.2.1 hl' (zst1_val h.2.2.2.2.2.2.2.2.1 trivial))
  have hh := zlv_has h.2.2.2.2.2.2.1
  simp only [zmt, Bool.and_eq_true, decide_eq_true_eq] at hm
  obtain ⟨hnx, hm⟩ := hm
  rw [hnx] at a
  rw [hpc]
  split at hm
  · obtain ⟨⟨⟨rfl, rfl⟩, hn⟩, e⟩ : ((_ ∧ _) ∧ _) ∧ _ := by simpa only [Bool.and_eq_true, decide_eq_true_eq] using hm
    obtain ⟨q, hq⟩ := List.getElem?_of_mem (zprs_mem (ad := ad) (q := (_, Value.int x)).mpr ⟨_, hj, rfl⟩)
    exact lv_iinc hx hb hdec hh hq (by rw [e]) hn rfl fun ls' hl' => a ls' (zlv_st1 hl')
  · cases hm
theorem ztg_at {pcs : List Nat} {pc : Nat} {off t : Int} (h : ztg pcs pc off t = true) : ∃ tgt : Nat, zat pcs t.toNat = some tgt ∧ (pc : Int) + off = (tgt : Int) := by
  simp only [ztg, Bool.and_eq_true, decide_eq_true_eq] at h
  exact ⟨_, h.2, by rw [Int.toNat_of_nonneg h.1]⟩
theorem zs_goto (F : zfx p R s m args meth c D cO A b L xs k) (hpc : zat (gPc k) i = some pc) (hdec : decode (gMe k).2.1 pc = .ok (o, len)) {t : Int} (hm : zmt (gMe k).1 (gMe k).2.2.1 (gPc k) i pc o len (.goto t) = true) (nx : zGo p l e R s m args below meth c Q D cO A b L xs ad0 n0 s0 k t.toNat lv r M) : zGo p l e R s m args below meth c Q D cO A b L xs ad0 n0 s0 k i lv r M := by
  intro ad ls H locs h
  obtain ⟨hx, hb, hml, hown, hts, hnest, hover, hr, hlocks, hname, hK, hX, hbl, hbA, hA, hfr, hlo⟩ := F
  have a := nx ad ls H locs h
  simp only [zmt] at hm
  rw [hpc]
  split at hm
  · obtain ⟨rfl, e⟩ : _ ∧ _ := by simpa only [Bool.and_eq_true, decide_eq_true_eq] using hm
    obtain ⟨tgt, e1, e2⟩ := ztg_at e
    rw [e1] at a
    exact lv_goto hx hb hdec e2 a
  · cases hm
theorem zs_if_eq (F : zfx p R s m args meth c D cO A b L xs k) (hpc : zat (gPc k) i = some pc) (hdec : decode (gMe k).2.1 pc = .ok (o, len)) {t : Int} {x : Int32} (hm : zmt (gMe k).1 (gMe k).2.2.1 (gPc k) i pc o len (.ifCond .eq t) = true) (n1 : x = 0 → zGo p l e R s m args below meth c Q D cO A b L xs ad0 n0 s0 k t.toNat lv r M) (n2 : ¬ (x = 0) → zGo p l e R s m args below meth c Q D cO A b L xs ad0 n0 s0 k (i + 1) lv r M) : zGo p l e R s m args below meth c Q D cO A b L xs ad0 n0 s0 k i lv (.int x :: r) M := by
  intro ad ls H locs h
  obtain ⟨hx, hb, hml, hown, hts, hnest, hover, hr, hlocks, hname, hK, hX, hbl, hbA, hA, hfr, hlo⟩ := F
  have h' := zrl_st (st' := r) h (fun v hv => h.2.2.2.2.2.2.2.1 v (List.mem_cons_of_mem _ hv))
  have a1 := fun q => n1 q ad ls H locs h'
  have a2 := fun q => n2 q ad ls H locs h'
  simp only [zmt, Bool.and_eq_true, decide_eq_true_eq] at hm
  obtain ⟨hnx, hm⟩ := hm
  rw [hnx] at a2
  rw [hpc]
  split at hm
  · obtain ⟨⟨rfl, rfl⟩, e⟩ : (_ ∧ _) ∧ _ := by simpa only [Bool.and_eq_true, decide_eq_true_eq] using hm
    obtain ⟨tgt, e1, e2⟩ := ztg_at e
    rw [e1] at a1
    exact lv_if_eq hx hb hdec e2 a1 a2
  · cases hm
theorem zs_icmp_eq (F : zfx p R s m args meth c D cO A b L xs k) (hpc : zat (gPc k) i = some pc) (hdec : decode (gMe k).2.1 pc = .ok (o, len)) {t : Int} {x y : Int32} (hm : zmt (gMe k).1 (gMe k).2.2.1 (gPc k) i pc o len (.if_icmp .eq t) = true) (n1 : x = y → zGo p l e R s m args below meth c Q D cO A b L xs ad0 n0 s0 k t.toNat lv r M) (n2 : ¬ (x = y) → zGo p l e R s m args below meth c Q D cO A b L xs ad0 n0 s0 k (i + 1) lv r M) : zGo p l e R s m args below meth c Q D cO A b L xs ad0 n0 s0 k i lv (.int y :: .int x :: r) M := by
  intro ad ls H locs h
  obtain ⟨hx, hb, hml, hown, hts, hnest, hover, hr, hlocks, hname, hK, hX, hbl, hbA, hA, hfr, hlo⟩ := F
  have h' := zrl_st (st' := r) h (fun v hv => h.2.2.2.2.2.2.2.1 v (List.mem_cons_of_mem _ (List.mem_cons_of_mem _ hv)))
  have a1 := fun q => n1 q ad ls H locs h'
  have a2 := fun q => n2 q ad ls H locs h'
  simp only [zmt, Bool.and_eq_true, decide_eq_true_eq] at hm
  obtain ⟨hnx, hm⟩ := hm
  rw [hnx] at a2
  rw [hpc]
  split at hm
  · obtain ⟨⟨rfl, rfl⟩, e⟩ : (_ ∧ _) ∧ _ := by simpa only [Bool.and_eq_true, decide_eq_true_eq] using hm
    obtain ⟨tgt, e1, e2⟩ := ztg_at e
    rw [e1] at a1
    exact lv_icmp_eq hx hb hdec e2 a1 a2
  · cases hm
theorem zs_if_ne (F : zfx p R s m args meth c D cO A b L xs k) (hpc : zat (gPc k) i = some pc) (hdec : decode (gMe k).2.1 pc = .ok (o, len)) {t : Int} {x : Int32} (hm : zmt (gMe k).1 (gMe k).2.2.1 (gPc k) i pc o len (.ifCond .ne t) = true) (n1 : ¬ x = 0 → zGo p l e R s m args below meth c Q D cO A b L xs ad0 n0 s0 k t.toNat lv r M) (n2 : ¬ (¬ x = 0) → zGo p l e R s m args below meth c Q D cO A b L xs ad0 n0 s0 k (i + 1) lv r M) : zGo p l e R s m args below meth c Q D cO A b L xs ad0 n0 s0 k i lv (.int x :: r) M := by
  intro ad ls H locs h
  obtain ⟨hx, hb, hml, hown, hts, hnest, hover, hr, hlocks, hname, hK, hX, hbl, hbA, hA, hfr, hlo⟩ := F
  have h' := zrl_st (st' := r) h (fun v hv => h.2.2.2.2.2.2.2.1 v (List.mem_cons_of_mem _ hv))
  have a1 := fun q => n1 q ad ls H locs h'
  have a2 := fun q => n2 q ad ls H locs h'
  simp only [zmt, Bool.and_eq_true, decide_eq_true_eq] at hm
  obtain ⟨hnx, hm⟩ := hm
  rw [hnx] at a2
  rw [hpc]
  split at hm
  · obtain ⟨⟨rfl, rfl⟩, e⟩ : (_ ∧ _) ∧ _ := by simpa only [Bool.and_eq_true, decide_eq_true_eq] using hm
    obtain ⟨tgt, e1, e2⟩ := ztg_at e
    rw [e1] at a1
    exact lv_if_ne hx hb hdec e2 a1 (fun q => a2 (fun z => z q))
  · cases hm
theorem zs_icmp_ne (F : zfx p R s m args meth c D cO A b L xs k) (hpc : zat (gPc k) i = some pc) (hdec : decode (gMe k).2.1 pc = .ok (o, len)) {t : Int} {x y : Int32} (hm : zmt (gMe k).1 (gMe k).2.2.1 (gPc k) i pc o len (.if_icmp .ne t) = true) (n1 : ¬ x = y → zGo p l e R s m args below meth c Q D cO A b L xs ad0 n0 s0 k t.toNat lv r M) (n2 : ¬ (¬ x = y) → zGo p l e R s m args below meth c Q D cO A b L xs ad0 n0 s0 k (i + 1) lv r M) : zGo p l e R s m args below meth c Q D cO A b L xs ad0 n0 s0 k i lv (.int y :: .int x :: r) M := by
  intro ad ls H locs h
  obtain ⟨hx, hb, hml, hown, hts, hnest, hover, hr, hlocks, hname, hK, hX, hbl, hbA, hA, hfr, hlo⟩ := F
  have h' := zrl_st (st' := r) h (fun v hv => h.2.2.2.2.2.2.2.1 v (List.mem_cons_of_mem _ (List.mem_cons_of_mem _ hv)))
  have a1 := fun q => n1 q ad ls H locs h'
  have a2 := fun q => n2 q ad ls H locs h'
  simp only [zmt, Bool.and_eq_true, decide_eq_true_eq] at hm
  obtain ⟨hnx, hm⟩ := hm
  rw [hnx] at a2
  rw [hpc]
  split at hm
  · obtain ⟨⟨rfl, rfl⟩, e⟩ : (_ ∧ _) ∧ _ := by simpa only [Bool.and_eq_true, decide_eq_true_eq] using hm
    obtain ⟨tgt, e1, e2⟩ := ztg_at e
    rw [e1] at a1
    exact lv_icmp_ne hx hb hdec e2 a1 (fun q => a2 (fun z => z q))
  · cases hm
theorem zs_if_lt (F : zfx p R s m args meth c D cO A b L xs k) (hpc : zat (gPc k) i = some pc) (hdec : decode (gMe k).2.1 pc = .ok (o, len)) {t : Int} {x : Int32} (hm : zmt (gMe k).1 (gMe k).2.2.1 (gPc k) i pc o len (.ifCond .lt t) = true) (n1 : x < 0 → zGo p l e R s m args below meth c Q D cO A b L xs ad0 n0 s0 k t.toNat lv r M) (n2 : ¬ (x < 0) → zGo p l e R s m args below meth c Q D cO A b L xs ad0 n0 s0 k (i + 1) lv r M) : zGo p l e R s m args below meth c Q D cO A b L xs ad0 n0 s0 k i lv (.int x :: r) M := by
  intro ad ls H locs h
  obtain ⟨hx, hb, hml, hown, hts, hnest, hover, hr, hlocks, hname, hK, hX, hbl, hbA, hA, hfr, hlo⟩ := F
  have h' := zrl_st (st' := r) h (fun v hv => h.2.2.2.2.2.2.2.1 v (List.mem_cons_of_mem _ hv))
  have a1 := fun q => n1 q ad ls H locs h'
  have a2 := fun q => n2 q ad ls H locs h'
  simp only [zmt, Bool.and_eq_true, decide_eq_true_eq] at hm
  obtain ⟨hnx, hm⟩ := hm
  rw [hnx] at a2
  rw [hpc]
  split at hm
  · obtain ⟨⟨rfl, rfl⟩, e⟩ : (_ ∧ _) ∧ _ := by simpa only [Bool.and_eq_true, decide_eq_true_eq] using hm
    obtain ⟨tgt, e1, e2⟩ := ztg_at e
    rw [e1] at a1
    exact lv_if_lt hx hb hdec e2 a1 a2
  · cases hm
theorem zs_icmp_lt (F : zfx p R s m args meth c D cO A b L xs k) (hpc : zat (gPc k) i = some pc) (hdec : decode (gMe k).2.1 pc = .ok (o, len)) {t : Int} {x y : Int32} (hm : zmt (gMe k).1 (gMe k).2.2.1 (gPc k) i pc o len (.if_icmp .lt t) = true) (n1 : x < y → zGo p l e R s m args below meth c Q D cO A b L xs ad0 n0 s0 k t.toNat lv r M) (n2 : ¬ (x < y) → zGo p l e R s m args below meth c Q D cO A b L xs ad0 n0 s0 k (i + 1) lv r M) : zGo p l e R s m args below meth c Q D cO A b L xs ad0 n0 s0 k i lv (.int y :: .int x :: r) M := by
  intro ad ls H locs h
  obtain ⟨hx, hb, hml, hown, hts, hnest, hover, hr, hlocks, hname, hK, hX, hbl, hbA, hA, hfr, hlo⟩ := F
  have h' := zrl_st (st' := r) h (fun v hv => h.2.2.2.2.2.2.2.1 v (List.mem_cons_of_mem _ (List.mem_cons_of_mem _ hv)))
  have a1 := fun q => n1 q ad ls H locs h'
  have a2 := fun q => n2 q ad ls H locs h'
  simp only [zmt, Bool.and_eq_true, decide_eq_true_eq] at hm
  obtain ⟨hnx, hm⟩ := hm
  rw [hnx] at a2
  rw [hpc]
  split at hm
  · obtain ⟨⟨rfl, rfl⟩, e⟩ : (_ ∧ _) ∧ _ := by simpa only [Bool.and_eq_true, decide_eq_true_eq] using hm
    obtain ⟨tgt, e1, e2⟩ := ztg_at e
    rw [e1] at a1
    exact lv_icmp_lt hx hb hdec e2 a1 a2
  · cases hm
theorem zs_if_ge (F : zfx p R s m args meth c D cO A b L xs k) (hpc : zat (gPc k) i = some pc) (hdec : decode (gMe k).2.1 pc = .ok (o, len)) {t : Int} {x : Int32} (hm : zmt (gMe k).1 (gMe k).2.2.1 (gPc k) i pc o len (.ifCond .ge t) = true) (n1 : 0 ≤ x → zGo p l e R s m args below meth c Q D cO A b L xs ad0 n0 s0 k t.toNat lv r M) (n2 : ¬ (0 ≤ x) → zGo p l e R s m args below meth c Q D cO A b L xs ad0 n0 s0 k (i + 1) lv r M) : zGo p l e R s m args below meth c Q D cO A b L xs ad0 n0 s0 k i lv (.int x :: r) M := by
  intro ad ls H locs h
  obtain ⟨hx, hb, hml, hown, hts, hnest, hover, hr, hlocks, hname, hK, hX, hbl, hbA, hA, hfr, hlo⟩ := F
  have h' := zrl_st (st' := r) h (fun v hv => h.2.2.2.2.2.2.2.1 v (List.mem_cons_of_mem _ hv))
  have a1 := fun q => n1 q ad ls H locs h'
  have a2 := fun q => n2 q ad ls H locs h'
  simp only [zmt, Bool.and_eq_true, decide_eq_true_eq] at hm
  obtain ⟨hnx, hm⟩ := hm
  rw [hnx] at a2
  rw [hpc]
  split at hm
  · obtain ⟨⟨rfl, rfl⟩, e⟩ : (_ ∧ _) ∧ _ := by simpa only [Bool.and_eq_true, decide_eq_true_eq] using hm
    obtain ⟨tgt, e1, e2⟩ := ztg_at e
    rw [e1] at a1
    exact lv_if_ge hx hb hdec e2 a1 a2
  · cases hm
theorem zs_icmp_ge (F : zfx p R s m args meth c D cO A b L xs k) (hpc : zat (gPc k) i = some pc) (hdec : decode (gMe k).2.1 pc = .ok (o, len)) {t : Int} {x y : Int32} (hm : zmt (gMe k).1 (gMe k).2.2.1 (gPc k) i pc o len (.if_icmp .ge t) = true) (n1 : y ≤ x → zGo p l e R s m args below meth c Q D cO A b L xs ad0 n0 s0 k t.toNat lv r M) (n2 : ¬ (y ≤ x) → zGo p l e R s m args below meth c Q D cO A b L xs ad0 n0 s0 k (i + 1) lv r M) : zGo p l e R s m args below meth c Q D cO A b L xs ad0 n0 s0 k i lv (.int y :: .int x :: r) M := by
  intro ad ls H locs h
  obtain ⟨hx, hb, hml, hown, hts, hnest, hover, hr, hlocks, hname, hK, hX, hbl, hbA, hA, hfr, hlo⟩ := F
  have h' := zrl_st (st' := r) h (fun v hv => h.2.2.2.2.2.2.2.1 v (List.mem_cons_of_mem _ (List.mem_cons_of_mem _ hv)))
  have a1 := fun q => n1 q ad ls H locs h'
  have a2 := fun q => n2 q ad ls H locs h'
  simp only [zmt, Bool.and_eq_true, decide_eq_true_eq] at hm
  obtain ⟨hnx, hm⟩ := hm
  rw [hnx] at a2
  rw [hpc]
  split at hm
  · obtain ⟨⟨rfl, rfl⟩, e⟩ : (_ ∧ _) ∧ _ := by simpa only [Bool.and_eq_true, decide_eq_true_eq] using hm
    obtain ⟨tgt, e1, e2⟩ := ztg_at e
    rw [e1] at a1
    exact lv_icmp_ge hx hb hdec e2 a1 a2
  · cases hm
theorem zs_if_gt (F : zfx p R s m args meth c D cO A b L xs k) (hpc : zat (gPc k) i = some pc) (hdec : decode (gMe k).2.1 pc = .ok (o, len)) {t : Int} {x : Int32} (hm : zmt (gMe k).1 (gMe k).2.2.1 (gPc k) i pc o len (.ifCond .gt t) = true) (n1 : 0 < x → zGo p l e R s m args below meth c Q D cO A b L xs ad0 n0 s0 k t.toNat lv r M) (n2 : ¬ (0 < x) → zGo p l e R s m args below meth c Q D cO A b L xs ad0 n0 s0 k (i + 1) lv r M) : zGo p l e R s m args below meth c Q D cO A b L xs ad0 n0 s0 k i lv (.int x :: r) M := by
  intro ad ls H locs h
  obtain ⟨hx, hb, hml, hown, hts, hnest, hover, hr, hlocks, hname, hK, hX, hbl, hbA, hA, hfr, hlo⟩ := F
  have h' := zrl_st (st' := r) h (fun v hv => h.2.2.2.2.2.2.2.1 v (List.mem_cons_of_mem _ hv))
  have a1 := fun q => n1 q ad ls H locs h'
  have a2 := fun q => n2 q ad ls H locs h'
  simp only [zmt, Bool.and_eq_true, decide_eq_true_eq] at hm
  obtain ⟨hnx, hm⟩ := hm
  rw [hnx] at a2
  rw [hpc]
  split at hm
  · obtain ⟨⟨rfl, rfl⟩, e⟩ : (_ ∧ _) ∧ _ := by simpa only [Bool.and_eq_true, decide_eq_true_eq] using hm
    obtain ⟨tgt, e1, e2⟩ := ztg_at e
    rw [e1] at a1
    exact lv_if_gt hx hb hdec e2 a1 a2
  · cases hm
theorem zs_icmp_gt (F : zfx p R s m args meth c D cO A b L xs k) (hpc : zat (gPc k) i = some pc) (hdec : decode (gMe k).2.1 pc = .ok (o, len)) {t : Int} {x y : Int32} (hm : zmt (gMe k).1 (gMe k).2.2.1 (gPc k) i pc o len (.if_icmp .gt t) = true) (n1 : y < x → zGo p l e R s m args below meth c Q D cO A b L xs ad0 n0 s0 k t.toNat lv r M) (n2 : ¬ (y < x) → zGo p l e R s m args below meth c Q D cO A b L xs ad0 n0 s0 k (i + 1) lv r M) : zGo p l e R s m args below meth c Q D cO A b L xs ad0 n0 s0 k i lv (.int y :: .int x :: r) M := by
  intro ad ls H locs h
  obtain ⟨hx, hb, hml, hown, hts, hnest, hover, hr, hlocks, hname, hK, hX, hbl, hbA, hA, hfr, hlo⟩ := F
  have h' := zrl_st (st' := r) h (fun v hv => h.2.2.2.2.2.2.2.1 v (List.mem_cons_of_mem _ (List.mem_cons_of_mem _ hv)))
  have a1 := fun q => n1 q ad ls H locs h'
  have a2 := fun q => n2 q ad ls H locs h'
  simp only [zmt, Bool.and_eq_true, decide_eq_true_eq] at hm
  obtain ⟨hnx, hm⟩ := hm
  rw [hnx] at a2
  rw [hpc]
  split at hm
  · obtain ⟨⟨rfl, rfl⟩, e⟩ : (_ ∧ _) ∧ _ := by simpa only [Bool.and_eq_true, decide_eq_true_eq] using hm
    obtain ⟨tgt, e1, e2⟩ := ztg_at e
    rw [e1] at a1
    exact lv_icmp_gt hx hb hdec e2 a1 a2
  · cases hm
theorem zs_if_le (F : zfx p R s m args meth c D cO A b L xs k) (hpc : zat (gPc k) i = some pc) (hdec : decode (gMe k).2.1 pc = .ok (o, len)) {t : Int} {x : Int32} (hm : zmt (gMe k).1 (gMe k).2.2.1 (gPc k) i pc o len (.ifCond .le t) = true) (n1 : x ≤ 0 → zGo p l e R s m args below meth c Q D cO A b L xs ad0 n0 s0 k t.toNat lv r M) (n2 : ¬ (x ≤ 0) → zGo p l e R s m args below meth c Q D cO A b L xs ad0 n0 s0 k (i + 1) lv r M) : zGo p l e R s m args below meth c Q D cO A b L xs ad0 n0 s0 k i lv (.int x :: r) M := by
  intro ad ls H locs h
  obtain ⟨hx, hb, hml, hown, hts, hnest, hover, hr, hlocks, hname, hK, hX, hbl, hbA, hA, hfr, hlo⟩ := F
  have h' := zrl_st (st' := r) h (fun v hv => h.2.2.2.2.2.2.2.1 v (List.mem_cons_of_mem _ hv))
  have a1 := fun q => n1 q ad ls H locs h'
  have a2 := fun q => n2 q ad ls H locs h'
  simp only [zmt, Bool.and_eq_true, decide_eq_true_eq] at hm
  obtain ⟨hnx, hm⟩ := hm
  rw [hnx] at a2
  rw [hpc]
  split at hm
  · obtain ⟨⟨rfl, rfl⟩, e⟩ : (_ ∧ _) ∧ _ := by simpa only [Bool.and_eq_true, decide_eq_true_eq] using hm
    obtain ⟨tgt, e1, e2⟩ := ztg_at e
    rw [e1] at a1
    exact lv_if_le hx hb hdec e2 a1 a2
  · cases hm
theorem zs_icmp_le (F : zfx p R s m args meth c D cO A b L xs k) (hpc : zat (gPc k) i = some pc) (hdec : decode (gMe k).2.1 pc = .ok (o, len)) {t : Int} {x y : Int32} (hm : zmt (gMe k).1 (gMe k).2.2.1 (gPc k) i pc o len (.if_icmp .le t) = true) (n1 : x ≤ y → zGo p l e R s m args below meth c Q D cO A b L xs ad0 n0 s0 k t.toNat lv r M) (n2 : ¬ (x ≤ y) → zGo p l e R s m args below meth c Q D cO A b L xs ad0 n0 s0 k (i + 1) lv r M) : zGo p l e R s m args below meth c Q D cO A b L xs ad0 n0 s0 k i lv (.int y :: .int x :: r) M := by
  intro ad ls H locs h
  obtain ⟨hx, hb, hml, hown, hts, hnest, hover, hr, hlocks, hname, hK, hX, hbl, hbA, hA, hfr, hlo⟩ := F
  have h' := zrl_st (st' := r) h (fun v hv => h.2.2.2.2.2.2.2.1 v (List.mem_cons_of_mem _ (List.mem_cons_of_mem _ hv)))
  have a1 := fun q => n1 q ad ls H locs h'
  have a2 := fun q => n2 q ad ls H locs h'
  simp only [zmt, Bool.and_eq_true, decide_eq_true_eq] at hm
  obtain ⟨hnx, hm⟩ := hm
  rw [hnx] at a2
  rw [hpc]
  split at hm
  · obtain ⟨⟨rfl, rfl⟩, e⟩ : (_ ∧ _) ∧ _ := by simpa only [Bool.and_eq_true, decide_eq_true_eq] using hm
    obtain ⟨tgt, e1, e2⟩ := ztg_at e
    rw [e1] at a1
    exact lv_icmp_le hx hb hdec e2 a1 a2
  · cases hm
end ZS
