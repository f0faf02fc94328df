/-! a run in the small machine is a run of the method -/
theorem zckl_at {y : MethodName} {bytes : ByteArray} {nL : Nat} {pcs : List Nat} : ∀ (l : List Instr) (ps : List Nat) (i0 j : Nat) (ins : Instr), zckl y bytes nL pcs i0 l ps = true → zat l j = some ins → ∃ pc o len, zat ps j = some pc ∧ decode bytes pc = .ok (o, len) ∧ zmt y nL pcs (i0 + j) pc o len ins = true
  | [], _, _, _, _, _, h => by cases h
  | _ :: _, [], _, _, _, h, _ => by cases h
  | mi :: l, pc :: ps, i0, 0, ins, h, hj => by
    cases hj
    have h := ((Bool.and_eq_true _ _).mp h).1
    split at h
    · rename_i o len hd
      exact ⟨pc, o, len, rfl, hd, h⟩
    · cases h
  | mi :: l, pc :: ps, i0, j + 1, ins, h, hj => by
    obtain ⟨pc', o, len, h1, h2, h3⟩ := zckl_at l ps (i0 + 1) j ins ((Bool.and_eq_true _ _).mp h).2 hj
    exact ⟨pc', o, len, h1, h2, by rw [show i0 + (j + 1) = i0 + 1 + j by omega]; exact h3⟩
theorem zck_all {k : Nat} (h : k < gMeL.length) : (gTb k).2.1 = zrk (gMe k).2.2.2 ∧ (gTb k).2.2 = (gMe k).2.2.1 ∧ plainName (gMe k).1.cls = true ∧ zat (gPc k) 0 = some 0 ∧ zckl (gMe k).1 (gMe k).2.1 (gMe k).2.2.1 (gPc k) 0 (gTb k).1 (gPc k) = true := by
  have h1 := zck k h
  simp only [zckm, Bool.and_eq_true, decide_eq_true_eq] at h1
  exact ⟨h1.1.1.1.1.1.1, h1.1.1.1.1.1.2, h1.1.1.1.2, h1.1.1.2, h1.2⟩
section ZB
variable {p : Program} {l : Launch} {e : Env} {R : Room} {s : State} {m : MethodId} {args : Array Value} {below : List Frame} {meth : Method} {c : Code} {Q : State → Prop} {D : va_G} {cO : Nat → ClassId} {A : Nat → Prop} {b L : Nat} {xs : Nat → Int32} {ad0 : Nat → Nat} {n0 s0 k : Nat}
theorem zbody (F : zfx p R s m args meth c D cO A b L xs k) (hk : k < gMeL.length) {d : Nat} (hR : d + 1 ≤ R.frames ∧ zlo (d + 1) ≤ R.locals) (hMt : zMet d xs L) {r0 : List Value} {Mf : zM} (hrm : zn Mf - n0 ≤ R.cells ∧ zs Mf - s0 ≤ R.slots)
    (hret : ∀ (i pc len : Nat) (lv : zLv) (st : List Value) (M : zM) (o ins : Instr) (cs : List Prop) (ch : List (Prop × zO)) (q : zO), zat (gPc k) i = some pc → decode (gMe k).2.1 pc = .ok (o, len) → zmt (gMe k).1 (gMe k).2.2.1 (gPc k) i pc o len ins = true → zstep (zrk (gMe k).2.2.2) ins i lv st M = some (cs, ch, q) → (∀ c ∈ cs, c) → zpick ch q = .inr (.inl (r0, Mf)) → zGo p l e R s m args below meth c Q D cO A b L xs ad0 n0 s0 k i lv st M) :
    ∀ (f i : Nat) (lv : zLv) (st : List Value) (M : zM), zwp (zCl gTb d) (gTb k).2.1 (gTb k).1 (fun _ => false) (fun _ _ _ _ => False) (fun r' M' => r' = r0 ∧ M' = Mf) f i lv st M → zGo p l e R s m args below meth c Q D cO A b L xs ad0 n0 s0 k i lv st M
  | 0, _, _, _, _, a => a.elim
  | f + 1, i, lv, st, M, a => by
    have hck := zck_all hk
    have hgood := zCl_good gTb d
    have a : zgo (gTb k).2.1 (gTb k).1 i lv st M (zout (zCl gTb d) (fun i lv st M => zwp (zCl gTb d) (gTb k).2.1 (gTb k).1 (fun _ => false) (fun _ _ _ _ => False) (fun r' M' => r' = r0 ∧ M' = Mf) f i lv st M) (fun r' M' => r' = r0 ∧ M' = Mf)) := a
    unfold zgo at a
    split at a
    · exact a.elim
    · rename_i ins hins
      obtain ⟨pc, o, len, hpc, hdec, hm⟩ := zckl_at _ _ 0 i ins hck.2.2.2.2 hins
      rw [Nat.zero_add] at hm
      rw [hck.1] at a
      have hgr := zgr_step (zrk (gMe k).2.2.2) ins i lv st M
      cases hst : zstep (zrk (gMe k).2.2.2) ins i lv st M with
      | none => rw [hst] at a; exact a.elim
      | some w =>
        obtain ⟨cs, ch, q⟩ := w
        rw [hst] at a hgr
        obtain ⟨hcs, a⟩ := zcj_iff.mp a
        have a := zch_iff.mp a
        have hp : zn M ≤ zn (zOM (zpick ch q)) ∧ zs M ≤ zs (zOM (zpick ch q)) := by
          rcases zpick_mem ch q with h | ⟨q', hq', h⟩
          · rw [h]; exact hgr.1
          · rw [h]; exact hgr.2 q' hq'
        cases hq : zpick ch q with
        | inl w =>
          obtain ⟨i1, lv1, st1, M1⟩ := w
          rw [hq] at a
          have a : zwp (zCl gTb d) (zrk (gMe k).2.2.2) (gTb k).1 (fun _ => false) (fun _ _ _ _ => False) (fun r' M' => r' = r0 ∧ M' = Mf) f i1 lv1 st1 M1 := a
          obtain ⟨_, _, ⟨rfl, rfl⟩, d1, d2, -⟩ := zwp_det hgood f _ _ _ _ a
          rw [← hck.1] at a
          exact zs_all F hpc hdec hm hst hcs hq ⟨by omega, by omega⟩ (zbody F hk hR hMt hrm hret f i1 lv1 st1 M1 a)
        | inr w =>
          cases w with
          | inl w =>
            obtain ⟨r, M'⟩ := w
            rw [hq] at a
            obtain ⟨rfl, rfl⟩ : r = r0 ∧ M' = Mf := a
            exact hret i pc len lv st M o ins cs ch q hpc hdec hm hst hcs hq
          | inr w =>
            obtain ⟨m1, rk1, as, i1, lv1, r, M0⟩ := w
            rw [hq] at a hp
            obtain ⟨r1, M1, b0, e1, e2, hC⟩ := hgood.2 _ _ _ _ a
            obtain ⟨b1, b2⟩ := zrv_iff.mp b0
            obtain ⟨_, _, ⟨rfl, rfl⟩, d1, d2, -⟩ := zwp_det hgood f _ _ _ _ b2
            rw [← hck.1] at b2
            exact zs_call F hpc hdec hm hst hcs hq hR hMt hC b1 ⟨Nat.le_trans hp.1 e1, Nat.le_trans hp.2 e2⟩ ⟨by omega, by omega⟩ (zbody F hk hR hMt hrm hret f i1 lv1 (r1 ++ r) M1 b2)
end ZB
theorem zarg_at {ad : Nat → Nat} : ∀ (as : List Value) (k j : Nat) (v : Value), zat (zarg as) j = some (some v) → (k + j, zV ad v) ∈ lv_args k (as.map (zV ad))
  | [], _, _, _, h => by cases h
  | a :: as, k, j, v, h => by
    have hc : (zV ad a).category = a.category := zV_cat a
    show (k + j, zV ad v) ∈ (k, zV ad a) :: lv_args (if (zV ad a).category = 2 then k + 2 else k + 1) (as.map (zV ad))
    rw [hc]
    have one : ∀ (_ : zarg (a :: as) = some a :: zarg as) (_ : a.category = 1), (k + j, zV ad v) ∈ (k, zV ad a) :: lv_args (if a.category = 2 then k + 2 else k + 1) (as.map (zV ad)) := by
      intro e1 e2
      rw [e1] at h
      rw [e2]
      cases j with
      | zero => cases h; exact List.mem_cons_self
      | succ j =>
        refine List.mem_cons_of_mem _ ?_
        have := zarg_at (ad := ad) as (k + 1) j v h
        rw [show k + (j + 1) = k + 1 + j by omega]
        exact this
    have two : ∀ (_ : zarg (a :: as) = some a :: none :: zarg as) (_ : a.category = 2), (k + j, zV ad v) ∈ (k, zV ad a) :: lv_args (if a.category = 2 then k + 2 else k + 1) (as.map (zV ad)) := by
      intro e1 e2
      rw [e1] at h
      rw [e2]
      cases j with
      | zero => cases h; exact List.mem_cons_self
      | succ j =>
        cases j with
        | zero => cases h
        | succ j =>
          refine List.mem_cons_of_mem _ ?_
          have := zarg_at (ad := ad) as (k + 2) j v h
          rw [show k + (j + 1 + 1) = k + 2 + j by omega]
          exact this
    cases a with
    | long x => exact two rfl rfl
    | double x => exact two rfl rfl
    | int x => exact one rfl rfl
    | float x => exact one rfl rfl
    | null => exact one rfl rfl
    | ref x => exact one rfl rfl
    | retAddr x => exact one rfl rfl
theorem zarg_val {n : Nat} : ∀ (as : List Value) (j : Nat) (v : Value), (∀ v ∈ as, zval n v) → zat (zarg as) j = some (some v) → zval n v := by
  intro as j v h hj
  have h1 := zarg_at (ad := fun x => x) as 0 j v hj
  cases v with
  | ref x =>
    have key : ∀ (as : List Value) (j : Nat), zat (zarg as) j = some (some (.ref x)) → (.ref x) ∈ as := by
      intro as
      induction as with
      | nil => intro j h; cases h
      | cons a as ih =>
        intro j h
        cases a with
        | long y =>
          match j, h with
          | j + 2, h => exact List.mem_cons_of_mem _ (ih j h)
        | double y =>
          match j, h with
          | j + 2, h => exact List.mem_cons_of_mem _ (ih j h)
        | ref y =>
          match j, h with
          | 0, h => cases h; exact List.mem_cons_self
          | j + 1, h => exact List.mem_cons_of_mem _ (ih j h)
        | int y =>
          match j, h with
          | j + 1, h => exact List.mem_cons_of_mem _ (ih j h)
        | float y =>
          match j, h with
          | j + 1, h => exact List.mem_cons_of_mem _ (ih j h)
        | null =>
          match j, h with
          | j + 1, h => exact List.mem_cons_of_mem _ (ih j h)
        | retAddr y =>
          match j, h with
          | j + 1, h => exact List.mem_cons_of_mem _ (ih j h)
    exact h _ (key as j hj)
  | _ => exact trivial
theorem zpad_at : ∀ (n : Nat) (l : zLv) (j : Nat) (v : Value), zat (zpad n l) j = some (some v) → zat l j = some (some v)
  | 0, l, j, v, h => h
  | n + 1, [], 0, v, h => by cases h
  | n + 1, [], j + 1, v, h => by
    have := zpad_at n [] j v h
    cases this
  | n + 1, a :: l, 0, v, h => h
  | n + 1, a :: l, j + 1, v, h => zpad_at n l j v h
theorem zarg_len {ad : Nat → Nat} : ∀ (as : List Value), (lg_sl (as.map (zV ad))).length = (zarg as).length
  | [] => rfl
  | a :: as => by
    have ih := zarg_len (ad := ad) as
    unfold lg_sl at ih ⊢
    rw [List.map_cons, List.flatMap_cons, List.length_append, ih, zV_cat]
    cases a <;> simp [Value.category, zarg] <;> omega
theorem zentry {ad : Nat → Nat} {as : List Value} {n : Nat} (h : (zarg as).length ≤ n) : zlv ad (lg_sl (as.map (zV ad)) ++ List.replicate (n - (lg_sl (as.map (zV ad))).length) Slot.unset).toArray n (zpad n (zarg as)) := by
  have h1 := lv_entry (as.map (zV ad)) (n := n) (by rw [zarg_len]; exact h)
  refine ⟨h1.1, h1.2.1, fun j v hj => ?_⟩
  have := zarg_at (ad := ad) as 0 j v (zpad_at n _ j v hj)
  rw [Nat.zero_add] at this
  exact h1.2.2 _ this
theorem zmain (xs : Nat → Int32) (L : Nat) : ∀ d, zMet d xs L
  | 0 => fun _ _ _ _ _ h => h.elim
  | d + 1 => by
    intro mn as M r Mf hC hlt hinv hscr hval l D cO ad b sz hb1
    obtain ⟨hlen, f, hw⟩ := hC
    have hck := zck_all hlt
    refine Met.ofW (cc := (gMe mn).2.1) (maxL := (gMe mn).2.2.1) (ret := (gMe mn).2.2.2) hck.2.2.1 rfl ?_
    intro p e s m args below meth c s₁ B hml hv
    obtain ⟨rfl, hsz, hP, hK, hD0, hX, hbl, hnb, hnest, hover⟩ := hv
    subst hsz
    have hts := atoms_spec (ws := zws0 mn) B.pre
    have hA : ∀ q : Nat, s.heap.size ≤ q → va_A (zws gFk cO ad M) s.heap.size q := fun q h => Or.inr h
    have hbA : ¬ va_A (zws gFk cO ad M) s.heap.size b := by
      rintro (⟨j, e', hj⟩ | h)
      · exact hnb j _ hj rfl
      · omega
    have F : zfx p (zrm (d + 1) (zn Mf - zn M) (zs Mf - zs M)) s m (as.map (zV ad)).toArray meth c D cO (va_A (zws gFk cO ad M) s.heap.size) b L xs mn := ⟨B.exec, B.bytes, hml, findClass_of_methodNamed B.named, fun w hw => hts w (List.mem_cons_of_mem _ hw), hnest, hover, B.returns, B.notSynchronized, fun hi => (name_of_methodNamed B.named B.method).1.trans hi, hK, hX, hbl, hbA, hA, Nat.le_add_left 1 d, by show 40 ≤ 8 + 32 * (d + 1); omega⟩
    rw [hck.2.1] at hw hlen
    have key := zbody (l := l) (e := e) (below := below) (ad0 := ad) (n0 := zn M) (s0 := zs M) (Q := MQ below (zQc D cO (va_A (zws gFk cO ad M) s.heap.size) b L xs ad (zn M) r Mf) (as.map (zV ad)).toArray s (zn Mf - zn M) (zs Mf - zs M) (va_A (zws gFk cO ad M) s.heap.size)) F hlt ⟨Nat.le_refl _, Nat.le_refl _⟩ (zmain xs L d) (r0 := r) (Mf := Mf) ⟨Nat.le_refl _, Nat.le_refl _⟩ (fun i pc len lv st M' o ins cs ch q a1 a2 a3 a4 a5 a6 => zs_ret F a1 a2 a3 a4 a5 a6) f 0 _ [] M hw ad _ s.heap [] ⟨hP, hD0.self, va_S.rf, hinv, hscr, hb1, zentry hlen, fun v hv => absurd hv List.not_mem_nil, fun j v hj => zarg_val as j v hval (zpad_at _ _ j v hj), fun _ _ => rfl, Nat.le_refl _, Nat.le_refl _⟩
    rw [hck.2.2.2.1, Nat.sub_self, Nat.sub_self] at key
    rw [lg_entry_eq]
    exact key
