/-! long code is checked in stretches -/
def zst (m i : Nat) (l : List Instr) (ps : List Nat) : Bool := zckl (gMe m).1 (gMe m).2.1 (gMe m).2.2.1 (gPc m) i l ps
theorem zckl_cut {y : MethodName} {bytes : ByteArray} {nL : Nat} {pcs : List Nat} : ∀ (n i : Nat) (l : List Instr) (ps : List Nat), zckl y bytes nL pcs i l ps = (zckl y bytes nL pcs i (l.take n) (ps.take n) && zckl y bytes nL pcs (i + n) (l.drop n) (ps.drop n))
  | 0, i, l, ps => by
    rw [List.take_zero, List.take_zero, List.drop_zero, List.drop_zero]
    show _ = (true && _)
    rw [Bool.true_and]
    rfl
  | n + 1, i, [], ps => by
    rw [List.take_nil, List.drop_nil]
    rfl
  | n + 1, i, mi :: l, [] => by
    rw [List.take_nil, List.drop_nil]
    rfl
  | n + 1, i, mi :: l, pc :: ps => by
    have ih := zckl_cut (y := y) (bytes := bytes) (nL := nL) (pcs := pcs) n (i + 1) l ps
    have e : ∀ (l : List Instr) (ps : List Nat), zckl y bytes nL pcs i (mi :: l) (pc :: ps) = ((match decode bytes pc with
      | .ok (o, len) => zmt y nL pcs i pc o len mi
      | _ => false) && zckl y bytes nL pcs (i + 1) l ps) := fun _ _ => rfl
    rw [List.take_succ_cons, List.take_succ_cons, List.drop_succ_cons, List.drop_succ_cons, e, e, ih, Bool.and_assoc, show i + (n + 1) = i + 1 + n by omega]
def zrg (m a n : Nat) : Bool := zst m a (((gTb m).1.drop a).take n) (((gPc m).drop a).take n)
def zed (m a : Nat) : Bool := zst m a ((gTb m).1.drop a) ((gPc m).drop a)
theorem zed_step {m a n b : Nat} (h1 : zrg m a n = true) (hb : a + n = b) (h2 : zed m b = true) : zed m a = true := by
  subst hb
  unfold zed zst
  rw [zckl_cut n a, List.drop_drop, List.drop_drop]
  unfold zrg zst at h1
  unfold zed zst at h2
  rw [h1, h2]
  rfl
def zhd (m : Nat) : Bool := decide ((gTb m).2.1 = zrk (gMe m).2.2.2) && decide ((gTb m).2.2 = (gMe m).2.2.1) && decide ((gMe m).2.2.1 ≤ 13) && plainName (gMe m).1.cls && decide (zat (gPc m) 0 = some 0) && decide ((gPc m).length = (gTb m).1.length)
theorem zck_of {m : Nat} (h0 : zhd m = true) (h : zed m 0 = true) : zckm m = true := by
  unfold zed zst at h
  rw [List.drop_zero, List.drop_zero] at h
  unfold zhd at h0
  unfold zckm
  rw [h0, h]
  rfl
