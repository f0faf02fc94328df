section
/-! THE SMALL MACHINE: a memory of rows of numbers under small names (0 is null, 1 the script, the rest in the order of their making), instructions whose pool numbers are resolved, and what it is that a run of them ends well -/
abbrev zM : Type := (Nat → Nat × Nat) × Nat × Nat × (Nat → Nat → Int32) × (Nat → Nat → Int64) × (Nat → Nat → Nat)
abbrev zLv : Type := List (Option Value)
abbrev zO : Type := (Nat × zLv × List Value × zM) ⊕ (List Value × zM) ⊕ (Nat × Nat × List Value × Nat × zLv × List Value × zM)
abbrev zRes : Type := Option (List Prop × List (Prop × zO) × zO)
/-- shape of a row: its kind and length; 1 the script, 2 int[], 3 long[], 4 boolean[], 5 and 6 arrays of objects, 10 + c an object of class c -/
def zsh (M : zM) (a : Nat) : Nat × Nat := M.1 a
def zn (M : zM) : Nat := M.2.1
def zs (M : zM) : Nat := M.2.2.1
def zI (M : zM) (a k : Nat) : Int32 := M.2.2.2.1 a k
def zL (M : zM) (a k : Nat) : Int64 := M.2.2.2.2.1 a k
def zR (M : zM) (a k : Nat) : Nat := M.2.2.2.2.2 a k
def zuI (M : zM) (a k : Nat) (v : Int32) : zM := (M.1, M.2.1, M.2.2.1, (fun i j => if i = a ∧ j = k then v else M.2.2.2.1 i j), M.2.2.2.2.1, M.2.2.2.2.2)
def zuL (M : zM) (a k : Nat) (v : Int64) : zM := (M.1, M.2.1, M.2.2.1, M.2.2.2.1, (fun i j => if i = a ∧ j = k then v else M.2.2.2.2.1 i j), M.2.2.2.2.2)
def zuR (M : zM) (a k : Nat) (v : Nat) : zM := (M.1, M.2.1, M.2.2.1, M.2.2.2.1, M.2.2.2.2.1, (fun i j => if i = a ∧ j = k then v else M.2.2.2.2.2 i j))
/-- a row copied into another -/
def zcI (M : zM) (a sp b dp n : Nat) : zM := (M.1, M.2.1, M.2.2.1, (fun i j => if i = b ∧ dp ≤ j ∧ j < dp + n then M.2.2.2.1 a (sp + (j - dp)) else M.2.2.2.1 i j), M.2.2.2.2.1, M.2.2.2.2.2)
def zcL (M : zM) (a sp b dp n : Nat) : zM := (M.1, M.2.1, M.2.2.1, M.2.2.2.1, (fun i j => if i = b ∧ dp ≤ j ∧ j < dp + n then M.2.2.2.2.1 a (sp + (j - dp)) else M.2.2.2.2.1 i j), M.2.2.2.2.2)
/-- a new row of a shape, of so many slots -/
def zal (M : zM) (sh : Nat × Nat) (w : Nat) : zM := ((fun i => if i = M.2.1 then sh else M.1 i), M.2.1 + 1, M.2.2.1 + w, (fun i j => if i = M.2.1 then 0 else M.2.2.2.1 i j), (fun i j => if i = M.2.1 then 0 else M.2.2.2.2.1 i j), (fun i j => if i = M.2.1 then 0 else M.2.2.2.2.2 i j))
def zat {α : Type} : List α → Nat → Option α
  | [], _ => none
  | a :: _, 0 => some a
  | _ :: l, j + 1 => zat l j
def zset {α : Type} : List α → Nat → α → List α
  | [], _, _ => []
  | _ :: l, 0, v => v :: l
  | a :: l, j + 1, v => a :: zset l j v
/-- the first half of a long goes when its second half is written -/
def zwipe : Option Value → Option Value
  | some (.long _) => none
  | some (.double _) => none
  | v => v
def zkl : zLv → Nat → zLv
  | [], _ => []
  | a :: l, 0 => a :: l
  | a :: l, 1 => zwipe a :: l
  | a :: l, j + 2 => a :: zkl l (j + 1)
def zst1 (lv : zLv) (j : Nat) (v : Value) : zLv := zset (zkl lv j) j (some v)
def zst2 (lv : zLv) (j : Nat) (v : Value) : zLv := zset (zset (zkl lv j) j (some v)) (j + 1) none
/-- a constant -/
def zc : Int → Int32
  | .ofNat k => Int32.ofNat k
  | .negSucc k => -(Int32.ofNat (k + 1))
def zcl : Int → Int64
  | .ofNat k => Int64.ofNat k
  | .negSucc k => -(Int64.ofNat (k + 1))
def zin (j : Int32) (n : Nat) : Prop := ¬ (j < 0 ∨ n ≤ j.toNatClampNeg)
def zb (x : Int32) : Prop := x = 0 ∨ x = 1
def zcat : List Value → Nat
  | [] => 0
  | .long _ :: l => zcat l + 2
  | .double _ :: l => zcat l + 2
  | _ :: l => zcat l + 1
def zpop : Nat → List Value → List Value → Option (List Value × List Value)
  | 0, acc, st => some (acc, st)
  | _ + 1, _, [] => none
  | n + 1, acc, v :: st => zpop n (v :: acc) st
def znx (i : Nat) (lv : zLv) (st : List Value) (M : zM) : zRes := some ([], [], .inl (i, lv, st, M))
def zcs (cs : List Prop) (i : Nat) (lv : zLv) (st : List Value) (M : zM) : zRes := some (cs, [], .inl (i, lv, st, M))
def zbr (c : Prop) (t i : Nat) (lv : zLv) (st : List Value) (M : zM) : zRes := some ([], [(c, .inl (t, lv, st, M))], .inl (i, lv, st, M))
def zti (st : List Value) (f : Int32 → List Value → zRes) : zRes := match st with
  | .int x :: r => f x r
  | _ => none
def ztii (st : List Value) (f : Int32 → Int32 → List Value → zRes) : zRes := match st with
  | .int y :: .int x :: r => f x y r
  | _ => none
def ztl (st : List Value) (f : Int64 → List Value → zRes) : zRes := match st with
  | .long x :: r => f x r
  | _ => none
def ztll (st : List Value) (f : Int64 → Int64 → List Value → zRes) : zRes := match st with
  | .long y :: .long x :: r => f x y r
  | _ => none
def ztli (st : List Value) (f : Int64 → Int32 → List Value → zRes) : zRes := match st with
  | .int y :: .long x :: r => f x y r
  | _ => none
def ztr (st : List Value) (f : Nat → List Value → zRes) : zRes := match st with
  | .ref x :: r => f x r
  | _ => none
def ztri (st : List Value) (f : Nat → Int32 → List Value → zRes) : zRes := match st with
  | .int j :: .ref a :: r => f a j r
  | _ => none
def ztrii (st : List Value) (f : Nat → Int32 → Int32 → List Value → zRes) : zRes := match st with
  | .int v :: .int j :: .ref a :: r => f a j v r
  | _ => none
def ztril (st : List Value) (f : Nat → Int32 → Int64 → List Value → zRes) : zRes := match st with
  | .long v :: .int j :: .ref a :: r => f a j v r
  | _ => none
def ztrir (st : List Value) (f : Nat → Int32 → Nat → List Value → zRes) : zRes := match st with
  | .ref v :: .int j :: .ref a :: r => f a j v r
  | _ => none
def ztrr (st : List Value) (f : Nat → Nat → List Value → zRes) : zRes := match st with
  | .ref v :: .ref a :: r => f a v r
  | _ => none
/-- what arraycopy takes: n, dp, b, sp, a from the top -/
def ztcp (st : List Value) (f : Nat → Int32 → Nat → Int32 → Int32 → List Value → zRes) : zRes := match st with
  | .int n :: .int dp :: .ref b :: .int sp :: .ref a :: r => f a sp b dp n r
  | _ => none
def zsw (x : Int32) (lv : zLv) (r : List Value) (M : zM) : Int → List Int → List (Prop × zO)
  | _, [] => []
  | v, t :: ts => (x.toInt = v, .inl (t.toNat, lv, r, M)) :: zsw x lv r M (v + 1) ts
def zpk (M : zM) (a sp : Nat) (b : Nat) (dp n : Int32) (s0 : Int32) : List Prop := [¬ s0 < 0, ¬ dp < 0, ¬ n < 0, sp + n.toNatClampNeg ≤ (zsh M a).2, dp.toNatClampNeg + n.toNatClampNeg ≤ (zsh M b).2]
/-- a call: number of the method, of its arguments, the class of its object (0: static), the kind of its answer -/
def zcall (x : Nat) (obj : Bool) (i : Nat) (lv : zLv) (st : List Value) (M : zM) : zRes :=
  match zpop (x / 1000 % 10) [] st with
  | none => none
  | some (as, r) => cond (Nat.ble (zcat r) 8) (cond obj (match as with
      | .ref a :: _ => some ([(zsh M a).1 = 10 + x % 100], [], .inr (.inr (x / 10000, x / 100 % 10, as, i + 1, lv, r, M)))
      | _ => none) (some ([], [], .inr (.inr (x / 10000, x / 100 % 10, as, i + 1, lv, r, M))))) none
def zretq (rk : Nat) (st : List Value) (M : zM) : zRes :=
  match st with
  | [] => cond (rk == 0) (some ([], [], .inr (.inl ([], M)))) none
  | [.int v] => cond (rk == 1) (some ([], [], .inr (.inl ([.int v], M)))) (cond (rk == 2) (some ([zb v], [], .inr (.inl ([.int v], M)))) none)
  | [.long v] => cond (rk == 3) (some ([], [], .inr (.inl ([.long v], M)))) none
  | [.ref v] => cond (rk == 4) (some ([], [], .inr (.inl ([.ref v], M)))) none
  | _ => none
set_option maxHeartbeats 4000000 in
def zstep (rk : Nat) (ins : Instr) (i : Nat) (lv : zLv) (st : List Value) (M : zM) : zRes :=
  match ins with
  | .iconst n => znx (i + 1) lv (.int (zc n) :: st) M
  | .jsr_w n => znx (i + 1) lv (.long (zcl n) :: st) M
  | .iload j => (match zat lv j with
    | some (some (.int x)) => znx (i + 1) lv (.int x :: st) M
    | _ => none)
  | .lload j => (match zat lv j with
    | some (some (.long x)) => znx (i + 1) lv (.long x :: st) M
    | _ => none)
  | .aload j => (match zat lv j with
    | some (some (.ref x)) => znx (i + 1) lv (.ref x :: st) M
    | _ => none)
  | .istore j => zti st fun x r => znx (i + 1) (zst1 lv j (.int x)) r M
  | .lstore j => ztl st fun x r => znx (i + 1) (zst2 lv j (.long x)) r M
  | .astore j => ztr st fun x r => znx (i + 1) (zst1 lv j (.ref x)) r M
  | .iinc j n => (match zat lv j with
    | some (some (.int x)) => znx (i + 1) (zst1 lv j (.int (x + zc n))) st M
    | _ => none)
  | .iadd => ztii st fun x y r => znx (i + 1) lv (.int (x + y) :: r) M
  | .isub => ztii st fun x y r => znx (i + 1) lv (.int (x - y) :: r) M
  | .imul => ztii st fun x y r => znx (i + 1) lv (.int (x * y) :: r) M
  | .iand => ztii st fun x y r => znx (i + 1) lv (.int (x &&& y) :: r) M
  | .ior => ztii st fun x y r => znx (i + 1) lv (.int (x ||| y) :: r) M
  | .ineg => zti st fun x r => znx (i + 1) lv (.int (-x) :: r) M
  | .ishl => ztii st fun x y r => znx (i + 1) lv (.int (x <<< (y &&& 31)) :: r) M
  | .ishr => ztii st fun x y r => znx (i + 1) lv (.int (x >>> (y &&& 31)) :: r) M
  | .iushr => ztii st fun x y r => znx (i + 1) lv (.int (x.toUInt32 >>> (y.toUInt32 &&& Int32.toUInt32 31)).toInt32 :: r) M
  | .ladd => ztll st fun x y r => znx (i + 1) lv (.long (x + y) :: r) M
  | .lsub => ztll st fun x y r => znx (i + 1) lv (.long (x - y) :: r) M
  | .lmul => ztll st fun x y r => znx (i + 1) lv (.long (x * y) :: r) M
  | .lor => ztll st fun x y r => znx (i + 1) lv (.long (x ||| y) :: r) M
  | .land => ztll st fun x y r => znx (i + 1) lv (.long (x &&& y) :: r) M
  | .lneg => ztl st fun x r => znx (i + 1) lv (.long (-x) :: r) M
  | .ldiv => ztll st fun x y r => zcs [¬ y = 0] (i + 1) lv (.long (x / y) :: r) M
  | .lrem => ztll st fun x y r => zcs [¬ y = 0] (i + 1) lv (.long (x - x / y * y) :: r) M
  | .lshl => ztli st fun x y r => znx (i + 1) lv (.long (x <<< (y.toInt64 &&& 63)) :: r) M
  | .lshr => ztli st fun x y r => znx (i + 1) lv (.long (x >>> (y.toInt64 &&& 63)) :: r) M
  | .i2l => zti st fun x r => znx (i + 1) lv (.long x.toInt64 :: r) M
  | .l2i => ztl st fun x r => znx (i + 1) lv (.int x.toInt32 :: r) M
  | .lcmp => ztll st fun x y r => znx (i + 1) lv (.int (lg_cmp x y) :: r) M
  | .dup => (match st with
    | .int x :: r => znx (i + 1) lv (.int x :: .int x :: r) M
    | .ref x :: r => znx (i + 1) lv (.ref x :: .ref x :: r) M
    | _ => none)
  | .dup2 => ztri st fun a j r => znx (i + 1) lv (.int j :: .ref a :: .int j :: .ref a :: r) M
  | .pop => (match st with
    | .int _ :: r => znx (i + 1) lv r M
    | _ => none)
  | .goto t => znx t.toNat lv st M
  | .ifCond .eq t => zti st fun x r => zbr (x = 0) t.toNat (i + 1) lv r M
  | .ifCond .ne t => zti st fun x r => zbr (¬ x = 0) t.toNat (i + 1) lv r M
  | .ifCond .lt t => zti st fun x r => zbr (x < 0) t.toNat (i + 1) lv r M
  | .ifCond .ge t => zti st fun x r => zbr (0 ≤ x) t.toNat (i + 1) lv r M
  | .ifCond .gt t => zti st fun x r => zbr (0 < x) t.toNat (i + 1) lv r M
  | .ifCond .le t => zti st fun x r => zbr (x ≤ 0) t.toNat (i + 1) lv r M
  | .if_icmp .eq t => ztii st fun x y r => zbr (x = y) t.toNat (i + 1) lv r M
  | .if_icmp .ne t => ztii st fun x y r => zbr (¬ x = y) t.toNat (i + 1) lv r M
  | .if_icmp .lt t => ztii st fun x y r => zbr (x < y) t.toNat (i + 1) lv r M
  | .if_icmp .ge t => ztii st fun x y r => zbr (y ≤ x) t.toNat (i + 1) lv r M
  | .if_icmp .gt t => ztii st fun x y r => zbr (y < x) t.toNat (i + 1) lv r M
  | .if_icmp .le t => ztii st fun x y r => zbr (x ≤ y) t.toNat (i + 1) lv r M
  | .tableswitch d lo _ ts => zti st fun x r => some ([], zsw x lv r M lo ts.toList, .inl (d.toNat, lv, r, M))
  | .getfield x => ztr st fun a r => zcs [(zsh M a).1 = 10 + x / 1000] (i + 1) lv (cond (x % 10 == 2) (.ref (zR M a (x / 10 % 100))) (.int (zI M a (x / 10 % 100))) :: r) M
  | .putfield x => cond (x % 10 == 2) (ztrr st fun a v r => zcs [(zsh M a).1 = 10 + x / 1000] (i + 1) lv r (zuR M a (x / 10 % 100) v))
    (match st with
    | .int v :: .ref a :: r => zcs (cond (x % 10 == 1) [(zsh M a).1 = 10 + x / 1000, zb v] [(zsh M a).1 = 10 + x / 1000]) (i + 1) lv r (zuI M a (x / 10 % 100) v)
    | _ => none)
  | .saload => ztri st fun a j r => zcs [a = 1, zin j (zsh M 1).2] (i + 1) lv (.int (zI M 1 j.toNatClampNeg) :: r) M
  | .arraylength => ztr st fun a r => zcs [a = 1] (i + 1) lv (.int (Int32.ofNat (zsh M 1).2) :: r) M
  | .iaload => ztri st fun a j r => zcs [(zsh M a).1 = 2, zin j (zsh M a).2] (i + 1) lv (.int (zI M a j.toNatClampNeg) :: r) M
  | .laload => ztri st fun a j r => zcs [(zsh M a).1 = 3, zin j (zsh M a).2] (i + 1) lv (.long (zL M a j.toNatClampNeg) :: r) M
  | .baload => ztri st fun a j r => zcs [(zsh M a).1 = 4, zin j (zsh M a).2] (i + 1) lv (.int (zI M a j.toNatClampNeg) :: r) M
  | .ret kd => ztri st fun a j r => zcs [(zsh M a).1 = 5 + kd % 2, zin j (zsh M a).2] (i + 1) lv (.ref (zR M a j.toNatClampNeg) :: r) M
  | .iastore => ztrii st fun a j v r => zcs [(zsh M a).1 = 2, zin j (zsh M a).2] (i + 1) lv r (zuI M a j.toNatClampNeg v)
  | .bastore => ztrii st fun a j v r => zcs [(zsh M a).1 = 4, zin j (zsh M a).2, zb v] (i + 1) lv r (zuI M a j.toNatClampNeg v)
  | .lastore => ztril st fun a j v r => zcs [(zsh M a).1 = 3, zin j (zsh M a).2] (i + 1) lv r (zuL M a j.toNatClampNeg v)
  | .putstatic x => ztrir st fun a j v r => zcs [(zsh M a).1 = 5 + x % 2, zin j (zsh M a).2, (zsh M v).1 = 10 + x / 10] (i + 1) lv r (zuR M a j.toNatClampNeg v)
  | .faload => ztcp st fun a sp b dp n r => zcs (((zsh M a).1 = 2) :: ((zsh M b).1 = 2) :: zpk M a sp.toNatClampNeg b dp n sp) (i + 1) lv r (zcI M a sp.toNatClampNeg b dp.toNatClampNeg n.toNatClampNeg)
  | .daload => ztcp st fun a sp b dp n r => zcs (((zsh M a).1 = 3) :: ((zsh M b).1 = 3) :: zpk M a sp.toNatClampNeg b dp n sp) (i + 1) lv r (zcL M a sp.toNatClampNeg b dp.toNatClampNeg n.toNatClampNeg)
  | .dadd => ztii st fun x y r => znx (i + 1) lv (.int (if y < x then y else x) :: r) M
  | .nop => ztr st fun a r => zcs [¬ a = 0] (i + 1) lv r M
  | .new x => znx (i + 1) lv (.ref (zn M) :: st) (zal M (10 + x / 100, 0) (x % 100))
  | .newarray .int => zti st fun n r => zcs [¬ n < 0, n.toNatClampNeg ≤ 100000] (i + 1) lv (.ref (zn M) :: r) (zal M (2, n.toNatClampNeg) n.toNatClampNeg)
  | .newarray .long => zti st fun n r => zcs [¬ n < 0, n.toNatClampNeg ≤ 100000] (i + 1) lv (.ref (zn M) :: r) (zal M (3, n.toNatClampNeg) n.toNatClampNeg)
  | .newarray .boolean => zti st fun n r => zcs [¬ n < 0, n.toNatClampNeg ≤ 100000] (i + 1) lv (.ref (zn M) :: r) (zal M (4, n.toNatClampNeg) n.toNatClampNeg)
  | .anewarray kd => zti st fun n r => zcs [¬ n < 0, n.toNatClampNeg ≤ 100000] (i + 1) lv (.ref (zn M) :: r) (zal M (5 + kd % 2, n.toNatClampNeg) n.toNatClampNeg)
  | .invokestatic x => zcall x false i lv st M
  | .invokevirtual x => zcall x true i lv st M
  | .invokespecial x => zcall x true i lv st M
  | .ireturn => zretq rk st M
  | .lreturn => zretq rk st M
  | .areturn => zretq rk st M
  | .return_ => zretq rk st M
  | _ => none
end
section
def zcj : List Prop → Prop → Prop
  | [], p => p
  | c :: l, p => c ∧ zcj l p
def zch {α : Type} : List (Prop × α) → α → (α → Prop) → Prop
  | [], o, k => k o
  | (c, x) :: l, o, k => (c → k x) ∧ (¬ c → zch l o k)
noncomputable def zpick {α : Type} : List (Prop × α) → α → α
  | [], o => o
  | (c, x) :: l, o => @ite α c (Classical.propDecidable c) x (zpick l o)
/-- the answer of a call, by its kind -/
def zrv (rk : Nat) (r : List Value) (f : List Value → Prop) : Prop := match rk with
  | 0 => r = [] ∧ f []
  | 1 => ∃ x : Int32, r = [.int x] ∧ f [.int x]
  | 2 => ∃ x : Int32, r = [.int x] ∧ f [.int x]
  | 3 => ∃ x : Int64, r = [.long x] ∧ f [.long x]
  | _ => ∃ x : Nat, r = [.ref x] ∧ f [.ref x]
abbrev zCall : Type := Nat → List Value → zM → (List Value → zM → Prop) → Prop
def zout (Cl : zCall) (k : Nat → zLv → List Value → zM → Prop) (Q : List Value → zM → Prop) : zO → Prop
  | .inl (i, lv, st, M) => k i lv st M
  | .inr (.inl (r, M)) => Q r M
  | .inr (.inr (m, rk, as, i, lv, st, M)) => Cl m as M fun r M2 => zrv rk r fun vs => k i lv (vs ++ st) M2
def zres (r : zRes) (k : zO → Prop) : Prop := match r with
  | none => False
  | some (cs, ch, o) => zcj cs (zch ch o k)
def zgo (rk : Nat) (code : List Instr) (i : Nat) (lv : zLv) (st : List Value) (M : zM) (k : zO → Prop) : Prop := match zat code i with
  | none => False
  | some ins => zres (zstep rk ins i lv st M) k
/-- from here on, in at most so many steps: to an end with Q, or to a place where it stops, with K -/
def zwp (Cl : zCall) (rk : Nat) (code : List Instr) (stop : Nat → Bool) (K : Nat → zLv → List Value → zM → Prop) (Q : List Value → zM → Prop) : Nat → Nat → zLv → List Value → zM → Prop
  | 0, _, _, _, _ => False
  | f + 1, i, lv, st, M => zgo rk code i lv st M (zout Cl (fun i lv st M => cond (stop i) (K i lv st M) (zwp Cl rk code stop K Q f i lv st M)) Q)
def zW (Cl : zCall) (rk : Nat) (code : List Instr) (Q : List Value → zM → Prop) (i : Nat) (lv : zLv) (st : List Value) (M : zM) : Prop := ∃ f, zwp Cl rk code (fun _ => false) (fun _ _ _ _ => False) Q f i lv st M
theorem zcj_imp : ∀ {cs : List Prop} {p q : Prop}, (p → q) → zcj cs p → zcj cs q
  | [], _, _, h, a => h a
  | _ :: _, _, _, h, a => ⟨a.1, zcj_imp h a.2⟩
theorem zcj_iff : ∀ {cs : List Prop} {p : Prop}, zcj cs p ↔ (∀ c ∈ cs, c) ∧ p
  | [], p => ⟨fun h => ⟨fun c hc => absurd hc List.not_mem_nil, h⟩, fun h => h.2⟩
  | c :: cs, p => by
    show c ∧ zcj cs p ↔ _
    rw [zcj_iff]
    constructor
    · rintro ⟨a, b, d⟩
      refine ⟨fun x hx => ?_, d⟩
      rcases List.mem_cons.mp hx with rfl | hx
      · exact a
      · exact b x hx
    · rintro ⟨a, d⟩
      exact ⟨a _ List.mem_cons_self, fun x hx => a x (List.mem_cons_of_mem _ hx), d⟩
theorem zch_iff {α : Type} : ∀ {ch : List (Prop × α)} {o : α} {k : α → Prop}, zch ch o k ↔ k (zpick ch o)
  | [], o, k => Iff.rfl
  | (c, x) :: l, o, k => by
    show ((c → k x) ∧ (¬ c → zch l o k)) ↔ k (@ite α c (Classical.propDecidable c) x (zpick l o))
    rw [zch_iff]
    by_cases h : c
    · simp [h]
    · simp [h]
theorem zrv_iff {rk : Nat} {r : List Value} {f : List Value → Prop} : zrv rk r f ↔ zrv rk r (fun _ => True) ∧ f r := by
  unfold zrv
  split
  · exact ⟨fun ⟨h, a⟩ => ⟨⟨h, trivial⟩, h ▸ a⟩, fun ⟨⟨h, _⟩, a⟩ => ⟨h, h ▸ a⟩⟩
  · exact ⟨fun ⟨x, h, a⟩ => ⟨⟨x, h, trivial⟩, h ▸ a⟩, fun ⟨⟨x, h, _⟩, a⟩ => ⟨x, h, h ▸ a⟩⟩
  · exact ⟨fun ⟨x, h, a⟩ => ⟨⟨x, h, trivial⟩, h ▸ a⟩, fun ⟨⟨x, h, _⟩, a⟩ => ⟨x, h, h ▸ a⟩⟩
  · exact ⟨fun ⟨x, h, a⟩ => ⟨⟨x, h, trivial⟩, h ▸ a⟩, fun ⟨⟨x, h, _⟩, a⟩ => ⟨x, h, h ▸ a⟩⟩
  · exact ⟨fun ⟨x, h, a⟩ => ⟨⟨x, h, trivial⟩, h ▸ a⟩, fun ⟨⟨x, h, _⟩, a⟩ => ⟨x, h, h ▸ a⟩⟩
/-- calls are good: they say no less of more, and have one end -/
def zgood (Cl : zCall) : Prop := (∀ m as M (Q Q' : List Value → zM → Prop), (∀ r M2, Q r M2 → Q' r M2) → Cl m as M Q → Cl m as M Q') ∧ ∀ m as M Q, Cl m as M Q → ∃ r M2, Q r M2 ∧ zn M ≤ zn M2 ∧ zs M ≤ zs M2 ∧ Cl m as M (fun r' M' => r' = r ∧ M' = M2)
theorem zres_imp {r : zRes} {k k' : zO → Prop} (h : ∀ o, k o → k' o) (a : zres r k) : zres r k' := by
  match r, a with
  | some (cs, ch, o), a => exact zcj_imp (fun b => zch_iff.mpr (h _ (zch_iff.mp b))) a
theorem zgo_imp {rk : Nat} {code : List Instr} {i : Nat} {lv : zLv} {st : List Value} {M : zM} {k k' : zO → Prop} (h : ∀ o, k o → k' o) (a : zgo rk code i lv st M k) : zgo rk code i lv st M k' := by
  unfold zgo at a ⊢
  split at a
  · exact a
  · exact zres_imp h a
theorem zout_imp {Cl : zCall} (hC : zgood Cl) {k k' : Nat → zLv → List Value → zM → Prop} {Q Q' : List Value → zM → Prop} (hk : ∀ i lv st M, k i lv st M → k' i lv st M) (hQ : ∀ r M, Q r M → Q' r M) : ∀ o, zout Cl k Q o → zout Cl k' Q' o
  | .inl (_, _, _, _), a => hk _ _ _ _ a
  | .inr (.inl (_, _)), a => hQ _ _ a
  | .inr (.inr (m, rk, as, i, lv, st, M)), a => hC.1 m as M _ _ (fun r M2 b => zrv_iff.mpr ⟨(zrv_iff.mp b).1, hk _ _ _ _ (zrv_iff.mp b).2⟩) a
theorem zwp_imp {Cl : zCall} (hC : zgood Cl) {rk : Nat} {code : List Instr} {stop : Nat → Bool} {K K' : Nat → zLv → List Value → zM → Prop} {Q Q' : List Value → zM → Prop} (hK : ∀ i lv st M, K i lv st M → K' i lv st M) (hQ : ∀ r M, Q r M → Q' r M) : ∀ (f i : Nat) (lv : zLv) (st : List Value) (M : zM), zwp Cl rk code stop K Q f i lv st M → zwp Cl rk code stop K' Q' f i lv st M
  | 0, _, _, _, _, a => a
  | f + 1, i, lv, st, M, a => zgo_imp (zout_imp hC (fun i lv st M b => by
      cases hs : stop i
      · rw [hs] at b; exact zwp_imp hC hK hQ f i lv st M b
      · rw [hs] at b; exact hK _ _ _ _ b) hQ) a
theorem zwp_fuel {Cl : zCall} (hC : zgood Cl) {rk : Nat} {code : List Instr} {stop : Nat → Bool} {K : Nat → zLv → List Value → zM → Prop} {Q : List Value → zM → Prop} : ∀ (f f' i : Nat) (lv : zLv) (st : List Value) (M : zM), f ≤ f' → zwp Cl rk code stop K Q f i lv st M → zwp Cl rk code stop K Q f' i lv st M
  | 0, _, _, _, _, _, _, a => a.elim
  | f + 1, 0, _, _, _, _, h, _ => absurd h (Nat.not_succ_le_zero f)
  | f + 1, f' + 1, i, lv, st, M, h, a => zgo_imp (zout_imp hC (fun i lv st M b => by
      cases hs : stop i
      · rw [hs] at b; exact zwp_fuel hC f f' i lv st M (Nat.le_of_succ_le_succ h) b
      · rw [hs] at b; exact b) (fun _ _ b => b)) a
def zOM : zO → zM
  | .inl (_, _, _, M) => M
  | .inr (.inl (_, M)) => M
  | .inr (.inr (_, _, _, _, _, _, M)) => M
/-- memory only grows -/
def zgr (M : zM) (r : zRes) : Prop := match r with
  | none => True
  | some (_, ch, o) => (zn M ≤ zn (zOM o) ∧ zs M ≤ zs (zOM o)) ∧ ∀ q ∈ ch, zn M ≤ zn (zOM q.2) ∧ zs M ≤ zs (zOM q.2)
theorem zgr_nx {M : zM} {i : Nat} {lv : zLv} {st : List Value} {M' : zM} (h : zn M ≤ zn M' ∧ zs M ≤ zs M') : zgr M (znx i lv st M') := ⟨h, fun _ h => by cases h⟩
theorem zgr_cs {M : zM} {cs : List Prop} {i : Nat} {lv : zLv} {st : List Value} {M' : zM} (h : zn M ≤ zn M' ∧ zs M ≤ zs M') : zgr M (zcs cs i lv st M') := ⟨h, fun _ h => by cases h⟩
theorem zgr_br {M : zM} {c : Prop} {t i : Nat} {lv : zLv} {st : List Value} : zgr M (zbr c t i lv st M) := ⟨⟨Nat.le_refl _, Nat.le_refl _⟩, fun q h => by
  rw [List.mem_singleton] at h
  subst h
  exact ⟨Nat.le_refl _, Nat.le_refl _⟩⟩
theorem zsw_mem {x : Int32} {lv : zLv} {r : List Value} {M : zM} : ∀ (ts : List Int) (v : Int) (q : Prop × zO), q ∈ zsw x lv r M v ts → zOM q.2 = M
  | [], _, _, h => by cases h
  | t :: ts, v, q, h => by
    rcases List.mem_cons.mp h with rfl | h
    · rfl
    · exact zsw_mem ts (v + 1) q h
theorem zgr_call {M : zM} {x : Nat} {ob : Bool} {i : Nat} {lv : zLv} {st : List Value} : zgr M (zcall x ob i lv st M) := by
  have h0 : zn M ≤ zn M ∧ zs M ≤ zs M := ⟨Nat.le_refl _, Nat.le_refl _⟩
  unfold zcall
  split
  · trivial
  · cases Nat.ble _ 8
    · trivial
    · cases ob
      · exact ⟨h0, fun _ h => by cases h⟩
      · dsimp only [cond]
        split
        · exact ⟨h0, fun _ h => by cases h⟩
        · trivial
theorem zgr_retq {M : zM} {rk : Nat} {st : List Value} : zgr M (zretq rk st M) := by
  have h0 : zn M ≤ zn M ∧ zs M ≤ zs M := ⟨Nat.le_refl _, Nat.le_refl _⟩
  unfold zretq
  split
  · cases rk == 0
    · trivial
    · exact ⟨h0, fun _ h => by cases h⟩
  · cases rk == 1
    · cases rk == 2
      · trivial
      · exact ⟨h0, fun _ h => by cases h⟩
    · exact ⟨h0, fun _ h => by cases h⟩
  · cases rk == 3
    · trivial
    · exact ⟨h0, fun _ h => by cases h⟩
  · cases rk == 4
    · trivial
    · exact ⟨h0, fun _ h => by cases h⟩
  · trivial
theorem zgr_ti {M : zM} {st : List Value} {f : Int32 → List Value → zRes} (h : ∀ x r, zgr M (f x r)) : zgr M (zti st f) := by
  unfold zti; split
  · exact h _ _
  · trivial
theorem zgr_tii {M : zM} {st : List Value} {f : Int32 → Int32 → List Value → zRes} (h : ∀ x y r, zgr M (f x y r)) : zgr M (ztii st f) := by
  unfold ztii; split
  · exact h _ _ _
  · trivial
theorem zgr_tl {M : zM} {st : List Value} {f : Int64 → List Value → zRes} (h : ∀ x r, zgr M (f x r)) : zgr M (ztl st f) := by
  unfold ztl; split
  · exact h _ _
  · trivial
theorem zgr_tll {M : zM} {st : List Value} {f : Int64 → Int64 → List Value → zRes} (h : ∀ x y r, zgr M (f x y r)) : zgr M (ztll st f) := by
  unfold ztll; split
  · exact h _ _ _
  · trivial
theorem zgr_tli {M : zM} {st : List Value} {f : Int64 → Int32 → List Value → zRes} (h : ∀ x y r, zgr M (f x y r)) : zgr M (ztli st f) := by
  unfold ztli; split
  · exact h _ _ _
  · trivial
theorem zgr_tr {M : zM} {st : List Value} {f : Nat → List Value → zRes} (h : ∀ x r, zgr M (f x r)) : zgr M (ztr st f) := by
  unfold ztr; split
  · exact h _ _
  · trivial
theorem zgr_tri {M : zM} {st : List Value} {f : Nat → Int32 → List Value → zRes} (h : ∀ x y r, zgr M (f x y r)) : zgr M (ztri st f) := by
  unfold ztri; split
  · exact h _ _ _
  · trivial
theorem zgr_trii {M : zM} {st : List Value} {f : Nat → Int32 → Int32 → List Value → zRes} (h : ∀ x y z r, zgr M (f x y z r)) : zgr M (ztrii st f) := by
  unfold ztrii; split
  · exact h _ _ _ _
  · trivial
theorem zgr_tril {M : zM} {st : List Value} {f : Nat → Int32 → Int64 → List Value → zRes} (h : ∀ x y z r, zgr M (f x y z r)) : zgr M (ztril st f) := by
  unfold ztril; split
  · exact h _ _ _ _
  · trivial
theorem zgr_trir {M : zM} {st : List Value} {f : Nat → Int32 → Nat → List Value → zRes} (h : ∀ x y z r, zgr M (f x y z r)) : zgr M (ztrir st f) := by
  unfold ztrir; split
  · exact h _ _ _ _
  · trivial
theorem zgr_trr {M : zM} {st : List Value} {f : Nat → Nat → List Value → zRes} (h : ∀ x y r, zgr M (f x y r)) : zgr M (ztrr st f) := by
  unfold ztrr; split
  · exact h _ _ _
  · trivial
theorem zgr_tcp {M : zM} {st : List Value} {f : Nat → Int32 → Nat → Int32 → Int32 → List Value → zRes} (h : ∀ a b c d e r, zgr M (f a b c d e r)) : zgr M (ztcp st f) := by
  unfold ztcp; split
  · exact h _ _ _ _ _ _
  · trivial
set_option maxHeartbeats 4000000 in
theorem zgr_step (rk : Nat) (ins : Instr) (i : Nat) (lv : zLv) (st : List Value) (M : zM) : zgr M (zstep rk ins i lv st M) := by
  have h0 : zn M ≤ zn M ∧ zs M ≤ zs M := ⟨Nat.le_refl _, Nat.le_refl _⟩
  have h1 : ∀ sh w, zn M ≤ zn (zal M sh w) ∧ zs M ≤ zs (zal M sh w) := fun sh w => ⟨Nat.le_succ _, Nat.le_add_right _ _⟩
  unfold zstep
  split
  all_goals first
    | exact trivial
    | exact zgr_nx h0
    | exact zgr_nx (h1 _ _)
    | exact zgr_ti fun _ _ => zgr_nx h0
    | exact zgr_tii fun _ _ _ => zgr_nx h0
    | exact zgr_tl fun _ _ => zgr_nx h0
    | exact zgr_tll fun _ _ _ => zgr_nx h0
    | exact zgr_tli fun _ _ _ => zgr_nx h0
    | exact zgr_tr fun _ _ => zgr_nx h0
    | exact zgr_tri fun _ _ _ => zgr_nx h0
    | exact zgr_ti fun _ _ => zgr_cs (h1 _ _)
    | exact zgr_tll fun _ _ _ => zgr_cs h0
    | exact zgr_tr fun _ _ => zgr_cs h0
    | exact zgr_tri fun _ _ _ => zgr_cs h0
    | exact zgr_trii fun _ _ _ _ => zgr_cs h0
    | exact zgr_tril fun _ _ _ _ => zgr_cs h0
    | exact zgr_trir fun _ _ _ _ => zgr_cs h0
    | exact zgr_tcp fun _ _ _ _ _ _ => zgr_cs h0
    | exact zgr_ti fun _ _ => zgr_br
    | exact zgr_tii fun _ _ _ => zgr_br
    | exact zgr_call
    | exact zgr_retq
    | exact zgr_ti fun _ _ => ⟨h0, fun q hq => by rw [zsw_mem _ _ q hq]; exact h0⟩
    | (split
       · exact zgr_nx h0
       · exact trivial)
    | (split
       · exact zgr_nx h0
       · exact zgr_nx h0
       · exact trivial)
    | skip
  all_goals
    cases h : (_ % 10 == 2)
    · dsimp only [cond]
      split
      · exact zgr_cs h0
      · exact trivial
    · exact zgr_trr fun _ _ _ => zgr_cs h0
theorem zpick_mem {α : Type} : ∀ (ch : List (Prop × α)) (o : α), zpick ch o = o ∨ ∃ q ∈ ch, zpick ch o = q.2
  | [], o => Or.inl rfl
  | (c, x) :: l, o => by
    show @ite α c (Classical.propDecidable c) x (zpick l o) = o ∨ _
    by_cases h : c
    · exact Or.inr ⟨(c, x), List.mem_cons_self, by show @ite α c (Classical.propDecidable c) x (zpick l o) = x; rw [if_pos h]⟩
    · rcases zpick_mem l o with h1 | ⟨q, hq, h1⟩
      · exact Or.inl (by rw [if_neg h]; exact h1)
      · exact Or.inr ⟨q, List.mem_cons_of_mem _ hq, by show @ite α c (Classical.propDecidable c) x (zpick l o) = q.2; rw [if_neg h]; exact h1⟩
/-- a step has one way on -/
theorem zgo_one {rk : Nat} {code : List Instr} {i : Nat} {lv : zLv} {st : List Value} {M : zM} {k : zO → Prop} (a : zgo rk code i lv st M k) : ∃ o, k o ∧ zn M ≤ zn (zOM o) ∧ zs M ≤ zs (zOM o) ∧ ∀ k' : zO → Prop, k' o → zgo rk code i lv st M k' := by
  unfold zgo at a ⊢
  split at a
  · exact a.elim
  · rename_i ins he
    have hg := zgr_step rk ins i lv st M
    revert a hg
    cases zstep rk ins i lv st M with
    | none => exact fun h => h.elim
    | some r =>
      obtain ⟨cs, ch, o⟩ := r
      intro a hg
      have a' := zcj_iff.mp a
      have hp : zn M ≤ zn (zOM (zpick ch o)) ∧ zs M ≤ zs (zOM (zpick ch o)) := by
        rcases zpick_mem ch o with h | ⟨q, hq, h⟩
        · rw [h]; exact hg.1
        · rw [h]; exact hg.2 q hq
      exact ⟨zpick ch o, zch_iff.mp a'.2, hp.1, hp.2, fun k' hk => zcj_iff.mpr ⟨a'.1, zch_iff.mpr hk⟩⟩
theorem zwp_det {Cl : zCall} (hC : zgood Cl) {rk : Nat} {code : List Instr} {Q : List Value → zM → Prop} : ∀ (f i : Nat) (lv : zLv) (st : List Value) (M : zM), zwp Cl rk code (fun _ => false) (fun _ _ _ _ => False) Q f i lv st M → ∃ r M2, Q r M2 ∧ zn M ≤ zn M2 ∧ zs M ≤ zs M2 ∧ zwp Cl rk code (fun _ => false) (fun _ _ _ _ => False) (fun r' M' => r' = r ∧ M' = M2) f i lv st M
  | 0, _, _, _, _, a => a.elim
  | f + 1, i, lv, st, M, a => by
    obtain ⟨o, ho, g1, g2, hk⟩ := zgo_one a
    match o, ho, g1, g2, hk with
    | .inl (i', lv', st', M'), ho, g1, g2, hk =>
      obtain ⟨r, M2, hq, h1, h2, h3⟩ := zwp_det hC f i' lv' st' M' ho
      exact ⟨r, M2, hq, Nat.le_trans g1 h1, Nat.le_trans g2 h2, hk _ h3⟩
    | .inr (.inl (r, M')), ho, g1, g2, hk => exact ⟨r, M', ho, g1, g2, hk _ ⟨rfl, rfl⟩⟩
    | .inr (.inr (m, rk', as, i', lv', st', M')), ho, g1, g2, hk =>
      obtain ⟨r1, M1, b, e1, e2, e3⟩ := hC.2 _ _ _ _ ho
      obtain ⟨b1, b2⟩ := zrv_iff.mp b
      obtain ⟨r, M2, hq, h1, h2, h3⟩ := zwp_det hC f i' lv' (r1 ++ st') M1 b2
      exact ⟨r, M2, hq, Nat.le_trans g1 (Nat.le_trans e1 h1), Nat.le_trans g2 (Nat.le_trans e2 h2), hk _ (hC.1 _ _ _ _ _ (fun r' M' ⟨x, y⟩ => by subst x; subst y; exact zrv_iff.mpr ⟨b1, h3⟩) e3)⟩
/-- a stretch, then what is behind its stops -/
theorem zseg {Cl : zCall} (hC : zgood Cl) {rk : Nat} {code : List Instr} {Q : List Value → zM → Prop} (stop : Nat → Bool) : ∀ (f : Nat) {i : Nat} {lv : zLv} {st : List Value} {M : zM}, zwp Cl rk code stop (zW Cl rk code Q) Q f i lv st M → zW Cl rk code Q i lv st M
  | 0, _, _, _, _, a => a.elim
  | f + 1, i, lv, st, M, a => by
    obtain ⟨o, ho, -, -, hk⟩ := zgo_one a
    have key : ∀ i' lv' st' M', (cond (stop i') (zW Cl rk code Q i' lv' st' M') (zwp Cl rk code stop (zW Cl rk code Q) Q f i' lv' st' M')) → zW Cl rk code Q i' lv' st' M' := by
      intro i' lv' st' M' h
      cases hs : stop i'
      · rw [hs] at h; exact zseg hC stop f h
      · rw [hs] at h; exact h
    match o, ho, hk with
    | .inl (i', lv', st', M'), ho, hk =>
      obtain ⟨g, hg⟩ := key _ _ _ _ ho
      exact ⟨g + 1, hk _ hg⟩
    | .inr (.inl (r, M')), ho, hk => exact ⟨1, hk _ ho⟩
    | .inr (.inr (m, rk', as, i', lv', st', M')), ho, hk =>
      obtain ⟨r1, M1, b, -, -, e3⟩ := hC.2 _ _ _ _ ho
      obtain ⟨b1, b2⟩ := zrv_iff.mp b
      obtain ⟨g, hg⟩ := key _ _ _ _ b2
      exact ⟨g + 1, hk _ (hC.1 _ _ _ _ _ (fun r' M' ⟨x, y⟩ => by subst x; subst y; exact zrv_iff.mpr ⟨b1, hg⟩) e3)⟩
theorem zW_imp {Cl : zCall} (hC : zgood Cl) {rk : Nat} {code : List Instr} {Q Q' : List Value → zM → Prop} (h : ∀ r M, Q r M → Q' r M) {i : Nat} {lv : zLv} {st : List Value} {M : zM} (a : zW Cl rk code Q i lv st M) : zW Cl rk code Q' i lv st M := by
  obtain ⟨f, a⟩ := a
  exact ⟨f, zwp_imp hC (fun _ _ _ _ h => h) h f i lv st M a⟩
/-- the locals at a method's entry -/
def zarg : List Value → zLv
  | [] => []
  | .long x :: l => some (.long x) :: none :: zarg l
  | .double x :: l => some (.double x) :: none :: zarg l
  | v :: l => some v :: zarg l
def zpad : Nat → zLv → zLv
  | 0, l => l
  | n + 1, [] => none :: zpad n []
  | n + 1, a :: l => a :: zpad n l
/-- a method: its code, its answer's kind, how many locals -/
abbrev zMe : Type := List Instr × Nat × Nat
def zCl (tb : Nat → zMe) : Nat → zCall
  | 0 => fun _ _ _ _ => False
  | d + 1 => fun m as M Q => zW (zCl tb d) (tb m).2.1 (tb m).1 Q 0 (zpad (tb m).2.2 (zarg as)) [] M
theorem zCl_good (tb : Nat → zMe) : ∀ d, zgood (zCl tb d)
  | 0 => ⟨fun _ _ _ _ _ _ h => h, fun _ _ _ _ h => h.elim⟩
  | d + 1 => by
    refine ⟨fun m as M Q Q' h a => zW_imp (zCl_good tb d) h a, fun m as M Q a => ?_⟩
    obtain ⟨f, a⟩ := a
    obtain ⟨r, M2, h1, h2, h3, h4⟩ := zwp_det (zCl_good tb d) f _ _ _ _ a
    exact ⟨r, M2, h1, h2, h3, f, h4⟩
end
