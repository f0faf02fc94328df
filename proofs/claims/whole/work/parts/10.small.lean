/-! THE SMALL MACHINE: a memory of rows of numbers under small names (0 is null, 1 the script, the rest in the order of their making), instructions whose pool numbers are resolved, and what it is that a run of them ends well -/
abbrev zM : Type := (Nat → Nat × Nat) × Nat × Nat × (Nat → Nat → Int32) × (Nat → Nat → Int64) × (Nat → Nat → Nat)
abbrev zLv : Type := List (Option Value)
abbrev zO : Type := (Nat × zLv × List Value × zM) ⊕ (List Value × zM) ⊕ (Nat × Nat × List Value × Nat × zLv × List Value × zM)
abbrev zRes : Type := Option (List Prop × List (Prop × zO) × zO)
/-- shape of a row: its kind and length; 1 the script, 2 int[], 3 long[], 4 boolean[], 5 and 6 arrays of objects, 10 + c an object of class c -/
def zsh (M : zM) (a : Nat) : Nat × Nat := M.1 a
def zn (M : zM) : Nat := M.2.1
def zs (M : zM) : Nat := M.2.2.1
def zI (M : zM) (a k : Nat) : Int32 := M.2.2.2.1 a k
def zL (M : zM) (a k : Nat) : Int64 := M.2.2.2.2.1 a k
def zR (M : zM) (a k : Nat) : Nat := M.2.2.2.2.2 a k
def zuI (M : zM) (a k : Nat) (v : Int32) : zM := (M.1, M.2.1, M.2.2.1, (fun i j => if i = a ∧ j = k then v else M.2.2.2.1 i j), M.2.2.2.2.1, M.2.2.2.2.2)
def zuL (M : zM) (a k : Nat) (v : Int64) : zM := (M.1, M.2.1, M.2.2.1, M.2.2.2.1, (fun i j => if i = a ∧ j = k then v else M.2.2.2.2.1 i j), M.2.2.2.2.2)
def zuR (M : zM) (a k : Nat) (v : Nat) : zM := (M.1, M.2.1, M.2.2.1, M.2.2.2.1, M.2.2.2.2.1, (fun i j => if i = a ∧ j = k then v else M.2.2.2.2.2 i j))
/-- a row copied into another -/
def zcI (M : zM) (a sp b dp n : Nat) : zM := (M.1, M.2.1, M.2.2.1, (fun i j => if i = b ∧ dp ≤ j ∧ j < dp + n then M.2.2.2.1 a (sp + (j - dp)) else M.2.2.2.1 i j), M.2.2.2.2.1, M.2.2.2.2.2)
def zcL (M : zM) (a sp b dp n : Nat) : zM := (M.1, M.2.1, M.2.2.1, M.2.2.2.1, (fun i j => if i = b ∧ dp ≤ j ∧ j < dp + n then M.2.2.2.2.1 a (sp + (j - dp)) else M.2.2.2.2.1 i j), M.2.2.2.2.2)
/-- a new row of a shape, of so many slots -/
def zal (M : zM) (sh : Nat × Nat) (w : Nat) : zM := ((fun i => if i = M.2.1 then sh else M.1 i), M.2.1 + 1, M.2.2.1 + w, (fun i j => if i = M.2.1 then 0 else M.2.2.2.1 i j), (fun i j => if i = M.2.1 then 0 else M.2.2.2.2.1 i j), (fun i j => if i = M.2.1 then 0 else M.2.2.2.2.2 i j))
def zat {α : Type} : List α → Nat → Option α
  | [], _ => none
  | a :: _, 0 => some a
  | _ :: l, j + 1 => zat l j
def zset {α : Type} : List α → Nat → α → List α
  | [], _, _ => []
  | _ :: l, 0, v => v :: l
  | a :: l, j + 1, v => a :: zset l j v
/-- the first half of a long goes when its second half is written -/
def zwipe : Option Value → Option Value
  | some (.long _) => none
  | some (.double _) => none
  | v => v
def zkl : zLv → Nat → zLv
  | [], _ => []
  | a :: l, 0 => a :: l
  | a :: l, 1 => zwipe a :: l
  | a :: l, j + 2 => a :: zkl l (j + 1)
def zst1 (lv : zLv) (j : Nat) (v : Value) : zLv := zset (zkl lv j) j (some v)
def zst2 (lv : zLv) (j : Nat) (v : Value) : zLv := zset (zset (zkl lv j) j (some v)) (j + 1) none
/-- a constant -/
def zc : Int → Int32
  | .ofNat k => Int32.ofNat k
  | .negSucc k => -(Int32.ofNat (k + 1))
def zcl : Int → Int64
  | .ofNat k => Int64.ofNat k
  | .negSucc k => -(Int64.ofNat (k + 1))
def zin (j : Int32) (n : Nat) : Prop := ¬ (j < 0 ∨ n ≤ j.toNatClampNeg)
def zb (x : Int32) : Prop := x = 0 ∨ x = 1
def zcat : List Value → Nat
  | [] => 0
  | .long _ :: l => zcat l + 2
  | .double _ :: l => zcat l + 2
  | _ :: l => zcat l + 1
def zpop : Nat → List Value → List Value → Option (List Value × List Value)
  | 0, acc, st => some (acc, st)
  | _ + 1, _, [] => none
  | n + 1, acc, v :: st => zpop n (v :: acc) st
def znx (i : Nat) (lv : zLv) (st : List Value) (M : zM) : zRes := some ([], [], .inl (i, lv, st, M))
def zcs (cs : List Prop) (i : Nat) (lv : zLv) (st : List Value) (M : zM) : zRes := some (cs, [], .inl (i, lv, st, M))
def zbr (c : Prop) (t i : Nat) (lv : zLv) (st : List Value) (M : zM) : zRes := some ([], [(c, .inl (t, lv, st, M))], .inl (i, lv, st, M))
def zti (st : List Value) (f : Int32 → List Value → zRes) : zRes := match st with
  | .int x :: r => f x r
  | _ => none
def ztii (st : List Value) (f : Int32 → Int32 → List Value → zRes) : zRes := match st with
  | .int y :: .int x :: r => f x y r
  | _ => none
def ztl (st : List Value) (f : Int64 → List Value → zRes) : zRes := match st with
  | .long x :: r => f x r
  | _ => none
def ztll (st : List Value) (f : Int64 → Int64 → List Value → zRes) : zRes := match st with
  | .long y :: .long x :: r => f x y r
  | _ => none
def ztli (st : List Value) (f : Int64 → Int32 → List Value → zRes) : zRes := match st with
  | .int y :: .long x :: r => f x y r
  | _ => none
def ztr (st : List Value) (f : Nat → List Value → zRes) : zRes := match st with
  | .ref x :: r => f x r
  | _ => none
def ztri (st : List Value) (f : Nat → Int32 → List Value → zRes) : zRes := match st with
  | .int j :: .ref a :: r => f a j r
  | _ => none
def ztrii (st : List Value) (f : Nat → Int32 → Int32 → List Value → zRes) : zRes := match st with
  | .int v :: .int j :: .ref a :: r => f a j v r
  | _ => none
def ztril (st : List Value) (f : Nat → Int32 → Int64 → List Value → zRes) : zRes := match st with
  | .long v :: .int j :: .ref a :: r => f a j v r
  | _ => none
def ztrir (st : List Value) (f : Nat → Int32 → Nat → List Value → zRes) : zRes := match st with
  | .ref v :: .int j :: .ref a :: r => f a j v r
  | _ => none
def ztrr (st : List Value) (f : Nat → Nat → List Value → zRes) : zRes := match st with
  | .ref v :: .ref a :: r => f a v r
  | _ => none
/-- what arraycopy takes: n, dp, b, sp, a from the top -/
def ztcp (st : List Value) (f : Nat → Int32 → Nat → Int32 → Int32 → zRes) : zRes := match st with
  | [.int n, .int dp, .ref b, .int sp, .ref a] => f a sp b dp n
  | _ => none
def ztii0 (st : List Value) (f : Int32 → Int32 → zRes) : zRes := match st with
  | [.int y, .int x] => f x y
  | _ => none
def ztr0 (st : List Value) (f : Nat → zRes) : zRes := match st with
  | [.ref x] => f x
  | _ => none
def zsw (x : Int32) (lv : zLv) (r : List Value) (M : zM) : Int → List Int → List (Prop × zO)
  | _, [] => []
  | v, t :: ts => (x.toInt = v, .inl (t.toNat, lv, r, M)) :: zsw x lv r M (v + 1) ts
def zpk (M : zM) (a sp : Nat) (b : Nat) (dp n : Int32) (s0 : Int32) : List Prop := [¬ s0 < 0, ¬ dp < 0, ¬ n < 0, sp + n.toNatClampNeg ≤ (zsh M a).2, dp.toNatClampNeg + n.toNatClampNeg ≤ (zsh M b).2]
/-- a call: number of the method, of its arguments, the class of its object (0: static), the kind of its answer -/
def zcall (x : Nat) (obj : Bool) (i : Nat) (lv : zLv) (st : List Value) (M : zM) : zRes :=
  match zpop (x / 1000 % 10) [] st with
  | none => none
  | some (as, r) => cond (Nat.ble (zcat r) 8) (cond obj (match as with
      | .ref a :: _ => some ([(zsh M a).1 = 10 + x % 100], [], .inr (.inr (x / 10000, x / 100 % 10, as, i + 1, lv, r, M)))
      | _ => none) (some ([], [], .inr (.inr (x / 10000, x / 100 % 10, as, i + 1, lv, r, M))))) none
def zretq (rk : Nat) (st : List Value) (M : zM) : zRes :=
  match st with
  | [] => cond (rk == 0) (some ([], [], .inr (.inl ([], M)))) none
  | [.int v] => cond (rk == 1) (some ([], [], .inr (.inl ([.int v], M)))) (cond (rk == 2) (some ([zb v], [], .inr (.inl ([.int v], M)))) none)
  | [.long v] => cond (rk == 3) (some ([], [], .inr (.inl ([.long v], M)))) none
  | [.ref v] => cond (rk == 4) (some ([], [], .inr (.inl ([.ref v], M)))) none
  | _ => none
set_option maxHeartbeats 4000000 in
def zstep (rk : Nat) (ins : Instr) (i : Nat) (lv : zLv) (st : List Value) (M : zM) : zRes :=
  match ins with
  | .iconst n => znx (i + 1) lv (.int (zc n) :: st) M
  | .jsr_w n => znx (i + 1) lv (.long (zcl n) :: st) M
  | .iload j => (match zat lv j with
    | some (some (.int x)) => znx (i + 1) lv (.int x :: st) M
    | _ => none)
  | .lload j => (match zat lv j with
    | some (some (.long x)) => znx (i + 1) lv (.long x :: st) M
    | _ => none)
  | .aload j => (match zat lv j with
    | some (some (.ref x)) => znx (i + 1) lv (.ref x :: st) M
    | _ => none)
  | .istore j => zti st fun x r => znx (i + 1) (zst1 lv j (.int x)) r M
  | .lstore j => ztl st fun x r => znx (i + 1) (zst2 lv j (.long x)) r M
  | .astore j => ztr st fun x r => znx (i + 1) (zst1 lv j (.ref x)) r M
  | .iinc j n => (match zat lv j with
    | some (some (.int x)) => znx (i + 1) (zst1 lv j (.int (x + zc n))) st M
    | _ => none)
  | .iadd => ztii st fun x y r => znx (i + 1) lv (.int (x + y) :: r) M
  | .isub => ztii st fun x y r => znx (i + 1) lv (.int (x - y) :: r) M
  | .imul => ztii st fun x y r => znx (i + 1) lv (.int (x * y) :: r) M
  | .iand => ztii st fun x y r => znx (i + 1) lv (.int (x &&& y) :: r) M
  | .ior => ztii st fun x y r => znx (i + 1) lv (.int (x ||| y) :: r) M
  | .ineg => zti st fun x r => znx (i + 1) lv (.int (-x) :: r) M
  | .ishl => ztii st fun x y r => znx (i + 1) lv (.int (x <<< (y &&& 31)) :: r) M
  | .ishr => ztii st fun x y r => znx (i + 1) lv (.int (x >>> (y &&& 31)) :: r) M
  | .iushr => ztii st fun x y r => znx (i + 1) lv (.int (x.toUInt32 >>> (y.toUInt32 &&& Int32.toUInt32 31)).toInt32 :: r) M
  | .ladd => ztll st fun x y r => znx (i + 1) lv (.long (x + y) :: r) M
  | .lsub => ztll st fun x y r => znx (i + 1) lv (.long (x - y) :: r) M
  | .lmul => ztll st fun x y r => znx (i + 1) lv (.long (x * y) :: r) M
  | .lor => ztll st fun x y r => znx (i + 1) lv (.long (x ||| y) :: r) M
  | .land => ztll st fun x y r => znx (i + 1) lv (.long (x &&& y) :: r) M
  | .lneg => ztl st fun x r => znx (i + 1) lv (.long (-x) :: r) M
  | .ldiv => ztll st fun x y r => zcs [¬ y = 0] (i + 1) lv (.long (x / y) :: r) M
  | .lrem => ztll st fun x y r => zcs [¬ y = 0] (i + 1) lv (.long (x - x / y * y) :: r) M
  | .lshl => ztli st fun x y r => znx (i + 1) lv (.long (x <<< (y.toInt64 &&& 63)) :: r) M
  | .lshr => ztli st fun x y r => znx (i + 1) lv (.long (x >>> (y.toInt64 &&& 63)) :: r) M
  | .i2l => zti st fun x r => znx (i + 1) lv (.long x.toInt64 :: r) M
  | .l2i => ztl st fun x r => znx (i + 1) lv (.int x.toInt32 :: r) M
  | .lcmp => ztll st fun x y r => znx (i + 1) lv (.int (lg_cmp x y) :: r) M
  | .dup => (match st with
    | .int x :: r => znx (i + 1) lv (.int x :: .int x :: r) M
    | .ref x :: r => znx (i + 1) lv (.ref x :: .ref x :: r) M
    | _ => none)
  | .dup2 => ztri st fun a j r => znx (i + 1) lv (.int j :: .ref a :: .int j :: .ref a :: r) M
  | .pop => (match st with
    | .int _ :: r => znx (i + 1) lv r M
    | _ => none)
  | .goto t => znx t.toNat lv st M
  | .ifCond .eq t => zti st fun x r => zbr (x = 0) t.toNat (i + 1) lv r M
  | .ifCond .ne t => zti st fun x r => zbr (¬ x = 0) t.toNat (i + 1) lv r M
  | .ifCond .lt t => zti st fun x r => zbr (x < 0) t.toNat (i + 1) lv r M
  | .ifCond .ge t => zti st fun x r => zbr (0 ≤ x) t.toNat (i + 1) lv r M
  | .ifCond .gt t => zti st fun x r => zbr (0 < x) t.toNat (i + 1) lv r M
  | .ifCond .le t => zti st fun x r => zbr (x ≤ 0) t.toNat (i + 1) lv r M
  | .if_icmp .eq t => ztii st fun x y r => zbr (x = y) t.toNat (i + 1) lv r M
  | .if_icmp .ne t => ztii st fun x y r => zbr (¬ x = y) t.toNat (i + 1) lv r M
  | .if_icmp .lt t => ztii st fun x y r => zbr (x < y) t.toNat (i + 1) lv r M
  | .if_icmp .ge t => ztii st fun x y r => zbr (y ≤ x) t.toNat (i + 1) lv r M
  | .if_icmp .gt t => ztii st fun x y r => zbr (y < x) t.toNat (i + 1) lv r M
  | .if_icmp .le t => ztii st fun x y r => zbr (x ≤ y) t.toNat (i + 1) lv r M
  | .tableswitch d lo _ ts => zti st fun x r => some ([], zsw x lv r M lo ts.toList, .inl (d.toNat, lv, r, M))
  | .getfield x => ztr st fun a r => zcs [(zsh M a).1 = 10 + x / 1000] (i + 1) lv (cond (x % 10 == 2) (.ref (zR M a (x / 10 % 100))) (.int (zI M a (x / 10 % 100))) :: r) M
  | .putfield x => cond (x % 10 == 2) (ztrr st fun a v r => zcs [(zsh M a).1 = 10 + x / 1000] (i + 1) lv r (zuR M a (x / 10 % 100) v))
    (match st with
    | .int v :: .ref a :: r => zcs (cond (x % 10 == 1) [(zsh M a).1 = 10 + x / 1000, zb v] [(zsh M a).1 = 10 + x / 1000]) (i + 1) lv r (zuI M a (x / 10 % 100) v)
    | _ => none)
  | .saload => ztri st fun a j r => zcs [a = 1, zin j (zsh M 1).2] (i + 1) lv (.int (zI M 1 j.toNatClampNeg) :: r) M
  | .arraylength => ztr st fun a r => zcs [a = 1] (i + 1) lv (.int (Int32.ofNat (zsh M 1).2) :: r) M
  | .iaload => ztri st fun a j r => zcs [(zsh M a).1 = 2, zin j (zsh M a).2] (i + 1) lv (.int (zI M a j.toNatClampNeg) :: r) M
  | .laload => ztri st fun a j r => zcs [(zsh M a).1 = 3, zin j (zsh M a).2] (i + 1) lv (.long (zL M a j.toNatClampNeg) :: r) M
  | .baload => ztri st fun a j r => zcs [(zsh M a).1 = 4, zin j (zsh M a).2] (i + 1) lv (.int (zI M a j.toNatClampNeg) :: r) M
  | .ret kd => ztri st fun a j r => zcs [(zsh M a).1 = 5 + kd % 2, zin j (zsh M a).2] (i + 1) lv (.ref (zR M a j.toNatClampNeg) :: r) M
  | .iastore => ztrii st fun a j v r => zcs [(zsh M a).1 = 2, zin j (zsh M a).2] (i + 1) lv r (zuI M a j.toNatClampNeg v)
  | .bastore => ztrii st fun a j v r => zcs [(zsh M a).1 = 4, zin j (zsh M a).2, zb v] (i + 1) lv r (zuI M a j.toNatClampNeg v)
  | .lastore => ztril st fun a j v r => zcs [(zsh M a).1 = 3, zin j (zsh M a).2] (i + 1) lv r (zuL M a j.toNatClampNeg v)
  | .putstatic x => ztrir st fun a j v r => zcs [(zsh M a).1 = 5 + x % 2, zin j (zsh M a).2, (zsh M v).1 = 10 + x / 10] (i + 1) lv r (zuR M a j.toNatClampNeg v)
  | .faload => ztcp st fun a sp b dp n => zcs (((zsh M a).1 = 2) :: ((zsh M b).1 = 2) :: zpk M a sp.toNatClampNeg b dp n sp) (i + 1) lv [] (zcI M a sp.toNatClampNeg b dp.toNatClampNeg n.toNatClampNeg)
  | .daload => ztcp st fun a sp b dp n => zcs (((zsh M a).1 = 3) :: ((zsh M b).1 = 3) :: zpk M a sp.toNatClampNeg b dp n sp) (i + 1) lv [] (zcL M a sp.toNatClampNeg b dp.toNatClampNeg n.toNatClampNeg)
  | .dadd => ztii0 st fun x y => znx (i + 1) lv [.int (if y < x then y else x)] M
  | .nop => ztr0 st fun a => zcs [¬ a = 0] (i + 1) lv [] M
  | .new x => znx (i + 1) lv (.ref (zn M) :: st) (zal M (10 + x / 100, 0) (x % 100))
  | .newarray .int => zti st fun n r => zcs [¬ n < 0, n.toNatClampNeg ≤ 100000] (i + 1) lv (.ref (zn M) :: r) (zal M (2, n.toNatClampNeg) n.toNatClampNeg)
  | .newarray .long => zti st fun n r => zcs [¬ n < 0, n.toNatClampNeg ≤ 100000] (i + 1) lv (.ref (zn M) :: r) (zal M (3, n.toNatClampNeg) n.toNatClampNeg)
  | .newarray .boolean => zti st fun n r => zcs [¬ n < 0, n.toNatClampNeg ≤ 100000] (i + 1) lv (.ref (zn M) :: r) (zal M (4, n.toNatClampNeg) n.toNatClampNeg)
  | .anewarray kd => zti st fun n r => zcs [¬ n < 0, n.toNatClampNeg ≤ 100000] (i + 1) lv (.ref (zn M) :: r) (zal M (5 + kd % 2, n.toNatClampNeg) n.toNatClampNeg)
  | .invokestatic x => zcall x false i lv st M
  | .invokevirtual x => zcall x true i lv st M
  | .invokespecial x => zcall x true i lv st M
  | .ireturn => (match st with
    | [.int v] => zretq rk [.int v] M
    | _ => none)
  | .lreturn => (match st with
    | [.long v] => zretq rk [.long v] M
    | _ => none)
  | .areturn => (match st with
    | [.ref v] => zretq rk [.ref v] M
    | _ => none)
  | .return_ => (match st with
    | [] => zretq rk [] M
    | _ => none)
  | _ => none
