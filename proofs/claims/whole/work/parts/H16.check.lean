/-! THE CHECK of small code against the bytes and the tables' words -/
def gTB : List Cond := lw_tbl.filter goodWord
def zwd (w : Cond) : Bool := decide (w ∈ lw_tbl) && goodWord w
theorem zwd_in {w : Cond} (h : zwd w = true) : w ∈ gTB := by
  simp only [zwd, Bool.and_eq_true, decide_eq_true_eq] at h
  exact List.mem_filter.mpr h
def gNB (w : Cond) : Bool := decide (w ∈ lw_tbl)
/-- a place in the code: its number among the instructions -/
def ztg (pcs : List Nat) (pc : Nat) (off t : Int) : Bool := decide (0 ≤ (pc : Int) + off) && decide (zat pcs t.toNat = some ((pc : Int) + off).toNat)
def ztk (kd : Nat) (t : FieldType) : Bool := match kd, t with
  | 0, .int => true
  | 1, .boolean => true
  | 2, .object _ => true
  | 2, .array _ => true
  | _, _ => false
def zrk (r : Option FieldType) : Nat := match r with
  | none => 0
  | some .int => 1
  | some .boolean => 2
  | some .long => 3
  | some (.object _) => 4
  | some (.array _) => 4
  | _ => 9
def zpar (d : String) : Option Nat := (parseMethodDescriptor d).map fun d => d.parameters.length
/-- what a call wants of the callee, whatever its kind -/
def zcb (own : String) (idx x n : Nat) : Bool := decide (zpar (gMe (x / 10000)).1.desc = some n) && decide ((gMe (x / 10000)).1.cls ≠ "java/lang/invoke/MethodHandle") && decide ((gMe (x / 10000)).1.cls ≠ "java/lang/invoke/VarHandle") && decide (zrk (gMe (x / 10000)).2.2.2 = x / 100 % 10) && zwd (.initialized (gMe (x / 10000)).1.cls) && zwd (.code (gMe (x / 10000)).1 (gMe (x / 10000)).2.1 (gMe (x / 10000)).2.2.1 (gMe (x / 10000)).2.2.2) && decide (x / 10000 < gMeL.length) && decide (x / 1000 % 10 ≤ 9)
def zcbl (own : String) (idx x : Nat) : Bool := zwd (.methodLink own idx (gMe (x / 10000)).1)
def zcbn (own : String) (idx x : Nat) : Bool := gNB (.methodLinkNest own idx (gMe (x / 10000)).1 gHs)
def zfd (x : Nat) (f : String × u_T × Nat → Nat → Bool) : Bool := match gCl[x / 1000]? with
  | some r => decide (x / 10 % 100 < r.2.2) && f r (x / 10 % 100)
  | none => false
set_option maxHeartbeats 4000000 in
def zmt (y : MethodName) (nL : Nat) (pcs : List Nat) (i pc : Nat) (o : Instr) (len : Nat) (mi : Instr) : Bool :=
  match mi with
  | .iconst n => decide (zat pcs (i + 1) = some (pc + len)) && (match o with
    | .iconst k => decide (len = 1) && decide (Int32.ofInt k = zc n)
    | .bipush k => decide (len = 2) && decide ((Int8.ofInt k).toInt32 = zc n)
    | .sipush k => decide (len = 3) && decide ((Int16.ofInt k).toInt32 = zc n)
    | .ldc x => decide (len = 2) && zwd (.constant y.cls x (zc n))
    | _ => false)
  | .jsr_w n => decide (zat pcs (i + 1) = some (pc + len)) && (match o with
    | .lconst k => decide (len = 1) && decide (Int64.ofNat (k : Nat) = zcl n)
    | .ldc2_w x => decide (len = 3) && zwd (.constantLong y.cls x (zcl n))
    | _ => false)
  | .iload j => decide (zat pcs (i + 1) = some (pc + len)) && (match o with
    | .iload_n k => decide (len = 1) && decide ((k : Nat) = j)
    | .iload k => decide (len = 2) && decide (k = j)
    | _ => false)
  | .lload j => decide (zat pcs (i + 1) = some (pc + len)) && (match o with
    | .lload_n k => decide (len = 1) && decide ((k : Nat) = j)
    | .lload k => decide (len = 2) && decide (k = j)
    | _ => false)
  | .aload j => decide (zat pcs (i + 1) = some (pc + len)) && (match o with
    | .aload_n k => decide (len = 1) && decide ((k : Nat) = j)
    | .aload k => decide (len = 2) && decide (k = j)
    | _ => false)
  | .istore j => decide (zat pcs (i + 1) = some (pc + len)) && (match o with
    | .istore_n k => decide (len = 1) && decide ((k : Nat) = j) && decide (j < nL)
    | .istore k => decide (len = 2) && decide (k = j) && decide (j < nL)
    | _ => false)
  | .lstore j => decide (zat pcs (i + 1) = some (pc + len)) && (match o with
    | .lstore_n k => decide (len = 1) && decide ((k : Nat) = j) && decide (j + 1 < nL)
    | .lstore k => decide (len = 2) && decide (k = j) && decide (j + 1 < nL)
    | _ => false)
  | .astore j => decide (zat pcs (i + 1) = some (pc + len)) && (match o with
    | .astore_n k => decide (len = 1) && decide ((k : Nat) = j) && decide (j < nL)
    | .astore k => decide (len = 2) && decide (k = j) && decide (j < nL)
    | _ => false)
  | .iinc j n => decide (zat pcs (i + 1) = some (pc + len)) && (match o with
    | .iinc k n' => decide (len = 3) && decide (k = j) && decide (j < nL) && decide (Int32.ofInt n' = zc n)
    | _ => false)
  | .goto t => (match o with
    | .goto off => decide (len = 3) && ztg pcs pc off t
    | _ => false)
  | .ifCond c t => decide (zat pcs (i + 1) = some (pc + len)) && (match o with
    | .ifCond c' off => decide (len = 3) && decide (c' = c) && ztg pcs pc off t
    | _ => false)
  | .if_icmp c t => decide (zat pcs (i + 1) = some (pc + len)) && (match o with
    | .if_icmp c' off => decide (len = 3) && decide (c' = c) && ztg pcs pc off t
    | _ => false)
  | .tableswitch d lo hi ts => (match o with
    | .tableswitch d' lo' hi' offs => decide (lo' = lo) && decide (hi' = hi) && ztg pcs pc d' d && decide (offs.toList.length = ts.toList.length) && decide (lo + (ts.toList.length : Int) = hi + 1) && (offs.toList.zip ts.toList).all (fun q => ztg pcs pc q.1 q.2)
    | _ => false)
  | .getfield x => decide (zat pcs (i + 1) = some (pc + len)) && (match o with
    | .getfield idx => decide (len = 3) && zfd x (fun r k => decide ((gFk (x / 1000)).length = r.2.2) && decide ((((gFk (x / 1000)).getD k 0) == 2) = (x % 10 == 2)) && zwd (.fieldLink y.cls idx (r.2.1 k).1 (r.2.1 k).2.1 (r.2.1 k).2.2.1))
    | _ => false)
  | .putfield x => decide (zat pcs (i + 1) = some (pc + len)) && (match o with
    | .putfield idx => decide (len = 3) && zfd x (fun r k => decide ((gFk (x / 1000)).length = r.2.2) && decide ((((gFk (x / 1000)).getD k 0) == 2) = (x % 10 == 2)) && ztk (x % 10) (gTy (x / 1000) k) && (!(r.2.1 k).2.2.2 || (decide (y.name = "<init>") && decide ((r.2.1 k).1 = y.cls))) && zwd (.fieldLink y.cls idx (r.2.1 k).1 (r.2.1 k).2.1 (r.2.1 k).2.2.1))
    | _ => false)
  | .saload => decide (zat pcs (i + 1) = some (pc + len)) && decide (o = .iaload) && decide (len = 1)
  | .ret _ => decide (zat pcs (i + 1) = some (pc + len)) && decide (o = .aaload) && decide (len = 1)
  | .putstatic x => decide (zat pcs (i + 1) = some (pc + len)) && decide (o = .aastore) && decide (len = 1) && (match gCl[x / 10]? with
    | some r => decide (r.1 = gEl (x % 2))
    | none => false)
  | .faload => decide (zat pcs (i + 1) = some (pc + len)) && (match o with
    | .invokestatic idx => decide (len = 3) && zwd (.methodLink y.cls idx arraycopyName) && zwd (.native arraycopyName) && zwd (.static arraycopyName) && zwd (.initialized "java/lang/System")
    | _ => false)
  | .daload => decide (zat pcs (i + 1) = some (pc + len)) && (match o with
    | .invokestatic idx => decide (len = 3) && zwd (.methodLink y.cls idx arraycopyName) && zwd (.native arraycopyName) && zwd (.static arraycopyName) && zwd (.initialized "java/lang/System")
    | _ => false)
  | .dadd => decide (zat pcs (i + 1) = some (pc + len)) && (match o with
    | .invokestatic idx => decide (len = 3) && zwd (.methodLink y.cls idx Lib.Math.min.name) && zwd (.static Lib.Math.min.name) && zwd (.initialized "java/lang/Math") && zwd (.code Lib.Math.min.name Lib.Math.min.code 2 (some .int))
    | _ => false)
  | .nop => decide (zat pcs (i + 1) = some (pc + len)) && (match o with
    | .invokespecial idx => decide (len = 3) && zwd (.methodLink y.cls idx Lib.objectInit) && zwd (.instanceMethod Lib.objectInit) && zwd (.code Lib.objectInit ⟨#[0xb1]⟩ 1 none)
    | _ => false)
  | .new x => decide (zat pcs (i + 1) = some (pc + len)) && (match o with
    | .new idx => decide (len = 3) && (match gCl[x / 100]? with
      | some r => decide (r.2.2 = x % 100) && decide ((gFk (x / 100)).length = x % 100) && zwd (.classLink y.cls idx r.1) && zwd (.instantiable r.1 (x % 100)) && zwd (.initialized r.1) && (List.range (x % 100)).all (fun k => ztk ((gFk (x / 100)).getD k 0) (gTy (x / 100) k))
      | none => false)
    | _ => false)
  | .newarray t => decide (zat pcs (i + 1) = some (pc + len)) && decide (o = .newarray t) && decide (len = 2) && zwd (.arrayClass (newarray.typeOf t))
  | .anewarray kd => decide (zat pcs (i + 1) = some (pc + len)) && (match o with
    | .anewarray idx => decide (len = 3) && zwd (.classLink y.cls idx (gEl (kd % 2))) && gNB (.arrayOver (.object (gEl (kd % 2))))
    | _ => false)
  | .invokestatic x => decide (zat pcs (i + 1) = some (pc + len)) && (match o with
    | .invokestatic idx => decide (len = 3) && zcb y.cls idx x (x / 1000 % 10) && zwd (.static (gMe (x / 10000)).1) && (zcbl y.cls idx x || zcbn y.cls idx x)
    | _ => false)
  | .invokevirtual x => decide (zat pcs (i + 1) = some (pc + len)) && (match o with
    | .invokevirtual idx => decide (len = 3) && zcb y.cls idx x (x / 1000 % 10 - 1) && decide (1 ≤ x / 1000 % 10) && zwd (.instanceMethod (gMe (x / 10000)).1) && zwd (.selects (gMe (x / 10000)).1.cls (gMe (x / 10000)).1 (gMe (x / 10000)).1) && zcbl y.cls idx x && (match gCl[x % 100]? with
      | some r => decide (r.1 = (gMe (x / 10000)).1.cls)
      | none => false)
    | _ => false)
  | .invokespecial x => decide (zat pcs (i + 1) = some (pc + len)) && (match o with
    | .invokespecial idx => decide (len = 3) && zcb y.cls idx x (x / 1000 % 10 - 1) && decide (1 ≤ x / 1000 % 10) && decide ((gMe (x / 10000)).1.name = "<init>") && decide ((gMe (x / 10000)).2.2.2 = none) && zwd (.instanceMethod (gMe (x / 10000)).1) && (zcbl y.cls idx x || zcbn y.cls idx x)
    | _ => false)
  | .ireturn => decide (o = .ireturn) && decide (len = 1)
  | .lreturn => decide (o = .lreturn) && decide (len = 1)
  | .areturn => decide (o = .areturn) && decide (len = 1)
  | .return_ => decide (o = .return_) && decide (len = 1)
  | mi => decide (zat pcs (i + 1) = some (pc + len)) && decide (o = mi) && decide (len = 1)
/-- a stretch of a method's instructions -/
def zckl (y : MethodName) (bytes : ByteArray) (nL : Nat) (pcs : List Nat) : Nat → List Instr → List Nat → Bool
  | _, [], _ => true
  | _, _ :: _, [] => false
  | i, mi :: l, pc :: ps => (match decode bytes pc with
    | .ok (o, len) => zmt y nL pcs i pc o len mi
    | _ => false) && zckl y bytes nL pcs (i + 1) l ps
def zckm (m : Nat) : Bool := decide ((gTb m).2.1 = zrk (gMe m).2.2.2) && decide ((gTb m).2.2 = (gMe m).2.2.1) && decide ((gMe m).2.2.1 ≤ 13) && plainName (gMe m).1.cls && decide (zat (gPc m) 0 = some 0) && decide ((gPc m).length = (gTb m).1.length) && zckl (gMe m).1 (gMe m).2.1 (gMe m).2.2.1 (gPc m) 0 (gTb m).1 (gPc m)
