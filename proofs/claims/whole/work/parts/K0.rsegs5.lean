/-! stretches of the small code, by wip/whole/vcgen.py -/
abbrev wX8_init (d : Nat) (Q : List Value → zM → Prop) : Nat → zLv → List Value → zM → Prop := zW (zCl gTb d) 0 kX8_init Q
theorem en_X8_init {d : Nat} {Q : List Value → zM → Prop} (a0 : Nat) (a1 : Int32) (M : zM) (h : wX8_init d Q 0 [some (.ref a0), some (.int a1)] [] M) : zCl gTb (d + 1) nX8_init [.ref a0, .int a1] M Q := ⟨Nat.le_of_ble_eq_true rfl, h⟩
set_option maxRecDepth 100000 in
set_option maxHeartbeats 4000000 in
/-- from place 0 -/
theorem sg_X8_init_0 {d : Nat} {Q : List Value → zM → Prop} (a0 : Nat) (a1 : Int32) (M : zM) (h :
¬ a0 = 0 ∧ (¬ ((37200 : Int32)) < 0 ∧ (((37200 : Int32)).toNatClampNeg ≤ 100000 ∧ (let n1 : Nat := zn M
let M2 : zM := zal M (2, ((37200 : Int32)).toNatClampNeg) ((37200 : Int32)).toNatClampNeg
(zsh M2 a0).1 = 16 ∧ (let M3 : zM := zuR M2 a0 3 n1
¬ ((37200 : Int32)) < 0 ∧ (((37200 : Int32)).toNatClampNeg ≤ 100000 ∧ (let n4 : Nat := zn M3
let M5 : zM := zal M3 (2, ((37200 : Int32)).toNatClampNeg) ((37200 : Int32)).toNatClampNeg
(zsh M5 a0).1 = 16 ∧ (let M6 : zM := zuR M5 a0 4 n4
¬ ((37200 : Int32)) < 0 ∧ (((37200 : Int32)).toNatClampNeg ≤ 100000 ∧ (let n7 : Nat := zn M6
let M8 : zM := zal M6 (2, ((37200 : Int32)).toNatClampNeg) ((37200 : Int32)).toNatClampNeg
(zsh M8 a0).1 = 16 ∧ (let M9 : zM := zuR M8 a0 5 n7
¬ ((372 : Int32)) < 0 ∧ (((372 : Int32)).toNatClampNeg ≤ 100000 ∧ (let n10 : Nat := zn M9
let M11 : zM := zal M9 (2, ((372 : Int32)).toNatClampNeg) ((372 : Int32)).toNatClampNeg
(zsh M11 a0).1 = 16 ∧ (let M12 : zM := zuR M11 a0 6 n10
¬ ((4 : Int32)) < 0 ∧ (((4 : Int32)).toNatClampNeg ≤ 100000 ∧ (let n13 : Nat := zn M12
let M14 : zM := zal M12 (2, ((4 : Int32)).toNatClampNeg) ((4 : Int32)).toNatClampNeg
(zsh M14 a0).1 = 16 ∧ (let M15 : zM := zuR M14 a0 15 n13
¬ ((4 : Int32)) < 0 ∧ (((4 : Int32)).toNatClampNeg ≤ 100000 ∧ (let n16 : Nat := zn M15
let M17 : zM := zal M15 (2, ((4 : Int32)).toNatClampNeg) ((4 : Int32)).toNatClampNeg
(zsh M17 a0).1 = 16 ∧ (let M18 : zM := zuR M17 a0 18 n16
¬ ((625 : Int32)) < 0 ∧ (((625 : Int32)).toNatClampNeg ≤ 100000 ∧ (let n19 : Nat := zn M18
let M20 : zM := zal M18 (4, ((625 : Int32)).toNatClampNeg) ((625 : Int32)).toNatClampNeg
(zsh M20 a0).1 = 16 ∧ (let M21 : zM := zuR M20 a0 23 n19
¬ ((25 : Int32)) < 0 ∧ (((25 : Int32)).toNatClampNeg ≤ 100000 ∧ (let n22 : Nat := zn M21
let M23 : zM := zal M21 (4, ((25 : Int32)).toNatClampNeg) ((25 : Int32)).toNatClampNeg
(zsh M23 a0).1 = 16 ∧ (let M24 : zM := zuR M23 a0 27 n22
wX8_init d Q 34 [some (.ref a0), some (.int a1)] [] M24)))))))))))))))))))))))))
) : wX8_init d Q 0 [some (.ref a0), some (.int a1)] [] M := zseg (zCl_good gTb d) (fun j => j == 34 || j == 46) 39 h
set_option maxRecDepth 100000 in
set_option maxHeartbeats 4000000 in
/-- from place 34 -/
theorem sg_X8_init_34 {d : Nat} {Q : List Value → zM → Prop} (a0 : Nat) (a1 : Int32) (M : zM) (h :
(((1 : Int32)) ≤ a1 → ((a1 ≤ ((4 : Int32)) → (wX8_init d Q 46 [some (.ref a0), some (.int a1)] [.int a1, .ref a0] M)) ∧ (¬ (a1 ≤ ((4 : Int32))) → (wX8_init d Q 46 [some (.ref a0), some (.int a1)] [.int ((4 : Int32)), .ref a0] M)))) ∧ (¬ (((1 : Int32)) ≤ a1) → (wX8_init d Q 46 [some (.ref a0), some (.int a1)] [.int ((1 : Int32)), .ref a0] M))
) : wX8_init d Q 34 [some (.ref a0), some (.int a1)] [] M := zseg (zCl_good gTb d) (fun j => j == 34 || j == 46) 17 h
set_option maxRecDepth 100000 in
set_option maxHeartbeats 4000000 in
/-- from place 46 -/
theorem sg_X8_init_46 {d : Nat} {Q : List Value → zM → Prop} (a0 : Nat) (o1 : Option Value) (s0 : Nat) (s1 : Int32) (M : zM) (h :
(zsh M s0).1 = 16 ∧ (let M1 : zM := zuI M s0 0 s1
(zsh M a0).1 = 16 ∧ ((zsh M a0).1 = 16 ∧ (let M2 : zM := zuI M1 a0 1 (zI M1 a0 0)
Q [] M2)))
) : wX8_init d Q 46 [some (.ref a0), o1] [.int s1, .ref s0] M := zseg (zCl_good gTb d) (fun j => j == 34 || j == 46) 11 h
abbrev wL_cell (d : Nat) (Q : List Value → zM → Prop) : Nat → zLv → List Value → zM → Prop := zW (zCl gTb d) 1 kL_cell Q
theorem en_L_cell {d : Nat} {Q : List Value → zM → Prop} (a0 : Nat) (a1 : Int32) (M : zM) (h : wL_cell d Q 0 [some (.ref a0), some (.int a1)] [] M) : zCl gTb (d + 1) nL_cell [.ref a0, .int a1] M Q := ⟨Nat.le_of_ble_eq_true rfl, h⟩
set_option maxRecDepth 100000 in
set_option maxHeartbeats 4000000 in
/-- from place 0 -/
theorem sg_L_cell_0 {d : Nat} {Q : List Value → zM → Prop} (a0 : Nat) (a1 : Int32) (M : zM) (h :
a0 = 1 ∧ (((Int32.ofNat (zsh M 1).2) ≤ a1 → (Q [.int ((0 : Int32))] M)) ∧ (¬ ((Int32.ofNat (zsh M 1).2) ≤ a1) → (a0 = 1 ∧ (zin a1 (zsh M 1).2 ∧ (Q [.int (zI M 1 a1.toNatClampNeg)] M)))))
) : wL_cell d Q 0 [some (.ref a0), some (.int a1)] [] M := zseg (zCl_good gTb d) (fun _ => false) 16 h
abbrev wL_law (d : Nat) (Q : List Value → zM → Prop) : Nat → zLv → List Value → zM → Prop := zW (zCl gTb d) 2 kL_law Q
theorem en_L_law {d : Nat} {Q : List Value → zM → Prop} (a0 : Nat) (M : zM) (h : wL_law d Q 0 [some (.ref a0), none, none, none] [] M) : zCl gTb (d + 1) nL_law [.ref a0] M Q := ⟨Nat.le_of_ble_eq_true rfl, h⟩
set_option maxRecDepth 100000 in
set_option maxHeartbeats 4000000 in
/-- from place 0 -/
theorem sg_L_law_0 {d : Nat} {Q : List Value → zM → Prop} (a0 : Nat) (M : zM) (h :
let n1 : Nat := zn M
let M2 : zM := zal M (15, 0) 14
ycI d nL_cell [.ref a0, .int ((0 : Int32))] M2 fun c4 M3 => ((zsh M3 n1).1 = 15 ∧ (ycV d nX7_init [.ref n1, .int c4] M3 fun M5 => (wL_law d Q 7 [some (.ref a0), some (.ref n1), none, none] [] M5)))
) : wL_law d Q 0 [some (.ref a0), none, none, none] [] M := zseg (zCl_good gTb d) (fun j => j == 7 || j == 14 || j == 16 || j == 28 || j == 35 || j == 52 || j == 99 || j == 116 || j == 133 || j == 170 || j == 207 || j == 244 || j == 271 || j == 328 || j == 345 || j == 352 || j == 369 || j == 386 || j == 413 || j == 450 || j == 477 || j == 504 || j == 511 || j == 538 || j == 555 || j == 562 || j == 564) 12 h
set_option maxRecDepth 100000 in
set_option maxHeartbeats 4000000 in
/-- from place 7 -/
theorem sg_L_law_7 {d : Nat} {Q : List Value → zM → Prop} (a0 : Nat) (a1 : Nat) (o2 : Option Value) (o3 : Option Value) (M : zM) (h :
let n1 : Nat := zn M
let M2 : zM := zal M (16, 0) 28
ycI d nL_cell [.ref a0, .int ((0 : Int32))] M2 fun c4 M3 => ((zsh M3 n1).1 = 16 ∧ (ycV d nX8_init [.ref n1, .int c4] M3 fun M5 => (wL_law d Q 14 [some (.ref a0), some (.ref a1), some (.ref n1), o3] [] M5)))
) : wL_law d Q 7 [some (.ref a0), some (.ref a1), o2, o3] [] M := zseg (zCl_good gTb d) (fun j => j == 7 || j == 14 || j == 16 || j == 28 || j == 35 || j == 52 || j == 99 || j == 116 || j == 133 || j == 170 || j == 207 || j == 244 || j == 271 || j == 328 || j == 345 || j == 352 || j == 369 || j == 386 || j == 413 || j == 450 || j == 477 || j == 504 || j == 511 || j == 538 || j == 555 || j == 562 || j == 564) 12 h
set_option maxRecDepth 100000 in
set_option maxHeartbeats 4000000 in
/-- from place 14 -/
theorem sg_L_law_14 {d : Nat} {Q : List Value → zM → Prop} (a0 : Nat) (a1 : Nat) (a2 : Nat) (o3 : Option Value) (M : zM) (h :
wL_law d Q 16 [some (.ref a0), some (.ref a1), some (.ref a2), some (.int ((1 : Int32)))] [] M
) : wL_law d Q 14 [some (.ref a0), some (.ref a1), some (.ref a2), o3] [] M := zseg (zCl_good gTb d) (fun j => j == 7 || j == 14 || j == 16 || j == 28 || j == 35 || j == 52 || j == 99 || j == 116 || j == 133 || j == 170 || j == 207 || j == 244 || j == 271 || j == 328 || j == 345 || j == 352 || j == 369 || j == 386 || j == 413 || j == 450 || j == 477 || j == 504 || j == 511 || j == 538 || j == 555 || j == 562 || j == 564) 7 h
set_option maxRecDepth 100000 in
set_option maxHeartbeats 4000000 in
/-- from place 16 -/
theorem sg_L_law_16 {d : Nat} {Q : List Value → zM → Prop} (a0 : Nat) (a1 : Nat) (a2 : Nat) (a3 : Int32) (M : zM) (h :
a0 = 1 ∧ ((((Int32.ofNat (zsh M 1).2) - ((6 : Int32))) < a3 → (wL_law d Q 564 [some (.ref a0), some (.ref a1), some (.ref a2), some (.int a3)] [] M)) ∧ (¬ (((Int32.ofNat (zsh M 1).2) - ((6 : Int32))) < a3) → (a0 = 1 ∧ (zin a3 (zsh M 1).2 ∧ (let v1 : Int32 := (zI M 1 a3.toNatClampNeg) &&& ((31 : Int32))
(v1.toInt = 0 → (wL_law d Q 28 [some (.ref a0), some (.ref a1), some (.ref a2), some (.int a3)] [] M)) ∧ (¬ (v1.toInt = 0) → ((v1.toInt = 1 → (wL_law d Q 35 [some (.ref a0), some (.ref a1), some (.ref a2), some (.int a3)] [] M)) ∧ (¬ (v1.toInt = 1) → ((v1.toInt = 2 → (wL_law d Q 52 [some (.ref a0), some (.ref a1), some (.ref a2), some (.int a3)] [] M)) ∧ (¬ (v1.toInt = 2) → ((v1.toInt = 3 → (wL_law d Q 99 [some (.ref a0), some (.ref a1), some (.ref a2), some (.int a3)] [] M)) ∧ (¬ (v1.toInt = 3) → ((v1.toInt = 4 → (wL_law d Q 116 [some (.ref a0), some (.ref a1), some (.ref a2), some (.int a3)] [] M)) ∧ (¬ (v1.toInt = 4) → ((v1.toInt = 5 → (wL_law d Q 133 [some (.ref a0), some (.ref a1), some (.ref a2), some (.int a3)] [] M)) ∧ (¬ (v1.toInt = 5) → ((v1.toInt = 6 → (wL_law d Q 170 [some (.ref a0), some (.ref a1), some (.ref a2), some (.int a3)] [] M)) ∧ (¬ (v1.toInt = 6) → ((v1.toInt = 7 → (wL_law d Q 207 [some (.ref a0), some (.ref a1), some (.ref a2), some (.int a3)] [] M)) ∧ (¬ (v1.toInt = 7) → ((v1.toInt = 8 → (wL_law d Q 244 [some (.ref a0), some (.ref a1), some (.ref a2), some (.int a3)] [] M)) ∧ (¬ (v1.toInt = 8) → ((v1.toInt = 9 → (wL_law d Q 271 [some (.ref a0), some (.ref a1), some (.ref a2), some (.int a3)] [] M)) ∧ (¬ (v1.toInt = 9) → ((v1.toInt = 10 → (wL_law d Q 328 [some (.ref a0), some (.ref a1), some (.ref a2), some (.int a3)] [] M)) ∧ (¬ (v1.toInt = 10) → ((v1.toInt = 11 → (wL_law d Q 345 [some (.ref a0), some (.ref a1), some (.ref a2), some (.int a3)] [] M)) ∧ (¬ (v1.toInt = 11) → ((v1.toInt = 12 → (wL_law d Q 352 [some (.ref a0), some (.ref a1), some (.ref a2), some (.int a3)] [] M)) ∧ (¬ (v1.toInt = 12) → ((v1.toInt = 13 → (wL_law d Q 369 [some (.ref a0), some (.ref a1), some (.ref a2), some (.int a3)] [] M)) ∧ (¬ (v1.toInt = 13) → ((v1.toInt = 14 → (wL_law d Q 386 [some (.ref a0), some (.ref a1), some (.ref a2), some (.int a3)] [] M)) ∧ (¬ (v1.toInt = 14) → ((v1.toInt = 15 → (wL_law d Q 413 [some (.ref a0), some (.ref a1), some (.ref a2), some (.int a3)] [] M)) ∧ (¬ (v1.toInt = 15) → ((v1.toInt = 16 → (wL_law d Q 450 [some (.ref a0), some (.ref a1), some (.ref a2), some (.int a3)] [] M)) ∧ (¬ (v1.toInt = 16) → ((v1.toInt = 17 → (wL_law d Q 477 [some (.ref a0), some (.ref a1), some (.ref a2), some (.int a3)] [] M)) ∧ (¬ (v1.toInt = 17) → ((v1.toInt = 18 → (wL_law d Q 504 [some (.ref a0), some (.ref a1), some (.ref a2), some (.int a3)] [] M)) ∧ (¬ (v1.toInt = 18) → ((v1.toInt = 19 → (wL_law d Q 511 [some (.ref a0), some (.ref a1), some (.ref a2), some (.int a3)] [] M)) ∧ (¬ (v1.toInt = 19) → ((v1.toInt = 20 → (wL_law d Q 538 [some (.ref a0), some (.ref a1), some (.ref a2), some (.int a3)] [] M)) ∧ (¬ (v1.toInt = 20) → ((v1.toInt = 21 → (wL_law d Q 555 [some (.ref a0), some (.ref a1), some (.ref a2), some (.int a3)] [] M)) ∧ (¬ (v1.toInt = 21) → (wL_law d Q 562 [some (.ref a0), some (.ref a1), some (.ref a2), some (.int a3)] [] M)))))))))))))))))))))))))))))))))))))))))))))))))
) : wL_law d Q 16 [some (.ref a0), some (.ref a1), some (.ref a2), some (.int a3)] [] M := zseg (zCl_good gTb d) (fun j => j == 7 || j == 14 || j == 16 || j == 28 || j == 35 || j == 52 || j == 99 || j == 116 || j == 133 || j == 170 || j == 207 || j == 244 || j == 271 || j == 328 || j == 345 || j == 352 || j == 369 || j == 386 || j == 413 || j == 450 || j == 477 || j == 504 || j == 511 || j == 538 || j == 555 || j == 562 || j == 564) 17 h
set_option maxRecDepth 100000 in
set_option maxHeartbeats 4000000 in
/-- from place 28 -/
theorem sg_L_law_28 {d : Nat} {Q : List Value → zM → Prop} (a0 : Nat) (a1 : Nat) (a2 : Nat) (a3 : Int32) (M : zM) (h :
(zsh M a1).1 = 15 ∧ (ycI d nX7_variables [.ref a1] M fun c2 M1 => ((zsh M1 a2).1 = 16 ∧ (ycI d nX8_variables [.ref a2] M1 fun c4 M3 => ((c2 = c4 → (wL_law d Q 562 [some (.ref a0), some (.ref a1), some (.ref a2), some (.int a3)] [] M3)) ∧ (¬ (c2 = c4) → (zb ((0 : Int32)) ∧ (Q [.int ((0 : Int32))] M3)))))))
) : wL_law d Q 28 [some (.ref a0), some (.ref a1), some (.ref a2), some (.int a3)] [] M := zseg (zCl_good gTb d) (fun j => j == 7 || j == 14 || j == 16 || j == 28 || j == 35 || j == 52 || j == 99 || j == 116 || j == 133 || j == 170 || j == 207 || j == 244 || j == 271 || j == 328 || j == 345 || j == 352 || j == 369 || j == 386 || j == 413 || j == 450 || j == 477 || j == 504 || j == 511 || j == 538 || j == 555 || j == 562 || j == 564) 12 h
set_option maxRecDepth 100000 in
set_option maxHeartbeats 4000000 in
/-- from place 35 -/
theorem sg_L_law_35 {d : Nat} {Q : List Value → zM → Prop} (a0 : Nat) (a1 : Nat) (a2 : Nat) (a3 : Int32) (M : zM) (h :
a0 = 1 ∧ (zin (a3 + ((1 : Int32))) (zsh M 1).2 ∧ ((zsh M a1).1 = 15 ∧ (ycI d nX7_order [.ref a1, .int (zI M 1 (a3 + ((1 : Int32))).toNatClampNeg)] M fun c2 M1 => (a0 = 1 ∧ (zin (a3 + ((1 : Int32))) (zsh M1 1).2 ∧ ((zsh M1 a2).1 = 16 ∧ (ycI d nX8_order [.ref a2, .int (zI M1 1 (a3 + ((1 : Int32))).toNatClampNeg)] M1 fun c4 M3 => ((c2 = c4 → (wL_law d Q 562 [some (.ref a0), some (.ref a1), some (.ref a2), some (.int a3)] [] M3)) ∧ (¬ (c2 = c4) → (zb ((0 : Int32)) ∧ (Q [.int ((0 : Int32))] M3)))))))))))
) : wL_law d Q 35 [some (.ref a0), some (.ref a1), some (.ref a2), some (.int a3)] [] M := zseg (zCl_good gTb d) (fun j => j == 7 || j == 14 || j == 16 || j == 28 || j == 35 || j == 52 || j == 99 || j == 116 || j == 133 || j == 170 || j == 207 || j == 244 || j == 271 || j == 328 || j == 345 || j == 352 || j == 369 || j == 386 || j == 413 || j == 450 || j == 477 || j == 504 || j == 511 || j == 538 || j == 555 || j == 562 || j == 564) 22 h
set_option maxRecDepth 100000 in
set_option maxHeartbeats 4000000 in
/-- from place 52 -/
theorem sg_L_law_52 {d : Nat} {Q : List Value → zM → Prop} (a0 : Nat) (a1 : Nat) (a2 : Nat) (a3 : Int32) (M : zM) (h :
a0 = 1 ∧ (zin (a3 + ((1 : Int32))) (zsh M 1).2 ∧ (a0 = 1 ∧ (zin (a3 + ((2 : Int32))) (zsh M 1).2 ∧ (a0 = 1 ∧ (zin (a3 + ((3 : Int32))) (zsh M 1).2 ∧ (a0 = 1 ∧ (zin (a3 + ((4 : Int32))) (zsh M 1).2 ∧ ((zsh M a1).1 = 15 ∧ (ycI d nX7_term [.ref a1, .int (zI M 1 (a3 + ((1 : Int32))).toNatClampNeg), .int (zI M 1 (a3 + ((2 : Int32))).toNatClampNeg), .int (zI M 1 (a3 + ((3 : Int32))).toNatClampNeg), .int (zI M 1 (a3 + ((4 : Int32))).toNatClampNeg)] M fun c2 M1 => (a0 = 1 ∧ (zin (a3 + ((1 : Int32))) (zsh M1 1).2 ∧ (a0 = 1 ∧ (zin (a3 + ((2 : Int32))) (zsh M1 1).2 ∧ (a0 = 1 ∧ (zin (a3 + ((3 : Int32))) (zsh M1 1).2 ∧ (a0 = 1 ∧ (zin (a3 + ((4 : Int32))) (zsh M1 1).2 ∧ ((zsh M1 a2).1 = 16 ∧ (ycI d nX8_term [.ref a2, .int (zI M1 1 (a3 + ((1 : Int32))).toNatClampNeg), .int (zI M1 1 (a3 + ((2 : Int32))).toNatClampNeg), .int (zI M1 1 (a3 + ((3 : Int32))).toNatClampNeg), .int (zI M1 1 (a3 + ((4 : Int32))).toNatClampNeg)] M1 fun c4 M3 => ((c2 = c4 → (wL_law d Q 562 [some (.ref a0), some (.ref a1), some (.ref a2), some (.int a3)] [] M3)) ∧ (¬ (c2 = c4) → (zb ((0 : Int32)) ∧ (Q [.int ((0 : Int32))] M3)))))))))))))))))))))))
) : wL_law d Q 52 [some (.ref a0), some (.ref a1), some (.ref a2), some (.int a3)] [] M := zseg (zCl_good gTb d) (fun j => j == 7 || j == 14 || j == 16 || j == 28 || j == 35 || j == 52 || j == 99 || j == 116 || j == 133 || j == 170 || j == 207 || j == 244 || j == 271 || j == 328 || j == 345 || j == 352 || j == 369 || j == 386 || j == 413 || j == 450 || j == 477 || j == 504 || j == 511 || j == 538 || j == 555 || j == 562 || j == 564) 52 h
set_option maxRecDepth 100000 in
set_option maxHeartbeats 4000000 in
/-- from place 99 -/
theorem sg_L_law_99 {d : Nat} {Q : List Value → zM → Prop} (a0 : Nat) (a1 : Nat) (a2 : Nat) (a3 : Int32) (M : zM) (h :
a0 = 1 ∧ (zin (a3 + ((1 : Int32))) (zsh M 1).2 ∧ ((zsh M a1).1 = 15 ∧ (ycI d nX7_zero [.ref a1, .int (zI M 1 (a3 + ((1 : Int32))).toNatClampNeg)] M fun c2 M1 => (a0 = 1 ∧ (zin (a3 + ((1 : Int32))) (zsh M1 1).2 ∧ ((zsh M1 a2).1 = 16 ∧ (ycI d nX8_zero [.ref a2, .int (zI M1 1 (a3 + ((1 : Int32))).toNatClampNeg)] M1 fun c4 M3 => ((c2 = c4 → (wL_law d Q 562 [some (.ref a0), some (.ref a1), some (.ref a2), some (.int a3)] [] M3)) ∧ (¬ (c2 = c4) → (zb ((0 : Int32)) ∧ (Q [.int ((0 : Int32))] M3)))))))))))
) : wL_law d Q 99 [some (.ref a0), some (.ref a1), some (.ref a2), some (.int a3)] [] M := zseg (zCl_good gTb d) (fun j => j == 7 || j == 14 || j == 16 || j == 28 || j == 35 || j == 52 || j == 99 || j == 116 || j == 133 || j == 170 || j == 207 || j == 244 || j == 271 || j == 328 || j == 345 || j == 352 || j == 369 || j == 386 || j == 413 || j == 450 || j == 477 || j == 504 || j == 511 || j == 538 || j == 555 || j == 562 || j == 564) 22 h
set_option maxRecDepth 100000 in
set_option maxHeartbeats 4000000 in
/-- from place 116 -/
theorem sg_L_law_116 {d : Nat} {Q : List Value → zM → Prop} (a0 : Nat) (a1 : Nat) (a2 : Nat) (a3 : Int32) (M : zM) (h :
a0 = 1 ∧ (zin (a3 + ((1 : Int32))) (zsh M 1).2 ∧ ((zsh M a1).1 = 15 ∧ (ycI d nX7_size [.ref a1, .int (zI M 1 (a3 + ((1 : Int32))).toNatClampNeg)] M fun c2 M1 => (a0 = 1 ∧ (zin (a3 + ((1 : Int32))) (zsh M1 1).2 ∧ ((zsh M1 a2).1 = 16 ∧ (ycI d nX8_size [.ref a2, .int (zI M1 1 (a3 + ((1 : Int32))).toNatClampNeg)] M1 fun c4 M3 => ((c2 = c4 → (wL_law d Q 562 [some (.ref a0), some (.ref a1), some (.ref a2), some (.int a3)] [] M3)) ∧ (¬ (c2 = c4) → (zb ((0 : Int32)) ∧ (Q [.int ((0 : Int32))] M3)))))))))))
) : wL_law d Q 116 [some (.ref a0), some (.ref a1), some (.ref a2), some (.int a3)] [] M := zseg (zCl_good gTb d) (fun j => j == 7 || j == 14 || j == 16 || j == 28 || j == 35 || j == 52 || j == 99 || j == 116 || j == 133 || j == 170 || j == 207 || j == 244 || j == 271 || j == 328 || j == 345 || j == 352 || j == 369 || j == 386 || j == 413 || j == 450 || j == 477 || j == 504 || j == 511 || j == 538 || j == 555 || j == 562 || j == 564) 22 h
set_option maxRecDepth 100000 in
set_option maxHeartbeats 4000000 in
/-- from place 133 -/
theorem sg_L_law_133 {d : Nat} {Q : List Value → zM → Prop} (a0 : Nat) (a1 : Nat) (a2 : Nat) (a3 : Int32) (M : zM) (h :
a0 = 1 ∧ (zin (a3 + ((1 : Int32))) (zsh M 1).2 ∧ (a0 = 1 ∧ (zin (a3 + ((2 : Int32))) (zsh M 1).2 ∧ (a0 = 1 ∧ (zin (a3 + ((3 : Int32))) (zsh M 1).2 ∧ ((zsh M a1).1 = 15 ∧ (ycI d nX7_told [.ref a1, .int (zI M 1 (a3 + ((1 : Int32))).toNatClampNeg), .int (zI M 1 (a3 + ((2 : Int32))).toNatClampNeg), .int (zI M 1 (a3 + ((3 : Int32))).toNatClampNeg)] M fun c2 M1 => (a0 = 1 ∧ (zin (a3 + ((1 : Int32))) (zsh M1 1).2 ∧ (a0 = 1 ∧ (zin (a3 + ((2 : Int32))) (zsh M1 1).2 ∧ (a0 = 1 ∧ (zin (a3 + ((3 : Int32))) (zsh M1 1).2 ∧ ((zsh M1 a2).1 = 16 ∧ (ycI d nX8_told [.ref a2, .int (zI M1 1 (a3 + ((1 : Int32))).toNatClampNeg), .int (zI M1 1 (a3 + ((2 : Int32))).toNatClampNeg), .int (zI M1 1 (a3 + ((3 : Int32))).toNatClampNeg)] M1 fun c4 M3 => ((c2 = c4 → (wL_law d Q 562 [some (.ref a0), some (.ref a1), some (.ref a2), some (.int a3)] [] M3)) ∧ (¬ (c2 = c4) → (zb ((0 : Int32)) ∧ (Q [.int ((0 : Int32))] M3)))))))))))))))))))
) : wL_law d Q 133 [some (.ref a0), some (.ref a1), some (.ref a2), some (.int a3)] [] M := zseg (zCl_good gTb d) (fun j => j == 7 || j == 14 || j == 16 || j == 28 || j == 35 || j == 52 || j == 99 || j == 116 || j == 133 || j == 170 || j == 207 || j == 244 || j == 271 || j == 328 || j == 345 || j == 352 || j == 369 || j == 386 || j == 413 || j == 450 || j == 477 || j == 504 || j == 511 || j == 538 || j == 555 || j == 562 || j == 564) 42 h
set_option maxRecDepth 100000 in
set_option maxHeartbeats 4000000 in
/-- from place 170 -/
theorem sg_L_law_170 {d : Nat} {Q : List Value → zM → Prop} (a0 : Nat) (a1 : Nat) (a2 : Nat) (a3 : Int32) (M : zM) (h :
a0 = 1 ∧ (zin (a3 + ((1 : Int32))) (zsh M 1).2 ∧ (a0 = 1 ∧ (zin (a3 + ((2 : Int32))) (zsh M 1).2 ∧ (a0 = 1 ∧ (zin (a3 + ((3 : Int32))) (zsh M 1).2 ∧ ((zsh M a1).1 = 15 ∧ (ycI d nX7_plus [.ref a1, .int (zI M 1 (a3 + ((1 : Int32))).toNatClampNeg), .int (zI M 1 (a3 + ((2 : Int32))).toNatClampNeg), .int (zI M 1 (a3 + ((3 : Int32))).toNatClampNeg)] M fun c2 M1 => (a0 = 1 ∧ (zin (a3 + ((1 : Int32))) (zsh M1 1).2 ∧ (a0 = 1 ∧ (zin (a3 + ((2 : Int32))) (zsh M1 1).2 ∧ (a0 = 1 ∧ (zin (a3 + ((3 : Int32))) (zsh M1 1).2 ∧ ((zsh M1 a2).1 = 16 ∧ (ycI d nX8_plus [.ref a2, .int (zI M1 1 (a3 + ((1 : Int32))).toNatClampNeg), .int (zI M1 1 (a3 + ((2 : Int32))).toNatClampNeg), .int (zI M1 1 (a3 + ((3 : Int32))).toNatClampNeg)] M1 fun c4 M3 => ((c2 = c4 → (wL_law d Q 562 [some (.ref a0), some (.ref a1), some (.ref a2), some (.int a3)] [] M3)) ∧ (¬ (c2 = c4) → (zb ((0 : Int32)) ∧ (Q [.int ((0 : Int32))] M3)))))))))))))))))))
) : wL_law d Q 170 [some (.ref a0), some (.ref a1), some (.ref a2), some (.int a3)] [] M := zseg (zCl_good gTb d) (fun j => j == 7 || j == 14 || j == 16 || j == 28 || j == 35 || j == 52 || j == 99 || j == 116 || j == 133 || j == 170 || j == 207 || j == 244 || j == 271 || j == 328 || j == 345 || j == 352 || j == 369 || j == 386 || j == 413 || j == 450 || j == 477 || j == 504 || j == 511 || j == 538 || j == 555 || j == 562 || j == 564) 42 h
set_option maxRecDepth 100000 in
set_option maxHeartbeats 4000000 in
/-- from place 207 -/
theorem sg_L_law_207 {d : Nat} {Q : List Value → zM → Prop} (a0 : Nat) (a1 : Nat) (a2 : Nat) (a3 : Int32) (M : zM) (h :
a0 = 1 ∧ (zin (a3 + ((1 : Int32))) (zsh M 1).2 ∧ (a0 = 1 ∧ (zin (a3 + ((2 : Int32))) (zsh M 1).2 ∧ (a0 = 1 ∧ (zin (a3 + ((3 : Int32))) (zsh M 1).2 ∧ ((zsh M a1).1 = 15 ∧ (ycI d nX7_times [.ref a1, .int (zI M 1 (a3 + ((1 : Int32))).toNatClampNeg), .int (zI M 1 (a3 + ((2 : Int32))).toNatClampNeg), .int (zI M 1 (a3 + ((3 : Int32))).toNatClampNeg)] M fun c2 M1 => (a0 = 1 ∧ (zin (a3 + ((1 : Int32))) (zsh M1 1).2 ∧ (a0 = 1 ∧ (zin (a3 + ((2 : Int32))) (zsh M1 1).2 ∧ (a0 = 1 ∧ (zin (a3 + ((3 : Int32))) (zsh M1 1).2 ∧ ((zsh M1 a2).1 = 16 ∧ (ycI d nX8_times [.ref a2, .int (zI M1 1 (a3 + ((1 : Int32))).toNatClampNeg), .int (zI M1 1 (a3 + ((2 : Int32))).toNatClampNeg), .int (zI M1 1 (a3 + ((3 : Int32))).toNatClampNeg)] M1 fun c4 M3 => ((c2 = c4 → (wL_law d Q 562 [some (.ref a0), some (.ref a1), some (.ref a2), some (.int a3)] [] M3)) ∧ (¬ (c2 = c4) → (zb ((0 : Int32)) ∧ (Q [.int ((0 : Int32))] M3)))))))))))))))))))
) : wL_law d Q 207 [some (.ref a0), some (.ref a1), some (.ref a2), some (.int a3)] [] M := zseg (zCl_good gTb d) (fun j => j == 7 || j == 14 || j == 16 || j == 28 || j == 35 || j == 52 || j == 99 || j == 116 || j == 133 || j == 170 || j == 207 || j == 244 || j == 271 || j == 328 || j == 345 || j == 352 || j == 369 || j == 386 || j == 413 || j == 450 || j == 477 || j == 504 || j == 511 || j == 538 || j == 555 || j == 562 || j == 564) 42 h
set_option maxRecDepth 100000 in
set_option maxHeartbeats 4000000 in
/-- from place 244 -/
theorem sg_L_law_244 {d : Nat} {Q : List Value → zM → Prop} (a0 : Nat) (a1 : Nat) (a2 : Nat) (a3 : Int32) (M : zM) (h :
a0 = 1 ∧ (zin (a3 + ((1 : Int32))) (zsh M 1).2 ∧ (a0 = 1 ∧ (zin (a3 + ((2 : Int32))) (zsh M 1).2 ∧ ((zsh M a1).1 = 15 ∧ (ycI d nX7_same [.ref a1, .int (zI M 1 (a3 + ((1 : Int32))).toNatClampNeg), .int (zI M 1 (a3 + ((2 : Int32))).toNatClampNeg)] M fun c2 M1 => (a0 = 1 ∧ (zin (a3 + ((1 : Int32))) (zsh M1 1).2 ∧ (a0 = 1 ∧ (zin (a3 + ((2 : Int32))) (zsh M1 1).2 ∧ ((zsh M1 a2).1 = 16 ∧ (ycI d nX8_same [.ref a2, .int (zI M1 1 (a3 + ((1 : Int32))).toNatClampNeg), .int (zI M1 1 (a3 + ((2 : Int32))).toNatClampNeg)] M1 fun c4 M3 => ((c2 = c4 → (wL_law d Q 562 [some (.ref a0), some (.ref a1), some (.ref a2), some (.int a3)] [] M3)) ∧ (¬ (c2 = c4) → (zb ((0 : Int32)) ∧ (Q [.int ((0 : Int32))] M3)))))))))))))))
) : wL_law d Q 244 [some (.ref a0), some (.ref a1), some (.ref a2), some (.int a3)] [] M := zseg (zCl_good gTb d) (fun j => j == 7 || j == 14 || j == 16 || j == 28 || j == 35 || j == 52 || j == 99 || j == 116 || j == 133 || j == 170 || j == 207 || j == 244 || j == 271 || j == 328 || j == 345 || j == 352 || j == 369 || j == 386 || j == 413 || j == 450 || j == 477 || j == 504 || j == 511 || j == 538 || j == 555 || j == 562 || j == 564) 32 h
set_option maxRecDepth 100000 in
set_option maxHeartbeats 4000000 in
/-- from place 271 -/
theorem sg_L_law_271 {d : Nat} {Q : List Value → zM → Prop} (a0 : Nat) (a1 : Nat) (a2 : Nat) (a3 : Int32) (M : zM) (h :
a0 = 1 ∧ (zin (a3 + ((1 : Int32))) (zsh M 1).2 ∧ (a0 = 1 ∧ (zin (a3 + ((2 : Int32))) (zsh M 1).2 ∧ (a0 = 1 ∧ (zin (a3 + ((3 : Int32))) (zsh M 1).2 ∧ (a0 = 1 ∧ (zin (a3 + ((4 : Int32))) (zsh M 1).2 ∧ (a0 = 1 ∧ (zin (a3 + ((5 : Int32))) (zsh M 1).2 ∧ ((zsh M a1).1 = 15 ∧ (ycI d nX7_vanishes [.ref a1, .int (zI M 1 (a3 + ((1 : Int32))).toNatClampNeg), .int (zI M 1 (a3 + ((2 : Int32))).toNatClampNeg), .int (zI M 1 (a3 + ((3 : Int32))).toNatClampNeg), .int (zI M 1 (a3 + ((4 : Int32))).toNatClampNeg), .int (zI M 1 (a3 + ((5 : Int32))).toNatClampNeg)] M fun c2 M1 => (a0 = 1 ∧ (zin (a3 + ((1 : Int32))) (zsh M1 1).2 ∧ (a0 = 1 ∧ (zin (a3 + ((2 : Int32))) (zsh M1 1).2 ∧ (a0 = 1 ∧ (zin (a3 + ((3 : Int32))) (zsh M1 1).2 ∧ (a0 = 1 ∧ (zin (a3 + ((4 : Int32))) (zsh M1 1).2 ∧ (a0 = 1 ∧ (zin (a3 + ((5 : Int32))) (zsh M1 1).2 ∧ ((zsh M1 a2).1 = 16 ∧ (ycI d nX8_vanishes [.ref a2, .int (zI M1 1 (a3 + ((1 : Int32))).toNatClampNeg), .int (zI M1 1 (a3 + ((2 : Int32))).toNatClampNeg), .int (zI M1 1 (a3 + ((3 : Int32))).toNatClampNeg), .int (zI M1 1 (a3 + ((4 : Int32))).toNatClampNeg), .int (zI M1 1 (a3 + ((5 : Int32))).toNatClampNeg)] M1 fun c4 M3 => ((c2 = c4 → (wL_law d Q 562 [some (.ref a0), some (.ref a1), some (.ref a2), some (.int a3)] [] M3)) ∧ (¬ (c2 = c4) → (zb ((0 : Int32)) ∧ (Q [.int ((0 : Int32))] M3)))))))))))))))))))))))))))
) : wL_law d Q 271 [some (.ref a0), some (.ref a1), some (.ref a2), some (.int a3)] [] M := zseg (zCl_good gTb d) (fun j => j == 7 || j == 14 || j == 16 || j == 28 || j == 35 || j == 52 || j == 99 || j == 116 || j == 133 || j == 170 || j == 207 || j == 244 || j == 271 || j == 328 || j == 345 || j == 352 || j == 369 || j == 386 || j == 413 || j == 450 || j == 477 || j == 504 || j == 511 || j == 538 || j == 555 || j == 562 || j == 564) 62 h
set_option maxRecDepth 100000 in
set_option maxHeartbeats 4000000 in
/-- from place 328 -/
theorem sg_L_law_328 {d : Nat} {Q : List Value → zM → Prop} (a0 : Nat) (a1 : Nat) (a2 : Nat) (a3 : Int32) (M : zM) (h :
a0 = 1 ∧ (zin (a3 + ((1 : Int32))) (zsh M 1).2 ∧ ((zsh M a1).1 = 15 ∧ (ycI d nX7_generator [.ref a1, .int (zI M 1 (a3 + ((1 : Int32))).toNatClampNeg)] M fun c2 M1 => (a0 = 1 ∧ (zin (a3 + ((1 : Int32))) (zsh M1 1).2 ∧ ((zsh M1 a2).1 = 16 ∧ (ycI d nX8_generator [.ref a2, .int (zI M1 1 (a3 + ((1 : Int32))).toNatClampNeg)] M1 fun c4 M3 => ((c2 = c4 → (wL_law d Q 562 [some (.ref a0), some (.ref a1), some (.ref a2), some (.int a3)] [] M3)) ∧ (¬ (c2 = c4) → (zb ((0 : Int32)) ∧ (Q [.int ((0 : Int32))] M3)))))))))))
) : wL_law d Q 328 [some (.ref a0), some (.ref a1), some (.ref a2), some (.int a3)] [] M := zseg (zCl_good gTb d) (fun j => j == 7 || j == 14 || j == 16 || j == 28 || j == 35 || j == 52 || j == 99 || j == 116 || j == 133 || j == 170 || j == 207 || j == 244 || j == 271 || j == 328 || j == 345 || j == 352 || j == 369 || j == 386 || j == 413 || j == 450 || j == 477 || j == 504 || j == 511 || j == 538 || j == 555 || j == 562 || j == 564) 22 h
set_option maxRecDepth 100000 in
set_option maxHeartbeats 4000000 in
/-- from place 345 -/
theorem sg_L_law_345 {d : Nat} {Q : List Value → zM → Prop} (a0 : Nat) (a1 : Nat) (a2 : Nat) (a3 : Int32) (M : zM) (h :
(zsh M a1).1 = 15 ∧ (ycI d nX7_clear [.ref a1] M fun c2 M1 => ((zsh M1 a2).1 = 16 ∧ (ycI d nX8_clear [.ref a2] M1 fun c4 M3 => ((c2 = c4 → (wL_law d Q 562 [some (.ref a0), some (.ref a1), some (.ref a2), some (.int a3)] [] M3)) ∧ (¬ (c2 = c4) → (zb ((0 : Int32)) ∧ (Q [.int ((0 : Int32))] M3)))))))
) : wL_law d Q 345 [some (.ref a0), some (.ref a1), some (.ref a2), some (.int a3)] [] M := zseg (zCl_good gTb d) (fun j => j == 7 || j == 14 || j == 16 || j == 28 || j == 35 || j == 52 || j == 99 || j == 116 || j == 133 || j == 170 || j == 207 || j == 244 || j == 271 || j == 328 || j == 345 || j == 352 || j == 369 || j == 386 || j == 413 || j == 450 || j == 477 || j == 504 || j == 511 || j == 538 || j == 555 || j == 562 || j == 564) 12 h
set_option maxRecDepth 100000 in
set_option maxHeartbeats 4000000 in
/-- from place 352 -/
theorem sg_L_law_352 {d : Nat} {Q : List Value → zM → Prop} (a0 : Nat) (a1 : Nat) (a2 : Nat) (a3 : Int32) (M : zM) (h :
a0 = 1 ∧ (zin (a3 + ((1 : Int32))) (zsh M 1).2 ∧ ((zsh M a1).1 = 15 ∧ (ycI d nX7_basis [.ref a1, .int (zI M 1 (a3 + ((1 : Int32))).toNatClampNeg)] M fun c2 M1 => (a0 = 1 ∧ (zin (a3 + ((1 : Int32))) (zsh M1 1).2 ∧ ((zsh M1 a2).1 = 16 ∧ (ycI d nX8_basis [.ref a2, .int (zI M1 1 (a3 + ((1 : Int32))).toNatClampNeg)] M1 fun c4 M3 => ((c2 = c4 → (wL_law d Q 562 [some (.ref a0), some (.ref a1), some (.ref a2), some (.int a3)] [] M3)) ∧ (¬ (c2 = c4) → (zb ((0 : Int32)) ∧ (Q [.int ((0 : Int32))] M3)))))))))))
) : wL_law d Q 352 [some (.ref a0), some (.ref a1), some (.ref a2), some (.int a3)] [] M := zseg (zCl_good gTb d) (fun j => j == 7 || j == 14 || j == 16 || j == 28 || j == 35 || j == 52 || j == 99 || j == 116 || j == 133 || j == 170 || j == 207 || j == 244 || j == 271 || j == 328 || j == 345 || j == 352 || j == 369 || j == 386 || j == 413 || j == 450 || j == 477 || j == 504 || j == 511 || j == 538 || j == 555 || j == 562 || j == 564) 22 h
set_option maxRecDepth 100000 in
set_option maxHeartbeats 4000000 in
/-- from place 369 -/
theorem sg_L_law_369 {d : Nat} {Q : List Value → zM → Prop} (a0 : Nat) (a1 : Nat) (a2 : Nat) (a3 : Int32) (M : zM) (h :
a0 = 1 ∧ (zin (a3 + ((1 : Int32))) (zsh M 1).2 ∧ ((zsh M a1).1 = 15 ∧ (ycI d nX7_done [.ref a1, .int (zI M 1 (a3 + ((1 : Int32))).toNatClampNeg)] M fun c2 M1 => (a0 = 1 ∧ (zin (a3 + ((1 : Int32))) (zsh M1 1).2 ∧ ((zsh M1 a2).1 = 16 ∧ (ycI d nX8_done [.ref a2, .int (zI M1 1 (a3 + ((1 : Int32))).toNatClampNeg)] M1 fun c4 M3 => ((c2 = c4 → (wL_law d Q 562 [some (.ref a0), some (.ref a1), some (.ref a2), some (.int a3)] [] M3)) ∧ (¬ (c2 = c4) → (zb ((0 : Int32)) ∧ (Q [.int ((0 : Int32))] M3)))))))))))
) : wL_law d Q 369 [some (.ref a0), some (.ref a1), some (.ref a2), some (.int a3)] [] M := zseg (zCl_good gTb d) (fun j => j == 7 || j == 14 || j == 16 || j == 28 || j == 35 || j == 52 || j == 99 || j == 116 || j == 133 || j == 170 || j == 207 || j == 244 || j == 271 || j == 328 || j == 345 || j == 352 || j == 369 || j == 386 || j == 413 || j == 450 || j == 477 || j == 504 || j == 511 || j == 538 || j == 555 || j == 562 || j == 564) 22 h
set_option maxRecDepth 100000 in
set_option maxHeartbeats 4000000 in
/-- from place 386 -/
theorem sg_L_law_386 {d : Nat} {Q : List Value → zM → Prop} (a0 : Nat) (a1 : Nat) (a2 : Nat) (a3 : Int32) (M : zM) (h :
a0 = 1 ∧ (zin (a3 + ((1 : Int32))) (zsh M 1).2 ∧ (a0 = 1 ∧ (zin (a3 + ((2 : Int32))) (zsh M 1).2 ∧ ((zsh M a1).1 = 15 ∧ (ycI d nX7_element [.ref a1, .int (zI M 1 (a3 + ((1 : Int32))).toNatClampNeg), .int (zI M 1 (a3 + ((2 : Int32))).toNatClampNeg)] M fun c2 M1 => (a0 = 1 ∧ (zin (a3 + ((1 : Int32))) (zsh M1 1).2 ∧ (a0 = 1 ∧ (zin (a3 + ((2 : Int32))) (zsh M1 1).2 ∧ ((zsh M1 a2).1 = 16 ∧ (ycI d nX8_element [.ref a2, .int (zI M1 1 (a3 + ((1 : Int32))).toNatClampNeg), .int (zI M1 1 (a3 + ((2 : Int32))).toNatClampNeg)] M1 fun c4 M3 => ((c2 = c4 → (wL_law d Q 562 [some (.ref a0), some (.ref a1), some (.ref a2), some (.int a3)] [] M3)) ∧ (¬ (c2 = c4) → (zb ((0 : Int32)) ∧ (Q [.int ((0 : Int32))] M3)))))))))))))))
) : wL_law d Q 386 [some (.ref a0), some (.ref a1), some (.ref a2), some (.int a3)] [] M := zseg (zCl_good gTb d) (fun j => j == 7 || j == 14 || j == 16 || j == 28 || j == 35 || j == 52 || j == 99 || j == 116 || j == 133 || j == 170 || j == 207 || j == 244 || j == 271 || j == 328 || j == 345 || j == 352 || j == 369 || j == 386 || j == 413 || j == 450 || j == 477 || j == 504 || j == 511 || j == 538 || j == 555 || j == 562 || j == 564) 32 h
set_option maxRecDepth 100000 in
set_option maxHeartbeats 4000000 in
/-- from place 413 -/
theorem sg_L_law_413 {d : Nat} {Q : List Value → zM → Prop} (a0 : Nat) (a1 : Nat) (a2 : Nat) (a3 : Int32) (M : zM) (h :
a0 = 1 ∧ (zin (a3 + ((1 : Int32))) (zsh M 1).2 ∧ (a0 = 1 ∧ (zin (a3 + ((2 : Int32))) (zsh M 1).2 ∧ (a0 = 1 ∧ (zin (a3 + ((3 : Int32))) (zsh M 1).2 ∧ ((zsh M a1).1 = 15 ∧ (ycI d nX7_share [.ref a1, .int (zI M 1 (a3 + ((1 : Int32))).toNatClampNeg), .int (zI M 1 (a3 + ((2 : Int32))).toNatClampNeg), .int (zI M 1 (a3 + ((3 : Int32))).toNatClampNeg)] M fun c2 M1 => (a0 = 1 ∧ (zin (a3 + ((1 : Int32))) (zsh M1 1).2 ∧ (a0 = 1 ∧ (zin (a3 + ((2 : Int32))) (zsh M1 1).2 ∧ (a0 = 1 ∧ (zin (a3 + ((3 : Int32))) (zsh M1 1).2 ∧ ((zsh M1 a2).1 = 16 ∧ (ycI d nX8_share [.ref a2, .int (zI M1 1 (a3 + ((1 : Int32))).toNatClampNeg), .int (zI M1 1 (a3 + ((2 : Int32))).toNatClampNeg), .int (zI M1 1 (a3 + ((3 : Int32))).toNatClampNeg)] M1 fun c4 M3 => ((c2 = c4 → (wL_law d Q 562 [some (.ref a0), some (.ref a1), some (.ref a2), some (.int a3)] [] M3)) ∧ (¬ (c2 = c4) → (zb ((0 : Int32)) ∧ (Q [.int ((0 : Int32))] M3)))))))))))))))))))
) : wL_law d Q 413 [some (.ref a0), some (.ref a1), some (.ref a2), some (.int a3)] [] M := zseg (zCl_good gTb d) (fun j => j == 7 || j == 14 || j == 16 || j == 28 || j == 35 || j == 52 || j == 99 || j == 116 || j == 133 || j == 170 || j == 207 || j == 244 || j == 271 || j == 328 || j == 345 || j == 352 || j == 369 || j == 386 || j == 413 || j == 450 || j == 477 || j == 504 || j == 511 || j == 538 || j == 555 || j == 562 || j == 564) 42 h
set_option maxRecDepth 100000 in
set_option maxHeartbeats 4000000 in
/-- from place 450 -/
theorem sg_L_law_450 {d : Nat} {Q : List Value → zM → Prop} (a0 : Nat) (a1 : Nat) (a2 : Nat) (a3 : Int32) (M : zM) (h :
a0 = 1 ∧ (zin (a3 + ((1 : Int32))) (zsh M 1).2 ∧ (a0 = 1 ∧ (zin (a3 + ((2 : Int32))) (zsh M 1).2 ∧ ((zsh M a1).1 = 15 ∧ (ycI d nX7_divide [.ref a1, .int (zI M 1 (a3 + ((1 : Int32))).toNatClampNeg), .int (zI M 1 (a3 + ((2 : Int32))).toNatClampNeg)] M fun c2 M1 => (a0 = 1 ∧ (zin (a3 + ((1 : Int32))) (zsh M1 1).2 ∧ (a0 = 1 ∧ (zin (a3 + ((2 : Int32))) (zsh M1 1).2 ∧ ((zsh M1 a2).1 = 16 ∧ (ycI d nX8_divide [.ref a2, .int (zI M1 1 (a3 + ((1 : Int32))).toNatClampNeg), .int (zI M1 1 (a3 + ((2 : Int32))).toNatClampNeg)] M1 fun c4 M3 => ((c2 = c4 → (wL_law d Q 562 [some (.ref a0), some (.ref a1), some (.ref a2), some (.int a3)] [] M3)) ∧ (¬ (c2 = c4) → (zb ((0 : Int32)) ∧ (Q [.int ((0 : Int32))] M3)))))))))))))))
) : wL_law d Q 450 [some (.ref a0), some (.ref a1), some (.ref a2), some (.int a3)] [] M := zseg (zCl_good gTb d) (fun j => j == 7 || j == 14 || j == 16 || j == 28 || j == 35 || j == 52 || j == 99 || j == 116 || j == 133 || j == 170 || j == 207 || j == 244 || j == 271 || j == 328 || j == 345 || j == 352 || j == 369 || j == 386 || j == 413 || j == 450 || j == 477 || j == 504 || j == 511 || j == 538 || j == 555 || j == 562 || j == 564) 32 h
set_option maxRecDepth 100000 in
set_option maxHeartbeats 4000000 in
/-- from place 477 -/
theorem sg_L_law_477 {d : Nat} {Q : List Value → zM → Prop} (a0 : Nat) (a1 : Nat) (a2 : Nat) (a3 : Int32) (M : zM) (h :
a0 = 1 ∧ (zin (a3 + ((1 : Int32))) (zsh M 1).2 ∧ (a0 = 1 ∧ (zin (a3 + ((2 : Int32))) (zsh M 1).2 ∧ ((zsh M a1).1 = 15 ∧ (ycI d nX7_certificate [.ref a1, .int (zI M 1 (a3 + ((1 : Int32))).toNatClampNeg), .int (zI M 1 (a3 + ((2 : Int32))).toNatClampNeg)] M fun c2 M1 => (a0 = 1 ∧ (zin (a3 + ((1 : Int32))) (zsh M1 1).2 ∧ (a0 = 1 ∧ (zin (a3 + ((2 : Int32))) (zsh M1 1).2 ∧ ((zsh M1 a2).1 = 16 ∧ (ycI d nX8_certificate [.ref a2, .int (zI M1 1 (a3 + ((1 : Int32))).toNatClampNeg), .int (zI M1 1 (a3 + ((2 : Int32))).toNatClampNeg)] M1 fun c4 M3 => ((c2 = c4 → (wL_law d Q 562 [some (.ref a0), some (.ref a1), some (.ref a2), some (.int a3)] [] M3)) ∧ (¬ (c2 = c4) → (zb ((0 : Int32)) ∧ (Q [.int ((0 : Int32))] M3)))))))))))))))
) : wL_law d Q 477 [some (.ref a0), some (.ref a1), some (.ref a2), some (.int a3)] [] M := zseg (zCl_good gTb d) (fun j => j == 7 || j == 14 || j == 16 || j == 28 || j == 35 || j == 52 || j == 99 || j == 116 || j == 133 || j == 170 || j == 207 || j == 244 || j == 271 || j == 328 || j == 345 || j == 352 || j == 369 || j == 386 || j == 413 || j == 450 || j == 477 || j == 504 || j == 511 || j == 538 || j == 555 || j == 562 || j == 564) 32 h
set_option maxRecDepth 100000 in
set_option maxHeartbeats 4000000 in
/-- from place 504 -/
theorem sg_L_law_504 {d : Nat} {Q : List Value → zM → Prop} (a0 : Nat) (a1 : Nat) (a2 : Nat) (a3 : Int32) (M : zM) (h :
(zsh M a1).1 = 15 ∧ (ycI d nX7_check [.ref a1] M fun c2 M1 => ((zsh M1 a2).1 = 16 ∧ (ycI d nX8_check [.ref a2] M1 fun c4 M3 => ((c2 = c4 → (wL_law d Q 562 [some (.ref a0), some (.ref a1), some (.ref a2), some (.int a3)] [] M3)) ∧ (¬ (c2 = c4) → (zb ((0 : Int32)) ∧ (Q [.int ((0 : Int32))] M3)))))))
) : wL_law d Q 504 [some (.ref a0), some (.ref a1), some (.ref a2), some (.int a3)] [] M := zseg (zCl_good gTb d) (fun j => j == 7 || j == 14 || j == 16 || j == 28 || j == 35 || j == 52 || j == 99 || j == 116 || j == 133 || j == 170 || j == 207 || j == 244 || j == 271 || j == 328 || j == 345 || j == 352 || j == 369 || j == 386 || j == 413 || j == 450 || j == 477 || j == 504 || j == 511 || j == 538 || j == 555 || j == 562 || j == 564) 12 h
set_option maxRecDepth 100000 in
set_option maxHeartbeats 4000000 in
/-- from place 511 -/
theorem sg_L_law_511 {d : Nat} {Q : List Value → zM → Prop} (a0 : Nat) (a1 : Nat) (a2 : Nat) (a3 : Int32) (M : zM) (h :
a0 = 1 ∧ (zin (a3 + ((1 : Int32))) (zsh M 1).2 ∧ (a0 = 1 ∧ (zin (a3 + ((2 : Int32))) (zsh M 1).2 ∧ ((zsh M a1).1 = 15 ∧ (ycI d nX7_radical [.ref a1, .int (zI M 1 (a3 + ((1 : Int32))).toNatClampNeg), .int (zI M 1 (a3 + ((2 : Int32))).toNatClampNeg)] M fun c2 M1 => (a0 = 1 ∧ (zin (a3 + ((1 : Int32))) (zsh M1 1).2 ∧ (a0 = 1 ∧ (zin (a3 + ((2 : Int32))) (zsh M1 1).2 ∧ ((zsh M1 a2).1 = 16 ∧ (ycI d nX8_radical [.ref a2, .int (zI M1 1 (a3 + ((1 : Int32))).toNatClampNeg), .int (zI M1 1 (a3 + ((2 : Int32))).toNatClampNeg)] M1 fun c4 M3 => ((c2 = c4 → (wL_law d Q 562 [some (.ref a0), some (.ref a1), some (.ref a2), some (.int a3)] [] M3)) ∧ (¬ (c2 = c4) → (zb ((0 : Int32)) ∧ (Q [.int ((0 : Int32))] M3)))))))))))))))
) : wL_law d Q 511 [some (.ref a0), some (.ref a1), some (.ref a2), some (.int a3)] [] M := zseg (zCl_good gTb d) (fun j => j == 7 || j == 14 || j == 16 || j == 28 || j == 35 || j == 52 || j == 99 || j == 116 || j == 133 || j == 170 || j == 207 || j == 244 || j == 271 || j == 328 || j == 345 || j == 352 || j == 369 || j == 386 || j == 413 || j == 450 || j == 477 || j == 504 || j == 511 || j == 538 || j == 555 || j == 562 || j == 564) 32 h
set_option maxRecDepth 100000 in
set_option maxHeartbeats 4000000 in
/-- from place 538 -/
theorem sg_L_law_538 {d : Nat} {Q : List Value → zM → Prop} (a0 : Nat) (a1 : Nat) (a2 : Nat) (a3 : Int32) (M : zM) (h :
a0 = 1 ∧ (zin (a3 + ((1 : Int32))) (zsh M 1).2 ∧ ((zsh M a1).1 = 15 ∧ (ycI d nX7_free [.ref a1, .int (zI M 1 (a3 + ((1 : Int32))).toNatClampNeg)] M fun c2 M1 => (a0 = 1 ∧ (zin (a3 + ((1 : Int32))) (zsh M1 1).2 ∧ ((zsh M1 a2).1 = 16 ∧ (ycI d nX8_free [.ref a2, .int (zI M1 1 (a3 + ((1 : Int32))).toNatClampNeg)] M1 fun c4 M3 => ((c2 = c4 → (wL_law d Q 562 [some (.ref a0), some (.ref a1), some (.ref a2), some (.int a3)] [] M3)) ∧ (¬ (c2 = c4) → (zb ((0 : Int32)) ∧ (Q [.int ((0 : Int32))] M3)))))))))))
) : wL_law d Q 538 [some (.ref a0), some (.ref a1), some (.ref a2), some (.int a3)] [] M := zseg (zCl_good gTb d) (fun j => j == 7 || j == 14 || j == 16 || j == 28 || j == 35 || j == 52 || j == 99 || j == 116 || j == 133 || j == 170 || j == 207 || j == 244 || j == 271 || j == 328 || j == 345 || j == 352 || j == 369 || j == 386 || j == 413 || j == 450 || j == 477 || j == 504 || j == 511 || j == 538 || j == 555 || j == 562 || j == 564) 22 h
set_option maxRecDepth 100000 in
set_option maxHeartbeats 4000000 in
/-- from place 555 -/
theorem sg_L_law_555 {d : Nat} {Q : List Value → zM → Prop} (a0 : Nat) (a1 : Nat) (a2 : Nat) (a3 : Int32) (M : zM) (h :
(zsh M a1).1 = 15 ∧ (ycI d nX7_stairs [.ref a1] M fun c2 M1 => ((zsh M1 a2).1 = 16 ∧ (ycI d nX8_stairs [.ref a2] M1 fun c4 M3 => ((c2 = c4 → (wL_law d Q 562 [some (.ref a0), some (.ref a1), some (.ref a2), some (.int a3)] [] M3)) ∧ (¬ (c2 = c4) → (zb ((0 : Int32)) ∧ (Q [.int ((0 : Int32))] M3)))))))
) : wL_law d Q 555 [some (.ref a0), some (.ref a1), some (.ref a2), some (.int a3)] [] M := zseg (zCl_good gTb d) (fun j => j == 7 || j == 14 || j == 16 || j == 28 || j == 35 || j == 52 || j == 99 || j == 116 || j == 133 || j == 170 || j == 207 || j == 244 || j == 271 || j == 328 || j == 345 || j == 352 || j == 369 || j == 386 || j == 413 || j == 450 || j == 477 || j == 504 || j == 511 || j == 538 || j == 555 || j == 562 || j == 564) 12 h
set_option maxRecDepth 100000 in
set_option maxHeartbeats 4000000 in
/-- from place 562 -/
theorem sg_L_law_562 {d : Nat} {Q : List Value → zM → Prop} (a0 : Nat) (a1 : Nat) (a2 : Nat) (a3 : Int32) (M : zM) (h :
let v3_1 : Int32 := a3 + 6
wL_law d Q 16 [some (.ref a0), some (.ref a1), some (.ref a2), some (.int v3_1)] [] M
) : wL_law d Q 562 [some (.ref a0), some (.ref a1), some (.ref a2), some (.int a3)] [] M := zseg (zCl_good gTb d) (fun j => j == 7 || j == 14 || j == 16 || j == 28 || j == 35 || j == 52 || j == 99 || j == 116 || j == 133 || j == 170 || j == 207 || j == 244 || j == 271 || j == 328 || j == 345 || j == 352 || j == 369 || j == 386 || j == 413 || j == 450 || j == 477 || j == 504 || j == 511 || j == 538 || j == 555 || j == 562 || j == 564) 7 h
set_option maxRecDepth 100000 in
set_option maxHeartbeats 4000000 in
/-- from place 564 -/
theorem sg_L_law_564 {d : Nat} {Q : List Value → zM → Prop} (o0 : Option Value) (o1 : Option Value) (o2 : Option Value) (o3 : Option Value) (M : zM) (h :
zb ((1 : Int32)) ∧ (Q [.int ((1 : Int32))] M)
) : wL_law d Q 564 [o0, o1, o2, o3] [] M := zseg (zCl_good gTb d) (fun j => j == 7 || j == 14 || j == 16 || j == 28 || j == 35 || j == 52 || j == 99 || j == 116 || j == 133 || j == 170 || j == 207 || j == 244 || j == 271 || j == 328 || j == 345 || j == 352 || j == 369 || j == 386 || j == 413 || j == 450 || j == 477 || j == 504 || j == 511 || j == 538 || j == 555 || j == 562 || j == 564) 7 h
