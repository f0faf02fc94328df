/-! stretches of the small code, by wip/whole/vcgen.py -/
abbrev wX3_begin (d : Nat) (Q : List Value → zM → Prop) : Nat → zLv → List Value → zM → Prop := zW (zCl gTb d) 0 kX3_begin Q
theorem en_X3_begin {d : Nat} {Q : List Value → zM → Prop} (a0 : Nat) (a1 : Int32) (M : zM) (h : wX3_begin d Q 0 [some (.ref a0), some (.int a1)] [] M) : zCl gTb (d + 1) nX3_begin [.ref a0, .int a1] M Q := ⟨Nat.le_of_ble_eq_true rfl, h⟩
set_option maxRecDepth 100000 in
set_option maxHeartbeats 4000000 in
/-- from place 0 -/
theorem sg_X3_begin_0 {d : Nat} {Q : List Value → zM → Prop} (a0 : Nat) (a1 : Int32) (M : zM) (h :
(zsh M a0).1 = 12 ∧ (let M1 : zM := zuI M a0 10 a1
(zsh M a0).1 = 12 ∧ (let M2 : zM := zuI M1 a0 2 ((0 : Int32))
(zsh M a0).1 = 12 ∧ (let M3 : zM := zuI M2 a0 4 ((0 : Int32))
(zsh M a0).1 = 12 ∧ (let M4 : zM := zuI M3 a0 5 ((0 : Int32))
Q [] M4))))
) : wX3_begin d Q 0 [some (.ref a0), some (.int a1)] [] M := zseg (zCl_good gTb d) (fun _ => false) 18 h
abbrev wX3_add (d : Nat) (Q : List Value → zM → Prop) : Nat → zLv → List Value → zM → Prop := zW (zCl gTb d) 0 kX3_add Q
theorem en_X3_add {d : Nat} {Q : List Value → zM → Prop} (a0 : Nat) (M : zM) (h : wX3_add d Q 0 [some (.ref a0), none, none] [] M) : zCl gTb (d + 1) nX3_add [.ref a0] M Q := ⟨Nat.le_of_ble_eq_true rfl, h⟩
set_option maxRecDepth 100000 in
set_option maxHeartbeats 4000000 in
/-- from place 0 -/
theorem sg_X3_add_0 {d : Nat} {Q : List Value → zM → Prop} (a0 : Nat) (M : zM) (h :
wX3_add d Q 2 [some (.ref a0), some (.int ((0 : Int32))), none] [] M
) : wX3_add d Q 0 [some (.ref a0), none, none] [] M := zseg (zCl_good gTb d) (fun j => j == 2) 7 h
set_option maxRecDepth 100000 in
set_option maxHeartbeats 4000000 in
/-- from place 2 -/
theorem sg_X3_add_2 {d : Nat} {Q : List Value → zM → Prop} (a0 : Nat) (a1 : Int32) (o2 : Option Value) (M : zM) (h :
(zsh M a0).1 = 12 ∧ (((zI M a0 2) ≤ a1 → ((zsh M a0).1 = 12 ∧ ((zsh M a0).1 = 12 ∧ (let M1 : zM := zuI M a0 2 ((zI M a0 2) + ((1 : Int32)))
Q [] M1)))) ∧ (¬ ((zI M a0 2) ≤ a1) → ((zsh M a0).1 = 12 ∧ ((zsh M (zR M a0 1)).1 = 6 ∧ (zin a1 (zsh M (zR M a0 1)).2 ∧ ((zsh M (zR M (zR M a0 1) a1.toNatClampNeg)).1 = 11 ∧ (ycI d nX1_leading [.ref (zR M (zR M a0 1) a1.toNatClampNeg)] M fun c3 M2 => ((zsh M2 a0).1 = 12 ∧ ((zsh M2 a0).1 = 12 ∧ ((zsh M2 (zR M2 a0 1)).1 = 6 ∧ (zin (zI M2 a0 2) (zsh M2 (zR M2 a0 1)).2 ∧ ((zsh M2 (zR M2 (zR M2 a0 1) (zI M2 a0 2).toNatClampNeg)).1 = 11 ∧ (ycI d nX1_leading [.ref (zR M2 (zR M2 a0 1) (zI M2 a0 2).toNatClampNeg)] M2 fun c5 M4 => (ycI d nX4_leastCommon [.int c3, .int c5] M4 fun c7 M6 => ((zsh M6 a0).1 = 12 ∧ ((zsh M6 a0).1 = 12 ∧ ((zsh M6 a0).1 = 12 ∧ ((zsh M6 (zR M6 a0 0)).1 = 13 ∧ (ycI d nX5_rank [.ref (zR M6 a0 0), .int c7] M6 fun c9 M8 => ((zsh M8 (zR M6 a0 7)).1 = 2 ∧ (zin (((zI M6 a0 2) * ((24 : Int32))) + a1) (zsh M8 (zR M6 a0 7)).2 ∧ (let M10 : zM := zuI M8 (zR M6 a0 7) (((zI M6 a0 2) * ((24 : Int32))) + a1).toNatClampNeg c9
let v1_11 : Int32 := a1 + 1
wX3_add d Q 2 [some (.ref a0), some (.int v1_11), some (.int c7)] [] M10))))))))))))))))))))))
) : wX3_add d Q 2 [some (.ref a0), some (.int a1), o2] [] M := zseg (zCl_good gTb d) (fun j => j == 2) 44 h
abbrev wX3_choosePair (d : Nat) (Q : List Value → zM → Prop) : Nat → zLv → List Value → zM → Prop := zW (zCl gTb d) 2 kX3_choosePair Q
theorem en_X3_choosePair {d : Nat} {Q : List Value → zM → Prop} (a0 : Nat) (M : zM) (h : wX3_choosePair d Q 0 [some (.ref a0), none, none, none, none] [] M) : zCl gTb (d + 1) nX3_choosePair [.ref a0] M Q := ⟨Nat.le_of_ble_eq_true rfl, h⟩
set_option maxRecDepth 100000 in
set_option maxHeartbeats 4000000 in
/-- from place 0 -/
theorem sg_X3_choosePair_0 {d : Nat} {Q : List Value → zM → Prop} (a0 : Nat) (M : zM) (h :
let v1_1 : Int32 := ((-1) : Int32)
wX3_choosePair d Q 4 [some (.ref a0), some (.int v1_1), some (.int ((1 : Int32))), none, none] [] M
) : wX3_choosePair d Q 0 [some (.ref a0), none, none, none, none] [] M := zseg (zCl_good gTb d) (fun j => j == 4 || j == 10) 9 h
set_option maxRecDepth 100000 in
set_option maxHeartbeats 4000000 in
/-- from place 4 -/
theorem sg_X3_choosePair_4 {d : Nat} {Q : List Value → zM → Prop} (a0 : Nat) (a1 : Int32) (a2 : Int32) (o3 : Option Value) (o4 : Option Value) (M : zM) (h :
(zsh M a0).1 = 12 ∧ (((zI M a0 2) ≤ a2 → ((a1 = (((-1) : Int32)) → (zb ((0 : Int32)) ∧ (Q [.int ((0 : Int32))] M))) ∧ (¬ (a1 = (((-1) : Int32))) → (zb ((1 : Int32)) ∧ (Q [.int ((1 : Int32))] M))))) ∧ (¬ ((zI M a0 2) ≤ a2) → (wX3_choosePair d Q 10 [some (.ref a0), some (.int a1), some (.int a2), some (.int ((0 : Int32))), o4] [] M)))
) : wX3_choosePair d Q 4 [some (.ref a0), some (.int a1), some (.int a2), o3, o4] [] M := zseg (zCl_good gTb d) (fun j => j == 4 || j == 10) 19 h
set_option maxRecDepth 100000 in
set_option maxHeartbeats 4000000 in
/-- from place 10 -/
theorem sg_X3_choosePair_10 {d : Nat} {Q : List Value → zM → Prop} (a0 : Nat) (a1 : Int32) (a2 : Int32) (a3 : Int32) (o4 : Option Value) (M : zM) (h :
(a2 ≤ a3 → (let v2_1 : Int32 := a2 + 1
wX3_choosePair d Q 4 [some (.ref a0), some (.int a1), some (.int v2_1), some (.int a3), o4] [] M)) ∧ (¬ (a2 ≤ a3) → ((zsh M a0).1 = 12 ∧ ((zsh M (zR M a0 7)).1 = 2 ∧ (zin ((a2 * ((24 : Int32))) + a3) (zsh M (zR M a0 7)).2 ∧ (let v4_2 : Int32 := zI M (zR M a0 7) ((a2 * ((24 : Int32))) + a3).toNatClampNeg
(v4_2 = (((-1) : Int32)) → (let v3_3 : Int32 := a3 + 1
wX3_choosePair d Q 10 [some (.ref a0), some (.int a1), some (.int a2), some (.int v3_3), some (.int v4_2)] [] M)) ∧ (¬ (v4_2 = (((-1) : Int32))) → ((a1 = (((-1) : Int32)) → ((zsh M a0).1 = 12 ∧ (let M4 : zM := zuI M a0 8 a3
(zsh M a0).1 = 12 ∧ (let M5 : zM := zuI M4 a0 9 a2
let v3_6 : Int32 := a3 + 1
wX3_choosePair d Q 10 [some (.ref a0), some (.int v4_2), some (.int a2), some (.int v3_6), some (.int v4_2)] [] M5)))) ∧ (¬ (a1 = (((-1) : Int32))) → ((a1 ≤ v4_2 → (let v3_7 : Int32 := a3 + 1
wX3_choosePair d Q 10 [some (.ref a0), some (.int a1), some (.int a2), some (.int v3_7), some (.int v4_2)] [] M)) ∧ (¬ (a1 ≤ v4_2) → ((zsh M a0).1 = 12 ∧ (let M8 : zM := zuI M a0 8 a3
(zsh M a0).1 = 12 ∧ (let M9 : zM := zuI M8 a0 9 a2
let v3_10 : Int32 := a3 + 1
wX3_choosePair d Q 10 [some (.ref a0), some (.int v4_2), some (.int a2), some (.int v3_10), some (.int v4_2)] [] M9)))))))))))))
) : wX3_choosePair d Q 10 [some (.ref a0), some (.int a1), some (.int a2), some (.int a3), o4] [] M := zseg (zCl_good gTb d) (fun j => j == 4 || j == 10) 52 h
abbrev wX3_isWaiting (d : Nat) (Q : List Value → zM → Prop) : Nat → zLv → List Value → zM → Prop := zW (zCl gTb d) 2 kX3_isWaiting Q
theorem en_X3_isWaiting {d : Nat} {Q : List Value → zM → Prop} (a0 : Nat) (a1 : Int32) (a2 : Int32) (M : zM) (h : wX3_isWaiting d Q 0 [some (.ref a0), some (.int a1), some (.int a2), none] [] M) : zCl gTb (d + 1) nX3_isWaiting [.ref a0, .int a1, .int a2] M Q := ⟨Nat.le_of_ble_eq_true rfl, h⟩
set_option maxRecDepth 100000 in
set_option maxHeartbeats 4000000 in
/-- from place 0 -/
theorem sg_X3_isWaiting_0 {d : Nat} {Q : List Value → zM → Prop} (a0 : Nat) (a1 : Int32) (a2 : Int32) (M : zM) (h :
(a2 ≤ a1 → (let v3_1 : Int32 := (a1 * ((24 : Int32))) + a2
(zsh M a0).1 = 12 ∧ ((zsh M (zR M a0 7)).1 = 2 ∧ (zin v3_1 (zsh M (zR M a0 7)).2 ∧ (((zI M (zR M a0 7) v3_1.toNatClampNeg) = (((-1) : Int32)) → (zb ((0 : Int32)) ∧ (Q [.int ((0 : Int32))] M))) ∧ (¬ ((zI M (zR M a0 7) v3_1.toNatClampNeg) = (((-1) : Int32))) → (zb ((1 : Int32)) ∧ (Q [.int ((1 : Int32))] M)))))))) ∧ (¬ (a2 ≤ a1) → (let v3_2 : Int32 := (a2 * ((24 : Int32))) + a1
(zsh M a0).1 = 12 ∧ ((zsh M (zR M a0 7)).1 = 2 ∧ (zin v3_2 (zsh M (zR M a0 7)).2 ∧ (((zI M (zR M a0 7) v3_2.toNatClampNeg) = (((-1) : Int32)) → (zb ((0 : Int32)) ∧ (Q [.int ((0 : Int32))] M))) ∧ (¬ ((zI M (zR M a0 7) v3_2.toNatClampNeg) = (((-1) : Int32))) → (zb ((1 : Int32)) ∧ (Q [.int ((1 : Int32))] M))))))))
) : wX3_isWaiting d Q 0 [some (.ref a0), some (.int a1), some (.int a2), none] [] M := zseg (zCl_good gTb d) (fun _ => false) 43 h
abbrev wX3_isNeedless (d : Nat) (Q : List Value → zM → Prop) : Nat → zLv → List Value → zM → Prop := zW (zCl gTb d) 2 kX3_isNeedless Q
theorem en_X3_isNeedless {d : Nat} {Q : List Value → zM → Prop} (a0 : Nat) (a1 : Int32) (M : zM) (h : wX3_isNeedless d Q 0 [some (.ref a0), some (.int a1), none] [] M) : zCl gTb (d + 1) nX3_isNeedless [.ref a0, .int a1] M Q := ⟨Nat.le_of_ble_eq_true rfl, h⟩
set_option maxRecDepth 100000 in
set_option maxHeartbeats 4000000 in
/-- from place 0 -/
theorem sg_X3_isNeedless_0 {d : Nat} {Q : List Value → zM → Prop} (a0 : Nat) (a1 : Int32) (M : zM) (h :
(zsh M a0).1 = 12 ∧ ((zsh M a0).1 = 12 ∧ ((zsh M (zR M a0 1)).1 = 6 ∧ (zin (zI M a0 8) (zsh M (zR M a0 1)).2 ∧ ((zsh M (zR M (zR M a0 1) (zI M a0 8).toNatClampNeg)).1 = 11 ∧ (ycI d nX1_leading [.ref (zR M (zR M a0 1) (zI M a0 8).toNatClampNeg)] M fun c2 M1 => ((zsh M1 a0).1 = 12 ∧ ((zsh M1 a0).1 = 12 ∧ ((zsh M1 (zR M1 a0 1)).1 = 6 ∧ (zin (zI M1 a0 9) (zsh M1 (zR M1 a0 1)).2 ∧ ((zsh M1 (zR M1 (zR M1 a0 1) (zI M1 a0 9).toNatClampNeg)).1 = 11 ∧ (ycI d nX1_leading [.ref (zR M1 (zR M1 a0 1) (zI M1 a0 9).toNatClampNeg)] M1 fun c4 M3 => (ycI d nX4_haveVariableInCommon [.int c2, .int c4] M3 fun c6 M5 => ((¬ c6 = 0 → (wX3_isNeedless d Q 18 [some (.ref a0), some (.int a1), some (.int ((0 : Int32)))] [] M5)) ∧ (¬ (¬ c6 = 0) → (zb ((1 : Int32)) ∧ (Q [.int ((1 : Int32))] M5))))))))))))))))
) : wX3_isNeedless d Q 0 [some (.ref a0), some (.int a1), none] [] M := zseg (zCl_good gTb d) (fun j => j == 18) 23 h
set_option maxRecDepth 100000 in
set_option maxHeartbeats 4000000 in
/-- from place 18 -/
theorem sg_X3_isNeedless_18 {d : Nat} {Q : List Value → zM → Prop} (a0 : Nat) (a1 : Int32) (a2 : Int32) (M : zM) (h :
(zsh M a0).1 = 12 ∧ (((zI M a0 2) ≤ a2 → (zb ((0 : Int32)) ∧ (Q [.int ((0 : Int32))] M))) ∧ (¬ ((zI M a0 2) ≤ a2) → ((zsh M a0).1 = 12 ∧ ((a2 = (zI M a0 8) → (let v2_1 : Int32 := a2 + 1
wX3_isNeedless d Q 18 [some (.ref a0), some (.int a1), some (.int v2_1)] [] M)) ∧ (¬ (a2 = (zI M a0 8)) → ((zsh M a0).1 = 12 ∧ ((a2 = (zI M a0 9) → (let v2_2 : Int32 := a2 + 1
wX3_isNeedless d Q 18 [some (.ref a0), some (.int a1), some (.int v2_2)] [] M)) ∧ (¬ (a2 = (zI M a0 9)) → ((zsh M a0).1 = 12 ∧ ((zsh M (zR M a0 1)).1 = 6 ∧ (zin a2 (zsh M (zR M a0 1)).2 ∧ ((zsh M (zR M (zR M a0 1) a2.toNatClampNeg)).1 = 11 ∧ (ycI d nX1_leading [.ref (zR M (zR M a0 1) a2.toNatClampNeg)] M fun c4 M3 => (ycI d nX4_divides [.int c4, .int a1] M3 fun c6 M5 => ((c6 = 0 → (let v2_7 : Int32 := a2 + 1
wX3_isNeedless d Q 18 [some (.ref a0), some (.int a1), some (.int v2_7)] [] M5)) ∧ (¬ (c6 = 0) → ((zsh M5 a0).1 = 12 ∧ ((zsh M5 a0).1 = 12 ∧ (ycI d nX3_isWaiting [.ref a0, .int a2, .int (zI M5 a0 8)] M5 fun c9 M8 => ((¬ c9 = 0 → (let v2_10 : Int32 := a2 + 1
wX3_isNeedless d Q 18 [some (.ref a0), some (.int a1), some (.int v2_10)] [] M8)) ∧ (¬ (¬ c9 = 0) → ((zsh M8 a0).1 = 12 ∧ ((zsh M8 a0).1 = 12 ∧ (ycI d nX3_isWaiting [.ref a0, .int a2, .int (zI M8 a0 9)] M8 fun c12 M11 => ((¬ c12 = 0 → (let v2_13 : Int32 := a2 + 1
wX3_isNeedless d Q 18 [some (.ref a0), some (.int a1), some (.int v2_13)] [] M11)) ∧ (¬ (¬ c12 = 0) → (zb ((1 : Int32)) ∧ (Q [.int ((1 : Int32))] M11))))))))))))))))))))))))))))
) : wX3_isNeedless d Q 18 [some (.ref a0), some (.int a1), some (.int a2)] [] M := zseg (zCl_good gTb d) (fun j => j == 18) 51 h
abbrev wX3_crossOut (d : Nat) (Q : List Value → zM → Prop) : Nat → zLv → List Value → zM → Prop := zW (zCl gTb d) 2 kX3_crossOut Q
theorem en_X3_crossOut {d : Nat} {Q : List Value → zM → Prop} (a0 : Nat) (a1 : Int32) (a2 : Nat) (M : zM) (h : wX3_crossOut d Q 0 [some (.ref a0), some (.int a1), some (.ref a2), none, none, none, none, none, none] [] M) : zCl gTb (d + 1) nX3_crossOut [.ref a0, .int a1, .ref a2] M Q := ⟨Nat.le_of_ble_eq_true rfl, h⟩
set_option maxRecDepth 100000 in
set_option maxHeartbeats 4000000 in
/-- from place 0 -/
theorem sg_X3_crossOut_0 {d : Nat} {Q : List Value → zM → Prop} (a0 : Nat) (a1 : Int32) (a2 : Nat) (M : zM) (h :
(zsh M a0).1 = 12 ∧ ((zsh M a0).1 = 12 ∧ ((zsh M (zR M a0 1)).1 = 6 ∧ (zin (zI M a0 8) (zsh M (zR M a0 1)).2 ∧ (let r3_1 : Nat := zR M (zR M a0 1) (zI M a0 8).toNatClampNeg
(zsh M a0).1 = 12 ∧ ((zsh M a0).1 = 12 ∧ ((zsh M (zR M a0 1)).1 = 6 ∧ (zin (zI M a0 9) (zsh M (zR M a0 1)).2 ∧ (let r4_2 : Nat := zR M (zR M a0 1) (zI M a0 9).toNatClampNeg
(zsh M r3_1).1 = 11 ∧ (ycI d nX1_leading [.ref r3_1] M fun c4 M3 => (let v5_5 : Int32 := a1 - c4
(zsh M3 r4_2).1 = 11 ∧ (ycI d nX1_leading [.ref r4_2] M3 fun c7 M6 => (let v6_8 : Int32 := a1 - c7
(zsh M6 r3_1).1 = 11 ∧ ((zsh M6 a2).1 = 14 ∧ (ycI d nX6_addMultiple [.ref a2, .long ((4294967297 : Int64)), .int v5_5, .ref (zR M6 r3_1 0)] M6 fun c10 M9 => ((c10 = 0 → (zb ((0 : Int32)) ∧ (Q [.int ((0 : Int32))] M9))) ∧ (¬ (c10 = 0) → ((zsh M9 r4_2).1 = 11 ∧ ((zsh M9 a2).1 = 14 ∧ (ycI d nX6_addMultiple [.ref a2, .long (((-4294967295) : Int64)), .int v6_8, .ref (zR M9 r4_2 0)] M9 fun c12 M11 => ((¬ c12 = 0 → (wX3_crossOut d Q 40 [some (.ref a0), some (.int a1), some (.ref a2), some (.ref r3_1), some (.ref r4_2), some (.int v5_5), some (.int v6_8), some (.int ((0 : Int32))), none] [] M11)) ∧ (¬ (¬ c12 = 0) → (zb ((0 : Int32)) ∧ (Q [.int ((0 : Int32))] M11)))))))))))))))))))))))
) : wX3_crossOut d Q 0 [some (.ref a0), some (.int a1), some (.ref a2), none, none, none, none, none, none] [] M := zseg (zCl_good gTb d) (fun j => j == 40) 47 h
set_option maxRecDepth 100000 in
set_option maxHeartbeats 4000000 in
/-- from place 40 -/
theorem sg_X3_crossOut_40 {d : Nat} {Q : List Value → zM → Prop} (a0 : Nat) (o1 : Option Value) (o2 : Option Value) (a3 : Nat) (a4 : Nat) (a5 : Int32) (a6 : Int32) (a7 : Int32) (o8 : Option Value) (M : zM) (h :
(zsh M a0).1 = 12 ∧ (((zI M a0 10) ≤ a7 → (zb ((1 : Int32)) ∧ (Q [.int ((1 : Int32))] M))) ∧ (¬ ((zI M a0 10) ≤ a7) → ((zsh M a0).1 = 12 ∧ ((zsh M a0).1 = 12 ∧ ((zsh M (zR M a0 1)).1 = 6 ∧ (zin (zI M a0 2) (zsh M (zR M a0 1)).2 ∧ ((zsh M (zR M (zR M a0 1) (zI M a0 2).toNatClampNeg)).1 = 11 ∧ ((zsh M (zR M (zR M (zR M a0 1) (zI M a0 2).toNatClampNeg) 1)).1 = 5 ∧ (zin a7 (zsh M (zR M (zR M (zR M a0 1) (zI M a0 2).toNatClampNeg) 1)).2 ∧ (let r8_1 : Nat := zR M (zR M (zR M (zR M a0 1) (zI M a0 2).toNatClampNeg) 1) a7.toNatClampNeg
(zsh M r8_1).1 = 14 ∧ (ycV d nX6_empty [.ref r8_1] M fun M2 => ((zsh M2 a3).1 = 11 ∧ ((zsh M2 (zR M2 a3 1)).1 = 5 ∧ (zin a7 (zsh M2 (zR M2 a3 1)).2 ∧ ((zsh M2 r8_1).1 = 14 ∧ (ycI d nX6_addMultiple [.ref r8_1, .long ((4294967297 : Int64)), .int a5, .ref (zR M2 (zR M2 a3 1) a7.toNatClampNeg)] M2 fun c4 M3 => ((c4 = 0 → (zb ((0 : Int32)) ∧ (Q [.int ((0 : Int32))] M3))) ∧ (¬ (c4 = 0) → ((zsh M3 a4).1 = 11 ∧ ((zsh M3 (zR M3 a4 1)).1 = 5 ∧ (zin a7 (zsh M3 (zR M3 a4 1)).2 ∧ ((zsh M3 r8_1).1 = 14 ∧ (ycI d nX6_addMultiple [.ref r8_1, .long (((-4294967295) : Int64)), .int a6, .ref (zR M3 (zR M3 a4 1) a7.toNatClampNeg)] M3 fun c6 M5 => ((¬ c6 = 0 → (let v7_7 : Int32 := a7 + 1
wX3_crossOut d Q 40 [some (.ref a0), o1, o2, some (.ref a3), some (.ref a4), some (.int a5), some (.int a6), some (.int v7_7), some (.ref r8_1)] [] M5)) ∧ (¬ (¬ c6 = 0) → (zb ((0 : Int32)) ∧ (Q [.int ((0 : Int32))] M5)))))))))))))))))))))))))))
) : wX3_crossOut d Q 40 [some (.ref a0), o1, o2, some (.ref a3), some (.ref a4), some (.int a5), some (.int a6), some (.int a7), o8] [] M := zseg (zCl_good gTb d) (fun j => j == 40) 46 h
abbrev wX3_takeQuotients (d : Nat) (Q : List Value → zM → Prop) : Nat → zLv → List Value → zM → Prop := zW (zCl gTb d) 2 kX3_takeQuotients Q
theorem en_X3_takeQuotients {d : Nat} {Q : List Value → zM → Prop} (a0 : Nat) (a1 : Nat) (a2 : Nat) (M : zM) (h : wX3_takeQuotients d Q 0 [some (.ref a0), some (.ref a1), some (.ref a2), none, none, none, none, none, none, none] [] M) : zCl gTb (d + 1) nX3_takeQuotients [.ref a0, .ref a1, .ref a2] M Q := ⟨Nat.le_of_ble_eq_true rfl, h⟩
set_option maxRecDepth 100000 in
set_option maxHeartbeats 4000000 in
/-- from place 0 -/
theorem sg_X3_takeQuotients_0 {d : Nat} {Q : List Value → zM → Prop} (a0 : Nat) (a1 : Nat) (a2 : Nat) (M : zM) (h :
wX3_takeQuotients d Q 2 [some (.ref a0), some (.ref a1), some (.ref a2), some (.int ((0 : Int32))), none, none, none, none, none, none] [] M
) : wX3_takeQuotients d Q 0 [some (.ref a0), some (.ref a1), some (.ref a2), none, none, none, none, none, none, none] [] M := zseg (zCl_good gTb d) (fun j => j == 2 || j == 13 || j == 24) 7 h
set_option maxRecDepth 100000 in
set_option maxHeartbeats 4000000 in
/-- from place 2 -/
theorem sg_X3_takeQuotients_2 {d : Nat} {Q : List Value → zM → Prop} (a0 : Nat) (a1 : Nat) (a2 : Nat) (a3 : Int32) (o4 : Option Value) (o5 : Option Value) (o6 : Option Value) (o7 : Option Value) (o8 : Option Value) (o9 : Option Value) (M : zM) (h :
(zsh M a0).1 = 12 ∧ (((zI M a0 10) ≤ a3 → (zb ((1 : Int32)) ∧ (Q [.int ((1 : Int32))] M))) ∧ (¬ ((zI M a0 10) ≤ a3) → ((zsh M a1).1 = 11 ∧ ((zsh M (zR M a1 1)).1 = 5 ∧ (zin a3 (zsh M (zR M a1 1)).2 ∧ (let r4_1 : Nat := zR M (zR M a1 1) a3.toNatClampNeg
wX3_takeQuotients d Q 13 [some (.ref a0), some (.ref a1), some (.ref a2), some (.int a3), some (.ref r4_1), some (.int ((0 : Int32))), o6, o7, o8, o9] [] M))))))
) : wX3_takeQuotients d Q 2 [some (.ref a0), some (.ref a1), some (.ref a2), some (.int a3), o4, o5, o6, o7, o8, o9] [] M := zseg (zCl_good gTb d) (fun j => j == 2 || j == 13 || j == 24) 18 h
set_option maxRecDepth 100000 in
set_option maxHeartbeats 4000000 in
/-- from place 13 -/
theorem sg_X3_takeQuotients_13 {d : Nat} {Q : List Value → zM → Prop} (a0 : Nat) (a1 : Nat) (a2 : Nat) (a3 : Int32) (a4 : Nat) (a5 : Int32) (o6 : Option Value) (o7 : Option Value) (o8 : Option Value) (o9 : Option Value) (M : zM) (h :
(zsh M a0).1 = 12 ∧ (((zI M a0 2) ≤ a5 → (let v3_1 : Int32 := a3 + 1
wX3_takeQuotients d Q 2 [some (.ref a0), some (.ref a1), some (.ref a2), some (.int v3_1), some (.ref a4), some (.int a5), o6, o7, o8, o9] [] M)) ∧ (¬ ((zI M a0 2) ≤ a5) → ((zsh M a2).1 = 10 ∧ ((zsh M (zR M a2 2)).1 = 5 ∧ (zin a5 (zsh M (zR M a2 2)).2 ∧ (let r6_2 : Nat := zR M (zR M a2 2) a5.toNatClampNeg
wX3_takeQuotients d Q 24 [some (.ref a0), some (.ref a1), some (.ref a2), some (.int a3), some (.ref a4), some (.int a5), some (.ref r6_2), some (.int ((0 : Int32))), o8, o9] [] M))))))
) : wX3_takeQuotients d Q 13 [some (.ref a0), some (.ref a1), some (.ref a2), some (.int a3), some (.ref a4), some (.int a5), o6, o7, o8, o9] [] M := zseg (zCl_good gTb d) (fun j => j == 2 || j == 13 || j == 24) 18 h
set_option maxRecDepth 100000 in
set_option maxHeartbeats 4000000 in
/-- from place 24 -/
theorem sg_X3_takeQuotients_24 {d : Nat} {Q : List Value → zM → Prop} (a0 : Nat) (a1 : Nat) (a2 : Nat) (a3 : Int32) (a4 : Nat) (a5 : Int32) (a6 : Nat) (a7 : Int32) (o8 : Option Value) (o9 : Option Value) (M : zM) (h :
(zsh M a6).1 = 14 ∧ (((zI M a6 4) ≤ a7 → (let v5_1 : Int32 := a5 + 1
wX3_takeQuotients d Q 13 [some (.ref a0), some (.ref a1), some (.ref a2), some (.int a3), some (.ref a4), some (.int v5_1), some (.ref a6), some (.int a7), o8, o9] [] M)) ∧ (¬ ((zI M a6 4) ≤ a7) → ((zsh M a6).1 = 14 ∧ ((zsh M (zR M a6 1)).1 = 3 ∧ (zin a7 (zsh M (zR M a6 1)).2 ∧ (ycJ d nX2_negative [.long (zL M (zR M a6 1) a7.toNatClampNeg)] M fun c3 M2 => ((zsh M2 a6).1 = 14 ∧ ((zsh M2 (zR M2 a6 2)).1 = 2 ∧ (zin a7 (zsh M2 (zR M2 a6 2)).2 ∧ ((zsh M2 a0).1 = 12 ∧ ((zsh M2 (zR M2 a0 1)).1 = 6 ∧ (zin a5 (zsh M2 (zR M2 a0 1)).2 ∧ ((zsh M2 (zR M2 (zR M2 a0 1) a5.toNatClampNeg)).1 = 11 ∧ ((zsh M2 (zR M2 (zR M2 (zR M2 a0 1) a5.toNatClampNeg) 1)).1 = 5 ∧ (zin a3 (zsh M2 (zR M2 (zR M2 (zR M2 a0 1) a5.toNatClampNeg) 1)).2 ∧ ((zsh M2 a4).1 = 14 ∧ (ycI d nX6_addMultiple [.ref a4, .long c3, .int (zI M2 (zR M2 a6 2) a7.toNatClampNeg), .ref (zR M2 (zR M2 (zR M2 (zR M2 a0 1) a5.toNatClampNeg) 1) a3.toNatClampNeg)] M2 fun c5 M4 => ((¬ c5 = 0 → (let v7_6 : Int32 := a7 + 1
wX3_takeQuotients d Q 24 [some (.ref a0), some (.ref a1), some (.ref a2), some (.int a3), some (.ref a4), some (.int a5), some (.ref a6), some (.int v7_6), some (.long c3), none] [] M4)) ∧ (¬ (¬ c5 = 0) → (zb ((0 : Int32)) ∧ (Q [.int ((0 : Int32))] M4)))))))))))))))))))))
) : wX3_takeQuotients d Q 24 [some (.ref a0), some (.ref a1), some (.ref a2), some (.int a3), some (.ref a4), some (.int a5), some (.ref a6), some (.int a7), o8, o9] [] M := zseg (zCl_good gTb d) (fun j => j == 2 || j == 13 || j == 24) 36 h
abbrev wX3_adopt (d : Nat) (Q : List Value → zM → Prop) : Nat → zLv → List Value → zM → Prop := zW (zCl gTb d) 1 kX3_adopt Q
theorem en_X3_adopt {d : Nat} {Q : List Value → zM → Prop} (a0 : Nat) (a1 : Nat) (a2 : Int32) (M : zM) (h : wX3_adopt d Q 0 [some (.ref a0), some (.ref a1), some (.int a2), none, none, none] [] M) : zCl gTb (d + 1) nX3_adopt [.ref a0, .ref a1, .int a2] M Q := ⟨Nat.le_of_ble_eq_true rfl, h⟩
set_option maxRecDepth 100000 in
set_option maxHeartbeats 4000000 in
/-- from place 0 -/
theorem sg_X3_adopt_0 {d : Nat} {Q : List Value → zM → Prop} (a0 : Nat) (a1 : Nat) (a2 : Int32) (M : zM) (h :
wX3_adopt d Q 2 [some (.ref a0), some (.ref a1), some (.int a2), some (.int ((0 : Int32))), none, none] [] M
) : wX3_adopt d Q 0 [some (.ref a0), some (.ref a1), some (.int a2), none, none, none] [] M := zseg (zCl_good gTb d) (fun j => j == 2 || j == 24) 7 h
set_option maxRecDepth 100000 in
set_option maxHeartbeats 4000000 in
/-- from place 2 -/
theorem sg_X3_adopt_2 {d : Nat} {Q : List Value → zM → Prop} (a0 : Nat) (a1 : Nat) (a2 : Int32) (a3 : Int32) (o4 : Option Value) (o5 : Option Value) (M : zM) (h :
(a2 ≤ a3 → (Q [.int ((0 : Int32))] M)) ∧ (¬ (a2 ≤ a3) → ((zsh M a1).1 = 5 ∧ (zin a3 (zsh M a1).2 ∧ ((zsh M (zR M a1 a3.toNatClampNeg)).1 = 14 ∧ (((zI M (zR M a1 a3.toNatClampNeg) 4) ≤ 0 → (let v3_1 : Int32 := a3 + 1
wX3_adopt d Q 2 [some (.ref a0), some (.ref a1), some (.int a2), some (.int v3_1), o4, o5] [] M)) ∧ (¬ ((zI M (zR M a1 a3.toNatClampNeg) 4) ≤ 0) → ((zsh M a0).1 = 12 ∧ ((zsh M a0).1 = 12 ∧ ((zsh M (zR M a0 1)).1 = 6 ∧ (zin (zI M a0 2) (zsh M (zR M a0 1)).2 ∧ (let r4_2 : Nat := zR M (zR M a0 1) (zI M a0 2).toNatClampNeg
(zsh M r4_2).1 = 11 ∧ ((zsh M a1).1 = 5 ∧ (zin a3 (zsh M a1).2 ∧ ((zsh M (zR M r4_2 0)).1 = 14 ∧ (ycV d nX6_become [.ref (zR M r4_2 0), .ref (zR M a1 a3.toNatClampNeg)] M fun M3 => (wX3_adopt d Q 24 [some (.ref a0), some (.ref a1), some (.int a2), some (.int a3), some (.ref r4_2), some (.int ((0 : Int32)))] [] M3))))))))))))))))
) : wX3_adopt d Q 2 [some (.ref a0), some (.ref a1), some (.int a2), some (.int a3), o4, o5] [] M := zseg (zCl_good gTb d) (fun j => j == 2 || j == 24) 31 h
set_option maxRecDepth 100000 in
set_option maxHeartbeats 4000000 in
/-- from place 24 -/
theorem sg_X3_adopt_24 {d : Nat} {Q : List Value → zM → Prop} (a0 : Nat) (a1 : Nat) (a2 : Int32) (a3 : Int32) (a4 : Nat) (a5 : Int32) (M : zM) (h :
(zsh M a0).1 = 12 ∧ (((zI M a0 10) ≤ a5 → ((zsh M a0).1 = 12 ∧ (((zI M a0 10) ≤ a3 → ((zsh M a0).1 = 12 ∧ ((zsh M a4).1 = 11 ∧ (ycI d nX1_makeMonic [.ref a4, .int (zI M a0 10)] M fun c2 M1 => ((¬ c2 = 0 → ((zsh M1 a0).1 = 12 ∧ (ycV d nX3_add [.ref a0] M1 fun M3 => (let v3_4 : Int32 := a3 + 1
wX3_adopt d Q 2 [some (.ref a0), some (.ref a1), some (.int a2), some (.int v3_4), some (.ref a4), some (.int a5)] [] M3)))) ∧ (¬ (¬ c2 = 0) → (Q [.int (((-7) : Int32))] M1))))))) ∧ (¬ ((zI M a0 10) ≤ a3) → ((zsh M a4).1 = 11 ∧ ((zsh M (zR M a4 1)).1 = 5 ∧ (zin a3 (zsh M (zR M a4 1)).2 ∧ ((zsh M (zR M (zR M a4 1) a3.toNatClampNeg)).1 = 14 ∧ (ycI d nX6_come [.ref (zR M (zR M a4 1) a3.toNatClampNeg), .long ((4294967297 : Int64)), .int ((0 : Int32))] M fun c6 M5 => ((¬ c6 = 0 → ((zsh M5 a0).1 = 12 ∧ ((zsh M5 a4).1 = 11 ∧ (ycI d nX1_makeMonic [.ref a4, .int (zI M5 a0 10)] M5 fun c8 M7 => ((¬ c8 = 0 → ((zsh M7 a0).1 = 12 ∧ (ycV d nX3_add [.ref a0] M7 fun M9 => (let v3_10 : Int32 := a3 + 1
wX3_adopt d Q 2 [some (.ref a0), some (.ref a1), some (.int a2), some (.int v3_10), some (.ref a4), some (.int a5)] [] M9)))) ∧ (¬ (¬ c8 = 0) → (Q [.int (((-7) : Int32))] M7))))))) ∧ (¬ (¬ c6 = 0) → (Q [.int (((-7) : Int32))] M5)))))))))))) ∧ (¬ ((zI M a0 10) ≤ a5) → ((zsh M a4).1 = 11 ∧ ((zsh M (zR M a4 1)).1 = 5 ∧ (zin a5 (zsh M (zR M a4 1)).2 ∧ ((zsh M (zR M (zR M a4 1) a5.toNatClampNeg)).1 = 14 ∧ (ycV d nX6_empty [.ref (zR M (zR M a4 1) a5.toNatClampNeg)] M fun M11 => (let v5_12 : Int32 := a5 + 1
wX3_adopt d Q 24 [some (.ref a0), some (.ref a1), some (.int a2), some (.int a3), some (.ref a4), some (.int v5_12)] [] M11))))))))
) : wX3_adopt d Q 24 [some (.ref a0), some (.ref a1), some (.int a2), some (.int a3), some (.ref a4), some (.int a5)] [] M := zseg (zCl_good gTb d) (fun j => j == 2 || j == 24) 52 h
abbrev wX3_settlePair (d : Nat) (Q : List Value → zM → Prop) : Nat → zLv → List Value → zM → Prop := zW (zCl gTb d) 1 kX3_settlePair Q
theorem en_X3_settlePair {d : Nat} {Q : List Value → zM → Prop} (a0 : Nat) (a1 : Nat) (M : zM) (h : wX3_settlePair d Q 0 [some (.ref a0), some (.ref a1), none, none, none] [] M) : zCl gTb (d + 1) nX3_settlePair [.ref a0, .ref a1] M Q := ⟨Nat.le_of_ble_eq_true rfl, h⟩
set_option maxRecDepth 100000 in
set_option maxHeartbeats 4000000 in
/-- from place 0 -/
theorem sg_X3_settlePair_0 {d : Nat} {Q : List Value → zM → Prop} (a0 : Nat) (a1 : Nat) (M : zM) (h :
(zsh M a0).1 = 12 ∧ ((zsh M a0).1 = 12 ∧ ((zsh M a0).1 = 12 ∧ ((zsh M (zR M a0 7)).1 = 2 ∧ (zin (((zI M a0 9) * ((24 : Int32))) + (zI M a0 8)) (zsh M (zR M a0 7)).2 ∧ (let M1 : zM := zuI M (zR M a0 7) (((zI M a0 9) * ((24 : Int32))) + (zI M a0 8)).toNatClampNeg (((-1) : Int32))
(zsh M a0).1 = 12 ∧ ((zsh M a0).1 = 12 ∧ (let M2 : zM := zuI M1 a0 4 ((zI M1 a0 4) + ((1 : Int32)))
(zsh M a0).1 = 12 ∧ ((zsh M a0).1 = 12 ∧ ((zsh M (zR M a0 1)).1 = 6 ∧ (zin (zI M2 a0 8) (zsh M (zR M a0 1)).2 ∧ ((zsh M (zR M (zR M a0 1) (zI M2 a0 8).toNatClampNeg)).1 = 11 ∧ (ycI d nX1_leading [.ref (zR M (zR M a0 1) (zI M2 a0 8).toNatClampNeg)] M2 fun c4 M3 => ((zsh M3 a0).1 = 12 ∧ ((zsh M3 a0).1 = 12 ∧ ((zsh M3 (zR M3 a0 1)).1 = 6 ∧ (zin (zI M3 a0 9) (zsh M3 (zR M3 a0 1)).2 ∧ ((zsh M3 (zR M3 (zR M3 a0 1) (zI M3 a0 9).toNatClampNeg)).1 = 11 ∧ (ycI d nX1_leading [.ref (zR M3 (zR M3 a0 1) (zI M3 a0 9).toNatClampNeg)] M3 fun c6 M5 => (ycI d nX4_leastCommon [.int c4, .int c6] M5 fun c8 M7 => ((zsh M7 a0).1 = 12 ∧ (ycI d nX3_isNeedless [.ref a0, .int c8] M7 fun c10 M9 => ((c10 = 0 → ((zsh M9 a0).1 = 12 ∧ ((zsh M9 a1).1 = 10 ∧ (ycV d nX0_makeReady [.ref a1, .int (zI M9 a0 2)] M9 fun M11 => ((zsh M11 a1).1 = 10 ∧ ((zsh M11 a0).1 = 12 ∧ (ycI d nX3_crossOut [.ref a0, .int c8, .ref (zR M11 a1 0)] M11 fun c13 M12 => ((¬ c13 = 0 → ((zsh M12 a0).1 = 12 ∧ ((zsh M12 a0).1 = 12 ∧ ((zsh M12 a1).1 = 10 ∧ (ycI d nX0_run [.ref a1, .ref (zR M12 a0 1), .int (zI M12 a0 2), .int (((-1) : Int32))] M12 fun c15 M14 => ((¬ c15 = 0 → (Q [.int c15] M14)) ∧ (¬ (¬ c15 = 0) → ((zsh M14 a1).1 = 10 ∧ ((zsh M14 (zR M14 a1 1)).1 = 14 ∧ ((¬ (zI M14 (zR M14 a1 1) 4) = 0 → ((zsh M14 a0).1 = 12 ∧ ((zsh M14 a0).1 = 12 ∧ ((zsh M14 (zR M14 a0 1)).1 = 6 ∧ (zin (zI M14 a0 2) (zsh M14 (zR M14 a0 1)).2 ∧ (let r4_16 : Nat := zR M14 (zR M14 a0 1) (zI M14 a0 2).toNatClampNeg
(zsh M14 r4_16).1 = 11 ∧ ((zsh M14 a1).1 = 10 ∧ ((zsh M14 (zR M14 r4_16 0)).1 = 14 ∧ (ycV d nX6_become [.ref (zR M14 r4_16 0), .ref (zR M14 a1 1)] M14 fun M17 => ((zsh M17 a0).1 = 12 ∧ ((((24 : Int32)) ≤ (zI M17 a0 2) → (Q [.int (((-7) : Int32))] M17)) ∧ (¬ (((24 : Int32)) ≤ (zI M17 a0 2)) → ((zsh M17 a0).1 = 12 ∧ (ycI d nX3_takeQuotients [.ref a0, .ref r4_16, .ref a1] M17 fun c19 M18 => ((c19 = 0 → (Q [.int (((-7) : Int32))] M18)) ∧ (¬ (c19 = 0) → ((zsh M18 a0).1 = 12 ∧ ((zsh M18 r4_16).1 = 11 ∧ (ycI d nX1_makeMonic [.ref r4_16, .int (zI M18 a0 10)] M18 fun c21 M20 => ((¬ c21 = 0 → ((zsh M20 a0).1 = 12 ∧ (ycV d nX3_add [.ref a0] M20 fun M22 => (Q [.int ((0 : Int32))] M22)))) ∧ (¬ (¬ c21 = 0) → (Q [.int (((-7) : Int32))] M20)))))))))))))))))))))) ∧ (¬ (¬ (zI M14 (zR M14 a1 1) 4) = 0) → (Q [.int c15] M14)))))))))))) ∧ (¬ (¬ c13 = 0) → (Q [.int (((-7) : Int32))] M12)))))))))) ∧ (¬ (c10 = 0) → ((zsh M9 a0).1 = 12 ∧ ((zsh M9 a0).1 = 12 ∧ (let M23 : zM := zuI M9 a0 5 ((zI M9 a0 5) + ((1 : Int32)))
Q [.int ((0 : Int32))] M23))))))))))))))))))))))))))
) : wX3_settlePair d Q 0 [some (.ref a0), some (.ref a1), none, none, none] [] M := zseg (zCl_good gTb d) (fun _ => false) 113 h
abbrev wX3_dropNeedless (d : Nat) (Q : List Value → zM → Prop) : Nat → zLv → List Value → zM → Prop := zW (zCl gTb d) 0 kX3_dropNeedless Q
theorem en_X3_dropNeedless {d : Nat} {Q : List Value → zM → Prop} (a0 : Nat) (M : zM) (h : wX3_dropNeedless d Q 0 [some (.ref a0), none, none, none] [] M) : zCl gTb (d + 1) nX3_dropNeedless [.ref a0] M Q := ⟨Nat.le_of_ble_eq_true rfl, h⟩
set_option maxRecDepth 100000 in
set_option maxHeartbeats 4000000 in
/-- from place 0 -/
theorem sg_X3_dropNeedless_0 {d : Nat} {Q : List Value → zM → Prop} (a0 : Nat) (M : zM) (h :
wX3_dropNeedless d Q 4 [some (.ref a0), some (.int ((0 : Int32))), some (.int ((0 : Int32))), none] [] M
) : wX3_dropNeedless d Q 0 [some (.ref a0), none, none, none] [] M := zseg (zCl_good gTb d) (fun j => j == 4) 9 h
set_option maxRecDepth 100000 in
set_option maxHeartbeats 4000000 in
/-- from place 4 -/
theorem sg_X3_dropNeedless_4 {d : Nat} {Q : List Value → zM → Prop} (a0 : Nat) (a1 : Int32) (a2 : Int32) (o3 : Option Value) (M : zM) (h :
(zsh M a0).1 = 12 ∧ (((zI M a0 2) ≤ a2 → ((zsh M a0).1 = 12 ∧ (let M1 : zM := zuI M a0 2 a1
Q [] M1))) ∧ (¬ ((zI M a0 2) ≤ a2) → ((zsh M a0).1 = 12 ∧ (ycI d nX3_isCovered [.ref a0, .int a2, .int a1] M fun c3 M2 => ((¬ c3 = 0 → (let v2_4 : Int32 := a2 + 1
wX3_dropNeedless d Q 4 [some (.ref a0), some (.int a1), some (.int v2_4), o3] [] M2)) ∧ (¬ (¬ c3 = 0) → ((zsh M2 a0).1 = 12 ∧ ((zsh M2 (zR M2 a0 1)).1 = 6 ∧ (zin a2 (zsh M2 (zR M2 a0 1)).2 ∧ (let r3_5 : Nat := zR M2 (zR M2 a0 1) a2.toNatClampNeg
(zsh M2 a0).1 = 12 ∧ ((zsh M2 a0).1 = 12 ∧ ((zsh M2 (zR M2 a0 1)).1 = 6 ∧ (zin a1 (zsh M2 (zR M2 a0 1)).2 ∧ ((zsh M2 (zR M2 a0 1)).1 = 6 ∧ (zin a2 (zsh M2 (zR M2 a0 1)).2 ∧ ((zsh M2 (zR M2 (zR M2 a0 1) a1.toNatClampNeg)).1 = 11 ∧ (let M6 : zM := zuR M2 (zR M2 a0 1) a2.toNatClampNeg (zR M2 (zR M2 a0 1) a1.toNatClampNeg)
(zsh M2 a0).1 = 12 ∧ ((zsh M2 (zR M6 a0 1)).1 = 6 ∧ (zin a1 (zsh M2 (zR M6 a0 1)).2 ∧ ((zsh M2 r3_5).1 = 11 ∧ (let M7 : zM := zuR M6 (zR M6 a0 1) a1.toNatClampNeg r3_5
let v1_8 : Int32 := a1 + 1
let v2_9 : Int32 := a2 + 1
wX3_dropNeedless d Q 4 [some (.ref a0), some (.int v1_8), some (.int v2_9), some (.ref r3_5)] [] M7)))))))))))))))))))))
) : wX3_dropNeedless d Q 4 [some (.ref a0), some (.int a1), some (.int a2), o3] [] M := zseg (zCl_good gTb d) (fun j => j == 4) 41 h
abbrev wX3_isCovered (d : Nat) (Q : List Value → zM → Prop) : Nat → zLv → List Value → zM → Prop := zW (zCl gTb d) 2 kX3_isCovered Q
theorem en_X3_isCovered {d : Nat} {Q : List Value → zM → Prop} (a0 : Nat) (a1 : Int32) (a2 : Int32) (M : zM) (h : wX3_isCovered d Q 0 [some (.ref a0), some (.int a1), some (.int a2), none, none, none] [] M) : zCl gTb (d + 1) nX3_isCovered [.ref a0, .int a1, .int a2] M Q := ⟨Nat.le_of_ble_eq_true rfl, h⟩
set_option maxRecDepth 100000 in
set_option maxHeartbeats 4000000 in
/-- from place 0 -/
theorem sg_X3_isCovered_0 {d : Nat} {Q : List Value → zM → Prop} (a0 : Nat) (a1 : Int32) (a2 : Int32) (M : zM) (h :
(zsh M a0).1 = 12 ∧ ((zsh M (zR M a0 1)).1 = 6 ∧ (zin a1 (zsh M (zR M a0 1)).2 ∧ ((zsh M (zR M (zR M a0 1) a1.toNatClampNeg)).1 = 11 ∧ (ycI d nX1_leading [.ref (zR M (zR M a0 1) a1.toNatClampNeg)] M fun c2 M1 => (wX3_isCovered d Q 8 [some (.ref a0), some (.int a1), some (.int a2), some (.int c2), some (.int ((0 : Int32))), none] [] M1)))))
) : wX3_isCovered d Q 0 [some (.ref a0), some (.int a1), some (.int a2), none, none, none] [] M := zseg (zCl_good gTb d) (fun j => j == 8 || j == 27) 13 h
set_option maxRecDepth 100000 in
set_option maxHeartbeats 4000000 in
/-- from place 8 -/
theorem sg_X3_isCovered_8 {d : Nat} {Q : List Value → zM → Prop} (a0 : Nat) (a1 : Int32) (a2 : Int32) (a3 : Int32) (a4 : Int32) (o5 : Option Value) (M : zM) (h :
(a2 ≤ a4 → (let v4_1 : Int32 := a1 + ((1 : Int32))
wX3_isCovered d Q 27 [some (.ref a0), some (.int a1), some (.int a2), some (.int a3), some (.int v4_1), o5] [] M)) ∧ (¬ (a2 ≤ a4) → ((zsh M a0).1 = 12 ∧ ((zsh M (zR M a0 1)).1 = 6 ∧ (zin a4 (zsh M (zR M a0 1)).2 ∧ ((zsh M (zR M (zR M a0 1) a4.toNatClampNeg)).1 = 11 ∧ (ycI d nX1_leading [.ref (zR M (zR M a0 1) a4.toNatClampNeg)] M fun c3 M2 => (ycI d nX4_divides [.int c3, .int a3] M2 fun c5 M4 => ((c5 = 0 → (let v4_6 : Int32 := a4 + 1
wX3_isCovered d Q 8 [some (.ref a0), some (.int a1), some (.int a2), some (.int a3), some (.int v4_6), o5] [] M4)) ∧ (¬ (c5 = 0) → (zb ((1 : Int32)) ∧ (Q [.int ((1 : Int32))] M4)))))))))))
) : wX3_isCovered d Q 8 [some (.ref a0), some (.int a1), some (.int a2), some (.int a3), some (.int a4), o5] [] M := zseg (zCl_good gTb d) (fun j => j == 8 || j == 27) 24 h
set_option maxRecDepth 100000 in
set_option maxHeartbeats 4000000 in
/-- from place 27 -/
theorem sg_X3_isCovered_27 {d : Nat} {Q : List Value → zM → Prop} (a0 : Nat) (o1 : Option Value) (o2 : Option Value) (a3 : Int32) (a4 : Int32) (o5 : Option Value) (M : zM) (h :
(zsh M a0).1 = 12 ∧ (((zI M a0 2) ≤ a4 → (zb ((0 : Int32)) ∧ (Q [.int ((0 : Int32))] M))) ∧ (¬ ((zI M a0 2) ≤ a4) → ((zsh M a0).1 = 12 ∧ ((zsh M (zR M a0 1)).1 = 6 ∧ (zin a4 (zsh M (zR M a0 1)).2 ∧ ((zsh M (zR M (zR M a0 1) a4.toNatClampNeg)).1 = 11 ∧ (ycI d nX1_leading [.ref (zR M (zR M a0 1) a4.toNatClampNeg)] M fun c2 M1 => ((c2 = a3 → (let v4_3 : Int32 := a4 + 1
wX3_isCovered d Q 27 [some (.ref a0), o1, o2, some (.int a3), some (.int v4_3), some (.int c2)] [] M1)) ∧ (¬ (c2 = a3) → (ycI d nX4_divides [.int c2, .int a3] M1 fun c5 M4 => ((c5 = 0 → (let v4_6 : Int32 := a4 + 1
wX3_isCovered d Q 27 [some (.ref a0), o1, o2, some (.int a3), some (.int v4_6), some (.int c2)] [] M4)) ∧ (¬ (c5 = 0) → (zb ((1 : Int32)) ∧ (Q [.int ((1 : Int32))] M4))))))))))))))
) : wX3_isCovered d Q 27 [some (.ref a0), o1, o2, some (.int a3), some (.int a4), o5] [] M := zseg (zCl_good gTb d) (fun j => j == 8 || j == 27) 30 h
abbrev wX3_sortElements (d : Nat) (Q : List Value → zM → Prop) : Nat → zLv → List Value → zM → Prop := zW (zCl gTb d) 0 kX3_sortElements Q
theorem en_X3_sortElements {d : Nat} {Q : List Value → zM → Prop} (a0 : Nat) (M : zM) (h : wX3_sortElements d Q 0 [some (.ref a0), none, none, none, none] [] M) : zCl gTb (d + 1) nX3_sortElements [.ref a0] M Q := ⟨Nat.le_of_ble_eq_true rfl, h⟩
set_option maxRecDepth 100000 in
set_option maxHeartbeats 4000000 in
/-- from place 0 -/
theorem sg_X3_sortElements_0 {d : Nat} {Q : List Value → zM → Prop} (a0 : Nat) (M : zM) (h :
wX3_sortElements d Q 2 [some (.ref a0), some (.int ((1 : Int32))), none, none, none] [] M
) : wX3_sortElements d Q 0 [some (.ref a0), none, none, none, none] [] M := zseg (zCl_good gTb d) (fun j => j == 2 || j == 19) 7 h
set_option maxRecDepth 100000 in
set_option maxHeartbeats 4000000 in
/-- from place 2 -/
theorem sg_X3_sortElements_2 {d : Nat} {Q : List Value → zM → Prop} (a0 : Nat) (a1 : Int32) (o2 : Option Value) (o3 : Option Value) (o4 : Option Value) (M : zM) (h :
(zsh M a0).1 = 12 ∧ (((zI M a0 2) ≤ a1 → (Q [] M)) ∧ (¬ ((zI M a0 2) ≤ a1) → ((zsh M a0).1 = 12 ∧ ((zsh M (zR M a0 1)).1 = 6 ∧ (zin a1 (zsh M (zR M a0 1)).2 ∧ (let r2_1 : Nat := zR M (zR M a0 1) a1.toNatClampNeg
(zsh M a0).1 = 12 ∧ ((zsh M r2_1).1 = 11 ∧ (ycI d nX1_leading [.ref r2_1] M fun c3 M2 => ((zsh M2 (zR M a0 0)).1 = 13 ∧ (ycI d nX5_rank [.ref (zR M a0 0), .int c3] M2 fun c5 M4 => (wX3_sortElements d Q 19 [some (.ref a0), some (.int a1), some (.ref r2_1), some (.int c5), some (.int a1)] [] M4)))))))))))
) : wX3_sortElements d Q 2 [some (.ref a0), some (.int a1), o2, o3, o4] [] M := zseg (zCl_good gTb d) (fun j => j == 2 || j == 19) 23 h
set_option maxRecDepth 100000 in
set_option maxHeartbeats 4000000 in
/-- from place 19 -/
theorem sg_X3_sortElements_19 {d : Nat} {Q : List Value → zM → Prop} (a0 : Nat) (a1 : Int32) (a2 : Nat) (a3 : Int32) (a4 : Int32) (M : zM) (h :
(a4 ≤ 0 → ((zsh M a0).1 = 12 ∧ ((zsh M (zR M a0 1)).1 = 6 ∧ (zin a4 (zsh M (zR M a0 1)).2 ∧ ((zsh M a2).1 = 11 ∧ (let M1 : zM := zuR M (zR M a0 1) a4.toNatClampNeg a2
let v1_2 : Int32 := a1 + 1
wX3_sortElements d Q 2 [some (.ref a0), some (.int v1_2), some (.ref a2), some (.int a3), some (.int a4)] [] M1)))))) ∧ (¬ (a4 ≤ 0) → ((zsh M a0).1 = 12 ∧ ((zsh M a0).1 = 12 ∧ ((zsh M (zR M a0 1)).1 = 6 ∧ (zin (a4 - ((1 : Int32))) (zsh M (zR M a0 1)).2 ∧ ((zsh M (zR M (zR M a0 1) (a4 - ((1 : Int32))).toNatClampNeg)).1 = 11 ∧ (ycI d nX1_leading [.ref (zR M (zR M a0 1) (a4 - ((1 : Int32))).toNatClampNeg)] M fun c4 M3 => ((zsh M3 (zR M a0 0)).1 = 13 ∧ (ycI d nX5_rank [.ref (zR M a0 0), .int c4] M3 fun c6 M5 => ((c6 ≤ a3 → ((zsh M5 a0).1 = 12 ∧ ((zsh M5 (zR M5 a0 1)).1 = 6 ∧ (zin a4 (zsh M5 (zR M5 a0 1)).2 ∧ ((zsh M5 a2).1 = 11 ∧ (let M7 : zM := zuR M5 (zR M5 a0 1) a4.toNatClampNeg a2
let v1_8 : Int32 := a1 + 1
wX3_sortElements d Q 2 [some (.ref a0), some (.int v1_8), some (.ref a2), some (.int a3), some (.int a4)] [] M7)))))) ∧ (¬ (c6 ≤ a3) → ((zsh M5 a0).1 = 12 ∧ ((zsh M5 a0).1 = 12 ∧ ((zsh M5 (zR M5 a0 1)).1 = 6 ∧ (zin (a4 - ((1 : Int32))) (zsh M5 (zR M5 a0 1)).2 ∧ ((zsh M5 (zR M5 a0 1)).1 = 6 ∧ (zin a4 (zsh M5 (zR M5 a0 1)).2 ∧ ((zsh M5 (zR M5 (zR M5 a0 1) (a4 - ((1 : Int32))).toNatClampNeg)).1 = 11 ∧ (let M9 : zM := zuR M5 (zR M5 a0 1) a4.toNatClampNeg (zR M5 (zR M5 a0 1) (a4 - ((1 : Int32))).toNatClampNeg)
let v4_10 : Int32 := a4 + (-1)
wX3_sortElements d Q 19 [some (.ref a0), some (.int a1), some (.ref a2), some (.int a3), some (.int v4_10)] [] M9)))))))))))))))))))
) : wX3_sortElements d Q 19 [some (.ref a0), some (.int a1), some (.ref a2), some (.int a3), some (.int a4)] [] M := zseg (zCl_good gTb d) (fun j => j == 2 || j == 19) 45 h
abbrev wX3_reduceElement (d : Nat) (Q : List Value → zM → Prop) : Nat → zLv → List Value → zM → Prop := zW (zCl gTb d) 1 kX3_reduceElement Q
theorem en_X3_reduceElement {d : Nat} {Q : List Value → zM → Prop} (a0 : Nat) (a1 : Int32) (a2 : Nat) (M : zM) (h : wX3_reduceElement d Q 0 [some (.ref a0), some (.int a1), some (.ref a2), none, none, none] [] M) : zCl gTb (d + 1) nX3_reduceElement [.ref a0, .int a1, .ref a2] M Q := ⟨Nat.le_of_ble_eq_true rfl, h⟩
set_option maxRecDepth 100000 in
set_option maxHeartbeats 4000000 in
/-- from place 0 -/
theorem sg_X3_reduceElement_0 {d : Nat} {Q : List Value → zM → Prop} (a0 : Nat) (a1 : Int32) (a2 : Nat) (M : zM) (h :
(zsh M a0).1 = 12 ∧ ((zsh M (zR M a0 1)).1 = 6 ∧ (zin a1 (zsh M (zR M a0 1)).2 ∧ (let r3_1 : Nat := zR M (zR M a0 1) a1.toNatClampNeg
(zsh M r3_1).1 = 11 ∧ (ycI d nX1_leading [.ref r3_1] M fun c3 M2 => ((zsh M2 a0).1 = 12 ∧ ((zsh M2 a2).1 = 10 ∧ (ycV d nX0_makeReady [.ref a2, .int (zI M2 a0 2)] M2 fun M4 => ((zsh M4 a2).1 = 10 ∧ ((zsh M4 r3_1).1 = 11 ∧ ((zsh M4 (zR M4 a2 0)).1 = 14 ∧ (ycV d nX6_become [.ref (zR M4 a2 0), .ref (zR M4 r3_1 0)] M4 fun M5 => ((zsh M5 a2).1 = 10 ∧ ((zsh M5 (zR M5 a2 0)).1 = 14 ∧ (ycV d nX6_behead [.ref (zR M5 a2 0)] M5 fun M6 => ((zsh M6 a0).1 = 12 ∧ ((zsh M6 a0).1 = 12 ∧ ((zsh M6 a2).1 = 10 ∧ (ycI d nX0_run [.ref a2, .ref (zR M6 a0 1), .int (zI M6 a0 2), .int a1] M6 fun c8 M7 => ((c8 = 0 → ((zsh M7 a0).1 = 12 ∧ (ycI d nX3_takeQuotients [.ref a0, .ref r3_1, .ref a2] M7 fun c10 M9 => ((¬ c10 = 0 → ((zsh M9 r3_1).1 = 11 ∧ ((zsh M9 a2).1 = 10 ∧ ((zsh M9 (zR M9 r3_1 0)).1 = 14 ∧ (ycV d nX6_become [.ref (zR M9 r3_1 0), .ref (zR M9 a2 1)] M9 fun M11 => ((zsh M11 r3_1).1 = 11 ∧ ((zsh M11 (zR M11 r3_1 0)).1 = 14 ∧ (ycI d nX6_come [.ref (zR M11 r3_1 0), .long ((4294967297 : Int64)), .int c3] M11 fun c13 M12 => ((c13 = 0 → (Q [.int (((-7) : Int32))] M12)) ∧ (¬ (c13 = 0) → (Q [.int ((0 : Int32))] M12))))))))))) ∧ (¬ (¬ c10 = 0) → (Q [.int (((-7) : Int32))] M9)))))) ∧ (¬ (c8 = 0) → (Q [.int c8] M7)))))))))))))))))))))
) : wX3_reduceElement d Q 0 [some (.ref a0), some (.int a1), some (.ref a2), none, none, none] [] M := zseg (zCl_good gTb d) (fun _ => false) 60 h
abbrev wX3_build (d : Nat) (Q : List Value → zM → Prop) : Nat → zLv → List Value → zM → Prop := zW (zCl gTb d) 1 kX3_build Q
theorem en_X3_build {d : Nat} {Q : List Value → zM → Prop} (a0 : Nat) (a1 : Nat) (a2 : Int32) (a3 : Int32) (a4 : Nat) (a5 : Int32) (M : zM) (h : wX3_build d Q 0 [some (.ref a0), some (.ref a1), some (.int a2), some (.int a3), some (.ref a4), some (.int a5), none, none] [] M) : zCl gTb (d + 1) nX3_build [.ref a0, .ref a1, .int a2, .int a3, .ref a4, .int a5] M Q := ⟨Nat.le_of_ble_eq_true rfl, h⟩
set_option maxRecDepth 100000 in
set_option maxHeartbeats 4000000 in
/-- from place 0 -/
theorem sg_X3_build_0 {d : Nat} {Q : List Value → zM → Prop} (a0 : Nat) (a1 : Nat) (a2 : Int32) (a3 : Int32) (a4 : Nat) (a5 : Int32) (M : zM) (h :
(zsh M a0).1 = 12 ∧ (ycV d nX3_begin [.ref a0, .int a3] M fun M1 => ((zsh M1 a4).1 = 10 ∧ (ycV d nX0_allow [.ref a4, .int a5] M1 fun M2 => ((zsh M2 a0).1 = 12 ∧ (ycI d nX3_adopt [.ref a0, .ref a1, .int a2] M2 fun c4 M3 => (wX3_build d Q 13 [some (.ref a0), some (.ref a1), some (.int a2), some (.int a3), some (.ref a4), some (.int a5), some (.int c4), some (.int ((0 : Int32)))] [] M3))))))
) : wX3_build d Q 0 [some (.ref a0), some (.ref a1), some (.int a2), some (.int a3), some (.ref a4), some (.int a5), none, none] [] M := zseg (zCl_good gTb d) (fun j => j == 13 || j == 39) 18 h
set_option maxRecDepth 100000 in
set_option maxHeartbeats 4000000 in
/-- from place 13 -/
theorem sg_X3_build_13 {d : Nat} {Q : List Value → zM → Prop} (a0 : Nat) (o1 : Option Value) (o2 : Option Value) (o3 : Option Value) (a4 : Nat) (o5 : Option Value) (a6 : Int32) (a7 : Int32) (M : zM) (h :
(((276 : Int32)) ≤ a7 → ((zsh M a0).1 = 12 ∧ ((zsh M a0).1 = 12 ∧ (let M1 : zM := zuI M a0 6 (zI M a0 2)
(¬ a6 = 0 → (wX3_build d Q 39 [some (.ref a0), o1, o2, o3, some (.ref a4), o5, some (.int a6), some (.int ((0 : Int32)))] [] M1)) ∧ (¬ (¬ a6 = 0) → ((zsh M a0).1 = 12 ∧ (ycV d nX3_dropNeedless [.ref a0] M1 fun M2 => ((zsh M2 a0).1 = 12 ∧ (ycV d nX3_sortElements [.ref a0] M2 fun M3 => (wX3_build d Q 39 [some (.ref a0), o1, o2, o3, some (.ref a4), o5, some (.int a6), some (.int ((0 : Int32)))] [] M3)))))))))) ∧ (¬ (((276 : Int32)) ≤ a7) → ((¬ a6 = 0 → ((zsh M a0).1 = 12 ∧ ((zsh M a0).1 = 12 ∧ (let M4 : zM := zuI M a0 6 (zI M a0 2)
(¬ a6 = 0 → (wX3_build d Q 39 [some (.ref a0), o1, o2, o3, some (.ref a4), o5, some (.int a6), some (.int ((0 : Int32)))] [] M4)) ∧ (¬ (¬ a6 = 0) → ((zsh M a0).1 = 12 ∧ (ycV d nX3_dropNeedless [.ref a0] M4 fun M5 => ((zsh M5 a0).1 = 12 ∧ (ycV d nX3_sortElements [.ref a0] M5 fun M6 => (wX3_build d Q 39 [some (.ref a0), o1, o2, o3, some (.ref a4), o5, some (.int a6), some (.int ((0 : Int32)))] [] M6)))))))))) ∧ (¬ (¬ a6 = 0) → ((zsh M a0).1 = 12 ∧ (ycI d nX3_choosePair [.ref a0] M fun c8 M7 => ((c8 = 0 → ((zsh M7 a0).1 = 12 ∧ ((zsh M7 a0).1 = 12 ∧ (let M9 : zM := zuI M7 a0 6 (zI M7 a0 2)
(¬ a6 = 0 → (wX3_build d Q 39 [some (.ref a0), o1, o2, o3, some (.ref a4), o5, some (.int a6), some (.int ((0 : Int32)))] [] M9)) ∧ (¬ (¬ a6 = 0) → ((zsh M7 a0).1 = 12 ∧ (ycV d nX3_dropNeedless [.ref a0] M9 fun M10 => ((zsh M10 a0).1 = 12 ∧ (ycV d nX3_sortElements [.ref a0] M10 fun M11 => (wX3_build d Q 39 [some (.ref a0), o1, o2, o3, some (.ref a4), o5, some (.int a6), some (.int ((0 : Int32)))] [] M11)))))))))) ∧ (¬ (c8 = 0) → ((zsh M7 a0).1 = 12 ∧ (ycI d nX3_settlePair [.ref a0, .ref a4] M7 fun c13 M12 => (let v7_14 : Int32 := a7 + 1
wX3_build d Q 13 [some (.ref a0), o1, o2, o3, some (.ref a4), zwipe o5, some (.int c13), some (.int v7_14)] [] M12))))))))))
) : wX3_build d Q 13 [some (.ref a0), o1, o2, o3, some (.ref a4), o5, some (.int a6), some (.int a7)] [] M := zseg (zCl_good gTb d) (fun j => j == 13 || j == 39) 61 h
set_option maxRecDepth 100000 in
set_option maxHeartbeats 4000000 in
/-- from place 39 -/
theorem sg_X3_build_39 {d : Nat} {Q : List Value → zM → Prop} (a0 : Nat) (o1 : Option Value) (o2 : Option Value) (o3 : Option Value) (a4 : Nat) (o5 : Option Value) (a6 : Int32) (a7 : Int32) (M : zM) (h :
(zsh M a0).1 = 12 ∧ (((zI M a0 2) ≤ a7 → ((zsh M a4).1 = 10 ∧ ((zsh M a0).1 = 12 ∧ (let M1 : zM := zuI M a0 3 (zI M a4 3)
Q [.int a6] M1)))) ∧ (¬ ((zI M a0 2) ≤ a7) → ((¬ a6 = 0 → ((zsh M a4).1 = 10 ∧ ((zsh M a0).1 = 12 ∧ (let M2 : zM := zuI M a0 3 (zI M a4 3)
Q [.int a6] M2)))) ∧ (¬ (¬ a6 = 0) → ((zsh M a0).1 = 12 ∧ (ycI d nX3_reduceElement [.ref a0, .int a7, .ref a4] M fun c4 M3 => (let v7_5 : Int32 := a7 + 1
wX3_build d Q 39 [some (.ref a0), o1, o2, o3, some (.ref a4), zwipe o5, some (.int c4), some (.int v7_5)] [] M3)))))))
) : wX3_build d Q 39 [some (.ref a0), o1, o2, o3, some (.ref a4), o5, some (.int a6), some (.int a7)] [] M := zseg (zCl_good gTb d) (fun j => j == 13 || j == 39) 30 h
abbrev wX3_isWhole (d : Nat) (Q : List Value → zM → Prop) : Nat → zLv → List Value → zM → Prop := zW (zCl gTb d) 2 kX3_isWhole Q
theorem en_X3_isWhole {d : Nat} {Q : List Value → zM → Prop} (a0 : Nat) (M : zM) (h : wX3_isWhole d Q 0 [some (.ref a0)] [] M) : zCl gTb (d + 1) nX3_isWhole [.ref a0] M Q := ⟨Nat.le_of_ble_eq_true rfl, h⟩
set_option maxRecDepth 100000 in
set_option maxHeartbeats 4000000 in
/-- from place 0 -/
theorem sg_X3_isWhole_0 {d : Nat} {Q : List Value → zM → Prop} (a0 : Nat) (M : zM) (h :
(zsh M a0).1 = 12 ∧ ((¬ (zI M a0 2) = ((1 : Int32)) → (zb ((0 : Int32)) ∧ (Q [.int ((0 : Int32))] M))) ∧ (¬ (¬ (zI M a0 2) = ((1 : Int32))) → ((zsh M a0).1 = 12 ∧ ((zsh M (zR M a0 1)).1 = 6 ∧ (zin ((0 : Int32)) (zsh M (zR M a0 1)).2 ∧ ((zsh M (zR M (zR M a0 1) ((0 : Int32)).toNatClampNeg)).1 = 11 ∧ (ycI d nX1_leading [.ref (zR M (zR M a0 1) ((0 : Int32)).toNatClampNeg)] M fun c2 M1 => ((¬ c2 = 0 → (zb ((0 : Int32)) ∧ (Q [.int ((0 : Int32))] M1))) ∧ (¬ (¬ c2 = 0) → (zb ((1 : Int32)) ∧ (Q [.int ((1 : Int32))] M1)))))))))))
) : wX3_isWhole d Q 0 [some (.ref a0)] [] M := zseg (zCl_good gTb d) (fun _ => false) 22 h
abbrev wX3_wall (d : Nat) (Q : List Value → zM → Prop) : Nat → zLv → List Value → zM → Prop := zW (zCl gTb d) 1 kX3_wall Q
theorem en_X3_wall {d : Nat} {Q : List Value → zM → Prop} (a0 : Nat) (a1 : Int32) (a2 : Int32) (M : zM) (h : wX3_wall d Q 0 [some (.ref a0), some (.int a1), some (.int a2), none, none, none, none] [] M) : zCl gTb (d + 1) nX3_wall [.ref a0, .int a1, .int a2] M Q := ⟨Nat.le_of_ble_eq_true rfl, h⟩
set_option maxRecDepth 100000 in
set_option maxHeartbeats 4000000 in
/-- from place 0 -/
theorem sg_X3_wall_0 {d : Nat} {Q : List Value → zM → Prop} (a0 : Nat) (a1 : Int32) (a2 : Int32) (M : zM) (h :
(a1 < a2 → (let v3_1 : Int32 := ((-1) : Int32)
wX3_wall d Q 9 [some (.ref a0), some (.int a1), some (.int a2), some (.int v3_1), some (.int ((0 : Int32))), none, none] [] M)) ∧ (¬ (a1 < a2) → (Q [.int ((1 : Int32))] M))
) : wX3_wall d Q 0 [some (.ref a0), some (.int a1), some (.int a2), none, none, none, none] [] M := zseg (zCl_good gTb d) (fun j => j == 9) 14 h
set_option maxRecDepth 100000 in
set_option maxHeartbeats 4000000 in
/-- from place 9 -/
theorem sg_X3_wall_9 {d : Nat} {Q : List Value → zM → Prop} (a0 : Nat) (a1 : Int32) (o2 : Option Value) (a3 : Int32) (a4 : Int32) (o5 : Option Value) (o6 : Option Value) (M : zM) (h :
(zsh M a0).1 = 12 ∧ (((zI M a0 2) ≤ a4 → (Q [.int a3] M)) ∧ (¬ ((zI M a0 2) ≤ a4) → ((zsh M a0).1 = 12 ∧ ((zsh M (zR M a0 1)).1 = 6 ∧ (zin a4 (zsh M (zR M a0 1)).2 ∧ ((zsh M (zR M (zR M a0 1) a4.toNatClampNeg)).1 = 11 ∧ (ycI d nX1_leading [.ref (zR M (zR M a0 1) a4.toNatClampNeg)] M fun c2 M1 => (ycI d nX4_exponent [.int c2, .int a1] M1 fun c4 M3 => ((¬ c2 = (c4 <<< ((((8 : Int32)) * a1) &&& 31)) → (let v4_5 : Int32 := a4 + 1
wX3_wall d Q 9 [some (.ref a0), some (.int a1), o2, some (.int a3), some (.int v4_5), some (.int c2), some (.int c4)] [] M3)) ∧ (¬ (¬ c2 = (c4 <<< ((((8 : Int32)) * a1) &&& 31))) → ((a3 < 0 → (let v4_6 : Int32 := a4 + 1
wX3_wall d Q 9 [some (.ref a0), some (.int a1), zwipe o2, some (.int c4), some (.int v4_6), some (.int c2), some (.int c4)] [] M3)) ∧ (¬ (a3 < 0) → ((a3 ≤ c4 → (let v4_7 : Int32 := a4 + 1
wX3_wall d Q 9 [some (.ref a0), some (.int a1), o2, some (.int a3), some (.int v4_7), some (.int c2), some (.int c4)] [] M3)) ∧ (¬ (a3 ≤ c4) → (let v4_8 : Int32 := a4 + 1
wX3_wall d Q 9 [some (.ref a0), some (.int a1), zwipe o2, some (.int c4), some (.int v4_8), some (.int c2), some (.int c4)] [] M3)))))))))))))))
) : wX3_wall d Q 9 [some (.ref a0), some (.int a1), o2, some (.int a3), some (.int a4), o5, o6] [] M := zseg (zCl_good gTb d) (fun j => j == 9) 45 h
abbrev wX3_height (d : Nat) (Q : List Value → zM → Prop) : Nat → zLv → List Value → zM → Prop := zW (zCl gTb d) 1 kX3_height Q
theorem en_X3_height {d : Nat} {Q : List Value → zM → Prop} (a0 : Nat) (a1 : Int32) (a2 : Int32) (M : zM) (h : wX3_height d Q 0 [some (.ref a0), some (.int a1), some (.int a2), none, none, none] [] M) : zCl gTb (d + 1) nX3_height [.ref a0, .int a1, .int a2] M Q := ⟨Nat.le_of_ble_eq_true rfl, h⟩
set_option maxRecDepth 100000 in
set_option maxHeartbeats 4000000 in
/-- from place 0 -/
theorem sg_X3_height_0 {d : Nat} {Q : List Value → zM → Prop} (a0 : Nat) (a1 : Int32) (a2 : Int32) (M : zM) (h :
wX3_height d Q 4 [some (.ref a0), some (.int a1), some (.int a2), some (.int a2), some (.int ((0 : Int32))), none] [] M
) : wX3_height d Q 0 [some (.ref a0), some (.int a1), some (.int a2), none, none, none] [] M := zseg (zCl_good gTb d) (fun j => j == 4) 9 h
set_option maxRecDepth 100000 in
set_option maxHeartbeats 4000000 in
/-- from place 4 -/
theorem sg_X3_height_4 {d : Nat} {Q : List Value → zM → Prop} (a0 : Nat) (a1 : Int32) (o2 : Option Value) (a3 : Int32) (a4 : Int32) (o5 : Option Value) (M : zM) (h :
(zsh M a0).1 = 12 ∧ (((zI M a0 2) ≤ a4 → (Q [.int a3] M)) ∧ (¬ ((zI M a0 2) ≤ a4) → ((zsh M a0).1 = 12 ∧ ((zsh M (zR M a0 1)).1 = 6 ∧ (zin a4 (zsh M (zR M a0 1)).2 ∧ ((zsh M (zR M (zR M a0 1) a4.toNatClampNeg)).1 = 11 ∧ (ycI d nX1_leading [.ref (zR M (zR M a0 1) a4.toNatClampNeg)] M fun c2 M1 => (ycI d nX4_divides [.int (c2 &&& ((16777215 : Int32))), .int a1] M1 fun c4 M3 => ((c4 = 0 → (let v4_5 : Int32 := a4 + 1
wX3_height d Q 4 [some (.ref a0), some (.int a1), o2, some (.int a3), some (.int v4_5), some (.int c2)] [] M3)) ∧ (¬ (c4 = 0) → (ycI d nX4_exponent [.int c2, .int ((3 : Int32))] M3 fun c7 M6 => (let v3_8 : Int32 := if c7 < a3 then c7 else a3
let v4_9 : Int32 := a4 + 1
wX3_height d Q 4 [some (.ref a0), some (.int a1), zwipe o2, some (.int v3_8), some (.int v4_9), some (.int c2)] [] M6))))))))))))
) : wX3_height d Q 4 [some (.ref a0), some (.int a1), o2, some (.int a3), some (.int a4), o5] [] M := zseg (zCl_good gTb d) (fun j => j == 4) 33 h
abbrev wX3_countBelow (d : Nat) (Q : List Value → zM → Prop) : Nat → zLv → List Value → zM → Prop := zW (zCl gTb d) 1 kX3_countBelow Q
theorem en_X3_countBelow {d : Nat} {Q : List Value → zM → Prop} (a0 : Nat) (a1 : Int32) (M : zM) (h : wX3_countBelow d Q 0 [some (.ref a0), some (.int a1), none, none, none, none, none, none, none, none] [] M) : zCl gTb (d + 1) nX3_countBelow [.ref a0, .int a1] M Q := ⟨Nat.le_of_ble_eq_true rfl, h⟩
set_option maxRecDepth 100000 in
set_option maxHeartbeats 4000000 in
/-- from place 0 -/
theorem sg_X3_countBelow_0 {d : Nat} {Q : List Value → zM → Prop} (a0 : Nat) (a1 : Int32) (M : zM) (h :
(zsh M a0).1 = 12 ∧ (ycI d nX3_wall [.ref a0, .int ((0 : Int32)), .int a1] M fun c2 M1 => ((zsh M1 a0).1 = 12 ∧ (ycI d nX3_wall [.ref a0, .int ((1 : Int32)), .int a1] M1 fun c4 M3 => ((zsh M3 a0).1 = 12 ∧ (ycI d nX3_wall [.ref a0, .int ((2 : Int32)), .int a1] M3 fun c6 M5 => ((zsh M5 a0).1 = 12 ∧ (ycI d nX3_wall [.ref a0, .int ((3 : Int32)), .int a1] M5 fun c8 M7 => ((c2 < 0 → (Q [.int (((-8) : Int32))] M7)) ∧ (¬ (c2 < 0) → ((c4 < 0 → (Q [.int (((-8) : Int32))] M7)) ∧ (¬ (c4 < 0) → ((c6 < 0 → (Q [.int (((-8) : Int32))] M7)) ∧ (¬ (c6 < 0) → ((0 ≤ c8 → (wX3_countBelow d Q 34 [some (.ref a0), some (.int a1), some (.int c2), some (.int c4), some (.int c6), some (.int c8), some (.int ((0 : Int32))), some (.int ((0 : Int32))), none, none] [] M7)) ∧ (¬ (0 ≤ c8) → (Q [.int (((-8) : Int32))] M7))))))))))))))))
) : wX3_countBelow d Q 0 [some (.ref a0), some (.int a1), none, none, none, none, none, none, none, none] [] M := zseg (zCl_good gTb d) (fun j => j == 34 || j == 39 || j == 44) 45 h
set_option maxRecDepth 100000 in
set_option maxHeartbeats 4000000 in
/-- from place 34 -/
theorem sg_X3_countBelow_34 {d : Nat} {Q : List Value → zM → Prop} (a0 : Nat) (o1 : Option Value) (a2 : Int32) (a3 : Int32) (a4 : Int32) (a5 : Int32) (a6 : Int32) (a7 : Int32) (o8 : Option Value) (o9 : Option Value) (M : zM) (h :
(a2 ≤ a7 → (Q [.int a6] M)) ∧ (¬ (a2 ≤ a7) → (wX3_countBelow d Q 39 [some (.ref a0), o1, some (.int a2), some (.int a3), some (.int a4), some (.int a5), some (.int a6), some (.int a7), some (.int ((0 : Int32))), o9] [] M))
) : wX3_countBelow d Q 34 [some (.ref a0), o1, some (.int a2), some (.int a3), some (.int a4), some (.int a5), some (.int a6), some (.int a7), o8, o9] [] M := zseg (zCl_good gTb d) (fun j => j == 34 || j == 39 || j == 44) 12 h
set_option maxRecDepth 100000 in
set_option maxHeartbeats 4000000 in
/-- from place 39 -/
theorem sg_X3_countBelow_39 {d : Nat} {Q : List Value → zM → Prop} (a0 : Nat) (o1 : Option Value) (a2 : Int32) (a3 : Int32) (a4 : Int32) (a5 : Int32) (a6 : Int32) (a7 : Int32) (a8 : Int32) (o9 : Option Value) (M : zM) (h :
(a3 ≤ a8 → (let v7_1 : Int32 := a7 + 1
wX3_countBelow d Q 34 [some (.ref a0), o1, some (.int a2), some (.int a3), some (.int a4), some (.int a5), some (.int a6), some (.int v7_1), some (.int a8), o9] [] M)) ∧ (¬ (a3 ≤ a8) → (wX3_countBelow d Q 44 [some (.ref a0), o1, some (.int a2), some (.int a3), some (.int a4), some (.int a5), some (.int a6), some (.int a7), some (.int a8), some (.int ((0 : Int32)))] [] M))
) : wX3_countBelow d Q 39 [some (.ref a0), o1, some (.int a2), some (.int a3), some (.int a4), some (.int a5), some (.int a6), some (.int a7), some (.int a8), o9] [] M := zseg (zCl_good gTb d) (fun j => j == 34 || j == 39 || j == 44) 12 h
set_option maxRecDepth 100000 in
set_option maxHeartbeats 4000000 in
/-- from place 44 -/
theorem sg_X3_countBelow_44 {d : Nat} {Q : List Value → zM → Prop} (a0 : Nat) (o1 : Option Value) (a2 : Int32) (a3 : Int32) (a4 : Int32) (a5 : Int32) (a6 : Int32) (a7 : Int32) (a8 : Int32) (a9 : Int32) (M : zM) (h :
(a4 ≤ a9 → (let v8_1 : Int32 := a8 + 1
wX3_countBelow d Q 39 [some (.ref a0), o1, some (.int a2), some (.int a3), some (.int a4), some (.int a5), some (.int a6), some (.int a7), some (.int v8_1), some (.int a9)] [] M)) ∧ (¬ (a4 ≤ a9) → ((zsh M a0).1 = 12 ∧ (ycI d nX3_height [.ref a0, .int ((a7 ||| (a8 <<< (((8 : Int32)) &&& 31))) ||| (a9 <<< (((16 : Int32)) &&& 31))), .int a5] M fun c3 M2 => (let v6_4 : Int32 := a6 + c3
let v9_5 : Int32 := a9 + 1
wX3_countBelow d Q 44 [some (.ref a0), o1, some (.int a2), some (.int a3), some (.int a4), some (.int a5), some (.int v6_4), some (.int a7), some (.int a8), some (.int v9_5)] [] M2))))
) : wX3_countBelow d Q 44 [some (.ref a0), o1, some (.int a2), some (.int a3), some (.int a4), some (.int a5), some (.int a6), some (.int a7), some (.int a8), some (.int a9)] [] M := zseg (zCl_good gTb d) (fun j => j == 34 || j == 39 || j == 44) 27 h
