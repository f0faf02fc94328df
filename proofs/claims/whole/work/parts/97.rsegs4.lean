/-! stretches of the small code, by wip/whole/vcgen.py -/
abbrev wX8_isPlace (d : Nat) (Q : List Value → zM → Prop) : Nat → zLv → List Value → zM → Prop := zW (zCl gTb d) 2 kX8_isPlace Q
theorem en_X8_isPlace {d : Nat} {Q : List Value → zM → Prop} (a0 : Int32) (M : zM) (h : wX8_isPlace d Q 0 [some (.int a0)] [] M) : zCl gTb (d + 1) nX8_isPlace [.int a0] M Q := ⟨Nat.le_of_ble_eq_true rfl, h⟩
set_option maxRecDepth 100000 in
set_option maxHeartbeats 4000000 in
/-- from place 0 -/
theorem sg_X8_isPlace_0 {d : Nat} {Q : List Value → zM → Prop} (a0 : Int32) (M : zM) (h :
(a0 < 0 → (zb ((0 : Int32)) ∧ (Q [.int ((0 : Int32))] M))) ∧ (¬ (a0 < 0) → ((((40 : Int32)) ≤ a0 → (zb ((0 : Int32)) ∧ (Q [.int ((0 : Int32))] M))) ∧ (¬ (((40 : Int32)) ≤ a0) → (zb ((1 : Int32)) ∧ (Q [.int ((1 : Int32))] M)))))
) : wX8_isPlace d Q 0 [some (.int a0)] [] M := zseg (zCl_good gTb d) (fun _ => false) 17 h
abbrev wX8_variables (d : Nat) (Q : List Value → zM → Prop) : Nat → zLv → List Value → zM → Prop := zW (zCl gTb d) 1 kX8_variables Q
theorem en_X8_variables {d : Nat} {Q : List Value → zM → Prop} (a0 : Nat) (M : zM) (h : wX8_variables d Q 0 [some (.ref a0)] [] M) : zCl gTb (d + 1) nX8_variables [.ref a0] M Q := ⟨Nat.le_of_ble_eq_true rfl, h⟩
set_option maxRecDepth 100000 in
set_option maxHeartbeats 4000000 in
/-- from place 0 -/
theorem sg_X8_variables_0 {d : Nat} {Q : List Value → zM → Prop} (a0 : Nat) (M : zM) (h :
(zsh M a0).1 = 16 ∧ (Q [.int (zI M a0 0)] M)
) : wX8_variables d Q 0 [some (.ref a0)] [] M := zseg (zCl_good gTb d) (fun _ => false) 8 h
abbrev wX8_order (d : Nat) (Q : List Value → zM → Prop) : Nat → zLv → List Value → zM → Prop := zW (zCl gTb d) 1 kX8_order Q
theorem en_X8_order {d : Nat} {Q : List Value → zM → Prop} (a0 : Nat) (a1 : Int32) (M : zM) (h : wX8_order d Q 0 [some (.ref a0), some (.int a1), none, none] [] M) : zCl gTb (d + 1) nX8_order [.ref a0, .int a1] M Q := ⟨Nat.le_of_ble_eq_true rfl, h⟩
set_option maxRecDepth 100000 in
set_option maxHeartbeats 4000000 in
/-- from place 0 -/
theorem sg_X8_order_0 {d : Nat} {Q : List Value → zM → Prop} (a0 : Nat) (a1 : Int32) (M : zM) (h :
(a1 < 0 → (Q [.int (((-2) : Int32))] M)) ∧ (¬ (a1 < 0) → ((a1 ≤ ((2 : Int32)) → (wX8_order d Q 7 [some (.ref a0), some (.int a1), none, none] [] M)) ∧ (¬ (a1 ≤ ((2 : Int32))) → (Q [.int (((-2) : Int32))] M))))
) : wX8_order d Q 0 [some (.ref a0), some (.int a1), none, none] [] M := zseg (zCl_good gTb d) (fun j => j == 7 || j == 15) 14 h
set_option maxRecDepth 100000 in
set_option maxHeartbeats 4000000 in
/-- from place 7 -/
theorem sg_X8_order_7 {d : Nat} {Q : List Value → zM → Prop} (a0 : Nat) (a1 : Int32) (o2 : Option Value) (o3 : Option Value) (M : zM) (h :
(zsh M a0).1 = 16 ∧ (let v2_1 : Int32 := zI M a0 2
(zsh M a0).1 = 16 ∧ (let M2 : zM := zuI M a0 2 a1
wX8_order d Q 15 [some (.ref a0), some (.int a1), some (.int v2_1), some (.int ((0 : Int32)))] [] M2))
) : wX8_order d Q 7 [some (.ref a0), some (.int a1), o2, o3] [] M := zseg (zCl_good gTb d) (fun j => j == 7 || j == 15) 13 h
set_option maxRecDepth 100000 in
set_option maxHeartbeats 4000000 in
/-- from place 15 -/
theorem sg_X8_order_15 {d : Nat} {Q : List Value → zM → Prop} (a0 : Nat) (o1 : Option Value) (a2 : Int32) (a3 : Int32) (M : zM) (h :
(zsh M a0).1 = 16 ∧ (((((40 : Int32)) + (zI M a0 7)) ≤ a3 → ((zsh M a0).1 = 16 ∧ (zb ((0 : Int32)) ∧ (let M1 : zM := zuI M a0 9 ((0 : Int32))
Q [.int a2] M1)))) ∧ (¬ ((((40 : Int32)) + (zI M a0 7)) ≤ a3) → ((zsh M a0).1 = 16 ∧ (ycV d nX8_sorted [.ref a0, .int a3] M fun M2 => (let v3_3 : Int32 := a3 + 1
wX8_order d Q 15 [some (.ref a0), o1, some (.int a2), some (.int v3_3)] [] M2)))))
) : wX8_order d Q 15 [some (.ref a0), o1, some (.int a2), some (.int a3)] [] M := zseg (zCl_good gTb d) (fun j => j == 7 || j == 15) 21 h
abbrev wX8_term (d : Nat) (Q : List Value → zM → Prop) : Nat → zLv → List Value → zM → Prop := zW (zCl gTb d) 1 kX8_term Q
theorem en_X8_term {d : Nat} {Q : List Value → zM → Prop} (a0 : Nat) (a1 : Int32) (a2 : Int32) (a3 : Int32) (a4 : Int32) (M : zM) (h : wX8_term d Q 0 [some (.ref a0), some (.int a1), some (.int a2), some (.int a3), some (.int a4), none, none, none, none] [] M) : zCl gTb (d + 1) nX8_term [.ref a0, .int a1, .int a2, .int a3, .int a4] M Q := ⟨Nat.le_of_ble_eq_true rfl, h⟩
set_option maxRecDepth 100000 in
set_option maxHeartbeats 4000000 in
/-- from place 0 -/
theorem sg_X8_term_0 {d : Nat} {Q : List Value → zM → Prop} (a0 : Nat) (a1 : Int32) (a2 : Int32) (a3 : Int32) (a4 : Int32) (M : zM) (h :
ycI d nX8_isPlace [.int a1] M fun c2 M1 => ((¬ c2 = 0 → ((a2 < (((-1000000000) : Int32)) → (wX8_term d Q 22 [some (.ref a0), some (.int a1), some (.int a2), some (.int a3), some (.int a4), none, none, none, none] [.int ((0 : Int32))] M1)) ∧ (¬ (a2 < (((-1000000000) : Int32))) → ((((1000000000 : Int32)) < a2 → (wX8_term d Q 22 [some (.ref a0), some (.int a1), some (.int a2), some (.int a3), some (.int a4), none, none, none, none] [.int ((0 : Int32))] M1)) ∧ (¬ (((1000000000 : Int32)) < a2) → ((a3 < (((-1000000000) : Int32)) → (wX8_term d Q 22 [some (.ref a0), some (.int a1), some (.int a2), some (.int a3), some (.int a4), none, none, none, none] [.int ((0 : Int32))] M1)) ∧ (¬ (a3 < (((-1000000000) : Int32))) → ((((1000000000 : Int32)) < a3 → (wX8_term d Q 22 [some (.ref a0), some (.int a1), some (.int a2), some (.int a3), some (.int a4), none, none, none, none] [.int ((0 : Int32))] M1)) ∧ (¬ (((1000000000 : Int32)) < a3) → ((a3 = 0 → (wX8_term d Q 22 [some (.ref a0), some (.int a1), some (.int a2), some (.int a3), some (.int a4), none, none, none, none] [.int ((0 : Int32))] M1)) ∧ (¬ (a3 = 0) → (wX8_term d Q 22 [some (.ref a0), some (.int a1), some (.int a2), some (.int a3), some (.int a4), none, none, none, none] [.int ((1 : Int32))] M1)))))))))))) ∧ (¬ (¬ c2 = 0) → (Q [.int (((-1) : Int32))] M1)))
) : wX8_term d Q 0 [some (.ref a0), some (.int a1), some (.int a2), some (.int a3), some (.int a4), none, none, none, none] [] M := zseg (zCl_good gTb d) (fun j => j == 22 || j == 27 || j == 52 || j == 65 || j == 76 || j == 101) 31 h
set_option maxRecDepth 100000 in
set_option maxHeartbeats 4000000 in
/-- from place 22 -/
theorem sg_X8_term_22 {d : Nat} {Q : List Value → zM → Prop} (a0 : Nat) (a1 : Int32) (a2 : Int32) (a3 : Int32) (a4 : Int32) (o5 : Option Value) (o6 : Option Value) (o7 : Option Value) (o8 : Option Value) (s0 : Int32) (M : zM) (h :
wX8_term d Q 27 [some (.ref a0), some (.int a1), some (.int a2), some (.int a3), some (.int a4), some (.int s0), some (.int ((0 : Int32))), some (.int ((0 : Int32))), o8] [] M
) : wX8_term d Q 22 [some (.ref a0), some (.int a1), some (.int a2), some (.int a3), some (.int a4), o5, o6, o7, o8] [.int s0] M := zseg (zCl_good gTb d) (fun j => j == 22 || j == 27 || j == 52 || j == 65 || j == 76 || j == 101) 10 h
set_option maxRecDepth 100000 in
set_option maxHeartbeats 4000000 in
/-- from place 27 -/
theorem sg_X8_term_27 {d : Nat} {Q : List Value → zM → Prop} (a0 : Nat) (a1 : Int32) (a2 : Int32) (a3 : Int32) (a4 : Int32) (a5 : Int32) (a6 : Int32) (a7 : Int32) (o8 : Option Value) (M : zM) (h :
(((4 : Int32)) ≤ a7 → (wX8_term d Q 65 [some (.ref a0), some (.int a1), some (.int a2), some (.int a3), some (.int a4), some (.int a5), some (.int a6), some (.int a7), o8] [] M)) ∧ (¬ (((4 : Int32)) ≤ a7) → (let v8_1 : Int32 := ((a4.toUInt32 >>> ((((8 : Int32)) * a7).toUInt32 &&& Int32.toUInt32 31)).toInt32) &&& ((255 : Int32))
(a5 = 0 → (wX8_term d Q 52 [some (.ref a0), some (.int a1), some (.int a2), some (.int a3), some (.int a4), some (.int a5), some (.int a6), some (.int a7), some (.int v8_1)] [.int ((0 : Int32))] M)) ∧ (¬ (a5 = 0) → ((zsh M a0).1 = 16 ∧ (((zI M a0 0) ≤ a7 → ((((0 : Int32)) < v8_1 → (wX8_term d Q 52 [some (.ref a0), some (.int a1), some (.int a2), some (.int a3), some (.int a4), some (.int a5), some (.int a6), some (.int a7), some (.int v8_1)] [.int ((0 : Int32))] M)) ∧ (¬ (((0 : Int32)) < v8_1) → (wX8_term d Q 52 [some (.ref a0), some (.int a1), some (.int a2), some (.int a3), some (.int a4), some (.int a5), some (.int a6), some (.int a7), some (.int v8_1)] [.int ((1 : Int32))] M)))) ∧ (¬ ((zI M a0 0) ≤ a7) → ((((30 : Int32)) < v8_1 → (wX8_term d Q 52 [some (.ref a0), some (.int a1), some (.int a2), some (.int a3), some (.int a4), some (.int a5), some (.int a6), some (.int a7), some (.int v8_1)] [.int ((0 : Int32))] M)) ∧ (¬ (((30 : Int32)) < v8_1) → (wX8_term d Q 52 [some (.ref a0), some (.int a1), some (.int a2), some (.int a3), some (.int a4), some (.int a5), some (.int a6), some (.int a7), some (.int v8_1)] [.int ((1 : Int32))] M)))))))))
) : wX8_term d Q 27 [some (.ref a0), some (.int a1), some (.int a2), some (.int a3), some (.int a4), some (.int a5), some (.int a6), some (.int a7), o8] [] M := zseg (zCl_good gTb d) (fun j => j == 22 || j == 27 || j == 52 || j == 65 || j == 76 || j == 101) 35 h
set_option maxRecDepth 100000 in
set_option maxHeartbeats 4000000 in
/-- from place 52 -/
theorem sg_X8_term_52 {d : Nat} {Q : List Value → zM → Prop} (a0 : Nat) (a1 : Int32) (a2 : Int32) (a3 : Int32) (a4 : Int32) (o5 : Option Value) (a6 : Int32) (a7 : Int32) (a8 : Int32) (s0 : Int32) (M : zM) (h :
let v6_1 : Int32 := a6 ||| ((a8 &&& ((31 : Int32))) <<< ((((5 : Int32)) * a7) &&& 31))
let v7_2 : Int32 := a7 + 1
wX8_term d Q 27 [some (.ref a0), some (.int a1), some (.int a2), some (.int a3), some (.int a4), some (.int s0), some (.int v6_1), some (.int v7_2), some (.int a8)] [] M
) : wX8_term d Q 52 [some (.ref a0), some (.int a1), some (.int a2), some (.int a3), some (.int a4), o5, some (.int a6), some (.int a7), some (.int a8)] [.int s0] M := zseg (zCl_good gTb d) (fun j => j == 22 || j == 27 || j == 52 || j == 65 || j == 76 || j == 101) 18 h
set_option maxRecDepth 100000 in
set_option maxHeartbeats 4000000 in
/-- from place 65 -/
theorem sg_X8_term_65 {d : Nat} {Q : List Value → zM → Prop} (a0 : Nat) (a1 : Int32) (a2 : Int32) (a3 : Int32) (o4 : Option Value) (a5 : Int32) (a6 : Int32) (o7 : Option Value) (o8 : Option Value) (M : zM) (h :
(¬ a5 = 0 → ((¬ a2 = 0 → (wX8_term d Q 76 [some (.ref a0), some (.int a1), some (.int a2), some (.int a3), o4, some (.int a5), some (.int a6), o7, o8] [] M)) ∧ (¬ (¬ a2 = 0) → ((zsh M a0).1 = 16 ∧ ((zsh M (zR M a0 6)).1 = 2 ∧ (zin a1 (zsh M (zR M a0 6)).2 ∧ (Q [.int (zI M (zR M a0 6) a1.toNatClampNeg)] M))))))) ∧ (¬ (¬ a5 = 0) → (Q [.int (((-2) : Int32))] M))
) : wX8_term d Q 65 [some (.ref a0), some (.int a1), some (.int a2), some (.int a3), o4, some (.int a5), some (.int a6), o7, o8] [] M := zseg (zCl_good gTb d) (fun j => j == 22 || j == 27 || j == 52 || j == 65 || j == 76 || j == 101) 16 h
set_option maxRecDepth 100000 in
set_option maxHeartbeats 4000000 in
/-- from place 76 -/
theorem sg_X8_term_76 {d : Nat} {Q : List Value → zM → Prop} (a0 : Nat) (a1 : Int32) (a2 : Int32) (a3 : Int32) (o4 : Option Value) (o5 : Option Value) (a6 : Int32) (o7 : Option Value) (o8 : Option Value) (M : zM) (h :
(zsh M a0).1 = 16 ∧ (zb ((0 : Int32)) ∧ (let M1 : zM := zuI M a0 11 ((0 : Int32))
(zsh M a0).1 = 16 ∧ (ycV d nX8_copy [.ref a0, .int a1, .int ((150 : Int32))] M1 fun M2 => ((0 ≤ a3 → ((0 ≤ a3 → ((zsh M2 a0).1 = 16 ∧ (ycV d nX8_lowest [.ref a0, .long (a2.toInt64), .long (a3.toInt64)] M2 fun M3 => (wX8_term d Q 101 [some (.ref a0), some (.int a1), some (.int a2), some (.int a3), o4, o5, some (.int a6), o7, o8] [] M3)))) ∧ (¬ (0 ≤ a3) → ((zsh M2 a0).1 = 16 ∧ (ycV d nX8_lowest [.ref a0, .long (a2.toInt64), .long ((-a3).toInt64)] M2 fun M4 => (wX8_term d Q 101 [some (.ref a0), some (.int a1), some (.int a2), some (.int a3), o4, o5, some (.int a6), o7, o8] [] M4)))))) ∧ (¬ (0 ≤ a3) → ((0 ≤ a3 → ((zsh M2 a0).1 = 16 ∧ (ycV d nX8_lowest [.ref a0, .long ((-a2).toInt64), .long (a3.toInt64)] M2 fun M5 => (wX8_term d Q 101 [some (.ref a0), some (.int a1), some (.int a2), some (.int a3), o4, o5, some (.int a6), o7, o8] [] M5)))) ∧ (¬ (0 ≤ a3) → ((zsh M2 a0).1 = 16 ∧ (ycV d nX8_lowest [.ref a0, .long ((-a2).toInt64), .long ((-a3).toInt64)] M2 fun M6 => (wX8_term d Q 101 [some (.ref a0), some (.int a1), some (.int a2), some (.int a3), o4, o5, some (.int a6), o7, o8] [] M6))))))))))
) : wX8_term d Q 76 [some (.ref a0), some (.int a1), some (.int a2), some (.int a3), o4, o5, some (.int a6), o7, o8] [] M := zseg (zCl_good gTb d) (fun j => j == 22 || j == 27 || j == 52 || j == 65 || j == 76 || j == 101) 41 h
set_option maxRecDepth 100000 in
set_option maxHeartbeats 4000000 in
/-- from place 101 -/
theorem sg_X8_term_101 {d : Nat} {Q : List Value → zM → Prop} (a0 : Nat) (a1 : Int32) (o2 : Option Value) (o3 : Option Value) (o4 : Option Value) (o5 : Option Value) (a6 : Int32) (o7 : Option Value) (o8 : Option Value) (M : zM) (h :
(zsh M a0).1 = 16 ∧ ((zsh M a0).1 = 16 ∧ ((zsh M a0).1 = 16 ∧ (ycV d nX8_comes [.ref a0, .int ((150 : Int32)), .int (zI M a0 16), .int (zI M a0 17), .int a6] M fun M1 => ((zsh M1 a0).1 = 16 ∧ (ycI d nX8_taken [.ref a0, .int ((150 : Int32)), .int a1] M1 fun c3 M2 => (Q [.int c3] M2))))))
) : wX8_term d Q 101 [some (.ref a0), some (.int a1), o2, o3, o4, o5, some (.int a6), o7, o8] [] M := zseg (zCl_good gTb d) (fun j => j == 22 || j == 27 || j == 52 || j == 65 || j == 76 || j == 101) 18 h
abbrev wX8_zero (d : Nat) (Q : List Value → zM → Prop) : Nat → zLv → List Value → zM → Prop := zW (zCl gTb d) 1 kX8_zero Q
theorem en_X8_zero {d : Nat} {Q : List Value → zM → Prop} (a0 : Nat) (a1 : Int32) (M : zM) (h : wX8_zero d Q 0 [some (.ref a0), some (.int a1), none] [] M) : zCl gTb (d + 1) nX8_zero [.ref a0, .int a1] M Q := ⟨Nat.le_of_ble_eq_true rfl, h⟩
set_option maxRecDepth 100000 in
set_option maxHeartbeats 4000000 in
/-- from place 0 -/
theorem sg_X8_zero_0 {d : Nat} {Q : List Value → zM → Prop} (a0 : Nat) (a1 : Int32) (M : zM) (h :
ycI d nX8_isPlace [.int a1] M fun c2 M1 => ((¬ c2 = 0 → ((zsh M1 a0).1 = 16 ∧ ((zsh M1 (zR M1 a0 6)).1 = 2 ∧ (zin a1 (zsh M1 (zR M1 a0 6)).2 ∧ (let v2_3 : Int32 := zI M1 (zR M1 a0 6) a1.toNatClampNeg
(zsh M1 a0).1 = 16 ∧ ((zsh M1 (zR M1 a0 6)).1 = 2 ∧ (zin a1 (zsh M1 (zR M1 a0 6)).2 ∧ (let M4 : zM := zuI M1 (zR M1 a0 6) a1.toNatClampNeg ((0 : Int32))
Q [.int v2_3] M4)))))))) ∧ (¬ (¬ c2 = 0) → (Q [.int (((-1) : Int32))] M1)))
) : wX8_zero d Q 0 [some (.ref a0), some (.int a1), none] [] M := zseg (zCl_good gTb d) (fun _ => false) 22 h
abbrev wX8_size (d : Nat) (Q : List Value → zM → Prop) : Nat → zLv → List Value → zM → Prop := zW (zCl gTb d) 1 kX8_size Q
theorem en_X8_size {d : Nat} {Q : List Value → zM → Prop} (a0 : Nat) (a1 : Int32) (M : zM) (h : wX8_size d Q 0 [some (.ref a0), some (.int a1)] [] M) : zCl gTb (d + 1) nX8_size [.ref a0, .int a1] M Q := ⟨Nat.le_of_ble_eq_true rfl, h⟩
set_option maxRecDepth 100000 in
set_option maxHeartbeats 4000000 in
/-- from place 0 -/
theorem sg_X8_size_0 {d : Nat} {Q : List Value → zM → Prop} (a0 : Nat) (a1 : Int32) (M : zM) (h :
ycI d nX8_isPlace [.int a1] M fun c2 M1 => ((c2 = 0 → (Q [.int (((-1) : Int32))] M1)) ∧ (¬ (c2 = 0) → ((zsh M1 a0).1 = 16 ∧ ((zsh M1 (zR M1 a0 6)).1 = 2 ∧ (zin a1 (zsh M1 (zR M1 a0 6)).2 ∧ (Q [.int (zI M1 (zR M1 a0 6) a1.toNatClampNeg)] M1))))))
) : wX8_size d Q 0 [some (.ref a0), some (.int a1)] [] M := zseg (zCl_good gTb d) (fun _ => false) 16 h
abbrev wX8_told (d : Nat) (Q : List Value → zM → Prop) : Nat → zLv → List Value → zM → Prop := zW (zCl gTb d) 1 kX8_told Q
theorem en_X8_told {d : Nat} {Q : List Value → zM → Prop} (a0 : Nat) (a1 : Int32) (a2 : Int32) (a3 : Int32) (M : zM) (h : wX8_told d Q 0 [some (.ref a0), some (.int a1), some (.int a2), some (.int a3), none, none, none] [] M) : zCl gTb (d + 1) nX8_told [.ref a0, .int a1, .int a2, .int a3] M Q := ⟨Nat.le_of_ble_eq_true rfl, h⟩
set_option maxRecDepth 100000 in
set_option maxHeartbeats 4000000 in
/-- from place 0 -/
theorem sg_X8_told_0 {d : Nat} {Q : List Value → zM → Prop} (a0 : Nat) (a1 : Int32) (a2 : Int32) (a3 : Int32) (M : zM) (h :
ycI d nX8_isPlace [.int a1] M fun c2 M1 => ((c2 = 0 → (Q [.int (((-1) : Int32))] M1)) ∧ (¬ (c2 = 0) → ((a2 < 0 → (Q [.int (((-1) : Int32))] M1)) ∧ (¬ (a2 < 0) → ((zsh M1 a0).1 = 16 ∧ ((zsh M1 (zR M1 a0 6)).1 = 2 ∧ (zin a1 (zsh M1 (zR M1 a0 6)).2 ∧ ((a2 < (zI M1 (zR M1 a0 6) a1.toNatClampNeg) → (wX8_told d Q 13 [some (.ref a0), some (.int a1), some (.int a2), some (.int a3), none, none, none] [] M1)) ∧ (¬ (a2 < (zI M1 (zR M1 a0 6) a1.toNatClampNeg)) → (Q [.int (((-1) : Int32))] M1))))))))))
) : wX8_told d Q 0 [some (.ref a0), some (.int a1), some (.int a2), some (.int a3), none, none, none] [] M := zseg (zCl_good gTb d) (fun j => j == 13 || j == 23 || j == 41) 22 h
set_option maxRecDepth 100000 in
set_option maxHeartbeats 4000000 in
/-- from place 13 -/
theorem sg_X8_told_13 {d : Nat} {Q : List Value → zM → Prop} (a0 : Nat) (a1 : Int32) (a2 : Int32) (a3 : Int32) (o4 : Option Value) (o5 : Option Value) (o6 : Option Value) (M : zM) (h :
let v4_1 : Int32 := (((100 : Int32)) * a1) + a2
wX8_told d Q 23 [some (.ref a0), some (.int a1), some (.int a2), some (.int a3), some (.int v4_1), some (.int ((0 : Int32))), some (.int ((0 : Int32)))] [] M
) : wX8_told d Q 13 [some (.ref a0), some (.int a1), some (.int a2), some (.int a3), o4, o5, o6] [] M := zseg (zCl_good gTb d) (fun j => j == 13 || j == 23 || j == 41) 15 h
set_option maxRecDepth 100000 in
set_option maxHeartbeats 4000000 in
/-- from place 23 -/
theorem sg_X8_told_23 {d : Nat} {Q : List Value → zM → Prop} (a0 : Nat) (o1 : Option Value) (o2 : Option Value) (a3 : Int32) (a4 : Int32) (a5 : Int32) (a6 : Int32) (M : zM) (h :
(((4 : Int32)) ≤ a6 → (wX8_told d Q 41 [some (.ref a0), o1, o2, some (.int a3), some (.int a4), some (.int a5), some (.int a6)] [] M)) ∧ (¬ (((4 : Int32)) ≤ a6) → ((zsh M a0).1 = 16 ∧ ((zsh M (zR M a0 5)).1 = 2 ∧ (zin a4 (zsh M (zR M a0 5)).2 ∧ (ycI d nX8_exponent [.int (zI M (zR M a0 5) a4.toNatClampNeg), .int a6] M fun c2 M1 => (let v5_3 : Int32 := a5 ||| (c2 <<< ((((8 : Int32)) * a6) &&& 31))
let v6_4 : Int32 := a6 + 1
wX8_told d Q 23 [some (.ref a0), o1, o2, some (.int a3), some (.int a4), some (.int v5_3), some (.int v6_4)] [] M1))))))
) : wX8_told d Q 23 [some (.ref a0), o1, o2, some (.int a3), some (.int a4), some (.int a5), some (.int a6)] [] M := zseg (zCl_good gTb d) (fun j => j == 13 || j == 23 || j == 41) 23 h
set_option maxRecDepth 100000 in
set_option maxHeartbeats 4000000 in
/-- from place 41 -/
theorem sg_X8_told_41 {d : Nat} {Q : List Value → zM → Prop} (a0 : Nat) (o1 : Option Value) (o2 : Option Value) (a3 : Int32) (a4 : Int32) (a5 : Int32) (o6 : Option Value) (M : zM) (h :
(¬ a3 = 0 → ((¬ a3 = ((1 : Int32)) → ((¬ a3 = ((2 : Int32)) → (Q [.int (((-2) : Int32))] M)) ∧ (¬ (¬ a3 = ((2 : Int32))) → (Q [.int a5] M)))) ∧ (¬ (¬ a3 = ((1 : Int32))) → ((zsh M a0).1 = 16 ∧ ((zsh M (zR M a0 4)).1 = 2 ∧ (zin a4 (zsh M (zR M a0 4)).2 ∧ (Q [.int (zI M (zR M a0 4) a4.toNatClampNeg)] M))))))) ∧ (¬ (¬ a3 = 0) → ((zsh M a0).1 = 16 ∧ ((zsh M (zR M a0 3)).1 = 2 ∧ (zin a4 (zsh M (zR M a0 3)).2 ∧ (Q [.int (zI M (zR M a0 3) a4.toNatClampNeg)] M)))))
) : wX8_told d Q 41 [some (.ref a0), o1, o2, some (.int a3), some (.int a4), some (.int a5), o6] [] M := zseg (zCl_good gTb d) (fun j => j == 13 || j == 23 || j == 41) 30 h
abbrev wX8_plus (d : Nat) (Q : List Value → zM → Prop) : Nat → zLv → List Value → zM → Prop := zW (zCl gTb d) 1 kX8_plus Q
theorem en_X8_plus {d : Nat} {Q : List Value → zM → Prop} (a0 : Nat) (a1 : Int32) (a2 : Int32) (a3 : Int32) (M : zM) (h : wX8_plus d Q 0 [some (.ref a0), some (.int a1), some (.int a2), some (.int a3)] [] M) : zCl gTb (d + 1) nX8_plus [.ref a0, .int a1, .int a2, .int a3] M Q := ⟨Nat.le_of_ble_eq_true rfl, h⟩
set_option maxRecDepth 100000 in
set_option maxHeartbeats 4000000 in
/-- from place 0 -/
theorem sg_X8_plus_0 {d : Nat} {Q : List Value → zM → Prop} (a0 : Nat) (a1 : Int32) (a2 : Int32) (a3 : Int32) (M : zM) (h :
ycI d nX8_isPlace [.int a1] M fun c2 M1 => ((c2 = 0 → (Q [.int (((-1) : Int32))] M1)) ∧ (¬ (c2 = 0) → (ycI d nX8_isPlace [.int a2] M1 fun c4 M3 => ((c4 = 0 → (Q [.int (((-1) : Int32))] M3)) ∧ (¬ (c4 = 0) → (ycI d nX8_isPlace [.int a3] M3 fun c6 M5 => ((¬ c6 = 0 → (wX8_plus d Q 11 [some (.ref a0), some (.int a1), some (.int a2), some (.int a3)] [] M5)) ∧ (¬ (¬ c6 = 0) → (Q [.int (((-1) : Int32))] M5)))))))))
) : wX8_plus d Q 0 [some (.ref a0), some (.int a1), some (.int a2), some (.int a3)] [] M := zseg (zCl_good gTb d) (fun j => j == 11) 20 h
set_option maxRecDepth 100000 in
set_option maxHeartbeats 4000000 in
/-- from place 11 -/
theorem sg_X8_plus_11 {d : Nat} {Q : List Value → zM → Prop} (a0 : Nat) (a1 : Int32) (a2 : Int32) (a3 : Int32) (M : zM) (h :
(zsh M a0).1 = 16 ∧ (zb ((0 : Int32)) ∧ (let M1 : zM := zuI M a0 11 ((0 : Int32))
(zsh M a0).1 = 16 ∧ (ycV d nX8_copy [.ref a0, .int a1, .int ((150 : Int32))] M1 fun M2 => ((zsh M2 a0).1 = 16 ∧ (ycV d nX8_adds [.ref a0, .int ((150 : Int32)), .int ((1 : Int32)), .int ((1 : Int32)), .int ((0 : Int32)), .int a2] M2 fun M3 => ((zsh M3 a0).1 = 16 ∧ (ycI d nX8_taken [.ref a0, .int ((150 : Int32)), .int a3] M3 fun c5 M4 => (Q [.int c5] M4))))))))
) : wX8_plus d Q 11 [some (.ref a0), some (.int a1), some (.int a2), some (.int a3)] [] M := zseg (zCl_good gTb d) (fun j => j == 11) 24 h
abbrev wX8_times (d : Nat) (Q : List Value → zM → Prop) : Nat → zLv → List Value → zM → Prop := zW (zCl gTb d) 1 kX8_times Q
theorem en_X8_times {d : Nat} {Q : List Value → zM → Prop} (a0 : Nat) (a1 : Int32) (a2 : Int32) (a3 : Int32) (M : zM) (h : wX8_times d Q 0 [some (.ref a0), some (.int a1), some (.int a2), some (.int a3)] [] M) : zCl gTb (d + 1) nX8_times [.ref a0, .int a1, .int a2, .int a3] M Q := ⟨Nat.le_of_ble_eq_true rfl, h⟩
set_option maxRecDepth 100000 in
set_option maxHeartbeats 4000000 in
/-- from place 0 -/
theorem sg_X8_times_0 {d : Nat} {Q : List Value → zM → Prop} (a0 : Nat) (a1 : Int32) (a2 : Int32) (a3 : Int32) (M : zM) (h :
ycI d nX8_isPlace [.int a1] M fun c2 M1 => ((c2 = 0 → (Q [.int (((-1) : Int32))] M1)) ∧ (¬ (c2 = 0) → (ycI d nX8_isPlace [.int a2] M1 fun c4 M3 => ((c4 = 0 → (Q [.int (((-1) : Int32))] M3)) ∧ (¬ (c4 = 0) → (ycI d nX8_isPlace [.int a3] M3 fun c6 M5 => ((¬ c6 = 0 → (wX8_times d Q 11 [some (.ref a0), some (.int a1), some (.int a2), some (.int a3)] [] M5)) ∧ (¬ (¬ c6 = 0) → (Q [.int (((-1) : Int32))] M5)))))))))
) : wX8_times d Q 0 [some (.ref a0), some (.int a1), some (.int a2), some (.int a3)] [] M := zseg (zCl_good gTb d) (fun j => j == 11) 20 h
set_option maxRecDepth 100000 in
set_option maxHeartbeats 4000000 in
/-- from place 11 -/
theorem sg_X8_times_11 {d : Nat} {Q : List Value → zM → Prop} (a0 : Nat) (a1 : Int32) (a2 : Int32) (a3 : Int32) (M : zM) (h :
(zsh M a0).1 = 16 ∧ (zb ((0 : Int32)) ∧ (let M1 : zM := zuI M a0 11 ((0 : Int32))
(zsh M a0).1 = 16 ∧ (ycV d nX8_made [.ref a0, .int a1, .int a2, .int ((150 : Int32))] M1 fun M2 => ((zsh M2 a0).1 = 16 ∧ (ycI d nX8_taken [.ref a0, .int ((150 : Int32)), .int a3] M2 fun c4 M3 => (Q [.int c4] M3))))))
) : wX8_times d Q 11 [some (.ref a0), some (.int a1), some (.int a2), some (.int a3)] [] M := zseg (zCl_good gTb d) (fun j => j == 11) 18 h
abbrev wX8_same (d : Nat) (Q : List Value → zM → Prop) : Nat → zLv → List Value → zM → Prop := zW (zCl gTb d) 1 kX8_same Q
theorem en_X8_same {d : Nat} {Q : List Value → zM → Prop} (a0 : Nat) (a1 : Int32) (a2 : Int32) (M : zM) (h : wX8_same d Q 0 [some (.ref a0), some (.int a1), some (.int a2)] [] M) : zCl gTb (d + 1) nX8_same [.ref a0, .int a1, .int a2] M Q := ⟨Nat.le_of_ble_eq_true rfl, h⟩
set_option maxRecDepth 100000 in
set_option maxHeartbeats 4000000 in
/-- from place 0 -/
theorem sg_X8_same_0 {d : Nat} {Q : List Value → zM → Prop} (a0 : Nat) (a1 : Int32) (a2 : Int32) (M : zM) (h :
ycI d nX8_isPlace [.int a1] M fun c2 M1 => ((c2 = 0 → (Q [.int (((-1) : Int32))] M1)) ∧ (¬ (c2 = 0) → (ycI d nX8_isPlace [.int a2] M1 fun c4 M3 => ((¬ c4 = 0 → ((zsh M3 a0).1 = 16 ∧ (ycI d nX8_isSame [.ref a0, .int a1, .int a2] M3 fun c6 M5 => ((c6 = 0 → (Q [.int ((0 : Int32))] M5)) ∧ (¬ (c6 = 0) → (Q [.int ((1 : Int32))] M5)))))) ∧ (¬ (¬ c4 = 0) → (Q [.int (((-1) : Int32))] M3))))))
) : wX8_same d Q 0 [some (.ref a0), some (.int a1), some (.int a2)] [] M := zseg (zCl_good gTb d) (fun _ => false) 27 h
abbrev wX8_vanishes (d : Nat) (Q : List Value → zM → Prop) : Nat → zLv → List Value → zM → Prop := zW (zCl gTb d) 1 kX8_vanishes Q
theorem en_X8_vanishes {d : Nat} {Q : List Value → zM → Prop} (a0 : Nat) (a1 : Int32) (a2 : Int32) (a3 : Int32) (a4 : Int32) (a5 : Int32) (M : zM) (h : wX8_vanishes d Q 0 [some (.ref a0), some (.int a1), some (.int a2), some (.int a3), some (.int a4), some (.int a5), none, none, none, none, none, none, none] [] M) : zCl gTb (d + 1) nX8_vanishes [.ref a0, .int a1, .int a2, .int a3, .int a4, .int a5] M Q := ⟨Nat.le_of_ble_eq_true rfl, h⟩
set_option maxRecDepth 100000 in
set_option maxHeartbeats 4000000 in
/-- from place 0 -/
theorem sg_X8_vanishes_0 {d : Nat} {Q : List Value → zM → Prop} (a0 : Nat) (a1 : Int32) (a2 : Int32) (a3 : Int32) (a4 : Int32) (a5 : Int32) (M : zM) (h :
ycI d nX8_isPlace [.int a1] M fun c2 M1 => ((¬ c2 = 0 → (wX8_vanishes d Q 5 [some (.ref a0), some (.int a1), some (.int a2), some (.int a3), some (.int a4), some (.int a5), none, none, none, none, none, none, none] [] M1)) ∧ (¬ (¬ c2 = 0) → (Q [.int (((-1) : Int32))] M1)))
) : wX8_vanishes d Q 0 [some (.ref a0), some (.int a1), some (.int a2), some (.int a3), some (.int a4), some (.int a5), none, none, none, none, none, none, none] [] M := zseg (zCl_good gTb d) (fun j => j == 5 || j == 27 || j == 45 || j == 47 || j == 56 || j == 82 || j == 88 || j == 125 || j == 127 || j == 158) 10 h
set_option maxRecDepth 100000 in
set_option maxHeartbeats 4000000 in
/-- from place 5 -/
theorem sg_X8_vanishes_5 {d : Nat} {Q : List Value → zM → Prop} (a0 : Nat) (a1 : Int32) (a2 : Int32) (a3 : Int32) (a4 : Int32) (a5 : Int32) (o6 : Option Value) (o7 : Option Value) (o8 : Option Value) (o9 : Option Value) (o10 : Option Value) (o11 : Option Value) (o12 : Option Value) (M : zM) (h :
(zsh M a0).1 = 16 ∧ ((zsh M (zR M a0 18)).1 = 2 ∧ (zin ((0 : Int32)) (zsh M (zR M a0 18)).2 ∧ (let M1 : zM := zuI M (zR M a0 18) ((0 : Int32)).toNatClampNeg a2
(zsh M a0).1 = 16 ∧ ((zsh M (zR M a0 18)).1 = 2 ∧ (zin ((1 : Int32)) (zsh M (zR M a0 18)).2 ∧ (let M2 : zM := zuI M1 (zR M a0 18) ((1 : Int32)).toNatClampNeg a3
(zsh M a0).1 = 16 ∧ ((zsh M (zR M a0 18)).1 = 2 ∧ (zin ((2 : Int32)) (zsh M (zR M a0 18)).2 ∧ (let M3 : zM := zuI M2 (zR M a0 18) ((2 : Int32)).toNatClampNeg a4
(zsh M a0).1 = 16 ∧ ((zsh M (zR M a0 18)).1 = 2 ∧ (zin ((3 : Int32)) (zsh M (zR M a0 18)).2 ∧ (let M4 : zM := zuI M3 (zR M a0 18) ((3 : Int32)).toNatClampNeg a5
wX8_vanishes d Q 27 [some (.ref a0), some (.int a1), some (.int a2), some (.int a3), some (.int a4), some (.int a5), some (.int ((0 : Int32))), o7, o8, o9, o10, o11, o12] [] M4))))))))))))
) : wX8_vanishes d Q 5 [some (.ref a0), some (.int a1), some (.int a2), some (.int a3), some (.int a4), some (.int a5), o6, o7, o8, o9, o10, o11, o12] [] M := zseg (zCl_good gTb d) (fun j => j == 5 || j == 27 || j == 45 || j == 47 || j == 56 || j == 82 || j == 88 || j == 125 || j == 127 || j == 158) 27 h
set_option maxRecDepth 100000 in
set_option maxHeartbeats 4000000 in
/-- from place 27 -/
theorem sg_X8_vanishes_27 {d : Nat} {Q : List Value → zM → Prop} (a0 : Nat) (a1 : Int32) (o2 : Option Value) (o3 : Option Value) (o4 : Option Value) (o5 : Option Value) (a6 : Int32) (o7 : Option Value) (o8 : Option Value) (o9 : Option Value) (o10 : Option Value) (o11 : Option Value) (o12 : Option Value) (M : zM) (h :
(zsh M a0).1 = 16 ∧ (((zI M a0 0) ≤ a6 → (wX8_vanishes d Q 47 [some (.ref a0), some (.int a1), o2, o3, o4, o5, some (.int a6), o7, o8, o9, o10, o11, o12] [] M)) ∧ (¬ ((zI M a0 0) ≤ a6) → ((zsh M a0).1 = 16 ∧ ((zsh M (zR M a0 18)).1 = 2 ∧ (zin a6 (zsh M (zR M a0 18)).2 ∧ (((zI M (zR M a0 18) a6.toNatClampNeg) < (((-1000) : Int32)) → (Q [.int (((-2) : Int32))] M)) ∧ (¬ ((zI M (zR M a0 18) a6.toNatClampNeg) < (((-1000) : Int32))) → ((zsh M a0).1 = 16 ∧ ((zsh M (zR M a0 18)).1 = 2 ∧ (zin a6 (zsh M (zR M a0 18)).2 ∧ (((zI M (zR M a0 18) a6.toNatClampNeg) ≤ ((1000 : Int32)) → (wX8_vanishes d Q 45 [some (.ref a0), some (.int a1), o2, o3, o4, o5, some (.int a6), o7, o8, o9, o10, o11, o12] [] M)) ∧ (¬ ((zI M (zR M a0 18) a6.toNatClampNeg) ≤ ((1000 : Int32))) → (Q [.int (((-2) : Int32))] M)))))))))))))
) : wX8_vanishes d Q 27 [some (.ref a0), some (.int a1), o2, o3, o4, o5, some (.int a6), o7, o8, o9, o10, o11, o12] [] M := zseg (zCl_good gTb d) (fun j => j == 5 || j == 27 || j == 45 || j == 47 || j == 56 || j == 82 || j == 88 || j == 125 || j == 127 || j == 158) 25 h
set_option maxRecDepth 100000 in
set_option maxHeartbeats 4000000 in
/-- from place 45 -/
theorem sg_X8_vanishes_45 {d : Nat} {Q : List Value → zM → Prop} (a0 : Nat) (a1 : Int32) (o2 : Option Value) (o3 : Option Value) (o4 : Option Value) (o5 : Option Value) (a6 : Int32) (o7 : Option Value) (o8 : Option Value) (o9 : Option Value) (o10 : Option Value) (o11 : Option Value) (o12 : Option Value) (M : zM) (h :
let v6_1 : Int32 := a6 + 1
wX8_vanishes d Q 27 [some (.ref a0), some (.int a1), o2, o3, o4, zwipe o5, some (.int v6_1), o7, o8, o9, o10, o11, o12] [] M
) : wX8_vanishes d Q 45 [some (.ref a0), some (.int a1), o2, o3, o4, o5, some (.int a6), o7, o8, o9, o10, o11, o12] [] M := zseg (zCl_good gTb d) (fun j => j == 5 || j == 27 || j == 45 || j == 47 || j == 56 || j == 82 || j == 88 || j == 125 || j == 127 || j == 158) 7 h
set_option maxRecDepth 100000 in
set_option maxHeartbeats 4000000 in
/-- from place 47 -/
theorem sg_X8_vanishes_47 {d : Nat} {Q : List Value → zM → Prop} (a0 : Nat) (a1 : Int32) (o2 : Option Value) (o3 : Option Value) (o4 : Option Value) (o5 : Option Value) (o6 : Option Value) (o7 : Option Value) (o8 : Option Value) (o9 : Option Value) (o10 : Option Value) (o11 : Option Value) (o12 : Option Value) (M : zM) (h :
(zsh M a0).1 = 16 ∧ (zb ((0 : Int32)) ∧ (let M1 : zM := zuI M a0 11 ((0 : Int32))
wX8_vanishes d Q 56 [some (.ref a0), some (.int a1), o2, o3, o4, zwipe o5, some (.int ((0 : Int32))), some (.int ((1 : Int32))), some (.int ((0 : Int32))), o9, o10, o11, o12] [] M1))
) : wX8_vanishes d Q 47 [some (.ref a0), some (.int a1), o2, o3, o4, o5, o6, o7, o8, o9, o10, o11, o12] [] M := zseg (zCl_good gTb d) (fun j => j == 5 || j == 27 || j == 45 || j == 47 || j == 56 || j == 82 || j == 88 || j == 125 || j == 127 || j == 158) 14 h
set_option maxRecDepth 100000 in
set_option maxHeartbeats 4000000 in
/-- from place 56 -/
theorem sg_X8_vanishes_56 {d : Nat} {Q : List Value → zM → Prop} (a0 : Nat) (a1 : Int32) (o2 : Option Value) (o3 : Option Value) (o4 : Option Value) (o5 : Option Value) (a6 : Int32) (a7 : Int32) (a8 : Int32) (o9 : Option Value) (o10 : Option Value) (o11 : Option Value) (o12 : Option Value) (M : zM) (h :
(zsh M a0).1 = 16 ∧ ((zsh M (zR M a0 6)).1 = 2 ∧ (zin a1 (zsh M (zR M a0 6)).2 ∧ (((zI M (zR M a0 6) a1.toNatClampNeg) ≤ a8 → (wX8_vanishes d Q 158 [some (.ref a0), some (.int a1), o2, o3, o4, o5, some (.int a6), some (.int a7), some (.int a8), o9, o10, o11, o12] [] M)) ∧ (¬ ((zI M (zR M a0 6) a1.toNatClampNeg) ≤ a8) → ((zsh M a0).1 = 16 ∧ ((zsh M (zR M a0 3)).1 = 2 ∧ (zin ((((100 : Int32)) * a1) + a8) (zsh M (zR M a0 3)).2 ∧ (let v9_1 : Int32 := zI M (zR M a0 3) ((((100 : Int32)) * a1) + a8).toNatClampNeg
(zsh M a0).1 = 16 ∧ ((zsh M (zR M a0 4)).1 = 2 ∧ (zin ((((100 : Int32)) * a1) + a8) (zsh M (zR M a0 4)).2 ∧ (let v10_2 : Int32 := zI M (zR M a0 4) ((((100 : Int32)) * a1) + a8).toNatClampNeg
wX8_vanishes d Q 82 [some (.ref a0), some (.int a1), o2, o3, o4, o5, some (.int a6), some (.int a7), some (.int a8), some (.int v9_1), some (.int v10_2), some (.int ((0 : Int32))), o12] [] M)))))))))))
) : wX8_vanishes d Q 56 [some (.ref a0), some (.int a1), o2, o3, o4, o5, some (.int a6), some (.int a7), some (.int a8), o9, o10, o11, o12] [] M := zseg (zCl_good gTb d) (fun j => j == 5 || j == 27 || j == 45 || j == 47 || j == 56 || j == 82 || j == 88 || j == 125 || j == 127 || j == 158) 31 h
set_option maxRecDepth 100000 in
set_option maxHeartbeats 4000000 in
/-- from place 82 -/
theorem sg_X8_vanishes_82 {d : Nat} {Q : List Value → zM → Prop} (a0 : Nat) (a1 : Int32) (o2 : Option Value) (o3 : Option Value) (o4 : Option Value) (o5 : Option Value) (a6 : Int32) (a7 : Int32) (a8 : Int32) (a9 : Int32) (a10 : Int32) (a11 : Int32) (o12 : Option Value) (M : zM) (h :
(zsh M a0).1 = 16 ∧ (((zI M a0 0) ≤ a11 → (wX8_vanishes d Q 127 [some (.ref a0), some (.int a1), o2, o3, o4, o5, some (.int a6), some (.int a7), some (.int a8), some (.int a9), some (.int a10), some (.int a11), o12] [] M)) ∧ (¬ ((zI M a0 0) ≤ a11) → (wX8_vanishes d Q 88 [some (.ref a0), some (.int a1), o2, o3, o4, o5, some (.int a6), some (.int a7), some (.int a8), some (.int a9), some (.int a10), some (.int a11), some (.int ((0 : Int32)))] [] M)))
) : wX8_vanishes d Q 82 [some (.ref a0), some (.int a1), o2, o3, o4, o5, some (.int a6), some (.int a7), some (.int a8), some (.int a9), some (.int a10), some (.int a11), o12] [] M := zseg (zCl_good gTb d) (fun j => j == 5 || j == 27 || j == 45 || j == 47 || j == 56 || j == 82 || j == 88 || j == 125 || j == 127 || j == 158) 11 h
set_option maxRecDepth 100000 in
set_option maxHeartbeats 4000000 in
/-- from place 88 -/
theorem sg_X8_vanishes_88 {d : Nat} {Q : List Value → zM → Prop} (a0 : Nat) (a1 : Int32) (o2 : Option Value) (o3 : Option Value) (o4 : Option Value) (o5 : Option Value) (a6 : Int32) (a7 : Int32) (a8 : Int32) (a9 : Int32) (a10 : Int32) (a11 : Int32) (a12 : Int32) (M : zM) (h :
(zsh M a0).1 = 16 ∧ ((zsh M (zR M a0 5)).1 = 2 ∧ (zin ((((100 : Int32)) * a1) + a8) (zsh M (zR M a0 5)).2 ∧ (ycI d nX8_exponent [.int (zI M (zR M a0 5) ((((100 : Int32)) * a1) + a8).toNatClampNeg), .int a11] M fun c2 M1 => ((c2 ≤ a12 → (wX8_vanishes d Q 125 [some (.ref a0), some (.int a1), o2, o3, o4, o5, some (.int a6), some (.int a7), some (.int a8), some (.int a9), some (.int a10), some (.int a11), some (.int a12)] [] M1)) ∧ (¬ (c2 ≤ a12) → ((zsh M1 a0).1 = 16 ∧ ((zsh M1 (zR M1 a0 18)).1 = 2 ∧ (zin a11 (zsh M1 (zR M1 a0 18)).2 ∧ ((zsh M1 a0).1 = 16 ∧ (ycV d nX8_multiplied [.ref a0, .long (a9.toInt64), .long (a10.toInt64), .long ((zI M1 (zR M1 a0 18) a11.toNatClampNeg).toInt64), .long ((1 : Int64))] M1 fun M3 => ((zsh M3 a0).1 = 16 ∧ (((zI M3 a0 11) = 0 → ((zsh M3 a0).1 = 16 ∧ (let v9_4 : Int32 := zI M3 a0 16
(zsh M3 a0).1 = 16 ∧ (let v10_5 : Int32 := zI M3 a0 17
let v12_6 : Int32 := a12 + 1
wX8_vanishes d Q 88 [some (.ref a0), some (.int a1), o2, o3, o4, o5, some (.int a6), some (.int a7), some (.int a8), some (.int v9_4), some (.int v10_5), some (.int a11), some (.int v12_6)] [] M3)))) ∧ (¬ ((zI M3 a0 11) = 0) → (Q [.int (((-7) : Int32))] M3))))))))))))))
) : wX8_vanishes d Q 88 [some (.ref a0), some (.int a1), o2, o3, o4, o5, some (.int a6), some (.int a7), some (.int a8), some (.int a9), some (.int a10), some (.int a11), some (.int a12)] [] M := zseg (zCl_good gTb d) (fun j => j == 5 || j == 27 || j == 45 || j == 47 || j == 56 || j == 82 || j == 88 || j == 125 || j == 127 || j == 158) 42 h
set_option maxRecDepth 100000 in
set_option maxHeartbeats 4000000 in
/-- from place 125 -/
theorem sg_X8_vanishes_125 {d : Nat} {Q : List Value → zM → Prop} (a0 : Nat) (a1 : Int32) (o2 : Option Value) (o3 : Option Value) (o4 : Option Value) (o5 : Option Value) (a6 : Int32) (a7 : Int32) (a8 : Int32) (a9 : Int32) (a10 : Int32) (a11 : Int32) (o12 : Option Value) (M : zM) (h :
let v11_1 : Int32 := a11 + 1
wX8_vanishes d Q 82 [some (.ref a0), some (.int a1), o2, o3, o4, o5, some (.int a6), some (.int a7), some (.int a8), some (.int a9), some (.int a10), some (.int v11_1), o12] [] M
) : wX8_vanishes d Q 125 [some (.ref a0), some (.int a1), o2, o3, o4, o5, some (.int a6), some (.int a7), some (.int a8), some (.int a9), some (.int a10), some (.int a11), o12] [] M := zseg (zCl_good gTb d) (fun j => j == 5 || j == 27 || j == 45 || j == 47 || j == 56 || j == 82 || j == 88 || j == 125 || j == 127 || j == 158) 7 h
set_option maxRecDepth 100000 in
set_option maxHeartbeats 4000000 in
/-- from place 127 -/
theorem sg_X8_vanishes_127 {d : Nat} {Q : List Value → zM → Prop} (a0 : Nat) (a1 : Int32) (o2 : Option Value) (o3 : Option Value) (o4 : Option Value) (o5 : Option Value) (a6 : Int32) (a7 : Int32) (a8 : Int32) (a9 : Int32) (a10 : Int32) (o11 : Option Value) (o12 : Option Value) (M : zM) (h :
(zsh M a0).1 = 16 ∧ (ycV d nX8_lowest [.ref a0, .long (((a6.toInt64) * (a10.toInt64)) + ((a9.toInt64) * (a7.toInt64))), .long ((a7.toInt64) * (a10.toInt64))] M fun M1 => ((zsh M1 a0).1 = 16 ∧ (((zI M1 a0 11) = 0 → ((zsh M1 a0).1 = 16 ∧ (let v6_2 : Int32 := zI M1 a0 16
(zsh M1 a0).1 = 16 ∧ (let v7_3 : Int32 := zI M1 a0 17
let v8_4 : Int32 := a8 + 1
wX8_vanishes d Q 56 [some (.ref a0), some (.int a1), o2, o3, o4, zwipe o5, some (.int v6_2), some (.int v7_3), some (.int v8_4), some (.int a9), some (.int a10), o11, o12] [] M1)))) ∧ (¬ ((zI M1 a0 11) = 0) → (Q [.int (((-7) : Int32))] M1)))))
) : wX8_vanishes d Q 127 [some (.ref a0), some (.int a1), o2, o3, o4, o5, some (.int a6), some (.int a7), some (.int a8), some (.int a9), some (.int a10), o11, o12] [] M := zseg (zCl_good gTb d) (fun j => j == 5 || j == 27 || j == 45 || j == 47 || j == 56 || j == 82 || j == 88 || j == 125 || j == 127 || j == 158) 36 h
set_option maxRecDepth 100000 in
set_option maxHeartbeats 4000000 in
/-- from place 158 -/
theorem sg_X8_vanishes_158 {d : Nat} {Q : List Value → zM → Prop} (o0 : Option Value) (o1 : Option Value) (o2 : Option Value) (o3 : Option Value) (o4 : Option Value) (o5 : Option Value) (a6 : Int32) (o7 : Option Value) (o8 : Option Value) (o9 : Option Value) (o10 : Option Value) (o11 : Option Value) (o12 : Option Value) (M : zM) (h :
(¬ a6 = 0 → (Q [.int ((0 : Int32))] M)) ∧ (¬ (¬ a6 = 0) → (Q [.int ((1 : Int32))] M))
) : wX8_vanishes d Q 158 [o0, o1, o2, o3, o4, o5, some (.int a6), o7, o8, o9, o10, o11, o12] [] M := zseg (zCl_good gTb d) (fun j => j == 5 || j == 27 || j == 45 || j == 47 || j == 56 || j == 82 || j == 88 || j == 125 || j == 127 || j == 158) 12 h
abbrev wX8_generator (d : Nat) (Q : List Value → zM → Prop) : Nat → zLv → List Value → zM → Prop := zW (zCl gTb d) 1 kX8_generator Q
theorem en_X8_generator {d : Nat} {Q : List Value → zM → Prop} (a0 : Nat) (a1 : Int32) (M : zM) (h : wX8_generator d Q 0 [some (.ref a0), some (.int a1)] [] M) : zCl gTb (d + 1) nX8_generator [.ref a0, .int a1] M Q := ⟨Nat.le_of_ble_eq_true rfl, h⟩
set_option maxRecDepth 100000 in
set_option maxHeartbeats 4000000 in
/-- from place 0 -/
theorem sg_X8_generator_0 {d : Nat} {Q : List Value → zM → Prop} (a0 : Nat) (a1 : Int32) (M : zM) (h :
ycI d nX8_isPlace [.int a1] M fun c2 M1 => ((¬ c2 = 0 → (wX8_generator d Q 5 [some (.ref a0), some (.int a1)] [] M1)) ∧ (¬ (¬ c2 = 0) → (Q [.int (((-1) : Int32))] M1)))
) : wX8_generator d Q 0 [some (.ref a0), some (.int a1)] [] M := zseg (zCl_good gTb d) (fun j => j == 5) 10 h
set_option maxRecDepth 100000 in
set_option maxHeartbeats 4000000 in
/-- from place 5 -/
theorem sg_X8_generator_5 {d : Nat} {Q : List Value → zM → Prop} (a0 : Nat) (a1 : Int32) (M : zM) (h :
(zsh M a0).1 = 16 ∧ ((¬ (zI M a0 7) = ((8 : Int32)) → ((zsh M a0).1 = 16 ∧ ((zsh M a0).1 = 16 ∧ (ycV d nX8_copy [.ref a0, .int a1, .int (((40 : Int32)) + (zI M a0 7))] M fun M1 => ((zsh M1 a0).1 = 16 ∧ ((zsh M1 a0).1 = 16 ∧ (let M2 : zM := zuI M1 a0 7 ((zI M1 a0 7) + ((1 : Int32)))
(zsh M1 a0).1 = 16 ∧ (zb ((0 : Int32)) ∧ (let M3 : zM := zuI M2 a0 9 ((0 : Int32))
(zsh M1 a0).1 = 16 ∧ (Q [.int ((zI M3 a0 7) - ((1 : Int32)))] M3)))))))))) ∧ (¬ (¬ (zI M a0 7) = ((8 : Int32))) → (Q [.int (((-4) : Int32))] M)))
) : wX8_generator d Q 5 [some (.ref a0), some (.int a1)] [] M := zseg (zCl_good gTb d) (fun j => j == 5) 32 h
abbrev wX8_clear (d : Nat) (Q : List Value → zM → Prop) : Nat → zLv → List Value → zM → Prop := zW (zCl gTb d) 1 kX8_clear Q
theorem en_X8_clear {d : Nat} {Q : List Value → zM → Prop} (a0 : Nat) (M : zM) (h : wX8_clear d Q 0 [some (.ref a0), none] [] M) : zCl gTb (d + 1) nX8_clear [.ref a0] M Q := ⟨Nat.le_of_ble_eq_true rfl, h⟩
set_option maxRecDepth 100000 in
set_option maxHeartbeats 4000000 in
/-- from place 0 -/
theorem sg_X8_clear_0 {d : Nat} {Q : List Value → zM → Prop} (a0 : Nat) (M : zM) (h :
(zsh M a0).1 = 16 ∧ (let v1_1 : Int32 := zI M a0 7
(zsh M a0).1 = 16 ∧ (let M2 : zM := zuI M a0 7 ((0 : Int32))
(zsh M a0).1 = 16 ∧ (zb ((0 : Int32)) ∧ (let M3 : zM := zuI M2 a0 9 ((0 : Int32))
Q [.int v1_1] M3))))
) : wX8_clear d Q 0 [some (.ref a0), none] [] M := zseg (zCl_good gTb d) (fun _ => false) 16 h
abbrev wX8_basis (d : Nat) (Q : List Value → zM → Prop) : Nat → zLv → List Value → zM → Prop := zW (zCl gTb d) 1 kX8_basis Q
theorem en_X8_basis {d : Nat} {Q : List Value → zM → Prop} (a0 : Nat) (a1 : Int32) (M : zM) (h : wX8_basis d Q 0 [some (.ref a0), some (.int a1)] [] M) : zCl gTb (d + 1) nX8_basis [.ref a0, .int a1] M Q := ⟨Nat.le_of_ble_eq_true rfl, h⟩
set_option maxRecDepth 100000 in
set_option maxHeartbeats 4000000 in
/-- from place 0 -/
theorem sg_X8_basis_0 {d : Nat} {Q : List Value → zM → Prop} (a0 : Nat) (a1 : Int32) (M : zM) (h :
(a1 < 0 → (Q [.int (((-2) : Int32))] M)) ∧ (¬ (a1 < 0) → ((a1 ≤ ((20000 : Int32)) → (wX8_basis d Q 7 [some (.ref a0), some (.int a1)] [] M)) ∧ (¬ (a1 ≤ ((20000 : Int32))) → (Q [.int (((-2) : Int32))] M))))
) : wX8_basis d Q 0 [some (.ref a0), some (.int a1)] [] M := zseg (zCl_good gTb d) (fun j => j == 7 || j == 28) 14 h
set_option maxRecDepth 100000 in
set_option maxHeartbeats 4000000 in
/-- from place 7 -/
theorem sg_X8_basis_7 {d : Nat} {Q : List Value → zM → Prop} (a0 : Nat) (a1 : Int32) (M : zM) (h :
(zsh M a0).1 = 16 ∧ (zb ((0 : Int32)) ∧ (let M1 : zM := zuI M a0 11 ((0 : Int32))
(zsh M a0).1 = 16 ∧ (zb ((0 : Int32)) ∧ (let M2 : zM := zuI M1 a0 12 ((0 : Int32))
(zsh M a0).1 = 16 ∧ (let M3 : zM := zuI M2 a0 13 ((0 : Int32))
(zsh M a0).1 = 16 ∧ (let M4 : zM := zuI M3 a0 14 a1
(zsh M a0).1 = 16 ∧ (zb ((0 : Int32)) ∧ (let M5 : zM := zuI M4 a0 10 ((0 : Int32))
(zsh M a0).1 = 16 ∧ ((zsh M a0).1 = 16 ∧ (ycV d nX8_make [.ref a0, .int ((50 : Int32)), .int (zI M5 a0 7), .int ((1 : Int32))] M5 fun M6 => (wX8_basis d Q 28 [some (.ref a0), some (.int a1)] [] M6)))))))))))
) : wX8_basis d Q 7 [some (.ref a0), some (.int a1)] [] M := zseg (zCl_good gTb d) (fun j => j == 7 || j == 28) 26 h
set_option maxRecDepth 100000 in
set_option maxHeartbeats 4000000 in
/-- from place 28 -/
theorem sg_X8_basis_28 {d : Nat} {Q : List Value → zM → Prop} (a0 : Nat) (o1 : Option Value) (M : zM) (h :
(zsh M a0).1 = 16 ∧ ((zsh M a0).1 = 16 ∧ ((zsh M (zR M a0 15)).1 = 2 ∧ (zin ((0 : Int32)) (zsh M (zR M a0 15)).2 ∧ (let M1 : zM := zuI M (zR M a0 15) ((0 : Int32)).toNatClampNeg (zI M a0 13)
(zsh M a0).1 = 16 ∧ ((zsh M a0).1 = 16 ∧ ((zsh M (zR M a0 15)).1 = 2 ∧ (zin ((1 : Int32)) (zsh M (zR M a0 15)).2 ∧ (let M2 : zM := zuI M1 (zR M a0 15) ((1 : Int32)).toNatClampNeg (zI M1 a0 24)
(zsh M a0).1 = 16 ∧ ((zsh M a0).1 = 16 ∧ ((zsh M (zR M a0 15)).1 = 2 ∧ (zin ((2 : Int32)) (zsh M (zR M a0 15)).2 ∧ (let M3 : zM := zuI M2 (zR M a0 15) ((2 : Int32)).toNatClampNeg (zI M2 a0 25)
(zsh M a0).1 = 16 ∧ ((zsh M a0).1 = 16 ∧ ((zsh M (zR M a0 15)).1 = 2 ∧ (zin ((3 : Int32)) (zsh M (zR M a0 15)).2 ∧ (let M4 : zM := zuI M3 (zR M a0 15) ((3 : Int32)).toNatClampNeg (zI M3 a0 26)
(zsh M a0).1 = 16 ∧ ((zsh M a0).1 = 16 ∧ (let M5 : zM := zuI M4 a0 8 (zI M4 a0 20)
(zsh M a0).1 = 16 ∧ ((¬ (zI M5 a0 11) = 0 → ((zsh M a0).1 = 16 ∧ (zb ((0 : Int32)) ∧ (let M6 : zM := zuI M5 a0 9 ((0 : Int32))
(zsh M a0).1 = 16 ∧ (((zI M6 a0 12) = 0 → ((zsh M a0).1 = 16 ∧ (((zI M6 a0 11) = 0 → ((zsh M a0).1 = 16 ∧ (Q [.int (zI M6 a0 8)] M6))) ∧ (¬ ((zI M6 a0 11) = 0) → (Q [.int (((-7) : Int32))] M6))))) ∧ (¬ ((zI M6 a0 12) = 0) → (Q [.int (((-6) : Int32))] M6))))))) ∧ (¬ (¬ (zI M5 a0 11) = 0) → ((zsh M a0).1 = 16 ∧ ((¬ (zI M5 a0 12) = 0 → ((zsh M a0).1 = 16 ∧ (zb ((0 : Int32)) ∧ (let M7 : zM := zuI M5 a0 9 ((0 : Int32))
(zsh M a0).1 = 16 ∧ (((zI M7 a0 12) = 0 → ((zsh M a0).1 = 16 ∧ (((zI M7 a0 11) = 0 → ((zsh M a0).1 = 16 ∧ (Q [.int (zI M7 a0 8)] M7))) ∧ (¬ ((zI M7 a0 11) = 0) → (Q [.int (((-7) : Int32))] M7))))) ∧ (¬ ((zI M7 a0 12) = 0) → (Q [.int (((-6) : Int32))] M7))))))) ∧ (¬ (¬ (zI M5 a0 12) = 0) → ((zsh M a0).1 = 16 ∧ (zb ((1 : Int32)) ∧ (let M8 : zM := zuI M5 a0 9 ((1 : Int32))
(zsh M a0).1 = 16 ∧ (((zI M8 a0 12) = 0 → ((zsh M a0).1 = 16 ∧ (((zI M8 a0 11) = 0 → ((zsh M a0).1 = 16 ∧ (Q [.int (zI M8 a0 8)] M8))) ∧ (¬ ((zI M8 a0 11) = 0) → (Q [.int (((-7) : Int32))] M8))))) ∧ (¬ ((zI M8 a0 12) = 0) → (Q [.int (((-6) : Int32))] M8)))))))))))))))))))))))))))))
) : wX8_basis d Q 28 [some (.ref a0), o1] [] M := zseg (zCl_good gTb d) (fun j => j == 7 || j == 28) 92 h
abbrev wX8_done (d : Nat) (Q : List Value → zM → Prop) : Nat → zLv → List Value → zM → Prop := zW (zCl gTb d) 1 kX8_done Q
theorem en_X8_done {d : Nat} {Q : List Value → zM → Prop} (a0 : Nat) (a1 : Int32) (M : zM) (h : wX8_done d Q 0 [some (.ref a0), some (.int a1)] [] M) : zCl gTb (d + 1) nX8_done [.ref a0, .int a1] M Q := ⟨Nat.le_of_ble_eq_true rfl, h⟩
set_option maxRecDepth 100000 in
set_option maxHeartbeats 4000000 in
/-- from place 0 -/
theorem sg_X8_done_0 {d : Nat} {Q : List Value → zM → Prop} (a0 : Nat) (a1 : Int32) (M : zM) (h :
(a1 < 0 → (Q [.int (((-2) : Int32))] M)) ∧ (¬ (a1 < 0) → ((a1 ≤ ((3 : Int32)) → ((zsh M a0).1 = 16 ∧ ((zsh M (zR M a0 15)).1 = 2 ∧ (zin a1 (zsh M (zR M a0 15)).2 ∧ (Q [.int (zI M (zR M a0 15) a1.toNatClampNeg)] M))))) ∧ (¬ (a1 ≤ ((3 : Int32))) → (Q [.int (((-2) : Int32))] M))))
) : wX8_done d Q 0 [some (.ref a0), some (.int a1)] [] M := zseg (zCl_good gTb d) (fun _ => false) 21 h
abbrev wX8_element (d : Nat) (Q : List Value → zM → Prop) : Nat → zLv → List Value → zM → Prop := zW (zCl gTb d) 1 kX8_element Q
theorem en_X8_element {d : Nat} {Q : List Value → zM → Prop} (a0 : Nat) (a1 : Int32) (a2 : Int32) (M : zM) (h : wX8_element d Q 0 [some (.ref a0), some (.int a1), some (.int a2)] [] M) : zCl gTb (d + 1) nX8_element [.ref a0, .int a1, .int a2] M Q := ⟨Nat.le_of_ble_eq_true rfl, h⟩
set_option maxRecDepth 100000 in
set_option maxHeartbeats 4000000 in
/-- from place 0 -/
theorem sg_X8_element_0 {d : Nat} {Q : List Value → zM → Prop} (a0 : Nat) (a1 : Int32) (a2 : Int32) (M : zM) (h :
(zsh M a0).1 = 16 ∧ ((¬ (zI M a0 9) = 0 → ((a1 < 0 → (Q [.int (((-1) : Int32))] M)) ∧ (¬ (a1 < 0) → ((zsh M a0).1 = 16 ∧ (((zI M a0 8) ≤ a1 → (Q [.int (((-1) : Int32))] M)) ∧ (¬ ((zI M a0 8) ≤ a1) → (ycI d nX8_isPlace [.int a2] M fun c2 M1 => ((¬ c2 = 0 → (wX8_element d Q 16 [some (.ref a0), some (.int a1), some (.int a2)] [] M1)) ∧ (¬ (¬ c2 = 0) → (Q [.int (((-1) : Int32))] M1)))))))))) ∧ (¬ (¬ (zI M a0 9) = 0) → (Q [.int (((-3) : Int32))] M)))
) : wX8_element d Q 0 [some (.ref a0), some (.int a1), some (.int a2)] [] M := zseg (zCl_good gTb d) (fun j => j == 16) 25 h
set_option maxRecDepth 100000 in
set_option maxHeartbeats 4000000 in
/-- from place 16 -/
theorem sg_X8_element_16 {d : Nat} {Q : List Value → zM → Prop} (a0 : Nat) (a1 : Int32) (a2 : Int32) (M : zM) (h :
(zsh M a0).1 = 16 ∧ (ycV d nX8_copy [.ref a0, .int (((50 : Int32)) + a1), .int a2] M fun M1 => ((zsh M1 a0).1 = 16 ∧ ((zsh M1 (zR M1 a0 6)).1 = 2 ∧ (zin a2 (zsh M1 (zR M1 a0 6)).2 ∧ (Q [.int (zI M1 (zR M1 a0 6) a2.toNatClampNeg)] M1)))))
) : wX8_element d Q 16 [some (.ref a0), some (.int a1), some (.int a2)] [] M := zseg (zCl_good gTb d) (fun j => j == 16) 16 h
abbrev wX8_share (d : Nat) (Q : List Value → zM → Prop) : Nat → zLv → List Value → zM → Prop := zW (zCl gTb d) 1 kX8_share Q
theorem en_X8_share {d : Nat} {Q : List Value → zM → Prop} (a0 : Nat) (a1 : Int32) (a2 : Int32) (a3 : Int32) (M : zM) (h : wX8_share d Q 0 [some (.ref a0), some (.int a1), some (.int a2), some (.int a3)] [] M) : zCl gTb (d + 1) nX8_share [.ref a0, .int a1, .int a2, .int a3] M Q := ⟨Nat.le_of_ble_eq_true rfl, h⟩
set_option maxRecDepth 100000 in
set_option maxHeartbeats 4000000 in
/-- from place 0 -/
theorem sg_X8_share_0 {d : Nat} {Q : List Value → zM → Prop} (a0 : Nat) (a1 : Int32) (a2 : Int32) (a3 : Int32) (M : zM) (h :
(zsh M a0).1 = 16 ∧ ((¬ (zI M a0 9) = 0 → ((a1 < 0 → (Q [.int (((-1) : Int32))] M)) ∧ (¬ (a1 < 0) → ((zsh M a0).1 = 16 ∧ (((zI M a0 8) ≤ a1 → (Q [.int (((-1) : Int32))] M)) ∧ (¬ ((zI M a0 8) ≤ a1) → ((a2 < 0 → (Q [.int (((-1) : Int32))] M)) ∧ (¬ (a2 < 0) → ((zsh M a0).1 = 16 ∧ (((zI M a0 7) ≤ a2 → (Q [.int (((-1) : Int32))] M)) ∧ (¬ ((zI M a0 7) ≤ a2) → (ycI d nX8_isPlace [.int a3] M fun c2 M1 => ((¬ c2 = 0 → (wX8_share d Q 22 [some (.ref a0), some (.int a1), some (.int a2), some (.int a3)] [] M1)) ∧ (¬ (¬ c2 = 0) → (Q [.int (((-1) : Int32))] M1))))))))))))))) ∧ (¬ (¬ (zI M a0 9) = 0) → (Q [.int (((-3) : Int32))] M)))
) : wX8_share d Q 0 [some (.ref a0), some (.int a1), some (.int a2), some (.int a3)] [] M := zseg (zCl_good gTb d) (fun j => j == 22) 35 h
set_option maxRecDepth 100000 in
set_option maxHeartbeats 4000000 in
/-- from place 22 -/
theorem sg_X8_share_22 {d : Nat} {Q : List Value → zM → Prop} (a0 : Nat) (a1 : Int32) (a2 : Int32) (a3 : Int32) (M : zM) (h :
(zsh M a0).1 = 16 ∧ (ycI d nX8_cofactor [.ref a0, .int a1, .int a2] M fun c2 M1 => ((zsh M1 a0).1 = 16 ∧ (ycV d nX8_copy [.ref a0, .int c2, .int a3] M1 fun M3 => ((zsh M3 a0).1 = 16 ∧ ((zsh M3 (zR M3 a0 6)).1 = 2 ∧ (zin a3 (zsh M3 (zR M3 a0 6)).2 ∧ (Q [.int (zI M3 (zR M3 a0 6) a3.toNatClampNeg)] M3)))))))
) : wX8_share d Q 22 [some (.ref a0), some (.int a1), some (.int a2), some (.int a3)] [] M := zseg (zCl_good gTb d) (fun j => j == 22) 17 h
abbrev wX8_own (d : Nat) (Q : List Value → zM → Prop) : Nat → zLv → List Value → zM → Prop := zW (zCl gTb d) 0 kX8_own Q
theorem en_X8_own {d : Nat} {Q : List Value → zM → Prop} (a0 : Nat) (M : zM) (h : wX8_own d Q 0 [some (.ref a0)] [] M) : zCl gTb (d + 1) nX8_own [.ref a0] M Q := ⟨Nat.le_of_ble_eq_true rfl, h⟩
set_option maxRecDepth 100000 in
set_option maxHeartbeats 4000000 in
/-- from place 0 -/
theorem sg_X8_own_0 {d : Nat} {Q : List Value → zM → Prop} (a0 : Nat) (M : zM) (h :
(zsh M a0).1 = 16 ∧ (let M1 : zM := zuI M a0 19 ((50 : Int32))
(zsh M a0).1 = 16 ∧ ((zsh M a0).1 = 16 ∧ (let M2 : zM := zuI M1 a0 20 (zI M1 a0 8)
(zsh M a0).1 = 16 ∧ (let M3 : zM := zuI M2 a0 21 (((-1) : Int32))
(zsh M a0).1 = 16 ∧ (zb ((0 : Int32)) ∧ (let M4 : zM := zuI M3 a0 11 ((0 : Int32))
(zsh M a0).1 = 16 ∧ (zb ((0 : Int32)) ∧ (let M5 : zM := zuI M4 a0 12 ((0 : Int32))
(zsh M a0).1 = 16 ∧ (let M6 : zM := zuI M5 a0 13 ((0 : Int32))
Q [] M6)))))))))
) : wX8_own d Q 0 [some (.ref a0)] [] M := zseg (zCl_good gTb d) (fun _ => false) 25 h
abbrev wX8_divide (d : Nat) (Q : List Value → zM → Prop) : Nat → zLv → List Value → zM → Prop := zW (zCl gTb d) 1 kX8_divide Q
theorem en_X8_divide {d : Nat} {Q : List Value → zM → Prop} (a0 : Nat) (a1 : Int32) (a2 : Int32) (M : zM) (h : wX8_divide d Q 0 [some (.ref a0), some (.int a1), some (.int a2), none] [] M) : zCl gTb (d + 1) nX8_divide [.ref a0, .int a1, .int a2] M Q := ⟨Nat.le_of_ble_eq_true rfl, h⟩
set_option maxRecDepth 100000 in
set_option maxHeartbeats 4000000 in
/-- from place 0 -/
theorem sg_X8_divide_0 {d : Nat} {Q : List Value → zM → Prop} (a0 : Nat) (a1 : Int32) (a2 : Int32) (M : zM) (h :
ycI d nX8_isPlace [.int a1] M fun c2 M1 => ((c2 = 0 → (Q [.int (((-1) : Int32))] M1)) ∧ (¬ (c2 = 0) → (ycI d nX8_isPlace [.int a2] M1 fun c4 M3 => ((¬ c4 = 0 → (wX8_divide d Q 8 [some (.ref a0), some (.int a1), some (.int a2), none] [] M3)) ∧ (¬ (¬ c4 = 0) → (Q [.int (((-1) : Int32))] M3))))))
) : wX8_divide d Q 0 [some (.ref a0), some (.int a1), some (.int a2), none] [] M := zseg (zCl_good gTb d) (fun j => j == 8 || j == 26 || j == 39 || j == 55 || j == 68) 15 h
set_option maxRecDepth 100000 in
set_option maxHeartbeats 4000000 in
/-- from place 8 -/
theorem sg_X8_divide_8 {d : Nat} {Q : List Value → zM → Prop} (a0 : Nat) (a1 : Int32) (a2 : Int32) (o3 : Option Value) (M : zM) (h :
(zsh M a0).1 = 16 ∧ ((¬ (zI M a0 9) = 0 → ((zsh M a0).1 = 16 ∧ (ycV d nX8_own [.ref a0] M fun M1 => ((zsh M1 a0).1 = 16 ∧ (let M2 : zM := zuI M1 a0 14 ((5000 : Int32))
(zsh M1 a0).1 = 16 ∧ (ycV d nX8_copy [.ref a0, .int a1, .int ((151 : Int32))] M2 fun M3 => ((zsh M3 a0).1 = 16 ∧ (ycV d nX8_divided [.ref a0, .int ((151 : Int32)), .int ((152 : Int32))] M3 fun M4 => (wX8_divide d Q 26 [some (.ref a0), some (.int a1), some (.int a2), o3] [] M4))))))))) ∧ (¬ (¬ (zI M a0 9) = 0) → (Q [.int (((-3) : Int32))] M)))
) : wX8_divide d Q 8 [some (.ref a0), some (.int a1), some (.int a2), o3] [] M := zseg (zCl_good gTb d) (fun j => j == 8 || j == 26 || j == 39 || j == 55 || j == 68) 23 h
set_option maxRecDepth 100000 in
set_option maxHeartbeats 4000000 in
/-- from place 26 -/
theorem sg_X8_divide_26 {d : Nat} {Q : List Value → zM → Prop} (a0 : Nat) (o1 : Option Value) (a2 : Int32) (o3 : Option Value) (M : zM) (h :
(zsh M a0).1 = 16 ∧ ((¬ (zI M a0 12) = 0 → ((zsh M a0).1 = 16 ∧ (((zI M a0 12) = 0 → (Q [.int (((-7) : Int32))] M)) ∧ (¬ ((zI M a0 12) = 0) → (Q [.int (((-6) : Int32))] M))))) ∧ (¬ (¬ (zI M a0 12) = 0) → ((zsh M a0).1 = 16 ∧ (((zI M a0 11) = 0 → (wX8_divide d Q 39 [some (.ref a0), o1, some (.int a2), o3] [] M)) ∧ (¬ ((zI M a0 11) = 0) → ((zsh M a0).1 = 16 ∧ (((zI M a0 12) = 0 → (Q [.int (((-7) : Int32))] M)) ∧ (¬ ((zI M a0 12) = 0) → (Q [.int (((-6) : Int32))] M)))))))))
) : wX8_divide d Q 26 [some (.ref a0), o1, some (.int a2), o3] [] M := zseg (zCl_good gTb d) (fun j => j == 8 || j == 26 || j == 39 || j == 55 || j == 68) 27 h
set_option maxRecDepth 100000 in
set_option maxHeartbeats 4000000 in
/-- from place 39 -/
theorem sg_X8_divide_39 {d : Nat} {Q : List Value → zM → Prop} (a0 : Nat) (o1 : Option Value) (a2 : Int32) (o3 : Option Value) (M : zM) (h :
(zsh M a0).1 = 16 ∧ (ycV d nX8_copy [.ref a0, .int ((152 : Int32)), .int a2] M fun M1 => ((zsh M1 a0).1 = 16 ∧ ((zsh M1 (zR M1 a0 6)).1 = 2 ∧ (zin a2 (zsh M1 (zR M1 a0 6)).2 ∧ ((¬ (zI M1 (zR M1 a0 6) a2.toNatClampNeg) = 0 → ((zsh M1 a0).1 = 16 ∧ (zb ((0 : Int32)) ∧ (let M2 : zM := zuI M1 a0 10 ((0 : Int32))
wX8_divide d Q 55 [some (.ref a0), o1, some (.int a2), some (.int ((0 : Int32)))] [] M2)))) ∧ (¬ (¬ (zI M1 (zR M1 a0 6) a2.toNatClampNeg) = 0) → ((zsh M1 a0).1 = 16 ∧ (zb ((1 : Int32)) ∧ (let M3 : zM := zuI M1 a0 10 ((1 : Int32))
wX8_divide d Q 55 [some (.ref a0), o1, some (.int a2), some (.int ((0 : Int32)))] [] M3)))))))))
) : wX8_divide d Q 39 [some (.ref a0), o1, some (.int a2), o3] [] M := zseg (zCl_good gTb d) (fun j => j == 8 || j == 26 || j == 39 || j == 55 || j == 68) 24 h
set_option maxRecDepth 100000 in
set_option maxHeartbeats 4000000 in
/-- from place 55 -/
theorem sg_X8_divide_55 {d : Nat} {Q : List Value → zM → Prop} (a0 : Nat) (o1 : Option Value) (o2 : Option Value) (a3 : Int32) (M : zM) (h :
(((25 : Int32)) ≤ a3 → (wX8_divide d Q 68 [some (.ref a0), o1, o2, some (.int a3)] [] M)) ∧ (¬ (((25 : Int32)) ≤ a3) → ((zsh M a0).1 = 16 ∧ (ycV d nX8_copy [.ref a0, .int (((100 : Int32)) + a3), .int (((125 : Int32)) + a3)] M fun M1 => (let v3_2 : Int32 := a3 + 1
wX8_divide d Q 55 [some (.ref a0), o1, zwipe o2, some (.int v3_2)] [] M1))))
) : wX8_divide d Q 55 [some (.ref a0), o1, o2, some (.int a3)] [] M := zseg (zCl_good gTb d) (fun j => j == 8 || j == 26 || j == 39 || j == 55 || j == 68) 18 h
set_option maxRecDepth 100000 in
set_option maxHeartbeats 4000000 in
/-- from place 68 -/
theorem sg_X8_divide_68 {d : Nat} {Q : List Value → zM → Prop} (a0 : Nat) (o1 : Option Value) (o2 : Option Value) (o3 : Option Value) (M : zM) (h :
(zsh M a0).1 = 16 ∧ (((zI M a0 10) = 0 → (Q [.int ((0 : Int32))] M)) ∧ (¬ ((zI M a0 10) = 0) → (Q [.int ((1 : Int32))] M)))
) : wX8_divide d Q 68 [some (.ref a0), o1, o2, o3] [] M := zseg (zCl_good gTb d) (fun j => j == 8 || j == 26 || j == 39 || j == 55 || j == 68) 13 h
abbrev wX8_certificate (d : Nat) (Q : List Value → zM → Prop) : Nat → zLv → List Value → zM → Prop := zW (zCl gTb d) 1 kX8_certificate Q
theorem en_X8_certificate {d : Nat} {Q : List Value → zM → Prop} (a0 : Nat) (a1 : Int32) (a2 : Int32) (M : zM) (h : wX8_certificate d Q 0 [some (.ref a0), some (.int a1), some (.int a2), none] [] M) : zCl gTb (d + 1) nX8_certificate [.ref a0, .int a1, .int a2] M Q := ⟨Nat.le_of_ble_eq_true rfl, h⟩
set_option maxRecDepth 100000 in
set_option maxHeartbeats 4000000 in
/-- from place 0 -/
theorem sg_X8_certificate_0 {d : Nat} {Q : List Value → zM → Prop} (a0 : Nat) (a1 : Int32) (a2 : Int32) (M : zM) (h :
(zsh M a0).1 = 16 ∧ (((zI M a0 9) = 0 → (Q [.int (((-3) : Int32))] M)) ∧ (¬ ((zI M a0 9) = 0) → ((zsh M a0).1 = 16 ∧ ((¬ (zI M a0 10) = 0 → (wX8_certificate d Q 8 [some (.ref a0), some (.int a1), some (.int a2), none] [] M)) ∧ (¬ (¬ (zI M a0 10) = 0) → (Q [.int (((-3) : Int32))] M))))))
) : wX8_certificate d Q 0 [some (.ref a0), some (.int a1), some (.int a2), none] [] M := zseg (zCl_good gTb d) (fun j => j == 8 || j == 19 || j == 23 || j == 36) 15 h
set_option maxRecDepth 100000 in
set_option maxHeartbeats 4000000 in
/-- from place 8 -/
theorem sg_X8_certificate_8 {d : Nat} {Q : List Value → zM → Prop} (a0 : Nat) (a1 : Int32) (a2 : Int32) (o3 : Option Value) (M : zM) (h :
(a1 < 0 → (Q [.int (((-1) : Int32))] M)) ∧ (¬ (a1 < 0) → ((zsh M a0).1 = 16 ∧ (((zI M a0 7) ≤ a1 → (Q [.int (((-1) : Int32))] M)) ∧ (¬ ((zI M a0 7) ≤ a1) → (ycI d nX8_isPlace [.int a2] M fun c2 M1 => ((¬ c2 = 0 → (wX8_certificate d Q 19 [some (.ref a0), some (.int a1), some (.int a2), o3] [] M1)) ∧ (¬ (¬ c2 = 0) → (Q [.int (((-1) : Int32))] M1))))))))
) : wX8_certificate d Q 8 [some (.ref a0), some (.int a1), some (.int a2), o3] [] M := zseg (zCl_good gTb d) (fun j => j == 8 || j == 19 || j == 23 || j == 36) 20 h
set_option maxRecDepth 100000 in
set_option maxHeartbeats 4000000 in
/-- from place 19 -/
theorem sg_X8_certificate_19 {d : Nat} {Q : List Value → zM → Prop} (a0 : Nat) (a1 : Int32) (a2 : Int32) (o3 : Option Value) (M : zM) (h :
(zsh M a0).1 = 16 ∧ (ycV d nX8_own [.ref a0] M fun M1 => (wX8_certificate d Q 23 [some (.ref a0), some (.int a1), some (.int a2), some (.int ((0 : Int32)))] [] M1))
) : wX8_certificate d Q 19 [some (.ref a0), some (.int a1), some (.int a2), o3] [] M := zseg (zCl_good gTb d) (fun j => j == 8 || j == 19 || j == 23 || j == 36) 9 h
set_option maxRecDepth 100000 in
set_option maxHeartbeats 4000000 in
/-- from place 23 -/
theorem sg_X8_certificate_23 {d : Nat} {Q : List Value → zM → Prop} (a0 : Nat) (a1 : Int32) (a2 : Int32) (a3 : Int32) (M : zM) (h :
(((25 : Int32)) ≤ a3 → (wX8_certificate d Q 36 [some (.ref a0), some (.int a1), some (.int a2), some (.int a3)] [] M)) ∧ (¬ (((25 : Int32)) ≤ a3) → ((zsh M a0).1 = 16 ∧ (ycV d nX8_copy [.ref a0, .int (((125 : Int32)) + a3), .int (((100 : Int32)) + a3)] M fun M1 => (let v3_2 : Int32 := a3 + 1
wX8_certificate d Q 23 [some (.ref a0), some (.int a1), some (.int a2), some (.int v3_2)] [] M1))))
) : wX8_certificate d Q 23 [some (.ref a0), some (.int a1), some (.int a2), some (.int a3)] [] M := zseg (zCl_good gTb d) (fun j => j == 8 || j == 19 || j == 23 || j == 36) 18 h
set_option maxRecDepth 100000 in
set_option maxHeartbeats 4000000 in
/-- from place 36 -/
theorem sg_X8_certificate_36 {d : Nat} {Q : List Value → zM → Prop} (a0 : Nat) (a1 : Int32) (a2 : Int32) (o3 : Option Value) (M : zM) (h :
(zsh M a0).1 = 16 ∧ ((zsh M (zR M a0 6)).1 = 2 ∧ (zin ((150 : Int32)) (zsh M (zR M a0 6)).2 ∧ (let M1 : zM := zuI M (zR M a0 6) ((150 : Int32)).toNatClampNeg ((0 : Int32))
(zsh M a0).1 = 16 ∧ (ycV d nX8_lessShares [.ref a0, .int ((150 : Int32)), .int a1, .int ((1 : Int32))] M1 fun M2 => ((zsh M2 a0).1 = 16 ∧ (ycI d nX8_taken [.ref a0, .int ((150 : Int32)), .int a2] M2 fun c4 M3 => (Q [.int c4] M3)))))))
) : wX8_certificate d Q 36 [some (.ref a0), some (.int a1), some (.int a2), o3] [] M := zseg (zCl_good gTb d) (fun j => j == 8 || j == 19 || j == 23 || j == 36) 20 h
abbrev wX8_check (d : Nat) (Q : List Value → zM → Prop) : Nat → zLv → List Value → zM → Prop := zW (zCl gTb d) 1 kX8_check Q
theorem en_X8_check {d : Nat} {Q : List Value → zM → Prop} (a0 : Nat) (M : zM) (h : wX8_check d Q 0 [some (.ref a0), none, none, none] [] M) : zCl gTb (d + 1) nX8_check [.ref a0] M Q := ⟨Nat.le_of_ble_eq_true rfl, h⟩
set_option maxRecDepth 100000 in
set_option maxHeartbeats 4000000 in
/-- from place 0 -/
theorem sg_X8_check_0 {d : Nat} {Q : List Value → zM → Prop} (a0 : Nat) (M : zM) (h :
(zsh M a0).1 = 16 ∧ ((¬ (zI M a0 9) = 0 → ((zsh M a0).1 = 16 ∧ (zb ((0 : Int32)) ∧ (let M1 : zM := zuI M a0 11 ((0 : Int32))
wX8_check d Q 12 [some (.ref a0), some (.int ((1 : Int32))), some (.int ((0 : Int32))), none] [] M1)))) ∧ (¬ (¬ (zI M a0 9) = 0) → (Q [.int (((-3) : Int32))] M)))
) : wX8_check d Q 0 [some (.ref a0), none, none, none] [] M := zseg (zCl_good gTb d) (fun j => j == 12 || j == 23 || j == 46 || j == 63 || j == 66) 17 h
set_option maxRecDepth 100000 in
set_option maxHeartbeats 4000000 in
/-- from place 12 -/
theorem sg_X8_check_12 {d : Nat} {Q : List Value → zM → Prop} (a0 : Nat) (a1 : Int32) (a2 : Int32) (o3 : Option Value) (M : zM) (h :
(zsh M a0).1 = 16 ∧ (((zI M a0 8) ≤ a2 → (wX8_check d Q 66 [some (.ref a0), some (.int a1), some (.int a2), o3] [] M)) ∧ (¬ ((zI M a0 8) ≤ a2) → ((zsh M a0).1 = 16 ∧ ((zsh M (zR M a0 6)).1 = 2 ∧ (zin ((150 : Int32)) (zsh M (zR M a0 6)).2 ∧ (let M1 : zM := zuI M (zR M a0 6) ((150 : Int32)).toNatClampNeg ((0 : Int32))
wX8_check d Q 23 [some (.ref a0), some (.int a1), some (.int a2), some (.int ((0 : Int32)))] [] M1))))))
) : wX8_check d Q 12 [some (.ref a0), some (.int a1), some (.int a2), o3] [] M := zseg (zCl_good gTb d) (fun j => j == 12 || j == 23 || j == 46 || j == 63 || j == 66) 16 h
set_option maxRecDepth 100000 in
set_option maxHeartbeats 4000000 in
/-- from place 23 -/
theorem sg_X8_check_23 {d : Nat} {Q : List Value → zM → Prop} (a0 : Nat) (a1 : Int32) (a2 : Int32) (a3 : Int32) (M : zM) (h :
(zsh M a0).1 = 16 ∧ (((zI M a0 7) ≤ a3 → (wX8_check d Q 46 [some (.ref a0), some (.int a1), some (.int a2), some (.int a3)] [] M)) ∧ (¬ ((zI M a0 7) ≤ a3) → ((zsh M a0).1 = 16 ∧ (ycI d nX8_cofactor [.ref a0, .int a2, .int a3] M fun c2 M1 => ((zsh M1 a0).1 = 16 ∧ (ycV d nX8_made [.ref a0, .int c2, .int (((40 : Int32)) + a3), .int ((151 : Int32))] M1 fun M3 => ((zsh M3 a0).1 = 16 ∧ (ycV d nX8_adds [.ref a0, .int ((150 : Int32)), .int ((1 : Int32)), .int ((1 : Int32)), .int ((0 : Int32)), .int ((151 : Int32))] M3 fun M4 => (let v3_5 : Int32 := a3 + 1
wX8_check d Q 23 [some (.ref a0), some (.int a1), some (.int a2), some (.int v3_5)] [] M4)))))))))
) : wX8_check d Q 23 [some (.ref a0), some (.int a1), some (.int a2), some (.int a3)] [] M := zseg (zCl_good gTb d) (fun j => j == 12 || j == 23 || j == 46 || j == 63 || j == 66) 28 h
set_option maxRecDepth 100000 in
set_option maxHeartbeats 4000000 in
/-- from place 46 -/
theorem sg_X8_check_46 {d : Nat} {Q : List Value → zM → Prop} (a0 : Nat) (a1 : Int32) (a2 : Int32) (o3 : Option Value) (M : zM) (h :
(zsh M a0).1 = 16 ∧ (((zI M a0 11) = 0 → ((a1 = 0 → (wX8_check d Q 63 [some (.ref a0), some (.int a1), some (.int a2), o3] [.int ((0 : Int32))] M)) ∧ (¬ (a1 = 0) → ((zsh M a0).1 = 16 ∧ (ycI d nX8_isSame [.ref a0, .int ((150 : Int32)), .int (((50 : Int32)) + a2)] M fun c2 M1 => ((c2 = 0 → (wX8_check d Q 63 [some (.ref a0), some (.int a1), some (.int a2), o3] [.int ((0 : Int32))] M1)) ∧ (¬ (c2 = 0) → (wX8_check d Q 63 [some (.ref a0), some (.int a1), some (.int a2), o3] [.int ((1 : Int32))] M1)))))))) ∧ (¬ ((zI M a0 11) = 0) → (Q [.int (((-7) : Int32))] M)))
) : wX8_check d Q 46 [some (.ref a0), some (.int a1), some (.int a2), o3] [] M := zseg (zCl_good gTb d) (fun j => j == 12 || j == 23 || j == 46 || j == 63 || j == 66) 23 h
set_option maxRecDepth 100000 in
set_option maxHeartbeats 4000000 in
/-- from place 63 -/
theorem sg_X8_check_63 {d : Nat} {Q : List Value → zM → Prop} (a0 : Nat) (o1 : Option Value) (a2 : Int32) (o3 : Option Value) (s0 : Int32) (M : zM) (h :
let v2_1 : Int32 := a2 + 1
wX8_check d Q 12 [some (.ref a0), some (.int s0), some (.int v2_1), o3] [] M
) : wX8_check d Q 63 [some (.ref a0), o1, some (.int a2), o3] [.int s0] M := zseg (zCl_good gTb d) (fun j => j == 12 || j == 23 || j == 46 || j == 63 || j == 66) 8 h
set_option maxRecDepth 100000 in
set_option maxHeartbeats 4000000 in
/-- from place 66 -/
theorem sg_X8_check_66 {d : Nat} {Q : List Value → zM → Prop} (o0 : Option Value) (a1 : Int32) (o2 : Option Value) (o3 : Option Value) (M : zM) (h :
(a1 = 0 → (Q [.int ((0 : Int32))] M)) ∧ (¬ (a1 = 0) → (Q [.int ((1 : Int32))] M))
) : wX8_check d Q 66 [o0, some (.int a1), o2, o3] [] M := zseg (zCl_good gTb d) (fun j => j == 12 || j == 23 || j == 46 || j == 63 || j == 66) 12 h
abbrev wX8_radical (d : Nat) (Q : List Value → zM → Prop) : Nat → zLv → List Value → zM → Prop := zW (zCl gTb d) 1 kX8_radical Q
theorem en_X8_radical {d : Nat} {Q : List Value → zM → Prop} (a0 : Nat) (a1 : Int32) (a2 : Int32) (M : zM) (h : wX8_radical d Q 0 [some (.ref a0), some (.int a1), some (.int a2), none, none] [] M) : zCl gTb (d + 1) nX8_radical [.ref a0, .int a1, .int a2] M Q := ⟨Nat.le_of_ble_eq_true rfl, h⟩
set_option maxRecDepth 100000 in
set_option maxHeartbeats 4000000 in
/-- from place 0 -/
theorem sg_X8_radical_0 {d : Nat} {Q : List Value → zM → Prop} (a0 : Nat) (a1 : Int32) (a2 : Int32) (M : zM) (h :
ycI d nX8_isPlace [.int a1] M fun c2 M1 => ((¬ c2 = 0 → ((a2 < 0 → (Q [.int (((-2) : Int32))] M1)) ∧ (¬ (a2 < 0) → ((a2 ≤ ((20000 : Int32)) → ((zsh M1 a0).1 = 16 ∧ ((¬ (zI M1 a0 0) = ((4 : Int32)) → (wX8_radical d Q 18 [some (.ref a0), some (.int a1), some (.int a2), none, none] [] M1)) ∧ (¬ (¬ (zI M1 a0 0) = ((4 : Int32))) → (Q [.int (((-3) : Int32))] M1))))) ∧ (¬ (a2 ≤ ((20000 : Int32))) → (Q [.int (((-2) : Int32))] M1)))))) ∧ (¬ (¬ c2 = 0) → (Q [.int (((-1) : Int32))] M1)))
) : wX8_radical d Q 0 [some (.ref a0), some (.int a1), some (.int a2), none, none] [] M := zseg (zCl_good gTb d) (fun j => j == 18 || j == 64 || j == 75 || j == 92) 25 h
set_option maxRecDepth 100000 in
set_option maxHeartbeats 4000000 in
/-- from place 18 -/
theorem sg_X8_radical_18 {d : Nat} {Q : List Value → zM → Prop} (a0 : Nat) (a1 : Int32) (a2 : Int32) (o3 : Option Value) (o4 : Option Value) (M : zM) (h :
(zsh M a0).1 = 16 ∧ (zb ((0 : Int32)) ∧ (let M1 : zM := zuI M a0 11 ((0 : Int32))
(zsh M a0).1 = 16 ∧ (zb ((0 : Int32)) ∧ (let M2 : zM := zuI M1 a0 12 ((0 : Int32))
(zsh M a0).1 = 16 ∧ (let M3 : zM := zuI M2 a0 13 ((0 : Int32))
(zsh M a0).1 = 16 ∧ (let M4 : zM := zuI M3 a0 14 a2
(zsh M a0).1 = 16 ∧ ((zsh M a0).1 = 16 ∧ (let M5 : zM := zuI M4 a0 1 ((zI M4 a0 0) + ((1 : Int32)))
(zsh M a0).1 = 16 ∧ (let v3_6 : Int32 := ((40 : Int32)) + (zI M5 a0 7)
(zsh M a0).1 = 16 ∧ ((zsh M (zR M a0 6)).1 = 2 ∧ (zin v3_6 (zsh M (zR M a0 6)).2 ∧ (let M7 : zM := zuI M5 (zR M a0 6) v3_6.toNatClampNeg ((0 : Int32))
(zsh M a0).1 = 16 ∧ (ycV d nX8_comes [.ref a0, .int v3_6, .int ((1 : Int32)), .int ((1 : Int32)), .int ((0 : Int32))] M7 fun M8 => ((zsh M8 a0).1 = 16 ∧ ((zsh M8 a0).1 = 16 ∧ (ycV d nX8_adds [.ref a0, .int v3_6, .int (((-1) : Int32)), .int ((1 : Int32)), .int (((1 : Int32)) <<< ((((5 : Int32)) * (zI M8 a0 0)) &&& 31)), .int a1] M8 fun M9 => (wX8_radical d Q 64 [some (.ref a0), some (.int a1), some (.int a2), some (.int v3_6), o4] [] M9)))))))))))))))))
) : wX8_radical d Q 18 [some (.ref a0), some (.int a1), some (.int a2), o3, o4] [] M := zseg (zCl_good gTb d) (fun j => j == 18 || j == 64 || j == 75 || j == 92) 51 h
set_option maxRecDepth 100000 in
set_option maxHeartbeats 4000000 in
/-- from place 64 -/
theorem sg_X8_radical_64 {d : Nat} {Q : List Value → zM → Prop} (a0 : Nat) (o1 : Option Value) (o2 : Option Value) (o3 : Option Value) (o4 : Option Value) (M : zM) (h :
(zsh M a0).1 = 16 ∧ ((¬ (zI M a0 11) = 0 → (wX8_radical d Q 75 [some (.ref a0), o1, o2, o3, o4] [] M)) ∧ (¬ (¬ (zI M a0 11) = 0) → ((zsh M a0).1 = 16 ∧ ((zsh M a0).1 = 16 ∧ (ycV d nX8_make [.ref a0, .int ((75 : Int32)), .int ((zI M a0 7) + ((1 : Int32))), .int ((0 : Int32))] M fun M1 => (wX8_radical d Q 75 [some (.ref a0), o1, o2, o3, o4] [] M1))))))
) : wX8_radical d Q 64 [some (.ref a0), o1, o2, o3, o4] [] M := zseg (zCl_good gTb d) (fun j => j == 18 || j == 64 || j == 75 || j == 92) 16 h
set_option maxRecDepth 100000 in
set_option maxHeartbeats 4000000 in
/-- from place 75 -/
theorem sg_X8_radical_75 {d : Nat} {Q : List Value → zM → Prop} (a0 : Nat) (o1 : Option Value) (o2 : Option Value) (o3 : Option Value) (o4 : Option Value) (M : zM) (h :
(zsh M a0).1 = 16 ∧ ((¬ (zI M a0 11) = 0 → (wX8_radical d Q 92 [some (.ref a0), o1, o2, o3, o4] [.int ((0 : Int32))] M)) ∧ (¬ (¬ (zI M a0 11) = 0) → ((zsh M a0).1 = 16 ∧ ((¬ (zI M a0 12) = 0 → (wX8_radical d Q 92 [some (.ref a0), o1, o2, o3, o4] [.int ((0 : Int32))] M)) ∧ (¬ (¬ (zI M a0 12) = 0) → ((zsh M a0).1 = 16 ∧ ((¬ (zI M a0 20) = ((1 : Int32)) → (wX8_radical d Q 92 [some (.ref a0), o1, o2, o3, o4] [.int ((0 : Int32))] M)) ∧ (¬ (¬ (zI M a0 20) = ((1 : Int32))) → ((zsh M a0).1 = 16 ∧ (ycI d nX8_lead [.ref a0, .int ((75 : Int32))] M fun c2 M1 => ((¬ c2 = 0 → (wX8_radical d Q 92 [some (.ref a0), o1, o2, o3, o4] [.int ((0 : Int32))] M1)) ∧ (¬ (¬ c2 = 0) → (wX8_radical d Q 92 [some (.ref a0), o1, o2, o3, o4] [.int ((1 : Int32))] M1)))))))))))))
) : wX8_radical d Q 75 [some (.ref a0), o1, o2, o3, o4] [] M := zseg (zCl_good gTb d) (fun j => j == 18 || j == 64 || j == 75 || j == 92) 25 h
set_option maxRecDepth 100000 in
set_option maxHeartbeats 4000000 in
/-- from place 92 -/
theorem sg_X8_radical_92 {d : Nat} {Q : List Value → zM → Prop} (a0 : Nat) (o1 : Option Value) (o2 : Option Value) (o3 : Option Value) (o4 : Option Value) (s0 : Int32) (M : zM) (h :
(zsh M a0).1 = 16 ∧ ((zsh M a0).1 = 16 ∧ (let M1 : zM := zuI M a0 1 (zI M a0 0)
(zsh M a0).1 = 16 ∧ (((zI M1 a0 12) = 0 → ((zsh M a0).1 = 16 ∧ (((zI M1 a0 11) = 0 → ((s0 = 0 → (Q [.int ((0 : Int32))] M1)) ∧ (¬ (s0 = 0) → (Q [.int ((1 : Int32))] M1)))) ∧ (¬ ((zI M1 a0 11) = 0) → (Q [.int (((-7) : Int32))] M1))))) ∧ (¬ ((zI M1 a0 12) = 0) → (Q [.int (((-6) : Int32))] M1)))))
) : wX8_radical d Q 92 [some (.ref a0), o1, o2, o3, o4] [.int s0] M := zseg (zCl_good gTb d) (fun j => j == 18 || j == 64 || j == 75 || j == 92) 29 h
abbrev wX8_free (d : Nat) (Q : List Value → zM → Prop) : Nat → zLv → List Value → zM → Prop := zW (zCl gTb d) 1 kX8_free Q
theorem en_X8_free {d : Nat} {Q : List Value → zM → Prop} (a0 : Nat) (a1 : Int32) (M : zM) (h : wX8_free d Q 0 [some (.ref a0), some (.int a1), none, none, none, none] [] M) : zCl gTb (d + 1) nX8_free [.ref a0, .int a1] M Q := ⟨Nat.le_of_ble_eq_true rfl, h⟩
set_option maxRecDepth 100000 in
set_option maxHeartbeats 4000000 in
/-- from place 0 -/
theorem sg_X8_free_0 {d : Nat} {Q : List Value → zM → Prop} (a0 : Nat) (a1 : Int32) (M : zM) (h :
(a1 < 0 → (Q [.int (((-2) : Int32))] M)) ∧ (¬ (a1 < 0) → ((zsh M a0).1 = 16 ∧ ((a1 ≤ (zI M a0 0) → ((zsh M a0).1 = 16 ∧ ((¬ (zI M a0 9) = 0 → (wX8_free d Q 17 [some (.ref a0), some (.int a1), some (.int ((0 : Int32))), some (.int ((0 : Int32))), none, none] [] M)) ∧ (¬ (¬ (zI M a0 9) = 0) → (Q [.int (((-3) : Int32))] M))))) ∧ (¬ (a1 ≤ (zI M a0 0)) → (Q [.int (((-2) : Int32))] M)))))
) : wX8_free d Q 0 [some (.ref a0), some (.int a1), none, none, none, none] [] M := zseg (zCl_good gTb d) (fun j => j == 17 || j == 25 || j == 60) 24 h
set_option maxRecDepth 100000 in
set_option maxHeartbeats 4000000 in
/-- from place 17 -/
theorem sg_X8_free_17 {d : Nat} {Q : List Value → zM → Prop} (a0 : Nat) (a1 : Int32) (a2 : Int32) (a3 : Int32) (o4 : Option Value) (o5 : Option Value) (M : zM) (h :
(zsh M a0).1 = 16 ∧ (((zI M a0 8) ≤ a3 → (Q [.int a2] M)) ∧ (¬ ((zI M a0 8) ≤ a3) → (wX8_free d Q 25 [some (.ref a0), some (.int a1), some (.int a2), some (.int a3), some (.int ((1 : Int32))), some (.int ((0 : Int32)))] [] M)))
) : wX8_free d Q 17 [some (.ref a0), some (.int a1), some (.int a2), some (.int a3), o4, o5] [] M := zseg (zCl_good gTb d) (fun j => j == 17 || j == 25 || j == 60) 15 h
set_option maxRecDepth 100000 in
set_option maxHeartbeats 4000000 in
/-- from place 25 -/
theorem sg_X8_free_25 {d : Nat} {Q : List Value → zM → Prop} (a0 : Nat) (a1 : Int32) (a2 : Int32) (a3 : Int32) (a4 : Int32) (a5 : Int32) (M : zM) (h :
(zsh M a0).1 = 16 ∧ ((zsh M (zR M a0 6)).1 = 2 ∧ (zin (((50 : Int32)) + a3) (zsh M (zR M a0 6)).2 ∧ (((zI M (zR M a0 6) (((50 : Int32)) + a3).toNatClampNeg) ≤ a5 → (wX8_free d Q 60 [some (.ref a0), some (.int a1), some (.int a2), some (.int a3), some (.int a4), some (.int a5)] [] M)) ∧ (¬ ((zI M (zR M a0 6) (((50 : Int32)) + a3).toNatClampNeg) ≤ a5) → ((a4 = 0 → (let v5_1 : Int32 := a5 + 1
wX8_free d Q 25 [some (.ref a0), some (.int a1), some (.int a2), some (.int a3), some (.int ((0 : Int32))), some (.int v5_1)] [] M)) ∧ (¬ (a4 = 0) → ((zsh M a0).1 = 16 ∧ ((zsh M (zR M a0 5)).1 = 2 ∧ (zin ((((100 : Int32)) * (((50 : Int32)) + a3)) + a5) (zsh M (zR M a0 5)).2 ∧ ((¬ ((zI M (zR M a0 5) ((((100 : Int32)) * (((50 : Int32)) + a3)) + a5).toNatClampNeg) &&& ((((1 : Int32)) <<< ((((5 : Int32)) * a1) &&& 31)) - ((1 : Int32)))) = 0 → (let v5_2 : Int32 := a5 + 1
wX8_free d Q 25 [some (.ref a0), some (.int a1), some (.int a2), some (.int a3), some (.int ((0 : Int32))), some (.int v5_2)] [] M)) ∧ (¬ (¬ ((zI M (zR M a0 5) ((((100 : Int32)) * (((50 : Int32)) + a3)) + a5).toNatClampNeg) &&& ((((1 : Int32)) <<< ((((5 : Int32)) * a1) &&& 31)) - ((1 : Int32)))) = 0) → (let v5_3 : Int32 := a5 + 1
wX8_free d Q 25 [some (.ref a0), some (.int a1), some (.int a2), some (.int a3), some (.int ((1 : Int32))), some (.int v5_3)] [] M))))))))))))
) : wX8_free d Q 25 [some (.ref a0), some (.int a1), some (.int a2), some (.int a3), some (.int a4), some (.int a5)] [] M := zseg (zCl_good gTb d) (fun j => j == 17 || j == 25 || j == 60) 47 h
set_option maxRecDepth 100000 in
set_option maxHeartbeats 4000000 in
/-- from place 60 -/
theorem sg_X8_free_60 {d : Nat} {Q : List Value → zM → Prop} (a0 : Nat) (a1 : Int32) (a2 : Int32) (a3 : Int32) (a4 : Int32) (o5 : Option Value) (M : zM) (h :
(a4 = 0 → (let v2_1 : Int32 := a2 + ((0 : Int32))
let v3_2 : Int32 := a3 + 1
wX8_free d Q 17 [some (.ref a0), some (.int a1), some (.int v2_1), some (.int v3_2), some (.int a4), o5] [] M)) ∧ (¬ (a4 = 0) → (let v2_3 : Int32 := a2 + ((1 : Int32))
let v3_4 : Int32 := a3 + 1
wX8_free d Q 17 [some (.ref a0), some (.int a1), some (.int v2_3), some (.int v3_4), some (.int a4), o5] [] M))
) : wX8_free d Q 60 [some (.ref a0), some (.int a1), some (.int a2), some (.int a3), some (.int a4), o5] [] M := zseg (zCl_good gTb d) (fun j => j == 17 || j == 25 || j == 60) 19 h
abbrev wX8_stairs (d : Nat) (Q : List Value → zM → Prop) : Nat → zLv → List Value → zM → Prop := zW (zCl gTb d) 1 kX8_stairs Q
theorem en_X8_stairs {d : Nat} {Q : List Value → zM → Prop} (a0 : Nat) (M : zM) (h : wX8_stairs d Q 0 [some (.ref a0), none, none, none, none, none] [] M) : zCl gTb (d + 1) nX8_stairs [.ref a0] M Q := ⟨Nat.le_of_ble_eq_true rfl, h⟩
set_option maxRecDepth 100000 in
set_option maxHeartbeats 4000000 in
/-- from place 0 -/
theorem sg_X8_stairs_0 {d : Nat} {Q : List Value → zM → Prop} (a0 : Nat) (M : zM) (h :
(zsh M a0).1 = 16 ∧ ((¬ (zI M a0 9) = 0 → (wX8_stairs d Q 7 [some (.ref a0), some (.int ((0 : Int32))), none, none, none, none] [] M)) ∧ (¬ (¬ (zI M a0 9) = 0) → (Q [.int (((-3) : Int32))] M)))
) : wX8_stairs d Q 0 [some (.ref a0), none, none, none, none, none] [] M := zseg (zCl_good gTb d) (fun j => j == 7 || j == 23 || j == 25 || j == 41 || j == 65 || j == 87 || j == 91 || j == 99 || j == 107 || j == 115) 12 h
set_option maxRecDepth 100000 in
set_option maxHeartbeats 4000000 in
/-- from place 7 -/
theorem sg_X8_stairs_7 {d : Nat} {Q : List Value → zM → Prop} (a0 : Nat) (a1 : Int32) (o2 : Option Value) (o3 : Option Value) (o4 : Option Value) (o5 : Option Value) (M : zM) (h :
(((4 : Int32)) ≤ a1 → (wX8_stairs d Q 23 [some (.ref a0), some (.int a1), o2, o3, o4, o5] [] M)) ∧ (¬ (((4 : Int32)) ≤ a1) → ((zsh M a0).1 = 16 ∧ ((zsh M a0).1 = 16 ∧ (((zI M a0 0) ≤ a1 → ((zsh M (zR M a0 18)).1 = 2 ∧ (zin a1 (zsh M (zR M a0 18)).2 ∧ (let M1 : zM := zuI M (zR M a0 18) a1.toNatClampNeg ((1 : Int32))
let v1_2 : Int32 := a1 + 1
wX8_stairs d Q 7 [some (.ref a0), some (.int v1_2), o2, o3, o4, o5] [] M1)))) ∧ (¬ ((zI M a0 0) ≤ a1) → ((zsh M (zR M a0 18)).1 = 2 ∧ (zin a1 (zsh M (zR M a0 18)).2 ∧ (let M3 : zM := zuI M (zR M a0 18) a1.toNatClampNeg (((-1) : Int32))
let v1_4 : Int32 := a1 + 1
wX8_stairs d Q 7 [some (.ref a0), some (.int v1_4), o2, o3, o4, o5] [] M3))))))))
) : wX8_stairs d Q 7 [some (.ref a0), some (.int a1), o2, o3, o4, o5] [] M := zseg (zCl_good gTb d) (fun j => j == 7 || j == 23 || j == 25 || j == 41 || j == 65 || j == 87 || j == 91 || j == 99 || j == 107 || j == 115) 24 h
set_option maxRecDepth 100000 in
set_option maxHeartbeats 4000000 in
/-- from place 23 -/
theorem sg_X8_stairs_23 {d : Nat} {Q : List Value → zM → Prop} (a0 : Nat) (o1 : Option Value) (o2 : Option Value) (o3 : Option Value) (o4 : Option Value) (o5 : Option Value) (M : zM) (h :
wX8_stairs d Q 25 [some (.ref a0), some (.int ((0 : Int32))), o2, o3, o4, o5] [] M
) : wX8_stairs d Q 23 [some (.ref a0), o1, o2, o3, o4, o5] [] M := zseg (zCl_good gTb d) (fun j => j == 7 || j == 23 || j == 25 || j == 41 || j == 65 || j == 87 || j == 91 || j == 99 || j == 107 || j == 115) 7 h
set_option maxRecDepth 100000 in
set_option maxHeartbeats 4000000 in
/-- from place 25 -/
theorem sg_X8_stairs_25 {d : Nat} {Q : List Value → zM → Prop} (a0 : Nat) (a1 : Int32) (o2 : Option Value) (o3 : Option Value) (o4 : Option Value) (o5 : Option Value) (M : zM) (h :
(zsh M a0).1 = 16 ∧ (((zI M a0 8) ≤ a1 → (wX8_stairs d Q 65 [some (.ref a0), some (.int a1), o2, o3, o4, o5] [] M)) ∧ (¬ ((zI M a0 8) ≤ a1) → ((zsh M a0).1 = 16 ∧ (ycI d nX8_lead [.ref a0, .int (((50 : Int32)) + a1)] M fun c2 M1 => ((¬ c2 = 0 → (wX8_stairs d Q 41 [some (.ref a0), some (.int a1), some (.int c2), some (.int ((0 : Int32))), o4, o5] [] M1)) ∧ (¬ (¬ c2 = 0) → (Q [.int ((0 : Int32))] M1)))))))
) : wX8_stairs d Q 25 [some (.ref a0), some (.int a1), o2, o3, o4, o5] [] M := zseg (zCl_good gTb d) (fun j => j == 7 || j == 23 || j == 25 || j == 41 || j == 65 || j == 87 || j == 91 || j == 99 || j == 107 || j == 115) 21 h
set_option maxRecDepth 100000 in
set_option maxHeartbeats 4000000 in
/-- from place 41 -/
theorem sg_X8_stairs_41 {d : Nat} {Q : List Value → zM → Prop} (a0 : Nat) (a1 : Int32) (a2 : Int32) (a3 : Int32) (o4 : Option Value) (o5 : Option Value) (M : zM) (h :
(zsh M a0).1 = 16 ∧ (((zI M a0 0) ≤ a3 → (let v1_1 : Int32 := a1 + 1
wX8_stairs d Q 25 [some (.ref a0), some (.int v1_1), some (.int a2), some (.int a3), o4, o5] [] M)) ∧ (¬ ((zI M a0 0) ≤ a3) → (ycI d nX8_exponent [.int a2, .int a3] M fun c3 M2 => ((¬ a2 = (c3 <<< ((((5 : Int32)) * a3) &&& 31)) → (let v3_4 : Int32 := a3 + 1
wX8_stairs d Q 41 [some (.ref a0), some (.int a1), some (.int a2), some (.int v3_4), o4, o5] [] M2)) ∧ (¬ (¬ a2 = (c3 <<< ((((5 : Int32)) * a3) &&& 31))) → ((zsh M2 a0).1 = 16 ∧ (ycI d nX8_exponent [.int a2, .int a3] M2 fun c6 M5 => ((zsh M5 (zR M2 a0 18)).1 = 2 ∧ (zin a3 (zsh M5 (zR M2 a0 18)).2 ∧ (let M7 : zM := zuI M5 (zR M2 a0 18) a3.toNatClampNeg c6
let v3_8 : Int32 := a3 + 1
wX8_stairs d Q 41 [some (.ref a0), some (.int a1), some (.int a2), some (.int v3_8), o4, o5] [] M7))))))))))
) : wX8_stairs d Q 41 [some (.ref a0), some (.int a1), some (.int a2), some (.int a3), o4, o5] [] M := zseg (zCl_good gTb d) (fun j => j == 7 || j == 23 || j == 25 || j == 41 || j == 65 || j == 87 || j == 91 || j == 99 || j == 107 || j == 115) 31 h
set_option maxRecDepth 100000 in
set_option maxHeartbeats 4000000 in
/-- from place 65 -/
theorem sg_X8_stairs_65 {d : Nat} {Q : List Value → zM → Prop} (a0 : Nat) (o1 : Option Value) (o2 : Option Value) (o3 : Option Value) (o4 : Option Value) (o5 : Option Value) (M : zM) (h :
(zsh M a0).1 = 16 ∧ ((zsh M (zR M a0 18)).1 = 2 ∧ (zin ((0 : Int32)) (zsh M (zR M a0 18)).2 ∧ (((zI M (zR M a0 18) ((0 : Int32)).toNatClampNeg) < 0 → (Q [.int (((-8) : Int32))] M)) ∧ (¬ ((zI M (zR M a0 18) ((0 : Int32)).toNatClampNeg) < 0) → ((zsh M a0).1 = 16 ∧ ((zsh M (zR M a0 18)).1 = 2 ∧ (zin ((1 : Int32)) (zsh M (zR M a0 18)).2 ∧ (((zI M (zR M a0 18) ((1 : Int32)).toNatClampNeg) < 0 → (Q [.int (((-8) : Int32))] M)) ∧ (¬ ((zI M (zR M a0 18) ((1 : Int32)).toNatClampNeg) < 0) → ((zsh M a0).1 = 16 ∧ ((zsh M (zR M a0 18)).1 = 2 ∧ (zin ((2 : Int32)) (zsh M (zR M a0 18)).2 ∧ (((zI M (zR M a0 18) ((2 : Int32)).toNatClampNeg) < 0 → (Q [.int (((-8) : Int32))] M)) ∧ (¬ ((zI M (zR M a0 18) ((2 : Int32)).toNatClampNeg) < 0) → ((zsh M a0).1 = 16 ∧ ((zsh M (zR M a0 18)).1 = 2 ∧ (zin ((3 : Int32)) (zsh M (zR M a0 18)).2 ∧ ((0 ≤ (zI M (zR M a0 18) ((3 : Int32)).toNatClampNeg) → (wX8_stairs d Q 87 [some (.ref a0), o1, o2, o3, o4, o5] [] M)) ∧ (¬ (0 ≤ (zI M (zR M a0 18) ((3 : Int32)).toNatClampNeg)) → (Q [.int (((-8) : Int32))] M))))))))))))))))))))
) : wX8_stairs d Q 65 [some (.ref a0), o1, o2, o3, o4, o5] [] M := zseg (zCl_good gTb d) (fun j => j == 7 || j == 23 || j == 25 || j == 41 || j == 65 || j == 87 || j == 91 || j == 99 || j == 107 || j == 115) 33 h
set_option maxRecDepth 100000 in
set_option maxHeartbeats 4000000 in
/-- from place 87 -/
theorem sg_X8_stairs_87 {d : Nat} {Q : List Value → zM → Prop} (a0 : Nat) (o1 : Option Value) (o2 : Option Value) (o3 : Option Value) (o4 : Option Value) (o5 : Option Value) (M : zM) (h :
wX8_stairs d Q 91 [some (.ref a0), some (.int ((0 : Int32))), some (.int ((0 : Int32))), o3, o4, o5] [] M
) : wX8_stairs d Q 87 [some (.ref a0), o1, o2, o3, o4, o5] [] M := zseg (zCl_good gTb d) (fun j => j == 7 || j == 23 || j == 25 || j == 41 || j == 65 || j == 87 || j == 91 || j == 99 || j == 107 || j == 115) 9 h
set_option maxRecDepth 100000 in
set_option maxHeartbeats 4000000 in
/-- from place 91 -/
theorem sg_X8_stairs_91 {d : Nat} {Q : List Value → zM → Prop} (a0 : Nat) (a1 : Int32) (a2 : Int32) (o3 : Option Value) (o4 : Option Value) (o5 : Option Value) (M : zM) (h :
(zsh M a0).1 = 16 ∧ ((zsh M (zR M a0 18)).1 = 2 ∧ (zin ((0 : Int32)) (zsh M (zR M a0 18)).2 ∧ (((zI M (zR M a0 18) ((0 : Int32)).toNatClampNeg) ≤ a2 → (Q [.int a1] M)) ∧ (¬ ((zI M (zR M a0 18) ((0 : Int32)).toNatClampNeg) ≤ a2) → (wX8_stairs d Q 99 [some (.ref a0), some (.int a1), some (.int a2), some (.int ((0 : Int32))), o4, o5] [] M)))))
) : wX8_stairs d Q 91 [some (.ref a0), some (.int a1), some (.int a2), o3, o4, o5] [] M := zseg (zCl_good gTb d) (fun j => j == 7 || j == 23 || j == 25 || j == 41 || j == 65 || j == 87 || j == 91 || j == 99 || j == 107 || j == 115) 15 h
set_option maxRecDepth 100000 in
set_option maxHeartbeats 4000000 in
/-- from place 99 -/
theorem sg_X8_stairs_99 {d : Nat} {Q : List Value → zM → Prop} (a0 : Nat) (a1 : Int32) (a2 : Int32) (a3 : Int32) (o4 : Option Value) (o5 : Option Value) (M : zM) (h :
(zsh M a0).1 = 16 ∧ ((zsh M (zR M a0 18)).1 = 2 ∧ (zin ((1 : Int32)) (zsh M (zR M a0 18)).2 ∧ (((zI M (zR M a0 18) ((1 : Int32)).toNatClampNeg) ≤ a3 → (let v2_1 : Int32 := a2 + 1
wX8_stairs d Q 91 [some (.ref a0), some (.int a1), some (.int v2_1), some (.int a3), o4, o5] [] M)) ∧ (¬ ((zI M (zR M a0 18) ((1 : Int32)).toNatClampNeg) ≤ a3) → (wX8_stairs d Q 107 [some (.ref a0), some (.int a1), some (.int a2), some (.int a3), some (.int ((0 : Int32))), o5] [] M)))))
) : wX8_stairs d Q 99 [some (.ref a0), some (.int a1), some (.int a2), some (.int a3), o4, o5] [] M := zseg (zCl_good gTb d) (fun j => j == 7 || j == 23 || j == 25 || j == 41 || j == 65 || j == 87 || j == 91 || j == 99 || j == 107 || j == 115) 15 h
set_option maxRecDepth 100000 in
set_option maxHeartbeats 4000000 in
/-- from place 107 -/
theorem sg_X8_stairs_107 {d : Nat} {Q : List Value → zM → Prop} (a0 : Nat) (a1 : Int32) (a2 : Int32) (a3 : Int32) (a4 : Int32) (o5 : Option Value) (M : zM) (h :
(zsh M a0).1 = 16 ∧ ((zsh M (zR M a0 18)).1 = 2 ∧ (zin ((2 : Int32)) (zsh M (zR M a0 18)).2 ∧ (((zI M (zR M a0 18) ((2 : Int32)).toNatClampNeg) ≤ a4 → (let v3_1 : Int32 := a3 + 1
wX8_stairs d Q 99 [some (.ref a0), some (.int a1), some (.int a2), some (.int v3_1), some (.int a4), o5] [] M)) ∧ (¬ ((zI M (zR M a0 18) ((2 : Int32)).toNatClampNeg) ≤ a4) → (wX8_stairs d Q 115 [some (.ref a0), some (.int a1), some (.int a2), some (.int a3), some (.int a4), some (.int ((0 : Int32)))] [] M)))))
) : wX8_stairs d Q 107 [some (.ref a0), some (.int a1), some (.int a2), some (.int a3), some (.int a4), o5] [] M := zseg (zCl_good gTb d) (fun j => j == 7 || j == 23 || j == 25 || j == 41 || j == 65 || j == 87 || j == 91 || j == 99 || j == 107 || j == 115) 15 h
set_option maxRecDepth 100000 in
set_option maxHeartbeats 4000000 in
/-- from place 115 -/
theorem sg_X8_stairs_115 {d : Nat} {Q : List Value → zM → Prop} (a0 : Nat) (a1 : Int32) (a2 : Int32) (a3 : Int32) (a4 : Int32) (a5 : Int32) (M : zM) (h :
(zsh M a0).1 = 16 ∧ ((zsh M (zR M a0 18)).1 = 2 ∧ (zin ((3 : Int32)) (zsh M (zR M a0 18)).2 ∧ (((zI M (zR M a0 18) ((3 : Int32)).toNatClampNeg) ≤ a5 → (let v4_1 : Int32 := a4 + 1
wX8_stairs d Q 107 [some (.ref a0), some (.int a1), some (.int a2), some (.int a3), some (.int v4_1), some (.int a5)] [] M)) ∧ (¬ ((zI M (zR M a0 18) ((3 : Int32)).toNatClampNeg) ≤ a5) → ((zsh M a0).1 = 16 ∧ (ycI d nX8_isStair [.ref a0, .int (((a2 ||| (a3 <<< (((5 : Int32)) &&& 31))) ||| (a4 <<< (((10 : Int32)) &&& 31))) ||| (a5 <<< (((15 : Int32)) &&& 31)))] M fun c3 M2 => ((c3 = 0 → (let v1_4 : Int32 := a1 + ((0 : Int32))
let v5_5 : Int32 := a5 + 1
wX8_stairs d Q 115 [some (.ref a0), some (.int v1_4), some (.int a2), some (.int a3), some (.int a4), some (.int v5_5)] [] M2)) ∧ (¬ (c3 = 0) → (let v1_6 : Int32 := a1 + ((1 : Int32))
let v5_7 : Int32 := a5 + 1
wX8_stairs d Q 115 [some (.ref a0), some (.int v1_6), some (.int a2), some (.int a3), some (.int a4), some (.int v5_7)] [] M2)))))))))
) : wX8_stairs d Q 115 [some (.ref a0), some (.int a1), some (.int a2), some (.int a3), some (.int a4), some (.int a5)] [] M := zseg (zCl_good gTb d) (fun j => j == 7 || j == 23 || j == 25 || j == 41 || j == 65 || j == 87 || j == 91 || j == 99 || j == 107 || j == 115) 41 h
abbrev wX8_isStair (d : Nat) (Q : List Value → zM → Prop) : Nat → zLv → List Value → zM → Prop := zW (zCl gTb d) 2 kX8_isStair Q
theorem en_X8_isStair {d : Nat} {Q : List Value → zM → Prop} (a0 : Nat) (a1 : Int32) (M : zM) (h : wX8_isStair d Q 0 [some (.ref a0), some (.int a1), none] [] M) : zCl gTb (d + 1) nX8_isStair [.ref a0, .int a1] M Q := ⟨Nat.le_of_ble_eq_true rfl, h⟩
set_option maxRecDepth 100000 in
set_option maxHeartbeats 4000000 in
/-- from place 0 -/
theorem sg_X8_isStair_0 {d : Nat} {Q : List Value → zM → Prop} (a0 : Nat) (a1 : Int32) (M : zM) (h :
wX8_isStair d Q 2 [some (.ref a0), some (.int a1), some (.int ((0 : Int32)))] [] M
) : wX8_isStair d Q 0 [some (.ref a0), some (.int a1), none] [] M := zseg (zCl_good gTb d) (fun j => j == 2) 7 h
set_option maxRecDepth 100000 in
set_option maxHeartbeats 4000000 in
/-- from place 2 -/
theorem sg_X8_isStair_2 {d : Nat} {Q : List Value → zM → Prop} (a0 : Nat) (a1 : Int32) (a2 : Int32) (M : zM) (h :
(zsh M a0).1 = 16 ∧ (((zI M a0 8) ≤ a2 → (zb ((1 : Int32)) ∧ (Q [.int ((1 : Int32))] M))) ∧ (¬ ((zI M a0 8) ≤ a2) → ((zsh M a0).1 = 16 ∧ (ycI d nX8_lead [.ref a0, .int (((50 : Int32)) + a2)] M fun c2 M1 => ((zsh M1 a0).1 = 16 ∧ (ycI d nX8_divides [.ref a0, .int c2, .int a1] M1 fun c4 M3 => ((c4 = 0 → (let v2_5 : Int32 := a2 + 1
wX8_isStair d Q 2 [some (.ref a0), some (.int a1), some (.int v2_5)] [] M3)) ∧ (¬ (c4 = 0) → (zb ((0 : Int32)) ∧ (Q [.int ((0 : Int32))] M3))))))))))
) : wX8_isStair d Q 2 [some (.ref a0), some (.int a1), some (.int a2)] [] M := zseg (zCl_good gTb d) (fun j => j == 2) 24 h
