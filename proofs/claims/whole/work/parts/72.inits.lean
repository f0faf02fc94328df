/-! stretches of the small code, by wip/whole/vcgen.py -/
abbrev wX5_init (d : Nat) (Q : List Value → zM → Prop) : Nat → zLv → List Value → zM → Prop := zW (zCl gTb d) 0 kX5_init Q
theorem en_X5_init {d : Nat} {Q : List Value → zM → Prop} (a0 : Nat) (M : zM) (h : wX5_init d Q 0 [some (.ref a0)] [] M) : zCl gTb (d + 1) nX5_init [.ref a0] M Q := ⟨Nat.le_of_ble_eq_true rfl, h⟩
set_option maxRecDepth 100000 in
set_option maxHeartbeats 4000000 in
/-- from place 0 -/
theorem sg_X5_init_0 {d : Nat} {Q : List Value → zM → Prop} (a0 : Nat) (M : zM) (h :
¬ a0 = 0 ∧ (Q [] M)
) : wX5_init d Q 0 [some (.ref a0)] [] M := zseg (zCl_good gTb d) (fun _ => false) 8 h
abbrev wX6_init (d : Nat) (Q : List Value → zM → Prop) : Nat → zLv → List Value → zM → Prop := zW (zCl gTb d) 0 kX6_init Q
theorem en_X6_init {d : Nat} {Q : List Value → zM → Prop} (a0 : Nat) (a1 : Nat) (M : zM) (h : wX6_init d Q 0 [some (.ref a0), some (.ref a1)] [] M) : zCl gTb (d + 1) nX6_init [.ref a0, .ref a1] M Q := ⟨Nat.le_of_ble_eq_true rfl, h⟩
set_option maxRecDepth 100000 in
set_option maxHeartbeats 4000000 in
/-- from place 0 -/
theorem sg_X6_init_0 {d : Nat} {Q : List Value → zM → Prop} (a0 : Nat) (a1 : Nat) (M : zM) (h :
¬ a0 = 0 ∧ ((zsh M a0).1 = 14 ∧ (let M1 : zM := zuR M a0 0 a1
¬ ((100 : Int32)) < 0 ∧ (((100 : Int32)).toNatClampNeg ≤ 100000 ∧ (let n2 : Nat := zn M1
let M3 : zM := zal M1 (3, ((100 : Int32)).toNatClampNeg) ((100 : Int32)).toNatClampNeg
(zsh M3 a0).1 = 14 ∧ (let M4 : zM := zuR M3 a0 1 n2
¬ ((100 : Int32)) < 0 ∧ (((100 : Int32)).toNatClampNeg ≤ 100000 ∧ (let n5 : Nat := zn M4
let M6 : zM := zal M4 (2, ((100 : Int32)).toNatClampNeg) ((100 : Int32)).toNatClampNeg
(zsh M6 a0).1 = 14 ∧ (let M7 : zM := zuR M6 a0 2 n5
¬ ((100 : Int32)) < 0 ∧ (((100 : Int32)).toNatClampNeg ≤ 100000 ∧ (let n8 : Nat := zn M7
let M9 : zM := zal M7 (2, ((100 : Int32)).toNatClampNeg) ((100 : Int32)).toNatClampNeg
(zsh M9 a0).1 = 14 ∧ (let M10 : zM := zuR M9 a0 3 n8
Q [] M10)))))))))))
) : wX6_init d Q 0 [some (.ref a0), some (.ref a1)] [] M := zseg (zCl_good gTb d) (fun _ => false) 23 h
abbrev wX7_row (d : Nat) (Q : List Value → zM → Prop) : Nat → zLv → List Value → zM → Prop := zW (zCl gTb d) 4 kX7_row Q
theorem en_X7_row {d : Nat} {Q : List Value → zM → Prop} (a0 : Int32) (a1 : Nat) (M : zM) (h : wX7_row d Q 0 [some (.int a0), some (.ref a1), none, none] [] M) : zCl gTb (d + 1) nX7_row [.int a0, .ref a1] M Q := ⟨Nat.le_of_ble_eq_true rfl, h⟩
set_option maxRecDepth 100000 in
set_option maxHeartbeats 4000000 in
/-- from place 0 -/
theorem sg_X7_row_0 {d : Nat} {Q : List Value → zM → Prop} (a0 : Int32) (a1 : Nat) (M : zM) (h :
¬ a0 < 0 ∧ (a0.toNatClampNeg ≤ 100000 ∧ (let n1 : Nat := zn M
let M2 : zM := zal M (5, a0.toNatClampNeg) a0.toNatClampNeg
wX7_row d Q 5 [some (.int a0), some (.ref a1), some (.ref n1), some (.int ((0 : Int32)))] [] M2))
) : wX7_row d Q 0 [some (.int a0), some (.ref a1), none, none] [] M := zseg (zCl_good gTb d) (fun j => j == 5) 10 h
set_option maxRecDepth 100000 in
set_option maxHeartbeats 4000000 in
/-- from place 5 -/
theorem sg_X7_row_5 {d : Nat} {Q : List Value → zM → Prop} (a0 : Int32) (a1 : Nat) (a2 : Nat) (a3 : Int32) (M : zM) (h :
(a0 ≤ a3 → (Q [.ref a2] M)) ∧ (¬ (a0 ≤ a3) → (let n1 : Nat := zn M
let M2 : zM := zal M (14, 0) 5
(zsh M2 n1).1 = 14 ∧ (ycV d nX6_init [.ref n1, .ref a1] M2 fun M3 => ((zsh M3 a2).1 = 5 ∧ (zin a3 (zsh M3 a2).2 ∧ ((zsh M3 n1).1 = 14 ∧ (let M4 : zM := zuR M3 a2 a3.toNatClampNeg n1
let v3_5 : Int32 := a3 + 1
wX7_row d Q 5 [some (.int a0), some (.ref a1), some (.ref a2), some (.int v3_5)] [] M4)))))))
) : wX7_row d Q 5 [some (.int a0), some (.ref a1), some (.ref a2), some (.int a3)] [] M := zseg (zCl_good gTb d) (fun j => j == 5) 19 h
abbrev wX1_init (d : Nat) (Q : List Value → zM → Prop) : Nat → zLv → List Value → zM → Prop := zW (zCl gTb d) 0 kX1_init Q
theorem en_X1_init {d : Nat} {Q : List Value → zM → Prop} (a0 : Nat) (a1 : Nat) (a2 : Int32) (M : zM) (h : wX1_init d Q 0 [some (.ref a0), some (.ref a1), some (.int a2)] [] M) : zCl gTb (d + 1) nX1_init [.ref a0, .ref a1, .int a2] M Q := ⟨Nat.le_of_ble_eq_true rfl, h⟩
set_option maxRecDepth 100000 in
set_option maxHeartbeats 4000000 in
/-- from place 0 -/
theorem sg_X1_init_0 {d : Nat} {Q : List Value → zM → Prop} (a0 : Nat) (a1 : Nat) (a2 : Int32) (M : zM) (h :
¬ a0 = 0 ∧ (let n1 : Nat := zn M
let M2 : zM := zal M (14, 0) 5
(zsh M2 n1).1 = 14 ∧ (ycV d nX6_init [.ref n1, .ref a1] M2 fun M3 => ((zsh M3 a0).1 = 11 ∧ (let M4 : zM := zuR M3 a0 0 n1
ycR d nX7_row [.int a2, .ref a1] M4 fun c6 M5 => ((zsh M5 a0).1 = 11 ∧ (let M7 : zM := zuR M5 a0 1 c6
Q [] M7))))))
) : wX1_init d Q 0 [some (.ref a0), some (.ref a1), some (.int a2)] [] M := zseg (zCl_good gTb d) (fun _ => false) 19 h
abbrev wX0_init (d : Nat) (Q : List Value → zM → Prop) : Nat → zLv → List Value → zM → Prop := zW (zCl gTb d) 0 kX0_init Q
theorem en_X0_init {d : Nat} {Q : List Value → zM → Prop} (a0 : Nat) (a1 : Nat) (M : zM) (h : wX0_init d Q 0 [some (.ref a0), some (.ref a1)] [] M) : zCl gTb (d + 1) nX0_init [.ref a0, .ref a1] M Q := ⟨Nat.le_of_ble_eq_true rfl, h⟩
set_option maxRecDepth 100000 in
set_option maxHeartbeats 4000000 in
/-- from place 0 -/
theorem sg_X0_init_0 {d : Nat} {Q : List Value → zM → Prop} (a0 : Nat) (a1 : Nat) (M : zM) (h :
¬ a0 = 0 ∧ (let n1 : Nat := zn M
let M2 : zM := zal M (14, 0) 5
(zsh M2 n1).1 = 14 ∧ (ycV d nX6_init [.ref n1, .ref a1] M2 fun M3 => ((zsh M3 a0).1 = 10 ∧ (let M4 : zM := zuR M3 a0 0 n1
let n5 : Nat := zn M4
let M6 : zM := zal M4 (14, 0) 5
(zsh M6 n5).1 = 14 ∧ (ycV d nX6_init [.ref n5, .ref a1] M6 fun M7 => ((zsh M7 a0).1 = 10 ∧ (let M8 : zM := zuR M7 a0 1 n5
ycR d nX7_row [.int ((24 : Int32)), .ref a1] M8 fun c10 M9 => ((zsh M9 a0).1 = 10 ∧ (let M11 : zM := zuR M9 a0 2 c10
Q [] M11)))))))))
) : wX0_init d Q 0 [some (.ref a0), some (.ref a1)] [] M := zseg (zCl_good gTb d) (fun _ => false) 25 h
abbrev wX3_init (d : Nat) (Q : List Value → zM → Prop) : Nat → zLv → List Value → zM → Prop := zW (zCl gTb d) 0 kX3_init Q
theorem en_X3_init {d : Nat} {Q : List Value → zM → Prop} (a0 : Nat) (a1 : Nat) (a2 : Int32) (M : zM) (h : wX3_init d Q 0 [some (.ref a0), some (.ref a1), some (.int a2), none] [] M) : zCl gTb (d + 1) nX3_init [.ref a0, .ref a1, .int a2] M Q := ⟨Nat.le_of_ble_eq_true rfl, h⟩
set_option maxRecDepth 100000 in
set_option maxHeartbeats 4000000 in
/-- from place 0 -/
theorem sg_X3_init_0 {d : Nat} {Q : List Value → zM → Prop} (a0 : Nat) (a1 : Nat) (a2 : Int32) (M : zM) (h :
¬ a0 = 0 ∧ ((zsh M a0).1 = 12 ∧ (let M1 : zM := zuR M a0 0 a1
¬ ((25 : Int32)) < 0 ∧ (((25 : Int32)).toNatClampNeg ≤ 100000 ∧ (let n2 : Nat := zn M1
let M3 : zM := zal M1 (6, ((25 : Int32)).toNatClampNeg) ((25 : Int32)).toNatClampNeg
(zsh M3 a0).1 = 12 ∧ (let M4 : zM := zuR M3 a0 1 n2
wX3_init d Q 11 [some (.ref a0), some (.ref a1), some (.int a2), some (.int ((0 : Int32)))] [] M4)))))
) : wX3_init d Q 0 [some (.ref a0), some (.ref a1), some (.int a2), none] [] M := zseg (zCl_good gTb d) (fun j => j == 11) 16 h
set_option maxRecDepth 100000 in
set_option maxHeartbeats 4000000 in
/-- from place 11 -/
theorem sg_X3_init_11 {d : Nat} {Q : List Value → zM → Prop} (a0 : Nat) (a1 : Nat) (a2 : Int32) (a3 : Int32) (M : zM) (h :
(((24 : Int32)) < a3 → (¬ ((576 : Int32)) < 0 ∧ (((576 : Int32)).toNatClampNeg ≤ 100000 ∧ (let n1 : Nat := zn M
let M2 : zM := zal M (2, ((576 : Int32)).toNatClampNeg) ((576 : Int32)).toNatClampNeg
(zsh M2 a0).1 = 12 ∧ (let M3 : zM := zuR M2 a0 7 n1
Q [] M3))))) ∧ (¬ (((24 : Int32)) < a3) → ((zsh M a0).1 = 12 ∧ (let n4 : Nat := zn M
let M5 : zM := zal M (11, 0) 2
(zsh M5 n4).1 = 11 ∧ (ycV d nX1_init [.ref n4, .ref a1, .int a2] M5 fun M6 => ((zsh M6 (zR M a0 1)).1 = 6 ∧ (zin a3 (zsh M6 (zR M a0 1)).2 ∧ ((zsh M6 n4).1 = 11 ∧ (let M7 : zM := zuR M6 (zR M a0 1) a3.toNatClampNeg n4
let v3_8 : Int32 := a3 + 1
wX3_init d Q 11 [some (.ref a0), some (.ref a1), some (.int a2), some (.int v3_8)] [] M7))))))))
) : wX3_init d Q 11 [some (.ref a0), some (.ref a1), some (.int a2), some (.int a3)] [] M := zseg (zCl_good gTb d) (fun j => j == 11) 24 h
abbrev wX7_init (d : Nat) (Q : List Value → zM → Prop) : Nat → zLv → List Value → zM → Prop := zW (zCl gTb d) 0 kX7_init Q
theorem en_X7_init {d : Nat} {Q : List Value → zM → Prop} (a0 : Nat) (a1 : Int32) (M : zM) (h : wX7_init d Q 0 [some (.ref a0), some (.int a1)] [] M) : zCl gTb (d + 1) nX7_init [.ref a0, .int a1] M Q := ⟨Nat.le_of_ble_eq_true rfl, h⟩
set_option maxRecDepth 100000 in
set_option maxHeartbeats 4000000 in
/-- from place 0 -/
theorem sg_X7_init_0 {d : Nat} {Q : List Value → zM → Prop} (a0 : Nat) (a1 : Int32) (M : zM) (h :
¬ a0 = 0 ∧ ((((1 : Int32)) ≤ a1 → ((a1 ≤ ((4 : Int32)) → ((zsh M a0).1 = 15 ∧ (let M1 : zM := zuI M a0 0 a1
wX7_init d Q 15 [some (.ref a0), some (.int a1)] [] M1))) ∧ (¬ (a1 ≤ ((4 : Int32))) → ((zsh M a0).1 = 15 ∧ (let M2 : zM := zuI M a0 0 ((4 : Int32))
wX7_init d Q 15 [some (.ref a0), some (.int a1)] [] M2))))) ∧ (¬ (((1 : Int32)) ≤ a1) → ((zsh M a0).1 = 15 ∧ (let M3 : zM := zuI M a0 0 ((1 : Int32))
wX7_init d Q 15 [some (.ref a0), some (.int a1)] [] M3))))
) : wX7_init d Q 0 [some (.ref a0), some (.int a1)] [] M := zseg (zCl_good gTb d) (fun j => j == 15) 22 h
set_option maxRecDepth 100000 in
set_option maxHeartbeats 4000000 in
/-- from place 15 -/
theorem sg_X7_init_15 {d : Nat} {Q : List Value → zM → Prop} (a0 : Nat) (o1 : Option Value) (M : zM) (h :
let n1 : Nat := zn M
let M2 : zM := zal M (13, 0) 1
(zsh M2 n1).1 = 13 ∧ (ycV d nX5_init [.ref n1] M2 fun M3 => ((zsh M3 a0).1 = 15 ∧ (let M4 : zM := zuR M3 a0 1 n1
(zsh M3 a0).1 = 15 ∧ (ycR d nX7_row [.int ((40 : Int32)), .ref (zR M4 a0 1)] M4 fun c6 M5 => ((zsh M5 a0).1 = 15 ∧ (let M7 : zM := zuR M5 a0 2 c6
(zsh M5 a0).1 = 15 ∧ (ycR d nX7_row [.int ((9 : Int32)), .ref (zR M7 a0 1)] M7 fun c9 M8 => ((zsh M8 a0).1 = 15 ∧ (let M10 : zM := zuR M8 a0 3 c9
let n11 : Nat := zn M10
let M12 : zM := zal M10 (12, 0) 11
(zsh M12 a0).1 = 15 ∧ ((zsh M12 n11).1 = 12 ∧ (ycV d nX3_init [.ref n11, .ref (zR M12 a0 1), .int ((8 : Int32))] M12 fun M13 => ((zsh M13 a0).1 = 15 ∧ (let M14 : zM := zuR M13 a0 5 n11
let n15 : Nat := zn M14
let M16 : zM := zal M14 (12, 0) 11
(zsh M16 a0).1 = 15 ∧ ((zsh M16 n15).1 = 12 ∧ (ycV d nX3_init [.ref n15, .ref (zR M16 a0 1), .int ((0 : Int32))] M16 fun M17 => ((zsh M17 a0).1 = 15 ∧ (let M18 : zM := zuR M17 a0 7 n15
let n19 : Nat := zn M18
let M20 : zM := zal M18 (10, 0) 5
(zsh M20 a0).1 = 15 ∧ ((zsh M20 n19).1 = 10 ∧ (ycV d nX0_init [.ref n19, .ref (zR M20 a0 1)] M20 fun M21 => ((zsh M21 a0).1 = 15 ∧ (let M22 : zM := zuR M21 a0 8 n19
let n23 : Nat := zn M22
let M24 : zM := zal M22 (10, 0) 5
(zsh M24 a0).1 = 15 ∧ ((zsh M24 n23).1 = 10 ∧ (ycV d nX0_init [.ref n23, .ref (zR M24 a0 1)] M24 fun M25 => ((zsh M25 a0).1 = 15 ∧ (let M26 : zM := zuR M25 a0 9 n23
let n27 : Nat := zn M26
let M28 : zM := zal M26 (14, 0) 5
(zsh M28 a0).1 = 15 ∧ ((zsh M28 n27).1 = 14 ∧ (ycV d nX6_init [.ref n27, .ref (zR M28 a0 1)] M28 fun M29 => ((zsh M29 a0).1 = 15 ∧ (let M30 : zM := zuR M29 a0 11 n27
let n31 : Nat := zn M30
let M32 : zM := zal M30 (14, 0) 5
(zsh M32 a0).1 = 15 ∧ ((zsh M32 n31).1 = 14 ∧ (ycV d nX6_init [.ref n31, .ref (zR M32 a0 1)] M32 fun M33 => ((zsh M33 a0).1 = 15 ∧ (let M34 : zM := zuR M33 a0 12 n31
¬ ((4 : Int32)) < 0 ∧ (((4 : Int32)).toNatClampNeg ≤ 100000 ∧ (let n35 : Nat := zn M34
let M36 : zM := zal M34 (2, ((4 : Int32)).toNatClampNeg) ((4 : Int32)).toNatClampNeg
(zsh M36 a0).1 = 15 ∧ (let M37 : zM := zuR M36 a0 13 n35
Q [] M37))))))))))))))))))))))))))))))))))))
) : wX7_init d Q 15 [some (.ref a0), o1] [] M := zseg (zCl_good gTb d) (fun j => j == 15) 71 h
