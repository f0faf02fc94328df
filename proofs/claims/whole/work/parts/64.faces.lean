/-! stretches of the small code, by wip/whole/vcgen.py -/
abbrev wX7_variables (d : Nat) (Q : List Value → zM → Prop) : Nat → zLv → List Value → zM → Prop := zW (zCl gTb d) 1 kX7_variables Q
theorem en_X7_variables {d : Nat} {Q : List Value → zM → Prop} (a0 : Nat) (M : zM) (h : wX7_variables d Q 0 [some (.ref a0)] [] M) : zCl gTb (d + 1) nX7_variables [.ref a0] M Q := ⟨Nat.le_of_ble_eq_true rfl, h⟩
set_option maxRecDepth 100000 in
set_option maxHeartbeats 4000000 in
/-- from place 0 -/
theorem sg_X7_variables_0 {d : Nat} {Q : List Value → zM → Prop} (a0 : Nat) (M : zM) (h :
(zsh M a0).1 = 15 ∧ (Q [.int (zI M a0 0)] M)
) : wX7_variables d Q 0 [some (.ref a0)] [] M := zseg (zCl_good gTb d) (fun _ => false) 8 h
abbrev wX7_order (d : Nat) (Q : List Value → zM → Prop) : Nat → zLv → List Value → zM → Prop := zW (zCl gTb d) 1 kX7_order Q
theorem en_X7_order {d : Nat} {Q : List Value → zM → Prop} (a0 : Nat) (a1 : Int32) (M : zM) (h : wX7_order d Q 0 [some (.ref a0), some (.int a1), none, none] [] M) : zCl gTb (d + 1) nX7_order [.ref a0, .int a1] M Q := ⟨Nat.le_of_ble_eq_true rfl, h⟩
set_option maxRecDepth 100000 in
set_option maxHeartbeats 4000000 in
/-- from place 0 -/
theorem sg_X7_order_0 {d : Nat} {Q : List Value → zM → Prop} (a0 : Nat) (a1 : Int32) (M : zM) (h :
(a1 < 0 → (Q [.int (((-2) : Int32))] M)) ∧ (¬ (a1 < 0) → ((a1 ≤ ((2 : Int32)) → ((zsh M a0).1 = 15 ∧ ((zsh M (zR M a0 1)).1 = 13 ∧ (let v2_1 : Int32 := zI M (zR M a0 1) 0
(zsh M a0).1 = 15 ∧ ((zsh M (zR M a0 1)).1 = 13 ∧ (let M2 : zM := zuI M (zR M a0 1) 0 a1
wX7_order d Q 17 [some (.ref a0), some (.int a1), some (.int v2_1), some (.int ((0 : Int32)))] [] M2)))))) ∧ (¬ (a1 ≤ ((2 : Int32))) → (Q [.int (((-2) : Int32))] M))))
) : wX7_order d Q 0 [some (.ref a0), some (.int a1), none, none] [] M := zseg (zCl_good gTb d) (fun j => j == 17 || j == 29) 24 h
set_option maxRecDepth 100000 in
set_option maxHeartbeats 4000000 in
/-- from place 17 -/
theorem sg_X7_order_17 {d : Nat} {Q : List Value → zM → Prop} (a0 : Nat) (o1 : Option Value) (a2 : Int32) (a3 : Int32) (M : zM) (h :
(((40 : Int32)) ≤ a3 → (wX7_order d Q 29 [some (.ref a0), o1, some (.int a2), some (.int ((0 : Int32)))] [] M)) ∧ (¬ (((40 : Int32)) ≤ a3) → ((zsh M a0).1 = 15 ∧ ((zsh M (zR M a0 2)).1 = 5 ∧ (zin a3 (zsh M (zR M a0 2)).2 ∧ ((zsh M (zR M (zR M a0 2) a3.toNatClampNeg)).1 = 14 ∧ (ycV d nX6_arrange [.ref (zR M (zR M a0 2) a3.toNatClampNeg)] M fun M1 => (let v3_2 : Int32 := a3 + 1
wX7_order d Q 17 [some (.ref a0), o1, some (.int a2), some (.int v3_2)] [] M1)))))))
) : wX7_order d Q 17 [some (.ref a0), o1, some (.int a2), some (.int a3)] [] M := zseg (zCl_good gTb d) (fun j => j == 17 || j == 29) 17 h
set_option maxRecDepth 100000 in
set_option maxHeartbeats 4000000 in
/-- from place 29 -/
theorem sg_X7_order_29 {d : Nat} {Q : List Value → zM → Prop} (a0 : Nat) (o1 : Option Value) (a2 : Int32) (a3 : Int32) (M : zM) (h :
(zsh M a0).1 = 15 ∧ (((zI M a0 4) ≤ a3 → ((zsh M a0).1 = 15 ∧ (ycV d nX7_forgetBasis [.ref a0] M fun M1 => (Q [.int a2] M1)))) ∧ (¬ ((zI M a0 4) ≤ a3) → ((zsh M a0).1 = 15 ∧ ((zsh M (zR M a0 3)).1 = 5 ∧ (zin a3 (zsh M (zR M a0 3)).2 ∧ ((zsh M (zR M (zR M a0 3) a3.toNatClampNeg)).1 = 14 ∧ (ycV d nX6_arrange [.ref (zR M (zR M a0 3) a3.toNatClampNeg)] M fun M2 => (let v3_3 : Int32 := a3 + 1
wX7_order d Q 29 [some (.ref a0), o1, some (.int a2), some (.int v3_3)] [] M2))))))))
) : wX7_order d Q 29 [some (.ref a0), o1, some (.int a2), some (.int a3)] [] M := zseg (zCl_good gTb d) (fun j => j == 17 || j == 29) 20 h
abbrev wX7_term (d : Nat) (Q : List Value → zM → Prop) : Nat → zLv → List Value → zM → Prop := zW (zCl gTb d) 1 kX7_term Q
theorem en_X7_term {d : Nat} {Q : List Value → zM → Prop} (a0 : Nat) (a1 : Int32) (a2 : Int32) (a3 : Int32) (a4 : Int32) (M : zM) (h : wX7_term d Q 0 [some (.ref a0), some (.int a1), some (.int a2), some (.int a3), some (.int a4), none, none, none] [] M) : zCl gTb (d + 1) nX7_term [.ref a0, .int a1, .int a2, .int a3, .int a4] M Q := ⟨Nat.le_of_ble_eq_true rfl, h⟩
set_option maxRecDepth 100000 in
set_option maxHeartbeats 4000000 in
/-- from place 0 -/
theorem sg_X7_term_0 {d : Nat} {Q : List Value → zM → Prop} (a0 : Nat) (a1 : Int32) (a2 : Int32) (a3 : Int32) (a4 : Int32) (M : zM) (h :
ycI d nX7_isPlace [.int a1] M fun c2 M1 => ((¬ c2 = 0 → (ycI d nX7_isLarge [.int a2, .int ((1000000000 : Int32))] M1 fun c4 M3 => ((¬ c4 = 0 → (Q [.int (((-2) : Int32))] M3)) ∧ (¬ (¬ c4 = 0) → (ycI d nX7_isLarge [.int a3, .int ((1000000000 : Int32))] M3 fun c6 M5 => ((¬ c6 = 0 → (Q [.int (((-2) : Int32))] M5)) ∧ (¬ (¬ c6 = 0) → ((a3 = 0 → (Q [.int (((-2) : Int32))] M5)) ∧ (¬ (a3 = 0) → ((zsh M5 a0).1 = 15 ∧ (ycI d nX7_isTold [.ref a0, .int a4] M5 fun c8 M7 => ((¬ c8 = 0 → ((zsh M7 a0).1 = 15 ∧ ((zsh M7 (zR M7 a0 2)).1 = 5 ∧ (zin a1 (zsh M7 (zR M7 a0 2)).2 ∧ (let r5_9 : Nat := zR M7 (zR M7 a0 2) a1.toNatClampNeg
(a2 = 0 → ((zsh M7 r5_9).1 = 14 ∧ (Q [.int (zI M7 r5_9 4)] M7))) ∧ (¬ (a2 = 0) → ((0 ≤ a3 → (ycJ d nX2_lowest [.long (a2.toInt64), .long (a3.toInt64)] M7 fun c11 M10 => ((zsh M10 r5_9).1 = 14 ∧ (ycI d nX6_come [.ref r5_9, .long c11, .int a4] M10 fun c13 M12 => ((¬ c13 = 0 → ((zsh M12 r5_9).1 = 14 ∧ (Q [.int (zI M12 r5_9 4)] M12))) ∧ (¬ (¬ c13 = 0) → (Q [.int (((-7) : Int32))] M12))))))) ∧ (¬ (0 ≤ a3) → (ycJ d nX2_lowest [.long ((-a2).toInt64), .long ((-a3).toInt64)] M7 fun c15 M14 => ((zsh M14 r5_9).1 = 14 ∧ (ycI d nX6_come [.ref r5_9, .long c15, .int a4] M14 fun c17 M16 => ((¬ c17 = 0 → ((zsh M16 r5_9).1 = 14 ∧ (Q [.int (zI M16 r5_9 4)] M16))) ∧ (¬ (¬ c17 = 0) → (Q [.int (((-7) : Int32))] M16)))))))))))))) ∧ (¬ (¬ c8 = 0) → (Q [.int (((-2) : Int32))] M7)))))))))))))) ∧ (¬ (¬ c2 = 0) → (Q [.int (((-1) : Int32))] M1)))
) : wX7_term d Q 0 [some (.ref a0), some (.int a1), some (.int a2), some (.int a3), some (.int a4), none, none, none] [] M := zseg (zCl_good gTb d) (fun _ => false) 79 h
abbrev wX7_zero (d : Nat) (Q : List Value → zM → Prop) : Nat → zLv → List Value → zM → Prop := zW (zCl gTb d) 1 kX7_zero Q
theorem en_X7_zero {d : Nat} {Q : List Value → zM → Prop} (a0 : Nat) (a1 : Int32) (M : zM) (h : wX7_zero d Q 0 [some (.ref a0), some (.int a1), none] [] M) : zCl gTb (d + 1) nX7_zero [.ref a0, .int a1] M Q := ⟨Nat.le_of_ble_eq_true rfl, h⟩
set_option maxRecDepth 100000 in
set_option maxHeartbeats 4000000 in
/-- from place 0 -/
theorem sg_X7_zero_0 {d : Nat} {Q : List Value → zM → Prop} (a0 : Nat) (a1 : Int32) (M : zM) (h :
ycI d nX7_isPlace [.int a1] M fun c2 M1 => ((¬ c2 = 0 → ((zsh M1 a0).1 = 15 ∧ ((zsh M1 (zR M1 a0 2)).1 = 5 ∧ (zin a1 (zsh M1 (zR M1 a0 2)).2 ∧ ((zsh M1 (zR M1 (zR M1 a0 2) a1.toNatClampNeg)).1 = 14 ∧ (let v2_3 : Int32 := zI M1 (zR M1 (zR M1 a0 2) a1.toNatClampNeg) 4
(zsh M1 a0).1 = 15 ∧ ((zsh M1 (zR M1 a0 2)).1 = 5 ∧ (zin a1 (zsh M1 (zR M1 a0 2)).2 ∧ ((zsh M1 (zR M1 (zR M1 a0 2) a1.toNatClampNeg)).1 = 14 ∧ (ycV d nX6_empty [.ref (zR M1 (zR M1 a0 2) a1.toNatClampNeg)] M1 fun M4 => (Q [.int v2_3] M4))))))))))) ∧ (¬ (¬ c2 = 0) → (Q [.int (((-1) : Int32))] M1)))
) : wX7_zero d Q 0 [some (.ref a0), some (.int a1), none] [] M := zseg (zCl_good gTb d) (fun _ => false) 23 h
abbrev wX7_size (d : Nat) (Q : List Value → zM → Prop) : Nat → zLv → List Value → zM → Prop := zW (zCl gTb d) 1 kX7_size Q
theorem en_X7_size {d : Nat} {Q : List Value → zM → Prop} (a0 : Nat) (a1 : Int32) (M : zM) (h : wX7_size d Q 0 [some (.ref a0), some (.int a1)] [] M) : zCl gTb (d + 1) nX7_size [.ref a0, .int a1] M Q := ⟨Nat.le_of_ble_eq_true rfl, h⟩
set_option maxRecDepth 100000 in
set_option maxHeartbeats 4000000 in
/-- from place 0 -/
theorem sg_X7_size_0 {d : Nat} {Q : List Value → zM → Prop} (a0 : Nat) (a1 : Int32) (M : zM) (h :
ycI d nX7_isPlace [.int a1] M fun c2 M1 => ((c2 = 0 → (Q [.int (((-1) : Int32))] M1)) ∧ (¬ (c2 = 0) → ((zsh M1 a0).1 = 15 ∧ ((zsh M1 (zR M1 a0 2)).1 = 5 ∧ (zin a1 (zsh M1 (zR M1 a0 2)).2 ∧ ((zsh M1 (zR M1 (zR M1 a0 2) a1.toNatClampNeg)).1 = 14 ∧ (Q [.int (zI M1 (zR M1 (zR M1 a0 2) a1.toNatClampNeg) 4)] M1)))))))
) : wX7_size d Q 0 [some (.ref a0), some (.int a1)] [] M := zseg (zCl_good gTb d) (fun _ => false) 17 h
abbrev wX7_told (d : Nat) (Q : List Value → zM → Prop) : Nat → zLv → List Value → zM → Prop := zW (zCl gTb d) 1 kX7_told Q
theorem en_X7_told {d : Nat} {Q : List Value → zM → Prop} (a0 : Nat) (a1 : Int32) (a2 : Int32) (a3 : Int32) (M : zM) (h : wX7_told d Q 0 [some (.ref a0), some (.int a1), some (.int a2), some (.int a3)] [] M) : zCl gTb (d + 1) nX7_told [.ref a0, .int a1, .int a2, .int a3] M Q := ⟨Nat.le_of_ble_eq_true rfl, h⟩
set_option maxRecDepth 100000 in
set_option maxHeartbeats 4000000 in
/-- from place 0 -/
theorem sg_X7_told_0 {d : Nat} {Q : List Value → zM → Prop} (a0 : Nat) (a1 : Int32) (a2 : Int32) (a3 : Int32) (M : zM) (h :
ycI d nX7_isPlace [.int a1] M fun c2 M1 => ((c2 = 0 → (Q [.int (((-1) : Int32))] M1)) ∧ (¬ (c2 = 0) → ((a2 < 0 → (Q [.int (((-1) : Int32))] M1)) ∧ (¬ (a2 < 0) → ((zsh M1 a0).1 = 15 ∧ ((zsh M1 (zR M1 a0 2)).1 = 5 ∧ (zin a1 (zsh M1 (zR M1 a0 2)).2 ∧ ((zsh M1 (zR M1 (zR M1 a0 2) a1.toNatClampNeg)).1 = 14 ∧ ((a2 < (zI M1 (zR M1 (zR M1 a0 2) a1.toNatClampNeg) 4) → ((a3.toInt = 0 → ((zsh M1 a0).1 = 15 ∧ ((zsh M1 (zR M1 a0 2)).1 = 5 ∧ (zin a1 (zsh M1 (zR M1 a0 2)).2 ∧ ((zsh M1 (zR M1 (zR M1 a0 2) a1.toNatClampNeg)).1 = 14 ∧ ((zsh M1 (zR M1 (zR M1 (zR M1 a0 2) a1.toNatClampNeg) 1)).1 = 3 ∧ (zin a2 (zsh M1 (zR M1 (zR M1 (zR M1 a0 2) a1.toNatClampNeg) 1)).2 ∧ (ycI d nX2_over [.long (zL M1 (zR M1 (zR M1 (zR M1 a0 2) a1.toNatClampNeg) 1) a2.toNatClampNeg)] M1 fun c4 M3 => (Q [.int c4] M3))))))))) ∧ (¬ (a3.toInt = 0) → ((a3.toInt = 1 → ((zsh M1 a0).1 = 15 ∧ ((zsh M1 (zR M1 a0 2)).1 = 5 ∧ (zin a1 (zsh M1 (zR M1 a0 2)).2 ∧ ((zsh M1 (zR M1 (zR M1 a0 2) a1.toNatClampNeg)).1 = 14 ∧ ((zsh M1 (zR M1 (zR M1 (zR M1 a0 2) a1.toNatClampNeg) 1)).1 = 3 ∧ (zin a2 (zsh M1 (zR M1 (zR M1 (zR M1 a0 2) a1.toNatClampNeg) 1)).2 ∧ (ycI d nX2_under [.long (zL M1 (zR M1 (zR M1 (zR M1 a0 2) a1.toNatClampNeg) 1) a2.toNatClampNeg)] M1 fun c6 M5 => (Q [.int c6] M5))))))))) ∧ (¬ (a3.toInt = 1) → ((a3.toInt = 2 → ((zsh M1 a0).1 = 15 ∧ ((zsh M1 (zR M1 a0 2)).1 = 5 ∧ (zin a1 (zsh M1 (zR M1 a0 2)).2 ∧ ((zsh M1 (zR M1 (zR M1 a0 2) a1.toNatClampNeg)).1 = 14 ∧ ((zsh M1 (zR M1 (zR M1 (zR M1 a0 2) a1.toNatClampNeg) 2)).1 = 2 ∧ (zin a2 (zsh M1 (zR M1 (zR M1 (zR M1 a0 2) a1.toNatClampNeg) 2)).2 ∧ (Q [.int (zI M1 (zR M1 (zR M1 (zR M1 a0 2) a1.toNatClampNeg) 2) a2.toNatClampNeg)] M1)))))))) ∧ (¬ (a3.toInt = 2) → (Q [.int (((-2) : Int32))] M1)))))))) ∧ (¬ (a2 < (zI M1 (zR M1 (zR M1 a0 2) a1.toNatClampNeg) 4)) → (Q [.int (((-1) : Int32))] M1)))))))))))
) : wX7_told d Q 0 [some (.ref a0), some (.int a1), some (.int a2), some (.int a3)] [] M := zseg (zCl_good gTb d) (fun _ => false) 53 h
abbrev wX7_plus (d : Nat) (Q : List Value → zM → Prop) : Nat → zLv → List Value → zM → Prop := zW (zCl gTb d) 1 kX7_plus Q
theorem en_X7_plus {d : Nat} {Q : List Value → zM → Prop} (a0 : Nat) (a1 : Int32) (a2 : Int32) (a3 : Int32) (M : zM) (h : wX7_plus d Q 0 [some (.ref a0), some (.int a1), some (.int a2), some (.int a3)] [] M) : zCl gTb (d + 1) nX7_plus [.ref a0, .int a1, .int a2, .int a3] M Q := ⟨Nat.le_of_ble_eq_true rfl, h⟩
set_option maxRecDepth 100000 in
set_option maxHeartbeats 4000000 in
/-- from place 0 -/
theorem sg_X7_plus_0 {d : Nat} {Q : List Value → zM → Prop} (a0 : Nat) (a1 : Int32) (a2 : Int32) (a3 : Int32) (M : zM) (h :
ycI d nX7_isPlace [.int a1] M fun c2 M1 => ((c2 = 0 → (Q [.int (((-1) : Int32))] M1)) ∧ (¬ (c2 = 0) → (ycI d nX7_isPlace [.int a2] M1 fun c4 M3 => ((c4 = 0 → (Q [.int (((-1) : Int32))] M3)) ∧ (¬ (c4 = 0) → (ycI d nX7_isPlace [.int a3] M3 fun c6 M5 => ((¬ c6 = 0 → ((zsh M5 a0).1 = 15 ∧ ((zsh M5 a0).1 = 15 ∧ ((zsh M5 (zR M5 a0 2)).1 = 5 ∧ (zin a1 (zsh M5 (zR M5 a0 2)).2 ∧ ((zsh M5 (zR M5 a0 11)).1 = 14 ∧ (ycV d nX6_become [.ref (zR M5 a0 11), .ref (zR M5 (zR M5 a0 2) a1.toNatClampNeg)] M5 fun M7 => ((zsh M7 a0).1 = 15 ∧ ((zsh M7 a0).1 = 15 ∧ ((zsh M7 (zR M7 a0 2)).1 = 5 ∧ (zin a2 (zsh M7 (zR M7 a0 2)).2 ∧ ((zsh M7 (zR M7 a0 11)).1 = 14 ∧ (ycI d nX6_addMultiple [.ref (zR M7 a0 11), .long ((4294967297 : Int64)), .int ((0 : Int32)), .ref (zR M7 (zR M7 a0 2) a2.toNatClampNeg)] M7 fun c9 M8 => ((c9 = 0 → (Q [.int (((-7) : Int32))] M8)) ∧ (¬ (c9 = 0) → ((zsh M8 a0).1 = 15 ∧ ((zsh M8 a0).1 = 15 ∧ (ycI d nX7_put [.ref a0, .ref (zR M8 a0 11), .int a3] M8 fun c11 M10 => (Q [.int c11] M10))))))))))))))))))) ∧ (¬ (¬ c6 = 0) → (Q [.int (((-1) : Int32))] M5)))))))))
) : wX7_plus d Q 0 [some (.ref a0), some (.int a1), some (.int a2), some (.int a3)] [] M := zseg (zCl_good gTb d) (fun _ => false) 46 h
abbrev wX7_times (d : Nat) (Q : List Value → zM → Prop) : Nat → zLv → List Value → zM → Prop := zW (zCl gTb d) 1 kX7_times Q
theorem en_X7_times {d : Nat} {Q : List Value → zM → Prop} (a0 : Nat) (a1 : Int32) (a2 : Int32) (a3 : Int32) (M : zM) (h : wX7_times d Q 0 [some (.ref a0), some (.int a1), some (.int a2), some (.int a3)] [] M) : zCl gTb (d + 1) nX7_times [.ref a0, .int a1, .int a2, .int a3] M Q := ⟨Nat.le_of_ble_eq_true rfl, h⟩
set_option maxRecDepth 100000 in
set_option maxHeartbeats 4000000 in
/-- from place 0 -/
theorem sg_X7_times_0 {d : Nat} {Q : List Value → zM → Prop} (a0 : Nat) (a1 : Int32) (a2 : Int32) (a3 : Int32) (M : zM) (h :
ycI d nX7_isPlace [.int a1] M fun c2 M1 => ((c2 = 0 → (Q [.int (((-1) : Int32))] M1)) ∧ (¬ (c2 = 0) → (ycI d nX7_isPlace [.int a2] M1 fun c4 M3 => ((c4 = 0 → (Q [.int (((-1) : Int32))] M3)) ∧ (¬ (c4 = 0) → (ycI d nX7_isPlace [.int a3] M3 fun c6 M5 => ((¬ c6 = 0 → ((zsh M5 a0).1 = 15 ∧ ((zsh M5 a0).1 = 15 ∧ ((zsh M5 (zR M5 a0 2)).1 = 5 ∧ (zin a1 (zsh M5 (zR M5 a0 2)).2 ∧ ((zsh M5 a0).1 = 15 ∧ ((zsh M5 (zR M5 a0 2)).1 = 5 ∧ (zin a2 (zsh M5 (zR M5 a0 2)).2 ∧ ((zsh M5 (zR M5 a0 12)).1 = 14 ∧ (ycI d nX6_becomeProduct [.ref (zR M5 a0 12), .ref (zR M5 (zR M5 a0 2) a1.toNatClampNeg), .ref (zR M5 (zR M5 a0 2) a2.toNatClampNeg)] M5 fun c8 M7 => ((c8 = 0 → (Q [.int (((-7) : Int32))] M7)) ∧ (¬ (c8 = 0) → ((zsh M7 a0).1 = 15 ∧ ((zsh M7 a0).1 = 15 ∧ (ycI d nX7_put [.ref a0, .ref (zR M7 a0 12), .int a3] M7 fun c10 M9 => (Q [.int c10] M9)))))))))))))))) ∧ (¬ (¬ c6 = 0) → (Q [.int (((-1) : Int32))] M5)))))))))
) : wX7_times d Q 0 [some (.ref a0), some (.int a1), some (.int a2), some (.int a3)] [] M := zseg (zCl_good gTb d) (fun _ => false) 41 h
abbrev wX7_same (d : Nat) (Q : List Value → zM → Prop) : Nat → zLv → List Value → zM → Prop := zW (zCl gTb d) 1 kX7_same Q
theorem en_X7_same {d : Nat} {Q : List Value → zM → Prop} (a0 : Nat) (a1 : Int32) (a2 : Int32) (M : zM) (h : wX7_same d Q 0 [some (.ref a0), some (.int a1), some (.int a2)] [] M) : zCl gTb (d + 1) nX7_same [.ref a0, .int a1, .int a2] M Q := ⟨Nat.le_of_ble_eq_true rfl, h⟩
set_option maxRecDepth 100000 in
set_option maxHeartbeats 4000000 in
/-- from place 0 -/
theorem sg_X7_same_0 {d : Nat} {Q : List Value → zM → Prop} (a0 : Nat) (a1 : Int32) (a2 : Int32) (M : zM) (h :
ycI d nX7_isPlace [.int a1] M fun c2 M1 => ((c2 = 0 → (Q [.int (((-1) : Int32))] M1)) ∧ (¬ (c2 = 0) → (ycI d nX7_isPlace [.int a2] M1 fun c4 M3 => ((¬ c4 = 0 → ((zsh M3 a0).1 = 15 ∧ ((zsh M3 (zR M3 a0 2)).1 = 5 ∧ (zin a1 (zsh M3 (zR M3 a0 2)).2 ∧ ((zsh M3 a0).1 = 15 ∧ ((zsh M3 (zR M3 a0 2)).1 = 5 ∧ (zin a2 (zsh M3 (zR M3 a0 2)).2 ∧ ((zsh M3 (zR M3 (zR M3 a0 2) a1.toNatClampNeg)).1 = 14 ∧ (ycI d nX6_isLike [.ref (zR M3 (zR M3 a0 2) a1.toNatClampNeg), .ref (zR M3 (zR M3 a0 2) a2.toNatClampNeg)] M3 fun c6 M5 => ((c6 = 0 → (Q [.int ((0 : Int32))] M5)) ∧ (¬ (c6 = 0) → (Q [.int ((1 : Int32))] M5)))))))))))) ∧ (¬ (¬ c4 = 0) → (Q [.int (((-1) : Int32))] M3))))))
) : wX7_same d Q 0 [some (.ref a0), some (.int a1), some (.int a2)] [] M := zseg (zCl_good gTb d) (fun _ => false) 30 h
abbrev wX7_vanishes (d : Nat) (Q : List Value → zM → Prop) : Nat → zLv → List Value → zM → Prop := zW (zCl gTb d) 1 kX7_vanishes Q
theorem en_X7_vanishes {d : Nat} {Q : List Value → zM → Prop} (a0 : Nat) (a1 : Int32) (a2 : Int32) (a3 : Int32) (a4 : Int32) (a5 : Int32) (M : zM) (h : wX7_vanishes d Q 0 [some (.ref a0), some (.int a1), some (.int a2), some (.int a3), some (.int a4), some (.int a5), none, none] [] M) : zCl gTb (d + 1) nX7_vanishes [.ref a0, .int a1, .int a2, .int a3, .int a4, .int a5] M Q := ⟨Nat.le_of_ble_eq_true rfl, h⟩
set_option maxRecDepth 100000 in
set_option maxHeartbeats 4000000 in
/-- from place 0 -/
theorem sg_X7_vanishes_0 {d : Nat} {Q : List Value → zM → Prop} (a0 : Nat) (a1 : Int32) (a2 : Int32) (a3 : Int32) (a4 : Int32) (a5 : Int32) (M : zM) (h :
ycI d nX7_isPlace [.int a1] M fun c2 M1 => ((¬ c2 = 0 → ((zsh M1 a0).1 = 15 ∧ ((zsh M1 (zR M1 a0 13)).1 = 2 ∧ (zin ((0 : Int32)) (zsh M1 (zR M1 a0 13)).2 ∧ (let M3 : zM := zuI M1 (zR M1 a0 13) ((0 : Int32)).toNatClampNeg a2
(zsh M1 a0).1 = 15 ∧ ((zsh M1 (zR M1 a0 13)).1 = 2 ∧ (zin ((1 : Int32)) (zsh M1 (zR M1 a0 13)).2 ∧ (let M4 : zM := zuI M3 (zR M1 a0 13) ((1 : Int32)).toNatClampNeg a3
(zsh M1 a0).1 = 15 ∧ ((zsh M1 (zR M1 a0 13)).1 = 2 ∧ (zin ((2 : Int32)) (zsh M1 (zR M1 a0 13)).2 ∧ (let M5 : zM := zuI M4 (zR M1 a0 13) ((2 : Int32)).toNatClampNeg a4
(zsh M1 a0).1 = 15 ∧ ((zsh M1 (zR M1 a0 13)).1 = 2 ∧ (zin ((3 : Int32)) (zsh M1 (zR M1 a0 13)).2 ∧ (let M6 : zM := zuI M5 (zR M1 a0 13) ((3 : Int32)).toNatClampNeg a5
wX7_vanishes d Q 27 [some (.ref a0), some (.int a1), some (.int a2), some (.int a3), some (.int a4), some (.int a5), some (.int ((0 : Int32))), none] [] M6)))))))))))))) ∧ (¬ (¬ c2 = 0) → (Q [.int (((-1) : Int32))] M1)))
) : wX7_vanishes d Q 0 [some (.ref a0), some (.int a1), some (.int a2), some (.int a3), some (.int a4), some (.int a5), none, none] [] M := zseg (zCl_good gTb d) (fun j => j == 27) 32 h
set_option maxRecDepth 100000 in
set_option maxHeartbeats 4000000 in
/-- from place 27 -/
theorem sg_X7_vanishes_27 {d : Nat} {Q : List Value → zM → Prop} (a0 : Nat) (a1 : Int32) (o2 : Option Value) (o3 : Option Value) (o4 : Option Value) (o5 : Option Value) (a6 : Int32) (o7 : Option Value) (M : zM) (h :
(zsh M a0).1 = 15 ∧ (((zI M a0 0) ≤ a6 → ((zsh M a0).1 = 15 ∧ ((zsh M (zR M a0 2)).1 = 5 ∧ (zin a1 (zsh M (zR M a0 2)).2 ∧ ((zsh M a0).1 = 15 ∧ ((zsh M a0).1 = 15 ∧ ((zsh M (zR M (zR M a0 2) a1.toNatClampNeg)).1 = 14 ∧ (ycJ d nX6_valueAt [.ref (zR M (zR M a0 2) a1.toNatClampNeg), .ref (zR M a0 13), .int (zI M a0 0)] M fun c2 M1 => ((¬ (lg_cmp c2 ((0 : Int64))) = 0 → ((¬ (lg_cmp c2 ((1 : Int64))) = 0 → (Q [.int ((0 : Int32))] M1)) ∧ (¬ (¬ (lg_cmp c2 ((1 : Int64))) = 0) → (Q [.int ((1 : Int32))] M1)))) ∧ (¬ (¬ (lg_cmp c2 ((0 : Int64))) = 0) → (Q [.int (((-7) : Int32))] M1))))))))))) ∧ (¬ ((zI M a0 0) ≤ a6) → ((zsh M a0).1 = 15 ∧ ((zsh M (zR M a0 13)).1 = 2 ∧ (zin a6 (zsh M (zR M a0 13)).2 ∧ (ycI d nX7_isLarge [.int (zI M (zR M a0 13) a6.toNatClampNeg), .int ((1000 : Int32))] M fun c4 M3 => ((c4 = 0 → (let v6_5 : Int32 := a6 + 1
wX7_vanishes d Q 27 [some (.ref a0), some (.int a1), o2, o3, o4, zwipe o5, some (.int v6_5), o7] [] M3)) ∧ (¬ (c4 = 0) → (Q [.int (((-2) : Int32))] M3)))))))))
) : wX7_vanishes d Q 27 [some (.ref a0), some (.int a1), o2, o3, o4, o5, some (.int a6), o7] [] M := zseg (zCl_good gTb d) (fun j => j == 27) 45 h
abbrev wX7_generator (d : Nat) (Q : List Value → zM → Prop) : Nat → zLv → List Value → zM → Prop := zW (zCl gTb d) 1 kX7_generator Q
theorem en_X7_generator {d : Nat} {Q : List Value → zM → Prop} (a0 : Nat) (a1 : Int32) (M : zM) (h : wX7_generator d Q 0 [some (.ref a0), some (.int a1)] [] M) : zCl gTb (d + 1) nX7_generator [.ref a0, .int a1] M Q := ⟨Nat.le_of_ble_eq_true rfl, h⟩
set_option maxRecDepth 100000 in
set_option maxHeartbeats 4000000 in
/-- from place 0 -/
theorem sg_X7_generator_0 {d : Nat} {Q : List Value → zM → Prop} (a0 : Nat) (a1 : Int32) (M : zM) (h :
ycI d nX7_isPlace [.int a1] M fun c2 M1 => ((¬ c2 = 0 → ((zsh M1 a0).1 = 15 ∧ (((zI M1 a0 4) < ((8 : Int32)) → ((zsh M1 a0).1 = 15 ∧ ((zsh M1 a0).1 = 15 ∧ ((zsh M1 (zR M1 a0 3)).1 = 5 ∧ (zin (zI M1 a0 4) (zsh M1 (zR M1 a0 3)).2 ∧ ((zsh M1 a0).1 = 15 ∧ ((zsh M1 (zR M1 a0 2)).1 = 5 ∧ (zin a1 (zsh M1 (zR M1 a0 2)).2 ∧ ((zsh M1 (zR M1 (zR M1 a0 3) (zI M1 a0 4).toNatClampNeg)).1 = 14 ∧ (ycV d nX6_become [.ref (zR M1 (zR M1 a0 3) (zI M1 a0 4).toNatClampNeg), .ref (zR M1 (zR M1 a0 2) a1.toNatClampNeg)] M1 fun M3 => ((zsh M3 a0).1 = 15 ∧ ((zsh M3 a0).1 = 15 ∧ (let M4 : zM := zuI M3 a0 4 ((zI M3 a0 4) + ((1 : Int32)))
(zsh M3 a0).1 = 15 ∧ (ycV d nX7_forgetBasis [.ref a0] M4 fun M5 => ((zsh M5 a0).1 = 15 ∧ (Q [.int ((zI M5 a0 4) - ((1 : Int32)))] M5)))))))))))))))) ∧ (¬ ((zI M1 a0 4) < ((8 : Int32))) → (Q [.int (((-4) : Int32))] M1))))) ∧ (¬ (¬ c2 = 0) → (Q [.int (((-1) : Int32))] M1)))
) : wX7_generator d Q 0 [some (.ref a0), some (.int a1)] [] M := zseg (zCl_good gTb d) (fun _ => false) 39 h
abbrev wX7_clear (d : Nat) (Q : List Value → zM → Prop) : Nat → zLv → List Value → zM → Prop := zW (zCl gTb d) 1 kX7_clear Q
theorem en_X7_clear {d : Nat} {Q : List Value → zM → Prop} (a0 : Nat) (M : zM) (h : wX7_clear d Q 0 [some (.ref a0), none] [] M) : zCl gTb (d + 1) nX7_clear [.ref a0] M Q := ⟨Nat.le_of_ble_eq_true rfl, h⟩
set_option maxRecDepth 100000 in
set_option maxHeartbeats 4000000 in
/-- from place 0 -/
theorem sg_X7_clear_0 {d : Nat} {Q : List Value → zM → Prop} (a0 : Nat) (M : zM) (h :
(zsh M a0).1 = 15 ∧ (let v1_1 : Int32 := zI M a0 4
(zsh M a0).1 = 15 ∧ (let M2 : zM := zuI M a0 4 ((0 : Int32))
(zsh M a0).1 = 15 ∧ (ycV d nX7_forgetBasis [.ref a0] M2 fun M3 => (Q [.int v1_1] M3))))
) : wX7_clear d Q 0 [some (.ref a0), none] [] M := zseg (zCl_good gTb d) (fun _ => false) 15 h
abbrev wX7_basis (d : Nat) (Q : List Value → zM → Prop) : Nat → zLv → List Value → zM → Prop := zW (zCl gTb d) 1 kX7_basis Q
theorem en_X7_basis {d : Nat} {Q : List Value → zM → Prop} (a0 : Nat) (a1 : Int32) (M : zM) (h : wX7_basis d Q 0 [some (.ref a0), some (.int a1), none] [] M) : zCl gTb (d + 1) nX7_basis [.ref a0, .int a1] M Q := ⟨Nat.le_of_ble_eq_true rfl, h⟩
set_option maxRecDepth 100000 in
set_option maxHeartbeats 4000000 in
/-- from place 0 -/
theorem sg_X7_basis_0 {d : Nat} {Q : List Value → zM → Prop} (a0 : Nat) (a1 : Int32) (M : zM) (h :
(a1 < 0 → (Q [.int (((-2) : Int32))] M)) ∧ (¬ (a1 < 0) → ((a1 ≤ ((20000 : Int32)) → ((zsh M a0).1 = 15 ∧ (ycV d nX7_forgetBasis [.ref a0] M fun M1 => ((zsh M1 a0).1 = 15 ∧ ((zsh M1 a0).1 = 15 ∧ ((zsh M1 a0).1 = 15 ∧ ((zsh M1 a0).1 = 15 ∧ ((zsh M1 a0).1 = 15 ∧ ((zsh M1 (zR M1 a0 5)).1 = 12 ∧ (ycI d nX3_build [.ref (zR M1 a0 5), .ref (zR M1 a0 3), .int (zI M1 a0 4), .int (zI M1 a0 4), .ref (zR M1 a0 8), .int a1] M1 fun c3 M2 => ((c3 = 0 → ((zsh M2 a0).1 = 15 ∧ (zb ((1 : Int32)) ∧ (let M4 : zM := zuI M2 a0 6 ((1 : Int32))
(zsh M2 a0).1 = 15 ∧ ((zsh M2 (zR M2 a0 5)).1 = 12 ∧ (Q [.int (zI M4 (zR M2 a0 5) 2)] M4)))))) ∧ (¬ (c3 = 0) → (Q [.int c3] M2))))))))))))) ∧ (¬ (a1 ≤ ((20000 : Int32))) → (Q [.int (((-2) : Int32))] M))))
) : wX7_basis d Q 0 [some (.ref a0), some (.int a1), none] [] M := zseg (zCl_good gTb d) (fun _ => false) 40 h
abbrev wX7_done (d : Nat) (Q : List Value → zM → Prop) : Nat → zLv → List Value → zM → Prop := zW (zCl gTb d) 1 kX7_done Q
theorem en_X7_done {d : Nat} {Q : List Value → zM → Prop} (a0 : Nat) (a1 : Int32) (M : zM) (h : wX7_done d Q 0 [some (.ref a0), some (.int a1)] [] M) : zCl gTb (d + 1) nX7_done [.ref a0, .int a1] M Q := ⟨Nat.le_of_ble_eq_true rfl, h⟩
set_option maxRecDepth 100000 in
set_option maxHeartbeats 4000000 in
/-- from place 0 -/
theorem sg_X7_done_0 {d : Nat} {Q : List Value → zM → Prop} (a0 : Nat) (a1 : Int32) (M : zM) (h :
(a1.toInt = 0 → ((zsh M a0).1 = 15 ∧ ((zsh M (zR M a0 5)).1 = 12 ∧ (Q [.int (zI M (zR M a0 5) 3)] M)))) ∧ (¬ (a1.toInt = 0) → ((a1.toInt = 1 → ((zsh M a0).1 = 15 ∧ ((zsh M (zR M a0 5)).1 = 12 ∧ (Q [.int (zI M (zR M a0 5) 4)] M)))) ∧ (¬ (a1.toInt = 1) → ((a1.toInt = 2 → ((zsh M a0).1 = 15 ∧ ((zsh M (zR M a0 5)).1 = 12 ∧ (Q [.int (zI M (zR M a0 5) 5)] M)))) ∧ (¬ (a1.toInt = 2) → ((a1.toInt = 3 → ((zsh M a0).1 = 15 ∧ ((zsh M (zR M a0 5)).1 = 12 ∧ (Q [.int (zI M (zR M a0 5) 6)] M)))) ∧ (¬ (a1.toInt = 3) → (Q [.int (((-2) : Int32))] M))))))))
) : wX7_done d Q 0 [some (.ref a0), some (.int a1)] [] M := zseg (zCl_good gTb d) (fun _ => false) 25 h
abbrev wX7_element (d : Nat) (Q : List Value → zM → Prop) : Nat → zLv → List Value → zM → Prop := zW (zCl gTb d) 1 kX7_element Q
theorem en_X7_element {d : Nat} {Q : List Value → zM → Prop} (a0 : Nat) (a1 : Int32) (a2 : Int32) (M : zM) (h : wX7_element d Q 0 [some (.ref a0), some (.int a1), some (.int a2)] [] M) : zCl gTb (d + 1) nX7_element [.ref a0, .int a1, .int a2] M Q := ⟨Nat.le_of_ble_eq_true rfl, h⟩
set_option maxRecDepth 100000 in
set_option maxHeartbeats 4000000 in
/-- from place 0 -/
theorem sg_X7_element_0 {d : Nat} {Q : List Value → zM → Prop} (a0 : Nat) (a1 : Int32) (a2 : Int32) (M : zM) (h :
(zsh M a0).1 = 15 ∧ ((¬ (zI M a0 6) = 0 → ((zsh M a0).1 = 15 ∧ (ycI d nX7_isElement [.ref a0, .int a1] M fun c2 M1 => ((c2 = 0 → (Q [.int (((-1) : Int32))] M1)) ∧ (¬ (c2 = 0) → (ycI d nX7_isPlace [.int a2] M1 fun c4 M3 => ((¬ c4 = 0 → ((zsh M3 a0).1 = 15 ∧ ((zsh M3 (zR M3 a0 5)).1 = 12 ∧ ((zsh M3 (zR M3 (zR M3 a0 5) 1)).1 = 6 ∧ (zin a1 (zsh M3 (zR M3 (zR M3 a0 5) 1)).2 ∧ ((zsh M3 (zR M3 (zR M3 (zR M3 a0 5) 1) a1.toNatClampNeg)).1 = 11 ∧ ((zsh M3 a0).1 = 15 ∧ (ycI d nX7_put [.ref a0, .ref (zR M3 (zR M3 (zR M3 (zR M3 a0 5) 1) a1.toNatClampNeg) 0), .int a2] M3 fun c6 M5 => (Q [.int c6] M5))))))))) ∧ (¬ (¬ c4 = 0) → (Q [.int (((-1) : Int32))] M3))))))))) ∧ (¬ (¬ (zI M a0 6) = 0) → (Q [.int (((-3) : Int32))] M)))
) : wX7_element d Q 0 [some (.ref a0), some (.int a1), some (.int a2)] [] M := zseg (zCl_good gTb d) (fun _ => false) 31 h
abbrev wX7_share (d : Nat) (Q : List Value → zM → Prop) : Nat → zLv → List Value → zM → Prop := zW (zCl gTb d) 1 kX7_share Q
theorem en_X7_share {d : Nat} {Q : List Value → zM → Prop} (a0 : Nat) (a1 : Int32) (a2 : Int32) (a3 : Int32) (M : zM) (h : wX7_share d Q 0 [some (.ref a0), some (.int a1), some (.int a2), some (.int a3)] [] M) : zCl gTb (d + 1) nX7_share [.ref a0, .int a1, .int a2, .int a3] M Q := ⟨Nat.le_of_ble_eq_true rfl, h⟩
set_option maxRecDepth 100000 in
set_option maxHeartbeats 4000000 in
/-- from place 0 -/
theorem sg_X7_share_0 {d : Nat} {Q : List Value → zM → Prop} (a0 : Nat) (a1 : Int32) (a2 : Int32) (a3 : Int32) (M : zM) (h :
(zsh M a0).1 = 15 ∧ ((¬ (zI M a0 6) = 0 → ((zsh M a0).1 = 15 ∧ (ycI d nX7_isElement [.ref a0, .int a1] M fun c2 M1 => ((c2 = 0 → (Q [.int (((-1) : Int32))] M1)) ∧ (¬ (c2 = 0) → ((zsh M1 a0).1 = 15 ∧ (ycI d nX7_isGenerator [.ref a0, .int a2] M1 fun c4 M3 => ((c4 = 0 → (Q [.int (((-1) : Int32))] M3)) ∧ (¬ (c4 = 0) → (ycI d nX7_isPlace [.int a3] M3 fun c6 M5 => ((¬ c6 = 0 → ((zsh M5 a0).1 = 15 ∧ ((zsh M5 (zR M5 a0 5)).1 = 12 ∧ ((zsh M5 (zR M5 (zR M5 a0 5) 1)).1 = 6 ∧ (zin a1 (zsh M5 (zR M5 (zR M5 a0 5) 1)).2 ∧ ((zsh M5 (zR M5 (zR M5 (zR M5 a0 5) 1) a1.toNatClampNeg)).1 = 11 ∧ ((zsh M5 (zR M5 (zR M5 (zR M5 (zR M5 a0 5) 1) a1.toNatClampNeg) 1)).1 = 5 ∧ (zin a2 (zsh M5 (zR M5 (zR M5 (zR M5 (zR M5 a0 5) 1) a1.toNatClampNeg) 1)).2 ∧ ((zsh M5 a0).1 = 15 ∧ (ycI d nX7_put [.ref a0, .ref (zR M5 (zR M5 (zR M5 (zR M5 (zR M5 a0 5) 1) a1.toNatClampNeg) 1) a2.toNatClampNeg), .int a3] M5 fun c8 M7 => (Q [.int c8] M7))))))))))) ∧ (¬ (¬ c6 = 0) → (Q [.int (((-1) : Int32))] M5))))))))))))) ∧ (¬ (¬ (zI M a0 6) = 0) → (Q [.int (((-3) : Int32))] M)))
) : wX7_share d Q 0 [some (.ref a0), some (.int a1), some (.int a2), some (.int a3)] [] M := zseg (zCl_good gTb d) (fun _ => false) 39 h
abbrev wX7_divide (d : Nat) (Q : List Value → zM → Prop) : Nat → zLv → List Value → zM → Prop := zW (zCl gTb d) 1 kX7_divide Q
theorem en_X7_divide {d : Nat} {Q : List Value → zM → Prop} (a0 : Nat) (a1 : Int32) (a2 : Int32) (M : zM) (h : wX7_divide d Q 0 [some (.ref a0), some (.int a1), some (.int a2), none, none] [] M) : zCl gTb (d + 1) nX7_divide [.ref a0, .int a1, .int a2] M Q := ⟨Nat.le_of_ble_eq_true rfl, h⟩
set_option maxRecDepth 100000 in
set_option maxHeartbeats 4000000 in
/-- from place 0 -/
theorem sg_X7_divide_0 {d : Nat} {Q : List Value → zM → Prop} (a0 : Nat) (a1 : Int32) (a2 : Int32) (M : zM) (h :
ycI d nX7_isPlace [.int a1] M fun c2 M1 => ((c2 = 0 → (Q [.int (((-1) : Int32))] M1)) ∧ (¬ (c2 = 0) → (ycI d nX7_isPlace [.int a2] M1 fun c4 M3 => ((¬ c4 = 0 → ((zsh M3 a0).1 = 15 ∧ ((¬ (zI M3 a0 6) = 0 → ((zsh M3 a0).1 = 15 ∧ ((zsh M3 (zR M3 a0 8)).1 = 10 ∧ (ycV d nX0_allow [.ref (zR M3 a0 8), .int ((5000 : Int32))] M3 fun M5 => ((zsh M5 a0).1 = 15 ∧ ((zsh M5 a0).1 = 15 ∧ ((zsh M5 (zR M5 a0 5)).1 = 12 ∧ ((zsh M5 (zR M5 a0 8)).1 = 10 ∧ (ycV d nX0_makeReady [.ref (zR M5 a0 8), .int (zI M5 (zR M5 a0 5) 2)] M5 fun M6 => ((zsh M6 a0).1 = 15 ∧ ((zsh M6 (zR M6 a0 8)).1 = 10 ∧ ((zsh M6 a0).1 = 15 ∧ ((zsh M6 (zR M6 a0 2)).1 = 5 ∧ (zin a1 (zsh M6 (zR M6 a0 2)).2 ∧ ((zsh M6 (zR M6 (zR M6 a0 8) 0)).1 = 14 ∧ (ycV d nX6_become [.ref (zR M6 (zR M6 a0 8) 0), .ref (zR M6 (zR M6 a0 2) a1.toNatClampNeg)] M6 fun M7 => ((zsh M7 a0).1 = 15 ∧ ((zsh M7 a0).1 = 15 ∧ ((zsh M7 (zR M7 a0 5)).1 = 12 ∧ ((zsh M7 a0).1 = 15 ∧ ((zsh M7 (zR M7 a0 5)).1 = 12 ∧ ((zsh M7 (zR M7 a0 8)).1 = 10 ∧ (ycI d nX0_run [.ref (zR M7 a0 8), .ref (zR M7 (zR M7 a0 5) 1), .int (zI M7 (zR M7 a0 5) 2), .int (((-1) : Int32))] M7 fun c9 M8 => ((c9 = 0 → ((zsh M8 a0).1 = 15 ∧ (let r4_10 : Nat := zR M8 a0 8
(zsh M8 a0).1 = 15 ∧ ((zsh M8 a0).1 = 15 ∧ (let M11 : zM := zuR M8 a0 8 (zR M8 a0 9)
(zsh M8 a0).1 = 15 ∧ (let M12 : zM := zuR M11 a0 9 r4_10
(zsh M8 r4_10).1 = 10 ∧ ((zsh M8 a0).1 = 15 ∧ (ycI d nX7_put [.ref a0, .ref (zR M12 r4_10 1), .int a2] M12 fun c14 M13 => ((¬ c14 = 0 → ((zsh M13 a0).1 = 15 ∧ (zb ((0 : Int32)) ∧ (let M15 : zM := zuI M13 a0 10 ((0 : Int32))
(zsh M13 a0).1 = 15 ∧ (((zI M15 a0 10) = 0 → (Q [.int ((0 : Int32))] M15)) ∧ (¬ ((zI M15 a0 10) = 0) → (Q [.int ((1 : Int32))] M15))))))) ∧ (¬ (¬ c14 = 0) → ((zsh M13 a0).1 = 15 ∧ (zb ((1 : Int32)) ∧ (let M16 : zM := zuI M13 a0 10 ((1 : Int32))
(zsh M13 a0).1 = 15 ∧ (((zI M16 a0 10) = 0 → (Q [.int ((0 : Int32))] M16)) ∧ (¬ ((zI M16 a0 10) = 0) → (Q [.int ((1 : Int32))] M16)))))))))))))))) ∧ (¬ (c9 = 0) → (Q [.int c9] M8)))))))))))))))))))))))))) ∧ (¬ (¬ (zI M3 a0 6) = 0) → (Q [.int (((-3) : Int32))] M3))))) ∧ (¬ (¬ c4 = 0) → (Q [.int (((-1) : Int32))] M3))))))
) : wX7_divide d Q 0 [some (.ref a0), some (.int a1), some (.int a2), none, none] [] M := zseg (zCl_good gTb d) (fun _ => false) 91 h
abbrev wX7_certificate (d : Nat) (Q : List Value → zM → Prop) : Nat → zLv → List Value → zM → Prop := zW (zCl gTb d) 1 kX7_certificate Q
theorem en_X7_certificate {d : Nat} {Q : List Value → zM → Prop} (a0 : Nat) (a1 : Int32) (a2 : Int32) (M : zM) (h : wX7_certificate d Q 0 [some (.ref a0), some (.int a1), some (.int a2), none] [] M) : zCl gTb (d + 1) nX7_certificate [.ref a0, .int a1, .int a2] M Q := ⟨Nat.le_of_ble_eq_true rfl, h⟩
set_option maxRecDepth 100000 in
set_option maxHeartbeats 4000000 in
/-- from place 0 -/
theorem sg_X7_certificate_0 {d : Nat} {Q : List Value → zM → Prop} (a0 : Nat) (a1 : Int32) (a2 : Int32) (M : zM) (h :
(zsh M a0).1 = 15 ∧ (((zI M a0 6) = 0 → (Q [.int (((-3) : Int32))] M)) ∧ (¬ ((zI M a0 6) = 0) → ((zsh M a0).1 = 15 ∧ ((¬ (zI M a0 10) = 0 → ((zsh M a0).1 = 15 ∧ (ycI d nX7_isGenerator [.ref a0, .int a1] M fun c2 M1 => ((c2 = 0 → (Q [.int (((-1) : Int32))] M1)) ∧ (¬ (c2 = 0) → (ycI d nX7_isPlace [.int a2] M1 fun c4 M3 => ((¬ c4 = 0 → ((zsh M3 a0).1 = 15 ∧ ((zsh M3 (zR M3 a0 11)).1 = 14 ∧ (ycV d nX6_empty [.ref (zR M3 a0 11)] M3 fun M5 => (wX7_certificate d Q 22 [some (.ref a0), some (.int a1), some (.int a2), some (.int ((0 : Int32)))] [] M5))))) ∧ (¬ (¬ c4 = 0) → (Q [.int (((-1) : Int32))] M3))))))))) ∧ (¬ (¬ (zI M a0 10) = 0) → (Q [.int (((-3) : Int32))] M))))))
) : wX7_certificate d Q 0 [some (.ref a0), some (.int a1), some (.int a2), none] [] M := zseg (zCl_good gTb d) (fun j => j == 22) 31 h
set_option maxRecDepth 100000 in
set_option maxHeartbeats 4000000 in
/-- from place 22 -/
theorem sg_X7_certificate_22 {d : Nat} {Q : List Value → zM → Prop} (a0 : Nat) (a1 : Int32) (a2 : Int32) (a3 : Int32) (M : zM) (h :
(zsh M a0).1 = 15 ∧ ((zsh M (zR M a0 5)).1 = 12 ∧ (((zI M (zR M a0 5) 2) ≤ a3 → ((zsh M a0).1 = 15 ∧ ((zsh M a0).1 = 15 ∧ (ycI d nX7_put [.ref a0, .ref (zR M a0 11), .int a2] M fun c2 M1 => (Q [.int c2] M1))))) ∧ (¬ ((zI M (zR M a0 5) 2) ≤ a3) → ((zsh M a0).1 = 15 ∧ ((zsh M a0).1 = 15 ∧ ((zsh M (zR M a0 9)).1 = 10 ∧ ((zsh M (zR M (zR M a0 9) 2)).1 = 5 ∧ (zin a3 (zsh M (zR M (zR M a0 9) 2)).2 ∧ ((zsh M a0).1 = 15 ∧ ((zsh M (zR M a0 5)).1 = 12 ∧ ((zsh M (zR M (zR M a0 5) 1)).1 = 6 ∧ (zin a3 (zsh M (zR M (zR M a0 5) 1)).2 ∧ ((zsh M (zR M (zR M (zR M a0 5) 1) a3.toNatClampNeg)).1 = 11 ∧ ((zsh M (zR M (zR M (zR M (zR M a0 5) 1) a3.toNatClampNeg) 1)).1 = 5 ∧ (zin a1 (zsh M (zR M (zR M (zR M (zR M a0 5) 1) a3.toNatClampNeg) 1)).2 ∧ ((zsh M (zR M a0 11)).1 = 14 ∧ (ycI d nX6_addProduct [.ref (zR M a0 11), .ref (zR M (zR M (zR M a0 9) 2) a3.toNatClampNeg), .ref (zR M (zR M (zR M (zR M (zR M a0 5) 1) a3.toNatClampNeg) 1) a1.toNatClampNeg)] M fun c4 M3 => ((¬ c4 = 0 → (let v3_5 : Int32 := a3 + 1
wX7_certificate d Q 22 [some (.ref a0), some (.int a1), some (.int a2), some (.int v3_5)] [] M3)) ∧ (¬ (¬ c4 = 0) → (Q [.int (((-7) : Int32))] M3))))))))))))))))))))
) : wX7_certificate d Q 22 [some (.ref a0), some (.int a1), some (.int a2), some (.int a3)] [] M := zseg (zCl_good gTb d) (fun j => j == 22) 37 h
abbrev wX7_check (d : Nat) (Q : List Value → zM → Prop) : Nat → zLv → List Value → zM → Prop := zW (zCl gTb d) 1 kX7_check Q
theorem en_X7_check {d : Nat} {Q : List Value → zM → Prop} (a0 : Nat) (M : zM) (h : wX7_check d Q 0 [some (.ref a0), none, none, none] [] M) : zCl gTb (d + 1) nX7_check [.ref a0] M Q := ⟨Nat.le_of_ble_eq_true rfl, h⟩
set_option maxRecDepth 100000 in
set_option maxHeartbeats 4000000 in
/-- from place 0 -/
theorem sg_X7_check_0 {d : Nat} {Q : List Value → zM → Prop} (a0 : Nat) (M : zM) (h :
(zsh M a0).1 = 15 ∧ ((¬ (zI M a0 6) = 0 → (wX7_check d Q 9 [some (.ref a0), some (.int ((1 : Int32))), some (.int ((0 : Int32))), none] [] M)) ∧ (¬ (¬ (zI M a0 6) = 0) → (Q [.int (((-3) : Int32))] M)))
) : wX7_check d Q 0 [some (.ref a0), none, none, none] [] M := zseg (zCl_good gTb d) (fun j => j == 9) 14 h
set_option maxRecDepth 100000 in
set_option maxHeartbeats 4000000 in
/-- from place 9 -/
theorem sg_X7_check_9 {d : Nat} {Q : List Value → zM → Prop} (a0 : Nat) (a1 : Int32) (a2 : Int32) (o3 : Option Value) (M : zM) (h :
(zsh M a0).1 = 15 ∧ ((zsh M (zR M a0 5)).1 = 12 ∧ (((zI M (zR M a0 5) 2) ≤ a2 → (Q [.int a1] M)) ∧ (¬ ((zI M (zR M a0 5) 2) ≤ a2) → ((zsh M a0).1 = 15 ∧ ((zsh M (zR M a0 5)).1 = 12 ∧ ((zsh M (zR M (zR M a0 5) 1)).1 = 6 ∧ (zin a2 (zsh M (zR M (zR M a0 5) 1)).2 ∧ (let r3_1 : Nat := zR M (zR M (zR M a0 5) 1) a2.toNatClampNeg
(zsh M r3_1).1 = 11 ∧ ((zsh M a0).1 = 15 ∧ (ycI d nX7_sumUp [.ref a0, .ref (zR M r3_1 1)] M fun c3 M2 => ((¬ c3 = 0 → ((zsh M2 a0).1 = 15 ∧ ((zsh M2 r3_1).1 = 11 ∧ ((zsh M2 (zR M2 a0 11)).1 = 14 ∧ (ycI d nX6_isLike [.ref (zR M2 a0 11), .ref (zR M2 r3_1 0)] M2 fun c5 M4 => ((¬ c5 = 0 → (let v2_6 : Int32 := a2 + 1
wX7_check d Q 9 [some (.ref a0), some (.int a1), some (.int v2_6), some (.ref r3_1)] [] M4)) ∧ (¬ (¬ c5 = 0) → (let v2_7 : Int32 := a2 + 1
wX7_check d Q 9 [some (.ref a0), some (.int ((0 : Int32))), some (.int v2_7), some (.ref r3_1)] [] M4)))))))) ∧ (¬ (¬ c3 = 0) → (Q [.int (((-7) : Int32))] M2)))))))))))))
) : wX7_check d Q 9 [some (.ref a0), some (.int a1), some (.int a2), o3] [] M := zseg (zCl_good gTb d) (fun j => j == 9) 37 h
abbrev wX7_radical (d : Nat) (Q : List Value → zM → Prop) : Nat → zLv → List Value → zM → Prop := zW (zCl gTb d) 1 kX7_radical Q
theorem en_X7_radical {d : Nat} {Q : List Value → zM → Prop} (a0 : Nat) (a1 : Int32) (a2 : Int32) (M : zM) (h : wX7_radical d Q 0 [some (.ref a0), some (.int a1), some (.int a2), none, none] [] M) : zCl gTb (d + 1) nX7_radical [.ref a0, .int a1, .int a2] M Q := ⟨Nat.le_of_ble_eq_true rfl, h⟩
set_option maxRecDepth 100000 in
set_option maxHeartbeats 4000000 in
/-- from place 0 -/
theorem sg_X7_radical_0 {d : Nat} {Q : List Value → zM → Prop} (a0 : Nat) (a1 : Int32) (a2 : Int32) (M : zM) (h :
ycI d nX7_isPlace [.int a1] M fun c2 M1 => ((¬ c2 = 0 → ((a2 < 0 → (Q [.int (((-2) : Int32))] M1)) ∧ (¬ (a2 < 0) → ((a2 ≤ ((20000 : Int32)) → ((zsh M1 a0).1 = 15 ∧ (((zI M1 a0 0) < ((4 : Int32)) → ((zsh M1 a0).1 = 15 ∧ ((zsh M1 a0).1 = 15 ∧ ((zsh M1 (zR M1 a0 3)).1 = 5 ∧ (zin (zI M1 a0 4) (zsh M1 (zR M1 a0 3)).2 ∧ (let r3_3 : Nat := zR M1 (zR M1 a0 3) (zI M1 a0 4).toNatClampNeg
(zsh M1 r3_3).1 = 14 ∧ (ycV d nX6_empty [.ref r3_3] M1 fun M4 => ((zsh M4 r3_3).1 = 14 ∧ (ycI d nX6_come [.ref r3_3, .long ((4294967297 : Int64)), .int ((0 : Int32))] M4 fun c6 M5 => ((c6 = 0 → (Q [.int (((-7) : Int32))] M5)) ∧ (¬ (c6 = 0) → ((zsh M5 a0).1 = 15 ∧ (ycI d nX4_single [.int (zI M5 a0 0)] M5 fun c8 M7 => ((zsh M7 a0).1 = 15 ∧ ((zsh M7 (zR M7 a0 2)).1 = 5 ∧ (zin a1 (zsh M7 (zR M7 a0 2)).2 ∧ ((zsh M7 r3_3).1 = 14 ∧ (ycI d nX6_addMultiple [.ref r3_3, .long (((-4294967295) : Int64)), .int c8, .ref (zR M7 (zR M7 a0 2) a1.toNatClampNeg)] M7 fun c10 M9 => ((¬ c10 = 0 → ((zsh M9 a0).1 = 15 ∧ ((zsh M9 a0).1 = 15 ∧ ((zsh M9 a0).1 = 15 ∧ ((zsh M9 a0).1 = 15 ∧ ((zsh M9 (zR M9 a0 7)).1 = 12 ∧ (ycI d nX3_build [.ref (zR M9 a0 7), .ref (zR M9 a0 3), .int ((zI M9 a0 4) + ((1 : Int32))), .int ((0 : Int32)), .ref (zR M9 a0 8), .int a2] M9 fun c12 M11 => ((c12 = 0 → ((zsh M11 a0).1 = 15 ∧ ((zsh M11 (zR M11 a0 7)).1 = 12 ∧ (ycI d nX3_isWhole [.ref (zR M11 a0 7)] M11 fun c14 M13 => ((c14 = 0 → (Q [.int ((0 : Int32))] M13)) ∧ (¬ (c14 = 0) → (Q [.int ((1 : Int32))] M13))))))) ∧ (¬ (c12 = 0) → (Q [.int c12] M11)))))))))) ∧ (¬ (¬ c10 = 0) → (Q [.int (((-7) : Int32))] M9))))))))))))))))))))) ∧ (¬ ((zI M1 a0 0) < ((4 : Int32))) → (Q [.int (((-3) : Int32))] M1))))) ∧ (¬ (a2 ≤ ((20000 : Int32))) → (Q [.int (((-2) : Int32))] M1)))))) ∧ (¬ (¬ c2 = 0) → (Q [.int (((-1) : Int32))] M1)))
) : wX7_radical d Q 0 [some (.ref a0), some (.int a1), some (.int a2), none, none] [] M := zseg (zCl_good gTb d) (fun _ => false) 80 h
abbrev wX7_free (d : Nat) (Q : List Value → zM → Prop) : Nat → zLv → List Value → zM → Prop := zW (zCl gTb d) 1 kX7_free Q
theorem en_X7_free {d : Nat} {Q : List Value → zM → Prop} (a0 : Nat) (a1 : Int32) (M : zM) (h : wX7_free d Q 0 [some (.ref a0), some (.int a1), none, none] [] M) : zCl gTb (d + 1) nX7_free [.ref a0, .int a1] M Q := ⟨Nat.le_of_ble_eq_true rfl, h⟩
set_option maxRecDepth 100000 in
set_option maxHeartbeats 4000000 in
/-- from place 0 -/
theorem sg_X7_free_0 {d : Nat} {Q : List Value → zM → Prop} (a0 : Nat) (a1 : Int32) (M : zM) (h :
(a1 < 0 → (Q [.int (((-2) : Int32))] M)) ∧ (¬ (a1 < 0) → ((zsh M a0).1 = 15 ∧ ((a1 ≤ (zI M a0 0) → ((zsh M a0).1 = 15 ∧ ((¬ (zI M a0 6) = 0 → (wX7_free d Q 17 [some (.ref a0), some (.int a1), some (.int ((0 : Int32))), some (.int ((0 : Int32)))] [] M)) ∧ (¬ (¬ (zI M a0 6) = 0) → (Q [.int (((-3) : Int32))] M))))) ∧ (¬ (a1 ≤ (zI M a0 0)) → (Q [.int (((-2) : Int32))] M)))))
) : wX7_free d Q 0 [some (.ref a0), some (.int a1), none, none] [] M := zseg (zCl_good gTb d) (fun j => j == 17) 24 h
set_option maxRecDepth 100000 in
set_option maxHeartbeats 4000000 in
/-- from place 17 -/
theorem sg_X7_free_17 {d : Nat} {Q : List Value → zM → Prop} (a0 : Nat) (a1 : Int32) (a2 : Int32) (a3 : Int32) (M : zM) (h :
(zsh M a0).1 = 15 ∧ ((zsh M (zR M a0 5)).1 = 12 ∧ (((zI M (zR M a0 5) 2) ≤ a3 → (Q [.int a2] M)) ∧ (¬ ((zI M (zR M a0 5) 2) ≤ a3) → ((zsh M a0).1 = 15 ∧ ((zsh M (zR M a0 5)).1 = 12 ∧ ((zsh M (zR M (zR M a0 5) 1)).1 = 6 ∧ (zin a3 (zsh M (zR M (zR M a0 5) 1)).2 ∧ ((zsh M (zR M (zR M (zR M a0 5) 1) a3.toNatClampNeg)).1 = 11 ∧ ((zsh M (zR M (zR M (zR M (zR M a0 5) 1) a3.toNatClampNeg) 0)).1 = 14 ∧ (ycI d nX6_isWithout [.ref (zR M (zR M (zR M (zR M a0 5) 1) a3.toNatClampNeg) 0), .int a1] M fun c2 M1 => ((c2 = 0 → (let v3_3 : Int32 := a3 + 1
wX7_free d Q 17 [some (.ref a0), some (.int a1), some (.int a2), some (.int v3_3)] [] M1)) ∧ (¬ (c2 = 0) → (let v2_4 : Int32 := a2 + 1
let v3_5 : Int32 := a3 + 1
wX7_free d Q 17 [some (.ref a0), some (.int a1), some (.int v2_4), some (.int v3_5)] [] M1)))))))))))))
) : wX7_free d Q 17 [some (.ref a0), some (.int a1), some (.int a2), some (.int a3)] [] M := zseg (zCl_good gTb d) (fun j => j == 17) 26 h
abbrev wX7_stairs (d : Nat) (Q : List Value → zM → Prop) : Nat → zLv → List Value → zM → Prop := zW (zCl gTb d) 1 kX7_stairs Q
theorem en_X7_stairs {d : Nat} {Q : List Value → zM → Prop} (a0 : Nat) (M : zM) (h : wX7_stairs d Q 0 [some (.ref a0)] [] M) : zCl gTb (d + 1) nX7_stairs [.ref a0] M Q := ⟨Nat.le_of_ble_eq_true rfl, h⟩
set_option maxRecDepth 100000 in
set_option maxHeartbeats 4000000 in
/-- from place 0 -/
theorem sg_X7_stairs_0 {d : Nat} {Q : List Value → zM → Prop} (a0 : Nat) (M : zM) (h :
(zsh M a0).1 = 15 ∧ (((zI M a0 6) = 0 → (Q [.int (((-3) : Int32))] M)) ∧ (¬ ((zI M a0 6) = 0) → ((zsh M a0).1 = 15 ∧ ((zsh M a0).1 = 15 ∧ ((zsh M (zR M a0 5)).1 = 12 ∧ (ycI d nX3_countBelow [.ref (zR M a0 5), .int (zI M a0 0)] M fun c2 M1 => (Q [.int c2] M1)))))))
) : wX7_stairs d Q 0 [some (.ref a0)] [] M := zseg (zCl_good gTb d) (fun _ => false) 17 h
abbrev wX7_isPlace (d : Nat) (Q : List Value → zM → Prop) : Nat → zLv → List Value → zM → Prop := zW (zCl gTb d) 2 kX7_isPlace Q
theorem en_X7_isPlace {d : Nat} {Q : List Value → zM → Prop} (a0 : Int32) (M : zM) (h : wX7_isPlace d Q 0 [some (.int a0)] [] M) : zCl gTb (d + 1) nX7_isPlace [.int a0] M Q := ⟨Nat.le_of_ble_eq_true rfl, h⟩
set_option maxRecDepth 100000 in
set_option maxHeartbeats 4000000 in
/-- from place 0 -/
theorem sg_X7_isPlace_0 {d : Nat} {Q : List Value → zM → Prop} (a0 : Int32) (M : zM) (h :
(a0 < 0 → (zb ((0 : Int32)) ∧ (Q [.int ((0 : Int32))] M))) ∧ (¬ (a0 < 0) → ((((40 : Int32)) ≤ a0 → (zb ((0 : Int32)) ∧ (Q [.int ((0 : Int32))] M))) ∧ (¬ (((40 : Int32)) ≤ a0) → (zb ((1 : Int32)) ∧ (Q [.int ((1 : Int32))] M)))))
) : wX7_isPlace d Q 0 [some (.int a0)] [] M := zseg (zCl_good gTb d) (fun _ => false) 17 h
abbrev wX7_isLarge (d : Nat) (Q : List Value → zM → Prop) : Nat → zLv → List Value → zM → Prop := zW (zCl gTb d) 2 kX7_isLarge Q
theorem en_X7_isLarge {d : Nat} {Q : List Value → zM → Prop} (a0 : Int32) (a1 : Int32) (M : zM) (h : wX7_isLarge d Q 0 [some (.int a0), some (.int a1)] [] M) : zCl gTb (d + 1) nX7_isLarge [.int a0, .int a1] M Q := ⟨Nat.le_of_ble_eq_true rfl, h⟩
set_option maxRecDepth 100000 in
set_option maxHeartbeats 4000000 in
/-- from place 0 -/
theorem sg_X7_isLarge_0 {d : Nat} {Q : List Value → zM → Prop} (a0 : Int32) (a1 : Int32) (M : zM) (h :
(a1 < a0 → (zb ((1 : Int32)) ∧ (Q [.int ((1 : Int32))] M))) ∧ (¬ (a1 < a0) → (((-a1) ≤ a0 → (zb ((0 : Int32)) ∧ (Q [.int ((0 : Int32))] M))) ∧ (¬ ((-a1) ≤ a0) → (zb ((1 : Int32)) ∧ (Q [.int ((1 : Int32))] M)))))
) : wX7_isLarge d Q 0 [some (.int a0), some (.int a1)] [] M := zseg (zCl_good gTb d) (fun _ => false) 20 h
abbrev wX7_isTold (d : Nat) (Q : List Value → zM → Prop) : Nat → zLv → List Value → zM → Prop := zW (zCl gTb d) 2 kX7_isTold Q
theorem en_X7_isTold {d : Nat} {Q : List Value → zM → Prop} (a0 : Nat) (a1 : Int32) (M : zM) (h : wX7_isTold d Q 0 [some (.ref a0), some (.int a1), none] [] M) : zCl gTb (d + 1) nX7_isTold [.ref a0, .int a1] M Q := ⟨Nat.le_of_ble_eq_true rfl, h⟩
set_option maxRecDepth 100000 in
set_option maxHeartbeats 4000000 in
/-- from place 0 -/
theorem sg_X7_isTold_0 {d : Nat} {Q : List Value → zM → Prop} (a0 : Nat) (a1 : Int32) (M : zM) (h :
ycI d nX4_isInside [.int a1] M fun c2 M1 => ((¬ c2 = 0 → ((zsh M1 a0).1 = 15 ∧ (let v2_3 : Int32 := zI M1 a0 0
wX7_isTold d Q 8 [some (.ref a0), some (.int a1), some (.int v2_3)] [] M1))) ∧ (¬ (¬ c2 = 0) → (zb ((0 : Int32)) ∧ (Q [.int ((0 : Int32))] M1))))
) : wX7_isTold d Q 0 [some (.ref a0), some (.int a1), none] [] M := zseg (zCl_good gTb d) (fun j => j == 8) 13 h
set_option maxRecDepth 100000 in
set_option maxHeartbeats 4000000 in
/-- from place 8 -/
theorem sg_X7_isTold_8 {d : Nat} {Q : List Value → zM → Prop} (o0 : Option Value) (a1 : Int32) (a2 : Int32) (M : zM) (h :
(((4 : Int32)) ≤ a2 → (zb ((1 : Int32)) ∧ (Q [.int ((1 : Int32))] M))) ∧ (¬ (((4 : Int32)) ≤ a2) → (ycI d nX4_exponent [.int a1, .int a2] M fun c2 M1 => ((c2 = 0 → (let v2_3 : Int32 := a2 + 1
wX7_isTold d Q 8 [o0, some (.int a1), some (.int v2_3)] [] M1)) ∧ (¬ (c2 = 0) → (zb ((0 : Int32)) ∧ (Q [.int ((0 : Int32))] M1))))))
) : wX7_isTold d Q 8 [o0, some (.int a1), some (.int a2)] [] M := zseg (zCl_good gTb d) (fun j => j == 8) 18 h
abbrev wX7_isElement (d : Nat) (Q : List Value → zM → Prop) : Nat → zLv → List Value → zM → Prop := zW (zCl gTb d) 2 kX7_isElement Q
theorem en_X7_isElement {d : Nat} {Q : List Value → zM → Prop} (a0 : Nat) (a1 : Int32) (M : zM) (h : wX7_isElement d Q 0 [some (.ref a0), some (.int a1)] [] M) : zCl gTb (d + 1) nX7_isElement [.ref a0, .int a1] M Q := ⟨Nat.le_of_ble_eq_true rfl, h⟩
set_option maxRecDepth 100000 in
set_option maxHeartbeats 4000000 in
/-- from place 0 -/
theorem sg_X7_isElement_0 {d : Nat} {Q : List Value → zM → Prop} (a0 : Nat) (a1 : Int32) (M : zM) (h :
(a1 < 0 → (zb ((0 : Int32)) ∧ (Q [.int ((0 : Int32))] M))) ∧ (¬ (a1 < 0) → ((zsh M a0).1 = 15 ∧ ((zsh M (zR M a0 5)).1 = 12 ∧ (((zI M (zR M a0 5) 2) ≤ a1 → (zb ((0 : Int32)) ∧ (Q [.int ((0 : Int32))] M))) ∧ (¬ ((zI M (zR M a0 5) 2) ≤ a1) → (zb ((1 : Int32)) ∧ (Q [.int ((1 : Int32))] M)))))))
) : wX7_isElement d Q 0 [some (.ref a0), some (.int a1)] [] M := zseg (zCl_good gTb d) (fun _ => false) 19 h
abbrev wX7_isGenerator (d : Nat) (Q : List Value → zM → Prop) : Nat → zLv → List Value → zM → Prop := zW (zCl gTb d) 2 kX7_isGenerator Q
theorem en_X7_isGenerator {d : Nat} {Q : List Value → zM → Prop} (a0 : Nat) (a1 : Int32) (M : zM) (h : wX7_isGenerator d Q 0 [some (.ref a0), some (.int a1)] [] M) : zCl gTb (d + 1) nX7_isGenerator [.ref a0, .int a1] M Q := ⟨Nat.le_of_ble_eq_true rfl, h⟩
set_option maxRecDepth 100000 in
set_option maxHeartbeats 4000000 in
/-- from place 0 -/
theorem sg_X7_isGenerator_0 {d : Nat} {Q : List Value → zM → Prop} (a0 : Nat) (a1 : Int32) (M : zM) (h :
(a1 < 0 → (zb ((0 : Int32)) ∧ (Q [.int ((0 : Int32))] M))) ∧ (¬ (a1 < 0) → ((zsh M a0).1 = 15 ∧ (((zI M a0 4) ≤ a1 → (zb ((0 : Int32)) ∧ (Q [.int ((0 : Int32))] M))) ∧ (¬ ((zI M a0 4) ≤ a1) → (zb ((1 : Int32)) ∧ (Q [.int ((1 : Int32))] M))))))
) : wX7_isGenerator d Q 0 [some (.ref a0), some (.int a1)] [] M := zseg (zCl_good gTb d) (fun _ => false) 18 h
abbrev wX7_put (d : Nat) (Q : List Value → zM → Prop) : Nat → zLv → List Value → zM → Prop := zW (zCl gTb d) 1 kX7_put Q
theorem en_X7_put {d : Nat} {Q : List Value → zM → Prop} (a0 : Nat) (a1 : Nat) (a2 : Int32) (M : zM) (h : wX7_put d Q 0 [some (.ref a0), some (.ref a1), some (.int a2)] [] M) : zCl gTb (d + 1) nX7_put [.ref a0, .ref a1, .int a2] M Q := ⟨Nat.le_of_ble_eq_true rfl, h⟩
set_option maxRecDepth 100000 in
set_option maxHeartbeats 4000000 in
/-- from place 0 -/
theorem sg_X7_put_0 {d : Nat} {Q : List Value → zM → Prop} (a0 : Nat) (a1 : Nat) (a2 : Int32) (M : zM) (h :
(zsh M a0).1 = 15 ∧ ((zsh M (zR M a0 2)).1 = 5 ∧ (zin a2 (zsh M (zR M a0 2)).2 ∧ ((zsh M (zR M (zR M a0 2) a2.toNatClampNeg)).1 = 14 ∧ (ycV d nX6_become [.ref (zR M (zR M a0 2) a2.toNatClampNeg), .ref a1] M fun M1 => ((zsh M1 a1).1 = 14 ∧ (Q [.int (zI M1 a1 4)] M1))))))
) : wX7_put d Q 0 [some (.ref a0), some (.ref a1), some (.int a2)] [] M := zseg (zCl_good gTb d) (fun _ => false) 14 h
abbrev wX7_forgetBasis (d : Nat) (Q : List Value → zM → Prop) : Nat → zLv → List Value → zM → Prop := zW (zCl gTb d) 0 kX7_forgetBasis Q
theorem en_X7_forgetBasis {d : Nat} {Q : List Value → zM → Prop} (a0 : Nat) (M : zM) (h : wX7_forgetBasis d Q 0 [some (.ref a0)] [] M) : zCl gTb (d + 1) nX7_forgetBasis [.ref a0] M Q := ⟨Nat.le_of_ble_eq_true rfl, h⟩
set_option maxRecDepth 100000 in
set_option maxHeartbeats 4000000 in
/-- from place 0 -/
theorem sg_X7_forgetBasis_0 {d : Nat} {Q : List Value → zM → Prop} (a0 : Nat) (M : zM) (h :
(zsh M a0).1 = 15 ∧ (zb ((0 : Int32)) ∧ (let M1 : zM := zuI M a0 6 ((0 : Int32))
(zsh M a0).1 = 15 ∧ (zb ((0 : Int32)) ∧ (let M2 : zM := zuI M1 a0 10 ((0 : Int32))
Q [] M2))))
) : wX7_forgetBasis d Q 0 [some (.ref a0)] [] M := zseg (zCl_good gTb d) (fun _ => false) 12 h
abbrev wX7_sumUp (d : Nat) (Q : List Value → zM → Prop) : Nat → zLv → List Value → zM → Prop := zW (zCl gTb d) 2 kX7_sumUp Q
theorem en_X7_sumUp {d : Nat} {Q : List Value → zM → Prop} (a0 : Nat) (a1 : Nat) (M : zM) (h : wX7_sumUp d Q 0 [some (.ref a0), some (.ref a1), none] [] M) : zCl gTb (d + 1) nX7_sumUp [.ref a0, .ref a1] M Q := ⟨Nat.le_of_ble_eq_true rfl, h⟩
set_option maxRecDepth 100000 in
set_option maxHeartbeats 4000000 in
/-- from place 0 -/
theorem sg_X7_sumUp_0 {d : Nat} {Q : List Value → zM → Prop} (a0 : Nat) (a1 : Nat) (M : zM) (h :
(zsh M a0).1 = 15 ∧ ((zsh M (zR M a0 11)).1 = 14 ∧ (ycV d nX6_empty [.ref (zR M a0 11)] M fun M1 => (wX7_sumUp d Q 5 [some (.ref a0), some (.ref a1), some (.int ((0 : Int32)))] [] M1)))
) : wX7_sumUp d Q 0 [some (.ref a0), some (.ref a1), none] [] M := zseg (zCl_good gTb d) (fun j => j == 5) 10 h
set_option maxRecDepth 100000 in
set_option maxHeartbeats 4000000 in
/-- from place 5 -/
theorem sg_X7_sumUp_5 {d : Nat} {Q : List Value → zM → Prop} (a0 : Nat) (a1 : Nat) (a2 : Int32) (M : zM) (h :
(zsh M a0).1 = 15 ∧ (((zI M a0 4) ≤ a2 → (zb ((1 : Int32)) ∧ (Q [.int ((1 : Int32))] M))) ∧ (¬ ((zI M a0 4) ≤ a2) → ((zsh M a0).1 = 15 ∧ ((zsh M a1).1 = 5 ∧ (zin a2 (zsh M a1).2 ∧ ((zsh M a0).1 = 15 ∧ ((zsh M (zR M a0 3)).1 = 5 ∧ (zin a2 (zsh M (zR M a0 3)).2 ∧ ((zsh M (zR M a0 12)).1 = 14 ∧ (ycI d nX6_becomeProduct [.ref (zR M a0 12), .ref (zR M a1 a2.toNatClampNeg), .ref (zR M (zR M a0 3) a2.toNatClampNeg)] M fun c2 M1 => ((c2 = 0 → (zb ((0 : Int32)) ∧ (Q [.int ((0 : Int32))] M1))) ∧ (¬ (c2 = 0) → ((zsh M1 a0).1 = 15 ∧ ((zsh M1 a0).1 = 15 ∧ ((zsh M1 (zR M1 a0 11)).1 = 14 ∧ (ycI d nX6_addMultiple [.ref (zR M1 a0 11), .long ((4294967297 : Int64)), .int ((0 : Int32)), .ref (zR M1 a0 12)] M1 fun c4 M3 => ((¬ c4 = 0 → (let v2_5 : Int32 := a2 + 1
wX7_sumUp d Q 5 [some (.ref a0), some (.ref a1), some (.int v2_5)] [] M3)) ∧ (¬ (¬ c4 = 0) → (zb ((0 : Int32)) ∧ (Q [.int ((0 : Int32))] M3))))))))))))))))))))
) : wX7_sumUp d Q 5 [some (.ref a0), some (.ref a1), some (.int a2)] [] M := zseg (zCl_good gTb d) (fun j => j == 5) 36 h
