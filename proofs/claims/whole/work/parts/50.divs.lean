/-! stretches of the small code, by wip/whole/vcgen.py -/
abbrev wX1_leading (d : Nat) (Q : List Value → zM → Prop) : Nat → zLv → List Value → zM → Prop := zW (zCl gTb d) 1 kX1_leading Q
theorem en_X1_leading {d : Nat} {Q : List Value → zM → Prop} (a0 : Nat) (M : zM) (h : wX1_leading d Q 0 [some (.ref a0)] [] M) : zCl gTb (d + 1) nX1_leading [.ref a0] M Q := ⟨Nat.le_of_ble_eq_true rfl, h⟩
set_option maxRecDepth 100000 in
set_option maxHeartbeats 4000000 in
/-- from place 0 -/
theorem sg_X1_leading_0 {d : Nat} {Q : List Value → zM → Prop} (a0 : Nat) (M : zM) (h :
(zsh M a0).1 = 11 ∧ ((zsh M (zR M a0 0)).1 = 14 ∧ ((zsh M (zR M (zR M a0 0) 2)).1 = 2 ∧ (zin ((0 : Int32)) (zsh M (zR M (zR M a0 0) 2)).2 ∧ (Q [.int (zI M (zR M (zR M a0 0) 2) ((0 : Int32)).toNatClampNeg)] M))))
) : wX1_leading d Q 0 [some (.ref a0)] [] M := zseg (zCl_good gTb d) (fun _ => false) 11 h
abbrev wX1_makeMonic (d : Nat) (Q : List Value → zM → Prop) : Nat → zLv → List Value → zM → Prop := zW (zCl gTb d) 2 kX1_makeMonic Q
theorem en_X1_makeMonic {d : Nat} {Q : List Value → zM → Prop} (a0 : Nat) (a1 : Int32) (M : zM) (h : wX1_makeMonic d Q 0 [some (.ref a0), some (.int a1), none, none, none] [] M) : zCl gTb (d + 1) nX1_makeMonic [.ref a0, .int a1] M Q := ⟨Nat.le_of_ble_eq_true rfl, h⟩
set_option maxRecDepth 100000 in
set_option maxHeartbeats 4000000 in
/-- from place 0 -/
theorem sg_X1_makeMonic_0 {d : Nat} {Q : List Value → zM → Prop} (a0 : Nat) (a1 : Int32) (M : zM) (h :
(zsh M a0).1 = 11 ∧ ((zsh M (zR M a0 0)).1 = 14 ∧ ((zsh M (zR M (zR M a0 0) 1)).1 = 3 ∧ (zin ((0 : Int32)) (zsh M (zR M (zR M a0 0) 1)).2 ∧ (ycJ d nX2_inverse [.long (zL M (zR M (zR M a0 0) 1) ((0 : Int32)).toNatClampNeg)] M fun c2 M1 => ((zsh M1 a0).1 = 11 ∧ ((zsh M1 (zR M1 a0 0)).1 = 14 ∧ (ycI d nX6_multiply [.ref (zR M1 a0 0), .long c2] M1 fun c4 M3 => ((¬ c4 = 0 → (wX1_makeMonic d Q 16 [some (.ref a0), some (.int a1), some (.long c2), none, some (.int ((0 : Int32)))] [] M3)) ∧ (¬ (¬ c4 = 0) → (zb ((0 : Int32)) ∧ (Q [.int ((0 : Int32))] M3)))))))))))
) : wX1_makeMonic d Q 0 [some (.ref a0), some (.int a1), none, none, none] [] M := zseg (zCl_good gTb d) (fun j => j == 16) 21 h
set_option maxRecDepth 100000 in
set_option maxHeartbeats 4000000 in
/-- from place 16 -/
theorem sg_X1_makeMonic_16 {d : Nat} {Q : List Value → zM → Prop} (a0 : Nat) (a1 : Int32) (a2 : Int64) (a4 : Int32) (M : zM) (h :
(a1 ≤ a4 → (zb ((1 : Int32)) ∧ (Q [.int ((1 : Int32))] M))) ∧ (¬ (a1 ≤ a4) → ((zsh M a0).1 = 11 ∧ ((zsh M (zR M a0 1)).1 = 5 ∧ (zin a4 (zsh M (zR M a0 1)).2 ∧ ((zsh M (zR M (zR M a0 1) a4.toNatClampNeg)).1 = 14 ∧ (ycI d nX6_multiply [.ref (zR M (zR M a0 1) a4.toNatClampNeg), .long a2] M fun c2 M1 => ((¬ c2 = 0 → (let v4_3 : Int32 := a4 + 1
wX1_makeMonic d Q 16 [some (.ref a0), some (.int a1), some (.long a2), none, some (.int v4_3)] [] M1)) ∧ (¬ (¬ c2 = 0) → (zb ((0 : Int32)) ∧ (Q [.int ((0 : Int32))] M1))))))))))
) : wX1_makeMonic d Q 16 [some (.ref a0), some (.int a1), some (.long a2), none, some (.int a4)] [] M := zseg (zCl_good gTb d) (fun j => j == 16) 21 h
abbrev wX0_allow (d : Nat) (Q : List Value → zM → Prop) : Nat → zLv → List Value → zM → Prop := zW (zCl gTb d) 0 kX0_allow Q
theorem en_X0_allow {d : Nat} {Q : List Value → zM → Prop} (a0 : Nat) (a1 : Int32) (M : zM) (h : wX0_allow d Q 0 [some (.ref a0), some (.int a1)] [] M) : zCl gTb (d + 1) nX0_allow [.ref a0, .int a1] M Q := ⟨Nat.le_of_ble_eq_true rfl, h⟩
set_option maxRecDepth 100000 in
set_option maxHeartbeats 4000000 in
/-- from place 0 -/
theorem sg_X0_allow_0 {d : Nat} {Q : List Value → zM → Prop} (a0 : Nat) (a1 : Int32) (M : zM) (h :
(zsh M a0).1 = 10 ∧ (let M1 : zM := zuI M a0 4 a1
(zsh M a0).1 = 10 ∧ (let M2 : zM := zuI M1 a0 3 ((0 : Int32))
Q [] M2))
) : wX0_allow d Q 0 [some (.ref a0), some (.int a1)] [] M := zseg (zCl_good gTb d) (fun _ => false) 12 h
abbrev wX0_makeReady (d : Nat) (Q : List Value → zM → Prop) : Nat → zLv → List Value → zM → Prop := zW (zCl gTb d) 0 kX0_makeReady Q
theorem en_X0_makeReady {d : Nat} {Q : List Value → zM → Prop} (a0 : Nat) (a1 : Int32) (M : zM) (h : wX0_makeReady d Q 0 [some (.ref a0), some (.int a1), none] [] M) : zCl gTb (d + 1) nX0_makeReady [.ref a0, .int a1] M Q := ⟨Nat.le_of_ble_eq_true rfl, h⟩
set_option maxRecDepth 100000 in
set_option maxHeartbeats 4000000 in
/-- from place 0 -/
theorem sg_X0_makeReady_0 {d : Nat} {Q : List Value → zM → Prop} (a0 : Nat) (a1 : Int32) (M : zM) (h :
(zsh M a0).1 = 10 ∧ ((zsh M (zR M a0 0)).1 = 14 ∧ (ycV d nX6_empty [.ref (zR M a0 0)] M fun M1 => ((zsh M1 a0).1 = 10 ∧ ((zsh M1 (zR M1 a0 1)).1 = 14 ∧ (ycV d nX6_empty [.ref (zR M1 a0 1)] M1 fun M2 => (wX0_makeReady d Q 8 [some (.ref a0), some (.int a1), some (.int ((0 : Int32)))] [] M2))))))
) : wX0_makeReady d Q 0 [some (.ref a0), some (.int a1), none] [] M := zseg (zCl_good gTb d) (fun j => j == 8) 13 h
set_option maxRecDepth 100000 in
set_option maxHeartbeats 4000000 in
/-- from place 8 -/
theorem sg_X0_makeReady_8 {d : Nat} {Q : List Value → zM → Prop} (a0 : Nat) (a1 : Int32) (a2 : Int32) (M : zM) (h :
(a1 ≤ a2 → (Q [] M)) ∧ (¬ (a1 ≤ a2) → ((zsh M a0).1 = 10 ∧ ((zsh M (zR M a0 2)).1 = 5 ∧ (zin a2 (zsh M (zR M a0 2)).2 ∧ ((zsh M (zR M (zR M a0 2) a2.toNatClampNeg)).1 = 14 ∧ (ycV d nX6_empty [.ref (zR M (zR M a0 2) a2.toNatClampNeg)] M fun M1 => (let v2_2 : Int32 := a2 + 1
wX0_makeReady d Q 8 [some (.ref a0), some (.int a1), some (.int v2_2)] [] M1)))))))
) : wX0_makeReady d Q 8 [some (.ref a0), some (.int a1), some (.int a2)] [] M := zseg (zCl_good gTb d) (fun j => j == 8) 16 h
abbrev wX0_firstDivisor (d : Nat) (Q : List Value → zM → Prop) : Nat → zLv → List Value → zM → Prop := zW (zCl gTb d) 1 kX0_firstDivisor Q
theorem en_X0_firstDivisor {d : Nat} {Q : List Value → zM → Prop} (a0 : Nat) (a1 : Nat) (a2 : Int32) (a3 : Int32) (M : zM) (h : wX0_firstDivisor d Q 0 [some (.ref a0), some (.ref a1), some (.int a2), some (.int a3), none] [] M) : zCl gTb (d + 1) nX0_firstDivisor [.ref a0, .ref a1, .int a2, .int a3] M Q := ⟨Nat.le_of_ble_eq_true rfl, h⟩
set_option maxRecDepth 100000 in
set_option maxHeartbeats 4000000 in
/-- from place 0 -/
theorem sg_X0_firstDivisor_0 {d : Nat} {Q : List Value → zM → Prop} (a0 : Nat) (a1 : Nat) (a2 : Int32) (a3 : Int32) (M : zM) (h :
wX0_firstDivisor d Q 2 [some (.ref a0), some (.ref a1), some (.int a2), some (.int a3), some (.int ((0 : Int32)))] [] M
) : wX0_firstDivisor d Q 0 [some (.ref a0), some (.ref a1), some (.int a2), some (.int a3), none] [] M := zseg (zCl_good gTb d) (fun j => j == 2) 7 h
set_option maxRecDepth 100000 in
set_option maxHeartbeats 4000000 in
/-- from place 2 -/
theorem sg_X0_firstDivisor_2 {d : Nat} {Q : List Value → zM → Prop} (a0 : Nat) (a1 : Nat) (a2 : Int32) (a3 : Int32) (a4 : Int32) (M : zM) (h :
(a2 ≤ a4 → (Q [.int (((-1) : Int32))] M)) ∧ (¬ (a2 ≤ a4) → ((a4 = a3 → (let v4_1 : Int32 := a4 + 1
wX0_firstDivisor d Q 2 [some (.ref a0), some (.ref a1), some (.int a2), some (.int a3), some (.int v4_1)] [] M)) ∧ (¬ (a4 = a3) → ((zsh M a1).1 = 6 ∧ (zin a4 (zsh M a1).2 ∧ ((zsh M (zR M a1 a4.toNatClampNeg)).1 = 11 ∧ (ycI d nX1_leading [.ref (zR M a1 a4.toNatClampNeg)] M fun c3 M2 => ((zsh M2 a0).1 = 10 ∧ ((zsh M2 (zR M2 a0 0)).1 = 14 ∧ ((zsh M2 (zR M2 (zR M2 a0 0) 2)).1 = 2 ∧ (zin ((0 : Int32)) (zsh M2 (zR M2 (zR M2 a0 0) 2)).2 ∧ (ycI d nX4_divides [.int c3, .int (zI M2 (zR M2 (zR M2 a0 0) 2) ((0 : Int32)).toNatClampNeg)] M2 fun c5 M4 => ((c5 = 0 → (let v4_6 : Int32 := a4 + 1
wX0_firstDivisor d Q 2 [some (.ref a0), some (.ref a1), some (.int a2), some (.int a3), some (.int v4_6)] [] M4)) ∧ (¬ (c5 = 0) → (Q [.int a4] M4)))))))))))))))
) : wX0_firstDivisor d Q 2 [some (.ref a0), some (.ref a1), some (.int a2), some (.int a3), some (.int a4)] [] M := zseg (zCl_good gTb d) (fun j => j == 2) 30 h
abbrev wX0_run (d : Nat) (Q : List Value → zM → Prop) : Nat → zLv → List Value → zM → Prop := zW (zCl gTb d) 1 kX0_run Q
theorem en_X0_run {d : Nat} {Q : List Value → zM → Prop} (a0 : Nat) (a1 : Nat) (a2 : Int32) (a3 : Int32) (M : zM) (h : wX0_run d Q 0 [some (.ref a0), some (.ref a1), some (.int a2), some (.int a3), none, none, none, none, none] [] M) : zCl gTb (d + 1) nX0_run [.ref a0, .ref a1, .int a2, .int a3] M Q := ⟨Nat.le_of_ble_eq_true rfl, h⟩
set_option maxRecDepth 100000 in
set_option maxHeartbeats 4000000 in
/-- from place 0 -/
theorem sg_X0_run_0 {d : Nat} {Q : List Value → zM → Prop} (a0 : Nat) (a1 : Nat) (a2 : Int32) (a3 : Int32) (o4 : Option Value) (o5 : Option Value) (o6 : Option Value) (o7 : Option Value) (o8 : Option Value) (M : zM) (h :
(zsh M a0).1 = 10 ∧ ((zsh M (zR M a0 0)).1 = 14 ∧ (((zI M (zR M a0 0) 4) ≤ 0 → ((zsh M a0).1 = 10 ∧ ((zsh M (zR M a0 0)).1 = 14 ∧ (((zI M (zR M a0 0) 4) ≤ 0 → (Q [.int ((0 : Int32))] M)) ∧ (¬ ((zI M (zR M a0 0) 4) ≤ 0) → (Q [.int (((-6) : Int32))] M)))))) ∧ (¬ ((zI M (zR M a0 0) 4) ≤ 0) → ((zsh M a0).1 = 10 ∧ ((zsh M a0).1 = 10 ∧ (((zI M a0 4) ≤ (zI M a0 3) → ((zsh M a0).1 = 10 ∧ ((zsh M (zR M a0 0)).1 = 14 ∧ (((zI M (zR M a0 0) 4) ≤ 0 → (Q [.int ((0 : Int32))] M)) ∧ (¬ ((zI M (zR M a0 0) 4) ≤ 0) → (Q [.int (((-6) : Int32))] M)))))) ∧ (¬ ((zI M a0 4) ≤ (zI M a0 3)) → ((zsh M a0).1 = 10 ∧ ((zsh M a0).1 = 10 ∧ (let M1 : zM := zuI M a0 3 ((zI M a0 3) + ((1 : Int32)))
(zsh M a0).1 = 10 ∧ ((zsh M (zR M a0 0)).1 = 14 ∧ ((zsh M (zR M (zR M a0 0) 1)).1 = 3 ∧ (zin ((0 : Int32)) (zsh M (zR M (zR M a0 0) 1)).2 ∧ (let w4_2 : Int64 := zL M1 (zR M (zR M a0 0) 1) ((0 : Int32)).toNatClampNeg
(zsh M a0).1 = 10 ∧ ((zsh M (zR M a0 0)).1 = 14 ∧ ((zsh M (zR M (zR M a0 0) 2)).1 = 2 ∧ (zin ((0 : Int32)) (zsh M (zR M (zR M a0 0) 2)).2 ∧ (let v6_3 : Int32 := zI M1 (zR M (zR M a0 0) 2) ((0 : Int32)).toNatClampNeg
(zsh M a0).1 = 10 ∧ (ycI d nX0_firstDivisor [.ref a0, .ref a1, .int a2, .int a3] M1 fun c5 M4 => ((0 ≤ c5 → ((zsh M4 a1).1 = 6 ∧ (zin c5 (zsh M4 a1).2 ∧ ((zsh M4 (zR M4 a1 c5.toNatClampNeg)).1 = 11 ∧ (ycI d nX1_leading [.ref (zR M4 a1 c5.toNatClampNeg)] M4 fun c7 M6 => (let v8_8 : Int32 := v6_3 - c7
(zsh M6 a0).1 = 10 ∧ (ycJ d nX2_negative [.long w4_2] M6 fun c10 M9 => ((zsh M9 a1).1 = 6 ∧ (zin c5 (zsh M9 a1).2 ∧ ((zsh M9 (zR M9 a1 c5.toNatClampNeg)).1 = 11 ∧ ((zsh M9 (zR M6 a0 0)).1 = 14 ∧ (ycI d nX6_addMultiple [.ref (zR M6 a0 0), .long c10, .int v8_8, .ref (zR M9 (zR M9 a1 c5.toNatClampNeg) 0)] M9 fun c12 M11 => ((c12 = 0 → (Q [.int (((-7) : Int32))] M11)) ∧ (¬ (c12 = 0) → ((zsh M11 a0).1 = 10 ∧ ((zsh M11 (zR M11 a0 2)).1 = 5 ∧ (zin c5 (zsh M11 (zR M11 a0 2)).2 ∧ ((zsh M11 (zR M11 (zR M11 a0 2) c5.toNatClampNeg)).1 = 14 ∧ (ycI d nX6_come [.ref (zR M11 (zR M11 a0 2) c5.toNatClampNeg), .long w4_2, .int v8_8] M11 fun c14 M13 => ((¬ c14 = 0 → (wX0_run d Q 0 [some (.ref a0), some (.ref a1), some (.int a2), some (.int a3), some (.long w4_2), none, some (.int v6_3), some (.int c5), some (.int v8_8)] [] M13)) ∧ (¬ (¬ c14 = 0) → (Q [.int (((-7) : Int32))] M13)))))))))))))))))))))) ∧ (¬ (0 ≤ c5) → ((zsh M4 a0).1 = 10 ∧ ((zsh M4 (zR M4 a0 0)).1 = 14 ∧ (ycV d nX6_behead [.ref (zR M4 a0 0)] M4 fun M15 => ((zsh M15 a0).1 = 10 ∧ ((zsh M15 (zR M15 a0 1)).1 = 14 ∧ (ycI d nX6_come [.ref (zR M15 a0 1), .long w4_2, .int v6_3] M15 fun c17 M16 => ((¬ c17 = 0 → (wX0_run d Q 0 [some (.ref a0), some (.ref a1), some (.int a2), some (.int a3), some (.long w4_2), none, some (.int v6_3), some (.int c5), o8] [] M16)) ∧ (¬ (¬ c17 = 0) → (Q [.int (((-7) : Int32))] M16))))))))))))))))))))))))))))))
) : wX0_run d Q 0 [some (.ref a0), some (.ref a1), some (.int a2), some (.int a3), o4, o5, o6, o7, o8] [] M := zseg (zCl_good gTb d) (fun j => j == 0) 101 h
