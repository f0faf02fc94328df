/-! stretches of the small code, by wip/whole/vcgen.py -/
abbrev wX4_exponent (d : Nat) (Q : List Value → zM → Prop) : Nat → zLv → List Value → zM → Prop := zW (zCl gTb d) 1 kX4_exponent Q
theorem en_X4_exponent {d : Nat} {Q : List Value → zM → Prop} (a0 : Int32) (a1 : Int32) (M : zM) (h : wX4_exponent d Q 0 [some (.int a0), some (.int a1)] [] M) : zCl gTb (d + 1) nX4_exponent [.int a0, .int a1] M Q := ⟨Nat.le_of_ble_eq_true rfl, h⟩
set_option maxRecDepth 100000 in
set_option maxHeartbeats 4000000 in
/-- from place 0 -/
theorem sg_X4_exponent_0 {d : Nat} {Q : List Value → zM → Prop} (a0 : Int32) (a1 : Int32) (M : zM) (h :
Q [.int (((a0.toUInt32 >>> ((((8 : Int32)) * a1).toUInt32 &&& Int32.toUInt32 31)).toInt32) &&& ((255 : Int32)))] M
) : wX4_exponent d Q 0 [some (.int a0), some (.int a1)] [] M := zseg (zCl_good gTb d) (fun _ => false) 13 h
abbrev wX4_single (d : Nat) (Q : List Value → zM → Prop) : Nat → zLv → List Value → zM → Prop := zW (zCl gTb d) 1 kX4_single Q
theorem en_X4_single {d : Nat} {Q : List Value → zM → Prop} (a0 : Int32) (M : zM) (h : wX4_single d Q 0 [some (.int a0)] [] M) : zCl gTb (d + 1) nX4_single [.int a0] M Q := ⟨Nat.le_of_ble_eq_true rfl, h⟩
set_option maxRecDepth 100000 in
set_option maxHeartbeats 4000000 in
/-- from place 0 -/
theorem sg_X4_single_0 {d : Nat} {Q : List Value → zM → Prop} (a0 : Int32) (M : zM) (h :
Q [.int (((1 : Int32)) <<< ((((8 : Int32)) * a0) &&& 31))] M
) : wX4_single d Q 0 [some (.int a0)] [] M := zseg (zCl_good gTb d) (fun _ => false) 11 h
abbrev wX4_isInside (d : Nat) (Q : List Value → zM → Prop) : Nat → zLv → List Value → zM → Prop := zW (zCl gTb d) 2 kX4_isInside Q
theorem en_X4_isInside {d : Nat} {Q : List Value → zM → Prop} (a0 : Int32) (M : zM) (h : wX4_isInside d Q 0 [some (.int a0)] [] M) : zCl gTb (d + 1) nX4_isInside [.int a0] M Q := ⟨Nat.le_of_ble_eq_true rfl, h⟩
set_option maxRecDepth 100000 in
set_option maxHeartbeats 4000000 in
/-- from place 0 -/
theorem sg_X4_isInside_0 {d : Nat} {Q : List Value → zM → Prop} (a0 : Int32) (M : zM) (h :
(¬ (a0 &&& (((-522133280) : Int32))) = 0 → (zb ((0 : Int32)) ∧ (Q [.int ((0 : Int32))] M))) ∧ (¬ (¬ (a0 &&& (((-522133280) : Int32))) = 0) → ((¬ ((a0 + ((16843009 : Int32))) &&& (((-522133280) : Int32))) = 0 → (zb ((0 : Int32)) ∧ (Q [.int ((0 : Int32))] M))) ∧ (¬ (¬ ((a0 + ((16843009 : Int32))) &&& (((-522133280) : Int32))) = 0) → (zb ((1 : Int32)) ∧ (Q [.int ((1 : Int32))] M)))))
) : wX4_isInside d Q 0 [some (.int a0)] [] M := zseg (zCl_good gTb d) (fun _ => false) 22 h
abbrev wX4_divides (d : Nat) (Q : List Value → zM → Prop) : Nat → zLv → List Value → zM → Prop := zW (zCl gTb d) 2 kX4_divides Q
theorem en_X4_divides {d : Nat} {Q : List Value → zM → Prop} (a0 : Int32) (a1 : Int32) (M : zM) (h : wX4_divides d Q 0 [some (.int a0), some (.int a1)] [] M) : zCl gTb (d + 1) nX4_divides [.int a0, .int a1] M Q := ⟨Nat.le_of_ble_eq_true rfl, h⟩
set_option maxRecDepth 100000 in
set_option maxHeartbeats 4000000 in
/-- from place 0 -/
theorem sg_X4_divides_0 {d : Nat} {Q : List Value → zM → Prop} (a0 : Int32) (a1 : Int32) (M : zM) (h :
(¬ (((a1 ||| (((-2139062144) : Int32))) - a0) &&& (((-2139062144) : Int32))) = (((-2139062144) : Int32)) → (zb ((0 : Int32)) ∧ (Q [.int ((0 : Int32))] M))) ∧ (¬ (¬ (((a1 ||| (((-2139062144) : Int32))) - a0) &&& (((-2139062144) : Int32))) = (((-2139062144) : Int32))) → (zb ((1 : Int32)) ∧ (Q [.int ((1 : Int32))] M)))
) : wX4_divides d Q 0 [some (.int a0), some (.int a1)] [] M := zseg (zCl_good gTb d) (fun _ => false) 19 h
abbrev wX4_leastCommon (d : Nat) (Q : List Value → zM → Prop) : Nat → zLv → List Value → zM → Prop := zW (zCl gTb d) 1 kX4_leastCommon Q
theorem en_X4_leastCommon {d : Nat} {Q : List Value → zM → Prop} (a0 : Int32) (a1 : Int32) (M : zM) (h : wX4_leastCommon d Q 0 [some (.int a0), some (.int a1), none, none, none] [] M) : zCl gTb (d + 1) nX4_leastCommon [.int a0, .int a1] M Q := ⟨Nat.le_of_ble_eq_true rfl, h⟩
set_option maxRecDepth 100000 in
set_option maxHeartbeats 4000000 in
/-- from place 0 -/
theorem sg_X4_leastCommon_0 {d : Nat} {Q : List Value → zM → Prop} (a0 : Int32) (a1 : Int32) (M : zM) (h :
wX4_leastCommon d Q 4 [some (.int a0), some (.int a1), some (.int ((0 : Int32))), some (.int ((0 : Int32))), none] [] M
) : wX4_leastCommon d Q 0 [some (.int a0), some (.int a1), none, none, none] [] M := zseg (zCl_good gTb d) (fun j => j == 4) 9 h
set_option maxRecDepth 100000 in
set_option maxHeartbeats 4000000 in
/-- from place 4 -/
theorem sg_X4_leastCommon_4 {d : Nat} {Q : List Value → zM → Prop} (a0 : Int32) (a1 : Int32) (a2 : Int32) (a3 : Int32) (o4 : Option Value) (M : zM) (h :
(((4 : Int32)) ≤ a3 → (Q [.int a2] M)) ∧ (¬ (((4 : Int32)) ≤ a3) → (let v4_1 : Int32 := ((255 : Int32)) <<< ((((8 : Int32)) * a3) &&& 31)
ycI d nX4_exponent [.int a0, .int a3] M fun c3 M2 => (ycI d nX4_exponent [.int a1, .int a3] M2 fun c5 M4 => ((c3 < c5 → (let v2_6 : Int32 := a2 ||| (a1 &&& v4_1)
let v3_7 : Int32 := a3 + 1
wX4_leastCommon d Q 4 [some (.int a0), some (.int a1), some (.int v2_6), some (.int v3_7), some (.int v4_1)] [] M4)) ∧ (¬ (c3 < c5) → (let v2_8 : Int32 := a2 ||| (a0 &&& v4_1)
let v3_9 : Int32 := a3 + 1
wX4_leastCommon d Q 4 [some (.int a0), some (.int a1), some (.int v2_8), some (.int v3_9), some (.int v4_1)] [] M4))))))
) : wX4_leastCommon d Q 4 [some (.int a0), some (.int a1), some (.int a2), some (.int a3), o4] [] M := zseg (zCl_good gTb d) (fun j => j == 4) 39 h
abbrev wX4_haveVariableInCommon (d : Nat) (Q : List Value → zM → Prop) : Nat → zLv → List Value → zM → Prop := zW (zCl gTb d) 2 kX4_haveVariableInCommon Q
theorem en_X4_haveVariableInCommon {d : Nat} {Q : List Value → zM → Prop} (a0 : Int32) (a1 : Int32) (M : zM) (h : wX4_haveVariableInCommon d Q 0 [some (.int a0), some (.int a1), none] [] M) : zCl gTb (d + 1) nX4_haveVariableInCommon [.int a0, .int a1] M Q := ⟨Nat.le_of_ble_eq_true rfl, h⟩
set_option maxRecDepth 100000 in
set_option maxHeartbeats 4000000 in
/-- from place 0 -/
theorem sg_X4_haveVariableInCommon_0 {d : Nat} {Q : List Value → zM → Prop} (a0 : Int32) (a1 : Int32) (M : zM) (h :
wX4_haveVariableInCommon d Q 2 [some (.int a0), some (.int a1), some (.int ((0 : Int32)))] [] M
) : wX4_haveVariableInCommon d Q 0 [some (.int a0), some (.int a1), none] [] M := zseg (zCl_good gTb d) (fun j => j == 2) 7 h
set_option maxRecDepth 100000 in
set_option maxHeartbeats 4000000 in
/-- from place 2 -/
theorem sg_X4_haveVariableInCommon_2 {d : Nat} {Q : List Value → zM → Prop} (a0 : Int32) (a1 : Int32) (a2 : Int32) (M : zM) (h :
(((4 : Int32)) ≤ a2 → (zb ((0 : Int32)) ∧ (Q [.int ((0 : Int32))] M))) ∧ (¬ (((4 : Int32)) ≤ a2) → (ycI d nX4_exponent [.int a0, .int a2] M fun c2 M1 => ((c2 = 0 → (let v2_3 : Int32 := a2 + 1
wX4_haveVariableInCommon d Q 2 [some (.int a0), some (.int a1), some (.int v2_3)] [] M1)) ∧ (¬ (c2 = 0) → (ycI d nX4_exponent [.int a1, .int a2] M1 fun c5 M4 => ((c5 = 0 → (let v2_6 : Int32 := a2 + 1
wX4_haveVariableInCommon d Q 2 [some (.int a0), some (.int a1), some (.int v2_6)] [] M4)) ∧ (¬ (c5 = 0) → (zb ((1 : Int32)) ∧ (Q [.int ((1 : Int32))] M4)))))))))
) : wX4_haveVariableInCommon d Q 2 [some (.int a0), some (.int a1), some (.int a2)] [] M := zseg (zCl_good gTb d) (fun j => j == 2) 24 h
abbrev wX5_rank (d : Nat) (Q : List Value → zM → Prop) : Nat → zLv → List Value → zM → Prop := zW (zCl gTb d) 1 kX5_rank Q
theorem en_X5_rank {d : Nat} {Q : List Value → zM → Prop} (a0 : Nat) (a1 : Int32) (M : zM) (h : wX5_rank d Q 0 [some (.ref a0), some (.int a1), none, none, none, none, none] [] M) : zCl gTb (d + 1) nX5_rank [.ref a0, .int a1] M Q := ⟨Nat.le_of_ble_eq_true rfl, h⟩
set_option maxRecDepth 100000 in
set_option maxHeartbeats 4000000 in
/-- from place 0 -/
theorem sg_X5_rank_0 {d : Nat} {Q : List Value → zM → Prop} (a0 : Nat) (a1 : Int32) (M : zM) (h :
let v2_1 : Int32 := a1 &&& ((255 : Int32))
let v3_2 : Int32 := ((a1.toUInt32 >>> (((8 : Int32)).toUInt32 &&& Int32.toUInt32 31)).toInt32) &&& ((255 : Int32))
let v4_3 : Int32 := ((a1.toUInt32 >>> (((16 : Int32)).toUInt32 &&& Int32.toUInt32 31)).toInt32) &&& ((255 : Int32))
let v5_4 : Int32 := ((a1.toUInt32 >>> (((24 : Int32)).toUInt32 &&& Int32.toUInt32 31)).toInt32) &&& ((255 : Int32))
(zsh M a0).1 = 13 ∧ ((¬ (zI M a0 0) = 0 → (let v6_5 : Int32 := ((((((v2_1 + v3_2) + v4_3) + v5_4) <<< (((15 : Int32)) &&& 31)) ||| ((((30 : Int32)) - v5_4) <<< (((10 : Int32)) &&& 31))) ||| ((((30 : Int32)) - v4_3) <<< (((5 : Int32)) &&& 31))) ||| (((30 : Int32)) - v3_2)
(zsh M a0).1 = 13 ∧ ((¬ (zI M a0 0) = ((1 : Int32)) → (Q [.int ((v2_1 <<< (((22 : Int32)) &&& 31)) ||| v6_5)] M)) ∧ (¬ (¬ (zI M a0 0) = ((1 : Int32))) → (Q [.int v6_5] M))))) ∧ (¬ (¬ (zI M a0 0) = 0) → (Q [.int ((((v2_1 <<< (((24 : Int32)) &&& 31)) ||| (v3_2 <<< (((16 : Int32)) &&& 31))) ||| (v4_3 <<< (((8 : Int32)) &&& 31))) ||| v5_4)] M)))
) : wX5_rank d Q 0 [some (.ref a0), some (.int a1), none, none, none, none, none] [] M := zseg (zCl_good gTb d) (fun _ => false) 83 h
