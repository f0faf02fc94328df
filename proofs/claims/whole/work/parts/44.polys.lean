/-! stretches of the small code, by wip/whole/vcgen.py -/
abbrev wX6_empty (d : Nat) (Q : List Value → zM → Prop) : Nat → zLv → List Value → zM → Prop := zW (zCl gTb d) 0 kX6_empty Q
theorem en_X6_empty {d : Nat} {Q : List Value → zM → Prop} (a0 : Nat) (M : zM) (h : wX6_empty d Q 0 [some (.ref a0)] [] M) : zCl gTb (d + 1) nX6_empty [.ref a0] M Q := ⟨Nat.le_of_ble_eq_true rfl, h⟩
set_option maxRecDepth 100000 in
set_option maxHeartbeats 4000000 in
/-- from place 0 -/
theorem sg_X6_empty_0 {d : Nat} {Q : List Value → zM → Prop} (a0 : Nat) (M : zM) (h :
(zsh M a0).1 = 14 ∧ (let M1 : zM := zuI M a0 4 ((0 : Int32))
Q [] M1)
) : wX6_empty d Q 0 [some (.ref a0)] [] M := zseg (zCl_good gTb d) (fun _ => false) 9 h
abbrev wX6_become (d : Nat) (Q : List Value → zM → Prop) : Nat → zLv → List Value → zM → Prop := zW (zCl gTb d) 0 kX6_become Q
theorem en_X6_become {d : Nat} {Q : List Value → zM → Prop} (a0 : Nat) (a1 : Nat) (M : zM) (h : wX6_become d Q 0 [some (.ref a0), some (.ref a1)] [] M) : zCl gTb (d + 1) nX6_become [.ref a0, .ref a1] M Q := ⟨Nat.le_of_ble_eq_true rfl, h⟩
set_option maxRecDepth 100000 in
set_option maxHeartbeats 4000000 in
/-- from place 0 -/
theorem sg_X6_become_0 {d : Nat} {Q : List Value → zM → Prop} (a0 : Nat) (a1 : Nat) (M : zM) (h :
(zsh M a1).1 = 14 ∧ ((zsh M a0).1 = 14 ∧ (let M1 : zM := zuI M a0 4 (zI M a1 4)
(zsh M a1).1 = 14 ∧ ((zsh M a0).1 = 14 ∧ ((zsh M a0).1 = 14 ∧ ((zsh M (zR M a1 1)).1 = 3 ∧ ((zsh M (zR M a0 1)).1 = 3 ∧ (¬ ((0 : Int32)) < 0 ∧ (¬ ((0 : Int32)) < 0 ∧ (¬ (zI M1 a0 4) < 0 ∧ (((0 : Int32)).toNatClampNeg + (zI M1 a0 4).toNatClampNeg ≤ (zsh M (zR M a1 1)).2 ∧ (((0 : Int32)).toNatClampNeg + (zI M1 a0 4).toNatClampNeg ≤ (zsh M (zR M a0 1)).2 ∧ (let M2 : zM := zcL M1 (zR M a1 1) ((0 : Int32)).toNatClampNeg (zR M a0 1) ((0 : Int32)).toNatClampNeg (zI M1 a0 4).toNatClampNeg
(zsh M a1).1 = 14 ∧ ((zsh M a0).1 = 14 ∧ ((zsh M a0).1 = 14 ∧ ((zsh M (zR M a1 2)).1 = 2 ∧ ((zsh M (zR M a0 2)).1 = 2 ∧ (¬ ((0 : Int32)) < 0 ∧ (¬ ((0 : Int32)) < 0 ∧ (¬ (zI M2 a0 4) < 0 ∧ (((0 : Int32)).toNatClampNeg + (zI M2 a0 4).toNatClampNeg ≤ (zsh M (zR M a1 2)).2 ∧ (((0 : Int32)).toNatClampNeg + (zI M2 a0 4).toNatClampNeg ≤ (zsh M (zR M a0 2)).2 ∧ (let M3 : zM := zcI M2 (zR M a1 2) ((0 : Int32)).toNatClampNeg (zR M a0 2) ((0 : Int32)).toNatClampNeg (zI M2 a0 4).toNatClampNeg
(zsh M a1).1 = 14 ∧ ((zsh M a0).1 = 14 ∧ ((zsh M a0).1 = 14 ∧ ((zsh M (zR M a1 3)).1 = 2 ∧ ((zsh M (zR M a0 3)).1 = 2 ∧ (¬ ((0 : Int32)) < 0 ∧ (¬ ((0 : Int32)) < 0 ∧ (¬ (zI M3 a0 4) < 0 ∧ (((0 : Int32)).toNatClampNeg + (zI M3 a0 4).toNatClampNeg ≤ (zsh M (zR M a1 3)).2 ∧ (((0 : Int32)).toNatClampNeg + (zI M3 a0 4).toNatClampNeg ≤ (zsh M (zR M a0 3)).2 ∧ (let M4 : zM := zcI M3 (zR M a1 3) ((0 : Int32)).toNatClampNeg (zR M a0 3) ((0 : Int32)).toNatClampNeg (zI M3 a0 4).toNatClampNeg
Q [] M4))))))))))))))))))))))))))))))))
) : wX6_become d Q 0 [some (.ref a0), some (.ref a1)] [] M := zseg (zCl_good gTb d) (fun _ => false) 37 h
abbrev wX6_isLike (d : Nat) (Q : List Value → zM → Prop) : Nat → zLv → List Value → zM → Prop := zW (zCl gTb d) 2 kX6_isLike Q
theorem en_X6_isLike {d : Nat} {Q : List Value → zM → Prop} (a0 : Nat) (a1 : Nat) (M : zM) (h : wX6_isLike d Q 0 [some (.ref a0), some (.ref a1), none] [] M) : zCl gTb (d + 1) nX6_isLike [.ref a0, .ref a1] M Q := ⟨Nat.le_of_ble_eq_true rfl, h⟩
set_option maxRecDepth 100000 in
set_option maxHeartbeats 4000000 in
/-- from place 0 -/
theorem sg_X6_isLike_0 {d : Nat} {Q : List Value → zM → Prop} (a0 : Nat) (a1 : Nat) (M : zM) (h :
(zsh M a0).1 = 14 ∧ ((zsh M a1).1 = 14 ∧ (((zI M a0 4) = (zI M a1 4) → (wX6_isLike d Q 9 [some (.ref a0), some (.ref a1), some (.int ((0 : Int32)))] [] M)) ∧ (¬ ((zI M a0 4) = (zI M a1 4)) → (zb ((0 : Int32)) ∧ (Q [.int ((0 : Int32))] M)))))
) : wX6_isLike d Q 0 [some (.ref a0), some (.ref a1), none] [] M := zseg (zCl_good gTb d) (fun j => j == 9) 14 h
set_option maxRecDepth 100000 in
set_option maxHeartbeats 4000000 in
/-- from place 9 -/
theorem sg_X6_isLike_9 {d : Nat} {Q : List Value → zM → Prop} (a0 : Nat) (a1 : Nat) (a2 : Int32) (M : zM) (h :
(zsh M a0).1 = 14 ∧ (((zI M a0 4) ≤ a2 → (zb ((1 : Int32)) ∧ (Q [.int ((1 : Int32))] M))) ∧ (¬ ((zI M a0 4) ≤ a2) → ((zsh M a0).1 = 14 ∧ ((zsh M (zR M a0 2)).1 = 2 ∧ (zin a2 (zsh M (zR M a0 2)).2 ∧ ((zsh M a1).1 = 14 ∧ ((zsh M (zR M a1 2)).1 = 2 ∧ (zin a2 (zsh M (zR M a1 2)).2 ∧ ((¬ (zI M (zR M a0 2) a2.toNatClampNeg) = (zI M (zR M a1 2) a2.toNatClampNeg) → (zb ((0 : Int32)) ∧ (Q [.int ((0 : Int32))] M))) ∧ (¬ (¬ (zI M (zR M a0 2) a2.toNatClampNeg) = (zI M (zR M a1 2) a2.toNatClampNeg)) → ((zsh M a0).1 = 14 ∧ ((zsh M (zR M a0 1)).1 = 3 ∧ (zin a2 (zsh M (zR M a0 1)).2 ∧ ((zsh M a1).1 = 14 ∧ ((zsh M (zR M a1 1)).1 = 3 ∧ (zin a2 (zsh M (zR M a1 1)).2 ∧ (((lg_cmp (zL M (zR M a0 1) a2.toNatClampNeg) (zL M (zR M a1 1) a2.toNatClampNeg)) = 0 → (let v2_1 : Int32 := a2 + 1
wX6_isLike d Q 9 [some (.ref a0), some (.ref a1), some (.int v2_1)] [] M)) ∧ (¬ ((lg_cmp (zL M (zR M a0 1) a2.toNatClampNeg) (zL M (zR M a1 1) a2.toNatClampNeg)) = 0) → (zb ((0 : Int32)) ∧ (Q [.int ((0 : Int32))] M))))))))))))))))))))
) : wX6_isLike d Q 9 [some (.ref a0), some (.ref a1), some (.int a2)] [] M := zseg (zCl_good gTb d) (fun j => j == 9) 36 h
abbrev wX6_isWithout (d : Nat) (Q : List Value → zM → Prop) : Nat → zLv → List Value → zM → Prop := zW (zCl gTb d) 2 kX6_isWithout Q
theorem en_X6_isWithout {d : Nat} {Q : List Value → zM → Prop} (a0 : Nat) (a1 : Int32) (M : zM) (h : wX6_isWithout d Q 0 [some (.ref a0), some (.int a1), none, none] [] M) : zCl gTb (d + 1) nX6_isWithout [.ref a0, .int a1] M Q := ⟨Nat.le_of_ble_eq_true rfl, h⟩
set_option maxRecDepth 100000 in
set_option maxHeartbeats 4000000 in
/-- from place 0 -/
theorem sg_X6_isWithout_0 {d : Nat} {Q : List Value → zM → Prop} (a0 : Nat) (a1 : Int32) (M : zM) (h :
wX6_isWithout d Q 2 [some (.ref a0), some (.int a1), some (.int ((0 : Int32))), none] [] M
) : wX6_isWithout d Q 0 [some (.ref a0), some (.int a1), none, none] [] M := zseg (zCl_good gTb d) (fun j => j == 2 || j == 8) 7 h
set_option maxRecDepth 100000 in
set_option maxHeartbeats 4000000 in
/-- from place 2 -/
theorem sg_X6_isWithout_2 {d : Nat} {Q : List Value → zM → Prop} (a0 : Nat) (a1 : Int32) (a2 : Int32) (o3 : Option Value) (M : zM) (h :
(zsh M a0).1 = 14 ∧ (((zI M a0 4) ≤ a2 → (zb ((1 : Int32)) ∧ (Q [.int ((1 : Int32))] M))) ∧ (¬ ((zI M a0 4) ≤ a2) → (wX6_isWithout d Q 8 [some (.ref a0), some (.int a1), some (.int a2), some (.int ((0 : Int32)))] [] M)))
) : wX6_isWithout d Q 2 [some (.ref a0), some (.int a1), some (.int a2), o3] [] M := zseg (zCl_good gTb d) (fun j => j == 2 || j == 8) 13 h
set_option maxRecDepth 100000 in
set_option maxHeartbeats 4000000 in
/-- from place 8 -/
theorem sg_X6_isWithout_8 {d : Nat} {Q : List Value → zM → Prop} (a0 : Nat) (a1 : Int32) (a2 : Int32) (a3 : Int32) (M : zM) (h :
(a1 ≤ a3 → (let v2_1 : Int32 := a2 + 1
wX6_isWithout d Q 2 [some (.ref a0), some (.int a1), some (.int v2_1), some (.int a3)] [] M)) ∧ (¬ (a1 ≤ a3) → ((zsh M a0).1 = 14 ∧ ((zsh M (zR M a0 2)).1 = 2 ∧ (zin a2 (zsh M (zR M a0 2)).2 ∧ (ycI d nX4_exponent [.int (zI M (zR M a0 2) a2.toNatClampNeg), .int a3] M fun c3 M2 => ((c3 = 0 → (let v3_4 : Int32 := a3 + 1
wX6_isWithout d Q 8 [some (.ref a0), some (.int a1), some (.int a2), some (.int v3_4)] [] M2)) ∧ (¬ (c3 = 0) → (zb ((0 : Int32)) ∧ (Q [.int ((0 : Int32))] M2)))))))))
) : wX6_isWithout d Q 8 [some (.ref a0), some (.int a1), some (.int a2), some (.int a3)] [] M := zseg (zCl_good gTb d) (fun j => j == 2 || j == 8) 21 h
abbrev wX6_find (d : Nat) (Q : List Value → zM → Prop) : Nat → zLv → List Value → zM → Prop := zW (zCl gTb d) 1 kX6_find Q
theorem en_X6_find {d : Nat} {Q : List Value → zM → Prop} (a0 : Nat) (a1 : Int32) (M : zM) (h : wX6_find d Q 0 [some (.ref a0), some (.int a1), none, none, none, none] [] M) : zCl gTb (d + 1) nX6_find [.ref a0, .int a1] M Q := ⟨Nat.le_of_ble_eq_true rfl, h⟩
set_option maxRecDepth 100000 in
set_option maxHeartbeats 4000000 in
/-- from place 0 -/
theorem sg_X6_find_0 {d : Nat} {Q : List Value → zM → Prop} (a0 : Nat) (a1 : Int32) (M : zM) (h :
(zsh M a0).1 = 14 ∧ (let v3_1 : Int32 := zI M a0 4
wX6_find d Q 7 [some (.ref a0), some (.int a1), some (.int ((0 : Int32))), some (.int v3_1), some (.int ((0 : Int32))), none] [] M)
) : wX6_find d Q 0 [some (.ref a0), some (.int a1), none, none, none, none] [] M := zseg (zCl_good gTb d) (fun j => j == 7) 12 h
set_option maxRecDepth 100000 in
set_option maxHeartbeats 4000000 in
/-- from place 7 -/
theorem sg_X6_find_7 {d : Nat} {Q : List Value → zM → Prop} (a0 : Nat) (a1 : Int32) (a2 : Int32) (a3 : Int32) (a4 : Int32) (o5 : Option Value) (M : zM) (h :
(((8 : Int32)) ≤ a4 → (Q [.int a2] M)) ∧ (¬ (((8 : Int32)) ≤ a4) → ((a3 ≤ a2 → (Q [.int a2] M)) ∧ (¬ (a3 ≤ a2) → (let v5_1 : Int32 := ((a2 + a3).toUInt32 >>> (((1 : Int32)).toUInt32 &&& Int32.toUInt32 31)).toInt32
(zsh M a0).1 = 14 ∧ ((zsh M (zR M a0 3)).1 = 2 ∧ (zin v5_1 (zsh M (zR M a0 3)).2 ∧ (((zI M (zR M a0 3) v5_1.toNatClampNeg) ≤ a1 → (let v4_2 : Int32 := a4 + 1
wX6_find d Q 7 [some (.ref a0), some (.int a1), some (.int a2), some (.int v5_1), some (.int v4_2), some (.int v5_1)] [] M)) ∧ (¬ ((zI M (zR M a0 3) v5_1.toNatClampNeg) ≤ a1) → (let v2_3 : Int32 := v5_1 + ((1 : Int32))
let v4_4 : Int32 := a4 + 1
wX6_find d Q 7 [some (.ref a0), some (.int a1), some (.int v2_3), some (.int a3), some (.int v4_4), some (.int v5_1)] [] M)))))))))
) : wX6_find d Q 7 [some (.ref a0), some (.int a1), some (.int a2), some (.int a3), some (.int a4), o5] [] M := zseg (zCl_good gTb d) (fun j => j == 7) 38 h
abbrev wX6_shift (d : Nat) (Q : List Value → zM → Prop) : Nat → zLv → List Value → zM → Prop := zW (zCl gTb d) 0 kX6_shift Q
theorem en_X6_shift {d : Nat} {Q : List Value → zM → Prop} (a0 : Nat) (a1 : Int32) (a2 : Int32) (M : zM) (h : wX6_shift d Q 0 [some (.ref a0), some (.int a1), some (.int a2)] [] M) : zCl gTb (d + 1) nX6_shift [.ref a0, .int a1, .int a2] M Q := ⟨Nat.le_of_ble_eq_true rfl, h⟩
set_option maxRecDepth 100000 in
set_option maxHeartbeats 4000000 in
/-- from place 0 -/
theorem sg_X6_shift_0 {d : Nat} {Q : List Value → zM → Prop} (a0 : Nat) (a1 : Int32) (a2 : Int32) (M : zM) (h :
(zsh M a0).1 = 14 ∧ ((zsh M a0).1 = 14 ∧ ((zsh M a0).1 = 14 ∧ ((zsh M (zR M a0 1)).1 = 3 ∧ ((zsh M (zR M a0 1)).1 = 3 ∧ (¬ a1 < 0 ∧ (¬ a2 < 0 ∧ (¬ ((zI M a0 4) - a1) < 0 ∧ (a1.toNatClampNeg + ((zI M a0 4) - a1).toNatClampNeg ≤ (zsh M (zR M a0 1)).2 ∧ (a2.toNatClampNeg + ((zI M a0 4) - a1).toNatClampNeg ≤ (zsh M (zR M a0 1)).2 ∧ (let M1 : zM := zcL M (zR M a0 1) a1.toNatClampNeg (zR M a0 1) a2.toNatClampNeg ((zI M a0 4) - a1).toNatClampNeg
(zsh M a0).1 = 14 ∧ ((zsh M a0).1 = 14 ∧ ((zsh M a0).1 = 14 ∧ ((zsh M (zR M a0 2)).1 = 2 ∧ ((zsh M (zR M a0 2)).1 = 2 ∧ (¬ a1 < 0 ∧ (¬ a2 < 0 ∧ (¬ ((zI M1 a0 4) - a1) < 0 ∧ (a1.toNatClampNeg + ((zI M1 a0 4) - a1).toNatClampNeg ≤ (zsh M (zR M a0 2)).2 ∧ (a2.toNatClampNeg + ((zI M1 a0 4) - a1).toNatClampNeg ≤ (zsh M (zR M a0 2)).2 ∧ (let M2 : zM := zcI M1 (zR M a0 2) a1.toNatClampNeg (zR M a0 2) a2.toNatClampNeg ((zI M1 a0 4) - a1).toNatClampNeg
(zsh M a0).1 = 14 ∧ ((zsh M a0).1 = 14 ∧ ((zsh M a0).1 = 14 ∧ ((zsh M (zR M a0 3)).1 = 2 ∧ ((zsh M (zR M a0 3)).1 = 2 ∧ (¬ a1 < 0 ∧ (¬ a2 < 0 ∧ (¬ ((zI M2 a0 4) - a1) < 0 ∧ (a1.toNatClampNeg + ((zI M2 a0 4) - a1).toNatClampNeg ≤ (zsh M (zR M a0 3)).2 ∧ (a2.toNatClampNeg + ((zI M2 a0 4) - a1).toNatClampNeg ≤ (zsh M (zR M a0 3)).2 ∧ (let M3 : zM := zcI M2 (zR M a0 3) a1.toNatClampNeg (zR M a0 3) a2.toNatClampNeg ((zI M2 a0 4) - a1).toNatClampNeg
(zsh M a0).1 = 14 ∧ ((zsh M a0).1 = 14 ∧ (let M4 : zM := zuI M3 a0 4 ((zI M3 a0 4) + (a2 - a1))
Q [] M4))))))))))))))))))))))))))))))))
) : wX6_shift d Q 0 [some (.ref a0), some (.int a1), some (.int a2)] [] M := zseg (zCl_good gTb d) (fun _ => false) 47 h
abbrev wX6_behead (d : Nat) (Q : List Value → zM → Prop) : Nat → zLv → List Value → zM → Prop := zW (zCl gTb d) 0 kX6_behead Q
theorem en_X6_behead {d : Nat} {Q : List Value → zM → Prop} (a0 : Nat) (M : zM) (h : wX6_behead d Q 0 [some (.ref a0)] [] M) : zCl gTb (d + 1) nX6_behead [.ref a0] M Q := ⟨Nat.le_of_ble_eq_true rfl, h⟩
set_option maxRecDepth 100000 in
set_option maxHeartbeats 4000000 in
/-- from place 0 -/
theorem sg_X6_behead_0 {d : Nat} {Q : List Value → zM → Prop} (a0 : Nat) (M : zM) (h :
(zsh M a0).1 = 14 ∧ (((zI M a0 4) ≤ 0 → (Q [] M)) ∧ (¬ ((zI M a0 4) ≤ 0) → ((zsh M a0).1 = 14 ∧ (ycV d nX6_shift [.ref a0, .int ((1 : Int32)), .int ((0 : Int32))] M fun M1 => (Q [] M1)))))
) : wX6_behead d Q 0 [some (.ref a0)] [] M := zseg (zCl_good gTb d) (fun _ => false) 14 h
abbrev wX6_come (d : Nat) (Q : List Value → zM → Prop) : Nat → zLv → List Value → zM → Prop := zW (zCl gTb d) 2 kX6_come Q
theorem en_X6_come {d : Nat} {Q : List Value → zM → Prop} (a0 : Nat) (a1 : Int64) (a3 : Int32) (M : zM) (h : wX6_come d Q 0 [some (.ref a0), some (.long a1), none, some (.int a3), none, none, none, none] [] M) : zCl gTb (d + 1) nX6_come [.ref a0, .long a1, .int a3] M Q := ⟨Nat.le_of_ble_eq_true rfl, h⟩
set_option maxRecDepth 100000 in
set_option maxHeartbeats 4000000 in
/-- from place 0 -/
theorem sg_X6_come_0 {d : Nat} {Q : List Value → zM → Prop} (a0 : Nat) (a1 : Int64) (a3 : Int32) (M : zM) (h :
(zsh M a0).1 = 14 ∧ ((zsh M (zR M a0 0)).1 = 13 ∧ (ycI d nX5_rank [.ref (zR M a0 0), .int a3] M fun c2 M1 => ((zsh M1 a0).1 = 14 ∧ (ycI d nX6_find [.ref a0, .int c2] M1 fun c4 M3 => ((zsh M3 a0).1 = 14 ∧ (((zI M3 a0 4) ≤ c4 → (wX6_come d Q 54 [some (.ref a0), some (.long a1), none, some (.int a3), some (.int c2), some (.int c4), none, none] [] M3)) ∧ (¬ ((zI M3 a0 4) ≤ c4) → ((zsh M3 a0).1 = 14 ∧ ((zsh M3 (zR M3 a0 3)).1 = 2 ∧ (zin c4 (zsh M3 (zR M3 a0 3)).2 ∧ ((¬ (zI M3 (zR M3 a0 3) c4.toNatClampNeg) = c2 → (wX6_come d Q 54 [some (.ref a0), some (.long a1), none, some (.int a3), some (.int c2), some (.int c4), none, none] [] M3)) ∧ (¬ (¬ (zI M3 (zR M3 a0 3) c4.toNatClampNeg) = c2) → ((zsh M3 a0).1 = 14 ∧ ((zsh M3 (zR M3 a0 1)).1 = 3 ∧ (zin c4 (zsh M3 (zR M3 a0 1)).2 ∧ (ycJ d nX2_sum [.long (zL M3 (zR M3 a0 1) c4.toNatClampNeg), .long a1] M3 fun c6 M5 => ((¬ (lg_cmp c6 ((1 : Int64))) = 0 → (((lg_cmp c6 ((0 : Int64))) = 0 → (wX6_come d Q 46 [some (.ref a0), some (.long a1), none, some (.int a3), some (.int c2), some (.int c4), some (.long c6), none] [] M5)) ∧ (¬ ((lg_cmp c6 ((0 : Int64))) = 0) → ((zsh M5 a0).1 = 14 ∧ ((zsh M5 (zR M5 a0 1)).1 = 3 ∧ (zin c4 (zsh M5 (zR M5 a0 1)).2 ∧ (let M7 : zM := zuL M5 (zR M5 a0 1) c4.toNatClampNeg c6
wX6_come d Q 46 [some (.ref a0), some (.long a1), none, some (.int a3), some (.int c2), some (.int c4), some (.long c6), none] [] M7))))))) ∧ (¬ (¬ (lg_cmp c6 ((1 : Int64))) = 0) → ((zsh M5 a0).1 = 14 ∧ (ycV d nX6_shift [.ref a0, .int (c4 + ((1 : Int32))), .int c4] M5 fun M8 => (wX6_come d Q 46 [some (.ref a0), some (.long a1), none, some (.int a3), some (.int c2), some (.int c4), some (.long c6), none] [] M8)))))))))))))))))))))
) : wX6_come d Q 0 [some (.ref a0), some (.long a1), none, some (.int a3), none, none, none, none] [] M := zseg (zCl_good gTb d) (fun j => j == 46 || j == 54) 51 h
set_option maxRecDepth 100000 in
set_option maxHeartbeats 4000000 in
/-- from place 46 -/
theorem sg_X6_come_46 {d : Nat} {Q : List Value → zM → Prop} (o0 : Option Value) (o1 : Option Value) (o2 : Option Value) (o3 : Option Value) (o4 : Option Value) (o5 : Option Value) (a6 : Int64) (M : zM) (h :
((lg_cmp a6 ((0 : Int64))) = 0 → (zb ((0 : Int32)) ∧ (Q [.int ((0 : Int32))] M))) ∧ (¬ ((lg_cmp a6 ((0 : Int64))) = 0) → (zb ((1 : Int32)) ∧ (Q [.int ((1 : Int32))] M)))
) : wX6_come d Q 46 [o0, o1, o2, o3, o4, o5, some (.long a6), none] [] M := zseg (zCl_good gTb d) (fun j => j == 46 || j == 54) 14 h
set_option maxRecDepth 100000 in
set_option maxHeartbeats 4000000 in
/-- from place 54 -/
theorem sg_X6_come_54 {d : Nat} {Q : List Value → zM → Prop} (a0 : Nat) (a1 : Int64) (a3 : Int32) (a4 : Int32) (a5 : Int32) (o6 : Option Value) (o7 : Option Value) (M : zM) (h :
(zsh M a0).1 = 14 ∧ (((zI M a0 4) < ((100 : Int32)) → ((zsh M a0).1 = 14 ∧ (ycV d nX6_shift [.ref a0, .int a5, .int (a5 + ((1 : Int32)))] M fun M1 => ((zsh M1 a0).1 = 14 ∧ ((zsh M1 (zR M1 a0 1)).1 = 3 ∧ (zin a5 (zsh M1 (zR M1 a0 1)).2 ∧ (let M2 : zM := zuL M1 (zR M1 a0 1) a5.toNatClampNeg a1
(zsh M1 a0).1 = 14 ∧ ((zsh M1 (zR M1 a0 2)).1 = 2 ∧ (zin a5 (zsh M1 (zR M1 a0 2)).2 ∧ (let M3 : zM := zuI M2 (zR M1 a0 2) a5.toNatClampNeg a3
(zsh M1 a0).1 = 14 ∧ ((zsh M1 (zR M1 a0 3)).1 = 2 ∧ (zin a5 (zsh M1 (zR M1 a0 3)).2 ∧ (let M4 : zM := zuI M3 (zR M1 a0 3) a5.toNatClampNeg a4
zb ((1 : Int32)) ∧ (Q [.int ((1 : Int32))] M4)))))))))))))) ∧ (¬ ((zI M a0 4) < ((100 : Int32))) → (zb ((0 : Int32)) ∧ (Q [.int ((0 : Int32))] M))))
) : wX6_come d Q 54 [some (.ref a0), some (.long a1), none, some (.int a3), some (.int a4), some (.int a5), o6, o7] [] M := zseg (zCl_good gTb d) (fun j => j == 46 || j == 54) 34 h
abbrev wX6_addMultiple (d : Nat) (Q : List Value → zM → Prop) : Nat → zLv → List Value → zM → Prop := zW (zCl gTb d) 2 kX6_addMultiple Q
theorem en_X6_addMultiple {d : Nat} {Q : List Value → zM → Prop} (a0 : Nat) (a1 : Int64) (a3 : Int32) (a4 : Nat) (M : zM) (h : wX6_addMultiple d Q 0 [some (.ref a0), some (.long a1), none, some (.int a3), some (.ref a4), none, none, none, none] [] M) : zCl gTb (d + 1) nX6_addMultiple [.ref a0, .long a1, .int a3, .ref a4] M Q := ⟨Nat.le_of_ble_eq_true rfl, h⟩
set_option maxRecDepth 100000 in
set_option maxHeartbeats 4000000 in
/-- from place 0 -/
theorem sg_X6_addMultiple_0 {d : Nat} {Q : List Value → zM → Prop} (a0 : Nat) (a1 : Int64) (a3 : Int32) (a4 : Nat) (M : zM) (h :
wX6_addMultiple d Q 2 [some (.ref a0), some (.long a1), none, some (.int a3), some (.ref a4), some (.int ((0 : Int32))), none, none, none] [] M
) : wX6_addMultiple d Q 0 [some (.ref a0), some (.long a1), none, some (.int a3), some (.ref a4), none, none, none, none] [] M := zseg (zCl_good gTb d) (fun j => j == 2) 7 h
set_option maxRecDepth 100000 in
set_option maxHeartbeats 4000000 in
/-- from place 2 -/
theorem sg_X6_addMultiple_2 {d : Nat} {Q : List Value → zM → Prop} (a0 : Nat) (a1 : Int64) (a3 : Int32) (a4 : Nat) (a5 : Int32) (o6 : Option Value) (o7 : Option Value) (o8 : Option Value) (M : zM) (h :
(zsh M a4).1 = 14 ∧ (((zI M a4 4) ≤ a5 → (zb ((1 : Int32)) ∧ (Q [.int ((1 : Int32))] M))) ∧ (¬ ((zI M a4 4) ≤ a5) → ((zsh M a4).1 = 14 ∧ ((zsh M (zR M a4 2)).1 = 2 ∧ (zin a5 (zsh M (zR M a4 2)).2 ∧ (let v6_1 : Int32 := (zI M (zR M a4 2) a5.toNatClampNeg) + a3
ycI d nX4_isInside [.int v6_1] M fun c3 M2 => ((¬ c3 = 0 → ((zsh M2 a4).1 = 14 ∧ ((zsh M2 (zR M2 a4 1)).1 = 3 ∧ (zin a5 (zsh M2 (zR M2 a4 1)).2 ∧ (ycJ d nX2_product [.long (zL M2 (zR M2 a4 1) a5.toNatClampNeg), .long a1] M2 fun c5 M4 => (((lg_cmp c5 ((0 : Int64))) = 0 → (zb ((0 : Int32)) ∧ (Q [.int ((0 : Int32))] M4))) ∧ (¬ ((lg_cmp c5 ((0 : Int64))) = 0) → ((zsh M4 a0).1 = 14 ∧ (ycI d nX6_come [.ref a0, .long c5, .int v6_1] M4 fun c7 M6 => ((¬ c7 = 0 → (let v5_8 : Int32 := a5 + 1
wX6_addMultiple d Q 2 [some (.ref a0), some (.long a1), none, some (.int a3), some (.ref a4), some (.int v5_8), some (.int v6_1), some (.long c5), none] [] M6)) ∧ (¬ (¬ c7 = 0) → (zb ((0 : Int32)) ∧ (Q [.int ((0 : Int32))] M6))))))))))))) ∧ (¬ (¬ c3 = 0) → (zb ((0 : Int32)) ∧ (Q [.int ((0 : Int32))] M2))))))))))
) : wX6_addMultiple d Q 2 [some (.ref a0), some (.long a1), none, some (.int a3), some (.ref a4), some (.int a5), o6, o7, o8] [] M := zseg (zCl_good gTb d) (fun j => j == 2) 45 h
abbrev wX6_addProduct (d : Nat) (Q : List Value → zM → Prop) : Nat → zLv → List Value → zM → Prop := zW (zCl gTb d) 2 kX6_addProduct Q
theorem en_X6_addProduct {d : Nat} {Q : List Value → zM → Prop} (a0 : Nat) (a1 : Nat) (a2 : Nat) (M : zM) (h : wX6_addProduct d Q 0 [some (.ref a0), some (.ref a1), some (.ref a2), none] [] M) : zCl gTb (d + 1) nX6_addProduct [.ref a0, .ref a1, .ref a2] M Q := ⟨Nat.le_of_ble_eq_true rfl, h⟩
set_option maxRecDepth 100000 in
set_option maxHeartbeats 4000000 in
/-- from place 0 -/
theorem sg_X6_addProduct_0 {d : Nat} {Q : List Value → zM → Prop} (a0 : Nat) (a1 : Nat) (a2 : Nat) (M : zM) (h :
wX6_addProduct d Q 2 [some (.ref a0), some (.ref a1), some (.ref a2), some (.int ((0 : Int32)))] [] M
) : wX6_addProduct d Q 0 [some (.ref a0), some (.ref a1), some (.ref a2), none] [] M := zseg (zCl_good gTb d) (fun j => j == 2) 7 h
set_option maxRecDepth 100000 in
set_option maxHeartbeats 4000000 in
/-- from place 2 -/
theorem sg_X6_addProduct_2 {d : Nat} {Q : List Value → zM → Prop} (a0 : Nat) (a1 : Nat) (a2 : Nat) (a3 : Int32) (M : zM) (h :
(zsh M a1).1 = 14 ∧ (((zI M a1 4) ≤ a3 → (zb ((1 : Int32)) ∧ (Q [.int ((1 : Int32))] M))) ∧ (¬ ((zI M a1 4) ≤ a3) → ((zsh M a1).1 = 14 ∧ ((zsh M (zR M a1 1)).1 = 3 ∧ (zin a3 (zsh M (zR M a1 1)).2 ∧ ((zsh M a1).1 = 14 ∧ ((zsh M (zR M a1 2)).1 = 2 ∧ (zin a3 (zsh M (zR M a1 2)).2 ∧ ((zsh M a0).1 = 14 ∧ (ycI d nX6_addMultiple [.ref a0, .long (zL M (zR M a1 1) a3.toNatClampNeg), .int (zI M (zR M a1 2) a3.toNatClampNeg), .ref a2] M fun c2 M1 => ((¬ c2 = 0 → (let v3_3 : Int32 := a3 + 1
wX6_addProduct d Q 2 [some (.ref a0), some (.ref a1), some (.ref a2), some (.int v3_3)] [] M1)) ∧ (¬ (¬ c2 = 0) → (zb ((0 : Int32)) ∧ (Q [.int ((0 : Int32))] M1))))))))))))))
) : wX6_addProduct d Q 2 [some (.ref a0), some (.ref a1), some (.ref a2), some (.int a3)] [] M := zseg (zCl_good gTb d) (fun j => j == 2) 27 h
abbrev wX6_becomeProduct (d : Nat) (Q : List Value → zM → Prop) : Nat → zLv → List Value → zM → Prop := zW (zCl gTb d) 2 kX6_becomeProduct Q
theorem en_X6_becomeProduct {d : Nat} {Q : List Value → zM → Prop} (a0 : Nat) (a1 : Nat) (a2 : Nat) (M : zM) (h : wX6_becomeProduct d Q 0 [some (.ref a0), some (.ref a1), some (.ref a2)] [] M) : zCl gTb (d + 1) nX6_becomeProduct [.ref a0, .ref a1, .ref a2] M Q := ⟨Nat.le_of_ble_eq_true rfl, h⟩
set_option maxRecDepth 100000 in
set_option maxHeartbeats 4000000 in
/-- from place 0 -/
theorem sg_X6_becomeProduct_0 {d : Nat} {Q : List Value → zM → Prop} (a0 : Nat) (a1 : Nat) (a2 : Nat) (M : zM) (h :
(zsh M a0).1 = 14 ∧ (ycV d nX6_empty [.ref a0] M fun M1 => ((zsh M1 a0).1 = 14 ∧ (ycI d nX6_addProduct [.ref a0, .ref a1, .ref a2] M1 fun c3 M2 => (zb c3 ∧ (Q [.int c3] M2)))))
) : wX6_becomeProduct d Q 0 [some (.ref a0), some (.ref a1), some (.ref a2)] [] M := zseg (zCl_good gTb d) (fun _ => false) 12 h
abbrev wX6_multiply (d : Nat) (Q : List Value → zM → Prop) : Nat → zLv → List Value → zM → Prop := zW (zCl gTb d) 2 kX6_multiply Q
theorem en_X6_multiply {d : Nat} {Q : List Value → zM → Prop} (a0 : Nat) (a1 : Int64) (M : zM) (h : wX6_multiply d Q 0 [some (.ref a0), some (.long a1), none, none, none, none] [] M) : zCl gTb (d + 1) nX6_multiply [.ref a0, .long a1] M Q := ⟨Nat.le_of_ble_eq_true rfl, h⟩
set_option maxRecDepth 100000 in
set_option maxHeartbeats 4000000 in
/-- from place 0 -/
theorem sg_X6_multiply_0 {d : Nat} {Q : List Value → zM → Prop} (a0 : Nat) (a1 : Int64) (M : zM) (h :
wX6_multiply d Q 2 [some (.ref a0), some (.long a1), none, some (.int ((0 : Int32))), none, none] [] M
) : wX6_multiply d Q 0 [some (.ref a0), some (.long a1), none, none, none, none] [] M := zseg (zCl_good gTb d) (fun j => j == 2) 7 h
set_option maxRecDepth 100000 in
set_option maxHeartbeats 4000000 in
/-- from place 2 -/
theorem sg_X6_multiply_2 {d : Nat} {Q : List Value → zM → Prop} (a0 : Nat) (a1 : Int64) (a3 : Int32) (o4 : Option Value) (o5 : Option Value) (M : zM) (h :
(zsh M a0).1 = 14 ∧ (((zI M a0 4) ≤ a3 → (zb ((1 : Int32)) ∧ (Q [.int ((1 : Int32))] M))) ∧ (¬ ((zI M a0 4) ≤ a3) → ((zsh M a0).1 = 14 ∧ ((zsh M (zR M a0 1)).1 = 3 ∧ (zin a3 (zsh M (zR M a0 1)).2 ∧ (ycJ d nX2_product [.long (zL M (zR M a0 1) a3.toNatClampNeg), .long a1] M fun c2 M1 => ((¬ (lg_cmp c2 ((0 : Int64))) = 0 → ((zsh M1 a0).1 = 14 ∧ ((zsh M1 (zR M1 a0 1)).1 = 3 ∧ (zin a3 (zsh M1 (zR M1 a0 1)).2 ∧ (let M3 : zM := zuL M1 (zR M1 a0 1) a3.toNatClampNeg c2
let v3_4 : Int32 := a3 + 1
wX6_multiply d Q 2 [some (.ref a0), some (.long a1), none, some (.int v3_4), some (.long c2), none] [] M3))))) ∧ (¬ (¬ (lg_cmp c2 ((0 : Int64))) = 0) → (zb ((0 : Int32)) ∧ (Q [.int ((0 : Int32))] M1))))))))))
) : wX6_multiply d Q 2 [some (.ref a0), some (.long a1), none, some (.int a3), o4, o5] [] M := zseg (zCl_good gTb d) (fun j => j == 2) 31 h
abbrev wX6_arrange (d : Nat) (Q : List Value → zM → Prop) : Nat → zLv → List Value → zM → Prop := zW (zCl gTb d) 0 kX6_arrange Q
theorem en_X6_arrange {d : Nat} {Q : List Value → zM → Prop} (a0 : Nat) (M : zM) (h : wX6_arrange d Q 0 [some (.ref a0), none, none, none, none, none, none] [] M) : zCl gTb (d + 1) nX6_arrange [.ref a0] M Q := ⟨Nat.le_of_ble_eq_true rfl, h⟩
set_option maxRecDepth 100000 in
set_option maxHeartbeats 4000000 in
/-- from place 0 -/
theorem sg_X6_arrange_0 {d : Nat} {Q : List Value → zM → Prop} (a0 : Nat) (M : zM) (h :
wX6_arrange d Q 2 [some (.ref a0), some (.int ((0 : Int32))), none, none, none, none, none] [] M
) : wX6_arrange d Q 0 [some (.ref a0), none, none, none, none, none, none] [] M := zseg (zCl_good gTb d) (fun j => j == 2 || j == 23 || j == 65) 7 h
set_option maxRecDepth 100000 in
set_option maxHeartbeats 4000000 in
/-- from place 2 -/
theorem sg_X6_arrange_2 {d : Nat} {Q : List Value → zM → Prop} (a0 : Nat) (a1 : Int32) (o2 : Option Value) (o3 : Option Value) (o4 : Option Value) (o5 : Option Value) (o6 : Option Value) (M : zM) (h :
(zsh M a0).1 = 14 ∧ (((zI M a0 4) ≤ a1 → (Q [] M)) ∧ (¬ ((zI M a0 4) ≤ a1) → ((zsh M a0).1 = 14 ∧ ((zsh M (zR M a0 1)).1 = 3 ∧ (zin a1 (zsh M (zR M a0 1)).2 ∧ (let w2_1 : Int64 := zL M (zR M a0 1) a1.toNatClampNeg
(zsh M a0).1 = 14 ∧ ((zsh M (zR M a0 2)).1 = 2 ∧ (zin a1 (zsh M (zR M a0 2)).2 ∧ (let v4_2 : Int32 := zI M (zR M a0 2) a1.toNatClampNeg
(zsh M a0).1 = 14 ∧ ((zsh M (zR M a0 0)).1 = 13 ∧ (ycI d nX5_rank [.ref (zR M a0 0), .int v4_2] M fun c4 M3 => (wX6_arrange d Q 23 [some (.ref a0), some (.int a1), some (.long w2_1), none, some (.int v4_2), some (.int c4), some (.int a1)] [] M3))))))))))))
) : wX6_arrange d Q 2 [some (.ref a0), some (.int a1), o2, o3, o4, o5, o6] [] M := zseg (zCl_good gTb d) (fun j => j == 2 || j == 23 || j == 65) 27 h
set_option maxRecDepth 100000 in
set_option maxHeartbeats 4000000 in
/-- from place 23 -/
theorem sg_X6_arrange_23 {d : Nat} {Q : List Value → zM → Prop} (a0 : Nat) (a1 : Int32) (a2 : Int64) (a4 : Int32) (a5 : Int32) (a6 : Int32) (M : zM) (h :
(a6 ≤ 0 → (wX6_arrange d Q 65 [some (.ref a0), some (.int a1), some (.long a2), none, some (.int a4), some (.int a5), some (.int a6)] [] M)) ∧ (¬ (a6 ≤ 0) → ((zsh M a0).1 = 14 ∧ ((zsh M (zR M a0 3)).1 = 2 ∧ (zin (a6 - ((1 : Int32))) (zsh M (zR M a0 3)).2 ∧ ((a5 ≤ (zI M (zR M a0 3) (a6 - ((1 : Int32))).toNatClampNeg) → (wX6_arrange d Q 65 [some (.ref a0), some (.int a1), some (.long a2), none, some (.int a4), some (.int a5), some (.int a6)] [] M)) ∧ (¬ (a5 ≤ (zI M (zR M a0 3) (a6 - ((1 : Int32))).toNatClampNeg)) → ((zsh M a0).1 = 14 ∧ ((zsh M a0).1 = 14 ∧ ((zsh M (zR M a0 1)).1 = 3 ∧ (zin (a6 - ((1 : Int32))) (zsh M (zR M a0 1)).2 ∧ ((zsh M (zR M a0 1)).1 = 3 ∧ (zin a6 (zsh M (zR M a0 1)).2 ∧ (let M1 : zM := zuL M (zR M a0 1) a6.toNatClampNeg (zL M (zR M a0 1) (a6 - ((1 : Int32))).toNatClampNeg)
(zsh M a0).1 = 14 ∧ ((zsh M a0).1 = 14 ∧ ((zsh M (zR M a0 2)).1 = 2 ∧ (zin (a6 - ((1 : Int32))) (zsh M (zR M a0 2)).2 ∧ ((zsh M (zR M a0 2)).1 = 2 ∧ (zin a6 (zsh M (zR M a0 2)).2 ∧ (let M2 : zM := zuI M1 (zR M a0 2) a6.toNatClampNeg (zI M1 (zR M a0 2) (a6 - ((1 : Int32))).toNatClampNeg)
(zsh M a0).1 = 14 ∧ ((zsh M a0).1 = 14 ∧ ((zsh M (zR M a0 3)).1 = 2 ∧ (zin (a6 - ((1 : Int32))) (zsh M (zR M a0 3)).2 ∧ ((zsh M (zR M a0 3)).1 = 2 ∧ (zin a6 (zsh M (zR M a0 3)).2 ∧ (let M3 : zM := zuI M2 (zR M a0 3) a6.toNatClampNeg (zI M2 (zR M a0 3) (a6 - ((1 : Int32))).toNatClampNeg)
let v6_4 : Int32 := a6 + (-1)
wX6_arrange d Q 23 [some (.ref a0), some (.int a1), some (.long a2), none, some (.int a4), some (.int a5), some (.int v6_4)] [] M3)))))))))))))))))))))))))
) : wX6_arrange d Q 23 [some (.ref a0), some (.int a1), some (.long a2), none, some (.int a4), some (.int a5), some (.int a6)] [] M := zseg (zCl_good gTb d) (fun j => j == 2 || j == 23 || j == 65) 47 h
set_option maxRecDepth 100000 in
set_option maxHeartbeats 4000000 in
/-- from place 65 -/
theorem sg_X6_arrange_65 {d : Nat} {Q : List Value → zM → Prop} (a0 : Nat) (a1 : Int32) (a2 : Int64) (a4 : Int32) (a5 : Int32) (a6 : Int32) (M : zM) (h :
(zsh M a0).1 = 14 ∧ ((zsh M (zR M a0 1)).1 = 3 ∧ (zin a6 (zsh M (zR M a0 1)).2 ∧ (let M1 : zM := zuL M (zR M a0 1) a6.toNatClampNeg a2
(zsh M a0).1 = 14 ∧ ((zsh M (zR M a0 2)).1 = 2 ∧ (zin a6 (zsh M (zR M a0 2)).2 ∧ (let M2 : zM := zuI M1 (zR M a0 2) a6.toNatClampNeg a4
(zsh M a0).1 = 14 ∧ ((zsh M (zR M a0 3)).1 = 2 ∧ (zin a6 (zsh M (zR M a0 3)).2 ∧ (let M3 : zM := zuI M2 (zR M a0 3) a6.toNatClampNeg a5
let v1_4 : Int32 := a1 + 1
wX6_arrange d Q 2 [some (.ref a0), some (.int v1_4), some (.long a2), none, some (.int a4), some (.int a5), some (.int a6)] [] M3)))))))))
) : wX6_arrange d Q 65 [some (.ref a0), some (.int a1), some (.long a2), none, some (.int a4), some (.int a5), some (.int a6)] [] M := zseg (zCl_good gTb d) (fun j => j == 2 || j == 23 || j == 65) 22 h
abbrev wX6_valueAt (d : Nat) (Q : List Value → zM → Prop) : Nat → zLv → List Value → zM → Prop := zW (zCl gTb d) 3 kX6_valueAt Q
theorem en_X6_valueAt {d : Nat} {Q : List Value → zM → Prop} (a0 : Nat) (a1 : Nat) (a2 : Int32) (M : zM) (h : wX6_valueAt d Q 0 [some (.ref a0), some (.ref a1), some (.int a2), none, none, none, none, none] [] M) : zCl gTb (d + 1) nX6_valueAt [.ref a0, .ref a1, .int a2] M Q := ⟨Nat.le_of_ble_eq_true rfl, h⟩
set_option maxRecDepth 100000 in
set_option maxHeartbeats 4000000 in
/-- from place 0 -/
theorem sg_X6_valueAt_0 {d : Nat} {Q : List Value → zM → Prop} (a0 : Nat) (a1 : Nat) (a2 : Int32) (M : zM) (h :
wX6_valueAt d Q 4 [some (.ref a0), some (.ref a1), some (.int a2), some (.long ((1 : Int64))), none, some (.int ((0 : Int32))), none, none] [] M
) : wX6_valueAt d Q 0 [some (.ref a0), some (.ref a1), some (.int a2), none, none, none, none, none] [] M := zseg (zCl_good gTb d) (fun j => j == 4) 9 h
set_option maxRecDepth 100000 in
set_option maxHeartbeats 4000000 in
/-- from place 4 -/
theorem sg_X6_valueAt_4 {d : Nat} {Q : List Value → zM → Prop} (a0 : Nat) (a1 : Nat) (a2 : Int32) (a3 : Int64) (a5 : Int32) (o6 : Option Value) (o7 : Option Value) (M : zM) (h :
(zsh M a0).1 = 14 ∧ (((zI M a0 4) ≤ a5 → (Q [.long a3] M)) ∧ (¬ ((zI M a0 4) ≤ a5) → ((zsh M a0).1 = 14 ∧ (ycJ d nX6_termAt [.ref a0, .int a5, .ref a1, .int a2] M fun c2 M1 => ((¬ (lg_cmp c2 ((0 : Int64))) = 0 → (ycJ d nX2_sum [.long a3, .long c2] M1 fun c4 M3 => ((¬ (lg_cmp c4 ((0 : Int64))) = 0 → (let v5_5 : Int32 := a5 + 1
wX6_valueAt d Q 4 [some (.ref a0), some (.ref a1), some (.int a2), some (.long c4), none, some (.int v5_5), some (.long c2), none] [] M3)) ∧ (¬ (¬ (lg_cmp c4 ((0 : Int64))) = 0) → (Q [.long ((0 : Int64))] M3))))) ∧ (¬ (¬ (lg_cmp c2 ((0 : Int64))) = 0) → (Q [.long ((0 : Int64))] M1)))))))
) : wX6_valueAt d Q 4 [some (.ref a0), some (.ref a1), some (.int a2), some (.long a3), none, some (.int a5), o6, o7] [] M := zseg (zCl_good gTb d) (fun j => j == 4) 35 h
abbrev wX6_termAt (d : Nat) (Q : List Value → zM → Prop) : Nat → zLv → List Value → zM → Prop := zW (zCl gTb d) 3 kX6_termAt Q
theorem en_X6_termAt {d : Nat} {Q : List Value → zM → Prop} (a0 : Nat) (a1 : Int32) (a2 : Nat) (a3 : Int32) (M : zM) (h : wX6_termAt d Q 0 [some (.ref a0), some (.int a1), some (.ref a2), some (.int a3), none, none, none, none, none, none, none] [] M) : zCl gTb (d + 1) nX6_termAt [.ref a0, .int a1, .ref a2, .int a3] M Q := ⟨Nat.le_of_ble_eq_true rfl, h⟩
set_option maxRecDepth 100000 in
set_option maxHeartbeats 4000000 in
/-- from place 0 -/
theorem sg_X6_termAt_0 {d : Nat} {Q : List Value → zM → Prop} (a0 : Nat) (a1 : Int32) (a2 : Nat) (a3 : Int32) (M : zM) (h :
(zsh M a0).1 = 14 ∧ ((zsh M (zR M a0 1)).1 = 3 ∧ (zin a1 (zsh M (zR M a0 1)).2 ∧ (let w4_1 : Int64 := zL M (zR M a0 1) a1.toNatClampNeg
wX6_termAt d Q 7 [some (.ref a0), some (.int a1), some (.ref a2), some (.int a3), some (.long w4_1), none, some (.int ((0 : Int32))), none, none, none, none] [] M)))
) : wX6_termAt d Q 0 [some (.ref a0), some (.int a1), some (.ref a2), some (.int a3), none, none, none, none, none, none, none] [] M := zseg (zCl_good gTb d) (fun j => j == 7 || j == 26) 12 h
set_option maxRecDepth 100000 in
set_option maxHeartbeats 4000000 in
/-- from place 7 -/
theorem sg_X6_termAt_7 {d : Nat} {Q : List Value → zM → Prop} (a0 : Nat) (a1 : Int32) (a2 : Nat) (a3 : Int32) (a4 : Int64) (a6 : Int32) (o7 : Option Value) (o8 : Option Value) (o9 : Option Value) (o10 : Option Value) (M : zM) (h :
(a3 ≤ a6 → (Q [.long a4] M)) ∧ (¬ (a3 ≤ a6) → ((zsh M a0).1 = 14 ∧ ((zsh M (zR M a0 2)).1 = 2 ∧ (zin a1 (zsh M (zR M a0 2)).2 ∧ (ycI d nX4_exponent [.int (zI M (zR M a0 2) a1.toNatClampNeg), .int a6] M fun c2 M1 => ((zsh M1 a2).1 = 2 ∧ (zin a6 (zsh M1 a2).2 ∧ (ycJ d nX2_lowest [.long ((zI M1 a2 a6.toNatClampNeg).toInt64), .long ((1 : Int64))] M1 fun c4 M3 => (wX6_termAt d Q 26 [some (.ref a0), some (.int a1), some (.ref a2), some (.int a3), some (.long a4), none, some (.int a6), some (.int c2), some (.long c4), none, some (.int ((0 : Int32)))] [] M3)))))))))
) : wX6_termAt d Q 7 [some (.ref a0), some (.int a1), some (.ref a2), some (.int a3), some (.long a4), none, some (.int a6), o7, o8, o9, o10] [] M := zseg (zCl_good gTb d) (fun j => j == 7 || j == 26) 26 h
set_option maxRecDepth 100000 in
set_option maxHeartbeats 4000000 in
/-- from place 26 -/
theorem sg_X6_termAt_26 {d : Nat} {Q : List Value → zM → Prop} (a0 : Nat) (a1 : Int32) (a2 : Nat) (a3 : Int32) (a4 : Int64) (a6 : Int32) (a7 : Int32) (a8 : Int64) (a10 : Int32) (M : zM) (h :
(a7 ≤ a10 → (let v6_1 : Int32 := a6 + 1
wX6_termAt d Q 7 [some (.ref a0), some (.int a1), some (.ref a2), some (.int a3), some (.long a4), none, some (.int v6_1), some (.int a7), some (.long a8), none, some (.int a10)] [] M)) ∧ (¬ (a7 ≤ a10) → (ycJ d nX2_product [.long a4, .long a8] M fun c3 M2 => ((¬ (lg_cmp c3 ((0 : Int64))) = 0 → (let v10_4 : Int32 := a10 + 1
wX6_termAt d Q 26 [some (.ref a0), some (.int a1), some (.ref a2), some (.int a3), some (.long c3), none, some (.int a6), some (.int a7), some (.long a8), none, some (.int v10_4)] [] M2)) ∧ (¬ (¬ (lg_cmp c3 ((0 : Int64))) = 0) → (Q [.long ((0 : Int64))] M2)))))
) : wX6_termAt d Q 26 [some (.ref a0), some (.int a1), some (.ref a2), some (.int a3), some (.long a4), none, some (.int a6), some (.int a7), some (.long a8), none, some (.int a10)] [] M := zseg (zCl_good gTb d) (fun j => j == 7 || j == 26) 22 h
