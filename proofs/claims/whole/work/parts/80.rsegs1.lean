/-! stretches of the small code, by wip/whole/vcgen.py -/
abbrev wX8_exponent (d : Nat) (Q : List Value → zM → Prop) : Nat → zLv → List Value → zM → Prop := zW (zCl gTb d) 1 kX8_exponent Q
theorem en_X8_exponent {d : Nat} {Q : List Value → zM → Prop} (a0 : Int32) (a1 : Int32) (M : zM) (h : wX8_exponent d Q 0 [some (.int a0), some (.int a1)] [] M) : zCl gTb (d + 1) nX8_exponent [.int a0, .int a1] M Q := ⟨Nat.le_of_ble_eq_true rfl, h⟩
set_option maxRecDepth 100000 in
set_option maxHeartbeats 4000000 in
/-- from place 0 -/
theorem sg_X8_exponent_0 {d : Nat} {Q : List Value → zM → Prop} (a0 : Int32) (a1 : Int32) (M : zM) (h :
Q [.int ((a0 >>> ((((5 : Int32)) * a1) &&& 31)) &&& ((31 : Int32)))] M
) : wX8_exponent d Q 0 [some (.int a0), some (.int a1)] [] M := zseg (zCl_good gTb d) (fun _ => false) 13 h
abbrev wX8_sum (d : Nat) (Q : List Value → zM → Prop) : Nat → zLv → List Value → zM → Prop := zW (zCl gTb d) 1 kX8_sum Q
theorem en_X8_sum {d : Nat} {Q : List Value → zM → Prop} (a0 : Nat) (a1 : Int32) (M : zM) (h : wX8_sum d Q 0 [some (.ref a0), some (.int a1), none, none] [] M) : zCl gTb (d + 1) nX8_sum [.ref a0, .int a1] M Q := ⟨Nat.le_of_ble_eq_true rfl, h⟩
set_option maxRecDepth 100000 in
set_option maxHeartbeats 4000000 in
/-- from place 0 -/
theorem sg_X8_sum_0 {d : Nat} {Q : List Value → zM → Prop} (a0 : Nat) (a1 : Int32) (M : zM) (h :
wX8_sum d Q 4 [some (.ref a0), some (.int a1), some (.int ((0 : Int32))), some (.int ((0 : Int32)))] [] M
) : wX8_sum d Q 0 [some (.ref a0), some (.int a1), none, none] [] M := zseg (zCl_good gTb d) (fun j => j == 4) 9 h
set_option maxRecDepth 100000 in
set_option maxHeartbeats 4000000 in
/-- from place 4 -/
theorem sg_X8_sum_4 {d : Nat} {Q : List Value → zM → Prop} (a0 : Nat) (a1 : Int32) (a2 : Int32) (a3 : Int32) (M : zM) (h :
(zsh M a0).1 = 16 ∧ (((zI M a0 1) ≤ a3 → (Q [.int a2] M)) ∧ (¬ ((zI M a0 1) ≤ a3) → (ycI d nX8_exponent [.int a1, .int a3] M fun c2 M1 => (let v2_3 : Int32 := a2 + c2
let v3_4 : Int32 := a3 + 1
wX8_sum d Q 4 [some (.ref a0), some (.int a1), some (.int v2_3), some (.int v3_4)] [] M1))))
) : wX8_sum d Q 4 [some (.ref a0), some (.int a1), some (.int a2), some (.int a3)] [] M := zseg (zCl_good gTb d) (fun j => j == 4) 19 h
abbrev wX8_compare (d : Nat) (Q : List Value → zM → Prop) : Nat → zLv → List Value → zM → Prop := zW (zCl gTb d) 1 kX8_compare Q
theorem en_X8_compare {d : Nat} {Q : List Value → zM → Prop} (a0 : Nat) (a1 : Int32) (a2 : Int32) (M : zM) (h : wX8_compare d Q 0 [some (.ref a0), some (.int a1), some (.int a2), none] [] M) : zCl gTb (d + 1) nX8_compare [.ref a0, .int a1, .int a2] M Q := ⟨Nat.le_of_ble_eq_true rfl, h⟩
set_option maxRecDepth 100000 in
set_option maxHeartbeats 4000000 in
/-- from place 0 -/
theorem sg_X8_compare_0 {d : Nat} {Q : List Value → zM → Prop} (a0 : Nat) (a1 : Int32) (a2 : Int32) (M : zM) (h :
(zsh M a0).1 = 16 ∧ ((¬ (zI M a0 2) = 0 → ((zsh M a0).1 = 16 ∧ ((¬ (zI M a0 2) = ((2 : Int32)) → ((zsh M a0).1 = 16 ∧ (ycI d nX8_sum [.ref a0, .int a1] M fun c2 M1 => ((zsh M1 a0).1 = 16 ∧ (ycI d nX8_sum [.ref a0, .int a2] M1 fun c4 M3 => ((c2 = c4 → ((zsh M3 a0).1 = 16 ∧ (let v3_5 : Int32 := (zI M3 a0 1) - ((1 : Int32))
wX8_compare d Q 76 [some (.ref a0), some (.int a1), some (.int a2), some (.int v3_5)] [] M3))) ∧ (¬ (c2 = c4) → ((zsh M3 a0).1 = 16 ∧ (ycI d nX8_sum [.ref a0, .int a1] M3 fun c7 M6 => ((zsh M6 a0).1 = 16 ∧ (ycI d nX8_sum [.ref a0, .int a2] M6 fun c9 M8 => ((c9 ≤ c7 → (Q [.int ((1 : Int32))] M8)) ∧ (¬ (c9 ≤ c7) → (Q [.int (((-1) : Int32))] M8)))))))))))))) ∧ (¬ (¬ (zI M a0 2) = ((2 : Int32))) → (ycI d nX8_exponent [.int a1, .int ((0 : Int32))] M fun c11 M10 => (ycI d nX8_exponent [.int a2, .int ((0 : Int32))] M10 fun c13 M12 => ((c11 = c13 → ((zsh M12 a0).1 = 16 ∧ (ycI d nX8_sum [.ref a0, .int a1] M12 fun c15 M14 => ((zsh M14 a0).1 = 16 ∧ (ycI d nX8_sum [.ref a0, .int a2] M14 fun c17 M16 => ((c15 = c17 → ((zsh M16 a0).1 = 16 ∧ (let v3_18 : Int32 := (zI M16 a0 1) - ((1 : Int32))
wX8_compare d Q 76 [some (.ref a0), some (.int a1), some (.int a2), some (.int v3_18)] [] M16))) ∧ (¬ (c15 = c17) → ((zsh M16 a0).1 = 16 ∧ (ycI d nX8_sum [.ref a0, .int a1] M16 fun c20 M19 => ((zsh M19 a0).1 = 16 ∧ (ycI d nX8_sum [.ref a0, .int a2] M19 fun c22 M21 => ((c22 ≤ c20 → (Q [.int ((1 : Int32))] M21)) ∧ (¬ (c22 ≤ c20) → (Q [.int (((-1) : Int32))] M21)))))))))))))) ∧ (¬ (c11 = c13) → (ycI d nX8_exponent [.int a1, .int ((0 : Int32))] M12 fun c24 M23 => (ycI d nX8_exponent [.int a2, .int ((0 : Int32))] M23 fun c26 M25 => ((c26 ≤ c24 → (Q [.int ((1 : Int32))] M25)) ∧ (¬ (c26 ≤ c24) → (Q [.int (((-1) : Int32))] M25))))))))))))) ∧ (¬ (¬ (zI M a0 2) = 0) → (wX8_compare d Q 5 [some (.ref a0), some (.int a1), some (.int a2), some (.int ((0 : Int32)))] [] M)))
) : wX8_compare d Q 0 [some (.ref a0), some (.int a1), some (.int a2), none] [] M := zseg (zCl_good gTb d) (fun j => j == 5 || j == 76) 81 h
set_option maxRecDepth 100000 in
set_option maxHeartbeats 4000000 in
/-- from place 5 -/
theorem sg_X8_compare_5 {d : Nat} {Q : List Value → zM → Prop} (a0 : Nat) (a1 : Int32) (a2 : Int32) (a3 : Int32) (M : zM) (h :
(zsh M a0).1 = 16 ∧ (((zI M a0 1) ≤ a3 → (Q [.int ((0 : Int32))] M)) ∧ (¬ ((zI M a0 1) ≤ a3) → (ycI d nX8_exponent [.int a1, .int a3] M fun c2 M1 => (ycI d nX8_exponent [.int a2, .int a3] M1 fun c4 M3 => ((c2 = c4 → (let v3_5 : Int32 := a3 + 1
wX8_compare d Q 5 [some (.ref a0), some (.int a1), some (.int a2), some (.int v3_5)] [] M3)) ∧ (¬ (c2 = c4) → (ycI d nX8_exponent [.int a1, .int a3] M3 fun c7 M6 => (ycI d nX8_exponent [.int a2, .int a3] M6 fun c9 M8 => ((c9 ≤ c7 → (Q [.int ((1 : Int32))] M8)) ∧ (¬ (c9 ≤ c7) → (Q [.int (((-1) : Int32))] M8)))))))))))
) : wX8_compare d Q 5 [some (.ref a0), some (.int a1), some (.int a2), some (.int a3)] [] M := zseg (zCl_good gTb d) (fun j => j == 5 || j == 76) 32 h
set_option maxRecDepth 100000 in
set_option maxHeartbeats 4000000 in
/-- from place 76 -/
theorem sg_X8_compare_76 {d : Nat} {Q : List Value → zM → Prop} (o0 : Option Value) (a1 : Int32) (a2 : Int32) (a3 : Int32) (M : zM) (h :
(a3 < 0 → (Q [.int ((0 : Int32))] M)) ∧ (¬ (a3 < 0) → (ycI d nX8_exponent [.int a1, .int a3] M fun c2 M1 => (ycI d nX8_exponent [.int a2, .int a3] M1 fun c4 M3 => ((c2 = c4 → (let v3_5 : Int32 := a3 + (-1)
wX8_compare d Q 76 [o0, some (.int a1), some (.int a2), some (.int v3_5)] [] M3)) ∧ (¬ (c2 = c4) → (ycI d nX8_exponent [.int a1, .int a3] M3 fun c7 M6 => (ycI d nX8_exponent [.int a2, .int a3] M6 fun c9 M8 => ((c7 ≤ c9 → (Q [.int ((1 : Int32))] M8)) ∧ (¬ (c7 ≤ c9) → (Q [.int (((-1) : Int32))] M8))))))))))
) : wX8_compare d Q 76 [o0, some (.int a1), some (.int a2), some (.int a3)] [] M := zseg (zCl_good gTb d) (fun j => j == 5 || j == 76) 30 h
abbrev wX8_divides (d : Nat) (Q : List Value → zM → Prop) : Nat → zLv → List Value → zM → Prop := zW (zCl gTb d) 2 kX8_divides Q
theorem en_X8_divides {d : Nat} {Q : List Value → zM → Prop} (a0 : Nat) (a1 : Int32) (a2 : Int32) (M : zM) (h : wX8_divides d Q 0 [some (.ref a0), some (.int a1), some (.int a2), none] [] M) : zCl gTb (d + 1) nX8_divides [.ref a0, .int a1, .int a2] M Q := ⟨Nat.le_of_ble_eq_true rfl, h⟩
set_option maxRecDepth 100000 in
set_option maxHeartbeats 4000000 in
/-- from place 0 -/
theorem sg_X8_divides_0 {d : Nat} {Q : List Value → zM → Prop} (a0 : Nat) (a1 : Int32) (a2 : Int32) (M : zM) (h :
wX8_divides d Q 2 [some (.ref a0), some (.int a1), some (.int a2), some (.int ((0 : Int32)))] [] M
) : wX8_divides d Q 0 [some (.ref a0), some (.int a1), some (.int a2), none] [] M := zseg (zCl_good gTb d) (fun j => j == 2) 7 h
set_option maxRecDepth 100000 in
set_option maxHeartbeats 4000000 in
/-- from place 2 -/
theorem sg_X8_divides_2 {d : Nat} {Q : List Value → zM → Prop} (a0 : Nat) (a1 : Int32) (a2 : Int32) (a3 : Int32) (M : zM) (h :
(zsh M a0).1 = 16 ∧ (((zI M a0 1) ≤ a3 → (zb ((1 : Int32)) ∧ (Q [.int ((1 : Int32))] M))) ∧ (¬ ((zI M a0 1) ≤ a3) → (ycI d nX8_exponent [.int a1, .int a3] M fun c2 M1 => (ycI d nX8_exponent [.int a2, .int a3] M1 fun c4 M3 => ((c2 ≤ c4 → (let v3_5 : Int32 := a3 + 1
wX8_divides d Q 2 [some (.ref a0), some (.int a1), some (.int a2), some (.int v3_5)] [] M3)) ∧ (¬ (c2 ≤ c4) → (zb ((0 : Int32)) ∧ (Q [.int ((0 : Int32))] M3))))))))
) : wX8_divides d Q 2 [some (.ref a0), some (.int a1), some (.int a2), some (.int a3)] [] M := zseg (zCl_good gTb d) (fun j => j == 2) 22 h
abbrev wX8_common (d : Nat) (Q : List Value → zM → Prop) : Nat → zLv → List Value → zM → Prop := zW (zCl gTb d) 1 kX8_common Q
theorem en_X8_common {d : Nat} {Q : List Value → zM → Prop} (a0 : Nat) (a1 : Int32) (a2 : Int32) (M : zM) (h : wX8_common d Q 0 [some (.ref a0), some (.int a1), some (.int a2), none, none, none, none] [] M) : zCl gTb (d + 1) nX8_common [.ref a0, .int a1, .int a2] M Q := ⟨Nat.le_of_ble_eq_true rfl, h⟩
set_option maxRecDepth 100000 in
set_option maxHeartbeats 4000000 in
/-- from place 0 -/
theorem sg_X8_common_0 {d : Nat} {Q : List Value → zM → Prop} (a0 : Nat) (a1 : Int32) (a2 : Int32) (M : zM) (h :
wX8_common d Q 4 [some (.ref a0), some (.int a1), some (.int a2), some (.int ((0 : Int32))), some (.int ((0 : Int32))), none, none] [] M
) : wX8_common d Q 0 [some (.ref a0), some (.int a1), some (.int a2), none, none, none, none] [] M := zseg (zCl_good gTb d) (fun j => j == 4) 9 h
set_option maxRecDepth 100000 in
set_option maxHeartbeats 4000000 in
/-- from place 4 -/
theorem sg_X8_common_4 {d : Nat} {Q : List Value → zM → Prop} (a0 : Nat) (a1 : Int32) (a2 : Int32) (a3 : Int32) (a4 : Int32) (o5 : Option Value) (o6 : Option Value) (M : zM) (h :
(zsh M a0).1 = 16 ∧ (((zI M a0 1) ≤ a4 → (Q [.int a3] M)) ∧ (¬ ((zI M a0 1) ≤ a4) → (ycI d nX8_exponent [.int a1, .int a4] M fun c2 M1 => (ycI d nX8_exponent [.int a2, .int a4] M1 fun c4 M3 => ((c2 ≤ c4 → (let v3_5 : Int32 := a3 ||| (c4 <<< ((((5 : Int32)) * a4) &&& 31))
let v4_6 : Int32 := a4 + 1
wX8_common d Q 4 [some (.ref a0), some (.int a1), some (.int a2), some (.int v3_5), some (.int v4_6), some (.int c2), some (.int c4)] [] M3)) ∧ (¬ (c2 ≤ c4) → (let v3_7 : Int32 := a3 ||| (c2 <<< ((((5 : Int32)) * a4) &&& 31))
let v4_8 : Int32 := a4 + 1
wX8_common d Q 4 [some (.ref a0), some (.int a1), some (.int a2), some (.int v3_7), some (.int v4_8), some (.int c2), some (.int c4)] [] M3)))))))
) : wX8_common d Q 4 [some (.ref a0), some (.int a1), some (.int a2), some (.int a3), some (.int a4), o5, o6] [] M := zseg (zCl_good gTb d) (fun j => j == 4) 42 h
abbrev wX8_product (d : Nat) (Q : List Value → zM → Prop) : Nat → zLv → List Value → zM → Prop := zW (zCl gTb d) 1 kX8_product Q
theorem en_X8_product {d : Nat} {Q : List Value → zM → Prop} (a0 : Nat) (a1 : Int32) (a2 : Int32) (M : zM) (h : wX8_product d Q 0 [some (.ref a0), some (.int a1), some (.int a2), none] [] M) : zCl gTb (d + 1) nX8_product [.ref a0, .int a1, .int a2] M Q := ⟨Nat.le_of_ble_eq_true rfl, h⟩
set_option maxRecDepth 100000 in
set_option maxHeartbeats 4000000 in
/-- from place 0 -/
theorem sg_X8_product_0 {d : Nat} {Q : List Value → zM → Prop} (a0 : Nat) (a1 : Int32) (a2 : Int32) (M : zM) (h :
wX8_product d Q 2 [some (.ref a0), some (.int a1), some (.int a2), some (.int ((0 : Int32)))] [] M
) : wX8_product d Q 0 [some (.ref a0), some (.int a1), some (.int a2), none] [] M := zseg (zCl_good gTb d) (fun j => j == 2) 7 h
set_option maxRecDepth 100000 in
set_option maxHeartbeats 4000000 in
/-- from place 2 -/
theorem sg_X8_product_2 {d : Nat} {Q : List Value → zM → Prop} (a0 : Nat) (a1 : Int32) (a2 : Int32) (a3 : Int32) (M : zM) (h :
(zsh M a0).1 = 16 ∧ (((zI M a0 1) ≤ a3 → ((zsh M a0).1 = 16 ∧ (((zI M a0 11) = 0 → (Q [.int (a1 + a2)] M)) ∧ (¬ ((zI M a0 11) = 0) → (Q [.int ((0 : Int32))] M))))) ∧ (¬ ((zI M a0 1) ≤ a3) → ((zsh M a0).1 = 16 ∧ ((¬ (zI M a0 11) = 0 → ((zsh M a0).1 = 16 ∧ (zb ((1 : Int32)) ∧ (let M1 : zM := zuI M a0 11 ((1 : Int32))
let v3_2 : Int32 := a3 + 1
wX8_product d Q 2 [some (.ref a0), some (.int a1), some (.int a2), some (.int v3_2)] [] M1)))) ∧ (¬ (¬ (zI M a0 11) = 0) → (ycI d nX8_exponent [.int a1, .int a3] M fun c4 M3 => (ycI d nX8_exponent [.int a2, .int a3] M3 fun c6 M5 => (((c4 + c6) ≤ ((30 : Int32)) → ((zsh M5 a0).1 = 16 ∧ (zb ((0 : Int32)) ∧ (let M7 : zM := zuI M5 a0 11 ((0 : Int32))
let v3_8 : Int32 := a3 + 1
wX8_product d Q 2 [some (.ref a0), some (.int a1), some (.int a2), some (.int v3_8)] [] M7)))) ∧ (¬ ((c4 + c6) ≤ ((30 : Int32))) → ((zsh M5 a0).1 = 16 ∧ (zb ((1 : Int32)) ∧ (let M9 : zM := zuI M5 a0 11 ((1 : Int32))
let v3_10 : Int32 := a3 + 1
wX8_product d Q 2 [some (.ref a0), some (.int a1), some (.int a2), some (.int v3_10)] [] M9))))))))))))
) : wX8_product d Q 2 [some (.ref a0), some (.int a1), some (.int a2), some (.int a3)] [] M := zseg (zCl_good gTb d) (fun j => j == 2) 46 h
abbrev wX8_lowest (d : Nat) (Q : List Value → zM → Prop) : Nat → zLv → List Value → zM → Prop := zW (zCl gTb d) 0 kX8_lowest Q
theorem en_X8_lowest {d : Nat} {Q : List Value → zM → Prop} (a0 : Nat) (a1 : Int64) (a3 : Int64) (M : zM) (h : wX8_lowest d Q 0 [some (.ref a0), some (.long a1), none, some (.long a3), none, none, none, none, none, none, none, none, none] [] M) : zCl gTb (d + 1) nX8_lowest [.ref a0, .long a1, .long a3] M Q := ⟨Nat.le_of_ble_eq_true rfl, h⟩
set_option maxRecDepth 100000 in
set_option maxHeartbeats 4000000 in
/-- from place 0 -/
theorem sg_X8_lowest_0 {d : Nat} {Q : List Value → zM → Prop} (a0 : Nat) (a1 : Int64) (a3 : Int64) (M : zM) (h :
(0 ≤ (lg_cmp a1 ((0 : Int64))) → (wX8_lowest d Q 11 [some (.ref a0), some (.long a1), none, some (.long a3), none, some (.long a1), none, some (.long a3), none, none, none, none, none] [] M)) ∧ (¬ (0 ≤ (lg_cmp a1 ((0 : Int64)))) → (let w5_1 : Int64 := -a1
wX8_lowest d Q 11 [some (.ref a0), some (.long a1), none, some (.long a3), none, some (.long w5_1), none, some (.long a3), none, none, none, none, none] [] M))
) : wX8_lowest d Q 0 [some (.ref a0), some (.long a1), none, some (.long a3), none, none, none, none, none, none, none, none, none] [] M := zseg (zCl_good gTb d) (fun j => j == 11 || j == 24 || j == 52 || j == 61) 19 h
set_option maxRecDepth 100000 in
set_option maxHeartbeats 4000000 in
/-- from place 11 -/
theorem sg_X8_lowest_11 {d : Nat} {Q : List Value → zM → Prop} (a0 : Nat) (a1 : Int64) (a3 : Int64) (a5 : Int64) (a7 : Int64) (o9 : Option Value) (o10 : Option Value) (o11 : Option Value) (o12 : Option Value) (M : zM) (h :
((lg_cmp a7 ((0 : Int64))) = 0 → (wX8_lowest d Q 24 [some (.ref a0), some (.long a1), none, some (.long a3), none, some (.long a5), none, some (.long a7), none, o9, o10, o11, o12] [] M)) ∧ (¬ ((lg_cmp a7 ((0 : Int64))) = 0) → (¬ a7 = 0 ∧ (let w9_1 : Int64 := a5 - a5 / a7 * a7
wX8_lowest d Q 11 [some (.ref a0), some (.long a1), none, some (.long a3), none, some (.long a7), none, some (.long w9_1), none, some (.long w9_1), none, o11, o12] [] M)))
) : wX8_lowest d Q 11 [some (.ref a0), some (.long a1), none, some (.long a3), none, some (.long a5), none, some (.long a7), none, o9, o10, o11, o12] [] M := zseg (zCl_good gTb d) (fun j => j == 11 || j == 24 || j == 52 || j == 61) 18 h
set_option maxRecDepth 100000 in
set_option maxHeartbeats 4000000 in
/-- from place 24 -/
theorem sg_X8_lowest_24 {d : Nat} {Q : List Value → zM → Prop} (a0 : Nat) (a1 : Int64) (a3 : Int64) (a5 : Int64) (o7 : Option Value) (o8 : Option Value) (o9 : Option Value) (o10 : Option Value) (o11 : Option Value) (o12 : Option Value) (M : zM) (h :
¬ a5 = 0 ∧ (let w9_1 : Int64 := a1 / a5
¬ a5 = 0 ∧ (let w11_2 : Int64 := a3 / a5
(zsh M a0).1 = 16 ∧ ((¬ (zI M a0 11) = 0 → ((zsh M a0).1 = 16 ∧ (zb ((1 : Int32)) ∧ (let M3 : zM := zuI M a0 11 ((1 : Int32))
wX8_lowest d Q 52 [some (.ref a0), some (.long a1), none, some (.long a3), none, some (.long a5), none, o7, zwipe o8, some (.long w9_1), none, some (.long w11_2), none] [] M3)))) ∧ (¬ (¬ (zI M a0 11) = 0) → ((0 < (lg_cmp w9_1 ((1000000000 : Int64))) → ((zsh M a0).1 = 16 ∧ (zb ((1 : Int32)) ∧ (let M4 : zM := zuI M a0 11 ((1 : Int32))
wX8_lowest d Q 52 [some (.ref a0), some (.long a1), none, some (.long a3), none, some (.long a5), none, o7, zwipe o8, some (.long w9_1), none, some (.long w11_2), none] [] M4)))) ∧ (¬ (0 < (lg_cmp w9_1 ((1000000000 : Int64)))) → (((lg_cmp w9_1 (((-1000000000) : Int64))) < 0 → ((zsh M a0).1 = 16 ∧ (zb ((1 : Int32)) ∧ (let M5 : zM := zuI M a0 11 ((1 : Int32))
wX8_lowest d Q 52 [some (.ref a0), some (.long a1), none, some (.long a3), none, some (.long a5), none, o7, zwipe o8, some (.long w9_1), none, some (.long w11_2), none] [] M5)))) ∧ (¬ ((lg_cmp w9_1 (((-1000000000) : Int64))) < 0) → (((lg_cmp w11_2 ((1000000000 : Int64))) ≤ 0 → ((zsh M a0).1 = 16 ∧ (zb ((0 : Int32)) ∧ (let M6 : zM := zuI M a0 11 ((0 : Int32))
wX8_lowest d Q 52 [some (.ref a0), some (.long a1), none, some (.long a3), none, some (.long a5), none, o7, zwipe o8, some (.long w9_1), none, some (.long w11_2), none] [] M6)))) ∧ (¬ ((lg_cmp w11_2 ((1000000000 : Int64))) ≤ 0) → ((zsh M a0).1 = 16 ∧ (zb ((1 : Int32)) ∧ (let M7 : zM := zuI M a0 11 ((1 : Int32))
wX8_lowest d Q 52 [some (.ref a0), some (.long a1), none, some (.long a3), none, some (.long a5), none, o7, zwipe o8, some (.long w9_1), none, some (.long w11_2), none] [] M7)))))))))))))
) : wX8_lowest d Q 24 [some (.ref a0), some (.long a1), none, some (.long a3), none, some (.long a5), none, o7, o8, o9, o10, o11, o12] [] M := zseg (zCl_good gTb d) (fun j => j == 11 || j == 24 || j == 52 || j == 61) 43 h
set_option maxRecDepth 100000 in
set_option maxHeartbeats 4000000 in
/-- from place 52 -/
theorem sg_X8_lowest_52 {d : Nat} {Q : List Value → zM → Prop} (a0 : Nat) (o1 : Option Value) (o2 : Option Value) (o3 : Option Value) (o4 : Option Value) (o5 : Option Value) (o6 : Option Value) (o7 : Option Value) (o8 : Option Value) (a9 : Int64) (a11 : Int64) (M : zM) (h :
(zsh M a0).1 = 16 ∧ (((zI M a0 11) = 0 → ((zsh M a0).1 = 16 ∧ (let M1 : zM := zuI M a0 16 (a9.toInt32)
wX8_lowest d Q 61 [some (.ref a0), o1, o2, o3, o4, o5, o6, o7, o8, some (.long a9), none, some (.long a11), none] [] M1))) ∧ (¬ ((zI M a0 11) = 0) → ((zsh M a0).1 = 16 ∧ (let M2 : zM := zuI M a0 16 ((0 : Int32))
wX8_lowest d Q 61 [some (.ref a0), o1, o2, o3, o4, o5, o6, o7, o8, some (.long a9), none, some (.long a11), none] [] M2))))
) : wX8_lowest d Q 52 [some (.ref a0), o1, o2, o3, o4, o5, o6, o7, o8, some (.long a9), none, some (.long a11), none] [] M := zseg (zCl_good gTb d) (fun j => j == 11 || j == 24 || j == 52 || j == 61) 15 h
set_option maxRecDepth 100000 in
set_option maxHeartbeats 4000000 in
/-- from place 61 -/
theorem sg_X8_lowest_61 {d : Nat} {Q : List Value → zM → Prop} (a0 : Nat) (o1 : Option Value) (o2 : Option Value) (o3 : Option Value) (o4 : Option Value) (o5 : Option Value) (o6 : Option Value) (o7 : Option Value) (o8 : Option Value) (o9 : Option Value) (o10 : Option Value) (a11 : Int64) (M : zM) (h :
(zsh M a0).1 = 16 ∧ (((zI M a0 11) = 0 → ((zsh M a0).1 = 16 ∧ (let M1 : zM := zuI M a0 17 (a11.toInt32)
Q [] M1))) ∧ (¬ ((zI M a0 11) = 0) → ((zsh M a0).1 = 16 ∧ (let M2 : zM := zuI M a0 17 ((1 : Int32))
Q [] M2))))
) : wX8_lowest d Q 61 [some (.ref a0), o1, o2, o3, o4, o5, o6, o7, o8, o9, o10, some (.long a11), none] [] M := zseg (zCl_good gTb d) (fun j => j == 11 || j == 24 || j == 52 || j == 61) 17 h
abbrev wX8_multiplied (d : Nat) (Q : List Value → zM → Prop) : Nat → zLv → List Value → zM → Prop := zW (zCl gTb d) 0 kX8_multiplied Q
theorem en_X8_multiplied {d : Nat} {Q : List Value → zM → Prop} (a0 : Nat) (a1 : Int64) (a3 : Int64) (a5 : Int64) (a7 : Int64) (M : zM) (h : wX8_multiplied d Q 0 [some (.ref a0), some (.long a1), none, some (.long a3), none, some (.long a5), none, some (.long a7), none] [] M) : zCl gTb (d + 1) nX8_multiplied [.ref a0, .long a1, .long a3, .long a5, .long a7] M Q := ⟨Nat.le_of_ble_eq_true rfl, h⟩
set_option maxRecDepth 100000 in
set_option maxHeartbeats 4000000 in
/-- from place 0 -/
theorem sg_X8_multiplied_0 {d : Nat} {Q : List Value → zM → Prop} (a0 : Nat) (a1 : Int64) (a3 : Int64) (a5 : Int64) (a7 : Int64) (M : zM) (h :
(zsh M a0).1 = 16 ∧ (ycV d nX8_lowest [.ref a0, .long (a1 * a5), .long (a3 * a7)] M fun M1 => (Q [] M1))
) : wX8_multiplied d Q 0 [some (.ref a0), some (.long a1), none, some (.long a3), none, some (.long a5), none, some (.long a7), none] [] M := zseg (zCl_good gTb d) (fun _ => false) 14 h
abbrev wX8_copy (d : Nat) (Q : List Value → zM → Prop) : Nat → zLv → List Value → zM → Prop := zW (zCl gTb d) 0 kX8_copy Q
theorem en_X8_copy {d : Nat} {Q : List Value → zM → Prop} (a0 : Nat) (a1 : Int32) (a2 : Int32) (M : zM) (h : wX8_copy d Q 0 [some (.ref a0), some (.int a1), some (.int a2), none] [] M) : zCl gTb (d + 1) nX8_copy [.ref a0, .int a1, .int a2] M Q := ⟨Nat.le_of_ble_eq_true rfl, h⟩
set_option maxRecDepth 100000 in
set_option maxHeartbeats 4000000 in
/-- from place 0 -/
theorem sg_X8_copy_0 {d : Nat} {Q : List Value → zM → Prop} (a0 : Nat) (a1 : Int32) (a2 : Int32) (M : zM) (h :
(zsh M a0).1 = 16 ∧ ((zsh M a0).1 = 16 ∧ ((zsh M (zR M a0 6)).1 = 2 ∧ (zin a1 (zsh M (zR M a0 6)).2 ∧ ((zsh M (zR M a0 6)).1 = 2 ∧ (zin a2 (zsh M (zR M a0 6)).2 ∧ (let M1 : zM := zuI M (zR M a0 6) a2.toNatClampNeg (zI M (zR M a0 6) a1.toNatClampNeg)
wX8_copy d Q 10 [some (.ref a0), some (.int a1), some (.int a2), some (.int ((0 : Int32)))] [] M1))))))
) : wX8_copy d Q 0 [some (.ref a0), some (.int a1), some (.int a2), none] [] M := zseg (zCl_good gTb d) (fun j => j == 10) 15 h
set_option maxRecDepth 100000 in
set_option maxHeartbeats 4000000 in
/-- from place 10 -/
theorem sg_X8_copy_10 {d : Nat} {Q : List Value → zM → Prop} (a0 : Nat) (a1 : Int32) (a2 : Int32) (a3 : Int32) (M : zM) (h :
(zsh M a0).1 = 16 ∧ ((zsh M (zR M a0 6)).1 = 2 ∧ (zin a1 (zsh M (zR M a0 6)).2 ∧ (((zI M (zR M a0 6) a1.toNatClampNeg) ≤ a3 → (Q [] M)) ∧ (¬ ((zI M (zR M a0 6) a1.toNatClampNeg) ≤ a3) → ((zsh M a0).1 = 16 ∧ ((zsh M a0).1 = 16 ∧ ((zsh M (zR M a0 3)).1 = 2 ∧ (zin ((((100 : Int32)) * a1) + a3) (zsh M (zR M a0 3)).2 ∧ ((zsh M (zR M a0 3)).1 = 2 ∧ (zin ((((100 : Int32)) * a2) + a3) (zsh M (zR M a0 3)).2 ∧ (let M1 : zM := zuI M (zR M a0 3) ((((100 : Int32)) * a2) + a3).toNatClampNeg (zI M (zR M a0 3) ((((100 : Int32)) * a1) + a3).toNatClampNeg)
(zsh M a0).1 = 16 ∧ ((zsh M a0).1 = 16 ∧ ((zsh M (zR M a0 4)).1 = 2 ∧ (zin ((((100 : Int32)) * a1) + a3) (zsh M (zR M a0 4)).2 ∧ ((zsh M (zR M a0 4)).1 = 2 ∧ (zin ((((100 : Int32)) * a2) + a3) (zsh M (zR M a0 4)).2 ∧ (let M2 : zM := zuI M1 (zR M a0 4) ((((100 : Int32)) * a2) + a3).toNatClampNeg (zI M1 (zR M a0 4) ((((100 : Int32)) * a1) + a3).toNatClampNeg)
(zsh M a0).1 = 16 ∧ ((zsh M a0).1 = 16 ∧ ((zsh M (zR M a0 5)).1 = 2 ∧ (zin ((((100 : Int32)) * a1) + a3) (zsh M (zR M a0 5)).2 ∧ ((zsh M (zR M a0 5)).1 = 2 ∧ (zin ((((100 : Int32)) * a2) + a3) (zsh M (zR M a0 5)).2 ∧ (let M3 : zM := zuI M2 (zR M a0 5) ((((100 : Int32)) * a2) + a3).toNatClampNeg (zI M2 (zR M a0 5) ((((100 : Int32)) * a1) + a3).toNatClampNeg)
let v3_4 : Int32 := a3 + 1
wX8_copy d Q 10 [some (.ref a0), some (.int a1), some (.int a2), some (.int v3_4)] [] M3)))))))))))))))))))))))
) : wX8_copy d Q 10 [some (.ref a0), some (.int a1), some (.int a2), some (.int a3)] [] M := zseg (zCl_good gTb d) (fun j => j == 10) 62 h
abbrev wX8_lead (d : Nat) (Q : List Value → zM → Prop) : Nat → zLv → List Value → zM → Prop := zW (zCl gTb d) 1 kX8_lead Q
theorem en_X8_lead {d : Nat} {Q : List Value → zM → Prop} (a0 : Nat) (a1 : Int32) (M : zM) (h : wX8_lead d Q 0 [some (.ref a0), some (.int a1)] [] M) : zCl gTb (d + 1) nX8_lead [.ref a0, .int a1] M Q := ⟨Nat.le_of_ble_eq_true rfl, h⟩
set_option maxRecDepth 100000 in
set_option maxHeartbeats 4000000 in
/-- from place 0 -/
theorem sg_X8_lead_0 {d : Nat} {Q : List Value → zM → Prop} (a0 : Nat) (a1 : Int32) (M : zM) (h :
(zsh M a0).1 = 16 ∧ ((zsh M (zR M a0 5)).1 = 2 ∧ (zin (((100 : Int32)) * a1) (zsh M (zR M a0 5)).2 ∧ (Q [.int (zI M (zR M a0 5) (((100 : Int32)) * a1).toNatClampNeg)] M)))
) : wX8_lead d Q 0 [some (.ref a0), some (.int a1)] [] M := zseg (zCl_good gTb d) (fun _ => false) 12 h
abbrev wX8_comes (d : Nat) (Q : List Value → zM → Prop) : Nat → zLv → List Value → zM → Prop := zW (zCl gTb d) 0 kX8_comes Q
theorem en_X8_comes {d : Nat} {Q : List Value → zM → Prop} (a0 : Nat) (a1 : Int32) (a2 : Int32) (a3 : Int32) (a4 : Int32) (M : zM) (h : wX8_comes d Q 0 [some (.ref a0), some (.int a1), some (.int a2), some (.int a3), some (.int a4), none, none, none] [] M) : zCl gTb (d + 1) nX8_comes [.ref a0, .int a1, .int a2, .int a3, .int a4] M Q := ⟨Nat.le_of_ble_eq_true rfl, h⟩
set_option maxRecDepth 100000 in
set_option maxHeartbeats 4000000 in
/-- from place 0 -/
theorem sg_X8_comes_0 {d : Nat} {Q : List Value → zM → Prop} (a0 : Nat) (a1 : Int32) (a2 : Int32) (a3 : Int32) (a4 : Int32) (M : zM) (h :
(zsh M a0).1 = 16 ∧ (((zI M a0 11) = 0 → (let v5_1 : Int32 := ((100 : Int32)) * a1
wX8_comes d Q 10 [some (.ref a0), some (.int a1), some (.int a2), some (.int a3), some (.int a4), some (.int v5_1), some (.int ((0 : Int32))), none] [] M)) ∧ (¬ ((zI M a0 11) = 0) → (Q [] M)))
) : wX8_comes d Q 0 [some (.ref a0), some (.int a1), some (.int a2), some (.int a3), some (.int a4), none, none, none] [] M := zseg (zCl_good gTb d) (fun j => j == 10 || j == 28 || j == 79 || j == 98 || j == 108 || j == 159 || j == 169 || j == 174 || j == 221) 15 h
set_option maxRecDepth 100000 in
set_option maxHeartbeats 4000000 in
/-- from place 10 -/
theorem sg_X8_comes_10 {d : Nat} {Q : List Value → zM → Prop} (a0 : Nat) (a1 : Int32) (a2 : Int32) (a3 : Int32) (a4 : Int32) (a5 : Int32) (a6 : Int32) (o7 : Option Value) (M : zM) (h :
(zsh M a0).1 = 16 ∧ ((zsh M (zR M a0 6)).1 = 2 ∧ (zin a1 (zsh M (zR M a0 6)).2 ∧ (((zI M (zR M a0 6) a1.toNatClampNeg) ≤ a6 → (wX8_comes d Q 28 [some (.ref a0), some (.int a1), some (.int a2), some (.int a3), some (.int a4), some (.int a5), some (.int a6), o7] [] M)) ∧ (¬ ((zI M (zR M a0 6) a1.toNatClampNeg) ≤ a6) → ((zsh M a0).1 = 16 ∧ ((zsh M (zR M a0 5)).1 = 2 ∧ (zin (a5 + a6) (zsh M (zR M a0 5)).2 ∧ ((zsh M a0).1 = 16 ∧ (ycI d nX8_compare [.ref a0, .int (zI M (zR M a0 5) (a5 + a6).toNatClampNeg), .int a4] M fun c2 M1 => ((c2 ≤ 0 → (wX8_comes d Q 28 [some (.ref a0), some (.int a1), some (.int a2), some (.int a3), some (.int a4), some (.int a5), some (.int a6), o7] [] M1)) ∧ (¬ (c2 ≤ 0) → (let v6_3 : Int32 := a6 + 1
wX8_comes d Q 10 [some (.ref a0), some (.int a1), some (.int a2), some (.int a3), some (.int a4), some (.int a5), some (.int v6_3), o7] [] M1))))))))))))
) : wX8_comes d Q 10 [some (.ref a0), some (.int a1), some (.int a2), some (.int a3), some (.int a4), some (.int a5), some (.int a6), o7] [] M := zseg (zCl_good gTb d) (fun j => j == 10 || j == 28 || j == 79 || j == 98 || j == 108 || j == 159 || j == 169 || j == 174 || j == 221) 23 h
set_option maxRecDepth 100000 in
set_option maxHeartbeats 4000000 in
/-- from place 28 -/
theorem sg_X8_comes_28 {d : Nat} {Q : List Value → zM → Prop} (a0 : Nat) (a1 : Int32) (a2 : Int32) (a3 : Int32) (a4 : Int32) (a5 : Int32) (a6 : Int32) (o7 : Option Value) (M : zM) (h :
(zsh M a0).1 = 16 ∧ ((zsh M (zR M a0 6)).1 = 2 ∧ (zin a1 (zsh M (zR M a0 6)).2 ∧ (((zI M (zR M a0 6) a1.toNatClampNeg) ≤ a6 → (wX8_comes d Q 159 [some (.ref a0), some (.int a1), some (.int a2), some (.int a3), some (.int a4), some (.int a5), some (.int a6), o7] [] M)) ∧ (¬ ((zI M (zR M a0 6) a1.toNatClampNeg) ≤ a6) → ((zsh M a0).1 = 16 ∧ ((zsh M (zR M a0 5)).1 = 2 ∧ (zin (a5 + a6) (zsh M (zR M a0 5)).2 ∧ ((¬ (zI M (zR M a0 5) (a5 + a6).toNatClampNeg) = a4 → (wX8_comes d Q 159 [some (.ref a0), some (.int a1), some (.int a2), some (.int a3), some (.int a4), some (.int a5), some (.int a6), o7] [] M)) ∧ (¬ (¬ (zI M (zR M a0 5) (a5 + a6).toNatClampNeg) = a4) → ((zsh M a0).1 = 16 ∧ ((zsh M (zR M a0 3)).1 = 2 ∧ (zin (a5 + a6) (zsh M (zR M a0 3)).2 ∧ ((zsh M a0).1 = 16 ∧ ((zsh M (zR M a0 4)).1 = 2 ∧ (zin (a5 + a6) (zsh M (zR M a0 4)).2 ∧ ((zsh M a0).1 = 16 ∧ ((zsh M (zR M a0 4)).1 = 2 ∧ (zin (a5 + a6) (zsh M (zR M a0 4)).2 ∧ ((zsh M a0).1 = 16 ∧ (ycV d nX8_lowest [.ref a0, .long ((((zI M (zR M a0 3) (a5 + a6).toNatClampNeg).toInt64) * (a3.toInt64)) + ((a2.toInt64) * ((zI M (zR M a0 4) (a5 + a6).toNatClampNeg).toInt64))), .long (((zI M (zR M a0 4) (a5 + a6).toNatClampNeg).toInt64) * (a3.toInt64))] M fun M1 => ((zsh M1 a0).1 = 16 ∧ (((zI M1 a0 11) = 0 → (wX8_comes d Q 79 [some (.ref a0), some (.int a1), some (.int a2), some (.int a3), some (.int a4), some (.int a5), some (.int a6), o7] [] M1)) ∧ (¬ ((zI M1 a0 11) = 0) → (Q [] M1))))))))))))))))))))))))
) : wX8_comes d Q 28 [some (.ref a0), some (.int a1), some (.int a2), some (.int a3), some (.int a4), some (.int a5), some (.int a6), o7] [] M := zseg (zCl_good gTb d) (fun j => j == 10 || j == 28 || j == 79 || j == 98 || j == 108 || j == 159 || j == 169 || j == 174 || j == 221) 56 h
set_option maxRecDepth 100000 in
set_option maxHeartbeats 4000000 in
/-- from place 79 -/
theorem sg_X8_comes_79 {d : Nat} {Q : List Value → zM → Prop} (a0 : Nat) (a1 : Int32) (o2 : Option Value) (o3 : Option Value) (o4 : Option Value) (a5 : Int32) (a6 : Int32) (o7 : Option Value) (M : zM) (h :
(zsh M a0).1 = 16 ∧ ((zsh M a0).1 = 16 ∧ ((zsh M (zR M a0 3)).1 = 2 ∧ (zin (a5 + a6) (zsh M (zR M a0 3)).2 ∧ (let M1 : zM := zuI M (zR M a0 3) (a5 + a6).toNatClampNeg (zI M a0 16)
(zsh M a0).1 = 16 ∧ ((zsh M a0).1 = 16 ∧ ((zsh M (zR M a0 4)).1 = 2 ∧ (zin (a5 + a6) (zsh M (zR M a0 4)).2 ∧ (let M2 : zM := zuI M1 (zR M a0 4) (a5 + a6).toNatClampNeg (zI M1 a0 17)
(zsh M a0).1 = 16 ∧ ((¬ (zI M2 a0 16) = 0 → (Q [] M2)) ∧ (¬ (¬ (zI M2 a0 16) = 0) → (wX8_comes d Q 98 [some (.ref a0), some (.int a1), o2, o3, o4, some (.int a5), some (.int a6), o7] [] M2)))))))))))
) : wX8_comes d Q 79 [some (.ref a0), some (.int a1), o2, o3, o4, some (.int a5), some (.int a6), o7] [] M := zseg (zCl_good gTb d) (fun j => j == 10 || j == 28 || j == 79 || j == 98 || j == 108 || j == 159 || j == 169 || j == 174 || j == 221) 25 h
set_option maxRecDepth 100000 in
set_option maxHeartbeats 4000000 in
/-- from place 98 -/
theorem sg_X8_comes_98 {d : Nat} {Q : List Value → zM → Prop} (a0 : Nat) (a1 : Int32) (o2 : Option Value) (o3 : Option Value) (o4 : Option Value) (a5 : Int32) (a6 : Int32) (o7 : Option Value) (M : zM) (h :
(zsh M a0).1 = 16 ∧ ((zsh M (zR M a0 6)).1 = 2 ∧ (zin a1 (zsh M (zR M a0 6)).2 ∧ ((zsh M (zR M a0 6)).1 = 2 ∧ (zin a1 (zsh M (zR M a0 6)).2 ∧ (let M1 : zM := zuI M (zR M a0 6) a1.toNatClampNeg ((zI M (zR M a0 6) a1.toNatClampNeg) - ((1 : Int32)))
wX8_comes d Q 108 [some (.ref a0), some (.int a1), o2, o3, o4, some (.int a5), some (.int a6), some (.int a6)] [] M1)))))
) : wX8_comes d Q 98 [some (.ref a0), some (.int a1), o2, o3, o4, some (.int a5), some (.int a6), o7] [] M := zseg (zCl_good gTb d) (fun j => j == 10 || j == 28 || j == 79 || j == 98 || j == 108 || j == 159 || j == 169 || j == 174 || j == 221) 15 h
set_option maxRecDepth 100000 in
set_option maxHeartbeats 4000000 in
/-- from place 108 -/
theorem sg_X8_comes_108 {d : Nat} {Q : List Value → zM → Prop} (a0 : Nat) (a1 : Int32) (o2 : Option Value) (o3 : Option Value) (o4 : Option Value) (a5 : Int32) (o6 : Option Value) (a7 : Int32) (M : zM) (h :
(zsh M a0).1 = 16 ∧ ((zsh M (zR M a0 6)).1 = 2 ∧ (zin a1 (zsh M (zR M a0 6)).2 ∧ (((zI M (zR M a0 6) a1.toNatClampNeg) ≤ a7 → (Q [] M)) ∧ (¬ ((zI M (zR M a0 6) a1.toNatClampNeg) ≤ a7) → ((zsh M a0).1 = 16 ∧ ((zsh M a0).1 = 16 ∧ ((zsh M (zR M a0 3)).1 = 2 ∧ (zin ((a5 + a7) + ((1 : Int32))) (zsh M (zR M a0 3)).2 ∧ ((zsh M (zR M a0 3)).1 = 2 ∧ (zin (a5 + a7) (zsh M (zR M a0 3)).2 ∧ (let M1 : zM := zuI M (zR M a0 3) (a5 + a7).toNatClampNeg (zI M (zR M a0 3) ((a5 + a7) + ((1 : Int32))).toNatClampNeg)
(zsh M a0).1 = 16 ∧ ((zsh M a0).1 = 16 ∧ ((zsh M (zR M a0 4)).1 = 2 ∧ (zin ((a5 + a7) + ((1 : Int32))) (zsh M (zR M a0 4)).2 ∧ ((zsh M (zR M a0 4)).1 = 2 ∧ (zin (a5 + a7) (zsh M (zR M a0 4)).2 ∧ (let M2 : zM := zuI M1 (zR M a0 4) (a5 + a7).toNatClampNeg (zI M1 (zR M a0 4) ((a5 + a7) + ((1 : Int32))).toNatClampNeg)
(zsh M a0).1 = 16 ∧ ((zsh M a0).1 = 16 ∧ ((zsh M (zR M a0 5)).1 = 2 ∧ (zin ((a5 + a7) + ((1 : Int32))) (zsh M (zR M a0 5)).2 ∧ ((zsh M (zR M a0 5)).1 = 2 ∧ (zin (a5 + a7) (zsh M (zR M a0 5)).2 ∧ (let M3 : zM := zuI M2 (zR M a0 5) (a5 + a7).toNatClampNeg (zI M2 (zR M a0 5) ((a5 + a7) + ((1 : Int32))).toNatClampNeg)
let v7_4 : Int32 := a7 + 1
wX8_comes d Q 108 [some (.ref a0), some (.int a1), o2, o3, o4, some (.int a5), zwipe o6, some (.int v7_4)] [] M3)))))))))))))))))))))))
) : wX8_comes d Q 108 [some (.ref a0), some (.int a1), o2, o3, o4, some (.int a5), o6, some (.int a7)] [] M := zseg (zCl_good gTb d) (fun j => j == 10 || j == 28 || j == 79 || j == 98 || j == 108 || j == 159 || j == 169 || j == 174 || j == 221) 56 h
set_option maxRecDepth 100000 in
set_option maxHeartbeats 4000000 in
/-- from place 159 -/
theorem sg_X8_comes_159 {d : Nat} {Q : List Value → zM → Prop} (a0 : Nat) (a1 : Int32) (a2 : Int32) (a3 : Int32) (a4 : Int32) (a5 : Int32) (a6 : Int32) (o7 : Option Value) (M : zM) (h :
(zsh M a0).1 = 16 ∧ ((zsh M (zR M a0 6)).1 = 2 ∧ (zin a1 (zsh M (zR M a0 6)).2 ∧ ((¬ (zI M (zR M a0 6) a1.toNatClampNeg) = ((100 : Int32)) → (wX8_comes d Q 169 [some (.ref a0), some (.int a1), some (.int a2), some (.int a3), some (.int a4), some (.int a5), some (.int a6), o7] [] M)) ∧ (¬ (¬ (zI M (zR M a0 6) a1.toNatClampNeg) = ((100 : Int32))) → ((zsh M a0).1 = 16 ∧ (zb ((1 : Int32)) ∧ (let M1 : zM := zuI M a0 11 ((1 : Int32))
Q [] M1)))))))
) : wX8_comes d Q 159 [some (.ref a0), some (.int a1), some (.int a2), some (.int a3), some (.int a4), some (.int a5), some (.int a6), o7] [] M := zseg (zCl_good gTb d) (fun j => j == 10 || j == 28 || j == 79 || j == 98 || j == 108 || j == 159 || j == 169 || j == 174 || j == 221) 15 h
set_option maxRecDepth 100000 in
set_option maxHeartbeats 4000000 in
/-- from place 169 -/
theorem sg_X8_comes_169 {d : Nat} {Q : List Value → zM → Prop} (a0 : Nat) (a1 : Int32) (a2 : Int32) (a3 : Int32) (a4 : Int32) (a5 : Int32) (a6 : Int32) (o7 : Option Value) (M : zM) (h :
(zsh M a0).1 = 16 ∧ ((zsh M (zR M a0 6)).1 = 2 ∧ (zin a1 (zsh M (zR M a0 6)).2 ∧ (let v7_1 : Int32 := zI M (zR M a0 6) a1.toNatClampNeg
wX8_comes d Q 174 [some (.ref a0), some (.int a1), some (.int a2), some (.int a3), some (.int a4), some (.int a5), some (.int a6), some (.int v7_1)] [] M)))
) : wX8_comes d Q 169 [some (.ref a0), some (.int a1), some (.int a2), some (.int a3), some (.int a4), some (.int a5), some (.int a6), o7] [] M := zseg (zCl_good gTb d) (fun j => j == 10 || j == 28 || j == 79 || j == 98 || j == 108 || j == 159 || j == 169 || j == 174 || j == 221) 10 h
set_option maxRecDepth 100000 in
set_option maxHeartbeats 4000000 in
/-- from place 174 -/
theorem sg_X8_comes_174 {d : Nat} {Q : List Value → zM → Prop} (a0 : Nat) (a1 : Int32) (a2 : Int32) (a3 : Int32) (a4 : Int32) (a5 : Int32) (a6 : Int32) (a7 : Int32) (M : zM) (h :
(a7 ≤ a6 → (wX8_comes d Q 221 [some (.ref a0), some (.int a1), some (.int a2), some (.int a3), some (.int a4), some (.int a5), some (.int a6), some (.int a7)] [] M)) ∧ (¬ (a7 ≤ a6) → ((zsh M a0).1 = 16 ∧ ((zsh M a0).1 = 16 ∧ ((zsh M (zR M a0 3)).1 = 2 ∧ (zin ((a5 + a7) - ((1 : Int32))) (zsh M (zR M a0 3)).2 ∧ ((zsh M (zR M a0 3)).1 = 2 ∧ (zin (a5 + a7) (zsh M (zR M a0 3)).2 ∧ (let M1 : zM := zuI M (zR M a0 3) (a5 + a7).toNatClampNeg (zI M (zR M a0 3) ((a5 + a7) - ((1 : Int32))).toNatClampNeg)
(zsh M a0).1 = 16 ∧ ((zsh M a0).1 = 16 ∧ ((zsh M (zR M a0 4)).1 = 2 ∧ (zin ((a5 + a7) - ((1 : Int32))) (zsh M (zR M a0 4)).2 ∧ ((zsh M (zR M a0 4)).1 = 2 ∧ (zin (a5 + a7) (zsh M (zR M a0 4)).2 ∧ (let M2 : zM := zuI M1 (zR M a0 4) (a5 + a7).toNatClampNeg (zI M1 (zR M a0 4) ((a5 + a7) - ((1 : Int32))).toNatClampNeg)
(zsh M a0).1 = 16 ∧ ((zsh M a0).1 = 16 ∧ ((zsh M (zR M a0 5)).1 = 2 ∧ (zin ((a5 + a7) - ((1 : Int32))) (zsh M (zR M a0 5)).2 ∧ ((zsh M (zR M a0 5)).1 = 2 ∧ (zin (a5 + a7) (zsh M (zR M a0 5)).2 ∧ (let M3 : zM := zuI M2 (zR M a0 5) (a5 + a7).toNatClampNeg (zI M2 (zR M a0 5) ((a5 + a7) - ((1 : Int32))).toNatClampNeg)
let v7_4 : Int32 := a7 + (-1)
wX8_comes d Q 174 [some (.ref a0), some (.int a1), some (.int a2), some (.int a3), some (.int a4), some (.int a5), some (.int a6), some (.int v7_4)] [] M3))))))))))))))))))))
) : wX8_comes d Q 174 [some (.ref a0), some (.int a1), some (.int a2), some (.int a3), some (.int a4), some (.int a5), some (.int a6), some (.int a7)] [] M := zseg (zCl_good gTb d) (fun j => j == 10 || j == 28 || j == 79 || j == 98 || j == 108 || j == 159 || j == 169 || j == 174 || j == 221) 52 h
set_option maxRecDepth 100000 in
set_option maxHeartbeats 4000000 in
/-- from place 221 -/
theorem sg_X8_comes_221 {d : Nat} {Q : List Value → zM → Prop} (a0 : Nat) (a1 : Int32) (a2 : Int32) (a3 : Int32) (a4 : Int32) (a5 : Int32) (a6 : Int32) (o7 : Option Value) (M : zM) (h :
(zsh M a0).1 = 16 ∧ ((zsh M (zR M a0 3)).1 = 2 ∧ (zin (a5 + a6) (zsh M (zR M a0 3)).2 ∧ (let M1 : zM := zuI M (zR M a0 3) (a5 + a6).toNatClampNeg a2
(zsh M a0).1 = 16 ∧ ((zsh M (zR M a0 4)).1 = 2 ∧ (zin (a5 + a6) (zsh M (zR M a0 4)).2 ∧ (let M2 : zM := zuI M1 (zR M a0 4) (a5 + a6).toNatClampNeg a3
(zsh M a0).1 = 16 ∧ ((zsh M (zR M a0 5)).1 = 2 ∧ (zin (a5 + a6) (zsh M (zR M a0 5)).2 ∧ (let M3 : zM := zuI M2 (zR M a0 5) (a5 + a6).toNatClampNeg a4
(zsh M a0).1 = 16 ∧ ((zsh M (zR M a0 6)).1 = 2 ∧ (zin a1 (zsh M (zR M a0 6)).2 ∧ ((zsh M (zR M a0 6)).1 = 2 ∧ (zin a1 (zsh M (zR M a0 6)).2 ∧ (let M4 : zM := zuI M3 (zR M a0 6) a1.toNatClampNeg ((zI M3 (zR M a0 6) a1.toNatClampNeg) + ((1 : Int32)))
Q [] M4))))))))))))))
) : wX8_comes d Q 221 [some (.ref a0), some (.int a1), some (.int a2), some (.int a3), some (.int a4), some (.int a5), some (.int a6), o7] [] M := zseg (zCl_good gTb d) (fun j => j == 10 || j == 28 || j == 79 || j == 98 || j == 108 || j == 159 || j == 169 || j == 174 || j == 221) 35 h
abbrev wX8_adds (d : Nat) (Q : List Value → zM → Prop) : Nat → zLv → List Value → zM → Prop := zW (zCl gTb d) 0 kX8_adds Q
theorem en_X8_adds {d : Nat} {Q : List Value → zM → Prop} (a0 : Nat) (a1 : Int32) (a2 : Int32) (a3 : Int32) (a4 : Int32) (a5 : Int32) (M : zM) (h : wX8_adds d Q 0 [some (.ref a0), some (.int a1), some (.int a2), some (.int a3), some (.int a4), some (.int a5), none, none, none] [] M) : zCl gTb (d + 1) nX8_adds [.ref a0, .int a1, .int a2, .int a3, .int a4, .int a5] M Q := ⟨Nat.le_of_ble_eq_true rfl, h⟩
set_option maxRecDepth 100000 in
set_option maxHeartbeats 4000000 in
/-- from place 0 -/
theorem sg_X8_adds_0 {d : Nat} {Q : List Value → zM → Prop} (a0 : Nat) (a1 : Int32) (a2 : Int32) (a3 : Int32) (a4 : Int32) (a5 : Int32) (M : zM) (h :
wX8_adds d Q 2 [some (.ref a0), some (.int a1), some (.int a2), some (.int a3), some (.int a4), some (.int a5), some (.int ((0 : Int32))), none, none] [] M
) : wX8_adds d Q 0 [some (.ref a0), some (.int a1), some (.int a2), some (.int a3), some (.int a4), some (.int a5), none, none, none] [] M := zseg (zCl_good gTb d) (fun j => j == 2 || j == 44 || j == 55) 7 h
set_option maxRecDepth 100000 in
set_option maxHeartbeats 4000000 in
/-- from place 2 -/
theorem sg_X8_adds_2 {d : Nat} {Q : List Value → zM → Prop} (a0 : Nat) (a1 : Int32) (a2 : Int32) (a3 : Int32) (a4 : Int32) (a5 : Int32) (a6 : Int32) (o7 : Option Value) (o8 : Option Value) (M : zM) (h :
(zsh M a0).1 = 16 ∧ ((zsh M (zR M a0 6)).1 = 2 ∧ (zin a5 (zsh M (zR M a0 6)).2 ∧ (((zI M (zR M a0 6) a5.toNatClampNeg) ≤ a6 → (Q [] M)) ∧ (¬ ((zI M (zR M a0 6) a5.toNatClampNeg) ≤ a6) → ((zsh M a0).1 = 16 ∧ ((¬ (zI M a0 11) = 0 → (Q [] M)) ∧ (¬ (¬ (zI M a0 11) = 0) → (let v7_1 : Int32 := (((100 : Int32)) * a5) + a6
(zsh M a0).1 = 16 ∧ ((zsh M (zR M a0 5)).1 = 2 ∧ (zin v7_1 (zsh M (zR M a0 5)).2 ∧ ((zsh M a0).1 = 16 ∧ (ycI d nX8_product [.ref a0, .int a4, .int (zI M (zR M a0 5) v7_1.toNatClampNeg)] M fun c3 M2 => ((zsh M2 a0).1 = 16 ∧ ((¬ (zI M2 a0 11) = 0 → (wX8_adds d Q 44 [some (.ref a0), some (.int a1), some (.int a2), some (.int a3), some (.int a4), some (.int a5), some (.int a6), some (.int v7_1), some (.int c3)] [] M2)) ∧ (¬ (¬ (zI M2 a0 11) = 0) → ((zsh M2 a0).1 = 16 ∧ ((zsh M2 (zR M2 a0 3)).1 = 2 ∧ (zin v7_1 (zsh M2 (zR M2 a0 3)).2 ∧ ((zsh M2 a0).1 = 16 ∧ ((zsh M2 (zR M2 a0 4)).1 = 2 ∧ (zin v7_1 (zsh M2 (zR M2 a0 4)).2 ∧ ((zsh M2 a0).1 = 16 ∧ (ycV d nX8_multiplied [.ref a0, .long (a2.toInt64), .long (a3.toInt64), .long ((zI M2 (zR M2 a0 3) v7_1.toNatClampNeg).toInt64), .long ((zI M2 (zR M2 a0 4) v7_1.toNatClampNeg).toInt64)] M2 fun M4 => (wX8_adds d Q 44 [some (.ref a0), some (.int a1), some (.int a2), some (.int a3), some (.int a4), some (.int a5), some (.int a6), some (.int v7_1), some (.int c3)] [] M4))))))))))))))))))))))))
) : wX8_adds d Q 2 [some (.ref a0), some (.int a1), some (.int a2), some (.int a3), some (.int a4), some (.int a5), some (.int a6), o7, o8] [] M := zseg (zCl_good gTb d) (fun j => j == 2 || j == 44 || j == 55) 49 h
set_option maxRecDepth 100000 in
set_option maxHeartbeats 4000000 in
/-- from place 44 -/
theorem sg_X8_adds_44 {d : Nat} {Q : List Value → zM → Prop} (a0 : Nat) (a1 : Int32) (a2 : Int32) (a3 : Int32) (a4 : Int32) (a5 : Int32) (a6 : Int32) (o7 : Option Value) (a8 : Int32) (M : zM) (h :
(zsh M a0).1 = 16 ∧ ((¬ (zI M a0 11) = 0 → (wX8_adds d Q 55 [some (.ref a0), some (.int a1), some (.int a2), some (.int a3), some (.int a4), some (.int a5), some (.int a6), o7, some (.int a8)] [] M)) ∧ (¬ (¬ (zI M a0 11) = 0) → ((zsh M a0).1 = 16 ∧ ((zsh M a0).1 = 16 ∧ ((zsh M a0).1 = 16 ∧ (ycV d nX8_comes [.ref a0, .int a1, .int (zI M a0 16), .int (zI M a0 17), .int a8] M fun M1 => (wX8_adds d Q 55 [some (.ref a0), some (.int a1), some (.int a2), some (.int a3), some (.int a4), some (.int a5), some (.int a6), o7, some (.int a8)] [] M1)))))))
) : wX8_adds d Q 44 [some (.ref a0), some (.int a1), some (.int a2), some (.int a3), some (.int a4), some (.int a5), some (.int a6), o7, some (.int a8)] [] M := zseg (zCl_good gTb d) (fun j => j == 2 || j == 44 || j == 55) 16 h
set_option maxRecDepth 100000 in
set_option maxHeartbeats 4000000 in
/-- from place 55 -/
theorem sg_X8_adds_55 {d : Nat} {Q : List Value → zM → Prop} (a0 : Nat) (a1 : Int32) (a2 : Int32) (a3 : Int32) (a4 : Int32) (a5 : Int32) (a6 : Int32) (o7 : Option Value) (o8 : Option Value) (M : zM) (h :
let v6_1 : Int32 := a6 + 1
wX8_adds d Q 2 [some (.ref a0), some (.int a1), some (.int a2), some (.int a3), some (.int a4), some (.int a5), some (.int v6_1), o7, o8] [] M
) : wX8_adds d Q 55 [some (.ref a0), some (.int a1), some (.int a2), some (.int a3), some (.int a4), some (.int a5), some (.int a6), o7, o8] [] M := zseg (zCl_good gTb d) (fun j => j == 2 || j == 44 || j == 55) 7 h
abbrev wX8_made (d : Nat) (Q : List Value → zM → Prop) : Nat → zLv → List Value → zM → Prop := zW (zCl gTb d) 0 kX8_made Q
theorem en_X8_made {d : Nat} {Q : List Value → zM → Prop} (a0 : Nat) (a1 : Int32) (a2 : Int32) (a3 : Int32) (M : zM) (h : wX8_made d Q 0 [some (.ref a0), some (.int a1), some (.int a2), some (.int a3), none] [] M) : zCl gTb (d + 1) nX8_made [.ref a0, .int a1, .int a2, .int a3] M Q := ⟨Nat.le_of_ble_eq_true rfl, h⟩
set_option maxRecDepth 100000 in
set_option maxHeartbeats 4000000 in
/-- from place 0 -/
theorem sg_X8_made_0 {d : Nat} {Q : List Value → zM → Prop} (a0 : Nat) (a1 : Int32) (a2 : Int32) (a3 : Int32) (M : zM) (h :
(zsh M a0).1 = 16 ∧ ((zsh M (zR M a0 6)).1 = 2 ∧ (zin a3 (zsh M (zR M a0 6)).2 ∧ (let M1 : zM := zuI M (zR M a0 6) a3.toNatClampNeg ((0 : Int32))
wX8_made d Q 7 [some (.ref a0), some (.int a1), some (.int a2), some (.int a3), some (.int ((0 : Int32)))] [] M1)))
) : wX8_made d Q 0 [some (.ref a0), some (.int a1), some (.int a2), some (.int a3), none] [] M := zseg (zCl_good gTb d) (fun j => j == 7) 12 h
set_option maxRecDepth 100000 in
set_option maxHeartbeats 4000000 in
/-- from place 7 -/
theorem sg_X8_made_7 {d : Nat} {Q : List Value → zM → Prop} (a0 : Nat) (a1 : Int32) (a2 : Int32) (a3 : Int32) (a4 : Int32) (M : zM) (h :
(zsh M a0).1 = 16 ∧ ((zsh M (zR M a0 6)).1 = 2 ∧ (zin a1 (zsh M (zR M a0 6)).2 ∧ (((zI M (zR M a0 6) a1.toNatClampNeg) ≤ a4 → (Q [] M)) ∧ (¬ ((zI M (zR M a0 6) a1.toNatClampNeg) ≤ a4) → ((zsh M a0).1 = 16 ∧ ((¬ (zI M a0 11) = 0 → (Q [] M)) ∧ (¬ (¬ (zI M a0 11) = 0) → ((zsh M a0).1 = 16 ∧ ((zsh M (zR M a0 3)).1 = 2 ∧ (zin ((((100 : Int32)) * a1) + a4) (zsh M (zR M a0 3)).2 ∧ ((zsh M a0).1 = 16 ∧ ((zsh M (zR M a0 4)).1 = 2 ∧ (zin ((((100 : Int32)) * a1) + a4) (zsh M (zR M a0 4)).2 ∧ ((zsh M a0).1 = 16 ∧ ((zsh M (zR M a0 5)).1 = 2 ∧ (zin ((((100 : Int32)) * a1) + a4) (zsh M (zR M a0 5)).2 ∧ ((zsh M a0).1 = 16 ∧ (ycV d nX8_adds [.ref a0, .int a3, .int (zI M (zR M a0 3) ((((100 : Int32)) * a1) + a4).toNatClampNeg), .int (zI M (zR M a0 4) ((((100 : Int32)) * a1) + a4).toNatClampNeg), .int (zI M (zR M a0 5) ((((100 : Int32)) * a1) + a4).toNatClampNeg), .int a2] M fun M1 => (let v4_2 : Int32 := a4 + 1
wX8_made d Q 7 [some (.ref a0), some (.int a1), some (.int a2), some (.int a3), some (.int v4_2)] [] M1)))))))))))))))))))
) : wX8_made d Q 7 [some (.ref a0), some (.int a1), some (.int a2), some (.int a3), some (.int a4)] [] M := zseg (zCl_good gTb d) (fun j => j == 7) 46 h
abbrev wX8_isSame (d : Nat) (Q : List Value → zM → Prop) : Nat → zLv → List Value → zM → Prop := zW (zCl gTb d) 2 kX8_isSame Q
theorem en_X8_isSame {d : Nat} {Q : List Value → zM → Prop} (a0 : Nat) (a1 : Int32) (a2 : Int32) (M : zM) (h : wX8_isSame d Q 0 [some (.ref a0), some (.int a1), some (.int a2), none] [] M) : zCl gTb (d + 1) nX8_isSame [.ref a0, .int a1, .int a2] M Q := ⟨Nat.le_of_ble_eq_true rfl, h⟩
set_option maxRecDepth 100000 in
set_option maxHeartbeats 4000000 in
/-- from place 0 -/
theorem sg_X8_isSame_0 {d : Nat} {Q : List Value → zM → Prop} (a0 : Nat) (a1 : Int32) (a2 : Int32) (M : zM) (h :
(zsh M a0).1 = 16 ∧ ((zsh M (zR M a0 6)).1 = 2 ∧ (zin a1 (zsh M (zR M a0 6)).2 ∧ ((zsh M a0).1 = 16 ∧ ((zsh M (zR M a0 6)).1 = 2 ∧ (zin a2 (zsh M (zR M a0 6)).2 ∧ (((zI M (zR M a0 6) a1.toNatClampNeg) = (zI M (zR M a0 6) a2.toNatClampNeg) → (wX8_isSame d Q 13 [some (.ref a0), some (.int a1), some (.int a2), some (.int ((0 : Int32)))] [] M)) ∧ (¬ ((zI M (zR M a0 6) a1.toNatClampNeg) = (zI M (zR M a0 6) a2.toNatClampNeg)) → (zb ((0 : Int32)) ∧ (Q [.int ((0 : Int32))] M)))))))))
) : wX8_isSame d Q 0 [some (.ref a0), some (.int a1), some (.int a2), none] [] M := zseg (zCl_good gTb d) (fun j => j == 13) 18 h
set_option maxRecDepth 100000 in
set_option maxHeartbeats 4000000 in
/-- from place 13 -/
theorem sg_X8_isSame_13 {d : Nat} {Q : List Value → zM → Prop} (a0 : Nat) (a1 : Int32) (a2 : Int32) (a3 : Int32) (M : zM) (h :
(zsh M a0).1 = 16 ∧ ((zsh M (zR M a0 6)).1 = 2 ∧ (zin a1 (zsh M (zR M a0 6)).2 ∧ (((zI M (zR M a0 6) a1.toNatClampNeg) ≤ a3 → (zb ((1 : Int32)) ∧ (Q [.int ((1 : Int32))] M))) ∧ (¬ ((zI M (zR M a0 6) a1.toNatClampNeg) ≤ a3) → ((zsh M a0).1 = 16 ∧ ((zsh M (zR M a0 3)).1 = 2 ∧ (zin ((((100 : Int32)) * a1) + a3) (zsh M (zR M a0 3)).2 ∧ ((zsh M a0).1 = 16 ∧ ((zsh M (zR M a0 3)).1 = 2 ∧ (zin ((((100 : Int32)) * a2) + a3) (zsh M (zR M a0 3)).2 ∧ ((¬ (zI M (zR M a0 3) ((((100 : Int32)) * a1) + a3).toNatClampNeg) = (zI M (zR M a0 3) ((((100 : Int32)) * a2) + a3).toNatClampNeg) → (zb ((0 : Int32)) ∧ (Q [.int ((0 : Int32))] M))) ∧ (¬ (¬ (zI M (zR M a0 3) ((((100 : Int32)) * a1) + a3).toNatClampNeg) = (zI M (zR M a0 3) ((((100 : Int32)) * a2) + a3).toNatClampNeg)) → ((zsh M a0).1 = 16 ∧ ((zsh M (zR M a0 4)).1 = 2 ∧ (zin ((((100 : Int32)) * a1) + a3) (zsh M (zR M a0 4)).2 ∧ ((zsh M a0).1 = 16 ∧ ((zsh M (zR M a0 4)).1 = 2 ∧ (zin ((((100 : Int32)) * a2) + a3) (zsh M (zR M a0 4)).2 ∧ ((¬ (zI M (zR M a0 4) ((((100 : Int32)) * a1) + a3).toNatClampNeg) = (zI M (zR M a0 4) ((((100 : Int32)) * a2) + a3).toNatClampNeg) → (zb ((0 : Int32)) ∧ (Q [.int ((0 : Int32))] M))) ∧ (¬ (¬ (zI M (zR M a0 4) ((((100 : Int32)) * a1) + a3).toNatClampNeg) = (zI M (zR M a0 4) ((((100 : Int32)) * a2) + a3).toNatClampNeg)) → ((zsh M a0).1 = 16 ∧ ((zsh M (zR M a0 5)).1 = 2 ∧ (zin ((((100 : Int32)) * a1) + a3) (zsh M (zR M a0 5)).2 ∧ ((zsh M a0).1 = 16 ∧ ((zsh M (zR M a0 5)).1 = 2 ∧ (zin ((((100 : Int32)) * a2) + a3) (zsh M (zR M a0 5)).2 ∧ (((zI M (zR M a0 5) ((((100 : Int32)) * a1) + a3).toNatClampNeg) = (zI M (zR M a0 5) ((((100 : Int32)) * a2) + a3).toNatClampNeg) → (let v3_1 : Int32 := a3 + 1
wX8_isSame d Q 13 [some (.ref a0), some (.int a1), some (.int a2), some (.int v3_1)] [] M)) ∧ (¬ ((zI M (zR M a0 5) ((((100 : Int32)) * a1) + a3).toNatClampNeg) = (zI M (zR M a0 5) ((((100 : Int32)) * a2) + a3).toNatClampNeg)) → (zb ((0 : Int32)) ∧ (Q [.int ((0 : Int32))] M))))))))))))))))))))))))))))))
) : wX8_isSame d Q 13 [some (.ref a0), some (.int a1), some (.int a2), some (.int a3)] [] M := zseg (zCl_good gTb d) (fun j => j == 13) 72 h
abbrev wX8_sorted (d : Nat) (Q : List Value → zM → Prop) : Nat → zLv → List Value → zM → Prop := zW (zCl gTb d) 0 kX8_sorted Q
theorem en_X8_sorted {d : Nat} {Q : List Value → zM → Prop} (a0 : Nat) (a1 : Int32) (M : zM) (h : wX8_sorted d Q 0 [some (.ref a0), some (.int a1), none, none, none, none, none, none] [] M) : zCl gTb (d + 1) nX8_sorted [.ref a0, .int a1] M Q := ⟨Nat.le_of_ble_eq_true rfl, h⟩
set_option maxRecDepth 100000 in
set_option maxHeartbeats 4000000 in
/-- from place 0 -/
theorem sg_X8_sorted_0 {d : Nat} {Q : List Value → zM → Prop} (a0 : Nat) (a1 : Int32) (M : zM) (h :
wX8_sorted d Q 2 [some (.ref a0), some (.int a1), some (.int ((1 : Int32))), none, none, none, none, none] [] M
) : wX8_sorted d Q 0 [some (.ref a0), some (.int a1), none, none, none, none, none, none] [] M := zseg (zCl_good gTb d) (fun j => j == 2 || j == 10) 7 h
set_option maxRecDepth 100000 in
set_option maxHeartbeats 4000000 in
/-- from place 2 -/
theorem sg_X8_sorted_2 {d : Nat} {Q : List Value → zM → Prop} (a0 : Nat) (a1 : Int32) (a2 : Int32) (o3 : Option Value) (o4 : Option Value) (o5 : Option Value) (o6 : Option Value) (o7 : Option Value) (M : zM) (h :
(zsh M a0).1 = 16 ∧ ((zsh M (zR M a0 6)).1 = 2 ∧ (zin a1 (zsh M (zR M a0 6)).2 ∧ (((zI M (zR M a0 6) a1.toNatClampNeg) ≤ a2 → (Q [] M)) ∧ (¬ ((zI M (zR M a0 6) a1.toNatClampNeg) ≤ a2) → (wX8_sorted d Q 10 [some (.ref a0), some (.int a1), some (.int a2), some (.int a2), o4, o5, o6, o7] [] M)))))
) : wX8_sorted d Q 2 [some (.ref a0), some (.int a1), some (.int a2), o3, o4, o5, o6, o7] [] M := zseg (zCl_good gTb d) (fun j => j == 2 || j == 10) 14 h
set_option maxRecDepth 100000 in
set_option maxHeartbeats 4000000 in
/-- from place 10 -/
theorem sg_X8_sorted_10 {d : Nat} {Q : List Value → zM → Prop} (a0 : Nat) (a1 : Int32) (a2 : Int32) (a3 : Int32) (o4 : Option Value) (o5 : Option Value) (o6 : Option Value) (o7 : Option Value) (M : zM) (h :
(a3 ≤ 0 → (let v2_1 : Int32 := a2 + 1
wX8_sorted d Q 2 [some (.ref a0), some (.int a1), some (.int v2_1), some (.int a3), o4, o5, o6, o7] [] M)) ∧ (¬ (a3 ≤ 0) → ((zsh M a0).1 = 16 ∧ ((zsh M (zR M a0 5)).1 = 2 ∧ (zin (((((100 : Int32)) * a1) + a3) - ((1 : Int32))) (zsh M (zR M a0 5)).2 ∧ ((zsh M a0).1 = 16 ∧ ((zsh M (zR M a0 5)).1 = 2 ∧ (zin ((((100 : Int32)) * a1) + a3) (zsh M (zR M a0 5)).2 ∧ ((zsh M a0).1 = 16 ∧ (ycI d nX8_compare [.ref a0, .int (zI M (zR M a0 5) (((((100 : Int32)) * a1) + a3) - ((1 : Int32))).toNatClampNeg), .int (zI M (zR M a0 5) ((((100 : Int32)) * a1) + a3).toNatClampNeg)] M fun c3 M2 => ((0 ≤ c3 → (let v2_4 : Int32 := a2 + 1
wX8_sorted d Q 2 [some (.ref a0), some (.int a1), some (.int v2_4), some (.int a3), o4, o5, o6, o7] [] M2)) ∧ (¬ (0 ≤ c3) → (let v4_5 : Int32 := (((100 : Int32)) * a1) + a3
(zsh M2 a0).1 = 16 ∧ ((zsh M2 (zR M2 a0 3)).1 = 2 ∧ (zin v4_5 (zsh M2 (zR M2 a0 3)).2 ∧ (let v5_6 : Int32 := zI M2 (zR M2 a0 3) v4_5.toNatClampNeg
(zsh M2 a0).1 = 16 ∧ ((zsh M2 (zR M2 a0 4)).1 = 2 ∧ (zin v4_5 (zsh M2 (zR M2 a0 4)).2 ∧ (let v6_7 : Int32 := zI M2 (zR M2 a0 4) v4_5.toNatClampNeg
(zsh M2 a0).1 = 16 ∧ ((zsh M2 (zR M2 a0 5)).1 = 2 ∧ (zin v4_5 (zsh M2 (zR M2 a0 5)).2 ∧ (let v7_8 : Int32 := zI M2 (zR M2 a0 5) v4_5.toNatClampNeg
(zsh M2 a0).1 = 16 ∧ ((zsh M2 a0).1 = 16 ∧ ((zsh M2 (zR M2 a0 3)).1 = 2 ∧ (zin (v4_5 - ((1 : Int32))) (zsh M2 (zR M2 a0 3)).2 ∧ ((zsh M2 (zR M2 a0 3)).1 = 2 ∧ (zin v4_5 (zsh M2 (zR M2 a0 3)).2 ∧ (let M9 : zM := zuI M2 (zR M2 a0 3) v4_5.toNatClampNeg (zI M2 (zR M2 a0 3) (v4_5 - ((1 : Int32))).toNatClampNeg)
(zsh M2 a0).1 = 16 ∧ ((zsh M2 a0).1 = 16 ∧ ((zsh M2 (zR M2 a0 4)).1 = 2 ∧ (zin (v4_5 - ((1 : Int32))) (zsh M2 (zR M2 a0 4)).2 ∧ ((zsh M2 (zR M2 a0 4)).1 = 2 ∧ (zin v4_5 (zsh M2 (zR M2 a0 4)).2 ∧ (let M10 : zM := zuI M9 (zR M2 a0 4) v4_5.toNatClampNeg (zI M9 (zR M2 a0 4) (v4_5 - ((1 : Int32))).toNatClampNeg)
(zsh M2 a0).1 = 16 ∧ ((zsh M2 a0).1 = 16 ∧ ((zsh M2 (zR M2 a0 5)).1 = 2 ∧ (zin (v4_5 - ((1 : Int32))) (zsh M2 (zR M2 a0 5)).2 ∧ ((zsh M2 (zR M2 a0 5)).1 = 2 ∧ (zin v4_5 (zsh M2 (zR M2 a0 5)).2 ∧ (let M11 : zM := zuI M10 (zR M2 a0 5) v4_5.toNatClampNeg (zI M10 (zR M2 a0 5) (v4_5 - ((1 : Int32))).toNatClampNeg)
(zsh M2 a0).1 = 16 ∧ ((zsh M2 (zR M2 a0 3)).1 = 2 ∧ (zin (v4_5 - ((1 : Int32))) (zsh M2 (zR M2 a0 3)).2 ∧ (let M12 : zM := zuI M11 (zR M2 a0 3) (v4_5 - ((1 : Int32))).toNatClampNeg v5_6
(zsh M2 a0).1 = 16 ∧ ((zsh M2 (zR M2 a0 4)).1 = 2 ∧ (zin (v4_5 - ((1 : Int32))) (zsh M2 (zR M2 a0 4)).2 ∧ (let M13 : zM := zuI M12 (zR M2 a0 4) (v4_5 - ((1 : Int32))).toNatClampNeg v6_7
(zsh M2 a0).1 = 16 ∧ ((zsh M2 (zR M2 a0 5)).1 = 2 ∧ (zin (v4_5 - ((1 : Int32))) (zsh M2 (zR M2 a0 5)).2 ∧ (let M14 : zM := zuI M13 (zR M2 a0 5) (v4_5 - ((1 : Int32))).toNatClampNeg v7_8
let v3_15 : Int32 := a3 + (-1)
wX8_sorted d Q 10 [some (.ref a0), some (.int a1), some (.int a2), some (.int v3_15), some (.int v4_5), some (.int v5_6), some (.int v6_7), some (.int v7_8)] [] M14))))))))))))))))))))))))))))))))))))))))))))))))
) : wX8_sorted d Q 10 [some (.ref a0), some (.int a1), some (.int a2), some (.int a3), o4, o5, o6, o7] [] M := zseg (zCl_good gTb d) (fun j => j == 2 || j == 10) 106 h
abbrev wX8_taken (d : Nat) (Q : List Value → zM → Prop) : Nat → zLv → List Value → zM → Prop := zW (zCl gTb d) 1 kX8_taken Q
theorem en_X8_taken {d : Nat} {Q : List Value → zM → Prop} (a0 : Nat) (a1 : Int32) (a2 : Int32) (M : zM) (h : wX8_taken d Q 0 [some (.ref a0), some (.int a1), some (.int a2)] [] M) : zCl gTb (d + 1) nX8_taken [.ref a0, .int a1, .int a2] M Q := ⟨Nat.le_of_ble_eq_true rfl, h⟩
set_option maxRecDepth 100000 in
set_option maxHeartbeats 4000000 in
/-- from place 0 -/
theorem sg_X8_taken_0 {d : Nat} {Q : List Value → zM → Prop} (a0 : Nat) (a1 : Int32) (a2 : Int32) (M : zM) (h :
(zsh M a0).1 = 16 ∧ (((zI M a0 11) = 0 → ((zsh M a0).1 = 16 ∧ (ycV d nX8_copy [.ref a0, .int a1, .int a2] M fun M1 => ((zsh M1 a0).1 = 16 ∧ ((zsh M1 (zR M1 a0 6)).1 = 2 ∧ (zin a2 (zsh M1 (zR M1 a0 6)).2 ∧ (Q [.int (zI M1 (zR M1 a0 6) a2.toNatClampNeg)] M1))))))) ∧ (¬ ((zI M a0 11) = 0) → (Q [.int (((-7) : Int32))] M)))
) : wX8_taken d Q 0 [some (.ref a0), some (.int a1), some (.int a2)] [] M := zseg (zCl_good gTb d) (fun _ => false) 19 h
abbrev wX8_scaled (d : Nat) (Q : List Value → zM → Prop) : Nat → zLv → List Value → zM → Prop := zW (zCl gTb d) 0 kX8_scaled Q
theorem en_X8_scaled {d : Nat} {Q : List Value → zM → Prop} (a0 : Nat) (a1 : Int32) (a2 : Int32) (a3 : Int32) (M : zM) (h : wX8_scaled d Q 0 [some (.ref a0), some (.int a1), some (.int a2), some (.int a3), none] [] M) : zCl gTb (d + 1) nX8_scaled [.ref a0, .int a1, .int a2, .int a3] M Q := ⟨Nat.le_of_ble_eq_true rfl, h⟩
set_option maxRecDepth 100000 in
set_option maxHeartbeats 4000000 in
/-- from place 0 -/
theorem sg_X8_scaled_0 {d : Nat} {Q : List Value → zM → Prop} (a0 : Nat) (a1 : Int32) (a2 : Int32) (a3 : Int32) (M : zM) (h :
wX8_scaled d Q 2 [some (.ref a0), some (.int a1), some (.int a2), some (.int a3), some (.int ((0 : Int32)))] [] M
) : wX8_scaled d Q 0 [some (.ref a0), some (.int a1), some (.int a2), some (.int a3), none] [] M := zseg (zCl_good gTb d) (fun j => j == 2) 7 h
set_option maxRecDepth 100000 in
set_option maxHeartbeats 4000000 in
/-- from place 2 -/
theorem sg_X8_scaled_2 {d : Nat} {Q : List Value → zM → Prop} (a0 : Nat) (a1 : Int32) (a2 : Int32) (a3 : Int32) (a4 : Int32) (M : zM) (h :
(zsh M a0).1 = 16 ∧ ((zsh M (zR M a0 6)).1 = 2 ∧ (zin a1 (zsh M (zR M a0 6)).2 ∧ (((zI M (zR M a0 6) a1.toNatClampNeg) ≤ a4 → (Q [] M)) ∧ (¬ ((zI M (zR M a0 6) a1.toNatClampNeg) ≤ a4) → ((zsh M a0).1 = 16 ∧ ((¬ (zI M a0 11) = 0 → (Q [] M)) ∧ (¬ (¬ (zI M a0 11) = 0) → ((zsh M a0).1 = 16 ∧ ((zsh M (zR M a0 3)).1 = 2 ∧ (zin ((((100 : Int32)) * a1) + a4) (zsh M (zR M a0 3)).2 ∧ ((zsh M a0).1 = 16 ∧ ((zsh M (zR M a0 4)).1 = 2 ∧ (zin ((((100 : Int32)) * a1) + a4) (zsh M (zR M a0 4)).2 ∧ ((zsh M a0).1 = 16 ∧ (ycV d nX8_multiplied [.ref a0, .long ((zI M (zR M a0 3) ((((100 : Int32)) * a1) + a4).toNatClampNeg).toInt64), .long ((zI M (zR M a0 4) ((((100 : Int32)) * a1) + a4).toNatClampNeg).toInt64), .long (a2.toInt64), .long (a3.toInt64)] M fun M1 => ((zsh M1 a0).1 = 16 ∧ ((zsh M1 a0).1 = 16 ∧ ((zsh M1 (zR M1 a0 3)).1 = 2 ∧ (zin ((((100 : Int32)) * a1) + a4) (zsh M1 (zR M1 a0 3)).2 ∧ (let M2 : zM := zuI M1 (zR M1 a0 3) ((((100 : Int32)) * a1) + a4).toNatClampNeg (zI M1 a0 16)
(zsh M1 a0).1 = 16 ∧ ((zsh M1 a0).1 = 16 ∧ ((zsh M1 (zR M1 a0 4)).1 = 2 ∧ (zin ((((100 : Int32)) * a1) + a4) (zsh M1 (zR M1 a0 4)).2 ∧ (let M3 : zM := zuI M2 (zR M1 a0 4) ((((100 : Int32)) * a1) + a4).toNatClampNeg (zI M2 a0 17)
let v4_4 : Int32 := a4 + 1
wX8_scaled d Q 2 [some (.ref a0), some (.int a1), some (.int a2), some (.int a3), some (.int v4_4)] [] M3))))))))))))))))))))))))
) : wX8_scaled d Q 2 [some (.ref a0), some (.int a1), some (.int a2), some (.int a3), some (.int a4)] [] M := zseg (zCl_good gTb d) (fun j => j == 2) 62 h
abbrev wX8_cofactor (d : Nat) (Q : List Value → zM → Prop) : Nat → zLv → List Value → zM → Prop := zW (zCl gTb d) 1 kX8_cofactor Q
theorem en_X8_cofactor {d : Nat} {Q : List Value → zM → Prop} (a0 : Nat) (a1 : Int32) (a2 : Int32) (M : zM) (h : wX8_cofactor d Q 0 [some (.ref a0), some (.int a1), some (.int a2)] [] M) : zCl gTb (d + 1) nX8_cofactor [.ref a0, .int a1, .int a2] M Q := ⟨Nat.le_of_ble_eq_true rfl, h⟩
set_option maxRecDepth 100000 in
set_option maxHeartbeats 4000000 in
/-- from place 0 -/
theorem sg_X8_cofactor_0 {d : Nat} {Q : List Value → zM → Prop} (a0 : Nat) (a1 : Int32) (a2 : Int32) (M : zM) (h :
Q [.int ((((170 : Int32)) + (((8 : Int32)) * a1)) + a2)] M
) : wX8_cofactor d Q 0 [some (.ref a0), some (.int a1), some (.int a2)] [] M := zseg (zCl_good gTb d) (fun _ => false) 13 h
abbrev wX8_lessShares (d : Nat) (Q : List Value → zM → Prop) : Nat → zLv → List Value → zM → Prop := zW (zCl gTb d) 0 kX8_lessShares Q
theorem en_X8_lessShares {d : Nat} {Q : List Value → zM → Prop} (a0 : Nat) (a1 : Int32) (a2 : Int32) (a3 : Int32) (M : zM) (h : wX8_lessShares d Q 0 [some (.ref a0), some (.int a1), some (.int a2), some (.int a3), none, none, none] [] M) : zCl gTb (d + 1) nX8_lessShares [.ref a0, .int a1, .int a2, .int a3] M Q := ⟨Nat.le_of_ble_eq_true rfl, h⟩
set_option maxRecDepth 100000 in
set_option maxHeartbeats 4000000 in
/-- from place 0 -/
theorem sg_X8_lessShares_0 {d : Nat} {Q : List Value → zM → Prop} (a0 : Nat) (a1 : Int32) (a2 : Int32) (a3 : Int32) (M : zM) (h :
wX8_lessShares d Q 2 [some (.ref a0), some (.int a1), some (.int a2), some (.int a3), some (.int ((0 : Int32))), none, none] [] M
) : wX8_lessShares d Q 0 [some (.ref a0), some (.int a1), some (.int a2), some (.int a3), none, none, none] [] M := zseg (zCl_good gTb d) (fun j => j == 2 || j == 11) 7 h
set_option maxRecDepth 100000 in
set_option maxHeartbeats 4000000 in
/-- from place 2 -/
theorem sg_X8_lessShares_2 {d : Nat} {Q : List Value → zM → Prop} (a0 : Nat) (a1 : Int32) (a2 : Int32) (a3 : Int32) (a4 : Int32) (o5 : Option Value) (o6 : Option Value) (M : zM) (h :
(zsh M a0).1 = 16 ∧ (((zI M a0 20) ≤ a4 → (Q [] M)) ∧ (¬ ((zI M a0 20) ≤ a4) → ((zsh M a0).1 = 16 ∧ ((¬ (zI M a0 11) = 0 → (Q [] M)) ∧ (¬ (¬ (zI M a0 11) = 0) → (wX8_lessShares d Q 11 [some (.ref a0), some (.int a1), some (.int a2), some (.int a3), some (.int a4), some (.int ((0 : Int32))), o6] [] M))))))
) : wX8_lessShares d Q 2 [some (.ref a0), some (.int a1), some (.int a2), some (.int a3), some (.int a4), o5, o6] [] M := zseg (zCl_good gTb d) (fun j => j == 2 || j == 11) 16 h
set_option maxRecDepth 100000 in
set_option maxHeartbeats 4000000 in
/-- from place 11 -/
theorem sg_X8_lessShares_11 {d : Nat} {Q : List Value → zM → Prop} (a0 : Nat) (a1 : Int32) (a2 : Int32) (a3 : Int32) (a4 : Int32) (a5 : Int32) (o6 : Option Value) (M : zM) (h :
(zsh M a0).1 = 16 ∧ ((zsh M (zR M a0 6)).1 = 2 ∧ (zin (((100 : Int32)) + a4) (zsh M (zR M a0 6)).2 ∧ (((zI M (zR M a0 6) (((100 : Int32)) + a4).toNatClampNeg) ≤ a5 → (let v4_1 : Int32 := a4 + 1
wX8_lessShares d Q 2 [some (.ref a0), some (.int a1), some (.int a2), some (.int a3), some (.int v4_1), some (.int a5), o6] [] M)) ∧ (¬ ((zI M (zR M a0 6) (((100 : Int32)) + a4).toNatClampNeg) ≤ a5) → ((zsh M a0).1 = 16 ∧ ((¬ (zI M a0 11) = 0 → (let v4_2 : Int32 := a4 + 1
wX8_lessShares d Q 2 [some (.ref a0), some (.int a1), some (.int a2), some (.int a3), some (.int v4_2), some (.int a5), o6] [] M)) ∧ (¬ (¬ (zI M a0 11) = 0) → (let v6_3 : Int32 := (((100 : Int32)) * (((100 : Int32)) + a4)) + a5
(zsh M a0).1 = 16 ∧ ((zsh M (zR M a0 3)).1 = 2 ∧ (zin v6_3 (zsh M (zR M a0 3)).2 ∧ ((zsh M a0).1 = 16 ∧ ((zsh M (zR M a0 4)).1 = 2 ∧ (zin v6_3 (zsh M (zR M a0 4)).2 ∧ ((zsh M a0).1 = 16 ∧ ((zsh M (zR M a0 5)).1 = 2 ∧ (zin v6_3 (zsh M (zR M a0 5)).2 ∧ ((zsh M a0).1 = 16 ∧ (ycI d nX8_cofactor [.ref a0, .int a4, .int a2] M fun c5 M4 => ((zsh M4 a0).1 = 16 ∧ (ycV d nX8_adds [.ref a0, .int a1, .int (a3 * (zI M (zR M a0 3) v6_3.toNatClampNeg)), .int (zI M (zR M a0 4) v6_3.toNatClampNeg), .int (zI M (zR M a0 5) v6_3.toNatClampNeg), .int c5] M4 fun M6 => (let v5_7 : Int32 := a5 + 1
wX8_lessShares d Q 11 [some (.ref a0), some (.int a1), some (.int a2), some (.int a3), some (.int a4), some (.int v5_7), some (.int v6_3)] [] M6)))))))))))))))))))))
) : wX8_lessShares d Q 11 [some (.ref a0), some (.int a1), some (.int a2), some (.int a3), some (.int a4), some (.int a5), o6] [] M := zseg (zCl_good gTb d) (fun j => j == 2 || j == 11) 51 h
