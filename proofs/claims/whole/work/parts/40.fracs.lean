/-! stretches of the small code, by wip/whole/vcgen.py -/
abbrev wX2_over (d : Nat) (Q : List Value → zM → Prop) : Nat → zLv → List Value → zM → Prop := zW (zCl gTb d) 1 kX2_over Q
theorem en_X2_over {d : Nat} {Q : List Value → zM → Prop} (a0 : Int64) (M : zM) (h : wX2_over d Q 0 [some (.long a0), none] [] M) : zCl gTb (d + 1) nX2_over [.long a0] M Q := ⟨Nat.le_of_ble_eq_true rfl, h⟩
/-- from place 0 -/
theorem sg_X2_over_0 {d : Nat} {Q : List Value → zM → Prop} (a0 : Int64) (M : zM) (h :
Q [.int ((a0 >>> (((32 : Int32)).toInt64 &&& 63)).toInt32)] M
) : wX2_over d Q 0 [some (.long a0), none] [] M := zseg (zCl_good gTb d) (fun _ => false) 10 h
abbrev wX2_under (d : Nat) (Q : List Value → zM → Prop) : Nat → zLv → List Value → zM → Prop := zW (zCl gTb d) 1 kX2_under Q
theorem en_X2_under {d : Nat} {Q : List Value → zM → Prop} (a0 : Int64) (M : zM) (h : wX2_under d Q 0 [some (.long a0), none] [] M) : zCl gTb (d + 1) nX2_under [.long a0] M Q := ⟨Nat.le_of_ble_eq_true rfl, h⟩
/-- from place 0 -/
theorem sg_X2_under_0 {d : Nat} {Q : List Value → zM → Prop} (a0 : Int64) (M : zM) (h :
Q [.int (a0.toInt32)] M
) : wX2_under d Q 0 [some (.long a0), none] [] M := zseg (zCl_good gTb d) (fun _ => false) 8 h
abbrev wX2_lowest (d : Nat) (Q : List Value → zM → Prop) : Nat → zLv → List Value → zM → Prop := zW (zCl gTb d) 3 kX2_lowest Q
theorem en_X2_lowest {d : Nat} {Q : List Value → zM → Prop} (a0 : Int64) (a2 : Int64) (M : zM) (h : wX2_lowest d Q 0 [some (.long a0), none, some (.long a2), none, none, none, none, none, none, none, none, none] [] M) : zCl gTb (d + 1) nX2_lowest [.long a0, .long a2] M Q := ⟨Nat.le_of_ble_eq_true rfl, h⟩
/-- from place 0 -/
theorem sg_X2_lowest_0 {d : Nat} {Q : List Value → zM → Prop} (a0 : Int64) (a2 : Int64) (M : zM) (h :
(0 ≤ (lg_cmp a0 ((0 : Int64))) → (wX2_lowest d Q 8 [some (.long a0), none, some (.long a2), none, none, none, none, none, none, none, none, none] [.long a0] M)) ∧ (¬ (0 ≤ (lg_cmp a0 ((0 : Int64)))) → (wX2_lowest d Q 8 [some (.long a0), none, some (.long a2), none, none, none, none, none, none, none, none, none] [.long (-a0)] M))
) : wX2_lowest d Q 0 [some (.long a0), none, some (.long a2), none, none, none, none, none, none, none, none, none] [] M := zseg (zCl_good gTb d) (fun j => j == 8 || j == 13 || j == 30 || j == 46) 13 h
/-- from place 8 -/
theorem sg_X2_lowest_8 {d : Nat} {Q : List Value → zM → Prop} (a0 : Int64) (a2 : Int64) (o4 : Option Value) (o5 : Option Value) (o6 : Option Value) (o7 : Option Value) (o8 : Option Value) (o9 : Option Value) (o10 : Option Value) (o11 : Option Value) (s0 : Int64) (M : zM) (h :
wX2_lowest d Q 13 [some (.long a0), none, some (.long a2), none, some (.long s0), none, some (.long a2), none, some (.int ((0 : Int32))), o9, o10, o11] [] M
) : wX2_lowest d Q 8 [some (.long a0), none, some (.long a2), none, o4, o5, o6, o7, o8, o9, o10, o11] [.long s0] M := zseg (zCl_good gTb d) (fun j => j == 8 || j == 13 || j == 30 || j == 46) 10 h
/-- from place 13 -/
theorem sg_X2_lowest_13 {d : Nat} {Q : List Value → zM → Prop} (a0 : Int64) (a2 : Int64) (a4 : Int64) (a6 : Int64) (a8 : Int32) (o9 : Option Value) (o10 : Option Value) (o11 : Option Value) (M : zM) (h :
(((200 : Int32)) ≤ a8 → (wX2_lowest d Q 30 [some (.long a0), none, some (.long a2), none, some (.long a4), none, some (.long a6), none, some (.int a8), o9, o10, o11] [] M)) ∧ (¬ (((200 : Int32)) ≤ a8) → (((lg_cmp a6 ((0 : Int64))) = 0 → (wX2_lowest d Q 30 [some (.long a0), none, some (.long a2), none, some (.long a4), none, some (.long a6), none, some (.int a8), o9, o10, o11] [] M)) ∧ (¬ ((lg_cmp a6 ((0 : Int64))) = 0) → (¬ a6 = 0 ∧ (let w9_1 : Int64 := a4 - a4 / a6 * a6
let v8_2 : Int32 := a8 + 1
wX2_lowest d Q 13 [some (.long a0), none, some (.long a2), none, some (.long a6), none, some (.long w9_1), none, some (.int v8_2), some (.long w9_1), none, o11] [] M)))))
) : wX2_lowest d Q 13 [some (.long a0), none, some (.long a2), none, some (.long a4), none, some (.long a6), none, some (.int a8), o9, o10, o11] [] M := zseg (zCl_good gTb d) (fun j => j == 8 || j == 13 || j == 30 || j == 46) 22 h
/-- from place 30 -/
theorem sg_X2_lowest_30 {d : Nat} {Q : List Value → zM → Prop} (a0 : Int64) (a2 : Int64) (a4 : Int64) (o6 : Option Value) (o7 : Option Value) (o8 : Option Value) (o9 : Option Value) (o10 : Option Value) (o11 : Option Value) (M : zM) (h :
((lg_cmp a4 ((1 : Int64))) ≤ 0 → (wX2_lowest d Q 46 [some (.long a0), none, some (.long a2), none, some (.long a4), none, o6, zwipe o7, some (.long a0), none, some (.long a2), none] [] M)) ∧ (¬ ((lg_cmp a4 ((1 : Int64))) ≤ 0) → (¬ a4 = 0 ∧ (let w8_1 : Int64 := a0 / a4
¬ a4 = 0 ∧ (let w10_2 : Int64 := a2 / a4
wX2_lowest d Q 46 [some (.long a0), none, some (.long a2), none, some (.long a4), none, o6, zwipe (zwipe o7), some (.long w8_1), none, some (.long w10_2), none] [] M))))
) : wX2_lowest d Q 30 [some (.long a0), none, some (.long a2), none, some (.long a4), none, o6, o7, o8, o9, o10, o11] [] M := zseg (zCl_good gTb d) (fun j => j == 8 || j == 13 || j == 30 || j == 46) 21 h
/-- from place 46 -/
theorem sg_X2_lowest_46 {d : Nat} {Q : List Value → zM → Prop} (o0 : Option Value) (o1 : Option Value) (o2 : Option Value) (o3 : Option Value) (o4 : Option Value) (o5 : Option Value) (o6 : Option Value) (o7 : Option Value) (a8 : Int64) (a10 : Int64) (M : zM) (h :
(0 < (lg_cmp a8 ((1000000000 : Int64))) → (Q [.long ((0 : Int64))] M)) ∧ (¬ (0 < (lg_cmp a8 ((1000000000 : Int64)))) → (((lg_cmp a8 (((-1000000000) : Int64))) < 0 → (Q [.long ((0 : Int64))] M)) ∧ (¬ ((lg_cmp a8 (((-1000000000) : Int64))) < 0) → ((0 < (lg_cmp a10 ((1000000000 : Int64))) → (Q [.long ((0 : Int64))] M)) ∧ (¬ (0 < (lg_cmp a10 ((1000000000 : Int64)))) → ((0 < (lg_cmp a10 ((0 : Int64))) → (Q [.long ((a8 <<< (((32 : Int32)).toInt64 &&& 63)) ||| a10)] M)) ∧ (¬ (0 < (lg_cmp a10 ((0 : Int64)))) → (Q [.long ((0 : Int64))] M))))))))
) : wX2_lowest d Q 46 [o0, o1, o2, o3, o4, o5, o6, o7, some (.long a8), none, some (.long a10), none] [] M := zseg (zCl_good gTb d) (fun j => j == 8 || j == 13 || j == 30 || j == 46) 35 h
abbrev wX2_sum (d : Nat) (Q : List Value → zM → Prop) : Nat → zLv → List Value → zM → Prop := zW (zCl gTb d) 3 kX2_sum Q
theorem en_X2_sum {d : Nat} {Q : List Value → zM → Prop} (a0 : Int64) (a2 : Int64) (M : zM) (h : wX2_sum d Q 0 [some (.long a0), none, some (.long a2), none, none, none] [] M) : zCl gTb (d + 1) nX2_sum [.long a0, .long a2] M Q := ⟨Nat.le_of_ble_eq_true rfl, h⟩
/-- from place 0 -/
theorem sg_X2_sum_0 {d : Nat} {Q : List Value → zM → Prop} (a0 : Int64) (a2 : Int64) (M : zM) (h :
ycI d nX2_over [.long a0] M fun c2 M1 => (ycI d nX2_under [.long a2] M1 fun c4 M3 => (ycI d nX2_over [.long a2] M3 fun c6 M5 => (ycI d nX2_under [.long a0] M5 fun c8 M7 => (let w4_9 : Int64 := ((c2.toInt64) * (c4.toInt64)) + ((c6.toInt64) * (c8.toInt64))
ycI d nX2_under [.long a0] M7 fun c11 M10 => (ycI d nX2_under [.long a2] M10 fun c13 M12 => (ycJ d nX2_lowest [.long w4_9, .long ((c11.toInt64) * (c13.toInt64))] M12 fun c15 M14 => (Q [.long c15] M14)))))))
) : wX2_sum d Q 0 [some (.long a0), none, some (.long a2), none, none, none] [] M := zseg (zCl_good gTb d) (fun _ => false) 31 h
abbrev wX2_product (d : Nat) (Q : List Value → zM → Prop) : Nat → zLv → List Value → zM → Prop := zW (zCl gTb d) 3 kX2_product Q
theorem en_X2_product {d : Nat} {Q : List Value → zM → Prop} (a0 : Int64) (a2 : Int64) (M : zM) (h : wX2_product d Q 0 [some (.long a0), none, some (.long a2), none] [] M) : zCl gTb (d + 1) nX2_product [.long a0, .long a2] M Q := ⟨Nat.le_of_ble_eq_true rfl, h⟩
/-- from place 0 -/
theorem sg_X2_product_0 {d : Nat} {Q : List Value → zM → Prop} (a0 : Int64) (a2 : Int64) (M : zM) (h :
ycI d nX2_over [.long a0] M fun c2 M1 => (ycI d nX2_over [.long a2] M1 fun c4 M3 => (ycI d nX2_under [.long a0] M3 fun c6 M5 => (ycI d nX2_under [.long a2] M5 fun c8 M7 => (ycJ d nX2_lowest [.long ((c2.toInt64) * (c4.toInt64)), .long ((c6.toInt64) * (c8.toInt64))] M7 fun c10 M9 => (Q [.long c10] M9)))))
) : wX2_product d Q 0 [some (.long a0), none, some (.long a2), none] [] M := zseg (zCl_good gTb d) (fun _ => false) 21 h
abbrev wX2_negative (d : Nat) (Q : List Value → zM → Prop) : Nat → zLv → List Value → zM → Prop := zW (zCl gTb d) 3 kX2_negative Q
theorem en_X2_negative {d : Nat} {Q : List Value → zM → Prop} (a0 : Int64) (M : zM) (h : wX2_negative d Q 0 [some (.long a0), none] [] M) : zCl gTb (d + 1) nX2_negative [.long a0] M Q := ⟨Nat.le_of_ble_eq_true rfl, h⟩
/-- from place 0 -/
theorem sg_X2_negative_0 {d : Nat} {Q : List Value → zM → Prop} (a0 : Int64) (M : zM) (h :
ycI d nX2_over [.long a0] M fun c2 M1 => (ycI d nX2_under [.long a0] M1 fun c4 M3 => (Q [.long ((((-c2).toInt64) <<< (((32 : Int32)).toInt64 &&& 63)) ||| (c4.toInt64))] M3))
) : wX2_negative d Q 0 [some (.long a0), none] [] M := zseg (zCl_good gTb d) (fun _ => false) 16 h
abbrev wX2_inverse (d : Nat) (Q : List Value → zM → Prop) : Nat → zLv → List Value → zM → Prop := zW (zCl gTb d) 3 kX2_inverse Q
theorem en_X2_inverse {d : Nat} {Q : List Value → zM → Prop} (a0 : Int64) (M : zM) (h : wX2_inverse d Q 0 [some (.long a0), none, none, none, none, none] [] M) : zCl gTb (d + 1) nX2_inverse [.long a0] M Q := ⟨Nat.le_of_ble_eq_true rfl, h⟩
/-- from place 0 -/
theorem sg_X2_inverse_0 {d : Nat} {Q : List Value → zM → Prop} (a0 : Int64) (M : zM) (h :
ycI d nX2_over [.long a0] M fun c2 M1 => (let w2_3 : Int64 := c2.toInt64
ycI d nX2_under [.long a0] M1 fun c5 M4 => (let w4_6 : Int64 := c5.toInt64
(0 ≤ (lg_cmp w2_3 ((0 : Int64))) → (Q [.long ((w4_6 <<< (((32 : Int32)).toInt64 &&& 63)) ||| w2_3)] M4)) ∧ (¬ (0 ≤ (lg_cmp w2_3 ((0 : Int64)))) → (Q [.long (((-w4_6) <<< (((32 : Int32)).toInt64 &&& 63)) ||| (-w2_3))] M4))))
) : wX2_inverse d Q 0 [some (.long a0), none, none, none, none, none] [] M := zseg (zCl_good gTb d) (fun _ => false) 32 h
