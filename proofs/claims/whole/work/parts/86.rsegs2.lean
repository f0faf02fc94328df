/-! stretches of the small code, by wip/whole/vcgen.py -/
abbrev wX8_divided (d : Nat) (Q : List Value → zM → Prop) : Nat → zLv → List Value → zM → Prop := zW (zCl gTb d) 0 kX8_divided Q
theorem en_X8_divided {d : Nat} {Q : List Value → zM → Prop} (a0 : Nat) (a1 : Int32) (a2 : Int32) (M : zM) (h : wX8_divided d Q 0 [some (.ref a0), some (.int a1), some (.int a2), none, none, none, none, none, none, none, none, none] [] M) : zCl gTb (d + 1) nX8_divided [.ref a0, .int a1, .int a2] M Q := ⟨Nat.le_of_ble_eq_true rfl, h⟩
set_option maxRecDepth 100000 in
set_option maxHeartbeats 4000000 in
/-- from place 0 -/
theorem sg_X8_divided_0 {d : Nat} {Q : List Value → zM → Prop} (a0 : Nat) (a1 : Int32) (a2 : Int32) (M : zM) (h :
(zsh M a0).1 = 16 ∧ ((zsh M (zR M a0 6)).1 = 2 ∧ (zin a2 (zsh M (zR M a0 6)).2 ∧ (let M1 : zM := zuI M (zR M a0 6) a2.toNatClampNeg ((0 : Int32))
wX8_divided d Q 7 [some (.ref a0), some (.int a1), some (.int a2), some (.int ((0 : Int32))), none, none, none, none, none, none, none, none] [] M1)))
) : wX8_divided d Q 0 [some (.ref a0), some (.int a1), some (.int a2), none, none, none, none, none, none, none, none, none] [] M := zseg (zCl_good gTb d) (fun j => j == 7 || j == 19 || j == 36 || j == 48 || j == 68 || j == 98 || j == 149 || j == 196) 12 h
set_option maxRecDepth 100000 in
set_option maxHeartbeats 4000000 in
/-- from place 7 -/
theorem sg_X8_divided_7 {d : Nat} {Q : List Value → zM → Prop} (a0 : Nat) (a1 : Int32) (a2 : Int32) (a3 : Int32) (o4 : Option Value) (o5 : Option Value) (o6 : Option Value) (o7 : Option Value) (o8 : Option Value) (o9 : Option Value) (o10 : Option Value) (o11 : Option Value) (M : zM) (h :
(((25 : Int32)) ≤ a3 → (wX8_divided d Q 19 [some (.ref a0), some (.int a1), some (.int a2), some (.int a3), o4, o5, o6, o7, o8, o9, o10, o11] [] M)) ∧ (¬ (((25 : Int32)) ≤ a3) → ((zsh M a0).1 = 16 ∧ ((zsh M (zR M a0 6)).1 = 2 ∧ (zin (((100 : Int32)) + a3) (zsh M (zR M a0 6)).2 ∧ (let M1 : zM := zuI M (zR M a0 6) (((100 : Int32)) + a3).toNatClampNeg ((0 : Int32))
let v3_2 : Int32 := a3 + 1
wX8_divided d Q 7 [some (.ref a0), some (.int a1), some (.int a2), some (.int v3_2), o4, o5, o6, o7, o8, o9, o10, o11] [] M1)))))
) : wX8_divided d Q 7 [some (.ref a0), some (.int a1), some (.int a2), some (.int a3), o4, o5, o6, o7, o8, o9, o10, o11] [] M := zseg (zCl_good gTb d) (fun j => j == 7 || j == 19 || j == 36 || j == 48 || j == 68 || j == 98 || j == 149 || j == 196) 17 h
set_option maxRecDepth 100000 in
set_option maxHeartbeats 4000000 in
/-- from place 19 -/
theorem sg_X8_divided_19 {d : Nat} {Q : List Value → zM → Prop} (a0 : Nat) (a1 : Int32) (a2 : Int32) (o3 : Option Value) (o4 : Option Value) (o5 : Option Value) (o6 : Option Value) (o7 : Option Value) (o8 : Option Value) (o9 : Option Value) (o10 : Option Value) (o11 : Option Value) (M : zM) (h :
(zsh M a0).1 = 16 ∧ ((zsh M (zR M a0 6)).1 = 2 ∧ (zin a1 (zsh M (zR M a0 6)).2 ∧ (((zI M (zR M a0 6) a1.toNatClampNeg) ≤ 0 → (Q [] M)) ∧ (¬ ((zI M (zR M a0 6) a1.toNatClampNeg) ≤ 0) → ((zsh M a0).1 = 16 ∧ ((¬ (zI M a0 11) = 0 → (Q [] M)) ∧ (¬ (¬ (zI M a0 11) = 0) → ((zsh M a0).1 = 16 ∧ ((zsh M a0).1 = 16 ∧ ((¬ (zI M a0 13) = (zI M a0 14) → (wX8_divided d Q 36 [some (.ref a0), some (.int a1), some (.int a2), o3, o4, o5, o6, o7, o8, o9, o10, o11] [] M)) ∧ (¬ (¬ (zI M a0 13) = (zI M a0 14)) → ((zsh M a0).1 = 16 ∧ (zb ((1 : Int32)) ∧ (let M1 : zM := zuI M a0 12 ((1 : Int32))
Q [] M1))))))))))))))
) : wX8_divided d Q 19 [some (.ref a0), some (.int a1), some (.int a2), o3, o4, o5, o6, o7, o8, o9, o10, o11] [] M := zseg (zCl_good gTb d) (fun j => j == 7 || j == 19 || j == 36 || j == 48 || j == 68 || j == 98 || j == 149 || j == 196) 24 h
set_option maxRecDepth 100000 in
set_option maxHeartbeats 4000000 in
/-- from place 36 -/
theorem sg_X8_divided_36 {d : Nat} {Q : List Value → zM → Prop} (a0 : Nat) (a1 : Int32) (a2 : Int32) (o3 : Option Value) (o4 : Option Value) (o5 : Option Value) (o6 : Option Value) (o7 : Option Value) (o8 : Option Value) (o9 : Option Value) (o10 : Option Value) (o11 : Option Value) (M : zM) (h :
(zsh M a0).1 = 16 ∧ ((zsh M a0).1 = 16 ∧ (let M1 : zM := zuI M a0 13 ((zI M a0 13) + ((1 : Int32)))
(zsh M a0).1 = 16 ∧ (ycI d nX8_lead [.ref a0, .int a1] M1 fun c3 M2 => (wX8_divided d Q 48 [some (.ref a0), some (.int a1), some (.int a2), some (.int c3), some (.int ((0 : Int32))), o5, o6, o7, o8, o9, o10, o11] [] M2))))
) : wX8_divided d Q 36 [some (.ref a0), some (.int a1), some (.int a2), o3, o4, o5, o6, o7, o8, o9, o10, o11] [] M := zseg (zCl_good gTb d) (fun j => j == 7 || j == 19 || j == 36 || j == 48 || j == 68 || j == 98 || j == 149 || j == 196) 17 h
set_option maxRecDepth 100000 in
set_option maxHeartbeats 4000000 in
/-- from place 48 -/
theorem sg_X8_divided_48 {d : Nat} {Q : List Value → zM → Prop} (a0 : Nat) (a1 : Int32) (a2 : Int32) (a3 : Int32) (a4 : Int32) (o5 : Option Value) (o6 : Option Value) (o7 : Option Value) (o8 : Option Value) (o9 : Option Value) (o10 : Option Value) (o11 : Option Value) (M : zM) (h :
(zsh M a0).1 = 16 ∧ (((zI M a0 20) ≤ a4 → (wX8_divided d Q 68 [some (.ref a0), some (.int a1), some (.int a2), some (.int a3), some (.int a4), o5, o6, o7, o8, o9, o10, o11] [] M)) ∧ (¬ ((zI M a0 20) ≤ a4) → ((zsh M a0).1 = 16 ∧ ((a4 = (zI M a0 21) → (let v4_1 : Int32 := a4 + 1
wX8_divided d Q 48 [some (.ref a0), some (.int a1), some (.int a2), some (.int a3), some (.int v4_1), o5, o6, o7, o8, o9, o10, o11] [] M)) ∧ (¬ (a4 = (zI M a0 21)) → ((zsh M a0).1 = 16 ∧ ((zsh M a0).1 = 16 ∧ (ycI d nX8_lead [.ref a0, .int ((zI M a0 19) + a4)] M fun c3 M2 => ((zsh M2 a0).1 = 16 ∧ (ycI d nX8_divides [.ref a0, .int c3, .int a3] M2 fun c5 M4 => ((¬ c5 = 0 → (wX8_divided d Q 68 [some (.ref a0), some (.int a1), some (.int a2), some (.int a3), some (.int a4), o5, o6, o7, o8, o9, o10, o11] [] M4)) ∧ (¬ (¬ c5 = 0) → (let v4_6 : Int32 := a4 + 1
wX8_divided d Q 48 [some (.ref a0), some (.int a1), some (.int a2), some (.int a3), some (.int v4_6), o5, o6, o7, o8, o9, o10, o11] [] M4)))))))))))))
) : wX8_divided d Q 48 [some (.ref a0), some (.int a1), some (.int a2), some (.int a3), some (.int a4), o5, o6, o7, o8, o9, o10, o11] [] M := zseg (zCl_good gTb d) (fun j => j == 7 || j == 19 || j == 36 || j == 48 || j == 68 || j == 98 || j == 149 || j == 196) 27 h
set_option maxRecDepth 100000 in
set_option maxHeartbeats 4000000 in
/-- from place 68 -/
theorem sg_X8_divided_68 {d : Nat} {Q : List Value → zM → Prop} (a0 : Nat) (a1 : Int32) (a2 : Int32) (a3 : Int32) (a4 : Int32) (o5 : Option Value) (o6 : Option Value) (o7 : Option Value) (o8 : Option Value) (o9 : Option Value) (o10 : Option Value) (o11 : Option Value) (M : zM) (h :
let v5_1 : Int32 := ((100 : Int32)) * a1
(zsh M a0).1 = 16 ∧ ((¬ a4 = (zI M a0 20) → (wX8_divided d Q 149 [some (.ref a0), some (.int a1), some (.int a2), some (.int a3), some (.int a4), some (.int v5_1), o6, o7, o8, o9, o10, o11] [] M)) ∧ (¬ (¬ a4 = (zI M a0 20)) → ((zsh M a0).1 = 16 ∧ ((zsh M (zR M a0 3)).1 = 2 ∧ (zin v5_1 (zsh M (zR M a0 3)).2 ∧ ((zsh M a0).1 = 16 ∧ ((zsh M (zR M a0 4)).1 = 2 ∧ (zin v5_1 (zsh M (zR M a0 4)).2 ∧ ((zsh M a0).1 = 16 ∧ (ycV d nX8_comes [.ref a0, .int a2, .int (zI M (zR M a0 3) v5_1.toNatClampNeg), .int (zI M (zR M a0 4) v5_1.toNatClampNeg), .int a3] M fun M2 => ((zsh M2 a0).1 = 16 ∧ ((zsh M2 (zR M2 a0 6)).1 = 2 ∧ (zin a1 (zsh M2 (zR M2 a0 6)).2 ∧ ((zsh M2 (zR M2 a0 6)).1 = 2 ∧ (zin a1 (zsh M2 (zR M2 a0 6)).2 ∧ (let M3 : zM := zuI M2 (zR M2 a0 6) a1.toNatClampNeg ((zI M2 (zR M2 a0 6) a1.toNatClampNeg) - ((1 : Int32)))
wX8_divided d Q 98 [some (.ref a0), some (.int a1), some (.int a2), some (.int a3), some (.int a4), some (.int v5_1), some (.int ((0 : Int32))), o7, o8, o9, o10, o11] [] M3))))))))))))))))
) : wX8_divided d Q 68 [some (.ref a0), some (.int a1), some (.int a2), some (.int a3), some (.int a4), o5, o6, o7, o8, o9, o10, o11] [] M := zseg (zCl_good gTb d) (fun j => j == 7 || j == 19 || j == 36 || j == 48 || j == 68 || j == 98 || j == 149 || j == 196) 35 h
set_option maxRecDepth 100000 in
set_option maxHeartbeats 4000000 in
/-- from place 98 -/
theorem sg_X8_divided_98 {d : Nat} {Q : List Value → zM → Prop} (a0 : Nat) (a1 : Int32) (a2 : Int32) (o3 : Option Value) (o4 : Option Value) (a5 : Int32) (a6 : Int32) (o7 : Option Value) (o8 : Option Value) (o9 : Option Value) (o10 : Option Value) (o11 : Option Value) (M : zM) (h :
(zsh M a0).1 = 16 ∧ ((zsh M (zR M a0 6)).1 = 2 ∧ (zin a1 (zsh M (zR M a0 6)).2 ∧ (((zI M (zR M a0 6) a1.toNatClampNeg) ≤ a6 → (wX8_divided d Q 19 [some (.ref a0), some (.int a1), some (.int a2), o3, o4, some (.int a5), some (.int a6), o7, o8, o9, o10, o11] [] M)) ∧ (¬ ((zI M (zR M a0 6) a1.toNatClampNeg) ≤ a6) → ((zsh M a0).1 = 16 ∧ ((zsh M a0).1 = 16 ∧ ((zsh M (zR M a0 3)).1 = 2 ∧ (zin ((a5 + a6) + ((1 : Int32))) (zsh M (zR M a0 3)).2 ∧ ((zsh M (zR M a0 3)).1 = 2 ∧ (zin (a5 + a6) (zsh M (zR M a0 3)).2 ∧ (let M1 : zM := zuI M (zR M a0 3) (a5 + a6).toNatClampNeg (zI M (zR M a0 3) ((a5 + a6) + ((1 : Int32))).toNatClampNeg)
(zsh M a0).1 = 16 ∧ ((zsh M a0).1 = 16 ∧ ((zsh M (zR M a0 4)).1 = 2 ∧ (zin ((a5 + a6) + ((1 : Int32))) (zsh M (zR M a0 4)).2 ∧ ((zsh M (zR M a0 4)).1 = 2 ∧ (zin (a5 + a6) (zsh M (zR M a0 4)).2 ∧ (let M2 : zM := zuI M1 (zR M a0 4) (a5 + a6).toNatClampNeg (zI M1 (zR M a0 4) ((a5 + a6) + ((1 : Int32))).toNatClampNeg)
(zsh M a0).1 = 16 ∧ ((zsh M a0).1 = 16 ∧ ((zsh M (zR M a0 5)).1 = 2 ∧ (zin ((a5 + a6) + ((1 : Int32))) (zsh M (zR M a0 5)).2 ∧ ((zsh M (zR M a0 5)).1 = 2 ∧ (zin (a5 + a6) (zsh M (zR M a0 5)).2 ∧ (let M3 : zM := zuI M2 (zR M a0 5) (a5 + a6).toNatClampNeg (zI M2 (zR M a0 5) ((a5 + a6) + ((1 : Int32))).toNatClampNeg)
let v6_4 : Int32 := a6 + 1
wX8_divided d Q 98 [some (.ref a0), some (.int a1), some (.int a2), o3, o4, some (.int a5), some (.int v6_4), o7, o8, o9, o10, o11] [] M3)))))))))))))))))))))))
) : wX8_divided d Q 98 [some (.ref a0), some (.int a1), some (.int a2), o3, o4, some (.int a5), some (.int a6), o7, o8, o9, o10, o11] [] M := zseg (zCl_good gTb d) (fun j => j == 7 || j == 19 || j == 36 || j == 48 || j == 68 || j == 98 || j == 149 || j == 196) 57 h
set_option maxRecDepth 100000 in
set_option maxHeartbeats 4000000 in
/-- from place 149 -/
theorem sg_X8_divided_149 {d : Nat} {Q : List Value → zM → Prop} (a0 : Nat) (a1 : Int32) (a2 : Int32) (a3 : Int32) (a4 : Int32) (a5 : Int32) (o6 : Option Value) (o7 : Option Value) (o8 : Option Value) (o9 : Option Value) (o10 : Option Value) (o11 : Option Value) (M : zM) (h :
(zsh M a0).1 = 16 ∧ (let v6_1 : Int32 := (zI M a0 19) + a4
(zsh M a0).1 = 16 ∧ ((zsh M (zR M a0 3)).1 = 2 ∧ (zin (((100 : Int32)) * v6_1) (zsh M (zR M a0 3)).2 ∧ (let v7_2 : Int32 := zI M (zR M a0 3) (((100 : Int32)) * v6_1).toNatClampNeg
(zsh M a0).1 = 16 ∧ ((zsh M (zR M a0 4)).1 = 2 ∧ (zin (((100 : Int32)) * v6_1) (zsh M (zR M a0 4)).2 ∧ (let v8_3 : Int32 := zI M (zR M a0 4) (((100 : Int32)) * v6_1).toNatClampNeg
(zsh M a0).1 = 16 ∧ ((zsh M (zR M a0 3)).1 = 2 ∧ (zin a5 (zsh M (zR M a0 3)).2 ∧ ((zsh M a0).1 = 16 ∧ ((zsh M (zR M a0 4)).1 = 2 ∧ (zin a5 (zsh M (zR M a0 4)).2 ∧ ((0 ≤ v7_2 → ((0 ≤ v7_2 → ((zsh M a0).1 = 16 ∧ (ycV d nX8_multiplied [.ref a0, .long ((zI M (zR M a0 3) a5.toNatClampNeg).toInt64), .long ((zI M (zR M a0 4) a5.toNatClampNeg).toInt64), .long (v8_3.toInt64), .long (v7_2.toInt64)] M fun M4 => (wX8_divided d Q 196 [some (.ref a0), some (.int a1), some (.int a2), some (.int a3), some (.int a4), some (.int a5), some (.int v6_1), some (.int v7_2), some (.int v8_3), o9, o10, o11] [] M4)))) ∧ (¬ (0 ≤ v7_2) → ((zsh M a0).1 = 16 ∧ (ycV d nX8_multiplied [.ref a0, .long ((zI M (zR M a0 3) a5.toNatClampNeg).toInt64), .long ((zI M (zR M a0 4) a5.toNatClampNeg).toInt64), .long (v8_3.toInt64), .long ((-v7_2).toInt64)] M fun M5 => (wX8_divided d Q 196 [some (.ref a0), some (.int a1), some (.int a2), some (.int a3), some (.int a4), some (.int a5), some (.int v6_1), some (.int v7_2), some (.int v8_3), o9, o10, o11] [] M5)))))) ∧ (¬ (0 ≤ v7_2) → ((0 ≤ v7_2 → ((zsh M a0).1 = 16 ∧ (ycV d nX8_multiplied [.ref a0, .long ((zI M (zR M a0 3) a5.toNatClampNeg).toInt64), .long ((zI M (zR M a0 4) a5.toNatClampNeg).toInt64), .long ((-v8_3).toInt64), .long (v7_2.toInt64)] M fun M6 => (wX8_divided d Q 196 [some (.ref a0), some (.int a1), some (.int a2), some (.int a3), some (.int a4), some (.int a5), some (.int v6_1), some (.int v7_2), some (.int v8_3), o9, o10, o11] [] M6)))) ∧ (¬ (0 ≤ v7_2) → ((zsh M a0).1 = 16 ∧ (ycV d nX8_multiplied [.ref a0, .long ((zI M (zR M a0 3) a5.toNatClampNeg).toInt64), .long ((zI M (zR M a0 4) a5.toNatClampNeg).toInt64), .long ((-v8_3).toInt64), .long ((-v7_2).toInt64)] M fun M7 => (wX8_divided d Q 196 [some (.ref a0), some (.int a1), some (.int a2), some (.int a3), some (.int a4), some (.int a5), some (.int v6_1), some (.int v7_2), some (.int v8_3), o9, o10, o11] [] M7)))))))))))))))))))
) : wX8_divided d Q 149 [some (.ref a0), some (.int a1), some (.int a2), some (.int a3), some (.int a4), some (.int a5), o6, o7, o8, o9, o10, o11] [] M := zseg (zCl_good gTb d) (fun j => j == 7 || j == 19 || j == 36 || j == 48 || j == 68 || j == 98 || j == 149 || j == 196) 63 h
set_option maxRecDepth 100000 in
set_option maxHeartbeats 4000000 in
/-- from place 196 -/
theorem sg_X8_divided_196 {d : Nat} {Q : List Value → zM → Prop} (a0 : Nat) (a1 : Int32) (a2 : Int32) (a3 : Int32) (a4 : Int32) (o5 : Option Value) (a6 : Int32) (o7 : Option Value) (o8 : Option Value) (o9 : Option Value) (o10 : Option Value) (o11 : Option Value) (M : zM) (h :
(zsh M a0).1 = 16 ∧ (let v9_1 : Int32 := zI M a0 16
(zsh M a0).1 = 16 ∧ (let v10_2 : Int32 := zI M a0 17
(zsh M a0).1 = 16 ∧ (ycI d nX8_lead [.ref a0, .int a6] M fun c4 M3 => (let v11_5 : Int32 := a3 - c4
(zsh M3 a0).1 = 16 ∧ (ycV d nX8_adds [.ref a0, .int a1, .int (-v9_1), .int v10_2, .int v11_5, .int a6] M3 fun M6 => ((zsh M6 a0).1 = 16 ∧ (ycV d nX8_comes [.ref a0, .int (((100 : Int32)) + a4), .int v9_1, .int v10_2, .int v11_5] M6 fun M7 => (wX8_divided d Q 19 [some (.ref a0), some (.int a1), some (.int a2), some (.int a3), some (.int a4), o5, some (.int a6), o7, zwipe o8, some (.int v9_1), some (.int v10_2), some (.int v11_5)] [] M7))))))))
) : wX8_divided d Q 196 [some (.ref a0), some (.int a1), some (.int a2), some (.int a3), some (.int a4), o5, some (.int a6), o7, o8, o9, o10, o11] [] M := zseg (zCl_good gTb d) (fun j => j == 7 || j == 19 || j == 36 || j == 48 || j == 68 || j == 98 || j == 149 || j == 196) 34 h
abbrev wX8_monic (d : Nat) (Q : List Value → zM → Prop) : Nat → zLv → List Value → zM → Prop := zW (zCl gTb d) 0 kX8_monic Q
theorem en_X8_monic {d : Nat} {Q : List Value → zM → Prop} (a0 : Nat) (a1 : Int32) (M : zM) (h : wX8_monic d Q 0 [some (.ref a0), some (.int a1), none, none, none, none, none, none] [] M) : zCl gTb (d + 1) nX8_monic [.ref a0, .int a1] M Q := ⟨Nat.le_of_ble_eq_true rfl, h⟩
set_option maxRecDepth 100000 in
set_option maxHeartbeats 4000000 in
/-- from place 0 -/
theorem sg_X8_monic_0 {d : Nat} {Q : List Value → zM → Prop} (a0 : Nat) (a1 : Int32) (M : zM) (h :
(zsh M a0).1 = 16 ∧ (let v2_1 : Int32 := (zI M a0 19) + a1
(zsh M a0).1 = 16 ∧ ((zsh M (zR M a0 3)).1 = 2 ∧ (zin (((100 : Int32)) * v2_1) (zsh M (zR M a0 3)).2 ∧ (let v3_2 : Int32 := zI M (zR M a0 3) (((100 : Int32)) * v2_1).toNatClampNeg
(zsh M a0).1 = 16 ∧ ((zsh M (zR M a0 4)).1 = 2 ∧ (zin (((100 : Int32)) * v2_1) (zsh M (zR M a0 4)).2 ∧ (let v4_3 : Int32 := zI M (zR M a0 4) (((100 : Int32)) * v2_1).toNatClampNeg
(0 ≤ v3_2 → (wX8_monic d Q 26 [some (.ref a0), some (.int a1), some (.int v2_1), some (.int v3_2), some (.int v4_3), some (.int v4_3), none, none] [] M)) ∧ (¬ (0 ≤ v3_2) → (let v5_4 : Int32 := -v4_3
wX8_monic d Q 26 [some (.ref a0), some (.int a1), some (.int v2_1), some (.int v3_2), some (.int v4_3), some (.int v5_4), none, none] [] M)))))))))
) : wX8_monic d Q 0 [some (.ref a0), some (.int a1), none, none, none, none, none, none] [] M := zseg (zCl_good gTb d) (fun j => j == 26 || j == 33 || j == 40) 32 h
set_option maxRecDepth 100000 in
set_option maxHeartbeats 4000000 in
/-- from place 26 -/
theorem sg_X8_monic_26 {d : Nat} {Q : List Value → zM → Prop} (a0 : Nat) (a1 : Int32) (a2 : Int32) (a3 : Int32) (o4 : Option Value) (a5 : Int32) (o6 : Option Value) (o7 : Option Value) (M : zM) (h :
(0 ≤ a3 → (wX8_monic d Q 33 [some (.ref a0), some (.int a1), some (.int a2), some (.int a3), o4, some (.int a5), some (.int a3), o7] [] M)) ∧ (¬ (0 ≤ a3) → (let v6_1 : Int32 := -a3
wX8_monic d Q 33 [some (.ref a0), some (.int a1), some (.int a2), some (.int a3), o4, some (.int a5), some (.int v6_1), o7] [] M))
) : wX8_monic d Q 26 [some (.ref a0), some (.int a1), some (.int a2), some (.int a3), o4, some (.int a5), o6, o7] [] M := zseg (zCl_good gTb d) (fun j => j == 26 || j == 33 || j == 40) 13 h
set_option maxRecDepth 100000 in
set_option maxHeartbeats 4000000 in
/-- from place 33 -/
theorem sg_X8_monic_33 {d : Nat} {Q : List Value → zM → Prop} (a0 : Nat) (a1 : Int32) (a2 : Int32) (o3 : Option Value) (o4 : Option Value) (a5 : Int32) (a6 : Int32) (o7 : Option Value) (M : zM) (h :
(zsh M a0).1 = 16 ∧ (ycV d nX8_scaled [.ref a0, .int a2, .int a5, .int a6] M fun M1 => (wX8_monic d Q 40 [some (.ref a0), some (.int a1), some (.int a2), o3, o4, some (.int a5), some (.int a6), some (.int ((0 : Int32)))] [] M1))
) : wX8_monic d Q 33 [some (.ref a0), some (.int a1), some (.int a2), o3, o4, some (.int a5), some (.int a6), o7] [] M := zseg (zCl_good gTb d) (fun j => j == 26 || j == 33 || j == 40) 12 h
set_option maxRecDepth 100000 in
set_option maxHeartbeats 4000000 in
/-- from place 40 -/
theorem sg_X8_monic_40 {d : Nat} {Q : List Value → zM → Prop} (a0 : Nat) (a1 : Int32) (o2 : Option Value) (o3 : Option Value) (o4 : Option Value) (a5 : Int32) (a6 : Int32) (a7 : Int32) (M : zM) (h :
(zsh M a0).1 = 16 ∧ (((zI M a0 7) ≤ a7 → (Q [] M)) ∧ (¬ ((zI M a0 7) ≤ a7) → ((zsh M a0).1 = 16 ∧ (((zI M a0 22) = 0 → (Q [] M)) ∧ (¬ ((zI M a0 22) = 0) → ((zsh M a0).1 = 16 ∧ ((¬ (zI M a0 11) = 0 → (Q [] M)) ∧ (¬ (¬ (zI M a0 11) = 0) → ((zsh M a0).1 = 16 ∧ (ycI d nX8_cofactor [.ref a0, .int a1, .int a7] M fun c2 M1 => ((zsh M1 a0).1 = 16 ∧ (ycV d nX8_scaled [.ref a0, .int c2, .int a5, .int a6] M1 fun M3 => (let v7_4 : Int32 := a7 + 1
wX8_monic d Q 40 [some (.ref a0), some (.int a1), o2, o3, o4, some (.int a5), some (.int a6), some (.int v7_4)] [] M3)))))))))))))
) : wX8_monic d Q 40 [some (.ref a0), some (.int a1), o2, o3, o4, some (.int a5), some (.int a6), some (.int a7)] [] M := zseg (zCl_good gTb d) (fun j => j == 26 || j == 33 || j == 40) 28 h
abbrev wX8_isWaiting (d : Nat) (Q : List Value → zM → Prop) : Nat → zLv → List Value → zM → Prop := zW (zCl gTb d) 2 kX8_isWaiting Q
theorem en_X8_isWaiting {d : Nat} {Q : List Value → zM → Prop} (a0 : Nat) (a1 : Int32) (a2 : Int32) (M : zM) (h : wX8_isWaiting d Q 0 [some (.ref a0), some (.int a1), some (.int a2)] [] M) : zCl gTb (d + 1) nX8_isWaiting [.ref a0, .int a1, .int a2] M Q := ⟨Nat.le_of_ble_eq_true rfl, h⟩
set_option maxRecDepth 100000 in
set_option maxHeartbeats 4000000 in
/-- from place 0 -/
theorem sg_X8_isWaiting_0 {d : Nat} {Q : List Value → zM → Prop} (a0 : Nat) (a1 : Int32) (a2 : Int32) (M : zM) (h :
(zsh M a0).1 = 16 ∧ ((a2 ≤ a1 → ((zsh M (zR M a0 23)).1 = 4 ∧ (zin ((((25 : Int32)) * a2) + a1) (zsh M (zR M a0 23)).2 ∧ (zb (zI M (zR M a0 23) ((((25 : Int32)) * a2) + a1).toNatClampNeg) ∧ (Q [.int (zI M (zR M a0 23) ((((25 : Int32)) * a2) + a1).toNatClampNeg)] M))))) ∧ (¬ (a2 ≤ a1) → ((zsh M (zR M a0 23)).1 = 4 ∧ (zin ((((25 : Int32)) * a1) + a2) (zsh M (zR M a0 23)).2 ∧ (zb (zI M (zR M a0 23) ((((25 : Int32)) * a1) + a2).toNatClampNeg) ∧ (Q [.int (zI M (zR M a0 23) ((((25 : Int32)) * a1) + a2).toNatClampNeg)] M))))))
) : wX8_isWaiting d Q 0 [some (.ref a0), some (.int a1), some (.int a2)] [] M := zseg (zCl_good gTb d) (fun _ => false) 25 h
abbrev wX8_addPairs (d : Nat) (Q : List Value → zM → Prop) : Nat → zLv → List Value → zM → Prop := zW (zCl gTb d) 0 kX8_addPairs Q
theorem en_X8_addPairs {d : Nat} {Q : List Value → zM → Prop} (a0 : Nat) (a1 : Int32) (M : zM) (h : wX8_addPairs d Q 0 [some (.ref a0), some (.int a1), none] [] M) : zCl gTb (d + 1) nX8_addPairs [.ref a0, .int a1] M Q := ⟨Nat.le_of_ble_eq_true rfl, h⟩
set_option maxRecDepth 100000 in
set_option maxHeartbeats 4000000 in
/-- from place 0 -/
theorem sg_X8_addPairs_0 {d : Nat} {Q : List Value → zM → Prop} (a0 : Nat) (a1 : Int32) (M : zM) (h :
wX8_addPairs d Q 2 [some (.ref a0), some (.int a1), some (.int ((0 : Int32)))] [] M
) : wX8_addPairs d Q 0 [some (.ref a0), some (.int a1), none] [] M := zseg (zCl_good gTb d) (fun j => j == 2) 7 h
set_option maxRecDepth 100000 in
set_option maxHeartbeats 4000000 in
/-- from place 2 -/
theorem sg_X8_addPairs_2 {d : Nat} {Q : List Value → zM → Prop} (a0 : Nat) (a1 : Int32) (a2 : Int32) (M : zM) (h :
(a1 ≤ a2 → (Q [] M)) ∧ (¬ (a1 ≤ a2) → ((zsh M a0).1 = 16 ∧ ((zsh M (zR M a0 23)).1 = 4 ∧ (zin ((((25 : Int32)) * a2) + a1) (zsh M (zR M a0 23)).2 ∧ (zb ((1 : Int32)) ∧ (let M1 : zM := zuI M (zR M a0 23) ((((25 : Int32)) * a2) + a1).toNatClampNeg ((1 : Int32))
let v2_2 : Int32 := a2 + 1
wX8_addPairs d Q 2 [some (.ref a0), some (.int a1), some (.int v2_2)] [] M1))))))
) : wX8_addPairs d Q 2 [some (.ref a0), some (.int a1), some (.int a2)] [] M := zseg (zCl_good gTb d) (fun j => j == 2) 20 h
abbrev wX8_isPassed (d : Nat) (Q : List Value → zM → Prop) : Nat → zLv → List Value → zM → Prop := zW (zCl gTb d) 2 kX8_isPassed Q
theorem en_X8_isPassed {d : Nat} {Q : List Value → zM → Prop} (a0 : Nat) (a1 : Int32) (a2 : Int32) (a3 : Int32) (M : zM) (h : wX8_isPassed d Q 0 [some (.ref a0), some (.int a1), some (.int a2), some (.int a3), none, none, none, none] [] M) : zCl gTb (d + 1) nX8_isPassed [.ref a0, .int a1, .int a2, .int a3] M Q := ⟨Nat.le_of_ble_eq_true rfl, h⟩
set_option maxRecDepth 100000 in
set_option maxHeartbeats 4000000 in
/-- from place 0 -/
theorem sg_X8_isPassed_0 {d : Nat} {Q : List Value → zM → Prop} (a0 : Nat) (a1 : Int32) (a2 : Int32) (a3 : Int32) (M : zM) (h :
(zsh M a0).1 = 16 ∧ ((zsh M a0).1 = 16 ∧ (ycI d nX8_lead [.ref a0, .int ((zI M a0 19) + a1)] M fun c2 M1 => ((zsh M1 a0).1 = 16 ∧ ((zsh M1 a0).1 = 16 ∧ (ycI d nX8_lead [.ref a0, .int ((zI M1 a0 19) + a2)] M1 fun c4 M3 => (wX8_isPassed d Q 18 [some (.ref a0), some (.int a1), some (.int a2), some (.int a3), some (.int c2), some (.int c4), some (.int ((1 : Int32))), some (.int ((0 : Int32)))] [] M3))))))
) : wX8_isPassed d Q 0 [some (.ref a0), some (.int a1), some (.int a2), some (.int a3), none, none, none, none] [] M := zseg (zCl_good gTb d) (fun j => j == 18 || j == 36 || j == 40 || j == 76) 23 h
set_option maxRecDepth 100000 in
set_option maxHeartbeats 4000000 in
/-- from place 18 -/
theorem sg_X8_isPassed_18 {d : Nat} {Q : List Value → zM → Prop} (a0 : Nat) (a1 : Int32) (a2 : Int32) (a3 : Int32) (a4 : Int32) (a5 : Int32) (a6 : Int32) (a7 : Int32) (M : zM) (h :
(zsh M a0).1 = 16 ∧ (((zI M a0 1) ≤ a7 → (wX8_isPassed d Q 40 [some (.ref a0), some (.int a1), some (.int a2), some (.int a3), some (.int a4), some (.int a5), some (.int a6), some (.int ((0 : Int32)))] [] M)) ∧ (¬ ((zI M a0 1) ≤ a7) → ((a6 = 0 → (wX8_isPassed d Q 36 [some (.ref a0), some (.int a1), some (.int a2), some (.int a3), some (.int a4), some (.int a5), some (.int ((0 : Int32))), some (.int a7)] [] M)) ∧ (¬ (a6 = 0) → (ycI d nX8_exponent [.int a4, .int a7] M fun c2 M1 => ((c2 = 0 → (wX8_isPassed d Q 36 [some (.ref a0), some (.int a1), some (.int a2), some (.int a3), some (.int a4), some (.int a5), some (.int ((1 : Int32))), some (.int a7)] [] M1)) ∧ (¬ (c2 = 0) → (ycI d nX8_exponent [.int a5, .int a7] M1 fun c4 M3 => ((¬ c4 = 0 → (wX8_isPassed d Q 36 [some (.ref a0), some (.int a1), some (.int a2), some (.int a3), some (.int a4), some (.int a5), some (.int ((0 : Int32))), some (.int a7)] [] M3)) ∧ (¬ (¬ c4 = 0) → (wX8_isPassed d Q 36 [some (.ref a0), some (.int a1), some (.int a2), some (.int a3), some (.int a4), some (.int a5), some (.int ((1 : Int32))), some (.int a7)] [] M3)))))))))))
) : wX8_isPassed d Q 18 [some (.ref a0), some (.int a1), some (.int a2), some (.int a3), some (.int a4), some (.int a5), some (.int a6), some (.int a7)] [] M := zseg (zCl_good gTb d) (fun j => j == 18 || j == 36 || j == 40 || j == 76) 31 h
set_option maxRecDepth 100000 in
set_option maxHeartbeats 4000000 in
/-- from place 36 -/
theorem sg_X8_isPassed_36 {d : Nat} {Q : List Value → zM → Prop} (a0 : Nat) (a1 : Int32) (a2 : Int32) (a3 : Int32) (a4 : Int32) (a5 : Int32) (a6 : Int32) (a7 : Int32) (M : zM) (h :
let v7_1 : Int32 := a7 + 1
wX8_isPassed d Q 18 [some (.ref a0), some (.int a1), some (.int a2), some (.int a3), some (.int a4), some (.int a5), some (.int a6), some (.int v7_1)] [] M
) : wX8_isPassed d Q 36 [some (.ref a0), some (.int a1), some (.int a2), some (.int a3), some (.int a4), some (.int a5), some (.int a6), some (.int a7)] [] M := zseg (zCl_good gTb d) (fun j => j == 18 || j == 36 || j == 40 || j == 76) 7 h
set_option maxRecDepth 100000 in
set_option maxHeartbeats 4000000 in
/-- from place 40 -/
theorem sg_X8_isPassed_40 {d : Nat} {Q : List Value → zM → Prop} (a0 : Nat) (a1 : Int32) (a2 : Int32) (a3 : Int32) (o4 : Option Value) (o5 : Option Value) (a6 : Int32) (a7 : Int32) (M : zM) (h :
(zsh M a0).1 = 16 ∧ (((zI M a0 20) ≤ a7 → (zb a6 ∧ (Q [.int a6] M))) ∧ (¬ ((zI M a0 20) ≤ a7) → ((¬ a6 = 0 → (zb a6 ∧ (Q [.int a6] M))) ∧ (¬ (¬ a6 = 0) → ((a7 = a1 → (wX8_isPassed d Q 76 [some (.ref a0), some (.int a1), some (.int a2), some (.int a3), o4, zwipe o5, some (.int ((0 : Int32))), some (.int a7)] [] M)) ∧ (¬ (a7 = a1) → ((a7 = a2 → (wX8_isPassed d Q 76 [some (.ref a0), some (.int a1), some (.int a2), some (.int a3), o4, zwipe o5, some (.int ((0 : Int32))), some (.int a7)] [] M)) ∧ (¬ (a7 = a2) → ((zsh M a0).1 = 16 ∧ ((zsh M a0).1 = 16 ∧ (ycI d nX8_lead [.ref a0, .int ((zI M a0 19) + a7)] M fun c2 M1 => ((zsh M1 a0).1 = 16 ∧ (ycI d nX8_divides [.ref a0, .int c2, .int a3] M1 fun c4 M3 => ((c4 = 0 → (wX8_isPassed d Q 76 [some (.ref a0), some (.int a1), some (.int a2), some (.int a3), o4, zwipe o5, some (.int ((0 : Int32))), some (.int a7)] [] M3)) ∧ (¬ (c4 = 0) → ((zsh M3 a0).1 = 16 ∧ (ycI d nX8_isWaiting [.ref a0, .int a7, .int a1] M3 fun c6 M5 => ((¬ c6 = 0 → (wX8_isPassed d Q 76 [some (.ref a0), some (.int a1), some (.int a2), some (.int a3), o4, zwipe o5, some (.int ((0 : Int32))), some (.int a7)] [] M5)) ∧ (¬ (¬ c6 = 0) → ((zsh M5 a0).1 = 16 ∧ (ycI d nX8_isWaiting [.ref a0, .int a7, .int a2] M5 fun c8 M7 => ((¬ c8 = 0 → (wX8_isPassed d Q 76 [some (.ref a0), some (.int a1), some (.int a2), some (.int a3), o4, zwipe o5, some (.int ((0 : Int32))), some (.int a7)] [] M7)) ∧ (¬ (¬ c8 = 0) → (wX8_isPassed d Q 76 [some (.ref a0), some (.int a1), some (.int a2), some (.int a3), o4, zwipe o5, some (.int ((1 : Int32))), some (.int a7)] [] M7))))))))))))))))))))))))
) : wX8_isPassed d Q 40 [some (.ref a0), some (.int a1), some (.int a2), some (.int a3), o4, o5, some (.int a6), some (.int a7)] [] M := zseg (zCl_good gTb d) (fun j => j == 18 || j == 36 || j == 40 || j == 76) 54 h
set_option maxRecDepth 100000 in
set_option maxHeartbeats 4000000 in
/-- from place 76 -/
theorem sg_X8_isPassed_76 {d : Nat} {Q : List Value → zM → Prop} (a0 : Nat) (a1 : Int32) (a2 : Int32) (a3 : Int32) (o4 : Option Value) (o5 : Option Value) (a6 : Int32) (a7 : Int32) (M : zM) (h :
let v7_1 : Int32 := a7 + 1
wX8_isPassed d Q 40 [some (.ref a0), some (.int a1), some (.int a2), some (.int a3), o4, o5, some (.int a6), some (.int v7_1)] [] M
) : wX8_isPassed d Q 76 [some (.ref a0), some (.int a1), some (.int a2), some (.int a3), o4, o5, some (.int a6), some (.int a7)] [] M := zseg (zCl_good gTb d) (fun j => j == 18 || j == 36 || j == 40 || j == 76) 7 h
