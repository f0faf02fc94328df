/-! stretches of the small code, by wip/whole/vcgen.py -/
abbrev wX8_make (d : Nat) (Q : List Value → zM → Prop) : Nat → zLv → List Value → zM → Prop := zW (zCl gTb d) 0 kX8_make Q
theorem en_X8_make {d : Nat} {Q : List Value → zM → Prop} (a0 : Nat) (a1 : Int32) (a2 : Int32) (a3 : Int32) (M : zM) (h : wX8_make d Q 0 [some (.ref a0), some (.int a1), some (.int a2), some (.int a3), none, none] [] M) : zCl gTb (d + 1) nX8_make [.ref a0, .int a1, .int a2, .int a3] M Q := ⟨Nat.le_of_ble_eq_true rfl, h⟩
set_option maxRecDepth 100000 in
set_option maxHeartbeats 4000000 in
/-- from place 0 -/
theorem sg_X8_make_0 {d : Nat} {Q : List Value → zM → Prop} (a0 : Nat) (a1 : Int32) (a2 : Int32) (a3 : Int32) (M : zM) (h :
(zsh M a0).1 = 16 ∧ (let M1 : zM := zuI M a0 19 a1
(zsh M a0).1 = 16 ∧ (let M2 : zM := zuI M1 a0 20 ((0 : Int32))
(zsh M a0).1 = 16 ∧ (let M3 : zM := zuI M2 a0 21 (((-1) : Int32))
(zsh M a0).1 = 16 ∧ (zb a3 ∧ (let M4 : zM := zuI M3 a0 22 a3
(zsh M a0).1 = 16 ∧ (let M5 : zM := zuI M4 a0 24 ((0 : Int32))
(zsh M a0).1 = 16 ∧ (let M6 : zM := zuI M5 a0 25 ((0 : Int32))
wX8_make d Q 20 [some (.ref a0), some (.int a1), some (.int a2), some (.int a3), some (.int ((0 : Int32))), none] [] M6)))))))
) : wX8_make d Q 0 [some (.ref a0), some (.int a1), some (.int a2), some (.int a3), none, none] [] M := zseg (zCl_good gTb d) (fun j => j == 20 || j == 32 || j == 57 || j == 85 || j == 87 || j == 104 || j == 106 || j == 122 || j == 134 || j == 136) 25 h
set_option maxRecDepth 100000 in
set_option maxHeartbeats 4000000 in
/-- from place 20 -/
theorem sg_X8_make_20 {d : Nat} {Q : List Value → zM → Prop} (a0 : Nat) (a1 : Int32) (a2 : Int32) (a3 : Int32) (a4 : Int32) (o5 : Option Value) (M : zM) (h :
(((625 : Int32)) ≤ a4 → (wX8_make d Q 32 [some (.ref a0), some (.int a1), some (.int a2), some (.int a3), some (.int ((0 : Int32))), o5] [] M)) ∧ (¬ (((625 : Int32)) ≤ a4) → ((zsh M a0).1 = 16 ∧ ((zsh M (zR M a0 23)).1 = 4 ∧ (zin a4 (zsh M (zR M a0 23)).2 ∧ (zb ((0 : Int32)) ∧ (let M1 : zM := zuI M (zR M a0 23) a4.toNatClampNeg ((0 : Int32))
let v4_2 : Int32 := a4 + 1
wX8_make d Q 20 [some (.ref a0), some (.int a1), some (.int a2), some (.int a3), some (.int v4_2), o5] [] M1))))))
) : wX8_make d Q 20 [some (.ref a0), some (.int a1), some (.int a2), some (.int a3), some (.int a4), o5] [] M := zseg (zCl_good gTb d) (fun j => j == 20 || j == 32 || j == 57 || j == 85 || j == 87 || j == 104 || j == 106 || j == 122 || j == 134 || j == 136) 17 h
set_option maxRecDepth 100000 in
set_option maxHeartbeats 4000000 in
/-- from place 32 -/
theorem sg_X8_make_32 {d : Nat} {Q : List Value → zM → Prop} (a0 : Nat) (a1 : Int32) (a2 : Int32) (a3 : Int32) (a4 : Int32) (o5 : Option Value) (M : zM) (h :
(a2 ≤ a4 → (wX8_make d Q 106 [some (.ref a0), some (.int a1), some (.int a2), some (.int a3), some (.int a4), o5] [] M)) ∧ (¬ (a2 ≤ a4) → ((zsh M a0).1 = 16 ∧ ((¬ (zI M a0 11) = 0 → (wX8_make d Q 106 [some (.ref a0), some (.int a1), some (.int a2), some (.int a3), some (.int a4), o5] [] M)) ∧ (¬ (¬ (zI M a0 11) = 0) → ((zsh M a0).1 = 16 ∧ ((zsh M (zR M a0 6)).1 = 2 ∧ (zin (((40 : Int32)) + a4) (zsh M (zR M a0 6)).2 ∧ ((¬ (zI M (zR M a0 6) (((40 : Int32)) + a4).toNatClampNeg) = 0 → ((zsh M a0).1 = 16 ∧ ((zsh M a0).1 = 16 ∧ (ycV d nX8_copy [.ref a0, .int (((40 : Int32)) + a4), .int (a1 + (zI M a0 20))] M fun M1 => (wX8_make d Q 57 [some (.ref a0), some (.int a1), some (.int a2), some (.int a3), some (.int a4), some (.int ((0 : Int32)))] [] M1))))) ∧ (¬ (¬ (zI M (zR M a0 6) (((40 : Int32)) + a4).toNatClampNeg) = 0) → (wX8_make d Q 104 [some (.ref a0), some (.int a1), some (.int a2), some (.int a3), some (.int a4), o5] [] M))))))))))
) : wX8_make d Q 32 [some (.ref a0), some (.int a1), some (.int a2), some (.int a3), some (.int a4), o5] [] M := zseg (zCl_good gTb d) (fun j => j == 20 || j == 32 || j == 57 || j == 85 || j == 87 || j == 104 || j == 106 || j == 122 || j == 134 || j == 136) 30 h
set_option maxRecDepth 100000 in
set_option maxHeartbeats 4000000 in
/-- from place 57 -/
theorem sg_X8_make_57 {d : Nat} {Q : List Value → zM → Prop} (a0 : Nat) (a1 : Int32) (a2 : Int32) (a3 : Int32) (a4 : Int32) (a5 : Int32) (M : zM) (h :
(zsh M a0).1 = 16 ∧ (((zI M a0 7) ≤ a5 → (wX8_make d Q 87 [some (.ref a0), some (.int a1), some (.int a2), some (.int a3), some (.int a4), some (.int a5)] [] M)) ∧ (¬ ((zI M a0 7) ≤ a5) → ((a3 = 0 → (wX8_make d Q 87 [some (.ref a0), some (.int a1), some (.int a2), some (.int a3), some (.int a4), some (.int a5)] [] M)) ∧ (¬ (a3 = 0) → ((zsh M a0).1 = 16 ∧ ((zsh M a0).1 = 16 ∧ ((zsh M a0).1 = 16 ∧ (ycI d nX8_cofactor [.ref a0, .int (zI M a0 20), .int a5] M fun c2 M1 => ((zsh M1 (zR M a0 6)).1 = 2 ∧ (zin c2 (zsh M1 (zR M a0 6)).2 ∧ (let M3 : zM := zuI M1 (zR M a0 6) c2.toNatClampNeg ((0 : Int32))
(¬ a5 = a4 → (wX8_make d Q 85 [some (.ref a0), some (.int a1), some (.int a2), some (.int a3), some (.int a4), some (.int a5)] [] M3)) ∧ (¬ (¬ a5 = a4) → ((zsh M1 a0).1 = 16 ∧ ((zsh M1 a0).1 = 16 ∧ (ycI d nX8_cofactor [.ref a0, .int (zI M3 a0 20), .int a5] M3 fun c5 M4 => ((zsh M4 a0).1 = 16 ∧ (ycV d nX8_comes [.ref a0, .int c5, .int ((1 : Int32)), .int ((1 : Int32)), .int ((0 : Int32))] M4 fun M6 => (wX8_make d Q 85 [some (.ref a0), some (.int a1), some (.int a2), some (.int a3), some (.int a4), some (.int a5)] [] M6))))))))))))))))))
) : wX8_make d Q 57 [some (.ref a0), some (.int a1), some (.int a2), some (.int a3), some (.int a4), some (.int a5)] [] M := zseg (zCl_good gTb d) (fun j => j == 20 || j == 32 || j == 57 || j == 85 || j == 87 || j == 104 || j == 106 || j == 122 || j == 134 || j == 136) 33 h
set_option maxRecDepth 100000 in
set_option maxHeartbeats 4000000 in
/-- from place 85 -/
theorem sg_X8_make_85 {d : Nat} {Q : List Value → zM → Prop} (a0 : Nat) (a1 : Int32) (a2 : Int32) (a3 : Int32) (a4 : Int32) (a5 : Int32) (M : zM) (h :
let v5_1 : Int32 := a5 + 1
wX8_make d Q 57 [some (.ref a0), some (.int a1), some (.int a2), some (.int a3), some (.int a4), some (.int v5_1)] [] M
) : wX8_make d Q 85 [some (.ref a0), some (.int a1), some (.int a2), some (.int a3), some (.int a4), some (.int a5)] [] M := zseg (zCl_good gTb d) (fun j => j == 20 || j == 32 || j == 57 || j == 85 || j == 87 || j == 104 || j == 106 || j == 122 || j == 134 || j == 136) 7 h
set_option maxRecDepth 100000 in
set_option maxHeartbeats 4000000 in
/-- from place 87 -/
theorem sg_X8_make_87 {d : Nat} {Q : List Value → zM → Prop} (a0 : Nat) (a1 : Int32) (a2 : Int32) (a3 : Int32) (a4 : Int32) (o5 : Option Value) (M : zM) (h :
(zsh M a0).1 = 16 ∧ ((zsh M a0).1 = 16 ∧ (ycV d nX8_monic [.ref a0, .int (zI M a0 20)] M fun M1 => ((zsh M1 a0).1 = 16 ∧ ((¬ (zI M1 a0 11) = 0 → (wX8_make d Q 104 [some (.ref a0), some (.int a1), some (.int a2), some (.int a3), some (.int a4), o5] [] M1)) ∧ (¬ (¬ (zI M1 a0 11) = 0) → ((zsh M1 a0).1 = 16 ∧ ((zsh M1 a0).1 = 16 ∧ (ycV d nX8_addPairs [.ref a0, .int (zI M1 a0 20)] M1 fun M2 => ((zsh M2 a0).1 = 16 ∧ ((zsh M2 a0).1 = 16 ∧ (let M3 : zM := zuI M2 a0 20 ((zI M2 a0 20) + ((1 : Int32)))
wX8_make d Q 104 [some (.ref a0), some (.int a1), some (.int a2), some (.int a3), some (.int a4), o5] [] M3)))))))))))
) : wX8_make d Q 87 [some (.ref a0), some (.int a1), some (.int a2), some (.int a3), some (.int a4), o5] [] M := zseg (zCl_good gTb d) (fun j => j == 20 || j == 32 || j == 57 || j == 85 || j == 87 || j == 104 || j == 106 || j == 122 || j == 134 || j == 136) 22 h
set_option maxRecDepth 100000 in
set_option maxHeartbeats 4000000 in
/-- from place 104 -/
theorem sg_X8_make_104 {d : Nat} {Q : List Value → zM → Prop} (a0 : Nat) (a1 : Int32) (a2 : Int32) (a3 : Int32) (a4 : Int32) (o5 : Option Value) (M : zM) (h :
let v4_1 : Int32 := a4 + 1
wX8_make d Q 32 [some (.ref a0), some (.int a1), some (.int a2), some (.int a3), some (.int v4_1), o5] [] M
) : wX8_make d Q 104 [some (.ref a0), some (.int a1), some (.int a2), some (.int a3), some (.int a4), o5] [] M := zseg (zCl_good gTb d) (fun j => j == 20 || j == 32 || j == 57 || j == 85 || j == 87 || j == 104 || j == 106 || j == 122 || j == 134 || j == 136) 7 h
set_option maxRecDepth 100000 in
set_option maxHeartbeats 4000000 in
/-- from place 106 -/
theorem sg_X8_make_106 {d : Nat} {Q : List Value → zM → Prop} (a0 : Nat) (o1 : Option Value) (o2 : Option Value) (o3 : Option Value) (o4 : Option Value) (o5 : Option Value) (M : zM) (h :
(zsh M a0).1 = 16 ∧ ((¬ (zI M a0 11) = 0 → (wX8_make d Q 122 [some (.ref a0), o1, o2, o3, o4, o5] [] M)) ∧ (¬ (¬ (zI M a0 11) = 0) → ((zsh M a0).1 = 16 ∧ ((¬ (zI M a0 12) = 0 → (wX8_make d Q 122 [some (.ref a0), o1, o2, o3, o4, o5] [] M)) ∧ (¬ (¬ (zI M a0 12) = 0) → ((zsh M a0).1 = 16 ∧ (ycI d nX8_onePair [.ref a0] M fun c2 M1 => ((c2 = 0 → (wX8_make d Q 122 [some (.ref a0), o1, o2, o3, o4, o5] [] M1)) ∧ (¬ (c2 = 0) → ((zsh M1 a0).1 = 16 ∧ ((zsh M1 a0).1 = 16 ∧ (let M3 : zM := zuI M1 a0 24 ((zI M1 a0 24) + ((0 : Int32)))
wX8_make d Q 106 [some (.ref a0), o1, o2, o3, o4, o5] [] M3))))))))))))
) : wX8_make d Q 106 [some (.ref a0), o1, o2, o3, o4, o5] [] M := zseg (zCl_good gTb d) (fun j => j == 20 || j == 32 || j == 57 || j == 85 || j == 87 || j == 104 || j == 106 || j == 122 || j == 134 || j == 136) 21 h
set_option maxRecDepth 100000 in
set_option maxHeartbeats 4000000 in
/-- from place 122 -/
theorem sg_X8_make_122 {d : Nat} {Q : List Value → zM → Prop} (a0 : Nat) (o1 : Option Value) (o2 : Option Value) (o3 : Option Value) (o4 : Option Value) (o5 : Option Value) (M : zM) (h :
(zsh M a0).1 = 16 ∧ ((zsh M a0).1 = 16 ∧ (let M1 : zM := zuI M a0 26 (zI M a0 20)
(zsh M a0).1 = 16 ∧ ((¬ (zI M1 a0 11) = 0 → (wX8_make d Q 134 [some (.ref a0), o1, o2, o3, o4, o5] [] M1)) ∧ (¬ (¬ (zI M1 a0 11) = 0) → ((zsh M a0).1 = 16 ∧ ((¬ (zI M1 a0 12) = 0 → (wX8_make d Q 134 [some (.ref a0), o1, o2, o3, o4, o5] [] M1)) ∧ (¬ (¬ (zI M1 a0 12) = 0) → ((zsh M a0).1 = 16 ∧ (ycV d nX8_clean [.ref a0] M1 fun M2 => (wX8_make d Q 134 [some (.ref a0), o1, o2, o3, o4, o5] [] M2))))))))))
) : wX8_make d Q 122 [some (.ref a0), o1, o2, o3, o4, o5] [] M := zseg (zCl_good gTb d) (fun j => j == 20 || j == 32 || j == 57 || j == 85 || j == 87 || j == 104 || j == 106 || j == 122 || j == 134 || j == 136) 17 h
set_option maxRecDepth 100000 in
set_option maxHeartbeats 4000000 in
/-- from place 134 -/
theorem sg_X8_make_134 {d : Nat} {Q : List Value → zM → Prop} (a0 : Nat) (o1 : Option Value) (o2 : Option Value) (o3 : Option Value) (o4 : Option Value) (o5 : Option Value) (M : zM) (h :
wX8_make d Q 136 [some (.ref a0), o1, o2, zwipe o3, some (.int ((0 : Int32))), o5] [] M
) : wX8_make d Q 134 [some (.ref a0), o1, o2, o3, o4, o5] [] M := zseg (zCl_good gTb d) (fun j => j == 20 || j == 32 || j == 57 || j == 85 || j == 87 || j == 104 || j == 106 || j == 122 || j == 134 || j == 136) 7 h
set_option maxRecDepth 100000 in
set_option maxHeartbeats 4000000 in
/-- from place 136 -/
theorem sg_X8_make_136 {d : Nat} {Q : List Value → zM → Prop} (a0 : Nat) (o1 : Option Value) (o2 : Option Value) (o3 : Option Value) (a4 : Int32) (o5 : Option Value) (M : zM) (h :
(zsh M a0).1 = 16 ∧ (((zI M a0 20) ≤ a4 → (Q [] M)) ∧ (¬ ((zI M a0 20) ≤ a4) → ((zsh M a0).1 = 16 ∧ ((¬ (zI M a0 11) = 0 → (Q [] M)) ∧ (¬ (¬ (zI M a0 11) = 0) → ((zsh M a0).1 = 16 ∧ ((¬ (zI M a0 12) = 0 → (Q [] M)) ∧ (¬ (¬ (zI M a0 12) = 0) → ((zsh M a0).1 = 16 ∧ (ycV d nX8_reduce [.ref a0, .int a4] M fun M1 => (let v4_2 : Int32 := a4 + 1
wX8_make d Q 136 [some (.ref a0), o1, o2, zwipe o3, some (.int v4_2), o5] [] M1)))))))))))
) : wX8_make d Q 136 [some (.ref a0), o1, o2, o3, some (.int a4), o5] [] M := zseg (zCl_good gTb d) (fun j => j == 20 || j == 32 || j == 57 || j == 85 || j == 87 || j == 104 || j == 106 || j == 122 || j == 134 || j == 136) 23 h
abbrev wX8_onePair (d : Nat) (Q : List Value → zM → Prop) : Nat → zLv → List Value → zM → Prop := zW (zCl gTb d) 2 kX8_onePair Q
theorem en_X8_onePair {d : Nat} {Q : List Value → zM → Prop} (a0 : Nat) (M : zM) (h : wX8_onePair d Q 0 [some (.ref a0), none, none, none, none, none, none, none] [] M) : zCl gTb (d + 1) nX8_onePair [.ref a0] M Q := ⟨Nat.le_of_ble_eq_true rfl, h⟩
set_option maxRecDepth 100000 in
set_option maxHeartbeats 4000000 in
/-- from place 0 -/
theorem sg_X8_onePair_0 {d : Nat} {Q : List Value → zM → Prop} (a0 : Nat) (M : zM) (h :
let v1_1 : Int32 := ((-1) : Int32)
let v2_2 : Int32 := ((-1) : Int32)
wX8_onePair d Q 8 [some (.ref a0), some (.int v1_1), some (.int v2_2), some (.int ((0 : Int32))), some (.int ((0 : Int32))), none, none, none] [] M
) : wX8_onePair d Q 0 [some (.ref a0), none, none, none, none, none, none, none] [] M := zseg (zCl_good gTb d) (fun j => j == 8 || j == 14 || j == 48 || j == 54 || j == 58 || j == 62 || j == 91 || j == 116 || j == 138 || j == 181 || j == 186 || j == 203 || j == 212 || j == 214 || j == 233 || j == 238 || j == 248 || j == 267) 13 h
set_option maxRecDepth 100000 in
set_option maxHeartbeats 4000000 in
/-- from place 8 -/
theorem sg_X8_onePair_8 {d : Nat} {Q : List Value → zM → Prop} (a0 : Nat) (a1 : Int32) (a2 : Int32) (a3 : Int32) (a4 : Int32) (o5 : Option Value) (o6 : Option Value) (o7 : Option Value) (M : zM) (h :
(zsh M a0).1 = 16 ∧ (((zI M a0 20) ≤ a4 → (wX8_onePair d Q 58 [some (.ref a0), some (.int a1), some (.int a2), some (.int a3), some (.int a4), o5, o6, o7] [] M)) ∧ (¬ ((zI M a0 20) ≤ a4) → (wX8_onePair d Q 14 [some (.ref a0), some (.int a1), some (.int a2), some (.int a3), some (.int a4), some (.int ((0 : Int32))), o6, o7] [] M)))
) : wX8_onePair d Q 8 [some (.ref a0), some (.int a1), some (.int a2), some (.int a3), some (.int a4), o5, o6, o7] [] M := zseg (zCl_good gTb d) (fun j => j == 8 || j == 14 || j == 48 || j == 54 || j == 58 || j == 62 || j == 91 || j == 116 || j == 138 || j == 181 || j == 186 || j == 203 || j == 212 || j == 214 || j == 233 || j == 238 || j == 248 || j == 267) 11 h
set_option maxRecDepth 100000 in
set_option maxHeartbeats 4000000 in
/-- from place 14 -/
theorem sg_X8_onePair_14 {d : Nat} {Q : List Value → zM → Prop} (a0 : Nat) (a1 : Int32) (a2 : Int32) (a3 : Int32) (a4 : Int32) (a5 : Int32) (o6 : Option Value) (o7 : Option Value) (M : zM) (h :
(a4 ≤ a5 → (let v4_1 : Int32 := a4 + 1
wX8_onePair d Q 8 [some (.ref a0), some (.int a1), some (.int a2), some (.int a3), some (.int v4_1), some (.int a5), o6, o7] [] M)) ∧ (¬ (a4 ≤ a5) → ((zsh M a0).1 = 16 ∧ ((zsh M (zR M a0 23)).1 = 4 ∧ (zin ((((25 : Int32)) * a5) + a4) (zsh M (zR M a0 23)).2 ∧ (((zI M (zR M a0 23) ((((25 : Int32)) * a5) + a4).toNatClampNeg) = 0 → (wX8_onePair d Q 54 [some (.ref a0), some (.int a1), some (.int a2), some (.int a3), some (.int a4), some (.int a5), o6, o7] [] M)) ∧ (¬ ((zI M (zR M a0 23) ((((25 : Int32)) * a5) + a4).toNatClampNeg) = 0) → ((zsh M a0).1 = 16 ∧ ((zsh M a0).1 = 16 ∧ (ycI d nX8_lead [.ref a0, .int ((zI M a0 19) + a5)] M fun c3 M2 => ((zsh M2 a0).1 = 16 ∧ ((zsh M2 a0).1 = 16 ∧ (ycI d nX8_lead [.ref a0, .int ((zI M2 a0 19) + a4)] M2 fun c5 M4 => ((zsh M4 a0).1 = 16 ∧ (ycI d nX8_common [.ref a0, .int c3, .int c5] M4 fun c7 M6 => ((a1 < 0 → (wX8_onePair d Q 48 [some (.ref a0), some (.int a1), some (.int a2), some (.int a3), some (.int a4), some (.int a5), some (.int c7), o7] [] M6)) ∧ (¬ (a1 < 0) → ((zsh M6 a0).1 = 16 ∧ (ycI d nX8_compare [.ref a0, .int c7, .int a3] M6 fun c9 M8 => ((0 ≤ c9 → (wX8_onePair d Q 54 [some (.ref a0), some (.int a1), some (.int a2), some (.int a3), some (.int a4), some (.int a5), some (.int c7), o7] [] M8)) ∧ (¬ (0 ≤ c9) → (wX8_onePair d Q 48 [some (.ref a0), some (.int a1), some (.int a2), some (.int a3), some (.int a4), some (.int a5), some (.int c7), o7] [] M8)))))))))))))))))))))
) : wX8_onePair d Q 14 [some (.ref a0), some (.int a1), some (.int a2), some (.int a3), some (.int a4), some (.int a5), o6, o7] [] M := zseg (zCl_good gTb d) (fun j => j == 8 || j == 14 || j == 48 || j == 54 || j == 58 || j == 62 || j == 91 || j == 116 || j == 138 || j == 181 || j == 186 || j == 203 || j == 212 || j == 214 || j == 233 || j == 238 || j == 248 || j == 267) 41 h
set_option maxRecDepth 100000 in
set_option maxHeartbeats 4000000 in
/-- from place 48 -/
theorem sg_X8_onePair_48 {d : Nat} {Q : List Value → zM → Prop} (a0 : Nat) (o1 : Option Value) (o2 : Option Value) (o3 : Option Value) (a4 : Int32) (a5 : Int32) (a6 : Int32) (o7 : Option Value) (M : zM) (h :
wX8_onePair d Q 54 [some (.ref a0), some (.int a5), some (.int a4), some (.int a6), some (.int a4), some (.int a5), some (.int a6), o7] [] M
) : wX8_onePair d Q 48 [some (.ref a0), o1, o2, o3, some (.int a4), some (.int a5), some (.int a6), o7] [] M := zseg (zCl_good gTb d) (fun j => j == 8 || j == 14 || j == 48 || j == 54 || j == 58 || j == 62 || j == 91 || j == 116 || j == 138 || j == 181 || j == 186 || j == 203 || j == 212 || j == 214 || j == 233 || j == 238 || j == 248 || j == 267) 11 h
set_option maxRecDepth 100000 in
set_option maxHeartbeats 4000000 in
/-- from place 54 -/
theorem sg_X8_onePair_54 {d : Nat} {Q : List Value → zM → Prop} (a0 : Nat) (a1 : Int32) (a2 : Int32) (a3 : Int32) (a4 : Int32) (a5 : Int32) (o6 : Option Value) (o7 : Option Value) (M : zM) (h :
let v5_1 : Int32 := a5 + 1
wX8_onePair d Q 14 [some (.ref a0), some (.int a1), some (.int a2), some (.int a3), some (.int a4), some (.int v5_1), o6, o7] [] M
) : wX8_onePair d Q 54 [some (.ref a0), some (.int a1), some (.int a2), some (.int a3), some (.int a4), some (.int a5), o6, o7] [] M := zseg (zCl_good gTb d) (fun j => j == 8 || j == 14 || j == 48 || j == 54 || j == 58 || j == 62 || j == 91 || j == 116 || j == 138 || j == 181 || j == 186 || j == 203 || j == 212 || j == 214 || j == 233 || j == 238 || j == 248 || j == 267) 7 h
set_option maxRecDepth 100000 in
set_option maxHeartbeats 4000000 in
/-- from place 58 -/
theorem sg_X8_onePair_58 {d : Nat} {Q : List Value → zM → Prop} (a0 : Nat) (a1 : Int32) (a2 : Int32) (a3 : Int32) (o4 : Option Value) (o5 : Option Value) (o6 : Option Value) (o7 : Option Value) (M : zM) (h :
(0 ≤ a1 → (wX8_onePair d Q 62 [some (.ref a0), some (.int a1), some (.int a2), some (.int a3), o4, o5, o6, o7] [] M)) ∧ (¬ (0 ≤ a1) → (zb ((0 : Int32)) ∧ (Q [.int ((0 : Int32))] M)))
) : wX8_onePair d Q 58 [some (.ref a0), some (.int a1), some (.int a2), some (.int a3), o4, o5, o6, o7] [] M := zseg (zCl_good gTb d) (fun j => j == 8 || j == 14 || j == 48 || j == 54 || j == 58 || j == 62 || j == 91 || j == 116 || j == 138 || j == 181 || j == 186 || j == 203 || j == 212 || j == 214 || j == 233 || j == 238 || j == 248 || j == 267) 9 h
set_option maxRecDepth 100000 in
set_option maxHeartbeats 4000000 in
/-- from place 62 -/
theorem sg_X8_onePair_62 {d : Nat} {Q : List Value → zM → Prop} (a0 : Nat) (a1 : Int32) (a2 : Int32) (a3 : Int32) (o4 : Option Value) (o5 : Option Value) (o6 : Option Value) (o7 : Option Value) (M : zM) (h :
(zsh M a0).1 = 16 ∧ ((zsh M (zR M a0 23)).1 = 4 ∧ (zin ((((25 : Int32)) * a1) + a2) (zsh M (zR M a0 23)).2 ∧ (zb ((0 : Int32)) ∧ (let M1 : zM := zuI M (zR M a0 23) ((((25 : Int32)) * a1) + a2).toNatClampNeg ((0 : Int32))
(zsh M a0).1 = 16 ∧ ((zsh M a0).1 = 16 ∧ (let M2 : zM := zuI M1 a0 24 ((zI M1 a0 24) + ((1 : Int32)))
(zsh M a0).1 = 16 ∧ (ycI d nX8_isPassed [.ref a0, .int a1, .int a2, .int a3] M2 fun c4 M3 => ((c4 = 0 → (wX8_onePair d Q 91 [some (.ref a0), some (.int a1), some (.int a2), some (.int a3), o4, o5, o6, o7] [] M3)) ∧ (¬ (c4 = 0) → ((zsh M3 a0).1 = 16 ∧ ((zsh M3 a0).1 = 16 ∧ (let M5 : zM := zuI M3 a0 25 ((zI M3 a0 25) + ((1 : Int32)))
zb ((1 : Int32)) ∧ (Q [.int ((1 : Int32))] M5)))))))))))))
) : wX8_onePair d Q 62 [some (.ref a0), some (.int a1), some (.int a2), some (.int a3), o4, o5, o6, o7] [] M := zseg (zCl_good gTb d) (fun j => j == 8 || j == 14 || j == 48 || j == 54 || j == 58 || j == 62 || j == 91 || j == 116 || j == 138 || j == 181 || j == 186 || j == 203 || j == 212 || j == 214 || j == 233 || j == 238 || j == 248 || j == 267) 34 h
set_option maxRecDepth 100000 in
set_option maxHeartbeats 4000000 in
/-- from place 91 -/
theorem sg_X8_onePair_91 {d : Nat} {Q : List Value → zM → Prop} (a0 : Nat) (a1 : Int32) (a2 : Int32) (a3 : Int32) (o4 : Option Value) (o5 : Option Value) (o6 : Option Value) (o7 : Option Value) (M : zM) (h :
(zsh M a0).1 = 16 ∧ ((zsh M a0).1 = 16 ∧ (ycI d nX8_lead [.ref a0, .int ((zI M a0 19) + a1)] M fun c2 M1 => (let v4_3 : Int32 := a3 - c2
(zsh M1 a0).1 = 16 ∧ ((zsh M1 a0).1 = 16 ∧ (ycI d nX8_lead [.ref a0, .int ((zI M1 a0 19) + a2)] M1 fun c5 M4 => (let v5_6 : Int32 := a3 - c5
(zsh M4 a0).1 = 16 ∧ ((zsh M4 (zR M4 a0 6)).1 = 2 ∧ (zin ((151 : Int32)) (zsh M4 (zR M4 a0 6)).2 ∧ (let M7 : zM := zuI M4 (zR M4 a0 6) ((151 : Int32)).toNatClampNeg ((0 : Int32))
wX8_onePair d Q 116 [some (.ref a0), some (.int a1), some (.int a2), some (.int a3), some (.int v4_3), some (.int v5_6), some (.int ((151 : Int32))), o7] [] M7)))))))))
) : wX8_onePair d Q 91 [some (.ref a0), some (.int a1), some (.int a2), some (.int a3), o4, o5, o6, o7] [] M := zseg (zCl_good gTb d) (fun j => j == 8 || j == 14 || j == 48 || j == 54 || j == 58 || j == 62 || j == 91 || j == 116 || j == 138 || j == 181 || j == 186 || j == 203 || j == 212 || j == 214 || j == 233 || j == 238 || j == 248 || j == 267) 30 h
set_option maxRecDepth 100000 in
set_option maxHeartbeats 4000000 in
/-- from place 116 -/
theorem sg_X8_onePair_116 {d : Nat} {Q : List Value → zM → Prop} (a0 : Nat) (a1 : Int32) (a2 : Int32) (o3 : Option Value) (a4 : Int32) (a5 : Int32) (a6 : Int32) (o7 : Option Value) (M : zM) (h :
(zsh M a0).1 = 16 ∧ ((zsh M a0).1 = 16 ∧ (ycV d nX8_adds [.ref a0, .int a6, .int ((1 : Int32)), .int ((1 : Int32)), .int a4, .int ((zI M a0 19) + a1)] M fun M1 => ((zsh M1 a0).1 = 16 ∧ ((zsh M1 a0).1 = 16 ∧ (ycV d nX8_adds [.ref a0, .int a6, .int (((-1) : Int32)), .int ((1 : Int32)), .int a5, .int ((zI M1 a0 19) + a2)] M1 fun M2 => (wX8_onePair d Q 138 [some (.ref a0), some (.int a1), some (.int a2), o3, some (.int a4), some (.int a5), some (.int a6), some (.int ((0 : Int32)))] [] M2))))))
) : wX8_onePair d Q 116 [some (.ref a0), some (.int a1), some (.int a2), o3, some (.int a4), some (.int a5), some (.int a6), o7] [] M := zseg (zCl_good gTb d) (fun j => j == 8 || j == 14 || j == 48 || j == 54 || j == 58 || j == 62 || j == 91 || j == 116 || j == 138 || j == 181 || j == 186 || j == 203 || j == 212 || j == 214 || j == 233 || j == 238 || j == 248 || j == 267) 27 h
set_option maxRecDepth 100000 in
set_option maxHeartbeats 4000000 in
/-- from place 138 -/
theorem sg_X8_onePair_138 {d : Nat} {Q : List Value → zM → Prop} (a0 : Nat) (a1 : Int32) (a2 : Int32) (o3 : Option Value) (a4 : Int32) (a5 : Int32) (a6 : Int32) (a7 : Int32) (M : zM) (h :
(zsh M a0).1 = 16 ∧ (((zI M a0 7) ≤ a7 → (wX8_onePair d Q 181 [some (.ref a0), some (.int a1), some (.int a2), o3, some (.int a4), some (.int a5), some (.int a6), some (.int a7)] [] M)) ∧ (¬ ((zI M a0 7) ≤ a7) → ((zsh M a0).1 = 16 ∧ (((zI M a0 22) = 0 → (wX8_onePair d Q 181 [some (.ref a0), some (.int a1), some (.int a2), o3, some (.int a4), some (.int a5), some (.int a6), some (.int a7)] [] M)) ∧ (¬ ((zI M a0 22) = 0) → ((zsh M a0).1 = 16 ∧ ((¬ (zI M a0 11) = 0 → (wX8_onePair d Q 181 [some (.ref a0), some (.int a1), some (.int a2), o3, some (.int a4), some (.int a5), some (.int a6), some (.int a7)] [] M)) ∧ (¬ (¬ (zI M a0 11) = 0) → ((zsh M a0).1 = 16 ∧ ((zsh M (zR M a0 6)).1 = 2 ∧ (zin (((154 : Int32)) + a7) (zsh M (zR M a0 6)).2 ∧ (let M1 : zM := zuI M (zR M a0 6) (((154 : Int32)) + a7).toNatClampNeg ((0 : Int32))
(zsh M a0).1 = 16 ∧ (ycI d nX8_cofactor [.ref a0, .int a1, .int a7] M1 fun c3 M2 => ((zsh M2 a0).1 = 16 ∧ (ycV d nX8_adds [.ref a0, .int (((154 : Int32)) + a7), .int ((1 : Int32)), .int ((1 : Int32)), .int a4, .int c3] M2 fun M4 => ((zsh M4 a0).1 = 16 ∧ (ycI d nX8_cofactor [.ref a0, .int a2, .int a7] M4 fun c6 M5 => ((zsh M5 a0).1 = 16 ∧ (ycV d nX8_adds [.ref a0, .int (((154 : Int32)) + a7), .int (((-1) : Int32)), .int ((1 : Int32)), .int a5, .int c6] M5 fun M7 => (let v7_8 : Int32 := a7 + 1
wX8_onePair d Q 138 [some (.ref a0), some (.int a1), some (.int a2), o3, some (.int a4), some (.int a5), some (.int a6), some (.int v7_8)] [] M7))))))))))))))))))))
) : wX8_onePair d Q 138 [some (.ref a0), some (.int a1), some (.int a2), o3, some (.int a4), some (.int a5), some (.int a6), some (.int a7)] [] M := zseg (zCl_good gTb d) (fun j => j == 8 || j == 14 || j == 48 || j == 54 || j == 58 || j == 62 || j == 91 || j == 116 || j == 138 || j == 181 || j == 186 || j == 203 || j == 212 || j == 214 || j == 233 || j == 238 || j == 248 || j == 267) 48 h
set_option maxRecDepth 100000 in
set_option maxHeartbeats 4000000 in
/-- from place 181 -/
theorem sg_X8_onePair_181 {d : Nat} {Q : List Value → zM → Prop} (a0 : Nat) (o1 : Option Value) (o2 : Option Value) (o3 : Option Value) (o4 : Option Value) (o5 : Option Value) (a6 : Int32) (o7 : Option Value) (M : zM) (h :
(zsh M a0).1 = 16 ∧ (((zI M a0 11) = 0 → (wX8_onePair d Q 186 [some (.ref a0), o1, o2, o3, o4, o5, some (.int a6), o7] [] M)) ∧ (¬ ((zI M a0 11) = 0) → (zb ((1 : Int32)) ∧ (Q [.int ((1 : Int32))] M))))
) : wX8_onePair d Q 181 [some (.ref a0), o1, o2, o3, o4, o5, some (.int a6), o7] [] M := zseg (zCl_good gTb d) (fun j => j == 8 || j == 14 || j == 48 || j == 54 || j == 58 || j == 62 || j == 91 || j == 116 || j == 138 || j == 181 || j == 186 || j == 203 || j == 212 || j == 214 || j == 233 || j == 238 || j == 248 || j == 267) 10 h
set_option maxRecDepth 100000 in
set_option maxHeartbeats 4000000 in
/-- from place 186 -/
theorem sg_X8_onePair_186 {d : Nat} {Q : List Value → zM → Prop} (a0 : Nat) (o1 : Option Value) (o2 : Option Value) (o3 : Option Value) (o4 : Option Value) (o5 : Option Value) (a6 : Int32) (o7 : Option Value) (M : zM) (h :
(zsh M a0).1 = 16 ∧ (ycV d nX8_divided [.ref a0, .int a6, .int ((152 : Int32))] M fun M1 => ((zsh M1 a0).1 = 16 ∧ ((¬ (zI M1 a0 11) = 0 → (zb ((1 : Int32)) ∧ (Q [.int ((1 : Int32))] M1))) ∧ (¬ (¬ (zI M1 a0 11) = 0) → ((zsh M1 a0).1 = 16 ∧ ((¬ (zI M1 a0 12) = 0 → (zb ((1 : Int32)) ∧ (Q [.int ((1 : Int32))] M1))) ∧ (¬ (¬ (zI M1 a0 12) = 0) → ((zsh M1 a0).1 = 16 ∧ ((zsh M1 (zR M1 a0 6)).1 = 2 ∧ (zin ((152 : Int32)) (zsh M1 (zR M1 a0 6)).2 ∧ ((¬ (zI M1 (zR M1 a0 6) ((152 : Int32)).toNatClampNeg) = 0 → (wX8_onePair d Q 203 [some (.ref a0), o1, o2, o3, o4, o5, some (.int a6), o7] [] M1)) ∧ (¬ (¬ (zI M1 (zR M1 a0 6) ((152 : Int32)).toNatClampNeg) = 0) → (zb ((1 : Int32)) ∧ (Q [.int ((1 : Int32))] M1))))))))))))))
) : wX8_onePair d Q 186 [some (.ref a0), o1, o2, o3, o4, o5, some (.int a6), o7] [] M := zseg (zCl_good gTb d) (fun j => j == 8 || j == 14 || j == 48 || j == 54 || j == 58 || j == 62 || j == 91 || j == 116 || j == 138 || j == 181 || j == 186 || j == 203 || j == 212 || j == 214 || j == 233 || j == 238 || j == 248 || j == 267) 26 h
set_option maxRecDepth 100000 in
set_option maxHeartbeats 4000000 in
/-- from place 203 -/
theorem sg_X8_onePair_203 {d : Nat} {Q : List Value → zM → Prop} (a0 : Nat) (o1 : Option Value) (o2 : Option Value) (o3 : Option Value) (o4 : Option Value) (o5 : Option Value) (o6 : Option Value) (o7 : Option Value) (M : zM) (h :
(zsh M a0).1 = 16 ∧ ((¬ (zI M a0 20) = ((24 : Int32)) → (wX8_onePair d Q 212 [some (.ref a0), o1, o2, o3, o4, o5, o6, o7] [] M)) ∧ (¬ (¬ (zI M a0 20) = ((24 : Int32))) → ((zsh M a0).1 = 16 ∧ (zb ((1 : Int32)) ∧ (let M1 : zM := zuI M a0 11 ((1 : Int32))
zb ((1 : Int32)) ∧ (Q [.int ((1 : Int32))] M1))))))
) : wX8_onePair d Q 203 [some (.ref a0), o1, o2, o3, o4, o5, o6, o7] [] M := zseg (zCl_good gTb d) (fun j => j == 8 || j == 14 || j == 48 || j == 54 || j == 58 || j == 62 || j == 91 || j == 116 || j == 138 || j == 181 || j == 186 || j == 203 || j == 212 || j == 214 || j == 233 || j == 238 || j == 248 || j == 267) 14 h
set_option maxRecDepth 100000 in
set_option maxHeartbeats 4000000 in
/-- from place 212 -/
theorem sg_X8_onePair_212 {d : Nat} {Q : List Value → zM → Prop} (a0 : Nat) (o1 : Option Value) (o2 : Option Value) (o3 : Option Value) (o4 : Option Value) (o5 : Option Value) (o6 : Option Value) (o7 : Option Value) (M : zM) (h :
wX8_onePair d Q 214 [some (.ref a0), o1, o2, o3, o4, o5, zwipe o6, some (.int ((0 : Int32)))] [] M
) : wX8_onePair d Q 212 [some (.ref a0), o1, o2, o3, o4, o5, o6, o7] [] M := zseg (zCl_good gTb d) (fun j => j == 8 || j == 14 || j == 48 || j == 54 || j == 58 || j == 62 || j == 91 || j == 116 || j == 138 || j == 181 || j == 186 || j == 203 || j == 212 || j == 214 || j == 233 || j == 238 || j == 248 || j == 267) 7 h
set_option maxRecDepth 100000 in
set_option maxHeartbeats 4000000 in
/-- from place 214 -/
theorem sg_X8_onePair_214 {d : Nat} {Q : List Value → zM → Prop} (a0 : Nat) (o1 : Option Value) (o2 : Option Value) (o3 : Option Value) (o4 : Option Value) (o5 : Option Value) (o6 : Option Value) (a7 : Int32) (M : zM) (h :
(zsh M a0).1 = 16 ∧ (((zI M a0 7) ≤ a7 → (wX8_onePair d Q 233 [some (.ref a0), o1, o2, o3, o4, o5, o6, some (.int a7)] [] M)) ∧ (¬ ((zI M a0 7) ≤ a7) → ((zsh M a0).1 = 16 ∧ (((zI M a0 22) = 0 → (wX8_onePair d Q 233 [some (.ref a0), o1, o2, o3, o4, o5, o6, some (.int a7)] [] M)) ∧ (¬ ((zI M a0 22) = 0) → ((zsh M a0).1 = 16 ∧ ((¬ (zI M a0 11) = 0 → (wX8_onePair d Q 233 [some (.ref a0), o1, o2, o3, o4, o5, o6, some (.int a7)] [] M)) ∧ (¬ (¬ (zI M a0 11) = 0) → ((zsh M a0).1 = 16 ∧ (ycV d nX8_lessShares [.ref a0, .int (((154 : Int32)) + a7), .int a7, .int (((-1) : Int32))] M fun M1 => (let v7_2 : Int32 := a7 + 1
wX8_onePair d Q 214 [some (.ref a0), o1, o2, o3, o4, o5, zwipe o6, some (.int v7_2)] [] M1)))))))))))
) : wX8_onePair d Q 214 [some (.ref a0), o1, o2, o3, o4, o5, o6, some (.int a7)] [] M := zseg (zCl_good gTb d) (fun j => j == 8 || j == 14 || j == 48 || j == 54 || j == 58 || j == 62 || j == 91 || j == 116 || j == 138 || j == 181 || j == 186 || j == 203 || j == 212 || j == 214 || j == 233 || j == 238 || j == 248 || j == 267) 24 h
set_option maxRecDepth 100000 in
set_option maxHeartbeats 4000000 in
/-- from place 233 -/
theorem sg_X8_onePair_233 {d : Nat} {Q : List Value → zM → Prop} (a0 : Nat) (o1 : Option Value) (o2 : Option Value) (o3 : Option Value) (o4 : Option Value) (o5 : Option Value) (o6 : Option Value) (o7 : Option Value) (M : zM) (h :
(zsh M a0).1 = 16 ∧ (((zI M a0 11) = 0 → (wX8_onePair d Q 238 [some (.ref a0), o1, o2, o3, o4, o5, o6, o7] [] M)) ∧ (¬ ((zI M a0 11) = 0) → (zb ((1 : Int32)) ∧ (Q [.int ((1 : Int32))] M))))
) : wX8_onePair d Q 233 [some (.ref a0), o1, o2, o3, o4, o5, o6, o7] [] M := zseg (zCl_good gTb d) (fun j => j == 8 || j == 14 || j == 48 || j == 54 || j == 58 || j == 62 || j == 91 || j == 116 || j == 138 || j == 181 || j == 186 || j == 203 || j == 212 || j == 214 || j == 233 || j == 238 || j == 248 || j == 267) 10 h
set_option maxRecDepth 100000 in
set_option maxHeartbeats 4000000 in
/-- from place 238 -/
theorem sg_X8_onePair_238 {d : Nat} {Q : List Value → zM → Prop} (a0 : Nat) (o1 : Option Value) (o2 : Option Value) (o3 : Option Value) (o4 : Option Value) (o5 : Option Value) (o6 : Option Value) (o7 : Option Value) (M : zM) (h :
(zsh M a0).1 = 16 ∧ ((zsh M a0).1 = 16 ∧ ((zsh M a0).1 = 16 ∧ (ycV d nX8_copy [.ref a0, .int ((152 : Int32)), .int ((zI M a0 19) + (zI M a0 20))] M fun M1 => (wX8_onePair d Q 248 [some (.ref a0), o1, o2, o3, o4, o5, zwipe o6, some (.int ((0 : Int32)))] [] M1))))
) : wX8_onePair d Q 238 [some (.ref a0), o1, o2, o3, o4, o5, o6, o7] [] M := zseg (zCl_good gTb d) (fun j => j == 8 || j == 14 || j == 48 || j == 54 || j == 58 || j == 62 || j == 91 || j == 116 || j == 138 || j == 181 || j == 186 || j == 203 || j == 212 || j == 214 || j == 233 || j == 238 || j == 248 || j == 267) 15 h
set_option maxRecDepth 100000 in
set_option maxHeartbeats 4000000 in
/-- from place 248 -/
theorem sg_X8_onePair_248 {d : Nat} {Q : List Value → zM → Prop} (a0 : Nat) (o1 : Option Value) (o2 : Option Value) (o3 : Option Value) (o4 : Option Value) (o5 : Option Value) (o6 : Option Value) (a7 : Int32) (M : zM) (h :
(zsh M a0).1 = 16 ∧ (((zI M a0 7) ≤ a7 → (wX8_onePair d Q 267 [some (.ref a0), o1, o2, o3, o4, o5, o6, some (.int a7)] [] M)) ∧ (¬ ((zI M a0 7) ≤ a7) → ((zsh M a0).1 = 16 ∧ (((zI M a0 22) = 0 → (wX8_onePair d Q 267 [some (.ref a0), o1, o2, o3, o4, o5, o6, some (.int a7)] [] M)) ∧ (¬ ((zI M a0 22) = 0) → ((zsh M a0).1 = 16 ∧ ((zsh M a0).1 = 16 ∧ (ycI d nX8_cofactor [.ref a0, .int (zI M a0 20), .int a7] M fun c2 M1 => ((zsh M1 a0).1 = 16 ∧ (ycV d nX8_copy [.ref a0, .int (((154 : Int32)) + a7), .int c2] M1 fun M3 => (let v7_4 : Int32 := a7 + 1
wX8_onePair d Q 248 [some (.ref a0), o1, o2, o3, o4, o5, zwipe o6, some (.int v7_4)] [] M3)))))))))))
) : wX8_onePair d Q 248 [some (.ref a0), o1, o2, o3, o4, o5, o6, some (.int a7)] [] M := zseg (zCl_good gTb d) (fun j => j == 8 || j == 14 || j == 48 || j == 54 || j == 58 || j == 62 || j == 91 || j == 116 || j == 138 || j == 181 || j == 186 || j == 203 || j == 212 || j == 214 || j == 233 || j == 238 || j == 248 || j == 267) 24 h
set_option maxRecDepth 100000 in
set_option maxHeartbeats 4000000 in
/-- from place 267 -/
theorem sg_X8_onePair_267 {d : Nat} {Q : List Value → zM → Prop} (a0 : Nat) (o1 : Option Value) (o2 : Option Value) (o3 : Option Value) (o4 : Option Value) (o5 : Option Value) (o6 : Option Value) (o7 : Option Value) (M : zM) (h :
(zsh M a0).1 = 16 ∧ ((zsh M a0).1 = 16 ∧ (ycV d nX8_monic [.ref a0, .int (zI M a0 20)] M fun M1 => ((zsh M1 a0).1 = 16 ∧ (((zI M1 a0 11) = 0 → ((zsh M1 a0).1 = 16 ∧ ((zsh M1 a0).1 = 16 ∧ (ycV d nX8_addPairs [.ref a0, .int (zI M1 a0 20)] M1 fun M2 => ((zsh M2 a0).1 = 16 ∧ ((zsh M2 a0).1 = 16 ∧ (let M3 : zM := zuI M2 a0 20 ((zI M2 a0 20) + ((1 : Int32)))
zb ((1 : Int32)) ∧ (Q [.int ((1 : Int32))] M3)))))))) ∧ (¬ ((zI M1 a0 11) = 0) → (zb ((1 : Int32)) ∧ (Q [.int ((1 : Int32))] M1)))))))
) : wX8_onePair d Q 267 [some (.ref a0), o1, o2, o3, o4, o5, o6, o7] [] M := zseg (zCl_good gTb d) (fun j => j == 8 || j == 14 || j == 48 || j == 54 || j == 58 || j == 62 || j == 91 || j == 116 || j == 138 || j == 181 || j == 186 || j == 203 || j == 212 || j == 214 || j == 233 || j == 238 || j == 248 || j == 267) 26 h
abbrev wX8_clean (d : Nat) (Q : List Value → zM → Prop) : Nat → zLv → List Value → zM → Prop := zW (zCl gTb d) 0 kX8_clean Q
theorem en_X8_clean {d : Nat} {Q : List Value → zM → Prop} (a0 : Nat) (M : zM) (h : wX8_clean d Q 0 [some (.ref a0), none, none, none, none] [] M) : zCl gTb (d + 1) nX8_clean [.ref a0] M Q := ⟨Nat.le_of_ble_eq_true rfl, h⟩
set_option maxRecDepth 100000 in
set_option maxHeartbeats 4000000 in
/-- from place 0 -/
theorem sg_X8_clean_0 {d : Nat} {Q : List Value → zM → Prop} (a0 : Nat) (M : zM) (h :
wX8_clean d Q 2 [some (.ref a0), some (.int ((0 : Int32))), none, none, none] [] M
) : wX8_clean d Q 0 [some (.ref a0), none, none, none, none] [] M := zseg (zCl_good gTb d) (fun j => j == 2 || j == 13 || j == 31 || j == 65 || j == 86 || j == 92) 7 h
set_option maxRecDepth 100000 in
set_option maxHeartbeats 4000000 in
/-- from place 2 -/
theorem sg_X8_clean_2 {d : Nat} {Q : List Value → zM → Prop} (a0 : Nat) (a1 : Int32) (o2 : Option Value) (o3 : Option Value) (o4 : Option Value) (M : zM) (h :
(zsh M a0).1 = 16 ∧ (((zI M a0 20) ≤ a1 → (wX8_clean d Q 65 [some (.ref a0), some (.int ((0 : Int32))), some (.int ((0 : Int32))), o3, o4] [] M)) ∧ (¬ ((zI M a0 20) ≤ a1) → ((zsh M a0).1 = 16 ∧ ((zsh M (zR M a0 27)).1 = 4 ∧ (zin a1 (zsh M (zR M a0 27)).2 ∧ (zb ((0 : Int32)) ∧ (let M1 : zM := zuI M (zR M a0 27) a1.toNatClampNeg ((0 : Int32))
wX8_clean d Q 13 [some (.ref a0), some (.int a1), some (.int ((0 : Int32))), o3, o4] [] M1)))))))
) : wX8_clean d Q 2 [some (.ref a0), some (.int a1), o2, o3, o4] [] M := zseg (zCl_good gTb d) (fun j => j == 2 || j == 13 || j == 31 || j == 65 || j == 86 || j == 92) 20 h
set_option maxRecDepth 100000 in
set_option maxHeartbeats 4000000 in
/-- from place 13 -/
theorem sg_X8_clean_13 {d : Nat} {Q : List Value → zM → Prop} (a0 : Nat) (a1 : Int32) (a2 : Int32) (o3 : Option Value) (o4 : Option Value) (M : zM) (h :
(zsh M a0).1 = 16 ∧ (((zI M a0 20) ≤ a2 → (let v1_1 : Int32 := a1 + 1
wX8_clean d Q 2 [some (.ref a0), some (.int v1_1), some (.int a2), o3, o4] [] M)) ∧ (¬ ((zI M a0 20) ≤ a2) → ((zsh M a0).1 = 16 ∧ ((zsh M a0).1 = 16 ∧ (ycI d nX8_lead [.ref a0, .int ((zI M a0 19) + a2)] M fun c3 M2 => ((zsh M2 a0).1 = 16 ∧ ((zsh M2 a0).1 = 16 ∧ (ycI d nX8_lead [.ref a0, .int ((zI M2 a0 19) + a1)] M2 fun c5 M4 => (wX8_clean d Q 31 [some (.ref a0), some (.int a1), some (.int a2), some (.int c3), some (.int c5)] [] M4)))))))))
) : wX8_clean d Q 13 [some (.ref a0), some (.int a1), some (.int a2), o3, o4] [] M := zseg (zCl_good gTb d) (fun j => j == 2 || j == 13 || j == 31 || j == 65 || j == 86 || j == 92) 25 h
set_option maxRecDepth 100000 in
set_option maxHeartbeats 4000000 in
/-- from place 31 -/
theorem sg_X8_clean_31 {d : Nat} {Q : List Value → zM → Prop} (a0 : Nat) (a1 : Int32) (a2 : Int32) (a3 : Int32) (a4 : Int32) (M : zM) (h :
(zsh M a0).1 = 16 ∧ ((zsh M a0).1 = 16 ∧ ((zsh M (zR M a0 27)).1 = 4 ∧ (zin a1 (zsh M (zR M a0 27)).2 ∧ ((¬ (zI M (zR M a0 27) a1.toNatClampNeg) = 0 → ((zsh M (zR M a0 27)).1 = 4 ∧ (zin a1 (zsh M (zR M a0 27)).2 ∧ (zb ((1 : Int32)) ∧ (let M1 : zM := zuI M (zR M a0 27) a1.toNatClampNeg ((1 : Int32))
let v2_2 : Int32 := a2 + 1
wX8_clean d Q 13 [some (.ref a0), some (.int a1), some (.int v2_2), some (.int a3), some (.int a4)] [] M1))))) ∧ (¬ (¬ (zI M (zR M a0 27) a1.toNatClampNeg) = 0) → ((a2 = a1 → ((zsh M (zR M a0 27)).1 = 4 ∧ (zin a1 (zsh M (zR M a0 27)).2 ∧ (zb ((0 : Int32)) ∧ (let M3 : zM := zuI M (zR M a0 27) a1.toNatClampNeg ((0 : Int32))
let v2_4 : Int32 := a2 + 1
wX8_clean d Q 13 [some (.ref a0), some (.int a1), some (.int v2_4), some (.int a3), some (.int a4)] [] M3))))) ∧ (¬ (a2 = a1) → ((zsh M a0).1 = 16 ∧ (ycI d nX8_divides [.ref a0, .int a3, .int a4] M fun c6 M5 => ((c6 = 0 → ((zsh M5 (zR M a0 27)).1 = 4 ∧ (zin a1 (zsh M5 (zR M a0 27)).2 ∧ (zb ((0 : Int32)) ∧ (let M7 : zM := zuI M5 (zR M a0 27) a1.toNatClampNeg ((0 : Int32))
let v2_8 : Int32 := a2 + 1
wX8_clean d Q 13 [some (.ref a0), some (.int a1), some (.int v2_8), some (.int a3), some (.int a4)] [] M7))))) ∧ (¬ (c6 = 0) → ((¬ a3 = a4 → ((zsh M5 (zR M a0 27)).1 = 4 ∧ (zin a1 (zsh M5 (zR M a0 27)).2 ∧ (zb ((1 : Int32)) ∧ (let M9 : zM := zuI M5 (zR M a0 27) a1.toNatClampNeg ((1 : Int32))
let v2_10 : Int32 := a2 + 1
wX8_clean d Q 13 [some (.ref a0), some (.int a1), some (.int v2_10), some (.int a3), some (.int a4)] [] M9))))) ∧ (¬ (¬ a3 = a4) → ((a1 ≤ a2 → ((zsh M5 (zR M a0 27)).1 = 4 ∧ (zin a1 (zsh M5 (zR M a0 27)).2 ∧ (zb ((0 : Int32)) ∧ (let M11 : zM := zuI M5 (zR M a0 27) a1.toNatClampNeg ((0 : Int32))
let v2_12 : Int32 := a2 + 1
wX8_clean d Q 13 [some (.ref a0), some (.int a1), some (.int v2_12), some (.int a3), some (.int a4)] [] M11))))) ∧ (¬ (a1 ≤ a2) → ((zsh M5 (zR M a0 27)).1 = 4 ∧ (zin a1 (zsh M5 (zR M a0 27)).2 ∧ (zb ((1 : Int32)) ∧ (let M13 : zM := zuI M5 (zR M a0 27) a1.toNatClampNeg ((1 : Int32))
let v2_14 : Int32 := a2 + 1
wX8_clean d Q 13 [some (.ref a0), some (.int a1), some (.int v2_14), some (.int a3), some (.int a4)] [] M13)))))))))))))))))))
) : wX8_clean d Q 31 [some (.ref a0), some (.int a1), some (.int a2), some (.int a3), some (.int a4)] [] M := zseg (zCl_good gTb d) (fun j => j == 2 || j == 13 || j == 31 || j == 65 || j == 86 || j == 92) 54 h
set_option maxRecDepth 100000 in
set_option maxHeartbeats 4000000 in
/-- from place 65 -/
theorem sg_X8_clean_65 {d : Nat} {Q : List Value → zM → Prop} (a0 : Nat) (a1 : Int32) (a2 : Int32) (o3 : Option Value) (o4 : Option Value) (M : zM) (h :
(zsh M a0).1 = 16 ∧ (((zI M a0 20) ≤ a2 → ((zsh M a0).1 = 16 ∧ (let M1 : zM := zuI M a0 20 a1
wX8_clean d Q 86 [some (.ref a0), some (.int a1), some (.int ((1 : Int32))), o3, o4] [] M1))) ∧ (¬ ((zI M a0 20) ≤ a2) → ((zsh M a0).1 = 16 ∧ ((zsh M (zR M a0 27)).1 = 4 ∧ (zin a2 (zsh M (zR M a0 27)).2 ∧ ((¬ (zI M (zR M a0 27) a2.toNatClampNeg) = 0 → (let v2_2 : Int32 := a2 + 1
wX8_clean d Q 65 [some (.ref a0), some (.int a1), some (.int v2_2), o3, o4] [] M)) ∧ (¬ (¬ (zI M (zR M a0 27) a2.toNatClampNeg) = 0) → ((zsh M a0).1 = 16 ∧ (ycV d nX8_move [.ref a0, .int a2, .int a1] M fun M3 => (let v1_4 : Int32 := a1 + 1
let v2_5 : Int32 := a2 + 1
wX8_clean d Q 65 [some (.ref a0), some (.int v1_4), some (.int v2_5), o3, o4] [] M3))))))))))
) : wX8_clean d Q 65 [some (.ref a0), some (.int a1), some (.int a2), o3, o4] [] M := zseg (zCl_good gTb d) (fun j => j == 2 || j == 13 || j == 31 || j == 65 || j == 86 || j == 92) 28 h
set_option maxRecDepth 100000 in
set_option maxHeartbeats 4000000 in
/-- from place 86 -/
theorem sg_X8_clean_86 {d : Nat} {Q : List Value → zM → Prop} (a0 : Nat) (o1 : Option Value) (a2 : Int32) (o3 : Option Value) (o4 : Option Value) (M : zM) (h :
(zsh M a0).1 = 16 ∧ (((zI M a0 20) ≤ a2 → (Q [] M)) ∧ (¬ ((zI M a0 20) ≤ a2) → (wX8_clean d Q 92 [some (.ref a0), o1, some (.int a2), some (.int a2), o4] [] M)))
) : wX8_clean d Q 86 [some (.ref a0), o1, some (.int a2), o3, o4] [] M := zseg (zCl_good gTb d) (fun j => j == 2 || j == 13 || j == 31 || j == 65 || j == 86 || j == 92) 12 h
set_option maxRecDepth 100000 in
set_option maxHeartbeats 4000000 in
/-- from place 92 -/
theorem sg_X8_clean_92 {d : Nat} {Q : List Value → zM → Prop} (a0 : Nat) (o1 : Option Value) (a2 : Int32) (a3 : Int32) (o4 : Option Value) (M : zM) (h :
(a3 ≤ 0 → (let v2_1 : Int32 := a2 + 1
wX8_clean d Q 86 [some (.ref a0), zwipe o1, some (.int v2_1), some (.int a3), o4] [] M)) ∧ (¬ (a3 ≤ 0) → ((zsh M a0).1 = 16 ∧ ((zsh M a0).1 = 16 ∧ (ycI d nX8_lead [.ref a0, .int (((zI M a0 19) + a3) - ((1 : Int32)))] M fun c3 M2 => ((zsh M2 a0).1 = 16 ∧ ((zsh M2 a0).1 = 16 ∧ (ycI d nX8_lead [.ref a0, .int ((zI M2 a0 19) + a3)] M2 fun c5 M4 => ((zsh M4 a0).1 = 16 ∧ (ycI d nX8_compare [.ref a0, .int c3, .int c5] M4 fun c7 M6 => ((c7 ≤ 0 → (let v2_8 : Int32 := a2 + 1
wX8_clean d Q 86 [some (.ref a0), zwipe o1, some (.int v2_8), some (.int a3), o4] [] M6)) ∧ (¬ (c7 ≤ 0) → ((zsh M6 a0).1 = 16 ∧ (ycV d nX8_move [.ref a0, .int a3, .int ((24 : Int32))] M6 fun M9 => ((zsh M9 a0).1 = 16 ∧ (ycV d nX8_move [.ref a0, .int (a3 - ((1 : Int32))), .int a3] M9 fun M10 => ((zsh M10 a0).1 = 16 ∧ (ycV d nX8_move [.ref a0, .int ((24 : Int32)), .int (a3 - ((1 : Int32)))] M10 fun M11 => (let v3_12 : Int32 := a3 + (-1)
wX8_clean d Q 92 [some (.ref a0), o1, some (.int a2), some (.int v3_12), o4] [] M11))))))))))))))))))
) : wX8_clean d Q 92 [some (.ref a0), o1, some (.int a2), some (.int a3), o4] [] M := zseg (zCl_good gTb d) (fun j => j == 2 || j == 13 || j == 31 || j == 65 || j == 86 || j == 92) 46 h
abbrev wX8_move (d : Nat) (Q : List Value → zM → Prop) : Nat → zLv → List Value → zM → Prop := zW (zCl gTb d) 0 kX8_move Q
theorem en_X8_move {d : Nat} {Q : List Value → zM → Prop} (a0 : Nat) (a1 : Int32) (a2 : Int32) (M : zM) (h : wX8_move d Q 0 [some (.ref a0), some (.int a1), some (.int a2), none] [] M) : zCl gTb (d + 1) nX8_move [.ref a0, .int a1, .int a2] M Q := ⟨Nat.le_of_ble_eq_true rfl, h⟩
set_option maxRecDepth 100000 in
set_option maxHeartbeats 4000000 in
/-- from place 0 -/
theorem sg_X8_move_0 {d : Nat} {Q : List Value → zM → Prop} (a0 : Nat) (a1 : Int32) (a2 : Int32) (M : zM) (h :
(¬ a1 = a2 → ((zsh M a0).1 = 16 ∧ ((zsh M a0).1 = 16 ∧ ((zsh M a0).1 = 16 ∧ (ycV d nX8_copy [.ref a0, .int ((zI M a0 19) + a1), .int ((zI M a0 19) + a2)] M fun M1 => (wX8_move d Q 16 [some (.ref a0), some (.int a1), some (.int a2), some (.int ((0 : Int32)))] [] M1)))))) ∧ (¬ (¬ a1 = a2) → (Q [] M))
) : wX8_move d Q 0 [some (.ref a0), some (.int a1), some (.int a2), none] [] M := zseg (zCl_good gTb d) (fun j => j == 16) 21 h
set_option maxRecDepth 100000 in
set_option maxHeartbeats 4000000 in
/-- from place 16 -/
theorem sg_X8_move_16 {d : Nat} {Q : List Value → zM → Prop} (a0 : Nat) (a1 : Int32) (a2 : Int32) (a3 : Int32) (M : zM) (h :
(zsh M a0).1 = 16 ∧ (((zI M a0 7) ≤ a3 → (Q [] M)) ∧ (¬ ((zI M a0 7) ≤ a3) → ((zsh M a0).1 = 16 ∧ (((zI M a0 22) = 0 → (Q [] M)) ∧ (¬ ((zI M a0 22) = 0) → ((zsh M a0).1 = 16 ∧ (ycI d nX8_cofactor [.ref a0, .int a1, .int a3] M fun c2 M1 => ((zsh M1 a0).1 = 16 ∧ (ycI d nX8_cofactor [.ref a0, .int a2, .int a3] M1 fun c4 M3 => ((zsh M3 a0).1 = 16 ∧ (ycV d nX8_copy [.ref a0, .int c2, .int c4] M3 fun M5 => (let v3_6 : Int32 := a3 + 1
wX8_move d Q 16 [some (.ref a0), some (.int a1), some (.int a2), some (.int v3_6)] [] M5))))))))))))
) : wX8_move d Q 16 [some (.ref a0), some (.int a1), some (.int a2), some (.int a3)] [] M := zseg (zCl_good gTb d) (fun j => j == 16) 26 h
abbrev wX8_reduce (d : Nat) (Q : List Value → zM → Prop) : Nat → zLv → List Value → zM → Prop := zW (zCl gTb d) 0 kX8_reduce Q
theorem en_X8_reduce {d : Nat} {Q : List Value → zM → Prop} (a0 : Nat) (a1 : Int32) (M : zM) (h : wX8_reduce d Q 0 [some (.ref a0), some (.int a1), none, none, none, none, none, none] [] M) : zCl gTb (d + 1) nX8_reduce [.ref a0, .int a1] M Q := ⟨Nat.le_of_ble_eq_true rfl, h⟩
set_option maxRecDepth 100000 in
set_option maxHeartbeats 4000000 in
/-- from place 0 -/
theorem sg_X8_reduce_0 {d : Nat} {Q : List Value → zM → Prop} (a0 : Nat) (a1 : Int32) (M : zM) (h :
(zsh M a0).1 = 16 ∧ (let v2_1 : Int32 := (zI M a0 19) + a1
(zsh M a0).1 = 16 ∧ ((zsh M (zR M a0 3)).1 = 2 ∧ (zin (((100 : Int32)) * v2_1) (zsh M (zR M a0 3)).2 ∧ (let v4_2 : Int32 := zI M (zR M a0 3) (((100 : Int32)) * v2_1).toNatClampNeg
(zsh M a0).1 = 16 ∧ ((zsh M (zR M a0 4)).1 = 2 ∧ (zin (((100 : Int32)) * v2_1) (zsh M (zR M a0 4)).2 ∧ (let v5_3 : Int32 := zI M (zR M a0 4) (((100 : Int32)) * v2_1).toNatClampNeg
(zsh M a0).1 = 16 ∧ (ycI d nX8_lead [.ref a0, .int v2_1] M fun c5 M4 => ((zsh M4 a0).1 = 16 ∧ (ycV d nX8_copy [.ref a0, .int v2_1, .int ((151 : Int32))] M4 fun M6 => ((zsh M6 a0).1 = 16 ∧ (ycV d nX8_comes [.ref a0, .int ((151 : Int32)), .int (-v4_2), .int v5_3, .int c5] M6 fun M7 => ((zsh M7 a0).1 = 16 ∧ (let M8 : zM := zuI M7 a0 21 a1
(zsh M7 a0).1 = 16 ∧ (ycV d nX8_divided [.ref a0, .int ((151 : Int32)), .int ((152 : Int32))] M8 fun M9 => ((zsh M9 a0).1 = 16 ∧ (let M10 : zM := zuI M9 a0 21 (((-1) : Int32))
(zsh M9 a0).1 = 16 ∧ ((¬ (zI M10 a0 11) = 0 → (Q [] M10)) ∧ (¬ (¬ (zI M10 a0 11) = 0) → ((zsh M9 a0).1 = 16 ∧ (((zI M10 a0 12) = 0 → (wX8_reduce d Q 53 [some (.ref a0), some (.int a1), some (.int v2_1), some (.int ((151 : Int32))), some (.int v4_2), some (.int v5_3), some (.int c5), none] [] M10)) ∧ (¬ ((zI M10 a0 12) = 0) → (Q [] M10)))))))))))))))))))))))
) : wX8_reduce d Q 0 [some (.ref a0), some (.int a1), none, none, none, none, none, none] [] M := zseg (zCl_good gTb d) (fun j => j == 53 || j == 65) 59 h
set_option maxRecDepth 100000 in
set_option maxHeartbeats 4000000 in
/-- from place 53 -/
theorem sg_X8_reduce_53 {d : Nat} {Q : List Value → zM → Prop} (a0 : Nat) (a1 : Int32) (a2 : Int32) (o3 : Option Value) (a4 : Int32) (a5 : Int32) (a6 : Int32) (o7 : Option Value) (M : zM) (h :
(zsh M a0).1 = 16 ∧ (ycV d nX8_comes [.ref a0, .int ((152 : Int32)), .int a4, .int a5, .int a6] M fun M1 => ((zsh M1 a0).1 = 16 ∧ (ycV d nX8_copy [.ref a0, .int ((152 : Int32)), .int a2] M1 fun M2 => (wX8_reduce d Q 65 [some (.ref a0), some (.int a1), some (.int a2), o3, some (.int a4), some (.int a5), some (.int a6), some (.int ((0 : Int32)))] [] M2))))
) : wX8_reduce d Q 53 [some (.ref a0), some (.int a1), some (.int a2), o3, some (.int a4), some (.int a5), some (.int a6), o7] [] M := zseg (zCl_good gTb d) (fun j => j == 53 || j == 65) 17 h
set_option maxRecDepth 100000 in
set_option maxHeartbeats 4000000 in
/-- from place 65 -/
theorem sg_X8_reduce_65 {d : Nat} {Q : List Value → zM → Prop} (a0 : Nat) (a1 : Int32) (o2 : Option Value) (o3 : Option Value) (o4 : Option Value) (o5 : Option Value) (o6 : Option Value) (a7 : Int32) (M : zM) (h :
(zsh M a0).1 = 16 ∧ (((zI M a0 7) ≤ a7 → (Q [] M)) ∧ (¬ ((zI M a0 7) ≤ a7) → ((zsh M a0).1 = 16 ∧ (((zI M a0 22) = 0 → (Q [] M)) ∧ (¬ ((zI M a0 22) = 0) → ((zsh M a0).1 = 16 ∧ ((¬ (zI M a0 11) = 0 → (Q [] M)) ∧ (¬ (¬ (zI M a0 11) = 0) → ((zsh M a0).1 = 16 ∧ (ycI d nX8_cofactor [.ref a0, .int a1, .int a7] M fun c2 M1 => ((zsh M1 a0).1 = 16 ∧ (ycV d nX8_copy [.ref a0, .int c2, .int (((154 : Int32)) + a7)] M1 fun M3 => ((zsh M3 a0).1 = 16 ∧ (ycV d nX8_lessShares [.ref a0, .int (((154 : Int32)) + a7), .int a7, .int (((-1) : Int32))] M3 fun M4 => ((zsh M4 a0).1 = 16 ∧ (ycI d nX8_cofactor [.ref a0, .int a1, .int a7] M4 fun c6 M5 => ((zsh M5 a0).1 = 16 ∧ (ycV d nX8_copy [.ref a0, .int (((154 : Int32)) + a7), .int c6] M5 fun M7 => (let v7_8 : Int32 := a7 + 1
wX8_reduce d Q 65 [some (.ref a0), some (.int a1), o2, o3, o4, o5, zwipe o6, some (.int v7_8)] [] M7)))))))))))))))))))
) : wX8_reduce d Q 65 [some (.ref a0), some (.int a1), o2, o3, o4, o5, o6, some (.int a7)] [] M := zseg (zCl_good gTb d) (fun j => j == 53 || j == 65) 45 h
