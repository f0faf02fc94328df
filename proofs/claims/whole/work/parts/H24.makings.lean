/-! makings and switches (by wip/whole/gennew.py) -/
theorem zlv_ad {ad ad' : Nat → Nat} {ls : Array Slot} {nL n : Nat} {lv : zLv} (h : zlv ad ls nL lv) (hv : ∀ j v, zat lv j = some (some v) → zval n v) (ha : ∀ x, x < n → ad' x = ad x) : zlv ad' ls nL lv := ⟨h.1, h.2.1, fun j v hj => by rw [zV_ad ha (hv j v hj)]; exact h.2.2 j v hj⟩
theorem zval_up {n n' : Nat} (hn : n ≤ n') {v : Value} (h : zval n v) : zval n' v := by
  cases v with
  | ref x => exact Nat.lt_of_lt_of_le h hn
  | _ => exact trivial
def zad (ad : Nat → Nat) (n q : Nat) : Nat → Nat := fun x => if x = n then q else ad x
theorem zad_old {ad : Nat → Nat} {n q : Nat} : ∀ x, x < n → zad ad n q x = ad x := fun x hx => by unfold zad; rw [if_neg (Nat.ne_of_lt hx)]
theorem zad_new {ad : Nat → Nat} {n q : Nat} : zad ad n q n = q := by unfold zad; rw [if_pos rfl]
theorem hzsh_al {M : zM} {sh : Nat × Nat} {wd : Nat} : zsh (zal M sh wd) (zn M) = sh := by simp [zsh, zal, zn]
theorem hzI_al {M : zM} {sh : Nat × Nat} {wd : Nat} : zI (zal M sh wd) (zn M) = fun _ => 0 := by funext j; simp [zI, zal, zn]
theorem zL_al {M : zM} {sh : Nat × Nat} {wd : Nat} : zL (zal M sh wd) (zn M) = fun _ => 0 := by funext j; simp [zL, zal, zn]
theorem hzR_al {M : zM} {sh : Nat × Nat} {wd j : Nat} : zR (zal M sh wd) (zn M) j = 0 := by simp [zR, zal, zn]
/-- the picture behind a making -/
theorem zrl_al {s : State} {D : va_G} {cO : Nat → ClassId} {A : Nat → Prop} {b L : Nat} {xs : Nat → Int32} {nL : Nat} {ad0 : Nat → Nat} {n0 s0 : Nat} {ad : Nat → Nat} {ls : Array Slot} {H : Heap} {locs : List Loc} {lv : zLv} {st r : List Value} {M : zM} {sh : Nat × Nat} {wd q : Nat} {H1 : Heap} (h : zrl s D cO A b L xs nL ad0 n0 s0 ad ls H locs lv st M) (hr : ∀ v ∈ r, v ∈ st)
    (hP : va_P D gCl (zws gFk cO ad M ++ [(q, zE gFk cO (zad ad (zn M) q) (zal M sh wd) (zn M))]) H1) (hD : va_D A (zws gFk cO ad M ++ [(q, zE gFk cO (zad ad (zn M) q) (zal M sh wd) (zn M))])) (hS : va_S A s.heap H1 locs) : zrl s D cO A b L xs nL ad0 n0 s0 (zad ad (zn M) q) ls H1 locs lv (.ref (zn M) :: r) (zal M sh wd) ∧ r.map (zV ad) = r.map (zV (zad ad (zn M) q)) := by
  obtain ⟨h1, h2, h3, h4, h5, h6, h7, h8, h9, h10, h11, h12⟩ := h
  have hz := zws_al (fk := gFk) (cO := cO) (sh := sh) (w := wd) h4 (zad_old (ad := ad) (n := zn M) (q := q)) zad_new
  have hn : zn (zal M sh wd) = zn M + 1 := rfl
  have hs : zs (zal M sh wd) = zs M + wd := rfl
  rw [← hz] at hP hD
  have h2n := h4.1
  refine ⟨⟨hP, hD, hS, zinv_al h4, zscr_al h5 h4, ?_, zlv_ad h7 h9 zad_old, fun v hv => ?_, fun j v hj => zval_up (by rw [hn]; omega) (h9 j v hj), fun x hx => ?_, by rw [hn]; omega, by rw [hs]; omega⟩, (zVs_ad zad_old r fun v hv => h8 v (hr v hv)).symm⟩
  · rw [zad_old 1 (by omega)]; exact h6
  · rcases List.mem_cons.mp hv with rfl | hv
    · show zn M < zn (zal M sh wd); rw [hn]; omega
    · exact zval_up (by rw [hn]; omega) (h8 v (hr v hv))
  · rw [zad_old x (by omega)]; exact h10 x hx
section ZN
variable {p : Program} {l : Launch} {e : Env} {R : Room} {s : State} {m : MethodId} {args : Array Value} {below : List Frame} {meth : Method} {c : Code} {Q : State → Prop} {D : va_G} {cO : Nat → ClassId} {A : Nat → Prop} {b L : Nat} {xs : Nat → Int32} {ad0 : Nat → Nat} {n0 s0 k : Nat} {i pc len : Nat} {lv : zLv} {r : List Value} {M : zM} {o : Instr}
theorem zs_new (F : zfx p R s m args meth c D cO A b L xs k) (hpc : zat (gPc k) i = some pc) (hdec : decode (gMe k).2.1 pc = .ok (o, len)) {x : Nat} (hm : zmt (gMe k).1 (gMe k).2.2.1 (gPc k) i pc o len (.new x) = true) (hrm : zn (zal M (10 + x / 100, 0) (x % 100)) - n0 ≤ R.cells ∧ zs (zal M (10 + x / 100, 0) (x % 100)) - s0 ≤ R.slots) (nx : zGo p l e R s m args below meth c Q D cO A b L xs ad0 n0 s0 k (i + 1) lv (.ref (zn M) :: r) (zal M (10 + x / 100, 0) (x % 100))) : zGo p l e R s m args below meth c Q D cO A b L xs ad0 n0 s0 k i lv r M := by
  intro ad ls H locs h
  obtain ⟨hx, hb, hml, hown, hts, hnest, hover, hr, hlocks, hname, hK, hX, hbl, hbA, hA, hfr, hlo⟩ := F
  have hn : zn (zal M (10 + x / 100, 0) (x % 100)) = zn M + 1 := rfl
  have hs : zs (zal M (10 + x / 100, 0) (x % 100)) = zs M + x % 100 := rfl
  have hge := h.2.2.2.2.2.2.2.2.2.2
  rw [hn, hs] at hrm
  simp only [zmt, Bool.and_eq_true, decide_eq_true_eq] at hm
  obtain ⟨hnx, hm⟩ := hm
  rw [hpc]
  split at hm
  · obtain ⟨rfl, hm2⟩ : _ ∧ _ := by simpa only [Bool.and_eq_true, decide_eq_true_eq] using hm
    split at hm2
    · rename_i q hq
      obtain ⟨⟨⟨⟨⟨e1, e2⟩, w1⟩, w2⟩, w3⟩, hks⟩ : ((((_ ∧ _) ∧ _) ∧ _) ∧ _) ∧ _ := by simpa only [Bool.and_eq_true, decide_eq_true_eq] using hm2
      have hC := gcl_ok _ _ hq
      have hE : ∀ q0, zE gFk cO (zad ad (zn M) q0) (zal M (10 + x / 100, 0) (x % 100)) (zn M) = .inr (x / 100, zfs gFk ad (zal M (10 + x / 100, 0) (x % 100)) (zn M) (x / 100)) := by
        intro q0
        rw [zE_obj (by rw [hzsh_al])]
        congr 2
        unfold zfs
        apply List.map_congr_left
        intro j hj
        rw [hzR_al]
        rfl
      refine va_new (C := q.1) (T := q.2.1) (N := q.2.2) (fs := zfs gFk ad (zal M (10 + x / 100, 0) (x % 100)) (zn M) (x / 100)) hx hb hts hC.1 (gTy (x / 100)) hC.2.1 hown (hts _ (zwd_in w1)) (by rw [e1]; exact hts _ (zwd_in w2)) (hts _ (zwd_in w3)) hK h.1 h.2.1 h.2.2.1 hA hq (fun j hj => ?_) (by omega) (by rw [e1]; omega) hdec fun q0 H1 hP1 hD1 hS1 => ?_
      · have hj' : j < (gFk (x / 100)).length := by rw [e2, ← e1]; exact hj
        have ht := List.all_eq_true.mp hks j (List.mem_range.mpr (by rw [← e1]; exact hj))
        unfold vp_V
        rw [List.getD_eq_getElem?_getD, zfs_get hj', hzR_al, hzI_al]
        revert ht
        generalize (gFk (x / 100)).getD j 0 = kd
        generalize gTy (x / 100) j = t
        intro ht
        unfold ztk at ht
        split at ht
        · rfl
        · rfl
        · rfl
        · rfl
        · cases ht
      · rw [← hE q0] at hP1 hD1
        obtain ⟨a1, a2⟩ := zrl_al (r := r) h (fun v hv => hv) hP1 hD1 hS1
        have a3 := nx _ ls H1 locs a1
        rw [hnx, hn, hs, List.map_cons, ← a2, zV_ref h.2.2.2.1.1, zad_new] at a3
        exact W.cs (by omega) (by rw [e1]; omega) a3
    · cases hm2
  · cases hm
theorem zs_newI (F : zfx p R s m args meth c D cO A b L xs k) (hpc : zat (gPc k) i = some pc) (hdec : decode (gMe k).2.1 pc = .ok (o, len)) {n : Int32} (hm : zmt (gMe k).1 (gMe k).2.2.1 (gPc k) i pc o len (.newarray .int) = true) (hn0 : ¬ n < 0) (hn1 : n.toNatClampNeg ≤ 100000) (hrm : zn (zal M (2, n.toNatClampNeg) n.toNatClampNeg) - n0 ≤ R.cells ∧ zs (zal M (2, n.toNatClampNeg) n.toNatClampNeg) - s0 ≤ R.slots) (nx : zGo p l e R s m args below meth c Q D cO A b L xs ad0 n0 s0 k (i + 1) lv (.ref (zn M) :: r) (zal M (2, n.toNatClampNeg) n.toNatClampNeg)) : zGo p l e R s m args below meth c Q D cO A b L xs ad0 n0 s0 k i lv (.int n :: r) M := by
  intro ad ls H locs h
  obtain ⟨hx, hb, hml, hown, hts, hnest, hover, hr, hlocks, hname, hK, hX, hbl, hbA, hA, hfr, hlo⟩ := F
  obtain ⟨M1, hM1⟩ : ∃ M1, M1 = zal M (2, n.toNatClampNeg) n.toNatClampNeg := ⟨_, rfl⟩
  have hn : zn M1 = zn M + 1 := by rw [hM1]; rfl
  have hs : zs M1 = zs M + n.toNatClampNeg := by rw [hM1]; rfl
  have hge := h.2.2.2.2.2.2.2.2.2.2
  rw [← hM1, hn, hs] at hrm
  rw [← hM1] at nx
  simp only [zmt, Bool.and_eq_true, decide_eq_true_eq] at hm
  obtain ⟨⟨⟨hnx, rfl⟩, rfl⟩, w1⟩ := hm
  rw [hpc]
  have hE : ∀ q0, zE gFk cO (zad ad (zn M) q0) M1 (zn M) = .inl (cO 2, n.toNatClampNeg, .inl (zI M1 (zn M))) := by
    intro q0
    rw [zE_arr (kd := 2) (by rw [hM1, hzsh_al]) rfl]
    unfold zar
    rw [hM1, hzsh_al]
    rfl
  refine va_newa (ty := .int) (a0 := (n.toNatClampNeg, .inl (zI M1 (zn M)))) hx hb (hts _ (zwd_in w1)) rfl hK h.1 h.2.1 h.2.2.1 hA (fun cA => ?_) hn0 rfl (by show n.toNatClampNeg * 4 ≤ _; omega) (by omega) (by omega) hdec fun q0 cA H1 hK1 hP1 hD1 hS1 => ?_
  · rw [hM1, hzI_al]
    rfl
  · have hcA : cA = cO 2 := by
      have b1 : va_RA s cA .int := (hK1.2 5 (cA, .int) rfl).2
      have b2 : va_RA s (cO 2) .int := (hK.2 0 (cO 2, .int) rfl).2
      exact Option.some.inj (b1.symm.trans b2)
    rw [hcA, ← hE q0, hM1] at hP1 hD1
    obtain ⟨a1, a2⟩ := zrl_al (r := r) h (fun v hv => List.mem_cons_of_mem _ hv) hP1 hD1 hS1
    rw [← hM1] at a1
    have a3 := nx _ ls H1 locs a1
    rw [hnx, hn, hs, List.map_cons, ← a2, zV_ref h.2.2.2.1.1, zad_new] at a3
    exact W.cs (by omega) (by omega) a3
theorem zs_newL (F : zfx p R s m args meth c D cO A b L xs k) (hpc : zat (gPc k) i = some pc) (hdec : decode (gMe k).2.1 pc = .ok (o, len)) {n : Int32} (hm : zmt (gMe k).1 (gMe k).2.2.1 (gPc k) i pc o len (.newarray .long) = true) (hn0 : ¬ n < 0) (hn1 : n.toNatClampNeg ≤ 100000) (hrm : zn (zal M (3, n.toNatClampNeg) n.toNatClampNeg) - n0 ≤ R.cells ∧ zs (zal M (3, n.toNatClampNeg) n.toNatClampNeg) - s0 ≤ R.slots) (nx : zGo p l e R s m args below meth c Q D cO A b L xs ad0 n0 s0 k (i + 1) lv (.ref (zn M) :: r) (zal M (3, n.toNatClampNeg) n.toNatClampNeg)) : zGo p l e R s m args below meth c Q D cO A b L xs ad0 n0 s0 k i lv (.int n :: r) M := by
  intro ad ls H locs h
  obtain ⟨hx, hb, hml, hown, hts, hnest, hover, hr, hlocks, hname, hK, hX, hbl, hbA, hA, hfr, hlo⟩ := F
  obtain ⟨M1, hM1⟩ : ∃ M1, M1 = zal M (3, n.toNatClampNeg) n.toNatClampNeg := ⟨_, rfl⟩
  have hn : zn M1 = zn M + 1 := by rw [hM1]; rfl
  have hs : zs M1 = zs M + n.toNatClampNeg := by rw [hM1]; rfl
  have hge := h.2.2.2.2.2.2.2.2.2.2
  rw [← hM1, hn, hs] at hrm
  rw [← hM1] at nx
  simp only [zmt, Bool.and_eq_true, decide_eq_true_eq] at hm
  obtain ⟨⟨⟨hnx, rfl⟩, rfl⟩, w1⟩ := hm
  rw [hpc]
  have hE : ∀ q0, zE gFk cO (zad ad (zn M) q0) M1 (zn M) = .inl (cO 3, n.toNatClampNeg, .inr (.inl (zL M1 (zn M)))) := by
    intro q0
    rw [zE_arr (kd := 3) (by rw [hM1, hzsh_al]) rfl]
    unfold zar
    rw [hM1, hzsh_al]
    rfl
  refine va_newa (ty := .long) (a0 := (n.toNatClampNeg, .inr (.inl (zL M1 (zn M))))) hx hb (hts _ (zwd_in w1)) rfl hK h.1 h.2.1 h.2.2.1 hA (fun cA => ?_) hn0 rfl (by show n.toNatClampNeg * 8 ≤ _; omega) (by omega) (by omega) hdec fun q0 cA H1 hK1 hP1 hD1 hS1 => ?_
  · rw [hM1, zL_al]
    rfl
  · have hcA : cA = cO 3 := by
      have b1 : va_RA s cA .long := (hK1.2 5 (cA, .long) rfl).2
      have b2 : va_RA s (cO 3) .long := (hK.2 1 (cO 3, .long) rfl).2
      exact Option.some.inj (b1.symm.trans b2)
    rw [hcA, ← hE q0, hM1] at hP1 hD1
    obtain ⟨a1, a2⟩ := zrl_al (r := r) h (fun v hv => List.mem_cons_of_mem _ hv) hP1 hD1 hS1
    rw [← hM1] at a1
    have a3 := nx _ ls H1 locs a1
    rw [hnx, hn, hs, List.map_cons, ← a2, zV_ref h.2.2.2.1.1, zad_new] at a3
    exact W.cs (by omega) (by omega) a3
theorem zs_newZ (F : zfx p R s m args meth c D cO A b L xs k) (hpc : zat (gPc k) i = some pc) (hdec : decode (gMe k).2.1 pc = .ok (o, len)) {n : Int32} (hm : zmt (gMe k).1 (gMe k).2.2.1 (gPc k) i pc o len (.newarray .boolean) = true) (hn0 : ¬ n < 0) (hn1 : n.toNatClampNeg ≤ 100000) (hrm : zn (zal M (4, n.toNatClampNeg) n.toNatClampNeg) - n0 ≤ R.cells ∧ zs (zal M (4, n.toNatClampNeg) n.toNatClampNeg) - s0 ≤ R.slots) (nx : zGo p l e R s m args below meth c Q D cO A b L xs ad0 n0 s0 k (i + 1) lv (.ref (zn M) :: r) (zal M (4, n.toNatClampNeg) n.toNatClampNeg)) : zGo p l e R s m args below meth c Q D cO A b L xs ad0 n0 s0 k i lv (.int n :: r) M := by
  intro ad ls H locs h
  obtain ⟨hx, hb, hml, hown, hts, hnest, hover, hr, hlocks, hname, hK, hX, hbl, hbA, hA, hfr, hlo⟩ := F
  obtain ⟨M1, hM1⟩ : ∃ M1, M1 = zal M (4, n.toNatClampNeg) n.toNatClampNeg := ⟨_, rfl⟩
  have hn : zn M1 = zn M + 1 := by rw [hM1]; rfl
  have hs : zs M1 = zs M + n.toNatClampNeg := by rw [hM1]; rfl
  have hge := h.2.2.2.2.2.2.2.2.2.2
  rw [← hM1, hn, hs] at hrm
  rw [← hM1] at nx
  simp only [zmt, Bool.and_eq_true, decide_eq_true_eq] at hm
  obtain ⟨⟨⟨hnx, rfl⟩, rfl⟩, w1⟩ := hm
  rw [hpc]
  have hE : ∀ q0, zE gFk cO (zad ad (zn M) q0) M1 (zn M) = .inl (cO 4, n.toNatClampNeg, .inl (zI M1 (zn M))) := by
    intro q0
    rw [zE_arr (kd := 4) (by rw [hM1, hzsh_al]) rfl]
    unfold zar
    rw [hM1, hzsh_al]
    rfl
  refine va_newa (ty := .boolean) (a0 := (n.toNatClampNeg, .inl (zI M1 (zn M)))) hx hb (hts _ (zwd_in w1)) rfl hK h.1 h.2.1 h.2.2.1 hA (fun cA => ?_) hn0 rfl (by show n.toNatClampNeg * 1 ≤ _; omega) (by omega) (by omega) hdec fun q0 cA H1 hK1 hP1 hD1 hS1 => ?_
  · rw [hM1, hzI_al]
    rfl
  · have hcA : cA = cO 4 := by
      have b1 : va_RA s cA .boolean := (hK1.2 5 (cA, .boolean) rfl).2
      have b2 : va_RA s (cO 4) .boolean := (hK.2 2 (cO 4, .boolean) rfl).2
      exact Option.some.inj (b1.symm.trans b2)
    rw [hcA, ← hE q0, hM1] at hP1 hD1
    obtain ⟨a1, a2⟩ := zrl_al (r := r) h (fun v hv => List.mem_cons_of_mem _ hv) hP1 hD1 hS1
    rw [← hM1] at a1
    have a3 := nx _ ls H1 locs a1
    rw [hnx, hn, hs, List.map_cons, ← a2, zV_ref h.2.2.2.1.1, zad_new] at a3
    exact W.cs (by omega) (by omega) a3
theorem zs_newA (F : zfx p R s m args meth c D cO A b L xs k) (hpc : zat (gPc k) i = some pc) (hdec : decode (gMe k).2.1 pc = .ok (o, len)) {n : Int32} {kd : Nat} (hm : zmt (gMe k).1 (gMe k).2.2.1 (gPc k) i pc o len (.anewarray kd) = true) (hn0 : ¬ n < 0) (hn1 : n.toNatClampNeg ≤ 100000) (hrm : zn (zal M (5 + kd % 2, n.toNatClampNeg) n.toNatClampNeg) - n0 ≤ R.cells ∧ zs (zal M (5 + kd % 2, n.toNatClampNeg) n.toNatClampNeg) - s0 ≤ R.slots) (nx : zGo p l e R s m args below meth c Q D cO A b L xs ad0 n0 s0 k (i + 1) lv (.ref (zn M) :: r) (zal M (5 + kd % 2, n.toNatClampNeg) n.toNatClampNeg)) : zGo p l e R s m args below meth c Q D cO A b L xs ad0 n0 s0 k i lv (.int n :: r) M := by
  intro ad ls H locs h
  obtain ⟨hx, hb, hml, hown, hts, hnest, hover, hr, hlocks, hname, hK, hX, hbl, hbA, hA, hfr, hlo⟩ := F
  obtain ⟨M1, hM1⟩ : ∃ M1, M1 = zal M (5 + kd % 2, n.toNatClampNeg) n.toNatClampNeg := ⟨_, rfl⟩
  have hn : zn M1 = zn M + 1 := by rw [hM1]; rfl
  have hs : zs M1 = zs M + n.toNatClampNeg := by rw [hM1]; rfl
  have hge := h.2.2.2.2.2.2.2.2.2.2
  rw [← hM1, hn, hs] at hrm
  rw [← hM1] at nx
  simp only [zmt, Bool.and_eq_true, decide_eq_true_eq] at hm
  obtain ⟨hnx, hm⟩ := hm
  rw [hpc]
  split at hm
  · obtain ⟨⟨rfl, w1⟩, w2⟩ : (_ ∧ _) ∧ _ := by simpa only [Bool.and_eq_true, decide_eq_true_eq] using hm
    have w2' : Cond.arrayOver (.object (gEl (kd % 2))) ∈ lw_tbl := by simpa only [gNB, decide_eq_true_eq] using w2
    have hE : ∀ q0, zE gFk cO (zad ad (zn M) q0) M1 (zn M) = .inl (cO (5 + kd % 2), n.toNatClampNeg, .inr (.inr (.inr (.inr (fun _ => none))))) := by
      intro q0
      rcases Nat.mod_two_eq_zero_or_one kd with hk | hk
      · rw [hk] at hM1 ⊢
        rw [zE_arr (kd := 5) (by rw [hM1, hzsh_al]) rfl]
        unfold zar
        rw [hM1, hzsh_al]
        simp only [hzR_al]
        rfl
      · rw [hk] at hM1 ⊢
        rw [zE_arr (kd := 6) (by rw [hM1, hzsh_al]) rfl]
        unfold zar
        rw [hM1, hzsh_al]
        simp only [hzR_al]
        rfl
    refine va_newq hx hb hown (hts _ (zwd_in w1)) (hover _ w2') hK h.1 h.2.1 h.2.2.1 hA hn0 rfl (by omega) (by omega) (by omega) hdec fun q0 cA H1 hK1 hP1 hD1 hS1 => ?_
    have hcA : cA = cO (5 + kd % 2) := by
      have b1 : va_RA s cA (.object (gEl (kd % 2))) := (hK1.2 5 (cA, .object (gEl (kd % 2))) rfl).2
      have b2 : va_RA s (cO (5 + kd % 2)) (.object (gEl (kd % 2))) := by
        rcases Nat.mod_two_eq_zero_or_one kd with hk | hk
        · rw [hk]; exact (hK.2 3 (cO 5, .object (gEl 0)) rfl).2
        · rw [hk]; exact (hK.2 4 (cO 6, .object (gEl 1)) rfl).2
      obtain ⟨_, _, -, -, -, f1⟩ := b1
      obtain ⟨_, _, -, -, -, f2⟩ := b2
      exact Option.some.inj (f1.symm.trans f2)
    rw [hcA, ← hE q0, hM1] at hP1 hD1
    obtain ⟨a1, a2⟩ := zrl_al (r := r) h (fun v hv => List.mem_cons_of_mem _ hv) hP1 hD1 hS1
    rw [← hM1] at a1
    have a3 := nx _ ls H1 locs a1
    rw [hnx, hn, hs, List.map_cons, ← a2, zV_ref h.2.2.2.1.1, zad_new] at a3
    exact W.cs (by omega) (by omega) a3
  · cases hm
end ZN
theorem zsw_in {x : Int32} {lv : zLv} {r : List Value} {M : zM} {o : zO} : ∀ (ts : List Int) (v : Int) (j : Nat) (t : Int), ts[j]? = some t → x.toInt = v + j → zpick (zsw x lv r M v ts) o = .inl (t.toNat, lv, r, M)
  | [], _, _, _, h, _ => by simp at h
  | a :: ts, v, 0, t, h, hx => by
    have ha : a = t := by simpa using h
    subst ha
    show @ite zO (x.toInt = v) (Classical.propDecidable _) _ _ = _
    rw [if_pos (by omega)]
  | a :: ts, v, j + 1, t, h, hx => by
    show @ite zO (x.toInt = v) (Classical.propDecidable _) _ _ = _
    rw [if_neg (by omega)]
    exact zsw_in ts (v + 1) j t (by simpa using h) (by omega)
theorem zsw_out {x : Int32} {lv : zLv} {r : List Value} {M : zM} {o : zO} : ∀ (ts : List Int) (v : Int), (x.toInt < v ∨ v + ts.length ≤ x.toInt) → zpick (zsw x lv r M v ts) o = o
  | [], _, _ => rfl
  | a :: ts, v, h => by
    show @ite zO (x.toInt = v) (Classical.propDecidable _) _ _ = _
    rw [List.length_cons] at h
    rw [if_neg (by omega)]
    exact zsw_out ts (v + 1) (by omega)
section ZT
variable {p : Program} {l : Launch} {e : Env} {R : Room} {s : State} {m : MethodId} {args : Array Value} {below : List Frame} {meth : Method} {c : Code} {Q : State → Prop} {D : va_G} {cO : Nat → ClassId} {A : Nat → Prop} {b L : Nat} {xs : Nat → Int32} {ad0 : Nat → Nat} {n0 s0 k : Nat} {i pc len : Nat} {lv : zLv} {r : List Value} {M : zM} {o : Instr}
theorem zs_tsw (F : zfx p R s m args meth c D cO A b L xs k) (hpc : zat (gPc k) i = some pc) (hdec : decode (gMe k).2.1 pc = .ok (o, len)) {x : Int32} {d lo hi : Int} {ts : Array Int} (hm : zmt (gMe k).1 (gMe k).2.2.1 (gPc k) i pc o len (.tableswitch d lo hi ts) = true) {i1 : Nat} {lv1 : zLv} {st1 : List Value} {M1 : zM} (hq : zpick (zsw x lv r M lo ts.toList) (.inl (d.toNat, lv, r, M)) = .inl (i1, lv1, st1, M1)) (nx : zGo p l e R s m args below meth c Q D cO A b L xs ad0 n0 s0 k i1 lv1 st1 M1) : zGo p l e R s m args below meth c Q D cO A b L xs ad0 n0 s0 k i lv (.int x :: r) M := by
  intro ad ls H locs h
  obtain ⟨hx, hb, hml, hown, hts, hnest, hover, hr, hlocks, hname, hK, hX, hbl, hbA, hA, hfr, hlo⟩ := F
  have h' := zrl_st (st' := r) h (fun v hv => h.2.2.2.2.2.2.2.1 v (List.mem_cons_of_mem _ hv))
  simp only [zmt] at hm
  rw [hpc]
  split at hm
  · obtain ⟨⟨⟨⟨⟨rfl, rfl⟩, t0⟩, e1⟩, e2⟩, e3⟩ : ((((_ ∧ _) ∧ _) ∧ _) ∧ _) ∧ _ := by simpa only [Bool.and_eq_true, decide_eq_true_eq] using hm
    rename_i d1 lo1 hi1 offs
    by_cases hout : x.toInt < lo1 ∨ hi1 < x.toInt
    · rw [zsw_out _ _ (by omega)] at hq
      obtain ⟨rfl, rfl, rfl, rfl⟩ : _ ∧ _ ∧ _ ∧ _ := by simpa using hq
      obtain ⟨tgt, b1, b2⟩ := ztg_at t0
      have a1 := nx ad ls H locs h'
      rw [b1] at a1
      exact lv_tableOut hx hb hdec hout b2 a1
    · have hj : (x.toInt - lo1).toNat < ts.toList.length := by omega
      obtain ⟨t1, g1⟩ : ∃ t1, ts.toList[(x.toInt - lo1).toNat]? = some t1 := ⟨_, List.getElem?_eq_getElem hj⟩
      obtain ⟨t2, g2⟩ : ∃ t2, offs.toList[(x.toInt - lo1).toNat]? = some t2 := ⟨_, List.getElem?_eq_getElem (by rw [e1]; exact hj)⟩
      rw [zsw_in _ _ _ _ g1 (by omega)] at hq
      cases hq
      have hz := List.all_eq_true.mp e3 (t2, t1) (by
        refine List.mem_of_getElem? (i := (x.toInt - lo1).toNat) ?_
        rw [List.getElem?_zip_eq_some]
        exact ⟨g2, g1⟩)
      obtain ⟨tgt, b1, b2⟩ := ztg_at hz
      have a1 := nx ad ls H locs h'
      rw [show zat (gPc k) t1.toNat = some tgt from b1] at a1
      exact lv_tableIn hx hb hdec (fun q => hout (Or.inl q)) (fun q => hout (Or.inr q)) (by rw [← Array.getElem?_toList]; exact g2) b2 a1
  · cases hm
end ZT
