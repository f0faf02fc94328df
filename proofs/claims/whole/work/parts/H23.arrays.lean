/-! arrays and makings (by wip/whole/genarr.py) -/
section ZA
variable {p : Program} {l : Launch} {e : Env} {R : Room} {s : State} {m : MethodId} {args : Array Value} {below : List Frame} {meth : Method} {c : Code} {Q : State → Prop} {D : va_G} {cO : Nat → ClassId} {A : Nat → Prop} {b L : Nat} {xs : Nat → Int32} {ad0 : Nat → Nat} {n0 s0 k : Nat} {i pc len : Nat} {lv : zLv} {r : List Value} {M : zM} {o : Instr}
theorem zs_iaload (F : zfx p R s m args meth c D cO A b L xs k) (hpc : zat (gPc k) i = some pc) (hdec : decode (gMe k).2.1 pc = .ok (.iaload, 1)) (hnx : zat (gPc k) (i + 1) = some (pc + 1)) {a : Nat} {j : Int32} (hsh : (zsh M a).1 = 2) (hin : zin j (zsh M a).2) (nx : zGo p l e R s m args below meth c Q D cO A b L xs ad0 n0 s0 k (i + 1) lv (.int (zI M a j.toNatClampNeg) :: r) M) : zGo p l e R s m args below meth c Q D cO A b L xs ad0 n0 s0 k i lv (.int j :: .ref a :: r) M := by
  intro ad ls H locs h
  obtain ⟨hx, hb, hml, hown, hts, hnest, hover, hr, hlocks, hname, hK, hX, hbl, hbA, hA, hfr, hlo⟩ := F
  have hids := zin_ids h.2.2.2.1 (a := a) (by omega)
  have a1 := nx ad ls H locs (zrl_st h (fun v hv => by rcases List.mem_cons.mp hv with rfl | hv; exact trivial; exact h.2.2.2.2.2.2.2.1 v (List.mem_cons_of_mem _ (List.mem_cons_of_mem _ hv))))
  have hg := zws_get (fk := gFk) (cO := cO) (ad := ad) hids
  rw [zE_arr hsh rfl] at hg
  rw [hnx] at a1
  rw [hpc, List.map_cons, List.map_cons, zV_ref hids.1]
  exact va_iald hx hb hK h.1 (a - 2) 0 hg rfl hin hdec a1
theorem zs_laload (F : zfx p R s m args meth c D cO A b L xs k) (hpc : zat (gPc k) i = some pc) (hdec : decode (gMe k).2.1 pc = .ok (.laload, 1)) (hnx : zat (gPc k) (i + 1) = some (pc + 1)) {a : Nat} {j : Int32} (hsh : (zsh M a).1 = 3) (hin : zin j (zsh M a).2) (nx : zGo p l e R s m args below meth c Q D cO A b L xs ad0 n0 s0 k (i + 1) lv (.long (zL M a j.toNatClampNeg) :: r) M) : zGo p l e R s m args below meth c Q D cO A b L xs ad0 n0 s0 k i lv (.int j :: .ref a :: r) M := by
  intro ad ls H locs h
  obtain ⟨hx, hb, hml, hown, hts, hnest, hover, hr, hlocks, hname, hK, hX, hbl, hbA, hA, hfr, hlo⟩ := F
  have hids := zin_ids h.2.2.2.1 (a := a) (by omega)
  have a1 := nx ad ls H locs (zrl_st h (fun v hv => by rcases List.mem_cons.mp hv with rfl | hv; exact trivial; exact h.2.2.2.2.2.2.2.1 v (List.mem_cons_of_mem _ (List.mem_cons_of_mem _ hv))))
  have hg := zws_get (fk := gFk) (cO := cO) (ad := ad) hids
  rw [zE_arr hsh rfl] at hg
  rw [hnx] at a1
  rw [hpc, List.map_cons, List.map_cons, zV_ref hids.1]
  exact va_lald hx hb hK h.1 (a - 2) 1 hg rfl hin hdec a1
theorem zs_baload (F : zfx p R s m args meth c D cO A b L xs k) (hpc : zat (gPc k) i = some pc) (hdec : decode (gMe k).2.1 pc = .ok (.baload, 1)) (hnx : zat (gPc k) (i + 1) = some (pc + 1)) {a : Nat} {j : Int32} (hsh : (zsh M a).1 = 4) (hin : zin j (zsh M a).2) (nx : zGo p l e R s m args below meth c Q D cO A b L xs ad0 n0 s0 k (i + 1) lv (.int (zI M a j.toNatClampNeg) :: r) M) : zGo p l e R s m args below meth c Q D cO A b L xs ad0 n0 s0 k i lv (.int j :: .ref a :: r) M := by
  intro ad ls H locs h
  obtain ⟨hx, hb, hml, hown, hts, hnest, hover, hr, hlocks, hname, hK, hX, hbl, hbA, hA, hfr, hlo⟩ := F
  have hids := zin_ids h.2.2.2.1 (a := a) (by omega)
  have a1 := nx ad ls H locs (zrl_st h (fun v hv => by rcases List.mem_cons.mp hv with rfl | hv; exact trivial; exact h.2.2.2.2.2.2.2.1 v (List.mem_cons_of_mem _ (List.mem_cons_of_mem _ hv))))
  have hg := zws_get (fk := gFk) (cO := cO) (ad := ad) hids
  rw [zE_arr hsh rfl] at hg
  rw [hnx] at a1
  rw [hpc, List.map_cons, List.map_cons, zV_ref hids.1]
  exact va_zald hx hb hK h.1 (a - 2) 2 hg rfl hin hdec a1
theorem zs_aaload (F : zfx p R s m args meth c D cO A b L xs k) (hpc : zat (gPc k) i = some pc) (hdec : decode (gMe k).2.1 pc = .ok (.aaload, 1)) (hnx : zat (gPc k) (i + 1) = some (pc + 1)) {a kd : Nat} {j : Int32} (hsh : (zsh M a).1 = 5 + kd % 2) (hin : zin j (zsh M a).2) (nx : zGo p l e R s m args below meth c Q D cO A b L xs ad0 n0 s0 k (i + 1) lv (.ref (zR M a j.toNatClampNeg) :: r) M) : zGo p l e R s m args below meth c Q D cO A b L xs ad0 n0 s0 k i lv (.int j :: .ref a :: r) M := by
  intro ad ls H locs h
  obtain ⟨hx, hb, hml, hown, hts, hnest, hover, hr, hlocks, hname, hK, hX, hbl, hbA, hA, hfr, hlo⟩ := F
  have hids := zin_ids h.2.2.2.1 (a := a) (by omega)
  have a1 := nx ad ls H locs (zrl_st h (fun v hv => by rcases List.mem_cons.mp hv with rfl | hv; exact h.2.2.2.1.2.2 a _; exact h.2.2.2.2.2.2.2.1 v (List.mem_cons_of_mem _ (List.mem_cons_of_mem _ hv))))
  have hg := zws_get (fk := gFk) (cO := cO) (ad := ad) hids
  rw [hnx] at a1
  rw [hpc, List.map_cons, List.map_cons, zV_ref hids.1]
  rcases Nat.mod_two_eq_zero_or_one kd with hk | hk
  · rw [hk] at hsh
    rw [zE_arr hsh rfl] at hg
    exact va_aldq hx hb hK h.1 (a - 2) 3 hg rfl hin hdec a1
  · rw [hk] at hsh
    rw [zE_arr hsh rfl] at hg
    exact va_aldq hx hb hK h.1 (a - 2) 4 hg rfl hin hdec a1
theorem zs_iastore (F : zfx p R s m args meth c D cO A b L xs k) (hpc : zat (gPc k) i = some pc) (hdec : decode (gMe k).2.1 pc = .ok (.iastore, 1)) (hnx : zat (gPc k) (i + 1) = some (pc + 1)) {a : Nat} {j : Int32} {x : Int32} (hsh : (zsh M a).1 = 2) (hin : zin j (zsh M a).2) (nx : zGo p l e R s m args below meth c Q D cO A b L xs ad0 n0 s0 k (i + 1) lv r (zuI M a j.toNatClampNeg x)) : zGo p l e R s m args below meth c Q D cO A b L xs ad0 n0 s0 k i lv (.int x :: .int j :: .ref a :: r) M := by
  intro ad ls H locs h
  obtain ⟨hx, hb, hml, hown, hts, hnest, hover, hr, hlocks, hname, hK, hX, hbl, hbA, hA, hfr, hlo⟩ := F
  have hids := zin_ids h.2.2.2.1 (a := a) (by omega)
  have hg := zws_get (fk := gFk) (cO := cO) (ad := ad) hids
  rw [zE_arr hsh rfl] at hg
  rw [hpc, List.map_cons, List.map_cons, List.map_cons, zV_ref hids.1]
  have hset : (zws gFk cO ad M).set (a - 2) (ad a, .inl (cO 2, (zsh M a).2, .inl (upd (zI M a) j.toNatClampNeg x))) = zws gFk cO ad (zuI M a j.toNatClampNeg x) := by
    have e2 : zE gFk cO ad (zuI M a j.toNatClampNeg x) a = .inl (cO 2, (zsh M a).2, .inl (upd (zI M a) j.toNatClampNeg x)) := by
      rw [zE_arr (M := zuI M a j.toNatClampNeg x) hsh rfl]
      have e3 : zI (zuI M a j.toNatClampNeg x) a = upd (zI M a) j.toNatClampNeg x := by
        funext q
        simp [zI, zuI, upd]
      unfold zar
      rw [e3]
      rfl
    rw [← e2]
    refine zws_upd hids rfl fun y hy => zE_same rfl (fun q => ?_) (fun q => ?_) (fun q => rfl)
    · simp [zI, zuI, hy]
    · simp [zL, zuI, hy]
  refine va_iast hx hb hK h.1 h.2.1 h.2.2.1 (a - 2) 0 hg rfl hin hdec fun H1 locs1 hP1 hD1 hS1 => ?_
  have hP1 : va_P D gCl ((zws gFk cO ad M).set (a - 2) (ad a, .inl (cO 2, (zsh M a).2, .inl (upd (zI M a) j.toNatClampNeg x)))) H1 := hP1
  have hD1 : va_D A ((zws gFk cO ad M).set (a - 2) (ad a, .inl (cO 2, (zsh M a).2, .inl (upd (zI M a) j.toNatClampNeg x)))) := hD1
  rw [hset] at hP1 hD1
  have a1 := nx ad ls H1 locs1 ⟨hP1, hD1, hS1, h.2.2.2.1, zscr_uI h.2.2.2.2.1 hids.1, h.2.2.2.2.2.1, h.2.2.2.2.2.2.1, fun v hv => h.2.2.2.2.2.2.2.1 v (List.mem_cons_of_mem _ (List.mem_cons_of_mem _ (List.mem_cons_of_mem _ hv))), h.2.2.2.2.2.2.2.2⟩
  rw [hnx] at a1
  exact a1
theorem zs_lastore (F : zfx p R s m args meth c D cO A b L xs k) (hpc : zat (gPc k) i = some pc) (hdec : decode (gMe k).2.1 pc = .ok (.lastore, 1)) (hnx : zat (gPc k) (i + 1) = some (pc + 1)) {a : Nat} {j : Int32} {x : Int64} (hsh : (zsh M a).1 = 3) (hin : zin j (zsh M a).2) (nx : zGo p l e R s m args below meth c Q D cO A b L xs ad0 n0 s0 k (i + 1) lv r (zuL M a j.toNatClampNeg x)) : zGo p l e R s m args below meth c Q D cO A b L xs ad0 n0 s0 k i lv (.long x :: .int j :: .ref a :: r) M := by
  intro ad ls H locs h
  obtain ⟨hx, hb, hml, hown, hts, hnest, hover, hr, hlocks, hname, hK, hX, hbl, hbA, hA, hfr, hlo⟩ := F
  have hids := zin_ids h.2.2.2.1 (a := a) (by omega)
  have hg := zws_get (fk := gFk) (cO := cO) (ad := ad) hids
  rw [zE_arr hsh rfl] at hg
  rw [hpc, List.map_cons, List.map_cons, List.map_cons, zV_ref hids.1]
  have hset : (zws gFk cO ad M).set (a - 2) (ad a, .inl (cO 3, (zsh M a).2, .inr (.inl (vp_updL (zL M a) j.toNatClampNeg x)))) = zws gFk cO ad (zuL M a j.toNatClampNeg x) := by
    have e2 : zE gFk cO ad (zuL M a j.toNatClampNeg x) a = .inl (cO 3, (zsh M a).2, .inr (.inl (vp_updL (zL M a) j.toNatClampNeg x))) := by
      rw [zE_arr (M := zuL M a j.toNatClampNeg x) hsh rfl]
      have e3 : zL (zuL M a j.toNatClampNeg x) a = vp_updL (zL M a) j.toNatClampNeg x := by
        funext q
        simp [zL, zuL, vp_updL]
      unfold zar
      rw [e3]
      rfl
    rw [← e2]
    refine zws_upd hids rfl fun y hy => zE_same rfl (fun q => ?_) (fun q => ?_) (fun q => rfl)
    · simp [zI, zuL, hy]
    · simp [zL, zuL, hy]
  refine va_last hx hb hK h.1 h.2.1 h.2.2.1 (a - 2) 1 hg rfl hin hdec fun H1 locs1 hP1 hD1 hS1 => ?_
  have hP1 : va_P D gCl ((zws gFk cO ad M).set (a - 2) (ad a, .inl (cO 3, (zsh M a).2, .inr (.inl (vp_updL (zL M a) j.toNatClampNeg x))))) H1 := hP1
  have hD1 : va_D A ((zws gFk cO ad M).set (a - 2) (ad a, .inl (cO 3, (zsh M a).2, .inr (.inl (vp_updL (zL M a) j.toNatClampNeg x))))) := hD1
  rw [hset] at hP1 hD1
  have a1 := nx ad ls H1 locs1 ⟨hP1, hD1, hS1, h.2.2.2.1, h.2.2.2.2.1, h.2.2.2.2.2.1, h.2.2.2.2.2.2.1, fun v hv => h.2.2.2.2.2.2.2.1 v (List.mem_cons_of_mem _ (List.mem_cons_of_mem _ (List.mem_cons_of_mem _ hv))), h.2.2.2.2.2.2.2.2⟩
  rw [hnx] at a1
  exact a1
theorem zs_bastore (F : zfx p R s m args meth c D cO A b L xs k) (hpc : zat (gPc k) i = some pc) (hdec : decode (gMe k).2.1 pc = .ok (.bastore, 1)) (hnx : zat (gPc k) (i + 1) = some (pc + 1)) {a : Nat} {j : Int32} {x : Int32} (hz : zb x) (hsh : (zsh M a).1 = 4) (hin : zin j (zsh M a).2) (nx : zGo p l e R s m args below meth c Q D cO A b L xs ad0 n0 s0 k (i + 1) lv r (zuI M a j.toNatClampNeg x)) : zGo p l e R s m args below meth c Q D cO A b L xs ad0 n0 s0 k i lv (.int x :: .int j :: .ref a :: r) M := by
  intro ad ls H locs h
  obtain ⟨hx, hb, hml, hown, hts, hnest, hover, hr, hlocks, hname, hK, hX, hbl, hbA, hA, hfr, hlo⟩ := F
  have hids := zin_ids h.2.2.2.1 (a := a) (by omega)
  have hg := zws_get (fk := gFk) (cO := cO) (ad := ad) hids
  rw [zE_arr hsh rfl] at hg
  rw [hpc, List.map_cons, List.map_cons, List.map_cons, zV_ref hids.1]
  have hset : (zws gFk cO ad M).set (a - 2) (ad a, .inl (cO 4, (zsh M a).2, .inl (upd (zI M a) j.toNatClampNeg x))) = zws gFk cO ad (zuI M a j.toNatClampNeg x) := by
    have e2 : zE gFk cO ad (zuI M a j.toNatClampNeg x) a = .inl (cO 4, (zsh M a).2, .inl (upd (zI M a) j.toNatClampNeg x)) := by
      rw [zE_arr (M := zuI M a j.toNatClampNeg x) hsh rfl]
      have e3 : zI (zuI M a j.toNatClampNeg x) a = upd (zI M a) j.toNatClampNeg x := by
        funext q
        simp [zI, zuI, upd]
      unfold zar
      rw [e3]
      rfl
    rw [← e2]
    refine zws_upd hids rfl fun y hy => zE_same rfl (fun q => ?_) (fun q => ?_) (fun q => rfl)
    · simp [zI, zuI, hy]
    · simp [zL, zuI, hy]
  refine va_zast hx hb hK h.1 h.2.1 h.2.2.1 (a - 2) 2 hg rfl hin hdec fun H1 locs1 hP1 hD1 hS1 => ?_
  have hnar : vp_nar .boolean x = x := by rcases hz with rfl | rfl <;> decide
  rw [hnar] at hP1 hD1
  have hP1 : va_P D gCl ((zws gFk cO ad M).set (a - 2) (ad a, .inl (cO 4, (zsh M a).2, .inl (upd (zI M a) j.toNatClampNeg x)))) H1 := hP1
  have hD1 : va_D A ((zws gFk cO ad M).set (a - 2) (ad a, .inl (cO 4, (zsh M a).2, .inl (upd (zI M a) j.toNatClampNeg x)))) := hD1
  rw [hset] at hP1 hD1
  have a1 := nx ad ls H1 locs1 ⟨hP1, hD1, hS1, h.2.2.2.1, zscr_uI h.2.2.2.2.1 hids.1, h.2.2.2.2.2.1, h.2.2.2.2.2.2.1, fun v hv => h.2.2.2.2.2.2.2.1 v (List.mem_cons_of_mem _ (List.mem_cons_of_mem _ (List.mem_cons_of_mem _ hv))), h.2.2.2.2.2.2.2.2⟩
  rw [hnx] at a1
  exact a1
theorem zs_aastore (F : zfx p R s m args meth c D cO A b L xs k) (hpc : zat (gPc k) i = some pc) (hdec : decode (gMe k).2.1 pc = .ok (o, len)) {a v x : Nat} {j : Int32} (hm : zmt (gMe k).1 (gMe k).2.2.1 (gPc k) i pc o len (.putstatic x) = true) (hsh : (zsh M a).1 = 5 + x % 2) (hin : zin j (zsh M a).2) (hv : (zsh M v).1 = 10 + x / 10) (nx : zGo p l e R s m args below meth c Q D cO A b L xs ad0 n0 s0 k (i + 1) lv r (zuR M a j.toNatClampNeg v)) : zGo p l e R s m args below meth c Q D cO A b L xs ad0 n0 s0 k i lv (.ref v :: .int j :: .ref a :: r) M := by
  intro ad ls H locs h
  obtain ⟨hx, hb, hml, hown, hts, hnest, hover, hr, hlocks, hname, hK, hX, hbl, hbA, hA, hfr, hlo⟩ := F
  have hids := zin_ids h.2.2.2.1 (a := a) (by omega)
  have hidv := zin_ids h.2.2.2.1 (a := v) (by omega)
  have hg := zws_get (fk := gFk) (cO := cO) (ad := ad) hids
  have hgv := zws_get (fk := gFk) (cO := cO) (ad := ad) hidv
  rw [zE_obj hv] at hgv
  simp only [zmt, Bool.and_eq_true, decide_eq_true_eq] at hm
  obtain ⟨⟨⟨hnx, rfl⟩, rfl⟩, hm⟩ := hm
  split at hm
  · rename_i q hq
    have hqe : q.1 = gEl (x % 2) := by simpa only [decide_eq_true_eq] using hm
    rw [hpc, List.map_cons, List.map_cons, List.map_cons, zV_ref hids.1, zV_ref hidv.1]
    have fin : ∀ (kd : Nat), (zsh M a).1 = kd → Nat.ble 10 kd = false → (kd == 3) = false → Nat.ble 5 kd = true → ∀ (H1 : Heap) (locs1 : List Loc), va_P D gCl ((zws gFk cO ad M).set (a - 2) (ad a, .inl (cO kd, (zsh M a).2, .inr (.inr (.inr (.inr (va_up (fun q => zro ad (zR M a q)) j.toNatClampNeg (some (ad v))))))))) H1 → va_D A ((zws gFk cO ad M).set (a - 2) (ad a, .inl (cO kd, (zsh M a).2, .inr (.inr (.inr (.inr (va_up (fun q => zro ad (zR M a q)) j.toNatClampNeg (some (ad v))))))))) → va_S A s.heap H1 locs1 → W p l e R s m args below meth c H1 locs1 (zn M - n0) (zs M - s0) Q (F0 m (pc + 1) ls (r.map (zV ad))) := by
      intro kd hkd b1 b2 b3 H1 locs1 hP1 hD1 hS1
      have hset : (zws gFk cO ad M).set (a - 2) (ad a, .inl (cO kd, (zsh M a).2, .inr (.inr (.inr (.inr (va_up (fun q => zro ad (zR M a q)) j.toNatClampNeg (some (ad v)))))))) = zws gFk cO ad (zuR M a j.toNatClampNeg v) := by
        have e2 : zE gFk cO ad (zuR M a j.toNatClampNeg v) a = .inl (cO kd, (zsh M a).2, .inr (.inr (.inr (.inr (va_up (fun q => zro ad (zR M a q)) j.toNatClampNeg (some (ad v))))))) := by
          rw [zE_arr (M := zuR M a j.toNatClampNeg v) hkd b1]
          have e3 : (fun q => zro ad (zR (zuR M a j.toNatClampNeg v) a q)) = va_up (fun q => zro ad (zR M a q)) j.toNatClampNeg (some (ad v)) := by
            funext q
            by_cases hq : q = j.toNatClampNeg
            · have : ¬ v = 0 := by omega
              simp [zR, zuR, va_up, hq, zro, this]
            · simp [zR, zuR, va_up, hq]
          unfold zar
          rw [e3, b2, b3]
          rfl
        rw [← e2]
        refine zws_upd hids rfl fun y hy => zE_same rfl (fun q => rfl) (fun q => rfl) (fun q => ?_)
        simp [zR, zuR, hy]
      rw [hset] at hP1 hD1
      have a1 := nx ad ls H1 locs1 ⟨hP1, hD1, hS1, zinv_uR h.2.2.2.1 hidv.2, h.2.2.2.2.1, h.2.2.2.2.2.1, h.2.2.2.2.2.2.1, fun v hv => h.2.2.2.2.2.2.2.1 v (List.mem_cons_of_mem _ (List.mem_cons_of_mem _ (List.mem_cons_of_mem _ hv))), h.2.2.2.2.2.2.2.2⟩
      rw [hnx] at a1
      exact a1
    rcases Nat.mod_two_eq_zero_or_one x with hk | hk
    · rw [hk] at hsh hqe
      rw [zE_arr hsh rfl] at hg
      exact va_astq hx hb hK h.1 h.2.1 h.2.2.1 (a - 2) 3 (v - 2) (x / 10) hg (by rw [hqe]; rfl) hgv hq hin hdec (fin 5 hsh rfl rfl rfl)
    · rw [hk] at hsh hqe
      rw [zE_arr hsh rfl] at hg
      exact va_astq hx hb hK h.1 h.2.1 h.2.2.1 (a - 2) 4 (v - 2) (x / 10) hg (by rw [hqe]; rfl) hgv hq hin hdec (fin 6 hsh rfl rfl rfl)
  · cases hm
theorem zs_saload (F : zfx p R s m args meth c D cO A b L xs k) (hpc : zat (gPc k) i = some pc) (hdec : decode (gMe k).2.1 pc = .ok (.iaload, 1)) (hnx : zat (gPc k) (i + 1) = some (pc + 1)) {j : Int32} (hin : zin j (zsh M 1).2) (nx : zGo p l e R s m args below meth c Q D cO A b L xs ad0 n0 s0 k (i + 1) lv (.int (zI M 1 j.toNatClampNeg) :: r) M) : zGo p l e R s m args below meth c Q D cO A b L xs ad0 n0 s0 k i lv (.int j :: .ref 1 :: r) M := by
  intro ad ls H locs h
  obtain ⟨hx, hb, hml, hown, hts, hnest, hover, hr, hlocks, hname, hK, hX, hbl, hbA, hA, hfr, hlo⟩ := F
  have a1 := nx ad ls H locs (zrl_st h (fun v hv => by rcases List.mem_cons.mp hv with rfl | hv; exact trivial; exact h.2.2.2.2.2.2.2.1 v (List.mem_cons_of_mem _ (List.mem_cons_of_mem _ hv))))
  rw [hnx] at a1
  have hs1 := h.2.2.2.2.1
  rw [hs1.1] at hin
  rw [List.map_cons, hs1.2] at a1
  rw [hpc, List.map_cons, List.map_cons, show zV ad (.ref 1) = .ref (ad 1) from rfl, h.2.2.2.2.2.1]
  exact va_sld hx hb hX hbl hbA h.2.2.1 hin hdec a1
theorem zs_alen (F : zfx p R s m args meth c D cO A b L xs k) (hpc : zat (gPc k) i = some pc) (hdec : decode (gMe k).2.1 pc = .ok (.arraylength, 1)) (hnx : zat (gPc k) (i + 1) = some (pc + 1)) (nx : zGo p l e R s m args below meth c Q D cO A b L xs ad0 n0 s0 k (i + 1) lv (.int (Int32.ofNat (zsh M 1).2) :: r) M) : zGo p l e R s m args below meth c Q D cO A b L xs ad0 n0 s0 k i lv (.ref 1 :: r) M := by
  intro ad ls H locs h
  obtain ⟨hx, hb, hml, hown, hts, hnest, hover, hr, hlocks, hname, hK, hX, hbl, hbA, hA, hfr, hlo⟩ := F
  have a1 := nx ad ls H locs (zrl_st h (fun v hv => by rcases List.mem_cons.mp hv with rfl | hv; exact trivial; exact h.2.2.2.2.2.2.2.1 v (List.mem_cons_of_mem _ hv)))
  rw [hnx] at a1
  have hs1 := h.2.2.2.2.1
  rw [List.map_cons, hs1.1] at a1
  rw [hpc, List.map_cons, show zV ad (.ref 1) = .ref (ad 1) from rfl, h.2.2.2.2.2.1]
  exact va_slen hx hb hX hbl hbA h.2.2.1 hdec a1
theorem zs_copyI (F : zfx p R s m args meth c D cO A b L xs k) (hpc : zat (gPc k) i = some pc) (hdec : decode (gMe k).2.1 pc = .ok (o, len)) {a b1 : Nat} {sp dp n : Int32} (hm : zmt (gMe k).1 (gMe k).2.2.1 (gPc k) i pc o len .faload = true) (ha : (zsh M a).1 = 2) (hb1 : (zsh M b1).1 = 2) (h1 : ¬ sp < 0) (h2 : ¬ dp < 0) (h3 : ¬ n < 0) (h4 : sp.toNatClampNeg + n.toNatClampNeg ≤ (zsh M a).2) (h5 : dp.toNatClampNeg + n.toNatClampNeg ≤ (zsh M b1).2) (nx : zGo p l e R s m args below meth c Q D cO A b L xs ad0 n0 s0 k (i + 1) lv [] (zcI M a sp.toNatClampNeg b1 dp.toNatClampNeg n.toNatClampNeg)) : zGo p l e R s m args below meth c Q D cO A b L xs ad0 n0 s0 k i lv [.int n, .int dp, .ref b1, .int sp, .ref a] M := by
  intro ad ls H locs h
  obtain ⟨hx, hb, hml, hown, hts, hnest, hover, hr, hlocks, hname, hK, hX, hbl, hbA, hA, hfr, hlo⟩ := F
  have hids := zin_ids h.2.2.2.1 (a := a) (by omega)
  have hidb := zin_ids h.2.2.2.1 (a := b1) (by omega)
  have hg := zws_get (fk := gFk) (cO := cO) (ad := ad) hids
  have hgb := zws_get (fk := gFk) (cO := cO) (ad := ad) hidb
  rw [zE_arr ha rfl] at hg
  rw [zE_arr hb1 rfl] at hgb
  have hset : (zws gFk cO ad M).set (b1 - 2) (ad b1, .inl (cO 2, (zsh M b1).2, .inl (va_cpy (zI M a) (zI M b1) sp.toNatClampNeg dp.toNatClampNeg n.toNatClampNeg))) = zws gFk cO ad (zcI M a sp.toNatClampNeg b1 dp.toNatClampNeg n.toNatClampNeg) := by
    have e2 : zE gFk cO ad (zcI M a sp.toNatClampNeg b1 dp.toNatClampNeg n.toNatClampNeg) b1 = .inl (cO 2, (zsh M b1).2, .inl (va_cpy (zI M a) (zI M b1) sp.toNatClampNeg dp.toNatClampNeg n.toNatClampNeg)) := by
      rw [zE_arr (M := zcI M a sp.toNatClampNeg b1 dp.toNatClampNeg n.toNatClampNeg) hb1 rfl]
      have e3 : zI (zcI M a sp.toNatClampNeg b1 dp.toNatClampNeg n.toNatClampNeg) b1 = va_cpy (zI M a) (zI M b1) sp.toNatClampNeg dp.toNatClampNeg n.toNatClampNeg := by
        funext q
        simp [zI, zcI, va_cpy]
      unfold zar
      rw [e3]
      rfl
    rw [← e2]
    refine zws_upd hidb rfl fun y hy => zE_same rfl (fun q => ?_) (fun q => ?_) (fun q => rfl)
    · simp [zI, zcI, hy]
    · simp [zL, zcI, hy]
  simp only [zmt, Bool.and_eq_true, decide_eq_true_eq] at hm
  obtain ⟨hnx, hm⟩ := hm
  rw [hpc]
  show W p l e R s m args below meth c H locs (zn M - n0) (zs M - s0) Q (F0 m pc ls [.int n, .int dp, zV ad (.ref b1), .int sp, zV ad (.ref a)])
  rw [zV_ref hids.1, zV_ref hidb.1]
  split at hm
  · obtain ⟨⟨⟨⟨rfl, w1⟩, w2⟩, w3⟩, w4⟩ : (((_ ∧ _) ∧ _) ∧ _) ∧ _ := by simpa only [Bool.and_eq_true, decide_eq_true_eq] using hm
    refine va_copyi hx hb (hml.trans h.2.2.2.2.2.2.1.1.symm) hown (hts _ (zwd_in w1)) (hts _ (zwd_in w2)) (hts _ (zwd_in w3)) (hts _ (zwd_in w4)) hK h.1 h.2.1 h.2.2.1 (a - 2) (b1 - 2) 0 0 (ty := .int) hg hgb rfl rfl rfl h1 h2 h3 h4 h5 (fun _ _ => rfl) hfr (by
      show 0 + (nativeFrameWords "java/lang/System" "arraycopy" 5 + 11) ≤ R.locals
      have : nativeFrameWords "java/lang/System" "arraycopy" 5 = 7 := by decide
      omega) hdec fun H1 locs1 hP1 hD1 hS1 => ?_
    have hP1 : va_P D gCl ((zws gFk cO ad M).set (b1 - 2) (ad b1, .inl (cO 2, (zsh M b1).2, .inl (va_cpy (zI M a) (zI M b1) sp.toNatClampNeg dp.toNatClampNeg n.toNatClampNeg)))) H1 := hP1
    have hD1 : va_D A ((zws gFk cO ad M).set (b1 - 2) (ad b1, .inl (cO 2, (zsh M b1).2, .inl (va_cpy (zI M a) (zI M b1) sp.toNatClampNeg dp.toNatClampNeg n.toNatClampNeg)))) := hD1
    rw [hset] at hP1 hD1
    have a1 := nx ad ls H1 locs1 ⟨hP1, hD1, hS1, h.2.2.2.1, zscr_cI h.2.2.2.2.1 hidb.1, h.2.2.2.2.2.1, h.2.2.2.2.2.2.1, fun v hv => absurd hv List.not_mem_nil, h.2.2.2.2.2.2.2.2⟩
    rw [hnx] at a1
    exact a1
  · cases hm
theorem zs_copyL (F : zfx p R s m args meth c D cO A b L xs k) (hpc : zat (gPc k) i = some pc) (hdec : decode (gMe k).2.1 pc = .ok (o, len)) {a b1 : Nat} {sp dp n : Int32} (hm : zmt (gMe k).1 (gMe k).2.2.1 (gPc k) i pc o len .daload = true) (ha : (zsh M a).1 = 3) (hb1 : (zsh M b1).1 = 3) (h1 : ¬ sp < 0) (h2 : ¬ dp < 0) (h3 : ¬ n < 0) (h4 : sp.toNatClampNeg + n.toNatClampNeg ≤ (zsh M a).2) (h5 : dp.toNatClampNeg + n.toNatClampNeg ≤ (zsh M b1).2) (nx : zGo p l e R s m args below meth c Q D cO A b L xs ad0 n0 s0 k (i + 1) lv [] (zcL M a sp.toNatClampNeg b1 dp.toNatClampNeg n.toNatClampNeg)) : zGo p l e R s m args below meth c Q D cO A b L xs ad0 n0 s0 k i lv [.int n, .int dp, .ref b1, .int sp, .ref a] M := by
  intro ad ls H locs h
  obtain ⟨hx, hb, hml, hown, hts, hnest, hover, hr, hlocks, hname, hK, hX, hbl, hbA, hA, hfr, hlo⟩ := F
  have hids := zin_ids h.2.2.2.1 (a := a) (by omega)
  have hidb := zin_ids h.2.2.2.1 (a := b1) (by omega)
  have hg := zws_get (fk := gFk) (cO := cO) (ad := ad) hids
  have hgb := zws_get (fk := gFk) (cO := cO) (ad := ad) hidb
  rw [zE_arr ha rfl] at hg
  rw [zE_arr hb1 rfl] at hgb
  have hset : (zws gFk cO ad M).set (b1 - 2) (ad b1, .inl (cO 3, (zsh M b1).2, .inr (.inl (va_cpy (zL M a) (zL M b1) sp.toNatClampNeg dp.toNatClampNeg n.toNatClampNeg)))) = zws gFk cO ad (zcL M a sp.toNatClampNeg b1 dp.toNatClampNeg n.toNatClampNeg) := by
    have e2 : zE gFk cO ad (zcL M a sp.toNatClampNeg b1 dp.toNatClampNeg n.toNatClampNeg) b1 = .inl (cO 3, (zsh M b1).2, .inr (.inl (va_cpy (zL M a) (zL M b1) sp.toNatClampNeg dp.toNatClampNeg n.toNatClampNeg))) := by
      rw [zE_arr (M := zcL M a sp.toNatClampNeg b1 dp.toNatClampNeg n.toNatClampNeg) hb1 rfl]
      have e3 : zL (zcL M a sp.toNatClampNeg b1 dp.toNatClampNeg n.toNatClampNeg) b1 = va_cpy (zL M a) (zL M b1) sp.toNatClampNeg dp.toNatClampNeg n.toNatClampNeg := by
        funext q
        simp [zL, zcL, va_cpy]
      unfold zar
      rw [e3]
      rfl
    rw [← e2]
    refine zws_upd hidb rfl fun y hy => zE_same rfl (fun q => ?_) (fun q => ?_) (fun q => rfl)
    · simp [zI, zcL, hy]
    · simp [zL, zcL, hy]
  simp only [zmt, Bool.and_eq_true, decide_eq_true_eq] at hm
  obtain ⟨hnx, hm⟩ := hm
  rw [hpc]
  show W p l e R s m args below meth c H locs (zn M - n0) (zs M - s0) Q (F0 m pc ls [.int n, .int dp, zV ad (.ref b1), .int sp, zV ad (.ref a)])
  rw [zV_ref hids.1, zV_ref hidb.1]
  split at hm
  · obtain ⟨⟨⟨⟨rfl, w1⟩, w2⟩, w3⟩, w4⟩ : (((_ ∧ _) ∧ _) ∧ _) ∧ _ := by simpa only [Bool.and_eq_true, decide_eq_true_eq] using hm
    refine va_copyl hx hb (hml.trans h.2.2.2.2.2.2.1.1.symm) hown (hts _ (zwd_in w1)) (hts _ (zwd_in w2)) (hts _ (zwd_in w3)) (hts _ (zwd_in w4)) hK h.1 h.2.1 h.2.2.1 (a - 2) (b1 - 2) 1 1 (ty := .long) hg hgb rfl rfl rfl h1 h2 h3 h4 h5 (fun _ _ => rfl) hfr (by
      show 0 + (nativeFrameWords "java/lang/System" "arraycopy" 5 + 11) ≤ R.locals
      have : nativeFrameWords "java/lang/System" "arraycopy" 5 = 7 := by decide
      omega) hdec fun H1 locs1 hP1 hD1 hS1 => ?_
    have hP1 : va_P D gCl ((zws gFk cO ad M).set (b1 - 2) (ad b1, .inl (cO 3, (zsh M b1).2, .inr (.inl (va_cpy (zL M a) (zL M b1) sp.toNatClampNeg dp.toNatClampNeg n.toNatClampNeg))))) H1 := hP1
    have hD1 : va_D A ((zws gFk cO ad M).set (b1 - 2) (ad b1, .inl (cO 3, (zsh M b1).2, .inr (.inl (va_cpy (zL M a) (zL M b1) sp.toNatClampNeg dp.toNatClampNeg n.toNatClampNeg))))) := hD1
    rw [hset] at hP1 hD1
    have a1 := nx ad ls H1 locs1 ⟨hP1, hD1, hS1, h.2.2.2.1, h.2.2.2.2.1, h.2.2.2.2.2.1, h.2.2.2.2.2.2.1, fun v hv => absurd hv List.not_mem_nil, h.2.2.2.2.2.2.2.2⟩
    rw [hnx] at a1
    exact a1
  · cases hm
theorem zs_min (F : zfx p R s m args meth c D cO A b L xs k) (hpc : zat (gPc k) i = some pc) (hdec : decode (gMe k).2.1 pc = .ok (o, len)) {x y : Int32} (hm : zmt (gMe k).1 (gMe k).2.2.1 (gPc k) i pc o len .dadd = true) (hrm : zn M - n0 ≤ R.cells ∧ zs M - s0 ≤ R.slots) (nx : zGo p l e R s m args below meth c Q D cO A b L xs ad0 n0 s0 k (i + 1) lv [.int (if y < x then y else x)] M) : zGo p l e R s m args below meth c Q D cO A b L xs ad0 n0 s0 k i lv [.int y, .int x] M := by
  intro ad ls H locs h
  obtain ⟨hx, hb, hml, hown, hts, hnest, hover, hr, hlocks, hname, hK, hX, hbl, hbA, hA, hfr, hlo⟩ := F
  have a1 := nx ad ls H locs (zrl_st h (fun v hv => by rw [List.mem_singleton] at hv; subst hv; exact trivial))
  simp only [zmt, Bool.and_eq_true, decide_eq_true_eq] at hm
  obtain ⟨hnx, hm⟩ := hm
  rw [hnx] at a1
  rw [hpc]
  split at hm
  · obtain ⟨⟨⟨⟨rfl, w1⟩, w2⟩, w3⟩, w4⟩ : (((_ ∧ _) ∧ _) ∧ _) ∧ _ := by simpa only [Bool.and_eq_true, decide_eq_true_eq] using hm
    exact va_mmin hx hb (hml.trans h.2.2.2.2.2.2.1.1.symm) hown (hts _ (zwd_in w1)) (hts _ (zwd_in w2)) (hts _ (zwd_in w3)) (hts _ (zwd_in w4)) hfr (by show 0 + 13 ≤ R.locals; omega) hrm.1 hrm.2 hdec a1
  · cases hm
theorem zs_objInit (F : zfx p R s m args meth c D cO A b L xs k) (hpc : zat (gPc k) i = some pc) (hdec : decode (gMe k).2.1 pc = .ok (o, len)) {a : Nat} (hm : zmt (gMe k).1 (gMe k).2.2.1 (gPc k) i pc o len .nop = true) (ha : ¬ a = 0) (nx : zGo p l e R s m args below meth c Q D cO A b L xs ad0 n0 s0 k (i + 1) lv [] M) : zGo p l e R s m args below meth c Q D cO A b L xs ad0 n0 s0 k i lv [.ref a] M := by
  intro ad ls H locs h
  obtain ⟨hx, hb, hml, hown, hts, hnest, hover, hr, hlocks, hname, hK, hX, hbl, hbA, hA, hfr, hlo⟩ := F
  have a1 := nx ad ls H locs (zrl_st h (fun v hv => absurd hv List.not_mem_nil))
  simp only [zmt, Bool.and_eq_true, decide_eq_true_eq] at hm
  obtain ⟨hnx, hm⟩ := hm
  rw [hnx] at a1
  rw [hpc]
  have hv : zV ad (.ref a) = .ref (ad a) := by
    show va_rf (zro ad a) = _
    unfold zro
    rw [if_neg ha]
    rfl
  show W p l e R s m args below meth c H locs (zn M - n0) (zs M - s0) Q (F0 m pc ls [zV ad (.ref a)])
  rw [hv]
  split at hm
  · obtain ⟨⟨⟨rfl, w1⟩, w2⟩, w3⟩ : ((_ ∧ _) ∧ _) ∧ _ := by simpa only [Bool.and_eq_true, decide_eq_true_eq] using hm
    exact W.objInit hx hb hown (hts _ (zwd_in w1)) (hts _ (zwd_in w2)) (hts _ (zwd_in w3)) rfl (h.2.2.2.2.2.2.1.1.trans hml.symm) rfl hdec hfr (by show 2 * 0 + 0 + 12 ≤ R.locals; omega) a1
  · cases hm
end ZA
