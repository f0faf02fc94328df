/-! instructions on the heap -/
theorem zV_ref {ad : Nat → Nat} {a : Nat} (h : 2 ≤ a) : zV ad (.ref a) = .ref (ad a) := by
  show va_rf (zro ad a) = _
  unfold zro
  rw [if_neg (by omega)]
  rfl
section ZH
variable {p : Program} {l : Launch} {e : Env} {R : Room} {s : State} {m : MethodId} {args : Array Value} {below : List Frame} {meth : Method} {c : Code} {Q : State → Prop} {D : va_G} {cO : Nat → ClassId} {A : Nat → Prop} {b L : Nat} {xs : Nat → Int32} {ad0 : Nat → Nat} {n0 s0 k : Nat} {i pc len : Nat} {lv : zLv} {r : List Value} {M : zM} {o : Instr}
theorem zs_getfield (F : zfx p R s m args meth c D cO A b L xs k) (hpc : zat (gPc k) i = some pc) (hdec : decode (gMe k).2.1 pc = .ok (o, len)) {x a : Nat} (hm : zmt (gMe k).1 (gMe k).2.2.1 (gPc k) i pc o len (.getfield x) = true) (hsh : (zsh M a).1 = 10 + x / 1000) (nx : zGo p l e R s m args below meth c Q D cO A b L xs ad0 n0 s0 k (i + 1) lv (cond (x % 10 == 2) (.ref (zR M a (x / 10 % 100))) (.int (zI M a (x / 10 % 100))) :: r) M) : zGo p l e R s m args below meth c Q D cO A b L xs ad0 n0 s0 k i lv (.ref a :: r) M := by
  intro ad ls H locs h
  obtain ⟨hx, hb, hml, hown, hts, hnest, hover, hr, hlocks, hname, hK, hX, hbl, hbA, hA, hfr, hlo⟩ := F
  have hids := zin_ids h.2.2.2.1 (a := a) (by omega)
  have a1 := nx ad ls H locs (zrl_st h (fun v hv => by
    rcases List.mem_cons.mp hv with rfl | hv
    · cases x % 10 == 2
      · exact trivial
      · exact h.2.2.2.1.2.2 a _
    · exact h.2.2.2.2.2.2.2.1 v (List.mem_cons_of_mem _ hv)))
  have hg := zws_get (fk := gFk) (cO := cO) (ad := ad) hids
  rw [zE_obj hsh] at hg
  simp only [zmt, Bool.and_eq_true, decide_eq_true_eq] at hm
  obtain ⟨hnx, hm⟩ := hm
  rw [hnx] at a1
  rw [hpc, List.map_cons, zV_ref hids.1]
  split at hm
  · obtain ⟨rfl, ee⟩ : _ ∧ _ := by simpa only [Bool.and_eq_true, decide_eq_true_eq] using hm
    unfold zfd at ee
    split at ee
    · rename_i q hq
      obtain ⟨e0, ⟨e1, e2⟩, e3⟩ : _ ∧ (_ ∧ _) ∧ _ := by simpa only [Bool.and_eq_true, decide_eq_true_eq] using ee
      have hC := gcl_ok _ _ hq
      refine va_get (C := q.1) (T := q.2.1) (N := q.2.2) hx hb hts hC.1 hown hK h.1 (a - 2) hg hq (x / 10 % 100) e0 (hts _ (zwd_in e3)) (fun _ h => h) (zfs_get (by rw [e1]; exact e0)) hdec ?_
      rw [e2]
      cases hz : x % 10 == 2
      · rw [hz] at a1; exact a1
      · rw [hz] at a1; exact a1
    · cases ee
  · cases hm
theorem zs_putI (F : zfx p R s m args meth c D cO A b L xs k) (hpc : zat (gPc k) i = some pc) (hdec : decode (gMe k).2.1 pc = .ok (o, len)) {x a : Nat} {v : Int32} (hm : zmt (gMe k).1 (gMe k).2.2.1 (gPc k) i pc o len (.putfield x) = true) (h2 : (x % 10 == 2) = false) (hz : (x % 10 == 1) = true → zb v) (hsh : (zsh M a).1 = 10 + x / 1000) (nx : zGo p l e R s m args below meth c Q D cO A b L xs ad0 n0 s0 k (i + 1) lv r (zuI M a (x / 10 % 100) v)) : zGo p l e R s m args below meth c Q D cO A b L xs ad0 n0 s0 k i lv (.int v :: .ref a :: r) M := by
  intro ad ls H locs h
  obtain ⟨hx, hb, hml, hown, hts, hnest, hover, hr, hlocks, hname, hK, hX, hbl, hbA, hA, hfr, hlo⟩ := F
  have hids := zin_ids h.2.2.2.1 (a := a) (by omega)
  have hg := zws_get (fk := gFk) (cO := cO) (ad := ad) hids
  rw [zE_obj hsh] at hg
  simp only [zmt, Bool.and_eq_true, decide_eq_true_eq] at hm
  obtain ⟨hnx, hm⟩ := hm
  rw [hpc, List.map_cons, List.map_cons, zV_ref hids.1]
  split at hm
  · obtain ⟨rfl, ee⟩ : _ ∧ _ := by simpa only [Bool.and_eq_true, decide_eq_true_eq] using hm
    unfold zfd at ee
    split at ee
    · rename_i q hq
      obtain ⟨e0, ⟨⟨⟨e1, e2⟩, e4⟩, e5⟩, e3⟩ : _ ∧ ((((_ ∧ _) ∧ _) ∧ _) ∧ _) := by simpa only [Bool.and_eq_true, decide_eq_true_eq] using ee
      have hC := gcl_ok _ _ hq
      have hfk : ((gFk (x / 1000)).getD (x / 10 % 100) 0 == 2) = false := by rw [e2]; exact h2
      have hnf : narrow (gTy (x / 1000) (x / 10 % 100)) (.int v) = .int v ∧ fits (gTy (x / 1000) (x / 10 % 100)) (.int v) = true := by
        revert e4 hz h2
        generalize gTy (x / 1000) (x / 10 % 100) = t
        generalize x % 10 = kd
        intro h2 hz e4
        unfold ztk at e4
        split at e4
        · exact ⟨rfl, rfl⟩
        · rcases hz rfl with rfl | rfl <;> exact ⟨by decide, by decide⟩
        · exact absurd h2 (by decide)
        · exact absurd h2 (by decide)
        · cases e4
      have key : ∀ (H1 : Heap) (locs1 : List Loc), va_P D gCl ((zws gFk cO ad M).set (a - 2) (ad a, .inr (x / 1000, (zfs gFk ad M a (x / 1000)).set (x / 10 % 100) (.int v)))) H1 → va_D A ((zws gFk cO ad M).set (a - 2) (ad a, .inr (x / 1000, (zfs gFk ad M a (x / 1000)).set (x / 10 % 100) (.int v)))) → va_S A s.heap H1 locs1 → W p l e R s m args below meth c H1 locs1 (zn M - n0) (zs M - s0) Q (F0 m (pc + 3) ls (r.map (zV ad))) := by
        intro H1 locs1 hP1 hD1 hS1
        have hset : (zws gFk cO ad M).set (a - 2) (ad a, .inr (x / 1000, (zfs gFk ad M a (x / 1000)).set (x / 10 % 100) (.int v))) = zws gFk cO ad (zuI M a (x / 10 % 100) v) := by
          rw [zfs_uI hfk, ← zE_obj (fk := gFk) (cO := cO) (ad := ad) (M := zuI M a (x / 10 % 100) v) hsh]
          refine zws_upd hids rfl fun y hy => zE_same rfl (fun j => ?_) (fun _ => rfl) (fun _ => rfl)
          simp [zI, zuI, hy]
        rw [hset] at hP1 hD1
        have a1 := nx ad ls H1 locs1 ⟨hP1, hD1, hS1, zinv_uI h.2.2.2.1, zscr_uI h.2.2.2.2.1 hids.1, h.2.2.2.2.2.1, h.2.2.2.2.2.2.1, fun v hv => h.2.2.2.2.2.2.2.1 v (List.mem_cons_of_mem _ (List.mem_cons_of_mem _ hv)), h.2.2.2.2.2.2.2.2⟩
        rw [hnx] at a1
        exact a1
      rcases Bool.eq_false_or_eq_true (q.2.1 (x / 10 % 100)).2.2.2 with hf | hf
      · rw [hf] at e5
        obtain ⟨n1, n2⟩ : _ ∧ _ := by simpa only [Bool.not_true, Bool.false_or, Bool.and_eq_true, decide_eq_true_eq] using e5
        exact va_putF (C := q.1) (T := q.2.1) (N := q.2.2) hx hb hts hC.1 (gTy (x / 1000)) hC.2.1 hC.2.2 hown hK h.1 h.2.1 h.2.2.1 (a - 2) hg hq (x / 10 % 100) e0 (hts _ (zwd_in e3)) (fun _ h => h) hf (hname n1) n2 (hC.2.1 _ e0) hnf.1 hnf.2 (by rw [zfs_len, e1]; exact e0) hdec key
      · exact va_put (C := q.1) (T := q.2.1) (N := q.2.2) hx hb hts hC.1 (gTy (x / 1000)) hC.2.1 hC.2.2 hown hK h.1 h.2.1 h.2.2.1 (a - 2) hg hq (x / 10 % 100) e0 (hts _ (zwd_in e3)) (fun _ h => h) hf (hC.2.1 _ e0) hnf.1 hnf.2 (by rw [zfs_len, e1]; exact e0) hdec key
    · cases ee
  · cases hm
theorem zs_putR (F : zfx p R s m args meth c D cO A b L xs k) (hpc : zat (gPc k) i = some pc) (hdec : decode (gMe k).2.1 pc = .ok (o, len)) {x a v : Nat} (hm : zmt (gMe k).1 (gMe k).2.2.1 (gPc k) i pc o len (.putfield x) = true) (h2 : (x % 10 == 2) = true) (hsh : (zsh M a).1 = 10 + x / 1000) (nx : zGo p l e R s m args below meth c Q D cO A b L xs ad0 n0 s0 k (i + 1) lv r (zuR M a (x / 10 % 100) v)) : zGo p l e R s m args below meth c Q D cO A b L xs ad0 n0 s0 k i lv (.ref v :: .ref a :: r) M := by
  intro ad ls H locs h
  obtain ⟨hx, hb, hml, hown, hts, hnest, hover, hr, hlocks, hname, hK, hX, hbl, hbA, hA, hfr, hlo⟩ := F
  have hids := zin_ids h.2.2.2.1 (a := a) (by omega)
  have hvn : v < zn M := h.2.2.2.2.2.2.2.1 (.ref v) List.mem_cons_self
  have hg := zws_get (fk := gFk) (cO := cO) (ad := ad) hids
  rw [zE_obj hsh] at hg
  simp only [zmt, Bool.and_eq_true, decide_eq_true_eq] at hm
  obtain ⟨hnx, hm⟩ := hm
  rw [hpc, List.map_cons, List.map_cons, zV_ref hids.1]
  split at hm
  · obtain ⟨rfl, ee⟩ : _ ∧ _ := by simpa only [Bool.and_eq_true, decide_eq_true_eq] using hm
    unfold zfd at ee
    split at ee
    · rename_i q hq
      obtain ⟨e0, ⟨⟨⟨e1, e2⟩, e4⟩, e5⟩, e3⟩ : _ ∧ ((((_ ∧ _) ∧ _) ∧ _) ∧ _) := by simpa only [Bool.and_eq_true, decide_eq_true_eq] using ee
      have hC := gcl_ok _ _ hq
      have hfk : ((gFk (x / 1000)).getD (x / 10 % 100) 0 == 2) = true := by rw [e2]; exact h2
      have hnf : narrow (gTy (x / 1000) (x / 10 % 100)) (zV ad (.ref v)) = zV ad (.ref v) ∧ fits (gTy (x / 1000) (x / 10 % 100)) (zV ad (.ref v)) = true := by
        revert e4 h2
        generalize gTy (x / 1000) (x / 10 % 100) = t
        generalize x % 10 = kd
        intro h2 e4
        show narrow t (va_rf (zro ad v)) = va_rf (zro ad v) ∧ fits t (va_rf (zro ad v)) = true
        unfold ztk at e4
        split at e4
        · exact absurd h2 (by decide)
        · exact absurd h2 (by decide)
        · cases zro ad v <;> exact ⟨rfl, rfl⟩
        · cases zro ad v <;> exact ⟨rfl, rfl⟩
        · cases e4
      have key : ∀ (H1 : Heap) (locs1 : List Loc), va_P D gCl ((zws gFk cO ad M).set (a - 2) (ad a, .inr (x / 1000, (zfs gFk ad M a (x / 1000)).set (x / 10 % 100) (zV ad (.ref v))))) H1 → va_D A ((zws gFk cO ad M).set (a - 2) (ad a, .inr (x / 1000, (zfs gFk ad M a (x / 1000)).set (x / 10 % 100) (zV ad (.ref v))))) → va_S A s.heap H1 locs1 → W p l e R s m args below meth c H1 locs1 (zn M - n0) (zs M - s0) Q (F0 m (pc + 3) ls (r.map (zV ad))) := by
        intro H1 locs1 hP1 hD1 hS1
        have hset : (zws gFk cO ad M).set (a - 2) (ad a, .inr (x / 1000, (zfs gFk ad M a (x / 1000)).set (x / 10 % 100) (zV ad (.ref v)))) = zws gFk cO ad (zuR M a (x / 10 % 100) v) := by
          rw [show zV ad (.ref v) = va_rf (zro ad v) from rfl, zfs_uR hfk, ← zE_obj (fk := gFk) (cO := cO) (ad := ad) (M := zuR M a (x / 10 % 100) v) hsh]
          refine zws_upd hids rfl fun y hy => zE_same rfl (fun _ => rfl) (fun _ => rfl) (fun j => ?_)
          simp [zR, zuR, hy]
        rw [hset] at hP1 hD1
        have a1 := nx ad ls H1 locs1 ⟨hP1, hD1, hS1, zinv_uR h.2.2.2.1 hvn, h.2.2.2.2.1, h.2.2.2.2.2.1, h.2.2.2.2.2.2.1, fun v hv => h.2.2.2.2.2.2.2.1 v (List.mem_cons_of_mem _ (List.mem_cons_of_mem _ hv)), h.2.2.2.2.2.2.2.2⟩
        rw [hnx] at a1
        exact a1
      rcases Bool.eq_false_or_eq_true (q.2.1 (x / 10 % 100)).2.2.2 with hf | hf
      · rw [hf] at e5
        obtain ⟨n1, n2⟩ : _ ∧ _ := by simpa only [Bool.not_true, Bool.false_or, Bool.and_eq_true, decide_eq_true_eq] using e5
        exact va_putF (C := q.1) (T := q.2.1) (N := q.2.2) hx hb hts hC.1 (gTy (x / 1000)) hC.2.1 hC.2.2 hown hK h.1 h.2.1 h.2.2.1 (a - 2) hg hq (x / 10 % 100) e0 (hts _ (zwd_in e3)) (fun _ h => h) hf (hname n1) n2 (hC.2.1 _ e0) hnf.1 hnf.2 (by rw [zfs_len, e1]; exact e0) hdec key
      · exact va_put (C := q.1) (T := q.2.1) (N := q.2.2) hx hb hts hC.1 (gTy (x / 1000)) hC.2.1 hC.2.2 hown hK h.1 h.2.1 h.2.2.1 (a - 2) hg hq (x / 10 % 100) e0 (hts _ (zwd_in e3)) (fun _ h => h) hf (hC.2.1 _ e0) hnf.1 hnf.2 (by rw [zfs_len, e1]; exact e0) hdec key
    · cases ee
  · cases hm
end ZH
