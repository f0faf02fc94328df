/-! all steps that go on, in one (by wip/whole/genall.py) -/
theorem zti_inv {st : List Value} {f : Int32 → List Value → zRes} {q : List Prop × List (Prop × zO) × zO} (h : zti st f = some q) : ∃ x r, st = .int x :: r ∧ f x r = some q := by
  unfold zti at h
  split at h
  · exact ⟨_, _, rfl, h⟩
  · cases h
theorem ztii_inv {st : List Value} {f : Int32 → Int32 → List Value → zRes} {q : List Prop × List (Prop × zO) × zO} (h : ztii st f = some q) : ∃ x y r, st = .int y :: .int x :: r ∧ f x y r = some q := by
  unfold ztii at h
  split at h
  · exact ⟨_, _, _, rfl, h⟩
  · cases h
theorem ztl_inv {st : List Value} {f : Int64 → List Value → zRes} {q : List Prop × List (Prop × zO) × zO} (h : ztl st f = some q) : ∃ x r, st = .long x :: r ∧ f x r = some q := by
  unfold ztl at h
  split at h
  · exact ⟨_, _, rfl, h⟩
  · cases h
theorem ztll_inv {st : List Value} {f : Int64 → Int64 → List Value → zRes} {q : List Prop × List (Prop × zO) × zO} (h : ztll st f = some q) : ∃ x y r, st = .long y :: .long x :: r ∧ f x y r = some q := by
  unfold ztll at h
  split at h
  · exact ⟨_, _, _, rfl, h⟩
  · cases h
theorem ztli_inv {st : List Value} {f : Int64 → Int32 → List Value → zRes} {q : List Prop × List (Prop × zO) × zO} (h : ztli st f = some q) : ∃ x y r, st = .int y :: .long x :: r ∧ f x y r = some q := by
  unfold ztli at h
  split at h
  · exact ⟨_, _, _, rfl, h⟩
  · cases h
theorem ztr_inv {st : List Value} {f : Nat → List Value → zRes} {q : List Prop × List (Prop × zO) × zO} (h : ztr st f = some q) : ∃ x r, st = .ref x :: r ∧ f x r = some q := by
  unfold ztr at h
  split at h
  · exact ⟨_, _, rfl, h⟩
  · cases h
theorem ztri_inv {st : List Value} {f : Nat → Int32 → List Value → zRes} {q : List Prop × List (Prop × zO) × zO} (h : ztri st f = some q) : ∃ x y r, st = .int y :: .ref x :: r ∧ f x y r = some q := by
  unfold ztri at h
  split at h
  · exact ⟨_, _, _, rfl, h⟩
  · cases h
theorem ztrii_inv {st : List Value} {f : Nat → Int32 → Int32 → List Value → zRes} {q : List Prop × List (Prop × zO) × zO} (h : ztrii st f = some q) : ∃ x y z r, st = .int z :: .int y :: .ref x :: r ∧ f x y z r = some q := by
  unfold ztrii at h
  split at h
  · exact ⟨_, _, _, _, rfl, h⟩
  · cases h
theorem ztril_inv {st : List Value} {f : Nat → Int32 → Int64 → List Value → zRes} {q : List Prop × List (Prop × zO) × zO} (h : ztril st f = some q) : ∃ x y z r, st = .long z :: .int y :: .ref x :: r ∧ f x y z r = some q := by
  unfold ztril at h
  split at h
  · exact ⟨_, _, _, _, rfl, h⟩
  · cases h
theorem ztrir_inv {st : List Value} {f : Nat → Int32 → Nat → List Value → zRes} {q : List Prop × List (Prop × zO) × zO} (h : ztrir st f = some q) : ∃ x y z r, st = .ref z :: .int y :: .ref x :: r ∧ f x y z r = some q := by
  unfold ztrir at h
  split at h
  · exact ⟨_, _, _, _, rfl, h⟩
  · cases h
theorem ztrr_inv {st : List Value} {f : Nat → Nat → List Value → zRes} {q : List Prop × List (Prop × zO) × zO} (h : ztrr st f = some q) : ∃ x y r, st = .ref y :: .ref x :: r ∧ f x y r = some q := by
  unfold ztrr at h
  split at h
  · exact ⟨_, _, _, rfl, h⟩
  · cases h
theorem ztcp_inv {st : List Value} {f : Nat → Int32 → Nat → Int32 → Int32 → zRes} {q : List Prop × List (Prop × zO) × zO} (h : ztcp st f = some q) : ∃ x sp y dp n, st = [.int n, .int dp, .ref y, .int sp, .ref x] ∧ f x sp y dp n = some q := by
  unfold ztcp at h
  split at h
  · exact ⟨_, _, _, _, _, rfl, h⟩
  · cases h
theorem ztii0_inv {st : List Value} {f : Int32 → Int32 → zRes} {q : List Prop × List (Prop × zO) × zO} (h : ztii0 st f = some q) : ∃ x y, st = [.int y, .int x] ∧ f x y = some q := by
  unfold ztii0 at h
  split at h
  · exact ⟨_, _, rfl, h⟩
  · cases h
theorem ztr0_inv {st : List Value} {f : Nat → zRes} {q : List Prop × List (Prop × zO) × zO} (h : ztr0 st f = some q) : ∃ x, st = [.ref x] ∧ f x = some q := by
  unfold ztr0 at h
  split at h
  · exact ⟨_, rfl, h⟩
  · cases h
theorem zcall_no {x : Nat} {ob : Bool} {i : Nat} {lv : zLv} {st : List Value} {M : zM} {cs : List Prop} {ch : List (Prop × zO)} {q : zO} (h : zcall x ob i lv st M = some (cs, ch, q)) : ∃ w, zpick ch q = .inr (.inr w) := by
  unfold zcall at h
  split at h
  · cases h
  · revert h
    cases Nat.ble _ 8
    · intro h; cases h
    · cases ob
      · intro h; cases h; exact ⟨_, rfl⟩
      · intro h
        dsimp only [cond] at h
        split at h
        · cases h; exact ⟨_, rfl⟩
        · cases h
theorem zretq_no {rk : Nat} {st : List Value} {M : zM} {cs : List Prop} {ch : List (Prop × zO)} {q : zO} (h : zretq rk st M = some (cs, ch, q)) : zpick ch q = .inr (.inl (st, M)) := by
  unfold zretq at h
  split at h
  · revert h
    cases rk == 0
    · intro h; cases h
    · intro h; cases h; rfl
  · revert h
    cases rk == 1
    · cases rk == 2
      · intro h; cases h
      · intro h; cases h; rfl
    · intro h; cases h; rfl
  · revert h
    cases rk == 3
    · intro h; cases h
    · intro h; cases h; rfl
  · revert h
    cases rk == 4
    · intro h; cases h
    · intro h; cases h; rfl
  · cases h
section ZALL
variable {p : Program} {l : Launch} {e : Env} {R : Room} {s : State} {m : MethodId} {args : Array Value} {below : List Frame} {meth : Method} {c : Code} {Q : State → Prop} {D : va_G} {cO : Nat → ClassId} {A : Nat → Prop} {b L : Nat} {xs : Nat → Int32} {ad0 : Nat → Nat} {n0 s0 k : Nat} {i pc len : Nat} {lv : zLv} {st : List Value} {M : zM} {o : Instr}
set_option maxHeartbeats 4000000 in
theorem zs_all (F : zfx p R s m args meth c D cO A b L xs k) (hpc : zat (gPc k) i = some pc) (hdec : decode (gMe k).2.1 pc = .ok (o, len)) {rk : Nat} {ins : Instr} (hm : zmt (gMe k).1 (gMe k).2.2.1 (gPc k) i pc o len ins = true) {cs : List Prop} {ch : List (Prop × zO)} {q : zO} (hst : zstep rk ins i lv st M = some (cs, ch, q)) (hcs : ∀ c ∈ cs, c) {i1 : Nat} {lv1 : zLv} {st1 : List Value} {M1 : zM} (hq : zpick ch q = .inl (i1, lv1, st1, M1)) (hrm : zn M1 - n0 ≤ R.cells ∧ zs M1 - s0 ≤ R.slots) (nx : zGo p l e R s m args below meth c Q D cO A b L xs ad0 n0 s0 k i1 lv1 st1 M1) : zGo p l e R s m args below meth c Q D cO A b L xs ad0 n0 s0 k i lv st M := by
  cases ins with
  | iadd =>
    obtain ⟨x, y, r, rfl, h2⟩ := ztii_inv (show ztii st _ = some _ from hst)
    cases h2
    cases hq
    obtain ⟨⟨hnx, rfl⟩, rfl⟩ : (_ ∧ _) ∧ _ := by simpa only [zmt, Bool.and_eq_true, decide_eq_true_eq] using hm
    exact zs_iadd F hpc hdec hnx nx
  | isub =>
    obtain ⟨x, y, r, rfl, h2⟩ := ztii_inv (show ztii st _ = some _ from hst)
    cases h2
    cases hq
    obtain ⟨⟨hnx, rfl⟩, rfl⟩ : (_ ∧ _) ∧ _ := by simpa only [zmt, Bool.and_eq_true, decide_eq_true_eq] using hm
    exact zs_isub F hpc hdec hnx nx
  | imul =>
    obtain ⟨x, y, r, rfl, h2⟩ := ztii_inv (show ztii st _ = some _ from hst)
    cases h2
    cases hq
    obtain ⟨⟨hnx, rfl⟩, rfl⟩ : (_ ∧ _) ∧ _ := by simpa only [zmt, Bool.and_eq_true, decide_eq_true_eq] using hm
    exact zs_imul F hpc hdec hnx nx
  | iand =>
    obtain ⟨x, y, r, rfl, h2⟩ := ztii_inv (show ztii st _ = some _ from hst)
    cases h2
    cases hq
    obtain ⟨⟨hnx, rfl⟩, rfl⟩ : (_ ∧ _) ∧ _ := by simpa only [zmt, Bool.and_eq_true, decide_eq_true_eq] using hm
    exact zs_iand F hpc hdec hnx nx
  | ior =>
    obtain ⟨x, y, r, rfl, h2⟩ := ztii_inv (show ztii st _ = some _ from hst)
    cases h2
    cases hq
    obtain ⟨⟨hnx, rfl⟩, rfl⟩ : (_ ∧ _) ∧ _ := by simpa only [zmt, Bool.and_eq_true, decide_eq_true_eq] using hm
    exact zs_ior F hpc hdec hnx nx
  | ishl =>
    obtain ⟨x, y, r, rfl, h2⟩ := ztii_inv (show ztii st _ = some _ from hst)
    cases h2
    cases hq
    obtain ⟨⟨hnx, rfl⟩, rfl⟩ : (_ ∧ _) ∧ _ := by simpa only [zmt, Bool.and_eq_true, decide_eq_true_eq] using hm
    exact zs_ishl F hpc hdec hnx nx
  | ishr =>
    obtain ⟨x, y, r, rfl, h2⟩ := ztii_inv (show ztii st _ = some _ from hst)
    cases h2
    cases hq
    obtain ⟨⟨hnx, rfl⟩, rfl⟩ : (_ ∧ _) ∧ _ := by simpa only [zmt, Bool.and_eq_true, decide_eq_true_eq] using hm
    exact zs_ishr F hpc hdec hnx nx
  | iushr =>
    obtain ⟨x, y, r, rfl, h2⟩ := ztii_inv (show ztii st _ = some _ from hst)
    cases h2
    cases hq
    obtain ⟨⟨hnx, rfl⟩, rfl⟩ : (_ ∧ _) ∧ _ := by simpa only [zmt, Bool.and_eq_true, decide_eq_true_eq] using hm
    exact zs_iushr F hpc hdec hnx nx
  | ineg =>
    obtain ⟨x, r, rfl, h2⟩ := zti_inv (show zti st _ = some _ from hst)
    cases h2
    cases hq
    obtain ⟨⟨hnx, rfl⟩, rfl⟩ : (_ ∧ _) ∧ _ := by simpa only [zmt, Bool.and_eq_true, decide_eq_true_eq] using hm
    exact zs_ineg F hpc hdec hnx nx
  | ladd =>
    obtain ⟨x, y, r, rfl, h2⟩ := ztll_inv (show ztll st _ = some _ from hst)
    cases h2
    cases hq
    obtain ⟨⟨hnx, rfl⟩, rfl⟩ : (_ ∧ _) ∧ _ := by simpa only [zmt, Bool.and_eq_true, decide_eq_true_eq] using hm
    exact zs_ladd F hpc hdec hnx nx
  | lsub =>
    obtain ⟨x, y, r, rfl, h2⟩ := ztll_inv (show ztll st _ = some _ from hst)
    cases h2
    cases hq
    obtain ⟨⟨hnx, rfl⟩, rfl⟩ : (_ ∧ _) ∧ _ := by simpa only [zmt, Bool.and_eq_true, decide_eq_true_eq] using hm
    exact zs_lsub F hpc hdec hnx nx
  | lmul =>
    obtain ⟨x, y, r, rfl, h2⟩ := ztll_inv (show ztll st _ = some _ from hst)
    cases h2
    cases hq
    obtain ⟨⟨hnx, rfl⟩, rfl⟩ : (_ ∧ _) ∧ _ := by simpa only [zmt, Bool.and_eq_true, decide_eq_true_eq] using hm
    exact zs_lmul F hpc hdec hnx nx
  | lor =>
    obtain ⟨x, y, r, rfl, h2⟩ := ztll_inv (show ztll st _ = some _ from hst)
    cases h2
    cases hq
    obtain ⟨⟨hnx, rfl⟩, rfl⟩ : (_ ∧ _) ∧ _ := by simpa only [zmt, Bool.and_eq_true, decide_eq_true_eq] using hm
    exact zs_lor F hpc hdec hnx nx
  | land =>
    obtain ⟨x, y, r, rfl, h2⟩ := ztll_inv (show ztll st _ = some _ from hst)
    cases h2
    cases hq
    obtain ⟨⟨hnx, rfl⟩, rfl⟩ : (_ ∧ _) ∧ _ := by simpa only [zmt, Bool.and_eq_true, decide_eq_true_eq] using hm
    exact zs_land F hpc hdec hnx nx
  | ldiv =>
    obtain ⟨x, y, r, rfl, h2⟩ := ztll_inv (show ztll st _ = some _ from hst)
    cases h2
    cases hq
    obtain ⟨⟨hnx, rfl⟩, rfl⟩ : (_ ∧ _) ∧ _ := by simpa only [zmt, Bool.and_eq_true, decide_eq_true_eq] using hm
    exact zs_ldiv F hpc hdec hnx (hcs _ List.mem_cons_self) nx
  | lrem =>
    obtain ⟨x, y, r, rfl, h2⟩ := ztll_inv (show ztll st _ = some _ from hst)
    cases h2
    cases hq
    obtain ⟨⟨hnx, rfl⟩, rfl⟩ : (_ ∧ _) ∧ _ := by simpa only [zmt, Bool.and_eq_true, decide_eq_true_eq] using hm
    exact zs_lrem F hpc hdec hnx (hcs _ List.mem_cons_self) nx
  | lneg =>
    obtain ⟨x, r, rfl, h2⟩ := ztl_inv (show ztl st _ = some _ from hst)
    cases h2
    cases hq
    obtain ⟨⟨hnx, rfl⟩, rfl⟩ : (_ ∧ _) ∧ _ := by simpa only [zmt, Bool.and_eq_true, decide_eq_true_eq] using hm
    exact zs_lneg F hpc hdec hnx nx
  | lshl =>
    obtain ⟨x, y, r, rfl, h2⟩ := ztli_inv (show ztli st _ = some _ from hst)
    cases h2
    cases hq
    obtain ⟨⟨hnx, rfl⟩, rfl⟩ : (_ ∧ _) ∧ _ := by simpa only [zmt, Bool.and_eq_true, decide_eq_true_eq] using hm
    exact zs_lshl F hpc hdec hnx nx
  | lshr =>
    obtain ⟨x, y, r, rfl, h2⟩ := ztli_inv (show ztli st _ = some _ from hst)
    cases h2
    cases hq
    obtain ⟨⟨hnx, rfl⟩, rfl⟩ : (_ ∧ _) ∧ _ := by simpa only [zmt, Bool.and_eq_true, decide_eq_true_eq] using hm
    exact zs_lshr F hpc hdec hnx nx
  | i2l =>
    obtain ⟨x, r, rfl, h2⟩ := zti_inv (show zti st _ = some _ from hst)
    cases h2
    cases hq
    obtain ⟨⟨hnx, rfl⟩, rfl⟩ : (_ ∧ _) ∧ _ := by simpa only [zmt, Bool.and_eq_true, decide_eq_true_eq] using hm
    exact zs_i2l F hpc hdec hnx nx
  | l2i =>
    obtain ⟨x, r, rfl, h2⟩ := ztl_inv (show ztl st _ = some _ from hst)
    cases h2
    cases hq
    obtain ⟨⟨hnx, rfl⟩, rfl⟩ : (_ ∧ _) ∧ _ := by simpa only [zmt, Bool.and_eq_true, decide_eq_true_eq] using hm
    exact zs_l2i F hpc hdec hnx nx
  | lcmp =>
    obtain ⟨x, y, r, rfl, h2⟩ := ztll_inv (show ztll st _ = some _ from hst)
    cases h2
    cases hq
    obtain ⟨⟨hnx, rfl⟩, rfl⟩ : (_ ∧ _) ∧ _ := by simpa only [zmt, Bool.and_eq_true, decide_eq_true_eq] using hm
    exact zs_lcmp F hpc hdec hnx nx
  | dup2 =>
    obtain ⟨x, y, r, rfl, h2⟩ := ztri_inv (show ztri st _ = some _ from hst)
    cases h2
    cases hq
    obtain ⟨⟨hnx, rfl⟩, rfl⟩ : (_ ∧ _) ∧ _ := by simpa only [zmt, Bool.and_eq_true, decide_eq_true_eq] using hm
    exact zs_dup2 F hpc hdec hnx nx
  | iaload =>
    obtain ⟨x, y, r, rfl, h2⟩ := ztri_inv (show ztri st _ = some _ from hst)
    cases h2
    cases hq
    obtain ⟨⟨hnx, rfl⟩, rfl⟩ : (_ ∧ _) ∧ _ := by simpa only [zmt, Bool.and_eq_true, decide_eq_true_eq] using hm
    exact zs_iaload F hpc hdec hnx (hcs _ List.mem_cons_self) (hcs _ (List.mem_cons_of_mem _ List.mem_cons_self)) nx
  | laload =>
    obtain ⟨x, y, r, rfl, h2⟩ := ztri_inv (show ztri st _ = some _ from hst)
    cases h2
    cases hq
    obtain ⟨⟨hnx, rfl⟩, rfl⟩ : (_ ∧ _) ∧ _ := by simpa only [zmt, Bool.and_eq_true, decide_eq_true_eq] using hm
    exact zs_laload F hpc hdec hnx (hcs _ List.mem_cons_self) (hcs _ (List.mem_cons_of_mem _ List.mem_cons_self)) nx
  | baload =>
    obtain ⟨x, y, r, rfl, h2⟩ := ztri_inv (show ztri st _ = some _ from hst)
    cases h2
    cases hq
    obtain ⟨⟨hnx, rfl⟩, rfl⟩ : (_ ∧ _) ∧ _ := by simpa only [zmt, Bool.and_eq_true, decide_eq_true_eq] using hm
    exact zs_baload F hpc hdec hnx (hcs _ List.mem_cons_self) (hcs _ (List.mem_cons_of_mem _ List.mem_cons_self)) nx
  | iastore =>
    obtain ⟨x, y, z, r, rfl, h2⟩ := ztrii_inv (show ztrii st _ = some _ from hst)
    cases h2
    cases hq
    obtain ⟨⟨hnx, rfl⟩, rfl⟩ : (_ ∧ _) ∧ _ := by simpa only [zmt, Bool.and_eq_true, decide_eq_true_eq] using hm
    exact zs_iastore F hpc hdec hnx (hcs _ List.mem_cons_self) (hcs _ (List.mem_cons_of_mem _ List.mem_cons_self)) nx
  | bastore =>
    obtain ⟨x, y, z, r, rfl, h2⟩ := ztrii_inv (show ztrii st _ = some _ from hst)
    cases h2
    cases hq
    obtain ⟨⟨hnx, rfl⟩, rfl⟩ : (_ ∧ _) ∧ _ := by simpa only [zmt, Bool.and_eq_true, decide_eq_true_eq] using hm
    exact zs_bastore F hpc hdec hnx (hcs _ (List.mem_cons_of_mem _ (List.mem_cons_of_mem _ List.mem_cons_self))) (hcs _ List.mem_cons_self) (hcs _ (List.mem_cons_of_mem _ List.mem_cons_self)) nx
  | lastore =>
    obtain ⟨x, y, z, r, rfl, h2⟩ := ztril_inv (show ztril st _ = some _ from hst)
    cases h2
    cases hq
    obtain ⟨⟨hnx, rfl⟩, rfl⟩ : (_ ∧ _) ∧ _ := by simpa only [zmt, Bool.and_eq_true, decide_eq_true_eq] using hm
    exact zs_lastore F hpc hdec hnx (hcs _ List.mem_cons_self) (hcs _ (List.mem_cons_of_mem _ List.mem_cons_self)) nx
  | dup =>
    obtain ⟨⟨hnx, rfl⟩, rfl⟩ : (_ ∧ _) ∧ _ := by simpa only [zmt, Bool.and_eq_true, decide_eq_true_eq] using hm
    simp only [zstep] at hst
    split at hst
    · cases hst; cases hq; exact zs_dupI F hpc hdec hnx nx
    · cases hst; cases hq; exact zs_dupR F hpc hdec hnx nx
    · cases hst
  | pop =>
    obtain ⟨⟨hnx, rfl⟩, rfl⟩ : (_ ∧ _) ∧ _ := by simpa only [zmt, Bool.and_eq_true, decide_eq_true_eq] using hm
    simp only [zstep] at hst
    split at hst
    · cases hst; cases hq; exact zs_pop F hpc hdec hnx nx
    · cases hst
  | iconst n => cases hst; cases hq; exact zs_iconst F hpc hdec hm nx
  | jsr_w n => cases hst; cases hq; exact zs_lconst F hpc hdec hm nx
  | iload j =>
    simp only [zstep] at hst
    split at hst
    · rename_i hj; cases hst; cases hq; exact zs_iload F hpc hdec hm hj nx
    · cases hst
  | lload j =>
    simp only [zstep] at hst
    split at hst
    · rename_i hj; cases hst; cases hq; exact zs_lload F hpc hdec hm hj nx
    · cases hst
  | aload j =>
    simp only [zstep] at hst
    split at hst
    · rename_i hj; cases hst; cases hq; exact zs_aload F hpc hdec hm hj nx
    · cases hst
  | iinc j n =>
    simp only [zstep] at hst
    split at hst
    · rename_i hj; cases hst; cases hq; exact zs_iinc F hpc hdec hm hj nx
    · cases hst
  | istore j =>
    obtain ⟨x, r, rfl, h2⟩ := zti_inv (show zti st _ = some _ from hst)
    cases h2; cases hq; exact zs_istore F hpc hdec hm nx
  | lstore j =>
    obtain ⟨x, r, rfl, h2⟩ := ztl_inv (show ztl st _ = some _ from hst)
    cases h2; cases hq; exact zs_lstore F hpc hdec hm nx
  | astore j =>
    obtain ⟨x, r, rfl, h2⟩ := ztr_inv (show ztr st _ = some _ from hst)
    cases h2; cases hq; exact zs_astore F hpc hdec hm nx
  | goto t => cases hst; cases hq; exact zs_goto F hpc hdec hm nx
  | ifCond cc t =>
    cases cc with
    | eq =>
      obtain ⟨x, r, rfl, h2⟩ := zti_inv (show zti st _ = some _ from hst)
      cases h2
      have hq : @ite zO (x = 0) (Classical.propDecidable _) _ _ = _ := hq
      by_cases hc : x = 0
      · rw [if_pos hc] at hq
        cases hq
        exact zs_if_eq F hpc hdec hm (fun _ => nx) (fun z => absurd hc z)
      · rw [if_neg hc] at hq
        cases hq
        exact zs_if_eq F hpc hdec hm (fun z => absurd z hc) (fun _ => nx)
    | ne =>
      obtain ⟨x, r, rfl, h2⟩ := zti_inv (show zti st _ = some _ from hst)
      cases h2
      have hq : @ite zO (¬ x = 0) (Classical.propDecidable _) _ _ = _ := hq
      by_cases hc : ¬ x = 0
      · rw [if_pos hc] at hq
        cases hq
        exact zs_if_ne F hpc hdec hm (fun _ => nx) (fun z => absurd hc z)
      · rw [if_neg hc] at hq
        cases hq
        exact zs_if_ne F hpc hdec hm (fun z => absurd z hc) (fun _ => nx)
    | lt =>
      obtain ⟨x, r, rfl, h2⟩ := zti_inv (show zti st _ = some _ from hst)
      cases h2
      have hq : @ite zO (x < 0) (Classical.propDecidable _) _ _ = _ := hq
      by_cases hc : x < 0
      · rw [if_pos hc] at hq
        cases hq
        exact zs_if_lt F hpc hdec hm (fun _ => nx) (fun z => absurd hc z)
      · rw [if_neg hc] at hq
        cases hq
        exact zs_if_lt F hpc hdec hm (fun z => absurd z hc) (fun _ => nx)
    | ge =>
      obtain ⟨x, r, rfl, h2⟩ := zti_inv (show zti st _ = some _ from hst)
      cases h2
      have hq : @ite zO (0 ≤ x) (Classical.propDecidable _) _ _ = _ := hq
      by_cases hc : 0 ≤ x
      · rw [if_pos hc] at hq
        cases hq
        exact zs_if_ge F hpc hdec hm (fun _ => nx) (fun z => absurd hc z)
      · rw [if_neg hc] at hq
        cases hq
        exact zs_if_ge F hpc hdec hm (fun z => absurd z hc) (fun _ => nx)
    | gt =>
      obtain ⟨x, r, rfl, h2⟩ := zti_inv (show zti st _ = some _ from hst)
      cases h2
      have hq : @ite zO (0 < x) (Classical.propDecidable _) _ _ = _ := hq
      by_cases hc : 0 < x
      · rw [if_pos hc] at hq
        cases hq
        exact zs_if_gt F hpc hdec hm (fun _ => nx) (fun z => absurd hc z)
      · rw [if_neg hc] at hq
        cases hq
        exact zs_if_gt F hpc hdec hm (fun z => absurd z hc) (fun _ => nx)
    | le =>
      obtain ⟨x, r, rfl, h2⟩ := zti_inv (show zti st _ = some _ from hst)
      cases h2
      have hq : @ite zO (x ≤ 0) (Classical.propDecidable _) _ _ = _ := hq
      by_cases hc : x ≤ 0
      · rw [if_pos hc] at hq
        cases hq
        exact zs_if_le F hpc hdec hm (fun _ => nx) (fun z => absurd hc z)
      · rw [if_neg hc] at hq
        cases hq
        exact zs_if_le F hpc hdec hm (fun z => absurd z hc) (fun _ => nx)
  | if_icmp cc t =>
    cases cc with
    | eq =>
      obtain ⟨x, y, r, rfl, h2⟩ := ztii_inv (show ztii st _ = some _ from hst)
      cases h2
      have hq : @ite zO (x = y) (Classical.propDecidable _) _ _ = _ := hq
      by_cases hc : x = y
      · rw [if_pos hc] at hq
        cases hq
        exact zs_icmp_eq F hpc hdec hm (fun _ => nx) (fun z => absurd hc z)
      · rw [if_neg hc] at hq
        cases hq
        exact zs_icmp_eq F hpc hdec hm (fun z => absurd z hc) (fun _ => nx)
    | ne =>
      obtain ⟨x, y, r, rfl, h2⟩ := ztii_inv (show ztii st _ = some _ from hst)
      cases h2
      have hq : @ite zO (¬ x = y) (Classical.propDecidable _) _ _ = _ := hq
      by_cases hc : ¬ x = y
      · rw [if_pos hc] at hq
        cases hq
        exact zs_icmp_ne F hpc hdec hm (fun _ => nx) (fun z => absurd hc z)
      · rw [if_neg hc] at hq
        cases hq
        exact zs_icmp_ne F hpc hdec hm (fun z => absurd z hc) (fun _ => nx)
    | lt =>
      obtain ⟨x, y, r, rfl, h2⟩ := ztii_inv (show ztii st _ = some _ from hst)
      cases h2
      have hq : @ite zO (x < y) (Classical.propDecidable _) _ _ = _ := hq
      by_cases hc : x < y
      · rw [if_pos hc] at hq
        cases hq
        exact zs_icmp_lt F hpc hdec hm (fun _ => nx) (fun z => absurd hc z)
      · rw [if_neg hc] at hq
        cases hq
        exact zs_icmp_lt F hpc hdec hm (fun z => absurd z hc) (fun _ => nx)
    | ge =>
      obtain ⟨x, y, r, rfl, h2⟩ := ztii_inv (show ztii st _ = some _ from hst)
      cases h2
      have hq : @ite zO (y ≤ x) (Classical.propDecidable _) _ _ = _ := hq
      by_cases hc : y ≤ x
      · rw [if_pos hc] at hq
        cases hq
        exact zs_icmp_ge F hpc hdec hm (fun _ => nx) (fun z => absurd hc z)
      · rw [if_neg hc] at hq
        cases hq
        exact zs_icmp_ge F hpc hdec hm (fun z => absurd z hc) (fun _ => nx)
    | gt =>
      obtain ⟨x, y, r, rfl, h2⟩ := ztii_inv (show ztii st _ = some _ from hst)
      cases h2
      have hq : @ite zO (y < x) (Classical.propDecidable _) _ _ = _ := hq
      by_cases hc : y < x
      · rw [if_pos hc] at hq
        cases hq
        exact zs_icmp_gt F hpc hdec hm (fun _ => nx) (fun z => absurd hc z)
      · rw [if_neg hc] at hq
        cases hq
        exact zs_icmp_gt F hpc hdec hm (fun z => absurd z hc) (fun _ => nx)
    | le =>
      obtain ⟨x, y, r, rfl, h2⟩ := ztii_inv (show ztii st _ = some _ from hst)
      cases h2
      have hq : @ite zO (x ≤ y) (Classical.propDecidable _) _ _ = _ := hq
      by_cases hc : x ≤ y
      · rw [if_pos hc] at hq
        cases hq
        exact zs_icmp_le F hpc hdec hm (fun _ => nx) (fun z => absurd hc z)
      · rw [if_neg hc] at hq
        cases hq
        exact zs_icmp_le F hpc hdec hm (fun z => absurd z hc) (fun _ => nx)
  | tableswitch d lo hi ts =>
    obtain ⟨x, r, rfl, h2⟩ := zti_inv (show zti st _ = some _ from hst)
    cases h2
    exact zs_tsw F hpc hdec hm hq nx
  | getfield x =>
    obtain ⟨a, r, rfl, h2⟩ := ztr_inv (show ztr st _ = some _ from hst)
    cases h2; cases hq
    exact zs_getfield F hpc hdec hm (hcs _ List.mem_cons_self) nx
  | putfield x =>
    simp only [zstep] at hst
    cases h2 : x % 10 == 2
    · rw [h2] at hst
      dsimp only [cond] at hst
      split at hst
      · rename_i v a r
        cases hst; cases hq
        cases h1 : x % 10 == 1
        · rw [h1] at hcs
          exact zs_putI F hpc hdec hm h2 (fun z => absurd (h1.symm.trans z) (by decide)) (hcs _ List.mem_cons_self) nx
        · rw [h1] at hcs
          exact zs_putI F hpc hdec hm h2 (fun _ => hcs _ (List.mem_cons_of_mem _ List.mem_cons_self)) (hcs _ List.mem_cons_self) nx
      · cases hst
    · rw [h2] at hst
      obtain ⟨a, v, r, rfl, h3⟩ := ztrr_inv (show ztrr st _ = some _ from hst)
      cases h3; cases hq
      exact zs_putR F hpc hdec hm h2 (hcs _ List.mem_cons_self) nx
  | saload =>
    obtain ⟨x, y, r, rfl, h2⟩ := ztri_inv (show ztri st _ = some _ from hst)
    cases h2; cases hq
    obtain ⟨⟨hnx, rfl⟩, rfl⟩ : (_ ∧ _) ∧ _ := by simpa only [zmt, Bool.and_eq_true, decide_eq_true_eq] using hm
    have h1 : x = 1 := hcs _ List.mem_cons_self
    subst h1
    exact zs_saload F hpc hdec hnx (hcs _ (List.mem_cons_of_mem _ List.mem_cons_self)) nx
  | arraylength =>
    obtain ⟨x, r, rfl, h2⟩ := ztr_inv (show ztr st _ = some _ from hst)
    cases h2; cases hq
    obtain ⟨⟨hnx, rfl⟩, rfl⟩ : (_ ∧ _) ∧ _ := by simpa only [zmt, Bool.and_eq_true, decide_eq_true_eq] using hm
    have h1 : x = 1 := hcs _ List.mem_cons_self
    subst h1
    exact zs_alen F hpc hdec hnx nx
  | ret kd =>
    obtain ⟨x, y, r, rfl, h2⟩ := ztri_inv (show ztri st _ = some _ from hst)
    cases h2; cases hq
    obtain ⟨⟨hnx, rfl⟩, rfl⟩ : (_ ∧ _) ∧ _ := by simpa only [zmt, Bool.and_eq_true, decide_eq_true_eq] using hm
    exact zs_aaload F hpc hdec hnx (hcs _ List.mem_cons_self) (hcs _ (List.mem_cons_of_mem _ List.mem_cons_self)) nx
  | putstatic x =>
    obtain ⟨a, j, v, r, rfl, h2⟩ := ztrir_inv (show ztrir st _ = some _ from hst)
    cases h2; cases hq
    exact zs_aastore F hpc hdec hm (hcs _ List.mem_cons_self) (hcs _ (List.mem_cons_of_mem _ List.mem_cons_self)) (hcs _ (List.mem_cons_of_mem _ (List.mem_cons_of_mem _ List.mem_cons_self))) nx
  | faload =>
    obtain ⟨x, sp, y, dp, n, rfl, h2⟩ := ztcp_inv (show ztcp st _ = some _ from hst)
    cases h2; cases hq
    exact zs_copyI F hpc hdec hm (hcs _ List.mem_cons_self) (hcs _ (List.mem_cons_of_mem _ List.mem_cons_self)) (hcs _ (List.mem_cons_of_mem _ (List.mem_cons_of_mem _ List.mem_cons_self))) (hcs _ (List.mem_cons_of_mem _ (List.mem_cons_of_mem _ (List.mem_cons_of_mem _ List.mem_cons_self)))) (hcs _ (List.mem_cons_of_mem _ (List.mem_cons_of_mem _ (List.mem_cons_of_mem _ (List.mem_cons_of_mem _ List.mem_cons_self))))) (hcs _ (List.mem_cons_of_mem _ (List.mem_cons_of_mem _ (List.mem_cons_of_mem _ (List.mem_cons_of_mem _ (List.mem_cons_of_mem _ List.mem_cons_self)))))) (hcs _ (List.mem_cons_of_mem _ (List.mem_cons_of_mem _ (List.mem_cons_of_mem _ (List.mem_cons_of_mem _ (List.mem_cons_of_mem _ (List.mem_cons_of_mem _ List.mem_cons_self))))))) nx
  | daload =>
    obtain ⟨x, sp, y, dp, n, rfl, h2⟩ := ztcp_inv (show ztcp st _ = some _ from hst)
    cases h2; cases hq
    exact zs_copyL F hpc hdec hm (hcs _ List.mem_cons_self) (hcs _ (List.mem_cons_of_mem _ List.mem_cons_self)) (hcs _ (List.mem_cons_of_mem _ (List.mem_cons_of_mem _ List.mem_cons_self))) (hcs _ (List.mem_cons_of_mem _ (List.mem_cons_of_mem _ (List.mem_cons_of_mem _ List.mem_cons_self)))) (hcs _ (List.mem_cons_of_mem _ (List.mem_cons_of_mem _ (List.mem_cons_of_mem _ (List.mem_cons_of_mem _ List.mem_cons_self))))) (hcs _ (List.mem_cons_of_mem _ (List.mem_cons_of_mem _ (List.mem_cons_of_mem _ (List.mem_cons_of_mem _ (List.mem_cons_of_mem _ List.mem_cons_self)))))) (hcs _ (List.mem_cons_of_mem _ (List.mem_cons_of_mem _ (List.mem_cons_of_mem _ (List.mem_cons_of_mem _ (List.mem_cons_of_mem _ (List.mem_cons_of_mem _ List.mem_cons_self))))))) nx
  | dadd =>
    obtain ⟨x, y, rfl, h2⟩ := ztii0_inv (show ztii0 st _ = some _ from hst)
    cases h2; cases hq
    exact zs_min F hpc hdec hm hrm nx
  | nop =>
    obtain ⟨x, rfl, h2⟩ := ztr0_inv (show ztr0 st _ = some _ from hst)
    cases h2; cases hq
    exact zs_objInit F hpc hdec hm (hcs _ List.mem_cons_self) nx
  | new x => cases hst; cases hq; exact zs_new F hpc hdec hm hrm nx
  | newarray t =>
    cases t with
    | int =>
      obtain ⟨n, r, rfl, h2⟩ := zti_inv (show zti st _ = some _ from hst)
      cases h2; cases hq
      exact zs_newI F hpc hdec hm (hcs _ List.mem_cons_self) (hcs _ (List.mem_cons_of_mem _ List.mem_cons_self)) hrm nx
    | long =>
      obtain ⟨n, r, rfl, h2⟩ := zti_inv (show zti st _ = some _ from hst)
      cases h2; cases hq
      exact zs_newL F hpc hdec hm (hcs _ List.mem_cons_self) (hcs _ (List.mem_cons_of_mem _ List.mem_cons_self)) hrm nx
    | boolean =>
      obtain ⟨n, r, rfl, h2⟩ := zti_inv (show zti st _ = some _ from hst)
      cases h2; cases hq
      exact zs_newZ F hpc hdec hm (hcs _ List.mem_cons_self) (hcs _ (List.mem_cons_of_mem _ List.mem_cons_self)) hrm nx
    | _ => cases (show (none : zRes) = some _ from hst)
  | anewarray kd =>
    obtain ⟨n, r, rfl, h2⟩ := zti_inv (show zti st _ = some _ from hst)
    cases h2; cases hq
    exact zs_newA F hpc hdec hm (hcs _ List.mem_cons_self) (hcs _ (List.mem_cons_of_mem _ List.mem_cons_self)) hrm nx
  | invokestatic x =>
    obtain ⟨w, hw⟩ := zcall_no (show zcall x false i lv st M = some _ from hst)
    rw [hw] at hq
    cases hq
  | invokevirtual x =>
    obtain ⟨w, hw⟩ := zcall_no (show zcall x true i lv st M = some _ from hst)
    rw [hw] at hq
    cases hq
  | invokespecial x =>
    obtain ⟨w, hw⟩ := zcall_no (show zcall x true i lv st M = some _ from hst)
    rw [hw] at hq
    cases hq
  | ireturn =>
    simp only [zstep] at hst
    split at hst
    · rw [zretq_no hst] at hq
      cases hq
    · cases hst
  | lreturn =>
    simp only [zstep] at hst
    split at hst
    · rw [zretq_no hst] at hq
      cases hq
    · cases hst
  | areturn =>
    simp only [zstep] at hst
    split at hst
    · rw [zretq_no hst] at hq
      cases hq
    · cases hst
  | return_ =>
    simp only [zstep] at hst
    split at hst
    · rw [zretq_no hst] at hq
      cases hq
    · cases hst
  | _ => cases (show (none : zRes) = some _ from hst)
end ZALL
