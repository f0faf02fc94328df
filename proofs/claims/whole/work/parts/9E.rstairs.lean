/-! the reference's calls: stairs -/
theorem shl5 {x : Nat} (hx : x ≤ 30) : ∀ {v : Nat}, v < 4 → nI x <<< ((5 * nI v) &&& 31) = e5 (mpw v x)
  | 0, _ => by rw [pk_shlN _ 0 (by decide) (by omega)]; show nI _ = nI (x + 32 * 0 + 1024 * 0 + 32768 * 0); congr 1; omega
  | 1, _ => by rw [pk_shlN _ 5 (by decide) (by omega)]; show nI _ = nI (0 + 32 * x + 1024 * 0 + 32768 * 0); congr 1; omega
  | 2, _ => by rw [pk_shlN _ 10 (by decide) (by omega)]; show nI _ = nI (0 + 32 * 0 + 1024 * x + 32768 * 0); congr 1; omega
  | 3, _ => by rw [pk_shlN _ 15 (by decide) (by omega)]; show nI _ = nI (0 + 32 * 0 + 1024 * 0 + 32768 * x); congr 1; omega
theorem awl_some {es : List aE} {v : Nat} : ∀ {i y : Nat}, awl es v i = some y → ∃ j, j < i ∧ ald es j = mpw v (aex (ald es j) v)
  | 0, y, h => by cases h
  | i + 1, y, h => by
    unfold awl at h
    split at h
    · rename_i hp
      exact ⟨i, by omega, hp⟩
    · obtain ⟨j, hj, hjp⟩ := awl_some h
      exact ⟨j, by omega, hjp⟩
theorem mpw_dvd {x y : Nat} (h : x ≤ y) : ∀ {v : Nat}, v < 4 → mdvd (mpw v x) (mpw v y)
  | 0, _ => ⟨h, Nat.le_refl _, Nat.le_refl _, Nat.le_refl _⟩
  | 1, _ => ⟨Nat.le_refl _, h, Nat.le_refl _, Nat.le_refl _⟩
  | 2, _ => ⟨Nat.le_refl _, Nat.le_refl _, h, Nat.le_refl _⟩
  | 3, _ => ⟨Nat.le_refl _, Nat.le_refl _, Nat.le_refl _, h⟩
theorem ndv_ald {es : List aE} (h : ndv es) {i j : Nat} (hi : i < es.length) (hj : j < es.length) (hij : i ≠ j) : ¬ mdvd (ald es i) (ald es j) := by
  have a := List.getElem?_eq_getElem hi
  have b := List.getElem?_eq_getElem hj
  rw [ald_at a, ald_at b]
  exact h i j _ _ a b hij
theorem awl_step {es : List aE} (h : ndv es) {v i : Nat} (hv : v < 4) (hi : i < es.length) : awl es v (i + 1) = if ald es i = mpw v (aex (ald es i) v) then some (aex (ald es i) v) else awl es v i := by
  have e : awl es v (i + 1) = if ald es i = mpw v (aex (ald es i) v) then (match awl es v i with
      | none => some (aex (ald es i) v)
      | some y => if aex (ald es i) v < y then some (aex (ald es i) v) else some y) else awl es v i := rfl
  rw [e]
  by_cases hp : ald es i = mpw v (aex (ald es i) v)
  · rw [if_pos hp, if_pos hp]
    cases hw : awl es v i with
    | none => rfl
    | some y =>
      exfalso
      obtain ⟨j, hj, hjp⟩ := awl_some hw
      rcases Nat.le_total (aex (ald es i) v) (aex (ald es j) v) with hle | hle
      · refine ndv_ald h hi (show j < es.length by omega) (by omega) ?_
        rw [hp, hjp]
        exact mpw_dvd hle hv
      · refine ndv_ald h (show j < es.length by omega) hi (by omega) ?_
        rw [hp, hjp]
        exact mpw_dvd hle hv
  · rw [if_neg hp, if_neg hp]
theorem ahgt_iff {es : List aE} {a b c w3 x : Nat} : ∀ {n : Nat}, x < ahgt es a b c w3 n ↔ x < w3 ∧ ∀ i, i < n → ¬ mdvd (ald es i) (a, b, c, x)
  | 0 => ⟨fun h => ⟨h, fun i hi => absurd hi (Nat.not_lt_zero _)⟩, fun h => h.1⟩
  | n + 1 => by
    have ih := ahgt_iff (es := es) (a := a) (b := b) (c := c) (w3 := w3) (x := x) (n := n)
    have e : ahgt es a b c w3 (n + 1) = if mdv ((ald es n).1, (ald es n).2.1, (ald es n).2.2.1, 0) (a, b, c, 0) = true then (if (ald es n).2.2.2 < ahgt es a b c w3 n then (ald es n).2.2.2 else ahgt es a b c w3 n) else ahgt es a b c w3 n := rfl
    rw [e]
    have hd : mdvd (ald es n) (a, b, c, x) ↔ mdv ((ald es n).1, (ald es n).2.1, (ald es n).2.2.1, 0) (a, b, c, 0) = true ∧ (ald es n).2.2.2 ≤ x := by
      rw [mdv_iff]
      unfold mdvd
      dsimp only
      omega
    have all : (∀ i, i < n + 1 → ¬ mdvd (ald es i) (a, b, c, x)) ↔ (∀ i, i < n → ¬ mdvd (ald es i) (a, b, c, x)) ∧ ¬ mdvd (ald es n) (a, b, c, x) := ⟨fun y => ⟨fun i hi => y i (by omega), y n (by omega)⟩, fun y i hi => by
      by_cases hin : i = n
      · rw [hin]; exact y.2
      · exact y.1 i (by omega)⟩
    rw [all, hd]
    by_cases hm : mdv ((ald es n).1, (ald es n).2.1, (ald es n).2.2.1, 0) (a, b, c, 0) = true
    · rw [if_pos hm]
      constructor
      · intro y
        have : x < ahgt es a b c w3 n := by split at y <;> omega
        obtain ⟨y1, y2⟩ := ih.mp this
        refine ⟨y1, y2, fun z => ?_⟩
        split at y <;> omega
      · rintro ⟨y1, y2, y3⟩
        have h1 := ih.mpr ⟨y1, y2⟩
        have h2 : ¬ (ald es n).2.2.2 ≤ x := fun z => y3 ⟨hm, z⟩
        split <;> omega
    · rw [if_neg hm, ih]
      exact ⟨fun y => ⟨y.1, y.2, fun z => hm z.1⟩, fun y => ⟨y.1, y.2.1⟩⟩
theorem pk4 {a b c x : Nat} (h : mok (a, b, c, x)) : (((nI a ||| (nI b <<< ((5 : Int32) &&& 31))) ||| (nI c <<< ((10 : Int32) &&& 31))) ||| (nI x <<< ((15 : Int32) &&& 31))) = e5 (a, b, c, x) := by
  have e1 : nI a = e5 (mfst 1 (a, b, c, x)) := by
    show nI a = nI (c5 (a, 0, 0, 0))
    congr 1
  have o1 := or_5 h 1 (by omega)
  have o2 := or_5 h 2 (by omega)
  have o3 := or_5 h 3 (by omega)
  rw [show (5 : Int32) * nI 1 = 5 by decide] at o1
  rw [show (5 : Int32) * nI 2 = 10 by decide] at o2
  rw [show (5 : Int32) * nI 3 = 15 by decide] at o3
  have o1 : e5 (mfst 1 (a, b, c, x)) ||| (nI b <<< ((5 : Int32) &&& 31)) = e5 (mfst 2 (a, b, c, x)) := o1
  have o2 : e5 (mfst 2 (a, b, c, x)) ||| (nI c <<< ((10 : Int32) &&& 31)) = e5 (mfst 3 (a, b, c, x)) := o2
  have o3 : e5 (mfst 3 (a, b, c, x)) ||| (nI x <<< ((15 : Int32) &&& 31)) = e5 (a, b, c, x) := o3
  rw [e1, o1, o2, o3]
theorem sp_rstair {d : Nat} {M : zM} {s : aX} {m : aM} {P : Int32 → zM → Prop} (hd : 3 ≤ d) (hx : rX M s) (hh : xhs s = true) (hm : mok m) (h1 : (∀ i, i < (xes s).length → ¬ mdvd (ald (xes s) i) m) → P 1 M) (h0 : ¬ (∀ i, i < (xes s).length → ¬ mdvd (ald (xes s) i) m) → P 0 M) : ycI d nX8_isStair [.ref 1529, .int (e5 m)] M P := by
  obtain ⟨d, rfl, he⟩ := dS hd
  obtain ⟨heg, hel, hnd⟩ := hx.1.2.2.2.2.2.1 hh
  have f8 := (hx.2.1.2.2.2.2 hh).1
  have hrel := hx.2.2.2.2.1 hh
  have hM := hx.1.1
  have loop : ∀ (n i : Nat), i + n = (xes s).length → (∀ j, j < i → ¬ mdvd (ald (xes s) j) m) → wX8_isStair d (fun r M2 => ∃ x : Int32, r = [.int x] ∧ P x M2) 2 [some (.ref 1529), some (.int (e5 m)), some (.int (nI i))] [] M := by
    intro n
    induction n with
    | zero =>
      intro i hi hno
      exact sg_X8_isStair_2 _ _ _ _ ⟨hM.1, fun _ => ⟨Or.inr rfl, _, rfl, h1 fun j hj => hno j (by omega)⟩, fun z => absurd (by rw [f8, show i = (xes s).length by omega]; exact Int32.le_refl _) z⟩
    | succ n ih =>
      intro i hi hno
      obtain ⟨il, ics, hiE, im, iv⟩ := egd_ld heg (show i < (xes s).length by omega)
      refine sg_X8_isStair_2 _ _ _ _ ⟨hM.1, fun z => ?_, fun _ => ⟨hM.1, ?_⟩⟩
      · rw [f8] at z
        have := (nI_leI (by omega) (by omega)).mp z
        omega
      · rw [show (50 : Int32) + nI i = nI (50 + i) from nI_add 50 i]
        refine sp_rld (by omega) hM (by omega) hrel heg (by omega) (by omega) ⟨hM.1, ?_⟩
        refine sp_rdiv (by omega) hM hx.2.1.2.1 im hm iv (fun hdv => ⟨fun z => absurd z (by decide), fun _ => ⟨Or.inl rfl, _, rfl, h0 fun y => y i (by omega) hdv⟩⟩) (fun hdv => ⟨fun _ => ?_, fun z => absurd rfl z⟩)
        intro v2
        rw [show v2 = nI (i + 1) from nI_1 i]
        refine ih (i + 1) (by omega) fun j hj => ?_
        by_cases hji : j = i
        · rw [hji]; exact hdv
        · exact hno j (by omega)
  exact en_X8_isStair _ _ M (sg_X8_isStair_0 _ _ M (loop (xes s).length 0 (by omega) fun j hj => absurd hj (Nat.not_lt_zero _)))
theorem asum_le {f : Nat → Nat} {b : Nat} (h : ∀ x, f x ≤ b) : ∀ n, asum f n ≤ n * b
  | 0 => by show 0 ≤ _; omega
  | n + 1 => by
    have := asum_le h n
    have := h n
    show asum f n + f n ≤ (n + 1) * b
    rw [Nat.succ_mul]
    omega
theorem astairs_1 {es : List aE} {nv : Nat} (hl : es.length = 1) (h1 : ald es 0 = mone) (hn : 1 ≤ nv) : astairs es nv = some 0 := by
  have e : ∀ v, v < 4 → ∃ x, awall es nv v = some x := fun v hv => by
    unfold awall
    split
    · rw [hl]
      refine ⟨0, ?_⟩
      show (if ald es 0 = mpw v (aex (ald es 0) v) then some (aex (ald es 0) v) else none) = some 0
      have e0 : aex mone v = 0 ∧ mone = mpw v 0 := by
        match v, hv with
        | 0, _ => exact ⟨rfl, rfl⟩
        | 1, _ => exact ⟨rfl, rfl⟩
        | 2, _ => exact ⟨rfl, rfl⟩
        | 3, _ => exact ⟨rfl, rfl⟩
      rw [h1, e0.1, if_pos e0.2]
    · exact ⟨1, rfl⟩
  have e0 : awall es nv 0 = some 0 := by
    unfold awall
    rw [if_pos (by omega), hl]
    show (if ald es 0 = mpw 0 (aex (ald es 0) 0) then some (aex (ald es 0) 0) else none) = some 0
    rw [h1]
    rfl
  obtain ⟨x1, e1⟩ := e 1 (by omega)
  obtain ⟨x2, e2⟩ := e 2 (by omega)
  obtain ⟨x3, e3⟩ := e 3 (by omega)
  unfold astairs
  rw [e0, e1, e2, e3]
  rfl
theorem cR_stairs {d : Nat} {M : zM} {s : aX} {P : Int32 → zM → Prop} (hd : 10 ≤ d) (hx : rX M s) (h : rres (A_stairs s) M P) : ycI d nX8_stairs [.ref 1529] M P := by
  obtain ⟨d, rfl, he⟩ := dS hd
  have f9 := hx.2.1.2.2.2.1
  have hM := hx.1.1
  have hn := hx.1.2.1
  unfold A_stairs at h
  refine en_X8_stairs _ M (sg_X8_stairs_0 _ M ⟨hM.1, fun c => ?_, fun c => ⟨_, rfl, ?_⟩⟩)
  · have hh : xhs s = true := eB_1.mp (by rw [← f9]; exact c)
    rw [if_pos hh] at h
    obtain ⟨heg, hel, hnd⟩ := hx.1.2.2.2.2.2.1 hh
    have fin : ∀ (x : Int32) (M' : zM), rX M' s → zfm M M' → x = (match astairs (xes s) (xn s) with
      | none => -8
      | some x => nI x) → P x M' := fun x M' hx' hz' e => by
      rw [e]
      exact h M' hx' hz'
    have hwall : ∀ v x, v < 4 → awall (xes s) (xn s) v = some x → x ≤ 30 := fun v x hv hw => by
      unfold awall at hw
      split at hw
      · have key : ∀ (i : Nat), i ≤ (xes s).length → ∀ x, awl (xes s) v i = some x → x ≤ 30 := by
          intro i
          induction i with
          | zero => intro _ x hx; cases hx
          | succ i ih =>
            intro hi x hx
            rw [awl_step hnd hv (by omega)] at hx
            split at hx
            · cases hx
              obtain ⟨-, -, -, im, -⟩ := egd_ld heg (show i < (xes s).length by omega)
              exact aex_ok im v
            · exact ih (by omega) x hx
        exact key _ (Nat.le_refl _) x hw
      · cases hw
        omega
    -- the steps below
    have count : ∀ (w0 w1 w2 w3 : Nat) (M' : zM), rX M' s → zfm M M' → zI M' 1535 0 = nI w0 → zI M' 1535 1 = nI w1 → zI M' 1535 2 = nI w2 → zI M' 1535 3 = nI w3 → w0 ≤ 30 → w1 ≤ 30 → w2 ≤ 30 → w3 ≤ 30 → astairs (xes s) (xn s) = some (astot (xes s) w0 w1 w2 w3) → ∀ (o1 o2 o3 o4 o5 : Option Value), wX8_stairs d (fun r M2 => ∃ x : Int32, r = [.int x] ∧ P x M2) 87 [some (.ref 1529), o1, o2, o3, o4, o5] [] M' := by
      intro w0 w1 w2 w3 M' hx' hz' e0 e1 e2 e3 l0 l1 l2 l3 hst
      obtain ⟨s16, ⟨-, -, -, -, -, r18, -⟩, -, -, s5, -⟩ := id hx'.1.1
      have zz : ∀ j, j < 4 → zin (nI j) 4 := fun j hj => zin_n hj (by omega)
      -- one column
      have col : ∀ (a b c T : Nat), a < w0 → b < w1 → c < w2 → T ≤ 1000000 → (∀ o5 : Option Value, wX8_stairs d (fun r M2 => ∃ x : Int32, r = [.int x] ∧ P x M2) 107 [some (.ref 1529), some (.int (nI (T + ahgt (xes s) a b c w3 (xes s).length))), some (.int (nI a)), some (.int (nI b)), some (.int (nI c + 1)), o5] [] M') → ∀ (n x : Nat), x + n = w3 → wX8_stairs d (fun r M2 => ∃ x : Int32, r = [.int x] ∧ P x M2) 115 [some (.ref 1529), some (.int (nI (T + min x (ahgt (xes s) a b c w3 (xes s).length)))), some (.int (nI a)), some (.int (nI b)), some (.int (nI c)), some (.int (nI x))] [] M' := by
        intro a b c T ha hb hc hT next n
        induction n with
        | zero =>
          intro x hxn
          have hle := ahgt_le (es := xes s) (a := a) (b := b) (c := c) (w3 := w3) (i := (xes s).length)
          refine sg_X8_stairs_115 _ _ _ _ _ _ _ ⟨s16, by rw [r18, s5], by rw [r18, s5]; exact zz 3 (by omega), fun _ => ?_, fun z => absurd (by rw [r18]; show zI M' 1535 3 ≤ _; rw [e3, show x = w3 by omega]; exact Int32.le_refl _) z⟩
          intro v4
          rw [show min x (ahgt (xes s) a b c w3 (xes s).length) = ahgt (xes s) a b c w3 (xes s).length by omega]
          exact next _
        | succ n ih =>
          intro x hxn
          have hmk : mok (a, b, c, x) := ⟨by dsimp only; omega, by dsimp only; omega, by dsimp only; omega, by dsimp only; omega⟩
          have hiff := ahgt_iff (es := xes s) (a := a) (b := b) (c := c) (w3 := w3) (x := x) (n := (xes s).length)
          refine sg_X8_stairs_115 _ _ _ _ _ _ _ ⟨s16, by rw [r18, s5], by rw [r18, s5]; exact zz 3 (by omega), fun z => ?_, fun _ => ⟨s16, ?_⟩⟩
          · rw [r18] at z
            have z : zI M' 1535 3 ≤ nI x := z
            rw [e3] at z
            have := (nI_leI (by omega) (by omega)).mp z
            omega
          · rw [pk4 hmk]
            refine sp_rstair (by omega) hx' hh hmk (fun y => ⟨fun z => absurd z (by decide), fun _ => ?_⟩) (fun y => ⟨fun _ => ?_, fun z => absurd rfl z⟩)
            · have hlt := hiff.mpr ⟨by omega, y⟩
              intro v1 v5
              rw [show v1 = nI (T + min (x + 1) (ahgt (xes s) a b c w3 (xes s).length)) by
                rw [show v1 = nI (T + min x (ahgt (xes s) a b c w3 (xes s).length)) + 1 from rfl, nI_1]
                congr 1
                omega, show v5 = nI (x + 1) from nI_1 x]
              exact ih (x + 1) (by omega)
            · have hge : ¬ x < ahgt (xes s) a b c w3 (xes s).length := fun z => y (hiff.mp z).2
              intro v1 v5
              rw [show v1 = nI (T + min (x + 1) (ahgt (xes s) a b c w3 (xes s).length)) by
                rw [show v1 = nI (T + min x (ahgt (xes s) a b c w3 (xes s).length)) + 0 from rfl, Int32.add_zero]
                congr 1
                omega, show v5 = nI (x + 1) from nI_1 x]
              exact ih (x + 1) (by omega)
      have hb3 : ∀ a b c, ahgt (xes s) a b c w3 (xes s).length ≤ 30 := fun a b c => Nat.le_trans ahgt_le l3
      have hb2 : ∀ a b n, n ≤ 30 → asum (fun c => ahgt (xes s) a b c w3 (xes s).length) n ≤ 900 := fun a b n hn => by
        have := asum_le (fun c => hb3 a b c) n
        omega
      have hb1 : ∀ a n, n ≤ 30 → asum (fun b => asum (fun c => ahgt (xes s) a b c w3 (xes s).length) w2) n ≤ 27000 := fun a n hn => by
        have := asum_le (fun b => hb2 a b w2 l2) n
        omega
      have hb0 : ∀ n, n ≤ 30 → asum (fun a => asum (fun b => asum (fun c => ahgt (xes s) a b c w3 (xes s).length) w2) w1) n ≤ 810000 := fun n hn => by
        have := asum_le (fun a => hb1 a w1 l1) n
        omega
      have cs : ∀ (a b T : Nat), a < w0 → b < w1 → T ≤ 900000 → (∀ o4 o5 : Option Value, wX8_stairs d (fun r M2 => ∃ x : Int32, r = [.int x] ∧ P x M2) 99 [some (.ref 1529), some (.int (nI (T + asum (fun c => ahgt (xes s) a b c w3 (xes s).length) w2))), some (.int (nI a)), some (.int (nI b + 1)), o4, o5] [] M') → ∀ (n c : Nat) (o5 : Option Value), c + n = w2 → wX8_stairs d (fun r M2 => ∃ x : Int32, r = [.int x] ∧ P x M2) 107 [some (.ref 1529), some (.int (nI (T + asum (fun c => ahgt (xes s) a b c w3 (xes s).length) c))), some (.int (nI a)), some (.int (nI b)), some (.int (nI c)), o5] [] M' := by
        intro a b T ha hb hT next n
        induction n with
        | zero =>
          intro c o5 hc
          rw [show c = w2 by omega]
          refine sg_X8_stairs_107 _ _ _ _ _ _ _ ⟨s16, by rw [r18, s5], by rw [r18, s5]; exact zz 2 (by omega), fun _ => next _ _, fun z => absurd (by rw [r18]; show zI M' 1535 2 ≤ _; rw [e2]; exact Int32.le_refl _) z⟩
        | succ n ih =>
          intro c o5 hc
          have := hb2 a b c (by omega)
          refine sg_X8_stairs_107 _ _ _ _ _ _ _ ⟨s16, by rw [r18, s5], by rw [r18, s5]; exact zz 2 (by omega), fun z => ?_, fun _ => ?_⟩
          · rw [r18] at z
            have z : zI M' 1535 2 ≤ nI c := z
            rw [e2] at z
            have := (nI_leI (by omega) (by omega)).mp z
            omega
          · have := col a b c (T + asum (fun c => ahgt (xes s) a b c w3 (xes s).length) c) ha hb (by omega) (by omega) (fun o5 => by
              rw [nI_1, Nat.add_assoc]
              exact ih (c + 1) o5 (by omega)) w3 0 (by omega)
            rw [Nat.zero_min, Nat.add_zero] at this
            exact this
      have bs : ∀ (a T : Nat), a < w0 → T ≤ 850000 → (∀ o3 o4 o5 : Option Value, wX8_stairs d (fun r M2 => ∃ x : Int32, r = [.int x] ∧ P x M2) 91 [some (.ref 1529), some (.int (nI (T + asum (fun b => asum (fun c => ahgt (xes s) a b c w3 (xes s).length) w2) w1))), some (.int (nI a + 1)), o3, o4, o5] [] M') → ∀ (n b : Nat) (o4 o5 : Option Value), b + n = w1 → wX8_stairs d (fun r M2 => ∃ x : Int32, r = [.int x] ∧ P x M2) 99 [some (.ref 1529), some (.int (nI (T + asum (fun b => asum (fun c => ahgt (xes s) a b c w3 (xes s).length) w2) b))), some (.int (nI a)), some (.int (nI b)), o4, o5] [] M' := by
        intro a T ha hT next n
        induction n with
        | zero =>
          intro b o4 o5 hb
          rw [show b = w1 by omega]
          refine sg_X8_stairs_99 _ _ _ _ _ _ _ ⟨s16, by rw [r18, s5], by rw [r18, s5]; exact zz 1 (by omega), fun _ => next _ _ _, fun z => absurd (by rw [r18]; show zI M' 1535 1 ≤ _; rw [e1]; exact Int32.le_refl _) z⟩
        | succ n ih =>
          intro b o4 o5 hb
          have := hb1 a b (by omega)
          refine sg_X8_stairs_99 _ _ _ _ _ _ _ ⟨s16, by rw [r18, s5], by rw [r18, s5]; exact zz 1 (by omega), fun z => ?_, fun _ => ?_⟩
          · rw [r18] at z
            have z : zI M' 1535 1 ≤ nI b := z
            rw [e1] at z
            have := (nI_leI (by omega) (by omega)).mp z
            omega
          · have := cs a b (T + asum (fun b => asum (fun c => ahgt (xes s) a b c w3 (xes s).length) w2) b) ha (by omega) (by omega) (fun o4 o5 => by
              rw [nI_1, Nat.add_assoc]
              exact ih (b + 1) o4 o5 (by omega)) w2 0 o5 (by omega)
            exact this
      have as' : ∀ (n a : Nat) (o3 o4 o5 : Option Value), a + n = w0 → wX8_stairs d (fun r M2 => ∃ x : Int32, r = [.int x] ∧ P x M2) 91 [some (.ref 1529), some (.int (nI (asum (fun a => asum (fun b => asum (fun c => ahgt (xes s) a b c w3 (xes s).length) w2) w1) a))), some (.int (nI a)), o3, o4, o5] [] M' := by
        intro n
        induction n with
        | zero =>
          intro a o3 o4 o5 ha
          rw [show a = w0 by omega]
          refine sg_X8_stairs_91 _ _ _ _ _ _ _ ⟨s16, by rw [r18, s5], by rw [r18, s5]; exact zz 0 (by omega), fun _ => ⟨_, rfl, fin _ M' hx' hz' (by rw [hst]; rfl)⟩, fun z => absurd (by rw [r18]; show zI M' 1535 0 ≤ _; rw [e0]; exact Int32.le_refl _) z⟩
        | succ n ih =>
          intro a o3 o4 o5 ha
          have := hb0 a (by omega)
          refine sg_X8_stairs_91 _ _ _ _ _ _ _ ⟨s16, by rw [r18, s5], by rw [r18, s5]; exact zz 0 (by omega), fun z => ?_, fun _ => ?_⟩
          · rw [r18] at z
            have z : zI M' 1535 0 ≤ nI a := z
            rw [e0] at z
            have := (nI_leI (by omega) (by omega)).mp z
            omega
          · have := bs a (asum (fun a => asum (fun b => asum (fun c => ahgt (xes s) a b c w3 (xes s).length) w2) w1) a) (by omega) (by omega) (fun o3 o4 o5 => by
              rw [nI_1]
              exact ih (a + 1) o3 o4 o5 (by omega)) w1 0 o4 o5 (by omega)
            exact this
      intro o1 o2 o3 o4 o5
      exact sg_X8_stairs_87 _ _ _ _ _ _ _ (as' w0 0 _ _ _ (by omega))
    -- all the walls
    have walls : ∀ (M' : zM), rX M' s → zfm M M' → (∀ v, v < 4 → zI M' 1535 v = eow (awall (xes s) (xn s) v)) → ∀ (o1 o2 o3 o4 o5 : Option Value), wX8_stairs d (fun r M2 => ∃ x : Int32, r = [.int x] ∧ P x M2) 65 [some (.ref 1529), o1, o2, o3, o4, o5] [] M' := by
      intro M' hx' hz' hw o1 o2 o3 o4 o5
      obtain ⟨s16, ⟨-, -, -, -, -, r18, -⟩, -, -, s5, -⟩ := id hx'.1.1
      have zz : ∀ j, j < 4 → zin (nI j) 4 := fun j hj => zin_n hj (by omega)
      have a0 := hw 0 (by omega)
      have a1 := hw 1 (by omega)
      have a2 := hw 2 (by omega)
      have a3 := hw 3 (by omega)
      have t0 := hwall 0
      have t1 := hwall 1
      have t2 := hwall 2
      have t3 := hwall 3
      have hst : astairs (xes s) (xn s) = match awall (xes s) (xn s) 0, awall (xes s) (xn s) 1, awall (xes s) (xn s) 2, awall (xes s) (xn s) 3 with
        | some w0, some w1, some w2, some w3 => some (astot (xes s) w0 w1 w2 w3)
        | _, _, _, _ => none := rfl
      generalize awall (xes s) (xn s) 0 = b0 at a0 t0 hst
      generalize awall (xes s) (xn s) 1 = b1 at a1 t1 hst
      generalize awall (xes s) (xn s) 2 = b2 at a2 t2 hst
      generalize awall (xes s) (xn s) 3 = b3 at a3 t3 hst
      have none' : astairs (xes s) (xn s) = none → P (-8) M' := fun y => fin _ M' hx' hz' (by rw [y])
      refine sg_X8_stairs_65 _ _ _ _ _ _ _ ⟨s16, by rw [r18, s5], by rw [r18, s5]; exact zz 0 (by omega), ?_⟩
      rw [r18]
      have g0 : zI M' 1535 (0 : Int32).toNatClampNeg = eow b0 := a0
      have g1 : zI M' 1535 (1 : Int32).toNatClampNeg = eow b1 := a1
      have g2 : zI M' 1535 (2 : Int32).toNatClampNeg = eow b2 := a2
      have g3 : zI M' 1535 (3 : Int32).toNatClampNeg = eow b3 := a3
      rw [g0, g1, g2, g3]
      cases b0 with
      | none => exact ⟨fun _ => ⟨_, rfl, none' hst⟩, fun z => absurd (by decide) z⟩
      | some w0 =>
        have l0 := t0 w0 (by omega) rfl
        refine ⟨fun z => absurd z (nI_pos (by omega)), fun _ => ⟨s16, by rw [s5], by rw [s5]; exact zz 1 (by omega), ?_⟩⟩
        cases b1 with
        | none => exact ⟨fun _ => ⟨_, rfl, none' hst⟩, fun z => absurd (by decide) z⟩
        | some w1 =>
          have l1 := t1 w1 (by omega) rfl
          refine ⟨fun z => absurd z (nI_pos (by omega)), fun _ => ⟨s16, by rw [s5], by rw [s5]; exact zz 2 (by omega), ?_⟩⟩
          cases b2 with
          | none => exact ⟨fun _ => ⟨_, rfl, none' hst⟩, fun z => absurd (by decide) z⟩
          | some w2 =>
            have l2 := t2 w2 (by omega) rfl
            refine ⟨fun z => absurd z (nI_pos (by omega)), fun _ => ⟨s16, by rw [s5], by rw [s5]; exact zz 3 (by omega), ?_⟩⟩
            cases b3 with
            | none => exact ⟨fun z => absurd z (by decide), fun _ => ⟨_, rfl, none' hst⟩⟩
            | some w3 =>
              have l3 := t3 w3 (by omega) rfl
              exact ⟨fun _ => count w0 w1 w2 w3 M' hx' hz' a0 a1 a2 a3 l0 l1 l2 l3 hst _ _ _ _ _, fun z => absurd (Int32.not_lt.mp (nI_pos (by omega))) z⟩
    -- element by element
    have els : ∀ (n i : Nat) (M' : zM) (o2 o3 o4 o5 : Option Value), i + n = (xes s).length → rX M' s → zfm M M' → (∀ v, v < 4 → zI M' 1535 v = eow (if v < xn s then awl (xes s) v i else some 1)) → wX8_stairs d (fun r M2 => ∃ x : Int32, r = [.int x] ∧ P x M2) 25 [some (.ref 1529), some (.int (nI i)), o2, o3, o4, o5] [] M' := by
      intro n
      induction n with
      | zero =>
        intro i M' o2 o3 o4 o5 hi hx' hz' hw
        have f8 := (hx'.2.1.2.2.2.2 hh).1
        rw [show i = (xes s).length by omega] at hw ⊢
        exact sg_X8_stairs_25 _ _ _ _ _ _ _ ⟨hx'.1.1.1, fun _ => walls M' hx' hz' hw _ _ _ _ _, fun z => absurd (by rw [f8]; exact Int32.le_refl _) z⟩
      | succ n ih =>
        intro i M' o2 o3 o4 o5 hi hx' hz' hw
        have f8 := (hx'.2.1.2.2.2.2 hh).1
        have hrel := hx'.2.2.2.2.1 hh
        have hil : i < (xes s).length := by omega
        obtain ⟨il, ics, hiE, im, iv⟩ := egd_ld heg hil
        refine sg_X8_stairs_25 _ _ _ _ _ _ _ ⟨hx'.1.1.1, fun z => ?_, fun _ => ⟨hx'.1.1.1, ?_⟩⟩
        · rw [f8] at z
          have := (nI_leI (by omega) (by omega)).mp z
          omega
        · rw [show (50 : Int32) + nI i = nI (50 + i) from nI_add 50 i]
          refine sp_rld (by omega) hx'.1.1 (by omega) hrel heg hil (by omega) ⟨fun z => ?_, fun z => ⟨_, rfl, ?_⟩⟩
          · have inner : ∀ (a v : Nat) (M1 : zM) (o4 o5 : Option Value), v + a = xn s → rX M1 s → zfm M M1 → (∀ u, u < 4 → zI M1 1535 u = eow (if u < xn s then (if u < v then awl (xes s) u (i + 1) else awl (xes s) u i) else some 1)) → wX8_stairs d (fun r M2 => ∃ x : Int32, r = [.int x] ∧ P x M2) 41 [some (.ref 1529), some (.int (nI i)), some (.int (e5 (ald (xes s) i))), some (.int (nI v)), o4, o5] [] M1 := by
              intro a
              induction a with
              | zero =>
                intro v M1 o4 o5 hv hx1 hz1 hw1
                have f0 := hx1.2.1.1
                refine sg_X8_stairs_41 _ _ _ _ _ _ _ ⟨hx1.1.1.1, fun _ => ?_, fun z => absurd (by rw [f0, show v = xn s by omega]; exact Int32.le_refl _) z⟩
                intro v1
                rw [show v1 = nI (i + 1) from nI_1 i]
                refine ih (i + 1) M1 _ _ _ _ (by omega) hx1 hz1 fun u hu => ?_
                rw [hw1 u hu]
                by_cases hun : u < xn s
                · rw [if_pos hun, if_pos (by omega), if_pos hun]
                · rw [if_neg hun, if_neg hun]
              | succ a iha =>
                intro v M1 o4 o5 hv hx1 hz1 hw1
                have f0 := hx1.2.1.1
                obtain ⟨s16, ⟨-, -, -, -, -, r18, -⟩, -, -, s5, -⟩ := id hx1.1.1
                have hv4 : v < 4 := by omega
                have hex := aex_ok im v
                have hst := awl_step hnd hv4 hil
                have hpp : e5 (ald (xes s) i) = e5 (mpw v (aex (ald (xes s) i) v)) ↔ ald (xes s) i = mpw v (aex (ald (xes s) i) v) := ⟨fun y => e5_inj im (mpw_ok hex) y, fun y => congrArg e5 y⟩
                refine sg_X8_stairs_41 _ _ _ _ _ _ _ ⟨s16, fun z => ?_, fun _ => ?_⟩
                · rw [f0] at z
                  have := (nI_leI (by omega) (by omega)).mp z
                  omega
                · refine sp_rexp (by omega) im hv4 ?_
                  rw [shl5 hex hv4]
                  refine ⟨fun z => ?_, fun z => ⟨s16, sp_rexp (by omega) im hv4 ?_⟩⟩
                  · rw [if_neg (fun y => z (hpp.mpr y))] at hst
                    intro v3
                    rw [show v3 = nI (v + 1) from nI_1 v]
                    refine iha (v + 1) M1 _ _ (by omega) hx1 hz1 fun u hu => ?_
                    rw [hw1 u hu]
                    by_cases hun : u < xn s
                    · rw [if_pos hun, if_pos hun]
                      by_cases huv : u = v
                      · rw [if_neg (by omega), if_pos (by omega), huv, hst]
                      · by_cases hlt : u < v
                        · rw [if_pos hlt, if_pos (by omega)]
                        · rw [if_neg hlt, if_neg (by omega)]
                    · rw [if_neg hun, if_neg hun]
                  · rw [if_pos (hpp.mp (Classical.not_not.mp z))] at hst
                    rw [r18, cl_n (by omega)]
                    refine ⟨by rw [s5], by rw [s5]; exact zin_n (by omega) (by omega), ?_⟩
                    intro M2 v3
                    have m2 : M2 = zuI M1 1535 v (nI (aex (ald (xes s) i) v)) := rfl
                    clear_value M2
                    rw [show v3 = nI (v + 1) from nI_1 v]
                    have hfr2 : rfr TN FN GA M1 M2 := by rw [m2]; exact rfr_G rfl (by omega)
                    refine iha (v + 1) M2 _ _ (by omega) (rX_fr hfr2 (fun _ z => z.elim) FN_11 (fun z => by unfold GA at z; omega) hx1) (zfm_tr hz1 (zfm_of hfr2)) fun u hu => ?_
                    by_cases huv : u = v
                    · rw [m2, zI_uI, if_pos ⟨rfl, huv⟩, if_pos (by omega), if_pos (by omega), huv, hst]
                      rfl
                    · rw [m2, zI_uI, if_neg (fun y => huv y.2), hw1 u hu]
                      by_cases hun : u < xn s
                      · rw [if_pos hun, if_pos hun]
                        by_cases hlt : u < v
                        · rw [if_pos hlt, if_pos (by omega)]
                        · rw [if_neg hlt, if_neg (by omega)]
                      · rw [if_neg hun, if_neg hun]
            refine inner (xn s) 0 M' _ _ (by omega) hx' hz' fun u hu => ?_
            rw [hw u hu]
            by_cases hun : u < xn s
            · rw [if_pos hun, if_pos hun, if_neg (by omega)]
            · rw [if_neg hun, if_neg hun]
          · have hone := (e5_0 im).mp (Classical.not_not.mp z)
            have hlen : (xes s).length = 1 := by
              rcases Nat.lt_or_ge 1 (xes s).length with hlt | hge
              · exfalso
                obtain ⟨j, hj, hji⟩ : ∃ j, j < (xes s).length ∧ i ≠ j := by
                  by_cases h0 : i = 0
                  · exact ⟨1, by omega, by omega⟩
                  · exact ⟨0, by omega, h0⟩
                refine ndv_ald hnd hil hj hji ?_
                rw [hone]
                exact ⟨Nat.zero_le _, Nat.zero_le _, Nat.zero_le _, Nat.zero_le _⟩
              · omega
            have hi0 : i = 0 := by omega
            rw [hi0] at hone
            exact fin 0 M' hx' hz' (by rw [astairs_1 hlen hone hn.1]; rfl)
    have init : ∀ (n v : Nat) (M' : zM) (o2 o3 o4 o5 : Option Value), v + n = 4 → rX M' s → zfm M M' → (∀ u, u < v → zI M' 1535 u = eow (if u < xn s then none else some 1)) → wX8_stairs d (fun r M2 => ∃ x : Int32, r = [.int x] ∧ P x M2) 7 [some (.ref 1529), some (.int (nI v)), o2, o3, o4, o5] [] M' := by
      intro n
      induction n with
      | zero =>
        intro v M' o2 o3 o4 o5 hv hx' hz' hw
        refine sg_X8_stairs_7 _ _ _ _ _ _ _ ⟨fun _ => sg_X8_stairs_23 _ _ _ _ _ _ _ (els (xes s).length 0 M' _ _ _ _ (by omega) hx' hz' fun u hu => ?_), fun z => absurd (by rw [show v = 4 by omega]; exact Int32.le_refl _) z⟩
        rw [hw u (by omega)]
        rfl
      | succ n ih =>
        intro v M' o2 o3 o4 o5 hv hx' hz' hw
        obtain ⟨s16, ⟨-, -, -, -, -, r18, -⟩, -, -, s5, -⟩ := id hx'.1.1
        have f0 := hx'.2.1.1
        have next : ∀ (x : Int32), x = eow (if v < xn s then none else some 1) → ∀ (o2 o3 o4 o5 : Option Value), wX8_stairs d (fun r M2 => ∃ x : Int32, r = [.int x] ∧ P x M2) 7 [some (.ref 1529), some (.int (nI v + 1)), o2, o3, o4, o5] [] (zuI M' 1535 v x) := fun x hxe o2 o3 o4 o5 => by
          rw [nI_1]
          have hfr : rfr TN FN GA M' (zuI M' 1535 v x) := rfr_G rfl (by omega)
          refine ih (v + 1) _ _ _ _ _ (by omega) (rX_fr hfr (fun _ z => z.elim) FN_11 (fun z => by unfold GA at z; omega) hx') (zfm_tr hz' (zfm_of hfr)) fun u hu => ?_
          by_cases huv : u = v
          · rw [zI_uI, if_pos ⟨rfl, huv⟩, hxe, huv]
          · rw [zI_uI, if_neg (fun y => huv y.2)]
            exact hw u (by omega)
        refine sg_X8_stairs_7 _ _ _ _ _ _ _ ⟨fun z => ?_, fun _ => ⟨s16, s16, ?_⟩⟩
        · have := (nI_leI (a := 4) (by omega) (by omega)).mp z
          omega
        · rw [f0, r18, cl_n (by omega)]
          refine ⟨fun z => ⟨by rw [s5], by rw [s5]; exact zin_n (by omega) (by omega), ?_⟩, fun z => ⟨by rw [s5], by rw [s5]; exact zin_n (by omega) (by omega), ?_⟩⟩
          · have z := (nI_leI (by omega) (by omega)).mp z
            intro M1 v1
            exact next 1 (by rw [if_neg (by omega)]; rfl) _ _ _ _
          · have z : ¬ xn s ≤ v := fun y => z ((nI_leI (by omega) (by omega)).mpr y)
            intro M1 v1
            exact next (-1) (by rw [if_pos (by omega)]; rfl) _ _ _ _
    exact init 4 0 M _ _ _ _ (by omega) hx zfm_rf fun u hu => absurd hu (Nat.not_lt_zero _)
  · have hh : xhs s = false := eB_0.mp (by rw [← f9]; exact Classical.not_not.mp c)
    rw [if_neg (by rw [hh]; decide)] at h
    exact h M hx zfm_rf
