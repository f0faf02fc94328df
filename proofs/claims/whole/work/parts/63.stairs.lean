/-! STAIRS, in the class -/
def mpw : Nat → Nat → aM
  | 0, x => (x, 0, 0, 0)
  | 1, x => (0, x, 0, 0)
  | 2, x => (0, 0, x, 0)
  | _, x => (0, 0, 0, x)
def awl (es : List aE) (v : Nat) : Nat → Option Nat
  | 0 => none
  | i + 1 => if ald es i = mpw v (aex (ald es i) v) then (match awl es v i with
      | none => some (aex (ald es i) v)
      | some y => if aex (ald es i) v < y then some (aex (ald es i) v) else some y) else awl es v i
def awall (es : List aE) (nv v : Nat) : Option Nat := if v < nv then awl es v es.length else some 1
def ahgt (es : List aE) (a b c w3 : Nat) : Nat → Nat
  | 0 => w3
  | i + 1 => if mdv ((ald es i).1, (ald es i).2.1, (ald es i).2.2.1, 0) (a, b, c, 0) = true then (if (ald es i).2.2.2 < ahgt es a b c w3 i then (ald es i).2.2.2 else ahgt es a b c w3 i) else ahgt es a b c w3 i
def asum (f : Nat → Nat) : Nat → Nat
  | 0 => 0
  | n + 1 => asum f n + f n
def astot (es : List aE) (w0 w1 w2 w3 : Nat) : Nat := asum (fun a => asum (fun b => asum (fun c => ahgt es a b c w3 es.length) w2) w1) w0
def astairs (es : List aE) (nv : Nat) : Option Nat := match awall es nv 0, awall es nv 1, awall es nv 2, awall es nv 3 with
  | some w0, some w1, some w2, some w3 => some (astot es w0 w1 w2 w3)
  | _, _, _, _ => none
def eow : Option Nat → Int32
  | none => -1
  | some x => nI x
theorem shl8 {x : Nat} (hx : x ≤ 30) : ∀ v, v < 4 → nI x <<< ((8 * nI v) &&& 31) = e8 (mpw v x)
  | 0, _ => by rw [pk_shlN _ 0 (by decide) (by omega)]; show nI _ = nI (x + 256 * 0 + 65536 * 0 + 16777216 * 0); congr 1; omega
  | 1, _ => by rw [pk_shlN _ 8 (by decide) (by omega)]; show nI _ = nI (0 + 256 * x + 65536 * 0 + 16777216 * 0); congr 1; omega
  | 2, _ => by rw [pk_shlN _ 16 (by decide) (by omega)]; show nI _ = nI (0 + 256 * 0 + 65536 * x + 16777216 * 0); congr 1; omega
  | 3, _ => by rw [pk_shlN _ 24 (by decide) (by omega)]; show nI _ = nI (0 + 256 * 0 + 65536 * 0 + 16777216 * x); congr 1; omega
theorem aex_ok {m : aM} (h : mok m) (v : Nat) : aex m v ≤ 30 := by
  unfold mok at h
  unfold aex
  split <;> omega
theorem mpw_ok {v x : Nat} (h : x ≤ 30) : mok (mpw v x) := by
  unfold mok mpw
  split <;> (dsimp only; omega)
theorem awl_ok {k sh : Nat} {es : List aE} (hk : iok k sh es) {v : Nat} : ∀ {i x : Nat}, awl es v i = some x → x ≤ 30
  | 0, x, h => by cases h
  | i + 1, x, h => by
    have hx := aex_ok (iok_mok hk i) v
    unfold awl at h
    split at h
    · split at h
      · cases h; exact hx
      · rename_i y hy
        split at h
        · cases h; exact hx
        · cases h; exact awl_ok hk hy
    · exact awl_ok hk h
theorem awall_ok {k sh : Nat} {es : List aE} (hk : iok k sh es) {nv v x : Nat} (h : awall es nv v = some x) : x ≤ 30 := by
  unfold awall at h
  split at h
  · exact awl_ok hk h
  · cases h; omega
theorem sp_wall {d H o w k sh v nv : Nat} {M : zM} {eid : Nat → Nat} {es : List aE} {P : Int32 → zM → Prop} (hd : 2 ≤ d) (hI : ist M H o w eid) (hc : icn M H sh es.length) (hE : iel M eid k es) (hk : iok k sh es) (hv : v < 4) (hnv : nv ≤ 4) (h : P (eow (awall es nv v)) M) : ycI d nX3_wall [.ref H, .int (nI v), .int (nI nv)] M P := by
  obtain ⟨d, rfl, he⟩ := dS hd
  have hl := hc.2.2
  have s := hI.1.1
  have hr1 := hI.1.2.2.1
  have loop : ∀ (n i : Nat) (o2 o5 o6 : Option Value), i + n = es.length → v < nv → wX3_wall d (fun r M2 => ∃ x : Int32, r = [.int x] ∧ P x M2) 9 [some (.ref H), some (.int (nI v)), o2, some (.int (eow (awl es v i))), some (.int (nI i)), o5, o6] [] M := by
    intro n
    induction n with
    | zero =>
      intro i o2 o5 o6 hi hvn
      have e : awall es nv v = awl es v i := by
        unfold awall
        rw [if_pos hvn, show i = es.length by omega]
      rw [e] at h
      exact sg_X3_wall_9 _ _ _ _ _ _ _ _ ⟨s, fun _ => ⟨_, rfl, h⟩, fun c => absurd (by rw [hc.1, show i = es.length by omega]; exact Int32.le_refl _) c⟩
    | succ n ih =>
      intro i o2 o5 o6 hi hvn
      have hil : i < es.length := by omega
      have ci := cl_n (n := i) (by omega)
      have hRi := hI.2.1.2 i (by omega)
      have hm := iok_mok hk i
      have hx := aex_ok hm v
      have stp : awl es v (i + 1) = if ald es i = mpw v (aex (ald es i) v) then (match awl es v i with
        | none => some (aex (ald es i) v)
        | some y => if aex (ald es i) v < y then some (aex (ald es i) v) else some y) else awl es v i := rfl
      have hyy : ∀ y, awl es v i = some y → y ≤ 30 := fun y hy => awl_ok hk hy
      refine sg_X3_wall_9 _ _ _ _ _ _ _ _ ⟨s, fun c => ?_, fun _ => ⟨s, by rw [hr1, hI.2.1.1], by rw [hr1, hI.2.1.1]; exact zin_n (by omega) (by omega), by rw [hr1, ci, hRi.1]; exact hRi.2.1, ?_⟩⟩
      · rw [hc.1] at c
        have := (nI_leI (by omega) (by omega)).mp c
        omega
      · rw [hr1, ci, hRi.1]
        refine sp_ld (by omega) hI hE hk (by omega) hil (sp_exponent (by omega) (mok_by hm) hv ?_)
        rw [shl8 hx v hv]
        refine ⟨fun c => ?_, fun c => ?_⟩
        · rw [if_neg (fun z => c (congrArg e8 z))] at stp
          intro v4
          rw [show v4 = nI (i + 1) from nI_1 i, ← stp]
          exact ih (i + 1) _ _ _ (by omega) hvn
        · rw [if_pos (e8_inj hm (mpw_ok hx) (Classical.not_not.mp c))] at stp
          cases hw : awl es v i with
          | none =>
            rw [hw] at stp
            refine ⟨fun _ => ?_, fun z => absurd (show (-1 : Int32) < 0 by decide) z⟩
            intro v4
            rw [show v4 = nI (i + 1) from nI_1 i, show nI (aex (ald es i) v) = eow (awl es v (i + 1)) by rw [stp]; rfl]
            exact ih (i + 1) _ _ _ (by omega) hvn
          | some y =>
            have hy := hyy y hw
            rw [hw] at stp
            have stp : awl es v (i + 1) = if aex (ald es i) v < y then some (aex (ald es i) v) else some y := stp
            refine ⟨fun z => absurd z (nI_pos (by omega)), fun _ => ⟨fun c2 => ?_, fun c2 => ?_⟩⟩
            · have c2 := (nI_leI (by omega) (by omega)).mp c2
              rw [if_neg (by omega)] at stp
              intro v4
              rw [show v4 = nI (i + 1) from nI_1 i, ← stp]
              exact ih (i + 1) _ _ _ (by omega) hvn
            · have c2 : ¬ y ≤ aex (ald es i) v := fun z => c2 ((nI_leI (by omega) (by omega)).mpr z)
              rw [if_pos (by omega)] at stp
              intro v4
              rw [show v4 = nI (i + 1) from nI_1 i, show nI (aex (ald es i) v) = eow (awl es v (i + 1)) by rw [stp]; rfl]
              exact ih (i + 1) _ _ _ (by omega) hvn
  refine en_X3_wall _ _ _ M (sg_X3_wall_0 _ _ _ M ⟨fun c => ?_, fun c => ⟨_, rfl, ?_⟩⟩)
  · have c := (nI_ltI (by omega) (by omega)).mp c
    intro v3
    exact loop es.length 0 _ _ _ (by omega) c
  · have c : ¬ v < nv := fun z => c ((nI_ltI (by omega) (by omega)).mpr z)
    unfold awall at h
    rw [if_neg c] at h
    exact h
theorem ahgt_le {es : List aE} {a b c w3 : Nat} : ∀ {i : Nat}, ahgt es a b c w3 i ≤ w3
  | 0 => Nat.le_refl _
  | i + 1 => by
    have := ahgt_le (es := es) (a := a) (b := b) (c := c) (w3 := w3) (i := i)
    unfold ahgt
    split
    · split <;> omega
    · exact this
theorem and24 {m : aM} (h : mok m) : (e8 m &&& 16777215) = e8 (m.1, m.2.1, m.2.2.1, 0) := by
  have hl := c8_lt' h
  unfold e8
  rw [pk_andN (by omega) 24 (by decide)]
  congr 1
  unfold mok at h
  unfold c8
  dsimp only
  omega
theorem sp_height {d H o w k sh a b c w3 : Nat} {M : zM} {eid : Nat → Nat} {es : List aE} {P : Int32 → zM → Prop} (hd : 2 ≤ d) (hI : ist M H o w eid) (hc : icn M H sh es.length) (hE : iel M eid k es) (hk : iok k sh es) (ha : a ≤ 30) (hb : b ≤ 30) (hcc : c ≤ 30) (hw : w3 ≤ 30) (h : P (nI (ahgt es a b c w3 es.length)) M) : ycI d nX3_height [.ref H, .int (e8 (a, b, c, 0)), .int (nI w3)] M P := by
  obtain ⟨d, rfl, he⟩ := dS hd
  have hl := hc.2.2
  have s := hI.1.1
  have hr1 := hI.1.2.2.1
  have hmg : mok (a, b, c, 0) := ⟨ha, hb, hcc, Nat.zero_le _⟩
  have loop : ∀ (n i : Nat) (o2 o5 : Option Value), i + n = es.length → wX3_height d (fun r M2 => ∃ x : Int32, r = [.int x] ∧ P x M2) 4 [some (.ref H), some (.int (e8 (a, b, c, 0))), o2, some (.int (nI (ahgt es a b c w3 i))), some (.int (nI i)), o5] [] M := by
    intro n
    induction n with
    | zero =>
      intro i o2 o5 hi
      rw [show es.length = i by omega] at h
      exact sg_X3_height_4 _ _ _ _ _ _ _ ⟨s, fun _ => ⟨_, rfl, h⟩, fun c => absurd (by rw [hc.1, show i = es.length by omega]; exact Int32.le_refl _) c⟩
    | succ n ih =>
      intro i o2 o5 hi
      have hil : i < es.length := by omega
      have ci := cl_n (n := i) (by omega)
      have hRi := hI.2.1.2 i (by omega)
      have hm := iok_mok hk i
      have hm' : mok ((ald es i).1, (ald es i).2.1, (ald es i).2.2.1, 0) := ⟨hm.1, hm.2.1, hm.2.2.1, Nat.zero_le _⟩
      have hle := ahgt_le (es := es) (a := a) (b := b) (c := c) (w3 := w3) (i := i)
      have stp : ahgt es a b c w3 (i + 1) = if mdv ((ald es i).1, (ald es i).2.1, (ald es i).2.2.1, 0) (a, b, c, 0) = true then (if (ald es i).2.2.2 < ahgt es a b c w3 i then (ald es i).2.2.2 else ahgt es a b c w3 i) else ahgt es a b c w3 i := rfl
      refine sg_X3_height_4 _ _ _ _ _ _ _ ⟨s, fun c => ?_, fun _ => ⟨s, by rw [hr1, hI.2.1.1], by rw [hr1, hI.2.1.1]; exact zin_n (by omega) (by omega), by rw [hr1, ci, hRi.1]; exact hRi.2.1, ?_⟩⟩
      · rw [hc.1] at c
        have := (nI_leI (by omega) (by omega)).mp c
        omega
      · rw [hr1, ci, hRi.1]
        refine sp_ld (by omega) hI hE hk (by omega) hil ?_
        rw [and24 hm]
        refine sp_divides (by omega) hm' hmg (fun hv => ⟨fun z => absurd z (by decide), fun _ => ?_⟩) (fun hv => ⟨fun _ => ?_, fun z => absurd rfl z⟩)
        · rw [if_pos (mdv_iff.mpr hv)] at stp
          refine sp_exponent (v := 3) (by omega) (mok_by hm) (by omega) ?_
          intro v3 v4
          have e3 : v3 = nI (ahgt es a b c w3 (i + 1)) := by
            have hx3 : (ald es i).2.2.2 ≤ 30 := hm.2.2.2
            rw [show v3 = if nI (ald es i).2.2.2 < nI (ahgt es a b c w3 i) then nI (ald es i).2.2.2 else nI (ahgt es a b c w3 i) from rfl, stp]
            by_cases hz : (ald es i).2.2.2 < ahgt es a b c w3 i
            · rw [if_pos hz, if_pos ((nI_ltI (by omega) (by omega)).mpr hz)]
            · rw [if_neg hz, if_neg (fun y => hz ((nI_ltI (by omega) (by omega)).mp y))]
          rw [e3, show v4 = nI (i + 1) from nI_1 i]
          exact ih (i + 1) _ _ (by omega)
        · rw [if_neg (fun z => hv (mdv_iff.mp z))] at stp
          intro v4
          rw [show v4 = nI (i + 1) from nI_1 i, ← stp]
          exact ih (i + 1) _ _ (by omega)
  exact en_X3_height _ _ _ M (sg_X3_height_0 _ _ _ M (loop es.length 0 _ _ (by omega)))
theorem pk3 {a b c : Nat} (ha : a ≤ 30) (hb : b ≤ 30) (hc : c ≤ 30) : ((nI a ||| (nI b <<< ((8 : Int32) &&& 31))) ||| (nI c <<< ((16 : Int32) &&& 31))) = e8 (a, b, c, 0) := by
  rw [pk_shlN _ 8 (by decide) (by omega), pk_shlN _ 16 (by decide) (by omega), tn_inj, Int32.toBitVec_or, Int32.toBitVec_or, BitVec.toNat_or, BitVec.toNat_or, pk_tn (by omega), pk_tn (by omega), pk_tn (by omega), tn_e8 (by unfold mby; dsimp only; omega)]
  rw [show a = a + 256 * 0 by omega, show b * 2 ^ 8 = 0 + 256 * b by omega, show c * 2 ^ 16 = 0 + 256 * (256 * c) by omega, or2 (by omega) (by omega), or2 (by simp; omega) (by omega)]
  have e1 : b ||| 256 * c = b + 256 * c := by
    have := or2 (a := b) (a' := 0) (x := 0) (x' := c) (by omega) (by omega)
    simpa using this
  have e2 : a ||| 0 ||| 0 = a := by simp
  have e3 : 0 ||| b = b := by simp
  rw [e3, e1, e2]
  unfold c8
  dsimp only
  omega
theorem sp_countBelow {d H o w k sh nv : Nat} {M : zM} {eid : Nat → Nat} {es : List aE} {P : Int32 → zM → Prop} (hd : 3 ≤ d) (hI : ist M H o w eid) (hc : icn M H sh es.length) (hE : iel M eid k es) (hk : iok k sh es) (hnv : nv ≤ 4) (h : P (match astairs es nv with
    | none => -8
    | some x => nI x) M) : ycI d nX3_countBelow [.ref H, .int (nI nv)] M P := by
  obtain ⟨d, rfl, he⟩ := dS hd
  have s := hI.1.1
  have hm1 : (-1 : Int32) < 0 := by decide
  have loops : ∀ w0 w1 w2 w3, w0 ≤ 30 → w1 ≤ 30 → w2 ≤ 30 → w3 ≤ 30 → P (nI (astot es w0 w1 w2 w3)) M → ∀ o1 o8 o9 : Option Value, wX3_countBelow d (fun r M2 => ∃ x : Int32, r = [.int x] ∧ P x M2) 34 [some (.ref H), o1, some (.int (nI w0)), some (.int (nI w1)), some (.int (nI w2)), some (.int (nI w3)), some (.int 0), some (.int 0), o8, o9] [] M := by
    intro w0 w1 w2 w3 h0 h1 h2 h3 hP
    have la : ∀ (n a : Nat) (o1 o8 o9 : Option Value), a + n = w0 → wX3_countBelow d (fun r M2 => ∃ x : Int32, r = [.int x] ∧ P x M2) 34 [some (.ref H), o1, some (.int (nI w0)), some (.int (nI w1)), some (.int (nI w2)), some (.int (nI w3)), some (.int (nI (asum (fun a => asum (fun b => asum (fun c => ahgt es a b c w3 es.length) w2) w1) a))), some (.int (nI a)), o8, o9] [] M := by
      intro n
      induction n with
      | zero =>
        intro a o1 o8 o9 ha
        refine sg_X3_countBelow_34 _ _ _ _ _ _ _ _ _ _ _ ⟨fun _ => ⟨_, rfl, ?_⟩, fun c => absurd (by rw [show a = w0 by omega]; exact Int32.le_refl _) c⟩
        rw [show a = w0 by omega]
        exact hP
      | succ n iha =>
        intro a o1 o8 o9 ha
        have lb : ∀ (n b : Nat) (o1 o9 : Option Value), b + n = w1 → wX3_countBelow d (fun r M2 => ∃ x : Int32, r = [.int x] ∧ P x M2) 39 [some (.ref H), o1, some (.int (nI w0)), some (.int (nI w1)), some (.int (nI w2)), some (.int (nI w3)), some (.int (nI (asum (fun a => asum (fun b => asum (fun c => ahgt es a b c w3 es.length) w2) w1) a + asum (fun b => asum (fun c => ahgt es a b c w3 es.length) w2) b))), some (.int (nI a)), some (.int (nI b)), o9] [] M := by
          intro n
          induction n with
          | zero =>
            intro b o1 o9 hb
            refine sg_X3_countBelow_39 _ _ _ _ _ _ _ _ _ _ _ ⟨fun _ => ?_, fun c => absurd (by rw [show b = w1 by omega]; exact Int32.le_refl _) c⟩
            intro v7
            rw [show v7 = nI (a + 1) from nI_1 a, show b = w1 by omega]
            exact iha (a + 1) _ _ _ (by omega)
          | succ n ihb =>
            intro b o1 o9 hb
            have lc : ∀ (n c : Nat) (o1 : Option Value), c + n = w2 → wX3_countBelow d (fun r M2 => ∃ x : Int32, r = [.int x] ∧ P x M2) 44 [some (.ref H), o1, some (.int (nI w0)), some (.int (nI w1)), some (.int (nI w2)), some (.int (nI w3)), some (.int (nI (asum (fun a => asum (fun b => asum (fun c => ahgt es a b c w3 es.length) w2) w1) a + asum (fun b => asum (fun c => ahgt es a b c w3 es.length) w2) b + asum (fun c => ahgt es a b c w3 es.length) c))), some (.int (nI a)), some (.int (nI b)), some (.int (nI c))] [] M := by
              intro n
              induction n with
              | zero =>
                intro c o1 hc
                refine sg_X3_countBelow_44 _ _ _ _ _ _ _ _ _ _ _ ⟨fun _ => ?_, fun z => absurd (by rw [show c = w2 by omega]; exact Int32.le_refl _) z⟩
                intro v8
                rw [show v8 = nI (b + 1) from nI_1 b, show c = w2 by omega, Nat.add_assoc]
                exact ihb (b + 1) _ _ (by omega)
              | succ n ihc =>
                intro c o1 hcn
                refine sg_X3_countBelow_44 _ _ _ _ _ _ _ _ _ _ _ ⟨fun z => ?_, fun _ => ⟨s, ?_⟩⟩
                · have := (nI_leI (by omega) (by omega)).mp z
                  omega
                · rw [pk3 (by omega) (by omega) (by omega)]
                  refine sp_height (by omega) hI hc hE hk (by omega) (by omega) (by omega) h3 ?_
                  intro v6 v9
                  have e6 : v6 = nI (asum (fun a => asum (fun b => asum (fun c => ahgt es a b c w3 es.length) w2) w1) a + asum (fun b => asum (fun c => ahgt es a b c w3 es.length) w2) b + asum (fun c => ahgt es a b c w3 es.length) (c + 1)) := (nI_add _ _).trans (congrArg nI (Nat.add_assoc _ _ _))
                  rw [e6, show v9 = nI (c + 1) from nI_1 c]
                  exact ihc (c + 1) _ (by omega)
            refine sg_X3_countBelow_39 _ _ _ _ _ _ _ _ _ _ _ ⟨fun z => ?_, fun _ => ?_⟩
            · have := (nI_leI (by omega) (by omega)).mp z
              omega
            · exact lc w2 0 _ (by omega)
        refine sg_X3_countBelow_34 _ _ _ _ _ _ _ _ _ _ _ ⟨fun z => ?_, fun _ => ?_⟩
        · have := (nI_leI (by omega) (by omega)).mp z
          omega
        · exact lb w1 0 _ _ (by omega)
    intro o1 o8 o9
    exact la w0 0 _ _ _ (by omega)
  refine en_X3_countBelow _ _ M (sg_X3_countBelow_0 _ _ M ⟨s, sp_wall (v := 0) (by omega) hI hc hE hk (by omega) hnv ⟨s, sp_wall (v := 1) (by omega) hI hc hE hk (by omega) hnv ⟨s, sp_wall (v := 2) (by omega) hI hc hE hk (by omega) hnv ⟨s, sp_wall (v := 3) (by omega) hI hc hE hk (by omega) hnv ?_⟩⟩⟩⟩)
  unfold astairs at h
  have b0 : ∀ x, awall es nv 0 = some x → x ≤ 30 := fun x hx => awall_ok hk hx
  have b1 : ∀ x, awall es nv 1 = some x → x ≤ 30 := fun x hx => awall_ok hk hx
  have b2 : ∀ x, awall es nv 2 = some x → x ≤ 30 := fun x hx => awall_ok hk hx
  have b3 : ∀ x, awall es nv 3 = some x → x ≤ 30 := fun x hx => awall_ok hk hx
  generalize awall es nv 0 = x0 at *
  generalize awall es nv 1 = x1 at *
  generalize awall es nv 2 = x2 at *
  generalize awall es nv 3 = x3 at *
  cases x0 with
  | none => exact ⟨fun _ => ⟨_, rfl, h⟩, fun z => absurd hm1 z⟩
  | some w0 =>
    have c0 := b0 w0 rfl
    refine ⟨fun z => absurd z (nI_pos (by omega)), fun _ => ?_⟩
    cases x1 with
    | none => exact ⟨fun _ => ⟨_, rfl, h⟩, fun z => absurd hm1 z⟩
    | some w1 =>
      have c1 := b1 w1 rfl
      refine ⟨fun z => absurd z (nI_pos (by omega)), fun _ => ?_⟩
      cases x2 with
      | none => exact ⟨fun _ => ⟨_, rfl, h⟩, fun z => absurd hm1 z⟩
      | some w2 =>
        have c2 := b2 w2 rfl
        refine ⟨fun z => absurd z (nI_pos (by omega)), fun _ => ?_⟩
        cases x3 with
        | none => exact ⟨fun z => absurd z (by decide), fun _ => ⟨_, rfl, h⟩⟩
        | some w3 =>
          have c3 := b3 w3 rfl
          exact ⟨fun _ => loops w0 w1 w2 w3 c0 c1 c2 c3 h _ _ _, fun z => absurd (nI_pos' (by omega)) z⟩
def awhole (es : List aE) : Prop := es.length = 1 ∧ ald es 0 = mone
theorem sp_isWhole {d H o w k sh : Nat} {M : zM} {eid : Nat → Nat} {es : List aE} {P : Int32 → zM → Prop} (hd : 2 ≤ d) (hI : ist M H o w eid) (hc : icn M H sh es.length) (hE : iel M eid k es) (hk : iok k sh es) (h1 : awhole es → P 1 M) (h0 : ¬ awhole es → P 0 M) : ycI d nX3_isWhole [.ref H] M P := by
  obtain ⟨d, rfl, he⟩ := dS hd
  have s := hI.1.1
  have hr1 := hI.1.2.2.1
  have hl := hc.2.2
  have hR := hI.2.1.2 0 (by omega)
  have c0 : (0 : Int32).toNatClampNeg = 0 := by decide
  refine en_X3_isWhole _ M (sg_X3_isWhole_0 _ M ⟨s, fun c => ⟨Or.inl rfl, _, rfl, h0 fun z => c ?_⟩, fun c => ⟨s, by rw [hr1, hI.2.1.1], by rw [hr1, hI.2.1.1]; exact zin_n (j := 0) (by omega) (by omega), by rw [hr1, c0, hR.1]; exact hR.2.1, ?_⟩⟩)
  · rw [hc.1, z.1]; rfl
  · have c := Classical.not_not.mp c
    rw [hc.1] at c
    have c := (nI_eq (b := 1) (by omega) (by omega)).mp c
    rw [hr1, c0, hR.1]
    refine sp_ld (by omega) hI hE hk (by omega) (by omega) ⟨fun z => ⟨Or.inl rfl, _, rfl, h0 fun y => z (by rw [y.2]; rfl)⟩, fun z => ⟨Or.inr rfl, _, rfl, h1 ⟨c, e8_inj (iok_mok hk _) mone_ok (Classical.not_not.mp z)⟩⟩⟩
