/-! THE REFERENCE: how its memory holds polynomials; monomials -/
def c5 (m : aM) : Nat := m.1 + 32 * m.2.1 + 1024 * m.2.2.1 + 32768 * m.2.2.2
def e5 (m : aM) : Int32 := nI (c5 m)
theorem c5_lt {m : aM} (h : mok m) : c5 m < 1048576 := by unfold mok at h; unfold c5; omega
theorem e5_inj {a b : aM} (ha : mok a) (hb : mok b) (h : e5 a = e5 b) : a = b := by
  have h1 := c5_lt ha
  have h2 := c5_lt hb
  have h := (nI_eq (by omega) (by omega)).mp h
  obtain ⟨a0, a1, a2, a3⟩ := a
  obtain ⟨b0, b1, b2, b3⟩ := b
  unfold mok at ha hb
  unfold c5 at h
  dsimp only at ha hb h
  have : a0 = b0 ∧ a1 = b1 ∧ a2 = b2 ∧ a3 = b3 := by omega
  obtain ⟨rfl, rfl, rfl, rfl⟩ := this
  rfl
theorem e5_add {a b : aM} : e5 a + e5 b = e5 (madd a b) := by
  unfold e5
  rw [nI_add]
  congr 1
  unfold c5 madd
  dsimp only
  omega
theorem e5_sub {a b : aM} (h : mdvd b a) : e5 a - e5 b = e5 (msub a b) := by
  unfold mdvd at h
  unfold e5
  rw [pk_sub (by unfold c5; omega)]
  congr 1
  unfold c5 msub
  dsimp only
  omega
theorem e5_one : e5 mone = 0 := by decide
/-- places of the model -/
def mst (M : zM) : Prop := (zsh M 1529).1 = 16 ∧ (zR M 1529 3 = 1530 ∧ zR M 1529 4 = 1531 ∧ zR M 1529 5 = 1532 ∧ zR M 1529 6 = 1533 ∧ zR M 1529 15 = 1534 ∧ zR M 1529 18 = 1535 ∧ zR M 1529 23 = 1536 ∧ zR M 1529 27 = 1537) ∧ (zsh M 1530 = (2, 37200) ∧ zsh M 1531 = (2, 37200) ∧ zsh M 1532 = (2, 37200) ∧ zsh M 1533 = (2, 372)) ∧ zsh M 1534 = (2, 4) ∧ zsh M 1535 = (2, 4) ∧ zsh M 1536 = (4, 625) ∧ zsh M 1537 = (4, 25)
def rfr (T F G : Nat → Prop) (M M' : zM) : Prop := (∀ a, zsh M' a = zsh M a) ∧ zn M' = zn M ∧ zs M' = zs M ∧ (∀ a j, zR M' a j = zR M a j) ∧ (∀ a j, zL M' a j = zL M a j) ∧ (∀ a j, (a < 1529 ∨ (1533 < a ∧ ¬ G a)) → zI M' a j = zI M a j) ∧ (∀ j, ¬ F j → zI M' 1529 j = zI M 1529 j) ∧ (∀ x, ¬ T (x / 100) → zI M' 1530 x = zI M 1530 x ∧ zI M' 1531 x = zI M 1531 x ∧ zI M' 1532 x = zI M 1532 x) ∧ ∀ p, ¬ T p → zI M' 1533 p = zI M 1533 p
theorem rfr_rf {T F G : Nat → Prop} {M : zM} : rfr T F G M M := ⟨fun _ => rfl, rfl, rfl, fun _ _ => rfl, fun _ _ => rfl, fun _ _ _ => rfl, fun _ _ => rfl, fun _ _ => ⟨rfl, rfl, rfl⟩, fun _ _ => rfl⟩
theorem rfr_tr {T F G : Nat → Prop} {M1 M2 M3 : zM} (h1 : rfr T F G M1 M2) (h2 : rfr T F G M2 M3) : rfr T F G M1 M3 := by
  obtain ⟨a1, a2, a3, a4, a5, a6, a7, a8, a9⟩ := h1
  obtain ⟨b1, b2, b3, b4, b5, b6, b7, b8, b9⟩ := h2
  exact ⟨fun a => (b1 a).trans (a1 a), b2.trans a2, b3.trans a3, fun a j => (b4 a j).trans (a4 a j), fun a j => (b5 a j).trans (a5 a j), fun a j h => (b6 a j h).trans (a6 a j h), fun j h => (b7 j h).trans (a7 j h), fun x h => ⟨(b8 x h).1.trans (a8 x h).1, (b8 x h).2.1.trans (a8 x h).2.1, (b8 x h).2.2.trans (a8 x h).2.2⟩, fun p h => (b9 p h).trans (a9 p h)⟩
theorem rfr_up {T F G T' F' G' : Nat → Prop} {M M' : zM} (h : rfr T F G M M') (hT : ∀ p, T p → T' p) (hF : ∀ j, F j → F' j) (hG : ∀ a, G a → G' a) : rfr T' F' G' M M' := by
  obtain ⟨a1, a2, a3, a4, a5, a6, a7, a8, a9⟩ := h
  exact ⟨a1, a2, a3, a4, a5, fun a j h => a6 a j (h.imp id fun z => ⟨z.1, fun y => z.2 (hG a y)⟩), fun j h => a7 j fun z => h (hF j z), fun x h => a8 x fun z => h (hT _ z), fun p h => a9 p fun z => h (hT p z)⟩
theorem rfr_F {T F G : Nat → Prop} {M : zM} {j : Nat} {v : Int32} (h : F j) : rfr T F G M (zuI M 1529 j v) := ⟨fun _ => rfl, rfl, rfl, fun _ _ => rfl, fun _ _ => rfl, fun a i ha => by rw [zI_uI, if_neg (by omega)], fun i hi => (by rw [zI_uI, if_neg]; rintro ⟨-, rfl⟩; exact hi h), fun x _ => ⟨rfl, rfl, rfl⟩, fun p _ => rfl⟩
theorem rfr_0 {T F G : Nat → Prop} {M : zM} {x : Nat} {v : Int32} (h : T (x / 100)) : rfr T F G M (zuI M 1530 x v) := ⟨fun _ => rfl, rfl, rfl, fun _ _ => rfl, fun _ _ => rfl, fun a i ha => by rw [zI_uI, if_neg (by omega)], fun i _ => by rw [zI_uI, if_neg (by omega)], fun y hy => ⟨(by rw [zI_uI, if_neg]; rintro ⟨-, rfl⟩; exact hy h), by rw [zI_uI, if_neg (by omega)], by rw [zI_uI, if_neg (by omega)]⟩, fun p _ => by rw [zI_uI, if_neg (by omega)]⟩
theorem rfr_1 {T F G : Nat → Prop} {M : zM} {x : Nat} {v : Int32} (h : T (x / 100)) : rfr T F G M (zuI M 1531 x v) := ⟨fun _ => rfl, rfl, rfl, fun _ _ => rfl, fun _ _ => rfl, fun a i ha => by rw [zI_uI, if_neg (by omega)], fun i _ => by rw [zI_uI, if_neg (by omega)], fun y hy => ⟨by rw [zI_uI, if_neg (by omega)], (by rw [zI_uI, if_neg]; rintro ⟨-, rfl⟩; exact hy h), by rw [zI_uI, if_neg (by omega)]⟩, fun p _ => by rw [zI_uI, if_neg (by omega)]⟩
theorem rfr_2 {T F G : Nat → Prop} {M : zM} {x : Nat} {v : Int32} (h : T (x / 100)) : rfr T F G M (zuI M 1532 x v) := ⟨fun _ => rfl, rfl, rfl, fun _ _ => rfl, fun _ _ => rfl, fun a i ha => by rw [zI_uI, if_neg (by omega)], fun i _ => by rw [zI_uI, if_neg (by omega)], fun y hy => ⟨by rw [zI_uI, if_neg (by omega)], by rw [zI_uI, if_neg (by omega)], (by rw [zI_uI, if_neg]; rintro ⟨-, rfl⟩; exact hy h)⟩, fun p _ => by rw [zI_uI, if_neg (by omega)]⟩
theorem rfr_3 {T F G : Nat → Prop} {M : zM} {p : Nat} {v : Int32} (h : T p) : rfr T F G M (zuI M 1533 p v) := ⟨fun _ => rfl, rfl, rfl, fun _ _ => rfl, fun _ _ => rfl, fun a i ha => by rw [zI_uI, if_neg (by omega)], fun i _ => by rw [zI_uI, if_neg (by omega)], fun y hy => ⟨by rw [zI_uI, if_neg (by omega)], by rw [zI_uI, if_neg (by omega)], by rw [zI_uI, if_neg (by omega)]⟩, fun q hq => (by rw [zI_uI, if_neg]; rintro ⟨-, rfl⟩; exact hq h)⟩
theorem rfr_G {T F G : Nat → Prop} {M : zM} {a j : Nat} {v : Int32} (h : G a) (ha : 1533 < a) : rfr T F G M (zuI M a j v) := ⟨fun _ => rfl, rfl, rfl, fun _ _ => rfl, fun _ _ => rfl, fun b i hb => (by rw [zI_uI, if_neg]; rintro ⟨rfl, -⟩; rcases hb with hb | hb; · omega
                                                                                                                                                                                                        · exact hb.2 h), fun i _ => by rw [zI_uI, if_neg (by omega)], fun y hy => ⟨by rw [zI_uI, if_neg (by omega)], by rw [zI_uI, if_neg (by omega)], by rw [zI_uI, if_neg (by omega)]⟩, fun q hq => by rw [zI_uI, if_neg (by omega)]⟩
theorem mst_fr {T F G : Nat → Prop} {M M' : zM} (h : rfr T F G M M') (hm : mst M) : mst M' := by
  obtain ⟨h1, ⟨r3, r4, r5, r6, r15, r18, r23, r27⟩, ⟨s0, s1, s2, s3⟩, s4, s5, s6, s7⟩ := hm
  have R := h.2.2.2.1
  exact ⟨by rw [h.1]; exact h1, ⟨by rw [R]; exact r3, by rw [R]; exact r4, by rw [R]; exact r5, by rw [R]; exact r6, by rw [R]; exact r15, by rw [R]; exact r18, by rw [R]; exact r23, by rw [R]; exact r27⟩, ⟨by rw [h.1]; exact s0, by rw [h.1]; exact s1, by rw [h.1]; exact s2, by rw [h.1]; exact s3⟩, by rw [h.1]; exact s4, by rw [h.1]; exact s5, by rw [h.1]; exact s6, by rw [h.1]; exact s7⟩
/-- a polynomial of the reference -/
def qdy (M : zM) (p : Nat) (L : aP) : Prop := zI M 1533 p = nI L.length ∧ ∀ j t, L[j]? = some t → zI M 1530 (100 * p + j) = Int32.ofInt t.1.1 ∧ zI M 1531 (100 * p + j) = Int32.ofInt t.1.2 ∧ zI M 1532 (100 * p + j) = e5 t.2
theorem qdy_fr {T F G : Nat → Prop} {M M' : zM} {p : Nat} {L : aP} (h : rfr T F G M M') (hp : ¬ T p) (hl : L.length ≤ 100) (hq : qdy M p L) : qdy M' p L := by
  obtain ⟨a1, a2, a3, a4, a5, a6, a7, a8, a9⟩ := h
  refine ⟨by rw [a9 p hp]; exact hq.1, fun j t hj => ?_⟩
  have hjl := (List.getElem?_eq_some_iff.mp hj).1
  have h8 := a8 (100 * p + j) (by rw [show (100 * p + j) / 100 = p by omega]; exact hp)
  rw [h8.1, h8.2.1, h8.2.2]
  exact hq.2 j t hj
def mvk (M : zM) (nv k : Nat) : Prop := zI M 1529 1 = nI nv ∧ zI M 1529 2 = nI k ∧ k ≤ 2 ∧ 1 ≤ nv ∧ nv ≤ 4
theorem mvk_fr {T F G : Nat → Prop} {M M' : zM} {nv k : Nat} (h : rfr T F G M M') (h1 : ¬ F 1) (h2 : ¬ F 2) (hm : mvk M nv k) : mvk M' nv k := by
  unfold mvk at *
  rw [h.2.2.2.2.2.2.1 1 h1, h.2.2.2.2.2.2.1 2 h2]
  exact hm
/-- numbers made in passing: whether all is FULL, and a fraction -/
def FF (j : Nat) : Prop := j = 11 ∨ j = 16 ∨ j = 17
def GN (_ : Nat) : Prop := False
theorem sp_rexp {d : Nat} {M : zM} {m : aM} {v : Nat} {P : Int32 → zM → Prop} (hd : 1 ≤ d) (hm : mok m) (hv : v < 4) (h : P (nI (aex m v)) M) : ycI d nX8_exponent [.int (e5 m), .int (nI v)] M P := by
  obtain ⟨d, rfl, he⟩ := dS hd
  have hl := c5_lt hm
  have key : ∀ (s : Int32) (k : Nat), (s.toBitVec.smod 32).toNat = k → (e5 m >>> s) &&& 31 = nI (c5 m / 2 ^ k % 2 ^ 5) := fun s k hs => by
    unfold e5
    rw [pk_shrN (by omega) s k hs, pk_andN (Nat.lt_of_le_of_lt (Nat.div_le_self _ _) (by omega)) 5 (by decide)]
  have e : (e5 m >>> ((5 * nI v) &&& 31)) &&& 31 = nI (aex m v) := by
    unfold mok at hm
    match v, hv with
    | 0, _ => rw [key _ 0 (by decide)]; show nI _ = nI m.1; congr 1; unfold c5; omega
    | 1, _ => rw [key _ 5 (by decide)]; show nI _ = nI m.2.1; congr 1; unfold c5; omega
    | 2, _ => rw [key _ 10 (by decide)]; show nI _ = nI m.2.2.1; congr 1; unfold c5; omega
    | 3, _ => rw [key _ 15 (by decide)]; show nI _ = nI m.2.2.2; congr 1; unfold c5; omega
  refine en_X8_exponent _ _ M (sg_X8_exponent_0 _ _ M ⟨_, rfl, ?_⟩)
  rw [e]
  exact h
theorem vin_sum {nv : Nat} {m : aM} (h : vin nv m) (h1 : 1 ≤ nv) (h4 : nv ≤ 4) : asum (aex m) nv = mdeg m := by
  obtain ⟨-, v1, v2, v3⟩ := h
  unfold mdeg
  match nv, h1, h4 with
  | 1, _, _ => rw [v1 (by omega), v2 (by omega), v3 (by omega)]; show 0 + m.1 = _; omega
  | 2, _, _ => rw [v2 (by omega), v3 (by omega)]; show 0 + m.1 + m.2.1 = _; omega
  | 3, _, _ => rw [v3 (by omega)]; show 0 + m.1 + m.2.1 + m.2.2.1 = _; omega
  | 4, _, _ => show 0 + m.1 + m.2.1 + m.2.2.1 + m.2.2.2 = _; omega
theorem sp_rsum {d nv k : Nat} {M : zM} {m : aM} {P : Int32 → zM → Prop} (hd : 2 ≤ d) (hM : mst M) (hv : mvk M nv k) (hm : mok m) (hi : vin nv m) (h : P (nI (mdeg m)) M) : ycI d nX8_sum [.ref 1529, .int (e5 m)] M P := by
  obtain ⟨d, rfl, he⟩ := dS hd
  have loop : ∀ (n v : Nat), v + n = nv → wX8_sum d (fun r M2 => ∃ x : Int32, r = [.int x] ∧ P x M2) 4 [some (.ref 1529), some (.int (e5 m)), some (.int (nI (asum (aex m) v))), some (.int (nI v))] [] M := by
    intro n
    induction n with
    | zero =>
      intro v hvn
      refine sg_X8_sum_4 _ _ _ _ _ ⟨hM.1, fun _ => ⟨_, rfl, ?_⟩, fun c => absurd (by rw [hv.1, show v = nv by omega]; exact Int32.le_refl _) c⟩
      rw [show v = nv by omega, vin_sum hi hv.2.2.2.1 hv.2.2.2.2]
      exact h
    | succ n ih =>
      intro v hvn
      have := hv.2.2.2.2
      refine sg_X8_sum_4 _ _ _ _ _ ⟨hM.1, fun c => ?_, fun _ => sp_rexp (by omega) hm (by omega) ?_⟩
      · rw [hv.1] at c
        have := (nI_leI (by omega) (by omega)).mp c
        omega
      · intro v2 v3
        rw [show v2 = nI (asum (aex m) (v + 1)) from nI_add _ _, show v3 = nI (v + 1) from nI_1 v]
        exact ih (v + 1) (by omega)
  exact en_X8_sum _ _ M (sg_X8_sum_0 _ _ M (loop nv 0 (by omega)))
/-- how two monomials stand -/
def acmp (k : Nat) (a b : aM) : Int32 := if ark k a < ark k b then -1 else if ark k b < ark k a then 1 else 0
theorem acmp_lt {k : Nat} {a b : aM} (h : ark k a < ark k b) : acmp k a b = -1 := if_pos h
theorem acmp_gt {k : Nat} {a b : aM} (h : ark k b < ark k a) : acmp k a b = 1 := by unfold acmp; rw [if_neg (by omega), if_pos h]
theorem acmp_eq {k : Nat} {a : aM} : acmp k a a = 0 := by unfold acmp; rw [if_neg (by omega), if_neg (by omega)]
theorem ark_0 {a b : aM} (ha : mok a) (hb : mok b) {v : Nat} (hv : v < 4) (he : ∀ u, u < v → aex a u = aex b u) (hl : aex a v < aex b v) : ark 0 a < ark 0 b := by
  obtain ⟨a0, a1, a2, a3⟩ := a
  obtain ⟨b0, b1, b2, b3⟩ := b
  unfold mok at ha hb
  unfold ark
  dsimp only at ha hb ⊢
  rw [if_pos rfl, if_pos rfl]
  match v, hv with
  | 0, _ => have hl : a0 < b0 := hl; omega
  | 1, _ => have e0 : a0 = b0 := he 0 (by omega); have hl : a1 < b1 := hl; omega
  | 2, _ => have e0 : a0 = b0 := he 0 (by omega); have e1 : a1 = b1 := he 1 (by omega); have hl : a2 < b2 := hl; omega
  | 3, _ => have e0 : a0 = b0 := he 0 (by omega); have e1 : a1 = b1 := he 1 (by omega); have e2 : a2 = b2 := he 2 (by omega); have hl : a3 < b3 := hl; omega
theorem ark_deg {k : Nat} {a b : aM} (hk : k ≠ 0) (ha : mok a) (hb : mok b) (h0 : k = 1 ∨ a.1 = b.1) (hl : mdeg a < mdeg b) : ark k a < ark k b := by
  obtain ⟨a0, a1, a2, a3⟩ := a
  obtain ⟨b0, b1, b2, b3⟩ := b
  unfold mok at ha hb
  unfold mdeg at hl
  unfold ark
  dsimp only at ha hb h0 hl ⊢
  rw [if_neg hk, if_neg hk]
  by_cases h1 : k = 1
  · rw [if_pos h1, if_pos h1]
    omega
  · have h0 : a0 = b0 := by omega
    rw [if_neg h1, if_neg h1]
    omega
theorem ark_first {k : Nat} {a b : aM} (hk : k ≠ 0) (hk1 : k ≠ 1) (ha : mok a) (hb : mok b) (hl : a.1 < b.1) : ark k a < ark k b := by
  obtain ⟨a0, a1, a2, a3⟩ := a
  obtain ⟨b0, b1, b2, b3⟩ := b
  unfold mok at ha hb
  unfold ark
  dsimp only at ha hb hl ⊢
  rw [if_neg hk, if_neg hk, if_neg hk1, if_neg hk1]
  omega
theorem ark_rev {k : Nat} {a b : aM} (hk : k ≠ 0) (ha : mok a) (hb : mok b) (h0 : k = 1 ∨ a.1 = b.1) (hd : mdeg a = mdeg b) {v : Nat} (hv : v < 4) (he : ∀ u, v < u → u < 4 → aex a u = aex b u) (hl : aex b v < aex a v) : ark k a < ark k b := by
  obtain ⟨a0, a1, a2, a3⟩ := a
  obtain ⟨b0, b1, b2, b3⟩ := b
  unfold mok at ha hb
  unfold mdeg at hd
  unfold ark
  dsimp only at ha hb h0 hd ⊢
  rw [if_neg hk, if_neg hk]
  have key : (if k = 1 then 0 else a0 * 4194304) = (if k = 1 then 0 else b0 * 4194304) := by
    by_cases h1 : k = 1
    · rw [if_pos h1, if_pos h1]
    · rw [show a0 = b0 by omega]
  rw [key, hd]
  suffices hs : ∀ X Y : Nat, X + (Y + (30 - a3) * 1024 + (30 - a2) * 32 + (30 - a1)) < X + (Y + (30 - b3) * 1024 + (30 - b2) * 32 + (30 - b1)) from hs _ _
  intro X Y
  clear key
  match v, hv with
  | 0, _ => have e1 : a1 = b1 := he 1 (by omega) (by omega); have e2 : a2 = b2 := he 2 (by omega) (by omega); have e3 : a3 = b3 := he 3 (by omega) (by omega); have hl : b0 < a0 := hl; omega
  | 1, _ => have e2 : a2 = b2 := he 2 (by omega) (by omega); have e3 : a3 = b3 := he 3 (by omega) (by omega); have hl : b1 < a1 := hl; omega
  | 2, _ => have e3 : a3 = b3 := he 3 (by omega) (by omega); have hl : b2 < a2 := hl; omega
  | 3, _ => have hl : b3 < a3 := hl; omega
theorem vin_at {nv : Nat} {m : aM} (h : vin nv m) {u : Nat} (hu : nv ≤ u) (h4 : u < 4) : aex m u = 0 := by
  obtain ⟨v0, v1, v2, v3⟩ := h
  match u, h4 with
  | 0, _ => exact v0 hu
  | 1, _ => exact v1 hu
  | 2, _ => exact v2 hu
  | 3, _ => exact v3 hu
theorem aex_all {a b : aM} (h : ∀ u, u < 4 → aex a u = aex b u) : a = b := by
  obtain ⟨a0, a1, a2, a3⟩ := a
  obtain ⟨b0, b1, b2, b3⟩ := b
  have e0 : a0 = b0 := h 0 (by omega)
  have e1 : a1 = b1 := h 1 (by omega)
  have e2 : a2 = b2 := h 2 (by omega)
  have e3 : a3 = b3 := h 3 (by omega)
  rw [e0, e1, e2, e3]
theorem sp_rcmp {d nv k : Nat} {M : zM} {a b : aM} {P : Int32 → zM → Prop} (hd : 3 ≤ d) (hM : mst M) (hv : mvk M nv k) (ha : mok a) (hb : mok b) (hia : vin nv a) (hib : vin nv b) (h : P (acmp k a b) M) : ycI d nX8_compare [.ref 1529, .int (e5 a), .int (e5 b)] M P := by
  obtain ⟨d, rfl, he⟩ := dS hd
  obtain ⟨v1, v2, hk2, hn1, hn4⟩ := hv
  have hv : mvk M nv k := ⟨v1, v2, hk2, hn1, hn4⟩
  have da := aex_ok ha
  have db := aex_ok hb
  have lex : ∀ (n v : Nat), v + n = nv → k = 0 → (∀ u, u < v → aex a u = aex b u) → wX8_compare d (fun r M2 => ∃ x : Int32, r = [.int x] ∧ P x M2) 5 [some (.ref 1529), some (.int (e5 a)), some (.int (e5 b)), some (.int (nI v))] [] M := by
    intro n
    induction n with
    | zero =>
      intro v hvn hk0 heq
      refine sg_X8_compare_5 _ _ _ _ _ ⟨hM.1, fun _ => ⟨_, rfl, ?_⟩, fun c => absurd (by rw [v1, show v = nv by omega]; exact Int32.le_refl _) c⟩
      have : a = b := aex_all fun u hu => by
        by_cases huv : u < v
        · exact heq u huv
        · rw [vin_at hia (by omega) hu, vin_at hib (by omega) hu]
      rw [this, acmp_eq] at h
      exact h
    | succ n ih =>
      intro v hvn hk0 heq
      have ev := da v
      have fv := db v
      refine sg_X8_compare_5 _ _ _ _ _ ⟨hM.1, fun c => ?_, fun _ => sp_rexp (by omega) ha (by omega) (sp_rexp (by omega) hb (by omega) ⟨fun c => ?_, fun c => sp_rexp (by omega) ha (by omega) (sp_rexp (by omega) hb (by omega) ⟨fun c2 => ⟨_, rfl, ?_⟩, fun c2 => ⟨_, rfl, ?_⟩⟩)⟩)⟩
      · rw [v1] at c
        have := (nI_leI (by omega) (by omega)).mp c
        omega
      · have c := (nI_eq (by omega) (by omega)).mp c
        intro v3
        rw [show v3 = nI (v + 1) from nI_1 v]
        refine ih (v + 1) (by omega) hk0 fun u hu => ?_
        by_cases e : u = v
        · rw [e]; exact c
        · exact heq u (by omega)
      · have c2 := (nI_leI (by omega) (by omega)).mp c2
        have c : aex a v ≠ aex b v := fun z => c (by rw [z])
        rw [hk0] at h
        rw [acmp_gt (ark_0 hb ha (by omega) (fun u hu => (heq u hu).symm) (by omega))] at h
        exact h
      · have c2 : ¬ aex b v ≤ aex a v := fun z => c2 ((nI_leI (by omega) (by omega)).mpr z)
        rw [hk0] at h
        rw [acmp_lt (ark_0 ha hb (by omega) heq (by omega))] at h
        exact h
  have rev : ∀ (n : Nat) (o0 : Option Value), n ≤ nv → k ≠ 0 → (k = 1 ∨ a.1 = b.1) → mdeg a = mdeg b → (∀ u, n ≤ u → u < 4 → aex a u = aex b u) → wX8_compare d (fun r M2 => ∃ x : Int32, r = [.int x] ∧ P x M2) 76 [o0, some (.int (e5 a)), some (.int (e5 b)), some (.int (nI n - 1))] [] M := by
    intro n
    induction n with
    | zero =>
      intro o0 hn hk0 hf hdg heq
      refine sg_X8_compare_76 _ _ _ _ _ ⟨fun _ => ⟨_, rfl, ?_⟩, fun c => absurd (by decide) c⟩
      have : a = b := aex_all fun u hu => heq u (by omega) hu
      rw [this, acmp_eq] at h
      exact h
    | succ v ih =>
      intro o0 hn hk0 hf hdg heq
      have ev := da v
      have fv := db v
      rw [nI_pred v]
      refine sg_X8_compare_76 _ _ _ _ _ ⟨fun c => absurd c (nI_pos (by omega)), fun _ => sp_rexp (by omega) ha (by omega) (sp_rexp (by omega) hb (by omega) ⟨fun c => ?_, fun c => sp_rexp (by omega) ha (by omega) (sp_rexp (by omega) hb (by omega) ⟨fun c2 => ⟨_, rfl, ?_⟩, fun c2 => ⟨_, rfl, ?_⟩⟩)⟩)⟩
      · have c := (nI_eq (by omega) (by omega)).mp c
        intro v3
        rw [show v3 = nI v - 1 from (Int32.sub_eq_add_neg (nI v) 1).symm]
        refine ih _ (by omega) hk0 hf hdg fun u h1 h2 => ?_
        by_cases e : u = v
        · rw [e]; exact c
        · exact heq u (by omega) h2
      · have c2 := (nI_leI (by omega) (by omega)).mp c2
        have c : aex a v ≠ aex b v := fun z => c (by rw [z])
        rw [acmp_gt (ark_rev (v := v) hk0 hb ha (hf.imp id Eq.symm) hdg.symm (by omega) (fun u h1 h2 => (heq u (by omega) h2).symm) (by omega))] at h
        exact h
      · have c2 : ¬ aex a v ≤ aex b v := fun z => c2 ((nI_leI (by omega) (by omega)).mpr z)
        rw [acmp_lt (ark_rev (v := v) hk0 ha hb hf hdg (by omega) (fun u h1 h2 => heq u (by omega) h2) (by omega))] at h
        exact h
  have hda : mdeg a ≤ 120 := by unfold mok at ha; unfold mdeg; omega
  have hdb : mdeg b ≤ 120 := by unfold mok at hb; unfold mdeg; omega
  -- by degrees
  have degs : k ≠ 0 → (k = 1 ∨ a.1 = b.1) → ((zsh M 1529).1 = 16 ∧ (ycI d nX8_sum [.ref 1529, .int (e5 a)] M fun c2 M1 => ((zsh M1 1529).1 = 16 ∧ (ycI d nX8_sum [.ref 1529, .int (e5 b)] M1 fun c4 M3 => ((c2 = c4 → ((zsh M3 1529).1 = 16 ∧ (let v3_5 : Int32 := (zI M3 1529 1) - ((1 : Int32))
wX8_compare d (fun r M2 => ∃ x : Int32, r = [.int x] ∧ P x M2) 76 [some (.ref 1529), some (.int (e5 a)), some (.int (e5 b)), some (.int v3_5)] [] M3))) ∧ (¬ (c2 = c4) → ((zsh M3 1529).1 = 16 ∧ (ycI d nX8_sum [.ref 1529, .int (e5 a)] M3 fun c7 M6 => ((zsh M6 1529).1 = 16 ∧ (ycI d nX8_sum [.ref 1529, .int (e5 b)] M6 fun c9 M8 => ((c9 ≤ c7 → (∃ x : Int32, [Value.int ((1 : Int32))] = [.int x] ∧ P x M8)) ∧ (¬ (c9 ≤ c7) → (∃ x : Int32, [Value.int (((-1) : Int32))] = [.int x] ∧ P x M8))))))))))))) := by
    intro hk0 hf
    refine ⟨hM.1, sp_rsum (by omega) hM hv ha hia ⟨hM.1, sp_rsum (by omega) hM hv hb hib ⟨fun c => ⟨hM.1, ?_⟩, fun c => ⟨hM.1, sp_rsum (by omega) hM hv ha hia ⟨hM.1, sp_rsum (by omega) hM hv hb hib ⟨fun c2 => ⟨_, rfl, ?_⟩, fun c2 => ⟨_, rfl, ?_⟩⟩⟩⟩⟩⟩⟩
    · have c := (nI_eq (by omega) (by omega)).mp c
      intro v3
      rw [show v3 = nI nv - 1 by rw [show v3 = zI M 1529 1 - 1 from rfl, v1]]
      exact rev nv _ (Nat.le_refl _) hk0 hf c fun u h1 h2 => by rw [vin_at hia h1 h2, vin_at hib h1 h2]
    · have c2 := (nI_leI (by omega) (by omega)).mp c2
      have c : mdeg a ≠ mdeg b := fun z => c (by rw [z])
      rw [acmp_gt (ark_deg hk0 hb ha (hf.imp id Eq.symm) (by omega))] at h
      exact h
    · have c2 : ¬ mdeg b ≤ mdeg a := fun z => c2 ((nI_leI (by omega) (by omega)).mpr z)
      rw [acmp_lt (ark_deg hk0 ha hb hf (by omega))] at h
      exact h
  refine en_X8_compare _ _ _ M (sg_X8_compare_0 _ _ _ M ⟨hM.1, fun c => ⟨hM.1, fun c2 => ?_, fun c2 => ?_⟩, fun c => ?_⟩)
  · rw [v2] at c c2
    have c : k ≠ 0 := fun z => c (by rw [z]; rfl)
    have c2 : k ≠ 2 := fun z => c2 (by rw [z]; rfl)
    exact degs c (Or.inl (by omega))
  · rw [v2] at c c2
    have c : k ≠ 0 := fun z => c (by rw [z]; rfl)
    have c2 : k = 2 := (nI_eq (b := 2) (by omega) (by omega)).mp (Classical.not_not.mp c2)
    have ev : a.1 ≤ 30 := ha.1
    have fv : b.1 ≤ 30 := hb.1
    refine sp_rexp (v := 0) (by omega) ha (by omega) (sp_rexp (v := 0) (by omega) hb (by omega) ⟨fun c3 => ?_, fun c3 => sp_rexp (v := 0) (by omega) ha (by omega) (sp_rexp (v := 0) (by omega) hb (by omega) ⟨fun c4 => ⟨_, rfl, ?_⟩, fun c4 => ⟨_, rfl, ?_⟩⟩)⟩)
    · have c3 : a.1 = b.1 := (nI_eq (show aex a 0 < 2 ^ 31 by show a.1 < _; omega) (show aex b 0 < 2 ^ 31 by show b.1 < _; omega)).mp c3
      exact degs c (Or.inr c3)
    · have c4 : b.1 ≤ a.1 := (nI_leI (show aex b 0 < 2 ^ 31 by show b.1 < _; omega) (show aex a 0 < 2 ^ 31 by show a.1 < _; omega)).mp c4
      have c3 : a.1 ≠ b.1 := fun z => c3 (by show nI a.1 = nI b.1; rw [z])
      rw [acmp_gt (ark_first c (by omega) hb ha (by omega))] at h
      exact h
    · have c4 : ¬ b.1 ≤ a.1 := fun z => c4 ((nI_leI (show aex b 0 < 2 ^ 31 by show b.1 < _; omega) (show aex a 0 < 2 ^ 31 by show a.1 < _; omega)).mpr z)
      rw [acmp_lt (ark_first c (by omega) ha hb (by omega))] at h
      exact h
  · rw [v2] at c
    have c : k = 0 := (nI_z (by omega)).mp (Classical.not_not.mp c)
    exact lex nv 0 (by omega) c fun u hu => absurd hu (Nat.not_lt_zero _)
