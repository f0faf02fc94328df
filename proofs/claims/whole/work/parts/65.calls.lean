/-! THE DOCUMENT'S CALLS: a state, and what each call answers and leaves -/
abbrev aX : Type := Nat × Nat × List aP × List aP × Bool × List aE × (Nat × Nat × Nat × Nat) × Bool × List aP
def xn (s : aX) : Nat := s.1
def xk (s : aX) : Nat := s.2.1
def xpl (s : aX) : List aP := s.2.2.1
def xgs (s : aX) : List aP := s.2.2.2.1
def xhs (s : aX) : Bool := s.2.2.2.2.1
def xes (s : aX) : List aE := s.2.2.2.2.2.1
def xdn (s : aX) : Nat × Nat × Nat × Nat := s.2.2.2.2.2.2.1
def xpv (s : aX) : Bool := s.2.2.2.2.2.2.2.1
def xqs (s : aX) : List aP := s.2.2.2.2.2.2.2.2
def ipl (p : Int32) : Bool := decide (0 ≤ p.toInt ∧ p.toInt < 40)
def idx (p : Int32) (n : Nat) : Bool := decide (0 ≤ p.toInt ∧ p.toInt < n)
def xat (s : aX) (p : Int32) : aP := (xpl s).getD p.toNatClampNeg []
def xput (s : aX) (r : Int32) (L : aP) : aX := (xn s, xk s, (xpl s).set r.toNatClampNeg L, xgs s, xhs s, xes s, xdn s, xpv s, xqs s)
def xgen (s : aX) (gs : List aP) : aX := (xn s, xk s, xpl s, gs, false, [], xdn s, false, [])
def xdone (s : aX) (d : Nat × Nat × Nat × Nat) : aX := (xn s, xk s, xpl s, xgs s, false, [], d, false, [])
def xstand (s : aX) (es : List aE) (d : Nat × Nat × Nat × Nat) : aX := (xn s, xk s, xpl s, xgs s, true, es, d, false, [])
def xprove (s : aX) (b : Bool) (qs : List aP) : aX := (xn s, xk s, xpl s, xgs s, xhs s, xes s, xdn s, b, qs)
/-- the four bytes of an int -/
def b4 (x : Int32) : aM := (x.toBitVec.toNat % 256, x.toBitVec.toNat / 256 % 256, x.toBitVec.toNat / 65536 % 256, x.toBitVec.toNat / 16777216)
theorem b4_by (x : Int32) : mby (b4 x) := by
  have hl := x.toBitVec.isLt
  unfold mby b4
  dsimp only
  omega
theorem b4_e8 (x : Int32) : e8 (b4 x) = x := by
  have hl := x.toBitVec.isLt
  apply Int32.toBitVec_inj.mp
  apply BitVec.eq_of_toNat_eq
  rw [tn_e8 (b4_by x)]
  unfold c8 b4
  dsimp only
  omega
/-- exponents of the variables that there are -/
def vin (n : Nat) (m : aM) : Prop := (n ≤ 0 → m.1 = 0) ∧ (n ≤ 1 → m.2.1 = 0) ∧ (n ≤ 2 → m.2.2.1 = 0) ∧ (n ≤ 3 → m.2.2.2 = 0)
def atold (n : Nat) (m : aM) : Bool := decide ((m.1 ≤ 30 ∧ m.2.1 ≤ 30 ∧ m.2.2.1 ≤ 30 ∧ m.2.2.2 ≤ 30) ∧ (n ≤ 0 → m.1 = 0) ∧ (n ≤ 1 → m.2.1 = 0) ∧ (n ≤ 2 → m.2.2.1 = 0) ∧ (n ≤ 3 → m.2.2.2 = 0))
theorem atold_iff {n : Nat} {m : aM} : atold n m = true ↔ mok m ∧ vin n m := decide_eq_true_iff
def alg (a : Int32) (n : Int) : Bool := decide (n < a.toInt ∨ a.toInt < -n)
def A_variables (s : aX) : Int32 × aX := (nI (xn s), s)
def A_order (s : aX) (a : Int32) : Int32 × aX := if idx a 3 = true then (nI (xk s), (xn s, a.toNatClampNeg, (xpl s).map (fun L => asrt a.toNatClampNeg L []), (xgs s).map (fun L => asrt a.toNatClampNeg L []), false, [], xdn s, false, [])) else (-2, s)
def A_term (s : aX) (p a b w : Int32) : Int32 × aX := if ipl p = true then (if alg a 1000000000 = true ∨ alg b 1000000000 = true ∨ b = 0 ∨ atold (xn s) (b4 w) = false then (-2, s) else
  if a = 0 then (nI (xat s p).length, s) else match alow (if b.toInt < 0 then -a.toInt else a.toInt) (if b.toInt < 0 then -b.toInt else b.toInt) with
    | none => (-7, s)
    | some f => match acome (xk s) (f, b4 w) (xat s p) with
      | none => (-7, s)
      | some L => (nI L.length, xput s p L)) else (-1, s)
def A_zero (s : aX) (p : Int32) : Int32 × aX := if ipl p = true then (nI (xat s p).length, xput s p []) else (-1, s)
def A_size (s : aX) (p : Int32) : Int32 × aX := if ipl p = true then (nI (xat s p).length, s) else (-1, s)
def A_told (s : aX) (p i w : Int32) : Int32 × aX := if ipl p = true ∧ idx i (xat s p).length = true then
    (if w.toInt = 0 then (Int32.ofInt ((xat s p).getD i.toNatClampNeg ((0, 1), mone)).1.1, s) else if w.toInt = 1 then (Int32.ofInt ((xat s p).getD i.toNatClampNeg ((0, 1), mone)).1.2, s) else if w.toInt = 2 then (e8 ((xat s p).getD i.toNatClampNeg ((0, 1), mone)).2, s) else (-2, s)) else (-1, s)
def A_plus (s : aX) (p q r : Int32) : Int32 × aX := if ipl p = true ∧ ipl q = true ∧ ipl r = true then (match aadds (xk s) (1, 1) mone (xat s q) (xat s p) with
    | none => (-7, s)
    | some f => (nI f.length, xput s r f)) else (-1, s)
def A_times (s : aX) (p q r : Int32) : Int32 × aX := if ipl p = true ∧ ipl q = true ∧ ipl r = true then (match aprod (xk s) (xat s q) (xat s p) [] with
    | none => (-7, s)
    | some f => (nI f.length, xput s r f)) else (-1, s)
def A_same (s : aX) (p q : Int32) : Int32 × aX := if ipl p = true ∧ ipl q = true then (if xat s p = xat s q then (1, s) else (0, s)) else (-1, s)
def xpt (a b c d : Int32) : Nat → Int
  | 0 => a.toInt
  | 1 => b.toInt
  | 2 => c.toInt
  | _ => d.toInt
def A_vanishes (s : aX) (p a b c d : Int32) : Int32 × aX := if ipl p = true then (if (List.range (xn s)).any (fun v => decide (1000 < xpt a b c d v ∨ xpt a b c d v < -1000)) = true then (-2, s) else
  match aval (xpt a b c d) (xn s) (xat s p) (0, 1) with
    | none => (-7, s)
    | some f => if f.1 = 0 then (1, s) else (0, s)) else (-1, s)
def A_generator (s : aX) (p : Int32) : Int32 × aX := if ipl p = true then (if 8 ≤ (xgs s).length then (-4, s) else (nI (xgs s).length, xgen s (xgs s ++ [xat s p]))) else (-1, s)
def A_clear (s : aX) : Int32 × aX := (nI (xgs s).length, xgen s [])
def xnum (lim : Nat) (x : Nat × List aE × Nat × Nat × Nat × Nat) : Nat × Nat × Nat × Nat := (lim - x.2.2.1, x.2.2.2.1, x.2.2.2.2.1, x.2.2.2.2.2)
def A_basis (s : aX) (l : Int32) : Int32 × aX := if idx l 20001 = true then
    (if (abuild (xk s) (xgs s).length l.toNatClampNeg (xgs s)).1 = 0 then (nI (abuild (xk s) (xgs s).length l.toNatClampNeg (xgs s)).2.1.length, xstand s (abuild (xk s) (xgs s).length l.toNatClampNeg (xgs s)).2.1 (xnum l.toNatClampNeg (abuild (xk s) (xgs s).length l.toNatClampNeg (xgs s))))
      else (ecode (abuild (xk s) (xgs s).length l.toNatClampNeg (xgs s)).1, xdone s (xnum l.toNatClampNeg (abuild (xk s) (xgs s).length l.toNatClampNeg (xgs s))))) else (-2, s)
def A_done (s : aX) (w : Int32) : Int32 × aX := if w.toInt = 0 then (nI (xdn s).1, s) else if w.toInt = 1 then (nI (xdn s).2.1, s) else if w.toInt = 2 then (nI (xdn s).2.2.1, s) else if w.toInt = 3 then (nI (xdn s).2.2.2, s) else (-2, s)
def xel (s : aX) (i : Int32) : aE := (xes s).getD i.toNatClampNeg aE0
def A_element (s : aX) (i r : Int32) : Int32 × aX := if xhs s = true then (if idx i (xes s).length = true ∧ ipl r = true then (nI (xel s i).1.length, xput s r (xel s i).1) else (-1, s)) else (-3, s)
def A_share (s : aX) (i g r : Int32) : Int32 × aX := if xhs s = true then (if idx i (xes s).length = true ∧ idx g (xgs s).length = true ∧ ipl r = true then (nI ((xel s i).2.getD g.toNatClampNeg []).length, xput s r ((xel s i).2.getD g.toNatClampNeg [])) else (-1, s)) else (-3, s)
def xdv (s : aX) (p : Int32) : Nat × Nat × aP × List aP := adiv (xk s) ((xes s).map Prod.fst) none 5000 (xat s p) [] (List.replicate (xes s).length [])
def A_divide (s : aX) (p r : Int32) : Int32 × aX := if ipl p = true ∧ ipl r = true then (if xhs s = true then (if (xdv s p).1 = 0 then (if (xdv s p).2.2.1.length = 0 then (1, xprove (xput s r (xdv s p).2.2.1) true (xdv s p).2.2.2) else (0, xprove (xput s r (xdv s p).2.2.1) false (xdv s p).2.2.2)) else (ecode (xdv s p).1, s)) else (-3, s)) else (-1, s)
def A_certificate (s : aX) (g r : Int32) : Int32 × aX := if xhs s = true ∧ xpv s = true then (if idx g (xgs s).length = true ∧ ipl r = true then (match als (xk s) false g.toNatClampNeg (xes s) (xqs s) [] (xes s).length with
    | none => (-7, s)
    | some f => (nI f.length, xput s r f)) else (-1, s)) else (-3, s)
/-- the sum of cofactors TIMES generators -/
def asmu (k : Nat) (gs cs : List aP) : Nat → Option aP
  | 0 => some []
  | g + 1 => match asmu k gs cs g with
    | none => none
    | some f => match aprod k (gs.getD g []) (cs.getD g []) [] with
      | none => none
      | some p => aadds k (1, 1) mone p f
def achk (k : Nat) (gs : List aP) (es : List aE) : Nat → Option Bool
  | 0 => some true
  | i + 1 => match achk k gs es i with
    | none => none
    | some b => match asmu k gs (es.getD i aE0).2 gs.length with
      | none => none
      | some f => some (b && decide (f = (es.getD i aE0).1))
def A_check (s : aX) : Int32 × aX := if xhs s = true then (match achk (xk s) (xgs s) (xes s) (xes s).length with
    | none => (-7, s)
    | some b => if b = true then (1, s) else (0, s)) else (-3, s)
def xrad (s : aX) (p : Int32) : Option aP := aadds (xk s) (-1, 1) (munit (xn s)) (xat s p) [((1, 1), mone)]
def awhb (es : List aE) : Bool := decide (es.length = 1 ∧ ald es 0 = mone)
theorem awhb_iff {es : List aE} : awhb es = true ↔ awhole es := decide_eq_true_iff
def A_radical (s : aX) (p l : Int32) : Int32 × aX := if ipl p = true then (if idx l 20001 = true then (if 4 ≤ xn s then (-3, s) else match xrad s p with
    | none => (-7, s)
    | some g => if (abuild (xk s) 0 l.toNatClampNeg (xgs s ++ [g])).1 = 0 then (if awhb (abuild (xk s) 0 l.toNatClampNeg (xgs s ++ [g])).2.1 = true then (1, s) else (0, s)) else (ecode (abuild (xk s) 0 l.toNatClampNeg (xgs s ++ [g])).1, s)) else (-2, s)) else (-1, s)
/-- free of the first variables -/
def afr (n : Nat) (L : aP) : Bool := L.all fun t => (List.range n).all fun v => aex t.2 v == 0
def afrs (n : Nat) (es : List aE) : Nat → Nat
  | 0 => 0
  | i + 1 => if afr n (es.getD i aE0).1 = true then afrs n es i + 1 else afrs n es i
def A_free (s : aX) (g : Int32) : Int32 × aX := if idx g (xn s + 1) = true then (if xhs s = true then (nI (afrs g.toNatClampNeg (xes s) (xes s).length), s) else (-3, s)) else (-2, s)
def A_stairs (s : aX) : Int32 × aX := if xhs s = true then ((match astairs (xes s) (xn s) with
    | none => -8
    | some x => nI x), s) else (-3, s)
/-- what is so in every state -/
def xok (s : aX) : Prop := (1 ≤ xn s ∧ xn s ≤ 4) ∧ xk s ≤ 2 ∧ ((xpl s).length = 40 ∧ ∀ L ∈ xpl s, pok (xk s) L) ∧ ((xgs s).length ≤ 8 ∧ ∀ L ∈ xgs s, pok (xk s) L) ∧ (xhs s = true → iok (xk s) (xgs s).length (xes s) ∧ (xes s).length ≤ 24) ∧ (xhs s = true → xpv s = true → (xqs s).length = (xes s).length ∧ ∀ q ∈ xqs s, pok (xk s) q)
/-! how the class's memory holds a state -/
def eB (b : Bool) : Int32 := cond b 1 0
def xS (M : zM) (D F : Nat) (e e2 : Nat → Nat) : Prop := ((zsh M 2).1 = 15 ∧ (zsh M 3).1 = 13) ∧ (zR M 2 1 = 3 ∧ zR M 2 2 = 4 ∧ zR M 2 3 = 165 ∧ zR M 2 5 = 202 ∧ zR M 2 7 = 1155 ∧ zR M 2 8 = D ∧ zR M 2 9 = F ∧ zR M 2 11 = 1520 ∧ zR M 2 12 = 1524 ∧ zR M 2 13 = 1528) ∧ (zsh M 4 = (5, 40) ∧ ∀ i, i < 40 → zR M 4 i = 5 + 4 * i ∧ pst M (5 + 4 * i) 3) ∧ gst M 165 3 ∧ (ist M 202 3 8 e ∧ ist M 1155 3 0 e2) ∧ (dst M D 3 ∧ dst M F 3 ∧ ((D = 1308 ∧ F = 1414) ∨ (D = 1414 ∧ F = 1308))) ∧ pst M 1520 3 ∧ pst M 1524 3 ∧ zsh M 1528 = (2, 4)
def xN (M : zM) (s : aX) : Prop := zI M 3 0 = nI (xk s) ∧ zI M 2 0 = nI (xn s) ∧ zI M 2 4 = nI (xgs s).length ∧ zI M 2 6 = eB (xhs s) ∧ zI M 2 10 = eB (xpv s)
def xP (M : zM) (s : aX) : Prop := ∀ (i : Nat) (L : aP), (xpl s)[i]? = some L → pdy M (5 + 4 * i) (xk s) L
def xG (M : zM) (s : aX) : Prop := ∀ (i : Nat) (L : aP), (xgs s)[i]? = some L → pdy M (166 + 4 * i) (xk s) L
def xE (M : zM) (s : aX) (e : Nat → Nat) : Prop := xhs s = true → icn M 202 (xgs s).length (xes s).length ∧ iel M e (xk s) (xes s)
def xD (M : zM) (s : aX) : Prop := zI M 202 3 = nI (xdn s).1 ∧ zI M 202 4 = nI (xdn s).2.1 ∧ zI M 202 5 = nI (xdn s).2.2.1 ∧ zI M 202 6 = nI (xdn s).2.2.2
def xQ (M : zM) (s : aX) (F : Nat) : Prop := xhs s = true → xpv s = true → ∀ (i : Nat) (q : aP), (xqs s)[i]? = some q → pdy M (F + 10 + 4 * i) (xk s) q
def xX (M : zM) (s : aX) (D F : Nat) (e e2 : Nat → Nat) : Prop := xok s ∧ xS M D F e e2 ∧ xN M s ∧ xP M s ∧ xG M s ∧ xE M s e ∧ xD M s ∧ xQ M s F
/-- a call of the class changes its own rows alone -/
def zfc (M M' : zM) : Prop := (∀ a, zsh M' a = zsh M a) ∧ zn M' = zn M ∧ zs M' = zs M ∧ ∀ a, (a < 2 ∨ 1529 ≤ a) → (∀ j, zI M' a j = zI M a j) ∧ (∀ j, zL M' a j = zL M a j) ∧ ∀ j, zR M' a j = zR M a j
theorem zfc_rf {M : zM} : zfc M M := ⟨fun _ => rfl, rfl, rfl, fun _ _ => ⟨fun _ => rfl, fun _ => rfl, fun _ => rfl⟩⟩
theorem zfc_tr {M1 M2 M3 : zM} (h1 : zfc M1 M2) (h2 : zfc M2 M3) : zfc M1 M3 := ⟨fun a => (h2.1 a).trans (h1.1 a), h2.2.1.trans h1.2.1, h2.2.2.1.trans h1.2.2.1, fun a ha => ⟨fun j => ((h2.2.2.2 a ha).1 j).trans ((h1.2.2.2 a ha).1 j), fun j => ((h2.2.2.2 a ha).2.1 j).trans ((h1.2.2.2 a ha).2.1 j), fun j => ((h2.2.2.2 a ha).2.2 j).trans ((h1.2.2.2 a ha).2.2 j)⟩⟩
theorem zfc_of {S : Nat → Prop} {M M' : zM} (h : zfr S M M') (hs : ∀ a, S a → 2 ≤ a ∧ a < 1529) : zfc M M' := ⟨h.1, h.2.1, h.2.2.1, fun a ha => ⟨(h.2.2.2.2 a fun z => by have := hs a z; omega).1, (h.2.2.2.2 a fun z => by have := hs a z; omega).2, fun j => h.2.2.2.1 a j⟩⟩
theorem zfc_ofq {S : Nat → Prop} {R : Nat} {M M' : zM} (h : zfq S R M M') (hR : 2 ≤ R ∧ R < 1529) (hs : ∀ a, S a → 2 ≤ a ∧ a < 1529) : zfc M M' := ⟨h.1, h.2.1, h.2.2.1, fun a ha => ⟨(h.2.2.2.2 a fun z => by have := hs a z; omega).1, (h.2.2.2.2 a fun z => by have := hs a z; omega).2, fun j => h.2.2.2.1 a j (by omega)⟩⟩
theorem xS_fr {S : Nat → Prop} {M M' : zM} {D F : Nat} {e e2 : Nat → Nat} (h : zfr S M M') (hx : xS M D F e e2) : xS M' D F e e2 := by
  obtain ⟨⟨h1, h1'⟩, ⟨r1, r2, r3, r5, r7, r8, r9, r11, r12, r13⟩, h3, h4, ⟨h5, h5'⟩, ⟨h6, h6', h6''⟩, h7, h8, h9⟩ := hx
  have R := h.2.2.2.1
  exact ⟨⟨by rw [h.1]; exact h1, by rw [h.1]; exact h1'⟩, ⟨by rw [R]; exact r1, by rw [R]; exact r2, by rw [R]; exact r3, by rw [R]; exact r5, by rw [R]; exact r7, by rw [R]; exact r8, by rw [R]; exact r9, by rw [R]; exact r11, by rw [R]; exact r12, by rw [R]; exact r13⟩, ⟨by rw [h.1]; exact h3.1, fun i hi => ⟨by rw [R]; exact (h3.2 i hi).1, pst_fr h (h3.2 i hi).2⟩⟩, gst_fr h h4, ⟨ist_fr h h5, ist_fr h h5'⟩, ⟨dst_fr h h6, dst_fr h h6', h6''⟩, pst_fr h h7, pst_fr h h8, by rw [h.1]; exact h9⟩
/-- rows that no state is held in: the division at work, sums, the point, the guest -/
def scr (D a : Nat) : Prop := inD D a ∨ inI 1155 0 a ∨ (1520 ≤ a ∧ a ≤ 1528)
theorem xX_fr {S : Nat → Prop} {M M' : zM} {s : aX} {D F : Nat} {e e2 : Nat → Nat} (h : zfr S M M') (hs : ∀ a, S a → scr D a) (hx : xX M s D F e e2) : xX M' s D F e e2 := by
  obtain ⟨ok, hS, ⟨n1, n2, n3, n4, n5⟩, hP, hG, hE, ⟨d1, d2, d3, d4⟩, hQ⟩ := hx
  have hD := hS.2.2.2.2.2.1.2.2
  have ns : ∀ a, ¬ scr D a → ¬ S a := fun a ha z => ha (hs a z)
  have f2 := h.2.2.2.2 2 (ns 2 (by unfold scr inD inI; omega))
  have f3 := h.2.2.2.2 3 (ns 3 (by unfold scr inD inI; omega))
  have f202 := h.2.2.2.2 202 (ns 202 (by unfold scr inD inI; omega))
  refine ⟨ok, xS_fr h hS, ⟨by rw [f3.1]; exact n1, by rw [f2.1]; exact n2, by rw [f2.1]; exact n3, by rw [f2.1]; exact n4, by rw [f2.1]; exact n5⟩, fun i L hi => pdy_fr h (fun a ha => ns a ?_) (hP i L hi), fun i L hi => pdy_fr h (fun a ha => ns a ?_) (hG i L hi), fun hh => ⟨icn_fr h (ns 202 (by unfold scr inD inI; omega)) (hE hh).1, iel_fr h hS.2.2.2.2.1.1 (ok.2.2.2.2.1 hh).1 ok.2.2.2.1.1 (ok.2.2.2.2.1 hh).2 (fun i hi a ha => ns a ?_) (hE hh).2⟩, ⟨by rw [f202.1]; exact d1, by rw [f202.1]; exact d2, by rw [f202.1]; exact d3, by rw [f202.1]; exact d4⟩, fun hh hp i q hi => pdy_fr h (fun a ha => ns a ?_) (hQ hh hp i q hi)⟩
  · have := (List.getElem?_eq_some_iff.mp hi).1
    rw [ok.2.2.1.1] at this
    unfold inP at ha
    unfold scr inD inI
    omega
  · have := (List.getElem?_eq_some_iff.mp hi).1
    have := ok.2.2.2.1.1
    unfold inP at ha
    unfold scr inD inI
    omega
  · have hl := (ok.2.2.2.2.1 hh).2
    have := hS.2.2.2.2.1.1.2.2.1.1 i (by omega)
    unfold inE at ha
    unfold scr inD inI
    omega
  · have := (List.getElem?_eq_some_iff.mp hi).1
    have := (ok.2.2.2.2.2 hh hp).1
    have := (ok.2.2.2.2.1 hh).2
    unfold inP at ha
    unfold scr inD inI
    omega
