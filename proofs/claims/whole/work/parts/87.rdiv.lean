/-! the reference: divisions -/
def pcp (L : aP) : Prop := ∀ t ∈ L, Int.gcd t.1.1 t.1.2 = 1
theorem pcp_nil : pcp [] := fun _ h => absurd h List.not_mem_nil
theorem alow_cp {a b : Int} {f : aF} (hb : 0 < b) (h : alow a b = some f) : Int.gcd f.1 f.2 = 1 := by
  unfold alow at h
  split at h
  · cases h
    have hg : 0 < Int.gcd a b := Int.gcd_pos_of_ne_zero_right a (by omega)
    have h1 := Int.gcd_ediv (Int.gcd_dvd_left a b) (Int.gcd_dvd_right a b)
    show Int.gcd (a / (Int.gcd a b : Int)) (b / (Int.gcd a b : Int)) = 1
    rw [h1, Int.natAbs_natCast]
    exact Nat.div_self hg
  · cases h
theorem alow_self {f : aF} (hf : fok f) (h : Int.gcd f.1 f.2 = 1) : alow f.1 f.2 = some f := by
  rw [alow_in hf.1 hf.2, h]
  show some (f.1 / 1, f.2 / 1) = _
  rw [Int.ediv_one, Int.ediv_one]
theorem acome_cp {k : Nat} {t : aT} {L L' : aP} (hk : pok k L) (ht : tok t) (hL : pcp L) (hc : Int.gcd t.1.1 t.1.2 = 1) (h : acome k t L = some L') : pcp L' := by
  have hle := apos_le (k := k) (m := t.2) L
  have ins : pcp (L.insertIdx (apos k t.2 L) t) := fun u hu => by
    rcases (List.mem_insertIdx hle).mp hu with rfl | hu
    · exact hc
    · exact hL u hu
  unfold acome at h
  split at h
  · rename_i u hu
    have hku := hk.1 u (List.mem_of_getElem? hu)
    split at h
    · split at h
      · cases h
      · rename_i s hs
        have hsc : Int.gcd s.1 s.2 = 1 := alow_cp (Int.mul_pos hku.1.2.1 ht.1.2.1) hs
        split at h
        · cases h
          exact fun u hu => hL u (List.mem_of_mem_eraseIdx hu)
        · cases h
          intro v hv
          rcases List.mem_or_eq_of_mem_set hv with hv | rfl
          · exact hL v hv
          · exact hsc
    · split at h
      · cases h
      · cases h
        exact ins
  · split at h
    · cases h
    · cases h
      exact ins
theorem aadds_cp {k : Nat} {c : aF} {m : aM} (hc : fok c) (hc0 : c.1 ≠ 0) : ∀ {g f f' : aP}, (∀ t ∈ g, tok t) → pok k f → pcp f → aadds k c m g f = some f' → pcp f'
  | [], f, f', _, _, hf, h => by cases h; exact hf
  | t :: g, f, f', hg, hfk, hf, h => by
    have ht := hg t List.mem_cons_self
    by_cases hmo : mok (madd t.2 m)
    · rw [aadds_in hmo] at h
      split at h
      · cases h
      · rename_i s hs
        have hs2 := afmul_ok ht.1 hc ht.2.1 hc0 hs
        have hsc : Int.gcd s.1 s.2 = 1 := alow_cp (Int.mul_pos ht.1.2.1 hc.2.1) hs
        split at h
        · cases h
        · rename_i f1 hf1
          exact aadds_cp hc hc0 (fun t ht => hg t (List.mem_cons_of_mem _ ht)) (acome_ok (t := (s, madd t.2 m)) hfk ⟨hs2.1, hs2.2, hmo⟩ hf1) (acome_cp (t := (s, madd t.2 m)) hfk ⟨hs2.1, hs2.2, hmo⟩ hf hsc hf1) h
    · rw [aadds_out hmo] at h
      cases h
/-- a polynomial that the reference may hold -/
def pgd (nv k : Nat) (L : aP) : Prop := pok k L ∧ pvn nv L ∧ pcp L
theorem pgd_nil {nv k : Nat} : pgd nv k [] := ⟨pok_nil, pvn_nil, pcp_nil⟩
theorem acome_gd {nv k : Nat} {t : aT} {L L' : aP} (hL : pgd nv k L) (ht : tok t) (hv : vin nv t.2) (hc : Int.gcd t.1.1 t.1.2 = 1) (h : acome k t L = some L') : pgd nv k L' := ⟨acome_ok hL.1 ht h, acome_vn hL.2.1 hv h, acome_cp hL.1 ht hL.2.2 hc h⟩
theorem aadds_gd {nv k : Nat} {c : aF} {m : aM} {g f f' : aP} (hc : fok c) (hc0 : c.1 ≠ 0) (hm : vin nv m) (hg : pgd nv k g) (hf : pgd nv k f) (h : aadds k c m g f = some f') : pgd nv k f' := ⟨aadds_ok hc hc0 hg.1.1 hf.1 h, aadds_vn hm hg.2.1 hf.2.1 h, aadds_cp hc hc0 hg.1.1 hf.1 hf.2.2 h⟩
theorem pgd_tail {nv k : Nat} {t : aT} {l : aP} (h : pgd nv k (t :: l)) : pgd nv k l := ⟨srt_tail h.1, fun u hu => h.2.1 u (List.mem_cons_of_mem _ hu), fun u hu => h.2.2 u (List.mem_cons_of_mem _ hu)⟩
/-- one that divides: 1 before its leading monomial -/
def bgd (nv k : Nat) (b : aP) : Prop := pgd nv k b ∧ ∃ m l, b = ((1, 1), m) :: l
def FD (j : Nat) : Prop := FF j ∨ j = 12 ∨ j = 13
def TD (x : Nat) : Prop := x = 151 ∨ x = 152 ∨ (100 ≤ x ∧ x < 125)
theorem ineg {n : Int} (h : -1000000000 ≤ n ∧ n ≤ 1000000000) : -(Int32.ofInt n) = Int32.ofInt (-n) := by
  apply Int32.toInt_inj.mp
  rw [ti_neg (by rw [tI_of (by omega)]; omega), tI_of (by omega), tI_of (by omega)]
theorem sp_rdivided {d nv k fo cnt lim st : Nat} {M : zM} {bs : List aP} {lo : Option Nat} {f0 : aP} {P : zM → Prop} (hd : 6 ≤ d) (hM : mst M) (hv : mvk M nv k) (hfo : zI M 1529 19 = nI fo) (hf2 : 40 ≤ fo ∧ fo + 25 ≤ 100) (hmo : zI M 1529 20 = nI cnt) (hlo : zI M 1529 21 = elo lo) (hlo2 : ∀ j, lo = some j → j < 2 ^ 31) (hst : zI M 1529 13 = nI st) (hlim : zI M 1529 14 = nI lim) (hsl : st ≤ lim) (hl2 : lim ≤ 20000) (hfu : zI M 1529 11 = 0) (hsp : zI M 1529 12 = 0) (hc : bs.length = cnt) (hcnt : cnt ≤ 24) (hbs : ∀ (i : Nat) (b : aP), bs[i]? = some b → qdy M (fo + i) b ∧ bgd nv k b) (hf0 : qdy M 151 f0) (hfk : pgd nv k f0)
    (h : ∀ dv M', adiv k bs lo (lim - st) f0 [] (List.replicate cnt []) = dv → rfr TD FD GN M M' → zI M' 1529 13 = nI (lim - dv.2.1) → (dv.1 = 0 → zI M' 1529 11 = 0 ∧ zI M' 1529 12 = 0 ∧ qdy M' 152 dv.2.2.1 ∧ pgd nv k dv.2.2.1 ∧ dv.2.2.2.length = cnt ∧ (∀ q ∈ dv.2.2.2, pgd nv k q) ∧ ∀ i, i < 25 → qdy M' (100 + i) (dv.2.2.2.getD i [])) → (dv.1 = 1 → zI M' 1529 11 = 0 ∧ zI M' 1529 12 = 1) → (dv.1 = 2 → zI M' 1529 11 = 1 ∧ zI M' 1529 12 = 0) → (dv.1 = 0 ∨ dv.1 = 1 ∨ dv.1 = 2) → P M') : ycV d nX8_divided [.ref 1529, .int (nI 151), .int (nI 152)] M P := by
  obtain ⟨d, rfl, he⟩ := dS hd
  generalize hfin : adiv k bs lo (lim - st) f0 [] (List.replicate cnt []) = fin at h
  have c151 := cl_n (n := 151) (by omega)
  have c152 := cl_n (n := 152) (by omega)
  have z151 : zin (nI 151) 372 := zin_n (by omega) (by omega)
  -- what is there at every turn
  have loop : ∀ (n s : Nat) (f r : aP) (qs : List aP) (M' : zM) (o3 o4 o5 o6 o7 o8 o9 o10 o11 : Option Value), s + n = lim → rfr TD FD GN M M' → zI M' 1529 11 = 0 → zI M' 1529 12 = 0 → zI M' 1529 13 = nI s → qdy M' 151 f → pgd nv k f → qdy M' 152 r → pgd nv k r → qs.length = cnt → (∀ q ∈ qs, pgd nv k q) → (∀ i, i < 25 → qdy M' (100 + i) (qs.getD i [])) → adiv k bs lo n f r qs = fin → wX8_divided d (fun r M2 => r = [] ∧ P M2) 19 [some (.ref 1529), some (.int (nI 151)), some (.int (nI 152)), o3, o4, o5, o6, o7, o8, o9, o10, o11] [] M' := by
    intro n
    induction n with
    | zero =>
      intro s f r qs M' o3 o4 o5 o6 o7 o8 o9 o10 o11 hn hfr hz11 hz12 hz13 hqf hgf hqr hgr hql hqg hqq heq
      have hM' := mst_fr hfr hM
      obtain ⟨s16, ⟨r3, r4, r5, r6, -⟩, ⟨k0, k1, k2, k3⟩, -⟩ := id hM'
      have hlim' : zI M' 1529 14 = nI lim := by rw [hfr.2.2.2.2.2.2.1 14 (by unfold FD FF; omega)]; exact hlim
      have hfl := hgf.1.2.2
      refine sg_X8_divided_19 _ _ _ _ _ _ _ _ _ _ _ _ _ ⟨s16, by rw [r6, k3], by rw [r6, k3]; exact z151, ?_⟩
      rw [r6, c151, hqf.1]
      cases f with
      | nil =>
        have heq : (0, 0, r, qs) = fin := heq
        subst heq
        refine ⟨fun _ => ⟨rfl, h _ M' rfl hfr (by rw [hz13]; congr 1) (fun _ => ⟨hz11, hz12, hqr, hgr, hql, hqg, hqq⟩) (fun z => absurd (show (0 : Nat) = 1 from z) (by decide)) (fun z => absurd (show (0 : Nat) = 2 from z) (by decide)) (Or.inl rfl)⟩, fun z => absurd (by decide) z⟩
      | cons t f =>
        have heq : (1, 0, r, qs) = fin := heq
        subst heq
        refine ⟨fun z => ?_, fun _ => ⟨s16, fun z => absurd hz11 z, fun _ => ⟨s16, s16, fun z => absurd (by rw [hz13, hlim', show s = lim by omega]) z, fun _ => ⟨s16, Or.inr rfl, ?_⟩⟩⟩⟩
        · have := (nI_leI (b := 0) (by omega) (by omega)).mp z
          simp at this
        · intro M1
          have g1 : ∀ j, j ≠ 12 → zI M1 1529 j = zI M' 1529 j := fun j hj => by rw [show M1 = zuI M' 1529 12 1 from rfl, zI_uI, if_neg (by omega)]
          exact ⟨rfl, h _ M1 rfl (rfr_tr hfr (rfr_F (Or.inr (Or.inl rfl)))) (by rw [g1 13 (by omega), hz13]; congr 1) (fun z => absurd (show (1 : Nat) = 0 from z) (by decide)) (fun _ => ⟨by rw [g1 11 (by omega)]; exact hz11, by rw [show M1 = zuI M' 1529 12 1 from rfl, zI_uI, if_pos ⟨rfl, rfl⟩]⟩) (fun z => absurd (show (1 : Nat) = 2 from z) (by decide)) (Or.inr (Or.inl rfl))⟩
    | succ n ih =>
      intro s f r qs M' o3 o4 o5 o6 o7 o8 o9 o10 o11 hn hfr hz11 hz12 hz13 hqf hgf hqr hgr hql hqg hqq heq
      have hM' := mst_fr hfr hM
      obtain ⟨s16, ⟨r3, r4, r5, r6, -⟩, ⟨k0, k1, k2, k3⟩, -⟩ := id hM'
      have hlim' : zI M' 1529 14 = nI lim := by rw [hfr.2.2.2.2.2.2.1 14 (by unfold FD FF; omega)]; exact hlim
      have hfl := hgf.1.2.2
      refine sg_X8_divided_19 _ _ _ _ _ _ _ _ _ _ _ _ _ ⟨s16, by rw [r6, k3], by rw [r6, k3]; exact z151, ?_⟩
      rw [r6, c151, hqf.1]
      cases f with
      | nil =>
        have heq : (0, n + 1, r, qs) = fin := heq
        subst heq
        refine ⟨fun _ => ⟨rfl, h _ M' rfl hfr (by rw [hz13]; congr 1; show s = lim - (n + 1); omega) (fun _ => ⟨hz11, hz12, hqr, hgr, hql, hqg, hqq⟩) (fun z => absurd (show (0 : Nat) = 1 from z) (by decide)) (fun z => absurd (show (0 : Nat) = 2 from z) (by decide)) (Or.inl rfl)⟩, fun z => absurd (by decide) z⟩
      | cons t f =>
        rw [adiv_step] at heq
        have ht := hgf.1.1 t List.mem_cons_self
        have htv := hgf.2.1 t List.mem_cons_self
        have htc := hgf.2.2 t List.mem_cons_self
        refine ⟨fun z => ?_, fun _ => ⟨s16, fun z => absurd hz11 z, fun _ => ⟨s16, s16, fun _ => ?_, fun z => ?_⟩⟩⟩
        · have := (nI_leI (b := 0) (by omega) (by omega)).mp z
          simp at this
        · -- a step
          refine sg_X8_divided_36 _ _ _ _ _ _ _ _ _ _ _ _ _ ⟨s16, s16, ?_⟩
          intro M1
          have hfr1 : rfr TD FD GN M' M1 := rfr_F (Or.inr (Or.inr rfl))
          have hfr1' : rfr TN FD GN M' M1 := rfr_F (Or.inr (Or.inr rfl))
          have g1 : ∀ j, j ≠ 13 → zI M1 1529 j = zI M' 1529 j := fun j hj => by rw [show M1 = zuI M' 1529 13 (zI M' 1529 13 + 1) from rfl, zI_uI, if_neg (by omega)]
          have s1 : zI M1 1529 13 = nI (s + 1) := by rw [show M1 = zuI M' 1529 13 (zI M' 1529 13 + 1) from rfl, zI_uI, if_pos ⟨rfl, rfl⟩, hz13, nI_1]
          have hM1 := mst_fr hfr1 hM'
          have hfa := rfr_tr hfr hfr1
          have hv1 := mvk_fr hfa (by unfold FD FF; omega) (by unfold FD FF; omega) hv
          have hqf1 := qdy_fr hfr1' (fun z => z) hgf.1.2.2 hqf
          have hqr1 := qdy_fr hfr1' (fun z => z) hgr.1.2.2 hqr
          have qlen : ∀ i, (qs.getD i []).length ≤ 100 := fun i => by
            by_cases hi : i < qs.length
            · rw [List.getD_eq_getElem?_getD, List.getElem?_eq_getElem hi]
              exact (hqg _ (List.getElem_mem hi)).1.2.2
            · rw [List.getD_eq_getElem?_getD, List.getElem?_eq_none (by omega)]
              exact Nat.zero_le _
          have hqq1 : ∀ i, i < 25 → qdy M1 (100 + i) (qs.getD i []) := fun i hi => qdy_fr hfr1' (fun z => z) (qlen i) (hqq i hi)
          have F1 : ∀ j, ¬ FD j → zI M1 1529 j = zI M 1529 j := fun j hj => hfa.2.2.2.2.2.2.1 j hj
          have hbs1 : ∀ (i : Nat) (b : aP), bs[i]? = some b → qdy M1 (fo + i) b ∧ bgd nv k b := fun i b hb => by
            have := (List.getElem?_eq_some_iff.mp hb).1
            obtain ⟨b1, b2⟩ := hbs i b hb
            exact ⟨qdy_fr hfa (by unfold TD; omega) b2.1.1.2.2 b1, b2⟩
          clear_value M1
          refine ⟨s16, sp_rlead (by omega) hM1 (by omega) hqf1 ?_⟩
          -- none divides
          have none' : ∀ (o5 o6 o7 o8 o9 o10 o11 : Option Value), afst lo t.2 0 bs = none → wX8_divided d (fun r M2 => r = [] ∧ P M2) 68 [some (.ref 1529), some (.int (nI 151)), some (.int (nI 152)), some (.int (e5 t.2)), some (.int (nI cnt)), o5, o6, o7, o8, o9, o10, o11] [] M1 := fun o5 o6 o7 o8 o9 o10 o11 haf => by
            rw [haf] at heq
            dsimp only at heq
            obtain ⟨q16, ⟨p3, p4, p5, p6, -⟩, ⟨w0, w1, w2, w3⟩, -⟩ := id hM1
            obtain ⟨t0, t1, t2⟩ := hqf1.2 0 t rfl
            have cz := cl_n (n := 15100) (by omega)
            refine sg_X8_divided_68 _ _ _ _ _ _ _ _ _ _ _ _ _ ?_
            intro v5
            have e5' : v5 = nI 15100 := rfl
            clear_value v5
            subst e5'
            refine ⟨q16, fun z => absurd (by rw [F1 20 (by unfold FD FF; omega), hmo]) z, fun _ => ⟨q16, by rw [p3, w0], by rw [p3, w0]; exact zin_n (by omega) (by omega), q16, by rw [p4, w1], by rw [p4, w1]; exact zin_n (by omega) (by omega), q16, ?_⟩⟩
            rw [p3, p4, cz, show zI M1 1530 15100 = Int32.ofInt t.1.1 from t0, show zI M1 1531 15100 = Int32.ofInt t.1.2 from t1]
            -- the rest of the dividend
            have shift : ∀ (M2 : zM) (r' : aP), rfr (fun x => x = 152) FF GN M1 M2 → qdy M2 152 r' → r'.length ≤ 100 → (∀ (M4 : zM) (o3 o4 o5 o6 o7 o8 o9 o10 o11 : Option Value), rfr (fun x => x = 151 ∨ x = 152) FF GN M1 M4 → (∀ j, zI M4 1529 j = zI M2 1529 j) → qdy M4 151 f → qdy M4 152 r' → wX8_divided d (fun r M2 => r = [] ∧ P M2) 19 [some (.ref 1529), some (.int (nI 151)), some (.int (nI 152)), o3, o4, o5, o6, o7, o8, o9, o10, o11] [] M4) → (zsh M2 1529).1 = 16 ∧ ((zsh M2 (zR M2 1529 6)).1 = 2 ∧ (zin (nI 151) (zsh M2 (zR M2 1529 6)).2 ∧ ((zsh M2 (zR M2 1529 6)).1 = 2 ∧ (zin (nI 151) (zsh M2 (zR M2 1529 6)).2 ∧ (let M3 : zM := zuI M2 (zR M2 1529 6) (nI 151).toNatClampNeg ((zI M2 (zR M2 1529 6) (nI 151).toNatClampNeg) - ((1 : Int32)))
wX8_divided d (fun r M2 => r = [] ∧ P M2) 98 [some (.ref 1529), some (.int (nI 151)), some (.int (nI 152)), some (.int (e5 t.2)), some (.int (nI cnt)), some (.int (nI 15100)), some (.int ((0 : Int32))), o7, o8, o9, o10, o11] [] M3))))) := fun M2 r' hfr2 hqr2 hrl next => by
              have hM2 := mst_fr hfr2 hM1
              obtain ⟨x16, ⟨y3, y4, y5, y6, -⟩, ⟨x0, x1, x2, x3⟩, -⟩ := id hM2
              have hqf2 := qdy_fr hfr2 (by omega) hgf.1.2.2 hqf1
              obtain ⟨hs2, hc2⟩ := qdy_c.mp hqf2
              refine ⟨x16, by rw [y6, x3], by rw [y6, x3]; exact z151, by rw [y6, x3], by rw [y6, x3]; exact z151, ?_⟩
              intro M3
              have m3 : M3 = zuI M2 1533 151 (nI f.length) := by
                rw [show M3 = zuI M2 (zR M2 1529 6) (nI 151).toNatClampNeg (zI M2 (zR M2 1529 6) (nI 151).toNatClampNeg - 1) from rfl, y6, c151, hs2]
                rw [show (t :: f).length = f.length + 1 from rfl, nI_pred]
              clear_value M3
              have lp : ∀ (a j : Nat) (M4 : zM) (o3 o4 o6 o7 o8 o9 o10 o11 : Option Value), j + a = f.length → rfr (fun x => x = 151) FF GN M2 M4 → (∀ i, zI M4 1529 i = zI M2 1529 i) → zI M4 1533 151 = nI f.length → (∀ i v, i < j → f[i]? = some v → cel M4 (15100 + i) = etm v) → (∀ i v, j < i → (t :: f)[i]? = some v → cel M4 (15100 + i) = etm v) → wX8_divided d (fun r M2 => r = [] ∧ P M2) 98 [some (.ref 1529), some (.int (nI 151)), some (.int (nI 152)), o3, o4, some (.int (nI 15100)), some (.int (nI j)), o7, o8, o9, o10, o11] [] M4 := by
                intro a
                induction a with
                | zero =>
                  intro j M4 o3 o4 o6 o7 o8 o9 o10 o11 hj hfr4 hF4 hs4 hlo4 hhi4
                  have hM4 := mst_fr hfr4 hM2
                  obtain ⟨q16, ⟨p3, p4, p5, p6, -⟩, ⟨w0, w1, w2, w3⟩, -⟩ := id hM4
                  refine sg_X8_divided_98 _ _ _ _ _ _ _ _ _ _ _ _ _ ⟨q16, by rw [p6, w3], by rw [p6, w3]; exact z151, fun _ => ?_, fun z => absurd (by rw [p6, c151, hs4, show j = f.length by omega]; exact Int32.le_refl _) z⟩
                  exact next M4 _ _ _ _ _ _ _ _ _ (rfr_tr (rfr_up hfr2 (fun x z => Or.inr z) (fun _ z => z) (fun _ z => z)) (rfr_up hfr4 (fun x z => Or.inl z) (fun _ z => z) (fun _ z => z))) hF4 (qdy_c.mpr ⟨hs4, fun i v hi => hlo4 i v (by have := (List.getElem?_eq_some_iff.mp hi).1; omega) hi⟩) (qdy_fr hfr4 (by omega) hrl hqr2)
                | succ a iha =>
                  intro j M4 o3 o4 o6 o7 o8 o9 o10 o11 hj hfr4 hF4 hs4 hlo4 hhi4
                  have hM4 := mst_fr hfr4 hM2
                  obtain ⟨q16, ⟨p3, p4, p5, p6, -⟩, ⟨w0, w1, w2, w3⟩, -⟩ := id hM4
                  have hfl2 : f.length ≤ 99 := by simp at hfl; omega
                  have cx := cl_n (n := 15100 + j) (by omega)
                  have cy := cl_n (n := 15100 + j + 1) (by omega)
                  have zx : zin (nI (15100 + j)) 37200 := zin_n (by omega) (by omega)
                  have zy : zin (nI (15100 + j + 1)) 37200 := zin_n (by omega) (by omega)
                  refine sg_X8_divided_98 _ _ _ _ _ _ _ _ _ _ _ _ _ ⟨q16, by rw [p6, w3], by rw [p6, w3]; exact z151, fun z => ?_, fun _ => ?_⟩
                  · rw [p6, c151, hs4] at z
                    have := (nI_leI (by omega) (by omega)).mp z
                    omega
                  · rw [nI_add, nI_1, cx, cy]
                    refine ⟨q16, q16, by rw [p3, w0], by rw [p3, w0]; exact zy, by rw [p3, w0], by rw [p3, w0]; exact zx, ?_⟩
                    intro N1
                    refine ⟨q16, q16, by rw [p4, w1], by rw [p4, w1]; exact zy, by rw [p4, w1], by rw [p4, w1]; exact zx, ?_⟩
                    intro N2
                    refine ⟨q16, q16, by rw [p5, w2], by rw [p5, w2]; exact zy, by rw [p5, w2], by rw [p5, w2]; exact zx, ?_⟩
                    intro N3 v6
                    have n3 : N3 = zu3 M4 (15100 + j) (cel M4 (15100 + j + 1)) := by
                      rw [← zu3_cp]
                      rw [show N3 = zuI N2 (zR M4 1529 5) (15100 + j) (zI N2 (zR M4 1529 5) (15100 + j + 1)) from rfl, show N2 = zuI N1 (zR M4 1529 4) (15100 + j) (zI N1 (zR M4 1529 4) (15100 + j + 1)) from rfl, show N1 = zuI M4 (zR M4 1529 3) (15100 + j) (zI M4 (zR M4 1529 3) (15100 + j + 1)) from rfl, p3, p4, p5]
                    clear_value N3
                    rw [show v6 = nI (j + 1) from nI_1 j]
                    refine iha (j + 1) N3 _ _ o6 _ _ _ _ _ (by omega) (rfr_tr hfr4 (by rw [n3]; exact rfr_c (by show (15100 + j) / 100 = 151; omega))) (fun i => by rw [n3, zI_3 (by omega)]; exact hF4 i) (by rw [n3, zI_3 (by omega)]; exact hs4) (fun i v hi hv => ?_) (fun i v hi hv => ?_)
                    · rw [n3, cel_3]
                      by_cases hij : i = j
                      · rw [if_pos (by omega)]
                        rw [hij] at hv
                        rw [show 15100 + j + 1 = 15100 + (j + 1) by omega]
                        exact hhi4 (j + 1) v (by omega) (by rw [List.getElem?_cons_succ]; exact hv)
                      · rw [if_neg (by omega)]
                        exact hlo4 i v (by omega) hv
                    · rw [n3, cel_3, if_neg (by omega)]
                      exact hhi4 i v (by omega) hv
              have hcel3 : ∀ x, cel M3 x = cel M2 x := fun x => by
                rw [m3]
                unfold cel
                rw [zI_uI, if_neg (by omega), zI_uI, if_neg (by omega), zI_uI, if_neg (by omega)]
              refine lp f.length 0 M3 _ _ o7 _ _ _ _ _ (by omega) (by rw [m3]; exact rfr_3 rfl) (fun i => by rw [m3, zI_uI, if_neg (by omega)]) (by rw [m3, zI_uI, if_pos ⟨rfl, rfl⟩]) (fun i v hi => absurd hi (Nat.not_lt_zero _)) (fun i v hi hv => ?_)
              rw [hcel3]
              exact hc2 i v hv
            refine sp_rcomes (t := t) (by omega) hM1 hv1 (by omega) hqr1 hgr.1 hgr.2.1 ht htv (by rw [g1 11 (by omega)]; exact hz11) (fun r' M2 hr' hfr2 hz2 hq2 => ?_) (fun M2 hn2 hfr2 hz2 hq2 => ?_)
            · rw [hr'] at heq
              dsimp only at heq
              have hgr' := acome_gd hgr ht htv htc hr'
              refine shift M2 r' hfr2 hq2 hgr'.1.2.2 fun M4 o3 o4 o5 o6 o7 o8 o9 o10 o11 hfr4 hF4 hqf4 hqr4 => ?_
              have hfr4' : rfr TD FD GN M M4 := rfr_tr hfa (rfr_up hfr4 (fun x z => by unfold TD; omega) (fun j z => Or.inl z) (fun _ z => z))
              refine ih (s + 1) f r' qs M4 _ _ _ _ _ _ _ _ _ (by omega) hfr4' (by rw [hF4]; exact hz2) ?_ ?_ hqf4 (pgd_tail hgf) hqr4 hgr' hql hqg (fun i hi => qdy_fr hfr4 (by omega) (qlen i) (hqq1 i hi)) heq
              · rw [hfr4.2.2.2.2.2.2.1 12 (by unfold FF; omega), g1 12 (by omega)]; exact hz12
              · rw [hfr4.2.2.2.2.2.2.1 13 (by unfold FF; omega)]; exact s1
            · rw [hn2] at heq
              have heq : (2, n, r, qs) = fin := heq
              refine shift M2 r hfr2 hq2 hgr.1.2.2 fun M4 o3 o4 o5 o6 o7 o8 o9 o10 o11 hfr4 hF4 hqf4 hqr4 => ?_
              have hfr4' : rfr TD FD GN M M4 := rfr_tr hfa (rfr_up hfr4 (fun x z => by unfold TD; omega) (fun j z => Or.inl z) (fun _ z => z))
              have hM4 := mst_fr hfr4' hM
              obtain ⟨q16, ⟨p3, p4, p5, p6, -⟩, ⟨w0, w1, w2, w3⟩, -⟩ := id hM4
              have z11 : zI M4 1529 11 = 1 := by rw [hF4]; exact hz2
              have done : P M4 := by
                subst heq
                exact h _ M4 rfl hfr4' (by rw [hfr4.2.2.2.2.2.2.1 13 (by unfold FF; omega), s1]; congr 1; show s + 1 = lim - n; omega) (fun z => absurd (show (2 : Nat) = 0 from z) (by decide)) (fun z => absurd (show (2 : Nat) = 1 from z) (by decide)) (fun _ => ⟨z11, by rw [hfr4.2.2.2.2.2.2.1 12 (by unfold FF; omega), g1 12 (by omega)]; exact hz12⟩) (Or.inr (Or.inr rfl))
              exact sg_X8_divided_19 _ _ _ _ _ _ _ _ _ _ _ _ _ ⟨q16, by rw [p6, w3], by rw [p6, w3]; exact z151, fun _ => ⟨rfl, done⟩, fun _ => ⟨q16, fun _ => ⟨rfl, done⟩, fun z => absurd (Classical.not_not.mp z) (by rw [z11]; decide)⟩⟩
          -- one divides
          have some' : ∀ (i : Nat) (o5 o6 o7 o8 o9 o10 o11 : Option Value), i < cnt → afst lo t.2 0 bs = some i → wX8_divided d (fun r M2 => r = [] ∧ P M2) 68 [some (.ref 1529), some (.int (nI 151)), some (.int (nI 152)), some (.int (e5 t.2)), some (.int (nI i)), o5, o6, o7, o8, o9, o10, o11] [] M1 := fun i o5 o6 o7 o8 o9 o10 o11 hic haf => by
            rw [haf] at heq
            dsimp only at heq
            obtain ⟨-, -, b, hb, hdv⟩ := afst_at haf
            rw [Nat.sub_zero] at hb
            rw [show bs.getD i [] = b by rw [List.getD_eq_getElem?_getD, hb]; rfl] at heq
            obtain ⟨b1, b2⟩ := hbs1 i b hb
            obtain ⟨hbg, mb, lb, rfl⟩ := b2
            have hdv : mdvd mb t.2 := hdv
            obtain ⟨q16, ⟨p3, p4, p5, p6, -⟩, ⟨w0, w1, w2, w3⟩, -⟩ := id hM1
            obtain ⟨t0, t1, t2⟩ := hqf1.2 0 t rfl
            obtain ⟨u0, u1, u2⟩ := b1.2 0 _ rfl
            have cz := cl_n (n := 15100) (by omega)
            have cb := cl_n (n := 100 * (fo + i)) (by omega)
            have zz : zin (nI 15100) 37200 := zin_n (by omega) (by omega)
            have zbb : zin (nI (100 * (fo + i))) 37200 := zin_n (by omega) (by omega)
            refine sg_X8_divided_68 _ _ _ _ _ _ _ _ _ _ _ _ _ ?_
            intro v5
            have e5' : v5 = nI 15100 := rfl
            clear_value v5
            subst e5'
            refine ⟨q16, fun _ => ?_, fun z => absurd (Classical.not_not.mp z) (by
              rw [F1 20 (by unfold FD FF; omega), hmo]
              intro y
              have := (nI_eq (by omega) (by omega)).mp y
              omega)⟩
            refine sg_X8_divided_149 _ _ _ _ _ _ _ _ _ _ _ _ _ ⟨q16, ?_⟩
            intro v6
            have e6' : v6 = nI (fo + i) := by rw [show v6 = zI M1 1529 19 + nI i from rfl, F1 19 (by unfold FD FF; omega), hfo, nI_add]
            clear_value v6
            subst e6'
            rw [show (100 : Int32) * nI (fo + i) = nI (100 * (fo + i)) by rw [show (100 : Int32) = nI 100 from rfl, pk_mul], cb, cz]
            refine ⟨q16, by rw [p3, w0], by rw [p3, w0]; exact zbb, ?_⟩
            intro v7
            have e7' : v7 = 1 := by rw [show v7 = zI M1 (zR M1 1529 3) (100 * (fo + i)) from rfl, p3]; exact u0
            clear_value v7
            subst e7'
            refine ⟨q16, by rw [p4, w1], by rw [p4, w1]; exact zbb, ?_⟩
            intro v8
            have e8' : v8 = 1 := by rw [show v8 = zI M1 (zR M1 1529 4) (100 * (fo + i)) from rfl, p4]; exact u1
            clear_value v8
            subst e8'
            have p1 : (0 : Int32) ≤ 1 := by decide
            refine ⟨q16, by rw [p3, w0], by rw [p3, w0]; exact zz, q16, by rw [p4, w1], by rw [p4, w1]; exact zz, fun _ => ⟨fun _ => ⟨q16, ?_⟩, fun z => absurd p1 z⟩, fun z => absurd p1 z⟩
            rw [p3, p4, show zI M1 1530 15100 = Int32.ofInt t.1.1 from t0, show zI M1 1531 15100 = Int32.ofInt t.1.2 from t1]
            obtain ⟨⟨f1, f2⟩, f3, f4⟩ := id ht.1
            refine sp_rmul (A := t.1.1) (B := t.1.2) (C := 1) (E := 1) (by omega) hM1 (by rw [g1 11 (by omega)]; exact hz11) (tI64 (by omega)) (tI64 (by omega)) (by decide) (by decide) (by omega) (by omega) (by omega) (by omega) fun M2 hfr2 hlo2' => ?_
            rw [Int.mul_one, Int.mul_one, alow_self ht.1 htc] at hlo2'
            obtain ⟨l1, l2, l3⟩ := hlo2'
            have hM2 := mst_fr hfr2 hM1
            have hv2 := mvk_fr hfr2 (by unfold FF; omega) (by unfold FF; omega) hv1
            have hqf2 := qdy_fr hfr2 (fun z => z) hgf.1.2.2 hqf1
            have hb2 := qdy_fr hfr2 (fun z => z) hbg.1.2.2 b1
            have hfr2' : rfr TD FD GN M M2 := rfr_tr hfa (rfr_up hfr2 (fun _ z => z.elim) (fun _ z => Or.inl z) (fun _ z => z))
            refine sg_X8_divided_196 _ _ _ _ _ _ _ _ _ _ _ _ _ ⟨hM2.1, ?_⟩
            intro v9
            refine ⟨hM2.1, ?_⟩
            intro v10
            rw [show v9 = Int32.ofInt t.1.1 from l2, show v10 = Int32.ofInt t.1.2 from l3]
            clear_value v9 v10
            refine ⟨hM2.1, sp_rlead (by omega) hM2 (by omega) hb2 ?_⟩
            intro v11
            rw [show v11 = e5 (msub t.2 mb) from e5_sub hdv, ineg (by omega)]
            clear_value v11
            have htn : ((-t.1.1 : Int), t.1.2).1 ≠ 0 := by
              have := ht.2.1
              dsimp only
              omega
            have hms := vin_sub (b := mb) htv
            refine ⟨hM2.1, sp_radds (c := (-t.1.1, t.1.2)) (by omega) hM2 hv2 (by omega) (by omega) (by omega) hqf2 hb2 hgf.1 hbg.1 hgf.2.1 hbg.2.1 (fneg_ok ht.1) htn (msub_ok ht.2.2) hms l1 (fun F' M3 hF' hfr3 hz3 hq3 => ?_) (fun F' M3 hn3 hfr3 hz3 hq3 hql3 => ?_)⟩
            · rw [show aadds k (-t.1.1, t.1.2) (msub t.2 (lmon (((1, 1), mb) :: lb))) (((1, 1), mb) :: lb) (t :: f) = some F' from hF'] at heq
              dsimp only at heq
              have hgF := aadds_gd (fneg_ok ht.1) htn hms hbg hgf hF'
              have hM3 := mst_fr hfr3 hM2
              have hv3 := mvk_fr hfr3 (by unfold FF; omega) (by unfold FF; omega) hv2
              have hqi : qs.getD i [] ∈ qs := by
                rw [List.getD_eq_getElem?_getD, List.getElem?_eq_getElem (show i < qs.length by omega)]
                exact List.getElem_mem _
              have hgi := hqg _ hqi
              have hqi3 : qdy M3 (100 + i) (qs.getD i []) := qdy_fr hfr3 (by omega) (qlen i) (qdy_fr hfr2 (fun z => z) (qlen i) (hqq1 i (by omega)))
              have hfr3' : rfr TD FD GN M M3 := rfr_tr hfr2' (rfr_up hfr3 (fun x z => Or.inl z) (fun _ z => Or.inl z) (fun _ z => z))
              refine ⟨hM3.1, ?_⟩
              rw [show (100 : Int32) + nI i = nI (100 + i) from nI_add 100 i]
              have hti : tok (t.1, msub t.2 mb) := ⟨ht.1, ht.2.1, msub_ok ht.2.2⟩
              refine sp_rcomes (t := (t.1, msub t.2 mb)) (by omega) hM3 hv3 (by omega) hqi3 hgi.1 hgi.2.1 hti hms hz3 (fun q' M4 hq' hfr4 hz4 hq4 => ?_) (fun M4 hn4 hfr4 hz4 hq4 => ?_)
              · rw [show acome k (t.1, msub t.2 (lmon (((1, 1), mb) :: lb))) (qs.getD i []) = some q' from hq'] at heq
                dsimp only at heq
                have hgq := acome_gd hgi hti hms htc hq'
                have hfr4' : rfr TD FD GN M M4 := rfr_tr hfr3' (rfr_up hfr4 (fun x z => by unfold TD; omega) (fun _ z => Or.inl z) (fun _ z => z))
                refine ih (s + 1) F' r (qs.set i q') M4 _ _ _ _ _ _ _ _ _ (by omega) hfr4' hz4 ?_ ?_ (qdy_fr hfr4 (by omega) hgF.1.2.2 hq3) hgF (qdy_fr hfr4 (by omega) hgr.1.2.2 (qdy_fr hfr3 (by omega) hgr.1.2.2 (qdy_fr hfr2 (fun z => z) hgr.1.2.2 hqr1))) hgr (by rw [List.length_set]; exact hql) (fun q hqm => ?_) (fun j hj => ?_) heq
                · rw [hfr4.2.2.2.2.2.2.1 12 (by unfold FF; omega), hfr3.2.2.2.2.2.2.1 12 (by unfold FF; omega), hfr2.2.2.2.2.2.2.1 12 (by unfold FF; omega), g1 12 (by omega)]; exact hz12
                · rw [hfr4.2.2.2.2.2.2.1 13 (by unfold FF; omega), hfr3.2.2.2.2.2.2.1 13 (by unfold FF; omega), hfr2.2.2.2.2.2.2.1 13 (by unfold FF; omega)]; exact s1
                · rcases List.mem_or_eq_of_mem_set hqm with hqm | rfl
                  · exact hqg q hqm
                  · exact hgq
                · by_cases hji : j = i
                  · subst hji
                    rw [show (qs.set j q').getD j [] = q' by rw [List.getD_eq_getElem?_getD, List.getElem?_set, if_pos rfl, if_pos (by omega)]; rfl]
                    exact hq4
                  · rw [show (qs.set i q').getD j [] = qs.getD j [] by rw [List.getD_eq_getElem?_getD, List.getElem?_set, if_neg (fun z => hji z.symm), List.getD_eq_getElem?_getD]]
                    exact qdy_fr hfr4 (by omega) (qlen j) (qdy_fr hfr3 (by omega) (qlen j) (qdy_fr hfr2 (fun z => z) (qlen j) (hqq1 j hj)))
              · rw [show acome k (t.1, msub t.2 (lmon (((1, 1), mb) :: lb))) (qs.getD i []) = none from hn4] at heq
                have heq : (2, n, r, qs) = fin := heq
                have hfr4' : rfr TD FD GN M M4 := rfr_tr hfr3' (rfr_up hfr4 (fun x z => by unfold TD; omega) (fun _ z => Or.inl z) (fun _ z => z))
                have hM4 := mst_fr hfr4' hM
                obtain ⟨q16, ⟨p3, p4, p5, p6, -⟩, ⟨w0, w1, w2, w3⟩, -⟩ := id hM4
                have done : P M4 := by
                  subst heq
                  exact h _ M4 rfl hfr4' (by rw [hfr4.2.2.2.2.2.2.1 13 (by unfold FF; omega), hfr3.2.2.2.2.2.2.1 13 (by unfold FF; omega), hfr2.2.2.2.2.2.2.1 13 (by unfold FF; omega), s1]; congr 1; show s + 1 = lim - n; omega) (fun z => absurd (show (2 : Nat) = 0 from z) (by decide)) (fun z => absurd (show (2 : Nat) = 1 from z) (by decide)) (fun _ => ⟨hz4, by rw [hfr4.2.2.2.2.2.2.1 12 (by unfold FF; omega), hfr3.2.2.2.2.2.2.1 12 (by unfold FF; omega), hfr2.2.2.2.2.2.2.1 12 (by unfold FF; omega), g1 12 (by omega)]; exact hz12⟩) (Or.inr (Or.inr rfl))
                exact sg_X8_divided_19 _ _ _ _ _ _ _ _ _ _ _ _ _ ⟨q16, by rw [p6, w3], by rw [p6, w3]; exact z151, fun _ => ⟨rfl, done⟩, fun _ => ⟨q16, fun _ => ⟨rfl, done⟩, fun z => absurd (Classical.not_not.mp z) (by rw [hz4]; decide)⟩⟩
            · rw [show aadds k (-t.1.1, t.1.2) (msub t.2 (lmon (((1, 1), mb) :: lb))) (((1, 1), mb) :: lb) (t :: f) = none from hn3] at heq
              have heq : (2, n, r, qs) = fin := heq
              have hM3 := mst_fr hfr3 hM2
              have hfr3' : rfr TD FD GN M M3 := rfr_tr hfr2' (rfr_up hfr3 (fun x z => Or.inl z) (fun _ z => Or.inl z) (fun _ z => z))
              obtain ⟨q16, ⟨p3, p4, p5, p6, -⟩, ⟨w0, w1, w2, w3⟩, -⟩ := id hM3
              have done : P M3 := by
                subst heq
                exact h _ M3 rfl hfr3' (by rw [hfr3.2.2.2.2.2.2.1 13 (by unfold FF; omega), hfr2.2.2.2.2.2.2.1 13 (by unfold FF; omega), s1]; congr 1; show s + 1 = lim - n; omega) (fun z => absurd (show (2 : Nat) = 0 from z) (by decide)) (fun z => absurd (show (2 : Nat) = 1 from z) (by decide)) (fun _ => ⟨hz3, by rw [hfr3.2.2.2.2.2.2.1 12 (by unfold FF; omega), hfr2.2.2.2.2.2.2.1 12 (by unfold FF; omega), g1 12 (by omega)]; exact hz12⟩) (Or.inr (Or.inr rfl))
              refine ⟨hM3.1, sp_rcomesF (by omega) hM3 hz3 ?_⟩
              exact sg_X8_divided_19 _ _ _ _ _ _ _ _ _ _ _ _ _ ⟨q16, by rw [p6, w3], by rw [p6, w3]; exact z151, fun _ => ⟨rfl, done⟩, fun _ => ⟨q16, fun _ => ⟨rfl, done⟩, fun z => absurd (Classical.not_not.mp z) (by rw [hz3]; decide)⟩⟩
          -- the search
          have search : ∀ (a i : Nat) (o5 o6 o7 o8 o9 o10 o11 : Option Value), i + a = cnt → afst lo t.2 i (bs.drop i) = afst lo t.2 0 bs → wX8_divided d (fun r M2 => r = [] ∧ P M2) 48 [some (.ref 1529), some (.int (nI 151)), some (.int (nI 152)), some (.int (e5 t.2)), some (.int (nI i)), o5, o6, o7, o8, o9, o10, o11] [] M1 := by
            intro a
            induction a with
            | zero =>
              intro i o5 o6 o7 o8 o9 o10 o11 hi hsf
              rw [List.drop_of_length_le (by omega)] at hsf
              have hsf : none = afst lo t.2 0 bs := hsf
              refine sg_X8_divided_48 _ _ _ _ _ _ _ _ _ _ _ _ _ ⟨hM1.1, fun _ => ?_, fun z => absurd (by rw [F1 20 (by unfold FD FF; omega), hmo, show i = cnt by omega]; exact Int32.le_refl _) z⟩
              rw [show i = cnt by omega]
              exact none' _ _ _ _ _ _ _ hsf.symm
            | succ a iha =>
              intro i o5 o6 o7 o8 o9 o10 o11 hi hsf
              have hil : i < bs.length := by omega
              have hu := List.getElem?_eq_getElem hil
              rw [List.drop_eq_getElem_cons hil] at hsf
              have hsf : (if lo ≠ some i ∧ mdv (lmon bs[i]) t.2 = true then some i else afst lo t.2 (i + 1) (bs.drop (i + 1))) = afst lo t.2 0 bs := hsf
              obtain ⟨b1, hbg, mb, lb, hbe⟩ := hbs1 i _ hu
              have next : ¬ (lo ≠ some i ∧ mdv (lmon bs[i]) t.2 = true) → ∀ (o5 o6 o7 o8 o9 o10 o11 : Option Value), wX8_divided d (fun r M2 => r = [] ∧ P M2) 48 [some (.ref 1529), some (.int (nI 151)), some (.int (nI 152)), some (.int (e5 t.2)), some (.int (nI i + 1)), o5, o6, o7, o8, o9, o10, o11] [] M1 := fun hz o5 o6 o7 o8 o9 o10 o11 => by
                rw [if_neg hz] at hsf
                rw [nI_1]
                exact iha (i + 1) _ _ _ _ _ _ _ (by omega) hsf
              have hlm : lmon bs[i] = mb := by rw [hbe]; rfl
              rw [hlm] at next hsf
              rw [hbe] at b1 hbg
              have hmb := (hbg.1.1 _ List.mem_cons_self).2.2
              have hmv := hbg.2.1 _ List.mem_cons_self
              refine sg_X8_divided_48 _ _ _ _ _ _ _ _ _ _ _ _ _ ⟨hM1.1, fun z => ?_, fun _ => ⟨hM1.1, fun c => next (fun z => z.1 ((elo_eq (by omega) hlo2).mp (by rw [F1 21 (by unfold FD FF; omega), hlo] at c; exact c))) _ _ _ _ _ _ _, fun c => ⟨hM1.1, hM1.1, ?_⟩⟩⟩
              · rw [F1 20 (by unfold FD FF; omega), hmo] at z
                have := (nI_leI (by omega) (by omega)).mp z
                omega
              · rw [F1 21 (by unfold FD FF; omega), hlo] at c
                rw [F1 19 (by unfold FD FF; omega), hfo, nI_add]
                refine sp_rlead (by omega) hM1 (by omega) b1 ⟨hM1.1, ?_⟩
                refine sp_rdiv (by omega) hM1 hv1 hmb ht.2.2 hmv (fun hdv => ⟨fun _ => some' i _ _ _ _ _ _ _ (by omega) ?_, fun z => absurd (Classical.not_not.mp z) (by decide)⟩) (fun hdv => ⟨fun z => absurd rfl z, fun _ => next (fun z => hdv (mdv_iff.mp z.2)) _ _ _ _ _ _ _⟩)
                rw [if_pos ⟨fun z => c ((elo_eq (by omega) hlo2).mpr z), mdv_iff.mpr hdv⟩] at hsf
                exact hsf.symm
          exact search cnt 0 _ _ _ _ _ _ _ (by omega) rfl
        · -- it can't be spent
          have z := Classical.not_not.mp z
          rw [hz13, hlim'] at z
          have := (nI_eq (by omega) (by omega)).mp z
          omega
  -- rest and quotients begin as 0
  have init : ∀ (a i : Nat) (M' : zM) (o4 o5 o6 o7 o8 o9 o10 o11 : Option Value), i + a = 25 → rfr (fun x => x = 152 ∨ (100 ≤ x ∧ x < 125)) FN GN M M' → qdy M' 152 [] → (∀ j, j < i → qdy M' (100 + j) []) → wX8_divided d (fun r M2 => r = [] ∧ P M2) 7 [some (.ref 1529), some (.int (nI 151)), some (.int (nI 152)), some (.int (nI i)), o4, o5, o6, o7, o8, o9, o10, o11] [] M' := by
    intro a
    induction a with
    | zero =>
      intro i M' o4 o5 o6 o7 o8 o9 o10 o11 hi hfr hr0 hq0
      refine sg_X8_divided_7 _ _ _ _ _ _ _ _ _ _ _ _ _ ⟨fun _ => ?_, fun z => absurd (by rw [show i = 25 by omega]; exact Int32.le_refl _) z⟩
      have hF : ∀ j, zI M' 1529 j = zI M 1529 j := fun j => hfr.2.2.2.2.2.2.1 j (fun z => z)
      refine loop (lim - st) st f0 [] (List.replicate cnt []) M' _ _ _ _ _ _ _ _ _ (by omega) (rfr_up hfr (fun x z => by unfold TD; omega) (fun _ z => z.elim) (fun _ z => z)) (by rw [hF]; exact hfu) (by rw [hF]; exact hsp) (by rw [hF]; exact hst) (qdy_fr hfr (by omega) hfk.1.2.2 hf0) hfk hr0 pgd_nil List.length_replicate (fun q hq => by rw [(List.mem_replicate.mp hq).2]; exact pgd_nil) (fun j hj => ?_) hfin
      rw [show (List.replicate cnt ([] : aP)).getD j [] = [] by
        rw [List.getD_eq_getElem?_getD, List.getElem?_replicate]
        split <;> rfl]
      exact hq0 j (by omega)
    | succ a iha =>
      intro i M' o4 o5 o6 o7 o8 o9 o10 o11 hi hfr hr0 hq0
      have hM' := mst_fr hfr hM
      obtain ⟨q16, ⟨p3, p4, p5, p6, -⟩, ⟨w0, w1, w2, w3⟩, -⟩ := id hM'
      have ci := cl_n (n := 100 + i) (by omega)
      refine sg_X8_divided_7 _ _ _ _ _ _ _ _ _ _ _ _ _ ⟨fun z => ?_, fun _ => ?_⟩
      · have := (nI_leI (a := 25) (by omega) (by omega)).mp z
        omega
      · rw [show (100 : Int32) + nI i = nI (100 + i) from nI_add 100 i, ci]
        refine ⟨q16, by rw [p6, w3], by rw [p6, w3]; exact zin_n (by omega) (by omega), ?_⟩
        intro M1 v3
        have m1 : M1 = zuI M' 1533 (100 + i) 0 := by rw [show M1 = zuI M' (zR M' 1529 6) (100 + i) 0 from rfl, p6]
        clear_value M1
        rw [show v3 = nI (i + 1) from nI_1 i]
        have hfr1 : rfr (fun x => x = 100 + i) FN GN M' M1 := by rw [m1]; exact rfr_3 rfl
        refine iha (i + 1) M1 _ _ _ _ _ _ _ _ (by omega) (rfr_tr hfr (rfr_up hfr1 (fun x z => Or.inr (by omega)) (fun _ z => z) (fun _ z => z))) (qdy_fr hfr1 (by omega) (Nat.zero_le _) hr0) fun j hj => ?_
        by_cases hji : j = i
        · subst hji
          exact ⟨by rw [m1, zI_uI, if_pos ⟨rfl, rfl⟩]; rfl, fun j t hj => by cases hj⟩
        · exact qdy_fr hfr1 (by omega) (Nat.zero_le _) (hq0 j (by omega))
  obtain ⟨s16, ⟨r3, r4, r5, r6, -⟩, ⟨k0, k1, k2, k3⟩, -⟩ := id hM
  refine en_X8_divided _ _ _ M (sg_X8_divided_0 _ _ _ M ⟨s16, by rw [r6, k3], by rw [r6, k3]; exact zin_n (by omega) (by omega), ?_⟩)
  intro M1
  have m1 : M1 = zuI M 1533 152 0 := by rw [show M1 = zuI M (zR M 1529 6) (nI 152).toNatClampNeg 0 from rfl, r6, c152]
  clear_value M1
  refine init 25 0 M1 _ _ _ _ _ _ _ _ (by omega) (by rw [m1]; exact rfr_3 (Or.inl rfl)) ⟨by rw [m1, zI_uI, if_pos ⟨rfl, rfl⟩]; rfl, fun j t hj => by cases hj⟩ fun j hj => absurd hj (Nat.not_lt_zero _)
