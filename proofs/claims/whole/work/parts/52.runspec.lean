/-! DIVIDING, in the class -/
/-- code (0 done, 1 SPENT, 2 FULL), steps left, rest, quotients; so many steps at most -/
def adiv (k : Nat) (bs : List aP) (lo : Option Nat) : Nat → aP → aP → List aP → Nat × Nat × aP × List aP
  | 0, [], r, qs => (0, 0, r, qs)
  | 0, _ :: _, r, qs => (1, 0, r, qs)
  | n + 1, [], r, qs => (0, n + 1, r, qs)
  | n + 1, t :: f, r, qs => match afst lo t.2 0 bs with
    | none => (match acome k t r with
      | none => (2, n, r, qs)
      | some r' => adiv k bs lo n f r' qs)
    | some i => (match aadds k (-t.1.1, t.1.2) (msub t.2 (lmon (bs.getD i []))) (bs.getD i []) (t :: f) with
      | none => (2, n, r, qs)
      | some f' => match acome k (t.1, msub t.2 (lmon (bs.getD i []))) (qs.getD i []) with
        | none => (2, n, r, qs)
        | some q => adiv k bs lo n f' r (qs.set i q))
theorem adiv_step {k : Nat} {bs : List aP} {lo : Option Nat} {n : Nat} {t : aT} {f r : aP} {qs : List aP} : adiv k bs lo (n + 1) (t :: f) r qs = (match afst lo t.2 0 bs with
    | none => (match acome k t r with
      | none => (2, n, r, qs)
      | some r' => adiv k bs lo n f r' qs)
    | some i => (match aadds k (-t.1.1, t.1.2) (msub t.2 (lmon (bs.getD i []))) (bs.getD i []) (t :: f) with
      | none => (2, n, r, qs)
      | some f' => match acome k (t.1, msub t.2 (lmon (bs.getD i []))) (qs.getD i []) with
        | none => (2, n, r, qs)
        | some q => adiv k bs lo n f' r (qs.set i q))) := rfl
theorem afst_at {lo : Option Nat} {m : aM} : ∀ {bs : List aP} {i j : Nat}, afst lo m i bs = some j → i ≤ j ∧ lo ≠ some j ∧ ∃ b, bs[j - i]? = some b ∧ mdvd (lmon b) m
  | [], _, _, h => by cases h
  | b :: bs, i, j, h => by
    unfold afst at h
    split at h
    · rename_i hc
      cases h
      exact ⟨Nat.le_refl _, hc.1, b, by simp, mdv_iff.mp hc.2⟩
    · obtain ⟨h1, h2, b', h3, h4⟩ := afst_at h
      refine ⟨by omega, h2, b', ?_, h4⟩
      rw [show j - i = (j - (i + 1)) + 1 by omega, List.getElem?_cons_succ]
      exact h3
def ecode : Nat → Int32
  | 0 => 0
  | 1 => -6
  | _ => -7
theorem msub_ok {a b : aM} (h : mok a) : mok (msub a b) := by
  unfold mok at *
  unfold msub
  dsimp only
  omega
theorem fneg_ok {f : aF} (h : fok f) : fok (-f.1, f.2) := by
  obtain ⟨⟨h1, h2⟩, h3, h4⟩ := h
  exact ⟨⟨by dsimp only; omega, by dsimp only; omega⟩, h3, h4⟩
theorem srt_tail {k : Nat} {t : aT} {f : aP} (h : pok k (t :: f)) : pok k f := ⟨fun u hu => h.1 u (List.mem_cons_of_mem _ hu), (List.pairwise_cons.mp h.2.1).2, by have := h.2.2; simp at this; omega⟩
theorem sp_run {d D R o w k cnt lim : Nat} {M : zM} {bs : List aP} {eid : Nat → Nat} {lo : Option Nat} {f0 r0 : aP} {qs0 : List aP} {st0 : Nat} {P : Int32 → zM → Prop} (hd : 5 ≤ d) (hD : dst M D o) (hR : rst M R o w eid) (ho : ost M o k) (hoD : ¬ inD D o) (hRD : ∀ i, i < 25 → D + 106 ≤ eid i ∨ eid i + 6 ≤ D) (hbs : ∀ (i : Nat) (b : aP), bs[i]? = some b → pdy M (eid i + 1) k b ∧ pok k b ∧ b ≠ []) (hc : bs.length = cnt) (hcnt : cnt ≤ 24) (hlo : ∀ j, lo = some j → j < 2 ^ 31)
    (hd0 : ddy M D k f0 r0 qs0) (hf0 : pok k f0) (hr0 : pok k r0) (hq0 : ∀ q ∈ qs0, pok k q) (hql : qs0.length = cnt) (hst : zI M D 3 = nI st0) (hlim : zI M D 4 = nI lim) (hsl : st0 ≤ lim) (hl2 : lim ≤ 20000)
    (h : ∀ M', zfr (inD D) M M' → zI M' D 4 = nI lim → zI M' D 3 = nI (lim - (adiv k bs lo (lim - st0) f0 r0 qs0).2.1) → ((adiv k bs lo (lim - st0) f0 r0 qs0).1 = 0 → ddy M' D k [] (adiv k bs lo (lim - st0) f0 r0 qs0).2.2.1 (adiv k bs lo (lim - st0) f0 r0 qs0).2.2.2 ∧ pok k (adiv k bs lo (lim - st0) f0 r0 qs0).2.2.1 ∧ (∀ q ∈ (adiv k bs lo (lim - st0) f0 r0 qs0).2.2.2, pok k q) ∧ (adiv k bs lo (lim - st0) f0 r0 qs0).2.2.2.length = cnt) → P (ecode (adiv k bs lo (lim - st0) f0 r0 qs0).1) M') : ycI d nX0_run [.ref D, .ref R, .int (nI cnt), .int (elo lo)] M P := by
  obtain ⟨d, rfl, hde⟩ := dS hd
  have c0 : (0 : Int32).toNatClampNeg = 0 := by decide
  generalize hfin : adiv k bs lo (lim - st0) f0 r0 qs0 = fin at h
  have loop : ∀ (n st : Nat) (f r : aP) (qs : List aP) (M' : zM) (o4 o5 o6 o7 o8 : Option Value), st + n = lim → zfr (inD D) M M' → ddy M' D k f r qs → pok k f → pok k r → (∀ q ∈ qs, pok k q) → qs.length = cnt → zI M' D 3 = nI st → zI M' D 4 = nI lim → adiv k bs lo n f r qs = fin → wX0_run d (fun r M2 => ∃ x : Int32, r = [.int x] ∧ P x M2) 0 [some (.ref D), some (.ref R), some (.int (nI cnt)), some (.int (elo lo)), o4, o5, o6, o7, o8] [] M' := by
    intro n
    induction n with
    | zero =>
      intro st f r qs M' o4 o5 o6 o7 o8 hn hfr hdd hf hr hq hqs hs3 hs4 heq
      have hD' := dst_fr hfr hD
      have hp1 := hD'.2.2.2.2.2.2.1
      have e4 : zI M' (zR M' D 0) 4 = nI f.length := by rw [hD'.2.1]; exact hdd.1.1
      have hfl := hf.2.2
      cases f with
      | nil =>
        have heq : (0, 0, r, qs) = fin := heq
        subst heq
        have z0 : zI M' (zR M' D 0) 4 ≤ 0 := by rw [e4]; decide
        refine sg_X0_run_0 _ _ _ _ _ _ _ _ _ _ ⟨hD'.1, by rw [hD'.2.1]; exact hp1.1, fun _ => ⟨hD'.1, by rw [hD'.2.1]; exact hp1.1, fun _ => ⟨_, rfl, h M' hfr hs4 (by rw [hs3]; congr 1) fun _ => ⟨hdd, hr, hq, hqs⟩⟩, fun z => absurd z0 z⟩, fun z => absurd z0 z⟩
      | cons t f =>
        have heq : (1, 0, r, qs) = fin := heq
        subst heq
        have z0 : ¬ zI M' (zR M' D 0) 4 ≤ 0 := by
          rw [e4]
          intro z
          have := (nI_leI (b := 0) (by omega) (by omega)).mp z
          simp at this
        have z1 : zI M' D 4 ≤ zI M' D 3 := by rw [hs3, hs4, show st = lim by omega]; exact Int32.le_refl _
        refine sg_X0_run_0 _ _ _ _ _ _ _ _ _ _ ⟨hD'.1, by rw [hD'.2.1]; exact hp1.1, fun z => absurd z z0, fun _ => ⟨hD'.1, hD'.1, fun _ => ⟨hD'.1, by rw [hD'.2.1]; exact hp1.1, fun z => absurd z z0, fun _ => ⟨_, rfl, h M' hfr hs4 (by rw [hs3]; congr 1) (fun z => absurd (show (1 : Nat) = 0 from z) (by decide))⟩⟩, fun z => absurd z1 z⟩⟩
    | succ n ih =>
      intro st f r qs M' o4 o5 o6 o7 o8 hn hfr hdd hf hr hq hqs hs3 hs4 heq
      have hD' := dst_fr hfr hD
      have hp1 := hD'.2.2.2.2.2.2.1
      have e4 : zI M' (zR M' D 0) 4 = nI f.length := by rw [hD'.2.1]; exact hdd.1.1
      have hfl := hf.2.2
      cases f with
      | nil =>
        have heq : (0, n + 1, r, qs) = fin := heq
        subst heq
        have z0 : zI M' (zR M' D 0) 4 ≤ 0 := by rw [e4]; decide
        refine sg_X0_run_0 _ _ _ _ _ _ _ _ _ _ ⟨hD'.1, by rw [hD'.2.1]; exact hp1.1, fun _ => ⟨hD'.1, by rw [hD'.2.1]; exact hp1.1, fun _ => ⟨_, rfl, h M' hfr hs4 (by rw [hs3]; congr 1; show st = lim - (n + 1); omega) fun _ => ⟨hdd, hr, hq, hqs⟩⟩, fun z => absurd z0 z⟩, fun z => absurd z0 z⟩
      | cons t f =>
        rw [adiv_step] at heq
        have ht := hf.1 t List.mem_cons_self
        have z0 : ¬ zI M' (zR M' D 0) 4 ≤ 0 := by
          rw [e4]
          intro z
          have := (nI_leI (b := 0) (by omega) (by omega)).mp z
          simp at this
        have z1 : ¬ zI M' D 4 ≤ zI M' D 3 := by
          rw [hs3, hs4]
          intro z
          have := (nI_leI (by omega) (by omega)).mp z
          omega
        refine sg_X0_run_0 _ _ _ _ _ _ _ _ _ _ ⟨hD'.1, by rw [hD'.2.1]; exact hp1.1, fun z => absurd z z0, fun _ => ⟨hD'.1, hD'.1, fun z => absurd z z1, fun _ => ⟨hD'.1, hD'.1, ?_⟩⟩⟩
        intro M1
        have hfr1 : zfr (inD D) M' M1 := zfr_uI ⟨Nat.le_refl _, by omega⟩
        have hM := zfr_tr hfr hfr1
        have hfr1' : zfr (fun a => a = D) M' M1 := zfr_uI rfl
        have hD1 := dst_fr hfr1 hD'
        have hR1 := rst_fr hM hR
        have ho1 := ost_fr hM hoD ho
        have g1 := hdd.1.2 0 t rfl
        have hdd1 : ddy M1 D k (t :: f) r qs := ⟨pdy_fr hfr1' (fun a ha => by unfold inP at ha; omega) hdd.1, pdy_fr hfr1' (fun a ha => by unfold inP at ha; omega) hdd.2.1, fun i q hi => pdy_fr hfr1' (fun a ha => by unfold inP at ha; omega) (hdd.2.2 i q hi)⟩
        have hs31 : zI M1 D 3 = nI (st + 1) := by
          rw [show M1 = zuI M' D 3 (zI M' D 3 + 1) from rfl, zI_uI, if_pos ⟨rfl, rfl⟩, hs3, nI_1]
        have hs41 : zI M1 D 4 = nI lim := by
          rw [show M1 = zuI M' D 3 (zI M' D 3 + 1) from rfl, zI_uI, if_neg (by omega)]
          exact hs4
        have hbs1 : ∀ (i : Nat) (b : aP), bs[i]? = some b → pdy M1 (eid i + 1) k b ∧ pok k b ∧ b ≠ [] := fun i b hb => by
          have hi := (List.getElem?_eq_some_iff.mp hb).1
          have hap := hRD i (by omega)
          obtain ⟨a1, a2, a3⟩ := hbs i b hb
          exact ⟨pdy_fr hM (fun a ha => by unfold inP at ha; unfold inD; omega) a1, a2, a3⟩
        refine ⟨hD'.1, by rw [hD'.2.1]; exact hp1.1, by rw [hD'.2.1]; exact p_k1 hp1, by rw [hD'.2.1, p_l1 hp1]; exact zin_n (j := 0) (by omega) (by omega), ?_⟩
        intro w4
        refine ⟨hD'.1, by rw [hD'.2.1]; exact hp1.1, by rw [hD'.2.1]; exact p_k2 hp1, by rw [hD'.2.1, p_l2 hp1]; exact zin_n (j := 0) (by omega) (by omega), ?_⟩
        intro v6
        have ew : w4 = eF t.1 := by
          rw [show w4 = zL M1 (zR M' (zR M' D 0) 1) (0 : Int32).toNatClampNeg from rfl, c0, hD'.2.1, hp1.2.2.1]
          exact (hdd1.1.2 0 t rfl).1
        have ev : v6 = e8 t.2 := by
          rw [show v6 = zI M1 (zR M' (zR M' D 0) 2) (0 : Int32).toNatClampNeg from rfl, c0, hD'.2.1, hp1.2.2.2.1]
          exact (hdd1.1.2 0 t rfl).2.1
        clear_value w4 v6
        subst ew ev
        refine ⟨hD1.1, ?_⟩
        refine sp_firstDivisor (by omega) hD1 hR1 hdd1.1 ht.2.2 hbs1 hc hcnt hlo fun x hx1 hx2 => ⟨fun c => ?_, fun c => ?_⟩
        · cases haf : afst lo t.2 0 bs with
          | none => exact absurd (hx2 haf ▸ c) (by decide)
          | some i =>
            rw [haf] at heq
            dsimp only at heq
            obtain ⟨rfl, hic⟩ := hx1 i haf
            obtain ⟨-, -, b, hb, hdv⟩ := afst_at haf
            rw [Nat.sub_zero] at hb
            have hgd : bs.getD i [] = b := by rw [List.getD_eq_getElem?_getD, hb]; rfl
            rw [hgd] at heq
            obtain ⟨a1, a2, a3⟩ := hbs1 i b hb
            obtain ⟨t2, l2, rfl⟩ : ∃ t2 l2, b = t2 :: l2 := by
              cases b with
              | nil => exact absurd rfl a3
              | cons t2 l2 => exact ⟨t2, l2, rfl⟩
            have ci := cl_n (n := i) (by omega)
            have hRi := hR1.2 i (by omega)
            have hap := hRD i (by omega)
            have zi25 : zin (nI i) 25 := zin_n (by omega) (by omega)
            refine ⟨by rw [hR1.1], by rw [hR1.1]; exact zi25, by rw [ci, hRi.1]; exact hRi.2.1, ?_⟩
            rw [ci, hRi.1]
            refine sp_leading (by omega) hRi.2 a1 ?_
            intro v8
            have hdv : mdvd t2.2 t.2 := hdv
            rw [show v8 = e8 (msub t.2 t2.2) from e8_sub hdv]
            have heq : (match aadds k (-t.1.1, t.1.2) (msub t.2 t2.2) (t2 :: l2) (t :: f) with
              | none => (2, n, r, qs)
              | some f' => match acome k (t.1, msub t.2 t2.2) (qs.getD i []) with
                | none => (2, n, r, qs)
                | some q => adiv k bs lo n f' r (qs.set i q)) = fin := heq
            refine ⟨hD1.1, sp_fneg (by omega) ht.1 ⟨by rw [hR1.1], by rw [hR1.1]; exact zi25, by rw [hRi.1]; exact hRi.2.1, by rw [hD1.2.1]; exact hD1.2.2.2.2.2.2.1.1, ?_⟩⟩
            rw [hRi.1, hRi.2.2.1, hD1.2.1]
            have hoP : ¬ inP (D + 1) o := fun z => hoD (by unfold inP at z; unfold inD; omega)
            have htn : ((-t.1.1 : Int), t.1.2).1 ≠ 0 := by
              have := ht.2.1
              dsimp only
              omega
            refine sp_adds (c := (-t.1.1, t.1.2)) (by omega) hD1.2.2.2.2.2.2.1 hRi.2.2.2.2.2.2.1 (by omega) hoP ho1 hdd1.1 a1 hf a2 (fneg_ok ht.1) htn (msub_ok ht.2.2) (fun f' M2 hf' hfr2 hpd2 => ?_) (fun M2 hn2 hfr2 => ?_)
            · rw [hf'] at heq
              dsimp only at heq
              have hD2 := dst_fr hfr2 hD1
              have hpi := hD2.2.2.2.2.2.2.2.2 i (by omega)
              have ho2 := ost_fr hfr2 hoP ho1
              have hfr2' : zfr (inD D) M1 M2 := zfr_up hfr2 fun a ha => by unfold inP at ha; unfold inD; omega
              refine ⟨fun z => absurd z (by decide), fun _ => ⟨hD2.1, by rw [hD2.2.2.2.1, hD2.2.2.2.2.1], by rw [hD2.2.2.2.1, hD2.2.2.2.2.1]; exact zin_n (by omega) (by omega), by rw [hD2.2.2.2.1, hD2.2.2.2.2.2.1 i (by omega)]; exact hpi.1, ?_⟩⟩
              rw [hD2.2.2.2.1, hD2.2.2.2.2.2.1 i (by omega)]
              have hqi : qs[i]? = some (qs.getD i []) := by
                rw [List.getD_eq_getElem?_getD, List.getElem?_eq_getElem (by omega)]
                rfl
              have hqok := hq _ (List.mem_of_getElem? hqi)
              have hqd := pdy_fr hfr2 (inP_ne (by omega)) (hdd1.2.2 i _ hqi)
              refine sp_come (t := (t.1, msub t.2 t2.2)) (by omega) hpi ho2 hqd hqok ⟨ht.1, ht.2.1, msub_ok ht.2.2⟩ (fun q' M3 hq' hfr3 hpd3 => ?_) (fun hn3 => ?_)
              · rw [hq'] at heq
                dsimp only at heq
                have hfr3' : zfr (inD D) M2 M3 := zfr_up hfr3 fun a ha => by unfold inP at ha; unfold inD; omega
                have kp : zI M3 D 3 = nI (st + 1) ∧ zI M3 D 4 = nI lim := by
                  rw [(hfr3.2.2.2.2 D (by unfold inP; omega)).1, (hfr3.2.2.2.2 D (by unfold inP; omega)).1, (hfr2.2.2.2.2 D (by unfold inP; omega)).1, (hfr2.2.2.2.2 D (by unfold inP; omega)).1]
                  exact ⟨hs31, hs41⟩
                refine ⟨fun _ => ?_, fun z => absurd (Classical.not_not.mp z) (by decide)⟩
                refine ih (st + 1) f' r (qs.set i q') M3 _ _ _ _ _ (by omega) (zfr_tr hM (zfr_tr hfr2' hfr3')) ⟨pdy_fr hfr3 (inP_ne (by omega)) hpd2, pdy_fr hfr3 (inP_ne (by omega)) (pdy_fr hfr2 (inP_ne (by omega)) hdd1.2.1), fun j q hj => ?_⟩ (aadds_ok (fneg_ok ht.1) htn a2.1 hf hf') hr (fun q hqm => ?_) (by rw [List.length_set]; exact hqs) kp.1 kp.2 heq
                · rw [List.getElem?_set] at hj
                  by_cases hji : i = j
                  · subst hji
                    have hj2 : some q' = some q := by
                      rw [if_pos rfl, if_pos (by omega)] at hj
                      exact hj
                    cases hj2
                    exact hpd3
                  · rw [if_neg hji] at hj
                    exact pdy_fr hfr3 (inP_ne (by omega)) (pdy_fr hfr2 (inP_ne (by omega)) (hdd1.2.2 j q hj))
                · rcases List.mem_or_eq_of_mem_set hqm with hqm | rfl
                  · exact hq q hqm
                  · exact acome_ok (t := (t.1, msub t.2 t2.2)) hqok ⟨ht.1, ht.2.1, msub_ok ht.2.2⟩ hq'
              · rw [hn3] at heq
                have heq : (2, n, r, qs) = fin := heq
                subst heq
                have kp : zI M2 D 3 = nI (st + 1) ∧ zI M2 D 4 = nI lim := by
                  rw [(hfr2.2.2.2.2 D (by unfold inP; omega)).1, (hfr2.2.2.2.2 D (by unfold inP; omega)).1]
                  exact ⟨hs31, hs41⟩
                exact ⟨fun z => absurd rfl z, fun _ => ⟨_, rfl, h M2 (zfr_tr hM hfr2') kp.2 (by rw [kp.1]; congr 1; show st + 1 = lim - n; omega) (fun z => absurd (show (2 : Nat) = 0 from z) (by decide))⟩⟩
            · rw [hn2] at heq
              have heq : (2, n, r, qs) = fin := heq
              subst heq
              have hfr2' : zfr (inD D) M1 M2 := zfr_up hfr2 fun a ha => by unfold inP at ha; unfold inD; omega
              have kp : zI M2 D 3 = nI (st + 1) ∧ zI M2 D 4 = nI lim := by
                rw [(hfr2.2.2.2.2 D (by unfold inP; omega)).1, (hfr2.2.2.2.2 D (by unfold inP; omega)).1]
                exact ⟨hs31, hs41⟩
              exact ⟨fun _ => ⟨_, rfl, h M2 (zfr_tr hM hfr2') kp.2 (by rw [kp.1]; congr 1; show st + 1 = lim - n; omega) (fun z => absurd (show (2 : Nat) = 0 from z) (by decide))⟩, fun z => absurd rfl z⟩
        · cases haf : afst lo t.2 0 bs with
          | some i =>
            obtain ⟨rfl, hic⟩ := hx1 i haf
            exact absurd (nI_pos' (by omega)) c
          | none =>
            rw [haf] at heq
            dsimp only at heq
            refine ⟨hD1.1, by rw [hD1.2.1]; exact hD1.2.2.2.2.2.2.1.1, ?_⟩
            rw [hD1.2.1]
            refine sp_behead (by omega) hD1.2.2.2.2.2.2.1 hdd1.1 hf.2.2 fun M2 hfr2 hpd2 => ?_
            have hD2 := dst_fr hfr2 hD1
            have hoP : ¬ inP (D + 1) o := fun z => hoD (by unfold inP at z; unfold inD; omega)
            have ho2 := ost_fr hfr2 hoP ho1
            have hfr2' : zfr (inD D) M1 M2 := zfr_up hfr2 fun a ha => by unfold inP at ha; unfold inD; omega
            refine ⟨hD2.1, by rw [hD2.2.2.1]; exact hD2.2.2.2.2.2.2.2.1.1, ?_⟩
            rw [hD2.2.2.1]
            refine sp_come (t := t) (by omega) hD2.2.2.2.2.2.2.2.1 ho2 (pdy_fr hfr2 (inP_ne (by omega)) hdd1.2.1) hr ht (fun r' M3 hr' hfr3 hpd3 => ?_) (fun hn3 => ?_)
            · rw [hr'] at heq
              dsimp only at heq
              have hfr3' : zfr (inD D) M2 M3 := zfr_up hfr3 fun a ha => by unfold inP at ha; unfold inD; omega
              have kp : zI M3 D 3 = nI (st + 1) ∧ zI M3 D 4 = nI lim := by
                rw [(hfr3.2.2.2.2 D (by unfold inP; omega)).1, (hfr3.2.2.2.2 D (by unfold inP; omega)).1, (hfr2.2.2.2.2 D (by unfold inP; omega)).1, (hfr2.2.2.2.2 D (by unfold inP; omega)).1]
                exact ⟨hs31, hs41⟩
              refine ⟨fun _ => ?_, fun z => absurd (Classical.not_not.mp z) (by decide)⟩
              exact ih (st + 1) f r' qs M3 _ _ _ _ _ (by omega) (zfr_tr hM (zfr_tr hfr2' hfr3')) ⟨pdy_fr hfr3 (inP_ne (by omega)) hpd2, hpd3, fun j q hj => pdy_fr hfr3 (inP_ne (by omega)) (pdy_fr hfr2 (inP_ne (by omega)) (hdd1.2.2 j q hj))⟩ (srt_tail hf) (acome_ok hr ht hr') hq hqs kp.1 kp.2 heq
            · rw [hn3] at heq
              have heq : (2, n, r, qs) = fin := heq
              subst heq
              have kp : zI M2 D 3 = nI (st + 1) ∧ zI M2 D 4 = nI lim := by
                rw [(hfr2.2.2.2.2 D (by unfold inP; omega)).1, (hfr2.2.2.2.2 D (by unfold inP; omega)).1]
                exact ⟨hs31, hs41⟩
              exact ⟨fun z => absurd rfl z, fun _ => ⟨_, rfl, h M2 (zfr_tr hM hfr2') kp.2 (by rw [kp.1]; congr 1; show st + 1 = lim - n; omega) (fun z => absurd (show (2 : Nat) = 0 from z) (by decide))⟩⟩
  exact en_X0_run _ _ _ _ M (loop (lim - st0) st0 f0 r0 qs0 M _ _ _ _ _ (by omega) zfr_rf hd0 hf0 hr0 hq0 hql hst hlim hfin)
