/-! the reference: terms sorted -/
theorem ins_app {acc R : aP} {t : aT} {j : Nat} (hj : j ≤ acc.length) : (acc ++ R).insertIdx j t = acc.insertIdx j t ++ R := by
  apply List.ext_getElem?
  intro a
  rw [List.getElem?_insertIdx]
  have hl : (acc.insertIdx j t).length = acc.length + 1 := List.length_insertIdx_of_le_length hj t
  by_cases ha : a < acc.length + 1
  · rw [List.getElem?_append_left (l₁ := acc.insertIdx j t) (by omega), List.getElem?_insertIdx]
    by_cases h1 : a < j
    · rw [if_pos h1, if_pos h1, List.getElem?_append_left (by omega)]
    · rw [if_neg h1, if_neg h1]
      by_cases h2 : a = j
      · rw [if_pos h2, if_pos h2, if_pos (by rw [List.length_append]; omega), if_pos (by omega)]
      · rw [if_neg h2, if_neg h2, List.getElem?_append_left (by omega)]
  · rw [List.getElem?_append_right (l₁ := acc.insertIdx j t) (by omega), hl, if_neg (by omega), if_neg (by omega), List.getElem?_append_right (by omega)]
    congr 1
    omega
theorem sp_rsorted {d nv k k0 p : Nat} {M : zM} {L : aP} {P : zM → Prop} (hd : 4 ≤ d) (hM : mst M) (hv : mvk M nv k) (hp : p < 372) (hL : qdy M p L) (hk : pok k0 L) (hin : pvn nv L) (h : ∀ M', rfr (fun x => x = p) FF GN M M' → zI M' 1529 11 = zI M 1529 11 → qdy M' p (asrt k L []) → P M') : ycV d nX8_sorted [.ref 1529, .int (nI p)] M P := by
  obtain ⟨d, rfl, he⟩ := dS hd
  have hl := hk.2.2
  have cp := cl_n (n := p) (by omega)
  have zp : zin (nI p) 372 := zin_n hp (by omega)
  have outer : ∀ (n i : Nat) (acc : aP) (M' : zM) (o3 o4 o5 o6 o7 : Option Value), i + n = max L.length 1 → 1 ≤ i → acc.length = min i L.length → rfr (fun x => x = p) FF GN M M' → zI M' 1529 11 = zI M 1529 11 → qdy M' p (acc ++ L.drop i) → (∀ u ∈ acc, tok u ∧ vin nv u.2) → srt k acc → (L.drop i).Pairwise (fun a b => a.2 ≠ b.2) → (∀ u ∈ L.drop i, ∀ v ∈ acc, v.2 ≠ u.2) → asrt k (L.drop i) acc = asrt k L [] → wX8_sorted d (fun r M2 => r = [] ∧ P M2) 2 [some (.ref 1529), some (.int (nI p)), some (.int (nI i)), o3, o4, o5, o6, o7] [] M' := by
    intro n
    induction n with
    | zero =>
      intro i acc M' o3 o4 o5 o6 o7 hi hi1 hal hfr hz hq hak has hpw hne heq
      have hM' := mst_fr hfr hM
      obtain ⟨s16, ⟨r3, r4, r5, r6, -⟩, ⟨k0, k1, k2, k3⟩, -⟩ := id hM'
      rw [List.drop_of_length_le (by omega)] at heq hq
      rw [List.append_nil] at hq
      have heq : acc = asrt k L [] := heq
      rw [heq] at hq
      refine sg_X8_sorted_2 _ _ _ _ _ _ _ _ _ ⟨s16, by rw [r6, k3], by rw [r6, k3]; exact zp, fun _ => ⟨rfl, h M' hfr hz hq⟩, fun z => absurd ?_ z⟩
      rw [r6, cp, hq.1, ← heq, hal]
      exact (nI_leI (by omega) (by omega)).mpr (by omega)
    | succ n ih =>
      intro i acc M' o3 o4 o5 o6 o7 hi hi1 hal hfr hz hq hak has hpw hne heq
      have hM' := mst_fr hfr hM
      obtain ⟨s16, ⟨r3, r4, r5, r6, -⟩, ⟨k0, k1, k2, k3⟩, -⟩ := id hM'
      have hil : i < L.length := by omega
      have hai : acc.length = i := by omega
      have hdrop := List.drop_eq_getElem_cons hil
      have htk := hk.1 _ (List.getElem_mem hil)
      have htv := hin _ (List.getElem_mem hil)
      generalize L[i] = t at hdrop htk htv
      rw [hdrop] at hq hpw hne heq
      obtain ⟨R, hR⟩ : ∃ R, L.drop (i + 1) = R := ⟨_, rfl⟩
      rw [hR] at hq hpw hne heq
      have hRl : R.length = L.length - (i + 1) := by rw [← hR, List.length_drop]
      rw [List.pairwise_cons] at hpw
      have hBl : (acc ++ R).length = L.length - 1 := by rw [List.length_append]; omega
      have heq : asrt k R (ains k t acc) = asrt k L [] := heq
      have hq0 : qdy M' p ((acc ++ R).insertIdx i t) := by
        rw [ins_app (by omega), ← hai, List.insertIdx_length_self, List.append_assoc]
        exact hq
      -- it has come to its place
      have fin : ∀ (j : Nat) (M2 : zM) (o3 o4 o5 o6 o7 : Option Value), j ≤ i → rfr (fun x => x = p) FF GN M M2 → zI M2 1529 11 = zI M 1529 11 → qdy M2 p ((acc ++ R).insertIdx j t) → (∀ a u, j ≤ a → acc[a]? = some u → ark k u.2 < ark k t.2) → (∀ a u, a < j → acc[a]? = some u → ark k t.2 < ark k u.2) → wX8_sorted d (fun r M2 => r = [] ∧ P M2) 2 [some (.ref 1529), some (.int (nI p)), some (.int (nI i + 1)), o3, o4, o5, o6, o7] [] M2 := fun j M2 o3 o4 o5 o6 o7 hj hfr2 hz2 hq2 hlo hhi => by
        have hap : apos k t.2 acc = j := apos_eq (by omega) hhi fun a u ha hu => Nat.le_of_lt (hlo a u ha hu)
        have hains : ains k t acc = acc.insertIdx j t := by unfold ains; rw [hap]
        obtain ⟨b1, b2, b3, b4⟩ := ains_ok (k := k) (fun u hu => (hak u hu).1) has htk (fun u hu => hne t List.mem_cons_self u hu)
        rw [nI_1]
        rw [ins_app (by omega), ← hains] at hq2
        refine ih (i + 1) (ains k t acc) M2 _ _ _ _ _ (by omega) (by omega) (by rw [b3]; omega) hfr2 hz2 (by rw [hR]; exact hq2) (fun u hu => ⟨b1 u hu, ?_⟩) b2 (by rw [hR]; exact hpw.2) (fun u hu v hv => ?_) (by rw [hR]; exact heq)
        · rcases b4 u hu with rfl | hu
          · exact htv
          · exact (hak u hu).2
        · rw [hR] at hu
          rcases b4 v hv with rfl | hv
          · exact hpw.1 u hu
          · exact hne u (List.mem_cons_of_mem _ hu) v hv
      have inner : ∀ (j : Nat) (M2 : zM) (o4 o5 o6 o7 : Option Value), j ≤ i → rfr (fun x => x = p) FF GN M M2 → zI M2 1529 11 = zI M 1529 11 → qdy M2 p ((acc ++ R).insertIdx j t) → (∀ a u, j ≤ a → acc[a]? = some u → ark k u.2 < ark k t.2) → wX8_sorted d (fun r M2 => r = [] ∧ P M2) 10 [some (.ref 1529), some (.int (nI p)), some (.int (nI i)), some (.int (nI j)), o4, o5, o6, o7] [] M2 := by
        intro j
        induction j with
        | zero =>
          intro M2 o4 o5 o6 o7 hj hfr2 hz2 hq2 hlo
          exact sg_X8_sorted_10 _ _ _ _ _ _ _ _ _ ⟨fun _ => fin 0 M2 _ _ _ _ _ hj hfr2 hz2 hq2 hlo fun a u ha => absurd ha (Nat.not_lt_zero _), fun z => absurd (by decide) z⟩
        | succ j ihj =>
          intro M2 o4 o5 o6 o7 hj hfr2 hz2 hq2 hlo
          have hM2 := mst_fr hfr2 hM
          have hv2 := mvk_fr hfr2 (by unfold FF; omega) (by unfold FF; omega) hv
          obtain ⟨q16, ⟨p3, p4, p5, p6, -⟩, ⟨w0, w1, w2, w3⟩, -⟩ := id hM2
          have hjl : j < acc.length := by omega
          have hu := List.getElem?_eq_getElem hjl
          have hku := hak _ (List.getElem_mem hjl)
          have hun := hne t List.mem_cons_self _ (List.getElem_mem hjl)
          generalize acc[j] = u at hu hku hun
          have huB : (acc ++ R)[j]? = some u := by rw [List.getElem?_append_left hjl]; exact hu
          have c1 : ((acc ++ R).insertIdx (j + 1) t)[j]? = some u := by rw [List.getElem?_insertIdx, if_pos (by omega)]; exact huB
          have c2 : ((acc ++ R).insertIdx (j + 1) t)[j + 1]? = some t := by rw [List.getElem?_insertIdx, if_neg (by omega), if_pos rfl, if_pos (by omega)]
          obtain ⟨hs2, hc2⟩ := qdy_c.mp hq2
          have g1 := hc2 j u c1
          have g2 := hc2 (j + 1) t c2
          have m1 : zI M2 1532 (100 * p + j) = e5 u.2 := congrArg (fun x => x.2.2) g1
          have m2 : zI M2 1532 (100 * p + (j + 1)) = e5 t.2 := congrArg (fun x => x.2.2) g2
          have cx := cl_n (n := 100 * p + (j + 1)) (by omega)
          have cy := cl_n (n := 100 * p + j) (by omega)
          have zx : zin (nI (100 * p + (j + 1))) 37200 := zin_n (by omega) (by omega)
          have zy : zin (nI (100 * p + j)) 37200 := zin_n (by omega) (by omega)
          have em : nI (100 * p + (j + 1)) - 1 = nI (100 * p + j) := nI_pred _
          refine sg_X8_sorted_10 _ _ _ _ _ _ _ _ _ ⟨fun z => ?_, fun _ => ?_⟩
          · have := (nI_leI (b := 0) (by omega) (by omega)).mp z
            omega
          · rw [ix100, em, cx, cy]
            refine ⟨q16, by rw [p5, w2], by rw [p5, w2]; exact zy, q16, by rw [p5, w2], by rw [p5, w2]; exact zx, q16, ?_⟩
            rw [p5, m1, m2]
            refine sp_rcmp (by omega) hM2 hv2 hku.1.2.2 htk.2.2 hku.2 htv ⟨fun c => ?_, fun c => ?_⟩
            · have c : ¬ ark k u.2 < ark k t.2 := fun z => absurd c (Int32.not_le.mpr (acmp_neg.mpr z))
              refine fin (j + 1) M2 _ _ _ _ _ hj hfr2 hz2 hq2 hlo fun a v ha hav => ?_
              have hne2 : ark k u.2 ≠ ark k t.2 := fun z => hun (ark_inj hku.1.2.2 htk.2.2 z)
              by_cases haj : a = j
              · subst haj
                rw [hu] at hav
                cases hav
                omega
              · have := srt_iff.mp has a j v u (by omega) hav hu
                omega
            · have c : ark k u.2 < ark k t.2 := acmp_neg.mp (Int32.not_le.mp c)
              intro v4
              have e4 : v4 = nI (100 * p + (j + 1)) := rfl
              refine ⟨q16, by rw [p3, w0], by rw [p3, w0]; exact zx, ?_⟩
              intro v5
              refine ⟨q16, by rw [p4, w1], by rw [p4, w1]; exact zx, ?_⟩
              intro v6
              refine ⟨q16, by rw [p5, w2], by rw [p5, w2]; exact zx, ?_⟩
              intro v7
              have e5' : v5 = zI M2 1530 (100 * p + (j + 1)) := by rw [show v5 = zI M2 (zR M2 1529 3) v4.toNatClampNeg from rfl, p3, e4, cx]
              have e6' : v6 = zI M2 1531 (100 * p + (j + 1)) := by rw [show v6 = zI M2 (zR M2 1529 4) v4.toNatClampNeg from rfl, p4, e4, cx]
              have e7' : v7 = zI M2 1532 (100 * p + (j + 1)) := by rw [show v7 = zI M2 (zR M2 1529 5) v4.toNatClampNeg from rfl, p5, e4, cx]
              clear_value v5 v6 v7
              rw [e4, em, cx, cy]
              refine ⟨q16, q16, by rw [p3, w0], by rw [p3, w0]; exact zy, by rw [p3, w0], by rw [p3, w0]; exact zx, ?_⟩
              intro M9
              refine ⟨q16, q16, by rw [p4, w1], by rw [p4, w1]; exact zy, by rw [p4, w1], by rw [p4, w1]; exact zx, ?_⟩
              intro M10
              refine ⟨q16, q16, by rw [p5, w2], by rw [p5, w2]; exact zy, by rw [p5, w2], by rw [p5, w2]; exact zx, ?_⟩
              intro M11
              refine ⟨q16, by rw [p3, w0], by rw [p3, w0]; exact zy, ?_⟩
              intro M12
              refine ⟨q16, by rw [p4, w1], by rw [p4, w1]; exact zy, ?_⟩
              intro M13
              refine ⟨q16, by rw [p5, w2], by rw [p5, w2]; exact zy, ?_⟩
              intro M14 v3
              have n11 : M11 = zu3 M2 (100 * p + (j + 1)) (cel M2 (100 * p + j)) := by
                rw [← zu3_cp]
                rw [show M11 = zuI M10 (zR M2 1529 5) (100 * p + (j + 1)) (zI M10 (zR M2 1529 5) (100 * p + j)) from rfl, show M10 = zuI M9 (zR M2 1529 4) (100 * p + (j + 1)) (zI M9 (zR M2 1529 4) (100 * p + j)) from rfl, show M9 = zuI M2 (zR M2 1529 3) (100 * p + (j + 1)) (zI M2 (zR M2 1529 3) (100 * p + j)) from rfl, p3, p4, p5]
              have n14 : M14 = zu3 M11 (100 * p + j) (cel M2 (100 * p + (j + 1))) := by
                rw [show M14 = zuI (zuI (zuI M11 (zR M2 1529 3) (100 * p + j) v5) (zR M2 1529 4) (100 * p + j) v6) (zR M2 1529 5) (100 * p + j) v7 from rfl, p3, p4, p5, e5', e6', e7']
                rfl
              clear_value M11 M14
              rw [show v3 = nI j from pk_m1 j]
              refine ihj M14 _ _ _ _ (by omega) (rfr_tr hfr2 ?_) ?_ (qdy_c.mpr ⟨?_, fun a v hav => ?_⟩) (fun a v ha hav => ?_)
              · rw [n14, n11]
                exact rfr_tr (rfr_c (by show (100 * p + (j + 1)) / 100 = p; omega)) (rfr_c (by show (100 * p + j) / 100 = p; omega))
              · rw [n14, zI_3 (by omega), n11, zI_3 (by omega)]
                exact hz2
              · rw [n14, zI_3 (by omega), n11, zI_3 (by omega), hs2, List.length_insertIdx_of_le_length (by omega), List.length_insertIdx_of_le_length (by omega)]
              · rw [n14, cel_3, n11, cel_3]
                rw [List.getElem?_insertIdx] at hav
                by_cases ha1 : a < j
                · rw [if_pos ha1] at hav
                  rw [if_neg (by omega), if_neg (by omega)]
                  refine hc2 a v ?_
                  rw [List.getElem?_insertIdx, if_pos (by omega)]
                  exact hav
                · rw [if_neg ha1] at hav
                  by_cases ha2 : a = j
                  · rw [if_pos ha2, if_pos (by omega)] at hav
                    cases hav
                    rw [if_pos (by omega)]
                    exact g2
                  · rw [if_neg ha2] at hav
                    rw [if_neg (by omega)]
                    by_cases ha3 : a = j + 1
                    · rw [if_pos (by omega)]
                      rw [ha3, Nat.add_sub_cancel, huB] at hav
                      cases hav
                      exact g1
                    · rw [if_neg (by omega)]
                      refine hc2 a v ?_
                      rw [List.getElem?_insertIdx, if_neg (by omega), if_neg (by omega)]
                      exact hav
              · by_cases haj : a = j
                · subst haj
                  rw [hu] at hav
                  cases hav
                  exact c
                · exact hlo a v (by omega) hav
      have hlen : (acc ++ t :: R).length = L.length := by rw [List.length_append, List.length_cons]; omega
      refine sg_X8_sorted_2 _ _ _ _ _ _ _ _ _ ⟨s16, by rw [r6, k3], by rw [r6, k3]; exact zp, fun z => ?_, fun _ => inner i M' _ _ _ _ (Nat.le_refl _) hfr hz hq0 fun a u ha hu => ?_⟩
      · rw [r6, cp, hq.1, hlen] at z
        have := (nI_leI (by omega) (by omega)).mp z
        omega
      · have := (List.getElem?_eq_some_iff.mp hu).1
        omega
  refine en_X8_sorted _ _ M (sg_X8_sorted_0 _ _ M ?_)
  have hpw0 := srt_ne hk.2.1
  cases hLL : L with
  | nil =>
    rw [hLL] at hL outer
    exact outer 0 1 [] M _ _ _ _ _ rfl (by omega) rfl rfr_rf rfl hL (fun u hu => absurd hu List.not_mem_nil) List.Pairwise.nil List.Pairwise.nil (fun u hu => absurd hu List.not_mem_nil) rfl
  | cons t l =>
    rw [hLL] at hL outer hk hin hpw0
    rw [List.pairwise_cons] at hpw0
    refine outer l.length 1 [t] M _ _ _ _ _ (by simp; omega) (by omega) (by simp) rfr_rf rfl hL (fun u hu => ?_) (List.pairwise_singleton _ _) hpw0.2 (fun u hu v hv => ?_) rfl
    · rw [List.mem_singleton.mp hu]
      exact ⟨hk.1 t List.mem_cons_self, hin t List.mem_cons_self⟩
    · rw [List.mem_singleton.mp hv]
      exact hpw0.1 u hu
