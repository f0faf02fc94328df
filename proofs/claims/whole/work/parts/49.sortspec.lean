/-! sorted anew -/
def ains (k : Nat) (t : aT) (L : aP) : aP := L.insertIdx (apos k t.2 L) t
def asrt (k : Nat) : aP → aP → aP
  | [], acc => acc
  | t :: l, acc => asrt k l (ains k t acc)
theorem ains_ok {k : Nat} {t : aT} {L : aP} (h1 : ∀ u ∈ L, tok u) (h2 : srt k L) (ht : tok t) (hne : ∀ u ∈ L, u.2 ≠ t.2) : (∀ u ∈ ains k t L, tok u) ∧ srt k (ains k t L) ∧ (ains k t L).length = L.length + 1 ∧ ∀ u ∈ ains k t L, u = t ∨ u ∈ L := by
  have hle := apos_le (k := k) (m := t.2) L
  have h2' := srt_iff.mp h2
  have hmem : ∀ u ∈ ains k t L, u = t ∨ u ∈ L := fun u hu => (List.mem_insertIdx hle).mp hu
  have low : ∀ (i : Nat) (u : aT), L[i]? = some u → apos k t.2 L ≤ i → ark k u.2 < ark k t.2 := by
    intro i u hu hi
    have hle2 := apos_ge (m := t.2) h2 hi hu
    rcases Nat.lt_or_eq_of_le hle2 with z | z
    · exact z
    · exact absurd (ark_inj (h1 u (List.mem_of_getElem? hu)).2.2 ht.2.2 z) (hne u (List.mem_of_getElem? hu))
  refine ⟨fun u hu => ?_, srt_iff.mpr ?_, ?_, hmem⟩
  · rcases hmem u hu with rfl | hu
    · exact ht
    · exact h1 u hu
  · intro i j u v hij hu hv
    unfold ains at hu hv
    rw [List.getElem?_insertIdx] at hu hv
    split at hu
    · rename_i c1
      split at hv
      · exact h2' i j u v hij hu hv
      · split at hv
        · split at hv
          · cases hv
            exact apos_lt c1 hu
          · cases hv
        · exact h2' i (j - 1) u v (by omega) hu hv
    · split at hu
      · rename_i c1 c2
        split at hu
        · cases hu
          split at hv
          · omega
          · split at hv
            · omega
            · exact low (j - 1) v hv (by omega)
        · cases hu
      · rename_i c1 c2
        split at hv
        · omega
        · split at hv
          · omega
          · exact h2' (i - 1) (j - 1) u v (by omega) hu hv
  · unfold ains
    rw [List.length_insertIdx, if_pos hle]
theorem asrt_ok {k : Nat} : ∀ {l acc : aP}, (∀ u ∈ l, tok u) → (∀ u ∈ acc, tok u) → srt k acc → l.Pairwise (fun a b => a.2 ≠ b.2) → (∀ u ∈ l, ∀ v ∈ acc, v.2 ≠ u.2) → (∀ u ∈ asrt k l acc, tok u) ∧ srt k (asrt k l acc) ∧ (asrt k l acc).length = l.length + acc.length
  | [], acc, _, h2, h3, _, _ => ⟨h2, h3, by simp [asrt]⟩
  | t :: l, acc, h1, h2, h3, h4, h5 => by
    rw [List.pairwise_cons] at h4
    obtain ⟨a1, a2, a3, a4⟩ := ains_ok h2 h3 (h1 t List.mem_cons_self) (h5 t List.mem_cons_self)
    obtain ⟨b1, b2, b3⟩ := asrt_ok (k := k) (l := l) (acc := ains k t acc) (fun u hu => h1 u (List.mem_cons_of_mem _ hu)) a1 a2 h4.2 (fun u hu v hv => by
      rcases a4 v hv with rfl | hv
      · exact h4.1 u hu
      · exact h5 u (List.mem_cons_of_mem _ hu) v hv)
    exact ⟨b1, b2, by rw [asrt, b3, a3]; simp; omega⟩
theorem srt_ne {k : Nat} {L : aP} (h : srt k L) : L.Pairwise (fun a b => a.2 ≠ b.2) := List.Pairwise.imp (fun {a b} hab => fun e => by rw [e] at hab; omega) h
theorem asrt_pok {k k' : Nat} {L : aP} (h : pok k L) : pok k' (asrt k' L []) := by
  obtain ⟨h1, h2, h3⟩ := asrt_ok (k := k') (l := L) (acc := []) h.1 (fun _ h => absurd h List.not_mem_nil) List.Pairwise.nil (srt_ne h.2.1) (fun _ _ _ h => absurd h List.not_mem_nil)
  refine ⟨h1, h2, ?_⟩
  rw [h3]
  have := h.2.2
  simp
  omega
/-- fractions and powers of a list, its ranks up to a place -/
def pdz (M : zM) (p k i : Nat) (L : aP) : Prop := zI M p 4 = nI L.length ∧ ∀ j t, L[j]? = some t → zL M (p + 1) j = eF t.1 ∧ zI M (p + 2) j = e8 t.2 ∧ (j < i → zI M (p + 3) j = nI (ark k t.2))
theorem sp_arrange {d p o k k0 : Nat} {M : zM} {L : aP} {P : zM → Prop} (hd : 2 ≤ d) (hp : pst M p o) (hop : ¬ inP p o) (ho : ost M o k) (hL : pdy M p k0 L) (hk : pok k0 L) (h : ∀ M', zfr (inP p) M M' → pdy M' p k (asrt k L []) → P M') : ycV d nX6_arrange [.ref p] M P := by
  obtain ⟨d, rfl, he⟩ := dS hd
  have hl := hk.2.2
  have outer : ∀ (r i : Nat) (acc : aP) (M' : zM) (o2 o3 o4 o5 o6 : Option Value), i + r = L.length → acc.length = i → (∀ u ∈ acc, tok u) → srt k acc → (∀ u ∈ L.drop i, ∀ v ∈ acc, v.2 ≠ u.2) → zfr (inP p) M M' → pdz M' p k i (acc ++ L.drop i) → asrt k (L.drop i) acc = asrt k L [] → wX6_arrange d (fun r M2 => r = [] ∧ P M2) 2 [some (.ref p), some (.int (nI i)), o2, o3, o4, o5, o6] [] M' := by
    intro r
    induction r with
    | zero =>
      intro i acc M' o2 o3 o4 o5 o6 hi hal hat has hdis hfr hpd heq
      have hp' := pst_fr hfr hp
      rw [show i = L.length by omega, List.drop_length, List.append_nil] at hpd
      rw [show i = L.length by omega, List.drop_length] at heq
      have heq : acc = asrt k L [] := heq
      refine sg_X6_arrange_2 _ _ _ _ _ _ _ _ ⟨hp'.1, fun _ => ⟨rfl, h M' hfr ?_⟩, fun c => absurd (by rw [hpd.1, hal]; exact Int32.le_refl _) c⟩
      rw [← heq]
      exact ⟨hpd.1, fun j t hj => ⟨(hpd.2 j t hj).1, (hpd.2 j t hj).2.1, (hpd.2 j t hj).2.2 (by have := (List.getElem?_eq_some_iff.mp hj).1; omega)⟩⟩
    | succ r ih =>
      intro i acc M' o2 o3 o4 o5 o6 hi hal hat has hdis hfr hpd heq
      have hp' := pst_fr hfr hp
      have ho' := ost_fr hfr hop ho
      have hlt : i < L.length := by omega
      have hdrop := List.drop_eq_getElem_cons hlt
      have htu := hk.1 _ (List.getElem_mem hlt)
      have hlen : (acc ++ L.drop i).length = L.length := by rw [List.length_append, List.length_drop]; omega
      have hui : (acc ++ L.drop i)[i]? = some L[i] := by
        rw [List.getElem?_append_right (by omega), hal, Nat.sub_self, hdrop]
        rfl
      obtain ⟨g1, g2, -⟩ := hpd.2 _ _ hui
      have ci := cl_n (n := i) (by omega)
      have zi : zin (nI i) 100 := zin_n (by omega) (by omega)
      have hmr := ark_lt (k := k) htu.2.2
      have hap := apos_le (k := k) (m := (L[i]).2) acc
      have hne : ∀ v ∈ acc, v.2 ≠ (L[i]).2 := hdis _ (by rw [hdrop]; exact List.mem_cons_self)
      -- the place is found: the term is written there
      have leave : ∀ (at' : Nat) (M2 : zM), at' ≤ i → apos k (L[i]).2 acc = at' → zfr (inP p) M M2 → zI M2 p 4 = nI L.length → (∀ (j : Nat) (t : aT), (acc ++ L.drop i)[j]? = some t → j ≠ i → (j < at' → zL M2 (p + 1) j = eF t.1 ∧ zI M2 (p + 2) j = e8 t.2 ∧ zI M2 (p + 3) j = nI (ark k t.2)) ∧ (at' ≤ j → j < i → zL M2 (p + 1) (j + 1) = eF t.1 ∧ zI M2 (p + 2) (j + 1) = e8 t.2 ∧ zI M2 (p + 3) (j + 1) = nI (ark k t.2)) ∧ (i < j → zL M2 (p + 1) j = eF t.1 ∧ zI M2 (p + 2) j = e8 t.2)) → wX6_arrange d (fun r M2 => r = [] ∧ P M2) 65 [some (.ref p), some (.int (nI i)), some (.long (eF (L[i]).1)), none, some (.int (e8 (L[i]).2)), some (.int (nI (ark k (L[i]).2))), some (.int (nI at'))] [] M2 := by
        intro at' M2 h1 h2 hfr2 hc hrow
        have hp2 := pst_fr hfr2 hp
        have ca := cl_n (n := at') (by omega)
        have za : zin (nI at') 100 := zin_n (by omega) (by omega)
        refine sg_X6_arrange_65 _ _ _ _ _ _ _ ⟨hp2.1, p_k1 hp2, by rw [p_l1 hp2]; exact za, ?_⟩
        intro M3
        refine ⟨hp2.1, p_k2 hp2, by rw [p_l2 hp2]; exact za, ?_⟩
        intro M4
        refine ⟨hp2.1, p_k3 hp2, by rw [p_l3 hp2]; exact za, ?_⟩
        intro M5 v1
        rw [show v1 = nI (i + 1) from nI_1 i]
        have f3 : zfr (inP p) M2 M3 := zfr_uL (by rw [hp2.2.2.1]; exact ⟨by omega, by omega⟩)
        have f4 : zfr (inP p) M3 M4 := zfr_uI (by rw [hp2.2.2.2.1]; exact ⟨by omega, by omega⟩)
        have f5 : zfr (inP p) M4 M5 := zfr_uI (by rw [hp2.2.2.2.2.1]; exact ⟨by omega, by omega⟩)
        have r1 : ∀ j, zL M5 (p + 1) j = if j = at' then eF (L[i]).1 else zL M2 (p + 1) j := fun j => by
          show zL M3 (p + 1) j = _
          rw [show M3 = zuL M2 (zR M2 p 1) (nI at').toNatClampNeg (eF (L[i]).1) from rfl, ca, hp2.2.2.1, zL_uL]
          simp only [true_and]
        have r2 : ∀ j, zI M5 (p + 2) j = if j = at' then e8 (L[i]).2 else zI M2 (p + 2) j := fun j => by
          rw [show M5 = zuI M4 (zR M2 p 3) (nI at').toNatClampNeg (nI (ark k (L[i]).2)) from rfl, zI_uI, if_neg (by rw [hp2.2.2.2.2.1]; omega), show M4 = zuI M3 (zR M2 p 2) (nI at').toNatClampNeg (e8 (L[i]).2) from rfl, ca, hp2.2.2.2.1, zI_uI]
          simp only [true_and]
          rfl
        have r3 : ∀ j, zI M5 (p + 3) j = if j = at' then nI (ark k (L[i]).2) else zI M2 (p + 3) j := fun j => by
          rw [show M5 = zuI M4 (zR M2 p 3) (nI at').toNatClampNeg (nI (ark k (L[i]).2)) from rfl, ca, hp2.2.2.2.2.1, zI_uI]
          simp only [true_and]
          have : zI M4 (p + 3) j = zI M2 (p + 3) j := by
            rw [show M4 = zuI M3 (zR M2 p 2) (nI at').toNatClampNeg (e8 (L[i]).2) from rfl, zI_uI, if_neg (by rw [hp2.2.2.2.1]; omega)]
            rfl
          rw [this]
        have r0 : zI M5 p 4 = nI L.length := by
          rw [show M5 = zuI M4 (zR M2 p 3) (nI at').toNatClampNeg (nI (ark k (L[i]).2)) from rfl, zI_uI, if_neg (by rw [hp2.2.2.2.2.1]; omega), show M4 = zuI M3 (zR M2 p 2) (nI at').toNatClampNeg (e8 (L[i]).2) from rfl, zI_uI, if_neg (by rw [hp2.2.2.2.1]; omega)]
          exact hc
        obtain ⟨b1, b2, b3, b4⟩ := ains_ok hat has htu hne
        refine ih (i + 1) (ains k (L[i]) acc) M5 _ _ _ _ _ (by omega) (by rw [b3, hal]) b1 b2 (fun u hu v hv => ?_) (zfr_tr hfr2 (zfr_tr f3 (zfr_tr f4 f5))) ⟨?_, fun j t hj => ?_⟩ ?_
        · rcases b4 v hv with rfl | hv
          · have hpw := srt_ne hk.2.1
            obtain ⟨j, hj⟩ := List.getElem?_of_mem hu
            rw [List.getElem?_drop] at hj
            have hjl := (List.getElem?_eq_some_iff.mp hj)
            have := List.pairwise_iff_getElem.mp hpw i (i + 1 + j) hlt hjl.1 (by omega)
            rw [hjl.2] at this
            exact this
          · exact hdis u (by rw [hdrop]; exact List.mem_cons_of_mem _ hu) v hv
        · rw [r0, List.length_append, b3, List.length_drop, hal]
          congr 1
          omega
        · rw [r1, r2, r3]
          by_cases hji : j < i + 1
          · rw [List.getElem?_append_left (by rw [b3, hal]; exact hji)] at hj
            unfold ains at hj
            rw [h2, List.getElem?_insertIdx] at hj
            split at hj
            · rename_i c1
              rw [if_neg (by omega), if_neg (by omega), if_neg (by omega)]
              have hj2 : (acc ++ L.drop i)[j]? = some t := by rw [List.getElem?_append_left (by omega)]; exact hj
              obtain ⟨q1, q2, q3⟩ := (hrow j t hj2 (by omega)).1 c1
              exact ⟨q1, q2, fun _ => q3⟩
            · split at hj
              · rename_i c1 c2
                split at hj
                · cases hj
                  rw [if_pos c2, if_pos c2, if_pos c2]
                  exact ⟨rfl, rfl, fun _ => rfl⟩
                · cases hj
              · rename_i c1 c2
                rw [if_neg c2, if_neg c2, if_neg c2]
                have hj2 : (acc ++ L.drop i)[j - 1]? = some t := by rw [List.getElem?_append_left (by omega)]; exact hj
                obtain ⟨q1, q2, q3⟩ := (hrow (j - 1) t hj2 (by omega)).2.1 (by omega) (by omega)
                rw [show j - 1 + 1 = j by omega] at q1 q2 q3
                exact ⟨q1, q2, fun _ => q3⟩
          · rw [if_neg (by omega), if_neg (by omega), if_neg (by omega)]
            have hj2 : (acc ++ L.drop i)[j]? = some t := by
              rw [List.getElem?_append_right (by rw [b3, hal]; omega), List.getElem?_drop, b3, hal] at hj
              rw [List.getElem?_append_right (by omega), List.getElem?_drop, hal, ← hj]
              congr 1
              omega
            obtain ⟨q1, q2⟩ := (hrow j t hj2 (by omega)).2.2 (by omega)
            exact ⟨q1, q2, fun z => absurd z hji⟩
        · rw [← heq, hdrop]
          rfl
      -- the inner loop, downwards
      have inner : ∀ (at' : Nat) (M2 : zM), at' ≤ i → apos k (L[i]).2 acc ≤ at' → zfr (inP p) M M2 → zI M2 p 4 = nI L.length → (∀ (j : Nat) (t : aT), (acc ++ L.drop i)[j]? = some t → j ≠ i → (j < at' → zL M2 (p + 1) j = eF t.1 ∧ zI M2 (p + 2) j = e8 t.2 ∧ zI M2 (p + 3) j = nI (ark k t.2)) ∧ (at' ≤ j → j < i → zL M2 (p + 1) (j + 1) = eF t.1 ∧ zI M2 (p + 2) (j + 1) = e8 t.2 ∧ zI M2 (p + 3) (j + 1) = nI (ark k t.2)) ∧ (i < j → zL M2 (p + 1) j = eF t.1 ∧ zI M2 (p + 2) j = e8 t.2)) → wX6_arrange d (fun r M2 => r = [] ∧ P M2) 23 [some (.ref p), some (.int (nI i)), some (.long (eF (L[i]).1)), none, some (.int (e8 (L[i]).2)), some (.int (nI (ark k (L[i]).2))), some (.int (nI at'))] [] M2 := by
        intro at'
        induction at' with
        | zero =>
          intro M2 h1 h2 hfr2 hc hrow
          exact sg_X6_arrange_23 _ _ _ _ _ _ _ ⟨fun _ => leave 0 M2 h1 (by omega) hfr2 hc hrow, fun c => absurd (by decide) c⟩
        | succ at' ih2 =>
          intro M2 h1 h2 hfr2 hc hrow
          have hp2 := pst_fr hfr2 hp
          have hpr : nI (at' + 1) - 1 = nI at' := nI_pred at'
          have ca := cl_n (n := at') (by omega)
          have ca1 := cl_n (n := at' + 1) (by omega)
          have za : zin (nI at') 100 := zin_n (by omega) (by omega)
          have za1 : zin (nI (at' + 1)) 100 := zin_n (by omega) (by omega)
          have hal2 : at' < acc.length := by omega
          have hacc := List.getElem?_eq_getElem hal2
          have hj2 : (acc ++ L.drop i)[at']? = some acc[at'] := by rw [List.getElem?_append_left hal2]; exact hacc
          obtain ⟨q1, q2, q3⟩ := (hrow at' _ hj2 (by omega)).1 (by omega)
          have hmo := ark_lt (k := k) (hat _ (List.mem_of_getElem? hacc)).2.2
          refine sg_X6_arrange_23 _ _ _ _ _ _ _ ⟨fun c => ?_, fun _ => ⟨hp2.1, p_k3 hp2, by rw [p_l3 hp2, hpr]; exact za, fun c => ?_, fun c => ?_⟩⟩
          · have := (nI_leI (a := at' + 1) (b := 0) (by omega) (by omega)).mp c
            omega
          · rw [hpr, ca, hp2.2.2.2.2.1, q3] at c
            have c := (nI_leI (by omega) (by omega)).mp c
            refine leave (at' + 1) M2 h1 ?_ hfr2 hc hrow
            apply Nat.le_antisymm h2
            apply Nat.succ_le_of_lt
            apply Nat.lt_of_not_le
            intro z
            have b1 := apos_ge (m := (L[i]).2) has z hacc
            have b2 : ark k (acc[at']).2 = ark k (L[i]).2 := by omega
            exact hne _ (List.mem_of_getElem? hacc) (ark_inj (hat _ (List.mem_of_getElem? hacc)).2.2 htu.2.2 b2)
          · rw [hpr, ca, hp2.2.2.2.2.1, q3] at c
            have c : ¬ ark k (L[i]).2 ≤ ark k (acc[at']).2 := fun z => c ((nI_leI (by omega) (by omega)).mpr z)
            rw [hpr]
            refine ⟨hp2.1, hp2.1, p_k1 hp2, by rw [p_l1 hp2]; exact za, p_k1 hp2, by rw [p_l1 hp2]; exact za1, ?_⟩
            intro M3
            refine ⟨hp2.1, hp2.1, p_k2 hp2, by rw [p_l2 hp2]; exact za, p_k2 hp2, by rw [p_l2 hp2]; exact za1, ?_⟩
            intro M4
            refine ⟨hp2.1, hp2.1, p_k3 hp2, by rw [p_l3 hp2]; exact za, p_k3 hp2, by rw [p_l3 hp2]; exact za1, ?_⟩
            intro M5 v6
            rw [show v6 = nI at' from pk_m1 at']
            have f3 : zfr (inP p) M2 M3 := zfr_uL (by rw [hp2.2.2.1]; exact ⟨by omega, by omega⟩)
            have f4 : zfr (inP p) M3 M4 := zfr_uI (by rw [hp2.2.2.2.1]; exact ⟨by omega, by omega⟩)
            have f5 : zfr (inP p) M4 M5 := zfr_uI (by rw [hp2.2.2.2.2.1]; exact ⟨by omega, by omega⟩)
            have r1 : ∀ j, zL M5 (p + 1) j = if j = at' + 1 then zL M2 (p + 1) at' else zL M2 (p + 1) j := fun j => by
              show zL M3 (p + 1) j = _
              rw [show M3 = zuL M2 (zR M2 p 1) (nI (at' + 1)).toNatClampNeg (zL M2 (zR M2 p 1) (nI at').toNatClampNeg) from rfl, ca, ca1, hp2.2.2.1, zL_uL]
              simp only [true_and]
            have r2 : ∀ j, zI M5 (p + 2) j = if j = at' + 1 then zI M2 (p + 2) at' else zI M2 (p + 2) j := fun j => by
              rw [show M5 = zuI M4 (zR M2 p 3) (nI (at' + 1)).toNatClampNeg (zI M4 (zR M2 p 3) (nI at').toNatClampNeg) from rfl, zI_uI, if_neg (by rw [hp2.2.2.2.2.1]; omega), show M4 = zuI M3 (zR M2 p 2) (nI (at' + 1)).toNatClampNeg (zI M3 (zR M2 p 2) (nI at').toNatClampNeg) from rfl, ca, ca1, hp2.2.2.2.1, zI_uI]
              simp only [true_and]
              rfl
            have r4 : ∀ j, zI M4 (p + 3) j = zI M2 (p + 3) j := fun j => by
              rw [show M4 = zuI M3 (zR M2 p 2) (nI (at' + 1)).toNatClampNeg (zI M3 (zR M2 p 2) (nI at').toNatClampNeg) from rfl, zI_uI, if_neg (by rw [hp2.2.2.2.1]; omega)]
              rfl
            have r3 : ∀ j, zI M5 (p + 3) j = if j = at' + 1 then zI M2 (p + 3) at' else zI M2 (p + 3) j := fun j => by
              rw [show M5 = zuI M4 (zR M2 p 3) (nI (at' + 1)).toNatClampNeg (zI M4 (zR M2 p 3) (nI at').toNatClampNeg) from rfl, ca, ca1, hp2.2.2.2.2.1, zI_uI, r4, r4]
              simp only [true_and]
            have r0 : zI M5 p 4 = nI L.length := by
              rw [show M5 = zuI M4 (zR M2 p 3) (nI (at' + 1)).toNatClampNeg (zI M4 (zR M2 p 3) (nI at').toNatClampNeg) from rfl, zI_uI, if_neg (by rw [hp2.2.2.2.2.1]; omega), show M4 = zuI M3 (zR M2 p 2) (nI (at' + 1)).toNatClampNeg (zI M3 (zR M2 p 2) (nI at').toNatClampNeg) from rfl, zI_uI, if_neg (by rw [hp2.2.2.2.1]; omega)]
              exact hc
            refine ih2 M5 (by omega) ?_ (zfr_tr hfr2 (zfr_tr f3 (zfr_tr f4 f5))) r0 fun j t hj hji => ⟨fun z => ?_, fun z1 z2 => ?_, fun z => ?_⟩
            · apply Nat.le_of_not_lt
              intro z
              have := apos_lt z hacc
              omega
            · rw [r1, r2, r3, if_neg (by omega), if_neg (by omega), if_neg (by omega)]
              exact (hrow j t hj hji).1 (by omega)
            · rw [r1, r2, r3]
              by_cases hja : j = at'
              · subst hja
                rw [if_pos rfl, if_pos rfl, if_pos rfl]
                rw [hj2] at hj
                cases hj
                exact ⟨q1, q2, q3⟩
              · rw [if_neg (by omega), if_neg (by omega), if_neg (by omega)]
                exact (hrow j t hj hji).2.1 (by omega) z2
            · rw [r1, r2, if_neg (by omega), if_neg (by omega)]
              exact (hrow j t hj hji).2.2 z
      refine sg_X6_arrange_2 _ _ _ _ _ _ _ _ ⟨hp'.1, fun c => ?_, fun _ => ⟨hp'.1, p_k1 hp', by rw [p_l1 hp']; exact zi, ?_⟩⟩
      · rw [hpd.1, hlen] at c
        have := (nI_leI (by omega) (by omega)).mp c
        omega
      · intro w2
        refine ⟨hp'.1, p_k2 hp', by rw [p_l2 hp']; exact zi, ?_⟩
        intro v4
        rw [show w2 = eF (L[i]).1 by rw [show w2 = zL M' (zR M' p 1) (nI i).toNatClampNeg from rfl, ci, hp'.2.2.1, g1], show v4 = e8 (L[i]).2 by rw [show v4 = zI M' (zR M' p 2) (nI i).toNatClampNeg from rfl, ci, hp'.2.2.2.1, g2]]
        refine ⟨hp'.1, by rw [hp'.2.1]; exact ho'.1, ?_⟩
        rw [hp'.2.1]
        refine sp_rank (by omega) htu.2.2 ho'.1 ho'.2.1 ho'.2.2 ?_
        refine inner i M' (Nat.le_refl _) (by omega) hfr (by rw [hpd.1, hlen]) fun j t hj hji => ⟨fun hl2 => ?_, fun a b => absurd b (by omega), fun hg => ?_⟩
        · obtain ⟨q1, q2, q3⟩ := hpd.2 j t hj
          exact ⟨q1, q2, q3 hl2⟩
        · obtain ⟨q1, q2, q3⟩ := hpd.2 j t hj
          exact ⟨q1, q2⟩
  refine en_X6_arrange _ M (sg_X6_arrange_0 _ M (outer L.length 0 [] M _ _ _ _ _ (by omega) rfl (fun _ h => absurd h List.not_mem_nil) List.Pairwise.nil (fun _ _ _ h => absurd h List.not_mem_nil) zfr_rf ⟨hL.1, fun j t hj => ⟨(hL.2 j t hj).1, (hL.2 j t hj).2.1, fun z => absurd z (by omega)⟩⟩ rfl))
