/-! elements sorted, in the class -/
theorem iap_comp {H w : Nat} {e σ : Nat → Nat} (h : iap H w e) (h1 : ∀ i, i < 25 → σ i < 25) (h2 : ∀ i j, i < 25 → j < 25 → σ i = σ j → i = j) : iap H w (fun j => e (σ j)) := ⟨fun i hi => h.1 _ (h1 i hi), fun i j hi hj hij => h.2 _ _ (h1 i hi) (h1 j hj) fun z => hij (h2 i j hi hj z)⟩
def asft (i a j : Nat) : Nat := if j = a then i else if a < j ∧ j ≤ i then j - 1 else j
theorem asft_lt {i a j : Nat} (hi : i < 25) (hj : j < 25) : asft i a j < 25 := by
  unfold asft
  split
  · exact hi
  · split <;> omega
theorem asft_inj {i a j c : Nat} (ha : a ≤ i) (h : asft i a j = asft i a c) : j = c := by
  unfold asft at h
  split at h
  · split at h
    · omega
    · split at h <;> omega
  · split at h
    · split at h
      · omega
      · split at h <;> omega
    · split at h
      · omega
      · split at h <;> omega
theorem sp_sortElements {d H o w k sh : Nat} {M : zM} {eid : Nat → Nat} {cs : List aE} {P : zM → Prop} (hd : 2 ≤ d) (hI : ist M H o w eid) (ho : ost M o k) (hc : icn M H sh cs.length) (hE : iel M eid k cs) (hk : iok k sh cs)
    (h : ∀ e M', zfq (fun _ => False) (H + 1) M M' → ist M' H o w e → iel M' e k (aesrt k cs cs.length) → P M') : ycV d nX3_sortElements [.ref H] M P := by
  obtain ⟨d, rfl, hde⟩ := dS hd
  have hl := hc.2.2
  have hrk : ∀ L : List aE, iok k sh L → ∀ j, ark k (ald L j) < 1073741824 := fun L hL j => ark_lt (iok_mok hL j)
  have outer : ∀ (n i : Nat) (e : Nat → Nat) (M' : zM) (o2 o3 o4 : Option Value), i + n = max cs.length 1 → 1 ≤ i → zfq (fun _ => False) (H + 1) M M' → ist M' H o w e → (∀ (j : Nat) (E : aE), i ≤ cs.length → (aesrt k cs i)[j]? = some E → edy M (e j) k E) → (∀ (j : Nat) (E : aE), i ≤ j → cs[j]? = some E → edy M (e j) k E) → wX3_sortElements d (fun r M2 => r = [] ∧ P M2) 2 [some (.ref H), some (.int (nI i)), o2, o3, o4] [] M' := by
    intro n
    induction n with
    | zero =>
      intro i e M' o2 o3 o4 hi hi1 hfr hI' hs ht
      have hc2 : zI M' H 2 = nI cs.length := by rw [(hfr.2.2.2.2 H (fun z => z)).1]; exact hc.1
      refine sg_X3_sortElements_2 _ _ _ _ _ _ ⟨hI'.1.1, fun _ => ⟨rfl, h e M' hfr hI' fun j E hj => edy_fq (w := E.2.length) hfr (Nat.le_refl _) (fun _ _ z => z) ?_⟩, fun c => absurd (by rw [hc2]; exact (nI_leI (by omega) (by omega)).mpr (by omega)) c⟩
      by_cases h0 : cs.length = 0
      · rw [h0] at hj
        cases hj
      · rw [show cs.length = i by omega] at hj
        exact hs j E (by omega) hj
    | succ n ih =>
      intro i e M' o2 o3 o4 hi hi1 hfr hI' hs ht
      have hil : i < cs.length := by omega
      have hc2 : zI M' H 2 = nI cs.length := by rw [(hfr.2.2.2.2 H (fun z => z)).1]; exact hc.1
      have s := hI'.1.1
      have hr1 := hI'.1.2.2.1
      have hr0 := hI'.1.2.1
      have ci := cl_n (n := i) (by omega)
      have hRi := hI'.2.1.2 i (by omega)
      have hRD : ∀ j, j < 25 → ¬ inE w (e j) (H + 1) := fun j hj => by have := hI'.2.2.1.1 j hj; unfold inE; omega
      have ho' := ost_fq hfr (fun z => z) ho
      have hok := iok_srt hk (show i ≤ cs.length by omega)
      have hlen := aesrt_len (k := k) (es := cs) (i := i)
      obtain ⟨ti, li, ci2, gi1, gi2, gi3, -⟩ := iok_lead hk hil
      have hri := hrk cs hk i
      -- the place is found
      have fin : ∀ (a : Nat) (M2 : zM), a ≤ i → zfq (fun _ => False) (H + 1) M' M2 → (∀ j, zR M2 (H + 1) j = if a < j ∧ j ≤ i then zR M' (H + 1) (j - 1) else zR M' (H + 1) j) → aescan k (ark k (ald cs i)) (aesrt k cs i) i = a → wX3_sortElements d (fun r M2 => r = [] ∧ P M2) 2 [some (.ref H), some (.int (nI i + 1)), some (.ref (e i)), some (.int (nI (ark k (ald cs i)))), some (.int (nI a))] [] (zuR M2 (H + 1) a (e i)) := fun a M2 ha hfr2 hz hsc => by
        rw [nI_1]
        have hfr3 : zfq (fun _ => False) (H + 1) M' (zuR M2 (H + 1) a (e i)) := zfq_tr hfr2 zfq_uR
        have hee : ∀ j, j < 25 → zR (zuR M2 (H + 1) a (e i)) (H + 1) j = e (asft i a j) := fun j hj => by
          rw [zR_uR, hz]
          unfold asft
          by_cases hja : j = a
          · rw [if_pos ⟨rfl, hja⟩, if_pos hja]
          · rw [if_neg (fun z => hja z.2), if_neg hja]
            split
            · exact (hI'.2.1.2 (j - 1) (by omega)).1
            · exact (hI'.2.1.2 j hj).1
        refine ih (i + 1) (fun j => e (asft i a j)) _ _ _ _ (by omega) (by omega) (zfq_tr hfr hfr3) (ist_fq hfr3 hI' hee (iap_comp hI'.2.2.1 (fun j hj => asft_lt (by omega) hj) fun j c hj hc => asft_inj ha) fun j hj => ⟨asft i a j, asft_lt (by omega) hj, rfl⟩) (fun j E _ hj => ?_) (fun j E hij hj => ?_)
        · rw [aesrt_s, hsc, List.getElem?_insertIdx] at hj
          try dsimp only
          unfold asft
          by_cases hja : j < a
          · rw [if_pos hja] at hj
            rw [if_neg (by omega), if_neg (by omega)]
            exact hs j E (by omega) hj
          · rw [if_neg hja] at hj
            by_cases hje : j = a
            · rw [if_pos hje, if_pos (by omega)] at hj
              rw [if_pos hje]
              refine ht i E (Nat.le_refl _) ?_
              rw [← hj, List.getD_eq_getElem?_getD, List.getElem?_eq_getElem hil]
              rfl
            · rw [if_neg hje] at hj
              have hjl := (List.getElem?_eq_some_iff.mp hj).1
              rw [if_neg hje, if_pos (by omega)]
              exact hs (j - 1) E (by omega) hj
        · try dsimp only
          unfold asft
          rw [if_neg (by omega), if_neg (by omega)]
          exact ht j E (by omega) hj
      have inner : ∀ (a : Nat) (M2 : zM), a ≤ i → zfq (fun _ => False) (H + 1) M' M2 → (∀ j, zR M2 (H + 1) j = if a < j ∧ j ≤ i then zR M' (H + 1) (j - 1) else zR M' (H + 1) j) → aescan k (ark k (ald cs i)) (aesrt k cs i) i = aescan k (ark k (ald cs i)) (aesrt k cs i) a → wX3_sortElements d (fun r M2 => r = [] ∧ P M2) 19 [some (.ref H), some (.int (nI i)), some (.ref (e i)), some (.int (nI (ark k (ald cs i)))), some (.int (nI a))] [] M2 := by
        intro a
        induction a with
        | zero =>
          intro M2 ha hfr2 hz hsc
          have q1 : zR M2 H 1 = H + 1 := by rw [hfr2.2.2.2.1 _ _ (by omega)]; exact hr1
          have sH : (zsh M2 H).1 = 12 := by rw [hfr2.1]; exact s
          have sR : zsh M2 (H + 1) = (6, 25) := by rw [hfr2.1]; exact hI'.2.1.1
          refine sg_X3_sortElements_19 _ _ _ _ _ _ ⟨fun _ => ⟨sH, by rw [q1, sR], by rw [q1, sR]; exact zin_n (by omega) (by omega), by rw [hfr2.1]; exact hRi.2.1, ?_⟩, fun c => absurd (by decide) c⟩
          rw [q1]
          exact fin 0 M2 (by omega) hfr2 hz hsc
        | succ a iha =>
          intro M2 ha hfr2 hz hsc
          have q1 : zR M2 H 1 = H + 1 := by rw [hfr2.2.2.2.1 _ _ (by omega)]; exact hr1
          have q0 : zR M2 H 0 = o := by rw [hfr2.2.2.2.1 _ _ (by omega)]; exact hr0
          have sH : (zsh M2 H).1 = 12 := by rw [hfr2.1]; exact s
          have sR : zsh M2 (H + 1) = (6, 25) := by rw [hfr2.1]; exact hI'.2.1.1
          have ca := cl_n (n := a) (by omega)
          have ca1 := cl_n (n := a + 1) (by omega)
          have em : nI (a + 1) - 1 = nI a := nI_pred a
          have hza : zR M2 (H + 1) a = e a := by rw [hz, if_neg (by omega)]; exact (hI'.2.1.2 a (by omega)).1
          have hea := est_fq hfr2 (hRD a (by omega)) (hI'.2.1.2 a (by omega)).2
          obtain ⟨t, l, c2, g1, g2, g3, -⟩ := iok_lead hok (show a < (aesrt k cs i).length by omega)
          have hpa := pdy_fq hfr2 (fun _ _ z => z) (pdy_fq hfr (fun _ _ z => z) (hs a _ (by omega) g1).1)
          have ho2 := ost_fq hfr2 (fun z => z) ho'
          have hra := hrk _ hok a
          have zi1 : zin (nI (a + 1)) 25 := zin_n (by omega) (by omega)
          have zi0 : zin (nI a) 25 := zin_n (by omega) (by omega)
          refine sg_X3_sortElements_19 _ _ _ _ _ _ ⟨fun c => ?_, fun _ => ⟨sH, sH, by rw [q1, sR], by rw [q1, sR, em]; exact zi0, by rw [q1, em, ca, hza]; exact hea.1, ?_⟩⟩
          · have := (nI_leI (b := 0) (by omega) (by omega)).mp c
            omega
          · rw [q1, em, ca, hza, q0]
            refine sp_leading (by omega) hea hpa ⟨ho2.1, sp_rank (by omega) g3 ho2.1 ho2.2.1 ho2.2.2 ?_⟩
            rw [← g2]
            have hsc' : aescan k (ark k (ald cs i)) (aesrt k cs i) (a + 1) = if ark k (ald cs i) < ark k (ald (aesrt k cs i) a) then aescan k (ark k (ald cs i)) (aesrt k cs i) a else a + 1 := rfl
            refine ⟨fun c => ?_, fun c => ?_⟩
            · have c := (nI_leI (by omega) (by omega)).mp c
              rw [if_neg (by omega)] at hsc'
              refine ⟨sH, by rw [q1, sR], by rw [q1, sR]; exact zi1, by rw [hfr2.1]; exact hRi.2.1, ?_⟩
              rw [q1, ca1]
              exact fin (a + 1) M2 ha hfr2 hz (hsc.trans hsc')
            · have c : ¬ ark k (ald (aesrt k cs i) a) ≤ ark k (ald cs i) := fun z => c ((nI_leI (by omega) (by omega)).mpr z)
              rw [if_pos (by omega)] at hsc'
              refine ⟨sH, sH, by rw [q1, sR], by rw [q1, sR]; exact zi0, by rw [q1, sR], by rw [q1, sR]; exact zi1, by rw [q1, hza]; exact hea.1, ?_⟩
              rw [q1, ca1, hza]
              intro M9 v4
              rw [show v4 = nI a from pk_m1 a]
              refine iha M9 (by omega) (zfq_tr hfr2 zfq_uR) (fun j => ?_) (hsc.trans hsc')
              rw [show M9 = zuR M2 (H + 1) (a + 1) (e a) from rfl, zR_uR]
              by_cases hj : j = a + 1
              · rw [if_pos ⟨rfl, hj⟩, if_pos (by omega), show j - 1 = a by omega]
                exact (hI'.2.1.2 a (by omega)).1.symm
              · rw [if_neg (fun z => hj z.2), hz]
                by_cases hj2 : a + 1 < j ∧ j ≤ i
                · rw [if_pos hj2, if_pos (by omega)]
                · rw [if_neg hj2, if_neg (by omega)]
      refine sg_X3_sortElements_2 _ _ _ _ _ _ ⟨s, fun c => ?_, fun _ => ⟨s, by rw [hr1, hI'.2.1.1], by rw [hr1, hI'.2.1.1]; exact zin_n (by omega) (by omega), ?_⟩⟩
      · rw [hc2] at c
        have := (nI_leI (by omega) (by omega)).mp c
        omega
      · intro r2
        have e2 : r2 = e i := by rw [show r2 = zR M' (zR M' H 1) (nI i).toNatClampNeg from rfl, hr1, ci, hRi.1]
        clear_value r2
        subst e2
        refine ⟨s, hRi.2.1, sp_leading (by omega) hRi.2 (pdy_fq hfr (fun _ _ z => z) (ht i _ (Nat.le_refl _) gi1).1) ⟨by rw [hr0]; exact ho'.1, ?_⟩⟩
        rw [hr0]
        refine sp_rank (by omega) gi3 ho'.1 ho'.2.1 ho'.2.2 ?_
        rw [← gi2]
        exact inner i M' (Nat.le_refl _) zfq_rf (fun j => by rw [if_neg (by omega)]) rfl
  refine en_X3_sortElements _ M (sg_X3_sortElements_0 _ M (outer (max cs.length 1 - 1) 1 eid M _ _ _ (by omega) (by omega) zfq_rf hI (fun j E hl1 hj => ?_) (fun j E _ hj => hE j E hj)))
  have e1 : aesrt k cs 1 = [cs.getD 0 aE0] := rfl
  rw [e1] at hj
  have hj0 := (List.getElem?_eq_some_iff.mp hj).1
  have hj0 : j = 0 := by simp at hj0; omega
  subst hj0
  refine hE 0 E ?_
  rw [← hj, List.getD_eq_getElem?_getD, List.getElem?_eq_getElem (by omega)]
  rfl
