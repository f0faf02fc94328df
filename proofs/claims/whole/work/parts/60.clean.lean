/-! memory where one row of references changes too -/
def zfq (S : Nat → Prop) (R : Nat) (M M' : zM) : Prop := (∀ a, zsh M' a = zsh M a) ∧ zn M' = zn M ∧ zs M' = zs M ∧ (∀ a j, a ≠ R → zR M' a j = zR M a j) ∧ ∀ a, ¬ S a → (∀ j, zI M' a j = zI M a j) ∧ ∀ j, zL M' a j = zL M a j
theorem zfq_rf {S : Nat → Prop} {R : Nat} {M : zM} : zfq S R M M := ⟨fun _ => rfl, rfl, rfl, fun _ _ _ => rfl, fun _ _ => ⟨fun _ => rfl, fun _ => rfl⟩⟩
theorem zfq_of {S : Nat → Prop} {R : Nat} {M M' : zM} (h : zfr S M M') : zfq S R M M' := ⟨h.1, h.2.1, h.2.2.1, fun a j _ => h.2.2.2.1 a j, h.2.2.2.2⟩
theorem zfq_tr {S : Nat → Prop} {R : Nat} {M1 M2 M3 : zM} (h1 : zfq S R M1 M2) (h2 : zfq S R M2 M3) : zfq S R M1 M3 := ⟨fun a => (h2.1 a).trans (h1.1 a), h2.2.1.trans h1.2.1, h2.2.2.1.trans h1.2.2.1, fun a j ha => (h2.2.2.2.1 a j ha).trans (h1.2.2.2.1 a j ha), fun a ha => ⟨fun j => ((h2.2.2.2.2 a ha).1 j).trans ((h1.2.2.2.2 a ha).1 j), fun j => ((h2.2.2.2.2 a ha).2 j).trans ((h1.2.2.2.2 a ha).2 j)⟩⟩
theorem zfq_up {S S' : Nat → Prop} {R : Nat} {M M' : zM} (h : zfq S R M M') (hs : ∀ a, S a → S' a) : zfq S' R M M' := ⟨h.1, h.2.1, h.2.2.1, h.2.2.2.1, fun a ha => h.2.2.2.2 a fun z => ha (hs a z)⟩
theorem zR_uR {M : zM} {a k v i j : Nat} : zR (zuR M a k v) i j = if i = a ∧ j = k then v else zR M i j := rfl
theorem zfq_uR {S : Nat → Prop} {R : Nat} {M : zM} {k v : Nat} : zfq S R M (zuR M R k v) := ⟨fun _ => rfl, rfl, rfl, fun a j h => (by rw [zR_uR, if_neg]; rintro ⟨rfl, -⟩; exact h rfl), fun _ _ => ⟨fun _ => rfl, fun _ => rfl⟩⟩
theorem pst_fq {S : Nat → Prop} {R : Nat} {M M' : zM} {p o : Nat} (h : zfq S R M M') (hR : R ≠ p) (hp : pst M p o) : pst M' p o := by
  unfold pst at *
  rw [h.1, h.1, h.1, h.1, h.2.2.2.1 _ _ (Ne.symm hR), h.2.2.2.1 _ _ (Ne.symm hR), h.2.2.2.1 _ _ (Ne.symm hR), h.2.2.2.1 _ _ (Ne.symm hR)]
  exact hp
theorem pdy_fq {S : Nat → Prop} {R : Nat} {M M' : zM} {p k : Nat} {L : aP} (h : zfq S R M M') (hd : ∀ a, inP p a → ¬ S a) (hp : pdy M p k L) : pdy M' p k L := by
  have h0 := h.2.2.2.2 p (hd p ⟨by omega, by omega⟩)
  have h1 := h.2.2.2.2 (p + 1) (hd _ ⟨by omega, by omega⟩)
  have h2 := h.2.2.2.2 (p + 2) (hd _ ⟨by omega, by omega⟩)
  have h3 := h.2.2.2.2 (p + 3) (hd _ ⟨by omega, by omega⟩)
  refine ⟨by rw [h0.1]; exact hp.1, fun j t hj => ?_⟩
  rw [h1.2, h2.1, h3.1]
  exact hp.2 j t hj
theorem ost_fq {S : Nat → Prop} {R : Nat} {M M' : zM} {o k : Nat} (h : zfq S R M M') (hd : ¬ S o) (ho : ost M o k) : ost M' o k := by
  unfold ost at *
  rw [h.1, (h.2.2.2.2 o hd).1]
  exact ho
theorem est_fq {S : Nat → Prop} {R : Nat} {M M' : zM} {e o w : Nat} (h : zfq S R M M') (hR : ¬ inE w e R) (he : est M e o w) : est M' e o w := by
  obtain ⟨h1, h2, h3, h4, h5, h6, h7⟩ := he
  have hn : ∀ a, inE w e a → a ≠ R := fun a ha e => hR (e ▸ ha)
  exact ⟨by rw [h.1]; exact h1, by rw [h.2.2.2.1 _ _ (hn _ (by unfold inE; omega))]; exact h2, by rw [h.2.2.2.1 _ _ (hn _ (by unfold inE; omega))]; exact h3, by rw [h.1]; exact h4, fun i hi => by rw [h.2.2.2.1 _ _ (hn _ (by unfold inE; omega))]; exact h5 i hi, pst_fq h (Ne.symm (hn _ (by unfold inE; omega))) h6, fun i hi => pst_fq h (Ne.symm (hn _ (by unfold inE; omega))) (h7 i hi)⟩
theorem edy_fq {S : Nat → Prop} {R : Nat} {M M' : zM} {e k w : Nat} {E : aE} (h : zfq S R M M') (hw : E.2.length ≤ w) (hd : ∀ a, inE w e a → ¬ S a) (hE : edy M e k E) : edy M' e k E := by
  refine ⟨pdy_fq h (fun a ha => hd a (by unfold inP at ha; unfold inE; omega)) hE.1, fun i L hi => pdy_fq h (fun a ha => hd a ?_) (hE.2 i L hi)⟩
  have := (List.getElem?_eq_some_iff.mp hi).1
  unfold inP at ha
  unfold inE
  omega
theorem dst_fq {S : Nat → Prop} {R : Nat} {M M' : zM} {D o : Nat} (h : zfq S R M M') (hR : ¬ inD D R) (hd : dst M D o) : dst M' D o := by
  obtain ⟨h1, h2, h3, h4, h5, h6, h7, h8, h9⟩ := hd
  have hn : ∀ a, inD D a → a ≠ R := fun a ha e => hR (e ▸ ha)
  exact ⟨by rw [h.1]; exact h1, by rw [h.2.2.2.1 _ _ (hn _ (by unfold inD; omega))]; exact h2, by rw [h.2.2.2.1 _ _ (hn _ (by unfold inD; omega))]; exact h3, by rw [h.2.2.2.1 _ _ (hn _ (by unfold inD; omega))]; exact h4, by rw [h.1]; exact h5, fun i hi => by rw [h.2.2.2.1 _ _ (hn _ (by unfold inD; omega))]; exact h6 i hi, pst_fq h (Ne.symm (hn _ (by unfold inD; omega))) h7, pst_fq h (Ne.symm (hn _ (by unfold inD; omega))) h8, fun i hi => pst_fq h (Ne.symm (hn _ (by unfold inD; omega))) (h9 i hi)⟩
theorem gst_fq {S : Nat → Prop} {R : Nat} {M M' : zM} {G o : Nat} (h : zfq S R M M') (hR : G + 37 ≤ R ∨ R < G) (hg : gst M G o) : gst M' G o := ⟨by rw [h.1]; exact hg.1, fun g hl => ⟨by rw [h.2.2.2.1 _ _ (by omega)]; exact (hg.2 g hl).1, pst_fq h (by omega) (hg.2 g hl).2⟩⟩
/-- an ideal whose elements have changed places -/
theorem ist_fq {S : Nat → Prop} {M M' : zM} {H o w : Nat} {eid e : Nat → Nat} (h : zfq S (H + 1) M M') (hi : ist M H o w eid) (he : ∀ i, i < 25 → zR M' (H + 1) i = e i) (ha : iap H w e) (hp : ∀ i, i < 25 → ∃ j, j < 25 ∧ e i = eid j) : ist M' H o w e := by
  obtain ⟨⟨h1, h2, h3, h4, h5⟩, h6, h7, h8⟩ := hi
  refine ⟨⟨by rw [h.1]; exact h1, by rw [h.2.2.2.1 _ _ (by omega)]; exact h2, by rw [h.2.2.2.1 _ _ (by omega)]; exact h3, by rw [h.2.2.2.1 _ _ (by omega)]; exact h4, by rw [h.1]; exact h5⟩, ⟨by rw [h.1]; exact h6.1, fun i hi => ⟨he i hi, ?_⟩⟩, ha, h8⟩
  obtain ⟨j, hj, ej⟩ := hp i hi
  rw [ej]
  exact est_fq h (by have := h7.1 j hj; unfold inE; omega) (h6.2 j hj).2
/-! those that go, in the class -/
theorem sp_isCovered {d H o w k n i κ : Nat} {M : zM} {e : Nat → Nat} {ls : Nat → aM} {P : Int32 → zM → Prop} (hd : 2 ≤ d) (hI : ist M H o w e) (hc : zI M H 2 = nI n) (hn : n ≤ 24) (hi : i < n) (hκ : κ ≤ i) (hls : ∀ j, (j < κ ∨ (i ≤ j ∧ j < n)) → ∃ t l, pdy M (e j + 1) k (t :: l) ∧ t.2 = ls j ∧ mok t.2)
    (h1 : ((∃ j, j < κ ∧ mdvd (ls j) (ls i)) ∨ ∃ j, i < j ∧ j < n ∧ ls j ≠ ls i ∧ mdvd (ls j) (ls i)) → P 1 M) (h0 : ¬ ((∃ j, j < κ ∧ mdvd (ls j) (ls i)) ∨ ∃ j, i < j ∧ j < n ∧ ls j ≠ ls i ∧ mdvd (ls j) (ls i)) → P 0 M) : ycI d nX3_isCovered [.ref H, .int (nI i), .int (nI κ)] M P := by
  obtain ⟨d, rfl, he⟩ := dS hd
  have s := hI.1.1
  have hr1 := hI.1.2.2.1
  have hmi : mok (ls i) := by
    obtain ⟨t, l, -, h2, h3⟩ := hls i (by omega)
    rw [← h2]; exact h3
  have ld : ∀ j (P : Int32 → zM → Prop), (j < κ ∨ (i ≤ j ∧ j < n)) → P (e8 (ls j)) M → ycI d nX1_leading [.ref (e j)] M P := fun j P hj hP => by
    obtain ⟨t, l, g1, g2, g3⟩ := hls j hj
    exact sp_leading (by omega) (hI.2.1.2 j (by omega)).2 g1 (by rw [g2]; exact hP)
  have loop2 : ∀ (m j : Nat) (o1 o2 o5 : Option Value), j + m = n → i < j → (∀ c, c < κ → ¬ mdvd (ls c) (ls i)) → (∀ c, i < c → c < j → ¬ (ls c ≠ ls i ∧ mdvd (ls c) (ls i))) → wX3_isCovered d (fun r M2 => ∃ x : Int32, r = [.int x] ∧ P x M2) 27 [some (.ref H), o1, o2, some (.int (e8 (ls i))), some (.int (nI j)), o5] [] M := by
    intro m
    induction m with
    | zero =>
      intro j o1 o2 o5 hj hij hb1 hb2
      refine sg_X3_isCovered_27 _ _ _ _ _ _ _ ⟨s, fun _ => ⟨Or.inl rfl, _, rfl, h0 ?_⟩, fun c => absurd (by rw [hc, show j = n by omega]; exact Int32.le_refl _) c⟩
      rintro (⟨c, g1, g2⟩ | ⟨c, g1, g2, g3⟩)
      · exact hb1 c g1 g2
      · exact hb2 c g1 (by omega) g3
    | succ m ih =>
      intro j o1 o2 o5 hj hij hb1 hb2
      have cj := cl_n (n := j) (by omega)
      have hRj := hI.2.1.2 j (by omega)
      have hmj : mok (ls j) := by
        obtain ⟨t, l, -, h2, h3⟩ := hls j (by omega)
        rw [← h2]; exact h3
      have next : ¬ (ls j ≠ ls i ∧ mdvd (ls j) (ls i)) → ∀ o5, wX3_isCovered d (fun r M2 => ∃ x : Int32, r = [.int x] ∧ P x M2) 27 [some (.ref H), o1, o2, some (.int (e8 (ls i))), some (.int (nI j + 1)), o5] [] M := fun hz o5 => by
        rw [nI_1]
        refine ih (j + 1) _ _ _ (by omega) (by omega) hb1 fun c g1 g2 => ?_
        by_cases e : c = j
        · rw [e]; exact hz
        · exact hb2 c g1 (by omega)
      refine sg_X3_isCovered_27 _ _ _ _ _ _ _ ⟨s, fun c => ?_, fun _ => ⟨s, by rw [hr1, hI.2.1.1], by rw [hr1, hI.2.1.1]; exact zin_n (by omega) (by omega), by rw [hr1, cj, hRj.1]; exact hRj.2.1, ?_⟩⟩
      · rw [hc] at c
        have := (nI_leI (by omega) (by omega)).mp c
        omega
      · rw [hr1, cj, hRj.1]
        refine ld j _ (by omega) ⟨fun c => next (fun z => z.1 (e8_inj hmj hmi c)) _, fun c => ?_⟩
        refine sp_divides (by omega) hmj hmi (fun hv => ⟨fun z => absurd z (by decide), fun _ => ⟨Or.inr rfl, _, rfl, h1 (Or.inr ⟨j, hij, by omega, fun z => c (by rw [z]), hv⟩)⟩⟩) (fun hv => ⟨fun _ => next (fun z => hv z.2) _, fun z => absurd rfl z⟩)
  have loop1 : ∀ (m j : Nat) (o5 : Option Value), j + m = κ → (∀ c, c < j → ¬ mdvd (ls c) (ls i)) → wX3_isCovered d (fun r M2 => ∃ x : Int32, r = [.int x] ∧ P x M2) 8 [some (.ref H), some (.int (nI i)), some (.int (nI κ)), some (.int (e8 (ls i))), some (.int (nI j)), o5] [] M := by
    intro m
    induction m with
    | zero =>
      intro j o5 hj hb
      refine sg_X3_isCovered_8 _ _ _ _ _ _ _ ⟨fun _ => ?_, fun c => absurd (by rw [show j = κ by omega]; exact Int32.le_refl _) c⟩
      intro v4
      rw [show v4 = nI (i + 1) from nI_1 i]
      exact loop2 (n - (i + 1)) (i + 1) _ _ _ (by omega) (by omega) (fun c hc => hb c (by omega)) fun c g1 g2 => by omega
    | succ m ih =>
      intro j o5 hj hb
      have cj := cl_n (n := j) (by omega)
      have hRj := hI.2.1.2 j (by omega)
      have hmj : mok (ls j) := by
        obtain ⟨t, l, -, h2, h3⟩ := hls j (by omega)
        rw [← h2]; exact h3
      refine sg_X3_isCovered_8 _ _ _ _ _ _ _ ⟨fun c => ?_, fun _ => ⟨s, by rw [hr1, hI.2.1.1], by rw [hr1, hI.2.1.1]; exact zin_n (by omega) (by omega), by rw [hr1, cj, hRj.1]; exact hRj.2.1, ?_⟩⟩
      · have := (nI_leI (by omega) (by omega)).mp c
        omega
      · rw [hr1, cj, hRj.1]
        refine ld j _ (by omega) (sp_divides (by omega) hmj hmi (fun hv => ⟨fun z => absurd z (by decide), fun _ => ⟨Or.inr rfl, _, rfl, h1 (Or.inl ⟨j, by omega, hv⟩)⟩⟩) (fun hv => ⟨fun _ => ?_, fun z => absurd rfl z⟩))
        intro v4
        rw [show v4 = nI (j + 1) from nI_1 j]
        refine ih (j + 1) _ (by omega) fun c hc => ?_
        by_cases e : c = j
        · rw [e]; exact hv
        · exact hb c (by omega)
  have ci := cl_n (n := i) (by omega)
  have hRi := hI.2.1.2 i (by omega)
  refine en_X3_isCovered _ _ _ M (sg_X3_isCovered_0 _ _ _ M ⟨s, by rw [hr1, hI.2.1.1], by rw [hr1, hI.2.1.1]; exact zin_n (by omega) (by omega), by rw [hr1, ci, hRi.1]; exact hRi.2.1, ?_⟩)
  rw [hr1, ci, hRi.1]
  exact ld i _ (by omega) (loop1 κ 0 _ (by omega) fun c hc => absurd hc (Nat.not_lt_zero _))
theorem iap_swap {H w : Nat} {e : Nat → Nat} (h : iap H w e) {a b : Nat} (ha : a < 25) (hb : b < 25) : iap H w (fun j => if j = a then e b else if j = b then e a else e j) := by
  obtain ⟨h1, h2⟩ := h
  refine ⟨fun i hi => ?_, fun i j hi hj hij => ?_⟩
  · dsimp only
    split
    · exact h1 b hb
    · split
      · exact h1 a ha
      · exact h1 i hi
  · dsimp only
    have hab := h2 a b ha hb
    have hia := h2 i a hi ha
    have hib := h2 i b hi hb
    have hja := h2 j a hj ha
    have hjb := h2 j b hj hb
    have h3 := h2 i j hi hj hij
    split
    · split
      · omega
      · split
        · rename_i x1 x2 x3
          by_cases e : a = b
          · omega
          · have := hab e; omega
        · rename_i x1 x2 x3
          have := hjb x3; omega
    · split
      · split
        · rename_i x1 x2 x3
          by_cases e : a = b
          · omega
          · have := hab e; omega
        · split
          · omega
          · rename_i x1 x2 x3 x4
            have := hja x3; omega
      · split
        · rename_i x1 x2 x3
          have := hib x2; omega
        · split
          · rename_i x1 x2 x3 x4
            have := hia x1; omega
          · exact h3
theorem sp_dropNeedless {d H o w k sh : Nat} {M : zM} {eid : Nat → Nat} {es : List aE} {P : zM → Prop} (hd : 3 ≤ d) (hI : ist M H o w eid) (hc : icn M H sh es.length) (hE : iel M eid k es) (hk : iok k sh es)
    (h : ∀ e M', zfq (fun a => a = H) (H + 1) M M' → ist M' H o w e → (∀ j, j ≠ 2 → zI M' H j = zI M H j) → icn M' H sh (aclean es es.length).length → iel M' e k (aclean es es.length) → P M') : ycV d nX3_dropNeedless [.ref H] M P := by
  obtain ⟨d, rfl, hde⟩ := dS hd
  have hl := hc.2.2
  have loop : ∀ (n i : Nat) (e : Nat → Nat) (M' : zM) (o3 : Option Value), i + n = es.length → zfq (fun _ => False) (H + 1) M M' → ist M' H o w e → (∀ j, i ≤ j → j < 25 → e j = eid j) → iel M e k (aclean es i) → wX3_dropNeedless d (fun r M2 => r = [] ∧ P M2) 4 [some (.ref H), some (.int (nI (aclean es i).length)), some (.int (nI i)), o3] [] M' := by
    intro n
    induction n with
    | zero =>
      intro i e M' o3 hi hfr hI' hu hel
      have s := hI'.1.1
      have hc2 : zI M' H 2 = nI es.length := by rw [(hfr.2.2.2.2 H (fun z => z)).1]; exact hc.1
      rw [show i = es.length by omega] at hel
      refine sg_X3_dropNeedless_4 _ _ _ _ _ ⟨s, fun _ => ⟨s, ?_⟩, fun c => absurd (by rw [hc2, show i = es.length by omega]; exact Int32.le_refl _) c⟩
      intro M1
      have hf1 : zfr (fun a => a = H) M' M1 := zfr_uI rfl
      have g : ∀ j, j ≠ 2 → zI M1 H j = zI M H j := fun j hj => by
        rw [show M1 = zuI M' H 2 (nI (aclean es i).length) from rfl, zI_uI, if_neg (by omega), (hfr.2.2.2.2 H (fun z => z)).1]
      refine ⟨rfl, h e M1 (zfq_tr (zfq_up hfr fun a ha => ha.elim) (zfq_of hf1)) (ist_fr hf1 hI') g ⟨?_, by rw [g 10 (by omega)]; exact hc.2.1, ?_⟩ fun j E hj => ?_⟩
      · rw [show M1 = zuI M' H 2 (nI (aclean es i).length) from rfl, zI_uI, if_pos ⟨rfl, rfl⟩, show i = es.length by omega]
      · have := aclean_len (es := es) (i := es.length)
        omega
      · have hjl := (List.getElem?_eq_some_iff.mp hj).1
        have := aclean_len (es := es) (i := es.length)
        have hap := hI'.2.2.1.1 j (by omega)
        refine edy_fr (w := E.2.length) hf1 (Nat.le_refl _) (fun a ha => ?_) (edy_fq (w := E.2.length) hfr (Nat.le_refl _) (fun _ _ z => z) (hel j E hj))
        unfold inE at ha
        omega
    | succ n ih =>
      intro i e M' o3 hi hfr hI' hu hel
      have s := hI'.1.1
      have hc2 : zI M' H 2 = nI es.length := by rw [(hfr.2.2.2.2 H (fun z => z)).1]; exact hc.1
      have hil : i < es.length := by omega
      have hκ := aclean_len (es := es) (i := i)
      have hokc := iok_clean hk (i := i) (by omega)
      have hr1 := hI'.1.2.2.1
      refine sg_X3_dropNeedless_4 _ _ _ _ _ ⟨s, fun c => ?_, fun _ => ⟨s, ?_⟩⟩
      · rw [hc2] at c
        have := (nI_leI (by omega) (by omega)).mp c
        omega
      · refine sp_isCovered (k := k) (n := es.length) (ls := fun j => if j < (aclean es i).length then ald (aclean es i) j else ald es j) (by omega) hI' hc2 hl hil hκ (fun j hj => ?_) (fun hcv => ⟨fun _ => ?_, fun z => absurd (Classical.not_not.mp z) (by decide)⟩) (fun hcv => ⟨fun z => absurd rfl z, fun _ => ?_⟩)
        · by_cases hjk : j < (aclean es i).length
          · obtain ⟨t, l, cs, g1, g2, g3, -⟩ := iok_lead hokc hjk
            refine ⟨t, l, pdy_fq hfr (fun _ _ z => z) (hel j _ g1).1, ?_, g3⟩
            try dsimp only
            rw [if_pos hjk, g2]
          · obtain ⟨t, l, cs, g1, g2, g3, -⟩ := iok_lead hk (show j < es.length by omega)
            refine ⟨t, l, pdy_fq hfr (fun _ _ z => z) ?_, ?_, g3⟩
            · rw [hu j (by omega) (by omega)]
              exact (hE j _ g1).1
            · try dsimp only
              rw [if_neg hjk, g2]
        · have hg : agoes es i = true := (acover_iff hl hil).mpr (by
            rcases hcv with ⟨j, g1, g2⟩ | ⟨j, g1, g2, g3, g4⟩
            · try dsimp only at g2
              rw [if_pos g1, if_neg (by omega)] at g2
              exact Or.inl ⟨j, g1, g2⟩
            · try dsimp only at g3 g4
              rw [if_neg (by omega), if_neg (by omega)] at g3 g4
              exact Or.inr ⟨j, g1, g2, g3, g4⟩)
          have heq : aclean es (i + 1) = aclean es i := by rw [aclean_s, if_pos hg]
          intro v2
          rw [show v2 = nI (i + 1) from nI_1 i, ← heq]
          exact ih (i + 1) e M' _ (by omega) hfr hI' (fun j h1 h2 => hu j (by omega) h2) (by rw [heq]; exact hel)
        · have hg : ¬ agoes es i = true := fun hg => hcv (by
            rcases (acover_iff hl hil).mp hg with ⟨j, g1, g2⟩ | ⟨j, g1, g2, g3, g4⟩
            · left
              refine ⟨j, g1, ?_⟩
              try dsimp only
              rw [if_pos g1, if_neg (by omega)]
              exact g2
            · right
              refine ⟨j, g1, g2, ?_, ?_⟩
              · try dsimp only
                rw [if_neg (by omega), if_neg (by omega)]
                exact g3
              · try dsimp only
                rw [if_neg (by omega), if_neg (by omega)]
                exact g4)
          have heq : aclean es (i + 1) = aclean es i ++ [es.getD i aE0] := by rw [aclean_s, if_neg hg]
          have ci := cl_n (n := i) (by omega)
          have ck := cl_n (n := (aclean es i).length) (by omega)
          have hRi := hI'.2.1.2 i (by omega)
          have hRk := hI'.2.1.2 (aclean es i).length (by omega)
          have zi : zin (nI i) 25 := zin_n (by omega) (by omega)
          have zk : zin (nI (aclean es i).length) 25 := zin_n (by omega) (by omega)
          refine ⟨s, by rw [hr1, hI'.2.1.1], by rw [hr1, hI'.2.1.1]; exact zi, ?_⟩
          intro r3
          have e3 : r3 = e i := by rw [show r3 = zR M' (zR M' H 1) (nI i).toNatClampNeg from rfl, hr1, ci, hRi.1]
          clear_value r3
          subst e3
          refine ⟨s, s, by rw [hr1, hI'.2.1.1], by rw [hr1, hI'.2.1.1]; exact zk, by rw [hr1, hI'.2.1.1], by rw [hr1, hI'.2.1.1]; exact zi, by rw [hr1, ck, hRk.1]; exact hRk.2.1, ?_⟩
          intro M6
          have e6 : M6 = zuR M' (H + 1) i (e (aclean es i).length) := by rw [show M6 = zuR M' (zR M' H 1) (nI i).toNatClampNeg (zR M' (zR M' H 1) (nI (aclean es i).length).toNatClampNeg) from rfl, hr1, ci, ck, hRk.1]
          clear_value M6
          have r61 : zR M6 H 1 = H + 1 := by rw [e6, zR_uR, if_neg (by omega)]; exact hr1
          refine ⟨s, by rw [r61, hI'.2.1.1], by rw [r61, hI'.2.1.1]; exact zk, hRi.2.1, ?_⟩
          intro M7
          have e7 : M7 = zuR M6 (H + 1) (aclean es i).length (e i) := by rw [show M7 = zuR M6 (zR M6 H 1) (nI (aclean es i).length).toNatClampNeg (e i) from rfl, r61, ck]
          clear_value M7
          intro v1 v2
          rw [show v1 = nI (aclean es (i + 1)).length by rw [heq, List.length_append]; exact nI_1 _, show v2 = nI (i + 1) from nI_1 i]
          have hfr7 : zfq (fun _ => False) (H + 1) M' M7 := by
            rw [e7, e6]
            exact zfq_tr zfq_uR zfq_uR
          have hz : ∀ j, zR M7 (H + 1) j = if j = (aclean es i).length then e i else if j = i then e (aclean es i).length else zR M' (H + 1) j := fun j => by
            rw [e7, zR_uR, e6, zR_uR]
            simp only [true_and]
          refine ih (i + 1) (fun j => if j = (aclean es i).length then e i else if j = i then e (aclean es i).length else e j) M7 _ (by omega) (zfq_tr hfr hfr7) (ist_fq hfr7 hI' (fun j hj => ?_) (iap_swap hI'.2.2.1 (by omega) (by omega)) fun j hj => ?_) (fun j h1 h2 => ?_) ?_
          · rw [hz, (hI'.2.1.2 j hj).1]
          · try dsimp only
            split
            · exact ⟨i, by omega, rfl⟩
            · split
              · exact ⟨_, by omega, rfl⟩
              · exact ⟨j, hj, rfl⟩
          · try dsimp only
            rw [if_neg (by omega), if_neg (by omega)]
            exact hu j (by omega) h2
          · rw [heq]
            intro j E hj
            by_cases hjk : j < (aclean es i).length
            · rw [List.getElem?_append_left hjk] at hj
              try dsimp only
              rw [if_neg (by omega), if_neg (by omega)]
              exact hel j E hj
            · have hjl := (List.getElem?_eq_some_iff.mp hj).1
              rw [List.length_append] at hjl
              have hjk2 : j = (aclean es i).length := by simp at hjl; omega
              rw [List.getElem?_append_right (by omega), hjk2, Nat.sub_self] at hj
              have hj : some (es.getD i aE0) = some E := hj
              cases hj
              try dsimp only
              rw [if_pos hjk2, hu i (by omega) (by omega)]
              refine hE i _ ?_
              rw [List.getD_eq_getElem?_getD, List.getElem?_eq_getElem hil]
              rfl
  exact en_X3_dropNeedless _ M (sg_X3_dropNeedless_0 _ M (loop es.length 0 eid M _ (by omega) zfq_rf hI (fun _ _ _ => rfl) fun j E hj => by cases hj))
