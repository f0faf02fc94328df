/-! cofactors: of differences, and of rests, in the class -/
theorem iel_body {M : zM} {eid : Nat → Nat} {k sh i : Nat} {es : List aE} (hE : ∀ E : aE, es[i]? = some E → edy M (eid i) k E) (hk : iok k sh es) (hi : i < es.length) : pdy M (eid i + 1) k (es.getD i aE0).1 ∧ pok k (es.getD i aE0).1 ∧ (es.getD i aE0).1 ≠ [] := by
  have hu := List.getElem?_eq_getElem hi
  have e : es.getD i aE0 = es[i] := by rw [List.getD_eq_getElem?_getD, hu]; rfl
  obtain ⟨h1, h2, h3⟩ := hk _ (List.getElem_mem hi)
  rw [e]
  exact ⟨(hE _ hu).1, h1.1, h2⟩
theorem iel_cof {M : zM} {eid : Nat → Nat} {k sh i kk : Nat} {es : List aE} (hE : ∀ E : aE, es[i]? = some E → edy M (eid i) k E) (hk : iok k sh es) (hi : i < es.length) (hkk : kk < sh) : pdy M (eid i + 6 + 4 * kk) k (acof es i kk) ∧ pok k (acof es i kk) := by
  have hu := List.getElem?_eq_getElem hi
  obtain ⟨h1, h2, h3⟩ := hk _ (List.getElem_mem hi)
  have hv := List.getElem?_eq_getElem (l := es[i].2) (i := kk) (by omega)
  have e : acof es i kk = es[i].2[kk] := by
    unfold acof
    rw [List.getD_eq_getElem?_getD, List.getD_eq_getElem?_getD, hu]
    show (es[i].2[kk]?).getD [] = _
    rw [hv]
    rfl
  rw [e]
  exact ⟨(hE _ hu).2 kk _ hv, h1.2 _ (List.getElem_mem _)⟩
theorem mdv_lcm1 {a b : aM} : mdvd a (mlcm a b) := by
  unfold mdvd mlcm
  dsimp only
  omega
theorem mdv_lcm2 {a b : aM} : mdvd b (mlcm a b) := by
  unfold mdvd mlcm
  dsimp only
  omega
theorem fok_1 : fok (1, 1) := by unfold fok; decide
theorem fok_m1 : fok (-1, 1) := by unfold fok; decide
def inC (w e a : Nat) : Prop := e + 6 ≤ a ∧ a < e + 6 + 4 * w
theorem sp_crossOut {d H o w k sh l r q : Nat} {M : zM} {eid : Nat → Nat} {es : List aE} {P : Int32 → zM → Prop} (hd : 5 ≤ d) (hI : ist M H o w eid) (ho : ost M o k) (hsh : sh ≤ w) (hc : icn M H sh es.length) (hE : iel M eid k es) (hk : iok k sh es) (hL : zI M H 8 = nI l) (hR : zI M H 9 = nI r) (hlr : l < r) (hr : r < es.length) (hq : pst M q o) (hqo : ¬ inP q o) (hqH : q + 4 ≤ H ∨ H + 153 + 100 * w ≤ q) (hq0 : pdy M q k [])
    (h1 : ∀ f cs M', aspol k (es.getD l aE0) (es.getD r aE0) (es.getD l aE0).1 (es.getD r aE0).1 = some f → omp (fun kk => aspol k (es.getD l aE0) (es.getD r aE0) (acof es l kk) (acof es r kk)) sh = some cs → zfr (fun a => inP q a ∨ inC w (eid es.length) a) M M' → pdy M' q k f → pok k f → (∀ (j : Nat) (c : aP), cs[j]? = some c → pdy M' (eid es.length + 6 + 4 * j) k c ∧ pok k c) → P 1 M')
    (h0 : ∀ M', aspol k (es.getD l aE0) (es.getD r aE0) (es.getD l aE0).1 (es.getD r aE0).1 = none ∨ omp (fun kk => aspol k (es.getD l aE0) (es.getD r aE0) (acof es l kk) (acof es r kk)) sh = none → zfr (fun a => inP q a ∨ inC w (eid es.length) a) M M' → P 0 M') : ycI d nX3_crossOut [.ref H, .int (e8 (mlcm (ald es l) (ald es r))), .ref q] M P := by
  obtain ⟨d, rfl, he⟩ := dS hd
  have hl := hc.2.2
  have hw8 := hI.2.2.2.2
  have hoH := hI.2.2.2.1
  have s := hI.1.1
  have hr1 := hI.1.2.2.1
  have cl := cl_n (n := l) (by omega)
  have cr := cl_n (n := r) (by omega)
  have cn := cl_n (n := es.length) (by omega)
  have hRl := hI.2.1.2 l (by omega)
  have hRr := hI.2.1.2 r (by omega)
  have hRn := hI.2.1.2 es.length (by omega)
  have bl := hI.2.2.1.1 l (by omega)
  have br := hI.2.2.1.1 r (by omega)
  have bn := hI.2.2.1.1 es.length (by omega)
  have al := hI.2.2.1.2 l es.length (by omega) (by omega) (by omega)
  have ar := hI.2.2.1.2 r es.length (by omega) (by omega) (by omega)
  have hml := iok_mok hk l
  have hmr := iok_mok hk r
  have hmx : mok (msub (mlcm (ald es l) (ald es r)) (ald es l)) := msub_ok (mlcm_ok hml hmr)
  have hmy : mok (msub (mlcm (ald es l) (ald es r)) (ald es r)) := msub_ok (mlcm_ok hml hmr)
  have loop : ∀ (n i : Nat) (pre : List aP) (f : aP) (M' : zM) (o1 o2 o8 : Option Value), i + n = sh → aspol k (es.getD l aE0) (es.getD r aE0) (es.getD l aE0).1 (es.getD r aE0).1 = some f → omp (fun kk => aspol k (es.getD l aE0) (es.getD r aE0) (acof es l kk) (acof es r kk)) i = some pre → zfr (fun a => inP q a ∨ inC w (eid es.length) a) M M' → pdy M' q k f → pok k f → (∀ (j : Nat) (c : aP), pre[j]? = some c → pdy M' (eid es.length + 6 + 4 * j) k c ∧ pok k c) → wX3_crossOut d (fun r M2 => ∃ x : Int32, r = [.int x] ∧ P x M2) 40 [some (.ref H), o1, o2, some (.ref (eid l)), some (.ref (eid r)), some (.int (e8 (msub (mlcm (ald es l) (ald es r)) (ald es l)))), some (.int (e8 (msub (mlcm (ald es l) (ald es r)) (ald es r)))), some (.int (nI i)), o8] [] M' := by
    intro n
    induction n with
    | zero =>
      intro i pre f M' o1 o2 o8 hi hf hpre hfr hqd hqk hcs
      have hI' := ist_fr hfr hI
      have hc' := icn_fr hfr (by unfold inP inC; omega) hc
      refine sg_X3_crossOut_40 _ _ _ _ _ _ _ _ _ _ ⟨hI'.1.1, fun _ => ⟨Or.inr rfl, _, rfl, h1 f pre M' hf (by rw [← show i = sh by omega]; exact hpre) hfr hqd hqk hcs⟩, fun c => absurd (by rw [hc'.2.1, show i = sh by omega]; exact Int32.le_refl _) c⟩
    | succ n ih =>
      intro i pre f M' o1 o2 o8 hi hf hpre hfr hqd hqk hcs
      have hI' := ist_fr hfr hI
      have s' := hI'.1.1
      have hr1' := hI'.1.2.2.1
      have hc' := icn_fr hfr (by unfold inP inC; omega) hc
      have ho' := ost_fr hfr (by unfold inP inC; unfold inP at hqo; omega) ho
      have hRl' := hI'.2.1.2 l (by omega)
      have hRr' := hI'.2.1.2 r (by omega)
      have hRn' := hI'.2.1.2 es.length (by omega)
      have ci := cl_n (n := i) (by omega)
      have hli := iel_cof (fun E hx => edy_fr (w := w) hfr (by rw [(hk E (List.mem_of_getElem? hx)).2.2]; exact hsh) (fun a ha => by unfold inE at ha; unfold inP inC; omega) (hE l E hx)) hk (show l < es.length by omega) (show i < sh by omega)
      have hri := iel_cof (fun E hx => edy_fr (w := w) hfr (by rw [(hk E (List.mem_of_getElem? hx)).2.2]; exact hsh) (fun a ha => by unfold inE at ha; unfold inP inC; omega) (hE r E hx)) hk hr (show i < sh by omega)
      have hpl := hRn'.2.2.2.2.2.2.2 i (by omega)
      have r8 : zR M' (zR M' (zR M' (zR M' H 1) (zI M' H 2).toNatClampNeg) 1) (nI i).toNatClampNeg = eid es.length + 6 + 4 * i := by
        rw [hr1', hc'.1, cn, hRn'.1, hRn'.2.2.2.1, ci, hRn'.2.2.2.2.2.1 i (by omega)]
      have fin0 : ∀ M2, zfr (fun a => inP q a ∨ inC w (eid es.length) a) M M2 → aspol k (es.getD l aE0) (es.getD r aE0) (acof es l i) (acof es r i) = none → P 0 M2 := fun M2 hfr2 hn => by
        refine h0 M2 (Or.inr (omp_none (n := i + 1) ?_ (by omega))) hfr2
        rw [omp_s, hpre]
        dsimp only
        rw [hn]
      refine sg_X3_crossOut_40 _ _ _ _ _ _ _ _ _ _ ⟨s', fun c => ?_, fun _ => ⟨s', s', by rw [hr1', hI'.2.1.1], by rw [hr1', hI'.2.1.1, hc'.1]; exact zin_n (by omega) (by omega), by rw [hr1', hc'.1, cn, hRn'.1]; exact hRn'.2.1, by rw [hr1', hc'.1, cn, hRn'.1, hRn'.2.2.2.1, hRn'.2.2.2.2.1], by rw [hr1', hc'.1, cn, hRn'.1, hRn'.2.2.2.1, hRn'.2.2.2.2.1]; exact zin_n (by omega) (by omega), ?_⟩⟩
      · rw [hc'.2.1] at c
        have := (nI_leI (by omega) (by omega)).mp c
        omega
      · intro r8_1
        have e8_1 : r8_1 = eid es.length + 6 + 4 * i := r8
        clear_value r8_1
        subst e8_1
        refine ⟨hpl.1, sp_empty (k := k) (by omega) hpl fun M2 hfr2 hpd2 => ?_⟩
        have hI2 := ist_fr hfr2 hI'
        have hRl2 := hI2.2.1.2 l (by omega)
        have hRr2 := hI2.2.1.2 r (by omega)
        have ho2 := ost_fr hfr2 (by unfold inP; omega) ho'
        have hpl2 := pst_fr hfr2 hpl
        have up2 : ∀ a, inP (eid es.length + 6 + 4 * i) a → inP q a ∨ inC w (eid es.length) a := fun a ha => Or.inr (by unfold inP at ha; unfold inC; omega)
        refine ⟨hRl2.2.1, by rw [hRl2.2.2.2.1, hRl2.2.2.2.2.1], by rw [hRl2.2.2.2.1, hRl2.2.2.2.2.1]; exact zin_n (by omega) (by omega), hpl2.1, ?_⟩
        rw [hRl2.2.2.2.1, ci, hRl2.2.2.2.2.2.1 i (by omega)]
        refine sp_adds (c := (1, 1)) (by omega) hpl2 (hRl2.2.2.2.2.2.2.2 i (by omega)) (by omega) (by unfold inP; omega) ho2 hpd2 (pdy_fr hfr2 (inP_ne (by omega)) hli.1) pok_nil hli.2 fok_1 (by decide) hmx (fun g M3 hg hfr3 hpd3 => ?_) (fun M3 hn3 hfr3 => ?_)
        · have hI3 := ist_fr hfr3 hI2
          have hRr3 := hI3.2.1.2 r (by omega)
          have ho3 := ost_fr hfr3 (by unfold inP; omega) ho2
          have hpl3 := pst_fr hfr3 hpl2
          have hgk := aadds_ok fok_1 (by decide) hli.2.1 pok_nil hg
          refine ⟨fun z => absurd z (by decide), fun _ => ⟨hRr3.2.1, by rw [hRr3.2.2.2.1, hRr3.2.2.2.2.1], by rw [hRr3.2.2.2.1, hRr3.2.2.2.2.1]; exact zin_n (by omega) (by omega), hpl3.1, ?_⟩⟩
          rw [hRr3.2.2.2.1, hRr3.2.2.2.2.2.1 i (by omega)]
          refine sp_adds (c := (-1, 1)) (by omega) hpl3 (hRr3.2.2.2.2.2.2.2 i (by omega)) (by omega) (by unfold inP; omega) ho3 hpd3 (pdy_fr hfr3 (inP_ne (by omega)) (pdy_fr hfr2 (inP_ne (by omega)) hri.1)) hgk hri.2 fok_m1 (by decide) hmy (fun g' M4 hg' hfr4 hpd4 => ?_) (fun M4 hn4 hfr4 => ?_)
          · have hfa := zfr_tr hfr2 (zfr_tr hfr3 hfr4)
            refine ⟨fun _ => ?_, fun z => absurd (Classical.not_not.mp z) (by decide)⟩
            intro v7
            rw [show v7 = nI (i + 1) from nI_1 i]
            refine ih (i + 1) (pre ++ [g']) f M4 _ _ _ (by omega) hf ?_ (zfr_tr hfr (zfr_up hfa up2)) (pdy_fr hfa (inP_ne (by omega)) hqd) hqk fun j c hj => ?_
            · rw [omp_s, hpre]
              dsimp only
              rw [show aspol k (es.getD l aE0) (es.getD r aE0) (acof es l i) (acof es r i) = some g' by unfold aspol; rw [show aadds k (1, 1) (msub (mlcm (lmon (es.getD l aE0).1) (lmon (es.getD r aE0).1)) (lmon (es.getD l aE0).1)) (acof es l i) [] = some g from hg]; exact hg']
            · have hlen := omp_len hpre
              by_cases hji : j < i
              · rw [List.getElem?_append_left (by omega)] at hj
                obtain ⟨a1, a2⟩ := hcs j c hj
                exact ⟨pdy_fr hfa (inP_ne (by omega)) a1, a2⟩
              · have hjl := (List.getElem?_eq_some_iff.mp hj).1
                have : j = i := by simp at hjl; omega
                subst this
                rw [List.getElem?_append_right (by omega), hlen, Nat.sub_self] at hj
                cases hj
                exact ⟨hpd4, aadds_ok fok_m1 (by decide) hri.2.1 hgk hg'⟩
          · refine ⟨fun z => absurd rfl z, fun _ => ⟨Or.inl rfl, _, rfl, fin0 M4 (zfr_tr hfr (zfr_up (zfr_tr hfr2 (zfr_tr hfr3 hfr4)) up2)) ?_⟩⟩
            unfold aspol
            rw [show aadds k (1, 1) (msub (mlcm (lmon (es.getD l aE0).1) (lmon (es.getD r aE0).1)) (lmon (es.getD l aE0).1)) (acof es l i) [] = some g from hg]
            exact hn4
        · refine ⟨fun _ => ⟨Or.inl rfl, _, rfl, fin0 M3 (zfr_tr hfr (zfr_up (zfr_tr hfr2 hfr3) up2)) ?_⟩, fun z => absurd rfl z⟩
          unfold aspol
          rw [show aadds k (1, 1) (msub (mlcm (lmon (es.getD l aE0).1) (lmon (es.getD r aE0).1)) (lmon (es.getD l aE0).1)) (acof es l i) [] = none from hn3]
  refine en_X3_crossOut _ _ _ M (sg_X3_crossOut_0 _ _ _ M ⟨s, s, by rw [hr1, hI.2.1.1], by rw [hr1, hI.2.1.1, hL]; exact zin_n (by omega) (by omega), ?_⟩)
  intro r3
  have e3 : r3 = eid l := by rw [show r3 = zR M (zR M H 1) (zI M H 8).toNatClampNeg from rfl, hr1, hL, cl, hRl.1]
  clear_value r3
  subst e3
  refine ⟨s, s, by rw [hr1, hI.2.1.1], by rw [hr1, hI.2.1.1, hR]; exact zin_n (by omega) (by omega), ?_⟩
  intro r4
  have e4 : r4 = eid r := by rw [show r4 = zR M (zR M H 1) (zI M H 9).toNatClampNeg from rfl, hr1, hR, cr, hRr.1]
  clear_value r4
  subst e4
  refine ⟨hRl.2.1, sp_ld (by omega) hI hE hk (by omega) (by omega) ?_⟩
  intro v5
  have e5 : v5 = e8 (msub (mlcm (ald es l) (ald es r)) (ald es l)) := e8_sub mdv_lcm1
  clear_value v5
  subst e5
  refine ⟨hRr.2.1, sp_ld (by omega) hI hE hk (by omega) hr ?_⟩
  intro v6
  have e6 : v6 = e8 (msub (mlcm (ald es l) (ald es r)) (ald es r)) := e8_sub mdv_lcm2
  clear_value v6
  subst e6
  have hbl := iel_body (fun E hx => hE l E hx) hk (show l < es.length by omega)
  have hbr := iel_body (fun E hx => hE r E hx) hk hr
  have upq : ∀ a, inP q a → inP q a ∨ inC w (eid es.length) a := fun a ha => Or.inl ha
  refine ⟨hRl.2.1, hq.1, ?_⟩
  rw [hRl.2.2.1]
  refine sp_adds (c := (1, 1)) (by omega) hq hRl.2.2.2.2.2.2.1 (by omega) hqo ho hq0 hbl.1 pok_nil hbl.2.1 fok_1 (by decide) hmx (fun g M3 hg hfr3 hpd3 => ?_) (fun M3 hn3 hfr3 => ?_)
  · have hI3 := ist_fr hfr3 hI
    have hRr3 := hI3.2.1.2 r (by omega)
    have hq3 := pst_fr hfr3 hq
    have hgk := aadds_ok fok_1 (by decide) hbl.2.1.1 pok_nil hg
    refine ⟨fun z => absurd z (by decide), fun _ => ⟨hRr3.2.1, hq3.1, ?_⟩⟩
    rw [hRr3.2.2.1]
    refine sp_adds (c := (-1, 1)) (by omega) hq3 hRr3.2.2.2.2.2.2.1 (by omega) hqo (ost_fr hfr3 hqo ho) hpd3 (pdy_fr hfr3 (inP_ne (by omega)) hbr.1) hgk hbr.2.1 fok_m1 (by decide) hmy (fun g' M4 hg' hfr4 hpd4 => ?_) (fun M4 hn4 hfr4 => ?_)
    · refine ⟨fun _ => loop sh 0 [] g' M4 _ _ _ (by omega) ?_ rfl (zfr_up (zfr_tr hfr3 hfr4) upq) hpd4 (aadds_ok fok_m1 (by decide) hbr.2.1.1 hgk hg') (fun j c hj => by simp at hj), fun z => absurd (Classical.not_not.mp z) (by decide)⟩
      unfold aspol
      rw [show aadds k (1, 1) (msub (mlcm (lmon (es.getD l aE0).1) (lmon (es.getD r aE0).1)) (lmon (es.getD l aE0).1)) (es.getD l aE0).1 [] = some g from hg]
      exact hg'
    · refine ⟨fun z => absurd rfl z, fun _ => ⟨Or.inl rfl, _, rfl, h0 M4 (Or.inl ?_) (zfr_up (zfr_tr hfr3 hfr4) upq)⟩⟩
      unfold aspol
      rw [show aadds k (1, 1) (msub (mlcm (lmon (es.getD l aE0).1) (lmon (es.getD r aE0).1)) (lmon (es.getD l aE0).1)) (es.getD l aE0).1 [] = some g from hg]
      exact hn4
  · refine ⟨fun _ => ⟨Or.inl rfl, _, rfl, h0 M3 (Or.inl ?_) (zfr_up hfr3 upq)⟩, fun z => absurd rfl z⟩
    unfold aspol
    rw [show aadds k (1, 1) (msub (mlcm (lmon (es.getD l aE0).1) (lmon (es.getD r aE0).1)) (lmon (es.getD l aE0).1)) (es.getD l aE0).1 [] = none from hn3]
theorem asg_cons {t : aT} {q : aP} : asg true (t :: q) = ((-t.1.1, t.1.2), t.2) :: asg true q := rfl
theorem sp_takeQ {d H D o w k sh x : Nat} {M : zM} {eid : Nat → Nat} {es : List aE} {qs cs : List aP} {P : Int32 → zM → Prop} (hd : 5 ≤ d) (hI : ist M H o w eid) (hD : dst M D o) (ho : ost M o k) (hsh : sh ≤ w) (hHD : H + 153 + 100 * w ≤ D ∨ D + 106 ≤ H) (hc : icn M H sh es.length) (hx : x < 25) (hE : ∀ (e : Nat) (E : aE), e ≠ x → es[e]? = some E → edy M (eid e) k E) (hk : iok k sh es) (hq : ∀ (e : Nat) (q : aP), qs[e]? = some q → pdy M (D + 10 + 4 * e) k q ∧ pok k q ∧ (e = x → q = [])) (hql : qs.length = es.length) (hcs : ∀ (j : Nat) (c : aP), cs[j]? = some c → pdy M (eid x + 6 + 4 * j) k c ∧ pok k c) (hcl : cs.length = sh)
    (h1 : ∀ cs' M', omp (fun kk => als k true kk es qs (cs.getD kk []) es.length) sh = some cs' → zfr (inC w (eid x)) M M' → (∀ (j : Nat) (c : aP), cs'[j]? = some c → pdy M' (eid x + 6 + 4 * j) k c ∧ pok k c) → P 1 M')
    (h0 : ∀ M', omp (fun kk => als k true kk es qs (cs.getD kk []) es.length) sh = none → zfr (inC w (eid x)) M M' → P 0 M') : ycI d nX3_takeQuotients [.ref H, .ref (eid x), .ref D] M P := by
  obtain ⟨d, rfl, he⟩ := dS hd
  have hl := hc.2.2
  have hw8 := hI.2.2.2.2
  have hoH := hI.2.2.2.1
  have bx := hI.2.2.1.1 x hx
  have upC : ∀ i, i < sh → ∀ a, inP (eid x + 6 + 4 * i) a → inC w (eid x) a := fun i hi a ha => by unfold inP at ha; unfold inC; omega
  have loop : ∀ (n i : Nat) (pre : List aP) (M' : zM) (o4 o5 o6 o7 o8 o9 : Option Value), i + n = sh → omp (fun kk => als k true kk es qs (cs.getD kk []) es.length) i = some pre → zfr (inC w (eid x)) M M' → (∀ (j : Nat) (c : aP), (pre ++ cs.drop i)[j]? = some c → pdy M' (eid x + 6 + 4 * j) k c ∧ pok k c) → wX3_takeQuotients d (fun r M2 => ∃ x : Int32, r = [.int x] ∧ P x M2) 2 [some (.ref H), some (.ref (eid x)), some (.ref D), some (.int (nI i)), o4, o5, o6, o7, o8, o9] [] M' := by
    intro n
    induction n with
    | zero =>
      intro i pre M' o4 o5 o6 o7 o8 o9 hi hpre hfr hcp
      have hI' := ist_fr hfr hI
      have hc' := icn_fr hfr (by unfold inC; omega) hc
      rw [List.drop_of_length_le (by omega), List.append_nil] at hcp
      refine sg_X3_takeQuotients_2 _ _ _ _ _ _ _ _ _ _ _ ⟨hI'.1.1, fun _ => ⟨Or.inr rfl, _, rfl, h1 pre M' (by rw [← show i = sh by omega]; exact hpre) hfr hcp⟩, fun c => absurd (by rw [hc'.2.1, show i = sh by omega]; exact Int32.le_refl _) c⟩
    | succ n ih =>
      intro i pre M' o4 o5 o6 o7 o8 o9 hi hpre hfr hcp
      have hI' := ist_fr hfr hI
      have hRx' := hI'.2.1.2 x hx
      have hc' := icn_fr hfr (by unfold inC; omega) hc
      have ci := cl_n (n := i) (by omega)
      have hlen := omp_len hpre
      have hil : i < cs.length := by omega
      have hci : (pre ++ cs.drop i)[i]? = some (cs.getD i []) := by
        rw [List.getElem?_append_right (by omega), hlen, Nat.sub_self, List.drop_eq_getElem_cons hil, List.getD_eq_getElem?_getD, List.getElem?_eq_getElem hil]
        rfl
      obtain ⟨hf0, hf0k⟩ := hcp i _ hci
      have fin0 : ∀ M2, zfr (inC w (eid x)) M M2 → als k true i es qs (cs.getD i []) es.length = none → P 0 M2 := fun M2 hfr2 hn => by
        refine h0 M2 (omp_none (n := i + 1) ?_ (by omega)) hfr2
        rw [omp_s, hpre]
        dsimp only
        rw [hn]
      -- the elements, one by one
      have mid : ∀ (m e : Nat) (f : aP) (M2 : zM) (o6 o7 o8 o9 : Option Value), e + m = es.length → als k true i es qs (cs.getD i []) e = some f → zfr (inP (eid x + 6 + 4 * i)) M' M2 → pdy M2 (eid x + 6 + 4 * i) k f → pok k f → wX3_takeQuotients d (fun r M2 => ∃ x : Int32, r = [.int x] ∧ P x M2) 13 [some (.ref H), some (.ref (eid x)), some (.ref D), some (.int (nI i)), some (.ref (eid x + 6 + 4 * i)), some (.int (nI e)), o6, o7, o8, o9] [] M2 := by
        intro m
        induction m with
        | zero =>
          intro e f M2 o6 o7 o8 o9 hem hal hfr2 hpd hpk
          have hI2 := ist_fr hfr2 hI'
          have hc2 := icn_fr hfr2 (by unfold inP; omega) hc'
          refine sg_X3_takeQuotients_13 _ _ _ _ _ _ _ _ _ _ _ ⟨hI2.1.1, fun _ => ?_, fun c => absurd (by rw [hc2.1, show e = es.length by omega]; exact Int32.le_refl _) c⟩
          intro v3
          rw [show v3 = nI (i + 1) from nI_1 i]
          rw [show e = es.length by omega] at hal
          refine ih (i + 1) (pre ++ [f]) M2 _ _ _ _ _ _ (by omega) (by rw [omp_s, hpre]; dsimp only; rw [hal]) (zfr_tr hfr (zfr_up hfr2 (upC i (by omega)))) fun j c hj => ?_
          by_cases hji : j = i
          · subst hji
            rw [List.append_assoc, List.getElem?_append_right (by omega), hlen, Nat.sub_self] at hj
            cases hj
            exact ⟨hpd, hpk⟩
          · have hj2 : (pre ++ cs.drop i)[j]? = some c := by
              rw [← hj]
              by_cases hjl : j < i
              · rw [List.append_assoc, List.getElem?_append_left (by omega), List.getElem?_append_left (by omega)]
              · rw [List.getElem?_append_right (by omega), List.getElem?_append_right (by rw [List.length_append, hlen]; simp; omega), List.getElem?_drop, List.getElem?_drop, List.length_append, hlen]
                congr 1
                simp
                omega
            obtain ⟨a1, a2⟩ := hcp j c hj2
            exact ⟨pdy_fr hfr2 (inP_ne (by omega)) a1, a2⟩
        | succ m ihm =>
          intro e f M2 o6 o7 o8 o9 hem hal hfr2 hpd hpk
          have hI2 := ist_fr hfr2 hI'
          have hc2 := icn_fr hfr2 (by unfold inP; omega) hc'
          have hM2 := zfr_tr hfr (zfr_up hfr2 (upC i (by omega)))
          have hD2 := dst_fr hM2 hD
          have hel : e < es.length := by omega
          have ce := cl_n (n := e) (by omega)
          have hqe : qs[e]? = some (qs.getD e []) := by
            rw [List.getD_eq_getElem?_getD, List.getElem?_eq_getElem (by omega)]
            rfl
          obtain ⟨q1, q2, q3⟩ := hq e _ hqe
          have hql2 := q2.2.2
          have stp : als k true i es qs (cs.getD i []) (e + 1) = aprod k (acof es e i) (asg true (qs.getD e [])) f := by rw [als_s, hal]
          clear hqe
          generalize qs.getD e [] = q at q1 q2 q3 hql2 stp
          have inner : ∀ (u t : Nat) (g : aP) (M3 : zM) (o8 o9 : Option Value), t + u = q.length → aprod k (acof es e i) (asg true (q.drop t)) g = als k true i es qs (cs.getD i []) (e + 1) → zfr (inP (eid x + 6 + 4 * i)) M' M3 → pdy M3 (eid x + 6 + 4 * i) k g → pok k g → wX3_takeQuotients d (fun r M2 => ∃ x : Int32, r = [.int x] ∧ P x M2) 24 [some (.ref H), some (.ref (eid x)), some (.ref D), some (.int (nI i)), some (.ref (eid x + 6 + 4 * i)), some (.int (nI e)), some (.ref (D + 10 + 4 * e)), some (.int (nI t)), o8, o9] [] M3 := by
            intro u
            induction u with
            | zero =>
              intro t g M3 o8 o9 htu hap hfr3 hpd3 hpk3
              have hM3 := zfr_tr hfr (zfr_up hfr3 (upC i (by omega)))
              have hqp3 := pst_fr hM3 (hD.2.2.2.2.2.2.2.2 e (by omega))
              have q13 := pdy_fr hM3 (fun a ha => by unfold inP at ha; unfold inC; omega) q1
              refine sg_X3_takeQuotients_24 _ _ _ _ _ _ _ _ _ _ _ ⟨hqp3.1, fun _ => ?_, fun c => absurd (by rw [q13.1, show t = q.length by omega]; exact Int32.le_refl _) c⟩
              intro v5
              rw [show v5 = nI (e + 1) from nI_1 e]
              rw [List.drop_of_length_le (by omega)] at hap
              exact ihm (e + 1) g M3 _ _ _ _ (by omega) hap.symm hfr3 hpd3 hpk3
            | succ u ihu =>
              intro t g M3 o8 o9 htu hap hfr3 hpd3 hpk3
              have hM3 := zfr_tr hfr (zfr_up hfr3 (upC i (by omega)))
              have hqp3 := pst_fr hM3 (hD.2.2.2.2.2.2.2.2 e (by omega))
              have q13 := pdy_fr hM3 (fun a ha => by unfold inP at ha; unfold inC; omega) q1
              have hI3 := ist_fr hM3 hI
              have ho3 := ost_fr hM3 (by unfold inC; omega) ho
              have htl : t < q.length := by omega
              have hut := List.getElem?_eq_getElem htl
              obtain ⟨g1, g2, -⟩ := q13.2 t _ hut
              have htk := q2.1 _ (List.getElem_mem htl)
              have hex : e ≠ x := fun z => by rw [q3 z] at htl; simp at htl
              have ap := hI.2.2.1.2 e x (by omega) hx hex
              have ct := cl_n (n := t) (by omega)
              have hRe3 := hI3.2.1.2 e (by omega)
              have hcf := iel_cof (fun E hz => edy_fr (w := w) hM3 (by rw [(hk E (List.mem_of_getElem? hz)).2.2]; exact hsh) (fun a ha => by unfold inE at ha; unfold inC; omega) (hE e E hex hz)) hk hel (show i < sh by omega)
              have hpx3 := pst_fr hfr3 (hRx'.2.2.2.2.2.2.2 i (by omega))
              rw [List.drop_eq_getElem_cons htl, asg_cons, aprod_cons] at hap
              generalize q[t] = ut at hut g1 g2 htk hap
              refine sg_X3_takeQuotients_24 _ _ _ _ _ _ _ _ _ _ _ ⟨hqp3.1, fun c => ?_, fun _ => ⟨hqp3.1, p_k1 hqp3, by rw [p_l1 hqp3]; exact zin_n (by omega) (by omega), ?_⟩⟩
              · rw [q13.1] at c
                have := (nI_leI (by omega) (by omega)).mp c
                omega
              · rw [hqp3.2.2.1, ct, g1]
                refine sp_fneg (by omega) htk.1 ⟨hqp3.1, p_k2 hqp3, by rw [p_l2 hqp3]; exact zin_n (by omega) (by omega), hI3.1.1, by rw [hI3.1.2.2.1, hI3.2.1.1], by rw [hI3.1.2.2.1, hI3.2.1.1]; exact zin_n (by omega) (by omega), by rw [hI3.1.2.2.1, ce, hRe3.1]; exact hRe3.2.1, by rw [hI3.1.2.2.1, ce, hRe3.1, hRe3.2.2.2.1, hRe3.2.2.2.2.1], by rw [hI3.1.2.2.1, ce, hRe3.1, hRe3.2.2.2.1, hRe3.2.2.2.2.1]; exact zin_n (by omega) (by omega), hpx3.1, ?_⟩
                rw [hqp3.2.2.2.1, g2, hI3.1.2.2.1, ce, hRe3.1, hRe3.2.2.2.1, ci, hRe3.2.2.2.2.2.1 i (by omega)]
                have hn0 : ((-ut.1.1 : Int), ut.1.2).1 ≠ 0 := by
                  have := htk.2.1
                  dsimp only
                  omega
                refine sp_adds (c := (-ut.1.1, ut.1.2)) (by omega) hpx3 (hRe3.2.2.2.2.2.2.2 i (by omega)) (by omega) (by unfold inP; omega) ho3 hpd3 hcf.1 hpk3 hcf.2 (fneg_ok htk.1) hn0 htk.2.2 (fun g' M4 hg hfr4 hpd4 => ?_) (fun M4 hn4 hfr4 => ?_)
                · rw [hg] at hap
                  refine ⟨fun _ => ?_, fun z => absurd (Classical.not_not.mp z) (by decide)⟩
                  intro v7
                  rw [show v7 = nI (t + 1) from nI_1 t]
                  exact ihu (t + 1) g' M4 _ _ (by omega) hap (zfr_tr hfr3 hfr4) hpd4 (aadds_ok (fneg_ok htk.1) hn0 hcf.2.1 hpk3 hg)
                · rw [hn4] at hap
                  exact ⟨fun z => absurd rfl z, fun _ => ⟨Or.inl rfl, _, rfl, fin0 M4 (zfr_tr hM3 (zfr_up hfr4 (upC i (by omega)))) (als_none hap.symm (by omega))⟩⟩
          refine sg_X3_takeQuotients_13 _ _ _ _ _ _ _ _ _ _ _ ⟨hI2.1.1, fun c => ?_, fun _ => ⟨hD2.1, by rw [hD2.2.2.2.1, hD2.2.2.2.2.1], by rw [hD2.2.2.2.1, hD2.2.2.2.2.1]; exact zin_n (by omega) (by omega), ?_⟩⟩
          · rw [hc2.1] at c
            have := (nI_leI (by omega) (by omega)).mp c
            omega
          · intro r6
            have e6 : r6 = D + 10 + 4 * e := by rw [show r6 = zR M2 (zR M2 D 2) (nI e).toNatClampNeg from rfl, hD2.2.2.2.1, ce, hD2.2.2.2.2.2.1 e (by omega)]
            clear_value r6
            subst e6
            exact inner q.length 0 f M2 _ _ (by omega) stp.symm hfr2 hpd hpk
      refine sg_X3_takeQuotients_2 _ _ _ _ _ _ _ _ _ _ _ ⟨hI'.1.1, fun c => ?_, fun _ => ⟨hRx'.2.1, by rw [hRx'.2.2.2.1, hRx'.2.2.2.2.1], by rw [hRx'.2.2.2.1, hRx'.2.2.2.2.1]; exact zin_n (by omega) (by omega), ?_⟩⟩
      · rw [hc'.2.1] at c
        have := (nI_leI (by omega) (by omega)).mp c
        omega
      · intro r4
        have e4 : r4 = eid x + 6 + 4 * i := by rw [show r4 = zR M' (zR M' (eid x) 1) (nI i).toNatClampNeg from rfl, hRx'.2.2.2.1, ci, hRx'.2.2.2.2.2.1 i (by omega)]
        clear_value r4
        subst e4
        exact mid es.length 0 (cs.getD i []) M' _ _ _ _ (by omega) rfl zfr_rf hf0 hf0k
  exact en_X3_takeQuotients _ _ _ M (sg_X3_takeQuotients_0 _ _ _ M (loop sh 0 [] M _ _ _ _ _ _ (by omega) rfl zfr_rf (fun j c hj => hcs j c (by simpa using hj))))
