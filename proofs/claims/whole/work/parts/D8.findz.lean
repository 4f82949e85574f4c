/-! find OF THE REFERENCE: the same. -/
section ZFIND
variable {F p n ord gc D : Nat} {cg2 kg2 : Nat → Nat} {dgs2 : Nat → Int32} {G2 : Nat → Nat}
theorem p_zhighest {n : Nat} (h1 : 1 ≤ n) (h4 : n ≤ 4) : m_zhighest F (nI n) = some (nI (hiN n)) := by
  rcases (show n = 1 ∨ n = 2 ∨ n = 3 ∨ n = 4 by omega) with rfl | rfl | rfl | rfl <;> rfl
theorem p_zfind_pre (hF : 40000 < F) (hp : isP p) (hp2 : p ≤ 32003) (h1 : 1 ≤ n) (h4 : n ≤ 4) (hord : ord < 2) (hD : D ≤ hiN n) (hT : Tab n ord cg2 kg2) (hdg : ∀ q, q < ctN n → dgs2 q = nI (degN (cg2 q))) (hgc : gc ≤ 8) (hG : ∀ g, g < gc → ∀ j, genV G2 g j < p) (hG0 : ∀ g, g < gc → ∀ j, ctN n ≤ j → genV G2 g j = 0)
    {lf le mem tc up va wo : Int32} {hs R w bs : Nat → Nat} {rst prd kn ld tl wd vc sy nw nx : Nat → Int32} (hh : ∀ j, 126 ≤ j → hs j = 0) :
    ∃ hs' R' w' bs', GoodZ p n D cg2 (gensD n D cg2 G2 gc) R' hs' ∧ (∀ j, 126 ≤ j → hs' j = 0) ∧ Arr (bsN cg2 hs' (ctN n)) bs' ∧
      m_zfind F (nI gc) (nI (ctN n)) (nI n) (nI ord) (nI p) (nF cg2) dgs2 (nF G2) (nI D) lf le mem tc up va wo (nF hs) (nF R) (nF w) (nF bs) rst prd kn ld tl wd vc sy nw nx =
        bd1 (m_zcomplete F (nI gc) (nI (bsN cg2 hs' (ctN n)).length) (nI (ctN n)) (nI D) (nF cg2) dgs2 (nF G2) (nF bs')) fun r_1 =>
          if r_1 = 0 then some (0, 0, 0, nI (bsN cg2 hs' (ctN n)).length, 2, nI D, va, wo, nF hs', nF R', nF w', nF bs', rst, prd, kn, ld, tl, wd, vc, sy, nw, nx) else
          (bd3 (m_zfindRest F (nI (bsN cg2 hs' (ctN n)).length) (nI n) (nI ord) (nF cg2) (nF bs') le rst) fun r_2 Z_lefts_3 Z_rest_4 =>
          if r_2 = 0 then some (0, 0, 0, nI (bsN cg2 hs' (ctN n)).length, 2, nI D, va, wo, nF hs', nF R', nF w', nF bs', Z_rest_4, prd, kn, ld, tl, wd, vc, sy, nw, nx) else
          (bd2 (m_zfindProducts F Z_lefts_3 (nI (bsN cg2 hs' (ctN n)).length) (nI n) (nI ord) (nI p) (nF cg2) (nF R') (nF bs') Z_rest_4 prd kn) fun Z_product_6 Z_known_7 =>
          bd9 (m_zfindDictionary F Z_lefts_3 (nI n) (nI p) Z_product_6 lf wo ld tl wd vc sy nw nx) fun a1 a2 a3 a4 a5 a6 a7 a8 a9 =>
          some (Z_lefts_3, a1, Z_lefts_3, nI (bsN cg2 hs' (ctN n)).length, 0, nI D, nI n, a2, nF hs', nF R', nF w', nF bs', Z_rest_4, Z_product_6, Z_known_7, a3, a4, a5, a6, a7, a8, a9))) := by
  have hhi := hiN_le n
  have hct := ctN_le h1 h4
  obtain ⟨R', hs', w', a1, a2, a3⟩ := p_zfindSpace (F := F) (R := R) (w := w) hF hp hp2 h1 h4 hD hT hdg hgc hG hG0 hh
  obtain ⟨bs', b1, b2⟩ := p_z50 (F := F) (n := ctN n) (gI := nI gc) (nn := nI n) (oI := nI ord) (pI := nI p) (dgs := dgs2) (GA := nF G2) (lf := lf) (le := le) (tc := nI 0) (up := nI D) (va := va) (wo := wo) (row := nF R') (wk := nF w') (rst := rst) (prd := prd) (kn := kn) (ld := ld) (tl := tl) (wd := wd) (vc := vc) (sy := sy) (nw := nw) (nx := nx) (by omega) hct (fun j hj => (hT.inT h1 h4 hj).1) a2.1.1 (ctN n) F 0 bs (by omega) (by omega) (fun q hq => absurd hq (Nat.not_lt_zero _))
  refine ⟨hs', R', w', bs', a2, a3, b1, ?_⟩
  unfold m_zfind
  rw [if_neg (show ¬ nI D < 0 from nI_nlt (Nat.zero_le D) (by omega)), p_zhighest h1 h4, bd1_n, if_pos (nI_le hD (by omega))]
  unfold s_zfind_21
  rw [if_pos rfl, a1, bd3_n, show (0 : Int32) = nI 0 from rfl]
  refine Eq.trans b2 ?_
  show s_zfind_50 F (nI gc) (nI (ctN n)) (nI n) (nI ord) (nI p) (nF cg2) dgs2 (nF G2) (b_zfind_50 F (nI gc) (nI (ctN n)) (nI n) (nI ord) (nI p) (nF cg2) dgs2 (nF G2) 0) (nI (ctN n)) lf le (nI (bsN cg2 hs' (ctN n)).length) (nI 0) (nI D) va wo (nF hs') (nF R') (nF w') (nF bs') rst prd kn ld tl wd vc sy nw nx = _
  unfold s_zfind_50
  rw [if_pos (nI_le (Nat.le_refl _) (by omega))]
  rfl
variable {cg G : Nat → Nat}
theorem p_zfind_rf (hF : 40000 < F) (hp : isP p) (hp2 : p ≤ 32003) (h1 : 1 ≤ n) (h4 : n ≤ 4) (hord : ord < 2) (hD : D ≤ hiN n) (hT : Tab n ord cg2 kg2) (hdg : ∀ q, q < ctN n → dgs2 q = nI (degN (cg2 q))) (hgc : gc ≤ 8) (hG : ∀ g, g < gc → ∀ j, genV G2 g j < p) (hG0 : ∀ g, g < gc → ∀ j, ctN n ≤ j → genV G2 g j = 0)
    {lf le mem tc up va wo : Int32} {hs R w bs rst : Nat → Nat} {prd kn ld tl wd vc sy nw nx : Nat → Int32} (hh : ∀ j, 126 ≤ j → hs j = 0) {kg : Nat → Nat} (hTc : Tab n ord cg kg) (hGG : ∀ g, g < gc → genV G g = genV G2 g) (hR : RfC p n ord D cg G gc) :
    ∃ m' hs' R' w' bs' rst', (∀ j, 126 ≤ j → hs' j = 0) ∧
      m_zfind F (nI gc) (nI (ctN n)) (nI n) (nI ord) (nI p) (nF cg2) dgs2 (nF G2) (nI D) lf le mem tc up va wo (nF hs) (nF R) (nF w) (nF bs) (nF rst) prd kn ld tl wd vc sy nw nx = some (nI 0, nI 0, nI 0, m', nI 2, nI D, va, wo, nF hs', nF R', nF w', nF bs', nF rst', prd, kn, ld, tl, wd, vc, sy, nw, nx) := by
  have hD30 : D ≤ 30 := Nat.le_trans hD (hiN_le n)
  have hhi := hiN_le n
  have hct := ctN_le h1 h4
  have hcc := Tab_uniq hTc hT
  obtain ⟨hs', R', w', bs', a1, a2, a3, a4⟩ := p_zfind_pre (F := F) (lf := lf) (le := le) (mem := mem) (tc := tc) (up := up) (va := va) (wo := wo) (R := R) (w := w) (bs := bs) (rst := nF rst) (prd := prd) (kn := kn) (ld := ld) (tl := tl) (wd := wd) (vc := vc) (sy := sy) (nw := nw) (nx := nx) hF hp hp2 h1 h4 hord hD hT hdg hgc hG hG0 hh
  have hlen := bsN_len cg2 hs' (ctN n)
  have hmem := bsN_mem cg2 hs' (ctN n)
  have hb3 : ∀ b ∈ bsN cg2 hs' (ctN n), b < 126 ∧ cg2 b < 2 ^ 32 ∧ degN (cg2 b) ≤ 30 := fun b hb => by
    have := (hmem b hb).1
    have hin := hT.inT h1 h4 this
    exact ⟨by omega, hin.1, by have := hin.2.1; omega⟩
  have ebs : bsN cg hs' (ctN n) = bsN cg2 hs' (ctN n) := bsN_congr _ hcc
  have hlc : ∀ b ∈ bsN cg2 hs' (ctN n), cg2 b = cg b := fun b hb => (hcc b (hmem b hb).1).symm
  rcases p_zcomplete (F := F) (D := D) (by omega) h1 h4 hD30 hT hdg hgc hp2 hG a3 (by omega) (fun b hb => ⟨(hb3 b hb).1, (hb3 b hb).2.1⟩) with ⟨⟨c1, c2⟩, c3⟩ | ⟨_, c3⟩
  · obtain ⟨r, sz', g', d1, d2⟩ := p_zfindRest (F := F) (n := n) (ord := ord) (g := rst) (le := le) (by omega) h1 h4 hord a3 (by omega) hb3
    have hno : r = 0 := by
      rcases d2 with ⟨_, e2, e3, e4⟩ | ⟨e1, _⟩
      · exfalso
        rcases hR with ⟨q, q1, q2⟩ | ⟨hgood, R1, Lf1, bs1, hB, hwhy⟩
        · exact c1 q q1 (by rw [← hGG q q1]; exact (hiD_congr hcc).mp q2)
        · have hgen : gensD n D cg2 G2 gc = gens G gc := by rw [← gensD_congr hcc hGG, gens_same hgood]
          have hZ : GoodZ p n D cg (gens G gc) R' hs' := by
            rw [hgen] at a1
            exact GoodZ_congr (fun j hj => (hcc j hj).symm) a1
          rcases hB.1.1 0 with hL0 | hL1
          · have hsL := lead_same hB hZ hL0
            rw [← hsL, ebs] at hwhy
            rcases hwhy with y | y | ⟨v, y1, y2⟩ | y
            · exact y ((Cpl_congr hlc).mp c2)
            · rw [hsL] at y; omega
            · exact y2 ((PP_congr hlc).mp (e2 v y1))
            · exact (Few_congr hlc e4).many y
          · have hh1 := lead_up hB hZ hL1
            have := (one_lead (Lf := hs') h1 h4 hT (ct_pos h1 h4)).mpr hh1
            omega
      · exact e1
    subst hno
    refine ⟨nI (bsN cg2 hs' (ctN n)).length, hs', R', w', bs', g', a2, ?_⟩
    rw [a4, c3, bd1_n, if_neg (by decide), d1, bd3_n, if_pos (show nI 0 = 0 from rfl)]
    rfl
  · refine ⟨nI (bsN cg2 hs' (ctN n)).length, hs', R', w', bs', rst, a2, ?_⟩
    rw [a4, c3, bd1_n, if_pos rfl]
    rfl
theorem p_zfind_su (hF : 40000 < F) (hp : isP p) (hp2 : p ≤ 32003) (h1 : 1 ≤ n) (h4 : n ≤ 4) (hord : ord < 2) (hD : D ≤ hiN n) (hT : Tab n ord cg2 kg2) (hdg : ∀ q, q < ctN n → dgs2 q = nI (degN (cg2 q))) (hgc : gc ≤ 8) (hG : ∀ g, g < gc → ∀ j, genV G2 g j < p) (hG0 : ∀ g, g < gc → ∀ j, ctN n ≤ j → genV G2 g j = 0)
    {lf le mem tc up va wo : Int32} {hs R w bs rst prd kn ld tl wd vc sy nw nx : Nat → Nat} (hh : ∀ j, 126 ≤ j → hs j = 0) (hkn : ∀ j, 160 ≤ j → kn j = 0) (hnw : ∀ j, 40 ≤ j → nw j = 0) (hnx : ∀ j, 40 ≤ j → nx j = 0) {kg : Nat → Nat} (hTc : Tab n ord cg kg) (hGG : ∀ g, g < gc → genV G g = genV G2 g) {sz : Nat} {g T : Nat → Nat} {W H : List Nat} {A : Nat → Nat → Nat} (hS : SuC p n ord D cg G gc sz g T W H A) :
    ∃ m' hs' R' w' bs' rst' prd' kn' ld' tl' wd' vc' sy' nw' nx', (∀ j, 126 ≤ j → hs' j = 0) ∧ (∀ j, 160 ≤ j → kn' j = 0) ∧ (∀ j, 40 ≤ j → nw' j = 0) ∧ (∀ j, 40 ≤ j → nx' j = 0) ∧ (∀ j, j < sz → g j = rst' j) ∧ (∀ v k i, v < n → k < sz → i < sz → tP T v k i = tP prd' v k i) ∧ ZB p sz prd' W H A ld' tl' wd' vc' ∧
      m_zfind F (nI gc) (nI (ctN n)) (nI n) (nI ord) (nI p) (nF cg2) dgs2 (nF G2) (nI D) lf le mem tc up va wo (nF hs) (nF R) (nF w) (nF bs) (nF rst) (nF prd) (nF kn) (nF ld) (nF tl) (nF wd) (nF vc) (nF sy) (nF nw) (nF nx) = some (nI sz, nI H.length, nI sz, m', nI 0, nI D, nI n, nI W.length, nF hs', nF R', nF w', nF bs', nF rst', nF prd', nF kn', nF ld', nF tl', nF wd', nF vc', nF sy', nF nw', nF nx') := by
  have hD30 : D ≤ 30 := Nat.le_trans hD (hiN_le n)
  have hhi := hiN_le n
  have hct := ctN_le h1 h4
  have hcc := Tab_uniq hTc hT
  obtain ⟨hgood, hsz, hWl, hHl, ⟨q, hq, hRun⟩, R1, Lf1, bs1, hB, hC, hL0, hpp, hFew, hPr⟩ := hS
  obtain ⟨hs', R', w', bs', a1, a2, a3, a4⟩ := p_zfind_pre (F := F) (lf := lf) (le := le) (mem := mem) (tc := tc) (up := up) (va := va) (wo := wo) (R := R) (w := w) (bs := bs) (rst := nF rst) (prd := nF prd) (kn := nF kn) (ld := nF ld) (tl := nF tl) (wd := nF wd) (vc := nF vc) (sy := nF sy) (nw := nF nw) (nx := nF nx) hF hp hp2 h1 h4 hord hD hT hdg hgc hG hG0 hh
  have hgen : gensD n D cg2 G2 gc = gens G gc := by rw [← gensD_congr hcc hGG, gens_same hgood]
  have hZ : GoodZ p n D cg (gens G gc) R' hs' := by
    rw [hgen] at a1
    exact GoodZ_congr (fun j hj => (hcc j hj).symm) a1
  have hsL := lead_same hB hZ hL0
  have ebs : bsN cg2 hs' (ctN n) = bsN cg Lf1 (ctN n) := by rw [hsL]; exact bsN_congr _ (fun j hj => (hcc j hj).symm)
  rw [ebs] at a3 a4
  have hlen := bsN_len cg Lf1 (ctN n)
  have hmem := bsN_mem cg Lf1 (ctN n)
  have hlc : ∀ b ∈ bsN cg Lf1 (ctN n), cg b = cg2 b := fun b hb => hcc b (hmem b hb).1
  have hb3 : ∀ b ∈ bsN cg Lf1 (ctN n), b < 126 ∧ cg2 b < 2 ^ 32 ∧ degN (cg2 b) ≤ 30 := fun b hb => by
    have := (hmem b hb).1
    have hin := hT.inT h1 h4 this
    exact ⟨by omega, hin.1, by have := hin.2.1; omega⟩
  have hV := Vs.of hp h1 h4 hD hTc (fun g0 ⟨q, hq, e⟩ j hj hne => by
    rcases Nat.lt_or_ge D (dgC cg j) with y | y
    · exact absurd ⟨j, hj, y, by rw [← e]; exact hne⟩ (hgood q hq)
    · exact y) hB hL0 hC
  have hRm := Rm.of hp hp2 h1 h4 hord hTc hV hB hpp hFew
  have hsz40 := hRm.sz40
  rcases p_zcomplete (F := F) (D := D) (by omega) h1 h4 hD30 hT hdg hgc hp2 hG a3 (by omega) (fun b hb => ⟨(hb3 b hb).1, (hb3 b hb).2.1⟩) with ⟨_, c3⟩ | ⟨c1, _⟩
  · obtain ⟨r, sz', g2, d1, d2⟩ := p_zfindRest (F := F) (n := n) (ord := ord) (g := rst) (le := le) (by omega) h1 h4 hord a3 (by omega) hb3
    have hok : r = 1 ∧ Few n ord cg2 (bsN cg Lf1 (ctN n)) sz' g2 := by
      rcases d2 with ⟨e1, _, _, e4⟩ | ⟨_, e2⟩
      · exact ⟨e1, e4⟩
      · exfalso
        rcases e2 with ⟨v, v1, v2⟩ | y | y
        · exact v2 ((PP_congr hlc).mp (hpp v v1))
        · rw [← hlN_congr hlc] at y
          have := (one_lead (Lf := Lf1) h1 h4 hTc (ct_pos h1 h4)).mp y
          omega
        · exact hFew.many (Many_congr (fun b hb => (hlc b hb).symm) y)
    obtain ⟨er, hFew2⟩ := hok
    subst er
    obtain ⟨esz, hgg⟩ := hFew.same (Few_congr (fun b hb => (hlc b hb).symm) hFew2)
    subst esz
    have hrows : ∀ b ∈ bsN cg Lf1 (ctN n), ∀ i, i < b → rowF R1 b i = rowC (ctN n) R' b i := fun b hb i hi => basis_same hp hB hZ hL0 hb i (by have := (hmem b hb).1; omega)
    have hRm2 : Rm p n ord cg2 (bsN cg Lf1 (ctN n)) sz g2 (rowC (ctN n) R') := by
      refine ⟨hp.1, hp2, h1, h4, hord, hFew2, fun b hb => (hmem b hb).1, hct, fun j hj => hT.inT h1 h4 hj, fun i j hi hj e => hT.inj hi hj e, fun i j hij hj => (hT.lt_iff (by omega) hj).mpr hij, fun v hv => (PP_congr hlc).mp (hpp v hv), fun b hb i hi => by rw [← hrows b hb i hi]; exact hRm.rlt b hb i hi, fun b hb i hi hne => ?_⟩
      rw [← hrows b hb i hi] at hne
      have := hRm.rnl b hb i hi hne
      rw [hcc i (by have := (hmem b hb).1; omega)] at this
      exact (NL_congr hlc _).mp this
    obtain ⟨T2, kn2, f0, f1, f2⟩ := p_zfindProducts (F := F) (T := prd) hF hRm2 hsz a3 (by omega) hkn
    have hPr2 : ∀ v k, v < n → k < sz → PrR p n sz cg g (bsN cg Lf1 (ctN n)) (rowF R1) T2 v k ∧ PrB p ord sz g T2 v k := fun v k hv hk =>
      ⟨PrR_congr (fun j hj => (hcc j hj).symm) (fun b hb => (hmem b hb).1) (fun b hb i hi => (hrows b hb i hi).symm) (fun j hj => (hgg j hj).symm) hk (f2 v k hv hk).1, PrB_congr (fun j hj => (hgg j hj).symm) hk (f2 v k hv hk).2⟩
    have hTT : ∀ v k i, v < n → k < sz → i < sz → tP T v k i = tP T2 v k i := fun v k i hv hk hi => PrR.same hRm hPr hPr2 (pK ord g v k + 1) v k (by omega) hv hk i hi
    have z0 : ∀ u, u < 4 → exN 0 u = 0 := by decide
    have hRun2 := RunN_congr hTT q 0 [0] [] _ (fun c hc => by rw [List.mem_singleton] at hc; rw [hc]; exact ⟨by decide, fun u _ hu => z0 u hu⟩) hRun
    obtain ⟨ld', tl', wd', vc', sy', nw', nx', k1, k2, k3, k4⟩ := p_zfindDictionary (F := F) (T := T2) (lf := lf) (ws := wo) (ld := ld) (tl := tl) (wd := wd) (vc := vc) (sy := sy) hF hp hp2 hsz40 hsz h1 h4 (fun v k i hv hk hi => ((f2 v k hv hk).2 i hi).1) (by omega) hRun2 hnw hnx
    refine ⟨nI (bsN cg Lf1 (ctN n)).length, hs', R', w', bs', g2, T2, kn2, ld', tl', wd', vc', sy', nw', nx', a2, f0, k2, k3, hgg, hTT, k1, ?_⟩
    rw [a4, c3, bd1_n, if_neg (by decide), d1, bd3_n, if_neg (show ¬ nI 1 = 0 by decide +kernel), f1, bd2_n, k4, bd9_n]
    rfl
  · exact absurd ⟨fun q hq z => hgood q hq ((hiD_congr hcc).mpr (by rw [hGG q hq]; exact z)), (Cpl_congr hlc).mp hC⟩ c1
end ZFIND
