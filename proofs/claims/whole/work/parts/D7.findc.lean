/-! find OF THE FIRST. -/
theorem bd4_n {ρ a1 a2 a3 a4 : Type} {x1 : a1} {x2 : a2} {x3 : a3} {x4 : a4} {k : a1 → a2 → a3 → a4 → Option ρ} : bd4 (some (x1, x2, x3, x4)) k = k x1 x2 x3 x4 := rfl
theorem bd10_n {ρ a1 a2 a3 a4 a5 a6 a7 a8 a9 a10 : Type} {x1 : a1} {x2 : a2} {x3 : a3} {x4 : a4} {x5 : a5} {x6 : a6} {x7 : a7} {x8 : a8} {x9 : a9} {x10 : a10} {k : a1 → a2 → a3 → a4 → a5 → a6 → a7 → a8 → a9 → a10 → Option ρ} : bd10 (some (x1, x2, x3, x4, x5, x6, x7, x8, x9, x10)) k = k x1 x2 x3 x4 x5 x6 x7 x8 x9 x10 := rfl
theorem bd14_n {ρ a1 a2 a3 a4 a5 a6 a7 a8 a9 a10 a11 a12 a13 a14 : Type} {x1 : a1} {x2 : a2} {x3 : a3} {x4 : a4} {x5 : a5} {x6 : a6} {x7 : a7} {x8 : a8} {x9 : a9} {x10 : a10} {x11 : a11} {x12 : a12} {x13 : a13} {x14 : a14} {k : a1 → a2 → a3 → a4 → a5 → a6 → a7 → a8 → a9 → a10 → a11 → a12 → a13 → a14 → Option ρ} : bd14 (some (x1, x2, x3, x4, x5, x6, x7, x8, x9, x10, x11, x12, x13, x14)) k = k x1 x2 x3 x4 x5 x6 x7 x8 x9 x10 x11 x12 x13 x14 := rfl
theorem key_0 {ord c : Nat} (hc : c < 2 ^ 32) (h : keyN ord c ≤ keyN ord 0) : c = 0 := by
  have hd := key_deg h
  have z0 : degN 0 = 0 := by decide
  rw [z0] at hd
  unfold degN at hd
  have := ex_lin hc
  omega
theorem one_lead {n ord : Nat} {cg kg Lf : Nat → Nat} (h1 : 1 ≤ n) (h4 : n ≤ 4) (hT : Tab n ord cg kg) (hct0 : 0 < ctN n) : (hlN cg (bsN cg Lf (ctN n)) 0 = 1 ↔ Lf 0 = 1) := by
  have z0 : ∀ u, u < 4 → exN 0 u = 0 := by decide
  have hcg0 : cg 0 = 0 := by
    have hin : inT n 0 := ⟨by decide, Nat.zero_le _, fun v _ hv => z0 v hv⟩
    obtain ⟨j, j1, j2⟩ := (hT.mem h1 h4).mp hin
    rcases Nat.eq_zero_or_pos j with q | q
    · rw [q] at j2; exact j2
    · have := (hT.lt_iff hct0 j1).mpr q
      rw [j2] at this
      exact key_0 (hT.inT h1 h4 hct0).1 (Nat.le_of_lt this)
  constructor
  · intro h
    have hex : ∃ b ∈ bsN cg Lf (ctN n), ∀ u, u < 4 → exN (cg b) u ≤ exN 0 u := by
      refine Classical.byContradiction fun q => ?_
      have : hlN cg (bsN cg Lf (ctN n)) 0 = 0 := hlN_0.mpr fun b hb z => q ⟨b, hb, dvN_iff.mp z⟩
      omega
    obtain ⟨b, hb, hd⟩ := hex
    have hbl := (bsN_mem cg Lf _ b hb).1
    have hcb : cg b = 0 := ex_ext (hT.inT h1 h4 hbl).1 (by decide) (fun u hu => by have := hd u hu; rw [z0 u hu] at this ⊢; omega)
    have : b = 0 := hT.inj hbl hct0 (by rw [hcb, hcg0])
    rw [this] at hb
    exact (bsN_mem cg Lf _ 0 hb).2
  · intro h
    obtain ⟨b, hb, hd⟩ := lead_div (cg := cg) (ctN n) hct0 h
    rcases hlN_le cg (bsN cg Lf (ctN n)) 0 with q | q
    · exfalso
      exact hlN_0.mp q b hb (dvN_iff.mpr fun u hu => by rw [← hcg0]; exact hd u hu)
    · exact q
/-- why a find is refused -/
def RfC (p n ord D : Nat) (cg : Nat → Nat) (G : Nat → Nat) (gc : Nat) : Prop :=
  (∃ q, q < gc ∧ hiD n D cg (genV G q)) ∨ ((∀ q, q < gc → ¬ hiD n D cg (genV G q)) ∧ ∃ R Lf bs, GoodB p n D cg (gens G gc) R Lf bs ∧ (¬ Cpl cg D (bsN cg Lf (ctN n)) ∨ Lf 0 = 1 ∨ (∃ v, v < n ∧ ¬ PP cg (bsN cg Lf (ctN n)) v) ∨ Many n ord cg (bsN cg Lf (ctN n))))
/-- what a find that succeeds has -/
def SuC (p n ord D : Nat) (cg : Nat → Nat) (G : Nat → Nat) (gc sz : Nat) (g T : Nat → Nat) (W H : List Nat) (A : Nat → Nat → Nat) : Prop :=
  (∀ q, q < gc → ¬ hiD n D cg (genV G q)) ∧ 0 < sz ∧ W.length ≤ sz ∧ H.length ≤ 160 ∧ (∃ q, q ≤ 160 ∧ RunN p n sz T q 0 [0] [] (fun _ _ => 0) W H A) ∧
    ∃ R Lf bs, GoodB p n D cg (gens G gc) R Lf bs ∧ Cpl cg D (bsN cg Lf (ctN n)) ∧ Lf 0 = 0 ∧ (∀ v, v < n → PP cg (bsN cg Lf (ctN n)) v) ∧ Few n ord cg (bsN cg Lf (ctN n)) sz g ∧ (∀ v k, v < n → k < sz → PrR p n sz cg g (bsN cg Lf (ctN n)) (rowF R) T v k ∧ PrB p ord sz g T v k)
theorem ct_pos {n : Nat} (h1 : 1 ≤ n) (h4 : n ≤ 4) : 0 < ctN n := by
  rcases (show n = 1 ∨ n = 2 ∨ n = 3 ∨ n = 4 by omega) with q | q | q | q <;> subst q <;> decide +kernel
set_option maxHeartbeats 4000000 in
theorem p_tFind {F p n ord gc D : Nat} (hF : 40000 < F) (hp : isP p) (hp2 : p ≤ 32003) (h1 : 1 ≤ n) (h4 : n ≤ 4) (hord : ord < 2) (hD : D ≤ hiN n) {cg kg : Nat → Nat} {dgs rs : Nat → Int32} (hLd : Laid n ord cg kg dgs rs) {G : Nat → Nat} (hgc : gc ≤ 8) (hG : ∀ g, g < gc → ∀ j, genV G g j < p) (hG0 : ∀ g, g < gc → ∀ j, ctN n ≤ j → genV G g j = 0)
    {x1 x2 x3 x4 x5 x6 x7 x8 x9 x10 x11 x12 : Int32} {R Lf K w bs g T : Nat → Nat} {bd : Nat → Int32} {pg kg2 hd tl wd im st mx pv im1 rest mix : Nat → Nat} (hw : ∀ j, 126 ≤ j → w j = 0) (hL : ∀ j, 126 ≤ j → Lf j = 0) (hkg2 : ∀ j, kg2 j < 2 ^ 63) (him : ∀ j, 40 ≤ j → im1 j = 0) :
    ∃ (k v : Nat) (y1 y2 y3 y4 y5 y6 y7 y8 y9 y10 y11 y12 : Int32) (R' Lf' K' w' bs' g' T' : Nat → Nat) (bd' : Nat → Int32) (pg' kg' hd' tl' wd' im' st' mx' pv' im1' rest' mix' : Nat → Nat),
      m_tFind F (nI gc) (nI p) (nI (ctN n)) (nI (hiN n)) (nI ord) (nI n) (nF G) (nF cg) dgs rs (nI D) x1 x2 x3 x4 x5 x6 x7 x8 x9 x10 x11 x12 (nF R) (nF Lf) (nF K) (nF w) (nF bs) (nF g) (nF T) bd (nF pg) (lF kg2) (nF hd) (nF tl) (nF wd) (nF im) (nF st) (nF mx) (nF pv) (nF im1) (nF rest) (nF mix) =
        some (nI k, nI v, y1, y2, y3, y4, y5, y6, y7, y8, y9, y10, y11, y12, nF R', nF Lf', nF K', nF w', nF bs', nF g', nF T', bd', nF pg', lF kg', nF hd', nF tl', nF wd', nF im', nF st', nF mx', nF pv', nF im1', nF rest', nF mix') ∧
      (∀ j, 126 ≤ j → w' j = 0) ∧ (∀ j, 126 ≤ j → Lf' j = 0) ∧ (∀ j, kg' j < 2 ^ 63) ∧ (∀ j, 40 ≤ j → im1' j = 0) ∧
      ((k = 2 ∧ y7 = nI 0 ∧ y9 = nI 0 ∧ RfC p n ord D cg G gc) ∨
       (k = 0 ∧ y7 = nI v ∧ y8 = nI n ∧ ∃ W H A, y9 = nI H.length ∧ y12 = nI W.length ∧ Arr H hd' ∧ Arr W wd' ∧ (∀ q, q < H.length → ∀ i, i < 40 → tl' (40 * q + i) = A q i) ∧ SuC p n ord D cg G gc v g' T' W H A)) := by
  have hD30 : D ≤ 30 := Nat.le_trans hD (hiN_le n)
  have hhi := hiN_le n
  have hct := ctN_le h1 h4
  have hT := hLd.1
  obtain ⟨r, bc, kc', R1, Lf1, K1, w1, bs1, a1, a2, a3, a4⟩ := p_hasCompleteBasis (F := F) (b0 := x1) (k0 := x2) (l0 := x3) (p0 := x4) (R := R) (K := K) (bs := bs) hF hp hp2 h1 h4 hord hD30 hLd hgc hG hG0 hw hL
  have st0 : ∀ (Q : Int32 × Int32 × Int32 × Int32 × Int32 × Int32 × Int32 × Int32 × Int32 × Int32 × Int32 × Int32 × Int32 × Int32 × (Nat → Int32) × (Nat → Int32) × (Nat → Int32) × (Nat → Int32) × (Nat → Int32) × (Nat → Int32) × (Nat → Int32) × (Nat → Int32) × (Nat → Int32) × (Nat → Int64) × (Nat → Int32) × (Nat → Int32) × (Nat → Int32) × (Nat → Int32) × (Nat → Int32) × (Nat → Int32) × (Nat → Int32) × (Nat → Int32) × (Nat → Int32) × (Nat → Int32)), (if nI r = 0 then some (2, 0, nI bc, nI kc', nI D, nI p, x5, x6, 0, x8, 0, x10, x11, x12, nF R1, nF Lf1, nF K1, nF w1, nF bs1, nF g, nF T, bd, nF pg, lF kg2, nF hd, nF tl, nF wd, nF im, nF st, nF mx, nF pv, nF im1, nF rest, nF mix) else
      (bd1 (m_has1 F (nF Lf1)) fun r_16 => if r_16 = 0 then (bd6 (m_gather F (nI ord) (nI n) (nI bc) (nI p) (nF cg) (nF bs1) x6 0 x8 (nF g) bd) fun r_17 Re_prime_18 Re_size_19 Re_variables_20 Re_codes_21 Re_bounds_22 =>
        if r_17 = 0 then (some (2, 0, nI bc, nI kc', nI D, nI p, x5, Re_prime_18, Re_size_19, Re_variables_20, 0, x10, x11, x12, nF R1, nF Lf1, nF K1, nF w1, nF bs1, Re_codes_21, nF T, Re_bounds_22, nF pg, lF kg2, nF hd, nF tl, nF wd, nF im, nF st, nF mx, nF pv, nF im1, nF rest, nF mix)) else
        (bd4 (m_multiply F (nI ord) (nI bc) Re_prime_18 Re_size_19 Re_variables_20 (nF cg) (nF R1) (nF bs1) Re_codes_21 x5 (nF T) (nF pg) (lF kg2)) fun Re_pairCount_24 Re_products_25 Re_pairs_26 Re_keys_27 =>
        bd14 (m_build F Re_prime_18 Re_size_19 Re_variables_20 Re_products_25 0 x10 x11 x12 (nF hd) (nF tl) (nF wd) (nF im) (nF st) (nF mx) (nF pv) (nF im1) (nF rest) (nF mix)) fun c1 c2 c3 c4 c5 c6 c7 c8 c9 c10 c11 c12 c13 c14 =>
        some (0, Re_size_19, nI bc, nI kc', nI D, nI p, Re_pairCount_24, Re_prime_18, Re_size_19, Re_variables_20, c1, c2, c3, c4, nF R1, nF Lf1, nF K1, nF w1, nF bs1, Re_codes_21, Re_products_25, Re_bounds_22, Re_pairs_26, Re_keys_27, c5, c6, c7, c8, c9, c10, c11, c12, c13, c14))) else
        some (2, 0, nI bc, nI kc', nI D, nI p, x5, x6, 0, x8, 0, x10, x11, x12, nF R1, nF Lf1, nF K1, nF w1, nF bs1, nF g, nF T, bd, nF pg, lF kg2, nF hd, nF tl, nF wd, nF im, nF st, nF mx, nF pv, nF im1, nF rest, nF mix))) = some Q →
      m_tFind F (nI gc) (nI p) (nI (ctN n)) (nI (hiN n)) (nI ord) (nI n) (nF G) (nF cg) dgs rs (nI D) x1 x2 x3 x4 x5 x6 x7 x8 x9 x10 x11 x12 (nF R) (nF Lf) (nF K) (nF w) (nF bs) (nF g) (nF T) bd (nF pg) (lF kg2) (nF hd) (nF tl) (nF wd) (nF im) (nF st) (nF mx) (nF pv) (nF im1) (nF rest) (nF mix) = some Q := by
    intro Q hQ
    unfold m_tFind m_reForget m_leForget
    rw [if_neg (show ¬ nI D < 0 from nI_nlt (Nat.zero_le D) (by omega)), if_pos (nI_le hD (by omega)), bd1_n, bd1_n, a1, bd10_n]
    exact hQ
  rcases a4 with ⟨r0, hbad⟩ | ⟨hgood, ebc, hB, hr⟩
  · subst r0
    refine ⟨2, 0, nI bc, nI kc', nI D, nI p, x5, x6, nI 0, x8, nI 0, x10, x11, x12, R1, Lf1, K1, w1, bs1, g, T, bd, pg, kg2, hd, tl, wd, im, st, mx, pv, im1, rest, mix, st0 _ ?_, a2, a3, hkg2, him, Or.inl ⟨rfl, rfl, rfl, Or.inl hbad⟩⟩
    rw [if_pos (show nI 0 = 0 from rfl)]
    rfl
  · subst ebc
    have hlen := bsN_len cg Lf1 (ctN n)
    have hmem := bsN_mem cg Lf1 (ctN n)
    rcases hr with ⟨r1, hC⟩ | ⟨r0, hC⟩
    · subst r1
      rcases hB.1.1 0 with hL0 | hL1
      · have hb3 : ∀ b ∈ bsN cg Lf1 (ctN n), b < 126 ∧ cg b < 2 ^ 32 ∧ degN (cg b) ≤ 30 := fun b hb => by
          have := (hmem b hb).1
          have hin := hT.inT h1 h4 this
          exact ⟨by omega, hin.1, by have := hin.2.1; omega⟩
        obtain ⟨r2, sz, g1, bd1', b1, b2⟩ := p_gather (F := F) (n := n) (p := p) (ord := ord) (p0 := x6) (v0 := x8) (g := g) (bd := bd) hF h1 h4 hord hB.2.2.2.2.1 (by omega) hb3
        rcases b2 with ⟨r2', hpp, hFew⟩ | ⟨r2', hs0, hno⟩
        · subst r2'
          have hV := Vs.of hp h1 h4 hD hT (fun g0 ⟨q, hq, e⟩ j hj hne => by
            rcases Nat.lt_or_ge D (dgC cg j) with y | y
            · exact absurd ⟨j, hj, y, by rw [← e]; exact hne⟩ (hgood q hq)
            · exact y) hB hL0 hC
          have hRm := Rm.of hp hp2 h1 h4 hord hT hV hB hpp hFew
          have hsz40 := hRm.sz40
          have hsz : 0 < sz := by
            have z0 : ∀ u, u < 4 → exN 0 u = 0 := by decide
            have hh : hlN cg (bsN cg Lf1 (ctN n)) 0 = 0 := by
              rcases hlN_le cg (bsN cg Lf1 (ctN n)) 0 with y | y
              · exact y
              · have := (one_lead (Lf := Lf1) h1 h4 hT (ct_pos h1 h4)).mp y; omega
            obtain ⟨j, hj, _⟩ := hRm.nl.mp (⟨by decide, fun v _ hv => z0 v hv, hh⟩ : NL n cg (bsN cg Lf1 (ctN n)) 0)
            omega
          obtain ⟨pc', T1, pg1, kg1, c1, c2, c3⟩ := p_multiply (F := F) (bs := bs1) (pc0 := x5) (T := T) (pg := pg) hF hRm hB.2.2.2.2.1 (by omega) hkg2
          have hCm : Cm p n sz T1 := fun u v k i hu hv hk hi => prod_comm hRm hB.2.2.2.2.1 c3 hV.spc hu hv hk hi
          obtain ⟨q, W, H, A, hd1, tl1, wd1, im2, st1, mx1, pv1, im3, rest1, mix1, d0, d1, d2, d3, d4, d5, d6, d7, d8⟩ := p_build (F := F) (n := n) (c0 := 0) (p0 := x10) (s0 := x11) (t0 := x12) (hd := hd) (tl := tl) (w := wd) (im := im) (st := st) (mx := mx) (pv := pv) (x := im1) (rest := rest) (mix := mix) hF hp hp2 hsz40 hsz h1 h4 hCm (fun v k i hv hk hi => ((c3 v k hv hk).2 i hi).1) him
          refine ⟨0, sz, nI (bsN cg Lf1 (ctN n)).length, nI kc', nI D, nI p, pc', nI p, nI sz, nI n, nI H.length, nI p, nI sz, nI W.length, R1, Lf1, K1, w1, bs1, g1, T1, bd1', pg1, kg1, hd1, tl1, wd1, im2, st1, mx1, pv1, im3, rest1, mix1, st0 _ ?_, a2, a3, c2, d7, Or.inr ⟨rfl, rfl, rfl, W, H, A, rfl, rfl, d3, d2, d4, hgood, hsz, d5, d6, ⟨q, d0, d1⟩, R1, Lf1, bs1, hB, hC, hL0, hpp, hFew, c3⟩⟩
          rw [if_neg (show ¬ nI 1 = 0 by decide +kernel), p_has1 (Or.inl hL0), bd1_n, hL0, if_pos (show nI 0 = 0 from rfl), show (0 : Int32) = nI 0 from rfl, b1, bd6_n, if_neg (show ¬ nI 1 = nI 0 by decide +kernel), c1, bd4_n]
          rw [show m_build F (nI p) (nI sz) (nI n) (nF T1) (nI 0) x10 x11 x12 (nF hd) (nF tl) (nF wd) (nF im) (nF st) (nF mx) (nF pv) (nF im1) (nF rest) (nF mix) = _ from d8, bd14_n]
        · subst r2'
          refine ⟨2, 0, nI (bsN cg Lf1 (ctN n)).length, nI kc', nI D, nI p, x5, nI p, nI sz, nI n, nI 0, x10, x11, x12, R1, Lf1, K1, w1, bs1, g1, T, bd1', pg, kg2, hd, tl, wd, im, st, mx, pv, im1, rest, mix, st0 _ ?_, a2, a3, hkg2, him, Or.inl ⟨rfl, by rw [hs0], rfl, Or.inr ⟨hgood, R1, Lf1, bs1, hB, Or.inr (Or.inr hno)⟩⟩⟩
          rw [if_neg (show ¬ nI 1 = 0 by decide +kernel), p_has1 (Or.inl hL0), bd1_n, hL0, if_pos (show nI 0 = 0 from rfl), show (0 : Int32) = nI 0 from rfl, b1, bd6_n, if_pos rfl]
          rfl
      · refine ⟨2, 0, nI (bsN cg Lf1 (ctN n)).length, nI kc', nI D, nI p, x5, x6, nI 0, x8, nI 0, x10, x11, x12, R1, Lf1, K1, w1, bs1, g, T, bd, pg, kg2, hd, tl, wd, im, st, mx, pv, im1, rest, mix, st0 _ ?_, a2, a3, hkg2, him, Or.inl ⟨rfl, rfl, rfl, Or.inr ⟨hgood, R1, Lf1, bs1, hB, Or.inr (Or.inl hL1)⟩⟩⟩
        rw [if_neg (show ¬ nI 1 = 0 by decide +kernel), p_has1 (Or.inr hL1), bd1_n, hL1, if_neg (show ¬ nI 1 = 0 by decide +kernel)]
        rfl
    · subst r0
      refine ⟨2, 0, nI (bsN cg Lf1 (ctN n)).length, nI kc', nI D, nI p, x5, x6, nI 0, x8, nI 0, x10, x11, x12, R1, Lf1, K1, w1, bs1, g, T, bd, pg, kg2, hd, tl, wd, im, st, mx, pv, im1, rest, mix, st0 _ ?_, a2, a3, hkg2, him, Or.inl ⟨rfl, rfl, rfl, Or.inr ⟨hgood, R1, Lf1, bs1, hB, Or.inl hC⟩⟩⟩
      rw [if_pos (show nI 0 = 0 from rfl)]
      rfl
