/-! join AND field; both sides do the same. -/
section OPS2
variable {F p n ord gc : Nat} {h G cg kg cg2 kg2 h2 G2 : Nat → Nat} {dgs rs dgs2 : Nat → Int32}
theorem p_zj4 (hct : ctN n ≤ 126) (hl : ∀ j, j < ctN n → h2 j < 32004) {gI tc : Int32} {GA : Nat → Int32} : ∀ (d m i f : Nat), i + d = ctN n → d < m → (f = 0 ∨ f = 1) → (f = 1 ↔ ∃ j, j < i ∧ h2 j ≠ 0) →
    ((∃ j, j < ctN n ∧ h2 j ≠ 0) ∧ b_zjoin_4 F (nI (ctN n)) m (nI f) (nI i) gI tc GA (nF h2) = if gI = 8 then s_zjoin_52 F (nI (ctN n)) 2 gI tc GA (nF h2) else s_zjoin_52 F (nI (ctN n)) 0 gI tc GA (nF h2)) ∨
    ((∀ j, j < ctN n → h2 j = 0) ∧ b_zjoin_4 F (nI (ctN n)) m (nI f) (nI i) gI tc GA (nF h2) = s_zjoin_52 F (nI (ctN n)) 1 gI tc GA (nF h2)) := by
  intro d
  induction d with
  | zero =>
    intro m i f hi hm hf hff
    obtain ⟨m, rfl⟩ : ∃ q, m = q + 1 := ⟨m - 1, by omega⟩
    have e : i = ctN n := by omega
    have unf : b_zjoin_4 F (nI (ctN n)) (m + 1) (nI f) (nI i) gI tc GA (nF h2) = if nI f = 0 then s_zjoin_52 F (nI (ctN n)) 1 gI tc GA (nF h2) else (if gI = 8 then s_zjoin_52 F (nI (ctN n)) 2 gI tc GA (nF h2) else s_zjoin_52 F (nI (ctN n)) 0 gI tc GA (nF h2)) := by
      show s_zjoin_4 F (nI (ctN n)) (b_zjoin_4 F (nI (ctN n)) m) (nI f) (nI i) gI tc GA (nF h2) = _
      unfold s_zjoin_4
      rw [if_pos (nI_le (by omega) (by omega))]
    rw [unf]
    rcases hf with z | z
    · right
      refine ⟨fun j hj => ?_, by rw [z, if_pos (show nI 0 = 0 from rfl)]⟩
      refine Classical.byContradiction fun y => ?_
      have := hff.mpr ⟨j, by omega, y⟩
      omega
    · left
      obtain ⟨j, j1, j2⟩ := hff.mp z
      exact ⟨⟨j, by omega, j2⟩, by rw [z, if_neg (show ¬ nI 1 = 0 by decide +kernel)]⟩
  | succ d ih =>
    intro m i f hi hm hf hff
    obtain ⟨m, rfl⟩ : ∃ q, m = q + 1 := ⟨m - 1, by omega⟩
    have hli := hl i (by omega)
    have step : b_zjoin_4 F (nI (ctN n)) (m + 1) (nI f) (nI i) gI tc GA (nF h2) = b_zjoin_4 F (nI (ctN n)) m (nI (if h2 i = 0 then f else 1)) (nI (i + 1)) gI tc GA (nF h2) := by
      show s_zjoin_4 F (nI (ctN n)) (b_zjoin_4 F (nI (ctN n)) m) (nI f) (nI i) gI tc GA (nF h2) = _
      unfold s_zjoin_4
      rw [if_neg (nI_ge (by omega) (by omega)), rdI_n (by omega) (by decide), show nI i + 1 = nI (i + 1) from nI_add i 1]
      by_cases z : h2 i = 0
      · rw [if_pos (show nF h2 i = 0 by show nI (h2 i) = 0; rw [z]; rfl), if_pos z]
      · rw [if_neg (show ¬ nF h2 i = 0 from nI_ne0 (by omega) (by omega)), if_neg z]; rfl
    rw [step]
    refine ih m (i + 1) _ (by omega) (by omega) ?_ ?_
    · by_cases z : h2 i = 0
      · rw [if_pos z]; exact hf
      · rw [if_neg z]; exact Or.inr rfl
    · by_cases z : h2 i = 0
      · rw [if_pos z, hff]
        constructor
        · rintro ⟨j, a, b⟩; exact ⟨j, by omega, b⟩
        · rintro ⟨j, a, b⟩
          refine ⟨j, ?_, b⟩
          by_cases y : j = i
          · rw [y] at b; exact absurd z b
          · omega
      · rw [if_neg z]; exact ⟨fun _ => ⟨i, by omega, z⟩, fun _ => rfl⟩
theorem p_zj66 (hgc : gc < 8) {mI : Int32} {hI : Nat → Int32} : ∀ (d m i : Nat) (g : Nat → Nat), i + d = 126 → d < m →
    b_zjoin_66 F mI m (nI i) (nI gc) 0 (nF (fun y => if 126 * gc ≤ y ∧ y < 126 * gc + i then 0 else g y)) hI = b_zjoin_95 F mI F (nI 0) (nI gc) 0 (nF (fun y => if 126 * gc ≤ y ∧ y < 126 * gc + 126 then 0 else g y)) hI := by
  intro d
  induction d with
  | zero =>
    intro m i g hi hm
    obtain ⟨m, rfl⟩ : ∃ q, m = q + 1 := ⟨m - 1, by omega⟩
    have e : i = 126 := by omega
    subst e
    show s_zjoin_66 F mI (b_zjoin_66 F mI m) (nI 126) (nI gc) 0 _ hI = _
    unfold s_zjoin_66
    rw [if_pos (by decide +kernel)]
    rfl
  | succ d ih =>
    intro m i g hi hm
    obtain ⟨m, rfl⟩ : ∃ q, m = q + 1 := ⟨m - 1, by omega⟩
    rw [← ih m (i + 1) g (by omega) (by omega)]
    show s_zjoin_66 F mI (b_zjoin_66 F mI m) (nI i) (nI gc) 0 _ hI = _
    unfold s_zjoin_66
    rw [if_neg (show ¬ (126 : Int32) ≤ nI i from nI_ge (show i < 126 by omega) (by decide)), show (126 : Int32) * nI gc = nI (126 * gc) from pk_mul 126 gc, nI_add, wrI_n (by omega) (by decide), show nI i + 1 = nI (i + 1) from nI_add i 1]
    show b_zjoin_66 F mI m (nI (i + 1)) (nI gc) 0 (upd (nF (fun y => if 126 * gc ≤ y ∧ y < 126 * gc + i then 0 else g y)) (126 * gc + i) (nI 0)) hI = _
    rw [upd_nF]
    have e : (fun j => if j = 126 * gc + i then 0 else (if 126 * gc ≤ j ∧ j < 126 * gc + i then 0 else g j)) = (fun y => if 126 * gc ≤ y ∧ y < 126 * gc + (i + 1) then 0 else g y) := by
      funext y
      by_cases q : y = 126 * gc + i
      · rw [if_pos q, if_pos (by omega)]
      · rw [if_neg q]
        by_cases z : 126 * gc ≤ y ∧ y < 126 * gc + i
        · rw [if_pos z, if_pos (by omega)]
        · rw [if_neg z, if_neg (by omega)]
    rw [e]
theorem p_zj95 (hgc : gc < 8) (hct : ctN n ≤ 126) {h0 g0 : Nat → Nat} : ∀ (d m i : Nat) (g hh : Nat → Nat), i + d = ctN n → d < m → (∀ j, j < i → g (126 * gc + j) = h0 j) → (∀ j, i ≤ j → j < 126 → g (126 * gc + j) = 0) → (∀ y, ¬ (126 * gc ≤ y ∧ y < 126 * gc + 126) → g y = g0 y) → (∀ j, j < i → hh j = 0) → (∀ j, i ≤ j → hh j = h0 j) →
    ∃ g' hh', b_zjoin_95 F (nI (ctN n)) m (nI i) (nI gc) 0 (nF g) (nF hh) = some (nI (gc + 1), nI (gc + 1), 0, nF g', nF hh') ∧ (∀ j, j < 126 → g' (126 * gc + j) = if j < ctN n then h0 j else 0) ∧ (∀ y, ¬ (126 * gc ≤ y ∧ y < 126 * gc + 126) → g' y = g0 y) ∧ (∀ j, j < ctN n → hh' j = 0) := by
  intro d
  induction d with
  | zero =>
    intro m i g hh hi hm a1 a2 a3 a4 a5
    obtain ⟨m, rfl⟩ : ∃ q, m = q + 1 := ⟨m - 1, by omega⟩
    refine ⟨g, hh, ?_, fun j hj => ?_, a3, fun j hj => a4 j (by omega)⟩
    · show s_zjoin_95 F (nI (ctN n)) (b_zjoin_95 F (nI (ctN n)) m) (nI i) (nI gc) 0 (nF g) (nF hh) = _
      unfold s_zjoin_95
      rw [if_pos (nI_le (by omega) (by omega)), show nI gc + 1 = nI (gc + 1) from nI_add gc 1]
    · by_cases q : j < ctN n
      · rw [if_pos q]; exact a1 j (by omega)
      · rw [if_neg q]; exact a2 j (by omega) hj
  | succ d ih =>
    intro m i g hh hi hm a1 a2 a3 a4 a5
    obtain ⟨m, rfl⟩ : ∃ q, m = q + 1 := ⟨m - 1, by omega⟩
    have step : b_zjoin_95 F (nI (ctN n)) (m + 1) (nI i) (nI gc) 0 (nF g) (nF hh) = b_zjoin_95 F (nI (ctN n)) m (nI (i + 1)) (nI gc) 0 (nF (fun j => if j = 126 * gc + i then h0 i else g j)) (nF (fun j => if j = i then 0 else hh j)) := by
      show s_zjoin_95 F (nI (ctN n)) (b_zjoin_95 F (nI (ctN n)) m) (nI i) (nI gc) 0 (nF g) (nF hh) = _
      unfold s_zjoin_95
      rw [if_neg (nI_ge (by omega) (by omega)), rdI_n (by omega) (by decide), show (126 : Int32) * nI gc = nI (126 * gc) from pk_mul 126 gc, nI_add, wrI_n (by omega) (by decide), wrI_n (by omega) (by decide), show nI i + 1 = nI (i + 1) from nI_add i 1]
      show b_zjoin_95 F (nI (ctN n)) m (nI (i + 1)) (nI gc) 0 (upd (nF g) (126 * gc + i) (nI (hh i))) (upd (nF hh) i (nI 0)) = _
      rw [upd_nF, upd_nF, a5 i (Nat.le_refl _)]
    rw [step]
    refine ih m (i + 1) _ _ (by omega) (by omega) (fun j hj => ?_) (fun j hj hj2 => ?_) (fun y hy => ?_) (fun j hj => ?_) (fun j hj => ?_)
    · show (if 126 * gc + j = 126 * gc + i then h0 i else g (126 * gc + j)) = h0 j
      by_cases q : j = i
      · rw [if_pos (by omega), q]
      · rw [if_neg (by omega)]; exact a1 j (by omega)
    · show (if 126 * gc + j = 126 * gc + i then h0 i else g (126 * gc + j)) = 0
      rw [if_neg (by omega)]; exact a2 j (by omega) hj2
    · show (if y = 126 * gc + i then h0 i else g y) = g0 y
      rw [if_neg (by omega)]; exact a3 y hy
    · show (if j = i then 0 else hh j) = 0
      by_cases q : j = i
      · rw [if_pos q]
      · rw [if_neg q]; exact a4 j (by omega)
    · show (if j = i then 0 else hh j) = h0 j
      rw [if_neg (by omega)]; exact a5 j (by omega)
theorem o_join (hF : 40000 < F) (hA : RA p n ord gc h G cg kg dgs rs) (hZ : RZ n ord gc h G cg2 kg2 h2 G2 dgs2) (tc : Int32) : ∃ k v gc' h' G' h2' G2', (k = 0 ∨ k = 1 ∨ k = 2) ∧ m_tJoin F (nI gc) (nF h) (nF G) = some (nI k, nI v, nI gc', nF h', nF G') ∧ m_zjoin F (nI (ctN n)) (nI gc) tc (nF G2) (nF h2) = some (nI v, nI gc', nI k, nF G2', nF h2') ∧ RA p n ord gc' h' G' cg kg dgs rs ∧ RZ n ord gc' h' G' cg2 kg2 h2' G2' dgs2 := by
  have hA0 := hA
  obtain ⟨⟨hp, hp2, h1, h4, ho, hg⟩, hL, hh, hh0, hG, hG0⟩ := hA
  have hpp := hp.1
  have hct := ctN_le h1 h4
  have hzl : ∀ j, j < ctN n → h2 j < 32004 := fun j hj => by rw [hZ.2.2.1 j hj]; have := hh j; omega
  have hz4 := p_zj4 (F := F) (n := n) (h2 := h2) (gI := nI gc) (tc := tc) (GA := nF G2) hct hzl (ctN n) F 0 0 (by omega) (by omega) (Or.inl rfl) ⟨fun q => absurd q (by decide), fun ⟨j, q, _⟩ => absurd q (Nat.not_lt_zero _)⟩
  have hzj : m_zjoin F (nI (ctN n)) (nI gc) tc (nF G2) (nF h2) = b_zjoin_4 F (nI (ctN n)) F (nI 0) (nI 0) (nI gc) tc (nF G2) (nF h2) := rfl
  rw [hzj]
  unfold m_tJoin
  rcases p_first_l F 126 (by decide) (nF h) 126 (Nat.le_refl _) 126 F 0 (by omega) (by omega) with ⟨j, _, j2, j3, _, j5⟩ | ⟨j1, j2⟩
  · have hne : h j ≠ 0 := fun z => j3 (by show nI (h j) = 0; rw [z]; rfl)
    have hjc : j < ctN n := by
      rcases Nat.lt_or_ge j (ctN n) with q | q
      · exact q
      · exact absurd (hh0 j q) hne
    rw [show m_first F 126 (nF h) 126 = some (nI j) from j5, bd1_n, if_neg (nI_nm1 (by omega))]
    rcases hz4 with ⟨_, e4⟩ | ⟨e4, _⟩
    · rw [e4]
      by_cases q : gc < 8
      · rw [if_pos (show nI gc < 8 from nI_lt (show gc < 8 from q) (by decide)), if_neg (fun z => by
          have := (nI_eq (show gc < 2 ^ 31 by omega) (show 8 < 2 ^ 31 by decide)).mp z
          omega), show nI gc * 126 = nI (gc * 126) from pk_mul gc 126, show (0 : Int32) = nI 0 from rfl, show (126 : Int32) = nI 126 from rfl, cpI_n (by decide) (by omega) (by decide) (by decide), p_fill (by decide) (by omega), bd1_n, show nI gc + 1 = nI (gc + 1) from nI_add gc 1]
        have ex : (fun j => if j < 126 then nI 0 else nF h j) = nF (fun _ => 0) := by
          funext y
          by_cases z : y < 126
          · rw [if_pos z]; rfl
          · rw [if_neg z]; show nI (h y) = nI 0; rw [hh0 y (by omega)]
        have ec : va_cpy (nF h) (nF G) 0 (gc * 126) 126 = nF (fun y => if gc * 126 ≤ y ∧ y < gc * 126 + 126 then h (y - gc * 126) else G y) := by
          funext y
          unfold va_cpy
          show _ = nI (if gc * 126 ≤ y ∧ y < gc * 126 + 126 then h (y - gc * 126) else G y)
          by_cases z : gc * 126 ≤ y ∧ y < gc * 126 + 126
          · rw [if_pos z, if_pos z]
            show nI (h (0 + (y - gc * 126))) = _
            rw [Nat.zero_add]
          · rw [if_neg z, if_neg z]; rfl
        rw [ex, ec]
        have h66 := p_zj66 (F := F) (mI := nI (ctN n)) (hI := nF h2) q 126 F 0 G2 (by omega) (by omega)
        have e0 : (fun y => if 126 * gc ≤ y ∧ y < 126 * gc + 0 then 0 else G2 y) = G2 := by funext y; rw [if_neg (by omega)]
        rw [e0] at h66
        obtain ⟨g', hh', b1, b2, b3, b4⟩ := p_zj95 (F := F) (n := n) (h0 := h2) (g0 := G2) q hct (ctN n) F 0 (fun y => if 126 * gc ≤ y ∧ y < 126 * gc + 126 then 0 else G2 y) h2 (by omega) (by omega) (fun j hj => by omega) (fun j _ hj => if_pos (by omega)) (fun y hy => if_neg hy) (fun j hj => by omega) (fun j _ => rfl)
        have hgv : ∀ g, g < gc → genV (fun y => if gc * 126 ≤ y ∧ y < gc * 126 + 126 then h (y - gc * 126) else G y) g = genV G g := by
          intro g hg2
          funext y
          unfold genV
          by_cases z : y < 126
          · rw [if_pos z, if_pos z]; exact if_neg (by omega)
          · rw [if_neg z, if_neg z]
        have hgv2 : genV (fun y => if gc * 126 ≤ y ∧ y < gc * 126 + 126 then h (y - gc * 126) else G y) gc = h := by
          funext y
          unfold genV
          by_cases z : y < 126
          · rw [if_pos z]
            show (if gc * 126 ≤ gc * 126 + y ∧ gc * 126 + y < gc * 126 + 126 then h (gc * 126 + y - gc * 126) else G (gc * 126 + y)) = h y
            rw [if_pos (by omega), show gc * 126 + y - gc * 126 = y by omega]
          · rw [if_neg z, hh0 y (by omega)]
        have hgz : ∀ g, g < gc → genV g' g = genV G2 g := by
          intro g hg2
          funext y
          unfold genV
          by_cases z : y < 126
          · rw [if_pos z, if_pos z, b3 _ (by omega)]
          · rw [if_neg z, if_neg z]
        have hgz2 : genV g' gc = h := by
          funext y
          unfold genV
          by_cases z : y < 126
          · rw [if_pos z, show gc * 126 + y = 126 * gc + y by omega, b2 y z]
            by_cases w : y < ctN n
            · rw [if_pos w]; exact hZ.2.2.1 y w
            · rw [if_neg w, hh0 y (by omega)]
          · rw [if_neg z, hh0 y (by omega)]
        refine ⟨0, gc + 1, gc + 1, fun _ => 0, _, hh', g', Or.inl rfl, rfl, ?_, ⟨⟨hp, hp2, h1, h4, ho, by omega⟩, hL, fun _ => by show 0 < p; omega, fun _ _ => rfl, fun g hg2 => ?_, fun g hg2 => ?_⟩, hZ.1, hZ.2.1, fun j hj => b4 j hj, fun g hg2 => ?_⟩
        · unfold s_zjoin_52
          rw [if_pos (show nI 0 = 0 from rfl)]
          exact h66.trans b1
        · by_cases z : g = gc
          · rw [z, hgv2]; exact hh
          · rw [hgv g (by omega)]; exact hG g (by omega)
        · by_cases z : g = gc
          · rw [z, hgv2]; exact hh0
          · rw [hgv g (by omega)]; exact hG0 g (by omega)
        · by_cases z : g = gc
          · rw [z, hgv2, hgz2]
          · rw [hgv g (by omega), hgz g (by omega)]; exact hZ.2.2.2 g (by omega)
      · have e8 : gc = 8 := by omega
        rw [if_neg (show ¬ nI gc < 8 from nI_nlt (show 8 ≤ gc by omega) (by omega)), if_pos (show nI gc = 8 by rw [e8]; rfl)]
        unfold s_zjoin_52
        rw [if_neg (by decide)]
        exact ⟨2, 0, gc, h, G, h2, G2, Or.inr (Or.inr rfl), rfl, rfl, hA0, hZ⟩
    · exact absurd (by rw [← hZ.2.2.1 j hjc]; exact e4 j hjc) hne
  · rw [show m_first F 126 (nF h) 126 = some (-1) from j2, bd1_n, if_pos rfl]
    rcases hz4 with ⟨⟨j, a, b⟩, _⟩ | ⟨_, e4⟩
    · exfalso
      have := j1 j (Nat.zero_le _) (by omega)
      rw [hZ.2.2.1 j a] at b
      exact b (nI_inj32 (by have := hh j; omega) (by decide) this)
    · rw [e4]
      unfold s_zjoin_52
      rw [if_neg (by decide)]
      exact ⟨1, 0, gc, h, G, h2, G2, Or.inr (Or.inl rfl), rfl, rfl, hA0, hZ⟩
theorem zprime_eq (F : Nat) (x : Int32) : m_zprime F x = m_isPrime F x := rfl
theorem bd8_n {ρ a1 a2 a3 a4 a5 a6 a7 a8 : Type} {x1 : a1} {x2 : a2} {x3 : a3} {x4 : a4} {x5 : a5} {x6 : a6} {x7 : a7} {x8 : a8} {k : a1 → a2 → a3 → a4 → a5 → a6 → a7 → a8 → Option ρ} : bd8 (some (x1, x2, x3, x4, x5, x6, x7, x8)) k = k x1 x2 x3 x4 x5 x6 x7 x8 := rfl
theorem isPrime_all (hF : 40000 < F) (x : Int32) : (∃ p, isP p ∧ p ≤ 32003 ∧ x = nI p ∧ m_isPrime F x = some 1) ∨ m_isPrime F x = some 0 := by
  by_cases hx : x < 2
  · right; unfold m_isPrime; rw [if_pos hx]
  · by_cases hx2 : x ≤ 32003
    · have e2 : (2 : Int32).toInt = 2 := by decide
      have e3 : (32003 : Int32).toInt = 32003 := by decide
      rw [Int32.lt_iff_toInt_lt, e2] at hx
      have hx3 := hx2
      rw [Int32.le_iff_toInt_le, e3] at hx3
      obtain ⟨j, hj, rfl⟩ := pos_form (x := x) (by omega)
      rw [nI_toInt hj] at hx hx3
      have hp := p_isPrime (F := F) (p := j) (by omega) (by omega) (by omega)
      by_cases q : ∀ u, 2 ≤ u → u * u ≤ j → j % u ≠ 0
      · left
        rw [ipN_1 q] at hp
        exact ⟨j, (isP_iff (by omega)).mpr q, by omega, rfl, hp⟩
      · right
        rw [ipN_0 q] at hp
        exact hp
    · right; unfold m_isPrime; rw [if_neg hx, if_neg hx2]
theorem o_field (hF : 40000 < F) (hA : RA p n ord gc h G cg kg dgs rs) (hZ : RZ n ord gc h G cg2 kg2 h2 G2 dgs2) (x y z tc : Int32) :
    ∃ k p' n' ord' gc' h' cg' kg' dgs' rs' cg2' kg2' h2' dgs2', (k = 0 ∨ k = 1) ∧ m_tField F x y z (nI gc) (nI p) (nI (ctN n)) (nI (hiN n)) (nI ord) (nI n) (nF h) (nF cg) dgs (lF kg) rs = some (nI k, nI gc', nI p', nI (ctN n'), nI (hiN n'), nI ord', nI n', nF h', nF cg', dgs', lF kg', rs') ∧
      m_zfield F x y z (nI gc) (nI (ctN n)) (nI n) (nI ord) (nI p) tc (nF cg2) dgs2 (nF h2) = some (nI gc', nI (ctN n'), nI n', nI ord', nI p', nI k, nF cg2', dgs2', nF h2') ∧ RA p' n' ord' gc' h' G cg' kg' dgs' rs' ∧ RZ n' ord' gc' h' G cg2' kg2' h2' G2 dgs2' := by
  have hA0 := hA
  obtain ⟨⟨hp, hp2, h1, h4, ho, hg⟩, hL, hh, hh0, hG, hG0⟩ := hA
  have hct := ctN_le h1 h4
  have hbad : ∀ (e1 : m_tField F x y z (nI gc) (nI p) (nI (ctN n)) (nI (hiN n)) (nI ord) (nI n) (nF h) (nF cg) dgs (lF kg) rs = some (1, nI gc, nI p, nI (ctN n), nI (hiN n), nI ord, nI n, nF h, nF cg, dgs, lF kg, rs)) (e2 : m_zfield F x y z (nI gc) (nI (ctN n)) (nI n) (nI ord) (nI p) tc (nF cg2) dgs2 (nF h2) = s_zfield_27 F x y z (nI gc) (nI (ctN n)) (nI n) (nI ord) (nI p) tc (nF cg2) dgs2 (nF h2)),
      ∃ k p' n' ord' gc' h' cg' kg' dgs' rs' cg2' kg2' h2' dgs2', (k = 0 ∨ k = 1) ∧ m_tField F x y z (nI gc) (nI p) (nI (ctN n)) (nI (hiN n)) (nI ord) (nI n) (nF h) (nF cg) dgs (lF kg) rs = some (nI k, nI gc', nI p', nI (ctN n'), nI (hiN n'), nI ord', nI n', nF h', nF cg', dgs', lF kg', rs') ∧
      m_zfield F x y z (nI gc) (nI (ctN n)) (nI n) (nI ord) (nI p) tc (nF cg2) dgs2 (nF h2) = some (nI gc', nI (ctN n'), nI n', nI ord', nI p', nI k, nF cg2', dgs2', nF h2') ∧ RA p' n' ord' gc' h' G cg' kg' dgs' rs' ∧ RZ n' ord' gc' h' G cg2' kg2' h2' G2 dgs2' := by
    intro e1 e2
    refine ⟨1, p, n, ord, gc, h, cg, kg, dgs, rs, cg2, kg2, h2, dgs2, Or.inr rfl, e1, ?_, hA0, hZ⟩
    rw [e2]
    unfold s_zfield_27 s_zfield_32
    rw [if_neg (by decide)]
    rfl
  rcases isPrime_all (F := F) hF x with ⟨p', hp', hp2', ex, e1⟩ | e1
  · by_cases hy1 : y < 1
    · refine hbad ?_ ?_
      · unfold m_tField; rw [e1, bd1_n, if_neg (by decide), if_pos hy1]
      · unfold m_zfield; rw [zprime_eq, e1, bd1_n, if_neg (by decide), if_pos hy1]
    · by_cases hy4 : y ≤ 4
      · have hy4' : ¬ 4 < y := fun q => by
          rw [Int32.lt_iff_toInt_lt] at q
          rw [Int32.le_iff_toInt_le] at hy4
          omega
        have e0 : (0 : Int32).toInt = 0 := by decide
        have e1' : (1 : Int32).toInt = 1 := by decide
        have e4 : (4 : Int32).toInt = 4 := by decide
        have hyr : ∃ n', 1 ≤ n' ∧ n' ≤ 4 ∧ y = nI n' := by
          rw [Int32.lt_iff_toInt_lt, e1'] at hy1
          have hy5 := hy4
          rw [Int32.le_iff_toInt_le, e4] at hy5
          obtain ⟨j, hj, rfl⟩ := pos_form (x := y) (by omega)
          rw [nI_toInt hj] at hy1 hy5
          exact ⟨j, by omega, by omega, rfl⟩
        obtain ⟨n', n1, n4, rfl⟩ := hyr
        by_cases hz : z = 0 ∨ z = 1
        · have hzr : ∃ o', o' < 2 ∧ z = nI o' := by
            rcases hz with q | q
            · exact ⟨0, by decide, by rw [q]; rfl⟩
            · exact ⟨1, by decide, by rw [q]; rfl⟩
          obtain ⟨o', ho', rfl⟩ := hzr
          obtain ⟨cg', kg', dgs', rs', a1, a2⟩ := p_lay (F := F) (by omega) n1 n4 ho' cg kg hL.1.2.2.2.2.2 dgs rs (nI (ctN n)) (nI (hiN n)) (nI ord) (nI n)
          obtain ⟨cg2', kg2', dgs2', hd', b1, b2, b3, b4⟩ := p_zfresh (F := F) (by omega) n1 n4 ho' (nI p') (nI gc) (nI (ctN n)) (nI n) (nI ord) (nI p) (nF cg2) dgs2 (nF h2)
          obtain ⟨hd2, hde, _, hdz⟩ := nF_ex hd'
          obtain ⟨_, c1, _, _, _⟩ := o_clear (F := F) hF hA0 hZ tc
          refine ⟨0, p', n', o', 0, fun _ => 0, cg', kg', dgs', rs', cg2', kg2', hd2, dgs2', Or.inl rfl, ?_, ?_, ⟨⟨hp', hp2', n1, n4, ho', by omega⟩, a2, fun _ => by show 0 < p'; have := hp'.1; omega, fun _ _ => rfl, fun g hg => by omega, fun g hg => by omega⟩, b2, b3, fun j hj => hdz j (b4 j hj), fun g hg => by omega⟩
          · have hs : s_tField_56 F x (nI n') (nI o') (nI gc) (nI p) (nI (ctN n)) (nI (hiN n)) (nI ord) (nI n) (nF h) (nF cg) dgs (lF kg) rs = some (nI 0, nI 0, nI p', nI (ctN n'), nI (hiN n'), nI o', nI n', nF (fun _ => 0), nF cg', dgs', lF kg', rs') := by
              unfold s_tField_56
              rw [a1, bd8_n, c1, bd2_n, ex]
              rfl
            unfold m_tField
            rw [e1, bd1_n, if_neg (by decide), if_neg hy1, if_pos hy4]
            rcases hz with q | q
            · rw [if_pos q]; exact hs
            · rw [if_neg (by rw [q]; decide), if_pos q]; exact hs
          · unfold m_zfield
            rw [zprime_eq, e1, bd1_n, if_neg (by decide), if_neg hy1, if_neg hy4', if_neg (show ¬ nI o' < 0 from nI_nlt (Nat.zero_le o') (by omega)), if_pos (show nI o' ≤ 1 from nI_le (show o' ≤ 1 by omega) (by decide))]
            unfold s_zfield_32
            rw [if_pos rfl, ex, b1, bd8_n, hde]
            rfl
        · refine hbad ?_ ?_
          · unfold m_tField
            rw [e1, bd1_n, if_neg (by decide), if_neg hy1, if_pos hy4, if_neg (fun q => hz (Or.inl q)), if_neg (fun q => hz (Or.inr q))]
          · unfold m_zfield
            rw [zprime_eq, e1, bd1_n, if_neg (by decide), if_neg hy1, if_neg hy4']
            by_cases q : z < 0
            · rw [if_pos q]
            · rw [if_neg q, if_neg (fun w => hz ?_)]
              rw [Int32.lt_iff_toInt_lt, e0] at q
              have w2 := w
              rw [Int32.le_iff_toInt_le, e1'] at w2
              obtain ⟨j, hj, rfl⟩ := pos_form (x := z) (by omega)
              rw [nI_toInt hj] at w2
              rcases (show j = 0 ∨ j = 1 by omega) with y | y
              · left; rw [y]; rfl
              · right; rw [y]; rfl
      · have hy4' : 4 < y := by
          rw [Int32.lt_iff_toInt_lt]
          rw [Int32.le_iff_toInt_le] at hy4
          omega
        refine hbad ?_ ?_
        · unfold m_tField; rw [e1, bd1_n, if_neg (by decide), if_neg hy1, if_neg hy4]
        · unfold m_zfield; rw [zprime_eq, e1, bd1_n, if_neg (by decide), if_neg hy1, if_pos hy4']
  · refine hbad ?_ ?_
    · unfold m_tField; rw [e1, bd1_n, if_pos rfl]
    · unfold m_zfield; rw [zprime_eq, e1, bd1_n, if_pos rfl]
end OPS2
