/-! THE CLASS'S LEFT-OVER MONOMIALS: the four loops of gather. -/
set_option maxRecDepth 100000 in
theorem cdb_w {c x y z b : Nat} (h : c < cdN x y (z + 1) 0) (hb : exN c 3 < b) : c < cdN x y z b := by
  unfold cdN at h ⊢
  rw [exN_3] at hb
  omega
set_option maxRecDepth 100000 in
theorem cdb_z {c x y b : Nat} (h : c < cdN x (y + 1) 0 0) (hb : exN c 2 < b) : c < cdN x y b 0 := by
  unfold cdN at h ⊢
  rw [exN_2] at hb
  omega
theorem cdb_y {c x b : Nat} (h : c < cdN (x + 1) 0 0 0) (hb : exN c 1 < b) : c < cdN x b 0 0 := by
  rw [cdN_lin] at h ⊢
  rw [exN_1] at hb
  omega
theorem cdb_x {c b : Nat} (h : c < 2 ^ 32) (hb : exN c 0 < b) : c < cdN b 0 0 0 := by
  rw [cdN_lin]
  rw [exN_0] at hb
  omega
/-- within the bounds, and not led -/
noncomputable def Bx (bN cg : Nat → Nat) (l : List Nat) (c : Nat) : Prop := c < 2 ^ 32 ∧ (∀ v, v < 4 → exN c v < bN v) ∧ hlN cg l c = 0
noncomputable def BM (ord : Nat) (bN cg : Nat → Nat) (l : List Nat) : Prop := ∃ L g k, TabL ord L 41 g k ∧ ∀ c ∈ L, Bx bN cg l c
/-- the list so far -/
noncomputable def GS (ord : Nat) (bN cg : Nat → Nat) (l : List Nat) (e sz : Nat) (g : Nat → Nat) : Prop := ∃ L k, TabL ord L sz g k ∧ sz ≤ 40 ∧ ∀ c, c ∈ L ↔ Bx bN cg l c ∧ c < e
section GATHER2
variable {F ord : Nat} {cg bs bN : Nat → Nat} {l : List Nat}
theorem GS.cast {e e' sz : Nat} {g : Nat → Nat} (h : GS ord bN cg l e sz g) (hee : ∀ c, Bx bN cg l c → (c < e ↔ c < e')) : GS ord bN cg l e' sz g := by
  obtain ⟨L, k, h1, h2, h3⟩ := h
  exact ⟨L, k, h1, h2, fun c => (h3 c).trans ⟨fun q => ⟨q.1, (hee c q.1).mp q.2⟩, fun q => ⟨q.1, (hee c q.1).mpr q.2⟩⟩⟩
theorem GS.take (hF : 126 < F) (hord : ord < 2) {e sz : Nat} {g : Nat → Nat} (h : GS ord bN cg l e sz g) (he : Bx bN cg l e) :
    (∃ g', GS ord bN cg l (e + 1) (sz + 1) g' ∧ m_reTakes F (nI e) (nI ord) (nI sz) (nF g) = some (1, nI (sz + 1), nF g')) ∨ (BM ord bN cg l ∧ m_reTakes F (nI e) (nI ord) (nI sz) (nF g) = some (0, nI sz, nF g)) := by
  obtain ⟨L, k, h1, h2, h3⟩ := h
  have hno : e ∉ L := fun z => by have := ((h3 e).mp z).2; omega
  have hmem : ∀ c, c ∈ L ++ [e] ↔ Bx bN cg l c ∧ c < e + 1 := by
    intro c
    rw [List.mem_append, List.mem_singleton, h3]
    constructor
    · rintro (q | q)
      · exact ⟨q.1, by omega⟩
      · rw [q]; exact ⟨he, by omega⟩
    · intro q
      by_cases z : c = e
      · exact Or.inr z
      · exact Or.inl ⟨q.1, by omega⟩
  rcases (show sz < 40 ∨ sz = 40 by omega) with q | q
  · obtain ⟨g', k', a, b⟩ := TabL.take (F := F) hF hord h1 he.1 hno q
    exact Or.inl ⟨g', ⟨_, k', a, by omega, hmem⟩, b⟩
  · refine Or.inr ⟨?_, p_reTakes_full q⟩
    obtain ⟨g', k', a⟩ := h1.more he.1 hno
    rw [q] at a
    exact ⟨_, g', k', a, fun c hc => ((hmem c).mp hc).1⟩
theorem g_w (hF : 200 < F) (hord : ord < 2) (hA : Arr l bs) (hl : l.length ≤ 126) (hb : ∀ b ∈ l, b < 126 ∧ cg b < 2 ^ 32) (hbN : ∀ v, v < 4 → bN v < 256) {bd : Nat → Int32} (hbd : ∀ v, v < 4 → bd v = nI (bN v)) {k2 k14 k27} {x y z : Nat} (hx : x < bN 0) (hy : y < bN 1) (hz : z < bN 2) :
    ∀ (d m w sz : Nat) (g : Nat → Nat), w + d = bN 3 → d < m → GS ord bN cg l (cdN x y z w) sz g →
      (∃ sz' g', GS ord bN cg l (cdN x y (z + 1) 0) sz' g' ∧ b_gatherWithin_41 F (nI ord) (nI l.length) (nF cg) (nF bs) bd k2 k14 k27 m (nI x) (nI y) (nI z) (nI w) (nI sz) (nF g) = k27 (nI x) (nI y) (nI (z + 1)) (nI sz') (nF g')) ∨
      (∃ sz' g', BM ord bN cg l ∧ b_gatherWithin_41 F (nI ord) (nI l.length) (nF cg) (nF bs) bd k2 k14 k27 m (nI x) (nI y) (nI z) (nI w) (nI sz) (nF g) = some (0, nI sz', nF g')) := by
  have b0 := hbN 0 (by decide)
  have b1 := hbN 1 (by decide)
  have b2 := hbN 2 (by decide)
  have b3 := hbN 3 (by decide)
  intro d
  induction d with
  | zero =>
    intro m w sz g hw hm h
    obtain ⟨m, rfl⟩ : ∃ q, m = q + 1 := ⟨m - 1, by omega⟩
    refine Or.inl ⟨sz, g, h.cast fun c hc => ⟨fun q => cd_w q (by omega), fun q => cdb_w q (by have := hc.2.1 3 (by decide); omega)⟩, ?_⟩
    show s_gatherWithin_41 F (nI ord) (nI l.length) (nF cg) (nF bs) bd k2 k14 k27 (b_gatherWithin_41 F (nI ord) (nI l.length) (nF cg) (nF bs) bd k2 k14 k27 m) (nI x) (nI y) (nI z) (nI w) (nI sz) (nF g) = _
    unfold s_gatherWithin_41
    rw [show (3 : Int32) = nI 3 from rfl, rdI_n (by decide) (by decide), hbd 3 (by decide), if_pos (nI_le (by omega) (by omega)), show nI z + 1 = nI (z + 1) from nI_add z 1]
  | succ d ih =>
    intro m w sz g hw hm h
    obtain ⟨m, rfl⟩ : ∃ q, m = q + 1 := ⟨m - 1, by omega⟩
    have hc := cdN_lt (x := x) (y := y) (z := z) (w := w) (by omega) (by omega) (by omega) (by omega)
    have hce := cdN_ex (x := x) (y := y) (z := z) (w := w) (by omega) (by omega) (by omega) (by omega)
    have hs : cdN x y z w + 1 = cdN x y z (w + 1) := by rw [cdN_lin, cdN_lin]; omega
    have step : b_gatherWithin_41 F (nI ord) (nI l.length) (nF cg) (nF bs) bd k2 k14 k27 (m + 1) (nI x) (nI y) (nI z) (nI w) (nI sz) (nF g) =
        if hlN cg l (cdN x y z w) = 0 then bd3 (m_reTakes F (nI (cdN x y z w)) (nI ord) (nI sz) (nF g)) fun r s c => if r = 0 then some (0, s, c) else b_gatherWithin_41 F (nI ord) (nI l.length) (nF cg) (nF bs) bd k2 k14 k27 m (nI x) (nI y) (nI z) (nI (w + 1)) s c
        else b_gatherWithin_41 F (nI ord) (nI l.length) (nF cg) (nF bs) bd k2 k14 k27 m (nI x) (nI y) (nI z) (nI (w + 1)) (nI sz) (nF g) := by
      show s_gatherWithin_41 F (nI ord) (nI l.length) (nF cg) (nF bs) bd k2 k14 k27 (b_gatherWithin_41 F (nI ord) (nI l.length) (nF cg) (nF bs) bd k2 k14 k27 m) (nI x) (nI y) (nI z) (nI w) (nI sz) (nF g) = _
      unfold s_gatherWithin_41
      rw [show (3 : Int32) = nI 3 from rfl, rdI_n (by decide) (by decide), hbd 3 (by decide), if_neg (nI_ge (by omega) (by omega)), p_code (by omega) (by omega) (by omega) (by omega), p_hasLead hF hc hA hl hb, bd1_n, show nI w + 1 = nI (w + 1) from nI_add w 1]
      rcases hlN_le cg l (cdN x y z w) with q | q
      · rw [q, if_pos (show nI 0 = 0 from rfl), if_pos rfl]
      · rw [q, if_neg (by decide), if_neg (by decide +kernel)]
    rw [step]
    rcases hlN_le cg l (cdN x y z w) with q | q
    · rw [if_pos q]
      have hB : Bx bN cg l (cdN x y z w) := by
        refine ⟨hc, fun v hv => ?_, q⟩
        rcases (show v = 0 ∨ v = 1 ∨ v = 2 ∨ v = 3 by omega) with z | z | z | z <;> subst z
        · rw [hce.1]; exact hx
        · rw [hce.2.1]; exact hy
        · rw [hce.2.2.1]; exact hz
        · rw [hce.2.2.2]; omega
      rcases h.take (F := F) (by omega) hord hB with ⟨g', a1, a2⟩ | ⟨a1, a2⟩
      · rw [a2, bd3_n, if_neg (by decide)]
        rw [hs] at a1
        exact ih m (w + 1) _ _ (by omega) (by omega) a1
      · rw [a2, bd3_n, if_pos rfl]
        exact Or.inr ⟨sz, g, a1, rfl⟩
    · rw [if_neg (by omega)]
      refine ih m (w + 1) _ _ (by omega) (by omega) (h.cast fun c hcB => ?_)
      rw [← hs]
      constructor
      · intro t; omega
      · intro t
        rcases (show c < cdN x y z w ∨ c = cdN x y z w by omega) with r | r
        · exact r
        · rw [r] at hcB
          have := hcB.2.2
          omega
theorem g_z (hF : 200 < F) (hord : ord < 2) (hA : Arr l bs) (hl : l.length ≤ 126) (hb : ∀ b ∈ l, b < 126 ∧ cg b < 2 ^ 32) (hbN : ∀ v, v < 4 → bN v < 256) (hF2 : 256 < F) {bd : Nat → Int32} (hbd : ∀ v, v < 4 → bd v = nI (bN v)) {k2 k14} {x y : Nat} (hx : x < bN 0) (hy : y < bN 1) :
    ∀ (d m z sz : Nat) (g : Nat → Nat), z + d = bN 2 → d < m → GS ord bN cg l (cdN x y z 0) sz g →
      (∃ sz' g', GS ord bN cg l (cdN x (y + 1) 0 0) sz' g' ∧ b_gatherWithin_27 F (nI ord) (nI l.length) (nF cg) (nF bs) bd k2 k14 m (nI x) (nI y) (nI z) (nI sz) (nF g) = k14 (nI x) (nI (y + 1)) (nI sz') (nF g')) ∨
      (∃ sz' g', BM ord bN cg l ∧ b_gatherWithin_27 F (nI ord) (nI l.length) (nF cg) (nF bs) bd k2 k14 m (nI x) (nI y) (nI z) (nI sz) (nF g) = some (0, nI sz', nF g')) := by
  have b0 := hbN 0 (by decide)
  have b1 := hbN 1 (by decide)
  have b2 := hbN 2 (by decide)
  have b3 := hbN 3 (by decide)
  intro d
  induction d with
  | zero =>
    intro m z sz g hw hm h
    obtain ⟨m, rfl⟩ : ∃ q, m = q + 1 := ⟨m - 1, by omega⟩
    refine Or.inl ⟨sz, g, h.cast fun c hc => ⟨fun q => cd_z q (by omega), fun q => cdb_z q (by have := hc.2.1 2 (by decide); omega)⟩, ?_⟩
    show s_gatherWithin_27 F (nI ord) (nI l.length) (nF cg) (nF bs) bd k2 k14 (b_gatherWithin_27 F (nI ord) (nI l.length) (nF cg) (nF bs) bd k2 k14 m) (nI x) (nI y) (nI z) (nI sz) (nF g) = _
    unfold s_gatherWithin_27
    rw [show (2 : Int32) = nI 2 from rfl, rdI_n (by decide) (by decide), hbd 2 (by decide), if_pos (nI_le (by omega) (by omega)), show nI y + 1 = nI (y + 1) from nI_add y 1]
  | succ d ih =>
    intro m z sz g hw hm h
    obtain ⟨m, rfl⟩ : ∃ q, m = q + 1 := ⟨m - 1, by omega⟩
    have step : b_gatherWithin_27 F (nI ord) (nI l.length) (nF cg) (nF bs) bd k2 k14 (m + 1) (nI x) (nI y) (nI z) (nI sz) (nF g) =
        b_gatherWithin_41 F (nI ord) (nI l.length) (nF cg) (nF bs) bd k2 k14 (b_gatherWithin_27 F (nI ord) (nI l.length) (nF cg) (nF bs) bd k2 k14 m) F (nI x) (nI y) (nI z) (nI 0) (nI sz) (nF g) := by
      show s_gatherWithin_27 F (nI ord) (nI l.length) (nF cg) (nF bs) bd k2 k14 (b_gatherWithin_27 F (nI ord) (nI l.length) (nF cg) (nF bs) bd k2 k14 m) (nI x) (nI y) (nI z) (nI sz) (nF g) = _
      unfold s_gatherWithin_27
      rw [show (2 : Int32) = nI 2 from rfl, rdI_n (by decide) (by decide), hbd 2 (by decide), if_neg (nI_ge (by omega) (by omega))]
      rfl
    rw [step]
    rcases g_w (k2 := k2) (k14 := k14) (k27 := b_gatherWithin_27 F (nI ord) (nI l.length) (nF cg) (nF bs) bd k2 k14 m) hF hord hA hl hb hbN hbd hx hy (show z < bN 2 by omega) (bN 3) F 0 sz g (by omega) (by omega) h with ⟨sz', g', a1, a2⟩ | ⟨sz', g', a1, a2⟩
    · rw [a2]
      exact ih m (z + 1) _ _ (by omega) (by omega) a1
    · rw [a2]
      exact Or.inr ⟨sz', g', a1, rfl⟩
theorem g_y (hF : 200 < F) (hord : ord < 2) (hA : Arr l bs) (hl : l.length ≤ 126) (hb : ∀ b ∈ l, b < 126 ∧ cg b < 2 ^ 32) (hbN : ∀ v, v < 4 → bN v < 256) (hF2 : 256 < F) {bd : Nat → Int32} (hbd : ∀ v, v < 4 → bd v = nI (bN v)) {k2} {x : Nat} (hx : x < bN 0) :
    ∀ (d m y sz : Nat) (g : Nat → Nat), y + d = bN 1 → d < m → GS ord bN cg l (cdN x y 0 0) sz g →
      (∃ sz' g', GS ord bN cg l (cdN (x + 1) 0 0 0) sz' g' ∧ b_gatherWithin_14 F (nI ord) (nI l.length) (nF cg) (nF bs) bd k2 m (nI x) (nI y) (nI sz) (nF g) = k2 (nI (x + 1)) (nI sz') (nF g')) ∨
      (∃ sz' g', BM ord bN cg l ∧ b_gatherWithin_14 F (nI ord) (nI l.length) (nF cg) (nF bs) bd k2 m (nI x) (nI y) (nI sz) (nF g) = some (0, nI sz', nF g')) := by
  have b0 := hbN 0 (by decide)
  have b1 := hbN 1 (by decide)
  have b2 := hbN 2 (by decide)
  intro d
  induction d with
  | zero =>
    intro m y sz g hw hm h
    obtain ⟨m, rfl⟩ : ∃ q, m = q + 1 := ⟨m - 1, by omega⟩
    refine Or.inl ⟨sz, g, h.cast fun c hc => ⟨fun q => cd_y q (by omega), fun q => cdb_y q (by have := hc.2.1 1 (by decide); omega)⟩, ?_⟩
    show s_gatherWithin_14 F (nI ord) (nI l.length) (nF cg) (nF bs) bd k2 (b_gatherWithin_14 F (nI ord) (nI l.length) (nF cg) (nF bs) bd k2 m) (nI x) (nI y) (nI sz) (nF g) = _
    unfold s_gatherWithin_14
    rw [show (1 : Int32) = nI 1 from rfl, rdI_n (by decide) (by decide), hbd 1 (by decide), if_pos (nI_le (by omega) (by omega)), nI_add]
  | succ d ih =>
    intro m y sz g hw hm h
    obtain ⟨m, rfl⟩ : ∃ q, m = q + 1 := ⟨m - 1, by omega⟩
    have step : b_gatherWithin_14 F (nI ord) (nI l.length) (nF cg) (nF bs) bd k2 (m + 1) (nI x) (nI y) (nI sz) (nF g) =
        b_gatherWithin_27 F (nI ord) (nI l.length) (nF cg) (nF bs) bd k2 (b_gatherWithin_14 F (nI ord) (nI l.length) (nF cg) (nF bs) bd k2 m) F (nI x) (nI y) (nI 0) (nI sz) (nF g) := by
      show s_gatherWithin_14 F (nI ord) (nI l.length) (nF cg) (nF bs) bd k2 (b_gatherWithin_14 F (nI ord) (nI l.length) (nF cg) (nF bs) bd k2 m) (nI x) (nI y) (nI sz) (nF g) = _
      unfold s_gatherWithin_14
      rw [show (1 : Int32) = nI 1 from rfl, rdI_n (by decide) (by decide), hbd 1 (by decide), if_neg (nI_ge (by omega) (by omega))]
      rfl
    rw [step]
    rcases g_z (k2 := k2) (k14 := b_gatherWithin_14 F (nI ord) (nI l.length) (nF cg) (nF bs) bd k2 m) hF hord hA hl hb hbN hF2 hbd hx (show y < bN 1 by omega) (bN 2) F 0 sz g (by omega) (by omega) h with ⟨sz', g', a1, a2⟩ | ⟨sz', g', a1, a2⟩
    · rw [a2]
      exact ih m (y + 1) _ _ (by omega) (by omega) a1
    · rw [a2]
      exact Or.inr ⟨sz', g', a1, rfl⟩
theorem g_x (hF : 200 < F) (hord : ord < 2) (hA : Arr l bs) (hl : l.length ≤ 126) (hb : ∀ b ∈ l, b < 126 ∧ cg b < 2 ^ 32) (hbN : ∀ v, v < 4 → bN v < 256) (hF2 : 256 < F) {bd : Nat → Int32} (hbd : ∀ v, v < 4 → bd v = nI (bN v)) :
    ∀ (d m x sz : Nat) (g : Nat → Nat), x + d = bN 0 → d < m → GS ord bN cg l (cdN x 0 0 0) sz g →
      (∃ sz' g', GS ord bN cg l (2 ^ 32) sz' g' ∧ b_gatherWithin_2 F (nI ord) (nI l.length) (nF cg) (nF bs) bd m (nI x) (nI sz) (nF g) = some (1, nI sz', nF g')) ∨
      (∃ sz' g', BM ord bN cg l ∧ b_gatherWithin_2 F (nI ord) (nI l.length) (nF cg) (nF bs) bd m (nI x) (nI sz) (nF g) = some (0, nI sz', nF g')) := by
  have b0 := hbN 0 (by decide)
  have b1 := hbN 1 (by decide)
  intro d
  induction d with
  | zero =>
    intro m x sz g hw hm h
    obtain ⟨m, rfl⟩ : ∃ q, m = q + 1 := ⟨m - 1, by omega⟩
    refine Or.inl ⟨sz, g, h.cast fun c hc => ⟨fun q => hc.1, fun q => cdb_x q (by have := hc.2.1 0 (by decide); omega)⟩, ?_⟩
    show s_gatherWithin_2 F (nI ord) (nI l.length) (nF cg) (nF bs) bd (b_gatherWithin_2 F (nI ord) (nI l.length) (nF cg) (nF bs) bd m) (nI x) (nI sz) (nF g) = _
    unfold s_gatherWithin_2
    rw [show (0 : Int32) = nI 0 from rfl, rdI_n (by decide) (by decide), hbd 0 (by decide), if_pos (nI_le (by omega) (by omega))]
  | succ d ih =>
    intro m x sz g hw hm h
    obtain ⟨m, rfl⟩ : ∃ q, m = q + 1 := ⟨m - 1, by omega⟩
    have step : b_gatherWithin_2 F (nI ord) (nI l.length) (nF cg) (nF bs) bd (m + 1) (nI x) (nI sz) (nF g) =
        b_gatherWithin_14 F (nI ord) (nI l.length) (nF cg) (nF bs) bd (b_gatherWithin_2 F (nI ord) (nI l.length) (nF cg) (nF bs) bd m) F (nI x) (nI 0) (nI sz) (nF g) := by
      show s_gatherWithin_2 F (nI ord) (nI l.length) (nF cg) (nF bs) bd (b_gatherWithin_2 F (nI ord) (nI l.length) (nF cg) (nF bs) bd m) (nI x) (nI sz) (nF g) = _
      unfold s_gatherWithin_2
      rw [show (0 : Int32) = nI 0 from rfl, rdI_n (by decide) (by decide), hbd 0 (by decide), if_neg (nI_ge (by omega) (by omega))]
    rw [step]
    rcases g_y (k2 := b_gatherWithin_2 F (nI ord) (nI l.length) (nF cg) (nF bs) bd m) hF hord hA hl hb hbN hF2 hbd (show x < bN 0 by omega) (bN 1) F 0 sz g (by omega) (by omega) h with ⟨sz', g', a1, a2⟩ | ⟨sz', g', a1, a2⟩
    · rw [a2]
      exact ih m (x + 1) _ _ (by omega) (by omega) a1
    · rw [a2]
      exact Or.inr ⟨sz', g', a1, rfl⟩
theorem p_gather {n p : Nat} (hF : 40000 < F) (h1 : 1 ≤ n) (h4 : n ≤ 4) (hord : ord < 2) (hA : Arr l bs) (hl : l.length ≤ 126) (hb : ∀ b ∈ l, b < 126 ∧ cg b < 2 ^ 32 ∧ degN (cg b) ≤ 30) {p0 v0 : Int32} {g : Nat → Nat} {bd : Nat → Int32} :
    ∃ r sz' g' bd', m_gather F (nI ord) (nI n) (nI l.length) (nI p) (nF cg) (nF bs) p0 (nI 0) v0 (nF g) bd = some (nI r, nI p, nI sz', nI n, nF g', bd') ∧
      ((r = 1 ∧ (∀ v, v < n → PP cg l v) ∧ Few n ord cg l sz' g') ∨ (r = 0 ∧ sz' = 0 ∧ ((∃ v, v < n ∧ ¬ PP cg l v) ∨ Many n ord cg l))) := by
  have hb2 : ∀ b ∈ l, b < 126 ∧ cg b < 2 ^ 32 := fun b h => ⟨(hb b h).1, (hb b h).2.1⟩
  obtain ⟨r, bd', a1, a2⟩ := p_setBounds_l (F := F) (n := n) (cg := cg) (by omega) h1 h4 hA hl hb2 4 F 0 bd (by omega) (by omega) (fun v hv => by omega)
  have a1' : m_setBounds F (nI l.length) (nI n) (nF cg) (nF bs) bd = some (nI r, bd') := a1
  rcases a2 with ⟨r1, a2⟩ | ⟨r0, a2⟩
  · subst r1
    have hex : ∀ v, ∃ q, v < 4 → q < 256 ∧ bd' v = nI q ∧ (v < n → ∃ b ∈ l, exN (cg b) v = degN (cg b) ∧ q = degN (cg b)) ∧ (n ≤ v → q = 1) := by
      intro v
      by_cases hv : v < 4
      · by_cases hvn : v < n
        · obtain ⟨b, c1, c2, c3⟩ := (a2 v hv).1 hvn
          exact ⟨degN (cg b), fun _ => ⟨by have := (hb b c1).2.2; omega, c3, fun _ => ⟨b, c1, c2, rfl⟩, fun z => by omega⟩⟩
        · exact ⟨1, fun _ => ⟨by decide, (a2 v hv).2 (by omega), fun z => absurd z hvn, fun _ => rfl⟩⟩
      · exact ⟨0, fun z => absurd z hv⟩
    obtain ⟨bN, hbN⟩ := Classical.axiomOfChoice hex
    have hiff : ∀ c, Bx bN cg l c ↔ NL n cg l c := by
      intro c
      constructor
      · rintro ⟨q1, q2, q3⟩
        refine ⟨q1, fun v hv hv4 => ?_, q3⟩
        have := q2 v hv4
        rw [(hbN v hv4).2.2.2 hv] at this
        omega
      · intro q
        refine ⟨q.1, fun v hv => ?_, q.2.2⟩
        by_cases hvn : v < n
        · obtain ⟨b, c1, c2, c3⟩ := (hbN v hv).2.2.1 hvn
          rw [c3]; exact q.pp hv c1 c2
        · rw [(hbN v hv).2.2.2 (by omega), q.2.1 v (by omega) hv]; decide
    have hpp : ∀ v, v < n → PP cg l v := fun v hv => by
      obtain ⟨b, c1, c2, _⟩ := (hbN v (by omega)).2.2.1 hv
      exact ⟨b, c1, c2⟩
    have h0 : GS ord bN cg l (cdN 0 0 0 0) 0 g := ⟨[], fun _ => 0, ⟨rfl, fun _ _ _ q => absurd q (Nat.not_lt_zero _), fun _ q => absurd q (Nat.not_lt_zero _), fun c => ⟨fun q => absurd q List.not_mem_nil, fun ⟨_, q, _⟩ => absurd q (Nat.not_lt_zero _)⟩, fun c q => absurd q List.not_mem_nil, fun _ => Nat.two_pow_pos 63⟩, by decide, fun c => ⟨fun q => absurd q List.not_mem_nil, fun ⟨_, q⟩ => absurd q (Nat.not_lt_zero _)⟩⟩
    rcases g_x (F := F) (bd := bd') (by omega) hord hA hl hb2 (fun v hv => (hbN v hv).1) (by omega) (fun v hv => (hbN v hv).2.1) (bN 0) F 0 0 g (by omega) (by have := (hbN 0 (by decide)).1; omega) h0 with ⟨sz', g', c1, c2⟩ | ⟨sz', g', c1, c2⟩
    · refine ⟨1, sz', g', bd', ?_, Or.inl ⟨rfl, hpp, ?_⟩⟩
      · unfold m_gather
        rw [a1', bd2_n, if_neg (by decide +kernel), show m_gatherWithin F (nI ord) (nI l.length) (nF cg) (nF bs) bd' (nI 0) (nF g) = _ from c2, bd3_n, if_neg (by decide)]
        rfl
      · obtain ⟨L, k, d1, d2, d3⟩ := c1
        exact ⟨L, k, d1, d2, fun c => (d3 c).trans ⟨fun q => (hiff c).mp q.1, fun q => ⟨(hiff c).mpr q, q.1⟩⟩⟩
    · refine ⟨0, 0, g', bd', ?_, Or.inr ⟨rfl, rfl, Or.inr ?_⟩⟩
      · unfold m_gather
        rw [a1', bd2_n, if_neg (by decide +kernel), show m_gatherWithin F (nI ord) (nI l.length) (nF cg) (nF bs) bd' (nI 0) (nF g) = _ from c2, bd3_n, if_pos rfl]
        rfl
      · obtain ⟨L, g2, k, d1, d2⟩ := c1
        exact ⟨L, g2, k, d1, fun c hc => (hiff c).mp (d2 c hc)⟩
  · subst r0
    refine ⟨0, 0, g, bd', ?_, Or.inr ⟨rfl, rfl, Or.inl a2⟩⟩
    unfold m_gather
    rw [a1', bd2_n, if_pos (show nI 0 = 0 from rfl)]
    rfl
end GATHER2
