/-! THE TABLE OF MONOMIALS: what 'lay' makes. -/
/-- the table holds the codes of l, by their keys -/
def TabL (ord : Nat) (l : List Nat) (cnt : Nat) (cg kg : Nat → Nat) : Prop :=
  cnt = l.length ∧ (∀ i j, i < j → j < cnt → kg i < kg j) ∧ (∀ j, j < cnt → kg j = keyN ord (cg j)) ∧ (∀ c, c ∈ l ↔ ∃ j, j < cnt ∧ cg j = c) ∧ (∀ c ∈ l, c < 2 ^ 32) ∧ ∀ j, kg j < 2 ^ 63
theorem TabL.add {ord cnt code at_ : Nat} {l : List Nat} {cg kg : Nat → Nat} (h : TabL ord l cnt cg kg) (hcode : code < 2 ^ 32) (hnew : code ∉ l) (ha : at_ ≤ cnt) (h1 : at_ = 0 ∨ kg (at_ - 1) ≤ keyN ord code) (h2 : ∀ j, at_ ≤ j → j < cnt → keyN ord code < kg j) :
    TabL ord (l ++ [code]) (cnt + 1) (insF cg at_ cnt code) (insF kg at_ cnt (keyN ord code)) := by
  obtain ⟨hl, hs, hk, hm, hb, hg⟩ := h
  have hkey := keyN_lt ord code
  have low : ∀ j, j < at_ → kg j < keyN ord code := by
    intro j hj
    rcases h1 with z | z
    · omega
    · have hne : kg (at_ - 1) ≠ keyN ord code := by
        intro e
        have h3 := hk (at_ - 1) (by omega)
        have h4 : cg (at_ - 1) ∈ l := (hm _).mpr ⟨at_ - 1, by omega, rfl⟩
        have h5 := keyN_inj (hb _ h4) hcode (h3.symm.trans e)
        exact hnew (h5 ▸ h4)
      rcases Nat.lt_or_ge j (at_ - 1) with z1 | z1
      · have := hs j (at_ - 1) z1 (by omega)
        omega
      · have e : j = at_ - 1 := by omega
        rw [e]; omega
  have ins : ∀ (g : Nat → Nat) (x j : Nat), insF g at_ cnt x j = if j < at_ then g j else if j = at_ then x else if j ≤ cnt then g (j - 1) else g j := fun _ _ _ => rfl
  refine ⟨by rw [List.length_append, List.length_singleton, hl], ?_, ?_, ?_, ?_, ?_⟩
  · intro i j hij hj
    rw [ins, ins]
    by_cases i1 : i < at_
    · rw [if_pos i1]
      by_cases j1 : j < at_
      · rw [if_pos j1]; exact hs i j hij (by omega)
      · rw [if_neg j1]
        by_cases j2 : j = at_
        · rw [if_pos j2]; exact low i i1
        · rw [if_neg j2, if_pos (by omega)]
          exact hs i (j - 1) (by omega) (by omega)
    · rw [if_neg i1]
      by_cases i2 : i = at_
      · rw [if_pos i2, if_neg (by omega), if_neg (by omega), if_pos (by omega)]
        exact h2 (j - 1) (by omega) (by omega)
      · rw [if_neg i2, if_pos (by omega), if_neg (by omega), if_neg (by omega), if_pos (by omega)]
        exact hs (i - 1) (j - 1) (by omega) (by omega)
  · intro j hj
    rw [ins, ins]
    by_cases j1 : j < at_
    · rw [if_pos j1, if_pos j1]; exact hk j (by omega)
    · rw [if_neg j1, if_neg j1]
      by_cases j2 : j = at_
      · rw [if_pos j2, if_pos j2]
      · rw [if_neg j2, if_neg j2, if_pos (by omega), if_pos (by omega)]
        exact hk (j - 1) (by omega)
  · intro c
    rw [List.mem_append, List.mem_singleton, hm]
    constructor
    · rintro (⟨j, hj, rfl⟩ | rfl)
      · by_cases j1 : j < at_
        · exact ⟨j, by omega, by rw [ins, if_pos j1]⟩
        · exact ⟨j + 1, by omega, by rw [ins, if_neg (by omega), if_neg (by omega), if_pos (by omega), Nat.add_sub_cancel]⟩
      · exact ⟨at_, by omega, by rw [ins, if_neg (by omega), if_pos rfl]⟩
    · rintro ⟨j, hj, rfl⟩
      rw [ins]
      by_cases j1 : j < at_
      · rw [if_pos j1]; exact Or.inl ⟨j, by omega, rfl⟩
      · rw [if_neg j1]
        by_cases j2 : j = at_
        · rw [if_pos j2]; exact Or.inr rfl
        · rw [if_neg j2, if_pos (by omega)]
          exact Or.inl ⟨j - 1, by omega, rfl⟩
  · intro c hc
    rw [List.mem_append, List.mem_singleton] at hc
    rcases hc with hc | rfl
    · exact hb c hc
    · exact hcode
  · intro j
    rw [ins]
    have := hg j
    have := hg (j - 1)
    split
    · assumption
    · split
      · omega
      · split <;> assumption
theorem TabL.insert {F ord cnt code : Nat} (hF : 126 < F) (hord : ord < 2) {l : List Nat} {cg kg : Nat → Nat} (h : TabL ord l cnt cg kg) (hcode : code < 2 ^ 32) (hnew : code ∉ l) (hl : l.length < 126) :
    ∃ cg' kg', TabL ord (l ++ [code]) (cnt + 1) cg' kg' ∧ m_insert F (nI ord) (nI code) (nI cnt) (nF cg) (lF kg) = some (nI (cnt + 1), nF cg', lF kg') := by
  obtain ⟨at_, h1, h2, h3, h4⟩ := p_insert (cnt := cnt) hF hord hcode (by rw [h.1]; exact hl) cg kg h.2.2.2.2.2
  exact ⟨_, _, h.add hcode hnew h1 h2 h3, h4⟩
def mo (hi n v s : Nat) : Nat := if v < n then hi - s else 0
theorem mo_le (hi n v s : Nat) : mo hi n v s ≤ hi := by
  unfold mo
  split <;> omega
theorem mo_add {hi n v s t : Nat} (hs : s ≤ hi) (h : t ≤ mo hi n v s) : s + t ≤ hi := by
  unfold mo at h
  split at h <;> omega
theorem p_most {F hi n v s : Nat} (hs : s ≤ hi) (hh : hi ≤ 30) (hn : n ≤ 4) (hv : v < 4) : m_most F (nI hi) (nI n) (nI v) (nI s) = some (nI (mo hi n v s)) := by
  unfold m_most mo
  by_cases h : v < n
  · rw [if_neg (nI_ge h (by omega)), if_pos h, pk_sub hs]
  · rw [if_pos (nI_le (by omega) (by omega)), if_neg h]
    rfl
theorem cdN_lin (x y z w : Nat) : cdN x y z w = x * 16777216 + y * 65536 + z * 256 + w := by
  unfold cdN
  omega
theorem cd_w {c x y z w : Nat} (h : c < cdN x y z w) (hw : w ≤ 256) : c < cdN x y (z + 1) 0 := by
  rw [cdN_lin] at h ⊢
  refine Nat.lt_of_lt_of_le h ?_
  rw [Nat.succ_mul, Nat.add_zero, ← Nat.add_assoc]
  exact Nat.add_le_add_left hw _
theorem cd_z {c x y z : Nat} (h : c < cdN x y z 0) (hz : z ≤ 256) : c < cdN x (y + 1) 0 0 := by
  rw [cdN_lin] at h ⊢
  refine Nat.lt_of_lt_of_le h ?_
  rw [Nat.succ_mul, Nat.add_zero, Nat.zero_mul, Nat.add_zero, Nat.add_zero, ← Nat.add_assoc]
  exact Nat.add_le_add_left (Nat.le_trans (Nat.mul_le_mul_right 256 hz) (by decide)) _
theorem cd_y {c x y : Nat} (h : c < cdN x y 0 0) (hy : y ≤ 256) : c < cdN (x + 1) 0 0 0 := by
  rw [cdN_lin] at h ⊢
  refine Nat.lt_of_lt_of_le h ?_
  rw [Nat.succ_mul, Nat.zero_mul]
  simp only [Nat.add_zero]
  exact Nat.add_le_add_left (Nat.le_trans (Nat.mul_le_mul_right 65536 hy) (by decide)) _
theorem cd_mz {x y a b : Nat} (h : a ≤ b) : cdN x y a 0 ≤ cdN x y b 0 := by
  rw [cdN_lin, cdN_lin]
  exact Nat.add_le_add_right (Nat.add_le_add_left (Nat.mul_le_mul_right 256 h) _) _
theorem cd_my {x a b : Nat} (h : a ≤ b) : cdN x a 0 0 ≤ cdN x b 0 0 := by
  rw [cdN_lin, cdN_lin]
  exact Nat.add_le_add_right (Nat.add_le_add_right (Nat.add_le_add_left (Nat.mul_le_mul_right 65536 h) _) _) _
section LAY
variable {F ord hi n : Nat}
def LW (hi n x y z w d : Nat) : List Nat := (List.range' w d).map (cdN x y z)
def LZ (hi n x y z d : Nat) : List Nat := (List.range' z d).flatMap (fun z => LW hi n x y z 0 (mo hi n 3 (x + y + z) + 1))
def LY (hi n x y d : Nat) : List Nat := (List.range' y d).flatMap (fun y => LZ hi n x y 0 (mo hi n 2 (x + y) + 1))
def LX (hi n x d : Nat) : List Nat := (List.range' x d).flatMap (fun x => LY hi n x 0 (mo hi n 1 x + 1))
theorem LW_s (hi n x y z w d : Nat) : LW hi n x y z w (d + 1) = cdN x y z w :: LW hi n x y z (w + 1) d := by
  unfold LW
  rw [List.range'_succ, List.map_cons]
theorem LZ_s (hi n x y z d : Nat) : LZ hi n x y z (d + 1) = LW hi n x y z 0 (mo hi n 3 (x + y + z) + 1) ++ LZ hi n x y (z + 1) d := by
  unfold LZ
  rw [List.range'_succ, List.flatMap_cons]
theorem LY_s (hi n x y d : Nat) : LY hi n x y (d + 1) = LZ hi n x y 0 (mo hi n 2 (x + y) + 1) ++ LY hi n x (y + 1) d := by
  unfold LY
  rw [List.range'_succ, List.flatMap_cons]
theorem LX_s (hi n x d : Nat) : LX hi n x (d + 1) = LY hi n x 0 (mo hi n 1 x + 1) ++ LX hi n (x + 1) d := by
  unfold LX
  rw [List.range'_succ, List.flatMap_cons]
set_option maxRecDepth 100000 in
theorem LW_lt {hi n x y z w d c : Nat} (h : c ∈ LW hi n x y z w d) : cdN x y z w ≤ c ∧ c < cdN x y z (w + d) := by
  unfold LW at h
  rw [List.mem_map] at h
  obtain ⟨q, hq, rfl⟩ := h
  rw [List.mem_range'_1] at hq
  unfold cdN
  omega
set_option maxRecDepth 100000 in
theorem lay_w (hF : 200 < F) (hord : ord < 2) (hhi : hi ≤ 30) (hn : n ≤ 4) {k2 k12 k24} {x y z : Nat} (hs : x + y + z ≤ hi) : ∀ (d m w : Nat) (l : List Nat) (cnt : Nat) (cg kg : Nat → Nat), w + d = mo hi n 3 (x + y + z) + 1 → d < m → TabL ord l cnt cg kg → (∀ c ∈ l, c < cdN x y z w) → (l ++ LW hi n x y z w d).length ≤ 126 →
    ∃ cg' kg', TabL ord (l ++ LW hi n x y z w d) (l ++ LW hi n x y z w d).length cg' kg' ∧ b_layWithX_39 F (nI hi) (nI ord) (nI n) k2 k12 k24 m (nI x) (nI y) (nI z) (nI w) (nI cnt) (nF cg) (lF kg) = k24 (nI x) (nI y) (nI (z + 1)) (nI (l ++ LW hi n x y z w d).length) (nF cg') (lF kg') := by
  intro d
  induction d with
  | zero =>
    intro m w l cnt cg kg hw hm hT hlt hlen
    obtain ⟨m, rfl⟩ : ∃ q, m = q + 1 := ⟨m - 1, by omega⟩
    have e : l ++ LW hi n x y z w 0 = l := List.append_nil l
    rw [e]
    refine ⟨cg, kg, by rw [← hT.1]; exact hT, ?_⟩
    show s_layWithX_39 F (nI hi) (nI ord) (nI n) k2 k12 k24 _ (nI x) (nI y) (nI z) (nI w) (nI cnt) (nF cg) (lF kg) = _
    unfold s_layWithX_39
    have hmo := mo_le hi n 3 (x + y + z)
    rw [nI_add, nI_add, nlit 3, p_most hs hhi hn (by decide), bd1_n, if_pos (nI_lt (by omega) (by omega)), nlit 1, nI_add, hT.1]
  | succ d ih =>
    intro m w l cnt cg kg hw hm hT hlt hlen
    obtain ⟨m, rfl⟩ : ∃ q, m = q + 1 := ⟨m - 1, by omega⟩
    have hmo := mo_le hi n 3 (x + y + z)
    have hl1 : l.length + (d + 1) ≤ 126 := by
      have : (LW hi n x y z w (d + 1)).length = d + 1 := by unfold LW; rw [List.length_map, List.length_range']
      rw [List.length_append, this] at hlen
      exact hlen
    have hcode : cdN x y z w < 2 ^ 32 := by unfold cdN; omega
    obtain ⟨cg1, kg1, hT1, hrun⟩ := hT.insert (F := F) (by omega) hord hcode (fun h => Nat.lt_irrefl _ (hlt _ h)) (by omega)
    have e : l ++ LW hi n x y z w (d + 1) = (l ++ [cdN x y z w]) ++ LW hi n x y z (w + 1) d := by
      rw [LW_s, List.append_assoc]; rfl
    obtain ⟨cg2, kg2, hT2, hrun2⟩ := ih m (w + 1) (l ++ [cdN x y z w]) (cnt + 1) cg1 kg1 (by omega) (by omega) hT1 (fun c hc => by
      rw [List.mem_append, List.mem_singleton] at hc
      have e2 : cdN x y z (w + 1) = cdN x y z w + 1 := by rw [cdN_lin, cdN_lin]; omega
      rcases hc with hc | rfl
      · have := hlt c hc
        omega
      · omega) (by rw [← e]; exact hlen)
    rw [e]
    refine ⟨cg2, kg2, hT2, ?_⟩
    rw [← hrun2]
    show s_layWithX_39 F (nI hi) (nI ord) (nI n) k2 k12 k24 _ (nI x) (nI y) (nI z) (nI w) (nI cnt) (nF cg) (lF kg) = _
    unfold s_layWithX_39
    rw [p_code (by omega) (by omega) (by omega) (by omega), hrun, nI_add, nI_add, nlit 3, p_most hs hhi hn (by decide), bd1_n, if_neg (nI_nlt (by omega) (by omega)), nlit 1, nI_add w 1]
    rfl
set_option maxRecDepth 100000 in
theorem LZ_lt {hi n x y z d c : Nat} (hhi : hi ≤ 30) (h : c ∈ LZ hi n x y z d) : cdN x y z 0 ≤ c ∧ c < cdN x y (z + d) 0 := by
  unfold LZ at h
  rw [List.mem_flatMap] at h
  obtain ⟨q, hq, hc⟩ := h
  rw [List.mem_range'_1] at hq
  have h1 := LW_lt hc
  have h2 := mo_le hi n 3 (x + y + q)
  exact ⟨Nat.le_trans (cd_mz hq.1) h1.1, Nat.lt_of_lt_of_le (cd_w h1.2 (by omega)) (cd_mz (by omega))⟩
set_option maxRecDepth 100000 in
theorem lay_z (hF : 200 < F) (hord : ord < 2) (hhi : hi ≤ 30) (hn : n ≤ 4) {k2 k12} {x y : Nat} (hs : x + y ≤ hi) : ∀ (d m z : Nat) (l : List Nat) (cnt : Nat) (cg kg : Nat → Nat), z + d = mo hi n 2 (x + y) + 1 → d < m → TabL ord l cnt cg kg → (∀ c ∈ l, c < cdN x y z 0) → (l ++ LZ hi n x y z d).length ≤ 126 →
    ∃ cg' kg', TabL ord (l ++ LZ hi n x y z d) (l ++ LZ hi n x y z d).length cg' kg' ∧ b_layWithX_24 F (nI hi) (nI ord) (nI n) k2 k12 m (nI x) (nI y) (nI z) (nI cnt) (nF cg) (lF kg) = k12 (nI x) (nI (y + 1)) (nI (l ++ LZ hi n x y z d).length) (nF cg') (lF kg') := by
  intro d
  induction d with
  | zero =>
    intro m z l cnt cg kg hw hm hT hlt hlen
    obtain ⟨m, rfl⟩ : ∃ q, m = q + 1 := ⟨m - 1, by omega⟩
    have e : l ++ LZ hi n x y z 0 = l := List.append_nil l
    rw [e]
    refine ⟨cg, kg, by rw [← hT.1]; exact hT, ?_⟩
    show s_layWithX_24 F (nI hi) (nI ord) (nI n) k2 k12 _ (nI x) (nI y) (nI z) (nI cnt) (nF cg) (lF kg) = _
    unfold s_layWithX_24
    have hmo := mo_le hi n 2 (x + y)
    rw [nI_add, nlit 2, p_most hs hhi hn (by decide), bd1_n, if_pos (nI_lt (by omega) (by omega)), nlit 1, nI_add, hT.1]
  | succ d ih =>
    intro m z l cnt cg kg hw hm hT hlt hlen
    obtain ⟨m, rfl⟩ : ∃ q, m = q + 1 := ⟨m - 1, by omega⟩
    have hmo := mo_le hi n 2 (x + y)
    have hsz := mo_add hs (show z ≤ mo hi n 2 (x + y) by omega)
    have hmw := mo_le hi n 3 (x + y + z)
    have e : l ++ LZ hi n x y z (d + 1) = (l ++ LW hi n x y z 0 (mo hi n 3 (x + y + z) + 1)) ++ LZ hi n x y (z + 1) d := by
      rw [LZ_s, List.append_assoc]
    rw [e] at hlen ⊢
    have hlen1 : (l ++ LW hi n x y z 0 (mo hi n 3 (x + y + z) + 1)).length ≤ 126 := by
      rw [List.length_append] at hlen; omega
    obtain ⟨cg1, kg1, hT1, hrun⟩ := lay_w (k2 := k2) (k12 := k12) (k24 := b_layWithX_24 F (nI hi) (nI ord) (nI n) k2 k12 m) hF hord hhi hn hsz (mo hi n 3 (x + y + z) + 1) F 0 l cnt cg kg (by omega) (by omega) hT hlt hlen1
    obtain ⟨cg2, kg2, hT2, hrun2⟩ := ih m (z + 1) _ _ cg1 kg1 (by omega) (by omega) hT1 (fun c hc => by
      rw [List.mem_append] at hc
      rcases hc with hc | hc
      · exact cd_w (hlt c hc) (by omega)
      · exact cd_w (LW_lt hc).2 (by omega)) hlen
    refine ⟨cg2, kg2, hT2, ?_⟩
    rw [← hrun2, ← hrun]
    show s_layWithX_24 F (nI hi) (nI ord) (nI n) k2 k12 _ (nI x) (nI y) (nI z) (nI cnt) (nF cg) (lF kg) = _
    unfold s_layWithX_24
    rw [nI_add, nlit 2, p_most hs hhi hn (by decide), bd1_n, if_neg (nI_nlt (by omega) (by omega)), nlit 0]
    rfl
set_option maxRecDepth 100000 in
theorem LY_lt {hi n x y d c : Nat} (hhi : hi ≤ 30) (h : c ∈ LY hi n x y d) : cdN x y 0 0 ≤ c ∧ c < cdN x (y + d) 0 0 := by
  unfold LY at h
  rw [List.mem_flatMap] at h
  obtain ⟨q, hq, hc⟩ := h
  rw [List.mem_range'_1] at hq
  have h1 := LZ_lt hhi hc
  have h2 := mo_le hi n 2 (x + q)
  exact ⟨Nat.le_trans (cd_my hq.1) h1.1, Nat.lt_of_lt_of_le (cd_z h1.2 (by omega)) (cd_my (by omega))⟩
set_option maxRecDepth 100000 in
theorem lay_y (hF : 200 < F) (hord : ord < 2) (hhi : hi ≤ 30) (hn : n ≤ 4) {k2} {x : Nat} (hs : x ≤ hi) : ∀ (d m y : Nat) (l : List Nat) (cnt : Nat) (cg kg : Nat → Nat), y + d = mo hi n 1 x + 1 → d < m → TabL ord l cnt cg kg → (∀ c ∈ l, c < cdN x y 0 0) → (l ++ LY hi n x y d).length ≤ 126 →
    ∃ cg' kg', TabL ord (l ++ LY hi n x y d) (l ++ LY hi n x y d).length cg' kg' ∧ b_layWithX_12 F (nI hi) (nI ord) (nI n) k2 m (nI x) (nI y) (nI cnt) (nF cg) (lF kg) = k2 (nI (x + 1)) (nI (l ++ LY hi n x y d).length) (nF cg') (lF kg') := by
  intro d
  induction d with
  | zero =>
    intro m y l cnt cg kg hw hm hT hlt hlen
    obtain ⟨m, rfl⟩ : ∃ q, m = q + 1 := ⟨m - 1, by omega⟩
    have e : l ++ LY hi n x y 0 = l := List.append_nil l
    rw [e]
    refine ⟨cg, kg, by rw [← hT.1]; exact hT, ?_⟩
    show s_layWithX_12 F (nI hi) (nI ord) (nI n) k2 _ (nI x) (nI y) (nI cnt) (nF cg) (lF kg) = _
    unfold s_layWithX_12
    have hmo := mo_le hi n 1 x
    rw [nlit 1, p_most hs hhi hn (by decide), bd1_n, if_pos (nI_lt (by omega) (by omega)), nI_add, hT.1]
  | succ d ih =>
    intro m y l cnt cg kg hw hm hT hlt hlen
    obtain ⟨m, rfl⟩ : ∃ q, m = q + 1 := ⟨m - 1, by omega⟩
    have hmo := mo_le hi n 1 x
    have hsz := mo_add hs (show y ≤ mo hi n 1 x by omega)
    have hmw := mo_le hi n 2 (x + y)
    have e : l ++ LY hi n x y (d + 1) = (l ++ LZ hi n x y 0 (mo hi n 2 (x + y) + 1)) ++ LY hi n x (y + 1) d := by
      rw [LY_s, List.append_assoc]
    rw [e] at hlen ⊢
    have hlen1 : (l ++ LZ hi n x y 0 (mo hi n 2 (x + y) + 1)).length ≤ 126 := by
      rw [List.length_append] at hlen; omega
    obtain ⟨cg1, kg1, hT1, hrun⟩ := lay_z (k2 := k2) (k12 := b_layWithX_12 F (nI hi) (nI ord) (nI n) k2 m) hF hord hhi hn hsz (mo hi n 2 (x + y) + 1) F 0 l cnt cg kg (by omega) (by omega) hT hlt hlen1
    obtain ⟨cg2, kg2, hT2, hrun2⟩ := ih m (y + 1) _ _ cg1 kg1 (by omega) (by omega) hT1 (fun c hc => by
      rw [List.mem_append] at hc
      rcases hc with hc | hc
      · exact cd_z (cd_w (Nat.lt_of_lt_of_le (hlt c hc) (Nat.le_refl _)) (by omega)) (by omega)
      · exact cd_z (LZ_lt hhi hc).2 (by omega)) hlen
    refine ⟨cg2, kg2, hT2, ?_⟩
    rw [← hrun2, ← hrun]
    show s_layWithX_12 F (nI hi) (nI ord) (nI n) k2 _ (nI x) (nI y) (nI cnt) (nF cg) (lF kg) = _
    unfold s_layWithX_12
    rw [nlit 1, p_most hs hhi hn (by decide), bd1_n, if_neg (nI_nlt (by omega) (by omega)), nlit 0]
    rfl
set_option maxRecDepth 100000 in
theorem lay_x (hF : 200 < F) (hord : ord < 2) (hhi : hi ≤ 30) (hn : n ≤ 4) : ∀ (d m x : Nat) (l : List Nat) (cnt : Nat) (cg kg : Nat → Nat), x + d = hi + 1 → d < m → TabL ord l cnt cg kg → (∀ c ∈ l, c < cdN x 0 0 0) → (l ++ LX hi n x d).length ≤ 126 →
    ∃ cg' kg', TabL ord (l ++ LX hi n x d) (l ++ LX hi n x d).length cg' kg' ∧ b_layWithX_2 F (nI hi) (nI ord) (nI n) m (nI x) (nI cnt) (nF cg) (lF kg) = some (nI (l ++ LX hi n x d).length, nF cg', lF kg') := by
  intro d
  induction d with
  | zero =>
    intro m x l cnt cg kg hw hm hT hlt hlen
    obtain ⟨m, rfl⟩ : ∃ q, m = q + 1 := ⟨m - 1, by omega⟩
    have e : l ++ LX hi n x 0 = l := List.append_nil l
    rw [e]
    refine ⟨cg, kg, by rw [← hT.1]; exact hT, ?_⟩
    show s_layWithX_2 F (nI hi) (nI ord) (nI n) _ (nI x) (nI cnt) (nF cg) (lF kg) = _
    unfold s_layWithX_2
    rw [if_pos (nI_lt (by omega) (by omega)), hT.1]
  | succ d ih =>
    intro m x l cnt cg kg hw hm hT hlt hlen
    obtain ⟨m, rfl⟩ : ∃ q, m = q + 1 := ⟨m - 1, by omega⟩
    have hmw := mo_le hi n 1 x
    have e : l ++ LX hi n x (d + 1) = (l ++ LY hi n x 0 (mo hi n 1 x + 1)) ++ LX hi n (x + 1) d := by
      rw [LX_s, List.append_assoc]
    rw [e] at hlen ⊢
    have hlen1 : (l ++ LY hi n x 0 (mo hi n 1 x + 1)).length ≤ 126 := by
      rw [List.length_append] at hlen; omega
    obtain ⟨cg1, kg1, hT1, hrun⟩ := lay_y (k2 := b_layWithX_2 F (nI hi) (nI ord) (nI n) m) hF hord hhi hn (show x ≤ hi by omega) (mo hi n 1 x + 1) F 0 l cnt cg kg (by omega) (by omega) hT hlt hlen1
    obtain ⟨cg2, kg2, hT2, hrun2⟩ := ih m (x + 1) _ _ cg1 kg1 (by omega) (by omega) hT1 (fun c hc => by
      rw [List.mem_append] at hc
      rcases hc with hc | hc
      · exact cd_y (cd_z (hlt c hc) (by omega)) (by omega)
      · exact cd_y (LY_lt hhi hc).2 (by omega)) hlen
    refine ⟨cg2, kg2, hT2, ?_⟩
    rw [← hrun2, ← hrun]
    show s_layWithX_2 F (nI hi) (nI ord) (nI n) _ (nI x) (nI cnt) (nF cg) (lF kg) = _
    unfold s_layWithX_2
    rw [if_neg (nI_nlt (by omega) (by omega)), nlit 0]
    rfl
end LAY
