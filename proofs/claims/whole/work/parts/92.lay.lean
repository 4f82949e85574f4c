/-! THE CLASS'S TABLE: lay. -/
def hiN (n : Nat) : Nat := if n = 1 then 30 else if n = 2 then 12 else if n = 3 then 7 else 5
theorem hiN_le (n : Nat) : hiN n ≤ 30 := by
  unfold hiN
  split
  · omega
  · split
    · omega
    · split <;> omega
/-- the codes of a table of n variables -/
def inT (n c : Nat) : Prop := c < 2 ^ 32 ∧ degN c ≤ hiN n ∧ ∀ v, n ≤ v → v < 4 → exN c v = 0
theorem mo_0 {hi n v s : Nat} (h : n ≤ v) : mo hi n v s = 0 := by
  unfold mo
  rw [if_neg (by omega)]
theorem mo_1 {hi n v s : Nat} (h : v < n) : mo hi n v s = hi - s := by
  unfold mo
  rw [if_pos h]
theorem cdN_lt {x y z w : Nat} (hx : x < 256) (hy : y < 256) (hz : z < 256) (hw : w < 256) : cdN x y z w < 2 ^ 32 := by
  unfold cdN
  omega
theorem mem_LX {n c : Nat} (h1 : 1 ≤ n) (h4 : n ≤ 4) : c ∈ LX (hiN n) n 0 (hiN n + 1) ↔ inT n c := by
  have hh := hiN_le n
  unfold LX LY LZ LW inT
  simp only [List.mem_flatMap, List.mem_map, List.mem_range'_1]
  constructor
  · rintro ⟨x, ⟨_, hx⟩, y, ⟨_, hy⟩, z, ⟨_, hz⟩, w, ⟨_, hw⟩, rfl⟩
    have b1 := mo_add (hi := hiN n) (n := n) (v := 1) (s := x) (t := y) (by omega) (by omega)
    have b2 := mo_add (hi := hiN n) (n := n) (v := 2) (s := x + y) (t := z) (by omega) (by omega)
    have b3 := mo_add (hi := hiN n) (n := n) (v := 3) (s := x + y + z) (t := w) (by omega) (by omega)
    obtain ⟨e0, e1, e2, e3⟩ := cdN_ex (x := x) (y := y) (z := z) (w := w) (by omega) (by omega) (by omega) (by omega)
    refine ⟨cdN_lt (by omega) (by omega) (by omega) (by omega), ?_, fun v hv hv4 => ?_⟩
    · unfold degN
      rw [e0, e1, e2, e3]
      exact b3
    · rcases (show v = 1 ∨ v = 2 ∨ v = 3 by omega) with rfl | rfl | rfl
      · have := mo_0 (hi := hiN n) (s := x) hv
        rw [e1]; omega
      · have := mo_0 (hi := hiN n) (s := x + y) hv
        rw [e2]; omega
      · have := mo_0 (hi := hiN n) (s := x + y + z) hv
        rw [e3]; omega
  · rintro ⟨hc, hd, hz⟩
    unfold degN at hd
    refine ⟨exN c 0, ⟨by omega, by omega⟩, exN c 1, ⟨by omega, ?_⟩, exN c 2, ⟨by omega, ?_⟩, exN c 3, ⟨by omega, ?_⟩, (ex_cdN hc).symm⟩
    · by_cases q : 1 < n
      · rw [mo_1 q]; omega
      · rw [hz 1 (by omega) (by decide)]; omega
    · by_cases q : 2 < n
      · rw [mo_1 q]; omega
      · rw [hz 2 (by omega) (by decide)]; omega
    · by_cases q : 3 < n
      · rw [mo_1 q]; omega
      · rw [hz 3 (by omega) (by decide)]; omega
def ctN (n : Nat) : Nat := (LX (hiN n) n 0 (hiN n + 1)).length
theorem ctN_le {n : Nat} (h1 : 1 ≤ n) (h4 : n ≤ 4) : ctN n ≤ 126 := by
  rcases (show n = 1 ∨ n = 2 ∨ n = 3 ∨ n = 4 by omega) with rfl | rfl | rfl | rfl <;> decide +kernel
/-- the table of n variables by order ord -/
def Tab (n ord : Nat) (cg kg : Nat → Nat) : Prop := TabL ord (LX (hiN n) n 0 (hiN n + 1)) (ctN n) cg kg
section TAB
variable {n ord : Nat} {cg kg : Nat → Nat}
theorem Tab.mem (h : Tab n ord cg kg) (h1 : 1 ≤ n) (h4 : n ≤ 4) {c : Nat} : inT n c ↔ ∃ j, j < ctN n ∧ cg j = c := by
  rw [← mem_LX h1 h4]
  exact h.2.2.2.1 c
theorem Tab.inT (h : Tab n ord cg kg) (h1 : 1 ≤ n) (h4 : n ≤ 4) {j : Nat} (hj : j < ctN n) : inT n (cg j) := (h.mem h1 h4).mpr ⟨j, hj, rfl⟩
theorem Tab.inj (h : Tab n ord cg kg) {i j : Nat} (hi : i < ctN n) (hj : j < ctN n) (e : cg i = cg j) : i = j := by
  obtain ⟨_, hs, hk, _⟩ := h
  rcases Nat.lt_or_ge i j with q | q
  · have := hs i j q hj
    rw [hk i hi, hk j hj, e] at this
    omega
  · rcases Nat.eq_or_lt_of_le q with q | q
    · exact q.symm
    · have := hs j i q hi
      rw [hk i hi, hk j hj, e] at this
      omega
theorem Tab.lt_iff (h : Tab n ord cg kg) {i j : Nat} (hi : i < ctN n) (hj : j < ctN n) : keyN ord (cg i) < keyN ord (cg j) ↔ i < j := by
  obtain ⟨_, hs, hk, _⟩ := h
  rw [← hk i hi, ← hk j hj]
  constructor
  · intro q
    rcases Nat.lt_or_ge i j with z | z
    · exact z
    · rcases Nat.eq_or_lt_of_le z with z | z
      · rw [z] at q; omega
      · have := hs j i z hi
        omega
  · intro q; exact hs i j q hj
end TAB
/-- the place of a code in the table, or 126 -/
def rkN (cg : Nat → Nat) (c : Nat) : Nat → Nat
  | 0 => 126
  | n + 1 => if cg n = c then n else rkN cg c n
theorem rkN_cases (cg : Nat → Nat) (c : Nat) : ∀ n, (rkN cg c n < n ∧ cg (rkN cg c n) = c) ∨ (rkN cg c n = 126 ∧ ∀ j, j < n → cg j ≠ c) := by
  intro n
  induction n with
  | zero => exact Or.inr ⟨rfl, fun j hj => by omega⟩
  | succ n ih =>
    unfold rkN
    by_cases h : cg n = c
    · rw [if_pos h]; exact Or.inl ⟨by omega, h⟩
    · rw [if_neg h]
      rcases ih with ⟨a, b⟩ | ⟨a, b⟩
      · exact Or.inl ⟨by omega, b⟩
      · refine Or.inr ⟨a, fun j hj => ?_⟩
        by_cases e : j = n
        · rw [e]; exact h
        · exact b j (by omega)
def rkI (cg : Nat → Nat) (cnt c : Nat) : Int32 := if rkN cg c cnt < cnt then nI (rkN cg c cnt) else -1
theorem rkN_at {n ord : Nat} {cg kg : Nat → Nat} (h : Tab n ord cg kg) {j c : Nat} (hj : j < ctN n) (e : cg j = c) : rkN cg c (ctN n) = j := by
  rcases rkN_cases cg c (ctN n) with ⟨a, b⟩ | ⟨_, b⟩
  · exact h.inj a hj (by rw [b, e])
  · exact absurd e (b j hj)
theorem rkI_at {n ord : Nat} {cg kg : Nat → Nat} (h : Tab n ord cg kg) {j c : Nat} (hj : j < ctN n) (e : cg j = c) : rkI cg (ctN n) c = nI j := by
  unfold rkI
  rw [rkN_at h hj e, if_pos hj]
theorem rkI_no {n c : Nat} {cg : Nat → Nat} (hn : ctN n ≤ 126) (h : ∀ j, j < ctN n → cg j ≠ c) : rkI cg (ctN n) c = -1 := by
  unfold rkI
  rcases rkN_cases cg c (ctN n) with ⟨a, b⟩ | ⟨a, _⟩
  · exact absurd b (h _ a)
  · rw [a, if_neg (by omega)]
theorem p_rankT {F n ord code : Nat} (hF : 126 < F) (h1 : 1 ≤ n) (h4 : n ≤ 4) (hord : ord < 2) {cg kg : Nat → Nat} (h : Tab n ord cg kg) (hcode : code < 2 ^ 32) :
    m_rank F (nI (ctN n)) (nI ord) (lF kg) (nI code) = some (rkI cg (ctN n) code) := by
  have hb : ∀ j, j < ctN n → cg j < 2 ^ 32 := fun j hj => (h.inT h1 h4 hj).1
  rcases p_rank hF hord hcode (ctN_le h1 h4) kg h.2.2.2.2.2 h.2.1 with ⟨j, a, b, e⟩ | ⟨a, e⟩
  · rw [e, rkI_at h a]
    rw [h.2.2.1 j a] at b
    exact keyN_inj (hb j a) hcode b
  · rw [e, rkI_no (ctN_le h1 h4)]
    intro j hj q
    exact a j hj (by rw [h.2.2.1 j hj, q])
theorem p_lay58 {F n ord i : Nat} (hF : 126 < F) (h1 : 1 ≤ n) (h4 : n ≤ 4) (hord : ord < 2) {cg kg : Nat → Nat} (h : Tab n ord cg kg) (hi : i < ctN n) {k32} {H : Int32} {dgs : Nat → Int32} :
    ∀ (d m v : Nat) (rs : Nat → Int32), v + d = n → d < m → ∃ rs', b_lay_58 F k32 m (nI i) (nI v) (nI (ctN n)) H (nI ord) (nI n) (nF cg) dgs (lF kg) rs = k32 (nI (i + 1)) (nI (ctN n)) H (nI ord) (nI n) (nF cg) dgs (lF kg) rs' ∧
      (∀ u, v ≤ u → u < n → rs' (u * 126 + i) = rkI cg (ctN n) (cg i + 2 ^ (24 - 8 * u))) ∧ ∀ q, (∀ u, v ≤ u → u < n → q ≠ u * 126 + i) → rs' q = rs q := by
  have hct := ctN_le h1 h4
  have hcb : cg i + 2 ^ 24 < 2 ^ 32 := by
    obtain ⟨a, b, _⟩ := h.inT h1 h4 hi
    have := hiN_le n
    rw [ex_cdN a, cdN_lin]
    have := exN_lt (cg i) 1
    have := exN_lt (cg i) 2
    have := exN_lt (cg i) 3
    unfold degN at b
    omega
  intro d
  induction d with
  | zero =>
    intro m v rs hv hm
    obtain ⟨m, rfl⟩ : ∃ q, m = q + 1 := ⟨m - 1, by omega⟩
    refine ⟨rs, ?_, fun u _ _ => by omega, fun _ _ => rfl⟩
    show s_lay_58 F k32 (b_lay_58 F k32 m) (nI i) (nI v) (nI (ctN n)) H (nI ord) (nI n) (nF cg) dgs (lF kg) rs = _
    unfold s_lay_58
    rw [if_pos (nI_le (by omega) (by omega)), show nI i + 1 = nI (i + 1) from nI_add i 1]
  | succ d ih =>
    intro m v rs hv hm
    obtain ⟨m, rfl⟩ : ∃ q, m = q + 1 := ⟨m - 1, by omega⟩
    have hpw : 2 ^ (24 - 8 * v) ≤ 2 ^ 24 := Nat.pow_le_pow_right (by decide) (by omega)
    obtain ⟨rs', a, b, c⟩ := ih m (v + 1) (upd rs (v * 126 + i) (rkI cg (ctN n) (cg i + 2 ^ (24 - 8 * v)))) (by omega) (by omega)
    refine ⟨rs', ?_, fun u hu hun => ?_, fun q hq => ?_⟩
    · show s_lay_58 F k32 (b_lay_58 F k32 m) (nI i) (nI v) (nI (ctN n)) H (nI ord) (nI n) (nF cg) dgs (lF kg) rs = _
      unfold s_lay_58
      rw [if_neg (nI_ge (by omega) (by omega)), rdI_n (by omega) (by decide), p_variable F (by omega), bd1_n]
      show bd1 (m_rank F (nI (ctN n)) (nI ord) (lF kg) (nI (cg i) + nI (2 ^ (24 - 8 * v)))) _ = _
      rw [nI_add, p_rankT hF h1 h4 hord h (by omega), bd1_n, nlit 126, pk_mul, nI_add, wrI_n (by omega) (by decide), show nI v + 1 = nI (v + 1) from nI_add v 1, a]
    · by_cases e : u = v
      · rw [e, c _ (fun w hw hwn q => by omega)]
        unfold upd
        rw [if_pos rfl]
      · exact b u (by omega) hun
    · rw [c q (fun u hu hun => hq u (by omega) hun)]
      unfold upd
      rw [if_neg (hq v (Nat.le_refl _) (by omega))]
theorem p_lay32 {F n ord : Nat} (hF : 126 < F) (h1 : 1 ≤ n) (h4 : n ≤ 4) (hord : ord < 2) {cg kg : Nat → Nat} (h : Tab n ord cg kg) {H : Int32} :
    ∀ (d m i : Nat) (dgs rs : Nat → Int32), i + d = ctN n → d < m → (∀ q, q < i → dgs q = nI (degN (cg q))) → (∀ u q, u < n → q < i → rs (u * 126 + q) = rkI cg (ctN n) (cg q + 2 ^ (24 - 8 * u))) →
      ∃ dgs' rs', b_lay_32 F m (nI i) (nI (ctN n)) H (nI ord) (nI n) (nF cg) dgs (lF kg) rs = some (nI (ctN n), H, nI ord, nI n, nF cg, dgs', lF kg, rs') ∧
        (∀ q, q < ctN n → dgs' q = nI (degN (cg q))) ∧ (∀ u q, u < n → q < ctN n → rs' (u * 126 + q) = rkI cg (ctN n) (cg q + 2 ^ (24 - 8 * u))) := by
  have hct := ctN_le h1 h4
  intro d
  induction d with
  | zero =>
    intro m i dgs rs hi hm hd hr
    obtain ⟨m, rfl⟩ : ∃ q, m = q + 1 := ⟨m - 1, by omega⟩
    refine ⟨dgs, rs, ?_, fun q hq => hd q (by omega), fun u q hu hq => hr u q hu (by omega)⟩
    show s_lay_32 F (b_lay_32 F m) (nI i) (nI (ctN n)) H (nI ord) (nI n) (nF cg) dgs (lF kg) rs = _
    unfold s_lay_32
    rw [if_pos (nI_le (by omega) (by omega))]
  | succ d ih =>
    intro m i dgs rs hi hm hd hr
    obtain ⟨m, rfl⟩ : ∃ q, m = q + 1 := ⟨m - 1, by omega⟩
    obtain ⟨rs1, a1, a2, a3⟩ := p_lay58 hF h1 h4 hord h (show i < ctN n by omega) (k32 := b_lay_32 F m) (H := H) (dgs := upd dgs i (nI (degN (cg i)))) n F 0 rs (by omega) (by omega)
    have step : b_lay_32 F (m + 1) (nI i) (nI (ctN n)) H (nI ord) (nI n) (nF cg) dgs (lF kg) rs = b_lay_32 F m (nI (i + 1)) (nI (ctN n)) H (nI ord) (nI n) (nF cg) (upd dgs i (nI (degN (cg i)))) (lF kg) rs1 := by
      show s_lay_32 F (b_lay_32 F m) (nI i) (nI (ctN n)) H (nI ord) (nI n) (nF cg) dgs (lF kg) rs = _
      unfold s_lay_32
      rw [if_neg (nI_ge (by omega) (by omega)), rdI_n (by omega) (by decide)]
      show bd1 (m_degree F (nI (cg i))) _ = _
      rw [p_degree F (h.inT h1 h4 (by omega)).1, bd1_n, wrI_n (by omega) (by decide)]
      exact a1
    rw [step]
    refine ih m (i + 1) _ _ (by omega) (by omega) (fun q hq => ?_) (fun u q hu hq => ?_)
    · unfold upd
      by_cases e : q = i
      · rw [if_pos e, e]
      · rw [if_neg e]; exact hd q (by omega)
    · by_cases e : q = i
      · rw [e]; exact a2 u (by omega) hu
      · rw [a3 _ (fun w _ _ z => by omega)]
        exact hr u q hu (by omega)
/-- what lay makes: the table, the degrees, and where the products are -/
def Laid (n ord : Nat) (cg kg : Nat → Nat) (dgs rs : Nat → Int32) : Prop :=
  Tab n ord cg kg ∧ (∀ q, q < ctN n → dgs q = nI (degN (cg q))) ∧ ∀ u q, u < n → q < ctN n → rs (u * 126 + q) = rkI cg (ctN n) (cg q + 2 ^ (24 - 8 * u))
theorem p_lay {F n ord : Nat} (hF : 200 < F) (h1 : 1 ≤ n) (h4 : n ≤ 4) (hord : ord < 2) (cg kg : Nat → Nat) (hkg : ∀ j, kg j < 2 ^ 63) (dgs rs : Nat → Int32) (c0 hi0 o0 v0 : Int32) :
    ∃ cg' kg' dgs' rs', m_lay F (nI n) (nI ord) c0 hi0 o0 v0 (nF cg) dgs (lF kg) rs = some (nI (ctN n), nI (hiN n), nI ord, nI n, nF cg', dgs', lF kg', rs') ∧ Laid n ord cg' kg' dgs' rs' := by
  have hT : TabL ord [] 0 cg kg := ⟨rfl, fun i j _ h => by omega, fun j h => by omega, fun c => ⟨fun h => absurd h List.not_mem_nil, fun ⟨j, h, _⟩ => absurd h (Nat.not_lt_zero _)⟩, fun c h => absurd h List.not_mem_nil, hkg⟩
  have hh := hiN_le n
  obtain ⟨cg1, kg1, a1, a2⟩ := lay_x (hi := hiN n) (n := n) hF hord hh h4 (hiN n + 1) F 0 [] 0 cg kg (by omega) (by omega) hT (fun c h => absurd h List.not_mem_nil) (by rw [List.nil_append]; exact ctN_le h1 h4)
  rw [List.nil_append] at a1 a2
  obtain ⟨dgs', rs', b1, b2, b3⟩ := p_lay32 (F := F) (H := nI (hiN n)) (by omega) h1 h4 hord (show Tab n ord cg1 kg1 from a1) (ctN n) F 0 dgs rs (by omega) (by have := ctN_le h1 h4; omega) (fun q h => by omega) (fun u q _ h => by omega)
  refine ⟨cg1, kg1, dgs', rs', ?_, a1, b2, b3⟩
  unfold m_lay
  have e : nI n - 1 = nI (n - 1) := pk_sub h1
  have e2 : HIGHEST_tab (n - 1) = nI (hiN n) := by
    rcases (show n = 1 ∨ n = 2 ∨ n = 3 ∨ n = 4 by omega) with rfl | rfl | rfl | rfl <;> rfl
  rw [e, rdI_n (by omega) (by decide), e2]
  show bd3 (b_layWithX_2 F (nI (hiN n)) (nI ord) (nI n) F (nI 0) (nI 0) (nF cg) (lF kg)) _ = _
  rw [a2]
  exact b1
