/-! THE REFERENCE'S TABLE: fresh, whole. -/
theorem mem_ZX {n c : Nat} (h1 : 1 ≤ n) (h4 : n ≤ 4) : c ∈ ZX (hiN n) n 0 (hiN n + 1) ↔ inT n c := by
  have hh := hiN_le n
  unfold ZX ZY ZZ ZW inT
  simp only [List.mem_flatMap, List.mem_map, List.mem_filter, List.mem_range'_1, decide_eq_true_eq]
  constructor
  · rintro ⟨x, ⟨_, hx⟩, y, ⟨_, hy⟩, z, ⟨_, hz⟩, w, ⟨⟨_, hw⟩, hs⟩, rfl⟩
    have b1 := bh_le (hiN n) n 1
    have b2 := bh_le (hiN n) n 2
    have b3 := bh_le (hiN n) n 3
    obtain ⟨e0, e1, e2, e3⟩ := cdN_ex (x := x) (y := y) (z := z) (w := w) (by omega) (by omega) (by omega) (by omega)
    refine ⟨cdN_lt (by omega) (by omega) (by omega) (by omega), ?_, fun v hv hv4 => ?_⟩
    · unfold degN
      rw [e0, e1, e2, e3]
      exact hs
    · have hb : bh (hiN n) n v = 0 := by unfold bh; rw [if_neg (by omega)]
      rcases (show v = 1 ∨ v = 2 ∨ v = 3 by omega) with rfl | rfl | rfl
      · rw [e1]; omega
      · rw [e2]; omega
      · rw [e3]; omega
  · rintro ⟨hc, hd, hz⟩
    unfold degN at hd
    have hb : ∀ v, v < 4 → exN c v ≤ hiN n → exN c v < 0 + (bh (hiN n) n v + 1) := by
      intro v hv hl
      unfold bh
      by_cases q : v < n
      · rw [if_pos q]; omega
      · rw [if_neg q, hz v (by omega) hv]; omega
    exact ⟨exN c 0, ⟨by omega, by omega⟩, exN c 1, ⟨by omega, hb 1 (by decide) (by omega)⟩, exN c 2, ⟨by omega, hb 2 (by decide) (by omega)⟩, exN c 3, ⟨⟨by omega, hb 3 (by decide) (by omega)⟩, hd⟩, (ex_cdN hc).symm⟩
theorem ZX_len {n : Nat} (h1 : 1 ≤ n) (h4 : n ≤ 4) : (ZX (hiN n) n 0 (hiN n + 1)).length = ctN n := by
  rcases (show n = 1 ∨ n = 2 ∨ n = 3 ∨ n = 4 by omega) with rfl | rfl | rfl | rfl <;> decide +kernel
theorem Tab_ofZ {n ord : Nat} {cg kg : Nat → Nat} (h1 : 1 ≤ n) (h4 : n ≤ 4) (h : TabL ord (ZX (hiN n) n 0 (hiN n + 1)) (ZX (hiN n) n 0 (hiN n + 1)).length cg kg) : Tab n ord cg kg := by
  rw [ZX_len h1 h4] at h
  obtain ⟨a, b, c, d, e, f⟩ := h
  exact ⟨rfl, b, c, fun q => by rw [mem_LX h1 h4, ← mem_ZX h1 h4]; exact d q, fun q hq => e q ((mem_ZX h1 h4).mpr ((mem_LX h1 h4).mp hq)), f⟩
theorem Tab_uniq {n ord : Nat} {cg kg cg' kg' : Nat → Nat} (h : Tab n ord cg kg) (h' : Tab n ord cg' kg') : ∀ j, j < ctN n → cg j = cg' j := fun j hj => Tab_same h h' (fun _ => Iff.rfl) j hj hj
theorem p_zfresh_l {F n ord : Nat} (h1 : 1 ≤ n) (h4 : n ≤ 4) {cg kg : Nat → Nat} (h : Tab n ord cg kg) {gc pp : Int32} :
    ∀ (d m i : Nat) (dgs hd : Nat → Int32), i + d = ctN n → d < m → (∀ q, q < i → dgs q = nI (degN (cg q))) → (∀ q, q < i → hd q = 0) →
      ∃ dgs' hd', b_zfresh_177 F m (nI i) gc (nI (ctN n)) (nI n) (nI ord) pp (nF cg) dgs hd = some (gc, nI (ctN n), nI n, nI ord, pp, nF cg, dgs', hd') ∧
        (∀ q, q < ctN n → dgs' q = nI (degN (cg q))) ∧ (∀ q, q < ctN n → hd' q = 0) := by
  have hct := ctN_le h1 h4
  intro d
  induction d with
  | zero =>
    intro m i dgs hd hi hm h1 h2
    obtain ⟨m, rfl⟩ : ∃ q, m = q + 1 := ⟨m - 1, by omega⟩
    refine ⟨dgs, hd, ?_, fun q hq => h1 q (by omega), fun q hq => h2 q (by omega)⟩
    show s_zfresh_177 F (b_zfresh_177 F m) (nI i) gc (nI (ctN n)) (nI n) (nI ord) pp (nF cg) dgs hd = _
    unfold s_zfresh_177
    rw [if_pos (nI_le (by omega) (by omega))]
  | succ d ih =>
    intro m i dgs hd hi hm a1 a2
    obtain ⟨m, rfl⟩ : ∃ q, m = q + 1 := ⟨m - 1, by omega⟩
    have step : b_zfresh_177 F (m + 1) (nI i) gc (nI (ctN n)) (nI n) (nI ord) pp (nF cg) dgs hd = b_zfresh_177 F m (nI (i + 1)) gc (nI (ctN n)) (nI n) (nI ord) pp (nF cg) (upd dgs i (nI (degN (cg i)))) (upd hd i 0) := by
      show s_zfresh_177 F (b_zfresh_177 F m) (nI i) gc (nI (ctN n)) (nI n) (nI ord) pp (nF cg) dgs hd = _
      unfold s_zfresh_177
      rw [if_neg (nI_ge (by omega) (by omega)), rdI_n (by omega) (by decide)]
      show bd1 (m_zdegreeOf F (nI (cg i))) _ = _
      rw [p_zdegreeOf F (h.inT h1 h4 (by omega)).1, bd1_n, wrI_n (by omega) (by decide), wrI_n (by omega) (by decide), show nI i + 1 = nI (i + 1) from nI_add i 1]
    rw [step]
    refine ih m (i + 1) _ _ (by omega) (by omega) (fun q hq => ?_) (fun q hq => ?_)
    · unfold upd
      by_cases e : q = i
      · rw [if_pos e, e]
      · rw [if_neg e]; exact a1 q (by omega)
    · unfold upd
      by_cases e : q = i
      · rw [if_pos e]
      · rw [if_neg e]; exact a2 q (by omega)
theorem p_zfresh {F n ord : Nat} (hF : 200 < F) (h1 : 1 ≤ n) (h4 : n ≤ 4) (hord : ord < 2) (pp g0 m0 n0 o0 p0 : Int32) (mo_ dgs hd : Nat → Int32) :
    ∃ cg kg dgs' hd', m_zfresh F pp (nI n) (nI ord) g0 m0 n0 o0 p0 mo_ dgs hd = some (nI 0, nI (ctN n), nI n, nI ord, pp, nF cg, dgs', hd') ∧ Tab n ord cg kg ∧ (∀ q, q < ctN n → dgs' q = nI (degN (cg q))) ∧ (∀ q, q < ctN n → hd' q = 0) := by
  have hh := hiN_le n
  obtain ⟨cg0, hcg0⟩ : ∃ g : Nat → Nat, mo_ = nF g := ⟨fun j => (nI_of32 (mo_ j)).choose, funext fun j => (nI_of32 (mo_ j)).choose_spec.2⟩
  have hT : TabL ord [] 0 cg0 (fun _ => 0) := ⟨rfl, fun i j _ h => by omega, fun j h => by omega, fun c => ⟨fun h => absurd h List.not_mem_nil, fun ⟨j, h, _⟩ => absurd h (Nat.not_lt_zero _)⟩, fun c h => absurd h List.not_mem_nil, fun _ => (show (0 : Nat) < 2 ^ 63 by decide)⟩
  obtain ⟨cg1, kg1, a1, a2⟩ := fr_x (hi := hiN n) (n := n) (gc := nI 0) (pp := pp) (dga := dgs) (hda := hd) hF hord hh h4 (hiN n + 1) F 0 [] 0 cg0 (fun _ => 0) (by omega) (by omega) hT (fun c h => absurd h List.not_mem_nil) (by rw [List.nil_append, ZX_len h1 h4]; exact ctN_le h1 h4)
  rw [List.nil_append] at a1 a2
  have hTab := Tab_ofZ h1 h4 a1
  obtain ⟨dgs', hd', b1, b2, b3⟩ := p_zfresh_l (F := F) (gc := nI 0) (pp := pp) h1 h4 hTab (ctN n) F 0 dgs hd (by omega) (by have := ctN_le h1 h4; omega) (fun q h => by omega) (fun q h => by omega)
  refine ⟨cg1, kg1, dgs', hd', ?_, hTab, b2, b3⟩
  unfold m_zfresh
  have e : m_zhighest F (nI n) = some (nI (hiN n)) := by
    rcases (show n = 1 ∨ n = 2 ∨ n = 3 ∨ n = 4 by omega) with rfl | rfl | rfl | rfl <;> rfl
  rw [e, bd1_n, hcg0]
  rw [ZX_len h1 h4] at a2
  exact a2.trans b1
theorem p_zplaceOf_l {F n ord : Nat} (h1 : 1 ≤ n) (h4 : n ≤ 4) {cg kg : Nat → Nat} (h : Tab n ord cg kg) {c : Nat} (hc : c < 2 ^ 32) : ∀ (d m i : Nat), i + d = ctN n → d < m → (∀ j, j < i → cg j ≠ c) → b_zplaceOf_2 F (nI (ctN n)) (nF cg) m (nI c) (nI i) = some (rkI cg (ctN n) c) := by
  have hct := ctN_le h1 h4
  intro d
  induction d with
  | zero =>
    intro m i hi hm hno
    obtain ⟨m, rfl⟩ : ∃ q, m = q + 1 := ⟨m - 1, by omega⟩
    show s_zplaceOf_2 F (nI (ctN n)) (nF cg) (b_zplaceOf_2 F (nI (ctN n)) (nF cg) m) (nI c) (nI i) = _
    unfold s_zplaceOf_2
    rw [if_pos (nI_le (by omega) (by omega)), rkI_no hct (fun j hj => hno j (by omega))]
  | succ d ih =>
    intro m i hi hm hno
    obtain ⟨m, rfl⟩ : ∃ q, m = q + 1 := ⟨m - 1, by omega⟩
    show s_zplaceOf_2 F (nI (ctN n)) (nF cg) (b_zplaceOf_2 F (nI (ctN n)) (nF cg) m) (nI c) (nI i) = _
    unfold s_zplaceOf_2
    have hci := (h.inT h1 h4 (show i < ctN n by omega)).1
    rw [if_neg (nI_ge (by omega) (by omega)), rdI_n (by omega) (by decide), show nI i + 1 = nI (i + 1) from nI_add i 1]
    by_cases e : cg i = c
    · rw [if_pos (show nF cg i = nI c by show nI (cg i) = nI c; rw [e]), rkI_at h (by omega) e]
    · rw [if_neg (show ¬ nF cg i = nI c from fun q => e (nI_inj32 hci hc q))]
      refine ih m (i + 1) (by omega) (by omega) (fun j hj => ?_)
      by_cases q : j = i
      · rw [q]; exact e
      · exact hno j (by omega)
theorem p_zplaceOf {F n ord : Nat} (hF : 200 < F) (h1 : 1 ≤ n) (h4 : n ≤ 4) {cg kg : Nat → Nat} (h : Tab n ord cg kg) {c : Nat} (hc : c < 2 ^ 32) : m_zplaceOf F (nI (ctN n)) (nF cg) (nI c) = some (rkI cg (ctN n) c) := by
  have hct := ctN_le h1 h4
  exact p_zplaceOf_l h1 h4 h hc (ctN n) F 0 (by omega) (by omega) (fun j hj => by omega)
