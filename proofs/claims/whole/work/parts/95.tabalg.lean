/-! WHAT A VARIABLE DOES TO THE TABLE. -/
theorem exN_add {c v u : Nat} (hc : c < 2 ^ 32) (hv : v < 4) (hu : u < 4) (h : exN c v < 255) : exN (c + 2 ^ (24 - 8 * v)) u = exN c u + (if u = v then 1 else 0) := by
  unfold exN at *
  rcases (show v = 0 ∨ v = 1 ∨ v = 2 ∨ v = 3 by omega) with rfl | rfl | rfl | rfl <;> rcases (show u = 0 ∨ u = 1 ∨ u = 2 ∨ u = 3 by omega) with rfl | rfl | rfl | rfl <;> simp at h ⊢ <;> omega
theorem degN_add {c v : Nat} (hc : c < 2 ^ 32) (hv : v < 4) (h : exN c v < 255) : degN (c + 2 ^ (24 - 8 * v)) = degN c + 1 := by
  unfold degN
  rw [exN_add hc hv (by decide) h, exN_add hc hv (by decide) h, exN_add hc hv (by decide) h, exN_add hc hv (by decide) h]
  rcases (show v = 0 ∨ v = 1 ∨ v = 2 ∨ v = 3 by omega) with rfl | rfl | rfl | rfl <;> simp <;> omega
/-- how much the key grows with variable v -/
def kvN (ord v : Nat) : Nat := if ord = 0 then 4294967296 - 256 ^ v else 4294967296 + 256 ^ (3 - v)
set_option maxRecDepth 100000 in
theorem keyN_add {ord c v : Nat} (hc : c < 2 ^ 32) (hv : v < 4) (h : exN c v < 255) : keyN ord (c + 2 ^ (24 - 8 * v)) = keyN ord c + kvN ord v := by
  unfold keyN kvN dgN
  rw [degN_add hc hv h]
  have l0 := exN_lt c 0
  have l1 := exN_lt c 1
  have l2 := exN_lt c 2
  have l3 := exN_lt c 3
  by_cases q : ord = 0
  · simp only [if_pos q]
    rw [exN_add hc hv (by decide) h, exN_add hc hv (by decide) h, exN_add hc hv (by decide) h, exN_add hc hv (by decide) h]
    rcases (show v = 0 ∨ v = 1 ∨ v = 2 ∨ v = 3 by omega) with rfl | rfl | rfl | rfl <;> simp <;> omega
  · simp only [if_neg q]
    rw [exN_add hc hv (by decide) h, exN_add hc hv (by decide) h, exN_add hc hv (by decide) h, exN_add hc hv (by decide) h]
    rcases (show v = 0 ∨ v = 1 ∨ v = 2 ∨ v = 3 by omega) with rfl | rfl | rfl | rfl <;> simp <;> omega
theorem inT_ex {n c v : Nat} (h : inT n c) (hv : v < 4) : exN c v ≤ 30 := by
  have := h.2.1
  have := hiN_le n
  unfold degN at *
  rcases (show v = 0 ∨ v = 1 ∨ v = 2 ∨ v = 3 by omega) with rfl | rfl | rfl | rfl <;> omega
theorem inT_lt {n c : Nat} (h : inT n c) : c + 2 ^ 24 < 2 ^ 32 := by
  have a := inT_ex h (show 0 < 4 by decide)
  have := exN_lt c 1
  have := exN_lt c 2
  have := exN_lt c 3
  rw [ex_cdN h.1, cdN_lin]
  omega
theorem inT_lt' {n c : Nat} (h : inT n c) (v : Nat) : c + 2 ^ (24 - 8 * v) < 2 ^ 32 := by
  have := inT_lt h
  have : 2 ^ (24 - 8 * v) ≤ 2 ^ 24 := Nat.pow_le_pow_right (by decide) (by omega)
  omega
theorem inT_add {n c v : Nat} (h4 : n ≤ 4) (hv : v < n) (h : inT n c) : inT n (c + 2 ^ (24 - 8 * v)) ↔ degN c < hiN n := by
  have hx := inT_ex h (show v < 4 by omega)
  unfold inT
  rw [degN_add h.1 (by omega) (by omega)]
  constructor
  · rintro ⟨_, b, _⟩; omega
  · intro b
    refine ⟨inT_lt' h v, by omega, fun u hu hu4 => ?_⟩
    rw [exN_add h.1 (by omega) hu4 (by omega), h.2.2 u hu hu4, if_neg (by omega)]
/-- the place of variable v times monomial i, or 126 -/
def upN (n : Nat) (cg : Nat → Nat) (v i : Nat) : Nat := rkN cg (cg i + 2 ^ (24 - 8 * v)) (ctN n)
def dgC (cg : Nat → Nat) (i : Nat) : Nat := degN (cg i)
section ALG
variable {n ord : Nat} {cg kg : Nat → Nat}
theorem Tab.up_cases (h : Tab n ord cg kg) (h1 : 1 ≤ n) (h4 : n ≤ 4) {v i : Nat} (hv : v < n) (hi : i < ctN n) :
    (dgC cg i < hiN n ∧ upN n cg v i < ctN n ∧ cg (upN n cg v i) = cg i + 2 ^ (24 - 8 * v)) ∨ (hiN n ≤ dgC cg i ∧ upN n cg v i = 126) := by
  have hT := h.inT h1 h4 hi
  have ha := inT_add h4 hv hT
  unfold dgC
  rcases rkN_cases cg (cg i + 2 ^ (24 - 8 * v)) (ctN n) with ⟨a, b⟩ | ⟨a, b⟩
  · exact Or.inl ⟨ha.mp (by rw [← b]; exact h.inT h1 h4 a), a, b⟩
  · refine Or.inr ⟨?_, a⟩
    rcases Nat.lt_or_ge (degN (cg i)) (hiN n) with q | q
    · obtain ⟨j, hj, e⟩ := (h.mem h1 h4).mp (ha.mpr q)
      exact absurd e (b j hj)
    · exact q
theorem Tab.up_in (h : Tab n ord cg kg) (h1 : 1 ≤ n) (h4 : n ≤ 4) {v i : Nat} (hv : v < n) (hi : i < ctN n) (hu : upN n cg v i < ctN n) : cg (upN n cg v i) = cg i + 2 ^ (24 - 8 * v) := by
  rcases h.up_cases h1 h4 hv hi with ⟨_, _, c⟩ | ⟨_, b⟩
  · exact c
  · have := ctN_le h1 h4
    omega
theorem Tab.up_lt (h : Tab n ord cg kg) (h1 : 1 ≤ n) (h4 : n ≤ 4) {v i : Nat} (hv : v < n) (hi : i < ctN n) : upN n cg v i < ctN n ↔ dgC cg i < hiN n := by
  have := ctN_le h1 h4
  rcases h.up_cases h1 h4 hv hi with ⟨a, b, _⟩ | ⟨a, b⟩
  · exact ⟨fun _ => a, fun _ => b⟩
  · exact ⟨fun _ => by omega, fun _ => by omega⟩
theorem Tab.up_deg (h : Tab n ord cg kg) (h1 : 1 ≤ n) (h4 : n ≤ 4) {v i : Nat} (hv : v < n) (hi : i < ctN n) (hu : upN n cg v i < ctN n) : dgC cg (upN n cg v i) = dgC cg i + 1 := by
  have hT := h.inT h1 h4 hi
  have := inT_ex hT (show v < 4 by omega)
  unfold dgC
  rw [h.up_in h1 h4 hv hi hu, degN_add hT.1 (by omega) (by omega)]
theorem Tab.up_inj (h : Tab n ord cg kg) (h1 : 1 ≤ n) (h4 : n ≤ 4) {v a b : Nat} (hv : v < n) (ha : a < ctN n) (hb : b < ctN n) (e : upN n cg v a = upN n cg v b) (hu : upN n cg v a < ctN n) : a = b := by
  have x1 := h.up_in h1 h4 hv ha hu
  have x2 := h.up_in h1 h4 hv hb (by rw [← e]; exact hu)
  rw [e, x2] at x1
  exact (h.inj hb ha (by omega)).symm
theorem Tab.up_mono (h : Tab n ord cg kg) (h1 : 1 ≤ n) (h4 : n ≤ 4) {v a b : Nat} (hv : v < n) (ha : a < ctN n) (hb : b < ctN n) (hua : upN n cg v a < ctN n) (hub : upN n cg v b < ctN n) : upN n cg v a < upN n cg v b ↔ a < b := by
  have ta := h.inT h1 h4 ha
  have tb := h.inT h1 h4 hb
  have := inT_ex ta (show v < 4 by omega)
  have := inT_ex tb (show v < 4 by omega)
  rw [← h.lt_iff hua hub, h.up_in h1 h4 hv ha hua, h.up_in h1 h4 hv hb hub, keyN_add ta.1 (by omega) (by omega), keyN_add tb.1 (by omega) (by omega), ← h.lt_iff ha hb]
  omega
theorem Tab.deg_mono (h : Tab n ord cg kg) (h1 : 1 ≤ n) (h4 : n ≤ 4) {i j : Nat} (hij : i ≤ j) (hj : j < ctN n) : dgC cg i ≤ dgC cg j := by
  unfold dgC
  rcases Nat.eq_or_lt_of_le hij with q | q
  · rw [q]; exact Nat.le_refl _
  · have := (h.lt_iff (show i < ctN n by omega) hj).mpr q
    unfold keyN at this
    have a0 := dgN_lt ord (cg i) 0
    have a1 := dgN_lt ord (cg i) 1
    have a2 := dgN_lt ord (cg i) 2
    have a3 := dgN_lt ord (cg i) 3
    have b0 := dgN_lt ord (cg j) 0
    have b1 := dgN_lt ord (cg j) 1
    have b2 := dgN_lt ord (cg j) 2
    have b3 := dgN_lt ord (cg j) 3
    omega
theorem Laid.raised {dgs rs : Nat → Int32} (h : Laid n ord cg kg dgs rs) : RaisedOK (ctN n) n (upN n cg) rs := by
  intro v i hv hi
  obtain ⟨_, _, c⟩ := h
  have e := c v i hv hi
  unfold rkI at e
  by_cases q : rkN cg (cg i + 2 ^ (24 - 8 * v)) (ctN n) < ctN n
  · rw [if_pos q] at e
    exact Or.inl ⟨q, e⟩
  · rw [if_neg q] at e
    exact Or.inr ⟨by unfold upN; omega, e⟩
end ALG
