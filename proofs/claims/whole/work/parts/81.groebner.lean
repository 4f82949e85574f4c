/-! MONOMIALS, AND WHEN TWO REMAINDERS ARE ONE (no machine here). A monomial: its four exponents. K: a number that is greater for the greater monomial, additive. -/
abbrev M4 : Type := Nat × Nat × Nat × Nat
def mA (a b : M4) : M4 := (a.1 + b.1, a.2.1 + b.2.1, a.2.2.1 + b.2.2.1, a.2.2.2 + b.2.2.2)
def mS (a b : M4) : M4 := (a.1 - b.1, a.2.1 - b.2.1, a.2.2.1 - b.2.2.1, a.2.2.2 - b.2.2.2)
abbrev mL (a b : M4) : Prop := a.1 ≤ b.1 ∧ a.2.1 ≤ b.2.1 ∧ a.2.2.1 ≤ b.2.2.1 ∧ a.2.2.2 ≤ b.2.2.2
def mD (a : M4) : Nat := a.1 + a.2.1 + a.2.2.1 + a.2.2.2
def mK (ord : Nat) (a : M4) : Int := (mD a : Int) * 4294967296 + (if ord = 0 then - ((a.2.2.2 : Int) * 16777216 + a.2.2.1 * 65536 + a.2.1 * 256 + a.1) else (a.1 : Int) * 16777216 + a.2.1 * 65536 + a.2.2.1 * 256 + a.2.2.2)
theorem mK_add (ord : Nat) (a b : M4) : mK ord (mA a b) = mK ord a + mK ord b := by
  unfold mK mA mD
  by_cases h : ord = 0
  · rw [if_pos h, if_pos h, if_pos h]
    simp only []
    omega
  · rw [if_neg h, if_neg h, if_neg h]
    simp only []
    omega
theorem dig2 {a b x y n : Nat} (hx : x < n) (hy : y < n) (h : a * n + x = b * n + y) : a = b ∧ x = y := by
  have h1 : (a * n + x) / n = a := by
    rw [Nat.mul_comm, Nat.mul_add_div (by omega), Nat.div_eq_of_lt hx, Nat.add_zero]
  have h2 : (b * n + y) / n = b := by
    rw [Nat.mul_comm, Nat.mul_add_div (by omega), Nat.div_eq_of_lt hy, Nat.add_zero]
  have e : a = b := by rw [← h1, ← h2, h]
  subst e
  exact ⟨rfl, by omega⟩
def dg4 (a b c d : Nat) : Nat := ((a * 256 + b) * 256 + c) * 256 + d
theorem dg4_lt {a b c d : Nat} (ha : a < 256) (hb : b < 256) (hc : c < 256) (hd : d < 256) : dg4 a b c d < 4294967296 := by
  unfold dg4
  omega
theorem dg4_inj {a b c d a' b' c' d' : Nat} (hb : b < 256) (hc : c < 256) (hd : d < 256) (hb' : b' < 256) (hc' : c' < 256) (hd' : d' < 256) (h : dg4 a b c d = dg4 a' b' c' d') : a = a' ∧ b = b' ∧ c = c' ∧ d = d' := by
  unfold dg4 at h
  obtain ⟨h1, e4⟩ := dig2 hd hd' h
  obtain ⟨h2, e3⟩ := dig2 hc hc' h1
  obtain ⟨e1, e2⟩ := dig2 hb hb' h2
  exact ⟨e1, e2, e3, e4⟩
theorem mK_inj {ord : Nat} {a b : M4} (ha : mD a < 256) (hb : mD b < 256) (h : mK ord a = mK ord b) : a = b := by
  obtain ⟨a0, a1, a2, a3⟩ := a
  obtain ⟨b0, b1, b2, b3⟩ := b
  unfold mK at h
  unfold mD at ha hb
  simp only [] at h ha hb
  generalize hda : mD (a0, a1, a2, a3) = da at h
  generalize hdb : mD (b0, b1, b2, b3) = db at h
  by_cases ho : ord = 0
  · rw [if_pos ho, if_pos ho] at h
    have l1 := dg4_lt (a := a3) (b := a2) (c := a1) (d := a0) (by omega) (by omega) (by omega) (by omega)
    have l2 := dg4_lt (a := b3) (b := b2) (c := b1) (d := b0) (by omega) (by omega) (by omega) (by omega)
    have e1 : (a3 : Int) * 16777216 + a2 * 65536 + a1 * 256 + a0 = (dg4 a3 a2 a1 a0 : Nat) := by unfold dg4; omega
    have e2 : (b3 : Int) * 16777216 + b2 * 65536 + b1 * 256 + b0 = (dg4 b3 b2 b1 b0 : Nat) := by unfold dg4; omega
    rw [e1, e2] at h
    have h' : da * 4294967296 + dg4 b3 b2 b1 b0 = db * 4294967296 + dg4 a3 a2 a1 a0 := by omega
    obtain ⟨_, e3⟩ := dig2 l2 l1 h'
    obtain ⟨q3, q2, q1, q0⟩ := dg4_inj (by omega) (by omega) (by omega) (by omega) (by omega) (by omega) e3
    rw [q0, q1, q2, q3]
  · rw [if_neg ho, if_neg ho] at h
    have l1 := dg4_lt (a := a0) (b := a1) (c := a2) (d := a3) (by omega) (by omega) (by omega) (by omega)
    have l2 := dg4_lt (a := b0) (b := b1) (c := b2) (d := b3) (by omega) (by omega) (by omega) (by omega)
    have e1 : (a0 : Int) * 16777216 + a1 * 65536 + a2 * 256 + a3 = (dg4 a0 a1 a2 a3 : Nat) := by unfold dg4; omega
    have e2 : (b0 : Int) * 16777216 + b1 * 65536 + b2 * 256 + b3 = (dg4 b0 b1 b2 b3 : Nat) := by unfold dg4; omega
    rw [e1, e2] at h
    have h' : da * 4294967296 + dg4 a0 a1 a2 a3 = db * 4294967296 + dg4 b0 b1 b2 b3 := by omega
    obtain ⟨_, e3⟩ := dig2 l1 l2 h'
    obtain ⟨q0, q1, q2, q3⟩ := dg4_inj (by omega) (by omega) (by omega) (by omega) (by omega) (by omega) e3
    rw [q0, q1, q2, q3]
theorem mK_pos {ord : Nat} {a : M4} (ha : mD a < 256) : 0 ≤ mK ord a := by
  obtain ⟨a0, a1, a2, a3⟩ := a
  unfold mK mD
  unfold mD at ha
  simp only [] at ha ⊢
  by_cases ho : ord = 0
  · rw [if_pos ho]; omega
  · rw [if_neg ho]; omega
theorem mA_mS {t s : M4} (h : mL t s) : mA t (mS s t) = s := by
  obtain ⟨t0, t1, t2, t3⟩ := t
  obtain ⟨s0, s1, s2, s3⟩ := s
  obtain ⟨h0, h1, h2, h3⟩ := h
  simp only [] at h0 h1 h2 h3
  unfold mA mS
  simp only [Prod.mk.injEq]
  omega
theorem mS_mA (t s : M4) : mS (mA t s) t = s := by
  obtain ⟨t0, t1, t2, t3⟩ := t
  obtain ⟨s0, s1, s2, s3⟩ := s
  unfold mA mS
  simp only [Prod.mk.injEq]
  omega
theorem mL_mA (t s : M4) : mL t (mA t s) := by
  obtain ⟨t0, t1, t2, t3⟩ := t
  obtain ⟨s0, s1, s2, s3⟩ := s
  unfold mA mL
  simp only []
  omega
theorem mA_comm (a b : M4) : mA a b = mA b a := by
  unfold mA
  simp only [Prod.mk.injEq]
  omega
theorem mA_assoc (a b c : M4) : mA (mA a b) c = mA a (mA b c) := by
  unfold mA
  simp only [Prod.mk.injEq]
  omega
/-- a monomial times a polynomial -/
def shM (t : M4) (g : M4 → Int) (s : M4) : Int := if mL t s then g (mS s t) else 0
/-- a sum of multiples: coefficient, monomial, which polynomial -/
def evM (G : Nat → M4 → Int) : List (Int × M4 × Nat) → M4 → Int
  | [], _ => 0
  | e :: l, s => e.1 * shM e.2.1 (G e.2.2) s + evM G l s
def topM (lt : Nat → M4) (e : Int × M4 × Nat) : M4 := mA e.2.1 (lt e.2.2)
theorem evM_app (G : Nat → M4 → Int) : ∀ (l k : List (Int × M4 × Nat)) (s : M4), evM G (l ++ k) s = evM G l s + evM G k s
  | [], k, s => by
    show evM G k s = 0 + evM G k s
    omega
  | e :: l, k, s => by
    show e.1 * shM e.2.1 (G e.2.2) s + evM G (l ++ k) s = e.1 * shM e.2.1 (G e.2.2) s + evM G l s + evM G k s
    rw [evM_app G l k s]; omega
/-- all coefficients times c -/
def scM (c : Int) (l : List (Int × M4 × Nat)) : List (Int × M4 × Nat) := l.map (fun e => (c * e.1, e.2))
theorem evM_sc (G : Nat → M4 → Int) (c : Int) : ∀ (l : List (Int × M4 × Nat)) (s : M4), evM G (scM c l) s = c * evM G l s
  | [], s => by
    show (0 : Int) = c * 0
    rw [Int.mul_zero]
  | e :: l, s => by
    show c * e.1 * shM e.2.1 (G e.2.2) s + evM G (scM c l) s = c * (e.1 * shM e.2.1 (G e.2.2) s + evM G l s)
    rw [evM_sc G c l s, Int.mul_add, Int.mul_assoc]
section GRB
variable {P : Int} {ord N : Nat} {G : Nat → M4 → Int} {lt : Nat → M4}
/-- monomials of a multiple don't come over its top -/
theorem shM_top (hG2 : ∀ k s, k < N → G k s ≠ 0 → mK ord s ≤ mK ord (lt k)) {t s : M4} {k : Nat} (hk : k < N) (h : shM t (G k) s ≠ 0) : mK ord s ≤ mK ord (mA t (lt k)) := by
  unfold shM at h
  by_cases hl : mL t s
  · rw [if_pos hl] at h
    have h1 := hG2 k _ hk h
    have h2 := mK_add ord t (mS s t)
    rw [mA_mS hl] at h2
    rw [mK_add]
    omega
  · rw [if_neg hl] at h
    exact absurd rfl h
theorem evM_top (hG2 : ∀ k s, k < N → G k s ≠ 0 → mK ord s ≤ mK ord (lt k)) {s : M4} : ∀ (l : List (Int × M4 × Nat)), (∀ e ∈ l, e.2.2 < N ∧ mK ord (topM lt e) < mK ord s) → evM G l s = 0
  | [], _ => rfl
  | e :: l, h => by
    have ih := evM_top hG2 l (fun q hq => h q (List.mem_cons_of_mem _ hq))
    obtain ⟨h1, h2⟩ := h e List.mem_cons_self
    show e.1 * shM e.2.1 (G e.2.2) s + evM G l s = 0
    have h3 : shM e.2.1 (G e.2.2) s = 0 := by
      rcases Classical.em (shM e.2.1 (G e.2.2) s = 0) with z | z
      · exact z
      · have := shM_top hG2 h1 z
        unfold topM at h2
        omega
    rw [ih, h3, Int.mul_zero, Int.add_zero]
/-- all with the same top can be told by one of them, and lesser ones -/
theorem grb_one (hS : ∀ g h t s, g < N → h < N → mA t (lt g) = mA s (lt h) → mD (mA t (lt g)) < 256 → ∃ l : List (Int × M4 × Nat), (∀ e ∈ l, e.2.2 < N ∧ mD (topM lt e) < 256 ∧ mK ord (topM lt e) < mK ord (mA t (lt g))) ∧ ∀ x, P ∣ shM t (G g) x - shM s (G h) x - evM G l x)
    {g1 : Nat} {t1 : M4} (hg1 : g1 < N) (hd1 : mD (mA t1 (lt g1)) < 256) : ∀ (l : List (Int × M4 × Nat)), (∀ e ∈ l, e.2.2 < N ∧ mD (topM lt e) < 256 ∧ mK ord (topM lt e) ≤ mK ord (mA t1 (lt g1))) →
      ∃ (c : Int) (l' : List (Int × M4 × Nat)), (∀ e ∈ l', e.2.2 < N ∧ mD (topM lt e) < 256 ∧ mK ord (topM lt e) < mK ord (mA t1 (lt g1))) ∧ ∀ x, P ∣ evM G l x - (c * shM t1 (G g1) x + evM G l' x) := by
  intro l
  induction l with
  | nil =>
    intro _
    refine ⟨0, [], fun e h => absurd h List.not_mem_nil, fun x => ?_⟩
    show P ∣ 0 - (0 * _ + 0)
    rw [Int.zero_mul]
    exact ⟨0, by omega⟩
  | cons e l ih =>
    intro h
    obtain ⟨c, l', h1, h2⟩ := ih (fun q hq => h q (List.mem_cons_of_mem _ hq))
    obtain ⟨e1, e2, e3⟩ := h e List.mem_cons_self
    by_cases hk : mK ord (topM lt e) = mK ord (mA t1 (lt g1))
    · have htop : mA e.2.1 (lt e.2.2) = mA t1 (lt g1) := mK_inj e2 hd1 hk
      obtain ⟨l2, q1, q2⟩ := hS e.2.2 g1 e.2.1 t1 e1 hg1 htop e2
      refine ⟨c + e.1, l' ++ scM e.1 l2, fun q hq => ?_, fun x => ?_⟩
      · rcases List.mem_append.mp hq with hq | hq
        · exact h1 q hq
        · obtain ⟨y, hy, rfl⟩ := List.mem_map.mp hq
          have := q1 y hy
          rw [htop] at this
          exact this
      · show P ∣ e.1 * shM e.2.1 (G e.2.2) x + evM G l x - ((c + e.1) * shM t1 (G g1) x + evM G (l' ++ scM e.1 l2) x)
        rw [evM_app, evM_sc]
        have a1 := h2 x
        have a2 : P ∣ e.1 * (shM e.2.1 (G e.2.2) x - shM t1 (G g1) x - evM G l2 x) := Int.dvd_mul_of_dvd_right (q2 x)
        have := Int.dvd_add a1 a2
        have e5 : evM G l x - (c * shM t1 (G g1) x + evM G l' x) + e.1 * (shM e.2.1 (G e.2.2) x - shM t1 (G g1) x - evM G l2 x) = e.1 * shM e.2.1 (G e.2.2) x + evM G l x - ((c + e.1) * shM t1 (G g1) x + (evM G l' x + e.1 * evM G l2 x)) := by
          rw [Int.mul_sub, Int.mul_sub, Int.add_mul]
          omega
        rw [e5] at this
        exact this
    · refine ⟨c, e :: l', fun q hq => ?_, fun x => ?_⟩
      · rcases List.mem_cons.mp hq with rfl | hq
        · exact ⟨e1, e2, by omega⟩
        · exact h1 q hq
      · show P ∣ e.1 * shM e.2.1 (G e.2.2) x + evM G l x - (c * shM t1 (G g1) x + (e.1 * shM e.2.1 (G e.2.2) x + evM G l' x))
        have a1 := h2 x
        have e5 : evM G l x - (c * shM t1 (G g1) x + evM G l' x) = e.1 * shM e.2.1 (G e.2.2) x + evM G l x - (c * shM t1 (G g1) x + (e.1 * shM e.2.1 (G e.2.2) x + evM G l' x)) := by omega
        rw [← e5]; exact a1
/-- a sum of multiples that has no monomial that a leading one divides is 0 -/
theorem grb (hG1 : ∀ k, k < N → G k (lt k) = 1) (hG2 : ∀ k s, k < N → G k s ≠ 0 → mK ord s ≤ mK ord (lt k))
    (hS : ∀ g h t s, g < N → h < N → mA t (lt g) = mA s (lt h) → mD (mA t (lt g)) < 256 → ∃ l : List (Int × M4 × Nat), (∀ e ∈ l, e.2.2 < N ∧ mD (topM lt e) < 256 ∧ mK ord (topM lt e) < mK ord (mA t (lt g))) ∧ ∀ x, P ∣ shM t (G g) x - shM s (G h) x - evM G l x) :
    ∀ (B : Nat) (l : List (Int × M4 × Nat)), (∀ e ∈ l, e.2.2 < N ∧ mD (topM lt e) < 256 ∧ mK ord (topM lt e) < B) → (∀ x, ¬ P ∣ evM G l x → ∀ k, k < N → ¬ mL (lt k) x) → ∀ x, P ∣ evM G l x := by
  intro B
  induction B with
  | zero =>
    intro l h _ x
    cases l with
    | nil => exact ⟨0, by show (0 : Int) = P * 0; rw [Int.mul_zero]⟩
    | cons e l =>
      obtain ⟨_, h2, h3⟩ := h e List.mem_cons_self
      have := mK_pos (ord := ord) h2
      omega
  | succ B ih =>
    intro l h hsup x
    rcases Classical.em (∃ e ∈ l, mK ord (topM lt e) = B) with ⟨e, he, hB⟩ | hno
    · obtain ⟨e1, e2, _⟩ := h e he
      obtain ⟨c, l', h1, h2⟩ := grb_one (P := P) (ord := ord) (N := N) (G := G) (lt := lt) hS (g1 := e.2.2) (t1 := e.2.1) e1 e2 l (fun q hq => by
        obtain ⟨a, b, d⟩ := h q hq
        refine ⟨a, b, ?_⟩
        show mK ord (topM lt q) ≤ mK ord (topM lt e)
        omega)
      -- the coefficient at the top
      have hc : P ∣ c := by
        have a1 := h2 (mA e.2.1 (lt e.2.2))
        have a2 : evM G l' (mA e.2.1 (lt e.2.2)) = 0 := evM_top hG2 l' (fun q hq => ⟨(h1 q hq).1, (h1 q hq).2.2⟩)
        have a3 : shM e.2.1 (G e.2.2) (mA e.2.1 (lt e.2.2)) = 1 := by
          unfold shM
          rw [if_pos (mL_mA _ _), mS_mA]
          exact hG1 _ e1
        rw [a2, a3, Int.mul_one, Int.add_zero] at a1
        rcases Classical.em (P ∣ evM G l (mA e.2.1 (lt e.2.2))) with z | z
        · have := Int.dvd_sub z a1
          rw [show evM G l (mA e.2.1 (lt e.2.2)) - (evM G l (mA e.2.1 (lt e.2.2)) - c) = c by omega] at this
          exact this
        · exfalso
          refine hsup _ z e.2.2 e1 ?_
          rw [mA_comm]
          exact mL_mA _ _
      have hcong : ∀ y, P ∣ evM G l y - evM G l' y := fun y => by
        have a1 := h2 y
        have a2 : P ∣ c * shM e.2.1 (G e.2.2) y := Int.dvd_mul_of_dvd_left hc
        have := Int.dvd_add a1 a2
        rw [show evM G l y - (c * shM e.2.1 (G e.2.2) y + evM G l' y) + c * shM e.2.1 (G e.2.2) y = evM G l y - evM G l' y by omega] at this
        exact this
      have h3 := ih l' (fun q hq => by
        obtain ⟨a, b, d⟩ := h1 q hq
        refine ⟨a, b, ?_⟩
        have : mK ord (mA e.2.1 (lt e.2.2)) = B := hB
        omega) (fun y hy => hsup y (fun z => hy (by
          have := Int.dvd_sub z (hcong y)
          rw [show evM G l y - (evM G l y - evM G l' y) = evM G l' y by omega] at this
          exact this)))
      have := Int.dvd_add (hcong x) (h3 x)
      rw [show evM G l x - evM G l' x + evM G l' x = evM G l x by omega] at this
      exact this
    · exact ih l (fun q hq => by
        obtain ⟨a, b, d⟩ := h q hq
        refine ⟨a, b, ?_⟩
        have : mK ord (topM lt q) ≠ B := fun z => hno ⟨q, hq, z⟩
        omega) hsup x
end GRB
