/-! NUMBERS MODULO A PRIME: an inverse exists; Fermat's little theorem (no machine here). -/
def isP (p : Nat) : Prop := 2 ≤ p ∧ ∀ d, d ∣ p → d = 1 ∨ d = p
theorem fm_inv {p : Nat} (hp : isP p) : ∀ a, 0 < a → a < p → ∃ b, a * b % p = 1 := by
  intro a
  induction a using Nat.strongRecOn with
  | _ a ih =>
    intro h0 hlt
    have hp2 := hp.1
    by_cases h1 : a = 1
    · exact ⟨1, by rw [h1]; exact Nat.mod_eq_of_lt (by omega)⟩
    · have hr0 : p % a ≠ 0 := fun h => by
        rcases hp.2 a (Nat.dvd_of_mod_eq_zero h) with h | h <;> omega
      have hrl : p % a < a := Nat.mod_lt _ h0
      obtain ⟨c, hc⟩ := ih (p % a) hrl (by omega) (by omega)
      have e1 : a * (p / a) + p % a = p := Nat.div_add_mod p a
      have e2 : p * (p % a * c / p) + p % a * c % p = p % a * c := Nat.div_add_mod (p % a * c) p
      rw [hc] at e2
      refine ⟨(p - 1) * (p / a * c), ?_⟩
      have e3 : a * (p / a * c) + p % a * c = p * c := by
        rw [← Nat.mul_assoc, ← Nat.add_mul, e1]
      have e4 : a * (p / a * c) + 1 + p * (p % a * c / p) = p * c := by omega
      have hle : p % a * c / p ≤ c := by
        have : p * (p % a * c / p) ≤ p * c := by omega
        exact Nat.le_of_mul_le_mul_left this (by omega)
      obtain ⟨s, hs⟩ : ∃ s, c = p % a * c / p + s := ⟨c - p % a * c / p, by omega⟩
      have e5 : a * (p / a * c) + 1 = p * s := by
        have : p * c = p * (p % a * c / p) + p * s := by rw [← Nat.mul_add, ← hs]
        omega
      obtain ⟨x, hx⟩ : ∃ x, x = a * (p / a * c) := ⟨_, rfl⟩
      rw [← hx] at e5
      have hs1 : 1 ≤ (p - 1) * s := by
        have : s ≠ 0 := fun h => by rw [h] at e5; omega
        exact Nat.mul_pos (by omega) (by omega)
      have e6 : a * ((p - 1) * (p / a * c)) = (p - 1) * (a * (p / a * c)) := by
        rw [← Nat.mul_assoc, Nat.mul_comm a, Nat.mul_assoc]
      have e7 : (p - 1) * x + (p - 1) = (p - 1) * (p * s) := by rw [← e5, Nat.mul_add, Nat.mul_one]
      have e8 : (p - 1) * (p * s) = p * ((p - 1) * s) := by rw [← Nat.mul_assoc, Nat.mul_comm (p - 1), Nat.mul_assoc]
      obtain ⟨t, ht⟩ : ∃ t, (p - 1) * s = t + 1 := ⟨(p - 1) * s - 1, by omega⟩
      have e9 : (p - 1) * x = p * t + 1 := by
        rw [e8, ht, Nat.mul_add, Nat.mul_one] at e7
        omega
      have e10 : a * ((p - 1) * (p / a * c)) = p * t + 1 := by
        rw [e6, ← hx]
        exact e9
      rw [e10, Nat.mul_add_mod]
      exact Nat.mod_eq_of_lt (by omega)
theorem fm_cancel {p : Nat} (hp : isP p) {a x y : Nat} (h0 : 0 < a) (hlt : a < p) (h : a * x % p = a * y % p) : x % p = y % p := by
  obtain ⟨b, hb⟩ := fm_inv hp a h0 hlt
  have k : ∀ z, b * (a * z) % p = z % p := fun z => by
    rw [← Nat.mul_assoc, Nat.mul_comm b a, Nat.mul_mod, hb, Nat.one_mul, Nat.mod_mod]
  rw [← k x, ← k y, Nat.mul_mod b, h, ← Nat.mul_mod]
def pr : List Nat → Nat
  | [] => 1
  | a :: l => a * pr l
theorem pr_perm {l₁ l₂ : List Nat} (h : l₁.Perm l₂) : pr l₁ = pr l₂ := by
  induction h with
  | nil => rfl
  | cons x _ ih => simp [pr, ih]
  | swap x y l => simp [pr, Nat.mul_left_comm]
  | trans _ _ h1 h2 => exact h1.trans h2
theorem pr_map (p a : Nat) : ∀ l : List Nat, pr (l.map (fun i => a * i % p)) % p = a ^ l.length * pr l % p
  | [] => by simp [pr]
  | x :: l => by
    have ih := pr_map p a l
    show (a * x % p) * pr (l.map _) % p = a ^ (l.length + 1) * (x * pr l) % p
    rw [Nat.mul_mod, ih, Nat.mod_mod, ← Nat.mul_mod, Nat.pow_succ]
    congr 1
    simp only [Nat.mul_assoc, Nat.mul_comm, Nat.mul_left_comm]
theorem pr_unit {p : Nat} (hp : isP p) : ∀ l : List Nat, (∀ i ∈ l, 0 < i ∧ i < p) → 0 < pr l % p
  | [], _ => by
    show 0 < 1 % p
    rw [Nat.mod_eq_of_lt hp.1]; exact Nat.one_pos
  | x :: l, h => by
    have ih := pr_unit hp l (fun i hi => h i (List.mem_cons_of_mem _ hi))
    obtain ⟨h0, h1⟩ := h x List.mem_cons_self
    rcases Nat.eq_zero_or_pos (pr (x :: l) % p) with h2 | h2
    · exfalso
      have h3 : x * pr l % p = x * 0 % p := by rw [Nat.mul_zero, Nat.zero_mod]; exact h2
      have h4 := fm_cancel hp h0 h1 h3
      rw [Nat.zero_mod] at h4
      omega
    · exact h2
theorem fm_list {p : Nat} (hp : isP p) {a : Nat} (h0 : 0 < a) (hlt : a < p) : ((List.range' 1 (p - 1)).map (fun i => a * i % p)).Perm (List.range' 1 (p - 1)) := by
  have hp2 := hp.1
  have mem : ∀ i, i ∈ List.range' 1 (p - 1) ↔ 0 < i ∧ i < p := fun i => by
    rw [List.mem_range'_1]; omega
  rw [List.perm_ext_iff_of_nodup]
  · intro y
    rw [List.mem_map, mem]
    constructor
    · rintro ⟨i, hi, rfl⟩
      obtain ⟨hi0, hi1⟩ := (mem i).mp hi
      refine ⟨?_, Nat.mod_lt _ (by omega)⟩
      rcases Nat.eq_zero_or_pos (a * i % p) with h | h
      · exfalso
        have h3 : a * i % p = a * 0 % p := by rw [Nat.mul_zero, Nat.zero_mod]; exact h
        have := fm_cancel hp h0 hlt h3
        rw [Nat.zero_mod, Nat.mod_eq_of_lt hi1] at this
        omega
      · exact h
    · rintro ⟨hy0, hy1⟩
      obtain ⟨b, hb⟩ := fm_inv hp a h0 hlt
      refine ⟨b * y % p, (mem _).mpr ⟨?_, Nat.mod_lt _ (by omega)⟩, ?_⟩
      · rcases Nat.eq_zero_or_pos (b * y % p) with h | h
        · exfalso
          have h4 : a * (b * y) % p = y := by rw [← Nat.mul_assoc, Nat.mul_mod, hb, Nat.one_mul, Nat.mod_mod, Nat.mod_eq_of_lt hy1]
          rw [Nat.mul_mod, h, Nat.mul_zero, Nat.zero_mod] at h4
          omega
        · exact h
      · rw [Nat.mul_mod, Nat.mod_mod, ← Nat.mul_mod, ← Nat.mul_assoc, Nat.mul_mod, hb, Nat.one_mul, Nat.mod_mod, Nat.mod_eq_of_lt hy1]
  · refine List.pairwise_map.mpr (List.Pairwise.imp_of_mem ?_ (List.nodup_range' (step := 1)))
    intro i j hi hj hne heq
    have := fm_cancel hp h0 hlt heq
    rw [Nat.mod_eq_of_lt ((mem i).mp hi).2, Nat.mod_eq_of_lt ((mem j).mp hj).2] at this
    exact hne this
  · exact List.nodup_range' (step := 1)
theorem fermat {p : Nat} (hp : isP p) {a : Nat} (h0 : 0 < a) (hlt : a < p) : a ^ (p - 1) % p = 1 := by
  have hp2 := hp.1
  have h1 := pr_map p a (List.range' 1 (p - 1))
  rw [pr_perm (fm_list hp h0 hlt), List.length_range'] at h1
  have hu := pr_unit hp (List.range' 1 (p - 1)) (fun i hi => by rw [List.mem_range'_1] at hi; omega)
  generalize pr (List.range' 1 (p - 1)) = P at h1 hu
  have h2 : P % p * 1 % p = P % p * (a ^ (p - 1)) % p := by
    have e1 : P % p * a ^ (p - 1) % p = a ^ (p - 1) * P % p := by
      rw [Nat.mul_comm (a ^ (p - 1)) P, Nat.mul_mod, Nat.mod_mod, ← Nat.mul_mod]
    rw [Nat.mul_one, Nat.mod_mod, e1]
    exact h1
  have := fm_cancel hp hu (Nat.mod_lt _ (by omega)) h2
  rw [Nat.mod_eq_of_lt (by omega)] at this
  exact this.symm
/-- the inverse by a power -/
theorem fm_pow {p : Nat} (hp : isP p) {a : Nat} (h0 : 0 < a) (hlt : a < p) : a * (a ^ (p - 2) % p) % p = 1 := by
  have hp2 := hp.1
  rw [Nat.mul_mod, Nat.mod_mod, ← Nat.mul_mod, Nat.mul_comm, ← Nat.pow_succ, show (p - 2).succ = p - 1 by omega]
  exact fermat hp h0 hlt
