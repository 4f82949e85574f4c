/-! PURE 0: the decompiled functions' words at numbers that aren't negative. -/
theorem nlit (n : Nat) : (OfNat.ofNat n : Int32) = nI n := rfl
theorem llit (n : Nat) : (OfNat.ofNat n : Int64) = lN n := rfl
section P0
variable {ρ : Type}
theorem rdI_n {n j : Nat} {f : Nat → Int32} {k : Int32 → Option ρ} (h : j < n) (hn : n < 2 ^ 31) : rdI n f (nI j) k = k (f j) := by
  unfold rdI
  rw [if_neg (nI_in h hn), nI_clamp (Nat.lt_trans h hn)]
theorem rdL_n {n j : Nat} {f : Nat → Int64} {k : Int64 → Option ρ} (h : j < n) (hn : n < 2 ^ 31) : rdL n f (nI j) k = k (f j) := by
  unfold rdL
  rw [if_neg (nI_in h hn), nI_clamp (Nat.lt_trans h hn)]
theorem wrI_n {n j : Nat} {f : Nat → Int32} {x : Int32} {k : (Nat → Int32) → Option ρ} (h : j < n) (hn : n < 2 ^ 31) : wrI n f (nI j) x k = k (upd f j x) := by
  unfold wrI
  rw [if_neg (nI_in h hn), nI_clamp (Nat.lt_trans h hn)]
theorem wrL_n {n j : Nat} {f : Nat → Int64} {x : Int64} {k : (Nat → Int64) → Option ρ} (h : j < n) (hn : n < 2 ^ 31) : wrL n f (nI j) x k = k (vp_updL f j x) := by
  unfold wrL
  rw [if_neg (nI_in h hn), nI_clamp (Nat.lt_trans h hn)]
theorem nzI_n {d : Nat} {k : Option ρ} (h0 : 0 < d) (h : d < 2 ^ 31) : nzI (nI d) k = k := if_neg (nI_ne0 h0 h)
theorem bzI_0 {k : Option ρ} : bzI (nI 0) k = k := if_pos (by decide +kernel)
theorem bzI_1 {k : Option ρ} : bzI (nI 1) k = k := if_pos (by decide +kernel)
theorem cpI_n {n0 n1 sp dp n : Nat} {f g : Nat → Int32} {k : (Nat → Int32) → Option ρ} (h0 : sp + n ≤ n0) (h1 : dp + n ≤ n1) (hn0 : n0 < 2 ^ 31) (hn1 : n1 < 2 ^ 31) : cpI n0 n1 f g (nI sp) (nI dp) (nI n) k = k (va_cpy f g sp dp n) := by
  unfold cpI
  rw [nI_clamp (by omega), nI_clamp (by omega), nI_clamp (by omega), if_neg]
  rintro (h | h | h | h | h)
  · exact nI_pos (by omega) h
  · exact nI_pos (by omega) h
  · exact nI_pos (by omega) h
  · omega
  · omega
theorem bd1_n {α : Type} {a : α} {k : α → Option ρ} : bd1 (some a) k = k a := rfl
end P0
theorem remI_n {a d : Nat} (ha : a < 2 ^ 31) (h0 : 0 < d) (hd : d < 2 ^ 31) : remI (nI a) (nI d) = nI (a % d) := pk_rem ha h0 hd
theorem sh_l : ∀ n, n < 32 → ((nI n &&& 31).toBitVec.smod 32).toNat = n := by decide +kernel
theorem sh_u : ∀ n, n < 32 → (((nI n).toUInt32 &&& Int32.toUInt32 31).toBitVec % 32).toNat = n := by decide +kernel
theorem shlI_n {n s : Nat} (hs : s < 32) (h : n * 2 ^ s < 2 ^ 32) : shlI (nI n) (nI s) = nI (n * 2 ^ s) := pk_shlN (nI s &&& 31) s (sh_l s hs) h
theorem ushI_n {n s : Nat} (hn : n < 2 ^ 32) (hs : s < 32) : ushI (nI n) (nI s) = nI (n / 2 ^ s) := pk_ushrN hn (nI s) s (sh_u s hs)
theorem shrI_n {n s : Nat} (hn : n < 2 ^ 31) (hs : s < 32) : shrI (nI n) (nI s) = nI (n / 2 ^ s) := pk_shrN hn (nI s &&& 31) s (sh_l s hs)
theorem maxI_n {a b : Nat} (ha : a < 2 ^ 31) (hb : b < 2 ^ 31) : maxI (nI a) (nI b) = nI (max a b) := by
  unfold maxI
  by_cases h : a < b
  · rw [if_pos ((nI_ltI ha hb).mpr h), Nat.max_eq_right (Nat.le_of_lt h)]
  · rw [if_neg (fun q => h ((nI_ltI ha hb).mp q)), Nat.max_eq_left (Nat.not_lt.mp h)]
theorem nI_of32 (x : Int32) : ∃ n : Nat, n < 2 ^ 32 ∧ x = nI n := ⟨x.toBitVec.toNat, x.toBitVec.isLt, by
  apply Int32.toBitVec_inj.mp
  apply BitVec.eq_of_toNat_eq
  rw [pk_tn x.toBitVec.isLt]⟩
theorem nI_inj32 {a b : Nat} (ha : a < 2 ^ 32) (hb : b < 2 ^ 32) (h : nI a = nI b) : a = b := by
  have := congrArg (fun x : Int32 => x.toBitVec.toNat) h
  rw [pk_tn ha, pk_tn hb] at this
  exact this
/-- for every place of a function -/
def nF (g : Nat → Nat) : Nat → Int32 := fun j => nI (g j)
theorem upd_nF {g : Nat → Nat} {i x : Nat} : upd (nF g) i (nI x) = nF (fun j => if j = i then x else g j) := by
  funext j
  show (if j = i then nI x else nI (g j)) = nI (if j = i then x else g j)
  by_cases h : j = i
  · rw [if_pos h, if_pos h]
  · rw [if_neg h, if_neg h]
theorem nI_or (a b : Nat) : nI a ||| nI b = nI (a ||| b) := by
  apply Int32.toBitVec_inj.mp
  show BitVec.ofNat 32 a ||| BitVec.ofNat 32 b = BitVec.ofNat 32 (a ||| b)
  exact BitVec.ofNat_or.symm
theorem nI_orS {a b k : Nat} (h : b < 2 ^ k) : nI (a * 2 ^ k) ||| nI b = nI (a * 2 ^ k + b) := by
  rw [nI_or, ← Nat.shiftLeft_eq, Nat.shiftLeft_add_eq_or_of_lt h]
