/-! PRODUCTS OF LEFT-OVER MONOMIALS WITH VARIABLES: what a table of them is, and that there is one only (no machine here). -/
/-- a basis, and what is left over by it -/
def Rm (p n ord : Nat) (cg : Nat → Nat) (l : List Nat) (sz : Nat) (g : Nat → Nat) (rb : Nat → Nat → Nat) : Prop :=
  (2 ≤ p) ∧
  (p ≤ 32003) ∧
  (1 ≤ n) ∧
  (n ≤ 4) ∧
  (ord < 2) ∧
  (Few n ord cg l sz g) ∧
  (∀ b ∈ l, b < ctN n) ∧
  (ctN n ≤ 126) ∧
  (∀ j, j < ctN n → inT n (cg j)) ∧
  (∀ i j, i < ctN n → j < ctN n → cg i = cg j → i = j) ∧
  (∀ i j, i < j → j < ctN n → keyN ord (cg i) < keyN ord (cg j)) ∧
  (∀ v, v < n → PP cg l v) ∧
  (∀ b ∈ l, ∀ i, i < b → rb b i < p) ∧
  (∀ b ∈ l, ∀ i, i < b → rb b i ≠ 0 → NL n cg l (cg i))
theorem Rm.p2 {p n ord : Nat} {cg : Nat → Nat} {l : List Nat} {sz : Nat} {g : Nat → Nat} {rb : Nat → Nat → Nat} (h : Rm p n ord cg l sz g rb) : 2 ≤ p := h.1
theorem Rm.p3 {p n ord : Nat} {cg : Nat → Nat} {l : List Nat} {sz : Nat} {g : Nat → Nat} {rb : Nat → Nat → Nat} (h : Rm p n ord cg l sz g rb) : p ≤ 32003 := h.2.1
theorem Rm.n1 {p n ord : Nat} {cg : Nat → Nat} {l : List Nat} {sz : Nat} {g : Nat → Nat} {rb : Nat → Nat → Nat} (h : Rm p n ord cg l sz g rb) : 1 ≤ n := h.2.2.1
theorem Rm.n4 {p n ord : Nat} {cg : Nat → Nat} {l : List Nat} {sz : Nat} {g : Nat → Nat} {rb : Nat → Nat → Nat} (h : Rm p n ord cg l sz g rb) : n ≤ 4 := h.2.2.2.1
theorem Rm.o2 {p n ord : Nat} {cg : Nat → Nat} {l : List Nat} {sz : Nat} {g : Nat → Nat} {rb : Nat → Nat → Nat} (h : Rm p n ord cg l sz g rb) : ord < 2 := h.2.2.2.2.1
theorem Rm.few {p n ord : Nat} {cg : Nat → Nat} {l : List Nat} {sz : Nat} {g : Nat → Nat} {rb : Nat → Nat → Nat} (h : Rm p n ord cg l sz g rb) : Few n ord cg l sz g := h.2.2.2.2.2.1
theorem Rm.bl {p n ord : Nat} {cg : Nat → Nat} {l : List Nat} {sz : Nat} {g : Nat → Nat} {rb : Nat → Nat → Nat} (h : Rm p n ord cg l sz g rb) : ∀ b ∈ l, b < ctN n := h.2.2.2.2.2.2.1
theorem Rm.ct {p n ord : Nat} {cg : Nat → Nat} {l : List Nat} {sz : Nat} {g : Nat → Nat} {rb : Nat → Nat → Nat} (h : Rm p n ord cg l sz g rb) : ctN n ≤ 126 := h.2.2.2.2.2.2.2.1
theorem Rm.tin {p n ord : Nat} {cg : Nat → Nat} {l : List Nat} {sz : Nat} {g : Nat → Nat} {rb : Nat → Nat → Nat} (h : Rm p n ord cg l sz g rb) : ∀ j, j < ctN n → inT n (cg j) := h.2.2.2.2.2.2.2.2.1
theorem Rm.tinj {p n ord : Nat} {cg : Nat → Nat} {l : List Nat} {sz : Nat} {g : Nat → Nat} {rb : Nat → Nat → Nat} (h : Rm p n ord cg l sz g rb) : ∀ i j, i < ctN n → j < ctN n → cg i = cg j → i = j := h.2.2.2.2.2.2.2.2.2.1
theorem Rm.tkey {p n ord : Nat} {cg : Nat → Nat} {l : List Nat} {sz : Nat} {g : Nat → Nat} {rb : Nat → Nat → Nat} (h : Rm p n ord cg l sz g rb) : ∀ i j, i < j → j < ctN n → keyN ord (cg i) < keyN ord (cg j) := h.2.2.2.2.2.2.2.2.2.2.1
theorem Rm.pp {p n ord : Nat} {cg : Nat → Nat} {l : List Nat} {sz : Nat} {g : Nat → Nat} {rb : Nat → Nat → Nat} (h : Rm p n ord cg l sz g rb) : ∀ v, v < n → PP cg l v := h.2.2.2.2.2.2.2.2.2.2.2.1
theorem Rm.rlt {p n ord : Nat} {cg : Nat → Nat} {l : List Nat} {sz : Nat} {g : Nat → Nat} {rb : Nat → Nat → Nat} (h : Rm p n ord cg l sz g rb) : ∀ b ∈ l, ∀ i, i < b → rb b i < p := h.2.2.2.2.2.2.2.2.2.2.2.2.1
theorem Rm.rnl {p n ord : Nat} {cg : Nat → Nat} {l : List Nat} {sz : Nat} {g : Nat → Nat} {rb : Nat → Nat → Nat} (h : Rm p n ord cg l sz g rb) : ∀ b ∈ l, ∀ i, i < b → rb b i ≠ 0 → NL n cg l (cg i) := h.2.2.2.2.2.2.2.2.2.2.2.2.2
section RM
variable {p n ord sz : Nat} {cg g : Nat → Nat} {l : List Nat} {rb : Nat → Nat → Nat}
theorem Rm.sz40 (h : Rm p n ord cg l sz g rb) : sz ≤ 40 := by obtain ⟨L, k, h1, h2, h3⟩ := h.few; exact h2
theorem Rm.nl (h : Rm p n ord cg l sz g rb) {c : Nat} : NL n cg l c ↔ ∃ j, j < sz ∧ g j = c := by
  obtain ⟨L, k, h1, h2, h3⟩ := h.few
  exact (h3 c).symm.trans (h1.2.2.2.1 c)
theorem Rm.gnl (h : Rm p n ord cg l sz g rb) {j : Nat} (hj : j < sz) : NL n cg l (g j) := h.nl.mpr ⟨j, hj, rfl⟩
theorem Rm.glt (h : Rm p n ord cg l sz g rb) {j : Nat} (hj : j < sz) : g j < 2 ^ 32 := (h.gnl hj).1
theorem Rm.gkey (h : Rm p n ord cg l sz g rb) {i j : Nat} (hij : i < j) (hj : j < sz) : keyN ord (g i) < keyN ord (g j) := by
  obtain ⟨L, k, h1, h2, h3⟩ := h.few
  have := h1.2.1 i j hij hj
  rw [h1.2.2.1 i (by omega), h1.2.2.1 j hj] at this
  exact this
theorem Rm.ginj (h : Rm p n ord cg l sz g rb) : ∀ i j, i < sz → j < sz → g i = g j → i = j := by
  intro i j hi hj e
  rcases Nat.lt_trichotomy i j with q | q | q
  · have := h.gkey q hj; rw [e] at this; omega
  · exact q
  · have := h.gkey q hi; rw [e] at this; omega
theorem Rm.nlex (h : Rm p n ord cg l sz g rb) {c : Nat} (hc : NL n cg l c) {u : Nat} (hu : u < 4) : exN c u ≤ 30 := by
  by_cases hun : u < n
  · obtain ⟨b, c1, c2⟩ := h.pp u hun
    have := hc.pp hu c1 c2
    have h2 := h.tin b (h.bl b c1)
    have h3 := h2.2.1
    have := hiN_le n
    omega
  · rw [hc.2.1 u (by omega) hu]; omega
theorem Rm.gex (h : Rm p n ord cg l sz g rb) {j u : Nat} (hj : j < sz) (hu : u < 4) : exN (g j) u ≤ 30 := h.nlex (h.gnl hj) hu
theorem Rm.up_ex (h : Rm p n ord cg l sz g rb) {k v u : Nat} (hk : k < sz) (hv : v < 4) (hu : u < 4) : exN (g k + 2 ^ (24 - 8 * v)) u = exN (g k) u + (if u = v then 1 else 0) := exN_add (h.glt hk) hv hu (by have := h.gex hk hv; omega)
theorem Rm.up_lt (h : Rm p n ord cg l sz g rb) {k v : Nat} (hk : k < sz) (hv : v < 4) : g k + 2 ^ (24 - 8 * v) < 2 ^ 32 := ex_add_lt (h.glt hk) hv (fun u hu => by have := h.gex hk hu; omega)
theorem Rm.up_key (h : Rm p n ord cg l sz g rb) {k v : Nat} (hk : k < sz) (hv : v < 4) : keyN ord (g k + 2 ^ (24 - 8 * v)) = keyN ord (g k) + kvN ord v := keyN_add (h.glt hk) hv (by have := h.gex hk hv; omega)
theorem Rm.up_z (h : Rm p n ord cg l sz g rb) {k v : Nat} (hk : k < sz) (hv : v < n) : ∀ u, n ≤ u → u < 4 → exN (g k + 2 ^ (24 - 8 * v)) u = 0 := by
  intro u h1 h2
  rw [h.up_ex hk (by have := h.n4; omega) h2, (h.gnl hk).2.1 u h1 h2, if_neg (by omega)]
theorem ex_ext {a b : Nat} (ha : a < 2 ^ 32) (hb : b < 2 ^ 32) (h : ∀ u, u < 4 → exN a u = exN b u) : a = b := by
  rw [ex_cdN ha, ex_cdN hb, h 0 (by decide), h 1 (by decide), h 2 (by decide), h 3 (by decide)]
theorem sub_var {c u : Nat} (hc : c < 2 ^ 32) (hu : u < 4) (h : 0 < exN c u) : 2 ^ (24 - 8 * u) ≤ c ∧ ∀ w, w < 4 → exN (c - 2 ^ (24 - 8 * u)) w = exN c w - (if w = u then 1 else 0) := by
  have hl := ex_lin hc
  obtain ⟨a0, a1, a2, a3⟩ := ex_lt4 c
  rcases (show u = 0 ∨ u = 1 ∨ u = 2 ∨ u = 3 by omega) with q | q | q | q <;> subst q
  · refine ⟨by show 16777216 ≤ c; omega, fun w hw => ?_⟩
    have := lin_ex (x := exN c 0 - 1) (by omega) a1 a2 a3 (show c - 2 ^ (24 - 8 * 0) = _ by show c - 16777216 = _; omega)
    rcases (show w = 0 ∨ w = 1 ∨ w = 2 ∨ w = 3 by omega) with r | r | r | r <;> subst r
    · exact this.1
    · exact this.2.1
    · exact this.2.2.1
    · exact this.2.2.2
  · refine ⟨by show 65536 ≤ c; omega, fun w hw => ?_⟩
    have := lin_ex (y := exN c 1 - 1) a0 (by omega) a2 a3 (show c - 2 ^ (24 - 8 * 1) = _ by show c - 65536 = _; omega)
    rcases (show w = 0 ∨ w = 1 ∨ w = 2 ∨ w = 3 by omega) with r | r | r | r <;> subst r
    · exact this.1
    · exact this.2.1
    · exact this.2.2.1
    · exact this.2.2.2
  · refine ⟨by show 256 ≤ c; omega, fun w hw => ?_⟩
    have := lin_ex (z := exN c 2 - 1) a0 a1 (by omega) a3 (show c - 2 ^ (24 - 8 * 2) = _ by show c - 256 = _; omega)
    rcases (show w = 0 ∨ w = 1 ∨ w = 2 ∨ w = 3 by omega) with r | r | r | r <;> subst r
    · exact this.1
    · exact this.2.1
    · exact this.2.2.1
    · exact this.2.2.2
  · refine ⟨by show 1 ≤ c; omega, fun w hw => ?_⟩
    have := lin_ex (w := exN c 3 - 1) a0 a1 a2 (by omega) (show c - 2 ^ (24 - 8 * 3) = _ by show c - 1 = _; omega)
    rcases (show w = 0 ∨ w = 1 ∨ w = 2 ∨ w = 3 by omega) with r | r | r | r <;> subst r
    · exact this.1
    · exact this.2.1
    · exact this.2.2.1
    · exact this.2.2.2
/-- a divisor of a left-over one is left over -/
theorem Rm.down (h : Rm p n ord cg l sz g rb) {k u : Nat} (hk : k < sz) (hu : u < 4) (he : 0 < exN (g k) u) : ∃ k', k' < sz ∧ g k' = g k - 2 ^ (24 - 8 * u) ∧ g k' + 2 ^ (24 - 8 * u) = g k := by
  obtain ⟨a, b⟩ := sub_var (h.glt hk) hu he
  have hnl : NL n cg l (g k - 2 ^ (24 - 8 * u)) := by
    refine ⟨Nat.lt_of_le_of_lt (Nat.sub_le _ _) (h.glt hk), fun v h1 h2 => ?_, hlN_mono (fun w hw => ?_) (h.gnl hk).2.2⟩
    · rw [b v h2, (h.gnl hk).2.1 v h1 h2]; omega
    · rw [b w hw]; omega
  obtain ⟨k', h1, h2⟩ := h.nl.mp hnl
  exact ⟨k', h1, h2, by omega⟩
/-- a product that is neither left over nor a lead: some variable can be taken from it, and it stays led -/
theorem Rm.some_u (h : Rm p n ord cg l sz g rb) {k v : Nat} (hk : k < sz) (hv : v < n) (h1 : ∀ j, j < sz → g j ≠ g k + 2 ^ (24 - 8 * v)) (h2 : ∀ b ∈ l, cg b ≠ g k + 2 ^ (24 - 8 * v)) :
    ∃ u, u < n ∧ u ≠ v ∧ 0 < exN (g k) u ∧ ∀ j, j < sz → g j ≠ g k - 2 ^ (24 - 8 * u) + 2 ^ (24 - 8 * v) := by
  have hv4 : v < 4 := by have := h.n4; omega
  have hlt := h.up_lt hk hv4
  have hex := fun u (hu : u < 4) => h.up_ex hk hv4 hu
  have hz := h.up_z hk hv
  generalize hM : g k + 2 ^ (24 - 8 * v) = M at *
  have hnot : hlN cg l M ≠ 0 := fun q => by
    obtain ⟨j, a, b⟩ := h.nl.mp (⟨hlt, hz, q⟩ : NL n cg l M)
    exact h1 j a b
  have hled : ∃ b ∈ l, ∀ u, u < 4 → exN (cg b) u ≤ exN M u := by
    refine Classical.byContradiction fun q => hnot (hlN_0.mpr fun b hb z => q ⟨b, hb, dvN_iff.mp z⟩)
  obtain ⟨b, hb, hd⟩ := hled
  have hbl := h.tin b (h.bl b hb)
  have hne : ∃ u, u < 4 ∧ exN (cg b) u < exN M u := by
    refine Classical.byContradiction fun q => h2 b hb (ex_ext hbl.1 hlt fun u hu => ?_)
    have := hd u hu
    have : ¬ exN (cg b) u < exN M u := fun z => q ⟨u, hu, z⟩
    omega
  obtain ⟨u, hu, hlt2⟩ := hne
  have hbv : exN (cg b) v = exN M v := by
    have a := hd v hv4
    rcases Nat.lt_or_ge (exN (cg b) v) (exN M v) with q | q
    · exfalso
      refine hlN_0.mp (h.gnl hk).2.2 b hb (dvN_iff.mpr fun w hw => ?_)
      have a1 := hd w hw
      have a2 := hex w hw
      by_cases e : w = v
      · subst e; rw [if_pos rfl] at a2; omega
      · rw [if_neg e] at a2; omega
    · omega
  have huv : u ≠ v := fun e => by subst e; omega
  have hun : u < n := by
    rcases Nat.lt_or_ge u n with q | q
    · exact q
    · rw [hz u q hu] at hlt2; omega
  have hgu : exN M u = exN (g k) u := by rw [hex u hu, if_neg huv, Nat.add_zero]
  refine ⟨u, hun, huv, by omega, fun j hj e => ?_⟩
  obtain ⟨a, c⟩ := sub_var (h.glt hk) hu (show 0 < exN (g k) u by omega)
  have hMu : g j = M - 2 ^ (24 - 8 * u) := by omega
  obtain ⟨a', c'⟩ := sub_var hlt hu (show 0 < exN M u by omega)
  refine hlN_0.mp (h.gnl hj).2.2 b hb (dvN_iff.mpr fun w hw => ?_)
  rw [hMu, c' w hw]
  have := hd w hw
  by_cases e : w = u
  · subst e; rw [if_pos rfl]; omega
  · rw [if_neg e]; omega
/-- what the tail of basis member b has at the monomial c, from the other side -/
def tB (p n : Nat) (cg : Nat → Nat) (rb : Nat → Nat → Nat) (b c : Nat) : Nat := if rkN cg c (ctN n) < b then (p - rb b (rkN cg c (ctN n))) % p else 0
/-- u is the first variable that can be taken -/
def Fu (n sz : Nat) (g : Nat → Nat) (v k u : Nat) : Prop := u < n ∧ 0 < exN (g k) u ∧ (∀ j, j < sz → g j ≠ g k - 2 ^ (24 - 8 * u) + 2 ^ (24 - 8 * v)) ∧ ∀ w, w < u → ¬ (0 < exN (g k) w ∧ ∀ j, j < sz → g j ≠ g k - 2 ^ (24 - 8 * w) + 2 ^ (24 - 8 * v))
def tP (T : Nat → Nat) (v k j : Nat) : Nat := T (1600 * v + 40 * k + j)
/-- row (v, k) of the table is as it must be -/
def PrR (p n sz : Nat) (cg g : Nat → Nat) (l : List Nat) (rb : Nat → Nat → Nat) (T : Nat → Nat) (v k : Nat) : Prop :=
  (∃ j, j < sz ∧ g j = g k + 2 ^ (24 - 8 * v) ∧ ∀ i, i < sz → tP T v k i = if i = j then 1 else 0) ∨
  ((∀ j, j < sz → g j ≠ g k + 2 ^ (24 - 8 * v)) ∧ ∃ b ∈ l, cg b = g k + 2 ^ (24 - 8 * v) ∧ ∀ i, i < sz → tP T v k i = tB p n cg rb b (g i)) ∨
  ((∀ j, j < sz → g j ≠ g k + 2 ^ (24 - 8 * v)) ∧ (∀ b ∈ l, cg b ≠ g k + 2 ^ (24 - 8 * v)) ∧ ∃ u k', Fu n sz g v k u ∧ k' < sz ∧ g k' + 2 ^ (24 - 8 * u) = g k ∧ ∀ i, i < sz → tP T v k i = sm sz (fun j => tP T v k' j * tP T u j i) % p)
/-- row (v, k) has only numbers modulo p, and only at monomials up to the product -/
def PrB (p ord sz : Nat) (g : Nat → Nat) (T : Nat → Nat) (v k : Nat) : Prop := ∀ j, j < sz → tP T v k j < p ∧ (tP T v k j ≠ 0 → keyN ord (g j) ≤ keyN ord (g k + 2 ^ (24 - 8 * v)))
/-- the key of a product -/
def pK (ord : Nat) (g : Nat → Nat) (v k : Nat) : Nat := keyN ord (g k + 2 ^ (24 - 8 * v))
theorem Fu.uniq {v k u u' : Nat} (h : Fu n sz g v k u) (h' : Fu n sz g v k u') : u = u' := by
  rcases Nat.lt_trichotomy u u' with q | q | q
  · exact absurd ⟨h.2.1, h.2.2.1⟩ (h'.2.2.2 u q)
  · exact q
  · exact absurd ⟨h'.2.1, h'.2.2.1⟩ (h.2.2.2 u' q)
/-- in the third case: what is read lies lower -/
theorem Rm.lesser (h : Rm p n ord cg l sz g rb) {v k u k' : Nat} (hv : v < n) (hk : k < sz) (hF : Fu n sz g v k u) (hk' : k' < sz) (e : g k' + 2 ^ (24 - 8 * u) = g k) :
    pK ord g v k' < pK ord g v k ∧ ∀ j, j < sz → keyN ord (g j) ≤ pK ord g v k' → pK ord g u j < pK ord g v k := by
  have hn4 := h.n4
  have hu4 : u < 4 := by have := hF.1; omega
  have hv4 : v < 4 := by omega
  have k1 : keyN ord (g k) = keyN ord (g k') + kvN ord u := by rw [← e]; exact h.up_key hk' hu4
  have hpos : 0 < kvN ord u := by
    unfold kvN
    have : 256 ^ u ≤ 256 ^ 3 := Nat.pow_le_pow_right (by decide) (by omega)
    have : (256 : Nat) ^ 3 = 16777216 := rfl
    split
    · omega
    · exact Nat.add_pos_left (by decide) _
  unfold pK
  rw [h.up_key hk' hv4, h.up_key hk hv4]
  refine ⟨by omega, fun j hj hle => ?_⟩
  rw [h.up_key hj hu4]
  have hne : g j ≠ g k' + 2 ^ (24 - 8 * v) := by
    have := hF.2.2.1 j hj
    intro q
    apply this
    omega
  have : keyN ord (g j) ≠ keyN ord (g k') + kvN ord v := by
    rw [← h.up_key hk' hv4]
    exact fun q => hne (keyN_inj (h.glt hj) (h.up_lt hk' hv4) q)
  omega
theorem PrR.same (h : Rm p n ord cg l sz g rb) {T T' : Nat → Nat} (hT : ∀ v k, v < n → k < sz → PrR p n sz cg g l rb T v k ∧ PrB p ord sz g T v k) (hT' : ∀ v k, v < n → k < sz → PrR p n sz cg g l rb T' v k ∧ PrB p ord sz g T' v k) :
    ∀ (K v k : Nat), pK ord g v k < K → v < n → k < sz → ∀ i, i < sz → tP T v k i = tP T' v k i := by
  intro K
  induction K with
  | zero => intro v k hK; omega
  | succ K ih =>
    intro v k hK hv hk i hi
    obtain ⟨a, ab⟩ := hT v k hv hk
    obtain ⟨a', ab'⟩ := hT' v k hv hk
    rcases a with ⟨j, j1, j2, j3⟩ | ⟨j1, b, b1, b2, b3⟩ | ⟨j1, j2, u, k', c1, c2, c3, c4⟩
    · rcases a' with ⟨j', j1', j2', j3'⟩ | ⟨j1', _⟩ | ⟨j1', _⟩
      · rw [j3 i hi, j3' i hi, h.ginj j j' j1 j1' (by rw [j2, j2'])]
      · exact absurd j2 (j1' j j1)
      · exact absurd j2 (j1' j j1)
    · rcases a' with ⟨j', j1', j2', j3'⟩ | ⟨j1', b', b1', b2', b3'⟩ | ⟨j1', j2', _⟩
      · exact absurd j2' (j1 j' j1')
      · rw [b3 i hi, b3' i hi, h.tinj b b' (h.bl b b1) (h.bl b' b1') (by rw [b2, b2'])]
      · exact absurd b2 (j2' b b1)
    · rcases a' with ⟨j', j1', j2', j3'⟩ | ⟨j1', b', b1', b2', b3'⟩ | ⟨j1', j2', u', k'', c1', c2', c3', c4'⟩
      · exact absurd j2' (j1 j' j1')
      · exact absurd b2' (j2 b' b1')
      · have eu := c1.uniq c1'
        subst eu
        have ek := h.ginj k' k'' c2 c2' (by omega)
        subst ek
        obtain ⟨l1, l2⟩ := h.lesser hv hk c1 c2 c3
        rw [c4 i hi, c4' i hi]
        refine congrArg (· % p) (sm_congr fun j hj => ?_)
        have e1 := ih v k' (by omega) hv c2 j hj
        rw [← e1]
        by_cases z : tP T v k' j = 0
        · rw [z, Nat.zero_mul, Nat.zero_mul]
        · have := l2 j hj (((hT v k' hv c2).2 j hj).2 z)
          rw [ih u j (by omega) c1.1 hj i hi]
end RM
