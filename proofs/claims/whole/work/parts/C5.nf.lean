/-! WHAT MONOMIALS COME TO (no machine here). -/
theorem php : ∀ (b a : Nat) (f : Nat → Nat), (∀ i, i < a → f i < b) → (∀ i j, i < a → j < a → f i = f j → i = j) → a ≤ b := by
  intro b
  induction b with
  | zero =>
    intro a f h _
    rcases Nat.eq_zero_or_pos a with q | q
    · omega
    · have := h 0 q; omega
  | succ b ih =>
    intro a f h hi
    by_cases q : ∃ i, i < a ∧ f i = b
    · obtain ⟨i0, h0, e0⟩ := q
      have := ih (a - 1) (fun i => if i < i0 then f i else f (i + 1)) (fun i hi2 => by
        show (if i < i0 then f i else f (i + 1)) < b
        by_cases z : i < i0
        · rw [if_pos z]
          have a1 := h i (by omega)
          have a2 : f i ≠ b := fun y => by have := hi i i0 (by omega) h0 (by rw [y, e0]); omega
          omega
        · rw [if_neg z]
          have a1 := h (i + 1) (by omega)
          have a2 : f (i + 1) ≠ b := fun y => by have := hi (i + 1) i0 (by omega) h0 (by rw [y, e0]); omega
          omega) (fun i j h1 h2 e => by
        by_cases z : i < i0 <;> by_cases y : j < i0
        · rw [if_pos z, if_pos y] at e; exact hi i j (by omega) (by omega) e
        · rw [if_pos z, if_neg y] at e; have := hi i (j + 1) (by omega) (by omega) e; omega
        · rw [if_neg z, if_pos y] at e; have := hi (i + 1) j (by omega) (by omega) e; omega
        · rw [if_neg z, if_neg y] at e; have := hi (i + 1) (j + 1) (by omega) (by omega) e; omega)
      omega
    · have := ih a f (fun i h1 => by
        have a1 := h i h1
        have a2 : f i ≠ b := fun y => q ⟨i, h1, y⟩
        omega) hi
      omega
theorem sm_cg {p n : Nat} {f g : Nat → Nat} (h : ∀ i, i < n → f i % p = g i % p) : sm n f % p = sm n g % p := by
  rw [← sm_mod p n f, ← sm_mod p n g, sm_congr h]
/-- what variable v makes of a row -/
def mvP (p sz : Nat) (T : Nat → Nat) (v : Nat) (a : Nat → Nat) : Nat → Nat := fun i => if i < sz then sm sz (fun j => a j * tP T v j i) % p else 0
def itP (p sz : Nat) (T : Nat → Nat) (v : Nat) : Nat → (Nat → Nat) → (Nat → Nat)
  | 0, a => a
  | t + 1, a => mvP p sz T v (itP p sz T v t a)
def e1P : Nat → Nat := fun j => if j = 0 then 1 else 0
def nfP (p sz : Nat) (T : Nat → Nat) (c : Nat) : Nat → Nat := itP p sz T 3 (exN c 3) (itP p sz T 2 (exN c 2) (itP p sz T 1 (exN c 1) (itP p sz T 0 (exN c 0) e1P)))
section NF
variable {p n sz : Nat} {T : Nat → Nat}
/-- the products commute -/
def Cm (p n sz : Nat) (T : Nat → Nat) : Prop := ∀ u v k i, u < n → v < n → k < sz → i < sz → sm sz (fun j => tP T v k j * tP T u j i) % p = sm sz (fun j => tP T u k j * tP T v j i) % p
theorem mvP_mvP (u v : Nat) (a : Nat → Nat) {i : Nat} (hi : i < sz) : mvP p sz T u (mvP p sz T v a) i = sm sz (fun k => a k * sm sz (fun j => tP T v k j * tP T u j i)) % p := by
  unfold mvP
  rw [if_pos hi]
  have e1 : sm sz (fun j => (if j < sz then sm sz (fun k => a k * tP T v k j) % p else 0) * tP T u j i) % p = sm sz (fun j => sm sz (fun k => a k * (tP T v k j * tP T u j i))) % p := by
    refine sm_cg fun j hj => ?_
    rw [if_pos hj, Nat.mul_mod, Nat.mod_mod, ← Nat.mul_mod, Nat.mul_comm, ← sm_mul]
    refine congrArg (· % p) (sm_congr fun k _ => ?_)
    rw [Nat.mul_comm, Nat.mul_assoc]
  rw [e1, sm_swap]
  refine congrArg (· % p) (sm_congr fun k _ => ?_)
  rw [← sm_mul]
theorem mvP_comm (h : Cm p n sz T) {u v : Nat} (hu : u < n) (hv : v < n) (a : Nat → Nat) : mvP p sz T u (mvP p sz T v a) = mvP p sz T v (mvP p sz T u a) := by
  funext i
  by_cases hi : i < sz
  · rw [mvP_mvP u v a hi, mvP_mvP v u a hi]
    refine sm_cg fun k hk => ?_
    rw [Nat.mul_mod, h u v k i hu hv hk hi, ← Nat.mul_mod]
  · unfold mvP
    rw [if_neg hi, if_neg hi]
theorem itP_mvP (h : Cm p n sz T) {u v : Nat} (hv : v < n) : ∀ t, (u < n ∨ t = 0) → ∀ a, itP p sz T u t (mvP p sz T v a) = mvP p sz T v (itP p sz T u t a) := by
  intro t
  induction t with
  | zero => intro _ a; rfl
  | succ t ih =>
    intro hu a
    have hu2 : u < n := by omega
    show mvP p sz T u (itP p sz T u t (mvP p sz T v a)) = mvP p sz T v (mvP p sz T u (itP p sz T u t a))
    rw [ih (Or.inl hu2), mvP_comm h hu2 hv]
theorem nfP_add (h : Cm p n sz T) {c v : Nat} (hc : c < 2 ^ 32) (h4 : n ≤ 4) (hv : v < n) (hz : ∀ u, n ≤ u → u < 4 → exN c u = 0) (h255 : exN c v < 255) : nfP p sz T (c + 2 ^ (24 - 8 * v)) = mvP p sz T v (nfP p sz T c) := by
  have hex := fun u (hu : u < 4) => exN_add hc (show v < 4 by omega) hu h255
  have hcase : ∀ u, u < 4 → u < n ∨ exN c u = 0 := fun u hu => by
    rcases Nat.lt_or_ge u n with q | q
    · exact Or.inl q
    · exact Or.inr (hz u q hu)
  unfold nfP
  rw [hex 0 (by decide), hex 1 (by decide), hex 2 (by decide), hex 3 (by decide)]
  rcases (show v = 0 ∨ v = 1 ∨ v = 2 ∨ v = 3 by omega) with q | q | q | q <;> subst q
  · rw [if_pos rfl, if_neg (by decide), if_neg (by decide), if_neg (by decide), Nat.add_zero, Nat.add_zero, Nat.add_zero]
    show itP p sz T 3 (exN c 3) (itP p sz T 2 (exN c 2) (itP p sz T 1 (exN c 1) (mvP p sz T 0 (itP p sz T 0 (exN c 0) e1P)))) = _
    rw [itP_mvP h hv _ (hcase 1 (by decide)), itP_mvP h hv _ (hcase 2 (by decide)), itP_mvP h hv _ (hcase 3 (by decide))]
  · rw [if_pos rfl, if_neg (by decide), if_neg (by decide), if_neg (by decide), Nat.add_zero, Nat.add_zero, Nat.add_zero]
    show itP p sz T 3 (exN c 3) (itP p sz T 2 (exN c 2) (mvP p sz T 1 (itP p sz T 1 (exN c 1) _))) = _
    rw [itP_mvP h hv _ (hcase 2 (by decide)), itP_mvP h hv _ (hcase 3 (by decide))]
    rfl
  · rw [if_pos rfl, if_neg (by decide), if_neg (by decide), if_neg (by decide), Nat.add_zero, Nat.add_zero, Nat.add_zero]
    show itP p sz T 3 (exN c 3) (mvP p sz T 2 (itP p sz T 2 (exN c 2) _)) = _
    rw [itP_mvP h hv _ (hcase 3 (by decide))]
    rfl
  · rw [if_pos rfl, if_neg (by decide), if_neg (by decide), if_neg (by decide), Nat.add_zero, Nat.add_zero, Nat.add_zero]
    rfl
/-- a row of numbers modulo p, up to sz -/
def Vc (p sz : Nat) (a : Nat → Nat) : Prop := ∀ j, a j < p ∧ (sz ≤ j → a j = 0)
theorem mvP_vc (hp : 0 < p) (v : Nat) (a : Nat → Nat) : Vc p sz (mvP p sz T v a) := by
  intro j
  unfold mvP
  by_cases q : j < sz
  · rw [if_pos q]; exact ⟨Nat.mod_lt _ hp, fun z => by omega⟩
  · rw [if_neg q]; exact ⟨hp, fun _ => rfl⟩
theorem itP_vc (hp : 0 < p) (v : Nat) {a : Nat → Nat} (ha : Vc p sz a) : ∀ t, Vc p sz (itP p sz T v t a) := by
  intro t
  cases t with
  | zero => exact ha
  | succ t => exact mvP_vc hp v _
theorem e1P_vc (hp : 2 ≤ p) (h0 : 0 < sz) : Vc p sz e1P := by
  intro j
  unfold e1P
  by_cases q : j = 0
  · rw [if_pos q]; exact ⟨by omega, fun z => by omega⟩
  · rw [if_neg q]; exact ⟨by omega, fun _ => rfl⟩
theorem nfP_vc (hp : 2 ≤ p) (h0 : 0 < sz) (c : Nat) : Vc p sz (nfP p sz T c) := itP_vc (by omega) _ (itP_vc (by omega) _ (itP_vc (by omega) _ (itP_vc (by omega) _ (e1P_vc hp h0) _) _) _) _
theorem nfP_0 : nfP p sz T 0 = e1P := rfl
theorem mvP_congr {T' : Nat → Nat} (h : ∀ v k i, v < n → k < sz → i < sz → tP T v k i = tP T' v k i) {v : Nat} (hv : v < n) (a : Nat → Nat) : mvP p sz T v a = mvP p sz T' v a := by
  funext i
  unfold mvP
  by_cases q : i < sz
  · rw [if_pos q, if_pos q]
    exact congrArg (· % p) (sm_congr fun j hj => by rw [h v j i hv hj q])
  · rw [if_neg q, if_neg q]
theorem itP_congr {T' : Nat → Nat} (h : ∀ v k i, v < n → k < sz → i < sz → tP T v k i = tP T' v k i) {v : Nat} : ∀ t, (v < n ∨ t = 0) → ∀ a, itP p sz T v t a = itP p sz T' v t a := by
  intro t
  induction t with
  | zero => intro _ a; rfl
  | succ t ih =>
    intro hv a
    have hv2 : v < n := by omega
    show mvP p sz T v _ = mvP p sz T' v _
    rw [ih (Or.inl hv2), mvP_congr h hv2]
theorem nfP_congr {T' : Nat → Nat} (h : ∀ v k i, v < n → k < sz → i < sz → tP T v k i = tP T' v k i) {c : Nat} (hz : ∀ u, n ≤ u → u < 4 → exN c u = 0) : nfP p sz T c = nfP p sz T' c := by
  have hcase : ∀ u, u < 4 → u < n ∨ exN c u = 0 := fun u hu => by
    rcases Nat.lt_or_ge u n with q | q
    · exact Or.inl q
    · exact Or.inr (hz u q hu)
  unfold nfP
  rw [itP_congr h _ (hcase 0 (by decide)), itP_congr h _ (hcase 1 (by decide)), itP_congr h _ (hcase 2 (by decide)), itP_congr h _ (hcase 3 (by decide))]
end NF
/-- the codes of monomials in n variables -/
def Cd (n c : Nat) : Prop := c < 2 ^ 32 ∧ ∀ u, n ≤ u → u < 4 → exN c u = 0
/-- no member of the list divides c -/
def NB (H : List Nat) (c : Nat) : Prop := ∀ h ∈ H, ¬ ∀ u, u < 4 → exN h u ≤ exN c u
theorem NB.mono {H : List Nat} {c c' : Nat} (h : NB H c') (hd : ∀ u, u < 4 → exN c u ≤ exN c' u) : NB H c := fun a ha q => h a ha (fun u hu => Nat.le_trans (q u hu) (hd u hu))
theorem div_le {a b : Nat} (ha : a < 2 ^ 32) (hb : b < 2 ^ 32) (h : ∀ u, u < 4 → exN a u ≤ exN b u) : a ≤ b := by
  have la := ex_lin ha
  have lb := ex_lin hb
  have h0 := h 0 (by decide)
  have h1 := h 1 (by decide)
  have h2 := h 2 (by decide)
  have h3 := h 3 (by decide)
  omega
/-- the state of the run: words W, heads H; all of them up to 'last' are told -/
def DI (n : Nat) (W H : List Nat) (last : Nat) : Prop :=
  (∀ c ∈ W, Cd n c) ∧
  (∀ c ∈ H, Cd n c) ∧
  (∀ c ∈ W, c ≤ last) ∧
  (∀ c ∈ H, c ≤ last) ∧
  (∀ i j (hi : i < W.length) (hj : j < W.length), i < j → W[i] < W[j]) ∧
  (∀ c, Cd n c → c ≤ last → (NB H c ↔ c ∈ W))
theorem DI.wcd {n : Nat} {W H : List Nat} {last : Nat} (h : DI n W H last) : ∀ c ∈ W, Cd n c := h.1
theorem DI.hcd {n : Nat} {W H : List Nat} {last : Nat} (h : DI n W H last) : ∀ c ∈ H, Cd n c := h.2.1
theorem DI.wle {n : Nat} {W H : List Nat} {last : Nat} (h : DI n W H last) : ∀ c ∈ W, c ≤ last := h.2.2.1
theorem DI.hle {n : Nat} {W H : List Nat} {last : Nat} (h : DI n W H last) : ∀ c ∈ H, c ≤ last := h.2.2.2.1
theorem DI.inc {n : Nat} {W H : List Nat} {last : Nat} (h : DI n W H last) : ∀ i j (hi : i < W.length) (hj : j < W.length), i < j → W[i] < W[j] := h.2.2.2.2.1
theorem DI.all {n : Nat} {W H : List Nat} {last : Nat} (h : DI n W H last) : ∀ c, Cd n c → c ≤ last → (NB H c ↔ c ∈ W) := h.2.2.2.2.2
section DI
variable {n last : Nat} {W H : List Nat}
/-- the least code that no head divides is a variable times a word -/
theorem DI.prod (h : DI n W H last) (h4 : n ≤ 4) {e : Nat} (he : Cd n e) (hl : last < e) (hnb : NB H e) (hmin : ∀ c, Cd n c → last < c → c < e → ¬ NB H c) : ∃ v w, v < n ∧ w ∈ W ∧ e = w + 2 ^ (24 - 8 * v) := by
  have hex : ∃ u, u < 4 ∧ 0 < exN e u := by
    refine Classical.byContradiction fun q => ?_
    have := ex_lin he.1
    have z : ∀ u, u < 4 → exN e u = 0 := fun u hu => by
      rcases Nat.eq_zero_or_pos (exN e u) with y | y
      · exact y
      · exact absurd ⟨u, hu, y⟩ q
    rw [z 0 (by decide), z 1 (by decide), z 2 (by decide), z 3 (by decide)] at this
    omega
  obtain ⟨u, hu, hpos⟩ := hex
  have hun : u < n := by
    rcases Nat.lt_or_ge u n with q | q
    · exact q
    · have := he.2 u q hu; omega
  obtain ⟨s1, s2⟩ := sub_var he.1 hu hpos
  have hpow := Nat.two_pow_pos (24 - 8 * u)
  have hcd : Cd n (e - 2 ^ (24 - 8 * u)) := ⟨Nat.lt_of_le_of_lt (Nat.sub_le _ _) he.1, fun w h1 h2 => by rw [s2 w h2, he.2 w h1 h2, Nat.zero_sub]⟩
  have hnb2 : NB H (e - 2 ^ (24 - 8 * u)) := hnb.mono (fun w hw => by rw [s2 w hw]; exact Nat.sub_le _ _)
  have hlt : e - 2 ^ (24 - 8 * u) < e := Nat.sub_lt (Nat.lt_of_lt_of_le hpow s1) hpow
  have hle : e - 2 ^ (24 - 8 * u) ≤ last := by
    rcases Nat.lt_or_ge last (e - 2 ^ (24 - 8 * u)) with q | q
    · exact absurd hnb2 (hmin _ hcd q hlt)
    · exact q
  exact ⟨u, _, hun, (h.all _ hcd hle).mp hnb2, (Nat.sub_add_cancel s1).symm⟩
/-- no word's exponent comes over its place -/
theorem DI.small (h : DI n W H last) {u : Nat} (hu : u < 4) : ∀ (s : Nat) (hs : s < W.length), exN W[s] u ≤ s := by
  intro s
  induction s using Nat.strongRecOn with
  | ind s ih =>
    intro hs
    rcases Nat.eq_zero_or_pos (exN W[s] u) with q | q
    · omega
    · have hm : W[s] ∈ W := List.getElem_mem hs
      have hcd := h.wcd _ hm
      obtain ⟨s1, s2⟩ := sub_var hcd.1 hu q
      have hpow := Nat.two_pow_pos (24 - 8 * u)
      have hcd2 : Cd n (W[s] - 2 ^ (24 - 8 * u)) := ⟨Nat.lt_of_le_of_lt (Nat.sub_le _ _) hcd.1, fun w h1 h2 => by rw [s2 w h2, hcd.2 w h1 h2, Nat.zero_sub]⟩
      have hlt : W[s] - 2 ^ (24 - 8 * u) < W[s] := Nat.sub_lt (Nat.lt_of_lt_of_le hpow s1) hpow
      have hle := h.wle _ hm
      have hnb := (h.all _ hcd hle).mpr hm
      have hm2 := (h.all _ hcd2 (by omega)).mp (hnb.mono (fun w hw => by rw [s2 w hw]; exact Nat.sub_le _ _))
      obtain ⟨s', hs', e⟩ := List.mem_iff_getElem.mp hm2
      have hss : s' < s := by
        rcases Nat.lt_trichotomy s' s with y | y | y
        · exact y
        · subst y; omega
        · have := h.inc s s' hs hs' y; omega
      have := ih s' hss hs'
      rw [e, s2 u hu, if_pos rfl] at this
      omega
theorem DI.head (h : DI n W H last) {e : Nat} (he : Cd n e) (hl : last < e) (hmin : ∀ c, Cd n c → last < c → c < e → ¬ NB H c) : DI n W (H ++ [e]) e := by
  refine ⟨h.wcd, fun c hc => ?_, fun c hc => by have := h.wle c hc; omega, fun c hc => ?_, h.inc, fun c hc hle => ?_⟩
  · rw [List.mem_append, List.mem_singleton] at hc
    rcases hc with q | q
    · exact h.hcd c q
    · rw [q]; exact he
  · rw [List.mem_append, List.mem_singleton] at hc
    rcases hc with q | q
    · have := h.hle c q; omega
    · omega
  · have hnb : NB (H ++ [e]) c ↔ NB H c ∧ ¬ ∀ u, u < 4 → exN e u ≤ exN c u := by
      constructor
      · intro q; exact ⟨fun a ha => q a (List.mem_append.mpr (Or.inl ha)), q e (List.mem_append.mpr (Or.inr List.mem_cons_self))⟩
      · rintro ⟨q1, q2⟩ a ha
        rw [List.mem_append, List.mem_singleton] at ha
        rcases ha with y | y
        · exact q1 a y
        · rw [y]; exact q2
    rw [hnb]
    constructor
    · rintro ⟨q1, q2⟩
      rcases Nat.lt_or_ge last c with y | y
      · by_cases z : c = e
        · exact absurd (fun u hu => by rw [z]; exact Nat.le_refl _) q2
        · exact absurd q1 (hmin c hc y (by omega))
      · exact (h.all c hc y).mp q1
    · intro q
      have hcl := h.wle c q
      exact ⟨(h.all c hc hcl).mpr q, fun z => by have := div_le he.1 hc.1 z; omega⟩
theorem DI.word (h : DI n W H last) {e : Nat} (he : Cd n e) (hl : last < e) (hnb : NB H e) (hmin : ∀ c, Cd n c → last < c → c < e → ¬ NB H c) : DI n (W ++ [e]) H e := by
  refine ⟨fun c hc => ?_, h.hcd, fun c hc => ?_, fun c hc => by have := h.hle c hc; omega, fun i j hi hj hij => ?_, fun c hc hle => ?_⟩
  · rw [List.mem_append, List.mem_singleton] at hc
    rcases hc with q | q
    · exact h.wcd c q
    · rw [q]; exact he
  · rw [List.mem_append, List.mem_singleton] at hc
    rcases hc with q | q
    · have := h.wle c q; omega
    · omega
  · have hlen : (W ++ [e]).length = W.length + 1 := by rw [List.length_append]; rfl
    by_cases z : j < W.length
    · rw [List.getElem_append_left (show i < W.length by omega), List.getElem_append_left z]
      exact h.inc i j _ _ hij
    · have ej : j = W.length := by omega
      subst ej
      rw [List.getElem_append_left (show i < W.length by omega), List.getElem_append_right (Nat.le_refl _)]
      have := h.wle W[i] (List.getElem_mem _)
      simp
      omega
  · rw [List.mem_append, List.mem_singleton]
    constructor
    · intro q
      rcases Nat.lt_or_ge last c with y | y
      · by_cases z : c = e
        · exact Or.inr z
        · exact absurd q (hmin c hc y (by omega))
      · exact Or.inl ((h.all c hc y).mp q)
    · rintro (q | q)
      · exact (h.all c hc (h.wle c q)).mpr q
      · rw [q]; exact hnb
theorem DI.skip (h : DI n W H last) {e : Nat} (hl : last < e) (hmin : ∀ c, Cd n c → last < c → c ≤ e → ¬ NB H c) : DI n W H e := by
  refine ⟨h.wcd, h.hcd, fun c hc => by have := h.wle c hc; omega, fun c hc => by have := h.hle c hc; omega, h.inc, fun c hc hle => ?_⟩
  rcases Nat.lt_or_ge last c with y | y
  · exact ⟨fun q => absurd q (hmin c hc y hle), fun q => by have := h.wle c q; omega⟩
  · exact h.all c hc y
end DI
