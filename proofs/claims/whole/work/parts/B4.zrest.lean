/-! THE REFERENCE'S LEFT-OVER MONOMIALS: findRest. -/
theorem ex_lt4 (c : Nat) : exN c 0 < 256 ∧ exN c 1 < 256 ∧ exN c 2 < 256 ∧ exN c 3 < 256 := ⟨exN_lt c 0, exN_lt c 1, exN_lt c 2, exN_lt c 3⟩
theorem ex_lin {c : Nat} (hc : c < 2 ^ 32) : c = exN c 0 * 16777216 + exN c 1 * 65536 + exN c 2 * 256 + exN c 3 := by
  have h := ex_cdN hc
  rw [cdN_lin] at h
  exact h
theorem lin_ex {x y z w : Nat} (hx : x < 256) (hy : y < 256) (hz : z < 256) (hw : w < 256) {c : Nat} (e : c = x * 16777216 + y * 65536 + z * 256 + w) : exN c 0 = x ∧ exN c 1 = y ∧ exN c 2 = z ∧ exN c 3 = w := by
  rw [← cdN_lin] at e
  rw [e]
  exact cdN_ex hx hy hz hw
theorem sub_dig {c v : Nat} (hc : c < 2 ^ 32) (hv : v < 4) : exN c v * 2 ^ (24 - 8 * v) ≤ c ∧ ∀ u, u < 4 → exN (c - exN c v * 2 ^ (24 - 8 * v)) u = if u = v then 0 else exN c u := by
  have hl := ex_lin hc
  obtain ⟨a0, a1, a2, a3⟩ := ex_lt4 c
  rcases (show v = 0 ∨ v = 1 ∨ v = 2 ∨ v = 3 by omega) with q | q | q | q <;> subst q
  · refine ⟨by show exN c 0 * 16777216 ≤ c; omega, fun u hu => ?_⟩
    have := lin_ex (x := 0) (by decide) a1 a2 a3 (show c - exN c 0 * 2 ^ (24 - 8 * 0) = _ by show c - exN c 0 * 16777216 = _; omega)
    rcases (show u = 0 ∨ u = 1 ∨ u = 2 ∨ u = 3 by omega) with r | r | r | r <;> subst r
    · rw [if_pos rfl]; exact this.1
    · rw [if_neg (by decide)]; exact this.2.1
    · rw [if_neg (by decide)]; exact this.2.2.1
    · rw [if_neg (by decide)]; exact this.2.2.2
  · refine ⟨by show exN c 1 * 65536 ≤ c; omega, fun u hu => ?_⟩
    have := lin_ex (y := 0) a0 (by decide) a2 a3 (show c - exN c 1 * 2 ^ (24 - 8 * 1) = _ by show c - exN c 1 * 65536 = _; omega)
    rcases (show u = 0 ∨ u = 1 ∨ u = 2 ∨ u = 3 by omega) with r | r | r | r <;> subst r
    · rw [if_neg (by decide)]; exact this.1
    · rw [if_pos rfl]; exact this.2.1
    · rw [if_neg (by decide)]; exact this.2.2.1
    · rw [if_neg (by decide)]; exact this.2.2.2
  · refine ⟨by show exN c 2 * 256 ≤ c; omega, fun u hu => ?_⟩
    have := lin_ex (z := 0) a0 a1 (by decide) a3 (show c - exN c 2 * 2 ^ (24 - 8 * 2) = _ by show c - exN c 2 * 256 = _; omega)
    rcases (show u = 0 ∨ u = 1 ∨ u = 2 ∨ u = 3 by omega) with r | r | r | r <;> subst r
    · rw [if_neg (by decide)]; exact this.1
    · rw [if_neg (by decide)]; exact this.2.1
    · rw [if_pos rfl]; exact this.2.2.1
    · rw [if_neg (by decide)]; exact this.2.2.2
  · refine ⟨by show exN c 3 * 1 ≤ c; omega, fun u hu => ?_⟩
    have := lin_ex (w := 0) a0 a1 a2 (by decide) (show c - exN c 3 * 2 ^ (24 - 8 * 3) = _ by show c - exN c 3 * 1 = _; omega)
    rcases (show u = 0 ∨ u = 1 ∨ u = 2 ∨ u = 3 by omega) with r | r | r | r <;> subst r
    · rw [if_neg (by decide)]; exact this.1
    · rw [if_neg (by decide)]; exact this.2.1
    · rw [if_neg (by decide)]; exact this.2.2.1
    · rw [if_pos rfl]; exact this.2.2.2
theorem odo_lead {e c v : Nat} (he : e < 2 ^ 32) (hc : c < 2 ^ 32) (hv : v < 4) (hz : ∀ u, v < u → u < 4 → exN e u = 0) (h1 : e ≤ c) (h2 : v = 0 ∨ c < e - exN e v * 2 ^ (24 - 8 * v) + 2 ^ (24 - 8 * (v - 1))) : ∀ u, u < 4 → exN e u ≤ exN c u := by
  have le := ex_lin he
  have lc := ex_lin hc
  obtain ⟨a0, a1, a2, a3⟩ := ex_lt4 e
  obtain ⟨b0, b1, b2, b3⟩ := ex_lt4 c
  intro u hu
  rcases (show v = 0 ∨ v = 1 ∨ v = 2 ∨ v = 3 by omega) with q | q | q | q <;> subst q
  · have z1 := hz 1 (by decide) (by decide)
    have z2 := hz 2 (by decide) (by decide)
    have z3 := hz 3 (by decide) (by decide)
    rcases (show u = 0 ∨ u = 1 ∨ u = 2 ∨ u = 3 by omega) with r | r | r | r <;> subst r <;> omega
  · have z2 := hz 2 (by decide) (by decide)
    have z3 := hz 3 (by decide) (by decide)
    have h3 : c < e - exN e 1 * 65536 + 16777216 := h2.resolve_left (by decide)
    rcases (show u = 0 ∨ u = 1 ∨ u = 2 ∨ u = 3 by omega) with r | r | r | r <;> subst r <;> omega
  · have z3 := hz 3 (by decide) (by decide)
    have h3 : c < e - exN e 2 * 256 + 65536 := h2.resolve_left (by decide)
    rcases (show u = 0 ∨ u = 1 ∨ u = 2 ∨ u = 3 by omega) with r | r | r | r <;> subst r <;> omega
  · have h3 : c < e - exN e 3 * 1 + 256 := h2.resolve_left (by decide)
    rcases (show u = 0 ∨ u = 1 ∨ u = 2 ∨ u = 3 by omega) with r | r | r | r <;> subst r <;> omega
theorem odo_first {e c n : Nat} (h1 : 1 ≤ n) (h4 : n ≤ 4) (he : e < 2 ^ 32) (hc : c < 2 ^ 32) (ze : ∀ u, n ≤ u → u < 4 → exN e u = 0) (zc : ∀ u, n ≤ u → u < 4 → exN c u = 0) : c < e + 1 ↔ c < e + 2 ^ (24 - 8 * (n - 1)) := by
  have le := ex_lin he
  have lc := ex_lin hc
  rcases (show n = 1 ∨ n = 2 ∨ n = 3 ∨ n = 4 by omega) with q | q | q | q <;> subst q
  · have z1 := ze 1 (by decide) (by decide)
    have z2 := ze 2 (by decide) (by decide)
    have z3 := ze 3 (by decide) (by decide)
    have y1 := zc 1 (by decide) (by decide)
    have y2 := zc 2 (by decide) (by decide)
    have y3 := zc 3 (by decide) (by decide)
    show c < e + 1 ↔ c < e + 16777216
    omega
  · have z2 := ze 2 (by decide) (by decide)
    have z3 := ze 3 (by decide) (by decide)
    have y2 := zc 2 (by decide) (by decide)
    have y3 := zc 3 (by decide) (by decide)
    show c < e + 1 ↔ c < e + 65536
    omega
  · have z3 := ze 3 (by decide) (by decide)
    have y3 := zc 3 (by decide) (by decide)
    show c < e + 1 ↔ c < e + 256
    omega
  · exact Iff.rfl
theorem ex_add_lt {e v : Nat} (he : e < 2 ^ 32) (hv : v < 4) (h : ∀ u, u < 4 → exN e u ≤ 100) : e + 2 ^ (24 - 8 * v) < 2 ^ 32 := by
  have le := ex_lin he
  have a0 := h 0 (by decide)
  have a1 := h 1 (by decide)
  have a2 := h 2 (by decide)
  have a3 := h 3 (by decide)
  rcases (show v = 0 ∨ v = 1 ∨ v = 2 ∨ v = 3 by omega) with q | q | q | q <;> subst q
  · show e + 16777216 < 2 ^ 32; omega
  · show e + 65536 < 2 ^ 32; omega
  · show e + 256 < 2 ^ 32; omega
  · show e + 1 < 2 ^ 32; omega
/-- the list so far -/
noncomputable def ZS (n ord : Nat) (cg : Nat → Nat) (l : List Nat) (e sz : Nat) (g : Nat → Nat) : Prop := ∃ L k, TabL ord L sz g k ∧ sz ≤ 40 ∧ ∀ c, c ∈ L ↔ NL n cg l c ∧ c < e
section ZREST
variable {F n ord : Nat} {cg bs : Nat → Nat} {l : List Nat}
theorem ZS.cast {e e' sz : Nat} {g : Nat → Nat} (h : ZS n ord cg l e sz g) (hee : ∀ c, NL n cg l c → (c < e ↔ c < e')) : ZS n ord cg l e' sz g := by
  obtain ⟨L, k, h1, h2, h3⟩ := h
  exact ⟨L, k, h1, h2, fun c => (h3 c).trans ⟨fun q => ⟨q.1, (hee c q.1).mp q.2⟩, fun q => ⟨q.1, (hee c q.1).mpr q.2⟩⟩⟩
theorem p_zr110 (hF : 4 < F) (hord : ord < 2) {e sz : Nat} (he : e < 2 ^ 32) (hsz : sz < 40) (g : Nat → Nat) (hg : ∀ j, j < sz → g j < 2 ^ 32) {mI nn i2 : Int32} {k90} : ∀ (a m : Nat), a ≤ sz → a < m →
    ∃ at_, at_ ≤ a ∧ (at_ = 0 ∨ keyN ord (g (at_ - 1)) ≤ keyN ord e) ∧ (∀ j, at_ ≤ j → j < a → keyN ord e < keyN ord (g j)) ∧
      b_zfindRest_110 F mI nn (nI ord) (nF cg) (nF bs) k90 m (nI e) i2 (nI a) (nI sz) (nF (movF g a sz)) = b_zfindRest_178 F mI nn (nI ord) (nF cg) (nF bs) k90 F (nI e) i2 (nn - 1) 1 (nI (sz + 1)) (nF (insF g at_ sz e)) := by
  have fin : ∀ a, a ≤ sz → s_zfindRest_150 F mI nn (nI ord) (nF cg) (nF bs) k90 (nI e) i2 (nI a) (nI sz) (nF (movF g a sz)) = b_zfindRest_178 F mI nn (nI ord) (nF cg) (nF bs) k90 F (nI e) i2 (nn - 1) 1 (nI (sz + 1)) (nF (insF g a sz e)) := by
    intro a ha
    unfold s_zfindRest_150
    rw [wrI_n (by omega) (by decide), show nI sz + 1 = nI (sz + 1) from nI_add sz 1, upd_nF, movF_end]
  intro a
  induction a with
  | zero =>
    intro m ha hm
    obtain ⟨m, rfl⟩ : ∃ q, m = q + 1 := ⟨m - 1, by omega⟩
    refine ⟨0, Nat.le_refl _, Or.inl rfl, fun j _ _ => by omega, ?_⟩
    show s_zfindRest_110 F mI nn (nI ord) (nF cg) (nF bs) k90 (b_zfindRest_110 F mI nn (nI ord) (nF cg) (nF bs) k90 m) (nI e) i2 (nI 0) (nI sz) _ = _
    unfold s_zfindRest_110
    rw [if_pos (by decide +kernel)]
    exact fin 0 (by omega)
  | succ a ih =>
    intro m ha hm
    obtain ⟨m, rfl⟩ : ∃ q, m = q + 1 := ⟨m - 1, by omega⟩
    have e1 : movF g (a + 1) sz a = g a := by unfold movF; rw [if_pos (by omega)]
    have step : b_zfindRest_110 F mI nn (nI ord) (nF cg) (nF bs) k90 (m + 1) (nI e) i2 (nI (a + 1)) (nI sz) (nF (movF g (a + 1) sz)) =
        if keyN ord e < keyN ord (g a) then b_zfindRest_110 F mI nn (nI ord) (nF cg) (nF bs) k90 m (nI e) i2 (nI a) (nI sz) (nF (movF g a sz)) else b_zfindRest_178 F mI nn (nI ord) (nF cg) (nF bs) k90 F (nI e) i2 (nn - 1) 1 (nI (sz + 1)) (nF (insF g (a + 1) sz e)) := by
      show s_zfindRest_110 F mI nn (nI ord) (nF cg) (nF bs) k90 (b_zfindRest_110 F mI nn (nI ord) (nF cg) (nF bs) k90 m) (nI e) i2 (nI (a + 1)) (nI sz) _ = _
      unfold s_zfindRest_110
      rw [if_neg (nI_nle (by omega) (by omega)), fin (a + 1) ha, show nI (a + 1) - 1 = nI a from pk_sub (show 1 ≤ a + 1 by omega), rdI_n (by omega) (by decide)]
      show bd1 (m_zgreater F (nI ord) (nI (movF g (a + 1) sz a)) (nI e)) _ = _
      rw [e1, p_zgreater hF hord (hg a (by omega)) he, bd1_n]
      by_cases h : keyN ord e < keyN ord (g a)
      · rw [if_pos h, gtN_1 h, if_neg (by decide), rdI_n (by omega) (by decide), wrI_n (by omega) (by decide), show nI (a + 1) + -1 = nI a from pk_m1 a]
        show b_zfindRest_110 F mI nn (nI ord) (nF cg) (nF bs) k90 m (nI e) i2 (nI a) (nI sz) (upd (nF (movF g (a + 1) sz)) (a + 1) (nI (movF g (a + 1) sz a))) = _
        rw [upd_nF]
        have s1 := movF_step g (a := a + 1) (cnt := sz) (by omega) ha
        rw [Nat.add_sub_cancel] at s1
        rw [s1]
      · rw [if_neg h, gtN_0 h, if_pos (by decide)]
    rw [step]
    by_cases h : keyN ord e < keyN ord (g a)
    · rw [if_pos h]
      obtain ⟨at_, h1, h2, h3, h4⟩ := ih m (by omega) (by omega)
      refine ⟨at_, by omega, h2, fun j hj hja => ?_, h4⟩
      by_cases hjq : j = a
      · rw [hjq]; exact h
      · exact h3 j hj (by omega)
    · rw [if_neg h]
      exact ⟨a + 1, Nat.le_refl _, Or.inr (by rw [Nat.add_sub_cancel]; omega), fun j _ _ => by omega, rfl⟩
theorem ZS.take (hF : 126 < F) (hord : ord < 2) {e sz : Nat} {g : Nat → Nat} (h : ZS n ord cg l e sz g) (he : NL n cg l e) (hsz : sz < 40) {mI nn i2 : Int32} {k90} :
    ∃ g', ZS n ord cg l (e + 1) (sz + 1) g' ∧ b_zfindRest_110 F mI nn (nI ord) (nF cg) (nF bs) k90 F (nI e) i2 (nI sz) (nI sz) (nF g) = b_zfindRest_178 F mI nn (nI ord) (nF cg) (nF bs) k90 F (nI e) i2 (nn - 1) 1 (nI (sz + 1)) (nF g') := by
  obtain ⟨L, k, h1, h2, h3⟩ := h
  have hno : e ∉ L := fun z => by have := ((h3 e).mp z).2; omega
  obtain ⟨at_, a1, a2, a3, a4⟩ := p_zr110 (F := F) (cg := cg) (bs := bs) (mI := mI) (nn := nn) (i2 := i2) (k90 := k90) (by omega) hord he.1 hsz g (fun j hj => h1.2.2.2.2.1 _ ((h1.2.2.2.1 _).mpr ⟨j, hj, rfl⟩)) sz F (Nat.le_refl _) (by omega)
  rw [movF_top] at a4
  refine ⟨_, ⟨L ++ [e], _, h1.add he.1 hno a1 ?_ ?_, by omega, fun c => ?_⟩, a4⟩
  · rcases a2 with a2 | a2
    · exact Or.inl a2
    · by_cases z : at_ = 0
      · exact Or.inl z
      · rw [h1.2.2.1 _ (by omega)]; exact Or.inr a2
  · intro j hj hjc
    rw [h1.2.2.1 _ hjc]; exact a3 j hj hjc
  · rw [List.mem_append, List.mem_singleton, h3]
    constructor
    · rintro (q | q)
      · exact ⟨q.1, by omega⟩
      · rw [q]; exact ⟨he, by omega⟩
    · intro q
      by_cases z : c = e
      · exact Or.inr z
      · exact Or.inl ⟨q.1, by omega⟩
theorem ZS.full {e sz : Nat} {g : Nat → Nat} (h : ZS n ord cg l e sz g) (he : NL n cg l e) (hsz : sz = 40) : Many n ord cg l := by
  obtain ⟨L, k, h1, h2, h3⟩ := h
  have hno : e ∉ L := fun z => by have := ((h3 e).mp z).2; omega
  obtain ⟨g', k', a⟩ := h1.more he.1 hno
  rw [hsz] at a
  refine ⟨_, g', k', a, fun c hc => ?_⟩
  rw [List.mem_append, List.mem_singleton, h3] at hc
  rcases hc with q | q
  · exact q.1
  · rw [q]; exact he
/-- the odometer goes on to the next one -/
theorem p_zr178 (hF : 200 < F) (h4 : n ≤ 4) (hA : Arr l bs) (hl : l.length ≤ 126) (hb : ∀ b ∈ l, b < 126 ∧ cg b < 2 ^ 32) {nn i2 : Int32} {k90} {sz : Nat} {g : Nat → Nat} : ∀ (v m e : Nat), v < n → v + 1 < m → e < 2 ^ 32 → (∀ u, u < 4 → exN e u ≤ 30) → (∀ u, v < u → u < 4 → exN e u = 0) → ZS n ord cg l (e + 2 ^ (24 - 8 * v)) sz g →
    (∃ e', NL n cg l e' ∧ ZS n ord cg l e' sz g ∧ b_zfindRest_178 F (nI l.length) nn (nI ord) (nF cg) (nF bs) k90 m (nI e) i2 (nI v) 1 (nI sz) (nF g) = k90 (nI e') i2 (nI sz) (nF g)) ∨
    (Few n ord cg l sz g ∧ b_zfindRest_178 F (nI l.length) nn (nI ord) (nF cg) (nF bs) k90 m (nI e) i2 (nI v) 1 (nI sz) (nF g) = some (1, nI sz, nF g)) := by
  intro v
  induction v with
  | zero =>
    intro m e hv hm he h30 hz hS
    obtain ⟨m, rfl⟩ : ∃ q, m = q + 1 := ⟨m - 1, by omega⟩
    obtain ⟨m, rfl⟩ : ∃ q, m = q + 1 := ⟨m - 1, by omega⟩
    have hlt := ex_add_lt he (show 0 < 4 by omega) (fun u hu => by have := h30 u hu; omega)
    have hex := fun u (hu : u < 4) => exN_add he (show 0 < 4 by omega) hu (by have := h30 0 (by omega); omega)
    generalize hee : e + 2 ^ (24 - 8 * 0) = e' at *
    have hsh : nI e + shlI 1 (24 - 8 * nI 0) = nI e' := by rw [sh_var 0 (by decide), nI_add, hee]
    have z' : ∀ u, 0 < u → u < 4 → exN e' u = 0 := fun u h1 h2 => by rw [hex u h2, hz u h1 h2, if_neg (by omega)]
    have step : b_zfindRest_178 F (nI l.length) nn (nI ord) (nF cg) (nF bs) k90 (m + 1 + 1) (nI e) i2 (nI 0) 1 (nI sz) (nF g) = if hlN cg l e' = 0 then k90 (nI e') i2 (nI sz) (nF g) else some (1, nI sz, nF g) := by
      show s_zfindRest_178 F (nI l.length) nn (nI ord) (nF cg) (nF bs) k90 (b_zfindRest_178 F (nI l.length) nn (nI ord) (nF cg) (nF bs) k90 (m + 1)) (nI e) i2 (nI 0) 1 (nI sz) (nF g) = _
      unfold s_zfindRest_178
      rw [if_neg (by decide), hsh, p_zleading hF hlt hA hl hb, bd1_n]
      rcases hlN_le cg l e' with q | q
      · rw [q, if_pos (show nI 0 = 0 from rfl), if_pos rfl]
        show s_zfindRest_178 F (nI l.length) nn (nI ord) (nF cg) (nF bs) k90 (b_zfindRest_178 F (nI l.length) nn (nI ord) (nF cg) (nF bs) k90 m) (nI e') i2 (nI 0) (nI 0) (nI sz) (nF g) = _
        unfold s_zfindRest_178
        rw [if_pos (show nI 0 = 0 from rfl)]
      · rw [q, if_neg (show ¬ nI 1 = 0 by decide +kernel), if_neg (by decide), p_zexponent F hlt (by decide), bd1_n, if_neg (by decide +kernel)]
    rw [step]
    rcases hlN_le cg l e' with q | q
    · rw [if_pos q]
      exact Or.inl ⟨e', ⟨hlt, fun u h1 h2 => z' u (by omega) h2, q⟩, hS, rfl⟩
    · rw [if_neg (by omega)]
      obtain ⟨L, k, s1, s2, s3⟩ := hS
      refine Or.inr ⟨⟨L, k, s1, s2, fun c => (s3 c).trans ⟨fun z => z.1, fun z => ⟨z, ?_⟩⟩⟩, rfl⟩
      rcases Nat.lt_or_ge c e' with y | y
      · exact y
      · exfalso
        have := hlN_mono (cg := cg) (l := l) (odo_lead hlt z.1 (by decide) z' y (Or.inl rfl)) z.2.2
        omega
  | succ v ih =>
    intro m e hv hm he h30 hz hS
    obtain ⟨m, rfl⟩ : ∃ q, m = q + 1 := ⟨m - 1, by omega⟩
    obtain ⟨m, rfl⟩ : ∃ q, m = q + 1 := ⟨m - 1, by omega⟩
    have hv4 : v + 1 < 4 := by omega
    have hlt := ex_add_lt he hv4 (fun u hu => by have := h30 u hu; omega)
    have hex := fun u (hu : u < 4) => exN_add he hv4 hu (by have := h30 (v + 1) (by omega); omega)
    generalize hee : e + 2 ^ (24 - 8 * (v + 1)) = e' at *
    have hsh : nI e + shlI 1 (24 - 8 * nI (v + 1)) = nI e' := by rw [sh_var (v + 1) hv4, nI_add, hee]
    have z' : ∀ u, v + 1 < u → u < 4 → exN e' u = 0 := fun u h1 h2 => by rw [hex u h2, hz u h1 h2, if_neg (by omega)]
    obtain ⟨d1, d2⟩ := sub_dig hlt hv4
    have hsh2 : nI e' - shlI (nI (exN e' (v + 1))) (24 - 8 * nI (v + 1)) = nI (e' - exN e' (v + 1) * 2 ^ (24 - 8 * (v + 1))) := by
      rw [exp_amt (v + 1) hv4, shlI_n (by omega) (by omega), pk_sub d1]
    generalize hff : e' - exN e' (v + 1) * 2 ^ (24 - 8 * (v + 1)) = f at *
    have step : b_zfindRest_178 F (nI l.length) nn (nI ord) (nF cg) (nF bs) k90 (m + 1 + 1) (nI e) i2 (nI (v + 1)) 1 (nI sz) (nF g) = if hlN cg l e' = 0 then k90 (nI e') i2 (nI sz) (nF g) else b_zfindRest_178 F (nI l.length) nn (nI ord) (nF cg) (nF bs) k90 (m + 1) (nI f) i2 (nI v) 1 (nI sz) (nF g) := by
      show s_zfindRest_178 F (nI l.length) nn (nI ord) (nF cg) (nF bs) k90 (b_zfindRest_178 F (nI l.length) nn (nI ord) (nF cg) (nF bs) k90 (m + 1)) (nI e) i2 (nI (v + 1)) 1 (nI sz) (nF g) = _
      unfold s_zfindRest_178
      rw [if_neg (by decide), hsh, p_zleading hF hlt hA hl hb, bd1_n]
      rcases hlN_le cg l e' with q | q
      · rw [q, if_pos (show nI 0 = 0 from rfl), if_pos rfl]
        show s_zfindRest_178 F (nI l.length) nn (nI ord) (nF cg) (nF bs) k90 (b_zfindRest_178 F (nI l.length) nn (nI ord) (nF cg) (nF bs) k90 m) (nI e') i2 (nI (v + 1)) (nI 0) (nI sz) (nF g) = _
        unfold s_zfindRest_178
        rw [if_pos (show nI 0 = 0 from rfl)]
      · rw [q, if_neg (show ¬ nI 1 = 0 by decide +kernel), if_neg (by decide), p_zexponent F hlt hv4, bd1_n, show nI (v + 1) + -1 = nI v from pk_m1 v, if_pos (show (0 : Int32) ≤ nI v from nI_le (Nat.zero_le v) (by omega)), hsh2]
        rfl
    rw [step]
    rcases hlN_le cg l e' with q | q
    · rw [if_pos q]
      exact Or.inl ⟨e', ⟨hlt, fun u h1 h2 => z' u (by omega) h2, q⟩, hS, rfl⟩
    · rw [if_neg (by omega)]
      refine ih (m + 1) f (by omega) (by omega) (by omega) (fun u hu => ?_) (fun u h1 h2 => ?_) (hS.cast fun c hc => ⟨fun z => ?_, fun z => ?_⟩)
      · rw [d2 u hu]
        by_cases y : u = v + 1
        · rw [if_pos y]; omega
        · rw [if_neg y, hex u hu, if_neg y]; exact h30 u hu
      · rw [d2 u h2]
        by_cases y : u = v + 1
        · rw [if_pos y]
        · rw [if_neg y]; exact z' u (by omega) h2
      · have hle : exN e' (v + 1) * 2 ^ (24 - 8 * (v + 1)) < 2 ^ (24 - 8 * v) := by
          have := exN_lt e' (v + 1)
          rcases (show v = 0 ∨ v = 1 ∨ v = 2 by omega) with y | y | y <;> subst y
          · show _ * 65536 < 16777216; omega
          · show _ * 256 < 65536; omega
          · show _ * 1 < 256; omega
        omega
      · rcases Nat.lt_or_ge c e' with y | y
        · exact y
        · exfalso
          have := hlN_mono (cg := cg) (l := l) (odo_lead hlt hc.1 hv4 z' y (Or.inr (by rw [hff]; exact z))) hc.2.2
          omega
theorem p_zr90 (hF : 200 < F) (h1 : 1 ≤ n) (h4 : n ≤ 4) (hord : ord < 2) (hA : Arr l bs) (hl : l.length ≤ 126) (hb : ∀ b ∈ l, b < 126 ∧ cg b < 2 ^ 32) (h30 : ∀ c, NL n cg l c → ∀ u, u < 4 → exN c u ≤ 30) : ∀ (d m e sz : Nat) (g : Nat → Nat), sz + d = 40 → d < m → NL n cg l e → ZS n ord cg l e sz g →
    ∃ r sz' g', b_zfindRest_90 F (nI l.length) (nI n) (nI ord) (nF cg) (nF bs) m (nI e) 1 (nI sz) (nF g) = some (nI r, nI sz', nF g') ∧ ((r = 1 ∧ Few n ord cg l sz' g') ∨ (r = 0 ∧ Many n ord cg l)) := by
  intro d
  induction d with
  | zero =>
    intro m e sz g hs hm he hS
    obtain ⟨m, rfl⟩ : ∃ q, m = q + 1 := ⟨m - 1, by omega⟩
    have q : sz = 40 := by omega
    refine ⟨0, sz, g, ?_, Or.inr ⟨rfl, hS.full he q⟩⟩
    show s_zfindRest_90 F (nI l.length) (nI n) (nI ord) (nF cg) (nF bs) (b_zfindRest_90 F (nI l.length) (nI n) (nI ord) (nF cg) (nF bs) m) (nI e) 1 (nI sz) (nF g) = _
    unfold s_zfindRest_90
    rw [if_neg (by decide), q, if_pos (by decide +kernel)]
    rfl
  | succ d ih =>
    intro m e sz g hs hm he hS
    obtain ⟨m, rfl⟩ : ∃ q, m = q + 1 := ⟨m - 1, by omega⟩
    obtain ⟨g1, a1, a2⟩ := hS.take (F := F) (bs := bs) (mI := nI l.length) (nn := nI n) (i2 := 1) (k90 := b_zfindRest_90 F (nI l.length) (nI n) (nI ord) (nF cg) (nF bs) m) (by omega) hord he (by omega)
    have step : b_zfindRest_90 F (nI l.length) (nI n) (nI ord) (nF cg) (nF bs) (m + 1) (nI e) 1 (nI sz) (nF g) = b_zfindRest_178 F (nI l.length) (nI n) (nI ord) (nF cg) (nF bs) (b_zfindRest_90 F (nI l.length) (nI n) (nI ord) (nF cg) (nF bs) m) F (nI e) 1 (nI (n - 1)) 1 (nI (sz + 1)) (nF g1) := by
      show s_zfindRest_90 F (nI l.length) (nI n) (nI ord) (nF cg) (nF bs) (b_zfindRest_90 F (nI l.length) (nI n) (nI ord) (nF cg) (nF bs) m) (nI e) 1 (nI sz) (nF g) = _
      unfold s_zfindRest_90
      rw [if_neg (by decide), if_neg (fun z => by
        have := (nI_eq (show sz < 2 ^ 31 by omega) (show 40 < 2 ^ 31 by decide)).mp z
        omega), a2, show nI n - 1 = nI (n - 1) from pk_sub h1]
    rw [step]
    rcases p_zr178 (F := F) (nn := nI n) (i2 := 1) (k90 := b_zfindRest_90 F (nI l.length) (nI n) (nI ord) (nF cg) (nF bs) m) hF h4 hA hl hb (n - 1) F e (by omega) (by omega) he.1 (h30 e he) (fun u h1 h2 => he.2.1 u (by omega) h2) (a1.cast fun c hc => odo_first h1 h4 he.1 hc.1 he.2.1 hc.2.1) with ⟨e', b1, b2, b3⟩ | ⟨b1, b2⟩
    · rw [b3]
      exact ih m e' (sz + 1) g1 (by omega) (by omega) b1 b2
    · rw [b2]
      exact ⟨1, sz + 1, g1, rfl, Or.inl ⟨rfl, b1⟩⟩
theorem p_zr19 (hA : Arr l bs) (hl : l.length ≤ 126) (hb : ∀ b ∈ l, b < 126 ∧ cg b < 2 ^ 32) {nn oI le : Int32} {rst : Nat → Int32} {k7} {v : Nat} (hv : v < 4) : ∀ (d m q f : Nat), q + d = l.length → d < m → (f = 0 ∨ f = 1) → (f = 1 ↔ ∃ j, j < q ∧ exN (cg (bs j)) v = degN (cg (bs j))) →
    (PP cg l v ∧ b_zfindRest_19 F (nI l.length) nn oI (nF cg) (nF bs) k7 m (nI v) (nI f) (nI q) le rst = k7 (nI (v + 1)) le rst) ∨ (¬ PP cg l v ∧ b_zfindRest_19 F (nI l.length) nn oI (nF cg) (nF bs) k7 m (nI v) (nI f) (nI q) le rst = some (0, le, rst)) := by
  intro d
  induction d with
  | zero =>
    intro m q f hq hm hf hff
    obtain ⟨m, rfl⟩ : ∃ t, m = t + 1 := ⟨m - 1, by omega⟩
    have hpp : PP cg l v ↔ f = 1 := by
      rw [hff]
      constructor
      · rintro ⟨b, h1, h2⟩
        obtain ⟨j, hj, e⟩ := (hA.mem b).mp h1
        exact ⟨j, by omega, by rw [e]; exact h2⟩
      · rintro ⟨j, h1, h2⟩
        exact ⟨bs j, (hA.mem _).mpr ⟨j, by omega, rfl⟩, h2⟩
    have step : b_zfindRest_19 F (nI l.length) nn oI (nF cg) (nF bs) k7 (m + 1) (nI v) (nI f) (nI q) le rst = if nI f = 0 then some (0, le, rst) else k7 (nI (v + 1)) le rst := by
      show s_zfindRest_19 F (nI l.length) nn oI (nF cg) (nF bs) k7 (b_zfindRest_19 F (nI l.length) nn oI (nF cg) (nF bs) k7 m) (nI v) (nI f) (nI q) le rst = _
      unfold s_zfindRest_19
      rw [if_pos (nI_le (by omega) (by omega)), show nI v + 1 = nI (v + 1) from nI_add v 1]
    rw [step, hpp]
    rcases hf with e | e
    · rw [e]; exact Or.inr ⟨by decide, if_pos rfl⟩
    · rw [e]; exact Or.inl ⟨rfl, if_neg (by decide +kernel)⟩
  | succ d ih =>
    intro m q f hq hm hf hff
    obtain ⟨m, rfl⟩ : ∃ t, m = t + 1 := ⟨m - 1, by omega⟩
    have hmem : bs q ∈ l := (hA.mem _).mpr ⟨q, by omega, rfl⟩
    have hb2 := hb _ hmem
    have l1 := exN_lt (cg (bs q)) v
    have l2 := degN_lt (cg (bs q))
    have step : b_zfindRest_19 F (nI l.length) nn oI (nF cg) (nF bs) k7 (m + 1) (nI v) (nI f) (nI q) le rst = b_zfindRest_19 F (nI l.length) nn oI (nF cg) (nF bs) k7 m (nI v) (nI (if exN (cg (bs q)) v = degN (cg (bs q)) then 1 else f)) (nI (q + 1)) le rst := by
      show s_zfindRest_19 F (nI l.length) nn oI (nF cg) (nF bs) k7 (b_zfindRest_19 F (nI l.length) nn oI (nF cg) (nF bs) k7 m) (nI v) (nI f) (nI q) le rst = _
      unfold s_zfindRest_19
      rw [if_neg (nI_ge (by omega) (by omega)), rdI_n (by omega) (by decide)]
      show rdI 126 (nF cg) (nI (bs q)) _ = _
      rw [rdI_n hb2.1 (by decide)]
      show bd1 (m_zexponent F (nI (cg (bs q))) (nI v)) _ = _
      rw [p_zexponent F hb2.2 hv, bd1_n]
      show bd1 (m_zdegreeOf F (nI (cg (bs q)))) _ = _
      rw [p_zdegreeOf F hb2.2, bd1_n, show nI q + 1 = nI (q + 1) from nI_add q 1]
      by_cases e : exN (cg (bs q)) v = degN (cg (bs q))
      · rw [if_pos e, if_pos (by rw [e])]; rfl
      · rw [if_neg e, if_neg (fun z => e ((nI_eq (by omega) (by omega)).mp z))]
    rw [step]
    refine ih m (q + 1) _ (by omega) (by omega) ?_ ?_
    · by_cases e : exN (cg (bs q)) v = degN (cg (bs q))
      · rw [if_pos e]; exact Or.inr rfl
      · rw [if_neg e]; exact hf
    · by_cases e : exN (cg (bs q)) v = degN (cg (bs q))
      · rw [if_pos e]; exact ⟨fun _ => ⟨q, by omega, e⟩, fun _ => rfl⟩
      · rw [if_neg e, hff]
        constructor
        · rintro ⟨j, h1, h2⟩; exact ⟨j, by omega, h2⟩
        · rintro ⟨j, h1, h2⟩
          refine ⟨j, ?_, h2⟩
          by_cases y : j = q
          · rw [y] at h2; exact absurd h2 e
          · omega
theorem p_zr7 (hF : 200 < F) (h1 : 1 ≤ n) (h4 : n ≤ 4) (hord : ord < 2) (hA : Arr l bs) (hl : l.length ≤ 126) (hb : ∀ b ∈ l, b < 126 ∧ cg b < 2 ^ 32 ∧ degN (cg b) ≤ 30) {g : Nat → Nat} : ∀ (d m v : Nat), v + d = n → d < m → (∀ u, u < v → PP cg l u) →
    ∃ r sz' g', b_zfindRest_7 F (nI l.length) (nI n) (nI ord) (nF cg) (nF bs) m (nI v) (nI 0) (nF g) = some (nI r, nI sz', nF g') ∧ ((r = 1 ∧ (∀ v, v < n → PP cg l v) ∧ hlN cg l 0 = 0 ∧ Few n ord cg l sz' g') ∨ (r = 0 ∧ ((∃ v, v < n ∧ ¬ PP cg l v) ∨ hlN cg l 0 = 1 ∨ Many n ord cg l))) := by
  have hb2 : ∀ b ∈ l, b < 126 ∧ cg b < 2 ^ 32 := fun b h => ⟨(hb b h).1, (hb b h).2.1⟩
  intro d
  induction d with
  | zero =>
    intro m v hv hm hpp
    obtain ⟨m, rfl⟩ : ∃ t, m = t + 1 := ⟨m - 1, by omega⟩
    have hpp2 : ∀ u, u < n → PP cg l u := fun u hu => hpp u (by omega)
    have step : b_zfindRest_7 F (nI l.length) (nI n) (nI ord) (nF cg) (nF bs) (m + 1) (nI v) (nI 0) (nF g) = if hlN cg l 0 = 0 then b_zfindRest_90 F (nI l.length) (nI n) (nI ord) (nF cg) (nF bs) F (nI 0) 1 (nI 0) (nF g) else b_zfindRest_90 F (nI l.length) (nI n) (nI ord) (nF cg) (nF bs) F 0 0 (nI 0) (nF g) := by
      show s_zfindRest_7 F (nI l.length) (nI n) (nI ord) (nF cg) (nF bs) (b_zfindRest_7 F (nI l.length) (nI n) (nI ord) (nF cg) (nF bs) m) (nI v) (nI 0) (nF g) = _
      unfold s_zfindRest_7
      rw [if_pos (nI_le (by omega) (by omega)), show m_zleading F (nI l.length) (nF cg) (nF bs) 0 = some (nI (hlN cg l 0)) from p_zleading hF (show 0 < 2 ^ 32 by decide) hA hl hb2, bd1_n]
      rcases hlN_le cg l 0 with q | q
      · rw [q, if_pos (show nI 0 = 0 from rfl), if_pos rfl]; rfl
      · rw [q, if_neg (show ¬ nI 1 = 0 by decide +kernel), if_neg (by decide)]
    rw [step]
    rcases hlN_le cg l 0 with q | q
    · rw [if_pos q]
      have h30 : ∀ c, NL n cg l c → ∀ u, u < 4 → exN c u ≤ 30 := by
        intro c hc u hu
        by_cases hun : u < n
        · obtain ⟨b, c1, c2⟩ := hpp2 u hun
          have := hc.pp hu c1 c2
          have := (hb b c1).2.2
          omega
        · rw [hc.2.1 u (by omega) hu]; omega
      have e0 : ∀ u, u < 4 → exN 0 u = 0 := by decide
      obtain ⟨r, sz', g', a1, a2⟩ := p_zr90 (F := F) hF h1 h4 hord hA hl hb2 h30 40 F 0 0 g (by omega) (by omega) ⟨by decide, fun u _ hu => e0 u hu, q⟩ ⟨[], fun _ => 0, ⟨rfl, fun _ _ _ q => absurd q (Nat.not_lt_zero _), fun _ q => absurd q (Nat.not_lt_zero _), fun c => ⟨fun q => absurd q List.not_mem_nil, fun ⟨_, q, _⟩ => absurd q (Nat.not_lt_zero _)⟩, fun c q => absurd q List.not_mem_nil, fun _ => Nat.two_pow_pos 63⟩, by decide, fun c => ⟨fun q => absurd q List.not_mem_nil, fun ⟨_, q⟩ => absurd q (Nat.not_lt_zero _)⟩⟩
      refine ⟨r, sz', g', a1, ?_⟩
      rcases a2 with ⟨x, y⟩ | ⟨x, y⟩
      · exact Or.inl ⟨x, hpp2, q, y⟩
      · exact Or.inr ⟨x, Or.inr (Or.inr y)⟩
    · rw [if_neg (by omega)]
      refine ⟨0, 0, g, ?_, Or.inr ⟨rfl, Or.inr (Or.inl q)⟩⟩
      obtain ⟨F', rfl⟩ : ∃ t, F = t + 1 := ⟨F - 1, by omega⟩
      show s_zfindRest_90 (F' + 1) (nI l.length) (nI n) (nI ord) (nF cg) (nF bs) (b_zfindRest_90 (F' + 1) (nI l.length) (nI n) (nI ord) (nF cg) (nF bs) F') 0 0 (nI 0) (nF g) = _
      unfold s_zfindRest_90
      rw [if_pos rfl, if_pos (by decide +kernel)]
      rfl
  | succ d ih =>
    intro m v hv hm hpp
    obtain ⟨m, rfl⟩ : ∃ t, m = t + 1 := ⟨m - 1, by omega⟩
    have step : b_zfindRest_7 F (nI l.length) (nI n) (nI ord) (nF cg) (nF bs) (m + 1) (nI v) (nI 0) (nF g) = b_zfindRest_19 F (nI l.length) (nI n) (nI ord) (nF cg) (nF bs) (b_zfindRest_7 F (nI l.length) (nI n) (nI ord) (nF cg) (nF bs) m) F (nI v) (nI 0) (nI 0) (nI 0) (nF g) := by
      show s_zfindRest_7 F (nI l.length) (nI n) (nI ord) (nF cg) (nF bs) (b_zfindRest_7 F (nI l.length) (nI n) (nI ord) (nF cg) (nF bs) m) (nI v) (nI 0) (nF g) = _
      unfold s_zfindRest_7
      rw [if_neg (nI_ge (by omega) (by omega))]
      rfl
    rw [step]
    rcases p_zr19 (F := F) (nn := nI n) (oI := nI ord) (le := nI 0) (rst := nF g) (k7 := b_zfindRest_7 F (nI l.length) (nI n) (nI ord) (nF cg) (nF bs) m) hA hl hb2 (show v < 4 by omega) l.length F 0 0 (by omega) (by omega) (Or.inl rfl) ⟨fun h => absurd h (by decide), fun ⟨j, h, _⟩ => absurd h (Nat.not_lt_zero _)⟩ with ⟨a1, a2⟩ | ⟨a1, a2⟩
    · rw [a2]
      exact ih m (v + 1) (by omega) (by omega) (fun u hu => by
        by_cases y : u = v
        · rw [y]; exact a1
        · exact hpp u (by omega))
    · rw [a2]
      exact ⟨0, 0, g, rfl, Or.inr ⟨rfl, Or.inl ⟨v, by omega, a1⟩⟩⟩
theorem p_zfindRest (hF : 200 < F) (h1 : 1 ≤ n) (h4 : n ≤ 4) (hord : ord < 2) (hA : Arr l bs) (hl : l.length ≤ 126) (hb : ∀ b ∈ l, b < 126 ∧ cg b < 2 ^ 32 ∧ degN (cg b) ≤ 30) {g : Nat → Nat} {le : Int32} :
    ∃ r sz' g', m_zfindRest F (nI l.length) (nI n) (nI ord) (nF cg) (nF bs) le (nF g) = some (nI r, nI sz', nF g') ∧ ((r = 1 ∧ (∀ v, v < n → PP cg l v) ∧ hlN cg l 0 = 0 ∧ Few n ord cg l sz' g') ∨ (r = 0 ∧ ((∃ v, v < n ∧ ¬ PP cg l v) ∨ hlN cg l 0 = 1 ∨ Many n ord cg l))) :=
  p_zr7 hF h1 h4 hord hA hl hb n F 0 (by omega) (by omega) (fun u hu => by omega)
end ZREST
