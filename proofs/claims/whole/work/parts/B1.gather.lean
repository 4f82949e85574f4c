/-! THE CLASS'S LEFT-OVER MONOMIALS: gather. -/
theorem TabL.spot {ord cnt : Nat} {l : List Nat} {cg kg : Nat → Nat} (key : Nat) : ∀ a, a ≤ cnt → (∀ j, a ≤ j → j < cnt → key < kg j) →
    ∃ at_, at_ ≤ cnt ∧ (at_ = 0 ∨ kg (at_ - 1) ≤ key) ∧ ∀ j, at_ ≤ j → j < cnt → key < kg j := by
  intro a
  induction a with
  | zero => intro ha h; exact ⟨0, Nat.zero_le _, Or.inl rfl, h⟩
  | succ a ih =>
    intro ha h
    by_cases e : kg a ≤ key
    · exact ⟨a + 1, ha, Or.inr (by rw [Nat.add_sub_cancel]; exact e), h⟩
    · refine ih (by omega) (fun j hj hjc => ?_)
      by_cases q : j = a
      · rw [q]; omega
      · exact h j (by omega) hjc
theorem TabL.more {ord cnt code : Nat} {l : List Nat} {cg kg : Nat → Nat} (h : TabL ord l cnt cg kg) (hcode : code < 2 ^ 32) (hnew : code ∉ l) : ∃ cg' kg', TabL ord (l ++ [code]) (cnt + 1) cg' kg' := by
  obtain ⟨at_, h1, h2, h3⟩ := TabL.spot (ord := ord) (cnt := cnt) (l := l) (cg := cg) (kg := kg) (keyN ord code) cnt (Nat.le_refl _) (fun j _ _ => by omega)
  exact ⟨_, _, h.add hcode hnew h1 h2 h3⟩
theorem TabL.sub_le {ord cnt cnt' : Nat} {l l' : List Nat} {cg kg cg' kg' : Nat → Nat} (h : TabL ord l cnt cg kg) (h' : TabL ord l' cnt' cg' kg') (hs : ∀ c, c ∈ l → c ∈ l') : cnt ≤ cnt' := by
  have key : ∀ j, j < cnt → ∃ i, j ≤ i ∧ i < cnt' ∧ cg' i = cg j := by
    intro j
    induction j with
    | zero =>
      intro hj
      obtain ⟨i, hi, e⟩ := (h'.2.2.2.1 _).mp (hs _ ((h.2.2.2.1 _).mpr ⟨0, hj, rfl⟩))
      exact ⟨i, Nat.zero_le _, hi, e⟩
    | succ j ih =>
      intro hj
      obtain ⟨i, hji, hi, e⟩ := ih (by omega)
      obtain ⟨i', hi', e'⟩ := (h'.2.2.2.1 _).mp (hs _ ((h.2.2.2.1 _).mpr ⟨j + 1, hj, rfl⟩))
      refine ⟨i', ?_, hi', e'⟩
      have k1 := h.2.1 j (j + 1) (by omega) hj
      rw [h.2.2.1 _ (by omega), h.2.2.1 _ hj, ← e, ← e', ← h'.2.2.1 _ hi, ← h'.2.2.1 _ hi'] at k1
      rcases Nat.lt_or_ge i i' with q | q
      · omega
      · exfalso
        rcases Nat.lt_or_ge i' i with q2 | q2
        · have := h'.2.1 i' i q2 hi; omega
        · have : i = i' := by omega
          rw [this] at k1; omega
  rcases Nat.lt_or_ge cnt' cnt with q | q
  · obtain ⟨i, h1, h2, _⟩ := key cnt' q
    omega
  · exact q
/-- not led by the basis -/
noncomputable def NL (n : Nat) (cg : Nat → Nat) (l : List Nat) (c : Nat) : Prop := c < 2 ^ 32 ∧ (∀ v, n ≤ v → v < 4 → exN c v = 0) ∧ hlN cg l c = 0
/-- variable v has a pure power among the leads of the basis -/
def PP (cg : Nat → Nat) (l : List Nat) (v : Nat) : Prop := ∃ b ∈ l, exN (cg b) v = degN (cg b)
noncomputable def Many (n ord : Nat) (cg : Nat → Nat) (l : List Nat) : Prop := ∃ L g k, TabL ord L 41 g k ∧ ∀ c ∈ L, NL n cg l c
noncomputable def Few (n ord : Nat) (cg : Nat → Nat) (l : List Nat) (sz : Nat) (g : Nat → Nat) : Prop := ∃ L k, TabL ord L sz g k ∧ sz ≤ 40 ∧ ∀ c, c ∈ L ↔ NL n cg l c
theorem Few.many {n ord sz : Nat} {cg g : Nat → Nat} {l : List Nat} (h : Few n ord cg l sz g) (h' : Many n ord cg l) : False := by
  obtain ⟨L, k, h1, h2, h3⟩ := h
  obtain ⟨L', g', k', a, b⟩ := h'
  have := a.sub_le h1 (fun c hc => (h3 c).mpr (b c hc))
  omega
theorem Few.same {n ord sz sz' : Nat} {cg g g' : Nat → Nat} {l : List Nat} (h : Few n ord cg l sz g) (h' : Few n ord cg l sz' g') : sz = sz' ∧ ∀ j, j < sz → g j = g' j := by
  obtain ⟨L, k, h1, h2, h3⟩ := h
  obtain ⟨L', k', a, b, c⟩ := h'
  have hm : ∀ x, x ∈ L ↔ x ∈ L' := fun x => (h3 x).trans (c x).symm
  have e1 := h1.sub_le a (fun x hx => (hm x).mp hx)
  have e2 := a.sub_le h1 (fun x hx => (hm x).mpr hx)
  exact ⟨by omega, fun j hj => Tab_same h1 a hm j hj (by omega)⟩
theorem hlN_0 {cg : Nat → Nat} {l : List Nat} {c : Nat} : hlN cg l c = 0 ↔ ∀ b ∈ l, dvN 0 (cg b) c ≠ 1 := by
  unfold hlN
  split
  · rename_i h; exact ⟨fun _ => h, fun _ => rfl⟩
  · rename_i h; exact ⟨fun q => absurd q (by decide), fun q => absurd q h⟩
theorem hlN_le (cg : Nat → Nat) (l : List Nat) (c : Nat) : hlN cg l c = 0 ∨ hlN cg l c = 1 := by
  unfold hlN
  split
  · exact Or.inl rfl
  · exact Or.inr rfl
theorem dvN_iff {a c : Nat} : dvN 0 a c = 1 ↔ ∀ u, u < 4 → exN a u ≤ exN c u := by
  constructor
  · intro h u hu
    refine Classical.byContradiction fun q => ?_
    rw [dvN_0 (fun z => q (z u (Nat.zero_le _) hu))] at h
    exact absurd h (by decide)
  · intro h; exact dvN_1 (fun u _ hu => h u hu)
theorem hlN_mono {cg : Nat → Nat} {l : List Nat} {c c' : Nat} (h : ∀ u, u < 4 → exN c u ≤ exN c' u) (h' : hlN cg l c' = 0) : hlN cg l c = 0 := by
  rw [hlN_0] at h' ⊢
  intro b hb q
  exact h' b hb (dvN_iff.mpr fun u hu => Nat.le_trans (dvN_iff.mp q u hu) (h u hu))
theorem pure_ex {c v : Nat} (hv : v < 4) (h : exN c v = degN c) (u : Nat) (hu : u < 4) (hne : u ≠ v) : exN c u = 0 := by
  unfold degN at h
  rcases (show v = 0 ∨ v = 1 ∨ v = 2 ∨ v = 3 by omega) with q | q | q | q <;> rcases (show u = 0 ∨ u = 1 ∨ u = 2 ∨ u = 3 by omega) with r | r | r | r <;> subst q <;> subst r <;> omega
theorem NL.pp {n : Nat} {cg : Nat → Nat} {l : List Nat} {c : Nat} (h : NL n cg l c) {b v : Nat} (hv : v < 4) (hb : b ∈ l) (e : exN (cg b) v = degN (cg b)) : exN c v < degN (cg b) := by
  rcases Nat.lt_or_ge (exN c v) (degN (cg b)) with q | q
  · exact q
  · exfalso
    refine hlN_0.mp h.2.2 b hb (dvN_iff.mpr fun u hu => ?_)
    by_cases z : u = v
    · rw [z, e]; exact q
    · rw [pure_ex hv e u hu z]; exact Nat.zero_le _
section GATHER
variable {F n ord : Nat} {cg bs : Nat → Nat} {l : List Nat}
theorem p_purePower_l (hA : Arr l bs) (hl : l.length ≤ 126) (hb : ∀ b ∈ l, b < 126 ∧ cg b < 2 ^ 32) {v : Nat} (hv : v < 4) : ∀ (d m i : Nat), i + d = l.length → d < m → (∀ j, j < i → exN (cg (bs j)) v ≠ degN (cg (bs j))) →
    (∃ b ∈ l, exN (cg b) v = degN (cg b) ∧ b_purePower_2 F (nI l.length) (nF cg) (nF bs) m (nI v) (nI i) = some (nI (degN (cg b)))) ∨
    (¬ PP cg l v ∧ b_purePower_2 F (nI l.length) (nF cg) (nF bs) m (nI v) (nI i) = some (-1)) := by
  intro d
  induction d with
  | zero =>
    intro m i hi hm hno
    obtain ⟨m, rfl⟩ : ∃ q, m = q + 1 := ⟨m - 1, by omega⟩
    refine Or.inr ⟨?_, ?_⟩
    · rintro ⟨b, h1, h2⟩
      obtain ⟨q, hq, e⟩ := (hA.mem b).mp h1
      rw [← e] at h2
      exact hno q (by omega) h2
    · show s_purePower_2 F (nI l.length) (nF cg) (nF bs) (b_purePower_2 F (nI l.length) (nF cg) (nF bs) m) (nI v) (nI i) = _
      unfold s_purePower_2
      rw [if_pos (nI_le (by omega) (by omega))]
  | succ d ih =>
    intro m i hi hm hno
    obtain ⟨m, rfl⟩ : ∃ q, m = q + 1 := ⟨m - 1, by omega⟩
    have hm2 : bs i ∈ l := (hA.mem _).mpr ⟨i, by omega, rfl⟩
    have hb2 := hb _ hm2
    have step : b_purePower_2 F (nI l.length) (nF cg) (nF bs) (m + 1) (nI v) (nI i) = if exN (cg (bs i)) v = degN (cg (bs i)) then some (nI (degN (cg (bs i)))) else b_purePower_2 F (nI l.length) (nF cg) (nF bs) m (nI v) (nI (i + 1)) := by
      show s_purePower_2 F (nI l.length) (nF cg) (nF bs) (b_purePower_2 F (nI l.length) (nF cg) (nF bs) m) (nI v) (nI i) = _
      unfold s_purePower_2
      rw [if_neg (nI_ge (by omega) (by omega)), rdI_n (by omega) (by decide)]
      show rdI 126 (nF cg) (nI (bs i)) _ = _
      rw [rdI_n hb2.1 (by decide)]
      show bd1 (m_exponent F (nI (cg (bs i))) (nI v)) _ = _
      rw [p_exponent F hb2.2 hv, bd1_n]
      show bd1 (m_degree F (nI (cg (bs i)))) _ = _
      rw [p_degree F hb2.2, bd1_n]
      have l1 := exN_lt (cg (bs i)) v
      have l2 := degN_lt (cg (bs i))
      by_cases e : exN (cg (bs i)) v = degN (cg (bs i))
      · rw [if_pos e, if_pos (by rw [e])]
        show bd1 (m_degree F (nI (cg (bs i)))) _ = _
        rw [p_degree F hb2.2, bd1_n]
      · rw [if_neg e, if_neg (fun z => e ((nI_eq (by omega) (by omega)).mp z)), show nI i + 1 = nI (i + 1) from nI_add i 1]
    rw [step]
    by_cases e : exN (cg (bs i)) v = degN (cg (bs i))
    · rw [if_pos e]; exact Or.inl ⟨_, hm2, e, rfl⟩
    · rw [if_neg e]
      exact ih m (i + 1) (by omega) (by omega) (fun j hj => by
        by_cases q : j = i
        · rw [q]; exact e
        · exact hno j (by omega))
theorem p_setBounds_l (hF : 200 < F) (h1 : 1 ≤ n) (h4 : n ≤ 4) (hA : Arr l bs) (hl : l.length ≤ 126) (hb : ∀ b ∈ l, b < 126 ∧ cg b < 2 ^ 32) : ∀ (d m i : Nat) (bd : Nat → Int32), i + d = 4 → d < m → (∀ v, v < i → (v < n → ∃ b ∈ l, exN (cg b) v = degN (cg b) ∧ bd v = nI (degN (cg b))) ∧ (n ≤ v → bd v = nI 1)) →
    ∃ r bd', b_setBounds_2 F (nI l.length) (nI n) (nF cg) (nF bs) m (nI i) bd = some (nI r, bd') ∧
      ((r = 1 ∧ ∀ v, v < 4 → (v < n → ∃ b ∈ l, exN (cg b) v = degN (cg b) ∧ bd' v = nI (degN (cg b))) ∧ (n ≤ v → bd' v = nI 1)) ∨ (r = 0 ∧ ∃ v, v < n ∧ ¬ PP cg l v)) := by
  intro d
  induction d with
  | zero =>
    intro m i bd hi hm h
    obtain ⟨m, rfl⟩ : ∃ q, m = q + 1 := ⟨m - 1, by omega⟩
    refine ⟨1, bd, ?_, Or.inl ⟨rfl, fun v hv => h v (by omega)⟩⟩
    show s_setBounds_2 F (nI l.length) (nI n) (nF cg) (nF bs) (b_setBounds_2 F (nI l.length) (nI n) (nF cg) (nF bs) m) (nI i) bd = _
    unfold s_setBounds_2
    rw [if_pos (show (4 : Int32) ≤ nI i from nI_le (show 4 ≤ i by omega) (by omega))]
    rfl
  | succ d ih =>
    intro m i bd hi hm h
    obtain ⟨m, rfl⟩ : ∃ q, m = q + 1 := ⟨m - 1, by omega⟩
    have fin : ∀ x : Int32, s_setBounds_29 F (nI l.length) (nI n) (nF cg) (nF bs) (b_setBounds_2 F (nI l.length) (nI n) (nF cg) (nF bs) m) (nI i) (nI i) x bd = if x = -1 then some (0, upd bd i x) else b_setBounds_2 F (nI l.length) (nI n) (nF cg) (nF bs) m (nI (i + 1)) (upd bd i x) := by
      intro x
      unfold s_setBounds_29
      rw [wrI_n (by omega) (by decide), rdI_n (by omega) (by decide), show upd bd i x i = x from if_pos rfl, show nI i + 1 = nI (i + 1) from nI_add i 1]
    have hup : ∀ (x : Int32) v, v < i → upd bd i x v = bd v := fun x v hv => if_neg (by omega)
    have hup2 : ∀ (x : Int32), upd bd i x i = x := fun x => if_pos rfl
    by_cases hin : n ≤ i
    · have e : b_setBounds_2 F (nI l.length) (nI n) (nF cg) (nF bs) (m + 1) (nI i) bd = b_setBounds_2 F (nI l.length) (nI n) (nF cg) (nF bs) m (nI (i + 1)) (upd bd i 1) := by
        show s_setBounds_2 F (nI l.length) (nI n) (nF cg) (nF bs) (b_setBounds_2 F (nI l.length) (nI n) (nF cg) (nF bs) m) (nI i) bd = _
        unfold s_setBounds_2
        rw [if_neg (show ¬ (4 : Int32) ≤ nI i from nI_ge (show i < 4 by omega) (by decide)), if_pos (nI_le hin (by omega)), fin, if_neg (by decide)]
      rw [e]
      refine ih m (i + 1) _ (by omega) (by omega) (fun v hv => ?_)
      by_cases q : v = i
      · rw [q, hup2]; exact ⟨fun z => by omega, fun _ => rfl⟩
      · rw [hup _ _ (by omega)]; exact h v (by omega)
    · have e : b_setBounds_2 F (nI l.length) (nI n) (nF cg) (nF bs) (m + 1) (nI i) bd = bd1 (m_purePower F (nI l.length) (nF cg) (nF bs) (nI i)) fun x => if x = -1 then some (0, upd bd i x) else b_setBounds_2 F (nI l.length) (nI n) (nF cg) (nF bs) m (nI (i + 1)) (upd bd i x) := by
        show s_setBounds_2 F (nI l.length) (nI n) (nF cg) (nF bs) (b_setBounds_2 F (nI l.length) (nI n) (nF cg) (nF bs) m) (nI i) bd = _
        unfold s_setBounds_2
        rw [if_neg (show ¬ (4 : Int32) ≤ nI i from nI_ge (show i < 4 by omega) (by decide)), if_neg (nI_ge (by omega) (by omega))]
        exact congrArg _ (funext fin)
      rw [e]
      rcases p_purePower_l (F := F) (cg := cg) hA hl hb (show i < 4 by omega) l.length F 0 (by omega) (by omega) (fun j hj => by omega) with ⟨b, b1, b2, b3⟩ | ⟨b1, b2⟩
      · rw [show m_purePower F (nI l.length) (nF cg) (nF bs) (nI i) = _ from b3, bd1_n]
        have hlt := degN_lt (cg b)
        rw [if_neg (fun z => by
          have : nI (degN (cg b)) = nI 4294967295 := z.trans (by decide +kernel)
          have := nI_inj32 (by omega) (by decide) this
          omega)]
        refine ih m (i + 1) _ (by omega) (by omega) (fun v hv => ?_)
        by_cases q : v = i
        · rw [q, hup2]; exact ⟨fun _ => ⟨b, b1, b2, rfl⟩, fun z => absurd z hin⟩
        · rw [hup _ _ (by omega)]; exact h v (by omega)
      · rw [show m_purePower F (nI l.length) (nF cg) (nF bs) (nI i) = _ from b2, bd1_n, if_pos rfl]
        exact ⟨0, _, rfl, Or.inr ⟨rfl, i, by omega, b1⟩⟩
end GATHER
