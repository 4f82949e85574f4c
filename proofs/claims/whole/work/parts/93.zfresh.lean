/-! THE REFERENCE'S TABLE: put and fresh. -/
theorem gtN_1 {ord a b : Nat} (h : keyN ord b < keyN ord a) : gtN ord a b = 1 := by unfold gtN; rw [if_pos h]
theorem gtN_0 {ord a b : Nat} (h : ¬ keyN ord b < keyN ord a) : gtN ord a b = 0 := by unfold gtN; rw [if_neg h]
theorem p_zput_e (F : Nat) {ord code a cnt : Nat} (ha : a < 126) (cg : Nat → Nat) : s_zput_45 F (nI ord) (nI code) (nI a) (nI cnt) (nF (movF cg a cnt)) = some (nI (cnt + 1), nF (insF cg a cnt code)) := by
  unfold s_zput_45
  rw [wrI_n ha (by decide), show nI cnt + 1 = nI (cnt + 1) from nI_add cnt 1, upd_nF, movF_end]
theorem p_zput_l (F : Nat) (hF : 4 < F) {ord code cnt : Nat} (hord : ord < 2) (hcode : code < 2 ^ 32) (hcnt : cnt < 126) (cg : Nat → Nat) (hcg : ∀ j, j < cnt → cg j < 2 ^ 32) : ∀ (a n : Nat), a ≤ cnt → a < n →
    ∃ at_, at_ ≤ a ∧ (at_ = 0 ∨ keyN ord (cg (at_ - 1)) ≤ keyN ord code) ∧ (∀ j, at_ ≤ j → j < a → keyN ord code < keyN ord (cg j)) ∧
      b_zput_5 F (nI ord) n (nI code) (nI a) (nI cnt) (nF (movF cg a cnt)) = some (nI (cnt + 1), nF (insF cg at_ cnt code)) := by
  intro a
  induction a with
  | zero =>
    intro n ha hn
    obtain ⟨m, rfl⟩ : ∃ m, n = m + 1 := ⟨n - 1, by omega⟩
    refine ⟨0, Nat.le_refl _, Or.inl rfl, fun j _ _ => by omega, ?_⟩
    show s_zput_5 F (nI ord) (b_zput_5 F (nI ord) m) (nI code) (nI 0) (nI cnt) _ = _
    unfold s_zput_5
    rw [if_pos (by decide +kernel)]
    exact p_zput_e F (by decide) cg
  | succ a ih =>
    intro n ha hn
    obtain ⟨m, rfl⟩ : ∃ m, n = m + 1 := ⟨n - 1, by omega⟩
    have e1 : movF cg (a + 1) cnt a = cg a := by unfold movF; rw [if_pos (by omega)]
    have step : b_zput_5 F (nI ord) (m + 1) (nI code) (nI (a + 1)) (nI cnt) (nF (movF cg (a + 1) cnt)) =
        if keyN ord code < keyN ord (cg a) then b_zput_5 F (nI ord) m (nI code) (nI a) (nI cnt) (nF (movF cg a cnt)) else some (nI (cnt + 1), nF (insF cg (a + 1) cnt code)) := by
      show s_zput_5 F (nI ord) (b_zput_5 F (nI ord) m) (nI code) (nI (a + 1)) (nI cnt) _ = _
      unfold s_zput_5
      rw [if_neg (nI_nle (by omega) (by omega)), p_zput_e F (by omega) cg, show nI (a + 1) - 1 = nI a from pk_sub (show 1 ≤ a + 1 by omega), rdI_n (by omega) (by decide)]
      show bd1 (m_zgreater F (nI ord) (nI (movF cg (a + 1) cnt a)) (nI code)) _ = _
      rw [e1, p_zgreater hF hord (hcg a (by omega)) hcode, bd1_n]
      by_cases h : keyN ord code < keyN ord (cg a)
      · rw [if_pos h, gtN_1 h, if_neg (by decide), rdI_n (by omega) (by decide), wrI_n (by omega) (by decide), show nI (a + 1) + -1 = nI a from pk_m1 a]
        show b_zput_5 F (nI ord) m (nI code) (nI a) (nI cnt) (upd (nF (movF cg (a + 1) cnt)) (a + 1) (nI (movF cg (a + 1) cnt a))) = _
        rw [upd_nF]
        have s1 := movF_step cg (a := a + 1) (cnt := cnt) (by omega) ha
        rw [Nat.add_sub_cancel] at s1
        rw [s1]
      · rw [if_neg h, gtN_0 h, if_pos (by decide)]
    rw [step]
    by_cases h : keyN ord code < keyN ord (cg a)
    · rw [if_pos h]
      obtain ⟨at_, h1, h2, h3, h4⟩ := ih m (by omega) (by omega)
      refine ⟨at_, by omega, h2, fun j hj hja => ?_, h4⟩
      by_cases hjq : j = a
      · rw [hjq]; exact h
      · exact h3 j hj (by omega)
    · rw [if_neg h]
      exact ⟨a + 1, Nat.le_refl _, Or.inr (by rw [Nat.add_sub_cancel]; omega), fun j _ _ => by omega, rfl⟩
theorem TabL.put {F ord cnt code : Nat} (hF : 126 < F) (hord : ord < 2) {l : List Nat} {cg kg : Nat → Nat} (h : TabL ord l cnt cg kg) (hcode : code < 2 ^ 32) (hnew : code ∉ l) (hl : l.length < 126) :
    ∃ cg' kg', TabL ord (l ++ [code]) (cnt + 1) cg' kg' ∧ m_zput F (nI ord) (nI code) (nI cnt) (nF cg) = some (nI (cnt + 1), nF cg') := by
  have hcnt : cnt < 126 := by rw [h.1]; exact hl
  obtain ⟨at_, h1, h2, h3, h4⟩ := p_zput_l F (by omega) hord hcode hcnt cg (fun j hj => h.2.2.2.2.1 _ ((h.2.2.2.1 _).mpr ⟨j, hj, rfl⟩)) cnt F (Nat.le_refl _) (by omega)
  rw [movF_top] at h4
  refine ⟨_, _, h.add hcode hnew h1 ?_ ?_, h4⟩
  · rcases h2 with h2 | h2
    · exact Or.inl h2
    · by_cases e : at_ = 0
      · exact Or.inl e
      · rw [h.2.2.1 _ (by omega)]; exact Or.inr h2
  · intro j hj hjc
    rw [h.2.2.1 _ hjc]; exact h3 j hj hjc
def bh (hi n v : Nat) : Nat := if v < n then hi else 0
theorem bh_le (hi n v : Nat) : bh hi n v ≤ hi := by
  unfold bh
  split <;> omega
section FR
variable {F ord hi n : Nat} {gc pp : Int32} {dga hda : Nat → Int32}
def ZW (hi x y z w d : Nat) : List Nat := ((List.range' w d).filter (fun w => x + y + z + w ≤ hi)).map (cdN x y z)
def ZZ (hi n x y z d : Nat) : List Nat := (List.range' z d).flatMap (fun z => ZW hi x y z 0 (bh hi n 3 + 1))
def ZY (hi n x y d : Nat) : List Nat := (List.range' y d).flatMap (fun y => ZZ hi n x y 0 (bh hi n 2 + 1))
def ZX (hi n x d : Nat) : List Nat := (List.range' x d).flatMap (fun x => ZY hi n x 0 (bh hi n 1 + 1))
theorem ZW_s1 {hi x y z w : Nat} (d : Nat) (h : x + y + z + w ≤ hi) : ZW hi x y z w (d + 1) = cdN x y z w :: ZW hi x y z (w + 1) d := by
  unfold ZW
  rw [List.range'_succ, List.filter_cons_of_pos (by simpa using h), List.map_cons]
theorem ZW_s0 {hi x y z w : Nat} (d : Nat) (h : ¬ x + y + z + w ≤ hi) : ZW hi x y z w (d + 1) = ZW hi x y z (w + 1) d := by
  unfold ZW
  rw [List.range'_succ, List.filter_cons_of_neg (by simpa using h)]
theorem ZZ_s (hi n x y z d : Nat) : ZZ hi n x y z (d + 1) = ZW hi x y z 0 (bh hi n 3 + 1) ++ ZZ hi n x y (z + 1) d := by
  unfold ZZ
  rw [List.range'_succ, List.flatMap_cons]
theorem ZY_s (hi n x y d : Nat) : ZY hi n x y (d + 1) = ZZ hi n x y 0 (bh hi n 2 + 1) ++ ZY hi n x (y + 1) d := by
  unfold ZY
  rw [List.range'_succ, List.flatMap_cons]
theorem ZX_s (hi n x d : Nat) : ZX hi n x (d + 1) = ZY hi n x 0 (bh hi n 1 + 1) ++ ZX hi n (x + 1) d := by
  unfold ZX
  rw [List.range'_succ, List.flatMap_cons]
set_option maxRecDepth 100000 in
theorem ZW_lt {hi x y z w d c : Nat} (h : c ∈ ZW hi x y z w d) : cdN x y z w ≤ c ∧ c < cdN x y z (w + d) := by
  unfold ZW at h
  rw [List.mem_map] at h
  obtain ⟨q, hq, rfl⟩ := h
  have hq := (List.mem_filter.mp hq).1
  rw [List.mem_range'_1] at hq
  unfold cdN
  omega
set_option maxRecDepth 100000 in
theorem ZZ_lt {hi n x y z d c : Nat} (hhi : hi ≤ 30) (h : c ∈ ZZ hi n x y z d) : cdN x y z 0 ≤ c ∧ c < cdN x y (z + d) 0 := by
  unfold ZZ at h
  rw [List.mem_flatMap] at h
  obtain ⟨q, hq, hc⟩ := h
  rw [List.mem_range'_1] at hq
  have h1 := ZW_lt hc
  have h2 := bh_le hi n 3
  exact ⟨Nat.le_trans (cd_mz hq.1) h1.1, Nat.lt_of_lt_of_le (cd_w h1.2 (by omega)) (cd_mz (by omega))⟩
set_option maxRecDepth 100000 in
theorem ZY_lt {hi n x y d c : Nat} (hhi : hi ≤ 30) (h : c ∈ ZY hi n x y d) : cdN x y 0 0 ≤ c ∧ c < cdN x (y + d) 0 0 := by
  unfold ZY at h
  rw [List.mem_flatMap] at h
  obtain ⟨q, hq, hc⟩ := h
  rw [List.mem_range'_1] at hq
  have h1 := ZZ_lt hhi hc
  have h2 := bh_le hi n 2
  exact ⟨Nat.le_trans (cd_my hq.1) h1.1, Nat.lt_of_lt_of_le (cd_z h1.2 (by omega)) (cd_my (by omega))⟩
theorem fr_91 {k37 k47 k69 k91} {i5 i6 i7 i8 mc : Int32} {mo_ : Nat → Int32} (hn : n ≤ 4) : s_zfresh_91 F k37 k47 k69 k91 (nI hi) i5 i6 i7 i8 gc mc (nI n) (nI ord) pp mo_ dga hda = s_zfresh_107 F k37 k47 k69 k91 (nI hi) i5 i6 i7 i8 i8 (nI (bh hi n 3)) gc mc (nI n) (nI ord) pp mo_ dga hda := by
  unfold s_zfresh_91 bh
  by_cases h : 3 < n
  · rw [if_neg (show ¬ nI n ≤ 3 from nI_ge h (by omega)), if_pos h]
  · rw [if_pos (show nI n ≤ 3 from nI_le (show n ≤ 3 by omega) (by decide)), if_neg h]
    rfl
theorem fr_69 {k37 k47 k69} {i5 i6 i7 mc : Int32} {mo_ : Nat → Int32} (hn : n ≤ 4) : s_zfresh_69 F k37 k47 k69 (nI hi) i5 i6 i7 gc mc (nI n) (nI ord) pp mo_ dga hda = s_zfresh_85 F k37 k47 k69 (nI hi) i5 i6 i7 i7 (nI (bh hi n 2)) gc mc (nI n) (nI ord) pp mo_ dga hda := by
  unfold s_zfresh_69 bh
  by_cases h : 2 < n
  · rw [if_neg (show ¬ nI n ≤ 2 from nI_ge h (by omega)), if_pos h]
  · rw [if_pos (show nI n ≤ 2 from nI_le (show n ≤ 2 by omega) (by decide)), if_neg h]
    rfl
theorem fr_47 {k37 k47} {i5 i6 mc : Int32} {mo_ : Nat → Int32} (hn : n ≤ 4) : s_zfresh_47 F k37 k47 (nI hi) i5 i6 gc mc (nI n) (nI ord) pp mo_ dga hda = s_zfresh_63 F k37 k47 (nI hi) i5 i6 i6 (nI (bh hi n 1)) gc mc (nI n) (nI ord) pp mo_ dga hda := by
  unfold s_zfresh_47 bh
  by_cases h : 1 < n
  · rw [if_neg (show ¬ nI n ≤ 1 from nI_ge h (by omega)), if_pos h]
  · rw [if_pos (show nI n ≤ 1 from nI_le (show n ≤ 1 by omega) (by decide)), if_neg h]
    rfl
set_option maxRecDepth 100000 in
theorem fr_w (hF : 200 < F) (hord : ord < 2) (hhi : hi ≤ 30) (hn : n ≤ 4) {k37 k47 k69} {x y z : Nat} (hx : x ≤ 30) (hy : y ≤ 30) (hz : z ≤ 30) : ∀ (d m w : Nat) (l : List Nat) (cnt : Nat) (cg kg : Nat → Nat), w + d = bh hi n 3 + 1 → d < m → TabL ord l cnt cg kg → (∀ c ∈ l, c < cdN x y z w) → (l ++ ZW hi x y z w d).length ≤ 126 →
    ∃ cg' kg', TabL ord (l ++ ZW hi x y z w d) (l ++ ZW hi x y z w d).length cg' kg' ∧ b_zfresh_91 F k37 k47 k69 m (nI hi) (nI x) (nI y) (nI z) (nI w) gc (nI cnt) (nI n) (nI ord) pp (nF cg) dga hda = k69 (nI hi) (nI x) (nI y) (nI (z + 1)) gc (nI (l ++ ZW hi x y z w d).length) (nI n) (nI ord) pp (nF cg') dga hda := by
  intro d
  have hmo := bh_le hi n 3
  induction d with
  | zero =>
    intro m w l cnt cg kg hw hm hT hlt hlen
    obtain ⟨m, rfl⟩ : ∃ q, m = q + 1 := ⟨m - 1, by omega⟩
    have e : l ++ ZW hi x y z w 0 = l := List.append_nil l
    rw [e]
    refine ⟨cg, kg, by rw [← hT.1]; exact hT, ?_⟩
    show s_zfresh_91 F k37 k47 k69 (b_zfresh_91 F k37 k47 k69 m) (nI hi) (nI x) (nI y) (nI z) (nI w) gc (nI cnt) (nI n) (nI ord) pp (nF cg) dga hda = _
    rw [fr_91 hn]
    unfold s_zfresh_107
    rw [if_pos (nI_lt (by omega) (by omega)), show nI z + 1 = nI (z + 1) from nI_add z 1, hT.1]
  | succ d ih =>
    intro m w l cnt cg kg hw hm hT hlt hlen
    obtain ⟨m, rfl⟩ : ∃ q, m = q + 1 := ⟨m - 1, by omega⟩
    have hcode : cdN x y z w < 2 ^ 32 := by unfold cdN; omega
    have e2 : cdN x y z (w + 1) = cdN x y z w + 1 := by rw [cdN_lin, cdN_lin]; omega
    by_cases hsum : x + y + z + w ≤ hi
    · have e : l ++ ZW hi x y z w (d + 1) = (l ++ [cdN x y z w]) ++ ZW hi x y z (w + 1) d := by
        rw [ZW_s1 d hsum, List.append_assoc]; rfl
      rw [e] at hlen ⊢
      obtain ⟨cg1, kg1, hT1, hrun⟩ := hT.put (F := F) (by omega) hord hcode (fun h => Nat.lt_irrefl _ (hlt _ h)) (by
        rw [List.length_append, List.length_append] at hlen
        have : [cdN x y z w].length = 1 := rfl
        omega)
      obtain ⟨cg2, kg2, hT2, hrun2⟩ := ih m (w + 1) (l ++ [cdN x y z w]) (cnt + 1) cg1 kg1 (by omega) (by omega) hT1 (fun c hc => by
        rw [List.mem_append, List.mem_singleton] at hc
        rcases hc with hc | rfl
        · have := hlt c hc
          omega
        · omega) hlen
      refine ⟨cg2, kg2, hT2, ?_⟩
      rw [← hrun2]
      show s_zfresh_91 F k37 k47 k69 (b_zfresh_91 F k37 k47 k69 m) (nI hi) (nI x) (nI y) (nI z) (nI w) gc (nI cnt) (nI n) (nI ord) pp (nF cg) dga hda = _
      rw [fr_91 hn]
      unfold s_zfresh_107
      rw [if_neg (nI_nlt (by omega) (by omega)), p_code (by omega) (by omega) (by omega) (by omega), hrun, nI_add, nI_add, nI_add, if_neg (nI_nlt (by omega) (by omega)), show nI w + 1 = nI (w + 1) from nI_add w 1]
      rfl
    · rw [ZW_s0 d hsum] at hlen ⊢
      obtain ⟨cg2, kg2, hT2, hrun2⟩ := ih m (w + 1) l cnt cg kg (by omega) (by omega) hT (fun c hc => by
        have := hlt c hc
        omega) hlen
      refine ⟨cg2, kg2, hT2, ?_⟩
      rw [← hrun2]
      show s_zfresh_91 F k37 k47 k69 (b_zfresh_91 F k37 k47 k69 m) (nI hi) (nI x) (nI y) (nI z) (nI w) gc (nI cnt) (nI n) (nI ord) pp (nF cg) dga hda = _
      rw [fr_91 hn]
      unfold s_zfresh_107
      rw [if_neg (nI_nlt (by omega) (by omega)), nI_add, nI_add, nI_add, if_pos (nI_lt (by omega) (by omega)), show nI w + 1 = nI (w + 1) from nI_add w 1]
set_option maxRecDepth 100000 in
theorem fr_z (hF : 200 < F) (hord : ord < 2) (hhi : hi ≤ 30) (hn : n ≤ 4) {k37 k47} {x y : Nat} (hx : x ≤ 30) (hy : y ≤ 30) : ∀ (d m z : Nat) (l : List Nat) (cnt : Nat) (cg kg : Nat → Nat), z + d = bh hi n 2 + 1 → d < m → TabL ord l cnt cg kg → (∀ c ∈ l, c < cdN x y z 0) → (l ++ ZZ hi n x y z d).length ≤ 126 →
    ∃ cg' kg', TabL ord (l ++ ZZ hi n x y z d) (l ++ ZZ hi n x y z d).length cg' kg' ∧ b_zfresh_69 F k37 k47 m (nI hi) (nI x) (nI y) (nI z) gc (nI cnt) (nI n) (nI ord) pp (nF cg) dga hda = k47 (nI hi) (nI x) (nI (y + 1)) gc (nI (l ++ ZZ hi n x y z d).length) (nI n) (nI ord) pp (nF cg') dga hda := by
  intro d
  have hmo := bh_le hi n 2
  have hmw := bh_le hi n 3
  induction d with
  | zero =>
    intro m z l cnt cg kg hw hm hT hlt hlen
    obtain ⟨m, rfl⟩ : ∃ q, m = q + 1 := ⟨m - 1, by omega⟩
    have e : l ++ ZZ hi n x y z 0 = l := List.append_nil l
    rw [e]
    refine ⟨cg, kg, by rw [← hT.1]; exact hT, ?_⟩
    show s_zfresh_69 F k37 k47 (b_zfresh_69 F k37 k47 m) (nI hi) (nI x) (nI y) (nI z) gc (nI cnt) (nI n) (nI ord) pp (nF cg) dga hda = _
    rw [fr_69 hn]
    unfold s_zfresh_85
    rw [if_pos (nI_lt (by omega) (by omega)), show nI y + 1 = nI (y + 1) from nI_add y 1, hT.1]
  | succ d ih =>
    intro m z l cnt cg kg hw hm hT hlt hlen
    obtain ⟨m, rfl⟩ : ∃ q, m = q + 1 := ⟨m - 1, by omega⟩
    have e : l ++ ZZ hi n x y z (d + 1) = (l ++ ZW hi x y z 0 (bh hi n 3 + 1)) ++ ZZ hi n x y (z + 1) d := by
      rw [ZZ_s, List.append_assoc]
    rw [e] at hlen ⊢
    have hlen1 : (l ++ ZW hi x y z 0 (bh hi n 3 + 1)).length ≤ 126 := by
      rw [List.length_append] at hlen; omega
    obtain ⟨cg1, kg1, hT1, hrun⟩ := fr_w (gc := gc) (pp := pp) (dga := dga) (hda := hda) (k37 := k37) (k47 := k47) (k69 := b_zfresh_69 F k37 k47 m) hF hord hhi hn hx hy (show z ≤ 30 by omega) (bh hi n 3 + 1) F 0 l cnt cg kg (by omega) (by omega) hT hlt hlen1
    obtain ⟨cg2, kg2, hT2, hrun2⟩ := ih m (z + 1) _ _ cg1 kg1 (by omega) (by omega) hT1 (fun c hc => by
      rw [List.mem_append] at hc
      rcases hc with hc | hc
      · exact cd_w (hlt c hc) (by omega)
      · exact cd_w (ZW_lt hc).2 (by omega)) hlen
    refine ⟨cg2, kg2, hT2, ?_⟩
    rw [← hrun2, ← hrun]
    show s_zfresh_69 F k37 k47 (b_zfresh_69 F k37 k47 m) (nI hi) (nI x) (nI y) (nI z) gc (nI cnt) (nI n) (nI ord) pp (nF cg) dga hda = _
    rw [fr_69 hn]
    unfold s_zfresh_85
    rw [if_neg (nI_nlt (by omega) (by omega))]
    rfl
set_option maxRecDepth 100000 in
theorem fr_y (hF : 200 < F) (hord : ord < 2) (hhi : hi ≤ 30) (hn : n ≤ 4) {k37} {x : Nat} (hx : x ≤ 30) : ∀ (d m y : Nat) (l : List Nat) (cnt : Nat) (cg kg : Nat → Nat), y + d = bh hi n 1 + 1 → d < m → TabL ord l cnt cg kg → (∀ c ∈ l, c < cdN x y 0 0) → (l ++ ZY hi n x y d).length ≤ 126 →
    ∃ cg' kg', TabL ord (l ++ ZY hi n x y d) (l ++ ZY hi n x y d).length cg' kg' ∧ b_zfresh_47 F k37 m (nI hi) (nI x) (nI y) gc (nI cnt) (nI n) (nI ord) pp (nF cg) dga hda = k37 (nI hi) (nI (x + 1)) gc (nI (l ++ ZY hi n x y d).length) (nI n) (nI ord) pp (nF cg') dga hda := by
  intro d
  have hmo := bh_le hi n 1
  have hmw := bh_le hi n 2
  induction d with
  | zero =>
    intro m y l cnt cg kg hw hm hT hlt hlen
    obtain ⟨m, rfl⟩ : ∃ q, m = q + 1 := ⟨m - 1, by omega⟩
    have e : l ++ ZY hi n x y 0 = l := List.append_nil l
    rw [e]
    refine ⟨cg, kg, by rw [← hT.1]; exact hT, ?_⟩
    show s_zfresh_47 F k37 (b_zfresh_47 F k37 m) (nI hi) (nI x) (nI y) gc (nI cnt) (nI n) (nI ord) pp (nF cg) dga hda = _
    rw [fr_47 hn]
    unfold s_zfresh_63
    rw [if_pos (nI_lt (by omega) (by omega)), show nI x + 1 = nI (x + 1) from nI_add x 1, hT.1]
  | succ d ih =>
    intro m y l cnt cg kg hw hm hT hlt hlen
    obtain ⟨m, rfl⟩ : ∃ q, m = q + 1 := ⟨m - 1, by omega⟩
    have e : l ++ ZY hi n x y (d + 1) = (l ++ ZZ hi n x y 0 (bh hi n 2 + 1)) ++ ZY hi n x (y + 1) d := by
      rw [ZY_s, List.append_assoc]
    rw [e] at hlen ⊢
    have hlen1 : (l ++ ZZ hi n x y 0 (bh hi n 2 + 1)).length ≤ 126 := by
      rw [List.length_append] at hlen; omega
    obtain ⟨cg1, kg1, hT1, hrun⟩ := fr_z (gc := gc) (pp := pp) (dga := dga) (hda := hda) (k37 := k37) (k47 := b_zfresh_47 F k37 m) hF hord hhi hn hx (show y ≤ 30 by omega) (bh hi n 2 + 1) F 0 l cnt cg kg (by omega) (by omega) hT hlt hlen1
    obtain ⟨cg2, kg2, hT2, hrun2⟩ := ih m (y + 1) _ _ cg1 kg1 (by omega) (by omega) hT1 (fun c hc => by
      rw [List.mem_append] at hc
      rcases hc with hc | hc
      · exact cd_z (cd_w (Nat.lt_of_lt_of_le (hlt c hc) (Nat.le_refl _)) (by omega)) (by omega)
      · exact cd_z (ZZ_lt hhi hc).2 (by omega)) hlen
    refine ⟨cg2, kg2, hT2, ?_⟩
    rw [← hrun2, ← hrun]
    show s_zfresh_47 F k37 (b_zfresh_47 F k37 m) (nI hi) (nI x) (nI y) gc (nI cnt) (nI n) (nI ord) pp (nF cg) dga hda = _
    rw [fr_47 hn]
    unfold s_zfresh_63
    rw [if_neg (nI_nlt (by omega) (by omega))]
    rfl
set_option maxRecDepth 100000 in
theorem fr_x (hF : 200 < F) (hord : ord < 2) (hhi : hi ≤ 30) (hn : n ≤ 4) : ∀ (d m x : Nat) (l : List Nat) (cnt : Nat) (cg kg : Nat → Nat), x + d = hi + 1 → d < m → TabL ord l cnt cg kg → (∀ c ∈ l, c < cdN x 0 0 0) → (l ++ ZX hi n x d).length ≤ 126 →
    ∃ cg' kg', TabL ord (l ++ ZX hi n x d) (l ++ ZX hi n x d).length cg' kg' ∧ b_zfresh_37 F m (nI hi) (nI x) gc (nI cnt) (nI n) (nI ord) pp (nF cg) dga hda = b_zfresh_177 F F 0 gc (nI (l ++ ZX hi n x d).length) (nI n) (nI ord) pp (nF cg') dga hda := by
  intro d
  have hmw := bh_le hi n 1
  induction d with
  | zero =>
    intro m x l cnt cg kg hw hm hT hlt hlen
    obtain ⟨m, rfl⟩ : ∃ q, m = q + 1 := ⟨m - 1, by omega⟩
    have e : l ++ ZX hi n x 0 = l := List.append_nil l
    rw [e]
    refine ⟨cg, kg, by rw [← hT.1]; exact hT, ?_⟩
    show s_zfresh_37 F (b_zfresh_37 F m) (nI hi) (nI x) gc (nI cnt) (nI n) (nI ord) pp (nF cg) dga hda = _
    unfold s_zfresh_37
    rw [if_pos (nI_lt (by omega) (by omega)), hT.1]
  | succ d ih =>
    intro m x l cnt cg kg hw hm hT hlt hlen
    obtain ⟨m, rfl⟩ : ∃ q, m = q + 1 := ⟨m - 1, by omega⟩
    have e : l ++ ZX hi n x (d + 1) = (l ++ ZY hi n x 0 (bh hi n 1 + 1)) ++ ZX hi n (x + 1) d := by
      rw [ZX_s, List.append_assoc]
    rw [e] at hlen ⊢
    have hlen1 : (l ++ ZY hi n x 0 (bh hi n 1 + 1)).length ≤ 126 := by
      rw [List.length_append] at hlen; omega
    obtain ⟨cg1, kg1, hT1, hrun⟩ := fr_y (gc := gc) (pp := pp) (dga := dga) (hda := hda) (k37 := b_zfresh_37 F m) hF hord hhi hn (show x ≤ 30 by omega) (bh hi n 1 + 1) F 0 l cnt cg kg (by omega) (by omega) hT hlt hlen1
    obtain ⟨cg2, kg2, hT2, hrun2⟩ := ih m (x + 1) _ _ cg1 kg1 (by omega) (by omega) hT1 (fun c hc => by
      rw [List.mem_append] at hc
      rcases hc with hc | hc
      · exact cd_y (cd_z (hlt c hc) (by omega)) (by omega)
      · exact cd_y (ZY_lt hhi hc).2 (by omega)) hlen
    refine ⟨cg2, kg2, hT2, ?_⟩
    rw [← hrun2, ← hrun]
    show s_zfresh_37 F (b_zfresh_37 F m) (nI hi) (nI x) gc (nI cnt) (nI n) (nI ord) pp (nF cg) dga hda = _
    unfold s_zfresh_37
    rw [if_neg (nI_nlt (by omega) (by omega))]
    rfl
end FR
