/-! WHAT IS SHOWN OF A FIND: left, times, dictionary, entry; both sides show the same. -/
def OB (sz vs : Nat) (W H : List Nat) (A : Nat → Nat → Nat) : Prop := sz ≤ 40 ∧ vs ≤ 4 ∧ W.length ≤ 40 ∧ H.length ≤ 160 ∧ ∀ k, k < H.length → ∀ i, i < 40 → A k i < 32004 ∧ (W.length ≤ i → A k i = 0)
def OC (sz vs : Nat) (g : Nat → Nat) (P : Nat → Nat → Nat → Nat) (W H : List Nat) (A : Nat → Nat → Nat) (rz rv lc ls : Int32) (codes prods heads tails stand : Nat → Int32) : Prop :=
  rz = nI sz ∧ (0 < sz → rv = nI vs) ∧ (∀ j, j < sz → codes j = nI (g j)) ∧ (∀ v k j, v < vs → k < sz → j < sz → prods (1600 * v + 40 * k + j) = nI (P v k j)) ∧ lc = nI H.length ∧ (0 < H.length → ls = nI W.length) ∧ (∀ k (hk : k < H.length), heads k = nI H[k]) ∧ (∀ k i, k < H.length → i < 40 → tails (40 * k + i) = nI (A k i)) ∧ (∀ k (hk : k < W.length), 0 < H.length → stand k = nI W[k])
theorem neg_lt0 {x : Int32} (h : ¬ x < 0) : ∃ j : Nat, j < 2 ^ 31 ∧ x = nI j := by
  rw [Int32.lt_iff_toInt_lt] at h
  have e0 : (0 : Int32).toInt = 0 := by decide
  exact pos_form (by omega)
section OBS
variable {F sz vs : Nat} {g : Nat → Nat} {P : Nat → Nat → Nat → Nat} {W H : List Nat} {A : Nat → Nat → Nat} {rz rv lc ls rz2 rv2 lc2 ls2 : Int32} {codes prods heads tails stand codes2 prods2 heads2 tails2 stand2 : Nat → Int32}
theorem o_left (hB : OB sz vs W H A) (hC : OC sz vs g P W H A rz rv lc ls codes prods heads tails stand) (hZ : OC sz vs g P W H A rz2 rv2 lc2 ls2 codes2 prods2 heads2 tails2 stand2) (x tc : Int32) : ∃ r, m_left F rz codes x = some r ∧ m_zleft F rz2 codes2 x tc = some (r, 0) := by
  have h40 := hB.1
  unfold m_left m_zleft
  rw [hC.1, hZ.1]
  by_cases hx : x < 0
  · rw [if_pos hx, if_pos hx]; exact ⟨_, rfl, rfl⟩
  · rw [if_neg hx, if_neg hx]
    obtain ⟨j, hj, rfl⟩ := neg_lt0 hx
    by_cases q : j < sz
    · rw [if_pos (nI_lt q (by omega)), if_pos (nI_lt q (by omega)), rdI_n (by omega) (by decide), rdI_n (by omega) (by decide), hC.2.2.1 j q, hZ.2.2.1 j q]
      exact ⟨_, rfl, rfl⟩
    · rw [if_neg (nI_nlt (by omega) (by omega)), if_neg (nI_nlt (by omega) (by omega))]
      exact ⟨_, rfl, rfl⟩
theorem o_times (hB : OB sz vs W H A) (hC : OC sz vs g P W H A rz rv lc ls codes prods heads tails stand) (hZ : OC sz vs g P W H A rz2 rv2 lc2 ls2 codes2 prods2 heads2 tails2 stand2) (x y z tc : Int32) : ∃ r, m_times F rz rv prods x y z = some r ∧ m_ztimes F rz2 rv2 prods2 x y z tc = some (r, 0) := by
  have h40 := hB.1
  have h4 := hB.2.1
  have e41 : s_ztimes_41 F (nI sz) rv2 prods2 x y z 0 = some (-1, 0) := by
    unfold s_ztimes_41 s_ztimes_46
    rw [if_neg (by decide)]
  unfold m_times m_ztimes
  rw [hC.1, hZ.1]
  rw [e41]
  by_cases hs : 0 < sz
  · rw [hC.2.1 hs, hZ.2.1 hs]
    by_cases hx : x < 0
    · rw [if_pos hx, if_pos hx]; exact ⟨_, rfl, rfl⟩
    · rw [if_neg hx, if_neg hx]
      by_cases hx2 : nI vs ≤ x
      · rw [if_pos hx2, if_pos hx2]; exact ⟨_, rfl, rfl⟩
      · rw [if_neg hx2, if_neg hx2]
        by_cases hy : y < 0
        · rw [if_pos hy, if_pos hy]; exact ⟨_, rfl, rfl⟩
        · rw [if_neg hy, if_neg hy]
          by_cases hy2 : nI sz ≤ y
          · rw [if_pos hy2, if_pos hy2]; exact ⟨_, rfl, rfl⟩
          · rw [if_neg hy2, if_neg hy2]
            by_cases hz : z < 0
            · rw [if_pos hz, if_pos hz]; exact ⟨_, rfl, rfl⟩
            · rw [if_neg hz, if_neg hz]
              by_cases hz2 : z < nI sz
              · rw [if_pos hz2, if_pos hz2]
                obtain ⟨v, hv, rfl⟩ := neg_lt0 hx
                obtain ⟨k, hk, rfl⟩ := neg_lt0 hy
                obtain ⟨j, hj, rfl⟩ := neg_lt0 hz
                have hv2 : v < vs := by
                  rcases Nat.lt_or_ge v vs with q | q
                  · exact q
                  · exact absurd (nI_le q (by omega)) hx2
                have hk2 : k < sz := by
                  rcases Nat.lt_or_ge k sz with q | q
                  · exact q
                  · exact absurd (nI_le q (by omega)) hy2
                have hj2 : j < sz := by
                  rcases Nat.lt_or_ge j sz with q | q
                  · exact q
                  · exact absurd hz2 (nI_nlt q (by omega))
                rw [p_productRow, bd1_n, nI_add, show (v * 40 + k) * 40 + j = 1600 * v + 40 * k + j by omega, rdI_n (by omega) (by decide), hC.2.2.2.1 v k j hv2 hk2 hj2]
                unfold s_ztimes_46
                rw [if_pos rfl, show (1600 : Int32) * nI v = nI (1600 * v) from pk_mul 1600 v, show (40 : Int32) * nI k = nI (40 * k) from pk_mul 40 k, nI_add, nI_add, rdI_n (by omega) (by decide), hZ.2.2.2.1 v k j hv2 hk2 hj2]
                exact ⟨_, rfl, rfl⟩
              · rw [if_neg hz2, if_neg hz2]; exact ⟨_, rfl, rfl⟩
  · have e0 : sz = 0 := by omega
    subst e0
    refine ⟨-1, ?_, ?_⟩
    · by_cases hx : x < 0
      · rw [if_pos hx]
      · rw [if_neg hx]
        by_cases hx2 : rv ≤ x
        · rw [if_pos hx2]
        · rw [if_neg hx2]
          by_cases hy : y < 0
          · rw [if_pos hy]
          · rw [if_neg hy, if_pos (show nI 0 ≤ y from Int32.not_lt.mp hy)]
    · by_cases hx : x < 0
      · rw [if_pos hx]
      · rw [if_neg hx]
        by_cases hx2 : rv2 ≤ x
        · rw [if_pos hx2]
        · rw [if_neg hx2]
          by_cases hy : y < 0
          · rw [if_pos hy]
          · rw [if_neg hy, if_pos (show nI 0 ≤ y from Int32.not_lt.mp hy)]
theorem o_dict (hC : OC sz vs g P W H A rz rv lc ls codes prods heads tails stand) (hZ : OC sz vs g P W H A rz2 rv2 lc2 ls2 codes2 prods2 heads2 tails2 stand2) (tc : Int32) : ∃ r, m_dictionary F lc = some r ∧ m_zdictionary F lc2 tc = some (r, 0) := by
  unfold m_dictionary m_zdictionary
  rw [hC.2.2.2.2.1, hZ.2.2.2.2.1]
  exact ⟨_, rfl, rfl⟩
/-- the place of term x, from above -/
def tSp (a : Nat → Nat) (x : Int32) : Nat → Nat → Option Nat
  | 0, _ => none
  | s + 1, t => if a s = 0 then tSp a x s t else if nI t + 1 = x then some s else tSp a x s (t + 1)
theorem tSp_s (a : Nat → Nat) (x : Int32) (s t : Nat) : tSp a x (s + 1) t = (if a s = 0 then tSp a x s t else if nI t + 1 = x then some s else tSp a x s (t + 1)) := rfl
theorem tSp_lt {a : Nat → Nat} {x : Int32} : ∀ s t r, tSp a x s t = some r → r < s := by
  intro s
  induction s with
  | zero => intro t r h; cases h
  | succ s ih =>
    intro t r h
    unfold tSp at h
    by_cases q : a s = 0
    · rw [if_pos q] at h; have := ih t r h; omega
    · rw [if_neg q] at h
      by_cases y : nI t + 1 = x
      · rw [if_pos y] at h; cases h; omega
      · rw [if_neg y] at h; have := ih (t + 1) r h; omega
theorem tSp_skip {a : Nat → Nat} {x : Int32} {L : Nat} (h0 : ∀ i, L ≤ i → i < 40 → a i = 0) : ∀ d, L + d ≤ 40 → tSp a x (L + d) 0 = tSp a x L 0 := by
  intro d
  induction d with
  | zero => intro _; rfl
  | succ d ih =>
    intro h
    show (if a (L + d) = 0 then tSp a x (L + d) 0 else _) = _
    rw [if_pos (h0 (L + d) (by omega) (by omega))]
    exact ih (by omega)
theorem p_tailTerm_l {k : Nat} (hk : k < 160) {a : Nat → Nat} (ha : ∀ i, i < 40 → tails (40 * k + i) = nI (a i)) (hal : ∀ i, i < 40 → a i < 32004) (x : Int32) {sI : Int32} : ∀ (s m t : Nat), s ≤ 40 → s < m →
    b_tailTerm_10 F sI tails m (nI k) x (nI t) (nI s + (-1)) = some (match tSp a x s t with | none => -1 | some r => nI r) := by
  intro s
  induction s with
  | zero =>
    intro m t _ hm
    obtain ⟨m, rfl⟩ : ∃ q, m = q + 1 := ⟨m - 1, by omega⟩
    show s_tailTerm_10 F sI tails (b_tailTerm_10 F sI tails m) (nI k) x (nI t) (nI 0 + -1) = _
    unfold s_tailTerm_10
    rw [if_pos (by decide +kernel)]
    rfl
  | succ s ih =>
    intro m t hs hm
    obtain ⟨m, rfl⟩ : ∃ q, m = q + 1 := ⟨m - 1, by omega⟩
    have hl := hal s (by omega)
    rw [pk_m1 s]
    show s_tailTerm_10 F sI tails (b_tailTerm_10 F sI tails m) (nI k) x (nI t) (nI s) = _
    unfold s_tailTerm_10
    rw [if_neg (show ¬ nI s < 0 from nI_nlt (Nat.zero_le s) (by omega)), show nI k * 40 = nI (k * 40) from pk_mul k 40, nI_add, rdI_n (by omega) (by decide), show k * 40 + s = 40 * k + s by omega, ha s (by omega)]
    by_cases q : a s = 0
    · rw [q, if_pos (show nI 0 = 0 from rfl), ih m t (by omega) (by omega)]
      show _ = some (match (if a s = 0 then tSp a x s t else _) with | none => -1 | some r => nI r)
      rw [if_pos q]
    · rw [if_neg (nI_ne0 (by omega) (by omega))]
      by_cases y : nI t + 1 = x
      · rw [if_pos y]
        show _ = some (match (if a s = 0 then _ else if nI t + 1 = x then some s else _) with | none => -1 | some r => nI r)
        rw [if_neg q, if_pos y]
      · rw [if_neg y, show nI t + 1 = nI (t + 1) from nI_add t 1, ih m (t + 1) (by omega) (by omega)]
        show _ = some (match (if a s = 0 then _ else if nI t + 1 = x then some s else tSp a x s (t + 1)) with | none => -1 | some r => nI r)
        rw [if_neg q, if_neg y]
theorem p_zentry_l {k : Nat} (hk : k < 160) {a : Nat → Nat} (ha : ∀ i, i < 40 → tails2 (40 * k + i) = nI (a i)) (hal : ∀ i, i < 40 → a i < 32004) (x y : Int32) : ∀ (s m t : Nat), s ≤ 40 → s < m →
    b_zentry_58 F lc2 heads2 tails2 stand2 m (nI k) x y (nI t) (nI s + (-1)) 0 = (match tSp a x s t with | none => some (-1, 0) | some r => if y = 0 then some (stand2 r, 0) else some (nI (a r), 0)) := by
  intro s
  induction s with
  | zero =>
    intro m t _ hm
    obtain ⟨m, rfl⟩ : ∃ q, m = q + 1 := ⟨m - 1, by omega⟩
    show s_zentry_58 F lc2 heads2 tails2 stand2 (b_zentry_58 F lc2 heads2 tails2 stand2 m) (nI k) x y (nI t) (nI 0 + -1) 0 = _
    unfold s_zentry_58
    rw [if_pos (by decide +kernel)]
    rfl
  | succ s ih =>
    intro m t hs hm
    obtain ⟨m, rfl⟩ : ∃ q, m = q + 1 := ⟨m - 1, by omega⟩
    have hl := hal s (by omega)
    rw [pk_m1 s]
    show s_zentry_58 F lc2 heads2 tails2 stand2 (b_zentry_58 F lc2 heads2 tails2 stand2 m) (nI k) x y (nI t) (nI s) 0 = _
    unfold s_zentry_58
    rw [if_neg (show ¬ nI s < 0 from nI_nlt (Nat.zero_le s) (by omega)), show (40 : Int32) * nI k = nI (40 * k) from pk_mul 40 k, nI_add, rdI_n (by omega) (by decide), ha s (by omega)]
    by_cases q : a s = 0
    · rw [q, if_pos (show nI 0 = 0 from rfl), ih m t (by omega) (by omega)]
      rw [tSp_s, if_pos q]
    · rw [if_neg (nI_ne0 (by omega) (by omega))]
      by_cases z : nI t + 1 = x
      · rw [if_pos z, rdI_n (by omega) (by decide), rdI_n (by omega) (by decide), ha s (by omega)]
        rw [tSp_s, if_neg q, if_pos z]
      · rw [if_neg z, show nI t + 1 = nI (t + 1) from nI_add t 1, ih m (t + 1) (by omega) (by omega)]
        rw [tSp_s, if_neg q, if_neg z]
theorem o_entry (hF : 40000 < F) (hB : OB sz vs W H A) (hC : OC sz vs g P W H A rz rv lc ls codes prods heads tails stand) (hZ : OC sz vs g P W H A rz2 rv2 lc2 ls2 codes2 prods2 heads2 tails2 stand2) (x y z tc : Int32) : ∃ r, m_entry F lc ls heads tails stand x y z = some r ∧ m_zentry F lc2 heads2 tails2 stand2 x y z tc = some (r, 0) := by
  obtain ⟨_, _, hW, hH, hA⟩ := hB
  unfold m_entry m_zentry
  by_cases hx : x < 0
  · rw [if_pos hx, if_pos hx]; exact ⟨_, rfl, rfl⟩
  · rw [if_neg hx, if_neg hx]
    obtain ⟨k, hk, rfl⟩ := neg_lt0 hx
    by_cases hk2 : k < H.length
    · have hpos : 0 < H.length := by omega
      rw [hC.2.2.2.2.1, hZ.2.2.2.2.1, hC.2.2.2.2.2.1 hpos, if_neg (nI_ge hk2 (by omega)), if_neg (nI_ge hk2 (by omega))]
      by_cases hy : y < 0
      · rw [if_pos hy, if_pos hy]; exact ⟨_, rfl, rfl⟩
      · rw [if_neg hy, if_neg hy]
        have main : ∀ o, o < 2 → z = nI o → ∃ r, s_entry_30 F (nI H.length) (nI W.length) heads tails stand (nI k) y z = some r ∧ (if y = 0 then (if z = 0 then (rdI 160 heads2 (nI k) fun x_1 => some (x_1, (0 : Int32))) else some (1, 0)) else b_zentry_58 F (nI H.length) heads2 tails2 stand2 F (nI k) y z 0 39 0) = some (r, 0) := by
          intro o ho ez
          unfold s_entry_30
          by_cases hy0 : y = 0
          · rw [if_pos hy0, if_pos hy0]
            by_cases hz0 : z = 0
            · rw [if_pos hz0, if_pos hz0, rdI_n (by omega) (by decide), rdI_n (by omega) (by decide), hC.2.2.2.2.2.2.1 k hk2, hZ.2.2.2.2.2.2.1 k hk2]
              exact ⟨_, rfl, rfl⟩
            · rw [if_neg hz0, if_neg hz0]; exact ⟨_, rfl, rfl⟩
          · rw [if_neg hy0, if_neg hy0]
            have t1 := p_tailTerm_l (F := F) (tails := tails) (k := k) (by omega) (a := A k) (fun i hi => hC.2.2.2.2.2.2.2.1 k i hk2 hi) (fun i hi => (hA k hk2 i hi).1) y (sI := nI W.length) W.length F 0 (by omega) (by omega)
            have t2 := p_zentry_l (F := F) (lc2 := nI H.length) (heads2 := heads2) (tails2 := tails2) (stand2 := stand2) (k := k) (by omega) (a := A k) (fun i hi => hZ.2.2.2.2.2.2.2.1 k i hk2 hi) (fun i hi => (hA k hk2 i hi).1) y z 40 F 0 (by omega) (by omega)
            have hsk := tSp_skip (a := A k) (x := y) (L := W.length) (fun i h1 h2 => (hA k hk2 i h2).2 h1) (40 - W.length) (by omega)
            rw [show W.length + (40 - W.length) = 40 by omega] at hsk
            rw [hsk] at t2
            have e1 : m_tailTerm F (nI W.length) tails (nI k) y = some (match tSp (A k) y W.length 0 with | none => -1 | some r => nI r) := by
              rw [← t1]
              unfold m_tailTerm
              rw [show (-1 : Int32) = -nI 1 from by decide +kernel, ← Int32.sub_eq_add_neg]
              rfl
            have e2 : b_zentry_58 F (nI H.length) heads2 tails2 stand2 F (nI k) y z 0 39 0 = (match tSp (A k) y W.length 0 with | none => some (-1, 0) | some r => if z = 0 then some (stand2 r, 0) else some (nI (A k r), 0)) := by
              rw [← t2]
              rfl
            rw [e1, e2, bd1_n]
            cases ht : tSp (A k) y W.length 0 with
            | none => exact ⟨-1, by rw [if_pos rfl], rfl⟩
            | some r =>
              have hr := tSp_lt _ _ _ ht
              show ∃ r_1, (if nI r = -1 then _ else _) = some r_1 ∧ (if z = 0 then some (stand2 r, 0) else some (nI (A k r), 0)) = some (r_1, 0)
              rw [if_neg (nI_nm1 (by omega))]
              by_cases hz0 : z = 0
              · rw [if_pos hz0, if_pos hz0, rdI_n (by omega) (by decide), hC.2.2.2.2.2.2.2.2 r hr hpos, hZ.2.2.2.2.2.2.2.2 r hr hpos]
                exact ⟨_, rfl, rfl⟩
              · rw [if_neg hz0, if_neg hz0, show nI k * 40 = nI (k * 40) from pk_mul k 40, nI_add, rdI_n (by omega) (by decide), show k * 40 + r = 40 * k + r by omega, hC.2.2.2.2.2.2.2.1 k r hk2 (by omega)]
                exact ⟨_, rfl, rfl⟩
        by_cases h0 : z = 0
        · obtain ⟨r, a, b⟩ := main 0 (by decide) (by rw [h0]; rfl)
          rw [if_pos h0, if_neg (show ¬ z < 0 by rw [h0]; decide), if_pos (show z ≤ 1 by rw [h0]; decide)]
          exact ⟨r, a, b⟩
        · rw [if_neg h0]
          by_cases h1 : z = 1
          · obtain ⟨r, a, b⟩ := main 1 (by decide) (by rw [h1]; rfl)
            rw [if_pos h1, if_neg (show ¬ z < 0 by rw [h1]; decide), if_pos (show z ≤ 1 by rw [h1]; decide)]
            exact ⟨r, a, b⟩
          · rw [if_neg h1]
            refine ⟨-1, rfl, ?_⟩
            by_cases q : z < 0
            · rw [if_pos q]
            · rw [if_neg q, if_neg (fun w => ?_)]
              obtain ⟨j, hj, rfl⟩ := neg_lt0 q
              have e1' : (1 : Int32).toInt = 1 := by decide
              rw [Int32.le_iff_toInt_le, e1', nI_toInt hj] at w
              rcases (show j = 0 ∨ j = 1 by omega) with y | y
              · exact h0 (by rw [y]; rfl)
              · exact h1 (by rw [y]; rfl)
    · rw [hC.2.2.2.2.1, hZ.2.2.2.2.1, if_pos (nI_le (by omega) (by omega)), if_pos (nI_le (by omega) (by omega))]
      exact ⟨_, rfl, rfl⟩
end OBS
