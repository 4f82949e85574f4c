/-! THE CLASS'S BASIS: which monomials it leads with. -/
noncomputable def bsN (cg Lf : Nat → Nat) : Nat → List Nat
  | 0 => []
  | i + 1 => if Lf i = 1 ∧ ∀ b ∈ bsN cg Lf i, dvN 0 (cg b) (cg i) ≠ 1 then bsN cg Lf i ++ [i] else bsN cg Lf i
theorem bsN_mem (cg Lf : Nat → Nat) : ∀ k b, b ∈ bsN cg Lf k → b < k ∧ Lf b = 1 := by
  intro k
  induction k with
  | zero => intro b h; exact absurd h List.not_mem_nil
  | succ k ih =>
    intro b h
    unfold bsN at h
    split at h
    · rename_i hc
      rw [List.mem_append, List.mem_singleton] at h
      rcases h with h | h
      · exact ⟨by have := (ih b h).1; omega, (ih b h).2⟩
      · rw [h]; exact ⟨by omega, hc.1⟩
    · exact ⟨by have := (ih b h).1; omega, (ih b h).2⟩
theorem bsN_len (cg Lf : Nat → Nat) : ∀ k, (bsN cg Lf k).length ≤ k := by
  intro k
  induction k with
  | zero => exact Nat.le_refl _
  | succ k ih =>
    unfold bsN
    split
    · rw [List.length_append]
      have : [k].length = 1 := rfl
      omega
    · omega
/-- the array holds the list -/
def Arr (l : List Nat) (f : Nat → Nat) : Prop := ∀ q (h : q < l.length), f q = l[q]
theorem Arr.mem {l : List Nat} {f : Nat → Nat} (h : Arr l f) (b : Nat) : b ∈ l ↔ ∃ q, q < l.length ∧ f q = b := by
  rw [List.mem_iff_getElem]
  constructor
  · rintro ⟨q, hq, e⟩; exact ⟨q, hq, by rw [h q hq, e]⟩
  · rintro ⟨q, hq, e⟩; exact ⟨q, hq, by rw [← h q hq, e]⟩
theorem Arr.push {l : List Nat} {f : Nat → Nat} (h : Arr l f) (b : Nat) : Arr (l ++ [b]) (fun j => if j = l.length then b else f j) := by
  intro q hq
  rw [List.length_append] at hq
  have : [b].length = 1 := rfl
  show (if q = l.length then b else f q) = _
  by_cases e : q = l.length
  · rw [if_pos e]
    subst e
    rw [List.getElem_append_right (Nat.le_refl _)]
    simp
  · rw [if_neg e, h q (by omega), List.getElem_append_left (by omega)]
/-- 1 if a member of the list divides c -/
noncomputable def hlN (cg : Nat → Nat) (l : List Nat) (c : Nat) : Nat := if ∀ b ∈ l, dvN 0 (cg b) c ≠ 1 then 0 else 1
theorem p_hasLead {F : Nat} (hF : 200 < F) {l : List Nat} {cg bs : Nat → Nat} {c : Nat} (hc : c < 2 ^ 32) (hA : Arr l bs) (hl : l.length ≤ 126) (hb : ∀ b ∈ l, b < 126 ∧ cg b < 2 ^ 32) : m_hasLead F (nI l.length) (nF cg) (nF bs) (nI c) = some (nI (hlN cg l c)) := by
  have hb2 : ∀ j, j < l.length → bs j ∈ l := fun j hj => (hA.mem _).mpr ⟨j, hj, rfl⟩
  unfold hlN
  rcases p_hasLead_l F (by omega) hl hc cg bs (fun j hj => (hb _ (hb2 j hj)).2) (fun j hj => (hb _ (hb2 j hj)).1) l.length F 0 (by omega) (by omega) with ⟨⟨j, _, h2, h3⟩, e⟩ | ⟨h1, e⟩
  · rw [if_neg (fun q => q _ (hb2 j h2) h3)]; exact e
  · rw [if_pos (fun b hb3 => by
      obtain ⟨q, hq, e2⟩ := (hA.mem b).mp hb3
      rw [← e2]; exact h1 q (by omega) hq)]
    exact e
section PICKB
variable {F p n ord : Nat} {cg kg : Nat → Nat}
theorem p_pickBasis_l (hF : 40000 < F) (hp : 2 ≤ p) (hp2 : p ≤ 32003) (h1 : 1 ≤ n) (h4 : n ≤ 4) (hT : Tab n ord cg kg) {Lf : Nat → Nat} :
    ∀ (d m i : Nat) (R bs : Nat → Nat), i + d = ctN n → d < m → Ech p (ctN n) Lf (rowF R) → Arr (bsN cg Lf i) bs → (∀ b ∈ bsN cg Lf i, ∀ j, j < b → Lf j = 1 → rowF R b j = 0) →
      ∃ R' bs', b_pickBasis_2 F (nI (ctN n)) (nI p) (nF cg) (nF Lf) m (nI i) (nI (bsN cg Lf i).length) (nF R) (nF bs) = some (nI (bsN cg Lf (ctN n)).length, nF R', nF bs') ∧ Ech p (ctN n) Lf (rowF R') ∧ Arr (bsN cg Lf (ctN n)) bs' ∧
        (∀ b ∈ bsN cg Lf (ctN n), ∀ j, j < b → Lf j = 1 → rowF R' b j = 0) ∧ ∀ f, RS p (ctN n) Lf (rowF R') f ↔ RS p (ctN n) Lf (rowF R) f := by
  have hct := ctN_le h1 h4
  intro d
  induction d with
  | zero =>
    intro m i R bs hi hm hE hA hz
    obtain ⟨m, rfl⟩ : ∃ q, m = q + 1 := ⟨m - 1, by omega⟩
    have e : i = ctN n := by omega
    subst e
    refine ⟨R, bs, ?_, hE, hA, hz, fun _ => Iff.rfl⟩
    show s_pickBasis_2 F (nI (ctN n)) (nI p) (nF cg) (nF Lf) (b_pickBasis_2 F (nI (ctN n)) (nI p) (nF cg) (nF Lf) m) (nI (ctN n)) (nI (bsN cg Lf (ctN n)).length) (nF R) (nF bs) = _
    unfold s_pickBasis_2
    rw [if_pos (nI_le (by omega) (by omega))]
  | succ d ih =>
    intro m i R bs hi hm hE hA hz
    obtain ⟨m, rfl⟩ : ∃ q, m = q + 1 := ⟨m - 1, by omega⟩
    have hlen := bsN_len cg Lf i
    have hbm : ∀ b ∈ bsN cg Lf i, b < 126 ∧ cg b < 2 ^ 32 := fun b hb => by
      have := (bsN_mem cg Lf i b hb).1
      exact ⟨by omega, (hT.inT h1 h4 (by omega)).1⟩
    have hci := (hT.inT h1 h4 (show i < ctN n by omega)).1
    have hhl := p_hasLead (F := F) (by omega) hci hA (by omega) hbm
    by_cases hL : Lf i = 1
    · by_cases hd : ∀ b ∈ bsN cg Lf i, dvN 0 (cg b) (cg i) ≠ 1
      · have eb : bsN cg Lf (i + 1) = bsN cg Lf i ++ [i] := by
          show (if _ then _ else _) = _
          rw [if_pos ⟨hL, hd⟩]
        have elen : (bsN cg Lf (i + 1)).length = (bsN cg Lf i).length + 1 := by rw [eb, List.length_append]; rfl
        obtain ⟨R1, a1, a2, a3, a4, a5⟩ := p_clearTail hF hp hp2 hct (show i < ctN n by omega) hL hE
        obtain ⟨R2, bs2, c1, c2, c3, c4, c5⟩ := ih m (i + 1) R1 (fun j => if j = (bsN cg Lf i).length then i else bs j) (by omega) (by omega) a2 (by rw [eb]; exact hA.push i) (fun b hb j hj hjL => by
          rw [eb, List.mem_append, List.mem_singleton] at hb
          rcases hb with hb | hb
          · have := (bsN_mem cg Lf i b hb).1
            rw [a3 b (by omega)]
            exact hz b hb j hj hjL
          · rw [hb]; exact a5 j (by omega) hjL)
        refine ⟨R2, bs2, ?_, c2, c3, c4, fun f => (c5 f).trans (a4 f)⟩
        rw [← c1, elen]
        show s_pickBasis_2 F (nI (ctN n)) (nI p) (nF cg) (nF Lf) (b_pickBasis_2 F (nI (ctN n)) (nI p) (nF cg) (nF Lf) m) (nI i) (nI (bsN cg Lf i).length) (nF R) (nF bs) = _
        unfold s_pickBasis_2
        rw [if_neg (nI_ge (by omega) (by omega)), if_neg (show ¬ (126 : Int32) ≤ nI (bsN cg Lf i).length from nI_ge (show (bsN cg Lf i).length < 126 by omega) (by decide)), rdI_n (by omega) (by decide), if_neg (show ¬ nF Lf i = 0 by show ¬ nI (Lf i) = 0; rw [hL]; decide +kernel), rdI_n (by omega) (by decide)]
        show bd1 (m_hasLead F (nI (bsN cg Lf i).length) (nF cg) (nF bs) (nI (cg i))) _ = _
        rw [hhl, bd1_n, show hlN cg (bsN cg Lf i) (cg i) = 0 from if_pos hd, if_pos (by decide), wrI_n (by omega) (by decide), upd_nF, a1, bd1_n, show nI i + 1 = nI (i + 1) from nI_add i 1, show nI (bsN cg Lf i).length + 1 = nI ((bsN cg Lf i).length + 1) from nI_add _ 1]
      · have eb : bsN cg Lf (i + 1) = bsN cg Lf i := by
          show (if _ then _ else _) = _
          rw [if_neg (fun q => hd q.2)]
        obtain ⟨R2, bs2, c1, c2⟩ := ih m (i + 1) R bs (by omega) (by omega) hE (by rw [eb]; exact hA) (by rw [eb]; exact hz)
        refine ⟨R2, bs2, ?_, c2⟩
        rw [← c1, eb]
        show s_pickBasis_2 F (nI (ctN n)) (nI p) (nF cg) (nF Lf) (b_pickBasis_2 F (nI (ctN n)) (nI p) (nF cg) (nF Lf) m) (nI i) (nI (bsN cg Lf i).length) (nF R) (nF bs) = _
        unfold s_pickBasis_2
        rw [if_neg (nI_ge (by omega) (by omega)), if_neg (show ¬ (126 : Int32) ≤ nI (bsN cg Lf i).length from nI_ge (show (bsN cg Lf i).length < 126 by omega) (by decide)), rdI_n (by omega) (by decide), if_neg (show ¬ nF Lf i = 0 by show ¬ nI (Lf i) = 0; rw [hL]; decide +kernel), rdI_n (by omega) (by decide)]
        show bd1 (m_hasLead F (nI (bsN cg Lf i).length) (nF cg) (nF bs) (nI (cg i))) _ = _
        rw [hhl, bd1_n, show hlN cg (bsN cg Lf i) (cg i) = 1 from if_neg hd, if_neg (by decide), show nI i + 1 = nI (i + 1) from nI_add i 1]
    · have eb : bsN cg Lf (i + 1) = bsN cg Lf i := by
        show (if _ then _ else _) = _
        rw [if_neg (fun q => hL q.1)]
      have hL0 : Lf i = 0 := by
        rcases hE.1 i with z | z
        · exact z
        · exact absurd z hL
      obtain ⟨R2, bs2, c1, c2⟩ := ih m (i + 1) R bs (by omega) (by omega) hE (by rw [eb]; exact hA) (by rw [eb]; exact hz)
      refine ⟨R2, bs2, ?_, c2⟩
      rw [← c1, eb]
      show s_pickBasis_2 F (nI (ctN n)) (nI p) (nF cg) (nF Lf) (b_pickBasis_2 F (nI (ctN n)) (nI p) (nF cg) (nF Lf) m) (nI i) (nI (bsN cg Lf i).length) (nF R) (nF bs) = _
      unfold s_pickBasis_2
      rw [if_neg (nI_ge (by omega) (by omega)), if_neg (show ¬ (126 : Int32) ≤ nI (bsN cg Lf i).length from nI_ge (show (bsN cg Lf i).length < 126 by omega) (by decide)), rdI_n (by omega) (by decide), if_pos (show nF Lf i = 0 by show nI (Lf i) = 0; rw [hL0]; rfl), show nI i + 1 = nI (i + 1) from nI_add i 1]
/-- the lcm of two leads is within the degree, or the leads have no variable in common -/
def Cpl (cg : Nat → Nat) (D : Nat) (l : List Nat) : Prop := ∀ a b (ha : a < l.length) (hb : b < l.length), a < b → lcN (cg l[a]) (cg l[b]) ≤ D ∨ lcN (cg l[a]) (cg l[b]) = degN (cg l[a]) + degN (cg l[b])
end PICKB
