/-! THE METHODS AS PURE FUNCTIONS, by our own program out of the listing: the class. -/
def m_rangeCheck (F : Nat) (i0 i1 i2 : Int32) : Option (Unit) :=
  if i1 ≤ i2 then (if 0 ≤ i1 then (if i2 ≤ i0 then (some ()) else
  (none)) else
  (none)) else
  (none)
def s_fill_5 (F nA : Nat) (k5 : Int32 → Int32 → Int32 → (Nat → Int32) → Option ((Nat → Int32))) (i1 i2 i3 : Int32) (fA : Nat → Int32) : Option ((Nat → Int32)) :=
  if i3 ≤ i2 then (some fA) else
  (wrI nA fA i2 i1 fun fA_1 =>
  k5 i1 (i2 + 1) i3 fA_1)
def b_fill_5 (F nA : Nat) (n : Nat) : Int32 → Int32 → Int32 → (Nat → Int32) → Option ((Nat → Int32)) := lpF (fun _ _ _ _ => none) (s_fill_5 F nA ) n
def m_fill (F nA : Nat) (i1 : Int32) (fA : Nat → Int32) : Option ((Nat → Int32)) :=
  b_fill_5 F nA F i1 0 (nI nA) fA
def s_fillR_10 (F nA : Nat) (k10 : Int32 → Int32 → Int32 → (Nat → Int32) → Option ((Nat → Int32))) (i2 i3 i4 : Int32) (fA : Nat → Int32) : Option ((Nat → Int32)) :=
  if i2 ≤ i4 then (some fA) else
  (wrI nA fA i4 i3 fun fA_1 =>
  k10 i2 i3 (i4 + 1) fA_1)
def b_fillR_10 (F nA : Nat) (n : Nat) : Int32 → Int32 → Int32 → (Nat → Int32) → Option ((Nat → Int32)) := lpF (fun _ _ _ _ => none) (s_fillR_10 F nA ) n
def m_fillR (F nA : Nat) (i1 i2 i3 : Int32) (fA : Nat → Int32) : Option ((Nat → Int32)) :=
  bd0 (m_rangeCheck F (nI nA) i1 i2) fun _ =>
  b_fillR_10 F nA F i2 i3 i1 fA
def m_floorMod (F : Nat) (i0 i1 : Int32) : Option (Int32) :=
  nzI i1 (if 0 ≤ (i0 ^^^ i1) then (some (remI i0 i1)) else
  (if (remI i0 i1) = 0 then (some (remI i0 i1)) else
  (some ((remI i0 i1) + i1))))
def s_isPrime_16 (F : Nat) (k16 : Int32 → Int32 → Option (Int32)) (i0 i1 : Int32) : Option (Int32) :=
  if i0 < (i1 * i1) then (some 1) else
  (nzI i1 (if (remI i0 i1) = 0 then (some 0) else
  (k16 i0 (i1 + 1))))
def b_isPrime_16 (F : Nat) (n : Nat) : Int32 → Int32 → Option (Int32) := lpF (fun _ _ => none) (s_isPrime_16 F ) n
def m_isPrime (F : Nat) (i0 : Int32) : Option (Int32) :=
  if i0 < 2 then (some 0) else
  (if i0 ≤ 32003 then (b_isPrime_16 F F i0 2) else
  (some 0))
def s_inverse_28 (F : Nat) (k9 : Int32 → Int32 → Int32 → Int32 → Option (Int32)) (i1 i2 i3 i4 : Int32) : Option (Int32) :=
  nzI i1 (k9 i1 i2 (remI (i3 * i3) i1) (shrI i4 1))
def s_inverse_9 (F : Nat) (k9 : Int32 → Int32 → Int32 → Int32 → Option (Int32)) (i1 i2 i3 i4 : Int32) : Option (Int32) :=
  if i4 ≤ 0 then (some i2) else
  (if (i4 &&& 1) = 1 then (nzI i1 (s_inverse_28 F k9 i1 (remI (i2 * i3) i1) i3 i4)) else
  (s_inverse_28 F k9 i1 i2 i3 i4))
def b_inverse_9 (F : Nat) (n : Nat) : Int32 → Int32 → Int32 → Int32 → Option (Int32) := lpF (fun _ _ _ _ => none) (s_inverse_9 F ) n
def m_inverse (F : Nat) (i0 i1 : Int32) : Option (Int32) :=
  b_inverse_9 F F i1 1 i0 (i1 - 2)
def s_addMultiple_3 (F nA nB : Nat) (fB : Nat → Int32) (k3 : Int32 → Int32 → Int32 → Int32 → Int32 → Int32 → (Nat → Int32) → Option ((Nat → Int32))) (i1 i3 i4 i5 i6 i7 : Int32) (fA : Nat → Int32) : Option ((Nat → Int32)) :=
  if i4 ≤ i7 then (some fA) else
  (rdI nB fB (i3 + i7) fun x_1 =>
  if x_1 = 0 then (k3 i1 i3 i4 i5 i6 (i7 + 1) fA) else
  (rdI nA fA (i1 + i7) fun x_2 =>
  nzI i6 (wrI nA fA (i1 + i7) (remI (x_2 + (i5 * x_1)) i6) fun fA_3 =>
  k3 i1 i3 i4 i5 i6 (i7 + 1) fA_3)))
def b_addMultiple_3 (F nA nB : Nat) (fB : Nat → Int32) (n : Nat) : Int32 → Int32 → Int32 → Int32 → Int32 → Int32 → (Nat → Int32) → Option ((Nat → Int32)) := lpF (fun _ _ _ _ _ _ _ => none) (s_addMultiple_3 F nA nB fB ) n
def m_addMultiple (F nA nB : Nat) (fB : Nat → Int32) (i1 i3 i4 i5 i6 : Int32) (fA : Nat → Int32) : Option ((Nat → Int32)) :=
  b_addMultiple_3 F nA nB fB F i1 i3 i4 i5 i6 0 fA
def s_addMultipleS_3 (F nA : Nat) (k3 : Int32 → Int32 → Int32 → Int32 → Int32 → Int32 → (Nat → Int32) → Option ((Nat → Int32))) (i1 i3 i4 i5 i6 i7 : Int32) (fA : Nat → Int32) : Option ((Nat → Int32)) :=
  if i4 ≤ i7 then (some fA) else
  (rdI nA fA (i3 + i7) fun x_1 =>
  if x_1 = 0 then (k3 i1 i3 i4 i5 i6 (i7 + 1) fA) else
  (rdI nA fA (i1 + i7) fun x_2 =>
  nzI i6 (wrI nA fA (i1 + i7) (remI (x_2 + (i5 * x_1)) i6) fun fA_3 =>
  k3 i1 i3 i4 i5 i6 (i7 + 1) fA_3)))
def b_addMultipleS_3 (F nA : Nat) (n : Nat) : Int32 → Int32 → Int32 → Int32 → Int32 → Int32 → (Nat → Int32) → Option ((Nat → Int32)) := lpF (fun _ _ _ _ _ _ _ => none) (s_addMultipleS_3 F nA ) n
def m_addMultipleS (F nA : Nat) (i1 i3 i4 i5 i6 : Int32) (fA : Nat → Int32) : Option ((Nat → Int32)) :=
  b_addMultipleS_3 F nA F i1 i3 i4 i5 i6 0 fA
def s_first_2 (F nA : Nat) (fA : Nat → Int32) (k2 : Int32 → Int32 → Option (Int32)) (i1 i2 : Int32) : Option (Int32) :=
  if i1 ≤ i2 then (some (-1)) else
  (rdI nA fA i2 fun x_1 =>
  if x_1 = 0 then (k2 i1 (i2 + 1)) else
  (some i2))
def b_first_2 (F nA : Nat) (fA : Nat → Int32) (n : Nat) : Int32 → Int32 → Option (Int32) := lpF (fun _ _ => none) (s_first_2 F nA fA ) n
def m_first (F nA : Nat) (fA : Nat → Int32) (i1 : Int32) : Option (Int32) :=
  b_first_2 F nA fA F i1 0
def m_variable (F : Nat) (i0 : Int32) : Option (Int32) :=
  some (shlI 1 (24 - (8 * i0)))
def m_exponent (F : Nat) (i0 i1 : Int32) : Option (Int32) :=
  some ((ushI i0 (24 - (8 * i1))) &&& 255)
def m_degree (F : Nat) (i0 : Int32) : Option (Int32) :=
  bd1 (m_exponent F i0 0) fun r_1 =>
  bd1 (m_exponent F i0 1) fun r_2 =>
  bd1 (m_exponent F i0 2) fun r_3 =>
  bd1 (m_exponent F i0 3) fun r_4 =>
  some (((r_1 + r_2) + r_3) + r_4)
def s_divides_2 (F : Nat) (k2 : Int32 → Int32 → Int32 → Option (Int32)) (i0 i1 i2 : Int32) : Option (Int32) :=
  if 4 ≤ i2 then (some 1) else
  (bd1 (m_exponent F i0 i2) fun r_1 =>
  bd1 (m_exponent F i1 i2) fun r_2 =>
  if r_1 ≤ r_2 then (k2 i0 i1 (i2 + 1)) else
  (some 0))
def b_divides_2 (F : Nat) (n : Nat) : Int32 → Int32 → Int32 → Option (Int32) := lpF (fun _ _ _ => none) (s_divides_2 F ) n
def m_divides (F : Nat) (i0 i1 : Int32) : Option (Int32) :=
  b_divides_2 F F i0 i1 0
def s_common_4 (F : Nat) (k4 : Int32 → Int32 → Int32 → Int32 → Option (Int32)) (i0 i1 i2 i3 : Int32) : Option (Int32) :=
  if 4 ≤ i3 then (some i2) else
  (bd1 (m_exponent F i0 i3) fun r_1 =>
  bd1 (m_exponent F i1 i3) fun r_2 =>
  k4 i0 i1 (i2 + (maxI r_1 r_2)) (i3 + 1))
def b_common_4 (F : Nat) (n : Nat) : Int32 → Int32 → Int32 → Int32 → Option (Int32) := lpF (fun _ _ _ _ => none) (s_common_4 F ) n
def m_common (F : Nat) (i0 i1 : Int32) : Option (Int32) :=
  b_common_4 F F i0 i1 0 0
def s_key_40 (F : Nat) (k9 : Int32 → Int32 → Int64 → Int32 → Option (Int64)) (i0 i1 : Int32) (l2 : Int64) (i4 t0 : Int32) : Option (Int64) :=
  k9 i0 i1 ((l2 * 256) + t0.toInt64) (i4 + 1)
def s_key_9 (F : Nat) (k9 : Int32 → Int32 → Int64 → Int32 → Option (Int64)) (i0 i1 : Int32) (l2 : Int64) (i4 : Int32) : Option (Int64) :=
  if 4 ≤ i4 then (some l2) else
  (if i1 = 0 then (bd1 (m_exponent F i0 (3 - i4)) fun r_2 =>
  s_key_40 F k9 i0 i1 l2 i4 (255 - r_2)) else
  (bd1 (m_exponent F i0 i4) fun r_1 =>
  s_key_40 F k9 i0 i1 l2 i4 r_1))
def b_key_9 (F : Nat) (n : Nat) : Int32 → Int32 → Int64 → Int32 → Option (Int64) := lpF (fun _ _ _ _ => none) (s_key_9 F ) n
def m_key (F : Nat) (i0 i1 : Int32) : Option (Int64) :=
  bd1 (m_degree F i0) fun r_1 =>
  b_key_9 F F i0 i1 r_1.toInt64 0
def m_productRow (F : Nat) (i0 i1 : Int32) : Option (Int32) :=
  some (((i0 * 40) + i1) * 40)
def m_most (F : Nat) (Mo_highest Mo_variables i1 i2 : Int32) : Option (Int32) :=
  if Mo_variables ≤ i1 then (some 0) else
  (some (Mo_highest - i2))
def s_insert_82 (F : Nat) (Mo_order : Int32)  (i1 : Int32) (l2 : Int64) (i4 Mo_count : Int32) (Mo_codes : Nat → Int32) (Mo_keys : Nat → Int64) : Option (Int32 × (Nat → Int32) × (Nat → Int64)) :=
  wrL 126 Mo_keys i4 l2 fun Mo_keys_1 =>
  wrI 126 Mo_codes i4 i1 fun Mo_codes_2 =>
  some ((Mo_count + 1), Mo_codes_2, Mo_keys_1)
def s_insert_25 (F : Nat) (Mo_order : Int32) (k25 : Int32 → Int64 → Int32 → Int32 → (Nat → Int32) → (Nat → Int64) → Option (Int32 × (Nat → Int32) × (Nat → Int64))) (i1 : Int32) (l2 : Int64) (i4 Mo_count : Int32) (Mo_codes : Nat → Int32) (Mo_keys : Nat → Int64) : Option (Int32 × (Nat → Int32) × (Nat → Int64)) :=
  if i4 ≤ 0 then (s_insert_82 F Mo_order i1 l2 i4 Mo_count Mo_codes Mo_keys) else
  (rdL 126 Mo_keys (i4 - 1) fun x_1 =>
  if (lg_cmp x_1 l2) ≤ 0 then (s_insert_82 F Mo_order i1 l2 i4 Mo_count Mo_codes Mo_keys) else
  (rdL 126 Mo_keys (i4 - 1) fun x_2 =>
  wrL 126 Mo_keys i4 x_2 fun Mo_keys_3 =>
  rdI 126 Mo_codes (i4 - 1) fun x_4 =>
  wrI 126 Mo_codes i4 x_4 fun Mo_codes_5 =>
  k25 i1 l2 (i4 + (-1)) Mo_count Mo_codes_5 Mo_keys_3))
def b_insert_25 (F : Nat) (Mo_order : Int32) (n : Nat) : Int32 → Int64 → Int32 → Int32 → (Nat → Int32) → (Nat → Int64) → Option (Int32 × (Nat → Int32) × (Nat → Int64)) := lpF (fun _ _ _ _ _ _ => none) (s_insert_25 F Mo_order ) n
def m_insert (F : Nat) (Mo_order i1 Mo_count : Int32) (Mo_codes : Nat → Int32) (Mo_keys : Nat → Int64) : Option (Int32 × (Nat → Int32) × (Nat → Int64)) :=
  if Mo_count < 126 then (bd1 (m_key F i1 Mo_order) fun r_1 =>
  b_insert_25 F Mo_order F i1 r_1 Mo_count Mo_count Mo_codes Mo_keys) else
  (some (Mo_count, Mo_codes, Mo_keys))
def s_rank_23 (F : Nat) (Mo_count Mo_order : Int32) (Mo_keys : Nat → Int64) (k23 : Int64 → Int32 → Int32 → Int32 → Option (Int32)) (l2 : Int64) (i4 i5 i6 : Int32) : Option (Int32) :=
  if 32 ≤ i6 then (some (-1)) else
  (if i5 < i4 then (some (-1)) else
  (rdL 126 Mo_keys (ushI (i4 + i5) 1) fun x_1 =>
  if (lg_cmp x_1 l2) = 0 then (some (ushI (i4 + i5) 1)) else
  (rdL 126 Mo_keys (ushI (i4 + i5) 1) fun x_2 =>
  if 0 ≤ (lg_cmp x_2 l2) then (k23 l2 i4 ((ushI (i4 + i5) 1) - 1) (i6 + 1)) else
  (k23 l2 ((ushI (i4 + i5) 1) + 1) i5 (i6 + 1)))))
def b_rank_23 (F : Nat) (Mo_count Mo_order : Int32) (Mo_keys : Nat → Int64) (n : Nat) : Int64 → Int32 → Int32 → Int32 → Option (Int32) := lpF (fun _ _ _ _ => none) (s_rank_23 F Mo_count Mo_order Mo_keys ) n
def m_rank (F : Nat) (Mo_count Mo_order : Int32) (Mo_keys : Nat → Int64) (i1 : Int32) : Option (Int32) :=
  bd1 (m_key F i1 Mo_order) fun r_1 =>
  b_rank_23 F Mo_count Mo_order Mo_keys F r_1 0 (Mo_count - 1) 0
def s_layWithX_39 (F : Nat) (Mo_highest Mo_order Mo_variables : Int32) (k2 : Int32 → Int32 → (Nat → Int32) → (Nat → Int64) → Option (Int32 × (Nat → Int32) × (Nat → Int64))) (k12 : Int32 → Int32 → Int32 → (Nat → Int32) → (Nat → Int64) → Option (Int32 × (Nat → Int32) × (Nat → Int64))) (k24 : Int32 → Int32 → Int32 → Int32 → (Nat → Int32) → (Nat → Int64) → Option (Int32 × (Nat → Int32) × (Nat → Int64))) (k39 : Int32 → Int32 → Int32 → Int32 → Int32 → (Nat → Int32) → (Nat → Int64) → Option (Int32 × (Nat → Int32) × (Nat → Int64))) (i1 i2 i3 i4 Mo_count : Int32) (Mo_codes : Nat → Int32) (Mo_keys : Nat → Int64) : Option (Int32 × (Nat → Int32) × (Nat → Int64)) :=
  bd1 (m_most F Mo_highest Mo_variables 3 ((i1 + i2) + i3)) fun r_1 =>
  if r_1 < i4 then (k24 i1 i2 (i3 + 1) Mo_count Mo_codes Mo_keys) else
  (bd3 (m_insert F Mo_order ((((shlI i1 24) ||| (shlI i2 16)) ||| (shlI i3 8)) ||| i4) Mo_count Mo_codes Mo_keys) fun Mo_count_2 Mo_codes_3 Mo_keys_4 =>
  k39 i1 i2 i3 (i4 + 1) Mo_count_2 Mo_codes_3 Mo_keys_4)
def b_layWithX_39 (F : Nat) (Mo_highest Mo_order Mo_variables : Int32) (k2 : Int32 → Int32 → (Nat → Int32) → (Nat → Int64) → Option (Int32 × (Nat → Int32) × (Nat → Int64))) (k12 : Int32 → Int32 → Int32 → (Nat → Int32) → (Nat → Int64) → Option (Int32 × (Nat → Int32) × (Nat → Int64))) (k24 : Int32 → Int32 → Int32 → Int32 → (Nat → Int32) → (Nat → Int64) → Option (Int32 × (Nat → Int32) × (Nat → Int64))) (n : Nat) : Int32 → Int32 → Int32 → Int32 → Int32 → (Nat → Int32) → (Nat → Int64) → Option (Int32 × (Nat → Int32) × (Nat → Int64)) := lpF (fun _ _ _ _ _ _ _ => none) (s_layWithX_39 F Mo_highest Mo_order Mo_variables k2 k12 k24) n
def s_layWithX_24 (F : Nat) (Mo_highest Mo_order Mo_variables : Int32) (k2 : Int32 → Int32 → (Nat → Int32) → (Nat → Int64) → Option (Int32 × (Nat → Int32) × (Nat → Int64))) (k12 : Int32 → Int32 → Int32 → (Nat → Int32) → (Nat → Int64) → Option (Int32 × (Nat → Int32) × (Nat → Int64))) (k24 : Int32 → Int32 → Int32 → Int32 → (Nat → Int32) → (Nat → Int64) → Option (Int32 × (Nat → Int32) × (Nat → Int64))) (i1 i2 i3 Mo_count : Int32) (Mo_codes : Nat → Int32) (Mo_keys : Nat → Int64) : Option (Int32 × (Nat → Int32) × (Nat → Int64)) :=
  bd1 (m_most F Mo_highest Mo_variables 2 (i1 + i2)) fun r_1 =>
  if r_1 < i3 then (k12 i1 (i2 + 1) Mo_count Mo_codes Mo_keys) else
  (b_layWithX_39 F Mo_highest Mo_order Mo_variables k2 k12 k24 F i1 i2 i3 0 Mo_count Mo_codes Mo_keys)
def b_layWithX_24 (F : Nat) (Mo_highest Mo_order Mo_variables : Int32) (k2 : Int32 → Int32 → (Nat → Int32) → (Nat → Int64) → Option (Int32 × (Nat → Int32) × (Nat → Int64))) (k12 : Int32 → Int32 → Int32 → (Nat → Int32) → (Nat → Int64) → Option (Int32 × (Nat → Int32) × (Nat → Int64))) (n : Nat) : Int32 → Int32 → Int32 → Int32 → (Nat → Int32) → (Nat → Int64) → Option (Int32 × (Nat → Int32) × (Nat → Int64)) := lpF (fun _ _ _ _ _ _ => none) (s_layWithX_24 F Mo_highest Mo_order Mo_variables k2 k12) n
def s_layWithX_12 (F : Nat) (Mo_highest Mo_order Mo_variables : Int32) (k2 : Int32 → Int32 → (Nat → Int32) → (Nat → Int64) → Option (Int32 × (Nat → Int32) × (Nat → Int64))) (k12 : Int32 → Int32 → Int32 → (Nat → Int32) → (Nat → Int64) → Option (Int32 × (Nat → Int32) × (Nat → Int64))) (i1 i2 Mo_count : Int32) (Mo_codes : Nat → Int32) (Mo_keys : Nat → Int64) : Option (Int32 × (Nat → Int32) × (Nat → Int64)) :=
  bd1 (m_most F Mo_highest Mo_variables 1 i1) fun r_1 =>
  if r_1 < i2 then (k2 (i1 + 1) Mo_count Mo_codes Mo_keys) else
  (b_layWithX_24 F Mo_highest Mo_order Mo_variables k2 k12 F i1 i2 0 Mo_count Mo_codes Mo_keys)
def b_layWithX_12 (F : Nat) (Mo_highest Mo_order Mo_variables : Int32) (k2 : Int32 → Int32 → (Nat → Int32) → (Nat → Int64) → Option (Int32 × (Nat → Int32) × (Nat → Int64))) (n : Nat) : Int32 → Int32 → Int32 → (Nat → Int32) → (Nat → Int64) → Option (Int32 × (Nat → Int32) × (Nat → Int64)) := lpF (fun _ _ _ _ _ => none) (s_layWithX_12 F Mo_highest Mo_order Mo_variables k2) n
def s_layWithX_2 (F : Nat) (Mo_highest Mo_order Mo_variables : Int32) (k2 : Int32 → Int32 → (Nat → Int32) → (Nat → Int64) → Option (Int32 × (Nat → Int32) × (Nat → Int64))) (i1 Mo_count : Int32) (Mo_codes : Nat → Int32) (Mo_keys : Nat → Int64) : Option (Int32 × (Nat → Int32) × (Nat → Int64)) :=
  if Mo_highest < i1 then (some (Mo_count, Mo_codes, Mo_keys)) else
  (b_layWithX_12 F Mo_highest Mo_order Mo_variables k2 F i1 0 Mo_count Mo_codes Mo_keys)
def b_layWithX_2 (F : Nat) (Mo_highest Mo_order Mo_variables : Int32) (n : Nat) : Int32 → Int32 → (Nat → Int32) → (Nat → Int64) → Option (Int32 × (Nat → Int32) × (Nat → Int64)) := lpF (fun _ _ _ _ => none) (s_layWithX_2 F Mo_highest Mo_order Mo_variables ) n
def m_layWithX (F : Nat) (Mo_highest Mo_order Mo_variables Mo_count : Int32) (Mo_codes : Nat → Int32) (Mo_keys : Nat → Int64) : Option (Int32 × (Nat → Int32) × (Nat → Int64)) :=
  b_layWithX_2 F Mo_highest Mo_order Mo_variables F 0 Mo_count Mo_codes Mo_keys
def s_lay_58 (F : Nat) (k32 : Int32 → Int32 → Int32 → Int32 → Int32 → (Nat → Int32) → (Nat → Int32) → (Nat → Int64) → (Nat → Int32) → Option (Int32 × Int32 × Int32 × Int32 × (Nat → Int32) × (Nat → Int32) × (Nat → Int64) × (Nat → Int32))) (k58 : Int32 → Int32 → Int32 → Int32 → Int32 → Int32 → (Nat → Int32) → (Nat → Int32) → (Nat → Int64) → (Nat → Int32) → Option (Int32 × Int32 × Int32 × Int32 × (Nat → Int32) × (Nat → Int32) × (Nat → Int64) × (Nat → Int32))) (i3 i4 Mo_count Mo_highest Mo_order Mo_variables : Int32) (Mo_codes Mo_degrees : Nat → Int32) (Mo_keys : Nat → Int64) (Mo_raised : Nat → Int32) : Option (Int32 × Int32 × Int32 × Int32 × (Nat → Int32) × (Nat → Int32) × (Nat → Int64) × (Nat → Int32)) :=
  if Mo_variables ≤ i4 then (k32 (i3 + 1) Mo_count Mo_highest Mo_order Mo_variables Mo_codes Mo_degrees Mo_keys Mo_raised) else
  (rdI 126 Mo_codes i3 fun x_1 =>
  bd1 (m_variable F i4) fun r_2 =>
  bd1 (m_rank F Mo_count Mo_order Mo_keys (x_1 + r_2)) fun r_3 =>
  wrI 504 Mo_raised ((i4 * 126) + i3) r_3 fun Mo_raised_4 =>
  k58 i3 (i4 + 1) Mo_count Mo_highest Mo_order Mo_variables Mo_codes Mo_degrees Mo_keys Mo_raised_4)
def b_lay_58 (F : Nat) (k32 : Int32 → Int32 → Int32 → Int32 → Int32 → (Nat → Int32) → (Nat → Int32) → (Nat → Int64) → (Nat → Int32) → Option (Int32 × Int32 × Int32 × Int32 × (Nat → Int32) × (Nat → Int32) × (Nat → Int64) × (Nat → Int32))) (n : Nat) : Int32 → Int32 → Int32 → Int32 → Int32 → Int32 → (Nat → Int32) → (Nat → Int32) → (Nat → Int64) → (Nat → Int32) → Option (Int32 × Int32 × Int32 × Int32 × (Nat → Int32) × (Nat → Int32) × (Nat → Int64) × (Nat → Int32)) := lpF (fun _ _ _ _ _ _ _ _ _ _ => none) (s_lay_58 F k32) n
def s_lay_32 (F : Nat) (k32 : Int32 → Int32 → Int32 → Int32 → Int32 → (Nat → Int32) → (Nat → Int32) → (Nat → Int64) → (Nat → Int32) → Option (Int32 × Int32 × Int32 × Int32 × (Nat → Int32) × (Nat → Int32) × (Nat → Int64) × (Nat → Int32))) (i3 Mo_count Mo_highest Mo_order Mo_variables : Int32) (Mo_codes Mo_degrees : Nat → Int32) (Mo_keys : Nat → Int64) (Mo_raised : Nat → Int32) : Option (Int32 × Int32 × Int32 × Int32 × (Nat → Int32) × (Nat → Int32) × (Nat → Int64) × (Nat → Int32)) :=
  if Mo_count ≤ i3 then (some (Mo_count, Mo_highest, Mo_order, Mo_variables, Mo_codes, Mo_degrees, Mo_keys, Mo_raised)) else
  (rdI 126 Mo_codes i3 fun x_1 =>
  bd1 (m_degree F x_1) fun r_2 =>
  wrI 126 Mo_degrees i3 r_2 fun Mo_degrees_3 =>
  b_lay_58 F k32 F i3 0 Mo_count Mo_highest Mo_order Mo_variables Mo_codes Mo_degrees_3 Mo_keys Mo_raised)
def b_lay_32 (F : Nat) (n : Nat) : Int32 → Int32 → Int32 → Int32 → Int32 → (Nat → Int32) → (Nat → Int32) → (Nat → Int64) → (Nat → Int32) → Option (Int32 × Int32 × Int32 × Int32 × (Nat → Int32) × (Nat → Int32) × (Nat → Int64) × (Nat → Int32)) := lpF (fun _ _ _ _ _ _ _ _ _ => none) (s_lay_32 F ) n
def m_lay (F : Nat) (i1 i2 Mo_count Mo_highest Mo_order Mo_variables : Int32) (Mo_codes Mo_degrees : Nat → Int32) (Mo_keys : Nat → Int64) (Mo_raised : Nat → Int32) : Option (Int32 × Int32 × Int32 × Int32 × (Nat → Int32) × (Nat → Int32) × (Nat → Int64) × (Nat → Int32)) :=
  rdI 4 HIGHEST_tab (i1 - 1) fun x_1 =>
  bd3 (m_layWithX F x_1 i2 i1 0 Mo_codes Mo_keys) fun Mo_count_2 Mo_codes_3 Mo_keys_4 =>
  b_lay_32 F F 0 Mo_count_2 x_1 i2 i1 Mo_codes_3 Mo_degrees Mo_keys_4 Mo_raised
def m_has1 (F : Nat) (Sp_leads : Nat → Int32) : Option (Int32) :=
  rdI 126 Sp_leads 0 fun x_1 =>
  bzI x_1 (some x_1)
def s_start_22 (F : Nat) (k22 : Int32 → Int32 → Int32 → Int32 → Int32 → (Nat → Int32) → Option (Int32 × Int32 × Int32 × Int32 × (Nat → Int32))) (i3 Sp_basisCount Sp_keptCount Sp_limit Sp_prime : Int32) (Sp_leads : Nat → Int32) : Option (Int32 × Int32 × Int32 × Int32 × (Nat → Int32)) :=
  if 126 ≤ i3 then (some (Sp_basisCount, Sp_keptCount, Sp_limit, Sp_prime, Sp_leads)) else
  (wrI 126 Sp_leads i3 (vp_nar .boolean 0) fun Sp_leads_1 =>
  k22 (i3 + 1) Sp_basisCount Sp_keptCount Sp_limit Sp_prime Sp_leads_1)
def b_start_22 (F : Nat) (n : Nat) : Int32 → Int32 → Int32 → Int32 → Int32 → (Nat → Int32) → Option (Int32 × Int32 × Int32 × Int32 × (Nat → Int32)) := lpF (fun _ _ _ _ _ _ => none) (s_start_22 F ) n
def m_start (F : Nat) (i1 i2 Sp_basisCount Sp_keptCount Sp_limit Sp_prime : Int32) (Sp_leads : Nat → Int32) : Option (Int32 × Int32 × Int32 × Int32 × (Nat → Int32)) :=
  b_start_22 F F 0 0 0 i2 i1 Sp_leads
def m_keepWork (F : Nat) (Sp_prime : Int32) (Sp_work : Nat → Int32) (i1 Sp_keptCount : Int32) (Sp_rows Sp_leads Sp_kept : Nat → Int32) : Option (Int32 × (Nat → Int32) × (Nat → Int32) × (Nat → Int32)) :=
  if Sp_keptCount < 126 then (bd1 (m_fillR F 15876 (i1 * 126) ((i1 * 126) + 126) 0 Sp_rows) fun Sp_rows_1 =>
  rdI 126 Sp_work i1 fun x_3 =>
  bd1 (m_inverse F x_3 Sp_prime) fun r_4 =>
  bd1 (m_addMultiple F 15876 126 Sp_work (i1 * 126) 0 (i1 + 1) r_4 Sp_prime Sp_rows_1) fun Sp_rows_5 =>
  wrI 126 Sp_leads i1 (vp_nar .boolean 1) fun Sp_leads_7 =>
  wrI 126 Sp_kept Sp_keptCount i1 fun Sp_kept_8 =>
  some ((Sp_keptCount + 1), Sp_rows_5, Sp_leads_7, Sp_kept_8)) else
  (some (Sp_keptCount, Sp_rows, Sp_leads, Sp_kept))
def s_absorbWork_10 (F : Nat) (Mo_count Sp_prime : Int32) (k10 : Int32 → Int32 → (Nat → Int32) → (Nat → Int32) → (Nat → Int32) → (Nat → Int32) → Option (Int32 × (Nat → Int32) × (Nat → Int32) × (Nat → Int32) × (Nat → Int32))) (i1 Sp_keptCount : Int32) (Sp_rows Sp_leads Sp_kept Sp_work : Nat → Int32) : Option (Int32 × (Nat → Int32) × (Nat → Int32) × (Nat → Int32) × (Nat → Int32)) :=
  if i1 < 0 then (some (Sp_keptCount, Sp_rows, Sp_leads, Sp_kept, Sp_work)) else
  (rdI 126 Sp_work i1 fun x_1 =>
  if x_1 = 0 then (k10 (i1 + (-1)) Sp_keptCount Sp_rows Sp_leads Sp_kept Sp_work) else
  (rdI 126 Sp_leads i1 fun x_2 =>
  if x_2 = 0 then (bd4 (m_keepWork F Sp_prime Sp_work i1 Sp_keptCount Sp_rows Sp_leads Sp_kept) fun Sp_keptCount_6 Sp_rows_7 Sp_leads_8 Sp_kept_9 =>
  some (Sp_keptCount_6, Sp_rows_7, Sp_leads_8, Sp_kept_9, Sp_work)) else
  (rdI 126 Sp_work i1 fun x_3 =>
  bd1 (m_addMultiple F 126 15876 Sp_rows 0 (i1 * 126) (i1 + 1) (Sp_prime - x_3) Sp_prime Sp_work) fun Sp_work_4 =>
  k10 (i1 + (-1)) Sp_keptCount Sp_rows Sp_leads Sp_kept Sp_work_4)))
def b_absorbWork_10 (F : Nat) (Mo_count Sp_prime : Int32) (n : Nat) : Int32 → Int32 → (Nat → Int32) → (Nat → Int32) → (Nat → Int32) → (Nat → Int32) → Option (Int32 × (Nat → Int32) × (Nat → Int32) × (Nat → Int32) × (Nat → Int32)) := lpF (fun _ _ _ _ _ _ => none) (s_absorbWork_10 F Mo_count Sp_prime ) n
def m_absorbWork (F : Nat) (Mo_count Sp_prime Sp_keptCount : Int32) (Sp_rows Sp_leads Sp_kept Sp_work : Nat → Int32) : Option (Int32 × (Nat → Int32) × (Nat → Int32) × (Nat → Int32) × (Nat → Int32)) :=
  b_absorbWork_10 F Mo_count Sp_prime F (Mo_count - 1) Sp_keptCount Sp_rows Sp_leads Sp_kept Sp_work
def s_loadProduct_10 (F : Nat) (Mo_raised Sp_rows : Nat → Int32) (k10 : Int32 → Int32 → Int32 → (Nat → Int32) → Option ((Nat → Int32))) (i1 i2 i3 : Int32) (Sp_work : Nat → Int32) : Option ((Nat → Int32)) :=
  if i2 < i3 then (some Sp_work) else
  (rdI 504 Mo_raised ((i1 * 126) + i3) fun x_1 =>
  if x_1 = (-1) then (k10 i1 i2 (i3 + 1) Sp_work) else
  (rdI 15876 Sp_rows ((i2 * 126) + i3) fun x_2 =>
  wrI 126 Sp_work x_1 x_2 fun Sp_work_3 =>
  k10 i1 i2 (i3 + 1) Sp_work_3))
def b_loadProduct_10 (F : Nat) (Mo_raised Sp_rows : Nat → Int32) (n : Nat) : Int32 → Int32 → Int32 → (Nat → Int32) → Option ((Nat → Int32)) := lpF (fun _ _ _ _ => none) (s_loadProduct_10 F Mo_raised Sp_rows ) n
def m_loadProduct (F : Nat) (Mo_raised Sp_rows : Nat → Int32) (i1 i2 : Int32) (Sp_work : Nat → Int32) : Option ((Nat → Int32)) :=
  bd1 (m_fill F 126 0 Sp_work) fun Sp_work_1 =>
  b_loadProduct_10 F Mo_raised Sp_rows F i1 i2 0 Sp_work_1
def s_spTakes_59 (F : Nat) (Mo_count Sp_limit Sp_prime : Int32) (RD_generators Mo_degrees : Nat → Int32)  (Sp_keptCount : Int32) (Sp_rows Sp_leads Sp_kept Sp_work : Nat → Int32) : Option (Int32 × Int32 × (Nat → Int32) × (Nat → Int32) × (Nat → Int32) × (Nat → Int32)) :=
  bd5 (m_absorbWork F Mo_count Sp_prime Sp_keptCount Sp_rows Sp_leads Sp_kept Sp_work) fun Sp_keptCount_1 Sp_rows_2 Sp_leads_3 Sp_kept_4 Sp_work_5 =>
  some (1, Sp_keptCount_1, Sp_rows_2, Sp_leads_3, Sp_kept_4, Sp_work_5)
def s_spTakes_22 (F : Nat) (Mo_count Sp_limit Sp_prime : Int32) (RD_generators Mo_degrees : Nat → Int32) (k22 : Int32 → Int32 → (Nat → Int32) → (Nat → Int32) → (Nat → Int32) → (Nat → Int32) → Option (Int32 × Int32 × (Nat → Int32) × (Nat → Int32) × (Nat → Int32) × (Nat → Int32))) (i3 Sp_keptCount : Int32) (Sp_rows Sp_leads Sp_kept Sp_work : Nat → Int32) : Option (Int32 × Int32 × (Nat → Int32) × (Nat → Int32) × (Nat → Int32) × (Nat → Int32)) :=
  if i3 < 0 then (s_spTakes_59 F Mo_count Sp_limit Sp_prime RD_generators Mo_degrees Sp_keptCount Sp_rows Sp_leads Sp_kept Sp_work) else
  (rdI 126 Mo_degrees i3 fun x_1 =>
  if x_1 ≤ Sp_limit then (s_spTakes_59 F Mo_count Sp_limit Sp_prime RD_generators Mo_degrees Sp_keptCount Sp_rows Sp_leads Sp_kept Sp_work) else
  (rdI 126 Sp_work i3 fun x_2 =>
  if x_2 = 0 then (k22 (i3 + (-1)) Sp_keptCount Sp_rows Sp_leads Sp_kept Sp_work) else
  (some (0, Sp_keptCount, Sp_rows, Sp_leads, Sp_kept, Sp_work))))
def b_spTakes_22 (F : Nat) (Mo_count Sp_limit Sp_prime : Int32) (RD_generators Mo_degrees : Nat → Int32) (n : Nat) : Int32 → Int32 → (Nat → Int32) → (Nat → Int32) → (Nat → Int32) → (Nat → Int32) → Option (Int32 × Int32 × (Nat → Int32) × (Nat → Int32) × (Nat → Int32) × (Nat → Int32)) := lpF (fun _ _ _ _ _ _ => none) (s_spTakes_22 F Mo_count Sp_limit Sp_prime RD_generators Mo_degrees ) n
def m_spTakes (F : Nat) (Mo_count Sp_limit Sp_prime : Int32) (RD_generators Mo_degrees : Nat → Int32) (i2 Sp_keptCount : Int32) (Sp_rows Sp_leads Sp_kept Sp_work : Nat → Int32) : Option (Int32 × Int32 × (Nat → Int32) × (Nat → Int32) × (Nat → Int32) × (Nat → Int32)) :=
  cpI 1008 126 RD_generators Sp_work i2 0 126 fun Sp_work_1 =>
  b_spTakes_22 F Mo_count Sp_limit Sp_prime RD_generators Mo_degrees F (Mo_count - 1) Sp_keptCount Sp_rows Sp_leads Sp_kept Sp_work_1
def s_close_48 (F : Nat) (Mo_count Mo_variables Sp_limit Sp_prime : Int32) (Mo_degrees Mo_raised : Nat → Int32) (k2 : Int32 → Int32 → (Nat → Int32) → (Nat → Int32) → (Nat → Int32) → (Nat → Int32) → Option (Int32 × (Nat → Int32) × (Nat → Int32) × (Nat → Int32) × (Nat → Int32))) (k48 : Int32 → Int32 → Int32 → Int32 → (Nat → Int32) → (Nat → Int32) → (Nat → Int32) → (Nat → Int32) → Option (Int32 × (Nat → Int32) × (Nat → Int32) × (Nat → Int32) × (Nat → Int32))) (i1 i2 i3 Sp_keptCount : Int32) (Sp_rows Sp_leads Sp_kept Sp_work : Nat → Int32) : Option (Int32 × (Nat → Int32) × (Nat → Int32) × (Nat → Int32) × (Nat → Int32)) :=
  if Mo_variables ≤ i3 then (k2 (i1 + 1) Sp_keptCount Sp_rows Sp_leads Sp_kept Sp_work) else
  (bd1 (m_loadProduct F Mo_raised Sp_rows i3 i2 Sp_work) fun Sp_work_1 =>
  bd5 (m_absorbWork F Mo_count Sp_prime Sp_keptCount Sp_rows Sp_leads Sp_kept Sp_work_1) fun Sp_keptCount_3 Sp_rows_4 Sp_leads_5 Sp_kept_6 Sp_work_7 =>
  k48 i1 i2 (i3 + 1) Sp_keptCount_3 Sp_rows_4 Sp_leads_5 Sp_kept_6 Sp_work_7)
def b_close_48 (F : Nat) (Mo_count Mo_variables Sp_limit Sp_prime : Int32) (Mo_degrees Mo_raised : Nat → Int32) (k2 : Int32 → Int32 → (Nat → Int32) → (Nat → Int32) → (Nat → Int32) → (Nat → Int32) → Option (Int32 × (Nat → Int32) × (Nat → Int32) × (Nat → Int32) × (Nat → Int32))) (n : Nat) : Int32 → Int32 → Int32 → Int32 → (Nat → Int32) → (Nat → Int32) → (Nat → Int32) → (Nat → Int32) → Option (Int32 × (Nat → Int32) × (Nat → Int32) × (Nat → Int32) × (Nat → Int32)) := lpF (fun _ _ _ _ _ _ _ _ => none) (s_close_48 F Mo_count Mo_variables Sp_limit Sp_prime Mo_degrees Mo_raised k2) n
def s_close_2 (F : Nat) (Mo_count Mo_variables Sp_limit Sp_prime : Int32) (Mo_degrees Mo_raised : Nat → Int32) (k2 : Int32 → Int32 → (Nat → Int32) → (Nat → Int32) → (Nat → Int32) → (Nat → Int32) → Option (Int32 × (Nat → Int32) × (Nat → Int32) × (Nat → Int32) × (Nat → Int32))) (i1 Sp_keptCount : Int32) (Sp_rows Sp_leads Sp_kept Sp_work : Nat → Int32) : Option (Int32 × (Nat → Int32) × (Nat → Int32) × (Nat → Int32) × (Nat → Int32)) :=
  if 126 ≤ i1 then (some (Sp_keptCount, Sp_rows, Sp_leads, Sp_kept, Sp_work)) else
  (if Sp_keptCount ≤ i1 then (some (Sp_keptCount, Sp_rows, Sp_leads, Sp_kept, Sp_work)) else
  (bd1 (m_has1 F Sp_leads) fun r_1 =>
  if r_1 = 0 then (rdI 126 Sp_kept i1 fun x_2 =>
  rdI 126 Mo_degrees x_2 fun x_3 =>
  if Sp_limit ≤ x_3 then (k2 (i1 + 1) Sp_keptCount Sp_rows Sp_leads Sp_kept Sp_work) else
  (b_close_48 F Mo_count Mo_variables Sp_limit Sp_prime Mo_degrees Mo_raised k2 F i1 x_2 0 Sp_keptCount Sp_rows Sp_leads Sp_kept Sp_work)) else
  (some (Sp_keptCount, Sp_rows, Sp_leads, Sp_kept, Sp_work))))
def b_close_2 (F : Nat) (Mo_count Mo_variables Sp_limit Sp_prime : Int32) (Mo_degrees Mo_raised : Nat → Int32) (n : Nat) : Int32 → Int32 → (Nat → Int32) → (Nat → Int32) → (Nat → Int32) → (Nat → Int32) → Option (Int32 × (Nat → Int32) × (Nat → Int32) × (Nat → Int32) × (Nat → Int32)) := lpF (fun _ _ _ _ _ _ => none) (s_close_2 F Mo_count Mo_variables Sp_limit Sp_prime Mo_degrees Mo_raised ) n
def m_close (F : Nat) (Mo_count Mo_variables Sp_limit Sp_prime : Int32) (Mo_degrees Mo_raised : Nat → Int32) (Sp_keptCount : Int32) (Sp_rows Sp_leads Sp_kept Sp_work : Nat → Int32) : Option (Int32 × (Nat → Int32) × (Nat → Int32) × (Nat → Int32) × (Nat → Int32)) :=
  b_close_2 F Mo_count Mo_variables Sp_limit Sp_prime Mo_degrees Mo_raised F 0 Sp_keptCount Sp_rows Sp_leads Sp_kept Sp_work
def s_hasLead_2 (F : Nat) (Sp_basisCount : Int32) (Mo_codes Sp_basis : Nat → Int32) (k2 : Int32 → Int32 → Option (Int32)) (i1 i2 : Int32) : Option (Int32) :=
  if Sp_basisCount ≤ i2 then (some 0) else
  (rdI 126 Sp_basis i2 fun x_1 =>
  rdI 126 Mo_codes x_1 fun x_2 =>
  bd1 (m_divides F x_2 i1) fun r_3 =>
  if r_3 = 0 then (k2 i1 (i2 + 1)) else
  (some 1))
def b_hasLead_2 (F : Nat) (Sp_basisCount : Int32) (Mo_codes Sp_basis : Nat → Int32) (n : Nat) : Int32 → Int32 → Option (Int32) := lpF (fun _ _ => none) (s_hasLead_2 F Sp_basisCount Mo_codes Sp_basis ) n
def m_hasLead (F : Nat) (Sp_basisCount : Int32) (Mo_codes Sp_basis : Nat → Int32) (i1 : Int32) : Option (Int32) :=
  b_hasLead_2 F Sp_basisCount Mo_codes Sp_basis F i1 0
def s_clearTail_9 (F : Nat) (Sp_prime : Int32) (Sp_leads : Nat → Int32) (k9 : Int32 → Int32 → (Nat → Int32) → Option ((Nat → Int32))) (i2 i3 : Int32) (Sp_rows : Nat → Int32) : Option ((Nat → Int32)) :=
  if i3 < 0 then (some Sp_rows) else
  (rdI 15876 Sp_rows (i2 + i3) fun x_1 =>
  if x_1 = 0 then (k9 i2 (i3 + (-1)) Sp_rows) else
  (rdI 126 Sp_leads i3 fun x_2 =>
  if x_2 = 0 then (k9 i2 (i3 + (-1)) Sp_rows) else
  (bd1 (m_addMultipleS F 15876 i2 (i3 * 126) (i3 + 1) (Sp_prime - x_1) Sp_prime Sp_rows) fun Sp_rows_3 =>
  k9 i2 (i3 + (-1)) Sp_rows_3)))
def b_clearTail_9 (F : Nat) (Sp_prime : Int32) (Sp_leads : Nat → Int32) (n : Nat) : Int32 → Int32 → (Nat → Int32) → Option ((Nat → Int32)) := lpF (fun _ _ _ => none) (s_clearTail_9 F Sp_prime Sp_leads ) n
def m_clearTail (F : Nat) (Sp_prime : Int32) (Sp_leads : Nat → Int32) (i1 : Int32) (Sp_rows : Nat → Int32) : Option ((Nat → Int32)) :=
  b_clearTail_9 F Sp_prime Sp_leads F (i1 * 126) (i1 - 1) Sp_rows
def s_pickBasis_2 (F : Nat) (Mo_count Sp_prime : Int32) (Mo_codes Sp_leads : Nat → Int32) (k2 : Int32 → Int32 → (Nat → Int32) → (Nat → Int32) → Option (Int32 × (Nat → Int32) × (Nat → Int32))) (i1 Sp_basisCount : Int32) (Sp_rows Sp_basis : Nat → Int32) : Option (Int32 × (Nat → Int32) × (Nat → Int32)) :=
  if Mo_count ≤ i1 then (some (Sp_basisCount, Sp_rows, Sp_basis)) else
  (if 126 ≤ Sp_basisCount then (some (Sp_basisCount, Sp_rows, Sp_basis)) else
  (rdI 126 Sp_leads i1 fun x_1 =>
  if x_1 = 0 then (k2 (i1 + 1) Sp_basisCount Sp_rows Sp_basis) else
  (rdI 126 Mo_codes i1 fun x_2 =>
  bd1 (m_hasLead F Sp_basisCount Mo_codes Sp_basis x_2) fun r_3 =>
  if r_3 = 0 then (wrI 126 Sp_basis Sp_basisCount i1 fun Sp_basis_4 =>
  bd1 (m_clearTail F Sp_prime Sp_leads i1 Sp_rows) fun Sp_rows_5 =>
  k2 (i1 + 1) (Sp_basisCount + 1) Sp_rows_5 Sp_basis_4) else
  (k2 (i1 + 1) Sp_basisCount Sp_rows Sp_basis))))
def b_pickBasis_2 (F : Nat) (Mo_count Sp_prime : Int32) (Mo_codes Sp_leads : Nat → Int32) (n : Nat) : Int32 → Int32 → (Nat → Int32) → (Nat → Int32) → Option (Int32 × (Nat → Int32) × (Nat → Int32)) := lpF (fun _ _ _ _ => none) (s_pickBasis_2 F Mo_count Sp_prime Mo_codes Sp_leads ) n
def m_pickBasis (F : Nat) (Mo_count Sp_prime : Int32) (Mo_codes Sp_leads : Nat → Int32) (Sp_basisCount : Int32) (Sp_rows Sp_basis : Nat → Int32) : Option (Int32 × (Nat → Int32) × (Nat → Int32)) :=
  b_pickBasis_2 F Mo_count Sp_prime Mo_codes Sp_leads F 0 Sp_basisCount Sp_rows Sp_basis
def s_isComplete_12 (F : Nat) (Sp_basisCount Sp_limit : Int32) (Mo_codes Mo_degrees Sp_basis : Nat → Int32) (k2 : Int32 → Option (Int32)) (k12 : Int32 → Int32 → Option (Int32)) (i1 i2 : Int32) : Option (Int32) :=
  if i1 ≤ i2 then (k2 (i1 + 1)) else
  (rdI 126 Sp_basis i2 fun x_1 =>
  rdI 126 Mo_codes x_1 fun x_2 =>
  rdI 126 Sp_basis i1 fun x_3 =>
  rdI 126 Mo_codes x_3 fun x_4 =>
  bd1 (m_common F x_2 x_4) fun r_5 =>
  rdI 126 Sp_basis i2 fun x_6 =>
  rdI 126 Mo_degrees x_6 fun x_7 =>
  rdI 126 Sp_basis i1 fun x_8 =>
  rdI 126 Mo_degrees x_8 fun x_9 =>
  if r_5 ≤ Sp_limit then (k12 i1 (i2 + 1)) else
  (if r_5 = (x_7 + x_9) then (k12 i1 (i2 + 1)) else
  (some 0)))
def b_isComplete_12 (F : Nat) (Sp_basisCount Sp_limit : Int32) (Mo_codes Mo_degrees Sp_basis : Nat → Int32) (k2 : Int32 → Option (Int32)) (n : Nat) : Int32 → Int32 → Option (Int32) := lpF (fun _ _ => none) (s_isComplete_12 F Sp_basisCount Sp_limit Mo_codes Mo_degrees Sp_basis k2) n
def s_isComplete_2 (F : Nat) (Sp_basisCount Sp_limit : Int32) (Mo_codes Mo_degrees Sp_basis : Nat → Int32) (k2 : Int32 → Option (Int32)) (i1 : Int32) : Option (Int32) :=
  if Sp_basisCount ≤ i1 then (some 1) else
  (b_isComplete_12 F Sp_basisCount Sp_limit Mo_codes Mo_degrees Sp_basis k2 F i1 0)
def b_isComplete_2 (F : Nat) (Sp_basisCount Sp_limit : Int32) (Mo_codes Mo_degrees Sp_basis : Nat → Int32) (n : Nat) : Int32 → Option (Int32) := lpF (fun _ => none) (s_isComplete_2 F Sp_basisCount Sp_limit Mo_codes Mo_degrees Sp_basis ) n
def m_isComplete (F : Nat) (Sp_basisCount Sp_limit : Int32) (Mo_codes Mo_degrees Sp_basis : Nat → Int32) : Option (Int32) :=
  b_isComplete_2 F Sp_basisCount Sp_limit Mo_codes Mo_degrees Sp_basis F 1
def s_rankInBasis_2 (F : Nat) (Sp_basisCount : Int32) (Mo_codes Sp_basis : Nat → Int32) (k2 : Int32 → Int32 → Option (Int32)) (i1 i2 : Int32) : Option (Int32) :=
  if Sp_basisCount ≤ i2 then (some (-1)) else
  (rdI 126 Sp_basis i2 fun x_1 =>
  rdI 126 Mo_codes x_1 fun x_2 =>
  if x_2 = i1 then (rdI 126 Sp_basis i2 fun x_3 =>
  some x_3) else
  (k2 i1 (i2 + 1)))
def b_rankInBasis_2 (F : Nat) (Sp_basisCount : Int32) (Mo_codes Sp_basis : Nat → Int32) (n : Nat) : Int32 → Int32 → Option (Int32) := lpF (fun _ _ => none) (s_rankInBasis_2 F Sp_basisCount Mo_codes Sp_basis ) n
def m_rankInBasis (F : Nat) (Sp_basisCount : Int32) (Mo_codes Sp_basis : Nat → Int32) (i1 : Int32) : Option (Int32) :=
  b_rankInBasis_2 F Sp_basisCount Mo_codes Sp_basis F i1 0
def s_purePower_2 (F : Nat) (Sp_basisCount : Int32) (Mo_codes Sp_basis : Nat → Int32) (k2 : Int32 → Int32 → Option (Int32)) (i1 i2 : Int32) : Option (Int32) :=
  if Sp_basisCount ≤ i2 then (some (-1)) else
  (rdI 126 Sp_basis i2 fun x_1 =>
  rdI 126 Mo_codes x_1 fun x_2 =>
  bd1 (m_exponent F x_2 i1) fun r_3 =>
  bd1 (m_degree F x_2) fun r_4 =>
  if r_3 = r_4 then (bd1 (m_degree F x_2) fun r_5 =>
  some r_5) else
  (k2 i1 (i2 + 1)))
def b_purePower_2 (F : Nat) (Sp_basisCount : Int32) (Mo_codes Sp_basis : Nat → Int32) (n : Nat) : Int32 → Int32 → Option (Int32) := lpF (fun _ _ => none) (s_purePower_2 F Sp_basisCount Mo_codes Sp_basis ) n
def m_purePower (F : Nat) (Sp_basisCount : Int32) (Mo_codes Sp_basis : Nat → Int32) (i1 : Int32) : Option (Int32) :=
  b_purePower_2 F Sp_basisCount Mo_codes Sp_basis F i1 0
def m_reForget (F : Nat) (Re_size : Int32) : Option (Int32) :=
  some 0
def s_setBounds_29 (F : Nat) (Sp_basisCount Re_variables : Int32) (Mo_codes Sp_basis : Nat → Int32) (k2 : Int32 → (Nat → Int32) → Option (Int32 × (Nat → Int32))) (i2 t1 t2 : Int32) (Re_bounds : Nat → Int32) : Option (Int32 × (Nat → Int32)) :=
  wrI 4 Re_bounds t1 t2 fun Re_bounds_1 =>
  rdI 4 Re_bounds_1 i2 fun x_2 =>
  if x_2 = (-1) then (some (0, Re_bounds_1)) else
  (k2 (i2 + 1) Re_bounds_1)
def s_setBounds_2 (F : Nat) (Sp_basisCount Re_variables : Int32) (Mo_codes Sp_basis : Nat → Int32) (k2 : Int32 → (Nat → Int32) → Option (Int32 × (Nat → Int32))) (i2 : Int32) (Re_bounds : Nat → Int32) : Option (Int32 × (Nat → Int32)) :=
  if 4 ≤ i2 then (some (1, Re_bounds)) else
  (if Re_variables ≤ i2 then (s_setBounds_29 F Sp_basisCount Re_variables Mo_codes Sp_basis k2 i2 i2 1 Re_bounds) else
  (bd1 (m_purePower F Sp_basisCount Mo_codes Sp_basis i2) fun r_1 =>
  s_setBounds_29 F Sp_basisCount Re_variables Mo_codes Sp_basis k2 i2 i2 r_1 Re_bounds))
def b_setBounds_2 (F : Nat) (Sp_basisCount Re_variables : Int32) (Mo_codes Sp_basis : Nat → Int32) (n : Nat) : Int32 → (Nat → Int32) → Option (Int32 × (Nat → Int32)) := lpF (fun _ _ => none) (s_setBounds_2 F Sp_basisCount Re_variables Mo_codes Sp_basis ) n
def m_setBounds (F : Nat) (Sp_basisCount Re_variables : Int32) (Mo_codes Sp_basis Re_bounds : Nat → Int32) : Option (Int32 × (Nat → Int32)) :=
  b_setBounds_2 F Sp_basisCount Re_variables Mo_codes Sp_basis F 0 Re_bounds
def s_reTakes_68 (F : Nat)  (i1 i5 Re_size : Int32) (Re_codes : Nat → Int32) : Option (Int32 × Int32 × (Nat → Int32)) :=
  wrI 40 Re_codes i5 i1 fun Re_codes_1 =>
  some (1, (Re_size + 1), Re_codes_1)
def s_reTakes_23 (F : Nat) (k23 : Int32 → Int32 → Int64 → Int32 → Int32 → (Nat → Int32) → Option (Int32 × Int32 × (Nat → Int32))) (i1 i2 : Int32) (l3 : Int64) (i5 Re_size : Int32) (Re_codes : Nat → Int32) : Option (Int32 × Int32 × (Nat → Int32)) :=
  if i5 ≤ 0 then (s_reTakes_68 F i1 i5 Re_size Re_codes) else
  (rdI 40 Re_codes (i5 - 1) fun x_1 =>
  bd1 (m_key F x_1 i2) fun r_2 =>
  if (lg_cmp r_2 l3) ≤ 0 then (s_reTakes_68 F i1 i5 Re_size Re_codes) else
  (rdI 40 Re_codes (i5 - 1) fun x_3 =>
  wrI 40 Re_codes i5 x_3 fun Re_codes_4 =>
  k23 i1 i2 l3 (i5 + (-1)) Re_size Re_codes_4))
def b_reTakes_23 (F : Nat) (n : Nat) : Int32 → Int32 → Int64 → Int32 → Int32 → (Nat → Int32) → Option (Int32 × Int32 × (Nat → Int32)) := lpF (fun _ _ _ _ _ _ => none) (s_reTakes_23 F ) n
def m_reTakes (F : Nat) (i1 i2 Re_size : Int32) (Re_codes : Nat → Int32) : Option (Int32 × Int32 × (Nat → Int32)) :=
  if Re_size < 40 then (bd1 (m_key F i1 i2) fun r_1 =>
  b_reTakes_23 F F i1 i2 r_1 Re_size Re_size Re_codes) else
  (some (0, Re_size, Re_codes))
def s_gatherWithin_41 (F : Nat) (Mo_order Sp_basisCount : Int32) (Mo_codes Sp_basis Re_bounds : Nat → Int32) (k2 : Int32 → Int32 → (Nat → Int32) → Option (Int32 × Int32 × (Nat → Int32))) (k14 : Int32 → Int32 → Int32 → (Nat → Int32) → Option (Int32 × Int32 × (Nat → Int32))) (k27 : Int32 → Int32 → Int32 → Int32 → (Nat → Int32) → Option (Int32 × Int32 × (Nat → Int32))) (k41 : Int32 → Int32 → Int32 → Int32 → Int32 → (Nat → Int32) → Option (Int32 × Int32 × (Nat → Int32))) (i2 i3 i4 i5 Re_size : Int32) (Re_codes : Nat → Int32) : Option (Int32 × Int32 × (Nat → Int32)) :=
  rdI 4 Re_bounds 3 fun x_1 =>
  if x_1 ≤ i5 then (k27 i2 i3 (i4 + 1) Re_size Re_codes) else
  (bd1 (m_hasLead F Sp_basisCount Mo_codes Sp_basis ((((shlI i2 24) ||| (shlI i3 16)) ||| (shlI i4 8)) ||| i5)) fun r_2 =>
  if r_2 = 0 then (bd3 (m_reTakes F ((((shlI i2 24) ||| (shlI i3 16)) ||| (shlI i4 8)) ||| i5) Mo_order Re_size Re_codes) fun r_3 Re_size_4 Re_codes_5 =>
  if r_3 = 0 then (some (0, Re_size_4, Re_codes_5)) else
  (k41 i2 i3 i4 (i5 + 1) Re_size_4 Re_codes_5)) else
  (k41 i2 i3 i4 (i5 + 1) Re_size Re_codes))
def b_gatherWithin_41 (F : Nat) (Mo_order Sp_basisCount : Int32) (Mo_codes Sp_basis Re_bounds : Nat → Int32) (k2 : Int32 → Int32 → (Nat → Int32) → Option (Int32 × Int32 × (Nat → Int32))) (k14 : Int32 → Int32 → Int32 → (Nat → Int32) → Option (Int32 × Int32 × (Nat → Int32))) (k27 : Int32 → Int32 → Int32 → Int32 → (Nat → Int32) → Option (Int32 × Int32 × (Nat → Int32))) (n : Nat) : Int32 → Int32 → Int32 → Int32 → Int32 → (Nat → Int32) → Option (Int32 × Int32 × (Nat → Int32)) := lpF (fun _ _ _ _ _ _ => none) (s_gatherWithin_41 F Mo_order Sp_basisCount Mo_codes Sp_basis Re_bounds k2 k14 k27) n
def s_gatherWithin_27 (F : Nat) (Mo_order Sp_basisCount : Int32) (Mo_codes Sp_basis Re_bounds : Nat → Int32) (k2 : Int32 → Int32 → (Nat → Int32) → Option (Int32 × Int32 × (Nat → Int32))) (k14 : Int32 → Int32 → Int32 → (Nat → Int32) → Option (Int32 × Int32 × (Nat → Int32))) (k27 : Int32 → Int32 → Int32 → Int32 → (Nat → Int32) → Option (Int32 × Int32 × (Nat → Int32))) (i2 i3 i4 Re_size : Int32) (Re_codes : Nat → Int32) : Option (Int32 × Int32 × (Nat → Int32)) :=
  rdI 4 Re_bounds 2 fun x_1 =>
  if x_1 ≤ i4 then (k14 i2 (i3 + 1) Re_size Re_codes) else
  (b_gatherWithin_41 F Mo_order Sp_basisCount Mo_codes Sp_basis Re_bounds k2 k14 k27 F i2 i3 i4 0 Re_size Re_codes)
def b_gatherWithin_27 (F : Nat) (Mo_order Sp_basisCount : Int32) (Mo_codes Sp_basis Re_bounds : Nat → Int32) (k2 : Int32 → Int32 → (Nat → Int32) → Option (Int32 × Int32 × (Nat → Int32))) (k14 : Int32 → Int32 → Int32 → (Nat → Int32) → Option (Int32 × Int32 × (Nat → Int32))) (n : Nat) : Int32 → Int32 → Int32 → Int32 → (Nat → Int32) → Option (Int32 × Int32 × (Nat → Int32)) := lpF (fun _ _ _ _ _ => none) (s_gatherWithin_27 F Mo_order Sp_basisCount Mo_codes Sp_basis Re_bounds k2 k14) n
def s_gatherWithin_14 (F : Nat) (Mo_order Sp_basisCount : Int32) (Mo_codes Sp_basis Re_bounds : Nat → Int32) (k2 : Int32 → Int32 → (Nat → Int32) → Option (Int32 × Int32 × (Nat → Int32))) (k14 : Int32 → Int32 → Int32 → (Nat → Int32) → Option (Int32 × Int32 × (Nat → Int32))) (i2 i3 Re_size : Int32) (Re_codes : Nat → Int32) : Option (Int32 × Int32 × (Nat → Int32)) :=
  rdI 4 Re_bounds 1 fun x_1 =>
  if x_1 ≤ i3 then (k2 (i2 + 1) Re_size Re_codes) else
  (b_gatherWithin_27 F Mo_order Sp_basisCount Mo_codes Sp_basis Re_bounds k2 k14 F i2 i3 0 Re_size Re_codes)
def b_gatherWithin_14 (F : Nat) (Mo_order Sp_basisCount : Int32) (Mo_codes Sp_basis Re_bounds : Nat → Int32) (k2 : Int32 → Int32 → (Nat → Int32) → Option (Int32 × Int32 × (Nat → Int32))) (n : Nat) : Int32 → Int32 → Int32 → (Nat → Int32) → Option (Int32 × Int32 × (Nat → Int32)) := lpF (fun _ _ _ _ => none) (s_gatherWithin_14 F Mo_order Sp_basisCount Mo_codes Sp_basis Re_bounds k2) n
def s_gatherWithin_2 (F : Nat) (Mo_order Sp_basisCount : Int32) (Mo_codes Sp_basis Re_bounds : Nat → Int32) (k2 : Int32 → Int32 → (Nat → Int32) → Option (Int32 × Int32 × (Nat → Int32))) (i2 Re_size : Int32) (Re_codes : Nat → Int32) : Option (Int32 × Int32 × (Nat → Int32)) :=
  rdI 4 Re_bounds 0 fun x_1 =>
  if x_1 ≤ i2 then (some (1, Re_size, Re_codes)) else
  (b_gatherWithin_14 F Mo_order Sp_basisCount Mo_codes Sp_basis Re_bounds k2 F i2 0 Re_size Re_codes)
def b_gatherWithin_2 (F : Nat) (Mo_order Sp_basisCount : Int32) (Mo_codes Sp_basis Re_bounds : Nat → Int32) (n : Nat) : Int32 → Int32 → (Nat → Int32) → Option (Int32 × Int32 × (Nat → Int32)) := lpF (fun _ _ _ => none) (s_gatherWithin_2 F Mo_order Sp_basisCount Mo_codes Sp_basis Re_bounds ) n
def m_gatherWithin (F : Nat) (Mo_order Sp_basisCount : Int32) (Mo_codes Sp_basis Re_bounds : Nat → Int32) (Re_size : Int32) (Re_codes : Nat → Int32) : Option (Int32 × Int32 × (Nat → Int32)) :=
  b_gatherWithin_2 F Mo_order Sp_basisCount Mo_codes Sp_basis Re_bounds F 0 Re_size Re_codes
def s_gather_35 (F : Nat) (Mo_order Mo_variables Sp_basisCount Sp_prime : Int32) (Mo_codes Sp_basis : Nat → Int32)  (Re_prime Re_size Re_variables : Int32) (Re_codes Re_bounds : Nat → Int32) : Option (Int32 × Int32 × Int32 × Int32 × (Nat → Int32) × (Nat → Int32)) :=
  bd1 (m_reForget F Re_size) fun Re_size_1 =>
  some (0, Re_prime, Re_size_1, Re_variables, Re_codes, Re_bounds)
def m_gather (F : Nat) (Mo_order Mo_variables Sp_basisCount Sp_prime : Int32) (Mo_codes Sp_basis : Nat → Int32) (Re_prime Re_size Re_variables : Int32) (Re_codes Re_bounds : Nat → Int32) : Option (Int32 × Int32 × Int32 × Int32 × (Nat → Int32) × (Nat → Int32)) :=
  bd2 (m_setBounds F Sp_basisCount Mo_variables Mo_codes Sp_basis Re_bounds) fun r_1 Re_bounds_2 =>
  if r_1 = 0 then (s_gather_35 F Mo_order Mo_variables Sp_basisCount Sp_prime Mo_codes Sp_basis Sp_prime Re_size Mo_variables Re_codes Re_bounds_2) else
  (bd3 (m_gatherWithin F Mo_order Sp_basisCount Mo_codes Sp_basis Re_bounds_2 Re_size Re_codes) fun r_4 Re_size_5 Re_codes_6 =>
  if r_4 = 0 then (s_gather_35 F Mo_order Mo_variables Sp_basisCount Sp_prime Mo_codes Sp_basis Sp_prime Re_size_5 Mo_variables Re_codes_6 Re_bounds_2) else
  (some (1, Sp_prime, Re_size_5, Mo_variables, Re_codes_6, Re_bounds_2)))
def s_insertPair_74 (F : Nat)  (i1 : Int32) (l2 : Int64) (i4 Re_pairCount : Int32) (Re_pairs : Nat → Int32) (Re_keys : Nat → Int64) : Option (Int32 × (Nat → Int32) × (Nat → Int64)) :=
  wrL 160 Re_keys i4 l2 fun Re_keys_1 =>
  wrI 160 Re_pairs i4 i1 fun Re_pairs_2 =>
  some ((Re_pairCount + 1), Re_pairs_2, Re_keys_1)
def s_insertPair_17 (F : Nat) (k17 : Int32 → Int64 → Int32 → Int32 → (Nat → Int32) → (Nat → Int64) → Option (Int32 × (Nat → Int32) × (Nat → Int64))) (i1 : Int32) (l2 : Int64) (i4 Re_pairCount : Int32) (Re_pairs : Nat → Int32) (Re_keys : Nat → Int64) : Option (Int32 × (Nat → Int32) × (Nat → Int64)) :=
  if i4 ≤ 0 then (s_insertPair_74 F i1 l2 i4 Re_pairCount Re_pairs Re_keys) else
  (rdL 160 Re_keys (i4 - 1) fun x_1 =>
  if (lg_cmp x_1 l2) ≤ 0 then (s_insertPair_74 F i1 l2 i4 Re_pairCount Re_pairs Re_keys) else
  (rdL 160 Re_keys (i4 - 1) fun x_2 =>
  wrL 160 Re_keys i4 x_2 fun Re_keys_3 =>
  rdI 160 Re_pairs (i4 - 1) fun x_4 =>
  wrI 160 Re_pairs i4 x_4 fun Re_pairs_5 =>
  k17 i1 l2 (i4 + (-1)) Re_pairCount Re_pairs_5 Re_keys_3))
def b_insertPair_17 (F : Nat) (n : Nat) : Int32 → Int64 → Int32 → Int32 → (Nat → Int32) → (Nat → Int64) → Option (Int32 × (Nat → Int32) × (Nat → Int64)) := lpF (fun _ _ _ _ _ _ => none) (s_insertPair_17 F ) n
def m_insertPair (F : Nat) (i1 : Int32) (l2 : Int64) (Re_pairCount : Int32) (Re_pairs : Nat → Int32) (Re_keys : Nat → Int64) : Option (Int32 × (Nat → Int32) × (Nat → Int64)) :=
  if Re_pairCount < 160 then (b_insertPair_17 F F i1 l2 Re_pairCount Re_pairCount Re_pairs Re_keys) else
  (some (Re_pairCount, Re_pairs, Re_keys))
def s_sortPairs_17 (F : Nat) (Re_size Re_variables : Int32) (Re_codes : Nat → Int32) (k7 : Int32 → Int32 → Int32 → (Nat → Int32) → (Nat → Int64) → Option (Int32 × (Nat → Int32) × (Nat → Int64))) (k17 : Int32 → Int32 → Int32 → Int32 → (Nat → Int32) → (Nat → Int64) → Option (Int32 × (Nat → Int32) × (Nat → Int64))) (i1 i2 i3 Re_pairCount : Int32) (Re_pairs : Nat → Int32) (Re_keys : Nat → Int64) : Option (Int32 × (Nat → Int32) × (Nat → Int64)) :=
  if Re_size ≤ i3 then (k7 i1 (i2 + 1) Re_pairCount Re_pairs Re_keys) else
  (rdI 40 Re_codes i3 fun x_1 =>
  bd1 (m_variable F i2) fun r_2 =>
  bd1 (m_key F (x_1 + r_2) i1) fun r_3 =>
  bd3 (m_insertPair F ((i2 * 40) + i3) r_3 Re_pairCount Re_pairs Re_keys) fun Re_pairCount_4 Re_pairs_5 Re_keys_6 =>
  k17 i1 i2 (i3 + 1) Re_pairCount_4 Re_pairs_5 Re_keys_6)
def b_sortPairs_17 (F : Nat) (Re_size Re_variables : Int32) (Re_codes : Nat → Int32) (k7 : Int32 → Int32 → Int32 → (Nat → Int32) → (Nat → Int64) → Option (Int32 × (Nat → Int32) × (Nat → Int64))) (n : Nat) : Int32 → Int32 → Int32 → Int32 → (Nat → Int32) → (Nat → Int64) → Option (Int32 × (Nat → Int32) × (Nat → Int64)) := lpF (fun _ _ _ _ _ _ => none) (s_sortPairs_17 F Re_size Re_variables Re_codes k7) n
def s_sortPairs_7 (F : Nat) (Re_size Re_variables : Int32) (Re_codes : Nat → Int32) (k7 : Int32 → Int32 → Int32 → (Nat → Int32) → (Nat → Int64) → Option (Int32 × (Nat → Int32) × (Nat → Int64))) (i1 i2 Re_pairCount : Int32) (Re_pairs : Nat → Int32) (Re_keys : Nat → Int64) : Option (Int32 × (Nat → Int32) × (Nat → Int64)) :=
  if Re_variables ≤ i2 then (some (Re_pairCount, Re_pairs, Re_keys)) else
  (b_sortPairs_17 F Re_size Re_variables Re_codes k7 F i1 i2 0 Re_pairCount Re_pairs Re_keys)
def b_sortPairs_7 (F : Nat) (Re_size Re_variables : Int32) (Re_codes : Nat → Int32) (n : Nat) : Int32 → Int32 → Int32 → (Nat → Int32) → (Nat → Int64) → Option (Int32 × (Nat → Int32) × (Nat → Int64)) := lpF (fun _ _ _ _ _ => none) (s_sortPairs_7 F Re_size Re_variables Re_codes ) n
def m_sortPairs (F : Nat) (Re_size Re_variables : Int32) (Re_codes : Nat → Int32) (i1 Re_pairCount : Int32) (Re_pairs : Nat → Int32) (Re_keys : Nat → Int64) : Option (Int32 × (Nat → Int32) × (Nat → Int64)) :=
  b_sortPairs_7 F Re_size Re_variables Re_codes F i1 0 0 Re_pairs Re_keys
def s_placeOf_2 (F : Nat) (Re_size : Int32) (Re_codes : Nat → Int32) (k2 : Int32 → Int32 → Option (Int32)) (i1 i2 : Int32) : Option (Int32) :=
  if Re_size ≤ i2 then (some (-1)) else
  (rdI 40 Re_codes i2 fun x_1 =>
  if x_1 = i1 then (some i2) else
  (k2 i1 (i2 + 1)))
def b_placeOf_2 (F : Nat) (Re_size : Int32) (Re_codes : Nat → Int32) (n : Nat) : Int32 → Int32 → Option (Int32) := lpF (fun _ _ => none) (s_placeOf_2 F Re_size Re_codes ) n
def m_placeOf (F : Nat) (Re_size : Int32) (Re_codes : Nat → Int32) (i1 : Int32) : Option (Int32) :=
  b_placeOf_2 F Re_size Re_codes F i1 0
def s_fillFromBasis_46 (F : Nat) (Re_prime Re_size : Int32) (Mo_codes Sp_rows Re_codes : Nat → Int32) (k3 : Int32 → Int32 → Int32 → (Nat → Int32) → Option ((Nat → Int32))) (i2 i3 i4 i5 t0 : Int32) (Re_products : Nat → Int32) : Option ((Nat → Int32)) :=
  if t0 = (-1) then (k3 i2 i3 (i4 + 1) Re_products) else
  (wrI 6400 Re_products (i3 + t0) (Re_prime - i5) fun Re_products_1 =>
  k3 i2 i3 (i4 + 1) Re_products_1)
def s_fillFromBasis_3 (F : Nat) (Re_prime Re_size : Int32) (Mo_codes Sp_rows Re_codes : Nat → Int32) (k3 : Int32 → Int32 → Int32 → (Nat → Int32) → Option ((Nat → Int32))) (i2 i3 i4 : Int32) (Re_products : Nat → Int32) : Option ((Nat → Int32)) :=
  if i2 ≤ i4 then (some Re_products) else
  (rdI 15876 Sp_rows ((i2 * 126) + i4) fun x_1 =>
  if x_1 = 0 then (s_fillFromBasis_46 F Re_prime Re_size Mo_codes Sp_rows Re_codes k3 i2 i3 i4 x_1 (-1) Re_products) else
  (rdI 126 Mo_codes i4 fun x_2 =>
  bd1 (m_placeOf F Re_size Re_codes x_2) fun r_3 =>
  s_fillFromBasis_46 F Re_prime Re_size Mo_codes Sp_rows Re_codes k3 i2 i3 i4 x_1 r_3 Re_products))
def b_fillFromBasis_3 (F : Nat) (Re_prime Re_size : Int32) (Mo_codes Sp_rows Re_codes : Nat → Int32) (n : Nat) : Int32 → Int32 → Int32 → (Nat → Int32) → Option ((Nat → Int32)) := lpF (fun _ _ _ _ => none) (s_fillFromBasis_3 F Re_prime Re_size Mo_codes Sp_rows Re_codes ) n
def m_fillFromBasis (F : Nat) (Re_prime Re_size : Int32) (Mo_codes Sp_rows Re_codes : Nat → Int32) (i2 i3 : Int32) (Re_products : Nat → Int32) : Option ((Nat → Int32)) :=
  b_fillFromBasis_3 F Re_prime Re_size Mo_codes Sp_rows Re_codes F i2 i3 0 Re_products
def s_act_3 (F : Nat) (Re_prime Re_size : Int32) (k3 : Int32 → Int32 → Int32 → Int32 → (Nat → Int32) → Option ((Nat → Int32))) (i1 i3 i5 i6 : Int32) (Re_products : Nat → Int32) : Option ((Nat → Int32)) :=
  if Re_size ≤ i6 then (some Re_products) else
  (rdI 6400 Re_products (i3 + i6) fun x_1 =>
  if x_1 = 0 then (k3 i1 i3 i5 (i6 + 1) Re_products) else
  (bd1 (m_productRow F i1 i6) fun r_2 =>
  bd1 (m_addMultipleS F 6400 i5 r_2 Re_size x_1 Re_prime Re_products) fun Re_products_3 =>
  k3 i1 i3 i5 (i6 + 1) Re_products_3))
def b_act_3 (F : Nat) (Re_prime Re_size : Int32) (n : Nat) : Int32 → Int32 → Int32 → Int32 → (Nat → Int32) → Option ((Nat → Int32)) := lpF (fun _ _ _ _ _ => none) (s_act_3 F Re_prime Re_size ) n
def m_act (F : Nat) (Re_prime Re_size i1 i3 i5 : Int32) (Re_products : Nat → Int32) : Option ((Nat → Int32)) :=
  b_act_3 F Re_prime Re_size F i1 i3 i5 0 Re_products
def s_actL_3 (F : Nat) (Re_prime Re_size : Int32) (Re_products Le_images : Nat → Int32) (k3 : Int32 → Int32 → Int32 → Int32 → (Nat → Int32) → Option ((Nat → Int32))) (i1 i3 i5 i6 : Int32) (Le_image : Nat → Int32) : Option ((Nat → Int32)) :=
  if Re_size ≤ i6 then (some Le_image) else
  (rdI 1600 Le_images (i3 + i6) fun x_1 =>
  if x_1 = 0 then (k3 i1 i3 i5 (i6 + 1) Le_image) else
  (bd1 (m_productRow F i1 i6) fun r_2 =>
  bd1 (m_addMultiple F 40 6400 Re_products i5 r_2 Re_size x_1 Re_prime Le_image) fun Le_image_3 =>
  k3 i1 i3 i5 (i6 + 1) Le_image_3))
def b_actL_3 (F : Nat) (Re_prime Re_size : Int32) (Re_products Le_images : Nat → Int32) (n : Nat) : Int32 → Int32 → Int32 → Int32 → (Nat → Int32) → Option ((Nat → Int32)) := lpF (fun _ _ _ _ _ => none) (s_actL_3 F Re_prime Re_size Re_products Le_images ) n
def m_actL (F : Nat) (Re_prime Re_size : Int32) (Re_products Le_images : Nat → Int32) (i1 i3 i5 : Int32) (Le_image : Nat → Int32) : Option ((Nat → Int32)) :=
  b_actL_3 F Re_prime Re_size Re_products Le_images F i1 i3 i5 0 Le_image
def s_fillFromLesser_3 (F : Nat) (Re_prime Re_size Re_variables : Int32) (Re_codes : Nat → Int32) (k3 : Int32 → Int32 → Int32 → Int32 → (Nat → Int32) → Option ((Nat → Int32))) (i1 i2 i3 i4 : Int32) (Re_products : Nat → Int32) : Option ((Nat → Int32)) :=
  if Re_variables ≤ i4 then (some Re_products) else
  (rdI 40 Re_codes i2 fun x_1 =>
  bd1 (m_variable F i4) fun r_2 =>
  rdI 40 Re_codes i2 fun x_3 =>
  bd1 (m_exponent F x_3 i4) fun r_4 =>
  if r_4 ≤ 0 then (k3 i1 i2 i3 (i4 + 1) Re_products) else
  (bd1 (m_variable F i1) fun r_5 =>
  bd1 (m_placeOf F Re_size Re_codes ((x_1 - r_2) + r_5)) fun r_6 =>
  if r_6 = (-1) then (bd1 (m_placeOf F Re_size Re_codes (x_1 - r_2)) fun r_7 =>
  if r_7 = (-1) then (k3 i1 i2 i3 (i4 + 1) Re_products) else
  (bd1 (m_productRow F i1 r_7) fun r_8 =>
  bd1 (m_act F Re_prime Re_size i4 r_8 i3 Re_products) fun Re_products_9 =>
  some Re_products_9)) else
  (k3 i1 i2 i3 (i4 + 1) Re_products)))
def b_fillFromLesser_3 (F : Nat) (Re_prime Re_size Re_variables : Int32) (Re_codes : Nat → Int32) (n : Nat) : Int32 → Int32 → Int32 → Int32 → (Nat → Int32) → Option ((Nat → Int32)) := lpF (fun _ _ _ _ _ => none) (s_fillFromLesser_3 F Re_prime Re_size Re_variables Re_codes ) n
def m_fillFromLesser (F : Nat) (Re_prime Re_size Re_variables : Int32) (Re_codes : Nat → Int32) (i1 i2 i3 : Int32) (Re_products : Nat → Int32) : Option ((Nat → Int32)) :=
  b_fillFromLesser_3 F Re_prime Re_size Re_variables Re_codes F i1 i2 i3 0 Re_products
def m_fillProduct (F : Nat) (Sp_basisCount Re_prime Re_size Re_variables : Int32) (Mo_codes Sp_rows Sp_basis Re_codes : Nat → Int32) (i2 i3 : Int32) (Re_products : Nat → Int32) : Option ((Nat → Int32)) :=
  bd1 (m_productRow F i2 i3) fun r_1 =>
  bd1 (m_fillR F 6400 r_1 (r_1 + 40) 0 Re_products) fun Re_products_2 =>
  rdI 40 Re_codes i3 fun x_4 =>
  bd1 (m_variable F i2) fun r_5 =>
  bd1 (m_placeOf F Re_size Re_codes (x_4 + r_5)) fun r_6 =>
  if r_6 = (-1) then (bd1 (m_rankInBasis F Sp_basisCount Mo_codes Sp_basis (x_4 + r_5)) fun r_7 =>
  if r_7 = (-1) then (bd1 (m_fillFromLesser F Re_prime Re_size Re_variables Re_codes i2 i3 r_1 Re_products_2) fun Re_products_8 =>
  some Re_products_8) else
  (bd1 (m_fillFromBasis F Re_prime Re_size Mo_codes Sp_rows Re_codes r_7 r_1 Re_products_2) fun Re_products_10 =>
  some Re_products_10)) else
  (wrI 6400 Re_products_2 (r_1 + r_6) 1 fun Re_products_12 =>
  some Re_products_12)
def s_multiply_13 (F : Nat) (Mo_order Sp_basisCount Re_prime Re_size Re_variables : Int32) (Mo_codes Sp_rows Sp_basis Re_codes : Nat → Int32) (k13 : Int32 → Int32 → (Nat → Int32) → (Nat → Int32) → (Nat → Int64) → Option (Int32 × (Nat → Int32) × (Nat → Int32) × (Nat → Int64))) (i2 Re_pairCount : Int32) (Re_products Re_pairs : Nat → Int32) (Re_keys : Nat → Int64) : Option (Int32 × (Nat → Int32) × (Nat → Int32) × (Nat → Int64)) :=
  if Re_pairCount ≤ i2 then (some (Re_pairCount, Re_products, Re_pairs, Re_keys)) else
  (rdI 160 Re_pairs i2 fun x_1 =>
  nzI 40 (rdI 160 Re_pairs i2 fun x_2 =>
  nzI 40 (bd1 (m_fillProduct F Sp_basisCount Re_prime Re_size Re_variables Mo_codes Sp_rows Sp_basis Re_codes (x_1 / 40) (remI x_2 40) Re_products) fun Re_products_3 =>
  k13 (i2 + 1) Re_pairCount Re_products_3 Re_pairs Re_keys)))
def b_multiply_13 (F : Nat) (Mo_order Sp_basisCount Re_prime Re_size Re_variables : Int32) (Mo_codes Sp_rows Sp_basis Re_codes : Nat → Int32) (n : Nat) : Int32 → Int32 → (Nat → Int32) → (Nat → Int32) → (Nat → Int64) → Option (Int32 × (Nat → Int32) × (Nat → Int32) × (Nat → Int64)) := lpF (fun _ _ _ _ _ => none) (s_multiply_13 F Mo_order Sp_basisCount Re_prime Re_size Re_variables Mo_codes Sp_rows Sp_basis Re_codes ) n
def m_multiply (F : Nat) (Mo_order Sp_basisCount Re_prime Re_size Re_variables : Int32) (Mo_codes Sp_rows Sp_basis Re_codes : Nat → Int32) (Re_pairCount : Int32) (Re_products Re_pairs : Nat → Int32) (Re_keys : Nat → Int64) : Option (Int32 × (Nat → Int32) × (Nat → Int32) × (Nat → Int64)) :=
  bd3 (m_sortPairs F Re_size Re_variables Re_codes Mo_order Re_pairCount Re_pairs Re_keys) fun Re_pairCount_1 Re_pairs_2 Re_keys_3 =>
  b_multiply_13 F Mo_order Sp_basisCount Re_prime Re_size Re_variables Mo_codes Sp_rows Sp_basis Re_codes F 0 Re_pairCount_1 Re_products Re_pairs_2 Re_keys_3
def m_leForget (F : Nat) (Le_count : Int32) : Option (Int32) :=
  some 0
def s_leastProduct_18 (F : Nat) (Le_standardCount : Int32) (Le_standard : Nat → Int32) (k9 : Int32 → Int32 → Int32 → Int32 → Int32 → Option (Int32)) (k18 : Int32 → Int32 → Int32 → Int32 → Int32 → Int32 → Option (Int32)) (i1 i2 i3 i4 i5 i6 : Int32) : Option (Int32) :=
  if Le_standardCount ≤ i6 then (k9 i1 i2 i3 i4 (i5 + 1)) else
  (rdI 40 Le_standard i6 fun x_1 =>
  bd1 (m_variable F i5) fun r_2 =>
  if (x_1 + r_2) ≤ i1 then (k18 i1 i2 i3 i4 i5 (i6 + 1)) else
  (if i4 ≤ (x_1 + r_2) then (k18 i1 i2 i3 i4 i5 (i6 + 1)) else
  (k18 i1 i2 ((i5 * 40) + i6) (x_1 + r_2) i5 (i6 + 1))))
def b_leastProduct_18 (F : Nat) (Le_standardCount : Int32) (Le_standard : Nat → Int32) (k9 : Int32 → Int32 → Int32 → Int32 → Int32 → Option (Int32)) (n : Nat) : Int32 → Int32 → Int32 → Int32 → Int32 → Int32 → Option (Int32) := lpF (fun _ _ _ _ _ _ => none) (s_leastProduct_18 F Le_standardCount Le_standard k9) n
def s_leastProduct_9 (F : Nat) (Le_standardCount : Int32) (Le_standard : Nat → Int32) (k9 : Int32 → Int32 → Int32 → Int32 → Int32 → Option (Int32)) (i1 i2 i3 i4 i5 : Int32) : Option (Int32) :=
  if i2 ≤ i5 then (some i3) else
  (b_leastProduct_18 F Le_standardCount Le_standard k9 F i1 i2 i3 i4 i5 0)
def b_leastProduct_9 (F : Nat) (Le_standardCount : Int32) (Le_standard : Nat → Int32) (n : Nat) : Int32 → Int32 → Int32 → Int32 → Int32 → Option (Int32) := lpF (fun _ _ _ _ _ => none) (s_leastProduct_9 F Le_standardCount Le_standard ) n
def m_leastProduct (F : Nat) (Le_standardCount : Int32) (Le_standard : Nat → Int32) (i1 i2 : Int32) : Option (Int32) :=
  b_leastProduct_9 F Le_standardCount Le_standard F i1 i2 (-1) 2147483647 0
def s_hasHead_2 (F : Nat) (Le_count : Int32) (Le_heads : Nat → Int32) (k2 : Int32 → Int32 → Option (Int32)) (i1 i2 : Int32) : Option (Int32) :=
  if Le_count ≤ i2 then (some 0) else
  (rdI 160 Le_heads i2 fun x_1 =>
  bd1 (m_divides F x_1 i1) fun r_2 =>
  if r_2 = 0 then (k2 i1 (i2 + 1)) else
  (some 1))
def b_hasHead_2 (F : Nat) (Le_count : Int32) (Le_heads : Nat → Int32) (n : Nat) : Int32 → Int32 → Option (Int32) := lpF (fun _ _ => none) (s_hasHead_2 F Le_count Le_heads ) n
def m_hasHead (F : Nat) (Le_count : Int32) (Le_heads : Nat → Int32) (i1 : Int32) : Option (Int32) :=
  b_hasHead_2 F Le_count Le_heads F i1 0
def s_reduceImage_25 (F : Nat) (Le_prime Le_size Le_standardCount : Int32) (Le_steps Le_mixes Le_pivots Le_image : Nat → Int32) (k25 : Int32 → (Nat → Int32) → (Nat → Int32) → Option ((Nat → Int32) × (Nat → Int32))) (i1 : Int32) (Le_rest Le_mix : Nat → Int32) : Option ((Nat → Int32) × (Nat → Int32)) :=
  if Le_standardCount ≤ i1 then (some (Le_rest, Le_mix)) else
  (rdI 40 Le_pivots i1 fun x_1 =>
  rdI 40 Le_rest x_1 fun x_2 =>
  if x_2 = 0 then (k25 (i1 + 1) Le_rest Le_mix) else
  (bd1 (m_addMultiple F 40 1600 Le_steps 0 (i1 * 40) Le_size (Le_prime - x_2) Le_prime Le_rest) fun Le_rest_3 =>
  bd1 (m_addMultiple F 40 1600 Le_mixes 0 (i1 * 40) Le_size (Le_prime - x_2) Le_prime Le_mix) fun Le_mix_5 =>
  k25 (i1 + 1) Le_rest_3 Le_mix_5))
def b_reduceImage_25 (F : Nat) (Le_prime Le_size Le_standardCount : Int32) (Le_steps Le_mixes Le_pivots Le_image : Nat → Int32) (n : Nat) : Int32 → (Nat → Int32) → (Nat → Int32) → Option ((Nat → Int32) × (Nat → Int32)) := lpF (fun _ _ _ => none) (s_reduceImage_25 F Le_prime Le_size Le_standardCount Le_steps Le_mixes Le_pivots Le_image ) n
def m_reduceImage (F : Nat) (Le_prime Le_size Le_standardCount : Int32) (Le_steps Le_mixes Le_pivots Le_image Le_rest Le_mix : Nat → Int32) : Option ((Nat → Int32) × (Nat → Int32)) :=
  cpI 40 40 Le_image Le_rest 0 0 40 fun Le_rest_1 =>
  bd1 (m_fill F 40 0 Le_mix) fun Le_mix_2 =>
  b_reduceImage_25 F Le_prime Le_size Le_standardCount Le_steps Le_mixes Le_pivots Le_image F 0 Le_rest_1 Le_mix_2
def m_addPolynomial (F : Nat) (Le_mix : Nat → Int32) (i1 Le_count : Int32) (Le_heads Le_tails : Nat → Int32) : Option (Int32 × (Nat → Int32) × (Nat → Int32)) :=
  if 160 ≤ Le_count then (some (Le_count, Le_heads, Le_tails)) else
  (wrI 160 Le_heads Le_count i1 fun Le_heads_1 =>
  cpI 40 6400 Le_mix Le_tails 0 (Le_count * 40) 40 fun Le_tails_2 =>
  some ((Le_count + 1), Le_heads_1, Le_tails_2))
def m_addStandard (F : Nat) (Le_prime Le_size : Int32) (Le_image Le_rest : Nat → Int32) (i1 i2 Le_standardCount : Int32) (Le_standard Le_images Le_steps Le_mixes Le_pivots Le_mix : Nat → Int32) : Option (Int32 × (Nat → Int32) × (Nat → Int32) × (Nat → Int32) × (Nat → Int32) × (Nat → Int32) × (Nat → Int32)) :=
  if 40 ≤ Le_standardCount then (some (Le_standardCount, Le_standard, Le_images, Le_steps, Le_mixes, Le_pivots, Le_mix)) else
  (rdI 40 Le_rest i2 fun x_1 =>
  bd1 (m_inverse F x_1 Le_prime) fun r_2 =>
  wrI 40 Le_mix Le_standardCount 1 fun Le_mix_3 =>
  bd1 (m_fillR F 1600 (Le_standardCount * 40) ((Le_standardCount * 40) + 40) 0 Le_steps) fun Le_steps_4 =>
  bd1 (m_fillR F 1600 (Le_standardCount * 40) ((Le_standardCount * 40) + 40) 0 Le_mixes) fun Le_mixes_6 =>
  bd1 (m_addMultiple F 1600 40 Le_rest (Le_standardCount * 40) 0 Le_size r_2 Le_prime Le_steps_4) fun Le_steps_8 =>
  bd1 (m_addMultiple F 1600 40 Le_mix_3 (Le_standardCount * 40) 0 Le_size r_2 Le_prime Le_mixes_6) fun Le_mixes_10 =>
  cpI 40 1600 Le_image Le_images 0 (Le_standardCount * 40) 40 fun Le_images_12 =>
  wrI 40 Le_pivots Le_standardCount i2 fun Le_pivots_13 =>
  wrI 40 Le_standard Le_standardCount i1 fun Le_standard_14 =>
  some ((Le_standardCount + 1), Le_standard_14, Le_images_12, Le_steps_8, Le_mixes_10, Le_pivots_13, Le_mix_3))
def m_place (F : Nat) (Le_prime Le_size : Int32) (Le_image : Nat → Int32) (i1 Le_count Le_standardCount : Int32) (Le_heads Le_tails Le_standard Le_images Le_steps Le_mixes Le_pivots Le_rest Le_mix : Nat → Int32) : Option (Int32 × Int32 × (Nat → Int32) × (Nat → Int32) × (Nat → Int32) × (Nat → Int32) × (Nat → Int32) × (Nat → Int32) × (Nat → Int32) × (Nat → Int32) × (Nat → Int32)) :=
  bd2 (m_reduceImage F Le_prime Le_size Le_standardCount Le_steps Le_mixes Le_pivots Le_image Le_rest Le_mix) fun Le_rest_1 Le_mix_2 =>
  bd1 (m_first F 40 Le_rest_1 Le_size) fun r_4 =>
  if r_4 = (-1) then (bd3 (m_addPolynomial F Le_mix_2 i1 Le_count Le_heads Le_tails) fun Le_count_13 Le_heads_14 Le_tails_15 =>
  some (Le_count_13, Le_standardCount, Le_heads_14, Le_tails_15, Le_standard, Le_images, Le_steps, Le_mixes, Le_pivots, Le_rest_1, Le_mix_2)) else
  (bd7 (m_addStandard F Le_prime Le_size Le_image Le_rest_1 i1 r_4 Le_standardCount Le_standard Le_images Le_steps Le_mixes Le_pivots Le_mix_2) fun Le_standardCount_5 Le_standard_6 Le_images_7 Le_steps_8 Le_mixes_9 Le_pivots_10 Le_mix_11 =>
  some (Le_count, Le_standardCount_5, Le_heads, Le_tails, Le_standard_6, Le_images_7, Le_steps_8, Le_mixes_9, Le_pivots_10, Le_rest_1, Le_mix_11))
def s_build_50 (F : Nat) (Re_prime Re_size Re_variables : Int32) (Re_products : Nat → Int32) (k50 : Int32 → Int32 → Int32 → Int32 → Int32 → Int32 → (Nat → Int32) → (Nat → Int32) → (Nat → Int32) → (Nat → Int32) → (Nat → Int32) → (Nat → Int32) → (Nat → Int32) → (Nat → Int32) → (Nat → Int32) → (Nat → Int32) → Option (Int32 × Int32 × Int32 × Int32 × (Nat → Int32) × (Nat → Int32) × (Nat → Int32) × (Nat → Int32) × (Nat → Int32) × (Nat → Int32) × (Nat → Int32) × (Nat → Int32) × (Nat → Int32) × (Nat → Int32))) (i2 i3 Le_count Le_prime Le_size Le_standardCount : Int32) (Le_heads Le_tails Le_standard Le_images Le_steps Le_mixes Le_pivots Le_image Le_rest Le_mix : Nat → Int32) : Option (Int32 × Int32 × Int32 × Int32 × (Nat → Int32) × (Nat → Int32) × (Nat → Int32) × (Nat → Int32) × (Nat → Int32) × (Nat → Int32) × (Nat → Int32) × (Nat → Int32) × (Nat → Int32) × (Nat → Int32)) :=
  if 160 ≤ i3 then (some (Le_count, Le_prime, Le_size, Le_standardCount, Le_heads, Le_tails, Le_standard, Le_images, Le_steps, Le_mixes, Le_pivots, Le_image, Le_rest, Le_mix)) else
  (bd1 (m_leastProduct F Le_standardCount Le_standard i2 Re_variables) fun r_1 =>
  if r_1 = (-1) then (some (Le_count, Le_prime, Le_size, Le_standardCount, Le_heads, Le_tails, Le_standard, Le_images, Le_steps, Le_mixes, Le_pivots, Le_image, Le_rest, Le_mix)) else
  (nzI 40 (nzI 40 (rdI 40 Le_standard (remI r_1 40) fun x_2 =>
  bd1 (m_variable F (r_1 / 40)) fun r_3 =>
  bd1 (m_hasHead F Le_count Le_heads (x_2 + r_3)) fun r_4 =>
  if r_4 = 0 then (bd1 (m_fill F 40 0 Le_image) fun Le_image_5 =>
  bd1 (m_actL F Re_prime Re_size Re_products Le_images (r_1 / 40) ((remI r_1 40) * 40) 0 Le_image_5) fun Le_image_7 =>
  bd11 (m_place F Le_prime Le_size Le_image_7 (x_2 + r_3) Le_count Le_standardCount Le_heads Le_tails Le_standard Le_images Le_steps Le_mixes Le_pivots Le_rest Le_mix) fun Le_count_9 Le_standardCount_10 Le_heads_11 Le_tails_12 Le_standard_13 Le_images_14 Le_steps_15 Le_mixes_16 Le_pivots_17 Le_rest_18 Le_mix_19 =>
  k50 (x_2 + r_3) (i3 + 1) Le_count_9 Le_prime Le_size Le_standardCount_10 Le_heads_11 Le_tails_12 Le_standard_13 Le_images_14 Le_steps_15 Le_mixes_16 Le_pivots_17 Le_image_7 Le_rest_18 Le_mix_19) else
  (k50 (x_2 + r_3) (i3 + 1) Le_count Le_prime Le_size Le_standardCount Le_heads Le_tails Le_standard Le_images Le_steps Le_mixes Le_pivots Le_image Le_rest Le_mix)))))
def b_build_50 (F : Nat) (Re_prime Re_size Re_variables : Int32) (Re_products : Nat → Int32) (n : Nat) : Int32 → Int32 → Int32 → Int32 → Int32 → Int32 → (Nat → Int32) → (Nat → Int32) → (Nat → Int32) → (Nat → Int32) → (Nat → Int32) → (Nat → Int32) → (Nat → Int32) → (Nat → Int32) → (Nat → Int32) → (Nat → Int32) → Option (Int32 × Int32 × Int32 × Int32 × (Nat → Int32) × (Nat → Int32) × (Nat → Int32) × (Nat → Int32) × (Nat → Int32) × (Nat → Int32) × (Nat → Int32) × (Nat → Int32) × (Nat → Int32) × (Nat → Int32)) := lpF (fun _ _ _ _ _ _ _ _ _ _ _ _ _ _ _ _ => none) (s_build_50 F Re_prime Re_size Re_variables Re_products ) n
def m_build (F : Nat) (Re_prime Re_size Re_variables : Int32) (Re_products : Nat → Int32) (Le_count Le_prime Le_size Le_standardCount : Int32) (Le_heads Le_tails Le_standard Le_images Le_steps Le_mixes Le_pivots Le_image Le_rest Le_mix : Nat → Int32) : Option (Int32 × Int32 × Int32 × Int32 × (Nat → Int32) × (Nat → Int32) × (Nat → Int32) × (Nat → Int32) × (Nat → Int32) × (Nat → Int32) × (Nat → Int32) × (Nat → Int32) × (Nat → Int32) × (Nat → Int32)) :=
  bd1 (m_fill F 40 0 Le_image) fun Le_image_1 =>
  wrI 40 Le_image_1 0 1 fun Le_image_3 =>
  bd11 (m_place F Re_prime Re_size Le_image_3 0 0 0 Le_heads Le_tails Le_standard Le_images Le_steps Le_mixes Le_pivots Le_rest Le_mix) fun Le_count_4 Le_standardCount_5 Le_heads_6 Le_tails_7 Le_standard_8 Le_images_9 Le_steps_10 Le_mixes_11 Le_pivots_12 Le_rest_13 Le_mix_14 =>
  b_build_50 F Re_prime Re_size Re_variables Re_products F 0 0 Le_count_4 Re_prime Re_size Le_standardCount_5 Le_heads_6 Le_tails_7 Le_standard_8 Le_images_9 Le_steps_10 Le_mixes_11 Le_pivots_12 Le_image_3 Le_rest_13 Le_mix_14
def s_tailTerm_10 (F : Nat) (Le_standardCount : Int32) (Le_tails : Nat → Int32) (k10 : Int32 → Int32 → Int32 → Int32 → Option (Int32)) (i1 i2 i3 i4 : Int32) : Option (Int32) :=
  if i4 < 0 then (some (-1)) else
  (rdI 6400 Le_tails ((i1 * 40) + i4) fun x_1 =>
  if x_1 = 0 then (k10 i1 i2 i3 (i4 + (-1))) else
  (if (i3 + 1) = i2 then (some i4) else
  (k10 i1 i2 (i3 + 1) (i4 + (-1)))))
def b_tailTerm_10 (F : Nat) (Le_standardCount : Int32) (Le_tails : Nat → Int32) (n : Nat) : Int32 → Int32 → Int32 → Int32 → Option (Int32) := lpF (fun _ _ _ _ => none) (s_tailTerm_10 F Le_standardCount Le_tails ) n
def m_tailTerm (F : Nat) (Le_standardCount : Int32) (Le_tails : Nat → Int32) (i1 i2 : Int32) : Option (Int32) :=
  b_tailTerm_10 F Le_standardCount Le_tails F i1 i2 0 (Le_standardCount - 1)
def s_hasCompleteBasis_14 (F : Nat) (RD_generatorCount RD_prime Mo_count Mo_variables : Int32) (RD_generators Mo_codes Mo_degrees Mo_raised : Nat → Int32) (k14 : Int32 → Int32 → Int32 → Int32 → Int32 → (Nat → Int32) → (Nat → Int32) → (Nat → Int32) → (Nat → Int32) → (Nat → Int32) → Option (Int32 × Int32 × Int32 × Int32 × Int32 × (Nat → Int32) × (Nat → Int32) × (Nat → Int32) × (Nat → Int32) × (Nat → Int32))) (i2 Sp_basisCount Sp_keptCount Sp_limit Sp_prime : Int32) (Sp_rows Sp_leads Sp_kept Sp_work Sp_basis : Nat → Int32) : Option (Int32 × Int32 × Int32 × Int32 × Int32 × (Nat → Int32) × (Nat → Int32) × (Nat → Int32) × (Nat → Int32) × (Nat → Int32)) :=
  if RD_generatorCount ≤ i2 then (bd5 (m_close F Mo_count Mo_variables Sp_limit Sp_prime Mo_degrees Mo_raised Sp_keptCount Sp_rows Sp_leads Sp_kept Sp_work) fun Sp_keptCount_1 Sp_rows_2 Sp_leads_3 Sp_kept_4 Sp_work_5 =>
  bd3 (m_pickBasis F Mo_count Sp_prime Mo_codes Sp_leads_3 Sp_basisCount Sp_rows_2 Sp_basis) fun Sp_basisCount_7 Sp_rows_8 Sp_basis_9 =>
  bd1 (m_isComplete F Sp_basisCount_7 Sp_limit Mo_codes Mo_degrees Sp_basis_9) fun r_11 =>
  bzI r_11 (some (r_11, Sp_basisCount_7, Sp_keptCount_1, Sp_limit, Sp_prime, Sp_rows_8, Sp_leads_3, Sp_kept_4, Sp_work_5, Sp_basis_9))) else
  (bd6 (m_spTakes F Mo_count Sp_limit Sp_prime RD_generators Mo_degrees (i2 * 126) Sp_keptCount Sp_rows Sp_leads Sp_kept Sp_work) fun r_12 Sp_keptCount_13 Sp_rows_14 Sp_leads_15 Sp_kept_16 Sp_work_17 =>
  if r_12 = 0 then (some (0, Sp_basisCount, Sp_keptCount_13, Sp_limit, Sp_prime, Sp_rows_14, Sp_leads_15, Sp_kept_16, Sp_work_17, Sp_basis)) else
  (k14 (i2 + 1) Sp_basisCount Sp_keptCount_13 Sp_limit Sp_prime Sp_rows_14 Sp_leads_15 Sp_kept_16 Sp_work_17 Sp_basis))
def b_hasCompleteBasis_14 (F : Nat) (RD_generatorCount RD_prime Mo_count Mo_variables : Int32) (RD_generators Mo_codes Mo_degrees Mo_raised : Nat → Int32) (n : Nat) : Int32 → Int32 → Int32 → Int32 → Int32 → (Nat → Int32) → (Nat → Int32) → (Nat → Int32) → (Nat → Int32) → (Nat → Int32) → Option (Int32 × Int32 × Int32 × Int32 × Int32 × (Nat → Int32) × (Nat → Int32) × (Nat → Int32) × (Nat → Int32) × (Nat → Int32)) := lpF (fun _ _ _ _ _ _ _ _ _ _ => none) (s_hasCompleteBasis_14 F RD_generatorCount RD_prime Mo_count Mo_variables RD_generators Mo_codes Mo_degrees Mo_raised ) n
def m_hasCompleteBasis (F : Nat) (RD_generatorCount RD_prime Mo_count Mo_variables : Int32) (RD_generators Mo_codes Mo_degrees Mo_raised : Nat → Int32) (i1 Sp_basisCount Sp_keptCount Sp_limit Sp_prime : Int32) (Sp_rows Sp_leads Sp_kept Sp_work Sp_basis : Nat → Int32) : Option (Int32 × Int32 × Int32 × Int32 × Int32 × (Nat → Int32) × (Nat → Int32) × (Nat → Int32) × (Nat → Int32) × (Nat → Int32)) :=
  bd5 (m_start F RD_prime i1 Sp_basisCount Sp_keptCount Sp_limit Sp_prime Sp_leads) fun Sp_basisCount_1 Sp_keptCount_2 Sp_limit_3 Sp_prime_4 Sp_leads_5 =>
  b_hasCompleteBasis_14 F RD_generatorCount RD_prime Mo_count Mo_variables RD_generators Mo_codes Mo_degrees Mo_raised F 0 Sp_basisCount_1 Sp_keptCount_2 Sp_limit_3 Sp_prime_4 Sp_rows Sp_leads_5 Sp_kept Sp_work Sp_basis
def m_clear (F : Nat) (RD_generatorCount : Int32) (RD_inHand : Nat → Int32) : Option (Int32 × (Nat → Int32)) :=
  bd1 (m_fill F 126 0 RD_inHand) fun RD_inHand_1 =>
  some (0, RD_inHand_1)
def m_left (F : Nat) (Re_size : Int32) (Re_codes : Nat → Int32) (i1 : Int32) : Option (Int32) :=
  if i1 < 0 then (some (-1)) else
  (if i1 < Re_size then (rdI 40 Re_codes i1 fun x_1 =>
  some x_1) else
  (some (-1)))
def m_times (F : Nat) (Re_size Re_variables : Int32) (Re_products : Nat → Int32) (i1 i2 i3 : Int32) : Option (Int32) :=
  if i1 < 0 then (some (-1)) else
  (if Re_variables ≤ i1 then (some (-1)) else
  (if i2 < 0 then (some (-1)) else
  (if Re_size ≤ i2 then (some (-1)) else
  (if i3 < 0 then (some (-1)) else
  (if i3 < Re_size then (bd1 (m_productRow F i1 i2) fun r_1 =>
  rdI 6400 Re_products (r_1 + i3) fun x_2 =>
  some x_2) else
  (some (-1)))))))
def m_dictionary (F : Nat) (Le_count : Int32) : Option (Int32) :=
  some Le_count
def s_entry_30 (F : Nat) (Le_count Le_standardCount : Int32) (Le_heads Le_tails Le_standard : Nat → Int32)  (i1 i2 i3 : Int32) : Option (Int32) :=
  if i2 = 0 then (if i3 = 0 then (rdI 160 Le_heads i1 fun x_4 =>
  some x_4) else
  (some 1)) else
  (bd1 (m_tailTerm F Le_standardCount Le_tails i1 i2) fun r_1 =>
  if r_1 = (-1) then (some (-1)) else
  (if i3 = 0 then (rdI 40 Le_standard r_1 fun x_3 =>
  some x_3) else
  (rdI 6400 Le_tails ((i1 * 40) + r_1) fun x_2 =>
  some x_2)))
def m_entry (F : Nat) (Le_count Le_standardCount : Int32) (Le_heads Le_tails Le_standard : Nat → Int32) (i1 i2 i3 : Int32) : Option (Int32) :=
  if i1 < 0 then (some (-1)) else
  (if Le_count ≤ i1 then (some (-1)) else
  (if i2 < 0 then (some (-1)) else
  (if i3 = 0 then (s_entry_30 F Le_count Le_standardCount Le_heads Le_tails Le_standard i1 i2 i3) else
  (if i3 = 1 then (s_entry_30 F Le_count Le_standardCount Le_heads Le_tails Le_standard i1 i2 i3) else
  (some (-1))))))
def m_hand (F : Nat) (Mo_count Mo_order : Int32) (RD_inHand : Nat → Int32) (Mo_keys : Nat → Int64) (i1 : Int32) : Option (Int32) :=
  bd1 (m_rank F Mo_count Mo_order Mo_keys i1) fun r_1 =>
  if r_1 = (-1) then (some 0) else
  (rdI 126 RD_inHand r_1 fun x_2 =>
  some x_2)
