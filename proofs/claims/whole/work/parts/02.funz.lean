/-! THE METHODS AS PURE FUNCTIONS, by our own program out of the listing: the reference. -/
def m_zhighest (F : Nat) (i0 : Int32) : Option (Int32) :=
  if i0 = 1 then (some 30) else
  (if i0 = 2 then (some 12) else
  (if i0 = 3 then (some 7) else
  (some 5)))
def m_zexponent (F : Nat) (i0 i1 : Int32) : Option (Int32) :=
  some ((shrI i0 (24 - (8 * i1))) &&& 255)
def m_zdegreeOf (F : Nat) (i0 : Int32) : Option (Int32) :=
  bd1 (m_zexponent F i0 0) fun r_1 =>
  bd1 (m_zexponent F i0 1) fun r_2 =>
  bd1 (m_zexponent F i0 2) fun r_3 =>
  bd1 (m_zexponent F i0 3) fun r_4 =>
  some (((r_1 + r_2) + r_3) + r_4)
def s_zdivides_2 (F : Nat) (k2 : Int32 → Int32 → Int32 → Option (Int32)) (i0 i1 i2 : Int32) : Option (Int32) :=
  if 4 ≤ i2 then (some 1) else
  (bd1 (m_zexponent F i0 i2) fun r_1 =>
  bd1 (m_zexponent F i1 i2) fun r_2 =>
  if r_1 ≤ r_2 then (k2 i0 i1 (i2 + 1)) else
  (some 0))
def b_zdivides_2 (F : Nat) (n : Nat) : Int32 → Int32 → Int32 → Option (Int32) := lpF (fun _ _ _ => none) (s_zdivides_2 F ) n
def m_zdivides (F : Nat) (i0 i1 : Int32) : Option (Int32) :=
  b_zdivides_2 F F i0 i1 0
def s_zprime_16 (F : Nat) (k16 : Int32 → Int32 → Option (Int32)) (i0 i1 : Int32) : Option (Int32) :=
  if i0 < (i1 * i1) then (some 1) else
  (nzI i1 (if (remI i0 i1) = 0 then (some 0) else
  (k16 i0 (i1 + 1))))
def b_zprime_16 (F : Nat) (n : Nat) : Int32 → Int32 → Option (Int32) := lpF (fun _ _ => none) (s_zprime_16 F ) n
def m_zprime (F : Nat) (i0 : Int32) : Option (Int32) :=
  if i0 < 2 then (some 0) else
  (if i0 ≤ 32003 then (b_zprime_16 F F i0 2) else
  (some 0))
def s_zgreater_49 (F : Nat) (Z_order : Int32) (k30 : Int32 → Int32 → Int32 → Option (Int32)) (i1 i2 i3 t0 : Int32) : Option (Int32) :=
  bd1 (m_zexponent F i1 t0) fun r_1 =>
  bd1 (m_zexponent F i2 t0) fun r_2 =>
  if r_1 = r_2 then (k30 i1 i2 (i3 + 1)) else
  (if Z_order = 0 then (bd1 (m_zexponent F i1 t0) fun r_5 =>
  bd1 (m_zexponent F i2 t0) fun r_6 =>
  if r_6 ≤ r_5 then (some 0) else
  (some 1)) else
  (bd1 (m_zexponent F i1 t0) fun r_3 =>
  bd1 (m_zexponent F i2 t0) fun r_4 =>
  if r_3 ≤ r_4 then (some 0) else
  (some 1)))
def s_zgreater_30 (F : Nat) (Z_order : Int32) (k30 : Int32 → Int32 → Int32 → Option (Int32)) (i1 i2 i3 : Int32) : Option (Int32) :=
  if 4 ≤ i3 then (some 0) else
  (if Z_order = 0 then (s_zgreater_49 F Z_order k30 i1 i2 i3 (3 - i3)) else
  (s_zgreater_49 F Z_order k30 i1 i2 i3 i3))
def b_zgreater_30 (F : Nat) (Z_order : Int32) (n : Nat) : Int32 → Int32 → Int32 → Option (Int32) := lpF (fun _ _ _ => none) (s_zgreater_30 F Z_order ) n
def m_zgreater (F : Nat) (Z_order i1 i2 : Int32) : Option (Int32) :=
  bd1 (m_zdegreeOf F i1) fun r_1 =>
  bd1 (m_zdegreeOf F i2) fun r_2 =>
  if r_1 = r_2 then (b_zgreater_30 F Z_order F i1 i2 0) else
  (bd1 (m_zdegreeOf F i1) fun r_3 =>
  bd1 (m_zdegreeOf F i2) fun r_4 =>
  if r_3 ≤ r_4 then (some 0) else
  (some 1))
def s_zput_45 (F : Nat) (Z_order : Int32)  (i1 i2 Z_monomials : Int32) (Z_mono : Nat → Int32) : Option (Int32 × (Nat → Int32)) :=
  wrI 126 Z_mono i2 i1 fun Z_mono_1 =>
  some ((Z_monomials + 1), Z_mono_1)
def s_zput_5 (F : Nat) (Z_order : Int32) (k5 : Int32 → Int32 → Int32 → (Nat → Int32) → Option (Int32 × (Nat → Int32))) (i1 i2 Z_monomials : Int32) (Z_mono : Nat → Int32) : Option (Int32 × (Nat → Int32)) :=
  if i2 ≤ 0 then (s_zput_45 F Z_order i1 i2 Z_monomials Z_mono) else
  (rdI 126 Z_mono (i2 - 1) fun x_1 =>
  bd1 (m_zgreater F Z_order x_1 i1) fun r_2 =>
  if r_2 = 0 then (s_zput_45 F Z_order i1 i2 Z_monomials Z_mono) else
  (rdI 126 Z_mono (i2 - 1) fun x_3 =>
  wrI 126 Z_mono i2 x_3 fun Z_mono_4 =>
  k5 i1 (i2 + (-1)) Z_monomials Z_mono_4))
def b_zput_5 (F : Nat) (Z_order : Int32) (n : Nat) : Int32 → Int32 → Int32 → (Nat → Int32) → Option (Int32 × (Nat → Int32)) := lpF (fun _ _ _ _ => none) (s_zput_5 F Z_order ) n
def m_zput (F : Nat) (Z_order i1 Z_monomials : Int32) (Z_mono : Nat → Int32) : Option (Int32 × (Nat → Int32)) :=
  b_zput_5 F Z_order F i1 Z_monomials Z_monomials Z_mono
def s_zfresh_177 (F : Nat) (k177 : Int32 → Int32 → Int32 → Int32 → Int32 → Int32 → (Nat → Int32) → (Nat → Int32) → (Nat → Int32) → Option (Int32 × Int32 × Int32 × Int32 × Int32 × (Nat → Int32) × (Nat → Int32) × (Nat → Int32))) (i5 Z_generators Z_monomials Z_n Z_order Z_p : Int32) (Z_mono Z_degree Z_hand : Nat → Int32) : Option (Int32 × Int32 × Int32 × Int32 × Int32 × (Nat → Int32) × (Nat → Int32) × (Nat → Int32)) :=
  if Z_monomials ≤ i5 then (some (Z_generators, Z_monomials, Z_n, Z_order, Z_p, Z_mono, Z_degree, Z_hand)) else
  (rdI 126 Z_mono i5 fun x_1 =>
  bd1 (m_zdegreeOf F x_1) fun r_2 =>
  wrI 126 Z_degree i5 r_2 fun Z_degree_3 =>
  wrI 126 Z_hand i5 0 fun Z_hand_4 =>
  k177 (i5 + 1) Z_generators Z_monomials Z_n Z_order Z_p Z_mono Z_degree_3 Z_hand_4)
def b_zfresh_177 (F : Nat) (n : Nat) : Int32 → Int32 → Int32 → Int32 → Int32 → Int32 → (Nat → Int32) → (Nat → Int32) → (Nat → Int32) → Option (Int32 × Int32 × Int32 × Int32 × Int32 × (Nat → Int32) × (Nat → Int32) × (Nat → Int32)) := lpF (fun _ _ _ _ _ _ _ _ _ => none) (s_zfresh_177 F ) n
def s_zfresh_107 (F : Nat) (k37 : Int32 → Int32 → Int32 → Int32 → Int32 → Int32 → Int32 → (Nat → Int32) → (Nat → Int32) → (Nat → Int32) → Option (Int32 × Int32 × Int32 × Int32 × Int32 × (Nat → Int32) × (Nat → Int32) × (Nat → Int32))) (k47 : Int32 → Int32 → Int32 → Int32 → Int32 → Int32 → Int32 → Int32 → (Nat → Int32) → (Nat → Int32) → (Nat → Int32) → Option (Int32 × Int32 × Int32 × Int32 × Int32 × (Nat → Int32) × (Nat → Int32) × (Nat → Int32))) (k69 : Int32 → Int32 → Int32 → Int32 → Int32 → Int32 → Int32 → Int32 → Int32 → (Nat → Int32) → (Nat → Int32) → (Nat → Int32) → Option (Int32 × Int32 × Int32 × Int32 × Int32 × (Nat → Int32) × (Nat → Int32) × (Nat → Int32))) (k91 : Int32 → Int32 → Int32 → Int32 → Int32 → Int32 → Int32 → Int32 → Int32 → Int32 → (Nat → Int32) → (Nat → Int32) → (Nat → Int32) → Option (Int32 × Int32 × Int32 × Int32 × Int32 × (Nat → Int32) × (Nat → Int32) × (Nat → Int32))) (i4 i5 i6 i7 i8 t0 t1 Z_generators Z_monomials Z_n Z_order Z_p : Int32) (Z_mono Z_degree Z_hand : Nat → Int32) : Option (Int32 × Int32 × Int32 × Int32 × Int32 × (Nat → Int32) × (Nat → Int32) × (Nat → Int32)) :=
  if t1 < t0 then (k69 i4 i5 i6 (i7 + 1) Z_generators Z_monomials Z_n Z_order Z_p Z_mono Z_degree Z_hand) else
  (if i4 < (((i5 + i6) + i7) + i8) then (k91 i4 i5 i6 i7 (i8 + 1) Z_generators Z_monomials Z_n Z_order Z_p Z_mono Z_degree Z_hand) else
  (bd2 (m_zput F Z_order ((((shlI i5 24) ||| (shlI i6 16)) ||| (shlI i7 8)) ||| i8) Z_monomials Z_mono) fun Z_monomials_1 Z_mono_2 =>
  k91 i4 i5 i6 i7 (i8 + 1) Z_generators Z_monomials_1 Z_n Z_order Z_p Z_mono_2 Z_degree Z_hand))
def s_zfresh_91 (F : Nat) (k37 : Int32 → Int32 → Int32 → Int32 → Int32 → Int32 → Int32 → (Nat → Int32) → (Nat → Int32) → (Nat → Int32) → Option (Int32 × Int32 × Int32 × Int32 × Int32 × (Nat → Int32) × (Nat → Int32) × (Nat → Int32))) (k47 : Int32 → Int32 → Int32 → Int32 → Int32 → Int32 → Int32 → Int32 → (Nat → Int32) → (Nat → Int32) → (Nat → Int32) → Option (Int32 × Int32 × Int32 × Int32 × Int32 × (Nat → Int32) × (Nat → Int32) × (Nat → Int32))) (k69 : Int32 → Int32 → Int32 → Int32 → Int32 → Int32 → Int32 → Int32 → Int32 → (Nat → Int32) → (Nat → Int32) → (Nat → Int32) → Option (Int32 × Int32 × Int32 × Int32 × Int32 × (Nat → Int32) × (Nat → Int32) × (Nat → Int32))) (k91 : Int32 → Int32 → Int32 → Int32 → Int32 → Int32 → Int32 → Int32 → Int32 → Int32 → (Nat → Int32) → (Nat → Int32) → (Nat → Int32) → Option (Int32 × Int32 × Int32 × Int32 × Int32 × (Nat → Int32) × (Nat → Int32) × (Nat → Int32))) (i4 i5 i6 i7 i8 Z_generators Z_monomials Z_n Z_order Z_p : Int32) (Z_mono Z_degree Z_hand : Nat → Int32) : Option (Int32 × Int32 × Int32 × Int32 × Int32 × (Nat → Int32) × (Nat → Int32) × (Nat → Int32)) :=
  if Z_n ≤ 3 then (s_zfresh_107 F k37 k47 k69 k91 i4 i5 i6 i7 i8 i8 0 Z_generators Z_monomials Z_n Z_order Z_p Z_mono Z_degree Z_hand) else
  (s_zfresh_107 F k37 k47 k69 k91 i4 i5 i6 i7 i8 i8 i4 Z_generators Z_monomials Z_n Z_order Z_p Z_mono Z_degree Z_hand)
def b_zfresh_91 (F : Nat) (k37 : Int32 → Int32 → Int32 → Int32 → Int32 → Int32 → Int32 → (Nat → Int32) → (Nat → Int32) → (Nat → Int32) → Option (Int32 × Int32 × Int32 × Int32 × Int32 × (Nat → Int32) × (Nat → Int32) × (Nat → Int32))) (k47 : Int32 → Int32 → Int32 → Int32 → Int32 → Int32 → Int32 → Int32 → (Nat → Int32) → (Nat → Int32) → (Nat → Int32) → Option (Int32 × Int32 × Int32 × Int32 × Int32 × (Nat → Int32) × (Nat → Int32) × (Nat → Int32))) (k69 : Int32 → Int32 → Int32 → Int32 → Int32 → Int32 → Int32 → Int32 → Int32 → (Nat → Int32) → (Nat → Int32) → (Nat → Int32) → Option (Int32 × Int32 × Int32 × Int32 × Int32 × (Nat → Int32) × (Nat → Int32) × (Nat → Int32))) (n : Nat) : Int32 → Int32 → Int32 → Int32 → Int32 → Int32 → Int32 → Int32 → Int32 → Int32 → (Nat → Int32) → (Nat → Int32) → (Nat → Int32) → Option (Int32 × Int32 × Int32 × Int32 × Int32 × (Nat → Int32) × (Nat → Int32) × (Nat → Int32)) := lpF (fun _ _ _ _ _ _ _ _ _ _ _ _ _ => none) (s_zfresh_91 F k37 k47 k69) n
def s_zfresh_85 (F : Nat) (k37 : Int32 → Int32 → Int32 → Int32 → Int32 → Int32 → Int32 → (Nat → Int32) → (Nat → Int32) → (Nat → Int32) → Option (Int32 × Int32 × Int32 × Int32 × Int32 × (Nat → Int32) × (Nat → Int32) × (Nat → Int32))) (k47 : Int32 → Int32 → Int32 → Int32 → Int32 → Int32 → Int32 → Int32 → (Nat → Int32) → (Nat → Int32) → (Nat → Int32) → Option (Int32 × Int32 × Int32 × Int32 × Int32 × (Nat → Int32) × (Nat → Int32) × (Nat → Int32))) (k69 : Int32 → Int32 → Int32 → Int32 → Int32 → Int32 → Int32 → Int32 → Int32 → (Nat → Int32) → (Nat → Int32) → (Nat → Int32) → Option (Int32 × Int32 × Int32 × Int32 × Int32 × (Nat → Int32) × (Nat → Int32) × (Nat → Int32))) (i4 i5 i6 i7 t0 t1 Z_generators Z_monomials Z_n Z_order Z_p : Int32) (Z_mono Z_degree Z_hand : Nat → Int32) : Option (Int32 × Int32 × Int32 × Int32 × Int32 × (Nat → Int32) × (Nat → Int32) × (Nat → Int32)) :=
  if t1 < t0 then (k47 i4 i5 (i6 + 1) Z_generators Z_monomials Z_n Z_order Z_p Z_mono Z_degree Z_hand) else
  (b_zfresh_91 F k37 k47 k69 F i4 i5 i6 i7 0 Z_generators Z_monomials Z_n Z_order Z_p Z_mono Z_degree Z_hand)
def s_zfresh_69 (F : Nat) (k37 : Int32 → Int32 → Int32 → Int32 → Int32 → Int32 → Int32 → (Nat → Int32) → (Nat → Int32) → (Nat → Int32) → Option (Int32 × Int32 × Int32 × Int32 × Int32 × (Nat → Int32) × (Nat → Int32) × (Nat → Int32))) (k47 : Int32 → Int32 → Int32 → Int32 → Int32 → Int32 → Int32 → Int32 → (Nat → Int32) → (Nat → Int32) → (Nat → Int32) → Option (Int32 × Int32 × Int32 × Int32 × Int32 × (Nat → Int32) × (Nat → Int32) × (Nat → Int32))) (k69 : Int32 → Int32 → Int32 → Int32 → Int32 → Int32 → Int32 → Int32 → Int32 → (Nat → Int32) → (Nat → Int32) → (Nat → Int32) → Option (Int32 × Int32 × Int32 × Int32 × Int32 × (Nat → Int32) × (Nat → Int32) × (Nat → Int32))) (i4 i5 i6 i7 Z_generators Z_monomials Z_n Z_order Z_p : Int32) (Z_mono Z_degree Z_hand : Nat → Int32) : Option (Int32 × Int32 × Int32 × Int32 × Int32 × (Nat → Int32) × (Nat → Int32) × (Nat → Int32)) :=
  if Z_n ≤ 2 then (s_zfresh_85 F k37 k47 k69 i4 i5 i6 i7 i7 0 Z_generators Z_monomials Z_n Z_order Z_p Z_mono Z_degree Z_hand) else
  (s_zfresh_85 F k37 k47 k69 i4 i5 i6 i7 i7 i4 Z_generators Z_monomials Z_n Z_order Z_p Z_mono Z_degree Z_hand)
def b_zfresh_69 (F : Nat) (k37 : Int32 → Int32 → Int32 → Int32 → Int32 → Int32 → Int32 → (Nat → Int32) → (Nat → Int32) → (Nat → Int32) → Option (Int32 × Int32 × Int32 × Int32 × Int32 × (Nat → Int32) × (Nat → Int32) × (Nat → Int32))) (k47 : Int32 → Int32 → Int32 → Int32 → Int32 → Int32 → Int32 → Int32 → (Nat → Int32) → (Nat → Int32) → (Nat → Int32) → Option (Int32 × Int32 × Int32 × Int32 × Int32 × (Nat → Int32) × (Nat → Int32) × (Nat → Int32))) (n : Nat) : Int32 → Int32 → Int32 → Int32 → Int32 → Int32 → Int32 → Int32 → Int32 → (Nat → Int32) → (Nat → Int32) → (Nat → Int32) → Option (Int32 × Int32 × Int32 × Int32 × Int32 × (Nat → Int32) × (Nat → Int32) × (Nat → Int32)) := lpF (fun _ _ _ _ _ _ _ _ _ _ _ _ => none) (s_zfresh_69 F k37 k47) n
def s_zfresh_63 (F : Nat) (k37 : Int32 → Int32 → Int32 → Int32 → Int32 → Int32 → Int32 → (Nat → Int32) → (Nat → Int32) → (Nat → Int32) → Option (Int32 × Int32 × Int32 × Int32 × Int32 × (Nat → Int32) × (Nat → Int32) × (Nat → Int32))) (k47 : Int32 → Int32 → Int32 → Int32 → Int32 → Int32 → Int32 → Int32 → (Nat → Int32) → (Nat → Int32) → (Nat → Int32) → Option (Int32 × Int32 × Int32 × Int32 × Int32 × (Nat → Int32) × (Nat → Int32) × (Nat → Int32))) (i4 i5 i6 t0 t1 Z_generators Z_monomials Z_n Z_order Z_p : Int32) (Z_mono Z_degree Z_hand : Nat → Int32) : Option (Int32 × Int32 × Int32 × Int32 × Int32 × (Nat → Int32) × (Nat → Int32) × (Nat → Int32)) :=
  if t1 < t0 then (k37 i4 (i5 + 1) Z_generators Z_monomials Z_n Z_order Z_p Z_mono Z_degree Z_hand) else
  (b_zfresh_69 F k37 k47 F i4 i5 i6 0 Z_generators Z_monomials Z_n Z_order Z_p Z_mono Z_degree Z_hand)
def s_zfresh_47 (F : Nat) (k37 : Int32 → Int32 → Int32 → Int32 → Int32 → Int32 → Int32 → (Nat → Int32) → (Nat → Int32) → (Nat → Int32) → Option (Int32 × Int32 × Int32 × Int32 × Int32 × (Nat → Int32) × (Nat → Int32) × (Nat → Int32))) (k47 : Int32 → Int32 → Int32 → Int32 → Int32 → Int32 → Int32 → Int32 → (Nat → Int32) → (Nat → Int32) → (Nat → Int32) → Option (Int32 × Int32 × Int32 × Int32 × Int32 × (Nat → Int32) × (Nat → Int32) × (Nat → Int32))) (i4 i5 i6 Z_generators Z_monomials Z_n Z_order Z_p : Int32) (Z_mono Z_degree Z_hand : Nat → Int32) : Option (Int32 × Int32 × Int32 × Int32 × Int32 × (Nat → Int32) × (Nat → Int32) × (Nat → Int32)) :=
  if Z_n ≤ 1 then (s_zfresh_63 F k37 k47 i4 i5 i6 i6 0 Z_generators Z_monomials Z_n Z_order Z_p Z_mono Z_degree Z_hand) else
  (s_zfresh_63 F k37 k47 i4 i5 i6 i6 i4 Z_generators Z_monomials Z_n Z_order Z_p Z_mono Z_degree Z_hand)
def b_zfresh_47 (F : Nat) (k37 : Int32 → Int32 → Int32 → Int32 → Int32 → Int32 → Int32 → (Nat → Int32) → (Nat → Int32) → (Nat → Int32) → Option (Int32 × Int32 × Int32 × Int32 × Int32 × (Nat → Int32) × (Nat → Int32) × (Nat → Int32))) (n : Nat) : Int32 → Int32 → Int32 → Int32 → Int32 → Int32 → Int32 → Int32 → (Nat → Int32) → (Nat → Int32) → (Nat → Int32) → Option (Int32 × Int32 × Int32 × Int32 × Int32 × (Nat → Int32) × (Nat → Int32) × (Nat → Int32)) := lpF (fun _ _ _ _ _ _ _ _ _ _ _ => none) (s_zfresh_47 F k37) n
def s_zfresh_37 (F : Nat) (k37 : Int32 → Int32 → Int32 → Int32 → Int32 → Int32 → Int32 → (Nat → Int32) → (Nat → Int32) → (Nat → Int32) → Option (Int32 × Int32 × Int32 × Int32 × Int32 × (Nat → Int32) × (Nat → Int32) × (Nat → Int32))) (i4 i5 Z_generators Z_monomials Z_n Z_order Z_p : Int32) (Z_mono Z_degree Z_hand : Nat → Int32) : Option (Int32 × Int32 × Int32 × Int32 × Int32 × (Nat → Int32) × (Nat → Int32) × (Nat → Int32)) :=
  if i4 < i5 then (b_zfresh_177 F F 0 Z_generators Z_monomials Z_n Z_order Z_p Z_mono Z_degree Z_hand) else
  (b_zfresh_47 F k37 F i4 i5 0 Z_generators Z_monomials Z_n Z_order Z_p Z_mono Z_degree Z_hand)
def b_zfresh_37 (F : Nat) (n : Nat) : Int32 → Int32 → Int32 → Int32 → Int32 → Int32 → Int32 → (Nat → Int32) → (Nat → Int32) → (Nat → Int32) → Option (Int32 × Int32 × Int32 × Int32 × Int32 × (Nat → Int32) × (Nat → Int32) × (Nat → Int32)) := lpF (fun _ _ _ _ _ _ _ _ _ _ => none) (s_zfresh_37 F ) n
def m_zfresh (F : Nat) (i1 i2 i3 Z_generators Z_monomials Z_n Z_order Z_p : Int32) (Z_mono Z_degree Z_hand : Nat → Int32) : Option (Int32 × Int32 × Int32 × Int32 × Int32 × (Nat → Int32) × (Nat → Int32) × (Nat → Int32)) :=
  bd1 (m_zhighest F i2) fun r_1 =>
  b_zfresh_37 F F r_1 0 0 0 i2 i3 i1 Z_mono Z_degree Z_hand
def s_zplaceOf_2 (F : Nat) (Z_monomials : Int32) (Z_mono : Nat → Int32) (k2 : Int32 → Int32 → Option (Int32)) (i1 i2 : Int32) : Option (Int32) :=
  if Z_monomials ≤ i2 then (some (-1)) else
  (rdI 126 Z_mono i2 fun x_1 =>
  if x_1 = i1 then (some i2) else
  (k2 i1 (i2 + 1)))
def b_zplaceOf_2 (F : Nat) (Z_monomials : Int32) (Z_mono : Nat → Int32) (n : Nat) : Int32 → Int32 → Option (Int32) := lpF (fun _ _ => none) (s_zplaceOf_2 F Z_monomials Z_mono ) n
def m_zplaceOf (F : Nat) (Z_monomials : Int32) (Z_mono : Nat → Int32) (i1 : Int32) : Option (Int32) :=
  b_zplaceOf_2 F Z_monomials Z_mono F i1 0
def s_zinverse_38 (F : Nat) (Z_p : Int32) (k14 : Int64 → Int64 → Int32 → Option (Int32)) (l2 l4 : Int64) (i6 : Int32) : Option (Int32) :=
  nzL Z_p.toInt64 (k14 l2 (remL (l4 * l4) Z_p.toInt64) (shrI i6 1))
def s_zinverse_14 (F : Nat) (Z_p : Int32) (k14 : Int64 → Int64 → Int32 → Option (Int32)) (l2 l4 : Int64) (i6 : Int32) : Option (Int32) :=
  if i6 ≤ 0 then (some l2.toInt32) else
  (if (i6 &&& 1) = 1 then (nzL Z_p.toInt64 (s_zinverse_38 F Z_p k14 (remL (l2 * l4) Z_p.toInt64) l4 i6)) else
  (s_zinverse_38 F Z_p k14 l2 l4 i6))
def b_zinverse_14 (F : Nat) (Z_p : Int32) (n : Nat) : Int64 → Int64 → Int32 → Option (Int32) := lpF (fun _ _ _ => none) (s_zinverse_14 F Z_p ) n
def m_zinverse (F : Nat) (Z_p i1 : Int32) : Option (Int32) :=
  b_zinverse_14 F Z_p F 1 i1.toInt64 (Z_p - 2)
def s_ztakeRow_16 (F : Nat) (Z_p : Int32) (Z_row : Nat → Int32) (k16 : Int32 → Int64 → Int32 → (Nat → Int32) → Option ((Nat → Int32))) (i1 : Int32) (l2 : Int64) (i4 : Int32) (Z_work : Nat → Int32) : Option ((Nat → Int32)) :=
  if i1 < i4 then (some Z_work) else
  (rdI 126 Z_work i4 fun x_1 =>
  rdI 15876 Z_row ((126 * i1) + i4) fun x_2 =>
  nzL Z_p.toInt64 (wrI 126 Z_work i4 ((remL (x_1.toInt64 + (l2 * x_2.toInt64)) Z_p.toInt64).toInt32) fun Z_work_3 =>
  k16 i1 l2 (i4 + 1) Z_work_3))
def b_ztakeRow_16 (F : Nat) (Z_p : Int32) (Z_row : Nat → Int32) (n : Nat) : Int32 → Int64 → Int32 → (Nat → Int32) → Option ((Nat → Int32)) := lpF (fun _ _ _ _ => none) (s_ztakeRow_16 F Z_p Z_row ) n
def m_ztakeRow (F : Nat) (Z_p : Int32) (Z_row : Nat → Int32) (i1 : Int32) (Z_work : Nat → Int32) : Option ((Nat → Int32)) :=
  rdI 126 Z_work i1 fun x_1 =>
  b_ztakeRow_16 F Z_p Z_row F i1 ((Z_p - x_1).toInt64) 0 Z_work
def s_zreduce_9 (F : Nat) (Z_monomials Z_p : Int32) (Z_has Z_row : Nat → Int32) (k9 : Int32 → Int32 → (Nat → Int32) → Option (Int32 × (Nat → Int32))) (i1 i2 : Int32) (Z_work : Nat → Int32) : Option (Int32 × (Nat → Int32)) :=
  if i2 < 0 then (some (i1, Z_work)) else
  (rdI 126 Z_work i2 fun x_1 =>
  if x_1 = 0 then (k9 i1 (i2 + (-1)) Z_work) else
  (rdI 126 Z_has i2 fun x_2 =>
  if x_2 = 0 then (if 0 ≤ i1 then (k9 i1 (i2 + (-1)) Z_work) else
  (k9 i2 (i2 + (-1)) Z_work)) else
  (bd1 (m_ztakeRow F Z_p Z_row i2 Z_work) fun Z_work_3 =>
  k9 i1 (i2 + (-1)) Z_work_3)))
def b_zreduce_9 (F : Nat) (Z_monomials Z_p : Int32) (Z_has Z_row : Nat → Int32) (n : Nat) : Int32 → Int32 → (Nat → Int32) → Option (Int32 × (Nat → Int32)) := lpF (fun _ _ _ => none) (s_zreduce_9 F Z_monomials Z_p Z_has Z_row ) n
def m_zreduce (F : Nat) (Z_monomials Z_p : Int32) (Z_has Z_row Z_work : Nat → Int32) : Option (Int32 × (Nat → Int32)) :=
  b_zreduce_9 F Z_monomials Z_p Z_has Z_row F (-1) (Z_monomials - 1) Z_work
def s_zcomes_26 (F : Nat) (Z_monomials Z_p : Int32) (k26 : Int32 → Int64 → Int32 → (Nat → Int32) → (Nat → Int32) → (Nat → Int32) → Option (Int32 × (Nat → Int32) × (Nat → Int32) × (Nat → Int32))) (i1 : Int32) (l2 : Int64) (i4 : Int32) (Z_has Z_row Z_work : Nat → Int32) : Option (Int32 × (Nat → Int32) × (Nat → Int32) × (Nat → Int32)) :=
  if Z_monomials ≤ i4 then (wrI 126 Z_has i1 (vp_nar .boolean 1) fun Z_has_1 =>
  some (1, Z_has_1, Z_row, Z_work)) else
  (rdI 126 Z_work i4 fun x_2 =>
  nzL Z_p.toInt64 (wrI 15876 Z_row ((126 * i1) + i4) ((remL (x_2.toInt64 * l2) Z_p.toInt64).toInt32) fun Z_row_3 =>
  k26 i1 l2 (i4 + 1) Z_has Z_row_3 Z_work))
def b_zcomes_26 (F : Nat) (Z_monomials Z_p : Int32) (n : Nat) : Int32 → Int64 → Int32 → (Nat → Int32) → (Nat → Int32) → (Nat → Int32) → Option (Int32 × (Nat → Int32) × (Nat → Int32) × (Nat → Int32)) := lpF (fun _ _ _ _ _ _ => none) (s_zcomes_26 F Z_monomials Z_p ) n
def m_zcomes (F : Nat) (Z_monomials Z_p : Int32) (Z_has Z_row Z_work : Nat → Int32) : Option (Int32 × (Nat → Int32) × (Nat → Int32) × (Nat → Int32)) :=
  bd2 (m_zreduce F Z_monomials Z_p Z_has Z_row Z_work) fun r_1 Z_work_2 =>
  if 0 ≤ r_1 then (rdI 126 Z_work_2 r_1 fun x_4 =>
  bd1 (m_zinverse F Z_p x_4) fun r_5 =>
  b_zcomes_26 F Z_monomials Z_p F r_1 r_5.toInt64 0 Z_has Z_row Z_work_2) else
  (some (0, Z_has, Z_row, Z_work_2))
def s_zmultiplied_25 (F : Nat) (Z_monomials : Int32) (Z_mono Z_row : Nat → Int32) (k25 : Int32 → Int32 → Int32 → (Nat → Int32) → Option ((Nat → Int32))) (i1 i2 i3 : Int32) (Z_work : Nat → Int32) : Option ((Nat → Int32)) :=
  if i1 < i3 then (some Z_work) else
  (rdI 15876 Z_row ((126 * i1) + i3) fun x_1 =>
  if x_1 = 0 then (k25 i1 i2 (i3 + 1) Z_work) else
  (rdI 126 Z_mono i3 fun x_2 =>
  bd1 (m_zplaceOf F Z_monomials Z_mono (x_2 + (shlI 1 (24 - (8 * i2))))) fun r_3 =>
  rdI 15876 Z_row ((126 * i1) + i3) fun x_4 =>
  wrI 126 Z_work r_3 x_4 fun Z_work_5 =>
  k25 i1 i2 (i3 + 1) Z_work_5))
def b_zmultiplied_25 (F : Nat) (Z_monomials : Int32) (Z_mono Z_row : Nat → Int32) (n : Nat) : Int32 → Int32 → Int32 → (Nat → Int32) → Option ((Nat → Int32)) := lpF (fun _ _ _ _ => none) (s_zmultiplied_25 F Z_monomials Z_mono Z_row ) n
def s_zmultiplied_2 (F : Nat) (Z_monomials : Int32) (Z_mono Z_row : Nat → Int32) (k2 : Int32 → Int32 → Int32 → (Nat → Int32) → Option ((Nat → Int32))) (i1 i2 i3 : Int32) (Z_work : Nat → Int32) : Option ((Nat → Int32)) :=
  if Z_monomials ≤ i3 then (b_zmultiplied_25 F Z_monomials Z_mono Z_row F i1 i2 0 Z_work) else
  (wrI 126 Z_work i3 0 fun Z_work_1 =>
  k2 i1 i2 (i3 + 1) Z_work_1)
def b_zmultiplied_2 (F : Nat) (Z_monomials : Int32) (Z_mono Z_row : Nat → Int32) (n : Nat) : Int32 → Int32 → Int32 → (Nat → Int32) → Option ((Nat → Int32)) := lpF (fun _ _ _ _ => none) (s_zmultiplied_2 F Z_monomials Z_mono Z_row ) n
def m_zmultiplied (F : Nat) (Z_monomials : Int32) (Z_mono Z_row : Nat → Int32) (i1 i2 : Int32) (Z_work : Nat → Int32) : Option ((Nat → Int32)) :=
  b_zmultiplied_2 F Z_monomials Z_mono Z_row F i1 i2 0 Z_work
def s_zdegreeOfGenerator_4 (F : Nat) (Z_monomials : Int32) (Z_degree Z_generator : Nat → Int32) (k4 : Int32 → Int32 → Int32 → Option (Int32)) (i1 i2 i3 : Int32) : Option (Int32) :=
  if Z_monomials ≤ i3 then (some i2) else
  (rdI 1008 Z_generator ((126 * i1) + i3) fun x_1 =>
  if x_1 = 0 then (k4 i1 i2 (i3 + 1)) else
  (rdI 126 Z_degree i3 fun x_2 =>
  k4 i1 x_2 (i3 + 1)))
def b_zdegreeOfGenerator_4 (F : Nat) (Z_monomials : Int32) (Z_degree Z_generator : Nat → Int32) (n : Nat) : Int32 → Int32 → Int32 → Option (Int32) := lpF (fun _ _ _ => none) (s_zdegreeOfGenerator_4 F Z_monomials Z_degree Z_generator ) n
def m_zdegreeOfGenerator (F : Nat) (Z_monomials : Int32) (Z_degree Z_generator : Nat → Int32) (i1 : Int32) : Option (Int32) :=
  b_zdegreeOfGenerator_4 F Z_monomials Z_degree Z_generator F i1 (-1) 0
def s_zclean_49 (F : Nat) (Z_monomials Z_p : Int32) (Z_has : Nat → Int32) (k49 : Int32 → Int32 → (Nat → Int32) → (Nat → Int32) → Option ((Nat → Int32) × (Nat → Int32))) (i1 i2 : Int32) (Z_row Z_work : Nat → Int32) : Option ((Nat → Int32) × (Nat → Int32)) :=
  if i1 ≤ i2 then (some (Z_row, Z_work)) else
  (rdI 126 Z_work i2 fun x_1 =>
  wrI 15876 Z_row ((126 * i1) + i2) x_1 fun Z_row_2 =>
  k49 i1 (i2 + 1) Z_row_2 Z_work)
def b_zclean_49 (F : Nat) (Z_monomials Z_p : Int32) (Z_has : Nat → Int32) (n : Nat) : Int32 → Int32 → (Nat → Int32) → (Nat → Int32) → Option ((Nat → Int32) × (Nat → Int32)) := lpF (fun _ _ _ _ => none) (s_zclean_49 F Z_monomials Z_p Z_has ) n
def s_zclean_35 (F : Nat) (Z_monomials Z_p : Int32) (Z_has : Nat → Int32) (k2 : Int32 → Int32 → (Nat → Int32) → (Nat → Int32) → Option ((Nat → Int32) × (Nat → Int32))) (i1 i2 t1 t2 : Int32) (Z_row Z_work : Nat → Int32) : Option ((Nat → Int32) × (Nat → Int32)) :=
  wrI 126 Z_work t1 t2 fun Z_work_1 =>
  k2 i1 (i2 + 1) Z_row Z_work_1
def s_zclean_2 (F : Nat) (Z_monomials Z_p : Int32) (Z_has : Nat → Int32) (k2 : Int32 → Int32 → (Nat → Int32) → (Nat → Int32) → Option ((Nat → Int32) × (Nat → Int32))) (i1 i2 : Int32) (Z_row Z_work : Nat → Int32) : Option ((Nat → Int32) × (Nat → Int32)) :=
  if Z_monomials ≤ i2 then (bd2 (m_zreduce F Z_monomials Z_p Z_has Z_row Z_work) fun r_1 Z_work_2 =>
  b_zclean_49 F Z_monomials Z_p Z_has F i1 0 Z_row Z_work_2) else
  (if i1 ≤ i2 then (s_zclean_35 F Z_monomials Z_p Z_has k2 i1 i2 i2 0 Z_row Z_work) else
  (rdI 15876 Z_row ((126 * i1) + i2) fun x_4 =>
  s_zclean_35 F Z_monomials Z_p Z_has k2 i1 i2 i2 x_4 Z_row Z_work))
def b_zclean_2 (F : Nat) (Z_monomials Z_p : Int32) (Z_has : Nat → Int32) (n : Nat) : Int32 → Int32 → (Nat → Int32) → (Nat → Int32) → Option ((Nat → Int32) × (Nat → Int32)) := lpF (fun _ _ _ _ => none) (s_zclean_2 F Z_monomials Z_p Z_has ) n
def m_zclean (F : Nat) (Z_monomials Z_p : Int32) (Z_has : Nat → Int32) (i1 : Int32) (Z_row Z_work : Nat → Int32) : Option ((Nat → Int32) × (Nat → Int32)) :=
  b_zclean_2 F Z_monomials Z_p Z_has F i1 0 Z_row Z_work
def s_zfindSpace_166 (F : Nat) (Z_generators Z_monomials Z_n Z_p : Int32) (Z_mono Z_degree Z_generator : Nat → Int32) (k166 : Int32 → (Nat → Int32) → (Nat → Int32) → (Nat → Int32) → Option ((Nat → Int32) × (Nat → Int32) × (Nat → Int32))) (i3 : Int32) (Z_has Z_row Z_work : Nat → Int32) : Option ((Nat → Int32) × (Nat → Int32) × (Nat → Int32)) :=
  if Z_monomials ≤ i3 then (some (Z_has, Z_row, Z_work)) else
  (rdI 126 Z_has i3 fun x_1 =>
  if x_1 = 0 then (k166 (i3 + 1) Z_has Z_row Z_work) else
  (bd2 (m_zclean F Z_monomials Z_p Z_has i3 Z_row Z_work) fun Z_row_2 Z_work_3 =>
  k166 (i3 + 1) Z_has Z_row_2 Z_work_3))
def b_zfindSpace_166 (F : Nat) (Z_generators Z_monomials Z_n Z_p : Int32) (Z_mono Z_degree Z_generator : Nat → Int32) (n : Nat) : Int32 → (Nat → Int32) → (Nat → Int32) → (Nat → Int32) → Option ((Nat → Int32) × (Nat → Int32) × (Nat → Int32)) := lpF (fun _ _ _ _ => none) (s_zfindSpace_166 F Z_generators Z_monomials Z_n Z_p Z_mono Z_degree Z_generator ) n
def s_zfindSpace_105 (F : Nat) (Z_generators Z_monomials Z_n Z_p : Int32) (Z_mono Z_degree Z_generator : Nat → Int32) (k86 : Int32 → Int32 → (Nat → Int32) → (Nat → Int32) → (Nat → Int32) → Option ((Nat → Int32) × (Nat → Int32) × (Nat → Int32))) (k94 : Int32 → Int32 → Int32 → (Nat → Int32) → (Nat → Int32) → (Nat → Int32) → Option ((Nat → Int32) × (Nat → Int32) × (Nat → Int32))) (k105 : Int32 → Int32 → Int32 → Int32 → (Nat → Int32) → (Nat → Int32) → (Nat → Int32) → Option ((Nat → Int32) × (Nat → Int32) × (Nat → Int32))) (i1 i2 i3 i4 : Int32) (Z_has Z_row Z_work : Nat → Int32) : Option ((Nat → Int32) × (Nat → Int32) × (Nat → Int32)) :=
  if Z_n ≤ i4 then (k94 i1 i2 (i3 + 1) Z_has Z_row Z_work) else
  (rdI 126 Z_has i3 fun x_1 =>
  if x_1 = 0 then (k94 i1 i2 (i3 + 1) Z_has Z_row Z_work) else
  (rdI 126 Z_degree i3 fun x_2 =>
  if i1 ≤ x_2 then (k94 i1 i2 (i3 + 1) Z_has Z_row Z_work) else
  (bd1 (m_zmultiplied F Z_monomials Z_mono Z_row i3 i4 Z_work) fun Z_work_3 =>
  bd4 (m_zcomes F Z_monomials Z_p Z_has Z_row Z_work_3) fun r_5 Z_has_6 Z_row_7 Z_work_8 =>
  if r_5 = 0 then (k105 i1 i2 i3 (i4 + 1) Z_has_6 Z_row_7 Z_work_8) else
  (k105 i1 1 i3 (i4 + 1) Z_has_6 Z_row_7 Z_work_8))))
def b_zfindSpace_105 (F : Nat) (Z_generators Z_monomials Z_n Z_p : Int32) (Z_mono Z_degree Z_generator : Nat → Int32) (k86 : Int32 → Int32 → (Nat → Int32) → (Nat → Int32) → (Nat → Int32) → Option ((Nat → Int32) × (Nat → Int32) × (Nat → Int32))) (k94 : Int32 → Int32 → Int32 → (Nat → Int32) → (Nat → Int32) → (Nat → Int32) → Option ((Nat → Int32) × (Nat → Int32) × (Nat → Int32))) (n : Nat) : Int32 → Int32 → Int32 → Int32 → (Nat → Int32) → (Nat → Int32) → (Nat → Int32) → Option ((Nat → Int32) × (Nat → Int32) × (Nat → Int32)) := lpF (fun _ _ _ _ _ _ _ => none) (s_zfindSpace_105 F Z_generators Z_monomials Z_n Z_p Z_mono Z_degree Z_generator k86 k94) n
def s_zfindSpace_94 (F : Nat) (Z_generators Z_monomials Z_n Z_p : Int32) (Z_mono Z_degree Z_generator : Nat → Int32) (k86 : Int32 → Int32 → (Nat → Int32) → (Nat → Int32) → (Nat → Int32) → Option ((Nat → Int32) × (Nat → Int32) × (Nat → Int32))) (k94 : Int32 → Int32 → Int32 → (Nat → Int32) → (Nat → Int32) → (Nat → Int32) → Option ((Nat → Int32) × (Nat → Int32) × (Nat → Int32))) (i1 i2 i3 : Int32) (Z_has Z_row Z_work : Nat → Int32) : Option ((Nat → Int32) × (Nat → Int32) × (Nat → Int32)) :=
  if Z_monomials ≤ i3 then (k86 i1 i2 Z_has Z_row Z_work) else
  (b_zfindSpace_105 F Z_generators Z_monomials Z_n Z_p Z_mono Z_degree Z_generator k86 k94 F i1 i2 i3 0 Z_has Z_row Z_work)
def b_zfindSpace_94 (F : Nat) (Z_generators Z_monomials Z_n Z_p : Int32) (Z_mono Z_degree Z_generator : Nat → Int32) (k86 : Int32 → Int32 → (Nat → Int32) → (Nat → Int32) → (Nat → Int32) → Option ((Nat → Int32) × (Nat → Int32) × (Nat → Int32))) (n : Nat) : Int32 → Int32 → Int32 → (Nat → Int32) → (Nat → Int32) → (Nat → Int32) → Option ((Nat → Int32) × (Nat → Int32) × (Nat → Int32)) := lpF (fun _ _ _ _ _ _ => none) (s_zfindSpace_94 F Z_generators Z_monomials Z_n Z_p Z_mono Z_degree Z_generator k86) n
def s_zfindSpace_86 (F : Nat) (Z_generators Z_monomials Z_n Z_p : Int32) (Z_mono Z_degree Z_generator : Nat → Int32) (k86 : Int32 → Int32 → (Nat → Int32) → (Nat → Int32) → (Nat → Int32) → Option ((Nat → Int32) × (Nat → Int32) × (Nat → Int32))) (i1 i2 : Int32) (Z_has Z_row Z_work : Nat → Int32) : Option ((Nat → Int32) × (Nat → Int32) × (Nat → Int32)) :=
  if i2 = 0 then (b_zfindSpace_166 F Z_generators Z_monomials Z_n Z_p Z_mono Z_degree Z_generator F 0 Z_has Z_row Z_work) else
  (b_zfindSpace_94 F Z_generators Z_monomials Z_n Z_p Z_mono Z_degree Z_generator k86 F i1 0 0 Z_has Z_row Z_work)
def b_zfindSpace_86 (F : Nat) (Z_generators Z_monomials Z_n Z_p : Int32) (Z_mono Z_degree Z_generator : Nat → Int32) (n : Nat) : Int32 → Int32 → (Nat → Int32) → (Nat → Int32) → (Nat → Int32) → Option ((Nat → Int32) × (Nat → Int32) × (Nat → Int32)) := lpF (fun _ _ _ _ _ => none) (s_zfindSpace_86 F Z_generators Z_monomials Z_n Z_p Z_mono Z_degree Z_generator ) n
def s_zfindSpace_42 (F : Nat) (Z_generators Z_monomials Z_n Z_p : Int32) (Z_mono Z_degree Z_generator : Nat → Int32) (k23 : Int32 → Int32 → (Nat → Int32) → (Nat → Int32) → (Nat → Int32) → Option ((Nat → Int32) × (Nat → Int32) × (Nat → Int32))) (k42 : Int32 → Int32 → Int32 → (Nat → Int32) → (Nat → Int32) → (Nat → Int32) → Option ((Nat → Int32) × (Nat → Int32) × (Nat → Int32))) (i1 i2 i3 : Int32) (Z_has Z_row Z_work : Nat → Int32) : Option ((Nat → Int32) × (Nat → Int32) × (Nat → Int32)) :=
  if Z_monomials ≤ i3 then (bd4 (m_zcomes F Z_monomials Z_p Z_has Z_row Z_work) fun r_1 Z_has_2 Z_row_3 Z_work_4 =>
  k23 i1 (i2 + 1) Z_has_2 Z_row_3 Z_work_4) else
  (rdI 1008 Z_generator ((126 * i2) + i3) fun x_6 =>
  wrI 126 Z_work i3 x_6 fun Z_work_7 =>
  k42 i1 i2 (i3 + 1) Z_has Z_row Z_work_7)
def b_zfindSpace_42 (F : Nat) (Z_generators Z_monomials Z_n Z_p : Int32) (Z_mono Z_degree Z_generator : Nat → Int32) (k23 : Int32 → Int32 → (Nat → Int32) → (Nat → Int32) → (Nat → Int32) → Option ((Nat → Int32) × (Nat → Int32) × (Nat → Int32))) (n : Nat) : Int32 → Int32 → Int32 → (Nat → Int32) → (Nat → Int32) → (Nat → Int32) → Option ((Nat → Int32) × (Nat → Int32) × (Nat → Int32)) := lpF (fun _ _ _ _ _ _ => none) (s_zfindSpace_42 F Z_generators Z_monomials Z_n Z_p Z_mono Z_degree Z_generator k23) n
def s_zfindSpace_23 (F : Nat) (Z_generators Z_monomials Z_n Z_p : Int32) (Z_mono Z_degree Z_generator : Nat → Int32) (k23 : Int32 → Int32 → (Nat → Int32) → (Nat → Int32) → (Nat → Int32) → Option ((Nat → Int32) × (Nat → Int32) × (Nat → Int32))) (i1 i2 : Int32) (Z_has Z_row Z_work : Nat → Int32) : Option ((Nat → Int32) × (Nat → Int32) × (Nat → Int32)) :=
  if Z_generators ≤ i2 then (b_zfindSpace_86 F Z_generators Z_monomials Z_n Z_p Z_mono Z_degree Z_generator F i1 1 Z_has Z_row Z_work) else
  (bd1 (m_zdegreeOfGenerator F Z_monomials Z_degree Z_generator i2) fun r_1 =>
  if i1 < r_1 then (k23 i1 (i2 + 1) Z_has Z_row Z_work) else
  (b_zfindSpace_42 F Z_generators Z_monomials Z_n Z_p Z_mono Z_degree Z_generator k23 F i1 i2 0 Z_has Z_row Z_work))
def b_zfindSpace_23 (F : Nat) (Z_generators Z_monomials Z_n Z_p : Int32) (Z_mono Z_degree Z_generator : Nat → Int32) (n : Nat) : Int32 → Int32 → (Nat → Int32) → (Nat → Int32) → (Nat → Int32) → Option ((Nat → Int32) × (Nat → Int32) × (Nat → Int32)) := lpF (fun _ _ _ _ _ => none) (s_zfindSpace_23 F Z_generators Z_monomials Z_n Z_p Z_mono Z_degree Z_generator ) n
def s_zfindSpace_2 (F : Nat) (Z_generators Z_monomials Z_n Z_p : Int32) (Z_mono Z_degree Z_generator : Nat → Int32) (k2 : Int32 → Int32 → (Nat → Int32) → (Nat → Int32) → (Nat → Int32) → Option ((Nat → Int32) × (Nat → Int32) × (Nat → Int32))) (i1 i2 : Int32) (Z_has Z_row Z_work : Nat → Int32) : Option ((Nat → Int32) × (Nat → Int32) × (Nat → Int32)) :=
  if 126 ≤ i2 then (b_zfindSpace_23 F Z_generators Z_monomials Z_n Z_p Z_mono Z_degree Z_generator F i1 0 Z_has Z_row Z_work) else
  (wrI 126 Z_has i2 (vp_nar .boolean 0) fun Z_has_1 =>
  k2 i1 (i2 + 1) Z_has_1 Z_row Z_work)
def b_zfindSpace_2 (F : Nat) (Z_generators Z_monomials Z_n Z_p : Int32) (Z_mono Z_degree Z_generator : Nat → Int32) (n : Nat) : Int32 → Int32 → (Nat → Int32) → (Nat → Int32) → (Nat → Int32) → Option ((Nat → Int32) × (Nat → Int32) × (Nat → Int32)) := lpF (fun _ _ _ _ _ => none) (s_zfindSpace_2 F Z_generators Z_monomials Z_n Z_p Z_mono Z_degree Z_generator ) n
def m_zfindSpace (F : Nat) (Z_generators Z_monomials Z_n Z_p : Int32) (Z_mono Z_degree Z_generator : Nat → Int32) (i1 : Int32) (Z_has Z_row Z_work : Nat → Int32) : Option ((Nat → Int32) × (Nat → Int32) × (Nat → Int32)) :=
  b_zfindSpace_2 F Z_generators Z_monomials Z_n Z_p Z_mono Z_degree Z_generator F i1 0 Z_has Z_row Z_work
def s_zcomplete_112 (F : Nat) (Z_generators Z_members Z_monomials Z_upTo : Int32) (Z_mono Z_degree Z_generator Z_basis : Nat → Int32) (k32 : Int32 → Option (Int32)) (k42 : Int32 → Int32 → Option (Int32)) (k55 : Int32 → Int32 → Int32 → Int32 → Int32 → Option (Int32)) (i1 i2 i4 i5 i6 i7 t0 t1 : Int32) : Option (Int32) :=
  k55 i1 i2 (t0 + t1) (i4 + (i6 + i7)) (i5 + 1)
def s_zcomplete_55 (F : Nat) (Z_generators Z_members Z_monomials Z_upTo : Int32) (Z_mono Z_degree Z_generator Z_basis : Nat → Int32) (k32 : Int32 → Option (Int32)) (k42 : Int32 → Int32 → Option (Int32)) (k55 : Int32 → Int32 → Int32 → Int32 → Int32 → Option (Int32)) (i1 i2 i3 i4 i5 : Int32) : Option (Int32) :=
  if 4 ≤ i5 then (if i3 ≤ Z_upTo then (k42 i1 (i2 + 1)) else
  (if i3 = i4 then (k42 i1 (i2 + 1)) else
  (some 0))) else
  (rdI 126 Z_basis i1 fun x_1 =>
  rdI 126 Z_mono x_1 fun x_2 =>
  bd1 (m_zexponent F x_2 i5) fun r_3 =>
  rdI 126 Z_basis i2 fun x_4 =>
  rdI 126 Z_mono x_4 fun x_5 =>
  bd1 (m_zexponent F x_5 i5) fun r_6 =>
  if r_3 ≤ r_6 then (s_zcomplete_112 F Z_generators Z_members Z_monomials Z_upTo Z_mono Z_degree Z_generator Z_basis k32 k42 k55 i1 i2 i4 i5 r_3 r_6 i3 r_6) else
  (s_zcomplete_112 F Z_generators Z_members Z_monomials Z_upTo Z_mono Z_degree Z_generator Z_basis k32 k42 k55 i1 i2 i4 i5 r_3 r_6 i3 r_3))
def b_zcomplete_55 (F : Nat) (Z_generators Z_members Z_monomials Z_upTo : Int32) (Z_mono Z_degree Z_generator Z_basis : Nat → Int32) (k32 : Int32 → Option (Int32)) (k42 : Int32 → Int32 → Option (Int32)) (n : Nat) : Int32 → Int32 → Int32 → Int32 → Int32 → Option (Int32) := lpF (fun _ _ _ _ _ => none) (s_zcomplete_55 F Z_generators Z_members Z_monomials Z_upTo Z_mono Z_degree Z_generator Z_basis k32 k42) n
def s_zcomplete_42 (F : Nat) (Z_generators Z_members Z_monomials Z_upTo : Int32) (Z_mono Z_degree Z_generator Z_basis : Nat → Int32) (k32 : Int32 → Option (Int32)) (k42 : Int32 → Int32 → Option (Int32)) (i1 i2 : Int32) : Option (Int32) :=
  if i1 ≤ i2 then (k32 (i1 + 1)) else
  (b_zcomplete_55 F Z_generators Z_members Z_monomials Z_upTo Z_mono Z_degree Z_generator Z_basis k32 k42 F i1 i2 0 0 0)
def b_zcomplete_42 (F : Nat) (Z_generators Z_members Z_monomials Z_upTo : Int32) (Z_mono Z_degree Z_generator Z_basis : Nat → Int32) (k32 : Int32 → Option (Int32)) (n : Nat) : Int32 → Int32 → Option (Int32) := lpF (fun _ _ => none) (s_zcomplete_42 F Z_generators Z_members Z_monomials Z_upTo Z_mono Z_degree Z_generator Z_basis k32) n
def s_zcomplete_32 (F : Nat) (Z_generators Z_members Z_monomials Z_upTo : Int32) (Z_mono Z_degree Z_generator Z_basis : Nat → Int32) (k32 : Int32 → Option (Int32)) (i1 : Int32) : Option (Int32) :=
  if Z_members ≤ i1 then (some 1) else
  (b_zcomplete_42 F Z_generators Z_members Z_monomials Z_upTo Z_mono Z_degree Z_generator Z_basis k32 F i1 0)
def b_zcomplete_32 (F : Nat) (Z_generators Z_members Z_monomials Z_upTo : Int32) (Z_mono Z_degree Z_generator Z_basis : Nat → Int32) (n : Nat) : Int32 → Option (Int32) := lpF (fun _ => none) (s_zcomplete_32 F Z_generators Z_members Z_monomials Z_upTo Z_mono Z_degree Z_generator Z_basis ) n
def s_zcomplete_2 (F : Nat) (Z_generators Z_members Z_monomials Z_upTo : Int32) (Z_mono Z_degree Z_generator Z_basis : Nat → Int32) (k2 : Int32 → Option (Int32)) (i1 : Int32) : Option (Int32) :=
  if Z_generators ≤ i1 then (b_zcomplete_32 F Z_generators Z_members Z_monomials Z_upTo Z_mono Z_degree Z_generator Z_basis F 0) else
  (bd1 (m_zdegreeOfGenerator F Z_monomials Z_degree Z_generator i1) fun r_1 =>
  if r_1 ≤ Z_upTo then (k2 (i1 + 1)) else
  (some 0))
def b_zcomplete_2 (F : Nat) (Z_generators Z_members Z_monomials Z_upTo : Int32) (Z_mono Z_degree Z_generator Z_basis : Nat → Int32) (n : Nat) : Int32 → Option (Int32) := lpF (fun _ => none) (s_zcomplete_2 F Z_generators Z_members Z_monomials Z_upTo Z_mono Z_degree Z_generator Z_basis ) n
def m_zcomplete (F : Nat) (Z_generators Z_members Z_monomials Z_upTo : Int32) (Z_mono Z_degree Z_generator Z_basis : Nat → Int32) : Option (Int32) :=
  b_zcomplete_2 F Z_generators Z_members Z_monomials Z_upTo Z_mono Z_degree Z_generator Z_basis F 0
def m_zthrown (F : Nat) (Z_thrownCode : Int32) : Option (Int32) :=
  some Z_thrownCode
def s_zfield_32 (F : Nat)  (i1 i2 i3 t1 Z_generators Z_monomials Z_n Z_order Z_p Z_thrownCode : Int32) (Z_mono Z_degree Z_hand : Nat → Int32) : Option (Int32 × Int32 × Int32 × Int32 × Int32 × Int32 × (Nat → Int32) × (Nat → Int32) × (Nat → Int32)) :=
  if t1 = 0 then (bd8 (m_zfresh F i1 i2 i3 Z_generators Z_monomials Z_n Z_order Z_p Z_mono Z_degree Z_hand) fun Z_generators_1 Z_monomials_2 Z_n_3 Z_order_4 Z_p_5 Z_mono_6 Z_degree_7 Z_hand_8 =>
  some (Z_generators_1, Z_monomials_2, Z_n_3, Z_order_4, Z_p_5, t1, Z_mono_6, Z_degree_7, Z_hand_8)) else
  (some (Z_generators, Z_monomials, Z_n, Z_order, Z_p, t1, Z_mono, Z_degree, Z_hand))
def s_zfield_27 (F : Nat)  (i1 i2 i3 Z_generators Z_monomials Z_n Z_order Z_p Z_thrownCode : Int32) (Z_mono Z_degree Z_hand : Nat → Int32) : Option (Int32 × Int32 × Int32 × Int32 × Int32 × Int32 × (Nat → Int32) × (Nat → Int32) × (Nat → Int32)) :=
  s_zfield_32 F i1 i2 i3 1 Z_generators Z_monomials Z_n Z_order Z_p Z_thrownCode Z_mono Z_degree Z_hand
def m_zfield (F : Nat) (i1 i2 i3 Z_generators Z_monomials Z_n Z_order Z_p Z_thrownCode : Int32) (Z_mono Z_degree Z_hand : Nat → Int32) : Option (Int32 × Int32 × Int32 × Int32 × Int32 × Int32 × (Nat → Int32) × (Nat → Int32) × (Nat → Int32)) :=
  bd1 (m_zprime F i1) fun r_1 =>
  if r_1 = 0 then (s_zfield_27 F i1 i2 i3 Z_generators Z_monomials Z_n Z_order Z_p Z_thrownCode Z_mono Z_degree Z_hand) else
  (if i2 < 1 then (s_zfield_27 F i1 i2 i3 Z_generators Z_monomials Z_n Z_order Z_p Z_thrownCode Z_mono Z_degree Z_hand) else
  (if 4 < i2 then (s_zfield_27 F i1 i2 i3 Z_generators Z_monomials Z_n Z_order Z_p Z_thrownCode Z_mono Z_degree Z_hand) else
  (if i3 < 0 then (s_zfield_27 F i1 i2 i3 Z_generators Z_monomials Z_n Z_order Z_p Z_thrownCode Z_mono Z_degree Z_hand) else
  (if i3 ≤ 1 then (s_zfield_32 F i1 i2 i3 0 Z_generators Z_monomials Z_n Z_order Z_p Z_thrownCode Z_mono Z_degree Z_hand) else
  (s_zfield_27 F i1 i2 i3 Z_generators Z_monomials Z_n Z_order Z_p Z_thrownCode Z_mono Z_degree Z_hand)))))
def s_zcoefficient_16 (F : Nat) (Z_monomials Z_p : Int32) (Z_mono : Nat → Int32)  (i2 i3 t1 Z_thrownCode : Int32) (Z_hand : Nat → Int32) : Option (Int32 × (Nat → Int32)) :=
  if t1 = 0 then (nzI Z_p (nzI Z_p (wrI 126 Z_hand i3 (remI ((remI i2 Z_p) + Z_p) Z_p) fun Z_hand_1 =>
  some (t1, Z_hand_1)))) else
  (some (t1, Z_hand))
def m_zcoefficient (F : Nat) (Z_monomials Z_p : Int32) (Z_mono : Nat → Int32) (i1 i2 Z_thrownCode : Int32) (Z_hand : Nat → Int32) : Option (Int32 × (Nat → Int32)) :=
  bd1 (m_zplaceOf F Z_monomials Z_mono i1) fun r_1 =>
  if 0 ≤ r_1 then (s_zcoefficient_16 F Z_monomials Z_p Z_mono i2 r_1 0 Z_thrownCode Z_hand) else
  (s_zcoefficient_16 F Z_monomials Z_p Z_mono i2 r_1 1 Z_thrownCode Z_hand)
def m_zhand (F : Nat) (Z_monomials : Int32) (Z_mono Z_hand : Nat → Int32) (i1 Z_thrownCode : Int32) : Option (Int32 × Int32) :=
  bd1 (m_zplaceOf F Z_monomials Z_mono i1) fun r_1 =>
  if 0 ≤ r_1 then (rdI 126 Z_hand r_1 fun x_2 =>
  some (x_2, 0)) else
  (some (0, 0))
def s_zjoin_95 (F : Nat) (Z_monomials : Int32) (k95 : Int32 → Int32 → Int32 → (Nat → Int32) → (Nat → Int32) → Option (Int32 × Int32 × Int32 × (Nat → Int32) × (Nat → Int32))) (i2 Z_generators Z_thrownCode : Int32) (Z_generator Z_hand : Nat → Int32) : Option (Int32 × Int32 × Int32 × (Nat → Int32) × (Nat → Int32)) :=
  if Z_monomials ≤ i2 then (some ((Z_generators + 1), (Z_generators + 1), Z_thrownCode, Z_generator, Z_hand)) else
  (rdI 126 Z_hand i2 fun x_1 =>
  wrI 1008 Z_generator ((126 * Z_generators) + i2) x_1 fun Z_generator_2 =>
  wrI 126 Z_hand i2 0 fun Z_hand_3 =>
  k95 (i2 + 1) Z_generators Z_thrownCode Z_generator_2 Z_hand_3)
def b_zjoin_95 (F : Nat) (Z_monomials : Int32) (n : Nat) : Int32 → Int32 → Int32 → (Nat → Int32) → (Nat → Int32) → Option (Int32 × Int32 × Int32 × (Nat → Int32) × (Nat → Int32)) := lpF (fun _ _ _ _ _ => none) (s_zjoin_95 F Z_monomials ) n
def s_zjoin_66 (F : Nat) (Z_monomials : Int32) (k66 : Int32 → Int32 → Int32 → (Nat → Int32) → (Nat → Int32) → Option (Int32 × Int32 × Int32 × (Nat → Int32) × (Nat → Int32))) (i2 Z_generators Z_thrownCode : Int32) (Z_generator Z_hand : Nat → Int32) : Option (Int32 × Int32 × Int32 × (Nat → Int32) × (Nat → Int32)) :=
  if 126 ≤ i2 then (b_zjoin_95 F Z_monomials F 0 Z_generators Z_thrownCode Z_generator Z_hand) else
  (wrI 1008 Z_generator ((126 * Z_generators) + i2) 0 fun Z_generator_1 =>
  k66 (i2 + 1) Z_generators Z_thrownCode Z_generator_1 Z_hand)
def b_zjoin_66 (F : Nat) (Z_monomials : Int32) (n : Nat) : Int32 → Int32 → Int32 → (Nat → Int32) → (Nat → Int32) → Option (Int32 × Int32 × Int32 × (Nat → Int32) × (Nat → Int32)) := lpF (fun _ _ _ _ _ => none) (s_zjoin_66 F Z_monomials ) n
def s_zjoin_52 (F : Nat) (Z_monomials : Int32)  (t1 Z_generators Z_thrownCode : Int32) (Z_generator Z_hand : Nat → Int32) : Option (Int32 × Int32 × Int32 × (Nat → Int32) × (Nat → Int32)) :=
  if t1 = 0 then (b_zjoin_66 F Z_monomials F 0 Z_generators t1 Z_generator Z_hand) else
  (some (0, Z_generators, t1, Z_generator, Z_hand))
def s_zjoin_4 (F : Nat) (Z_monomials : Int32) (k4 : Int32 → Int32 → Int32 → Int32 → (Nat → Int32) → (Nat → Int32) → Option (Int32 × Int32 × Int32 × (Nat → Int32) × (Nat → Int32))) (i1 i2 Z_generators Z_thrownCode : Int32) (Z_generator Z_hand : Nat → Int32) : Option (Int32 × Int32 × Int32 × (Nat → Int32) × (Nat → Int32)) :=
  if Z_monomials ≤ i2 then (if i1 = 0 then (s_zjoin_52 F Z_monomials 1 Z_generators Z_thrownCode Z_generator Z_hand) else
  (if Z_generators = 8 then (s_zjoin_52 F Z_monomials 2 Z_generators Z_thrownCode Z_generator Z_hand) else
  (s_zjoin_52 F Z_monomials 0 Z_generators Z_thrownCode Z_generator Z_hand))) else
  (rdI 126 Z_hand i2 fun x_1 =>
  if x_1 = 0 then (k4 i1 (i2 + 1) Z_generators Z_thrownCode Z_generator Z_hand) else
  (k4 1 (i2 + 1) Z_generators Z_thrownCode Z_generator Z_hand))
def b_zjoin_4 (F : Nat) (Z_monomials : Int32) (n : Nat) : Int32 → Int32 → Int32 → Int32 → (Nat → Int32) → (Nat → Int32) → Option (Int32 × Int32 × Int32 × (Nat → Int32) × (Nat → Int32)) := lpF (fun _ _ _ _ _ _ => none) (s_zjoin_4 F Z_monomials ) n
def m_zjoin (F : Nat) (Z_monomials Z_generators Z_thrownCode : Int32) (Z_generator Z_hand : Nat → Int32) : Option (Int32 × Int32 × Int32 × (Nat → Int32) × (Nat → Int32)) :=
  b_zjoin_4 F Z_monomials F 0 0 Z_generators Z_thrownCode Z_generator Z_hand
def s_zclear_12 (F : Nat) (k12 : Int32 → Int32 → Int32 → (Nat → Int32) → Option (Int32 × Int32 × (Nat → Int32))) (i1 Z_generators Z_thrownCode : Int32) (Z_hand : Nat → Int32) : Option (Int32 × Int32 × (Nat → Int32)) :=
  if 126 ≤ i1 then (some (Z_generators, Z_thrownCode, Z_hand)) else
  (wrI 126 Z_hand i1 0 fun Z_hand_1 =>
  k12 (i1 + 1) Z_generators Z_thrownCode Z_hand_1)
def b_zclear_12 (F : Nat) (n : Nat) : Int32 → Int32 → Int32 → (Nat → Int32) → Option (Int32 × Int32 × (Nat → Int32)) := lpF (fun _ _ _ _ => none) (s_zclear_12 F ) n
def m_zclear (F : Nat) (Z_generators Z_thrownCode : Int32) (Z_hand : Nat → Int32) : Option (Int32 × Int32 × (Nat → Int32)) :=
  b_zclear_12 F F 0 0 0 Z_hand
def s_zleading_2 (F : Nat) (Z_members : Int32) (Z_mono Z_basis : Nat → Int32) (k2 : Int32 → Int32 → Option (Int32)) (i1 i2 : Int32) : Option (Int32) :=
  if Z_members ≤ i2 then (some 0) else
  (rdI 126 Z_basis i2 fun x_1 =>
  rdI 126 Z_mono x_1 fun x_2 =>
  bd1 (m_zdivides F x_2 i1) fun r_3 =>
  if r_3 = 0 then (k2 i1 (i2 + 1)) else
  (some 1))
def b_zleading_2 (F : Nat) (Z_members : Int32) (Z_mono Z_basis : Nat → Int32) (n : Nat) : Int32 → Int32 → Option (Int32) := lpF (fun _ _ => none) (s_zleading_2 F Z_members Z_mono Z_basis ) n
def m_zleading (F : Nat) (Z_members : Int32) (Z_mono Z_basis : Nat → Int32) (i1 : Int32) : Option (Int32) :=
  b_zleading_2 F Z_members Z_mono Z_basis F i1 0
def s_zrestOf_2 (F : Nat) (Z_lefts : Int32) (Z_rest : Nat → Int32) (k2 : Int32 → Int32 → Option (Int32)) (i1 i2 : Int32) : Option (Int32) :=
  if Z_lefts ≤ i2 then (some (-1)) else
  (rdI 41 Z_rest i2 fun x_1 =>
  if x_1 = i1 then (some i2) else
  (k2 i1 (i2 + 1)))
def b_zrestOf_2 (F : Nat) (Z_lefts : Int32) (Z_rest : Nat → Int32) (n : Nat) : Int32 → Int32 → Option (Int32) := lpF (fun _ _ => none) (s_zrestOf_2 F Z_lefts Z_rest ) n
def m_zrestOf (F : Nat) (Z_lefts : Int32) (Z_rest : Nat → Int32) (i1 : Int32) : Option (Int32) :=
  b_zrestOf_2 F Z_lefts Z_rest F i1 0
def s_zfindRest_178 (F : Nat) (Z_members Z_n Z_order : Int32) (Z_mono Z_basis : Nat → Int32) (k90 : Int32 → Int32 → Int32 → (Nat → Int32) → Option (Int32 × Int32 × (Nat → Int32))) (k178 : Int32 → Int32 → Int32 → Int32 → Int32 → (Nat → Int32) → Option (Int32 × Int32 × (Nat → Int32))) (i1 i2 i4 i5 Z_lefts : Int32) (Z_rest : Nat → Int32) : Option (Int32 × Int32 × (Nat → Int32)) :=
  if i5 = 0 then (k90 i1 i2 Z_lefts Z_rest) else
  (bd1 (m_zleading F Z_members Z_mono Z_basis (i1 + (shlI 1 (24 - (8 * i4))))) fun r_1 =>
  if r_1 = 0 then (k178 (i1 + (shlI 1 (24 - (8 * i4)))) i2 i4 r_1 Z_lefts Z_rest) else
  (bd1 (m_zexponent F (i1 + (shlI 1 (24 - (8 * i4)))) i4) fun r_2 =>
  if 0 ≤ (i4 + (-1)) then (k178 ((i1 + (shlI 1 (24 - (8 * i4)))) - (shlI r_2 (24 - (8 * i4)))) i2 (i4 + (-1)) r_1 Z_lefts Z_rest) else
  (some (1, Z_lefts, Z_rest))))
def b_zfindRest_178 (F : Nat) (Z_members Z_n Z_order : Int32) (Z_mono Z_basis : Nat → Int32) (k90 : Int32 → Int32 → Int32 → (Nat → Int32) → Option (Int32 × Int32 × (Nat → Int32))) (n : Nat) : Int32 → Int32 → Int32 → Int32 → Int32 → (Nat → Int32) → Option (Int32 × Int32 × (Nat → Int32)) := lpF (fun _ _ _ _ _ _ => none) (s_zfindRest_178 F Z_members Z_n Z_order Z_mono Z_basis k90) n
def s_zfindRest_150 (F : Nat) (Z_members Z_n Z_order : Int32) (Z_mono Z_basis : Nat → Int32) (k90 : Int32 → Int32 → Int32 → (Nat → Int32) → Option (Int32 × Int32 × (Nat → Int32))) (i1 i2 i3 Z_lefts : Int32) (Z_rest : Nat → Int32) : Option (Int32 × Int32 × (Nat → Int32)) :=
  wrI 41 Z_rest i3 i1 fun Z_rest_1 =>
  b_zfindRest_178 F Z_members Z_n Z_order Z_mono Z_basis k90 F i1 i2 (Z_n - 1) 1 (Z_lefts + 1) Z_rest_1
def s_zfindRest_110 (F : Nat) (Z_members Z_n Z_order : Int32) (Z_mono Z_basis : Nat → Int32) (k90 : Int32 → Int32 → Int32 → (Nat → Int32) → Option (Int32 × Int32 × (Nat → Int32))) (k110 : Int32 → Int32 → Int32 → Int32 → (Nat → Int32) → Option (Int32 × Int32 × (Nat → Int32))) (i1 i2 i3 Z_lefts : Int32) (Z_rest : Nat → Int32) : Option (Int32 × Int32 × (Nat → Int32)) :=
  if i3 ≤ 0 then (s_zfindRest_150 F Z_members Z_n Z_order Z_mono Z_basis k90 i1 i2 i3 Z_lefts Z_rest) else
  (rdI 41 Z_rest (i3 - 1) fun x_1 =>
  bd1 (m_zgreater F Z_order x_1 i1) fun r_2 =>
  if r_2 = 0 then (s_zfindRest_150 F Z_members Z_n Z_order Z_mono Z_basis k90 i1 i2 i3 Z_lefts Z_rest) else
  (rdI 41 Z_rest (i3 - 1) fun x_3 =>
  wrI 41 Z_rest i3 x_3 fun Z_rest_4 =>
  k110 i1 i2 (i3 + (-1)) Z_lefts Z_rest_4))
def b_zfindRest_110 (F : Nat) (Z_members Z_n Z_order : Int32) (Z_mono Z_basis : Nat → Int32) (k90 : Int32 → Int32 → Int32 → (Nat → Int32) → Option (Int32 × Int32 × (Nat → Int32))) (n : Nat) : Int32 → Int32 → Int32 → Int32 → (Nat → Int32) → Option (Int32 × Int32 × (Nat → Int32)) := lpF (fun _ _ _ _ _ => none) (s_zfindRest_110 F Z_members Z_n Z_order Z_mono Z_basis k90) n
def s_zfindRest_90 (F : Nat) (Z_members Z_n Z_order : Int32) (Z_mono Z_basis : Nat → Int32) (k90 : Int32 → Int32 → Int32 → (Nat → Int32) → Option (Int32 × Int32 × (Nat → Int32))) (i1 i2 Z_lefts : Int32) (Z_rest : Nat → Int32) : Option (Int32 × Int32 × (Nat → Int32)) :=
  if i2 = 0 then (if Z_lefts ≤ 0 then (some (0, Z_lefts, Z_rest)) else
  (some (1, Z_lefts, Z_rest))) else
  (if Z_lefts = 40 then (some (0, Z_lefts, Z_rest)) else
  (b_zfindRest_110 F Z_members Z_n Z_order Z_mono Z_basis k90 F i1 i2 Z_lefts Z_lefts Z_rest))
def b_zfindRest_90 (F : Nat) (Z_members Z_n Z_order : Int32) (Z_mono Z_basis : Nat → Int32) (n : Nat) : Int32 → Int32 → Int32 → (Nat → Int32) → Option (Int32 × Int32 × (Nat → Int32)) := lpF (fun _ _ _ _ => none) (s_zfindRest_90 F Z_members Z_n Z_order Z_mono Z_basis ) n
def s_zfindRest_19 (F : Nat) (Z_members Z_n Z_order : Int32) (Z_mono Z_basis : Nat → Int32) (k7 : Int32 → Int32 → (Nat → Int32) → Option (Int32 × Int32 × (Nat → Int32))) (k19 : Int32 → Int32 → Int32 → Int32 → (Nat → Int32) → Option (Int32 × Int32 × (Nat → Int32))) (i1 i2 i3 Z_lefts : Int32) (Z_rest : Nat → Int32) : Option (Int32 × Int32 × (Nat → Int32)) :=
  if Z_members ≤ i3 then (if i2 = 0 then (some (0, Z_lefts, Z_rest)) else
  (k7 (i1 + 1) Z_lefts Z_rest)) else
  (rdI 126 Z_basis i3 fun x_1 =>
  rdI 126 Z_mono x_1 fun x_2 =>
  bd1 (m_zexponent F x_2 i1) fun r_3 =>
  bd1 (m_zdegreeOf F x_2) fun r_4 =>
  if r_3 = r_4 then (k19 i1 1 (i3 + 1) Z_lefts Z_rest) else
  (k19 i1 i2 (i3 + 1) Z_lefts Z_rest))
def b_zfindRest_19 (F : Nat) (Z_members Z_n Z_order : Int32) (Z_mono Z_basis : Nat → Int32) (k7 : Int32 → Int32 → (Nat → Int32) → Option (Int32 × Int32 × (Nat → Int32))) (n : Nat) : Int32 → Int32 → Int32 → Int32 → (Nat → Int32) → Option (Int32 × Int32 × (Nat → Int32)) := lpF (fun _ _ _ _ _ => none) (s_zfindRest_19 F Z_members Z_n Z_order Z_mono Z_basis k7) n
def s_zfindRest_7 (F : Nat) (Z_members Z_n Z_order : Int32) (Z_mono Z_basis : Nat → Int32) (k7 : Int32 → Int32 → (Nat → Int32) → Option (Int32 × Int32 × (Nat → Int32))) (i1 Z_lefts : Int32) (Z_rest : Nat → Int32) : Option (Int32 × Int32 × (Nat → Int32)) :=
  if Z_n ≤ i1 then (bd1 (m_zleading F Z_members Z_mono Z_basis 0) fun r_1 =>
  if r_1 = 0 then (b_zfindRest_90 F Z_members Z_n Z_order Z_mono Z_basis F 0 1 Z_lefts Z_rest) else
  (b_zfindRest_90 F Z_members Z_n Z_order Z_mono Z_basis F 0 0 Z_lefts Z_rest)) else
  (b_zfindRest_19 F Z_members Z_n Z_order Z_mono Z_basis k7 F i1 0 0 Z_lefts Z_rest)
def b_zfindRest_7 (F : Nat) (Z_members Z_n Z_order : Int32) (Z_mono Z_basis : Nat → Int32) (n : Nat) : Int32 → Int32 → (Nat → Int32) → Option (Int32 × Int32 × (Nat → Int32)) := lpF (fun _ _ _ => none) (s_zfindRest_7 F Z_members Z_n Z_order Z_mono Z_basis ) n
def m_zfindRest (F : Nat) (Z_members Z_n Z_order : Int32) (Z_mono Z_basis : Nat → Int32) (Z_lefts : Int32) (Z_rest : Nat → Int32) : Option (Int32 × Int32 × (Nat → Int32)) :=
  b_zfindRest_7 F Z_members Z_n Z_order Z_mono Z_basis F 0 0 Z_rest
def s_zfindProduct_300 (F : Nat) (Z_lefts Z_members Z_p : Int32) (Z_mono Z_row Z_basis Z_rest : Nat → Int32) (k266 : Int32 → Int32 → Int32 → Int32 → Int32 → (Nat → Int32) → (Nat → Int32) → Option ((Nat → Int32) × (Nat → Int32))) (k300 : Int32 → Int32 → Int32 → Int32 → Int32 → Int64 → Int32 → (Nat → Int32) → (Nat → Int32) → Option ((Nat → Int32) × (Nat → Int32))) (i1 i4 i5 i6 i7 : Int32) (l8 : Int64) (i10 : Int32) (Z_product Z_known : Nat → Int32) : Option ((Nat → Int32) × (Nat → Int32)) :=
  if Z_lefts ≤ i10 then (k266 i1 i4 i5 i6 (i7 + 1) Z_product Z_known) else
  (if (lg_cmp l8 0) ≤ 0 then (k266 i1 i4 i5 i6 (i7 + 1) Z_product Z_known) else
  (rdI 6400 Z_product (i4 + i10) fun x_1 =>
  rdI 6400 Z_product (((1600 * i5) + (40 * i7)) + i10) fun x_2 =>
  nzL Z_p.toInt64 (wrI 6400 Z_product (i4 + i10) ((remL (x_1.toInt64 + (l8 * x_2.toInt64)) Z_p.toInt64).toInt32) fun Z_product_3 =>
  k300 i1 i4 i5 i6 i7 l8 (i10 + 1) Z_product_3 Z_known)))
def b_zfindProduct_300 (F : Nat) (Z_lefts Z_members Z_p : Int32) (Z_mono Z_row Z_basis Z_rest : Nat → Int32) (k266 : Int32 → Int32 → Int32 → Int32 → Int32 → (Nat → Int32) → (Nat → Int32) → Option ((Nat → Int32) × (Nat → Int32))) (n : Nat) : Int32 → Int32 → Int32 → Int32 → Int32 → Int64 → Int32 → (Nat → Int32) → (Nat → Int32) → Option ((Nat → Int32) × (Nat → Int32)) := lpF (fun _ _ _ _ _ _ _ _ _ => none) (s_zfindProduct_300 F Z_lefts Z_members Z_p Z_mono Z_row Z_basis Z_rest k266) n
def s_zfindProduct_266 (F : Nat) (Z_lefts Z_members Z_p : Int32) (Z_mono Z_row Z_basis Z_rest : Nat → Int32) (k266 : Int32 → Int32 → Int32 → Int32 → Int32 → (Nat → Int32) → (Nat → Int32) → Option ((Nat → Int32) × (Nat → Int32))) (i1 i4 i5 i6 i7 : Int32) (Z_product Z_known : Nat → Int32) : Option ((Nat → Int32) × (Nat → Int32)) :=
  if Z_lefts ≤ i7 then (some (Z_product, Z_known)) else
  (rdI 6400 Z_product (((1600 * i1) + (40 * i6)) + i7) fun x_1 =>
  b_zfindProduct_300 F Z_lefts Z_members Z_p Z_mono Z_row Z_basis Z_rest k266 F i1 i4 i5 i6 i7 x_1.toInt64 0 Z_product Z_known)
def b_zfindProduct_266 (F : Nat) (Z_lefts Z_members Z_p : Int32) (Z_mono Z_row Z_basis Z_rest : Nat → Int32) (n : Nat) : Int32 → Int32 → Int32 → Int32 → Int32 → (Nat → Int32) → (Nat → Int32) → Option ((Nat → Int32) × (Nat → Int32)) := lpF (fun _ _ _ _ _ _ _ => none) (s_zfindProduct_266 F Z_lefts Z_members Z_p Z_mono Z_row Z_basis Z_rest ) n
def s_zfindProduct_201 (F : Nat) (Z_lefts Z_members Z_p : Int32) (Z_mono Z_row Z_basis Z_rest : Nat → Int32) (k201 : Int32 → Int32 → Int32 → Int32 → Int32 → (Nat → Int32) → (Nat → Int32) → Option ((Nat → Int32) × (Nat → Int32))) (i1 i2 i3 i4 i5 : Int32) (Z_product Z_known : Nat → Int32) : Option ((Nat → Int32) × (Nat → Int32)) :=
  rdI 41 Z_rest i2 fun x_1 =>
  bd1 (m_zexponent F x_1 i5) fun r_2 =>
  if r_2 = 0 then (k201 i1 i2 i3 i4 (i5 + 1) Z_product Z_known) else
  (bd1 (m_zleading F Z_members Z_mono Z_basis (i3 - (shlI 1 (24 - (8 * i5))))) fun r_3 =>
  if r_3 = 0 then (k201 i1 i2 i3 i4 (i5 + 1) Z_product Z_known) else
  (rdI 41 Z_rest i2 fun x_4 =>
  bd1 (m_zrestOf F Z_lefts Z_rest (x_4 - (shlI 1 (24 - (8 * i5))))) fun r_5 =>
  b_zfindProduct_266 F Z_lefts Z_members Z_p Z_mono Z_row Z_basis Z_rest F i1 i4 i5 r_5 0 Z_product Z_known))
def b_zfindProduct_201 (F : Nat) (Z_lefts Z_members Z_p : Int32) (Z_mono Z_row Z_basis Z_rest : Nat → Int32) (n : Nat) : Int32 → Int32 → Int32 → Int32 → Int32 → (Nat → Int32) → (Nat → Int32) → Option ((Nat → Int32) × (Nat → Int32)) := lpF (fun _ _ _ _ _ _ _ => none) (s_zfindProduct_201 F Z_lefts Z_members Z_p Z_mono Z_row Z_basis Z_rest ) n
def s_zfindProduct_122 (F : Nat) (Z_lefts Z_members Z_p : Int32) (Z_mono Z_row Z_basis Z_rest : Nat → Int32) (k122 : Int32 → Int32 → Int32 → (Nat → Int32) → (Nat → Int32) → Option ((Nat → Int32) × (Nat → Int32))) (i4 i5 i6 : Int32) (Z_product Z_known : Nat → Int32) : Option ((Nat → Int32) × (Nat → Int32)) :=
  rdI 126 Z_basis i5 fun x_1 =>
  if x_1 ≤ i6 then (some (Z_product, Z_known)) else
  (rdI 126 Z_basis i5 fun x_2 =>
  rdI 15876 Z_row ((126 * x_2) + i6) fun x_3 =>
  if x_3 = 0 then (k122 i4 i5 (i6 + 1) Z_product Z_known) else
  (rdI 126 Z_mono i6 fun x_4 =>
  bd1 (m_zrestOf F Z_lefts Z_rest x_4) fun r_5 =>
  wrI 6400 Z_product (i4 + r_5) (Z_p - x_3) fun Z_product_6 =>
  k122 i4 i5 (i6 + 1) Z_product_6 Z_known))
def b_zfindProduct_122 (F : Nat) (Z_lefts Z_members Z_p : Int32) (Z_mono Z_row Z_basis Z_rest : Nat → Int32) (n : Nat) : Int32 → Int32 → Int32 → (Nat → Int32) → (Nat → Int32) → Option ((Nat → Int32) × (Nat → Int32)) := lpF (fun _ _ _ _ _ => none) (s_zfindProduct_122 F Z_lefts Z_members Z_p Z_mono Z_row Z_basis Z_rest ) n
def s_zfindProduct_94 (F : Nat) (Z_lefts Z_members Z_p : Int32) (Z_mono Z_row Z_basis Z_rest : Nat → Int32) (k94 : Int32 → Int32 → Int32 → Int32 → Int32 → (Nat → Int32) → (Nat → Int32) → Option ((Nat → Int32) × (Nat → Int32))) (i1 i2 i3 i4 i5 : Int32) (Z_product Z_known : Nat → Int32) : Option ((Nat → Int32) × (Nat → Int32)) :=
  if Z_members ≤ i5 then (b_zfindProduct_201 F Z_lefts Z_members Z_p Z_mono Z_row Z_basis Z_rest F i1 i2 i3 i4 0 Z_product Z_known) else
  (rdI 126 Z_basis i5 fun x_1 =>
  rdI 126 Z_mono x_1 fun x_2 =>
  if x_2 = i3 then (b_zfindProduct_122 F Z_lefts Z_members Z_p Z_mono Z_row Z_basis Z_rest F i4 i5 0 Z_product Z_known) else
  (k94 i1 i2 i3 i4 (i5 + 1) Z_product Z_known))
def b_zfindProduct_94 (F : Nat) (Z_lefts Z_members Z_p : Int32) (Z_mono Z_row Z_basis Z_rest : Nat → Int32) (n : Nat) : Int32 → Int32 → Int32 → Int32 → Int32 → (Nat → Int32) → (Nat → Int32) → Option ((Nat → Int32) × (Nat → Int32)) := lpF (fun _ _ _ _ _ _ _ => none) (s_zfindProduct_94 F Z_lefts Z_members Z_p Z_mono Z_row Z_basis Z_rest ) n
def s_zfindProduct_32 (F : Nat) (Z_lefts Z_members Z_p : Int32) (Z_mono Z_row Z_basis Z_rest : Nat → Int32) (k32 : Int32 → Int32 → Int32 → Int32 → Int32 → (Nat → Int32) → (Nat → Int32) → Option ((Nat → Int32) × (Nat → Int32))) (i1 i2 i3 i4 i5 : Int32) (Z_product Z_known : Nat → Int32) : Option ((Nat → Int32) × (Nat → Int32)) :=
  if 40 ≤ i5 then (wrI 160 Z_known ((40 * i1) + i2) (vp_nar .boolean 1) fun Z_known_1 =>
  bd1 (m_zrestOf F Z_lefts Z_rest i3) fun r_2 =>
  if r_2 < 0 then (b_zfindProduct_94 F Z_lefts Z_members Z_p Z_mono Z_row Z_basis Z_rest F i1 i2 i3 i4 0 Z_product Z_known_1) else
  (bd1 (m_zrestOf F Z_lefts Z_rest i3) fun r_3 =>
  wrI 6400 Z_product (i4 + r_3) 1 fun Z_product_4 =>
  some (Z_product_4, Z_known_1))) else
  (wrI 6400 Z_product (i4 + i5) 0 fun Z_product_5 =>
  k32 i1 i2 i3 i4 (i5 + 1) Z_product_5 Z_known)
def b_zfindProduct_32 (F : Nat) (Z_lefts Z_members Z_p : Int32) (Z_mono Z_row Z_basis Z_rest : Nat → Int32) (n : Nat) : Int32 → Int32 → Int32 → Int32 → Int32 → (Nat → Int32) → (Nat → Int32) → Option ((Nat → Int32) × (Nat → Int32)) := lpF (fun _ _ _ _ _ _ _ => none) (s_zfindProduct_32 F Z_lefts Z_members Z_p Z_mono Z_row Z_basis Z_rest ) n
def m_zfindProduct (F : Nat) (Z_lefts Z_members Z_p : Int32) (Z_mono Z_row Z_basis Z_rest : Nat → Int32) (i1 i2 : Int32) (Z_product Z_known : Nat → Int32) : Option ((Nat → Int32) × (Nat → Int32)) :=
  rdI 41 Z_rest i2 fun x_1 =>
  b_zfindProduct_32 F Z_lefts Z_members Z_p Z_mono Z_row Z_basis Z_rest F i1 i2 (x_1 + (shlI 1 (24 - (8 * i1)))) ((1600 * i1) + (40 * i2)) 0 Z_product Z_known
def s_zfindProducts_41 (F : Nat) (Z_lefts Z_members Z_n Z_order Z_p : Int32) (Z_mono Z_row Z_basis Z_rest : Nat → Int32) (k24 : Int32 → (Nat → Int32) → (Nat → Int32) → Option ((Nat → Int32) × (Nat → Int32))) (k41 : Int32 → Int32 → Int32 → (Nat → Int32) → (Nat → Int32) → Option ((Nat → Int32) × (Nat → Int32))) (i1 i2 i3 : Int32) (Z_product Z_known : Nat → Int32) : Option ((Nat → Int32) × (Nat → Int32)) :=
  if (Z_n * Z_lefts) ≤ i3 then (nzI Z_lefts (nzI Z_lefts (bd2 (m_zfindProduct F Z_lefts Z_members Z_p Z_mono Z_row Z_basis Z_rest (i2 / Z_lefts) (remI i2 Z_lefts) Z_product Z_known) fun Z_product_1 Z_known_2 =>
  k24 (i1 + 1) Z_product_1 Z_known_2))) else
  (nzI Z_lefts (nzI Z_lefts (rdI 160 Z_known ((40 * (i3 / Z_lefts)) + (remI i3 Z_lefts)) fun x_4 =>
  if x_4 = 0 then (if i2 < 0 then (k41 i1 i3 (i3 + 1) Z_product Z_known) else
  (nzI Z_lefts (rdI 41 Z_rest (remI i2 Z_lefts) fun x_5 =>
  nzI Z_lefts (rdI 41 Z_rest (remI i3 Z_lefts) fun x_6 =>
  bd1 (m_zgreater F Z_order (x_5 + (shlI 1 (24 - (8 * (i2 / Z_lefts))))) (x_6 + (shlI 1 (24 - (8 * (i3 / Z_lefts)))))) fun r_7 =>
  if r_7 = 0 then (k41 i1 i2 (i3 + 1) Z_product Z_known) else
  (k41 i1 i3 (i3 + 1) Z_product Z_known))))) else
  (k41 i1 i2 (i3 + 1) Z_product Z_known))))
def b_zfindProducts_41 (F : Nat) (Z_lefts Z_members Z_n Z_order Z_p : Int32) (Z_mono Z_row Z_basis Z_rest : Nat → Int32) (k24 : Int32 → (Nat → Int32) → (Nat → Int32) → Option ((Nat → Int32) × (Nat → Int32))) (n : Nat) : Int32 → Int32 → Int32 → (Nat → Int32) → (Nat → Int32) → Option ((Nat → Int32) × (Nat → Int32)) := lpF (fun _ _ _ _ _ => none) (s_zfindProducts_41 F Z_lefts Z_members Z_n Z_order Z_p Z_mono Z_row Z_basis Z_rest k24) n
def s_zfindProducts_24 (F : Nat) (Z_lefts Z_members Z_n Z_order Z_p : Int32) (Z_mono Z_row Z_basis Z_rest : Nat → Int32) (k24 : Int32 → (Nat → Int32) → (Nat → Int32) → Option ((Nat → Int32) × (Nat → Int32))) (i1 : Int32) (Z_product Z_known : Nat → Int32) : Option ((Nat → Int32) × (Nat → Int32)) :=
  if (Z_n * Z_lefts) ≤ i1 then (some (Z_product, Z_known)) else
  (b_zfindProducts_41 F Z_lefts Z_members Z_n Z_order Z_p Z_mono Z_row Z_basis Z_rest k24 F i1 (-1) 0 Z_product Z_known)
def b_zfindProducts_24 (F : Nat) (Z_lefts Z_members Z_n Z_order Z_p : Int32) (Z_mono Z_row Z_basis Z_rest : Nat → Int32) (n : Nat) : Int32 → (Nat → Int32) → (Nat → Int32) → Option ((Nat → Int32) × (Nat → Int32)) := lpF (fun _ _ _ => none) (s_zfindProducts_24 F Z_lefts Z_members Z_n Z_order Z_p Z_mono Z_row Z_basis Z_rest ) n
def s_zfindProducts_2 (F : Nat) (Z_lefts Z_members Z_n Z_order Z_p : Int32) (Z_mono Z_row Z_basis Z_rest : Nat → Int32) (k2 : Int32 → (Nat → Int32) → (Nat → Int32) → Option ((Nat → Int32) × (Nat → Int32))) (i1 : Int32) (Z_product Z_known : Nat → Int32) : Option ((Nat → Int32) × (Nat → Int32)) :=
  if 160 ≤ i1 then (b_zfindProducts_24 F Z_lefts Z_members Z_n Z_order Z_p Z_mono Z_row Z_basis Z_rest F 0 Z_product Z_known) else
  (wrI 160 Z_known i1 (vp_nar .boolean 0) fun Z_known_1 =>
  k2 (i1 + 1) Z_product Z_known_1)
def b_zfindProducts_2 (F : Nat) (Z_lefts Z_members Z_n Z_order Z_p : Int32) (Z_mono Z_row Z_basis Z_rest : Nat → Int32) (n : Nat) : Int32 → (Nat → Int32) → (Nat → Int32) → Option ((Nat → Int32) × (Nat → Int32)) := lpF (fun _ _ _ => none) (s_zfindProducts_2 F Z_lefts Z_members Z_n Z_order Z_p Z_mono Z_row Z_basis Z_rest ) n
def m_zfindProducts (F : Nat) (Z_lefts Z_members Z_n Z_order Z_p : Int32) (Z_mono Z_row Z_basis Z_rest Z_product Z_known : Nat → Int32) : Option ((Nat → Int32) × (Nat → Int32)) :=
  b_zfindProducts_2 F Z_lefts Z_members Z_n Z_order Z_p Z_mono Z_row Z_basis Z_rest F 0 Z_product Z_known
def s_zcomesTo_142 (F : Nat) (Z_lefts Z_n Z_p : Int32) (Z_product : Nat → Int32) (k31 : Int32 → Int32 → (Nat → Int32) → (Nat → Int32) → Option ((Nat → Int32) × (Nat → Int32))) (k41 : Int32 → Int32 → Int32 → (Nat → Int32) → (Nat → Int32) → Option ((Nat → Int32) × (Nat → Int32))) (k142 : Int32 → Int32 → Int32 → Int32 → (Nat → Int32) → (Nat → Int32) → Option ((Nat → Int32) × (Nat → Int32))) (i1 i2 i3 i4 : Int32) (Z_now Z_next : Nat → Int32) : Option ((Nat → Int32) × (Nat → Int32)) :=
  if Z_lefts ≤ i4 then (k41 i1 i2 (i3 + 1) Z_now Z_next) else
  (rdI 40 Z_next i4 fun x_1 =>
  wrI 40 Z_now i4 x_1 fun Z_now_2 =>
  k142 i1 i2 i3 (i4 + 1) Z_now_2 Z_next)
def b_zcomesTo_142 (F : Nat) (Z_lefts Z_n Z_p : Int32) (Z_product : Nat → Int32) (k31 : Int32 → Int32 → (Nat → Int32) → (Nat → Int32) → Option ((Nat → Int32) × (Nat → Int32))) (k41 : Int32 → Int32 → Int32 → (Nat → Int32) → (Nat → Int32) → Option ((Nat → Int32) × (Nat → Int32))) (n : Nat) : Int32 → Int32 → Int32 → Int32 → (Nat → Int32) → (Nat → Int32) → Option ((Nat → Int32) × (Nat → Int32)) := lpF (fun _ _ _ _ _ _ => none) (s_zcomesTo_142 F Z_lefts Z_n Z_p Z_product k31 k41) n
def s_zcomesTo_68 (F : Nat) (Z_lefts Z_n Z_p : Int32) (Z_product : Nat → Int32) (k31 : Int32 → Int32 → (Nat → Int32) → (Nat → Int32) → Option ((Nat → Int32) × (Nat → Int32))) (k41 : Int32 → Int32 → Int32 → (Nat → Int32) → (Nat → Int32) → Option ((Nat → Int32) × (Nat → Int32))) (k53 : Int32 → Int32 → Int32 → Int32 → (Nat → Int32) → (Nat → Int32) → Option ((Nat → Int32) × (Nat → Int32))) (k68 : Int32 → Int32 → Int32 → Int32 → Int64 → Int32 → (Nat → Int32) → (Nat → Int32) → Option ((Nat → Int32) × (Nat → Int32))) (i1 i2 i3 i4 : Int32) (l5 : Int64) (i7 : Int32) (Z_now Z_next : Nat → Int32) : Option ((Nat → Int32) × (Nat → Int32)) :=
  if Z_lefts ≤ i7 then (wrI 40 Z_next i4 l5.toInt32 fun Z_next_1 =>
  k53 i1 i2 i3 (i4 + 1) Z_now Z_next_1) else
  (rdI 40 Z_now i7 fun x_2 =>
  rdI 6400 Z_product (((1600 * i2) + (40 * i7)) + i4) fun x_3 =>
  nzL Z_p.toInt64 (k68 i1 i2 i3 i4 (remL (l5 + (x_2.toInt64 * x_3.toInt64)) Z_p.toInt64) (i7 + 1) Z_now Z_next))
def b_zcomesTo_68 (F : Nat) (Z_lefts Z_n Z_p : Int32) (Z_product : Nat → Int32) (k31 : Int32 → Int32 → (Nat → Int32) → (Nat → Int32) → Option ((Nat → Int32) × (Nat → Int32))) (k41 : Int32 → Int32 → Int32 → (Nat → Int32) → (Nat → Int32) → Option ((Nat → Int32) × (Nat → Int32))) (k53 : Int32 → Int32 → Int32 → Int32 → (Nat → Int32) → (Nat → Int32) → Option ((Nat → Int32) × (Nat → Int32))) (n : Nat) : Int32 → Int32 → Int32 → Int32 → Int64 → Int32 → (Nat → Int32) → (Nat → Int32) → Option ((Nat → Int32) × (Nat → Int32)) := lpF (fun _ _ _ _ _ _ _ _ => none) (s_zcomesTo_68 F Z_lefts Z_n Z_p Z_product k31 k41 k53) n
def s_zcomesTo_53 (F : Nat) (Z_lefts Z_n Z_p : Int32) (Z_product : Nat → Int32) (k31 : Int32 → Int32 → (Nat → Int32) → (Nat → Int32) → Option ((Nat → Int32) × (Nat → Int32))) (k41 : Int32 → Int32 → Int32 → (Nat → Int32) → (Nat → Int32) → Option ((Nat → Int32) × (Nat → Int32))) (k53 : Int32 → Int32 → Int32 → Int32 → (Nat → Int32) → (Nat → Int32) → Option ((Nat → Int32) × (Nat → Int32))) (i1 i2 i3 i4 : Int32) (Z_now Z_next : Nat → Int32) : Option ((Nat → Int32) × (Nat → Int32)) :=
  if Z_lefts ≤ i4 then (b_zcomesTo_142 F Z_lefts Z_n Z_p Z_product k31 k41 F i1 i2 i3 0 Z_now Z_next) else
  (b_zcomesTo_68 F Z_lefts Z_n Z_p Z_product k31 k41 k53 F i1 i2 i3 i4 0 0 Z_now Z_next)
def b_zcomesTo_53 (F : Nat) (Z_lefts Z_n Z_p : Int32) (Z_product : Nat → Int32) (k31 : Int32 → Int32 → (Nat → Int32) → (Nat → Int32) → Option ((Nat → Int32) × (Nat → Int32))) (k41 : Int32 → Int32 → Int32 → (Nat → Int32) → (Nat → Int32) → Option ((Nat → Int32) × (Nat → Int32))) (n : Nat) : Int32 → Int32 → Int32 → Int32 → (Nat → Int32) → (Nat → Int32) → Option ((Nat → Int32) × (Nat → Int32)) := lpF (fun _ _ _ _ _ _ => none) (s_zcomesTo_53 F Z_lefts Z_n Z_p Z_product k31 k41) n
def s_zcomesTo_41 (F : Nat) (Z_lefts Z_n Z_p : Int32) (Z_product : Nat → Int32) (k31 : Int32 → Int32 → (Nat → Int32) → (Nat → Int32) → Option ((Nat → Int32) × (Nat → Int32))) (k41 : Int32 → Int32 → Int32 → (Nat → Int32) → (Nat → Int32) → Option ((Nat → Int32) × (Nat → Int32))) (i1 i2 i3 : Int32) (Z_now Z_next : Nat → Int32) : Option ((Nat → Int32) × (Nat → Int32)) :=
  bd1 (m_zexponent F i1 i2) fun r_1 =>
  if r_1 ≤ i3 then (k31 i1 (i2 + 1) Z_now Z_next) else
  (b_zcomesTo_53 F Z_lefts Z_n Z_p Z_product k31 k41 F i1 i2 i3 0 Z_now Z_next)
def b_zcomesTo_41 (F : Nat) (Z_lefts Z_n Z_p : Int32) (Z_product : Nat → Int32) (k31 : Int32 → Int32 → (Nat → Int32) → (Nat → Int32) → Option ((Nat → Int32) × (Nat → Int32))) (n : Nat) : Int32 → Int32 → Int32 → (Nat → Int32) → (Nat → Int32) → Option ((Nat → Int32) × (Nat → Int32)) := lpF (fun _ _ _ _ _ => none) (s_zcomesTo_41 F Z_lefts Z_n Z_p Z_product k31) n
def s_zcomesTo_31 (F : Nat) (Z_lefts Z_n Z_p : Int32) (Z_product : Nat → Int32) (k31 : Int32 → Int32 → (Nat → Int32) → (Nat → Int32) → Option ((Nat → Int32) × (Nat → Int32))) (i1 i2 : Int32) (Z_now Z_next : Nat → Int32) : Option ((Nat → Int32) × (Nat → Int32)) :=
  if Z_n ≤ i2 then (some (Z_now, Z_next)) else
  (b_zcomesTo_41 F Z_lefts Z_n Z_p Z_product k31 F i1 i2 0 Z_now Z_next)
def b_zcomesTo_31 (F : Nat) (Z_lefts Z_n Z_p : Int32) (Z_product : Nat → Int32) (n : Nat) : Int32 → Int32 → (Nat → Int32) → (Nat → Int32) → Option ((Nat → Int32) × (Nat → Int32)) := lpF (fun _ _ _ _ => none) (s_zcomesTo_31 F Z_lefts Z_n Z_p Z_product ) n
def s_zcomesTo_22 (F : Nat) (Z_lefts Z_n Z_p : Int32) (Z_product : Nat → Int32) (k2 : Int32 → Int32 → (Nat → Int32) → (Nat → Int32) → Option ((Nat → Int32) × (Nat → Int32))) (i1 i2 t1 t2 : Int32) (Z_now Z_next : Nat → Int32) : Option ((Nat → Int32) × (Nat → Int32)) :=
  wrI 40 Z_now t1 t2 fun Z_now_1 =>
  k2 i1 (i2 + 1) Z_now_1 Z_next
def s_zcomesTo_2 (F : Nat) (Z_lefts Z_n Z_p : Int32) (Z_product : Nat → Int32) (k2 : Int32 → Int32 → (Nat → Int32) → (Nat → Int32) → Option ((Nat → Int32) × (Nat → Int32))) (i1 i2 : Int32) (Z_now Z_next : Nat → Int32) : Option ((Nat → Int32) × (Nat → Int32)) :=
  if 40 ≤ i2 then (b_zcomesTo_31 F Z_lefts Z_n Z_p Z_product F i1 0 Z_now Z_next) else
  (if i2 = 0 then (s_zcomesTo_22 F Z_lefts Z_n Z_p Z_product k2 i1 i2 i2 1 Z_now Z_next) else
  (s_zcomesTo_22 F Z_lefts Z_n Z_p Z_product k2 i1 i2 i2 0 Z_now Z_next))
def b_zcomesTo_2 (F : Nat) (Z_lefts Z_n Z_p : Int32) (Z_product : Nat → Int32) (n : Nat) : Int32 → Int32 → (Nat → Int32) → (Nat → Int32) → Option ((Nat → Int32) × (Nat → Int32)) := lpF (fun _ _ _ _ => none) (s_zcomesTo_2 F Z_lefts Z_n Z_p Z_product ) n
def m_zcomesTo (F : Nat) (Z_lefts Z_n Z_p : Int32) (Z_product : Nat → Int32) (i1 : Int32) (Z_now Z_next : Nat → Int32) : Option ((Nat → Int32) × (Nat → Int32)) :=
  b_zcomesTo_2 F Z_lefts Z_n Z_p Z_product F i1 0 Z_now Z_next
def s_zsolved_424 (F : Nat) (Z_lefts Z_p Z_words : Int32) (Z_vector Z_now : Nat → Int32) (k424 : Int32 → Int32 → (Nat → Int32) → (Nat → Int32) → Option (Int32 × (Nat → Int32) × (Nat → Int32))) (i1 i3 : Int32) (Z_system Z_next : Nat → Int32) : Option (Int32 × (Nat → Int32) × (Nat → Int32)) :=
  if Z_words ≤ i3 then (some (1, Z_system, Z_next)) else
  (rdI 1640 Z_system ((i1 * i3) + Z_words) fun x_1 =>
  wrI 40 Z_next i3 x_1 fun Z_next_2 =>
  k424 i1 (i3 + 1) Z_system Z_next_2)
def b_zsolved_424 (F : Nat) (Z_lefts Z_p Z_words : Int32) (Z_vector Z_now : Nat → Int32) (n : Nat) : Int32 → Int32 → (Nat → Int32) → (Nat → Int32) → Option (Int32 × (Nat → Int32) × (Nat → Int32)) := lpF (fun _ _ _ _ => none) (s_zsolved_424 F Z_lefts Z_p Z_words Z_vector Z_now ) n
def s_zsolved_390 (F : Nat) (Z_lefts Z_p Z_words : Int32) (Z_vector Z_now : Nat → Int32) (k390 : Int32 → Int32 → (Nat → Int32) → (Nat → Int32) → Option (Int32 × (Nat → Int32) × (Nat → Int32))) (i1 i3 : Int32) (Z_system Z_next : Nat → Int32) : Option (Int32 × (Nat → Int32) × (Nat → Int32)) :=
  if Z_lefts ≤ i3 then (b_zsolved_424 F Z_lefts Z_p Z_words Z_vector Z_now F i1 0 Z_system Z_next) else
  (rdI 1640 Z_system ((i1 * i3) + Z_words) fun x_1 =>
  if x_1 = 0 then (k390 i1 (i3 + 1) Z_system Z_next) else
  (some (0, Z_system, Z_next)))
def b_zsolved_390 (F : Nat) (Z_lefts Z_p Z_words : Int32) (Z_vector Z_now : Nat → Int32) (n : Nat) : Int32 → Int32 → (Nat → Int32) → (Nat → Int32) → Option (Int32 × (Nat → Int32) × (Nat → Int32)) := lpF (fun _ _ _ _ => none) (s_zsolved_390 F Z_lefts Z_p Z_words Z_vector Z_now ) n
def s_zsolved_306 (F : Nat) (Z_lefts Z_p Z_words : Int32) (Z_vector Z_now : Nat → Int32) (k83 : Int32 → Int32 → Int32 → (Nat → Int32) → (Nat → Int32) → Option (Int32 × (Nat → Int32) × (Nat → Int32))) (k265 : Int32 → Int32 → Int32 → Int32 → (Nat → Int32) → (Nat → Int32) → Option (Int32 × (Nat → Int32) × (Nat → Int32))) (k306 : Int32 → Int32 → Int32 → Int32 → Int64 → Int32 → (Nat → Int32) → (Nat → Int32) → Option (Int32 × (Nat → Int32) × (Nat → Int32))) (i1 i2 i3 i7 : Int32) (l8 : Int64) (i10 : Int32) (Z_system Z_next : Nat → Int32) : Option (Int32 × (Nat → Int32) × (Nat → Int32)) :=
  if i1 ≤ i10 then (k265 i1 i2 i3 (i7 + 1) Z_system Z_next) else
  (if (lg_cmp l8 0) ≤ 0 then (k265 i1 i2 i3 (i7 + 1) Z_system Z_next) else
  (rdI 1640 Z_system ((i1 * i7) + i10) fun x_1 =>
  rdI 1640 Z_system ((i1 * i2) + i10) fun x_2 =>
  nzL Z_p.toInt64 (wrI 1640 Z_system ((i1 * i7) + i10) ((remL (x_1.toInt64 + (l8 * x_2.toInt64)) Z_p.toInt64).toInt32) fun Z_system_3 =>
  k306 i1 i2 i3 i7 l8 (i10 + 1) Z_system_3 Z_next)))
def b_zsolved_306 (F : Nat) (Z_lefts Z_p Z_words : Int32) (Z_vector Z_now : Nat → Int32) (k83 : Int32 → Int32 → Int32 → (Nat → Int32) → (Nat → Int32) → Option (Int32 × (Nat → Int32) × (Nat → Int32))) (k265 : Int32 → Int32 → Int32 → Int32 → (Nat → Int32) → (Nat → Int32) → Option (Int32 × (Nat → Int32) × (Nat → Int32))) (n : Nat) : Int32 → Int32 → Int32 → Int32 → Int64 → Int32 → (Nat → Int32) → (Nat → Int32) → Option (Int32 × (Nat → Int32) × (Nat → Int32)) := lpF (fun _ _ _ _ _ _ _ _ => none) (s_zsolved_306 F Z_lefts Z_p Z_words Z_vector Z_now k83 k265) n
def s_zsolved_265 (F : Nat) (Z_lefts Z_p Z_words : Int32) (Z_vector Z_now : Nat → Int32) (k83 : Int32 → Int32 → Int32 → (Nat → Int32) → (Nat → Int32) → Option (Int32 × (Nat → Int32) × (Nat → Int32))) (k265 : Int32 → Int32 → Int32 → Int32 → (Nat → Int32) → (Nat → Int32) → Option (Int32 × (Nat → Int32) × (Nat → Int32))) (i1 i2 i3 i7 : Int32) (Z_system Z_next : Nat → Int32) : Option (Int32 × (Nat → Int32) × (Nat → Int32)) :=
  if Z_lefts ≤ i7 then (k83 i1 (i2 + 1) (i3 + 1) Z_system Z_next) else
  (if i7 = i2 then (b_zsolved_306 F Z_lefts Z_p Z_words Z_vector Z_now k83 k265 F i1 i2 i3 i7 0 0 Z_system Z_next) else
  (rdI 1640 Z_system ((i1 * i7) + i3) fun x_1 =>
  b_zsolved_306 F Z_lefts Z_p Z_words Z_vector Z_now k83 k265 F i1 i2 i3 i7 ((Z_p - x_1).toInt64) 0 Z_system Z_next))
def b_zsolved_265 (F : Nat) (Z_lefts Z_p Z_words : Int32) (Z_vector Z_now : Nat → Int32) (k83 : Int32 → Int32 → Int32 → (Nat → Int32) → (Nat → Int32) → Option (Int32 × (Nat → Int32) × (Nat → Int32))) (n : Nat) : Int32 → Int32 → Int32 → Int32 → (Nat → Int32) → (Nat → Int32) → Option (Int32 × (Nat → Int32) × (Nat → Int32)) := lpF (fun _ _ _ _ _ _ => none) (s_zsolved_265 F Z_lefts Z_p Z_words Z_vector Z_now k83) n
def s_zsolved_217 (F : Nat) (Z_lefts Z_p Z_words : Int32) (Z_vector Z_now : Nat → Int32) (k83 : Int32 → Int32 → Int32 → (Nat → Int32) → (Nat → Int32) → Option (Int32 × (Nat → Int32) × (Nat → Int32))) (k217 : Int32 → Int32 → Int32 → Int64 → Int32 → (Nat → Int32) → (Nat → Int32) → Option (Int32 × (Nat → Int32) × (Nat → Int32))) (i1 i2 i3 : Int32) (l5 : Int64) (i7 : Int32) (Z_system Z_next : Nat → Int32) : Option (Int32 × (Nat → Int32) × (Nat → Int32)) :=
  if i1 ≤ i7 then (b_zsolved_265 F Z_lefts Z_p Z_words Z_vector Z_now k83 F i1 i2 i3 0 Z_system Z_next) else
  (rdI 1640 Z_system ((i1 * i2) + i7) fun x_1 =>
  nzL Z_p.toInt64 (wrI 1640 Z_system ((i1 * i2) + i7) ((remL (x_1.toInt64 * l5) Z_p.toInt64).toInt32) fun Z_system_2 =>
  k217 i1 i2 i3 l5 (i7 + 1) Z_system_2 Z_next))
def b_zsolved_217 (F : Nat) (Z_lefts Z_p Z_words : Int32) (Z_vector Z_now : Nat → Int32) (k83 : Int32 → Int32 → Int32 → (Nat → Int32) → (Nat → Int32) → Option (Int32 × (Nat → Int32) × (Nat → Int32))) (n : Nat) : Int32 → Int32 → Int32 → Int64 → Int32 → (Nat → Int32) → (Nat → Int32) → Option (Int32 × (Nat → Int32) × (Nat → Int32)) := lpF (fun _ _ _ _ _ _ _ => none) (s_zsolved_217 F Z_lefts Z_p Z_words Z_vector Z_now k83) n
def s_zsolved_135 (F : Nat) (Z_lefts Z_p Z_words : Int32) (Z_vector Z_now : Nat → Int32) (k83 : Int32 → Int32 → Int32 → (Nat → Int32) → (Nat → Int32) → Option (Int32 × (Nat → Int32) × (Nat → Int32))) (k135 : Int32 → Int32 → Int32 → Int32 → Int32 → (Nat → Int32) → (Nat → Int32) → Option (Int32 × (Nat → Int32) × (Nat → Int32))) (i1 i2 i3 i4 i5 : Int32) (Z_system Z_next : Nat → Int32) : Option (Int32 × (Nat → Int32) × (Nat → Int32)) :=
  if i1 ≤ i5 then (rdI 1640 Z_system ((i1 * i2) + i3) fun x_1 =>
  bd1 (m_zinverse F Z_p x_1) fun r_2 =>
  b_zsolved_217 F Z_lefts Z_p Z_words Z_vector Z_now k83 F i1 i2 i3 r_2.toInt64 0 Z_system Z_next) else
  (rdI 1640 Z_system ((i1 * i4) + i5) fun x_3 =>
  rdI 1640 Z_system ((i1 * i2) + i5) fun x_4 =>
  wrI 1640 Z_system ((i1 * i4) + i5) x_4 fun Z_system_5 =>
  wrI 1640 Z_system_5 ((i1 * i2) + i5) x_3 fun Z_system_6 =>
  k135 i1 i2 i3 i4 (i5 + 1) Z_system_6 Z_next)
def b_zsolved_135 (F : Nat) (Z_lefts Z_p Z_words : Int32) (Z_vector Z_now : Nat → Int32) (k83 : Int32 → Int32 → Int32 → (Nat → Int32) → (Nat → Int32) → Option (Int32 × (Nat → Int32) × (Nat → Int32))) (n : Nat) : Int32 → Int32 → Int32 → Int32 → Int32 → (Nat → Int32) → (Nat → Int32) → Option (Int32 × (Nat → Int32) × (Nat → Int32)) := lpF (fun _ _ _ _ _ _ _ => none) (s_zsolved_135 F Z_lefts Z_p Z_words Z_vector Z_now k83) n
def s_zsolved_123 (F : Nat) (Z_lefts Z_p Z_words : Int32) (Z_vector Z_now : Nat → Int32) (k83 : Int32 → Int32 → Int32 → (Nat → Int32) → (Nat → Int32) → Option (Int32 × (Nat → Int32) × (Nat → Int32))) (i1 i2 i3 i4 : Int32) (Z_system Z_next : Nat → Int32) : Option (Int32 × (Nat → Int32) × (Nat → Int32)) :=
  if Z_lefts ≤ i4 then (k83 i1 i2 (i3 + 1) Z_system Z_next) else
  (b_zsolved_135 F Z_lefts Z_p Z_words Z_vector Z_now k83 F i1 i2 i3 i4 0 Z_system Z_next)
def s_zsolved_94 (F : Nat) (Z_lefts Z_p Z_words : Int32) (Z_vector Z_now : Nat → Int32) (k83 : Int32 → Int32 → Int32 → (Nat → Int32) → (Nat → Int32) → Option (Int32 × (Nat → Int32) × (Nat → Int32))) (k94 : Int32 → Int32 → Int32 → Int32 → (Nat → Int32) → (Nat → Int32) → Option (Int32 × (Nat → Int32) × (Nat → Int32))) (i1 i2 i3 i4 : Int32) (Z_system Z_next : Nat → Int32) : Option (Int32 × (Nat → Int32) × (Nat → Int32)) :=
  if Z_lefts ≤ i4 then (s_zsolved_123 F Z_lefts Z_p Z_words Z_vector Z_now k83 i1 i2 i3 i4 Z_system Z_next) else
  (rdI 1640 Z_system ((i1 * i4) + i3) fun x_1 =>
  if x_1 = 0 then (k94 i1 i2 i3 (i4 + 1) Z_system Z_next) else
  (s_zsolved_123 F Z_lefts Z_p Z_words Z_vector Z_now k83 i1 i2 i3 i4 Z_system Z_next))
def b_zsolved_94 (F : Nat) (Z_lefts Z_p Z_words : Int32) (Z_vector Z_now : Nat → Int32) (k83 : Int32 → Int32 → Int32 → (Nat → Int32) → (Nat → Int32) → Option (Int32 × (Nat → Int32) × (Nat → Int32))) (n : Nat) : Int32 → Int32 → Int32 → Int32 → (Nat → Int32) → (Nat → Int32) → Option (Int32 × (Nat → Int32) × (Nat → Int32)) := lpF (fun _ _ _ _ _ _ => none) (s_zsolved_94 F Z_lefts Z_p Z_words Z_vector Z_now k83) n
def s_zsolved_83 (F : Nat) (Z_lefts Z_p Z_words : Int32) (Z_vector Z_now : Nat → Int32) (k83 : Int32 → Int32 → Int32 → (Nat → Int32) → (Nat → Int32) → Option (Int32 × (Nat → Int32) × (Nat → Int32))) (i1 i2 i3 : Int32) (Z_system Z_next : Nat → Int32) : Option (Int32 × (Nat → Int32) × (Nat → Int32)) :=
  if Z_words ≤ i3 then (b_zsolved_390 F Z_lefts Z_p Z_words Z_vector Z_now F i1 i2 Z_system Z_next) else
  (b_zsolved_94 F Z_lefts Z_p Z_words Z_vector Z_now k83 F i1 i2 i3 i2 Z_system Z_next)
def b_zsolved_83 (F : Nat) (Z_lefts Z_p Z_words : Int32) (Z_vector Z_now : Nat → Int32) (n : Nat) : Int32 → Int32 → Int32 → (Nat → Int32) → (Nat → Int32) → Option (Int32 × (Nat → Int32) × (Nat → Int32)) := lpF (fun _ _ _ _ _ => none) (s_zsolved_83 F Z_lefts Z_p Z_words Z_vector Z_now ) n
def s_zsolved_19 (F : Nat) (Z_lefts Z_p Z_words : Int32) (Z_vector Z_now : Nat → Int32) (k9 : Int32 → Int32 → (Nat → Int32) → (Nat → Int32) → Option (Int32 × (Nat → Int32) × (Nat → Int32))) (k19 : Int32 → Int32 → Int32 → (Nat → Int32) → (Nat → Int32) → Option (Int32 × (Nat → Int32) × (Nat → Int32))) (i1 i2 i3 : Int32) (Z_system Z_next : Nat → Int32) : Option (Int32 × (Nat → Int32) × (Nat → Int32)) :=
  if Z_words ≤ i3 then (rdI 40 Z_now i2 fun x_1 =>
  wrI 1640 Z_system ((i1 * i2) + Z_words) x_1 fun Z_system_2 =>
  k9 i1 (i2 + 1) Z_system_2 Z_next) else
  (rdI 1600 Z_vector ((40 * i3) + i2) fun x_3 =>
  wrI 1640 Z_system ((i1 * i2) + i3) x_3 fun Z_system_4 =>
  k19 i1 i2 (i3 + 1) Z_system_4 Z_next)
def b_zsolved_19 (F : Nat) (Z_lefts Z_p Z_words : Int32) (Z_vector Z_now : Nat → Int32) (k9 : Int32 → Int32 → (Nat → Int32) → (Nat → Int32) → Option (Int32 × (Nat → Int32) × (Nat → Int32))) (n : Nat) : Int32 → Int32 → Int32 → (Nat → Int32) → (Nat → Int32) → Option (Int32 × (Nat → Int32) × (Nat → Int32)) := lpF (fun _ _ _ _ _ => none) (s_zsolved_19 F Z_lefts Z_p Z_words Z_vector Z_now k9) n
def s_zsolved_9 (F : Nat) (Z_lefts Z_p Z_words : Int32) (Z_vector Z_now : Nat → Int32) (k9 : Int32 → Int32 → (Nat → Int32) → (Nat → Int32) → Option (Int32 × (Nat → Int32) × (Nat → Int32))) (i1 i2 : Int32) (Z_system Z_next : Nat → Int32) : Option (Int32 × (Nat → Int32) × (Nat → Int32)) :=
  if Z_lefts ≤ i2 then (b_zsolved_83 F Z_lefts Z_p Z_words Z_vector Z_now F i1 0 0 Z_system Z_next) else
  (b_zsolved_19 F Z_lefts Z_p Z_words Z_vector Z_now k9 F i1 i2 0 Z_system Z_next)
def b_zsolved_9 (F : Nat) (Z_lefts Z_p Z_words : Int32) (Z_vector Z_now : Nat → Int32) (n : Nat) : Int32 → Int32 → (Nat → Int32) → (Nat → Int32) → Option (Int32 × (Nat → Int32) × (Nat → Int32)) := lpF (fun _ _ _ _ => none) (s_zsolved_9 F Z_lefts Z_p Z_words Z_vector Z_now ) n
def m_zsolved (F : Nat) (Z_lefts Z_p Z_words : Int32) (Z_vector Z_now Z_system Z_next : Nat → Int32) : Option (Int32 × (Nat → Int32) × (Nat → Int32)) :=
  b_zsolved_9 F Z_lefts Z_p Z_words Z_vector Z_now F (Z_words + 1) 0 Z_system Z_next
def s_ztries_101 (F : Nat) (Z_lefts Z_n Z_p : Int32) (Z_product : Nat → Int32) (k101 : Int32 → Int32 → Int32 → (Nat → Int32) → (Nat → Int32) → (Nat → Int32) → (Nat → Int32) → (Nat → Int32) → (Nat → Int32) → (Nat → Int32) → Option (Int32 × Int32 × (Nat → Int32) × (Nat → Int32) × (Nat → Int32) × (Nat → Int32) × (Nat → Int32) × (Nat → Int32) × (Nat → Int32))) (i2 Z_leadsFound Z_words : Int32) (Z_lead Z_tail Z_word Z_vector Z_system Z_now Z_next : Nat → Int32) : Option (Int32 × Int32 × (Nat → Int32) × (Nat → Int32) × (Nat → Int32) × (Nat → Int32) × (Nat → Int32) × (Nat → Int32) × (Nat → Int32)) :=
  if 40 ≤ i2 then (some (Z_leadsFound, (Z_words + 1), Z_lead, Z_tail, Z_word, Z_vector, Z_system, Z_now, Z_next)) else
  (rdI 40 Z_now i2 fun x_1 =>
  wrI 1600 Z_vector ((40 * Z_words) + i2) x_1 fun Z_vector_2 =>
  k101 (i2 + 1) Z_leadsFound Z_words Z_lead Z_tail Z_word Z_vector_2 Z_system Z_now Z_next)
def b_ztries_101 (F : Nat) (Z_lefts Z_n Z_p : Int32) (Z_product : Nat → Int32) (n : Nat) : Int32 → Int32 → Int32 → (Nat → Int32) → (Nat → Int32) → (Nat → Int32) → (Nat → Int32) → (Nat → Int32) → (Nat → Int32) → (Nat → Int32) → Option (Int32 × Int32 × (Nat → Int32) × (Nat → Int32) × (Nat → Int32) × (Nat → Int32) × (Nat → Int32) × (Nat → Int32) × (Nat → Int32)) := lpF (fun _ _ _ _ _ _ _ _ _ _ => none) (s_ztries_101 F Z_lefts Z_n Z_p Z_product ) n
def s_ztries_71 (F : Nat) (Z_lefts Z_n Z_p : Int32) (Z_product : Nat → Int32) (k24 : Int32 → Int32 → Int32 → (Nat → Int32) → (Nat → Int32) → (Nat → Int32) → (Nat → Int32) → (Nat → Int32) → (Nat → Int32) → (Nat → Int32) → Option (Int32 × Int32 × (Nat → Int32) × (Nat → Int32) × (Nat → Int32) × (Nat → Int32) × (Nat → Int32) × (Nat → Int32) × (Nat → Int32))) (i2 t1 t2 Z_leadsFound Z_words : Int32) (Z_lead Z_tail Z_word Z_vector Z_system Z_now Z_next : Nat → Int32) : Option (Int32 × Int32 × (Nat → Int32) × (Nat → Int32) × (Nat → Int32) × (Nat → Int32) × (Nat → Int32) × (Nat → Int32) × (Nat → Int32)) :=
  wrI 6400 Z_tail t1 t2 fun Z_tail_1 =>
  k24 (i2 + 1) Z_leadsFound Z_words Z_lead Z_tail_1 Z_word Z_vector Z_system Z_now Z_next
def s_ztries_24 (F : Nat) (Z_lefts Z_n Z_p : Int32) (Z_product : Nat → Int32) (k24 : Int32 → Int32 → Int32 → (Nat → Int32) → (Nat → Int32) → (Nat → Int32) → (Nat → Int32) → (Nat → Int32) → (Nat → Int32) → (Nat → Int32) → Option (Int32 × Int32 × (Nat → Int32) × (Nat → Int32) × (Nat → Int32) × (Nat → Int32) × (Nat → Int32) × (Nat → Int32) × (Nat → Int32))) (i2 Z_leadsFound Z_words : Int32) (Z_lead Z_tail Z_word Z_vector Z_system Z_now Z_next : Nat → Int32) : Option (Int32 × Int32 × (Nat → Int32) × (Nat → Int32) × (Nat → Int32) × (Nat → Int32) × (Nat → Int32) × (Nat → Int32) × (Nat → Int32)) :=
  if 40 ≤ i2 then (some ((Z_leadsFound + 1), Z_words, Z_lead, Z_tail, Z_word, Z_vector, Z_system, Z_now, Z_next)) else
  (if Z_words ≤ i2 then (s_ztries_71 F Z_lefts Z_n Z_p Z_product k24 i2 ((40 * Z_leadsFound) + i2) 0 Z_leadsFound Z_words Z_lead Z_tail Z_word Z_vector Z_system Z_now Z_next) else
  (rdI 40 Z_next i2 fun x_1 =>
  nzI Z_p (s_ztries_71 F Z_lefts Z_n Z_p Z_product k24 i2 ((40 * Z_leadsFound) + i2) (remI (Z_p - x_1) Z_p) Z_leadsFound Z_words Z_lead Z_tail Z_word Z_vector Z_system Z_now Z_next)))
def b_ztries_24 (F : Nat) (Z_lefts Z_n Z_p : Int32) (Z_product : Nat → Int32) (n : Nat) : Int32 → Int32 → Int32 → (Nat → Int32) → (Nat → Int32) → (Nat → Int32) → (Nat → Int32) → (Nat → Int32) → (Nat → Int32) → (Nat → Int32) → Option (Int32 × Int32 × (Nat → Int32) × (Nat → Int32) × (Nat → Int32) × (Nat → Int32) × (Nat → Int32) × (Nat → Int32) × (Nat → Int32)) := lpF (fun _ _ _ _ _ _ _ _ _ _ => none) (s_ztries_24 F Z_lefts Z_n Z_p Z_product ) n
def m_ztries (F : Nat) (Z_lefts Z_n Z_p : Int32) (Z_product : Nat → Int32) (i1 Z_leadsFound Z_words : Int32) (Z_lead Z_tail Z_word Z_vector Z_system Z_now Z_next : Nat → Int32) : Option (Int32 × Int32 × (Nat → Int32) × (Nat → Int32) × (Nat → Int32) × (Nat → Int32) × (Nat → Int32) × (Nat → Int32) × (Nat → Int32)) :=
  bd2 (m_zcomesTo F Z_lefts Z_n Z_p Z_product i1 Z_now Z_next) fun Z_now_1 Z_next_2 =>
  bd3 (m_zsolved F Z_lefts Z_p Z_words Z_vector Z_now_1 Z_system Z_next_2) fun r_4 Z_system_5 Z_next_6 =>
  if r_4 = 0 then (wrI 40 Z_word Z_words i1 fun Z_word_8 =>
  b_ztries_101 F Z_lefts Z_n Z_p Z_product F 0 Z_leadsFound Z_words Z_lead Z_tail Z_word_8 Z_vector Z_system_5 Z_now_1 Z_next_6) else
  (wrI 160 Z_lead Z_leadsFound i1 fun Z_lead_9 =>
  b_ztries_24 F Z_lefts Z_n Z_p Z_product F 0 Z_leadsFound Z_words Z_lead_9 Z_tail Z_word Z_vector Z_system_5 Z_now_1 Z_next_6)
def s_zbehindLead_2 (F : Nat) (Z_leadsFound : Int32) (Z_lead : Nat → Int32) (k2 : Int32 → Int32 → Option (Int32)) (i1 i2 : Int32) : Option (Int32) :=
  if Z_leadsFound ≤ i2 then (some 0) else
  (rdI 160 Z_lead i2 fun x_1 =>
  bd1 (m_zdivides F x_1 i1) fun r_2 =>
  if r_2 = 0 then (k2 i1 (i2 + 1)) else
  (some 1))
def b_zbehindLead_2 (F : Nat) (Z_leadsFound : Int32) (Z_lead : Nat → Int32) (n : Nat) : Int32 → Int32 → Option (Int32) := lpF (fun _ _ => none) (s_zbehindLead_2 F Z_leadsFound Z_lead ) n
def m_zbehindLead (F : Nat) (Z_leadsFound : Int32) (Z_lead : Nat → Int32) (i1 : Int32) : Option (Int32) :=
  b_zbehindLead_2 F Z_leadsFound Z_lead F i1 0
def s_zfindDictionary_92 (F : Nat) (Z_lefts Z_n Z_p : Int32) (Z_product : Nat → Int32) (k14 : Int32 → Int32 → Int32 → Int32 → (Nat → Int32) → (Nat → Int32) → (Nat → Int32) → (Nat → Int32) → (Nat → Int32) → (Nat → Int32) → (Nat → Int32) → Option (Int32 × Int32 × (Nat → Int32) × (Nat → Int32) × (Nat → Int32) × (Nat → Int32) × (Nat → Int32) × (Nat → Int32) × (Nat → Int32))) (i1 i3 Z_leadsFound Z_words : Int32) (Z_lead Z_tail Z_word Z_vector Z_system Z_now Z_next : Nat → Int32) : Option (Int32 × Int32 × (Nat → Int32) × (Nat → Int32) × (Nat → Int32) × (Nat → Int32) × (Nat → Int32) × (Nat → Int32) × (Nat → Int32)) :=
  if i3 < 0 then (k14 i1 0 Z_leadsFound Z_words Z_lead Z_tail Z_word Z_vector Z_system Z_now Z_next) else
  (k14 i1 1 Z_leadsFound Z_words Z_lead Z_tail Z_word Z_vector Z_system Z_now Z_next)
def s_zfindDictionary_42 (F : Nat) (Z_lefts Z_n Z_p : Int32) (Z_product : Nat → Int32) (k14 : Int32 → Int32 → Int32 → Int32 → (Nat → Int32) → (Nat → Int32) → (Nat → Int32) → (Nat → Int32) → (Nat → Int32) → (Nat → Int32) → (Nat → Int32) → Option (Int32 × Int32 × (Nat → Int32) × (Nat → Int32) × (Nat → Int32) × (Nat → Int32) × (Nat → Int32) × (Nat → Int32) × (Nat → Int32))) (k42 : Int32 → Int32 → Int32 → Int32 → (Nat → Int32) → (Nat → Int32) → (Nat → Int32) → (Nat → Int32) → (Nat → Int32) → (Nat → Int32) → (Nat → Int32) → Option (Int32 × Int32 × (Nat → Int32) × (Nat → Int32) × (Nat → Int32) × (Nat → Int32) × (Nat → Int32) × (Nat → Int32) × (Nat → Int32))) (i1 i3 Z_leadsFound Z_words : Int32) (Z_lead Z_tail Z_word Z_vector Z_system Z_now Z_next : Nat → Int32) : Option (Int32 × Int32 × (Nat → Int32) × (Nat → Int32) × (Nat → Int32) × (Nat → Int32) × (Nat → Int32) × (Nat → Int32) × (Nat → Int32)) :=
  if i3 < 0 then (s_zfindDictionary_92 F Z_lefts Z_n Z_p Z_product k14 i1 i3 Z_leadsFound Z_words Z_lead Z_tail Z_word Z_vector Z_system Z_now Z_next) else
  (bd1 (m_zbehindLead F Z_leadsFound Z_lead i1) fun r_1 =>
  if r_1 = 0 then (s_zfindDictionary_92 F Z_lefts Z_n Z_p Z_product k14 i1 i3 Z_leadsFound Z_words Z_lead Z_tail Z_word Z_vector Z_system Z_now Z_next) else
  (bd1 (m_zexponent F i1 i3) fun r_2 =>
  if (i3 + (-1)) < 0 then (k42 (i1 - (shlI r_2 (24 - (8 * i3)))) (i3 + (-1)) Z_leadsFound Z_words Z_lead Z_tail Z_word Z_vector Z_system Z_now Z_next) else
  (k42 ((i1 - (shlI r_2 (24 - (8 * i3)))) + (shlI 1 (24 - (8 * (i3 + (-1)))))) (i3 + (-1)) Z_leadsFound Z_words Z_lead Z_tail Z_word Z_vector Z_system Z_now Z_next)))
def b_zfindDictionary_42 (F : Nat) (Z_lefts Z_n Z_p : Int32) (Z_product : Nat → Int32) (k14 : Int32 → Int32 → Int32 → Int32 → (Nat → Int32) → (Nat → Int32) → (Nat → Int32) → (Nat → Int32) → (Nat → Int32) → (Nat → Int32) → (Nat → Int32) → Option (Int32 × Int32 × (Nat → Int32) × (Nat → Int32) × (Nat → Int32) × (Nat → Int32) × (Nat → Int32) × (Nat → Int32) × (Nat → Int32))) (n : Nat) : Int32 → Int32 → Int32 → Int32 → (Nat → Int32) → (Nat → Int32) → (Nat → Int32) → (Nat → Int32) → (Nat → Int32) → (Nat → Int32) → (Nat → Int32) → Option (Int32 × Int32 × (Nat → Int32) × (Nat → Int32) × (Nat → Int32) × (Nat → Int32) × (Nat → Int32) × (Nat → Int32) × (Nat → Int32)) := lpF (fun _ _ _ _ _ _ _ _ _ _ _ => none) (s_zfindDictionary_42 F Z_lefts Z_n Z_p Z_product k14) n
def s_zfindDictionary_14 (F : Nat) (Z_lefts Z_n Z_p : Int32) (Z_product : Nat → Int32) (k14 : Int32 → Int32 → Int32 → Int32 → (Nat → Int32) → (Nat → Int32) → (Nat → Int32) → (Nat → Int32) → (Nat → Int32) → (Nat → Int32) → (Nat → Int32) → Option (Int32 × Int32 × (Nat → Int32) × (Nat → Int32) × (Nat → Int32) × (Nat → Int32) × (Nat → Int32) × (Nat → Int32) × (Nat → Int32))) (i1 i2 Z_leadsFound Z_words : Int32) (Z_lead Z_tail Z_word Z_vector Z_system Z_now Z_next : Nat → Int32) : Option (Int32 × Int32 × (Nat → Int32) × (Nat → Int32) × (Nat → Int32) × (Nat → Int32) × (Nat → Int32) × (Nat → Int32) × (Nat → Int32)) :=
  if i2 = 0 then (some (Z_leadsFound, Z_words, Z_lead, Z_tail, Z_word, Z_vector, Z_system, Z_now, Z_next)) else
  (bd9 (m_ztries F Z_lefts Z_n Z_p Z_product i1 Z_leadsFound Z_words Z_lead Z_tail Z_word Z_vector Z_system Z_now Z_next) fun Z_leadsFound_1 Z_words_2 Z_lead_3 Z_tail_4 Z_word_5 Z_vector_6 Z_system_7 Z_now_8 Z_next_9 =>
  b_zfindDictionary_42 F Z_lefts Z_n Z_p Z_product k14 F (i1 + (shlI 1 (24 - (8 * (Z_n - 1))))) (Z_n - 1) Z_leadsFound_1 Z_words_2 Z_lead_3 Z_tail_4 Z_word_5 Z_vector_6 Z_system_7 Z_now_8 Z_next_9)
def b_zfindDictionary_14 (F : Nat) (Z_lefts Z_n Z_p : Int32) (Z_product : Nat → Int32) (n : Nat) : Int32 → Int32 → Int32 → Int32 → (Nat → Int32) → (Nat → Int32) → (Nat → Int32) → (Nat → Int32) → (Nat → Int32) → (Nat → Int32) → (Nat → Int32) → Option (Int32 × Int32 × (Nat → Int32) × (Nat → Int32) × (Nat → Int32) × (Nat → Int32) × (Nat → Int32) × (Nat → Int32) × (Nat → Int32)) := lpF (fun _ _ _ _ _ _ _ _ _ _ _ => none) (s_zfindDictionary_14 F Z_lefts Z_n Z_p Z_product ) n
def m_zfindDictionary (F : Nat) (Z_lefts Z_n Z_p : Int32) (Z_product : Nat → Int32) (Z_leadsFound Z_words : Int32) (Z_lead Z_tail Z_word Z_vector Z_system Z_now Z_next : Nat → Int32) : Option (Int32 × Int32 × (Nat → Int32) × (Nat → Int32) × (Nat → Int32) × (Nat → Int32) × (Nat → Int32) × (Nat → Int32) × (Nat → Int32)) :=
  b_zfindDictionary_14 F Z_lefts Z_n Z_p Z_product F 0 1 0 0 Z_lead Z_tail Z_word Z_vector Z_system Z_now Z_next
def s_zfind_157 (F : Nat) (Z_generators Z_monomials Z_n Z_order Z_p : Int32) (Z_mono Z_degree Z_generator : Nat → Int32)  (Z_leadsFound Z_lefts Z_members Z_thrownCode Z_upTo Z_vars Z_words : Int32) (Z_has Z_row Z_work Z_basis Z_rest Z_product Z_known Z_lead Z_tail Z_word Z_vector Z_system Z_now Z_next : Nat → Int32) : Option (Int32 × Int32 × Int32 × Int32 × Int32 × Int32 × Int32 × Int32 × (Nat → Int32) × (Nat → Int32) × (Nat → Int32) × (Nat → Int32) × (Nat → Int32) × (Nat → Int32) × (Nat → Int32) × (Nat → Int32) × (Nat → Int32) × (Nat → Int32) × (Nat → Int32) × (Nat → Int32) × (Nat → Int32) × (Nat → Int32)) :=
  some (0, 0, 0, Z_members, 2, Z_upTo, Z_vars, Z_words, Z_has, Z_row, Z_work, Z_basis, Z_rest, Z_product, Z_known, Z_lead, Z_tail, Z_word, Z_vector, Z_system, Z_now, Z_next)
def s_zfind_113 (F : Nat) (Z_generators Z_monomials Z_n Z_order Z_p : Int32) (Z_mono Z_degree Z_generator : Nat → Int32) (k50 : Int32 → Int32 → Int32 → Int32 → Int32 → Int32 → Int32 → Int32 → (Nat → Int32) → (Nat → Int32) → (Nat → Int32) → (Nat → Int32) → (Nat → Int32) → (Nat → Int32) → (Nat → Int32) → (Nat → Int32) → (Nat → Int32) → (Nat → Int32) → (Nat → Int32) → (Nat → Int32) → (Nat → Int32) → (Nat → Int32) → Option (Int32 × Int32 × Int32 × Int32 × Int32 × Int32 × Int32 × Int32 × (Nat → Int32) × (Nat → Int32) × (Nat → Int32) × (Nat → Int32) × (Nat → Int32) × (Nat → Int32) × (Nat → Int32) × (Nat → Int32) × (Nat → Int32) × (Nat → Int32) × (Nat → Int32) × (Nat → Int32) × (Nat → Int32) × (Nat → Int32))) (i2 i3 Z_leadsFound Z_lefts Z_members Z_thrownCode Z_upTo Z_vars Z_words : Int32) (Z_has Z_row Z_work Z_basis Z_rest Z_product Z_known Z_lead Z_tail Z_word Z_vector Z_system Z_now Z_next : Nat → Int32) : Option (Int32 × Int32 × Int32 × Int32 × Int32 × Int32 × Int32 × Int32 × (Nat → Int32) × (Nat → Int32) × (Nat → Int32) × (Nat → Int32) × (Nat → Int32) × (Nat → Int32) × (Nat → Int32) × (Nat → Int32) × (Nat → Int32) × (Nat → Int32) × (Nat → Int32) × (Nat → Int32) × (Nat → Int32) × (Nat → Int32)) :=
  if i3 = 0 then (k50 (i2 + 1) Z_leadsFound Z_lefts Z_members Z_thrownCode Z_upTo Z_vars Z_words Z_has Z_row Z_work Z_basis Z_rest Z_product Z_known Z_lead Z_tail Z_word Z_vector Z_system Z_now Z_next) else
  (wrI 126 Z_basis Z_members i2 fun Z_basis_1 =>
  k50 (i2 + 1) Z_leadsFound Z_lefts (Z_members + 1) Z_thrownCode Z_upTo Z_vars Z_words Z_has Z_row Z_work Z_basis_1 Z_rest Z_product Z_known Z_lead Z_tail Z_word Z_vector Z_system Z_now Z_next)
def s_zfind_68 (F : Nat) (Z_generators Z_monomials Z_n Z_order Z_p : Int32) (Z_mono Z_degree Z_generator : Nat → Int32) (k50 : Int32 → Int32 → Int32 → Int32 → Int32 → Int32 → Int32 → Int32 → (Nat → Int32) → (Nat → Int32) → (Nat → Int32) → (Nat → Int32) → (Nat → Int32) → (Nat → Int32) → (Nat → Int32) → (Nat → Int32) → (Nat → Int32) → (Nat → Int32) → (Nat → Int32) → (Nat → Int32) → (Nat → Int32) → (Nat → Int32) → Option (Int32 × Int32 × Int32 × Int32 × Int32 × Int32 × Int32 × Int32 × (Nat → Int32) × (Nat → Int32) × (Nat → Int32) × (Nat → Int32) × (Nat → Int32) × (Nat → Int32) × (Nat → Int32) × (Nat → Int32) × (Nat → Int32) × (Nat → Int32) × (Nat → Int32) × (Nat → Int32) × (Nat → Int32) × (Nat → Int32))) (k68 : Int32 → Int32 → Int32 → Int32 → Int32 → Int32 → Int32 → Int32 → Int32 → Int32 → (Nat → Int32) → (Nat → Int32) → (Nat → Int32) → (Nat → Int32) → (Nat → Int32) → (Nat → Int32) → (Nat → Int32) → (Nat → Int32) → (Nat → Int32) → (Nat → Int32) → (Nat → Int32) → (Nat → Int32) → (Nat → Int32) → (Nat → Int32) → Option (Int32 × Int32 × Int32 × Int32 × Int32 × Int32 × Int32 × Int32 × (Nat → Int32) × (Nat → Int32) × (Nat → Int32) × (Nat → Int32) × (Nat → Int32) × (Nat → Int32) × (Nat → Int32) × (Nat → Int32) × (Nat → Int32) × (Nat → Int32) × (Nat → Int32) × (Nat → Int32) × (Nat → Int32) × (Nat → Int32))) (i2 i3 i4 Z_leadsFound Z_lefts Z_members Z_thrownCode Z_upTo Z_vars Z_words : Int32) (Z_has Z_row Z_work Z_basis Z_rest Z_product Z_known Z_lead Z_tail Z_word Z_vector Z_system Z_now Z_next : Nat → Int32) : Option (Int32 × Int32 × Int32 × Int32 × Int32 × Int32 × Int32 × Int32 × (Nat → Int32) × (Nat → Int32) × (Nat → Int32) × (Nat → Int32) × (Nat → Int32) × (Nat → Int32) × (Nat → Int32) × (Nat → Int32) × (Nat → Int32) × (Nat → Int32) × (Nat → Int32) × (Nat → Int32) × (Nat → Int32) × (Nat → Int32)) :=
  if Z_members ≤ i4 then (s_zfind_113 F Z_generators Z_monomials Z_n Z_order Z_p Z_mono Z_degree Z_generator k50 i2 i3 Z_leadsFound Z_lefts Z_members Z_thrownCode Z_upTo Z_vars Z_words Z_has Z_row Z_work Z_basis Z_rest Z_product Z_known Z_lead Z_tail Z_word Z_vector Z_system Z_now Z_next) else
  (if i3 = 0 then (s_zfind_113 F Z_generators Z_monomials Z_n Z_order Z_p Z_mono Z_degree Z_generator k50 i2 i3 Z_leadsFound Z_lefts Z_members Z_thrownCode Z_upTo Z_vars Z_words Z_has Z_row Z_work Z_basis Z_rest Z_product Z_known Z_lead Z_tail Z_word Z_vector Z_system Z_now Z_next) else
  (rdI 126 Z_basis i4 fun x_1 =>
  rdI 126 Z_mono x_1 fun x_2 =>
  rdI 126 Z_mono i2 fun x_3 =>
  bd1 (m_zdivides F x_2 x_3) fun r_4 =>
  if r_4 = 0 then (k68 i2 i3 (i4 + 1) Z_leadsFound Z_lefts Z_members Z_thrownCode Z_upTo Z_vars Z_words Z_has Z_row Z_work Z_basis Z_rest Z_product Z_known Z_lead Z_tail Z_word Z_vector Z_system Z_now Z_next) else
  (k68 i2 0 (i4 + 1) Z_leadsFound Z_lefts Z_members Z_thrownCode Z_upTo Z_vars Z_words Z_has Z_row Z_work Z_basis Z_rest Z_product Z_known Z_lead Z_tail Z_word Z_vector Z_system Z_now Z_next)))
def b_zfind_68 (F : Nat) (Z_generators Z_monomials Z_n Z_order Z_p : Int32) (Z_mono Z_degree Z_generator : Nat → Int32) (k50 : Int32 → Int32 → Int32 → Int32 → Int32 → Int32 → Int32 → Int32 → (Nat → Int32) → (Nat → Int32) → (Nat → Int32) → (Nat → Int32) → (Nat → Int32) → (Nat → Int32) → (Nat → Int32) → (Nat → Int32) → (Nat → Int32) → (Nat → Int32) → (Nat → Int32) → (Nat → Int32) → (Nat → Int32) → (Nat → Int32) → Option (Int32 × Int32 × Int32 × Int32 × Int32 × Int32 × Int32 × Int32 × (Nat → Int32) × (Nat → Int32) × (Nat → Int32) × (Nat → Int32) × (Nat → Int32) × (Nat → Int32) × (Nat → Int32) × (Nat → Int32) × (Nat → Int32) × (Nat → Int32) × (Nat → Int32) × (Nat → Int32) × (Nat → Int32) × (Nat → Int32))) (n : Nat) : Int32 → Int32 → Int32 → Int32 → Int32 → Int32 → Int32 → Int32 → Int32 → Int32 → (Nat → Int32) → (Nat → Int32) → (Nat → Int32) → (Nat → Int32) → (Nat → Int32) → (Nat → Int32) → (Nat → Int32) → (Nat → Int32) → (Nat → Int32) → (Nat → Int32) → (Nat → Int32) → (Nat → Int32) → (Nat → Int32) → (Nat → Int32) → Option (Int32 × Int32 × Int32 × Int32 × Int32 × Int32 × Int32 × Int32 × (Nat → Int32) × (Nat → Int32) × (Nat → Int32) × (Nat → Int32) × (Nat → Int32) × (Nat → Int32) × (Nat → Int32) × (Nat → Int32) × (Nat → Int32) × (Nat → Int32) × (Nat → Int32) × (Nat → Int32) × (Nat → Int32) × (Nat → Int32)) := lpF (fun _ _ _ _ _ _ _ _ _ _ _ _ _ _ _ _ _ _ _ _ _ _ _ _ => none) (s_zfind_68 F Z_generators Z_monomials Z_n Z_order Z_p Z_mono Z_degree Z_generator k50) n
def s_zfind_50 (F : Nat) (Z_generators Z_monomials Z_n Z_order Z_p : Int32) (Z_mono Z_degree Z_generator : Nat → Int32) (k50 : Int32 → Int32 → Int32 → Int32 → Int32 → Int32 → Int32 → Int32 → (Nat → Int32) → (Nat → Int32) → (Nat → Int32) → (Nat → Int32) → (Nat → Int32) → (Nat → Int32) → (Nat → Int32) → (Nat → Int32) → (Nat → Int32) → (Nat → Int32) → (Nat → Int32) → (Nat → Int32) → (Nat → Int32) → (Nat → Int32) → Option (Int32 × Int32 × Int32 × Int32 × Int32 × Int32 × Int32 × Int32 × (Nat → Int32) × (Nat → Int32) × (Nat → Int32) × (Nat → Int32) × (Nat → Int32) × (Nat → Int32) × (Nat → Int32) × (Nat → Int32) × (Nat → Int32) × (Nat → Int32) × (Nat → Int32) × (Nat → Int32) × (Nat → Int32) × (Nat → Int32))) (i2 Z_leadsFound Z_lefts Z_members Z_thrownCode Z_upTo Z_vars Z_words : Int32) (Z_has Z_row Z_work Z_basis Z_rest Z_product Z_known Z_lead Z_tail Z_word Z_vector Z_system Z_now Z_next : Nat → Int32) : Option (Int32 × Int32 × Int32 × Int32 × Int32 × Int32 × Int32 × Int32 × (Nat → Int32) × (Nat → Int32) × (Nat → Int32) × (Nat → Int32) × (Nat → Int32) × (Nat → Int32) × (Nat → Int32) × (Nat → Int32) × (Nat → Int32) × (Nat → Int32) × (Nat → Int32) × (Nat → Int32) × (Nat → Int32) × (Nat → Int32)) :=
  if Z_monomials ≤ i2 then (bd1 (m_zcomplete F Z_generators Z_members Z_monomials Z_upTo Z_mono Z_degree Z_generator Z_basis) fun r_1 =>
  if r_1 = 0 then (s_zfind_157 F Z_generators Z_monomials Z_n Z_order Z_p Z_mono Z_degree Z_generator Z_leadsFound Z_lefts Z_members Z_thrownCode Z_upTo Z_vars Z_words Z_has Z_row Z_work Z_basis Z_rest Z_product Z_known Z_lead Z_tail Z_word Z_vector Z_system Z_now Z_next) else
  (bd3 (m_zfindRest F Z_members Z_n Z_order Z_mono Z_basis Z_lefts Z_rest) fun r_2 Z_lefts_3 Z_rest_4 =>
  if r_2 = 0 then (s_zfind_157 F Z_generators Z_monomials Z_n Z_order Z_p Z_mono Z_degree Z_generator Z_leadsFound Z_lefts_3 Z_members Z_thrownCode Z_upTo Z_vars Z_words Z_has Z_row Z_work Z_basis Z_rest_4 Z_product Z_known Z_lead Z_tail Z_word Z_vector Z_system Z_now Z_next) else
  (bd2 (m_zfindProducts F Z_lefts_3 Z_members Z_n Z_order Z_p Z_mono Z_row Z_basis Z_rest_4 Z_product Z_known) fun Z_product_6 Z_known_7 =>
  bd9 (m_zfindDictionary F Z_lefts_3 Z_n Z_p Z_product_6 Z_leadsFound Z_words Z_lead Z_tail Z_word Z_vector Z_system Z_now Z_next) fun Z_leadsFound_9 Z_words_10 Z_lead_11 Z_tail_12 Z_word_13 Z_vector_14 Z_system_15 Z_now_16 Z_next_17 =>
  some (Z_lefts_3, Z_leadsFound_9, Z_lefts_3, Z_members, Z_thrownCode, Z_upTo, Z_n, Z_words_10, Z_has, Z_row, Z_work, Z_basis, Z_rest_4, Z_product_6, Z_known_7, Z_lead_11, Z_tail_12, Z_word_13, Z_vector_14, Z_system_15, Z_now_16, Z_next_17)))) else
  (rdI 126 Z_has i2 fun x_19 =>
  b_zfind_68 F Z_generators Z_monomials Z_n Z_order Z_p Z_mono Z_degree Z_generator k50 F i2 x_19 0 Z_leadsFound Z_lefts Z_members Z_thrownCode Z_upTo Z_vars Z_words Z_has Z_row Z_work Z_basis Z_rest Z_product Z_known Z_lead Z_tail Z_word Z_vector Z_system Z_now Z_next)
def b_zfind_50 (F : Nat) (Z_generators Z_monomials Z_n Z_order Z_p : Int32) (Z_mono Z_degree Z_generator : Nat → Int32) (n : Nat) : Int32 → Int32 → Int32 → Int32 → Int32 → Int32 → Int32 → Int32 → (Nat → Int32) → (Nat → Int32) → (Nat → Int32) → (Nat → Int32) → (Nat → Int32) → (Nat → Int32) → (Nat → Int32) → (Nat → Int32) → (Nat → Int32) → (Nat → Int32) → (Nat → Int32) → (Nat → Int32) → (Nat → Int32) → (Nat → Int32) → Option (Int32 × Int32 × Int32 × Int32 × Int32 × Int32 × Int32 × Int32 × (Nat → Int32) × (Nat → Int32) × (Nat → Int32) × (Nat → Int32) × (Nat → Int32) × (Nat → Int32) × (Nat → Int32) × (Nat → Int32) × (Nat → Int32) × (Nat → Int32) × (Nat → Int32) × (Nat → Int32) × (Nat → Int32) × (Nat → Int32)) := lpF (fun _ _ _ _ _ _ _ _ _ _ _ _ _ _ _ _ _ _ _ _ _ _ => none) (s_zfind_50 F Z_generators Z_monomials Z_n Z_order Z_p Z_mono Z_degree Z_generator ) n
def s_zfind_21 (F : Nat) (Z_generators Z_monomials Z_n Z_order Z_p : Int32) (Z_mono Z_degree Z_generator : Nat → Int32)  (i1 t1 Z_leadsFound Z_lefts Z_members Z_thrownCode Z_upTo Z_vars Z_words : Int32) (Z_has Z_row Z_work Z_basis Z_rest Z_product Z_known Z_lead Z_tail Z_word Z_vector Z_system Z_now Z_next : Nat → Int32) : Option (Int32 × Int32 × Int32 × Int32 × Int32 × Int32 × Int32 × Int32 × (Nat → Int32) × (Nat → Int32) × (Nat → Int32) × (Nat → Int32) × (Nat → Int32) × (Nat → Int32) × (Nat → Int32) × (Nat → Int32) × (Nat → Int32) × (Nat → Int32) × (Nat → Int32) × (Nat → Int32) × (Nat → Int32) × (Nat → Int32)) :=
  if t1 = 0 then (bd3 (m_zfindSpace F Z_generators Z_monomials Z_n Z_p Z_mono Z_degree Z_generator i1 Z_has Z_row Z_work) fun Z_has_1 Z_row_2 Z_work_3 =>
  b_zfind_50 F Z_generators Z_monomials Z_n Z_order Z_p Z_mono Z_degree Z_generator F 0 Z_leadsFound Z_lefts 0 t1 i1 Z_vars Z_words Z_has_1 Z_row_2 Z_work_3 Z_basis Z_rest Z_product Z_known Z_lead Z_tail Z_word Z_vector Z_system Z_now Z_next) else
  (some (0, Z_leadsFound, Z_lefts, Z_members, t1, Z_upTo, Z_vars, Z_words, Z_has, Z_row, Z_work, Z_basis, Z_rest, Z_product, Z_known, Z_lead, Z_tail, Z_word, Z_vector, Z_system, Z_now, Z_next))
def s_zfind_16 (F : Nat) (Z_generators Z_monomials Z_n Z_order Z_p : Int32) (Z_mono Z_degree Z_generator : Nat → Int32)  (i1 Z_leadsFound Z_lefts Z_members Z_thrownCode Z_upTo Z_vars Z_words : Int32) (Z_has Z_row Z_work Z_basis Z_rest Z_product Z_known Z_lead Z_tail Z_word Z_vector Z_system Z_now Z_next : Nat → Int32) : Option (Int32 × Int32 × Int32 × Int32 × Int32 × Int32 × Int32 × Int32 × (Nat → Int32) × (Nat → Int32) × (Nat → Int32) × (Nat → Int32) × (Nat → Int32) × (Nat → Int32) × (Nat → Int32) × (Nat → Int32) × (Nat → Int32) × (Nat → Int32) × (Nat → Int32) × (Nat → Int32) × (Nat → Int32) × (Nat → Int32)) :=
  s_zfind_21 F Z_generators Z_monomials Z_n Z_order Z_p Z_mono Z_degree Z_generator i1 1 Z_leadsFound Z_lefts Z_members Z_thrownCode Z_upTo Z_vars Z_words Z_has Z_row Z_work Z_basis Z_rest Z_product Z_known Z_lead Z_tail Z_word Z_vector Z_system Z_now Z_next
def m_zfind (F : Nat) (Z_generators Z_monomials Z_n Z_order Z_p : Int32) (Z_mono Z_degree Z_generator : Nat → Int32) (i1 Z_leadsFound Z_lefts Z_members Z_thrownCode Z_upTo Z_vars Z_words : Int32) (Z_has Z_row Z_work Z_basis Z_rest Z_product Z_known Z_lead Z_tail Z_word Z_vector Z_system Z_now Z_next : Nat → Int32) : Option (Int32 × Int32 × Int32 × Int32 × Int32 × Int32 × Int32 × Int32 × (Nat → Int32) × (Nat → Int32) × (Nat → Int32) × (Nat → Int32) × (Nat → Int32) × (Nat → Int32) × (Nat → Int32) × (Nat → Int32) × (Nat → Int32) × (Nat → Int32) × (Nat → Int32) × (Nat → Int32) × (Nat → Int32) × (Nat → Int32)) :=
  if i1 < 0 then (s_zfind_16 F Z_generators Z_monomials Z_n Z_order Z_p Z_mono Z_degree Z_generator i1 Z_leadsFound Z_lefts Z_members Z_thrownCode Z_upTo Z_vars Z_words Z_has Z_row Z_work Z_basis Z_rest Z_product Z_known Z_lead Z_tail Z_word Z_vector Z_system Z_now Z_next) else
  (bd1 (m_zhighest F Z_n) fun r_1 =>
  if i1 ≤ r_1 then (s_zfind_21 F Z_generators Z_monomials Z_n Z_order Z_p Z_mono Z_degree Z_generator i1 0 Z_leadsFound Z_lefts Z_members Z_thrownCode Z_upTo Z_vars Z_words Z_has Z_row Z_work Z_basis Z_rest Z_product Z_known Z_lead Z_tail Z_word Z_vector Z_system Z_now Z_next) else
  (s_zfind_16 F Z_generators Z_monomials Z_n Z_order Z_p Z_mono Z_degree Z_generator i1 Z_leadsFound Z_lefts Z_members Z_thrownCode Z_upTo Z_vars Z_words Z_has Z_row Z_work Z_basis Z_rest Z_product Z_known Z_lead Z_tail Z_word Z_vector Z_system Z_now Z_next))
def m_zleft (F : Nat) (Z_lefts : Int32) (Z_rest : Nat → Int32) (i1 Z_thrownCode : Int32) : Option (Int32 × Int32) :=
  if i1 < 0 then (some ((-1), 0)) else
  (if i1 < Z_lefts then (rdI 41 Z_rest i1 fun x_1 =>
  some (x_1, 0)) else
  (some ((-1), 0)))
def s_ztimes_46 (F : Nat) (Z_lefts Z_vars : Int32) (Z_product : Nat → Int32)  (i1 i2 i3 t0 Z_thrownCode : Int32) : Option (Int32 × Int32) :=
  if t0 = 0 then (rdI 6400 Z_product (((1600 * i1) + (40 * i2)) + i3) fun x_1 =>
  some (x_1, Z_thrownCode)) else
  (some ((-1), Z_thrownCode))
def s_ztimes_41 (F : Nat) (Z_lefts Z_vars : Int32) (Z_product : Nat → Int32)  (i1 i2 i3 Z_thrownCode : Int32) : Option (Int32 × Int32) :=
  s_ztimes_46 F Z_lefts Z_vars Z_product i1 i2 i3 1 Z_thrownCode
def m_ztimes (F : Nat) (Z_lefts Z_vars : Int32) (Z_product : Nat → Int32) (i1 i2 i3 Z_thrownCode : Int32) : Option (Int32 × Int32) :=
  if i1 < 0 then (s_ztimes_41 F Z_lefts Z_vars Z_product i1 i2 i3 0) else
  (if Z_vars ≤ i1 then (s_ztimes_41 F Z_lefts Z_vars Z_product i1 i2 i3 0) else
  (if i2 < 0 then (s_ztimes_41 F Z_lefts Z_vars Z_product i1 i2 i3 0) else
  (if Z_lefts ≤ i2 then (s_ztimes_41 F Z_lefts Z_vars Z_product i1 i2 i3 0) else
  (if i3 < 0 then (s_ztimes_41 F Z_lefts Z_vars Z_product i1 i2 i3 0) else
  (if i3 < Z_lefts then (s_ztimes_46 F Z_lefts Z_vars Z_product i1 i2 i3 0 0) else
  (s_ztimes_41 F Z_lefts Z_vars Z_product i1 i2 i3 0))))))
def m_zdictionary (F : Nat) (Z_leadsFound Z_thrownCode : Int32) : Option (Int32 × Int32) :=
  some (Z_leadsFound, 0)
def s_zentry_58 (F : Nat) (Z_leadsFound : Int32) (Z_lead Z_tail Z_word : Nat → Int32) (k58 : Int32 → Int32 → Int32 → Int32 → Int32 → Int32 → Option (Int32 × Int32)) (i1 i2 i3 i4 i5 Z_thrownCode : Int32) : Option (Int32 × Int32) :=
  if i5 < 0 then (some ((-1), Z_thrownCode)) else
  (rdI 6400 Z_tail ((40 * i1) + i5) fun x_1 =>
  if x_1 = 0 then (k58 i1 i2 i3 i4 (i5 + (-1)) Z_thrownCode) else
  (if (i4 + 1) = i2 then (if i3 = 0 then (rdI 40 Z_word i5 fun x_3 =>
  some (x_3, Z_thrownCode)) else
  (rdI 6400 Z_tail ((40 * i1) + i5) fun x_2 =>
  some (x_2, Z_thrownCode))) else
  (k58 i1 i2 i3 (i4 + 1) (i5 + (-1)) Z_thrownCode)))
def b_zentry_58 (F : Nat) (Z_leadsFound : Int32) (Z_lead Z_tail Z_word : Nat → Int32) (n : Nat) : Int32 → Int32 → Int32 → Int32 → Int32 → Int32 → Option (Int32 × Int32) := lpF (fun _ _ _ _ _ _ => none) (s_zentry_58 F Z_leadsFound Z_lead Z_tail Z_word ) n
def m_zentry (F : Nat) (Z_leadsFound : Int32) (Z_lead Z_tail Z_word : Nat → Int32) (i1 i2 i3 Z_thrownCode : Int32) : Option (Int32 × Int32) :=
  if i1 < 0 then (some ((-1), 0)) else
  (if Z_leadsFound ≤ i1 then (some ((-1), 0)) else
  (if i2 < 0 then (some ((-1), 0)) else
  (if i3 < 0 then (some ((-1), 0)) else
  (if i3 ≤ 1 then (if i2 = 0 then (if i3 = 0 then (rdI 160 Z_lead i1 fun x_1 =>
  some (x_1, 0)) else
  (some (1, 0))) else
  (b_zentry_58 F Z_leadsFound Z_lead Z_tail Z_word F i1 i2 i3 0 39 0)) else
  (some ((-1), 0))))))
