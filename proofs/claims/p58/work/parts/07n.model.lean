/-! a plain model, as pure functions: the mirrors of the reference in the proof of the whole, here no more than definitions -/
def fX8_begins_x2_19 (s_x2_19 : st_) : Option (st_) :=
  gd_ (ib_ (3 : Int32) 12584) <|
  bd_ (pt_ s_x2_19 0 (ix_ (3 : Int32)) (1 : Int32)) fun s2 =>
  gd_ (ib_ (5 : Int32) 12584) <|
  bd_ (pt_ s2 0 (ix_ (5 : Int32)) (2 : Int32)) fun s7 =>
  gd_ (ib_ (7 : Int32) 12584) <|
  bd_ (pt_ s7 0 (ix_ (7 : Int32)) (100 : Int32)) fun s12 =>
  gd_ (ib_ (8 : Int32) 12584) <|
  bd_ (pt_ s12 0 (ix_ (8 : Int32)) (1 : Int32)) fun s17 =>
  gd_ (ib_ (11 : Int32) 12584) <|
  bd_ (pt_ s17 0 (ix_ (11 : Int32)) (-1 : Int32)) fun s22 =>
  gd_ (ib_ (12 : Int32) 12584) <|
  bd_ (pt_ s22 0 (ix_ (12 : Int32)) (-1 : Int32)) fun s27 =>
  gd_ (ib_ (19 : Int32) 12584) <|
  bd_ (pt_ s27 0 (ix_ (19 : Int32)) (-1 : Int32)) fun s32 =>
  gd_ (ib_ (13 : Int32) 12584) <|
  bd_ (pt_ s32 0 (ix_ (13 : Int32)) (-1 : Int32)) fun s37 =>
  gd_ (ib_ (21 : Int32) 12584) <|
  bd_ (pt_ s37 0 (ix_ (21 : Int32)) (-1 : Int32)) fun s42 =>
  gd_ (ib_ (25 : Int32) 12584) <|
  bd_ (pt_ s42 0 (ix_ (25 : Int32)) (-1 : Int32)) fun s47 =>
  some s47
def fX8_begins_k2 (x : st_) : Option (st_) :=
  fX8_begins_x2_19 x
def fX8_begins_b2 (v1_b2 : Int32) (s_b2 : st_) : Option ((Int32 × st_) ⊕ (st_)) :=
  if (12584 : Int32) ≤ v1_b2 then (some (.inr s_b2))
  else (gd_ (ib_ v1_b2 12584) <|
  bd_ (pt_ s_b2 0 (ix_ v1_b2) (0 : Int32)) fun s52 =>
  some (.inl ((v1_b2 + (1 : Int32)), s52)))
def fX8_begins_l2 : Nat → (Int32 × st_) → Option (st_) :=
  it_ (fun v => fX8_begins_b2 v.1 v.2)
def fX8_begins (s : st_) : Option (st_) :=
  bn_ (fX8_begins_l2 FU_ ((0 : Int32), s)) (fX8_begins_k2)
def fX8_completes_x52_90 (s_x52_90 : st_) : Option (st_) :=
  some s_x52_90
def fX8_completes_k52 (x : st_) : Option (st_) :=
  fX8_completes_x52_90 x
def fX8_completes_b52 (v1_b52 : Int32) (s_b52 : st_) : Option ((Int32 × st_) ⊕ (st_)) :=
  if (8 : Int32) ≤ v1_b52 then (some (.inr s_b52))
  else (gd_ (ib_ (1 : Int32) 12584) <|
  gd_ (ib_ (((72 : Int32) + ((47 : Int32) * v1_b52)) + (0 : Int32)) 12584) <|
  bd_ (pt_ s_b52 0 (ix_ (((72 : Int32) + ((47 : Int32) * v1_b52)) + (0 : Int32))) (s_b52 0 (ix_ (1 : Int32)))) fun s10 =>
  gd_ (ib_ (((72 : Int32) + ((47 : Int32) * v1_b52)) + (1 : Int32)) 12584) <|
  bd_ (pt_ s10 0 (ix_ (((72 : Int32) + ((47 : Int32) * v1_b52)) + (1 : Int32))) (1 : Int32)) fun s15 =>
  some (.inl ((v1_b52 + (1 : Int32)), s15)))
def fX8_completes_l52 : Nat → (Int32 × st_) → Option (st_) :=
  it_ (fun v => fX8_completes_b52 v.1 v.2)
def fX8_completes_x17_42 (s_x17_42 : st_) : Option (st_) :=
  gd_ (ib_ (8 : Int32) 12584) <|
  gd_ (ib_ (23 : Int32) 12584) <|
  bd_ (pt_ s_x17_42 0 (ix_ (23 : Int32)) (s_x17_42 0 (ix_ (8 : Int32)))) fun s4 =>
  bn_ (fX8_completes_l52 FU_ ((0 : Int32), s4)) (fX8_completes_k52)
def fX8_completes_k17 (x : st_) : Option (st_) :=
  fX8_completes_x17_42 x
def fX8_completes_b17 (v1_b17 : Int32) (s_b17 : st_) : Option ((Int32 × st_) ⊕ (st_)) :=
  gd_ (ib_ (4 : Int32) 12584) <|
  if (s_b17 0 (ix_ (4 : Int32))) ≤ v1_b17 then (some (.inr s_b17))
  else (gd_ (ib_ (((26 : Int32) + ((5 : Int32) * v1_b17)) + (2 : Int32)) 12584) <|
  bd_ (pt_ s_b17 0 (ix_ (((26 : Int32) + ((5 : Int32) * v1_b17)) + (2 : Int32))) (1000000 : Int32)) fun s21 =>
  some (.inl ((v1_b17 + (1 : Int32)), s21)))
def fX8_completes_l17 : Nat → (Int32 × st_) → Option (st_) :=
  it_ (fun v => fX8_completes_b17 v.1 v.2)
def fX8_completes_j15 (s_j15 : st_) : Option (st_) :=
  bn_ (fX8_completes_l17 FU_ ((0 : Int32), s_j15)) (fX8_completes_k17)
def fX8_completes (s : st_) : Option (st_) :=
  gd_ (ib_ (4 : Int32) 12584) <|
  if (s 0 (ix_ (4 : Int32))) = (0 : Int32) then (gd_ (ib_ (4 : Int32) 12584) <|
  bd_ (pt_ s 0 (ix_ (4 : Int32)) (1 : Int32)) fun s26 =>
  gd_ (ib_ (27 : Int32) 12584) <|
  bd_ (pt_ s26 0 (ix_ (27 : Int32)) (-1 : Int32)) fun s31 =>
  fX8_completes_j15 s31)
  else (fX8_completes_j15 s)
def fX8_thrown (s : st_) : Option (Int32) :=
  some (s 0 6)
def fX8_in_j17 : Option (Int32) :=
  some (0 : Int32)
def fX8_in (i0 : Int64) (i1 : Int64) (i2 : Int64) : Option (Int32) :=
  if (lg_cmp i0 i1) < (0 : Int32) then (fX8_in_j17)
  else (if (0 : Int32) < (lg_cmp i0 i2) then (fX8_in_j17)
  else (some (1 : Int32)))
def fX8_throwsIf_j16 (s_j16 : st_) : Option (st_ × Int32) :=
  if (s_j16 0 6) = (0 : Int32) then (some (s_j16, (0 : Int32)))
  else (some (s_j16, (1 : Int32)))
def fX8_throwsIf (s : st_) (i0 : Int32) (i1 : Int32) : Option (st_ × Int32) :=
  if (s 0 6) = (0 : Int32) then (if i0 = (0 : Int32) then (fX8_throwsIf_j16 s)
  else (bd_ (pt_ s 0 6 i1) fun s1 =>
  fX8_throwsIf_j16 s1))
  else (fX8_throwsIf_j16 s)
def fX8_wrong (s : st_) (i0 : Int32) : Option (st_ × Int32) :=
  bd_ (pt_ s 0 6 (0 : Int32)) fun s1 =>
  bn_ (fX8_throwsIf s1 i0 (1 : Int32)) fun r5 =>
  gd_ (bz_ r5.2) <|
  some (r5.1, r5.2)
def fX8_copies_x2_21 (t_x2_21 : st_) : Option (st_) :=
  some t_x2_21
def fX8_copies_k2 (x : st_) : Option (st_) :=
  fX8_copies_x2_21 x
def fX8_copies_b2 (s : st_) (v2_b2 : Int32) (t_b2 : st_) : Option ((Int32 × st_) ⊕ (st_)) :=
  if (12584 : Int32) ≤ v2_b2 then (some (.inr t_b2))
  else (gd_ (ib_ v2_b2 12584) <|
  gd_ (ib_ v2_b2 12584) <|
  bd_ (pt_ t_b2 0 (ix_ v2_b2) (s 0 (ix_ v2_b2))) fun t3 =>
  some (.inl ((v2_b2 + (1 : Int32)), t3)))
def fX8_copies_l2 (s : st_) : Nat → (Int32 × st_) → Option (st_) :=
  it_ (fun v => fX8_copies_b2 s v.1 v.2)
def fX8_copies (s : st_) (t : st_) : Option (st_) :=
  bn_ (fX8_copies_l2 s FU_ ((0 : Int32), t)) (fX8_copies_k2)
def fX8_append_x62_113 (s_x62_113 : st_) : Option (st_ × Int32) :=
  some (s_x62_113, (s_x62_113 0 8))
def fX8_append_k62 (x : st_) : Option (st_ × Int32) :=
  fX8_append_x62_113 x
def fX8_append_j107 (v4_b62 : Int32) (s_j107 : st_) : Option ((Int32 × st_) ⊕ (st_)) :=
  some (.inl ((v4_b62 + (-8 : Int32)), s_j107))
def fX8_append_b62 (i0 : Int64) (v4_b62 : Int32) (s_b62 : st_) : Option ((Int32 × st_) ⊕ (st_)) :=
  if v4_b62 < (0 : Int32) then (some (.inr s_b62))
  else (if (Int64.toInt32 ((((Int64.toUInt64 i0) >>> ((Int64.toUInt64 (Int32.toInt64 v4_b62)) &&& Int64.toUInt64 63)).toInt64) &&& (255 : Int64))) = (0 : Int32) then (fX8_append_j107 v4_b62 s_b62)
  else (gd_ (ib_ (s_b62 0 8) 500) <|
  bd_ (pt_ s_b62 7 (ix_ (s_b62 0 8)) (Int64.toInt32 ((((Int64.toUInt64 i0) >>> ((Int64.toUInt64 (Int32.toInt64 v4_b62)) &&& Int64.toUInt64 63)).toInt64) &&& (255 : Int64)))) fun s6 =>
  bd_ (pt_ s6 0 8 ((s6 0 8) + (1 : Int32))) fun s10 =>
  fX8_append_j107 v4_b62 s10))
def fX8_append_l62 (i0 : Int64) : Nat → (Int32 × st_) → Option (st_) :=
  it_ (fun v => fX8_append_b62 i0 v.1 v.2)
def fX8_append_x11_43 (i0 : Int64) (s1 : st_) (v3_x11_43 : Int32) : Option (st_ × Int32) :=
  if ((s1 0 8) + v3_x11_43) ≤ (500 : Int32) then (bn_ (fX8_append_l62 i0 FU_ ((56 : Int32), s1)) (fX8_append_k62))
  else (some (s1, (-2 : Int32)))
def fX8_append_k11 (i0 : Int64) (s1 : st_) (x : Int32) : Option (st_ × Int32) :=
  fX8_append_x11_43 i0 s1 x
def fX8_append_j35 (v3_b11 : Int32) (v4_b11 : Int32) (z1_j35 : Int32) : Option ((Int32 × Int32) ⊕ (Int32)) :=
  some (.inl ((v3_b11 + z1_j35), (v4_b11 + (-8 : Int32))))
def fX8_append_b11 (i0 : Int64) (v3_b11 : Int32) (v4_b11 : Int32) : Option ((Int32 × Int32) ⊕ (Int32)) :=
  if v4_b11 < (0 : Int32) then (some (.inr v3_b11))
  else (if (lg_cmp ((((Int64.toUInt64 i0) >>> ((Int64.toUInt64 (Int32.toInt64 v4_b11)) &&& Int64.toUInt64 63)).toInt64) &&& (255 : Int64)) (0 : Int64)) = (0 : Int32) then (fX8_append_j35 v3_b11 v4_b11 (0 : Int32))
  else (fX8_append_j35 v3_b11 v4_b11 (1 : Int32)))
def fX8_append_l11 (i0 : Int64) : Nat → (Int32 × Int32) → Option (Int32) :=
  it_ (fun v => fX8_append_b11 i0 v.1 v.2)
def fX8_append (s : st_) (i0 : Int64) : Option (st_ × Int32) :=
  bd_ (pt_ s 0 6 (0 : Int32)) fun s1 =>
  bn_ (fX8_append_l11 i0 FU_ ((0 : Int32), (56 : Int32))) (fX8_append_k11 i0 s1)
def fX8_loadError (s : st_) : Option (st_ × Int32) :=
  bd_ (pt_ s 0 6 (0 : Int32)) fun s1 =>
  some (s1, (s1 0 13))
def fX8_byteAt (s : st_) (i0 : Int32) : Option (Int32) :=
  if (s 0 8) ≤ i0 then (some (-1 : Int32))
  else (gd_ (ib_ i0 500) <|
  some (s 7 (ix_ i0)))
def fX8_isLetter (s : st_) (i0 : Int32) : Option (Int32) :=
  bn_ (fX8_byteAt s i0) fun r1 =>
  bn_ (fX8_in (Int32.toInt64 r1) (97 : Int64) (122 : Int64)) fun r5 =>
  gd_ (bz_ r5) <|
  some r5
def fX8_isDigit (s : st_) (i0 : Int32) : Option (Int32) :=
  bn_ (fX8_byteAt s i0) fun r1 =>
  bn_ (fX8_in (Int32.toInt64 r1) (48 : Int64) (57 : Int64)) fun r5 =>
  gd_ (bz_ r5) <|
  some r5
def fX8_see_x0_26 (s_x0_26 : st_) : Option (st_ × Int32) :=
  bd_ (pt_ s_x0_26 0 10 (s_x0_26 0 9)) fun s1 =>
  bn_ (fX8_byteAt s1 (s1 0 9)) fun r5 =>
  some (s1, r5)
def fX8_see_k0 (x : st_) : Option (st_ × Int32) :=
  fX8_see_x0_26 x
def fX8_see_b0 (s_b0 : st_) : Option ((st_) ⊕ (st_)) :=
  bn_ (fX8_byteAt s_b0 (s_b0 0 9)) fun r9 =>
  if r9 = (32 : Int32) then (bd_ (pt_ s_b0 0 9 ((s_b0 0 9) + (1 : Int32))) fun s13 =>
  some (.inl s13))
  else (some (.inr s_b0))
def fX8_see_l0 : Nat → st_ → Option (st_) :=
  it_ (fun v => fX8_see_b0 v)
def fX8_see (s : st_) : Option (st_ × Int32) :=
  bn_ (fX8_see_l0 FU_ s) (fX8_see_k0)
def fX8_fails (s : st_) (i0 : Int32) : Option (st_ × Int32) :=
  if (s 0 12) = (0 : Int32) then (bd_ (pt_ s 0 12 i0) fun s1 =>
  bd_ (pt_ s1 0 11 (s1 0 10)) fun s5 =>
  some (s5, (0 : Int32)))
  else (some (s, (0 : Int32)))
def fX8_takes_j106 (r1 : st_ × Int32) (v3_x46_93 : Int32) (z1_j106 : Int32) : Option (st_ × Int32) :=
  bd_ (pt_ r1.1 0 9 z1_j106) fun s8 =>
  gd_ (bz_ v3_x46_93) <|
  some (s8, v3_x46_93)
def fX8_takes_x46_93 (r1 : st_ × Int32) (v2_x10_24 : Int32) (v3_x46_93 : Int32) : Option (st_ × Int32) :=
  if v3_x46_93 = (0 : Int32) then (fX8_takes_j106 r1 v3_x46_93 (r1.1 0 9))
  else (fX8_takes_j106 r1 v3_x46_93 v2_x10_24)
def fX8_takes_k46 (r1 : st_ × Int32) (v2_x10_24 : Int32) (x : Int32) : Option (st_ × Int32) :=
  fX8_takes_x46_93 r1 v2_x10_24 x
def fX8_takes_j86 (v4_b46 : Int32) (z0_j86 : Int32) : Option ((Int32 × Int32) ⊕ (Int32)) :=
  some (.inl (z0_j86, (v4_b46 + (1 : Int32))))
def fX8_takes_b46 (w0 : Nat) (r1 : st_ × Int32) (v2_x10_24 : Int32) (v3_b46 : Int32) (v4_b46 : Int32) : Option ((Int32 × Int32) ⊕ (Int32)) :=
  if v3_b46 = (0 : Int32) then (some (.inr v3_b46))
  else (if v2_x10_24 ≤ ((r1.1 0 10) + v4_b46) then (some (.inr v3_b46))
  else (bn_ (fX8_byteAt r1.1 ((r1.1 0 10) + v4_b46)) fun r13 =>
  gd_ (sw_ w0) <|
  gd_ (ib_ v4_b46 (sb_y w0).length) <|
  if r13 = (sch_ w0 v4_b46) then (fX8_takes_j86 v4_b46 (1 : Int32))
  else (fX8_takes_j86 v4_b46 (0 : Int32))))
def fX8_takes_l46 (w0 : Nat) (r1 : st_ × Int32) (v2_x10_24 : Int32) : Nat → (Int32 × Int32) → Option (Int32) :=
  it_ (fun v => fX8_takes_b46 w0 r1 v2_x10_24 v.1 v.2)
def fX8_takes_j42 (w0 : Nat) (r1 : st_ × Int32) (v2_x10_24 : Int32) (z0_j42 : Int32) : Option (st_ × Int32) :=
  bn_ (fX8_takes_l46 w0 r1 v2_x10_24 FU_ (z0_j42, (0 : Int32))) (fX8_takes_k46 r1 v2_x10_24)
def fX8_takes_x10_24 (w0 : Nat) (r1 : st_ × Int32) (v2_x10_24 : Int32) : Option (st_ × Int32) :=
  gd_ (sw_ w0) <|
  if (v2_x10_24 - (r1.1 0 10)) = (sl_ w0) then (fX8_takes_j42 w0 r1 v2_x10_24 (1 : Int32))
  else (fX8_takes_j42 w0 r1 v2_x10_24 (0 : Int32))
def fX8_takes_k10 (w0 : Nat) (r1 : st_ × Int32) (x : Int32) : Option (st_ × Int32) :=
  fX8_takes_x10_24 w0 r1 x
def fX8_takes_b10 (r1 : st_ × Int32) (v2_b10 : Int32) : Option ((Int32) ⊕ (Int32)) :=
  bn_ (fX8_isLetter r1.1 v2_b10) fun r21 =>
  if r21 = (0 : Int32) then (some (.inr v2_b10))
  else (some (.inl (v2_b10 + (1 : Int32))))
def fX8_takes_l10 (r1 : st_ × Int32) : Nat → Int32 → Option (Int32) :=
  it_ (fun v => fX8_takes_b10 r1 v)
def fX8_takes (s : st_) (w0 : Nat) : Option (st_ × Int32) :=
  bn_ (fX8_see s) fun r1 =>
  bn_ (fX8_takes_l10 r1 FU_ (r1.1 0 10)) (fX8_takes_k10 w0 r1)
def fX8_digits_x2_52 (v1_x2_52 : Int64) (s_x2_52 : st_) : Option (st_ × Int32) :=
  some (s_x2_52, (Int64.toInt32 v1_x2_52))
def fX8_digits_k2 (x : Int64 × st_) : Option (st_ × Int32) :=
  fX8_digits_x2_52 x.1 x.2
def fX8_digits_b2 (v1_b2 : Int64) (s_b2 : st_) : Option ((Int64 × st_) ⊕ (Int64 × st_)) :=
  bn_ (fX8_isDigit s_b2 (s_b2 0 9)) fun r1 =>
  if r1 = (0 : Int32) then (some (.inr (v1_b2, s_b2)))
  else (bn_ (fX8_byteAt s_b2 (s_b2 0 9)) fun r5 =>
  bd_ (pt_ s_b2 0 9 ((s_b2 0 9) + (1 : Int32))) fun s9 =>
  some (.inl ((if ((((10 : Int64) * v1_b2) + (Int32.toInt64 r5)) - (48 : Int64)) < (100000000 : Int64) then ((((10 : Int64) * v1_b2) + (Int32.toInt64 r5)) - (48 : Int64)) else (100000000 : Int64)), s9)))
def fX8_digits_l2 : Nat → (Int64 × st_) → Option (Int64 × st_) :=
  it_ (fun v => fX8_digits_b2 v.1 v.2)
def fX8_digits (s : st_) : Option (st_ × Int32) :=
  bn_ (fX8_digits_l2 FU_ ((0 : Int64), s)) (fX8_digits_k2)
def fX8_into_j63 (s_j63 : st_) : Option (st_ × Int32) :=
  some (s_j63, (1 : Int32))
def fX8_into (s : st_) (i0 : Int32) (i1 : Int32) (i2 : Int32) : Option (st_ × Int32) :=
  bn_ (fX8_see s) fun r1 =>
  bn_ (fX8_isDigit r1.1 (r1.1 0 9)) fun r5 =>
  if r5 = (0 : Int32) then (bn_ (fX8_fails r1.1 (1 : Int32)) fun r30 =>
  gd_ (bz_ r30.2) <|
  some (r30.1, r30.2))
  else (bn_ (fX8_digits r1.1) fun r9 =>
  bd_ (pt_ r9.1 0 14 r9.2) fun s13 =>
  gd_ (ib_ i0 12584) <|
  bd_ (pt_ s13 3 (ix_ i0) (s13 0 14)) fun s18 =>
  bn_ (fX8_in (Int32.toInt64 (s18 0 14)) (Int32.toInt64 i1) (Int32.toInt64 i2)) fun r22 =>
  if r22 = (0 : Int32) then (bn_ (fX8_fails s18 (2 : Int32)) fun r26 =>
  if r26.2 = (0 : Int32) then (some (r26.1, (0 : Int32)))
  else (fX8_into_j63 r26.1))
  else (fX8_into_j63 s18))
def fX8_isRoom_j23 (s_j23 : st_) : Option (st_ × Int32) :=
  some (s_j23, (1 : Int32))
def fX8_isRoom (s : st_) (i0 : Int32) (i1 : Int32) (i2 : Int32) : Option (st_ × Int32) :=
  bd_ (pt_ s 0 10 i0) fun s1 =>
  gd_ (ib_ i1 12584) <|
  if (s1 3 (ix_ i1)) < i2 then (fX8_isRoom_j23 s1)
  else (bn_ (fX8_fails s1 (3 : Int32)) fun r6 =>
  if r6.2 = (0 : Int32) then (some (r6.1, (0 : Int32)))
  else (fX8_isRoom_j23 r6.1))
def fX8_is (s : st_) (i0 : Int32) (i1 : Int32) : Option (st_ × Int32) :=
  gd_ (ib_ i0 12584) <|
  bd_ (pt_ s 3 (ix_ i0) i1) fun s2 =>
  some (s2, (1 : Int32))
def fX8_readRule_j141 (s_j141 : st_) : Option (st_ × Int32) :=
  gd_ (ib_ (4 : Int32) 12584) <|
  gd_ (ib_ (4 : Int32) 12584) <|
  bd_ (pt_ s_j141 3 (ix_ (4 : Int32)) ((s_j141 3 (ix_ (4 : Int32))) + (1 : Int32))) fun s22 =>
  some (s22, (1 : Int32))
def fX8_readRule_j91 (r1 : st_ × Int32) (z0_j91 : Int32) (s_j91 : st_) : Option (st_ × Int32) :=
  if z0_j91 = (-1 : Int32) then (bn_ (fX8_fails s_j91 (1 : Int32)) fun r30 =>
  gd_ (bz_ r30.2) <|
  some (r30.1, r30.2))
  else (gd_ (ib_ (((26 : Int32) + ((5 : Int32) * (r1.1 3 (ix_ (4 : Int32))))) + (0 : Int32)) 12584) <|
  bd_ (pt_ s_j91 3 (ix_ (((26 : Int32) + ((5 : Int32) * (r1.1 3 (ix_ (4 : Int32))))) + (0 : Int32))) z0_j91) fun s11 =>
  gd_ (ib_ (((26 : Int32) + ((5 : Int32) * (r1.1 3 (ix_ (4 : Int32))))) + (1 : Int32)) 12584) <|
  bd_ (pt_ s11 3 (ix_ (((26 : Int32) + ((5 : Int32) * (r1.1 3 (ix_ (4 : Int32))))) + (1 : Int32))) (-1 : Int32)) fun s16 =>
  if z0_j91 = (4 : Int32) then (bn_ (fX8_into s16 (((26 : Int32) + ((5 : Int32) * (r1.1 3 (ix_ (4 : Int32))))) + (1 : Int32)) (0 : Int32) (99 : Int32)) fun r26 =>
  if r26.2 = (0 : Int32) then (some (r26.1, (0 : Int32)))
  else (fX8_readRule_j141 r26.1))
  else (fX8_readRule_j141 s16))
def fX8_readRule (s : st_) (i0 : Int32) : Option (st_ × Int32) :=
  bn_ (fX8_isRoom s i0 (4 : Int32) (6 : Int32)) fun r1 =>
  if r1.2 = (0 : Int32) then (some (r1.1, (0 : Int32)))
  else (gd_ (ib_ (4 : Int32) 12584) <|
  bn_ (fX8_takes r1.1 16) fun r6 =>
  if r6.2 = (0 : Int32) then (bn_ (fX8_takes r6.1 17) fun r35 =>
  if r35.2 = (0 : Int32) then (bn_ (fX8_takes r35.1 18) fun r39 =>
  if r39.2 = (0 : Int32) then (bn_ (fX8_takes r39.1 19) fun r43 =>
  if r43.2 = (0 : Int32) then (bn_ (fX8_takes r43.1 20) fun r47 =>
  if r47.2 = (0 : Int32) then (fX8_readRule_j91 r1 (-1 : Int32) r47.1)
  else (fX8_readRule_j91 r1 (4 : Int32) r47.1))
  else (fX8_readRule_j91 r1 (3 : Int32) r43.1))
  else (fX8_readRule_j91 r1 (2 : Int32) r39.1))
  else (fX8_readRule_j91 r1 (1 : Int32) r35.1))
  else (fX8_readRule_j91 r1 (0 : Int32) r6.1))
def fX8_readMaster_j77 (s_j77 : st_) : Option (st_ × Int32) :=
  some (s_j77, (0 : Int32))
def fX8_readMaster (s : st_) (i0 : Int32) (i1 : Int32) : Option (st_ × Int32) :=
  bn_ (fX8_takes s 22) fun r1 =>
  if r1.2 = (0 : Int32) then (bn_ (fX8_takes r1.1 23) fun r5 =>
  if r5.2 = (0 : Int32) then (bn_ (fX8_takes r5.1 24) fun r9 =>
  if r9.2 = (0 : Int32) then (bn_ (fX8_fails r9.1 (1 : Int32)) fun r22 =>
  gd_ (bz_ r22.2) <|
  some (r22.1, r22.2))
  else (gd_ (ib_ (4 : Int32) 12584) <|
  bn_ (fX8_into r9.1 i1 (0 : Int32) ((r9.1 3 (ix_ (4 : Int32))) - (1 : Int32))) fun r14 =>
  if r14.2 = (0 : Int32) then (fX8_readMaster_j77 r14.1)
  else (bn_ (fX8_is r14.1 i0 (2 : Int32)) fun r18 =>
  if r18.2 = (0 : Int32) then (fX8_readMaster_j77 r18.1)
  else (some (r18.1, (1 : Int32))))))
  else (bn_ (fX8_is r5.1 i0 (1 : Int32)) fun r27 =>
  gd_ (bz_ r27.2) <|
  some (r27.1, r27.2)))
  else (bn_ (fX8_is r1.1 i0 (0 : Int32)) fun r32 =>
  gd_ (bz_ r32.2) <|
  some (r32.1, r32.2))
def fX8_readFoe (s : st_) : Option (st_ × Int32) :=
  bn_ (fX8_takes s 29) fun r1 =>
  if r1.2 = (0 : Int32) then (bn_ (fX8_takes r1.1 30) fun r5 =>
  if r5.2 = (0 : Int32) then (bn_ (fX8_takes r5.1 31) fun r9 =>
  if r9.2 = (0 : Int32) then (bn_ (fX8_takes r9.1 32) fun r13 =>
  if r13.2 = (0 : Int32) then (bn_ (fX8_takes r13.1 33) fun r17 =>
  if r17.2 = (0 : Int32) then (bn_ (fX8_takes r17.1 34) fun r21 =>
  if r21.2 = (0 : Int32) then (bn_ (fX8_fails r21.1 (1 : Int32)) fun r25 =>
  gd_ (bz_ r25.2) <|
  some (r25.1, r25.2))
  else (bn_ (fX8_is r21.1 (9 : Int32) (5 : Int32)) fun r30 =>
  gd_ (bz_ r30.2) <|
  some (r30.1, r30.2)))
  else (bn_ (fX8_is r17.1 (9 : Int32) (4 : Int32)) fun r35 =>
  gd_ (bz_ r35.2) <|
  some (r35.1, r35.2)))
  else (bn_ (fX8_is r13.1 (9 : Int32) (3 : Int32)) fun r40 =>
  gd_ (bz_ r40.2) <|
  some (r40.1, r40.2)))
  else (bn_ (fX8_is r9.1 (9 : Int32) (2 : Int32)) fun r45 =>
  gd_ (bz_ r45.2) <|
  some (r45.1, r45.2)))
  else (bn_ (fX8_is r5.1 (9 : Int32) (1 : Int32)) fun r50 =>
  gd_ (bz_ r50.2) <|
  some (r50.1, r50.2)))
  else (bn_ (fX8_is r1.1 (9 : Int32) (0 : Int32)) fun r55 =>
  gd_ (bz_ r55.2) <|
  some (r55.1, r55.2))
def fX8_readAsk (s : st_) (i0 : Int32) : Option (st_ × Int32) :=
  bn_ (fX8_isRoom s i0 (10 : Int32) (16 : Int32)) fun r1 =>
  if r1.2 = (0 : Int32) then (some (r1.1, (0 : Int32)))
  else (gd_ (ib_ (10 : Int32) 12584) <|
  gd_ (ib_ (0 : Int32) 12584) <|
  bn_ (fX8_into r1.1 ((56 : Int32) + (r1.1 3 (ix_ (10 : Int32)))) (0 : Int32) ((r1.1 3 (ix_ (0 : Int32))) - (1 : Int32))) fun r7 =>
  if r7.2 = (0 : Int32) then (some (r7.1, (0 : Int32)))
  else (gd_ (ib_ (10 : Int32) 12584) <|
  gd_ (ib_ (10 : Int32) 12584) <|
  bd_ (pt_ r7.1 3 (ix_ (10 : Int32)) ((r7.1 3 (ix_ (10 : Int32))) + (1 : Int32))) fun s13 =>
  some (s13, (1 : Int32))))
def fX8_readStatement_j225 (s_j225 : st_) : Option (st_ × Int32) :=
  some (s_j225, (0 : Int32))
def fX8_readStatement_j156 (s_j156 : st_) : Option (st_ × Int32) :=
  some (s_j156, (0 : Int32))
def fX8_readStatement_j45 (s_j45 : st_) : Option (st_ × Int32) :=
  some (s_j45, (0 : Int32))
def fX8_readStatement (s : st_) : Option (st_ × Int32) :=
  bn_ (fX8_see s) fun r1 =>
  bn_ (fX8_takes r1.1 14) fun r5 =>
  if r5.2 = (0 : Int32) then (bn_ (fX8_takes r5.1 15) fun r9 =>
  if r9.2 = (0 : Int32) then (bn_ (fX8_takes r9.1 21) fun r13 =>
  if r13.2 = (0 : Int32) then (bn_ (fX8_takes r13.1 25) fun r17 =>
  if r17.2 = (0 : Int32) then (bn_ (fX8_takes r17.1 26) fun r21 =>
  if r21.2 = (0 : Int32) then (bn_ (fX8_takes r21.1 27) fun r25 =>
  if r25.2 = (0 : Int32) then (bn_ (fX8_takes r25.1 28) fun r29 =>
  if r29.2 = (0 : Int32) then (bn_ (fX8_takes r29.1 35) fun r33 =>
  if r33.2 = (0 : Int32) then (bn_ (fX8_takes r33.1 36) fun r37 =>
  if r37.2 = (0 : Int32) then (bn_ (fX8_fails r37.1 (1 : Int32)) fun r41 =>
  gd_ (bz_ r41.2) <|
  some (r41.1, r41.2))
  else (bn_ (fX8_into r37.1 (11 : Int32) (0 : Int32) (99999 : Int32)) fun r46 =>
  if r46.2 = (0 : Int32) then (fX8_readStatement_j225 r46.1)
  else (bn_ (fX8_into r46.1 (12 : Int32) (0 : Int32) (9999 : Int32)) fun r50 =>
  if r50.2 = (0 : Int32) then (fX8_readStatement_j225 r50.1)
  else (some (r50.1, (1 : Int32))))))
  else (bn_ (fX8_readAsk r33.1 (r1.1 0 10)) fun r54 =>
  gd_ (bz_ r54.2) <|
  some (r54.1, r54.2)))
  else (bn_ (fX8_readFoe r29.1) fun r59 =>
  gd_ (bz_ r59.2) <|
  some (r59.1, r59.2)))
  else (bn_ (fX8_into r25.1 (7 : Int32) (1 : Int32) (500 : Int32)) fun r64 =>
  if r64.2 = (0 : Int32) then (fX8_readStatement_j156 r64.1)
  else (bn_ (fX8_into r64.1 (8 : Int32) (0 : Int32) (32767 : Int32)) fun r68 =>
  if r68.2 = (0 : Int32) then (fX8_readStatement_j156 r68.1)
  else (some (r68.1, (1 : Int32))))))
  else (bn_ (fX8_into r21.1 (13 : Int32) (0 : Int32) (999 : Int32)) fun r72 =>
  gd_ (bz_ r72.2) <|
  some (r72.1, r72.2)))
  else (bn_ (fX8_readMaster r17.1 (21 : Int32) (22 : Int32)) fun r77 =>
  gd_ (bz_ r77.2) <|
  some (r77.1, r77.2)))
  else (bn_ (fX8_readMaster r13.1 (5 : Int32) (6 : Int32)) fun r82 =>
  gd_ (bz_ r82.2) <|
  some (r82.1, r82.2)))
  else (bn_ (fX8_readRule r9.1 (r1.1 0 10)) fun r87 =>
  gd_ (bz_ r87.2) <|
  some (r87.1, r87.2)))
  else (bn_ (fX8_into r5.1 (2 : Int32) (0 : Int32) (99 : Int32)) fun r92 =>
  if r92.2 = (0 : Int32) then (fX8_readStatement_j45 r92.1)
  else (bn_ (fX8_into r92.1 (3 : Int32) (1 : Int32) (99 : Int32)) fun r96 =>
  if r96.2 = (0 : Int32) then (fX8_readStatement_j45 r96.1)
  else (some (r96.1, (1 : Int32)))))
def fX8_readsAll_j89 (s_j89 : st_) : Option (st_ × Int32) :=
  some (s_j89, (1 : Int32))
def fX8_readsAll_x45_73 (s_x45_73 : st_) : Option (st_ × Int32) :=
  bn_ (fX8_see s_x45_73) fun r14 =>
  if r14.2 = (-1 : Int32) then (fX8_readsAll_j89 r14.1)
  else (bn_ (fX8_fails r14.1 (1 : Int32)) fun r18 =>
  if r18.2 = (0 : Int32) then (some (r18.1, (0 : Int32)))
  else (fX8_readsAll_j89 r18.1))
def fX8_readsAll_x45_71 (s_x45_71 : st_) : Option (st_ × Int32) :=
  some (s_x45_71, (0 : Int32))
def fX8_readsAll_k45 (x : (st_) ⊕ (st_)) : Option (st_ × Int32) :=
  Sum.elim (fun z => fX8_readsAll_x45_71 z) (fun z => fX8_readsAll_x45_73 z) x
def fX8_readsAll_b45 (s_b45 : st_) : Option ((st_) ⊕ ((st_) ⊕ (st_))) :=
  bn_ (fX8_see s_b45) fun r22 =>
  if r22.2 = (59 : Int32) then (bd_ (pt_ r22.1 0 9 ((r22.1 0 9) + (1 : Int32))) fun s26 =>
  bn_ (fX8_readStatement s26) fun r30 =>
  if r30.2 = (0 : Int32) then (some (.inr (.inl r30.1)))
  else (some (.inl r30.1)))
  else (some (.inr (.inr r22.1)))
def fX8_readsAll_l45 : Nat → st_ → Option ((st_) ⊕ (st_)) :=
  it_ (fun v => fX8_readsAll_b45 v)
def fX8_readsAll (s : st_) : Option (st_ × Int32) :=
  bn_ (fX8_takes s 13) fun r1 =>
  if r1.2 = (0 : Int32) then (bn_ (fX8_fails r1.1 (1 : Int32)) fun r34 =>
  gd_ (bz_ r34.2) <|
  some (r34.1, r34.2))
  else (bn_ (fX8_into r1.1 (0 : Int32) (2 : Int32) (100 : Int32)) fun r5 =>
  if r5.2 = (0 : Int32) then (some (r5.1, (0 : Int32)))
  else (gd_ (ib_ (0 : Int32) 12584) <|
  bn_ (fX8_into r5.1 (1 : Int32) (0 : Int32) ((r5.1 3 (ix_ (0 : Int32))) - (1 : Int32))) fun r10 =>
  if r10.2 = (0 : Int32) then (some (r10.1, (0 : Int32)))
  else (bn_ (fX8_readsAll_l45 FU_ r10.1) (fX8_readsAll_k45))))
def fX8_load (s : st_) : Option (st_ × Int32) :=
  bd_ (pt_ s 0 6 (0 : Int32)) fun s1 =>
  bn_ (fX8_begins (sb_ s1 3)) fun r5 =>
  bd_ (mg_ s1 3 1 r5) fun s9 =>
  bd_ (pt_ s9 0 9 (0 : Int32)) fun s11 =>
  bd_ (pt_ s11 0 12 (0 : Int32)) fun s15 =>
  bn_ (fX8_readsAll s15) fun r19 =>
  bd_ (pt_ r19.1 0 8 (0 : Int32)) fun s23 =>
  bd_ (pt_ s23 0 13 (s23 0 12)) fun s27 =>
  if r19.2 = (0 : Int32) then (some (s27, ((-100 : Int32) - (s27 0 11))))
  else (bn_ (fX8_copies (sb_ s27 3) (sb_ s27 1)) fun r31 =>
  bd_ (mg_ s27 1 1 r31) fun s35 =>
  bn_ (fX8_completes (sb_ s35 1)) fun r37 =>
  bd_ (mg_ s35 1 1 r37) fun s41 =>
  gd_ (ib_ (4 : Int32) 12584) <|
  some (s41, (s41 1 (ix_ (4 : Int32)))))
def fX8_of (s : st_) (i0 : Int32) (i1 : Int32) : Option (Int32) :=
  gd_ (ib_ (((26 : Int32) + ((5 : Int32) * i0)) + i1) 12584) <|
  some (s 1 (ix_ (((26 : Int32) + ((5 : Int32) * i0)) + i1)))
def fX8_adds (s : st_) (i0 : Int32) (i1 : Int32) (i2 : Int32) : Option (st_) :=
  gd_ (ib_ (((26 : Int32) + ((5 : Int32) * i0)) + i1) 12584) <|
  gd_ (ib_ (((26 : Int32) + ((5 : Int32) * i0)) + i1) 12584) <|
  bd_ (pt_ s 1 (ix_ (((26 : Int32) + ((5 : Int32) * i0)) + i1)) ((s 1 (ix_ (((26 : Int32) + ((5 : Int32) * i0)) + i1))) + i2)) fun s3 =>
  some s3
def fX8_armAt (i0 : Int32) : Option (Int32) :=
  some ((72 : Int32) + ((47 : Int32) * i0))
def fX8_armOf (s : st_) (i0 : Int32) (i1 : Int32) : Option (Int32) :=
  bn_ (fX8_armAt i0) fun r1 =>
  gd_ (ib_ (r1 + i1) 12584) <|
  some (s 1 (ix_ (r1 + i1)))
def fX8_isRule (s : st_) (i0 : Int32) : Option (Int32) :=
  gd_ (ib_ (4 : Int32) 12584) <|
  bn_ (fX8_in (Int32.toInt64 i0) (0 : Int64) (Int32.toInt64 ((s 1 (ix_ (4 : Int32))) - (1 : Int32)))) fun r2 =>
  gd_ (bz_ r2) <|
  some r2
def fX8_noRule_j14 (s : st_) (z1_j14 : Int32) : Option (st_ × Int32) :=
  bn_ (fX8_wrong s z1_j14) fun r5 =>
  gd_ (bz_ r5.2) <|
  some (r5.1, r5.2)
def fX8_noRule (s : st_) (i0 : Int32) : Option (st_ × Int32) :=
  bn_ (fX8_isRule s i0) fun r1 =>
  if r1 = (0 : Int32) then (fX8_noRule_j14 s (1 : Int32))
  else (fX8_noRule_j14 s (0 : Int32))
def fX8_noArm_j19 (s : st_) (z1_j19 : Int32) : Option (st_ × Int32) :=
  bn_ (fX8_wrong s z1_j19) fun r1 =>
  gd_ (bz_ r1.2) <|
  some (r1.1, r1.2)
def fX8_noArm_j18 (s : st_) : Option (st_ × Int32) :=
  fX8_noArm_j19 s (0 : Int32)
def fX8_noArm (s : st_) (i0 : Int32) : Option (st_ × Int32) :=
  if i0 = (-1 : Int32) then (fX8_noArm_j18 s)
  else (bn_ (fX8_isRule s i0) fun r6 =>
  if r6 = (0 : Int32) then (fX8_noArm_j19 s (1 : Int32))
  else (fX8_noArm_j18 s))
def fX8_told (i0 : Int32) : Option (Int32) :=
  if i0 = (-1 : Int32) then (some (6 : Int32))
  else (some i0)
def fX8_noCylinder_j24 (s : st_) (z1_j24 : Int32) : Option (st_ × Int32) :=
  bn_ (fX8_wrong s z1_j24) fun r6 =>
  gd_ (bz_ r6.2) <|
  some (r6.1, r6.2)
def fX8_noCylinder (s : st_) (i0 : Int32) : Option (st_ × Int32) :=
  gd_ (ib_ (0 : Int32) 12584) <|
  bn_ (fX8_in (Int32.toInt64 i0) (0 : Int64) (Int32.toInt64 ((s 1 (ix_ (0 : Int32))) - (1 : Int32)))) fun r2 =>
  if r2 = (0 : Int32) then (fX8_noCylinder_j24 s (1 : Int32))
  else (fX8_noCylinder_j24 s (0 : Int32))
def fX8_setting_j46 (i0 : Int32) (r5 : st_ × Int32) : Option (st_ × Int32) :=
  gd_ (ib_ i0 12584) <|
  some (r5.1, (r5.1 1 (ix_ i0)))
def fX8_setting_j18 (s : st_) (i0 : Int32) (z1_j18 : Int32) : Option (st_ × Int32) :=
  bn_ (fX8_wrong s z1_j18) fun r5 =>
  if r5.2 = (0 : Int32) then (if i0 = (6 : Int32) then (gd_ (ib_ (5 : Int32) 12584) <|
  if (r5.1 1 (ix_ (5 : Int32))) = (2 : Int32) then (fX8_setting_j46 i0 r5)
  else (some (r5.1, (-1 : Int32))))
  else (fX8_setting_j46 i0 r5))
  else (some (r5.1, (0 : Int32)))
def fX8_setting (s : st_) (i0 : Int32) : Option (st_ × Int32) :=
  bn_ (fX8_in (Int32.toInt64 i0) (0 : Int64) (14 : Int64)) fun r1 =>
  if r1 = (0 : Int32) then (fX8_setting_j18 s i0 (1 : Int32))
  else (fX8_setting_j18 s i0 (0 : Int32))
def fX8_rule_j59 (i0 : Int32) (r9 : st_ × Int32) (z2_j59 : Int32) : Option (st_ × Int32) :=
  bn_ (fX8_of r9.1 i0 z2_j59) fun r13 =>
  some (r9.1, r13)
def fX8_rule_j26 (i0 : Int32) (i1 : Int32) (r1 : st_ × Int32) (z1_j26 : Int32) : Option (st_ × Int32) :=
  bn_ (fX8_throwsIf r1.1 z1_j26 (2 : Int32)) fun r9 =>
  if r9.2 = (0 : Int32) then (if i1 = (4 : Int32) then (bn_ (fX8_armOf r9.1 i0 (3 : Int32)) fun r17 =>
  some (r9.1, r17))
  else (if i1 = (5 : Int32) then (fX8_rule_j59 i0 r9 (4 : Int32))
  else (fX8_rule_j59 i0 r9 i1)))
  else (some (r9.1, (0 : Int32)))
def fX8_rule (s : st_) (i0 : Int32) (i1 : Int32) : Option (st_ × Int32) :=
  bn_ (fX8_noRule s i0) fun r1 =>
  if r1.2 = (0 : Int32) then (bn_ (fX8_in (Int32.toInt64 i1) (0 : Int64) (5 : Int64)) fun r5 =>
  if r5 = (0 : Int32) then (fX8_rule_j26 i0 i1 r1 (1 : Int32))
  else (fX8_rule_j26 i0 i1 r1 (0 : Int32)))
  else (some (r1.1, (0 : Int32)))
def fX8_ask (s : st_) (i0 : Int32) : Option (st_ × Int32) :=
  bd_ (pt_ s 0 6 (0 : Int32)) fun s1 =>
  gd_ (ib_ (10 : Int32) 12584) <|
  bn_ (fX8_in (Int32.toInt64 i0) (0 : Int64) (Int32.toInt64 ((s1 1 (ix_ (10 : Int32))) - (1 : Int32)))) fun r6 =>
  if r6 = (0 : Int32) then (some (s1, (-1 : Int32)))
  else (gd_ (ib_ ((56 : Int32) + i0) 12584) <|
  some (s1, (s1 1 (ix_ ((56 : Int32) + i0)))))
def fX8_sets (s : st_) (i0 : Int32) (i1 : Int32) : Option (st_ × Int32) :=
  gd_ (ib_ i0 12584) <|
  gd_ (ib_ i0 12584) <|
  bd_ (pt_ s 1 (ix_ i0) i1) fun s3 =>
  some (s3, (s 1 (ix_ i0)))
def fX8_isFull (s : st_) : Option (Int32) :=
  bn_ (fX8_armOf s (6 : Int32) (2 : Int32)) fun r1 =>
  if r1 = (20 : Int32) then (some (1 : Int32))
  else (some (0 : Int32))
def fX8_isThere_j33 : Option (Int32) :=
  some (1 : Int32)
def fX8_isThere_j37 : Option (Int32) :=
  some (0 : Int32)
def fX8_isThere (s : st_) (i0 : Int32) : Option (Int32) :=
  gd_ (ib_ (4 : Int32) 12584) <|
  if i0 < (s 1 (ix_ (4 : Int32))) then (fX8_isThere_j33)
  else (if i0 = (6 : Int32) then (fX8_isThere_j33)
  else (if i0 = (7 : Int32) then (gd_ (ib_ (21 : Int32) 12584) <|
  if (s 1 (ix_ (21 : Int32))) = (-1 : Int32) then (fX8_isThere_j37)
  else (fX8_isThere_j33))
  else (fX8_isThere_j37)))
def fX8_comes_x2_79 (s_x2_79 : st_) : Option (st_) :=
  some s_x2_79
def fX8_comes_k2 (x : st_) : Option (st_) :=
  fX8_comes_x2_79 x
def fX8_comes_j73 (v2_b2 : Int32) (s_j73 : st_) : Option ((Int32 × st_) ⊕ (st_)) :=
  some (.inl ((v2_b2 + (1 : Int32)), s_j73))
def fX8_comes_b2 (i0 : Int32) (v2_b2 : Int32) (s_b2 : st_) : Option ((Int32 × st_) ⊕ (st_)) :=
  if (8 : Int32) ≤ v2_b2 then (some (.inr s_b2))
  else (bn_ (fX8_isThere s_b2 v2_b2) fun r1 =>
  if r1 = (0 : Int32) then (fX8_comes_j73 v2_b2 s_b2)
  else (bn_ (fX8_armAt v2_b2) fun r5 =>
  bn_ (fX8_armOf s_b2 v2_b2 (2 : Int32)) fun r9 =>
  gd_ (ib_ ((r5 + (7 : Int32)) + ((2 : Int32) * r9)) 12584) <|
  bd_ (pt_ s_b2 1 (ix_ ((r5 + (7 : Int32)) + ((2 : Int32) * r9))) i0) fun s14 =>
  gd_ (ib_ (16 : Int32) 12584) <|
  gd_ (ib_ (((r5 + (7 : Int32)) + ((2 : Int32) * r9)) + (1 : Int32)) 12584) <|
  bd_ (pt_ s14 1 (ix_ (((r5 + (7 : Int32)) + ((2 : Int32) * r9)) + (1 : Int32))) (s14 1 (ix_ (16 : Int32)))) fun s20 =>
  bn_ (fX8_armAt v2_b2) fun r24 =>
  gd_ (ib_ (r24 + (2 : Int32)) 12584) <|
  gd_ (ib_ (r24 + (2 : Int32)) 12584) <|
  bd_ (pt_ s20 1 (ix_ (r24 + (2 : Int32))) ((s20 1 (ix_ (r24 + (2 : Int32)))) + (1 : Int32))) fun s30 =>
  fX8_comes_j73 v2_b2 s30))
def fX8_comes_l2 (i0 : Int32) : Nat → (Int32 × st_) → Option (st_) :=
  it_ (fun v => fX8_comes_b2 i0 v.1 v.2)
def fX8_comes (s : st_) (i0 : Int32) : Option (st_) :=
  bn_ (fX8_comes_l2 i0 FU_ ((0 : Int32), s)) (fX8_comes_k2)
def fX8_request (s : st_) (i0 : Int32) : Option (st_ × Int32) :=
  bn_ (fX8_noCylinder s i0) fun r1 =>
  if r1.2 = (0 : Int32) then (bn_ (fX8_isFull r1.1) fun r5 =>
  if r5 = (0 : Int32) then (bn_ (fX8_comes r1.1 i0) fun r9 =>
  bn_ (fX8_armOf r9 (6 : Int32) (2 : Int32)) fun r13 =>
  some (r9, r13))
  else (some (r1.1, (-2 : Int32))))
  else (some (r1.1, (0 : Int32)))
def fX8_setFoe_j18 (s : st_) (i0 : Int32) (z1_j18 : Int32) : Option (st_ × Int32) :=
  bn_ (fX8_wrong s z1_j18) fun r5 =>
  if r5.2 = (0 : Int32) then (bn_ (fX8_sets r5.1 (9 : Int32) i0) fun r9 =>
  some (r9.1, r9.2))
  else (some (r5.1, (0 : Int32)))
def fX8_setFoe (s : st_) (i0 : Int32) : Option (st_ × Int32) :=
  bn_ (fX8_in (Int32.toInt64 i0) (0 : Int64) (5 : Int64)) fun r1 =>
  if r1 = (0 : Int32) then (fX8_setFoe_j18 s i0 (1 : Int32))
  else (fX8_setFoe_j18 s i0 (0 : Int32))
def fX8_setMaster_j68 (i0 : Int32) (r9 : st_ × Int32) (z2_j68 : Int32) : Option (st_ × Int32) :=
  gd_ (ib_ (6 : Int32) 12584) <|
  bd_ (pt_ r9.1 1 (ix_ (6 : Int32)) z2_j68) fun s14 =>
  bn_ (fX8_sets s14 (5 : Int32) i0) fun r18 =>
  some (r18.1, r18.2)
def fX8_setMaster_j43 (i0 : Int32) (i1 : Int32) (r5 : st_ × Int32) (z1_j43 : Int32) : Option (st_ × Int32) :=
  bn_ (fX8_throwsIf r5.1 z1_j43 (2 : Int32)) fun r9 =>
  if r9.2 = (0 : Int32) then (if i0 = (2 : Int32) then (fX8_setMaster_j68 i0 r9 i1)
  else (fX8_setMaster_j68 i0 r9 (0 : Int32)))
  else (some (r9.1, (0 : Int32)))
def fX8_setMaster_j42 (i0 : Int32) (i1 : Int32) (r5 : st_ × Int32) : Option (st_ × Int32) :=
  fX8_setMaster_j43 i0 i1 r5 (0 : Int32)
def fX8_setMaster_j18 (s : st_) (i0 : Int32) (i1 : Int32) (z1_j18 : Int32) : Option (st_ × Int32) :=
  bn_ (fX8_wrong s z1_j18) fun r5 =>
  if r5.2 = (0 : Int32) then (if i0 = (2 : Int32) then (bn_ (fX8_isRule r5.1 i1) fun r22 =>
  if r22 = (0 : Int32) then (fX8_setMaster_j43 i0 i1 r5 (1 : Int32))
  else (fX8_setMaster_j42 i0 i1 r5))
  else (fX8_setMaster_j42 i0 i1 r5))
  else (some (r5.1, (0 : Int32)))
def fX8_setMaster (s : st_) (i0 : Int32) (i1 : Int32) : Option (st_ × Int32) :=
  bn_ (fX8_in (Int32.toInt64 i0) (0 : Int64) (2 : Int64)) fun r1 =>
  if r1 = (0 : Int32) then (fX8_setMaster_j18 s i0 i1 (1 : Int32))
  else (fX8_setMaster_j18 s i0 i1 (0 : Int32))
def fX8_setEta_j18 (s : st_) (i0 : Int32) (z1_j18 : Int32) : Option (st_ × Int32) :=
  bn_ (fX8_wrong s z1_j18) fun r5 =>
  if r5.2 = (0 : Int32) then (bn_ (fX8_sets r5.1 (7 : Int32) i0) fun r9 =>
  some (r9.1, r9.2))
  else (some (r5.1, (0 : Int32)))
def fX8_setEta (s : st_) (i0 : Int32) : Option (st_ × Int32) :=
  bn_ (fX8_in (Int32.toInt64 i0) (1 : Int64) (500 : Int64)) fun r1 =>
  if r1 = (0 : Int32) then (fX8_setEta_j18 s i0 (1 : Int32))
  else (fX8_setEta_j18 s i0 (0 : Int32))
def fX8_setBound_j30 (s : st_) (i0 : Int32) (i1 : Int32) (z1_j30 : Int32) : Option (st_ × Int32) :=
  bn_ (fX8_wrong s z1_j30) fun r5 =>
  if r5.2 = (0 : Int32) then (gd_ (ib_ (12 : Int32) 12584) <|
  bd_ (pt_ r5.1 1 (ix_ (12 : Int32)) i1) fun s10 =>
  bn_ (fX8_sets s10 (11 : Int32) i0) fun r14 =>
  some (r14.1, r14.2))
  else (some (r5.1, (0 : Int32)))
def fX8_setBound_j25 (s : st_) (i0 : Int32) (i1 : Int32) : Option (st_ × Int32) :=
  fX8_setBound_j30 s i0 i1 (1 : Int32)
def fX8_setBound (s : st_) (i0 : Int32) (i1 : Int32) : Option (st_ × Int32) :=
  bn_ (fX8_in (Int32.toInt64 i0) (0 : Int64) (99999 : Int64)) fun r1 =>
  if r1 = (0 : Int32) then (fX8_setBound_j25 s i0 i1)
  else (bn_ (fX8_in (Int32.toInt64 i1) (0 : Int64) (9999 : Int64)) fun r18 =>
  if r18 = (0 : Int32) then (fX8_setBound_j25 s i0 i1)
  else (fX8_setBound_j30 s i0 i1 (0 : Int32)))
def fX8_addAsk (s : st_) (i0 : Int32) : Option (st_ × Int32) :=
  bn_ (fX8_noCylinder s i0) fun r1 =>
  if r1.2 = (0 : Int32) then (gd_ (ib_ (10 : Int32) 12584) <|
  if (r1.1 1 (ix_ (10 : Int32))) = (16 : Int32) then (some (r1.1, (-2 : Int32)))
  else (gd_ (ib_ (10 : Int32) 12584) <|
  gd_ (ib_ ((56 : Int32) + (r1.1 1 (ix_ (10 : Int32)))) 12584) <|
  bd_ (pt_ r1.1 1 (ix_ ((56 : Int32) + (r1.1 1 (ix_ (10 : Int32))))) i0) fun s8 =>
  gd_ (ib_ (10 : Int32) 12584) <|
  gd_ (ib_ (10 : Int32) 12584) <|
  bd_ (pt_ s8 1 (ix_ (10 : Int32)) ((s8 1 (ix_ (10 : Int32))) + (1 : Int32))) fun s14 =>
  gd_ (ib_ (10 : Int32) 12584) <|
  some (s14, ((s14 1 (ix_ (10 : Int32))) - (1 : Int32)))))
  else (some (r1.1, (0 : Int32)))
def fX8_setBudget_j20 (s : st_) (i0 : Int32) (z1_j20 : Int32) : Option (st_ × Int32) :=
  bn_ (fX8_wrong s z1_j20) fun r5 =>
  if r5.2 = (0 : Int32) then (gd_ (ib_ (14 : Int32) 12584) <|
  bd_ (pt_ r5.1 1 (ix_ (14 : Int32)) (0 : Int32)) fun s10 =>
  bn_ (fX8_sets s10 (13 : Int32) i0) fun r14 =>
  some (r14.1, r14.2))
  else (some (r5.1, (0 : Int32)))
def fX8_setBudget (s : st_) (i0 : Int32) : Option (st_ × Int32) :=
  bn_ (fX8_in (Int32.toInt64 i0) (-1 : Int64) (999 : Int64)) fun r1 =>
  if r1 = (0 : Int32) then (fX8_setBudget_j20 s i0 (1 : Int32))
  else (fX8_setBudget_j20 s i0 (0 : Int32))
def fX8_evenWeights_x14_45 (r5 : Int32) (s_x14_45 : st_) : Option (st_ × Int32) :=
  some (s_x14_45, r5)
def fX8_evenWeights_k14 (r5 : Int32) (x : st_) : Option (st_ × Int32) :=
  fX8_evenWeights_x14_45 r5 x
def fX8_evenWeights_b14 (v2_b14 : Int32) (s_b14 : st_) : Option ((Int32 × st_) ⊕ (st_)) :=
  gd_ (ib_ (4 : Int32) 12584) <|
  if (s_b14 1 (ix_ (4 : Int32))) ≤ v2_b14 then (some (.inr s_b14))
  else (gd_ (ib_ (((26 : Int32) + ((5 : Int32) * v2_b14)) + (2 : Int32)) 12584) <|
  bd_ (pt_ s_b14 1 (ix_ (((26 : Int32) + ((5 : Int32) * v2_b14)) + (2 : Int32))) (1000000 : Int32)) fun s11 =>
  some (.inl ((v2_b14 + (1 : Int32)), s11)))
def fX8_evenWeights_l14 : Nat → (Int32 × st_) → Option (st_) :=
  it_ (fun v => fX8_evenWeights_b14 v.1 v.2)
def fX8_evenWeights (s : st_) : Option (st_ × Int32) :=
  bd_ (pt_ s 0 6 (0 : Int32)) fun s1 =>
  bn_ (fX8_of s1 (0 : Int32) (2 : Int32)) fun r5 =>
  bn_ (fX8_evenWeights_l14 FU_ ((0 : Int32), s1)) (fX8_evenWeights_k14 r5)
def fX8_cylinderOf (s : st_) (i0 : Int32) (i1 : Int32) : Option (Int32) :=
  bn_ (fX8_armAt i0) fun r1 =>
  gd_ (ib_ ((r1 + (7 : Int32)) + ((2 : Int32) * i1)) 12584) <|
  some (s 1 (ix_ ((r1 + (7 : Int32)) + ((2 : Int32) * i1))))
def fX8_farOf (s : st_) (i0 : Int32) (i1 : Int32) : Option (Int32) :=
  bn_ (fX8_cylinderOf s i0 i1) fun r1 =>
  bn_ (fX8_armOf s i0 (0 : Int32)) fun r5 =>
  some (if (0 : Int32) ≤ (r1 - r5) then (r1 - r5) else (0 : Int32) - (r1 - r5))
def fX8_nearestOn_x5_120 (v3_x5_120 : Int32) : Option (Int32) :=
  some v3_x5_120
def fX8_nearestOn_k5 (x : Int32) : Option (Int32) :=
  fX8_nearestOn_x5_120 x
def fX8_nearestOn_j114 (v4_b5 : Int32) (v3_j114 : Int32) : Option ((Int32 × Int32) ⊕ (Int32)) :=
  some (.inl (v3_j114, (v4_b5 + (1 : Int32))))
def fX8_nearestOn_j113 (v4_b5 : Int32) (z0_j113 : Int32) : Option ((Int32 × Int32) ⊕ (Int32)) :=
  fX8_nearestOn_j114 v4_b5 z0_j113
def fX8_nearestOn_j100 (v3_b5 : Int32) (v4_b5 : Int32) (z0_j100 : Int32) : Option ((Int32 × Int32) ⊕ (Int32)) :=
  if z0_j100 = (0 : Int32) then (fX8_nearestOn_j113 v4_b5 v3_b5)
  else (fX8_nearestOn_j113 v4_b5 v4_b5)
def fX8_nearestOn_j95 (v3_b5 : Int32) (v4_b5 : Int32) : Option ((Int32 × Int32) ⊕ (Int32)) :=
  fX8_nearestOn_j100 v3_b5 v4_b5 (1 : Int32)
def fX8_nearestOn_j99 (v3_b5 : Int32) (v4_b5 : Int32) : Option ((Int32 × Int32) ⊕ (Int32)) :=
  fX8_nearestOn_j100 v3_b5 v4_b5 (0 : Int32)
def fX8_nearestOn_b5 (s : st_) (i0 : Int32) (i1 : Int32) (v3_b5 : Int32) (v4_b5 : Int32) : Option ((Int32 × Int32) ⊕ (Int32)) :=
  bn_ (fX8_armOf s i0 (2 : Int32)) fun r1 =>
  if r1 ≤ v4_b5 then (some (.inr v3_b5))
  else (bn_ (fX8_cylinderOf s i0 v4_b5) fun r5 =>
  bn_ (fX8_armOf s i0 (0 : Int32)) fun r9 =>
  if (0 : Int32) ≤ ((r5 - r9) * i1) then (if v3_b5 = (-1 : Int32) then (fX8_nearestOn_j95 v3_b5 v4_b5)
  else (bn_ (fX8_farOf s i0 v4_b5) fun r13 =>
  bn_ (fX8_farOf s i0 v3_b5) fun r17 =>
  if r13 < r17 then (fX8_nearestOn_j95 v3_b5 v4_b5)
  else (bn_ (fX8_farOf s i0 v4_b5) fun r21 =>
  bn_ (fX8_farOf s i0 v3_b5) fun r25 =>
  if r21 = r25 then (bn_ (fX8_cylinderOf s i0 v4_b5) fun r29 =>
  bn_ (fX8_cylinderOf s i0 v3_b5) fun r33 =>
  if r33 ≤ r29 then (fX8_nearestOn_j99 v3_b5 v4_b5)
  else (fX8_nearestOn_j95 v3_b5 v4_b5))
  else (fX8_nearestOn_j99 v3_b5 v4_b5))))
  else (fX8_nearestOn_j114 v4_b5 v3_b5))
def fX8_nearestOn_l5 (s : st_) (i0 : Int32) (i1 : Int32) : Nat → (Int32 × Int32) → Option (Int32) :=
  it_ (fun v => fX8_nearestOn_b5 s i0 i1 v.1 v.2)
def fX8_nearestOn (s : st_) (i0 : Int32) (i1 : Int32) : Option (Int32) :=
  bn_ (fX8_nearestOn_l5 s i0 i1 FU_ ((-1 : Int32), (0 : Int32))) (fX8_nearestOn_k5)
def fX8_lowestOf_x4_41 (v2_x4_41 : Int32) : Option (Int32) :=
  some v2_x4_41
def fX8_lowestOf_k4 (x : Int32) : Option (Int32) :=
  fX8_lowestOf_x4_41 x
def fX8_lowestOf_j34 (v3_b4 : Int32) (z0_j34 : Int32) : Option ((Int32 × Int32) ⊕ (Int32)) :=
  some (.inl (z0_j34, (v3_b4 + (1 : Int32))))
def fX8_lowestOf_b4 (s : st_) (i0 : Int32) (v2_b4 : Int32) (v3_b4 : Int32) : Option ((Int32 × Int32) ⊕ (Int32)) :=
  bn_ (fX8_armOf s i0 (2 : Int32)) fun r1 =>
  if r1 ≤ v3_b4 then (some (.inr v2_b4))
  else (bn_ (fX8_cylinderOf s i0 v3_b4) fun r5 =>
  bn_ (fX8_cylinderOf s i0 v2_b4) fun r9 =>
  if r9 ≤ r5 then (fX8_lowestOf_j34 v3_b4 v2_b4)
  else (fX8_lowestOf_j34 v3_b4 v3_b4))
def fX8_lowestOf_l4 (s : st_) (i0 : Int32) : Nat → (Int32 × Int32) → Option (Int32) :=
  it_ (fun v => fX8_lowestOf_b4 s i0 v.1 v.2)
def fX8_lowestOf (s : st_) (i0 : Int32) : Option (Int32) :=
  bn_ (fX8_lowestOf_l4 s i0 FU_ ((0 : Int32), (1 : Int32))) (fX8_lowestOf_k4)
def fX8_within_x2_28 (s : st_) (i0 : Int32) (v3_x2_28 : Int32) : Option (Int32) :=
  bn_ (fX8_armOf s i0 (2 : Int32)) fun r1 =>
  if r1 ≤ v3_x2_28 then (some (0 : Int32))
  else (some v3_x2_28)
def fX8_within_k2 (s : st_) (i0 : Int32) (x : Int32) : Option (Int32) :=
  fX8_within_x2_28 s i0 x
def fX8_within_b2 (s : st_) (i0 : Int32) (i1 : Int32) (v3_b2 : Int32) : Option ((Int32) ⊕ (Int32)) :=
  bn_ (fX8_armOf s i0 (2 : Int32)) fun r5 =>
  if r5 ≤ v3_b2 then (some (.inr v3_b2))
  else (bn_ (fX8_farOf s i0 v3_b2) fun r9 =>
  if r9 ≤ i1 then (some (.inr v3_b2))
  else (some (.inl (v3_b2 + (1 : Int32)))))
def fX8_within_l2 (s : st_) (i0 : Int32) (i1 : Int32) : Nat → Int32 → Option (Int32) :=
  it_ (fun v => fX8_within_b2 s i0 i1 v)
def fX8_within (s : st_) (i0 : Int32) (i1 : Int32) : Option (Int32) :=
  bn_ (fX8_within_l2 s i0 i1 FU_ (0 : Int32)) (fX8_within_k2 s i0)
def fX8_scanned_j34 (s : st_) (i0 : Int32) (z0_j15 : Int32) (r5 : Int32) (z1_j34 : Int32) : Option (st_ × Int32) :=
  gd_ (bz_ z1_j34) <|
  bd_ (pt_ s 0 15 z1_j34) fun s9 =>
  if (s9 0 15) = (0 : Int32) then (some (s9, r5))
  else (bn_ (fX8_nearestOn s9 i0 (-z0_j15)) fun r14 =>
  some (s9, r14))
def fX8_scanned_j15 (s : st_) (i0 : Int32) (z0_j15 : Int32) : Option (st_ × Int32) :=
  bn_ (fX8_nearestOn s i0 z0_j15) fun r5 =>
  if r5 = (-1 : Int32) then (fX8_scanned_j34 s i0 z0_j15 r5 (1 : Int32))
  else (fX8_scanned_j34 s i0 z0_j15 r5 (0 : Int32))
def fX8_scanned (s : st_) (i0 : Int32) : Option (st_ × Int32) :=
  bn_ (fX8_armOf s i0 (1 : Int32)) fun r1 =>
  if r1 = (1 : Int32) then (fX8_scanned_j15 s i0 (1 : Int32))
  else (fX8_scanned_j15 s i0 (-1 : Int32))
def fX8_picks (s : st_) (i0 : Int32) (i1 : Int32) : Option (st_ × Int32) :=
  bd_ (pt_ s 0 15 (0 : Int32)) fun s1 =>
  bn_ (fX8_armOf s1 i0 (2 : Int32)) fun r5 =>
  if r5 = (0 : Int32) then (some (s1, (-1 : Int32)))
  else (bn_ (fX8_of s1 i1 (0 : Int32)) fun r9 =>
  if r9 = (0 : Int32) then (some (s1, (0 : Int32)))
  else (if r9 = (1 : Int32) then (bn_ (fX8_nearestOn s1 i0 (0 : Int32)) fun r13 =>
  some (s1, r13))
  else (if r9 = (2 : Int32) then (bn_ (fX8_scanned s1 i0) fun r17 =>
  some (r17.1, r17.2))
  else (if r9 = (3 : Int32) then (bn_ (fX8_nearestOn s1 i0 (1 : Int32)) fun r21 =>
  if r21 = (-1 : Int32) then (bn_ (fX8_lowestOf s1 i0) fun r25 =>
  some (s1, r25))
  else (some (s1, r21)))
  else (bn_ (fX8_of s1 i1 (1 : Int32)) fun r29 =>
  bn_ (fX8_within s1 i0 r29) fun r33 =>
  some (s1, r33))))))
def fX8_costOf (s : st_) (i0 : Int32) : Option (Int32) :=
  if i0 = (0 : Int32) then (some (0 : Int32))
  else (gd_ (ib_ (2 : Int32) 12584) <|
  gd_ (ib_ (3 : Int32) 12584) <|
  some ((s 1 (ix_ (2 : Int32))) + ((s 1 (ix_ (3 : Int32))) * i0)))
def fX8_wouldCost (s : st_) (i0 : Int32) (i1 : Int32) : Option (st_ × Int32) :=
  bn_ (fX8_picks s i0 i1) fun r1 =>
  if r1.2 = (-1 : Int32) then (some (r1.1, (0 : Int32)))
  else (bn_ (fX8_farOf r1.1 i0 r1.2) fun r5 =>
  bn_ (fX8_costOf r1.1 r5) fun r9 =>
  some (r1.1, r9))
def fX8_served1 (s : st_) (i0 : Int32) (i1 : Int32) : Option (st_ × Int32) :=
  bn_ (fX8_picks s i0 i1) fun r1 =>
  if r1.2 = (-1 : Int32) then (some (r1.1, (-1 : Int32)))
  else (if (r1.1 0 15) = (0 : Int32) then (some (r1.1, r1.2))
  else (bn_ (fX8_armAt i0) fun r5 =>
  bn_ (fX8_armOf r1.1 i0 (1 : Int32)) fun r9 =>
  gd_ (ib_ (r5 + (1 : Int32)) 12584) <|
  bd_ (pt_ r1.1 1 (ix_ (r5 + (1 : Int32))) ((1 : Int32) - r9)) fun s14 =>
  some (s14, r1.2)))
def fX8_notes_x26_56 (i0 : Int32) (i1 : Int32) (i2 : Int32) (i3 : Int32) (s_x26_56 : st_) : Option (st_) :=
  gd_ (ib_ (16 : Int32) 12584) <|
  gd_ (ib_ (448 : Int32) 12584) <|
  bd_ (pt_ s_x26_56 1 (ix_ (448 : Int32)) (s_x26_56 1 (ix_ (16 : Int32)))) fun s9 =>
  gd_ (ib_ (449 : Int32) 12584) <|
  bd_ (pt_ s9 1 (ix_ (449 : Int32)) i0) fun s14 =>
  gd_ (ib_ (450 : Int32) 12584) <|
  bd_ (pt_ s14 1 (ix_ (450 : Int32)) i1) fun s19 =>
  gd_ (ib_ (451 : Int32) 12584) <|
  bd_ (pt_ s19 1 (ix_ (451 : Int32)) i2) fun s24 =>
  gd_ (ib_ (452 : Int32) 12584) <|
  bd_ (pt_ s24 1 (ix_ (452 : Int32)) i3) fun s29 =>
  some s29
def fX8_notes_k26 (i0 : Int32) (i1 : Int32) (i2 : Int32) (i3 : Int32) (x : st_) : Option (st_) :=
  fX8_notes_x26_56 i0 i1 i2 i3 x
def fX8_notes_b26 (v5_b26 : Int32) (s_b26 : st_) : Option ((Int32 × st_) ⊕ (st_)) :=
  if v5_b26 < (453 : Int32) then (some (.inr s_b26))
  else (gd_ (ib_ (v5_b26 - (5 : Int32)) 12584) <|
  gd_ (ib_ v5_b26 12584) <|
  bd_ (pt_ s_b26 1 (ix_ v5_b26) (s_b26 1 (ix_ (v5_b26 - (5 : Int32))))) fun s35 =>
  some (.inl ((v5_b26 + (-1 : Int32)), s35)))
def fX8_notes_l26 : Nat → (Int32 × st_) → Option (st_) :=
  it_ (fun v => fX8_notes_b26 v.1 v.2)
def fX8_notes (s : st_) (i0 : Int32) (i1 : Int32) (i2 : Int32) (i3 : Int32) : Option (st_) :=
  gd_ (ib_ (20 : Int32) 12584) <|
  gd_ (ib_ (20 : Int32) 12584) <|
  bd_ (pt_ s 1 (ix_ (20 : Int32)) (if ((s 1 (ix_ (20 : Int32))) + (1 : Int32)) < (20 : Int32) then ((s 1 (ix_ (20 : Int32))) + (1 : Int32)) else (20 : Int32))) fun s3 =>
  bn_ (fX8_notes_l26 FU_ ((547 : Int32), s3)) (fX8_notes_k26 i0 i1 i2 i3)
def fX8_serves_x187_231 (r9 : Int32) (s_x187_231 : st_) : Option (st_ × Int32) :=
  bn_ (fX8_costOf s_x187_231 r9) fun r58 =>
  some (s_x187_231, r58)
def fX8_serves_k187 (r9 : Int32) (x : st_) : Option (st_ × Int32) :=
  fX8_serves_x187_231 r9 x
def fX8_serves_b187 (r5 : Int32) (v7_b187 : Int32) (s_b187 : st_) : Option ((Int32 × st_) ⊕ (st_)) :=
  gd_ (ib_ (r5 + (2 : Int32)) 12584) <|
  if ((r5 + (7 : Int32)) + ((2 : Int32) * (s_b187 1 (ix_ (r5 + (2 : Int32)))))) ≤ v7_b187 then (some (.inr s_b187))
  else (gd_ (ib_ (v7_b187 + (2 : Int32)) 12584) <|
  gd_ (ib_ v7_b187 12584) <|
  bd_ (pt_ s_b187 1 (ix_ v7_b187) (s_b187 1 (ix_ (v7_b187 + (2 : Int32))))) fun s65 =>
  some (.inl ((v7_b187 + (1 : Int32)), s65)))
def fX8_serves_l187 (r5 : Int32) : Nat → (Int32 × st_) → Option (st_) :=
  it_ (fun v => fX8_serves_b187 r5 v.1 v.2)
def fX8_serves_j71 (i0 : Int32) (r1 : st_ × Int32) (r5 : Int32) (r9 : Int32) (s_j71 : st_) : Option (st_ × Int32) :=
  bn_ (fX8_cylinderOf s_j71 i0 r1.2) fun r14 =>
  gd_ (ib_ (r5 + (0 : Int32)) 12584) <|
  bd_ (pt_ s_j71 1 (ix_ (r5 + (0 : Int32))) r14) fun s19 =>
  gd_ (ib_ (r5 + (3 : Int32)) 12584) <|
  bn_ (fX8_costOf s19 r9) fun r24 =>
  gd_ (ib_ (r5 + (3 : Int32)) 12584) <|
  bd_ (pt_ s19 1 (ix_ (r5 + (3 : Int32))) ((s19 1 (ix_ (r5 + (3 : Int32)))) + r24)) fun s29 =>
  gd_ (ib_ (r5 + (4 : Int32)) 12584) <|
  gd_ (ib_ (r5 + (4 : Int32)) 12584) <|
  bd_ (pt_ s29 1 (ix_ (r5 + (4 : Int32))) ((s29 1 (ix_ (r5 + (4 : Int32)))) + r9)) fun s35 =>
  gd_ (ib_ (r5 + (5 : Int32)) 12584) <|
  gd_ (ib_ (16 : Int32) 12584) <|
  gd_ (ib_ (r5 + (5 : Int32)) 12584) <|
  bd_ (pt_ s35 1 (ix_ (r5 + (5 : Int32))) (if (s35 1 (ix_ (r5 + (5 : Int32)))) < ((s35 1 (ix_ (16 : Int32))) - (r1.1 1 (ix_ (((r5 + (7 : Int32)) + ((2 : Int32) * r1.2)) + (1 : Int32))))) then ((s35 1 (ix_ (16 : Int32))) - (r1.1 1 (ix_ (((r5 + (7 : Int32)) + ((2 : Int32) * r1.2)) + (1 : Int32))))) else (s35 1 (ix_ (r5 + (5 : Int32)))))) fun s42 =>
  gd_ (ib_ (r5 + (6 : Int32)) 12584) <|
  gd_ (ib_ (r5 + (6 : Int32)) 12584) <|
  bd_ (pt_ s42 1 (ix_ (r5 + (6 : Int32))) ((s42 1 (ix_ (r5 + (6 : Int32)))) + (1 : Int32))) fun s48 =>
  gd_ (ib_ (r5 + (2 : Int32)) 12584) <|
  gd_ (ib_ (r5 + (2 : Int32)) 12584) <|
  bd_ (pt_ s48 1 (ix_ (r5 + (2 : Int32))) ((s48 1 (ix_ (r5 + (2 : Int32)))) - (1 : Int32))) fun s54 =>
  bn_ (fX8_serves_l187 r5 FU_ (((r5 + (7 : Int32)) + ((2 : Int32) * r1.2)), s54)) (fX8_serves_k187 r9)
def fX8_serves (s : st_) (i0 : Int32) (i1 : Int32) : Option (st_ × Int32) :=
  bn_ (fX8_served1 s i0 i1) fun r1 =>
  if r1.2 = (-1 : Int32) then (some (r1.1, (0 : Int32)))
  else (bn_ (fX8_armAt i0) fun r5 =>
  bn_ (fX8_farOf r1.1 i0 r1.2) fun r9 =>
  gd_ (ib_ (((r5 + (7 : Int32)) + ((2 : Int32) * r1.2)) + (1 : Int32)) 12584) <|
  if i0 = (6 : Int32) then (bn_ (fX8_cylinderOf r1.1 i0 r1.2) fun r69 =>
  bn_ (fX8_costOf r1.1 r9) fun r73 =>
  bn_ (fX8_notes r1.1 r69 (r1.1 1 (ix_ (((r5 + (7 : Int32)) + ((2 : Int32) * r1.2)) + (1 : Int32)))) r73 i1) fun r77 =>
  fX8_serves_j71 i0 r1 r5 r9 r77)
  else (fX8_serves_j71 i0 r1 r5 r9 r1.1))
def fX8_bestRule_x4_41 (v1_x4_41 : Int32) : Option (Int32) :=
  some v1_x4_41
def fX8_bestRule_k4 (x : Int32) : Option (Int32) :=
  fX8_bestRule_x4_41 x
def fX8_bestRule_j34 (v2_b4 : Int32) (z0_j34 : Int32) : Option ((Int32 × Int32) ⊕ (Int32)) :=
  some (.inl (z0_j34, (v2_b4 + (1 : Int32))))
def fX8_bestRule_b4 (s : st_) (v1_b4 : Int32) (v2_b4 : Int32) : Option ((Int32 × Int32) ⊕ (Int32)) :=
  gd_ (ib_ (4 : Int32) 12584) <|
  if (s 1 (ix_ (4 : Int32))) ≤ v2_b4 then (some (.inr v1_b4))
  else (bn_ (fX8_armOf s v2_b4 (3 : Int32)) fun r2 =>
  bn_ (fX8_armOf s v1_b4 (3 : Int32)) fun r6 =>
  if r6 ≤ r2 then (fX8_bestRule_j34 v2_b4 v1_b4)
  else (fX8_bestRule_j34 v2_b4 v2_b4))
def fX8_bestRule_l4 (s : st_) : Nat → (Int32 × Int32) → Option (Int32) :=
  it_ (fun v => fX8_bestRule_b4 s v.1 v.2)
def fX8_bestRule (s : st_) : Option (Int32) :=
  bn_ (fX8_bestRule_l4 s FU_ ((0 : Int32), (1 : Int32))) (fX8_bestRule_k4)
def fX8_regretNow (s : st_) : Option (Int32) :=
  bn_ (fX8_armOf s (6 : Int32) (3 : Int32)) fun r1 =>
  bn_ (fX8_bestRule s) fun r5 =>
  bn_ (fX8_armOf s r5 (3 : Int32)) fun r9 =>
  some (r1 - r9)
def fX8_drawn (s : st_) (i0 : Int32) : Option (Int32) :=
  some (Int64.toInt32 ((((1103 : Int64) * (Int32.toInt64 i0)) + (12345 : Int64)) - (((1103 : Int64) * (Int32.toInt64 i0)) + (12345 : Int64)) / (32768 : Int64) * (32768 : Int64)))
def fX8_weights_x4_29 (v1_x4_29 : Int32) : Option (Int32) :=
  some v1_x4_29
def fX8_weights_k4 (x : Int32) : Option (Int32) :=
  fX8_weights_x4_29 x
def fX8_weights_b4 (s : st_) (v1_b4 : Int32) (v2_b4 : Int32) : Option ((Int32 × Int32) ⊕ (Int32)) :=
  gd_ (ib_ (4 : Int32) 12584) <|
  if (s 1 (ix_ (4 : Int32))) ≤ v2_b4 then (some (.inr v1_b4))
  else (bn_ (fX8_of s v2_b4 (2 : Int32)) fun r2 =>
  some (.inl ((v1_b4 + r2), (v2_b4 + (1 : Int32)))))
def fX8_weights_l4 (s : st_) : Nat → (Int32 × Int32) → Option (Int32) :=
  it_ (fun v => fX8_weights_b4 s v.1 v.2)
def fX8_weights (s : st_) : Option (Int32) :=
  bn_ (fX8_weights_l4 s FU_ ((0 : Int32), (0 : Int32))) (fX8_weights_k4)
def fX8_takenBy_x28_58 (v5_x28_58 : Int32) : Option (Int32) :=
  some v5_x28_58
def fX8_takenBy_k28 (x : Int32) : Option (Int32) :=
  fX8_takenBy_x28_58 x
def fX8_takenBy_b28 (s : st_) (v4_b28 : Int32) (v5_b28 : Int32) : Option ((Int32 × Int32) ⊕ (Int32)) :=
  bn_ (fX8_of s v5_b28 (2 : Int32)) fun r6 =>
  if v4_b28 < r6 then (some (.inr v5_b28))
  else (bn_ (fX8_of s v5_b28 (2 : Int32)) fun r10 =>
  some (.inl ((v4_b28 - r10), (v5_b28 + (1 : Int32)))))
def fX8_takenBy_l28 (s : st_) : Nat → (Int32 × Int32) → Option (Int32) :=
  it_ (fun v => fX8_takenBy_b28 s v.1 v.2)
def fX8_takenBy (s : st_) (i0 : Int32) (i1 : Int32) (i2 : Int32) : Option (Int32) :=
  if i0 = (2 : Int32) then (some i1)
  else (if i0 = (1 : Int32) then (bn_ (fX8_bestRule s) fun r14 =>
  some r14)
  else (bn_ (fX8_weights s) fun r1 =>
  gd_ (nz_ r1) <|
  bn_ (fX8_takenBy_l28 s FU_ ((i2 - i2 / r1 * r1), (0 : Int32))) (fX8_takenBy_k28)))
def fX8_ruleNext (s : st_) : Option (Int32) :=
  gd_ (ib_ (5 : Int32) 12584) <|
  gd_ (ib_ (6 : Int32) 12584) <|
  gd_ (ib_ (8 : Int32) 12584) <|
  bn_ (fX8_drawn s (s 1 (ix_ (8 : Int32)))) fun r4 =>
  bn_ (fX8_takenBy s (s 1 (ix_ (5 : Int32))) (s 1 (ix_ (6 : Int32))) r4) fun r8 =>
  some r8
def fX8_regretThen_x25_59 (r1 : Int32) (r9 : st_ × Int32) (v2_x25_59 : Int32) (s_x25_59 : st_) : Option (st_ × Int32) :=
  some (s_x25_59, ((r1 + r9.2) - v2_x25_59))
def fX8_regretThen_k25 (r1 : Int32) (r9 : st_ × Int32) (x : Int32 × st_) : Option (st_ × Int32) :=
  fX8_regretThen_x25_59 r1 r9 x.1 x.2
def fX8_regretThen_b25 (v2_b25 : Int32) (v3_b25 : Int32) (s_b25 : st_) : Option ((Int32 × Int32 × st_) ⊕ (Int32 × st_)) :=
  gd_ (ib_ (4 : Int32) 12584) <|
  if (s_b25 1 (ix_ (4 : Int32))) ≤ v3_b25 then (some (.inr (v2_b25, s_b25)))
  else (bn_ (fX8_armOf s_b25 v3_b25 (3 : Int32)) fun r14 =>
  bn_ (fX8_wouldCost s_b25 v3_b25 v3_b25) fun r18 =>
  some (.inl ((if (r14 + r18.2) < v2_b25 then (r14 + r18.2) else v2_b25), (v3_b25 + (1 : Int32)), r18.1)))
def fX8_regretThen_l25 : Nat → (Int32 × Int32 × st_) → Option (Int32 × st_) :=
  it_ (fun v => fX8_regretThen_b25 v.1 v.2.1 v.2.2)
def fX8_regretThen (s : st_) : Option (st_ × Int32) :=
  bn_ (fX8_armOf s (6 : Int32) (3 : Int32)) fun r1 =>
  bn_ (fX8_ruleNext s) fun r5 =>
  bn_ (fX8_wouldCost s (6 : Int32) r5) fun r9 =>
  bn_ (fX8_regretThen_l25 FU_ ((2147483647 : Int32), (0 : Int32), r9.1)) (fX8_regretThen_k25 r1 r9)
def fX8_hurts_x12_47 (r5 : st_ × Int32) (s_x12_47 : st_) : Option (st_ × Int32) :=
  some (s_x12_47, r5.2)
def fX8_hurts_k12 (r5 : st_ × Int32) (x : st_) : Option (st_ × Int32) :=
  fX8_hurts_x12_47 r5 x
def fX8_hurts_j41 (v3_b12 : Int32) (s_j41 : st_) : Option ((Int32 × st_) ⊕ (st_)) :=
  some (.inl ((v3_b12 + (1 : Int32)), s_j41))
def fX8_hurts_b12 (v3_b12 : Int32) (s_b12 : st_) : Option ((Int32 × st_) ⊕ (st_)) :=
  if (8 : Int32) ≤ v3_b12 then (some (.inr s_b12))
  else (bn_ (fX8_isThere s_b12 v3_b12) fun r9 =>
  if r9 = (0 : Int32) then (fX8_hurts_j41 v3_b12 s_b12)
  else (bn_ (fX8_armAt v3_b12) fun r13 =>
  gd_ (ib_ (r13 + (2 : Int32)) 12584) <|
  gd_ (ib_ (r13 + (2 : Int32)) 12584) <|
  bd_ (pt_ s_b12 1 (ix_ (r13 + (2 : Int32))) ((s_b12 1 (ix_ (r13 + (2 : Int32)))) - (1 : Int32))) fun s19 =>
  fX8_hurts_j41 v3_b12 s19))
def fX8_hurts_l12 : Nat → (Int32 × st_) → Option (st_) :=
  it_ (fun v => fX8_hurts_b12 v.1 v.2)
def fX8_hurts (s : st_) (i0 : Int32) : Option (st_ × Int32) :=
  bn_ (fX8_comes s i0) fun r1 =>
  bn_ (fX8_regretThen r1) fun r5 =>
  bn_ (fX8_hurts_l12 FU_ ((0 : Int32), r5.1)) (fX8_hurts_k12 r5)
def fX8_worstOf_x6_48 (v1_x6_48 : Int32) (s_x6_48 : st_) : Option (st_ × Int32) :=
  some (s_x6_48, v1_x6_48)
def fX8_worstOf_k6 (x : Int32 × st_) : Option (st_ × Int32) :=
  fX8_worstOf_x6_48 x.1 x.2
def fX8_worstOf_j42 (v3_b6 : Int32) (r2 : st_ × Int32) (v1_j42 : Int32) (v2_j42 : Int32) : Option ((Int32 × Int32 × Int32 × st_) ⊕ (Int32 × st_)) :=
  some (.inl (v1_j42, v2_j42, (v3_b6 + (1 : Int32)), r2.1))
def fX8_worstOf_j37 (v3_b6 : Int32) (r2 : st_ × Int32) : Option ((Int32 × Int32 × Int32 × st_) ⊕ (Int32 × st_)) :=
  fX8_worstOf_j42 v3_b6 r2 v3_b6 r2.2
def fX8_worstOf_b6 (v1_b6 : Int32) (v2_b6 : Int32) (v3_b6 : Int32) (s_b6 : st_) : Option ((Int32 × Int32 × Int32 × st_) ⊕ (Int32 × st_)) :=
  gd_ (ib_ (0 : Int32) 12584) <|
  if (s_b6 1 (ix_ (0 : Int32))) ≤ v3_b6 then (some (.inr (v1_b6, s_b6)))
  else (bn_ (fX8_hurts s_b6 v3_b6) fun r2 =>
  if v1_b6 = (-1 : Int32) then (fX8_worstOf_j37 v3_b6 r2)
  else (if v2_b6 < r2.2 then (fX8_worstOf_j37 v3_b6 r2)
  else (fX8_worstOf_j42 v3_b6 r2 v1_b6 v2_b6)))
def fX8_worstOf_l6 : Nat → (Int32 × Int32 × Int32 × st_) → Option (Int32 × st_) :=
  it_ (fun v => fX8_worstOf_b6 v.1 v.2.1 v.2.2.1 v.2.2.2)
def fX8_worstOf (s : st_) : Option (st_ × Int32) :=
  bn_ (fX8_worstOf_l6 FU_ ((-1 : Int32), (0 : Int32), (0 : Int32), s)) (fX8_worstOf_k6)
def fX8_lists (s : st_) : Option (st_) :=
  gd_ (ib_ (10 : Int32) 12584) <|
  if (s 1 (ix_ (10 : Int32))) = (0 : Int32) then (some s)
  else (gd_ (ib_ (15 : Int32) 12584) <|
  gd_ (ib_ (10 : Int32) 12584) <|
  gd_ (nz_ (s 1 (ix_ (10 : Int32)))) <|
  gd_ (ib_ ((56 : Int32) + ((s 1 (ix_ (15 : Int32))) - (s 1 (ix_ (15 : Int32))) / (s 1 (ix_ (10 : Int32))) * (s 1 (ix_ (10 : Int32))))) 12584) <|
  bn_ (fX8_comes s (s 1 (ix_ ((56 : Int32) + ((s 1 (ix_ (15 : Int32))) - (s 1 (ix_ (15 : Int32))) / (s 1 (ix_ (10 : Int32))) * (s 1 (ix_ (10 : Int32)))))))) fun r6 =>
  gd_ (ib_ (15 : Int32) 12584) <|
  gd_ (ib_ (10 : Int32) 12584) <|
  gd_ (nz_ (r6 1 (ix_ (10 : Int32)))) <|
  gd_ (ib_ (15 : Int32) 12584) <|
  bd_ (pt_ r6 1 (ix_ (15 : Int32)) (((r6 1 (ix_ (15 : Int32))) - (r6 1 (ix_ (15 : Int32))) / (r6 1 (ix_ (10 : Int32))) * (r6 1 (ix_ (10 : Int32)))) + (1 : Int32))) fun s14 =>
  some s14)
def fX8_foe_j73 (s : st_) (z1_j73 : Int32) : Option (st_) :=
  bn_ (fX8_comes s z1_j73) fun r7 =>
  some r7
def fX8_foe_j107 (s : st_) (z1_j107 : Int32) : Option (st_) :=
  bn_ (fX8_comes s z1_j107) fun r16 =>
  some r16
def fX8_foe_j155 (s : st_) : Option (st_) :=
  gd_ (ib_ (14 : Int32) 12584) <|
  gd_ (ib_ (14 : Int32) 12584) <|
  bd_ (pt_ s 1 (ix_ (14 : Int32)) ((s 1 (ix_ (14 : Int32))) + (1 : Int32))) fun s27 =>
  bn_ (fX8_worstOf s27) fun r31 =>
  bn_ (fX8_comes r31.1 r31.2) fun r35 =>
  some r35
def fX8_foe (s : st_) : Option (st_) :=
  gd_ (ib_ (0 : Int32) 12584) <|
  bn_ (fX8_armOf s (6 : Int32) (0 : Int32)) fun r2 =>
  gd_ (ib_ (9 : Int32) 12584) <|
  if (s 1 (ix_ (9 : Int32))) = (1 : Int32) then (if (((s 1 (ix_ (0 : Int32))) - (1 : Int32)) - r2) ≤ r2 then (fX8_foe_j73 s (0 : Int32))
  else (fX8_foe_j73 s ((s 1 (ix_ (0 : Int32))) - (1 : Int32))))
  else (if (s 1 (ix_ (9 : Int32))) = (2 : Int32) then (bn_ (fX8_comes s (((s 1 (ix_ (0 : Int32))) - (1 : Int32)) - r2)) fun r11 =>
  some r11)
  else (if (s 1 (ix_ (9 : Int32))) = (3 : Int32) then (gd_ (ib_ (16 : Int32) 12584) <|
  if ((s 1 (ix_ (16 : Int32))) - (s 1 (ix_ (16 : Int32))) / (2 : Int32) * (2 : Int32)) = (0 : Int32) then (fX8_foe_j107 s ((s 1 (ix_ (0 : Int32))) - (1 : Int32)))
  else (fX8_foe_j107 s (0 : Int32)))
  else (if (s 1 (ix_ (9 : Int32))) = (4 : Int32) then (bn_ (fX8_lists s) fun r20 =>
  some r20)
  else (if (s 1 (ix_ (9 : Int32))) = (5 : Int32) then (gd_ (ib_ (13 : Int32) 12584) <|
  if (s 1 (ix_ (13 : Int32))) = (-1 : Int32) then (fX8_foe_j155 s)
  else (gd_ (ib_ (14 : Int32) 12584) <|
  gd_ (ib_ (13 : Int32) 12584) <|
  if (s 1 (ix_ (14 : Int32))) < (s 1 (ix_ (13 : Int32))) then (fX8_foe_j155 s)
  else (bn_ (fX8_lists s) fun r41 =>
  some r41)))
  else (some s)))))
def fX8_weighs_x139_183 (s_x139_183 : st_) : Option (st_) :=
  some s_x139_183
def fX8_weighs_k139 (x : st_) : Option (st_) :=
  fX8_weighs_x139_183 x
def fX8_weighs_b139 (v3_x29_136 : Int32) (v4_b139 : Int32) (s_b139 : st_) : Option ((Int32 × st_) ⊕ (st_)) :=
  gd_ (ib_ (4 : Int32) 12584) <|
  if (s_b139 1 (ix_ (4 : Int32))) ≤ v4_b139 then (some (.inr s_b139))
  else (if (1000 : Int32) ≤ v3_x29_136 then (some (.inr s_b139))
  else (gd_ (ib_ (((26 : Int32) + ((5 : Int32) * v4_b139)) + (2 : Int32)) 12584) <|
  gd_ (ib_ (((26 : Int32) + ((5 : Int32) * v4_b139)) + (2 : Int32)) 12584) <|
  bd_ (pt_ s_b139 1 (ix_ (((26 : Int32) + ((5 : Int32) * v4_b139)) + (2 : Int32))) ((s_b139 1 (ix_ (((26 : Int32) + ((5 : Int32) * v4_b139)) + (2 : Int32)))) * (1000 : Int32))) fun s7 =>
  some (.inl ((v4_b139 + (1 : Int32)), s7))))
def fX8_weighs_l139 (v3_x29_136 : Int32) : Nat → (Int32 × st_) → Option (st_) :=
  it_ (fun v => fX8_weighs_b139 v3_x29_136 v.1 v.2)
def fX8_weighs_x29_136 (v3_x29_136 : Int32) (s_x29_136 : st_) : Option (st_) :=
  bn_ (fX8_weighs_l139 v3_x29_136 FU_ ((0 : Int32), s_x29_136)) (fX8_weighs_k139)
def fX8_weighs_k29 (x : Int32 × st_) : Option (st_) :=
  fX8_weighs_x29_136 x.1 x.2
def fX8_weighs_b29 (s : st_) (v3_b29 : Int32) (v4_b29 : Int32) (s_b29 : st_) : Option ((Int32 × Int32 × st_) ⊕ (Int32 × st_)) :=
  gd_ (ib_ (4 : Int32) 12584) <|
  if (s_b29 1 (ix_ (4 : Int32))) ≤ v4_b29 then (some (.inr (v3_b29, s_b29)))
  else (bn_ (fX8_of s_b29 v4_b29 (2 : Int32)) fun r12 =>
  gd_ (ib_ (7 : Int32) 12584) <|
  gd_ (ib_ (16 : Int32) 12584) <|
  gd_ (ib_ (((2948 : Int32) + ((1200 : Int32) * v4_b29)) + (s_b29 1 (ix_ (16 : Int32)))) 12584) <|
  gd_ (nzl_ ((1000 : Int64) * (Int32.toInt64 ((s 1 (ix_ (2 : Int32))) + ((s 1 (ix_ (3 : Int32))) * ((s 1 (ix_ (0 : Int32))) - (1 : Int32))))))) <|
  gd_ (ib_ (((26 : Int32) + ((5 : Int32) * v4_b29)) + (2 : Int32)) 12584) <|
  bd_ (pt_ s_b29 1 (ix_ (((26 : Int32) + ((5 : Int32) * v4_b29)) + (2 : Int32))) (Int64.toInt32 (if ((Int32.toInt64 r12) - ((((Int32.toInt64 r12) * (Int32.toInt64 (s_b29 1 (ix_ (7 : Int32))))) * (Int32.toInt64 (s_b29 1 (ix_ (((2948 : Int32) + ((1200 : Int32) * v4_b29)) + (s_b29 1 (ix_ (16 : Int32)))))))) / ((1000 : Int64) * (Int32.toInt64 ((s 1 (ix_ (2 : Int32))) + ((s 1 (ix_ (3 : Int32))) * ((s 1 (ix_ (0 : Int32))) - (1 : Int32)))))))) < (1 : Int64) then (1 : Int64) else ((Int32.toInt64 r12) - ((((Int32.toInt64 r12) * (Int32.toInt64 (s_b29 1 (ix_ (7 : Int32))))) * (Int32.toInt64 (s_b29 1 (ix_ (((2948 : Int32) + ((1200 : Int32) * v4_b29)) + (s_b29 1 (ix_ (16 : Int32)))))))) / ((1000 : Int64) * (Int32.toInt64 ((s 1 (ix_ (2 : Int32))) + ((s 1 (ix_ (3 : Int32))) * ((s 1 (ix_ (0 : Int32))) - (1 : Int32))))))))))) fun s21 =>
  bn_ (fX8_of s21 v4_b29 (2 : Int32)) fun r25 =>
  some (.inl ((if v3_b29 < r25 then r25 else v3_b29), (v4_b29 + (1 : Int32)), s21)))
def fX8_weighs_l29 (s : st_) : Nat → (Int32 × Int32 × st_) → Option (Int32 × st_) :=
  it_ (fun v => fX8_weighs_b29 s v.1 v.2.1 v.2.2)
def fX8_weighs (s : st_) : Option (st_) :=
  gd_ (ib_ (2 : Int32) 12584) <|
  gd_ (ib_ (3 : Int32) 12584) <|
  gd_ (ib_ (0 : Int32) 12584) <|
  bn_ (fX8_weighs_l29 s FU_ ((0 : Int32), (0 : Int32), s)) (fX8_weighs_k29)
def fX8_rootOf_x2_19 (v1_x2_19 : Int32) : Option (Int32) :=
  some v1_x2_19
def fX8_rootOf_k2 (x : Int32) : Option (Int32) :=
  fX8_rootOf_x2_19 x
def fX8_rootOf_b2 (i0 : Int32) (v1_b2 : Int32) : Option ((Int32) ⊕ (Int32)) :=
  if i0 < ((v1_b2 + (1 : Int32)) * (v1_b2 + (1 : Int32))) then (some (.inr v1_b2))
  else (some (.inl (v1_b2 + (1 : Int32))))
def fX8_rootOf_l2 (i0 : Int32) : Nat → Int32 → Option (Int32) :=
  it_ (fun v => fX8_rootOf_b2 i0 v)
def fX8_rootOf (i0 : Int32) : Option (Int32) :=
  bn_ (fX8_rootOf_l2 i0 FU_ (0 : Int32)) (fX8_rootOf_k2)
def fX8_boundOf (s : st_) (i0 : Int32) : Option (Int32) :=
  gd_ (ib_ (11 : Int32) 12584) <|
  gd_ (ib_ (12 : Int32) 12584) <|
  bn_ (fX8_rootOf i0) fun r3 =>
  some ((s 1 (ix_ (11 : Int32))) + ((s 1 (ix_ (12 : Int32))) * r3))
def fX8_judges_j91 (s_j91 : st_) : Option (st_) :=
  gd_ (ib_ (17 : Int32) 12584) <|
  gd_ (ib_ (17 : Int32) 12584) <|
  bd_ (pt_ s_j91 1 (ix_ (17 : Int32)) ((s_j91 1 (ix_ (17 : Int32))) + (1 : Int32))) fun s20 =>
  some s20
def fX8_judges_j37 (s : st_) (r1 : Int32) (z2_j37 : Int32) : Option (st_) :=
  gd_ (ib_ (18 : Int32) 12584) <|
  bd_ (pt_ s 1 (ix_ (18 : Int32)) z2_j37) fun s7 =>
  gd_ (ib_ (11 : Int32) 12584) <|
  if (s7 1 (ix_ (11 : Int32))) = (-1 : Int32) then (some s7)
  else (gd_ (ib_ (16 : Int32) 12584) <|
  bn_ (fX8_boundOf s7 (s7 1 (ix_ (16 : Int32)))) fun r13 =>
  if r13 < r1 then (gd_ (ib_ (17 : Int32) 12584) <|
  if (s7 1 (ix_ (17 : Int32))) = (0 : Int32) then (gd_ (ib_ (16 : Int32) 12584) <|
  gd_ (ib_ (19 : Int32) 12584) <|
  bd_ (pt_ s7 1 (ix_ (19 : Int32)) ((s7 1 (ix_ (16 : Int32))) - (1 : Int32))) fun s26 =>
  fX8_judges_j91 s26)
  else (fX8_judges_j91 s7))
  else (some s7))
def fX8_judges (s : st_) : Option (st_) :=
  bn_ (fX8_regretNow s) fun r1 =>
  gd_ (ib_ (16 : Int32) 12584) <|
  if (s 1 (ix_ (16 : Int32))) = (1 : Int32) then (fX8_judges_j37 s r1 r1)
  else (gd_ (ib_ (18 : Int32) 12584) <|
  fX8_judges_j37 s r1 (if (s 1 (ix_ (18 : Int32))) < r1 then r1 else (s 1 (ix_ (18 : Int32)))))
def fX8_swapAt (i0 : Int32) (i1 : Int32) : Option (Int32) :=
  some (((12548 : Int32) + ((6 : Int32) * i0)) + i1)
def fX8_rivalTakes_j41 (s_j41 : st_) : Option (st_ × Int32) :=
  gd_ (ib_ (21 : Int32) 12584) <|
  gd_ (ib_ (22 : Int32) 12584) <|
  gd_ (ib_ (23 : Int32) 12584) <|
  bn_ (fX8_takenBy s_j41 (s_j41 1 (ix_ (21 : Int32))) (s_j41 1 (ix_ (22 : Int32))) (s_j41 1 (ix_ (23 : Int32)))) fun r6 =>
  gd_ (ib_ (25 : Int32) 12584) <|
  bd_ (pt_ s_j41 1 (ix_ (25 : Int32)) r6) fun s11 =>
  gd_ (ib_ (25 : Int32) 12584) <|
  some (s11, (s11 1 (ix_ (25 : Int32))))
def fX8_rivalTakes (s : st_) : Option (st_ × Int32) :=
  gd_ (ib_ (21 : Int32) 12584) <|
  if (s 1 (ix_ (21 : Int32))) = (-1 : Int32) then (some (s, (-1 : Int32)))
  else (gd_ (ib_ (21 : Int32) 12584) <|
  if (s 1 (ix_ (21 : Int32))) = (0 : Int32) then (gd_ (ib_ (23 : Int32) 12584) <|
  bn_ (fX8_drawn s (s 1 (ix_ (23 : Int32)))) fun r17 =>
  gd_ (ib_ (23 : Int32) 12584) <|
  bd_ (pt_ s 1 (ix_ (23 : Int32)) r17) fun s22 =>
  fX8_rivalTakes_j41 s22)
  else (fX8_rivalTakes_j41 s))
def fX8_round_x200_242 (r13 : st_ × Int32) (s_x200_242 : st_) : Option (st_) :=
  bn_ (fX8_weighs s_x200_242) fun r40 =>
  bn_ (fX8_bestRule r40) fun r44 =>
  gd_ (ib_ ((1748 : Int32) + (r13.1 1 (ix_ (16 : Int32)))) 12584) <|
  bd_ (pt_ r40 1 (ix_ ((1748 : Int32) + (r13.1 1 (ix_ (16 : Int32))))) r44) fun s49 =>
  gd_ (ib_ (16 : Int32) 12584) <|
  gd_ (ib_ (16 : Int32) 12584) <|
  bd_ (pt_ s49 1 (ix_ (16 : Int32)) ((s49 1 (ix_ (16 : Int32))) + (1 : Int32))) fun s55 =>
  bn_ (fX8_judges s55) fun r59 =>
  some r59
def fX8_round_k200 (r13 : st_ × Int32) (x : st_) : Option (st_) :=
  fX8_round_x200_242 r13 x
def fX8_round_b200 (r13 : st_ × Int32) (v5_b200 : Int32) (s_b200 : st_) : Option ((Int32 × st_) ⊕ (st_)) :=
  gd_ (ib_ (4 : Int32) 12584) <|
  if (s_b200 1 (ix_ (4 : Int32))) ≤ v5_b200 then (some (.inr s_b200))
  else (bn_ (fX8_serves s_b200 v5_b200 v5_b200) fun r64 =>
  gd_ (ib_ (((2948 : Int32) + ((1200 : Int32) * v5_b200)) + (r13.1 1 (ix_ (16 : Int32)))) 12584) <|
  bd_ (pt_ r64.1 1 (ix_ (((2948 : Int32) + ((1200 : Int32) * v5_b200)) + (r13.1 1 (ix_ (16 : Int32))))) r64.2) fun s69 =>
  some (.inl ((v5_b200 + (1 : Int32)), s69)))
def fX8_round_l200 (r13 : st_ × Int32) : Nat → (Int32 × st_) → Option (st_) :=
  it_ (fun v => fX8_round_b200 r13 v.1 v.2)
def fX8_round_j197 (r13 : st_ × Int32) (s_j197 : st_) : Option (st_) :=
  bn_ (fX8_round_l200 r13 FU_ ((0 : Int32), s_j197)) (fX8_round_k200 r13)
def fX8_round_j195 (r13 : st_ × Int32) (s36 : st_) (r74 : st_ × Int32) (z3_j195 : Int32) : Option (st_) :=
  gd_ (ib_ (24 : Int32) 12584) <|
  bd_ (pt_ r74.1 1 (ix_ (24 : Int32)) ((s36 1 (ix_ (24 : Int32))) + z3_j195)) fun s79 =>
  fX8_round_j197 r13 s79
def fX8_round_x79_118 (r9 : Int32) (r13 : st_ × Int32) (s_x79_118 : st_) : Option (st_) :=
  gd_ (ib_ ((548 : Int32) + (r13.1 1 (ix_ (16 : Int32)))) 12584) <|
  bd_ (pt_ s_x79_118 1 (ix_ ((548 : Int32) + (r13.1 1 (ix_ (16 : Int32))))) r9) fun s19 =>
  bn_ (fX8_adds s19 r9 (3 : Int32) (1 : Int32)) fun r23 =>
  bn_ (fX8_serves r23 (6 : Int32) r9) fun r27 =>
  bn_ (fX8_adds r27.1 r9 (4 : Int32) r27.2) fun r31 =>
  gd_ (ib_ ((10148 : Int32) + (r13.1 1 (ix_ (16 : Int32)))) 12584) <|
  bd_ (pt_ r31 1 (ix_ ((10148 : Int32) + (r13.1 1 (ix_ (16 : Int32))))) r27.2) fun s36 =>
  if r13.2 = (-1 : Int32) then (fX8_round_j197 r13 s36)
  else (gd_ (ib_ (24 : Int32) 12584) <|
  bn_ (fX8_serves s36 (7 : Int32) r13.2) fun r74 =>
  if r27.2 ≤ r74.2 then (fX8_round_j195 r13 s36 r74 (0 : Int32))
  else (fX8_round_j195 r13 s36 r74 (1 : Int32)))
def fX8_round_k79 (r9 : Int32) (r13 : st_ × Int32) (x : st_) : Option (st_) :=
  fX8_round_x79_118 r9 r13 x
def fX8_round_b79 (r9 : Int32) (v4_b79 : Int32) (s_b79 : st_) : Option ((Int32 × st_) ⊕ (st_)) :=
  gd_ (ib_ (4 : Int32) 12584) <|
  if (s_b79 1 (ix_ (4 : Int32))) ≤ v4_b79 then (some (.inr s_b79))
  else (bn_ (fX8_swapAt r9 v4_b79) fun r84 =>
  gd_ (ib_ r84 12584) <|
  bn_ (fX8_wouldCost s_b79 (6 : Int32) v4_b79) fun r89 =>
  gd_ (ib_ r84 12584) <|
  bd_ (pt_ r89.1 1 (ix_ r84) ((s_b79 1 (ix_ r84)) + r89.2)) fun s94 =>
  some (.inl ((v4_b79 + (1 : Int32)), s94)))
def fX8_round_l79 (r9 : Int32) : Nat → (Int32 × st_) → Option (st_) :=
  it_ (fun v => fX8_round_b79 r9 v.1 v.2)
def fX8_round_j38 (s_j38 : st_) : Option (st_) :=
  gd_ (ib_ (5 : Int32) 12584) <|
  gd_ (ib_ (6 : Int32) 12584) <|
  gd_ (ib_ (8 : Int32) 12584) <|
  bn_ (fX8_takenBy s_j38 (s_j38 1 (ix_ (5 : Int32))) (s_j38 1 (ix_ (6 : Int32))) (s_j38 1 (ix_ (8 : Int32)))) fun r9 =>
  bn_ (fX8_rivalTakes s_j38) fun r13 =>
  gd_ (ib_ (16 : Int32) 12584) <|
  bn_ (fX8_round_l79 r9 FU_ ((0 : Int32), r13.1)) (fX8_round_k79 r9 r13)
def fX8_round_j11 (s_j11 : st_) : Option (st_) :=
  gd_ (ib_ (5 : Int32) 12584) <|
  if (s_j11 1 (ix_ (5 : Int32))) = (0 : Int32) then (gd_ (ib_ (8 : Int32) 12584) <|
  bn_ (fX8_drawn s_j11 (s_j11 1 (ix_ (8 : Int32)))) fun r99 =>
  gd_ (ib_ (8 : Int32) 12584) <|
  bd_ (pt_ s_j11 1 (ix_ (8 : Int32)) r99) fun s104 =>
  fX8_round_j38 s104)
  else (fX8_round_j38 s_j11)
def fX8_round (s : st_) : Option (st_) :=
  bn_ (fX8_isFull s) fun r1 =>
  if r1 = (0 : Int32) then (bn_ (fX8_foe s) fun r108 =>
  fX8_round_j11 r108)
  else (fX8_round_j11 s)
def fX8_rounds_x2_17 (s_x2_17 : st_) : Option (st_) :=
  some s_x2_17
def fX8_rounds_k2 (x : st_) : Option (st_) :=
  fX8_rounds_x2_17 x
def fX8_rounds_b2 (i0 : Int32) (v2_b2 : Int32) (s_b2 : st_) : Option ((Int32 × st_) ⊕ (st_)) :=
  if i0 ≤ v2_b2 then (some (.inr s_b2))
  else (bn_ (fX8_round s_b2) fun r1 =>
  some (.inl ((v2_b2 + (1 : Int32)), r1)))
def fX8_rounds_l2 (i0 : Int32) : Nat → (Int32 × st_) → Option (st_) :=
  it_ (fun v => fX8_rounds_b2 i0 v.1 v.2)
def fX8_rounds (s : st_) (i0 : Int32) : Option (st_) :=
  bn_ (fX8_rounds_l2 i0 FU_ ((0 : Int32), s)) (fX8_rounds_k2)
def fX8_arm_j33 (s_j33 : st_) : Option (st_ × Int32) :=
  some (s_j33, (0 : Int32))
def fX8_arm_j26 (i0 : Int32) (i1 : Int32) (r1 : st_ × Int32) (z1_j26 : Int32) : Option (st_ × Int32) :=
  bn_ (fX8_throwsIf r1.1 z1_j26 (2 : Int32)) fun r9 =>
  if r9.2 = (0 : Int32) then (bn_ (fX8_told i0) fun r13 =>
  bn_ (fX8_armOf r9.1 r13 i1) fun r17 =>
  some (r9.1, r17))
  else (fX8_arm_j33 r9.1)
def fX8_arm (s : st_) (i0 : Int32) (i1 : Int32) : Option (st_ × Int32) :=
  bn_ (fX8_noArm s i0) fun r1 =>
  if r1.2 = (0 : Int32) then (bn_ (fX8_in (Int32.toInt64 i1) (0 : Int64) (6 : Int64)) fun r5 =>
  if r5 = (0 : Int32) then (fX8_arm_j26 i0 i1 r1 (1 : Int32))
  else (fX8_arm_j26 i0 i1 r1 (0 : Int32)))
  else (fX8_arm_j33 r1.1)
def fX8_waiting_j24 (i0 : Int32) (i1 : Int32) (i2 : Int32) (r1 : st_ × Int32) (z1_j24 : Int32) : Option (st_ × Int32) :=
  bn_ (fX8_throwsIf r1.1 z1_j24 (2 : Int32)) fun r9 =>
  if r9.2 = (0 : Int32) then (bn_ (fX8_told i0) fun r13 =>
  bn_ (fX8_armOf r9.1 r13 (2 : Int32)) fun r17 =>
  bn_ (fX8_in (Int32.toInt64 i1) (0 : Int64) (Int32.toInt64 (r17 - (1 : Int32)))) fun r21 =>
  if r21 = (0 : Int32) then (some (r9.1, (-1 : Int32)))
  else (bn_ (fX8_told i0) fun r25 =>
  bn_ (fX8_armAt r25) fun r29 =>
  gd_ (ib_ (((r29 + (7 : Int32)) + ((2 : Int32) * i1)) + i2) 12584) <|
  some (r9.1, (r9.1 1 (ix_ (((r29 + (7 : Int32)) + ((2 : Int32) * i1)) + i2))))))
  else (some (r9.1, (0 : Int32)))
def fX8_waiting (s : st_) (i0 : Int32) (i1 : Int32) (i2 : Int32) : Option (st_ × Int32) :=
  bn_ (fX8_noArm s i0) fun r1 =>
  if r1.2 = (0 : Int32) then (bn_ (fX8_in (Int32.toInt64 i2) (0 : Int64) (1 : Int64)) fun r5 =>
  if r5 = (0 : Int32) then (fX8_waiting_j24 i0 i1 i2 r1 (1 : Int32))
  else (fX8_waiting_j24 i0 i1 i2 r1 (0 : Int32)))
  else (some (r1.1, (0 : Int32)))
def fX8_wouldServe_j22 (i0 : Int32) (i1 : Int32) (r1 : st_ × Int32) (z1_j22 : Int32) : Option (st_ × Int32) :=
  bn_ (fX8_throwsIf r1.1 z1_j22 (1 : Int32)) fun r9 =>
  if r9.2 = (0 : Int32) then (bn_ (fX8_told i0) fun r13 =>
  bn_ (fX8_picks r9.1 r13 i1) fun r17 =>
  if r17.2 = (-1 : Int32) then (some (r17.1, (-1 : Int32)))
  else (bn_ (fX8_told i0) fun r21 =>
  bn_ (fX8_cylinderOf r17.1 r21 r17.2) fun r25 =>
  some (r17.1, r25)))
  else (some (r9.1, (0 : Int32)))
def fX8_wouldServe (s : st_) (i0 : Int32) (i1 : Int32) : Option (st_ × Int32) :=
  bn_ (fX8_noArm s i0) fun r1 =>
  if r1.2 = (0 : Int32) then (bn_ (fX8_isRule r1.1 i1) fun r5 =>
  if r5 = (0 : Int32) then (fX8_wouldServe_j22 i0 i1 r1 (1 : Int32))
  else (fX8_wouldServe_j22 i0 i1 r1 (0 : Int32)))
  else (some (r1.1, (0 : Int32)))
def fX8_nextRule (s : st_) : Option (st_ × Int32) :=
  bd_ (pt_ s 0 6 (0 : Int32)) fun s1 =>
  bn_ (fX8_ruleNext s1) fun r5 =>
  some (s1, r5)
def fX8_served_j22 (s : st_) (i0 : Int32) (i1 : Int32) (z1_j22 : Int32) : Option (st_ × Int32) :=
  bn_ (fX8_wrong s z1_j22) fun r1 =>
  if r1.2 = (0 : Int32) then (gd_ (ib_ (20 : Int32) 12584) <|
  if (r1.1 1 (ix_ (20 : Int32))) ≤ i0 then (some (r1.1, (-1 : Int32)))
  else (gd_ (ib_ (((448 : Int32) + ((5 : Int32) * i0)) + i1) 12584) <|
  some (r1.1, (r1.1 1 (ix_ (((448 : Int32) + ((5 : Int32) * i0)) + i1))))))
  else (some (r1.1, (0 : Int32)))
def fX8_served_j17 (s : st_) (i0 : Int32) (i1 : Int32) : Option (st_ × Int32) :=
  fX8_served_j22 s i0 i1 (1 : Int32)
def fX8_served (s : st_) (i0 : Int32) (i1 : Int32) : Option (st_ × Int32) :=
  if i0 < (0 : Int32) then (fX8_served_j17 s i0 i1)
  else (bn_ (fX8_in (Int32.toInt64 i1) (0 : Int64) (4 : Int64)) fun r7 =>
  if r7 = (0 : Int32) then (fX8_served_j17 s i0 i1)
  else (fX8_served_j22 s i0 i1 (0 : Int32)))
def fX8_rounds_ (s : st_) : Option (st_ × Int32) :=
  bd_ (pt_ s 0 6 (0 : Int32)) fun s1 =>
  gd_ (ib_ (16 : Int32) 12584) <|
  some (s1, (s1 1 (ix_ (16 : Int32))))
def fX8_regret_j18 (s : st_) (i0 : Int32) (z1_j18 : Int32) : Option (st_ × Int32) :=
  bn_ (fX8_wrong s z1_j18) fun r5 =>
  if r5.2 = (0 : Int32) then (if i0 = (0 : Int32) then (bn_ (fX8_regretNow r5.1) fun r9 =>
  some (r5.1, r9))
  else (if i0 = (1 : Int32) then (gd_ (ib_ (11 : Int32) 12584) <|
  if (r5.1 1 (ix_ (11 : Int32))) = (-1 : Int32) then (some (r5.1, (-2000000000 : Int32)))
  else (gd_ (ib_ (16 : Int32) 12584) <|
  bn_ (fX8_boundOf r5.1 (r5.1 1 (ix_ (16 : Int32)))) fun r15 =>
  some (r5.1, r15)))
  else (if i0 = (2 : Int32) then (gd_ (ib_ (17 : Int32) 12584) <|
  some (r5.1, (r5.1 1 (ix_ (17 : Int32)))))
  else (if i0 = (3 : Int32) then (gd_ (ib_ (18 : Int32) 12584) <|
  some (r5.1, (r5.1 1 (ix_ (18 : Int32)))))
  else (gd_ (ib_ (19 : Int32) 12584) <|
  some (r5.1, (r5.1 1 (ix_ (19 : Int32)))))))))
  else (some (r5.1, (0 : Int32)))
def fX8_regret (s : st_) (i0 : Int32) : Option (st_ × Int32) :=
  bn_ (fX8_in (Int32.toInt64 i0) (0 : Int64) (4 : Int64)) fun r1 =>
  if r1 = (0 : Int32) then (fX8_regret_j18 s i0 (1 : Int32))
  else (fX8_regret_j18 s i0 (0 : Int32))
def fX8_best (s : st_) : Option (st_ × Int32) :=
  bd_ (pt_ s 0 6 (0 : Int32)) fun s1 =>
  bn_ (fX8_bestRule s1) fun r5 =>
  some (s1, r5)
def fX8_regretTo (s : st_) (i0 : Int32) : Option (st_ × Int32) :=
  bn_ (fX8_noRule s i0) fun r1 =>
  if r1.2 = (0 : Int32) then (bn_ (fX8_armOf r1.1 (6 : Int32) (3 : Int32)) fun r5 =>
  bn_ (fX8_armOf r1.1 i0 (3 : Int32)) fun r9 =>
  some (r1.1, (r5 - r9)))
  else (some (r1.1, (0 : Int32)))
def fX8_isMade (s : st_) (i0 : Int32) : Option (Int32) :=
  gd_ (ib_ (16 : Int32) 12584) <|
  bn_ (fX8_in (Int32.toInt64 i0) (0 : Int64) (Int32.toInt64 ((s 1 (ix_ (16 : Int32))) - (1 : Int32)))) fun r2 =>
  gd_ (bz_ r2) <|
  some r2
def fX8_costIn1 (s : st_) (i0 : Int32) (i1 : Int32) : Option (Int32) :=
  gd_ (ib_ (((2948 : Int32) + ((1200 : Int32) * i0)) + i1) 12584) <|
  some (s 1 (ix_ (((2948 : Int32) + ((1200 : Int32) * i0)) + i1)))
def fX8_cost (s : st_) (i0 : Int32) (i1 : Int32) : Option (st_ × Int32) :=
  bn_ (fX8_noArm s i0) fun r1 =>
  if r1.2 = (0 : Int32) then (bn_ (fX8_isMade r1.1 i1) fun r5 =>
  if r5 = (0 : Int32) then (some (r1.1, (-2000000000 : Int32)))
  else (bn_ (fX8_told i0) fun r9 =>
  bn_ (fX8_costIn1 r1.1 r9 i1) fun r13 =>
  some (r1.1, r13)))
  else (some (r1.1, (0 : Int32)))
def fX8_taken (s : st_) (i0 : Int32) : Option (st_ × Int32) :=
  bd_ (pt_ s 0 6 (0 : Int32)) fun s1 =>
  bn_ (fX8_isMade s1 i0) fun r5 =>
  if r5 = (0 : Int32) then (some (s1, (-1 : Int32)))
  else (gd_ (ib_ ((548 : Int32) + i0) 12584) <|
  some (s1, (s1 1 (ix_ ((548 : Int32) + i0)))))
def fX8_bestOf_x4_73 (v2_x4_73 : Int32) : Option (Int32) :=
  some v2_x4_73
def fX8_bestOf_k4 (x : Int32) : Option (Int32) :=
  fX8_bestOf_x4_73 x
def fX8_bestOf_j66 (v3_b4 : Int32) (z0_j66 : Int32) : Option ((Int32 × Int32) ⊕ (Int32)) :=
  some (.inl (z0_j66, (v3_b4 + (1 : Int32))))
def fX8_bestOf_j58 (v2_b4 : Int32) (v3_b4 : Int32) (z0_j58 : Int32) : Option ((Int32 × Int32) ⊕ (Int32)) :=
  if (0 : Int32) ≤ z0_j58 then (fX8_bestOf_j66 v3_b4 v2_b4)
  else (fX8_bestOf_j66 v3_b4 v3_b4)
def fX8_bestOf_b4 (s : st_) (i0 : Int32) (v2_b4 : Int32) (v3_b4 : Int32) : Option ((Int32 × Int32) ⊕ (Int32)) :=
  gd_ (ib_ (4 : Int32) 12584) <|
  if (s 1 (ix_ (4 : Int32))) ≤ v3_b4 then (some (.inr v2_b4))
  else (gd_ (ib_ v3_b4 6) <|
  gd_ (ib_ v2_b4 6) <|
  bn_ (fX8_armOf s v3_b4 (3 : Int32)) fun r4 =>
  bn_ (fX8_armOf s v2_b4 (3 : Int32)) fun r8 =>
  if i0 = (0 : Int32) then (fX8_bestOf_j58 v2_b4 v3_b4 ((r4 - r8) - ((s 8 (ix_ v3_b4)) - (s 8 (ix_ v2_b4)))))
  else (fX8_bestOf_j58 v2_b4 v3_b4 ((s 8 (ix_ v3_b4)) - (s 8 (ix_ v2_b4)))))
def fX8_bestOf_l4 (s : st_) (i0 : Int32) : Nat → (Int32 × Int32) → Option (Int32) :=
  it_ (fun v => fX8_bestOf_b4 s i0 v.1 v.2)
def fX8_bestOf (s : st_) (i0 : Int32) : Option (Int32) :=
  bn_ (fX8_bestOf_l4 s i0 FU_ ((0 : Int32), (1 : Int32))) (fX8_bestOf_k4)
def fX8_bestPair_x60_193 (i0 : Int32) (v2_x60_193 : Int32) (v3_x60_193 : Int32) (v4_x60_193 : Int32) (v5_x60_193 : Int32) (s_x60_193 : st_) : Option (st_ × Int32) :=
  if i0 = (0 : Int32) then (some (s_x60_193, v2_x60_193))
  else (if i0 = (1 : Int32) then (some (s_x60_193, v3_x60_193))
  else (if i0 = (2 : Int32) then (some (s_x60_193, v4_x60_193))
  else (some (s_x60_193, v5_x60_193))))
def fX8_bestPair_k60 (i0 : Int32) (x : Int32 × Int32 × Int32 × Int32 × st_) : Option (st_ × Int32) :=
  fX8_bestPair_x60_193 i0 x.1 x.2.1 x.2.2.1 x.2.2.2.1 x.2.2.2.2
def fX8_bestPair_x140_187 (v6_b60 : Int32) (v2_j137 : Int32) (v3_j137 : Int32) (v4_j137 : Int32) (v5_j137 : Int32) (s_x140_187 : st_) : Option ((Int32 × Int32 × Int32 × Int32 × Int32 × st_) ⊕ (Int32 × Int32 × Int32 × Int32 × st_)) :=
  some (.inl (v2_j137, v3_j137, v4_j137, v5_j137, (v6_b60 + (1 : Int32)), s_x140_187))
def fX8_bestPair_k140 (v6_b60 : Int32) (v2_j137 : Int32) (v3_j137 : Int32) (v4_j137 : Int32) (v5_j137 : Int32) (x : st_) : Option ((Int32 × Int32 × Int32 × Int32 × Int32 × st_) ⊕ (Int32 × Int32 × Int32 × Int32 × st_)) :=
  fX8_bestPair_x140_187 v6_b60 v2_j137 v3_j137 v4_j137 v5_j137 x
def fX8_bestPair_b140 (v6_b60 : Int32) (v10_b140 : Int32) (s_b140 : st_) : Option ((Int32 × st_) ⊕ (st_)) :=
  gd_ (ib_ (4 : Int32) 12584) <|
  if (s_b140 1 (ix_ (4 : Int32))) ≤ v10_b140 then (some (.inr s_b140))
  else (gd_ (ib_ (16 : Int32) 12584) <|
  if (s_b140 1 (ix_ (16 : Int32))) ≤ v6_b60 then (some (.inr s_b140))
  else (gd_ (ib_ v10_b140 6) <|
  bn_ (fX8_costIn1 s_b140 v10_b140 v6_b60) fun r27 =>
  gd_ (ib_ v10_b140 6) <|
  bd_ (pt_ s_b140 8 (ix_ v10_b140) ((s_b140 8 (ix_ v10_b140)) + r27)) fun s32 =>
  some (.inl ((v10_b140 + (1 : Int32)), s32))))
def fX8_bestPair_l140 (v6_b60 : Int32) : Nat → (Int32 × st_) → Option (st_) :=
  it_ (fun v => fX8_bestPair_b140 v6_b60 v.1 v.2)
def fX8_bestPair_j137 (v6_b60 : Int32) (s_b60 : st_) (v2_j137 : Int32) (v3_j137 : Int32) (v4_j137 : Int32) (v5_j137 : Int32) : Option ((Int32 × Int32 × Int32 × Int32 × Int32 × st_) ⊕ (Int32 × Int32 × Int32 × Int32 × st_)) :=
  bn_ (fX8_bestPair_l140 v6_b60 FU_ ((0 : Int32), s_b60)) (fX8_bestPair_k140 v6_b60 v2_j137 v3_j137 v4_j137 v5_j137)
def fX8_bestPair_j123 (v6_b60 : Int32) (s_b60 : st_) (r10 : Int32) (r14 : Int32) (r19 : Int32) : Option ((Int32 × Int32 × Int32 × Int32 × Int32 × st_) ⊕ (Int32 × Int32 × Int32 × Int32 × st_)) :=
  fX8_bestPair_j137 v6_b60 s_b60 (((s_b60 8 (ix_ r10)) + r19) - (s_b60 8 (ix_ r14))) r10 r14 v6_b60
def fX8_bestPair_b60 (v2_b60 : Int32) (v3_b60 : Int32) (v4_b60 : Int32) (v5_b60 : Int32) (v6_b60 : Int32) (s_b60 : st_) : Option ((Int32 × Int32 × Int32 × Int32 × Int32 × st_) ⊕ (Int32 × Int32 × Int32 × Int32 × st_)) :=
  gd_ (ib_ (16 : Int32) 12584) <|
  if (s_b60 1 (ix_ (16 : Int32))) < v6_b60 then (some (.inr (v2_b60, v3_b60, v4_b60, v5_b60, s_b60)))
  else (bn_ (fX8_bestOf s_b60 (1 : Int32)) fun r10 =>
  bn_ (fX8_bestOf s_b60 (0 : Int32)) fun r14 =>
  gd_ (ib_ r10 6) <|
  bn_ (fX8_armOf s_b60 r14 (3 : Int32)) fun r19 =>
  gd_ (ib_ r14 6) <|
  if v5_b60 = (-1 : Int32) then (fX8_bestPair_j123 v6_b60 s_b60 r10 r14 r19)
  else (if v2_b60 ≤ (((s_b60 8 (ix_ r10)) + r19) - (s_b60 8 (ix_ r14))) then (fX8_bestPair_j137 v6_b60 s_b60 v2_b60 v3_b60 v4_b60 v5_b60)
  else (fX8_bestPair_j123 v6_b60 s_b60 r10 r14 r19)))
def fX8_bestPair_l60 : Nat → (Int32 × Int32 × Int32 × Int32 × Int32 × st_) → Option (Int32 × Int32 × Int32 × Int32 × st_) :=
  it_ (fun v => fX8_bestPair_b60 v.1 v.2.1 v.2.2.1 v.2.2.2.1 v.2.2.2.2.1 v.2.2.2.2.2)
def fX8_bestPair_x28_47 (i0 : Int32) (s_x28_47 : st_) : Option (st_ × Int32) :=
  bn_ (fX8_bestPair_l60 FU_ ((0 : Int32), (-1 : Int32), (-1 : Int32), (-1 : Int32), (0 : Int32), s_x28_47)) (fX8_bestPair_k60 i0)
def fX8_bestPair_k28 (i0 : Int32) (x : st_) : Option (st_ × Int32) :=
  fX8_bestPair_x28_47 i0 x
def fX8_bestPair_b28 (v2_b28 : Int32) (s_b28 : st_) : Option ((Int32 × st_) ⊕ (st_)) :=
  if (6 : Int32) ≤ v2_b28 then (some (.inr s_b28))
  else (gd_ (ib_ v2_b28 6) <|
  bd_ (pt_ s_b28 8 (ix_ v2_b28) (0 : Int32)) fun s37 =>
  some (.inl ((v2_b28 + (1 : Int32)), s37)))
def fX8_bestPair_l28 : Nat → (Int32 × st_) → Option (st_) :=
  it_ (fun v => fX8_bestPair_b28 v.1 v.2)
def fX8_bestPair_j18 (s : st_) (i0 : Int32) (z1_j18 : Int32) : Option (st_ × Int32) :=
  bn_ (fX8_wrong s z1_j18) fun r5 =>
  if r5.2 = (0 : Int32) then (bn_ (fX8_bestPair_l28 FU_ ((0 : Int32), r5.1)) (fX8_bestPair_k28 i0))
  else (some (r5.1, (0 : Int32)))
def fX8_bestPair (s : st_) (i0 : Int32) : Option (st_ × Int32) :=
  bn_ (fX8_in (Int32.toInt64 i0) (0 : Int64) (3 : Int64)) fun r1 =>
  if r1 = (0 : Int32) then (fX8_bestPair_j18 s i0 (1 : Int32))
  else (fX8_bestPair_j18 s i0 (0 : Int32))
def fX8_cheaper_x36_79 (r9 : st_ × Int32) (v3_x36_79 : Int32) : Option (st_ × Int32) :=
  some (r9.1, v3_x36_79)
def fX8_cheaper_k36 (r9 : st_ × Int32) (x : Int32) : Option (st_ × Int32) :=
  fX8_cheaper_x36_79 r9 x
def fX8_cheaper_j71 (v3_b36 : Int32) (v4_b36 : Int32) (z1_j71 : Int32) : Option ((Int32 × Int32) ⊕ (Int32)) :=
  some (.inl ((v3_b36 + z1_j71), (v4_b36 + (1 : Int32))))
def fX8_cheaper_b36 (i0 : Int32) (i1 : Int32) (r9 : st_ × Int32) (v3_b36 : Int32) (v4_b36 : Int32) : Option ((Int32 × Int32) ⊕ (Int32)) :=
  gd_ (ib_ (16 : Int32) 12584) <|
  if (r9.1 1 (ix_ (16 : Int32))) ≤ v4_b36 then (some (.inr v3_b36))
  else (bn_ (fX8_costIn1 r9.1 i0 v4_b36) fun r14 =>
  bn_ (fX8_costIn1 r9.1 i1 v4_b36) fun r18 =>
  if r18 ≤ r14 then (fX8_cheaper_j71 v3_b36 v4_b36 (0 : Int32))
  else (fX8_cheaper_j71 v3_b36 v4_b36 (1 : Int32)))
def fX8_cheaper_l36 (i0 : Int32) (i1 : Int32) (r9 : st_ × Int32) : Nat → (Int32 × Int32) → Option (Int32) :=
  it_ (fun v => fX8_cheaper_b36 i0 i1 r9 v.1 v.2)
def fX8_cheaper_j22 (i0 : Int32) (i1 : Int32) (r1 : st_ × Int32) (z1_j22 : Int32) : Option (st_ × Int32) :=
  bn_ (fX8_throwsIf r1.1 z1_j22 (1 : Int32)) fun r9 =>
  if r9.2 = (0 : Int32) then (bn_ (fX8_cheaper_l36 i0 i1 r9 FU_ ((0 : Int32), (0 : Int32))) (fX8_cheaper_k36 r9))
  else (some (r9.1, (0 : Int32)))
def fX8_cheaper (s : st_) (i0 : Int32) (i1 : Int32) : Option (st_ × Int32) :=
  bn_ (fX8_noRule s i0) fun r1 =>
  if r1.2 = (0 : Int32) then (bn_ (fX8_isRule r1.1 i1) fun r5 =>
  if r5 = (0 : Int32) then (fX8_cheaper_j22 i0 i1 r1 (1 : Int32))
  else (fX8_cheaper_j22 i0 i1 r1 (0 : Int32)))
  else (some (r1.1, (0 : Int32)))
def fX8_leads_x14_53 (r1 : st_ × Int32) (v2_x14_53 : Int32) : Option (st_ × Int32) :=
  some (r1.1, v2_x14_53)
def fX8_leads_k14 (r1 : st_ × Int32) (x : Int32) : Option (st_ × Int32) :=
  fX8_leads_x14_53 r1 x
def fX8_leads_j45 (v2_b14 : Int32) (v3_b14 : Int32) (z1_j45 : Int32) : Option ((Int32 × Int32) ⊕ (Int32)) :=
  some (.inl ((v2_b14 + z1_j45), (v3_b14 + (1 : Int32))))
def fX8_leads_b14 (i0 : Int32) (r1 : st_ × Int32) (v2_b14 : Int32) (v3_b14 : Int32) : Option ((Int32 × Int32) ⊕ (Int32)) :=
  gd_ (ib_ (16 : Int32) 12584) <|
  if (r1.1 1 (ix_ (16 : Int32))) ≤ v3_b14 then (some (.inr v2_b14))
  else (gd_ (ib_ ((1748 : Int32) + v3_b14) 12584) <|
  if (r1.1 1 (ix_ ((1748 : Int32) + v3_b14))) = i0 then (fX8_leads_j45 v2_b14 v3_b14 (1 : Int32))
  else (fX8_leads_j45 v2_b14 v3_b14 (0 : Int32)))
def fX8_leads_l14 (i0 : Int32) (r1 : st_ × Int32) : Nat → (Int32 × Int32) → Option (Int32) :=
  it_ (fun v => fX8_leads_b14 i0 r1 v.1 v.2)
def fX8_leads (s : st_) (i0 : Int32) : Option (st_ × Int32) :=
  bn_ (fX8_noRule s i0) fun r1 =>
  if r1.2 = (0 : Int32) then (bn_ (fX8_leads_l14 i0 r1 FU_ ((0 : Int32), (0 : Int32))) (fX8_leads_k14 r1))
  else (some (r1.1, (0 : Int32)))
def fX8_switches_x9_59 (s1 : st_) (v1_x9_59 : Int32) : Option (st_ × Int32) :=
  some (s1, v1_x9_59)
def fX8_switches_k9 (s1 : st_) (x : Int32) : Option (st_ × Int32) :=
  fX8_switches_x9_59 s1 x
def fX8_switches_j51 (v1_b9 : Int32) (v2_b9 : Int32) (z1_j51 : Int32) : Option ((Int32 × Int32) ⊕ (Int32)) :=
  some (.inl ((v1_b9 + z1_j51), (v2_b9 + (1 : Int32))))
def fX8_switches_b9 (s1 : st_) (v1_b9 : Int32) (v2_b9 : Int32) : Option ((Int32 × Int32) ⊕ (Int32)) :=
  gd_ (ib_ (16 : Int32) 12584) <|
  if (s1 1 (ix_ (16 : Int32))) ≤ v2_b9 then (some (.inr v1_b9))
  else (gd_ (ib_ ((548 : Int32) + v2_b9) 12584) <|
  gd_ (ib_ (((548 : Int32) + v2_b9) - (1 : Int32)) 12584) <|
  if (s1 1 (ix_ ((548 : Int32) + v2_b9))) = (s1 1 (ix_ (((548 : Int32) + v2_b9) - (1 : Int32)))) then (fX8_switches_j51 v1_b9 v2_b9 (0 : Int32))
  else (fX8_switches_j51 v1_b9 v2_b9 (1 : Int32)))
def fX8_switches_l9 (s1 : st_) : Nat → (Int32 × Int32) → Option (Int32) :=
  it_ (fun v => fX8_switches_b9 s1 v.1 v.2)
def fX8_switches (s : st_) : Option (st_ × Int32) :=
  bd_ (pt_ s 0 6 (0 : Int32)) fun s1 =>
  bn_ (fX8_switches_l9 s1 FU_ ((0 : Int32), (1 : Int32))) (fX8_switches_k9 s1)
def fX8_streak_x17_64 (r1 : st_ × Int32) (v2_x17_64 : Int32) : Option (st_ × Int32) :=
  some (r1.1, v2_x17_64)
def fX8_streak_k17 (r1 : st_ × Int32) (x : Int32) : Option (st_ × Int32) :=
  fX8_streak_x17_64 r1 x
def fX8_streak_j51 (v2_b17 : Int32) (v4_b17 : Int32) (z0_j51 : Int32) : Option ((Int32 × Int32 × Int32) ⊕ (Int32)) :=
  some (.inl ((if v2_b17 < z0_j51 then z0_j51 else v2_b17), z0_j51, (v4_b17 + (1 : Int32))))
def fX8_streak_b17 (i0 : Int32) (r1 : st_ × Int32) (v2_b17 : Int32) (v3_b17 : Int32) (v4_b17 : Int32) : Option ((Int32 × Int32 × Int32) ⊕ (Int32)) :=
  gd_ (ib_ (16 : Int32) 12584) <|
  if (r1.1 1 (ix_ (16 : Int32))) ≤ v4_b17 then (some (.inr v2_b17))
  else (gd_ (ib_ ((548 : Int32) + v4_b17) 12584) <|
  if (r1.1 1 (ix_ ((548 : Int32) + v4_b17))) = i0 then (fX8_streak_j51 v2_b17 v4_b17 (v3_b17 + (1 : Int32)))
  else (fX8_streak_j51 v2_b17 v4_b17 (0 : Int32)))
def fX8_streak_l17 (i0 : Int32) (r1 : st_ × Int32) : Nat → (Int32 × Int32 × Int32) → Option (Int32) :=
  it_ (fun v => fX8_streak_b17 i0 r1 v.1 v.2.1 v.2.2)
def fX8_streak (s : st_) (i0 : Int32) : Option (st_ × Int32) :=
  bn_ (fX8_noRule s i0) fun r1 =>
  if r1.2 = (0 : Int32) then (bn_ (fX8_streak_l17 i0 r1 FU_ ((0 : Int32), (0 : Int32), (0 : Int32))) (fX8_streak_k17 r1))
  else (some (r1.1, (0 : Int32)))
def fX8_dearest_x46_130 (r9 : st_ × Int32) (v3_x46_130 : Int32) : Option (st_ × Int32) :=
  some (r9.1, v3_x46_130)
def fX8_dearest_k46 (r9 : st_ × Int32) (x : Int32) : Option (st_ × Int32) :=
  fX8_dearest_x46_130 r9 x
def fX8_dearest_j124 (v5_b46 : Int32) (v6_b46 : Int32) (r14 : Int32) (z2_j86 : Int32) (v3_j124 : Int32) (v4_j124 : Int32) : Option ((Int32 × Int32 × Int32 × Int32) ⊕ (Int32)) :=
  some (.inl (v3_j124, v4_j124, (v5_b46 + (r14 - z2_j86)), (v6_b46 + (1 : Int32))))
def fX8_dearest_j113 (i1 : Int32) (v5_b46 : Int32) (v6_b46 : Int32) (r14 : Int32) (z2_j86 : Int32) : Option ((Int32 × Int32 × Int32 × Int32) ⊕ (Int32)) :=
  fX8_dearest_j124 v5_b46 v6_b46 r14 z2_j86 ((v6_b46 + (1 : Int32)) - i1) (v5_b46 + (r14 - z2_j86))
def fX8_dearest_j86 (i1 : Int32) (v3_b46 : Int32) (v4_b46 : Int32) (v5_b46 : Int32) (v6_b46 : Int32) (r14 : Int32) (z2_j86 : Int32) : Option ((Int32 × Int32 × Int32 × Int32) ⊕ (Int32)) :=
  if (v6_b46 + (1 : Int32)) < i1 then (fX8_dearest_j124 v5_b46 v6_b46 r14 z2_j86 v3_b46 v4_b46)
  else (if v3_b46 = (-1 : Int32) then (fX8_dearest_j113 i1 v5_b46 v6_b46 r14 z2_j86)
  else (if v4_b46 < (v5_b46 + (r14 - z2_j86)) then (fX8_dearest_j113 i1 v5_b46 v6_b46 r14 z2_j86)
  else (fX8_dearest_j124 v5_b46 v6_b46 r14 z2_j86 v3_b46 v4_b46)))
def fX8_dearest_b46 (i0 : Int32) (i1 : Int32) (r9 : st_ × Int32) (v3_b46 : Int32) (v4_b46 : Int32) (v5_b46 : Int32) (v6_b46 : Int32) : Option ((Int32 × Int32 × Int32 × Int32) ⊕ (Int32)) :=
  gd_ (ib_ (16 : Int32) 12584) <|
  if (r9.1 1 (ix_ (16 : Int32))) ≤ v6_b46 then (some (.inr v3_b46))
  else (bn_ (fX8_costIn1 r9.1 i0 v6_b46) fun r14 =>
  if v6_b46 < i1 then (fX8_dearest_j86 i1 v3_b46 v4_b46 v5_b46 v6_b46 r14 (0 : Int32))
  else (bn_ (fX8_costIn1 r9.1 i0 (v6_b46 - i1)) fun r18 =>
  fX8_dearest_j86 i1 v3_b46 v4_b46 v5_b46 v6_b46 r14 r18))
def fX8_dearest_l46 (i0 : Int32) (i1 : Int32) (r9 : st_ × Int32) : Nat → (Int32 × Int32 × Int32 × Int32) → Option (Int32) :=
  it_ (fun v => fX8_dearest_b46 i0 i1 r9 v.1 v.2.1 v.2.2.1 v.2.2.2)
def fX8_dearest_j26 (i0 : Int32) (i1 : Int32) (r1 : st_ × Int32) (z1_j26 : Int32) : Option (st_ × Int32) :=
  bn_ (fX8_throwsIf r1.1 z1_j26 (2 : Int32)) fun r9 =>
  if r9.2 = (0 : Int32) then (bn_ (fX8_dearest_l46 i0 i1 r9 FU_ ((-1 : Int32), (0 : Int32), (0 : Int32), (0 : Int32))) (fX8_dearest_k46 r9))
  else (some (r9.1, (0 : Int32)))
def fX8_dearest (s : st_) (i0 : Int32) (i1 : Int32) : Option (st_ × Int32) :=
  bn_ (fX8_noRule s i0) fun r1 =>
  if r1.2 = (0 : Int32) then (bn_ (fX8_in (Int32.toInt64 i1) (1 : Int64) (1000 : Int64)) fun r5 =>
  if r5 = (0 : Int32) then (fX8_dearest_j26 i0 i1 r1 (1 : Int32))
  else (fX8_dearest_j26 i0 i1 r1 (0 : Int32)))
  else (some (r1.1, (0 : Int32)))
def fX8_isWindow (s : st_) (i0 : Int32) (i1 : Int32) : Option (Int32) :=
  gd_ (ib_ (16 : Int32) 12584) <|
  if ((s 1 (ix_ (16 : Int32))) - i1) < i0 then (some (0 : Int32))
  else (some (1 : Int32))
def fX8_noWindow_j22 (s : st_) (z1_j22 : Int32) : Option (st_ × Int32) :=
  bn_ (fX8_wrong s z1_j22) fun r1 =>
  gd_ (bz_ r1.2) <|
  some (r1.1, r1.2)
def fX8_noWindow_j17 (s : st_) : Option (st_ × Int32) :=
  fX8_noWindow_j22 s (1 : Int32)
def fX8_noWindow (s : st_) (i0 : Int32) (i1 : Int32) : Option (st_ × Int32) :=
  if i0 < (0 : Int32) then (fX8_noWindow_j17 s)
  else (bn_ (fX8_in (Int32.toInt64 i1) (1 : Int64) (1000 : Int64)) fun r6 =>
  if r6 = (0 : Int32) then (fX8_noWindow_j17 s)
  else (fX8_noWindow_j22 s (0 : Int32)))
def fX8_sumIn_x6_32 (v4_x6_32 : Int32) : Option (Int32) :=
  some v4_x6_32
def fX8_sumIn_k6 (x : Int32) : Option (Int32) :=
  fX8_sumIn_x6_32 x
def fX8_sumIn_b6 (s : st_) (i0 : Int32) (i1 : Int32) (i2 : Int32) (v4_b6 : Int32) (v5_b6 : Int32) : Option ((Int32 × Int32) ⊕ (Int32)) :=
  if (i1 + i2) ≤ v5_b6 then (some (.inr v4_b6))
  else (bn_ (fX8_costIn1 s i0 v5_b6) fun r1 =>
  some (.inl ((v4_b6 + r1), (v5_b6 + (1 : Int32)))))
def fX8_sumIn_l6 (s : st_) (i0 : Int32) (i1 : Int32) (i2 : Int32) : Nat → (Int32 × Int32) → Option (Int32) :=
  it_ (fun v => fX8_sumIn_b6 s i0 i1 i2 v.1 v.2)
def fX8_sumIn (s : st_) (i0 : Int32) (i1 : Int32) (i2 : Int32) : Option (Int32) :=
  bn_ (fX8_sumIn_l6 s i0 i1 i2 FU_ ((0 : Int32), i1)) (fX8_sumIn_k6)
def fX8_bestIn_x5_58 (v3_x5_58 : Int32) (s_x5_58 : st_) : Option (st_ × Int32) :=
  some (s_x5_58, v3_x5_58)
def fX8_bestIn_k5 (x : Int32 × st_) : Option (st_ × Int32) :=
  fX8_bestIn_x5_58 x.1 x.2
def fX8_bestIn_j52 (v4_b5 : Int32) (v3_j52 : Int32) (s_j52 : st_) : Option ((Int32 × Int32 × st_) ⊕ (Int32 × st_)) :=
  some (.inl (v3_j52, (v4_b5 + (1 : Int32)), s_j52))
def fX8_bestIn_j43 (v4_b5 : Int32) (s_b5 : st_) (r2 : Int32) : Option ((Int32 × Int32 × st_) ⊕ (Int32 × st_)) :=
  bd_ (pt_ s_b5 0 17 r2) fun s6 =>
  fX8_bestIn_j52 v4_b5 v4_b5 s6
def fX8_bestIn_b5 (i0 : Int32) (i1 : Int32) (v3_b5 : Int32) (v4_b5 : Int32) (s_b5 : st_) : Option ((Int32 × Int32 × st_) ⊕ (Int32 × st_)) :=
  gd_ (ib_ (4 : Int32) 12584) <|
  if (s_b5 1 (ix_ (4 : Int32))) ≤ v4_b5 then (some (.inr (v3_b5, s_b5)))
  else (bn_ (fX8_sumIn s_b5 v4_b5 i0 i1) fun r2 =>
  if v3_b5 = (-1 : Int32) then (fX8_bestIn_j43 v4_b5 s_b5 r2)
  else (if r2 < (s_b5 0 17) then (fX8_bestIn_j43 v4_b5 s_b5 r2)
  else (fX8_bestIn_j52 v4_b5 v3_b5 s_b5)))
def fX8_bestIn_l5 (i0 : Int32) (i1 : Int32) : Nat → (Int32 × Int32 × st_) → Option (Int32 × st_) :=
  it_ (fun v => fX8_bestIn_b5 i0 i1 v.1 v.2.1 v.2.2)
def fX8_bestIn (s : st_) (i0 : Int32) (i1 : Int32) : Option (st_ × Int32) :=
  bn_ (fX8_bestIn_l5 i0 i1 FU_ ((-1 : Int32), (0 : Int32), s)) (fX8_bestIn_k5)
def fX8_regretIn1 (s : st_) (i0 : Int32) (i1 : Int32) : Option (st_ × Int32) :=
  bn_ (fX8_bestIn s i0 i1) fun r1 =>
  bn_ (fX8_sumIn r1.1 (6 : Int32) i0 i1) fun r5 =>
  some (r1.1, (r5 - (r1.1 0 17)))
def fX8_windowRegret (s : st_) (i0 : Int32) (i1 : Int32) : Option (st_ × Int32) :=
  bn_ (fX8_noWindow s i0 i1) fun r1 =>
  if r1.2 = (0 : Int32) then (bn_ (fX8_isWindow r1.1 i0 i1) fun r5 =>
  if r5 = (0 : Int32) then (some (r1.1, (-2000000000 : Int32)))
  else (bn_ (fX8_regretIn1 r1.1 i0 i1) fun r9 =>
  some (r9.1, r9.2)))
  else (some (r1.1, (0 : Int32)))
def fX8_windowBest (s : st_) (i0 : Int32) (i1 : Int32) : Option (st_ × Int32) :=
  bn_ (fX8_noWindow s i0 i1) fun r1 =>
  if r1.2 = (0 : Int32) then (bn_ (fX8_isWindow r1.1 i0 i1) fun r5 =>
  if r5 = (0 : Int32) then (some (r1.1, (-1 : Int32)))
  else (bn_ (fX8_bestIn r1.1 i0 i1) fun r9 =>
  some (r9.1, r9.2)))
  else (some (r1.1, (0 : Int32)))
def fX8_worstWindow_x18_63 (v2_x18_63 : Int32) (s_x18_63 : st_) : Option (st_ × Int32) :=
  some (s_x18_63, v2_x18_63)
def fX8_worstWindow_k18 (x : Int32 × st_) : Option (st_ × Int32) :=
  fX8_worstWindow_x18_63 x.1 x.2
def fX8_worstWindow_j57 (v4_b18 : Int32) (r9 : st_ × Int32) (v2_j57 : Int32) (v3_j57 : Int32) : Option ((Int32 × Int32 × Int32 × st_) ⊕ (Int32 × st_)) :=
  some (.inl (v2_j57, v3_j57, (v4_b18 + (1 : Int32)), r9.1))
def fX8_worstWindow_j51 (v4_b18 : Int32) (r9 : st_ × Int32) : Option ((Int32 × Int32 × Int32 × st_) ⊕ (Int32 × st_)) :=
  fX8_worstWindow_j57 v4_b18 r9 v4_b18 r9.2
def fX8_worstWindow_b18 (i0 : Int32) (v2_b18 : Int32) (v3_b18 : Int32) (v4_b18 : Int32) (s_b18 : st_) : Option ((Int32 × Int32 × Int32 × st_) ⊕ (Int32 × st_)) :=
  bn_ (fX8_isWindow s_b18 v4_b18 i0) fun r5 =>
  if r5 = (0 : Int32) then (some (.inr (v2_b18, s_b18)))
  else (bn_ (fX8_regretIn1 s_b18 v4_b18 i0) fun r9 =>
  if v2_b18 = (-1 : Int32) then (fX8_worstWindow_j51 v4_b18 r9)
  else (if v3_b18 < r9.2 then (fX8_worstWindow_j51 v4_b18 r9)
  else (fX8_worstWindow_j57 v4_b18 r9 v2_b18 v3_b18)))
def fX8_worstWindow_l18 (i0 : Int32) : Nat → (Int32 × Int32 × Int32 × st_) → Option (Int32 × st_) :=
  it_ (fun v => fX8_worstWindow_b18 i0 v.1 v.2.1 v.2.2.1 v.2.2.2)
def fX8_worstWindow (s : st_) (i0 : Int32) : Option (st_ × Int32) :=
  bn_ (fX8_noWindow s (0 : Int32) i0) fun r1 =>
  if r1.2 = (0 : Int32) then (bn_ (fX8_worstWindow_l18 i0 FU_ ((-1 : Int32), (0 : Int32), (0 : Int32), r1.1)) (fX8_worstWindow_k18))
  else (some (r1.1, (0 : Int32)))
def fX8_meanCost_j18 (r1 : st_ × Int32) : Option (st_ × UInt64) :=
  some (r1.1, FP.dconst0)
def fX8_meanCost (s : st_) (i0 : Int32) : Option (st_ × UInt64) :=
  bn_ (fX8_noArm s i0) fun r1 =>
  if r1.2 = (0 : Int32) then (gd_ (ib_ (16 : Int32) 12584) <|
  if (r1.1 1 (ix_ (16 : Int32))) = (0 : Int32) then (fX8_meanCost_j18 r1)
  else (bn_ (fX8_told i0) fun r6 =>
  bn_ (fX8_armOf r1.1 r6 (3 : Int32)) fun r10 =>
  gd_ (ib_ (16 : Int32) 12584) <|
  gd_ (n64_ (FP.ddiv (FP.i2d r10) (FP.i2d (r1.1 1 (ix_ (16 : Int32)))))) <|
  some (r1.1, (FP.ddiv (FP.i2d r10) (FP.i2d (r1.1 1 (ix_ (16 : Int32))))))))
  else (fX8_meanCost_j18 r1)
def fX8_share (s : st_) (i0 : Int32) : Option (st_ × UInt32) :=
  bn_ (fX8_noRule s i0) fun r1 =>
  if r1.2 = (0 : Int32) then (bn_ (fX8_of r1.1 i0 (2 : Int32)) fun r5 =>
  bn_ (fX8_weights r1.1) fun r9 =>
  gd_ (n32_ (FP.fdiv (FP.i2f r5) (FP.i2f r9))) <|
  some (r1.1, (FP.fdiv (FP.i2f r5) (FP.i2f r9))))
  else (some (r1.1, FP.fconst0))
def fX8_restAt (i0 : Int32) (i1 : Int32) : Option (Int32) :=
  some (((9 : Int32) * i0) + i1)
def fX8_wayTo_j23 (s : st_) (i1 : Int32) (z0_j23 : Int32) : Option (Int32) :=
  bn_ (fX8_cylinderOf s (6 : Int32) i1) fun r1 =>
  bn_ (fX8_costOf s (if (0 : Int32) ≤ (r1 - z0_j23) then (r1 - z0_j23) else (0 : Int32) - (r1 - z0_j23))) fun r5 =>
  some r5
def fX8_wayTo (s : st_) (i0 : Int32) (i1 : Int32) : Option (Int32) :=
  if i0 = (8 : Int32) then (bn_ (fX8_armOf s (6 : Int32) (0 : Int32)) fun r13 =>
  fX8_wayTo_j23 s i1 r13)
  else (bn_ (fX8_cylinderOf s (6 : Int32) i0) fun r9 =>
  fX8_wayTo_j23 s i1 r9)
def fX8_through (s : st_) (i0 : Int32) (i1 : Int32) (i2 : Int32) : Option (Int32) :=
  bn_ (fX8_wayTo s i1 i2) fun r1 =>
  bn_ (fX8_restAt (i0 ||| ((1 : Int32) <<< (i2 &&& 31))) i2) fun r5 =>
  gd_ (ib_ r5 2304) <|
  some (r1 + (s 9 (ix_ r5)))
def fX8_laysRest_x35_138 (s_x35_138 : st_) : Option (st_) :=
  some s_x35_138
def fX8_laysRest_k35 (x : st_) : Option (st_) :=
  fX8_laysRest_x35_138 x
def fX8_laysRest_x42_132 (v3_b35 : Int32) (s_x42_132 : st_) : Option ((Int32 × st_) ⊕ (st_)) :=
  some (.inl ((v3_b35 + (-1 : Int32)), s_x42_132))
def fX8_laysRest_k42 (v3_b35 : Int32) (x : st_) : Option ((Int32 × st_) ⊕ (st_)) :=
  fX8_laysRest_x42_132 v3_b35 x
def fX8_laysRest_j126 (v4_b42 : Int32) (s_j126 : st_) : Option ((Int32 × st_) ⊕ (st_)) :=
  some (.inl ((v4_b42 + (1 : Int32)), s_j126))
def fX8_laysRest_x76_113 (v3_b35 : Int32) (v4_b42 : Int32) (s_b42 : st_) (v5_x76_113 : Int32) : Option ((Int32 × st_) ⊕ (st_)) :=
  bn_ (fX8_restAt v3_b35 v4_b42) fun r1 =>
  gd_ (ib_ r1 2304) <|
  bd_ (pt_ s_b42 9 (ix_ r1) v5_x76_113) fun s6 =>
  fX8_laysRest_j126 v4_b42 s6
def fX8_laysRest_k76 (v3_b35 : Int32) (v4_b42 : Int32) (s_b42 : st_) (x : Int32) : Option ((Int32 × st_) ⊕ (st_)) :=
  fX8_laysRest_x76_113 v3_b35 v4_b42 s_b42 x
def fX8_laysRest_j107 (v6_b76 : Int32) (v5_j107 : Int32) : Option ((Int32 × Int32) ⊕ (Int32)) :=
  some (.inl (v5_j107, (v6_b76 + (1 : Int32))))
def fX8_laysRest_b76 (i0 : Int32) (v3_b35 : Int32) (v4_b42 : Int32) (s_b42 : st_) (v5_b76 : Int32) (v6_b76 : Int32) : Option ((Int32 × Int32) ⊕ (Int32)) :=
  if i0 ≤ v6_b76 then (some (.inr v5_b76))
  else (if ((v3_b35 >>> (v6_b76 &&& 31)) &&& (1 : Int32)) = (0 : Int32) then (bn_ (fX8_through s_b42 v3_b35 v4_b42 v6_b76) fun r10 =>
  fX8_laysRest_j107 v6_b76 (if r10 < v5_b76 then r10 else v5_b76))
  else (fX8_laysRest_j107 v6_b76 v5_b76))
def fX8_laysRest_l76 (i0 : Int32) (v3_b35 : Int32) (v4_b42 : Int32) (s_b42 : st_) : Nat → (Int32 × Int32) → Option (Int32) :=
  it_ (fun v => fX8_laysRest_b76 i0 v3_b35 v4_b42 s_b42 v.1 v.2)
def fX8_laysRest_j68 (i0 : Int32) (v3_b35 : Int32) (v4_b42 : Int32) (s_b42 : st_) : Option ((Int32 × st_) ⊕ (st_)) :=
  bn_ (fX8_laysRest_l76 i0 v3_b35 v4_b42 s_b42 FU_ ((2147483647 : Int32), (0 : Int32))) (fX8_laysRest_k76 v3_b35 v4_b42 s_b42)
def fX8_laysRest_b42 (i0 : Int32) (v3_b35 : Int32) (v4_b42 : Int32) (s_b42 : st_) : Option ((Int32 × st_) ⊕ (st_)) :=
  if (8 : Int32) < v4_b42 then (some (.inr s_b42))
  else (if (8 : Int32) ≤ v4_b42 then (fX8_laysRest_j68 i0 v3_b35 v4_b42 s_b42)
  else (if ((v3_b35 >>> (v4_b42 &&& 31)) &&& (1 : Int32)) = (0 : Int32) then (fX8_laysRest_j126 v4_b42 s_b42)
  else (fX8_laysRest_j68 i0 v3_b35 v4_b42 s_b42)))
def fX8_laysRest_l42 (i0 : Int32) (v3_b35 : Int32) : Nat → (Int32 × st_) → Option (st_) :=
  it_ (fun v => fX8_laysRest_b42 i0 v3_b35 v.1 v.2)
def fX8_laysRest_b35 (i0 : Int32) (v3_b35 : Int32) (s_b35 : st_) : Option ((Int32 × st_) ⊕ (st_)) :=
  if v3_b35 < (0 : Int32) then (some (.inr s_b35))
  else (bn_ (fX8_laysRest_l42 i0 v3_b35 FU_ ((0 : Int32), s_b35)) (fX8_laysRest_k42 v3_b35))
def fX8_laysRest_l35 (i0 : Int32) : Nat → (Int32 × st_) → Option (st_) :=
  it_ (fun v => fX8_laysRest_b35 i0 v.1 v.2)
def fX8_laysRest_x8_31 (i0 : Int32) (s_x8_31 : st_) : Option (st_) :=
  bn_ (fX8_laysRest_l35 i0 FU_ (((((1 : Int32) <<< (i0 &&& 31)) - (1 : Int32)) - (1 : Int32)), s_x8_31)) (fX8_laysRest_k35)
def fX8_laysRest_k8 (i0 : Int32) (x : st_) : Option (st_) :=
  fX8_laysRest_x8_31 i0 x
def fX8_laysRest_b8 (i0 : Int32) (v3_b8 : Int32) (s_b8 : st_) : Option ((Int32 × st_) ⊕ (st_)) :=
  if (8 : Int32) < v3_b8 then (some (.inr s_b8))
  else (bn_ (fX8_restAt (((1 : Int32) <<< (i0 &&& 31)) - (1 : Int32)) v3_b8) fun r14 =>
  gd_ (ib_ r14 2304) <|
  bd_ (pt_ s_b8 9 (ix_ r14) (0 : Int32)) fun s19 =>
  some (.inl ((v3_b8 + (1 : Int32)), s19)))
def fX8_laysRest_l8 (i0 : Int32) : Nat → (Int32 × st_) → Option (st_) :=
  it_ (fun v => fX8_laysRest_b8 i0 v.1 v.2)
def fX8_laysRest (s : st_) (i0 : Int32) : Option (st_) :=
  bn_ (fX8_laysRest_l8 i0 FU_ ((0 : Int32), s)) (fX8_laysRest_k8 i0)
def fX8_optimum_j18 (s : st_) (i0 : Int32) (z1_j18 : Int32) : Option (st_ × Int32) :=
  bn_ (fX8_wrong s z1_j18) fun r5 =>
  if r5.2 = (0 : Int32) then (bn_ (fX8_armOf r5.1 (6 : Int32) (2 : Int32)) fun r9 =>
  if i0 ≤ r9 then (bn_ (fX8_laysRest r5.1 i0) fun r13 =>
  bn_ (fX8_restAt (0 : Int32) (8 : Int32)) fun r17 =>
  gd_ (ib_ r17 2304) <|
  some (r13, (r13 9 (ix_ r17))))
  else (some (r5.1, (-1 : Int32))))
  else (some (r5.1, (0 : Int32)))
def fX8_optimum (s : st_) (i0 : Int32) : Option (st_ × Int32) :=
  bn_ (fX8_in (Int32.toInt64 i0) (0 : Int64) (8 : Int64)) fun r1 =>
  if r1 = (0 : Int32) then (fX8_optimum_j18 s i0 (1 : Int32))
  else (fX8_optimum_j18 s i0 (0 : Int32))
def fX8_optimumAt_x66_131 (r17 : st_) (v4_x66_131 : Int32) : Option (st_ × Int32) :=
  some (r17, v4_x66_131)
def fX8_optimumAt_k66 (r17 : st_) (x : Int32) : Option (st_ × Int32) :=
  fX8_optimumAt_x66_131 r17 x
def fX8_optimumAt_x75_114 (v3_b66 : Int32) (v5_b66 : Int32) (v6_x75_114 : Int32) : Option ((Int32 × Int32 × Int32) ⊕ (Int32)) :=
  some (.inl ((v3_b66 ||| ((1 : Int32) <<< (v6_x75_114 &&& 31))), v6_x75_114, (v5_b66 + (1 : Int32))))
def fX8_optimumAt_k75 (v3_b66 : Int32) (v5_b66 : Int32) (x : Int32) : Option ((Int32 × Int32 × Int32) ⊕ (Int32)) :=
  fX8_optimumAt_x75_114 v3_b66 v5_b66 x
def fX8_optimumAt_j108 (v6_b75 : Int32) : Option ((Int32) ⊕ (Int32)) :=
  some (.inl (v6_b75 + (1 : Int32)))
def fX8_optimumAt_b75 (r17 : st_) (v3_b66 : Int32) (v4_b66 : Int32) (v6_b75 : Int32) : Option ((Int32) ⊕ (Int32)) :=
  if ((v3_b66 >>> (v6_b75 &&& 31)) &&& (1 : Int32)) = (1 : Int32) then (fX8_optimumAt_j108 v6_b75)
  else (bn_ (fX8_through r17 v3_b66 v4_b66 v6_b75) fun r21 =>
  bn_ (fX8_restAt v3_b66 v4_b66) fun r25 =>
  gd_ (ib_ r25 2304) <|
  if r21 = (r17 9 (ix_ r25)) then (some (.inr v6_b75))
  else (fX8_optimumAt_j108 v6_b75))
def fX8_optimumAt_l75 (r17 : st_) (v3_b66 : Int32) (v4_b66 : Int32) : Nat → Int32 → Option (Int32) :=
  it_ (fun v => fX8_optimumAt_b75 r17 v3_b66 v4_b66 v)
def fX8_optimumAt_b66 (i1 : Int32) (r17 : st_) (v3_b66 : Int32) (v4_b66 : Int32) (v5_b66 : Int32) : Option ((Int32 × Int32 × Int32) ⊕ (Int32)) :=
  if i1 < v5_b66 then (some (.inr v4_b66))
  else (bn_ (fX8_optimumAt_l75 r17 v3_b66 v4_b66 FU_ (0 : Int32)) (fX8_optimumAt_k75 v3_b66 v5_b66))
def fX8_optimumAt_l66 (i1 : Int32) (r17 : st_) : Nat → (Int32 × Int32 × Int32) → Option (Int32) :=
  it_ (fun v => fX8_optimumAt_b66 i1 r17 v.1 v.2.1 v.2.2)
def fX8_optimumAt_j18 (s : st_) (i0 : Int32) (i1 : Int32) (z1_j18 : Int32) : Option (st_ × Int32) :=
  bn_ (fX8_wrong s z1_j18) fun r5 =>
  if r5.2 = (0 : Int32) then (bn_ (fX8_armOf r5.1 (6 : Int32) (2 : Int32)) fun r9 =>
  if r9 < i0 then (some (r5.1, (-1 : Int32)))
  else (bn_ (fX8_in (Int32.toInt64 i1) (0 : Int64) (Int32.toInt64 (i0 - (1 : Int32)))) fun r13 =>
  if r13 = (0 : Int32) then (some (r5.1, (-1 : Int32)))
  else (bn_ (fX8_laysRest r5.1 i0) fun r17 =>
  bn_ (fX8_optimumAt_l66 i1 r17 FU_ ((0 : Int32), (8 : Int32), (0 : Int32))) (fX8_optimumAt_k66 r17))))
  else (some (r5.1, (0 : Int32)))
def fX8_optimumAt (s : st_) (i0 : Int32) (i1 : Int32) : Option (st_ × Int32) :=
  bn_ (fX8_in (Int32.toInt64 i0) (1 : Int64) (8 : Int64)) fun r1 =>
  if r1 = (0 : Int32) then (fX8_optimumAt_j18 s i0 i1 (1 : Int32))
  else (fX8_optimumAt_j18 s i0 i1 (0 : Int32))
def fX8_swapCost_j29 (s_j29 : st_) : Option (st_ × Int32) :=
  some (s_j29, (0 : Int32))
def fX8_swapCost_j22 (i0 : Int32) (i1 : Int32) (r1 : st_ × Int32) (z1_j22 : Int32) : Option (st_ × Int32) :=
  bn_ (fX8_throwsIf r1.1 z1_j22 (1 : Int32)) fun r9 =>
  if r9.2 = (0 : Int32) then (bn_ (fX8_swapAt i0 i1) fun r13 =>
  gd_ (ib_ r13 12584) <|
  some (r9.1, (r9.1 1 (ix_ r13))))
  else (fX8_swapCost_j29 r9.1)
def fX8_swapCost (s : st_) (i0 : Int32) (i1 : Int32) : Option (st_ × Int32) :=
  bn_ (fX8_noRule s i0) fun r1 =>
  if r1.2 = (0 : Int32) then (bn_ (fX8_isRule r1.1 i1) fun r5 =>
  if r5 = (0 : Int32) then (fX8_swapCost_j22 i0 i1 r1 (1 : Int32))
  else (fX8_swapCost_j22 i0 i1 r1 (0 : Int32)))
  else (fX8_swapCost_j29 r1.1)
def fX8_bestSwapOf_x4_49 (v2_x4_49 : Int32) : Option (Int32) :=
  some v2_x4_49
def fX8_bestSwapOf_k4 (x : Int32) : Option (Int32) :=
  fX8_bestSwapOf_x4_49 x
def fX8_bestSwapOf_j42 (v3_b4 : Int32) (z0_j42 : Int32) : Option ((Int32 × Int32) ⊕ (Int32)) :=
  some (.inl (z0_j42, (v3_b4 + (1 : Int32))))
def fX8_bestSwapOf_b4 (s : st_) (i0 : Int32) (v2_b4 : Int32) (v3_b4 : Int32) : Option ((Int32 × Int32) ⊕ (Int32)) :=
  gd_ (ib_ (4 : Int32) 12584) <|
  if (s 1 (ix_ (4 : Int32))) ≤ v3_b4 then (some (.inr v2_b4))
  else (bn_ (fX8_swapAt i0 v3_b4) fun r2 =>
  gd_ (ib_ r2 12584) <|
  bn_ (fX8_swapAt i0 v2_b4) fun r7 =>
  gd_ (ib_ r7 12584) <|
  if (s 1 (ix_ r7)) ≤ (s 1 (ix_ r2)) then (fX8_bestSwapOf_j42 v3_b4 v2_b4)
  else (fX8_bestSwapOf_j42 v3_b4 v3_b4))
def fX8_bestSwapOf_l4 (s : st_) (i0 : Int32) : Nat → (Int32 × Int32) → Option (Int32) :=
  it_ (fun v => fX8_bestSwapOf_b4 s i0 v.1 v.2)
def fX8_bestSwapOf (s : st_) (i0 : Int32) : Option (Int32) :=
  bn_ (fX8_bestSwapOf_l4 s i0 FU_ ((0 : Int32), (1 : Int32))) (fX8_bestSwapOf_k4)
def fX8_bestSwap (s : st_) (i0 : Int32) : Option (st_ × Int32) :=
  bn_ (fX8_noRule s i0) fun r1 =>
  if r1.2 = (0 : Int32) then (bn_ (fX8_bestSwapOf r1.1 i0) fun r5 =>
  some (r1.1, r5))
  else (some (r1.1, (0 : Int32)))
def fX8_swapRegret_x9_53 (s1 : st_) (v1_x9_53 : Int32) : Option (st_ × Int32) :=
  some (s1, v1_x9_53)
def fX8_swapRegret_k9 (s1 : st_) (x : Int32) : Option (st_ × Int32) :=
  fX8_swapRegret_x9_53 s1 x
def fX8_swapRegret_b9 (s1 : st_) (v1_b9 : Int32) (v2_b9 : Int32) : Option ((Int32 × Int32) ⊕ (Int32)) :=
  gd_ (ib_ (4 : Int32) 12584) <|
  if (s1 1 (ix_ (4 : Int32))) ≤ v2_b9 then (some (.inr v1_b9))
  else (bn_ (fX8_swapAt v2_b9 v2_b9) fun r6 =>
  gd_ (ib_ r6 12584) <|
  bn_ (fX8_bestSwapOf s1 v2_b9) fun r11 =>
  bn_ (fX8_swapAt v2_b9 r11) fun r15 =>
  gd_ (ib_ r15 12584) <|
  some (.inl ((v1_b9 + ((s1 1 (ix_ r6)) - (s1 1 (ix_ r15)))), (v2_b9 + (1 : Int32)))))
def fX8_swapRegret_l9 (s1 : st_) : Nat → (Int32 × Int32) → Option (Int32) :=
  it_ (fun v => fX8_swapRegret_b9 s1 v.1 v.2)
def fX8_swapRegret (s : st_) : Option (st_ × Int32) :=
  bd_ (pt_ s 0 6 (0 : Int32)) fun s1 =>
  bn_ (fX8_swapRegret_l9 s1 FU_ ((0 : Int32), (0 : Int32))) (fX8_swapRegret_k9 s1)
def fX8_rival_j18 (s : st_) (i0 : Int32) (z1_j18 : Int32) : Option (st_ × Int32) :=
  bn_ (fX8_wrong s z1_j18) fun r5 =>
  if r5.2 = (0 : Int32) then (gd_ (ib_ (21 : Int32) 12584) <|
  if (r5.1 1 (ix_ (21 : Int32))) = (-1 : Int32) then (some (r5.1, (-2000000000 : Int32)))
  else (if i0 = (0 : Int32) then (gd_ (ib_ (21 : Int32) 12584) <|
  some (r5.1, (r5.1 1 (ix_ (21 : Int32)))))
  else (if i0 = (1 : Int32) then (bn_ (fX8_armOf r5.1 (7 : Int32) (0 : Int32)) fun r11 =>
  some (r5.1, r11))
  else (if i0 = (2 : Int32) then (bn_ (fX8_armOf r5.1 (7 : Int32) (3 : Int32)) fun r15 =>
  some (r5.1, r15))
  else (if i0 = (3 : Int32) then (bn_ (fX8_armOf r5.1 (7 : Int32) (3 : Int32)) fun r19 =>
  bn_ (fX8_bestRule r5.1) fun r23 =>
  bn_ (fX8_armOf r5.1 r23 (3 : Int32)) fun r27 =>
  some (r5.1, (r19 - r27)))
  else (if i0 = (4 : Int32) then (gd_ (ib_ (24 : Int32) 12584) <|
  some (r5.1, (r5.1 1 (ix_ (24 : Int32)))))
  else (gd_ (ib_ (25 : Int32) 12584) <|
  some (r5.1, (r5.1 1 (ix_ (25 : Int32)))))))))))
  else (some (r5.1, (0 : Int32)))
def fX8_rival (s : st_) (i0 : Int32) : Option (st_ × Int32) :=
  bn_ (fX8_in (Int32.toInt64 i0) (0 : Int64) (5 : Int64)) fun r1 =>
  if r1 = (0 : Int32) then (fX8_rival_j18 s i0 (1 : Int32))
  else (fX8_rival_j18 s i0 (0 : Int32))
def fX8_noRounds_j18 (s : st_) (i1 : Int32) (z1_j18 : Int32) : Option (st_ × Int32) :=
  bn_ (fX8_throwsIf s z1_j18 i1) fun r5 =>
  gd_ (bz_ r5.2) <|
  some (r5.1, r5.2)
def fX8_noRounds (s : st_) (i0 : Int32) (i1 : Int32) : Option (st_ × Int32) :=
  bn_ (fX8_in (Int32.toInt64 i0) (1 : Int64) (200 : Int64)) fun r1 =>
  if r1 = (0 : Int32) then (fX8_noRounds_j18 s i1 (1 : Int32))
  else (fX8_noRounds_j18 s i1 (0 : Int32))
def fX8_goesAside (s : st_) : Option (st_) :=
  bn_ (fX8_copies (sb_ s 1) (sb_ s 2)) fun r1 =>
  bd_ (mg_ s 2 1 r1) fun s5 =>
  some s5
def fX8_comesBack (s : st_) : Option (st_) :=
  bn_ (fX8_copies (sb_ s 2) (sb_ s 1)) fun r1 =>
  bd_ (mg_ s 1 1 r1) fun s5 =>
  some s5
def fX8_rivalIn (s : st_) (i0 : Int32) : Option (st_ × Int32) :=
  bd_ (pt_ s 0 6 (0 : Int32)) fun s1 =>
  bn_ (fX8_noRounds s1 i0 (1 : Int32)) fun r5 =>
  if r5.2 = (0 : Int32) then (gd_ (ib_ (21 : Int32) 12584) <|
  if (r5.1 1 (ix_ (21 : Int32))) = (-1 : Int32) then (some (r5.1, (-2000000000 : Int32)))
  else (bn_ (fX8_goesAside r5.1) fun r10 =>
  bn_ (fX8_rounds r10 i0) fun r14 =>
  bn_ (fX8_armOf r14 (6 : Int32) (3 : Int32)) fun r18 =>
  bn_ (fX8_armOf r14 (7 : Int32) (3 : Int32)) fun r22 =>
  bn_ (fX8_comesBack r14) fun r26 =>
  some (r26, (r18 - r22))))
  else (some (r5.1, (0 : Int32)))
def fX8_regretBehind (s : st_) (i0 : Int32) : Option (st_ × Int32) :=
  bn_ (fX8_rounds s i0) fun r1 =>
  bn_ (fX8_regretNow r1) fun r5 =>
  bn_ (fX8_comesBack r1) fun r9 =>
  some (r9, r5)
def fX8_budgetFor_x7_59 (s_x7_59 : st_) : Option (st_ × Int32) :=
  some (s_x7_59, (-1 : Int32))
def fX8_budgetFor_x7_51 (v2_x7_51 : Int32) (s_x7_51 : st_) : Option (st_ × Int32) :=
  some (s_x7_51, v2_x7_51)
def fX8_budgetFor_k7 (x : (Int32 × st_) ⊕ (st_)) : Option (st_ × Int32) :=
  Sum.elim (fun z => fX8_budgetFor_x7_51 z.1 z.2) (fun z => fX8_budgetFor_x7_59 z) x
def fX8_budgetFor_b7 (i0 : Int32) (v2_b7 : Int32) (s_b7 : st_) : Option ((Int32 × st_) ⊕ ((Int32 × st_) ⊕ (st_))) :=
  if (20 : Int32) < v2_b7 then (some (.inr (.inr s_b7)))
  else (bn_ (fX8_goesAside s_b7) fun r5 =>
  gd_ (ib_ (9 : Int32) 12584) <|
  bd_ (pt_ r5 1 (ix_ (9 : Int32)) (5 : Int32)) fun s10 =>
  gd_ (ib_ (13 : Int32) 12584) <|
  bd_ (pt_ s10 1 (ix_ (13 : Int32)) v2_b7) fun s15 =>
  gd_ (ib_ (14 : Int32) 12584) <|
  bd_ (pt_ s15 1 (ix_ (14 : Int32)) (0 : Int32)) fun s20 =>
  bn_ (fX8_regretBehind s20 (20 : Int32)) fun r24 =>
  if r24.2 < i0 then (some (.inl ((v2_b7 + (1 : Int32)), r24.1)))
  else (some (.inr (.inl (v2_b7, r24.1)))))
def fX8_budgetFor_l7 (i0 : Int32) : Nat → (Int32 × st_) → Option ((Int32 × st_) ⊕ (st_)) :=
  it_ (fun v => fX8_budgetFor_b7 i0 v.1 v.2)
def fX8_budgetFor (s : st_) (i0 : Int32) : Option (st_ × Int32) :=
  bd_ (pt_ s 0 6 (0 : Int32)) fun s1 =>
  bn_ (fX8_budgetFor_l7 i0 FU_ ((0 : Int32), s1)) (fX8_budgetFor_k7)
def fX8_run_j35 (i0 : Int32) (r5 : st_ × Int32) (z1_j35 : Int32) : Option (st_ × Int32) :=
  bn_ (fX8_throwsIf r5.1 z1_j35 (1 : Int32)) fun r10 =>
  if r10.2 = (0 : Int32) then (bn_ (fX8_rounds r10.1 i0) fun r14 =>
  gd_ (ib_ (16 : Int32) 12584) <|
  some (r14, (r14 1 (ix_ (16 : Int32)))))
  else (some (r10.1, (0 : Int32)))
def fX8_run (s : st_) (i0 : Int32) : Option (st_ × Int32) :=
  bd_ (pt_ s 0 6 (0 : Int32)) fun s1 =>
  bn_ (fX8_noRounds s1 i0 (1 : Int32)) fun r5 =>
  if r5.2 = (0 : Int32) then (gd_ (ib_ (16 : Int32) 12584) <|
  if ((r5.1 1 (ix_ (16 : Int32))) + i0) ≤ (1000 : Int32) then (fX8_run_j35 i0 r5 (0 : Int32))
  else (fX8_run_j35 i0 r5 (1 : Int32)))
  else (some (r5.1, (0 : Int32)))
def fX8_runToBreach_x26_65 (r5 : st_ × Int32) (v3_x26_65 : Int32) (s_x26_65 : st_) : Option (st_ × Int32) :=
  gd_ (ib_ (17 : Int32) 12584) <|
  if (s_x26_65 1 (ix_ (17 : Int32))) ≤ (r5.1 1 (ix_ (17 : Int32))) then (some (s_x26_65, (-1 : Int32)))
  else (some (s_x26_65, v3_x26_65))
def fX8_runToBreach_k26 (r5 : st_ × Int32) (x : Int32 × st_) : Option (st_ × Int32) :=
  fX8_runToBreach_x26_65 r5 x.1 x.2
def fX8_runToBreach_b26 (i0 : Int32) (r5 : st_ × Int32) (v3_b26 : Int32) (s_b26 : st_) : Option ((Int32 × st_) ⊕ (Int32 × st_)) :=
  gd_ (ib_ (17 : Int32) 12584) <|
  if (s_b26 1 (ix_ (17 : Int32))) = (r5.1 1 (ix_ (17 : Int32))) then (if i0 ≤ v3_b26 then (some (.inr (v3_b26, s_b26)))
  else (gd_ (ib_ (16 : Int32) 12584) <|
  if (1000 : Int32) ≤ (s_b26 1 (ix_ (16 : Int32))) then (some (.inr (v3_b26, s_b26)))
  else (bn_ (fX8_round s_b26) fun r13 =>
  some (.inl ((v3_b26 + (1 : Int32)), r13)))))
  else (some (.inr (v3_b26, s_b26)))
def fX8_runToBreach_l26 (i0 : Int32) (r5 : st_ × Int32) : Nat → (Int32 × st_) → Option (Int32 × st_) :=
  it_ (fun v => fX8_runToBreach_b26 i0 r5 v.1 v.2)
def fX8_runToBreach (s : st_) (i0 : Int32) : Option (st_ × Int32) :=
  bd_ (pt_ s 0 6 (0 : Int32)) fun s1 =>
  bn_ (fX8_noRounds s1 i0 (1 : Int32)) fun r5 =>
  if r5.2 = (0 : Int32) then (gd_ (ib_ (17 : Int32) 12584) <|
  bn_ (fX8_runToBreach_l26 i0 r5 FU_ ((0 : Int32), r5.1)) (fX8_runToBreach_k26 r5))
  else (some (r5.1, (0 : Int32)))
def fX8_hurtOf (s : st_) (i0 : Int32) : Option (st_ × Int32) :=
  bn_ (fX8_noCylinder s i0) fun r1 =>
  if r1.2 = (0 : Int32) then (bn_ (fX8_isFull r1.1) fun r5 =>
  if r5 = (0 : Int32) then (bn_ (fX8_hurts r1.1 i0) fun r9 =>
  some (r9.1, r9.2))
  else (some (r1.1, (-2000000000 : Int32))))
  else (some (r1.1, (0 : Int32)))
def fX8_worst (s : st_) : Option (st_ × Int32) :=
  bd_ (pt_ s 0 6 (0 : Int32)) fun s1 =>
  bn_ (fX8_isFull s1) fun r5 =>
  if r5 = (0 : Int32) then (bn_ (fX8_worstOf s1) fun r9 =>
  some (r9.1, r9.2))
  else (some (s1, (-1 : Int32)))
def fX8_regretIn (s : st_) (i0 : Int32) : Option (st_ × Int32) :=
  bd_ (pt_ s 0 6 (0 : Int32)) fun s1 =>
  bn_ (fX8_noRounds s1 i0 (1 : Int32)) fun r5 =>
  if r5.2 = (0 : Int32) then (bn_ (fX8_goesAside r5.1) fun r9 =>
  bn_ (fX8_regretBehind r9 i0) fun r13 =>
  some (r13.1, r13.2))
  else (some (r5.1, (0 : Int32)))
def fX8_costIn (s : st_) (i0 : Int32) (i1 : Int32) : Option (st_ × Int32) :=
  bn_ (fX8_noArm s i0) fun r1 =>
  if r1.2 = (0 : Int32) then (bn_ (fX8_noRounds r1.1 i1 (2 : Int32)) fun r5 =>
  if r5.2 = (0 : Int32) then (bn_ (fX8_told i0) fun r9 =>
  bn_ (fX8_armOf r5.1 r9 (3 : Int32)) fun r13 =>
  bn_ (fX8_goesAside r5.1) fun r17 =>
  bn_ (fX8_rounds r17 i1) fun r21 =>
  bn_ (fX8_told i0) fun r25 =>
  bn_ (fX8_armOf r21 r25 (3 : Int32)) fun r29 =>
  bn_ (fX8_comesBack r21) fun r33 =>
  some (r33, (r29 - r13)))
  else (some (r5.1, (0 : Int32))))
  else (some (r1.1, (0 : Int32)))
def fX8_breachIn_j76 (v2_x32_60 : Int32) (s_x32_60 : st_) (z0_j76 : Int32) : Option (st_ × Int32) :=
  bn_ (fX8_comesBack s_x32_60) fun r12 =>
  if z0_j76 = (0 : Int32) then (some (r12, (-1 : Int32)))
  else (some (r12, v2_x32_60))
def fX8_breachIn_x32_60 (r6 : st_) (v2_x32_60 : Int32) (s_x32_60 : st_) : Option (st_ × Int32) :=
  gd_ (ib_ (17 : Int32) 12584) <|
  if (s_x32_60 1 (ix_ (17 : Int32))) ≤ (r6 1 (ix_ (17 : Int32))) then (fX8_breachIn_j76 v2_x32_60 s_x32_60 (0 : Int32))
  else (fX8_breachIn_j76 v2_x32_60 s_x32_60 (1 : Int32))
def fX8_breachIn_k32 (r6 : st_) (x : Int32 × st_) : Option (st_ × Int32) :=
  fX8_breachIn_x32_60 r6 x.1 x.2
def fX8_breachIn_b32 (r6 : st_) (v2_b32 : Int32) (s_b32 : st_) : Option ((Int32 × st_) ⊕ (Int32 × st_)) :=
  gd_ (ib_ (17 : Int32) 12584) <|
  if (s_b32 1 (ix_ (17 : Int32))) = (r6 1 (ix_ (17 : Int32))) then (if (200 : Int32) ≤ v2_b32 then (some (.inr (v2_b32, s_b32)))
  else (bn_ (fX8_round s_b32) fun r17 =>
  some (.inl ((v2_b32 + (1 : Int32)), r17))))
  else (some (.inr (v2_b32, s_b32)))
def fX8_breachIn_l32 (r6 : st_) : Nat → (Int32 × st_) → Option (Int32 × st_) :=
  it_ (fun v => fX8_breachIn_b32 r6 v.1 v.2)
def fX8_breachIn (s : st_) : Option (st_ × Int32) :=
  bd_ (pt_ s 0 6 (0 : Int32)) fun s1 =>
  gd_ (ib_ (11 : Int32) 12584) <|
  if (s1 1 (ix_ (11 : Int32))) = (-1 : Int32) then (some (s1, (-1 : Int32)))
  else (bn_ (fX8_goesAside s1) fun r6 =>
  gd_ (ib_ (17 : Int32) 12584) <|
  bn_ (fX8_breachIn_l32 r6 FU_ ((0 : Int32), r6)) (fX8_breachIn_k32 r6))
def fX8_regretKeeping (s : st_) (i0 : Int32) (i1 : Int32) : Option (st_ × Int32) :=
  bn_ (fX8_noRule s i0) fun r1 =>
  if r1.2 = (0 : Int32) then (bn_ (fX8_noRounds r1.1 i1 (2 : Int32)) fun r5 =>
  if r5.2 = (0 : Int32) then (bn_ (fX8_goesAside r5.1) fun r9 =>
  gd_ (ib_ (5 : Int32) 12584) <|
  bd_ (pt_ r9 1 (ix_ (5 : Int32)) (2 : Int32)) fun s14 =>
  gd_ (ib_ (6 : Int32) 12584) <|
  bd_ (pt_ s14 1 (ix_ (6 : Int32)) i0) fun s19 =>
  bn_ (fX8_regretBehind s19 i1) fun r23 =>
  some (r23.1, r23.2))
  else (some (r5.1, (0 : Int32))))
  else (some (r1.1, (0 : Int32)))
def fX8_regretAgainst_j18 (s : st_) (i0 : Int32) (i1 : Int32) (z1_j18 : Int32) : Option (st_ × Int32) :=
  bn_ (fX8_wrong s z1_j18) fun r5 =>
  if r5.2 = (0 : Int32) then (bn_ (fX8_noRounds r5.1 i1 (1 : Int32)) fun r9 =>
  if r9.2 = (0 : Int32) then (bn_ (fX8_goesAside r9.1) fun r13 =>
  gd_ (ib_ (9 : Int32) 12584) <|
  bd_ (pt_ r13 1 (ix_ (9 : Int32)) i0) fun s18 =>
  bn_ (fX8_regretBehind s18 i1) fun r22 =>
  some (r22.1, r22.2))
  else (some (r9.1, (0 : Int32))))
  else (some (r5.1, (0 : Int32)))
def fX8_regretAgainst (s : st_) (i0 : Int32) (i1 : Int32) : Option (st_ × Int32) :=
  bn_ (fX8_in (Int32.toInt64 i0) (0 : Int64) (5 : Int64)) fun r1 =>
  if r1 = (0 : Int32) then (fX8_regretAgainst_j18 s i0 i1 (1 : Int32))
  else (fX8_regretAgainst_j18 s i0 i1 (0 : Int32))
def fX8_saveSnapshot (s : st_) (i0 : Int32) : Option (st_ × Int32) :=
  bn_ (fX8_in (Int32.toInt64 i0) (0 : Int64) (1 : Int64)) fun r1 =>
  if r1 = (0 : Int32) then (bn_ (fX8_wrong s (1 : Int32)) fun r33 =>
  if r33.2 = (0 : Int32) then (if i0 = (0 : Int32) then (bn_ (fX8_copies (sb_ r33.1 1) (sb_ r33.1 4)) fun r49 =>
  bd_ (mg_ r33.1 4 1 r49) fun s53 =>
  gd_ (ib_ i0 2) <|
  bd_ (pt_ s53 6 (ix_ i0) (vp_nar .boolean (1 : Int32))) fun s56 =>
  gd_ (ib_ (16 : Int32) 12584) <|
  some (s56, (s56 1 (ix_ (16 : Int32)))))
  else (bn_ (fX8_copies (sb_ r33.1 1) (sb_ r33.1 5)) fun r37 =>
  bd_ (mg_ r33.1 5 1 r37) fun s41 =>
  gd_ (ib_ i0 2) <|
  bd_ (pt_ s41 6 (ix_ i0) (vp_nar .boolean (1 : Int32))) fun s44 =>
  gd_ (ib_ (16 : Int32) 12584) <|
  some (s44, (s44 1 (ix_ (16 : Int32))))))
  else (some (r33.1, (0 : Int32))))
  else (bn_ (fX8_wrong s (0 : Int32)) fun r5 =>
  if r5.2 = (0 : Int32) then (if i0 = (0 : Int32) then (bn_ (fX8_copies (sb_ r5.1 1) (sb_ r5.1 4)) fun r21 =>
  bd_ (mg_ r5.1 4 1 r21) fun s25 =>
  gd_ (ib_ i0 2) <|
  bd_ (pt_ s25 6 (ix_ i0) (vp_nar .boolean (1 : Int32))) fun s28 =>
  gd_ (ib_ (16 : Int32) 12584) <|
  some (s28, (s28 1 (ix_ (16 : Int32)))))
  else (bn_ (fX8_copies (sb_ r5.1 1) (sb_ r5.1 5)) fun r9 =>
  bd_ (mg_ r5.1 5 1 r9) fun s13 =>
  gd_ (ib_ i0 2) <|
  bd_ (pt_ s13 6 (ix_ i0) (vp_nar .boolean (1 : Int32))) fun s16 =>
  gd_ (ib_ (16 : Int32) 12584) <|
  some (s16, (s16 1 (ix_ (16 : Int32))))))
  else (some (r5.1, (0 : Int32))))
def fX8_restoreSnapshot (s : st_) (i0 : Int32) : Option (st_ × Int32) :=
  bn_ (fX8_in (Int32.toInt64 i0) (0 : Int64) (1 : Int64)) fun r1 =>
  if r1 = (0 : Int32) then (bn_ (fX8_wrong s (1 : Int32)) fun r24 =>
  if r24.2 = (0 : Int32) then (gd_ (ib_ i0 2) <|
  if (r24.1 6 (ix_ i0)) = (0 : Int32) then (some (r24.1, (-1 : Int32)))
  else (if i0 = (0 : Int32) then (bn_ (fX8_copies (sb_ r24.1 4) (sb_ r24.1 1)) fun r36 =>
  bd_ (mg_ r24.1 1 1 r36) fun s40 =>
  gd_ (ib_ (16 : Int32) 12584) <|
  some (s40, (s40 1 (ix_ (16 : Int32)))))
  else (bn_ (fX8_copies (sb_ r24.1 5) (sb_ r24.1 1)) fun r29 =>
  bd_ (mg_ r24.1 1 1 r29) fun s33 =>
  gd_ (ib_ (16 : Int32) 12584) <|
  some (s33, (s33 1 (ix_ (16 : Int32)))))))
  else (some (r24.1, (0 : Int32))))
  else (bn_ (fX8_wrong s (0 : Int32)) fun r5 =>
  if r5.2 = (0 : Int32) then (gd_ (ib_ i0 2) <|
  if (r5.1 6 (ix_ i0)) = (0 : Int32) then (some (r5.1, (-1 : Int32)))
  else (if i0 = (0 : Int32) then (bn_ (fX8_copies (sb_ r5.1 4) (sb_ r5.1 1)) fun r17 =>
  bd_ (mg_ r5.1 1 1 r17) fun s21 =>
  gd_ (ib_ (16 : Int32) 12584) <|
  some (s21, (s21 1 (ix_ (16 : Int32)))))
  else (bn_ (fX8_copies (sb_ r5.1 5) (sb_ r5.1 1)) fun r10 =>
  bd_ (mg_ r5.1 1 1 r10) fun s14 =>
  gd_ (ib_ (16 : Int32) 12584) <|
  some (s14, (s14 1 (ix_ (16 : Int32)))))))
  else (some (r5.1, (0 : Int32))))
