/-! the mirrors of the class: as in the proof of the whole -/
def fX5_becomeDefault (s : st_) : Option (st_) :=
  bd_ (pt_ s 0 0 (10 : Int32)) fun s1 =>
  bd_ (pt_ s1 0 1 (0 : Int32)) fun s5 =>
  bd_ (pt_ s5 0 2 (0 : Int32)) fun s9 =>
  bd_ (pt_ s9 0 3 (1 : Int32)) fun s13 =>
  bd_ (pt_ s13 0 4 (0 : Int32)) fun s17 =>
  bd_ (pt_ s17 0 7 (2 : Int32)) fun s21 =>
  bd_ (pt_ s21 0 8 (0 : Int32)) fun s25 =>
  bd_ (pt_ s25 0 9 (100 : Int32)) fun s29 =>
  bd_ (pt_ s29 0 10 (1 : Int32)) fun s33 =>
  bd_ (pt_ s33 0 11 (0 : Int32)) fun s37 =>
  bd_ (pt_ s37 0 12 (0 : Int32)) fun s41 =>
  bd_ (pt_ s41 0 14 (-1 : Int32)) fun s45 =>
  bd_ (pt_ s45 0 15 (-1 : Int32)) fun s49 =>
  bd_ (pt_ s49 0 16 (-1 : Int32)) fun s53 =>
  bd_ (pt_ s53 0 17 (-1 : Int32)) fun s57 =>
  bd_ (pt_ s57 0 18 (-1 : Int32)) fun s61 =>
  some s61
def fX5_putRule (s : st_) (i0 : Int32) (i1 : Int32) : Option (st_) :=
  if (6 : Int32) ≤ (s 0 4) then (some s)
  else (gd_ (ib_ (s 0 4) 6) <|
  bd_ (pt_ s 1 (ix_ (s 0 4)) i0) fun s2 =>
  gd_ (ib_ (s2 0 4) 6) <|
  bd_ (pt_ s2 2 (ix_ (s2 0 4)) i1) fun s7 =>
  bd_ (pt_ s7 0 4 ((s7 0 4) + (1 : Int32))) fun s11 =>
  some s11)
def fX5_completeRules (s : st_) : Option (st_) :=
  if (s 0 4) = (0 : Int32) then (bn_ (fX5_putRule s (0 : Int32) (-1 : Int32)) fun r1 =>
  some r1)
  else (some s)
def fX5_copyFrom (s : st_) (t : st_) : Option (st_) :=
  bd_ (pt_ s 0 0 (t 0 0)) fun s1 =>
  bd_ (pt_ s1 0 1 (t 0 1)) fun s5 =>
  bd_ (pt_ s5 0 2 (t 0 2)) fun s9 =>
  bd_ (pt_ s9 0 3 (t 0 3)) fun s13 =>
  bd_ (pt_ s13 0 4 (t 0 4)) fun s17 =>
  bd_ (rw_ s17 1 (va_cpy (t 1) (s17 1) 0 0 6)) fun s21 =>
  bd_ (rw_ s21 2 (va_cpy (t 2) (s21 2) 0 0 6)) fun s25 =>
  bd_ (pt_ s25 0 7 (t 0 7)) fun s29 =>
  bd_ (pt_ s29 0 8 (t 0 8)) fun s33 =>
  bd_ (pt_ s33 0 9 (t 0 9)) fun s37 =>
  bd_ (pt_ s37 0 10 (t 0 10)) fun s41 =>
  bd_ (pt_ s41 0 11 (t 0 11)) fun s45 =>
  bd_ (pt_ s45 0 12 (t 0 12)) fun s49 =>
  bd_ (rw_ s49 3 (va_cpy (t 3) (s49 3) 0 0 16)) fun s53 =>
  bd_ (pt_ s53 0 14 (t 0 14)) fun s57 =>
  bd_ (pt_ s57 0 15 (t 0 15)) fun s61 =>
  bd_ (pt_ s61 0 16 (t 0 16)) fun s65 =>
  bd_ (pt_ s65 0 17 (t 0 17)) fun s69 =>
  bd_ (pt_ s69 0 18 (t 0 18)) fun s73 =>
  some s73
def fX5_putAsk (s : st_) (i0 : Int32) : Option (st_) :=
  if (16 : Int32) ≤ (s 0 12) then (some s)
  else (gd_ (ib_ (s 0 12) 16) <|
  bd_ (pt_ s 3 (ix_ (s 0 12)) i0) fun s2 =>
  bd_ (pt_ s2 0 12 ((s2 0 12) + (1 : Int32))) fun s6 =>
  some s6)
def fX5_takeMaster_j16 (s1 : st_) (z1_j16 : Int32) : Option (st_) :=
  bd_ (pt_ s1 0 8 z1_j16) fun s5 =>
  some s5
def fX5_takeMaster (s : st_) (i0 : Int32) (i1 : Int32) : Option (st_) :=
  bd_ (pt_ s 0 7 i0) fun s1 =>
  if i0 = (2 : Int32) then (fX5_takeMaster_j16 s1 i1)
  else (fX5_takeMaster_j16 s1 (-1 : Int32))
def fX5_hasRival (s : st_) : Option (Int32) :=
  if (s 0 14) = (-1 : Int32) then (some (0 : Int32))
  else (some (1 : Int32))
def fX5_hasRule_j16 : Option (Int32) :=
  some (0 : Int32)
def fX5_hasRule (s : st_) (i0 : Int32) : Option (Int32) :=
  if i0 < (0 : Int32) then (fX5_hasRule_j16)
  else (if (s 0 4) ≤ i0 then (fX5_hasRule_j16)
  else (some (1 : Int32)))
def fX5_kindOf (s : st_) (i0 : Int32) : Option (Int32) :=
  bn_ (fX5_hasRule s i0) fun r1 =>
  if r1 = (0 : Int32) then (some (0 : Int32))
  else (gd_ (ib_ i0 6) <|
  some (s 1 (ix_ i0)))
def fX5_widthOf (s : st_) (i0 : Int32) : Option (Int32) :=
  bn_ (fX5_hasRule s i0) fun r1 =>
  if r1 = (0 : Int32) then (some (-1 : Int32))
  else (gd_ (ib_ i0 6) <|
  some (s 2 (ix_ i0)))
def fX5_askAt_j21 : Option (Int32) :=
  some (-1 : Int32)
def fX5_askAt (s : st_) (i0 : Int32) : Option (Int32) :=
  if i0 < (0 : Int32) then (fX5_askAt_j21)
  else (if (s 0 12) ≤ i0 then (fX5_askAt_j21)
  else (gd_ (ib_ i0 16) <|
  some (s 3 (ix_ i0))))
def fX5_priceOf_j31 (s : st_) (z2_j31 : Int32) : Option (Int32) :=
  some ((s 0 2) + ((s 0 3) * z2_j31))
def fX5_priceOf (s : st_) (i0 : Int32) (i1 : Int32) : Option (Int32) :=
  if i0 = i1 then (some (0 : Int32))
  else (if i1 ≤ i0 then (fX5_priceOf_j31 s (i0 - i1))
  else (fX5_priceOf_j31 s (i1 - i0)))
def fX5_boundBehind_x13_37 (s : st_) (v2_x13_37 : Int32) : Option (Int32) :=
  some ((s 0 17) + ((s 0 18) * v2_x13_37))
def fX5_boundBehind_k13 (s : st_) (x : Int32) : Option (Int32) :=
  fX5_boundBehind_x13_37 s x
def fX5_boundBehind_b13 (i0 : Int32) (v2_b13 : Int32) : Option ((Int32) ⊕ (Int32)) :=
  if (1000 : Int32) ≤ v2_b13 then (some (.inr v2_b13))
  else (if i0 < ((v2_b13 + (1 : Int32)) * (v2_b13 + (1 : Int32))) then (some (.inr v2_b13))
  else (some (.inl (v2_b13 + (1 : Int32)))))
def fX5_boundBehind_l13 (i0 : Int32) : Nat → Int32 → Option (Int32) :=
  it_ (fun v => fX5_boundBehind_b13 i0 v)
def fX5_boundBehind (s : st_) (i0 : Int32) : Option (Int32) :=
  if (s 0 17) = (-1 : Int32) then (some (-2000000000 : Int32))
  else (bn_ (fX5_boundBehind_l13 i0 FU_ (0 : Int32)) (fX5_boundBehind_k13 s))
def fX0_begin (s : st_) (i0 : Int32) : Option (st_) :=
  bd_ (pt_ s 0 0 i0) fun s1 =>
  bd_ (pt_ s1 0 1 (1 : Int32)) fun s5 =>
  bd_ (pt_ s5 0 2 (0 : Int32)) fun s9 =>
  bd_ (pt_ s9 0 5 (0 : Int32)) fun s13 =>
  bd_ (pt_ s13 0 6 (0 : Int32)) fun s17 =>
  bd_ (pt_ s17 0 7 (0 : Int32)) fun s21 =>
  bd_ (pt_ s21 0 8 (0 : Int32)) fun s25 =>
  bd_ (pt_ s25 0 9 (0 : Int32)) fun s29 =>
  bd_ (pt_ s29 0 10 (-1 : Int32)) fun s33 =>
  bd_ (pt_ s33 0 11 (-1 : Int32)) fun s37 =>
  some s37
def fX0_copyFrom (s : st_) (t : st_) : Option (st_) :=
  bd_ (pt_ s 0 0 (t 0 0)) fun s1 =>
  gd_ (bz_ (t 0 1)) <|
  bd_ (pt_ s1 0 1 (t 0 1)) fun s5 =>
  bd_ (pt_ s5 0 2 (t 0 2)) fun s10 =>
  bd_ (rw_ s10 1 (va_cpy (t 1) (s10 1) 0 0 20)) fun s14 =>
  bd_ (rw_ s14 2 (va_cpy (t 2) (s14 2) 0 0 20)) fun s18 =>
  bd_ (pt_ s18 0 5 (t 0 5)) fun s22 =>
  bd_ (pt_ s22 0 6 (t 0 6)) fun s26 =>
  bd_ (pt_ s26 0 7 (t 0 7)) fun s30 =>
  bd_ (pt_ s30 0 8 (t 0 8)) fun s34 =>
  bd_ (pt_ s34 0 9 (t 0 9)) fun s38 =>
  bd_ (pt_ s38 0 10 (t 0 10)) fun s42 =>
  bd_ (pt_ s42 0 11 (t 0 11)) fun s46 =>
  some s46
def fX0_receive (s : st_) (i0 : Int32) (i1 : Int32) : Option (st_) :=
  if (20 : Int32) ≤ (s 0 2) then (some s)
  else (gd_ (ib_ (s 0 2) 20) <|
  bd_ (pt_ s 1 (ix_ (s 0 2)) i0) fun s2 =>
  gd_ (ib_ (s2 0 2) 20) <|
  bd_ (pt_ s2 2 (ix_ (s2 0 2)) i1) fun s7 =>
  bd_ (pt_ s7 0 2 ((s7 0 2) + (1 : Int32))) fun s11 =>
  some s11)
def fX0_rankOf_j98 (z0_j21 : Int32) : Option (Int32) :=
  some (z0_j21 + (1000 : Int32))
def fX0_rankOf_j94 (z0_j21 : Int32) : Option (Int32) :=
  some (z0_j21 + (0 : Int32))
def fX0_rankOf_j21 (s : st_) (i0 : Int32) (i1 : Int32) (i2 : Int32) (z0_j21 : Int32) : Option (Int32) :=
  if i0 = (1 : Int32) then (if (i2 - (s 0 0)) ≤ (0 : Int32) then (some (((2 : Int32) * z0_j21) + (0 : Int32)))
  else (some (((2 : Int32) * z0_j21) + (1 : Int32))))
  else (if i0 = (2 : Int32) then (if (s 0 1) = (0 : Int32) then (if (0 : Int32) < (i2 - (s 0 0)) then (fX0_rankOf_j98 z0_j21)
  else (fX0_rankOf_j94 z0_j21))
  else (if (i2 - (s 0 0)) < (0 : Int32) then (fX0_rankOf_j98 z0_j21)
  else (fX0_rankOf_j94 z0_j21)))
  else (if i0 = (3 : Int32) then (if (i2 - (s 0 0)) < (0 : Int32) then (some ((1000 : Int32) + i2))
  else (some (i2 - (s 0 0))))
  else (if i0 = (4 : Int32) then (if i1 < z0_j21 then (some (1000 : Int32))
  else (some (0 : Int32)))
  else (some (0 : Int32)))))
def fX0_rankOf (s : st_) (i0 : Int32) (i1 : Int32) (i2 : Int32) : Option (Int32) :=
  if (0 : Int32) ≤ (i2 - (s 0 0)) then (fX0_rankOf_j21 s i0 i1 i2 (i2 - (s 0 0)))
  else (fX0_rankOf_j21 s i0 i1 i2 (-(i2 - (s 0 0))))
def fX0_choose_x8_57 (v3_x8_57 : Int32) : Option (Int32) :=
  some v3_x8_57
def fX0_choose_k8 (x : Int32) : Option (Int32) :=
  fX0_choose_x8_57 x
def fX0_choose_j51 (v5_b8 : Int32) (v3_j51 : Int32) (v4_j51 : Int32) : Option ((Int32 × Int32 × Int32) ⊕ (Int32)) :=
  some (.inl (v3_j51, v4_j51, (v5_b8 + (1 : Int32))))
def fX0_choose_j44 (v5_b8 : Int32) (r2 : Int32) : Option ((Int32 × Int32 × Int32) ⊕ (Int32)) :=
  fX0_choose_j51 v5_b8 v5_b8 r2
def fX0_choose_b8 (s : st_) (i0 : Int32) (i1 : Int32) (v3_b8 : Int32) (v4_b8 : Int32) (v5_b8 : Int32) : Option ((Int32 × Int32 × Int32) ⊕ (Int32)) :=
  if (s 0 2) ≤ v5_b8 then (some (.inr v3_b8))
  else (gd_ (ib_ v5_b8 20) <|
  bn_ (fX0_rankOf s i0 i1 (s 1 (ix_ v5_b8))) fun r2 =>
  if v3_b8 = (-1 : Int32) then (fX0_choose_j44 v5_b8 r2)
  else (if v4_b8 ≤ r2 then (fX0_choose_j51 v5_b8 v3_b8 v4_b8)
  else (fX0_choose_j44 v5_b8 r2)))
def fX0_choose_l8 (s : st_) (i0 : Int32) (i1 : Int32) : Nat → (Int32 × Int32 × Int32) → Option (Int32) :=
  it_ (fun v => fX0_choose_b8 s i0 i1 v.1 v.2.1 v.2.2)
def fX0_choose (s : st_) (i0 : Int32) (i1 : Int32) : Option (Int32) :=
  bn_ (fX0_choose_l8 s i0 i1 FU_ ((-1 : Int32), (0 : Int32), (0 : Int32))) (fX0_choose_k8)
def fX0_costBy (s : st_) (t : st_) (i0 : Int32) : Option (Int32) :=
  bn_ (fX5_kindOf t i0) fun r1 =>
  bn_ (fX5_widthOf t i0) fun r5 =>
  bn_ (fX0_choose s r1 r5) fun r9 =>
  if r9 = (-1 : Int32) then (some (0 : Int32))
  else (gd_ (ib_ r9 20) <|
  bn_ (fX5_priceOf t (s 0 0) (s 1 (ix_ r9))) fun r14 =>
  some r14)
def fX0_remove_x2_46 (s_x2_46 : st_) : Option (st_) :=
  bd_ (pt_ s_x2_46 0 2 ((s_x2_46 0 2) - (1 : Int32))) fun s1 =>
  some s1
def fX0_remove_k2 (x : st_) : Option (st_) :=
  fX0_remove_x2_46 x
def fX0_remove_b2 (v2_b2 : Int32) (s_b2 : st_) : Option ((Int32 × st_) ⊕ (st_)) :=
  if (s_b2 0 2) ≤ (v2_b2 + (1 : Int32)) then (some (.inr s_b2))
  else (gd_ (ib_ (v2_b2 + (1 : Int32)) 20) <|
  gd_ (ib_ v2_b2 20) <|
  bd_ (pt_ s_b2 1 (ix_ v2_b2) (s_b2 1 (ix_ (v2_b2 + (1 : Int32))))) fun s7 =>
  gd_ (ib_ (v2_b2 + (1 : Int32)) 20) <|
  gd_ (ib_ v2_b2 20) <|
  bd_ (pt_ s7 2 (ix_ v2_b2) (s7 2 (ix_ (v2_b2 + (1 : Int32))))) fun s13 =>
  some (.inl ((v2_b2 + (1 : Int32)), s13)))
def fX0_remove_l2 : Nat → (Int32 × st_) → Option (st_) :=
  it_ (fun v => fX0_remove_b2 v.1 v.2)
def fX0_remove (s : st_) (i0 : Int32) : Option (st_) :=
  bn_ (fX0_remove_l2 FU_ (i0, s)) (fX0_remove_k2)
def fX0_serve_j108 (t : st_) (i1 : Int32) (r9 : Int32) (s_j108 : st_) : Option (st_) :=
  bn_ (fX5_priceOf t (s_j108 0 0) (s_j108 0 10)) fun r35 =>
  bd_ (pt_ s_j108 0 9 r35) fun s39 =>
  bd_ (pt_ s39 0 5 ((s39 0 5) + (s39 0 9))) fun s43 =>
  bd_ (pt_ s43 0 6 ((s43 0 6) + (if (0 : Int32) ≤ ((s43 0 10) - (s43 0 0)) then ((s43 0 10) - (s43 0 0)) else (0 : Int32) - ((s43 0 10) - (s43 0 0))))) fun s47 =>
  bd_ (pt_ s47 0 7 (if (s47 0 7) < (i1 - (s47 0 11)) then (i1 - (s47 0 11)) else (s47 0 7))) fun s51 =>
  bd_ (pt_ s51 0 8 ((s51 0 8) + (1 : Int32))) fun s55 =>
  bd_ (pt_ s55 0 0 (s55 0 10)) fun s59 =>
  bn_ (fX0_remove s59 r9) fun r63 =>
  some r63
def fX0_serve_j105 (t : st_) (i1 : Int32) (r9 : Int32) (s31 : st_) (z1_j105 : Int32) : Option (st_) :=
  gd_ (bz_ z1_j105) <|
  bd_ (pt_ s31 0 1 z1_j105) fun s71 =>
  fX0_serve_j108 t i1 r9 s71
def fX0_serve (s : st_) (t : st_) (i0 : Int32) (i1 : Int32) : Option (st_) :=
  bn_ (fX5_kindOf t i0) fun r1 =>
  bn_ (fX5_widthOf t i0) fun r5 =>
  bn_ (fX0_choose s r1 r5) fun r9 =>
  bd_ (pt_ s 0 9 (0 : Int32)) fun s13 =>
  bd_ (pt_ s13 0 10 (-1 : Int32)) fun s17 =>
  bd_ (pt_ s17 0 11 (-1 : Int32)) fun s21 =>
  if r9 = (-1 : Int32) then (some s21)
  else (gd_ (ib_ r9 20) <|
  bd_ (pt_ s21 0 10 (s21 1 (ix_ r9))) fun s26 =>
  gd_ (ib_ r9 20) <|
  bd_ (pt_ s26 0 11 (s26 2 (ix_ r9))) fun s31 =>
  if r1 = (2 : Int32) then (bn_ (fX0_rankOf s31 r1 r5 (s31 0 10)) fun r67 =>
  if r67 < (1000 : Int32) then (fX0_serve_j108 t i1 r9 s31)
  else (if (s31 0 1) = (0 : Int32) then (fX0_serve_j105 t i1 r9 s31 (1 : Int32))
  else (fX0_serve_j105 t i1 r9 s31 (0 : Int32))))
  else (fX0_serve_j108 t i1 r9 s31))
def fX0_foresee_x83_156 (u_x83_156 : st_) : Option (st_) :=
  some u_x83_156
def fX0_foresee_k83 (x : st_) : Option (st_) :=
  fX0_foresee_x83_156 x
def fX0_foresee_j148 (s : st_) (v9_b83 : Int32) (u_b83 : st_) (z3_j148 : Int32) : Option ((Int32 × st_) ⊕ (st_)) :=
  gd_ (ib_ v9_b83 100) <|
  bd_ (pt_ u_b83 0 (ix_ v9_b83) ((s 0 5) + z3_j148)) fun u18 =>
  some (.inl ((v9_b83 + (1 : Int32)), u18))
def fX0_foresee_j119 (s : st_) (t : st_) (z0_j78 : Int32) (v9_b83 : Int32) (u_b83 : st_) (z0_j119 : Int32) : Option ((Int32 × st_) ⊕ (st_)) :=
  if z0_j119 = (0 : Int32) then (fX0_foresee_j148 s v9_b83 u_b83 z0_j78)
  else (bn_ (fX5_priceOf t (s 0 0) v9_b83) fun r22 =>
  fX0_foresee_j148 s v9_b83 u_b83 r22)
def fX0_foresee_b83 (s : st_) (t : st_) (r1 : Int32) (r5 : Int32) (z0_j51 : Int32) (z0_j78 : Int32) (v9_b83 : Int32) (u_b83 : st_) : Option ((Int32 × st_) ⊕ (st_)) :=
  if (t 0 0) ≤ v9_b83 then (some (.inr u_b83))
  else (if (100 : Int32) ≤ v9_b83 then (some (.inr u_b83))
  else (bn_ (fX0_rankOf s r1 r5 v9_b83) fun r13 =>
  if z0_j51 ≤ r13 then (fX0_foresee_j119 s t z0_j78 v9_b83 u_b83 (0 : Int32))
  else (fX0_foresee_j119 s t z0_j78 v9_b83 u_b83 (1 : Int32))))
def fX0_foresee_l83 (s : st_) (t : st_) (r1 : Int32) (r5 : Int32) (z0_j51 : Int32) (z0_j78 : Int32) : Nat → (Int32 × st_) → Option (st_) :=
  it_ (fun v => fX0_foresee_b83 s t r1 r5 z0_j51 z0_j78 v.1 v.2)
def fX0_foresee_j78 (s : st_) (t : st_) (u : st_) (r1 : Int32) (r5 : Int32) (z0_j51 : Int32) (z0_j78 : Int32) : Option (st_) :=
  bn_ (fX0_foresee_l83 s t r1 r5 z0_j51 z0_j78 FU_ ((0 : Int32), u)) (fX0_foresee_k83)
def fX0_foresee_j51 (s : st_) (t : st_) (u : st_) (r1 : Int32) (r5 : Int32) (r9 : Int32) (z0_j51 : Int32) : Option (st_) :=
  if r9 = (-1 : Int32) then (fX0_foresee_j78 s t u r1 r5 z0_j51 (0 : Int32))
  else (gd_ (ib_ r9 20) <|
  bn_ (fX5_priceOf t (s 0 0) (s 1 (ix_ r9))) fun r27 =>
  fX0_foresee_j78 s t u r1 r5 z0_j51 r27)
def fX0_foresee (s : st_) (t : st_) (u : st_) (i0 : Int32) : Option (st_) :=
  bn_ (fX5_kindOf t i0) fun r1 =>
  bn_ (fX5_widthOf t i0) fun r5 =>
  bn_ (fX0_choose s r1 r5) fun r9 =>
  if r9 = (-1 : Int32) then (fX0_foresee_j51 s t u r1 r5 r9 (10000 : Int32))
  else (gd_ (ib_ r9 20) <|
  bn_ (fX0_rankOf s r1 r5 (s 1 (ix_ r9))) fun r32 =>
  fX0_foresee_j51 s t u r1 r5 r9 r32)
def fX1_resetWeights_x2_25 (s_x2_25 : st_) : Option (st_) :=
  some s_x2_25
def fX1_resetWeights_k2 (x : st_) : Option (st_) :=
  fX1_resetWeights_x2_25 x
def fX1_resetWeights_b2 (v1_b2 : Int32) (s_b2 : st_) : Option ((Int32 × st_) ⊕ (st_)) :=
  if (6 : Int32) ≤ v1_b2 then (some (.inr s_b2))
  else (gd_ (ib_ v1_b2 6) <|
  bd_ (pt_ s_b2 12 (ix_ v1_b2) (1000000 : Int32)) fun s2 =>
  some (.inl ((v1_b2 + (1 : Int32)), s2)))
def fX1_resetWeights_l2 : Nat → (Int32 × st_) → Option (st_) :=
  it_ (fun v => fX1_resetWeights_b2 v.1 v.2)
def fX1_resetWeights (s : st_) : Option (st_) :=
  bn_ (fX1_resetWeights_l2 FU_ ((0 : Int32), s)) (fX1_resetWeights_k2)
def fX1_begin_x38_69 (s_x38_69 : st_) : Option (st_) :=
  bn_ (fX1_resetWeights s_x38_69) fun r19 =>
  bd_ (pt_ r19 0 7 (r19 1 10)) fun s23 =>
  bd_ (pt_ s23 0 8 (s23 1 10)) fun s27 =>
  bd_ (pt_ s27 0 9 (0 : Int32)) fun s31 =>
  bd_ (pt_ s31 0 10 (-1 : Int32)) fun s35 =>
  bd_ (pt_ s35 0 11 (0 : Int32)) fun s39 =>
  bd_ (pt_ s39 0 12 (-1 : Int32)) fun s43 =>
  bd_ (pt_ s43 0 13 (-1 : Int32)) fun s47 =>
  some s47
def fX1_begin_k38 (x : st_) : Option (st_) :=
  fX1_begin_x38_69 x
def fX1_begin_b38 (v2_b38 : Int32) (s_b38 : st_) : Option ((Int32 × st_) ⊕ (st_)) :=
  if (6 : Int32) ≤ v2_b38 then (some (.inr s_b38))
  else (gd_ (ib_ v2_b38 6) <|
  bn_ (fX0_begin (sb_ s_b38 (3 * ix_ v2_b38 + 15)) (s_b38 1 1)) fun r52 =>
  bd_ (mg_ s_b38 (3 * ix_ v2_b38 + 15) 3 r52) fun s57 =>
  some (.inl ((v2_b38 + (1 : Int32)), s57)))
def fX1_begin_l38 : Nat → (Int32 × st_) → Option (st_) :=
  it_ (fun v => fX1_begin_b38 v.1 v.2)
def fX1_begin (s : st_) (t : st_) : Option (st_) :=
  bn_ (fX5_copyFrom (sb_ s 1) t) fun r1 =>
  bd_ (mg_ s 1 4 r1) fun s5 =>
  bn_ (fX0_begin (sb_ s5 5) (s5 1 1)) fun r7 =>
  bd_ (mg_ s5 5 3 r7) fun s11 =>
  bn_ (fX0_begin (sb_ s11 8) (s11 1 1)) fun r13 =>
  bd_ (mg_ s11 8 3 r13) fun s17 =>
  bn_ (fX1_begin_l38 FU_ ((0 : Int32), s17)) (fX1_begin_k38)
def fX1_copyFrom_x35_65 (t : st_) (s_x35_65 : st_) : Option (st_) :=
  bd_ (rw_ s_x35_65 12 (va_cpy (t 12) (s_x35_65 12) 0 0 6)) fun s19 =>
  bd_ (pt_ s19 0 7 (t 0 7)) fun s23 =>
  bd_ (pt_ s23 0 8 (t 0 8)) fun s27 =>
  bd_ (pt_ s27 0 9 (t 0 9)) fun s31 =>
  bd_ (pt_ s31 0 10 (t 0 10)) fun s35 =>
  bd_ (pt_ s35 0 11 (t 0 11)) fun s39 =>
  bd_ (pt_ s39 0 12 (t 0 12)) fun s43 =>
  bd_ (pt_ s43 0 13 (t 0 13)) fun s47 =>
  some s47
def fX1_copyFrom_k35 (t : st_) (x : st_) : Option (st_) :=
  fX1_copyFrom_x35_65 t x
def fX1_copyFrom_b35 (t : st_) (v2_b35 : Int32) (s_b35 : st_) : Option ((Int32 × st_) ⊕ (st_)) :=
  if (6 : Int32) ≤ v2_b35 then (some (.inr s_b35))
  else (gd_ (ib_ v2_b35 6) <|
  gd_ (ib_ v2_b35 6) <|
  bn_ (fX0_copyFrom (sb_ s_b35 (3 * ix_ v2_b35 + 15)) (sb_ t (3 * ix_ v2_b35 + 15))) fun r53 =>
  bd_ (mg_ s_b35 (3 * ix_ v2_b35 + 15) 3 r53) fun s59 =>
  some (.inl ((v2_b35 + (1 : Int32)), s59)))
def fX1_copyFrom_l35 (t : st_) : Nat → (Int32 × st_) → Option (st_) :=
  it_ (fun v => fX1_copyFrom_b35 t v.1 v.2)
def fX1_copyFrom (s : st_) (t : st_) : Option (st_) :=
  bn_ (fX5_copyFrom (sb_ s 1) (sb_ t 1)) fun r1 =>
  bd_ (mg_ s 1 4 r1) fun s5 =>
  bn_ (fX0_copyFrom (sb_ s5 5) (sb_ t 5)) fun r7 =>
  bd_ (mg_ s5 5 3 r7) fun s11 =>
  bn_ (fX0_copyFrom (sb_ s11 8) (sb_ t 8)) fun r13 =>
  bd_ (mg_ s11 8 3 r13) fun s17 =>
  bn_ (fX1_copyFrom_l35 t FU_ ((0 : Int32), s17)) (fX1_copyFrom_k35 t)
def fX1_takeBudget (s : st_) (i0 : Int32) : Option (st_) :=
  bd_ (pt_ s 1 16 i0) fun s1 =>
  bd_ (pt_ s1 0 11 (0 : Int32)) fun s5 =>
  some s5
def fX1_armOf (s : st_) (i0 : Int32) : Option (Nat) :=
  bn_ (fX5_hasRule (sb_ s 1) i0) fun r1 =>
  if r1 = (0 : Int32) then (some 5)
  else (gd_ (ib_ i0 6) <|
  some (3 * ix_ i0 + 15))
def fX1_isFull (s : st_) : Option (Int32) :=
  if (s 5 2) < (20 : Int32) then (some (0 : Int32))
  else (some (1 : Int32))
def fX1_addForAll_x14_45 (i0 : Int32) (s_x14_45 : st_) : Option (st_) :=
  bn_ (fX5_hasRival (sb_ s_x14_45 1)) fun r7 =>
  if r7 = (0 : Int32) then (some s_x14_45)
  else (bn_ (fX0_receive (sb_ s_x14_45 8) i0 (s_x14_45 0 9)) fun r11 =>
  bd_ (mg_ s_x14_45 8 3 r11) fun s15 =>
  some s15)
def fX1_addForAll_k14 (i0 : Int32) (x : st_) : Option (st_) :=
  fX1_addForAll_x14_45 i0 x
def fX1_addForAll_b14 (i0 : Int32) (v2_b14 : Int32) (s_b14 : st_) : Option ((Int32 × st_) ⊕ (st_)) :=
  if (s_b14 1 4) ≤ v2_b14 then (some (.inr s_b14))
  else (gd_ (ib_ v2_b14 6) <|
  bn_ (fX0_receive (sb_ s_b14 (3 * ix_ v2_b14 + 15)) i0 (s_b14 0 9)) fun r18 =>
  bd_ (mg_ s_b14 (3 * ix_ v2_b14 + 15) 3 r18) fun s23 =>
  some (.inl ((v2_b14 + (1 : Int32)), s23)))
def fX1_addForAll_l14 (i0 : Int32) : Nat → (Int32 × st_) → Option (st_) :=
  it_ (fun v => fX1_addForAll_b14 i0 v.1 v.2)
def fX1_addForAll (s : st_) (i0 : Int32) : Option (st_) :=
  bn_ (fX0_receive (sb_ s 5) i0 (s 0 9)) fun r1 =>
  bd_ (mg_ s 5 3 r1) fun s5 =>
  bn_ (fX1_addForAll_l14 i0 FU_ ((0 : Int32), s5)) (fX1_addForAll_k14 i0)
def fX1_foeNow_j50 (s : st_) : Option (Int32) :=
  some (s 1 11)
def fX1_foeNow_j30 (s : st_) (z0_j30 : Int32) : Option (Int32) :=
  if (s 1 11) = (5 : Int32) then (if z0_j30 = (0 : Int32) then (fX1_foeNow_j50 s)
  else (some (4 : Int32)))
  else (fX1_foeNow_j50 s)
def fX1_foeNow_j29 (s : st_) : Option (Int32) :=
  fX1_foeNow_j30 s (0 : Int32)
def fX1_foeNow (s : st_) : Option (Int32) :=
  if (s 1 16) = (-1 : Int32) then (fX1_foeNow_j29 s)
  else (if (s 0 11) < (s 1 16) then (fX1_foeNow_j29 s)
  else (fX1_foeNow_j30 s (1 : Int32)))
def fX1_addNextAsk_j37 (s : st_) (z1_j37 : Int32) : Option (st_) :=
  bd_ (pt_ s 0 10 z1_j37) fun s1 =>
  bn_ (fX5_askAt (sb_ s1 1) (s1 0 10)) fun r5 =>
  bn_ (fX1_addForAll s1 r5) fun r9 =>
  some r9
def fX1_addNextAsk (s : st_) : Option (st_) :=
  if (s 1 12) ≤ (0 : Int32) then (some s)
  else (if (s 1 12) ≤ ((s 0 10) + (1 : Int32)) then (fX1_addNextAsk_j37 s (0 : Int32))
  else (fX1_addNextAsk_j37 s ((s 0 10) + (1 : Int32))))
def fX1_seedBehind (i0 : Int32) : Option (Int32) :=
  some ((((1103 : Int32) * i0) + (12345 : Int32)) - (((1103 : Int32) * i0) + (12345 : Int32)) / (32768 : Int32) * (32768 : Int32))
def fX1_weightSum_x4_30 (v1_x4_30 : Int32) : Option (Int32) :=
  some v1_x4_30
def fX1_weightSum_k4 (x : Int32) : Option (Int32) :=
  fX1_weightSum_x4_30 x
def fX1_weightSum_b4 (s : st_) (v1_b4 : Int32) (v2_b4 : Int32) : Option ((Int32 × Int32) ⊕ (Int32)) :=
  if (s 1 4) ≤ v2_b4 then (some (.inr v1_b4))
  else (gd_ (ib_ v2_b4 6) <|
  some (.inl ((v1_b4 + (s 12 (ix_ v2_b4))), (v2_b4 + (1 : Int32)))))
def fX1_weightSum_l4 (s : st_) : Nat → (Int32 × Int32) → Option (Int32) :=
  it_ (fun v => fX1_weightSum_b4 s v.1 v.2)
def fX1_weightSum (s : st_) : Option (Int32) :=
  bn_ (fX1_weightSum_l4 s FU_ ((0 : Int32), (0 : Int32))) (fX1_weightSum_k4)
def fX1_ruleDrawn_x20_62 : Option (Int32) :=
  some (0 : Int32)
def fX1_ruleDrawn_x20_43 (v4_x20_43 : Int32) : Option (Int32) :=
  some v4_x20_43
def fX1_ruleDrawn_k20 (x : (Int32) ⊕ (Unit)) : Option (Int32) :=
  Sum.elim (fun z => fX1_ruleDrawn_x20_43 z) (fun z => fX1_ruleDrawn_x20_62) x
def fX1_ruleDrawn_b20 (s : st_) (v3_b20 : Int32) (v4_b20 : Int32) : Option ((Int32 × Int32) ⊕ ((Int32) ⊕ (Unit))) :=
  if (s 1 4) ≤ v4_b20 then (some (.inr (.inr ())))
  else (gd_ (ib_ v4_b20 6) <|
  if (s 12 (ix_ v4_b20)) ≤ v3_b20 then (gd_ (ib_ v4_b20 6) <|
  some (.inl ((v3_b20 - (s 12 (ix_ v4_b20))), (v4_b20 + (1 : Int32)))))
  else (some (.inr (.inl v4_b20))))
def fX1_ruleDrawn_l20 (s : st_) : Nat → (Int32 × Int32) → Option ((Int32) ⊕ (Unit)) :=
  it_ (fun v => fX1_ruleDrawn_b20 s v.1 v.2)
def fX1_ruleDrawn_j16 (s : st_) (z0_j16 : Int32) : Option (Int32) :=
  bn_ (fX1_ruleDrawn_l20 s FU_ (z0_j16, (0 : Int32))) (fX1_ruleDrawn_k20)
def fX1_ruleDrawn (s : st_) (i0 : Int32) : Option (Int32) :=
  bn_ (fX1_weightSum s) fun r1 =>
  if r1 ≤ (0 : Int32) then (fX1_ruleDrawn_j16 s (0 : Int32))
  else (gd_ (nz_ r1) <|
  fX1_ruleDrawn_j16 s (i0 - i0 / r1 * r1))
def fX1_cheapestRule_x4_44 (v1_x4_44 : Int32) : Option (Int32) :=
  some v1_x4_44
def fX1_cheapestRule_k4 (x : Int32) : Option (Int32) :=
  fX1_cheapestRule_x4_44 x
def fX1_cheapestRule_j38 (v2_b4 : Int32) (v1_j38 : Int32) : Option ((Int32 × Int32) ⊕ (Int32)) :=
  some (.inl (v1_j38, (v2_b4 + (1 : Int32))))
def fX1_cheapestRule_b4 (s : st_) (v1_b4 : Int32) (v2_b4 : Int32) : Option ((Int32 × Int32) ⊕ (Int32)) :=
  if (s 1 4) ≤ v2_b4 then (some (.inr v1_b4))
  else (gd_ (ib_ v2_b4 6) <|
  gd_ (ib_ v1_b4 6) <|
  if (s (3 * ix_ v1_b4 + 15) 5) ≤ (s (3 * ix_ v2_b4 + 15) 5) then (fX1_cheapestRule_j38 v2_b4 v1_b4)
  else (fX1_cheapestRule_j38 v2_b4 v2_b4))
def fX1_cheapestRule_l4 (s : st_) : Nat → (Int32 × Int32) → Option (Int32) :=
  it_ (fun v => fX1_cheapestRule_b4 s v.1 v.2)
def fX1_cheapestRule (s : st_) : Option (Int32) :=
  bn_ (fX1_cheapestRule_l4 s FU_ ((0 : Int32), (1 : Int32))) (fX1_cheapestRule_k4)
def fX1_ruleBy (s : st_) (i0 : Int32) (i1 : Int32) (i2 : Int32) : Option (Int32) :=
  if i0 = (0 : Int32) then (bn_ (fX1_ruleDrawn s i2) fun r9 =>
  some r9)
  else (if i0 = (1 : Int32) then (bn_ (fX1_cheapestRule s) fun r5 =>
  some r5)
  else (bn_ (fX5_hasRule (sb_ s 1) i1) fun r1 =>
  if r1 = (0 : Int32) then (some (0 : Int32))
  else (some i1)))
def fX1_comingRule (s : st_) : Option (Int32) :=
  bn_ (fX1_seedBehind (s 0 7)) fun r1 =>
  bn_ (fX1_ruleBy s (s 1 7) (s 1 8) r1) fun r5 =>
  some r5
def fX1_foreseeHurts_x108_144 (s_x108_144 : st_) : Option (st_) :=
  some s_x108_144
def fX1_foreseeHurts_k108 (x : st_) : Option (st_) :=
  fX1_foreseeHurts_x108_144 x
def fX1_foreseeHurts_b108 (v2_b108 : Int32) (s_b108 : st_) : Option ((Int32 × st_) ⊕ (st_)) :=
  if (s_b108 1 0) ≤ v2_b108 then (some (.inr s_b108))
  else (gd_ (ib_ v2_b108 100) <|
  gd_ (ib_ v2_b108 100) <|
  gd_ (ib_ v2_b108 100) <|
  bd_ (pt_ s_b108 13 (ix_ v2_b108) ((s_b108 14 (ix_ v2_b108)) - (s_b108 13 (ix_ v2_b108)))) fun s10 =>
  some (.inl ((v2_b108 + (1 : Int32)), s10)))
def fX1_foreseeHurts_l108 : Nat → (Int32 × st_) → Option (st_) :=
  it_ (fun v => fX1_foreseeHurts_b108 v.1 v.2)
def fX1_foreseeHurts_x2_90 (i0 : Int32) (s_x2_90 : st_) : Option (st_) :=
  bn_ (fX0_foresee (sb_ s_x2_90 5) (sb_ s_x2_90 1) (sb_ s_x2_90 14) i0) fun r1 =>
  bd_ (mg_ s_x2_90 14 1 r1) fun s5 =>
  bn_ (fX1_foreseeHurts_l108 FU_ ((0 : Int32), s5)) (fX1_foreseeHurts_k108)
def fX1_foreseeHurts_k2 (i0 : Int32) (x : st_) : Option (st_) :=
  fX1_foreseeHurts_x2_90 i0 x
def fX1_foreseeHurts_x33_84 (v2_b2 : Int32) (s_x33_84 : st_) : Option ((Int32 × st_) ⊕ (st_)) :=
  some (.inl ((v2_b2 + (1 : Int32)), s_x33_84))
def fX1_foreseeHurts_k33 (v2_b2 : Int32) (x : st_) : Option ((Int32 × st_) ⊕ (st_)) :=
  fX1_foreseeHurts_x33_84 v2_b2 x
def fX1_foreseeHurts_j77 (v3_b33 : Int32) (s_b33 : st_) (z2_j77 : Int32) : Option ((Int32 × st_) ⊕ (st_)) :=
  gd_ (ib_ v3_b33 100) <|
  bd_ (pt_ s_b33 13 (ix_ v3_b33) z2_j77) fun s23 =>
  some (.inl ((v3_b33 + (1 : Int32)), s23))
def fX1_foreseeHurts_b33 (v2_b2 : Int32) (v3_b33 : Int32) (s_b33 : st_) : Option ((Int32 × st_) ⊕ (st_)) :=
  if (s_b33 1 0) ≤ v3_b33 then (some (.inr s_b33))
  else (if v2_b2 = (0 : Int32) then (gd_ (ib_ v3_b33 100) <|
  fX1_foreseeHurts_j77 v3_b33 s_b33 (s_b33 14 (ix_ v3_b33)))
  else (gd_ (ib_ v3_b33 100) <|
  gd_ (ib_ v3_b33 100) <|
  fX1_foreseeHurts_j77 v3_b33 s_b33 (if (s_b33 14 (ix_ v3_b33)) < (s_b33 13 (ix_ v3_b33)) then (s_b33 14 (ix_ v3_b33)) else (s_b33 13 (ix_ v3_b33)))))
def fX1_foreseeHurts_l33 (v2_b2 : Int32) : Nat → (Int32 × st_) → Option (st_) :=
  it_ (fun v => fX1_foreseeHurts_b33 v2_b2 v.1 v.2)
def fX1_foreseeHurts_b2 (v2_b2 : Int32) (s_b2 : st_) : Option ((Int32 × st_) ⊕ (st_)) :=
  if (s_b2 1 4) ≤ v2_b2 then (some (.inr s_b2))
  else (gd_ (ib_ v2_b2 6) <|
  bn_ (fX0_foresee (sb_ s_b2 (3 * ix_ v2_b2 + 15)) (sb_ s_b2 1) (sb_ s_b2 14) v2_b2) fun r15 =>
  bd_ (mg_ s_b2 14 1 r15) fun s20 =>
  bn_ (fX1_foreseeHurts_l33 v2_b2 FU_ ((0 : Int32), s20)) (fX1_foreseeHurts_k33 v2_b2))
def fX1_foreseeHurts_l2 : Nat → (Int32 × st_) → Option (st_) :=
  it_ (fun v => fX1_foreseeHurts_b2 v.1 v.2)
def fX1_foreseeHurts (s : st_) (i0 : Int32) : Option (st_) :=
  bn_ (fX1_foreseeHurts_l2 FU_ ((0 : Int32), s)) (fX1_foreseeHurts_k2 i0)
def fX1_mostHurtful_x4_38 (v1_x4_38 : Int32) : Option (Int32) :=
  some v1_x4_38
def fX1_mostHurtful_k4 (x : Int32) : Option (Int32) :=
  fX1_mostHurtful_x4_38 x
def fX1_mostHurtful_j32 (v2_b4 : Int32) (v1_j32 : Int32) : Option ((Int32 × Int32) ⊕ (Int32)) :=
  some (.inl (v1_j32, (v2_b4 + (1 : Int32))))
def fX1_mostHurtful_b4 (s : st_) (v1_b4 : Int32) (v2_b4 : Int32) : Option ((Int32 × Int32) ⊕ (Int32)) :=
  if (s 1 0) ≤ v2_b4 then (some (.inr v1_b4))
  else (gd_ (ib_ v2_b4 100) <|
  gd_ (ib_ v1_b4 100) <|
  if (s 13 (ix_ v2_b4)) ≤ (s 13 (ix_ v1_b4)) then (fX1_mostHurtful_j32 v2_b4 v1_b4)
  else (fX1_mostHurtful_j32 v2_b4 v2_b4))
def fX1_mostHurtful_l4 (s : st_) : Nat → (Int32 × Int32) → Option (Int32) :=
  it_ (fun v => fX1_mostHurtful_b4 s v.1 v.2)
def fX1_mostHurtful (s : st_) : Option (Int32) :=
  bn_ (fX1_mostHurtful_l4 s FU_ ((0 : Int32), (1 : Int32))) (fX1_mostHurtful_k4)
def fX1_moveFoe_j81 (s : st_) (z1_j81 : Int32) : Option (st_) :=
  bn_ (fX1_addForAll s z1_j81) fun r9 =>
  some r9
def fX1_moveFoe_j118 (s : st_) (z1_j118 : Int32) : Option (st_) :=
  bn_ (fX1_addForAll s z1_j118) fun r17 =>
  some r17
def fX1_moveFoe (s : st_) : Option (st_) :=
  bn_ (fX1_isFull s) fun r1 =>
  if r1 = (0 : Int32) then (bn_ (fX1_foeNow s) fun r5 =>
  if r5 = (1 : Int32) then (if (s 5 0) < (((s 1 0) - (1 : Int32)) - (s 5 0)) then (fX1_moveFoe_j81 s ((s 1 0) - (1 : Int32)))
  else (fX1_moveFoe_j81 s (0 : Int32)))
  else (if r5 = (2 : Int32) then (bn_ (fX1_addForAll s (((s 1 0) - (1 : Int32)) - (s 5 0))) fun r13 =>
  some r13)
  else (if r5 = (3 : Int32) then (if ((s 0 9) - (s 0 9) / (2 : Int32) * (2 : Int32)) = (0 : Int32) then (fX1_moveFoe_j118 s ((s 1 0) - (1 : Int32)))
  else (fX1_moveFoe_j118 s (0 : Int32)))
  else (if r5 = (4 : Int32) then (bn_ (fX1_addNextAsk s) fun r21 =>
  some r21)
  else (if r5 = (5 : Int32) then (bn_ (fX1_comingRule s) fun r25 =>
  bn_ (fX1_foreseeHurts s r25) fun r29 =>
  bn_ (fX1_mostHurtful r29) fun r33 =>
  bn_ (fX1_addForAll r29 r33) fun r37 =>
  bd_ (pt_ r37 0 11 ((r37 0 11) + (1 : Int32))) fun s41 =>
  some s41)
  else (some s))))))
  else (some s)
def fX1_takeRules_j68 (s_j68 : st_) : Option (st_) :=
  bn_ (fX5_hasRival (sb_ s_j68 1)) fun r9 =>
  if r9 = (0 : Int32) then (some s_j68)
  else (bn_ (fX1_ruleBy s_j68 (s_j68 1 14) (s_j68 1 15) (s_j68 0 8)) fun r13 =>
  bd_ (pt_ s_j68 0 13 r13) fun s17 =>
  some s17)
def fX1_takeRules_j21 (s_j21 : st_) : Option (st_) :=
  bn_ (fX1_ruleBy s_j21 (s_j21 1 7) (s_j21 1 8) (s_j21 0 7)) fun r1 =>
  bd_ (pt_ s_j21 0 12 r1) fun s5 =>
  if (s5 1 14) = (0 : Int32) then (bn_ (fX1_seedBehind (s5 0 8)) fun r21 =>
  bd_ (pt_ s5 0 8 r21) fun s25 =>
  fX1_takeRules_j68 s25)
  else (fX1_takeRules_j68 s5)
def fX1_takeRules (s : st_) : Option (st_) :=
  if (s 1 7) = (0 : Int32) then (bn_ (fX1_seedBehind (s 0 7)) fun r29 =>
  bd_ (pt_ s 0 7 r29) fun s33 =>
  fX1_takeRules_j21 s33)
  else (fX1_takeRules_j21 s)
def fX1_loseWeights_x124_162 (s_x124_162 : st_) : Option (st_) :=
  some s_x124_162
def fX1_loseWeights_k124 (x : st_) : Option (st_) :=
  fX1_loseWeights_x124_162 x
def fX1_loseWeights_b124 (v3_x35_121 : Int32) (v4_b124 : Int32) (s_b124 : st_) : Option ((Int32 × st_) ⊕ (st_)) :=
  if (s_b124 1 4) ≤ v4_b124 then (some (.inr s_b124))
  else (if (1000 : Int32) ≤ v3_x35_121 then (some (.inr s_b124))
  else (gd_ (ib_ v4_b124 6) <|
  gd_ (ib_ v4_b124 6) <|
  bd_ (pt_ s_b124 12 (ix_ v4_b124) ((s_b124 12 (ix_ v4_b124)) * (1000 : Int32))) fun s7 =>
  some (.inl ((v4_b124 + (1 : Int32)), s7))))
def fX1_loseWeights_l124 (v3_x35_121 : Int32) : Nat → (Int32 × st_) → Option (st_) :=
  it_ (fun v => fX1_loseWeights_b124 v3_x35_121 v.1 v.2)
def fX1_loseWeights_x35_121 (v3_x35_121 : Int32) (s_x35_121 : st_) : Option (st_) :=
  bn_ (fX1_loseWeights_l124 v3_x35_121 FU_ ((0 : Int32), s_x35_121)) (fX1_loseWeights_k124)
def fX1_loseWeights_k35 (x : Int32 × st_) : Option (st_) :=
  fX1_loseWeights_x35_121 x.1 x.2
def fX1_loseWeights_b35 (r1 : Int32) (v3_b35 : Int32) (v4_b35 : Int32) (s_b35 : st_) : Option ((Int32 × Int32 × st_) ⊕ (Int32 × st_)) :=
  if (s_b35 1 4) ≤ v4_b35 then (some (.inr (v3_b35, s_b35)))
  else (gd_ (ib_ v4_b35 6) <|
  gd_ (ib_ v4_b35 6) <|
  gd_ (nzl_ ((1000 : Int64) * (Int32.toInt64 r1))) <|
  gd_ (ib_ v4_b35 6) <|
  gd_ (ib_ v4_b35 6) <|
  bd_ (pt_ s_b35 12 (ix_ v4_b35) (Int64.toInt32 (if ((Int32.toInt64 (s_b35 12 (ix_ v4_b35))) - ((((Int32.toInt64 (s_b35 12 (ix_ v4_b35))) * (Int32.toInt64 (s_b35 1 9))) * (Int32.toInt64 (s_b35 (3 * ix_ v4_b35 + 15) 9))) / ((1000 : Int64) * (Int32.toInt64 r1)))) < (1 : Int64) then (1 : Int64) else ((Int32.toInt64 (s_b35 12 (ix_ v4_b35))) - ((((Int32.toInt64 (s_b35 12 (ix_ v4_b35))) * (Int32.toInt64 (s_b35 1 9))) * (Int32.toInt64 (s_b35 (3 * ix_ v4_b35 + 15) 9))) / ((1000 : Int64) * (Int32.toInt64 r1))))))) fun s16 =>
  gd_ (ib_ v4_b35 6) <|
  some (.inl ((if v3_b35 < (s16 12 (ix_ v4_b35)) then (s16 12 (ix_ v4_b35)) else v3_b35), (v4_b35 + (1 : Int32)), s16)))
def fX1_loseWeights_l35 (r1 : Int32) : Nat → (Int32 × Int32 × st_) → Option (Int32 × st_) :=
  it_ (fun v => fX1_loseWeights_b35 r1 v.1 v.2.1 v.2.2)
def fX1_loseWeights (s : st_) : Option (st_) :=
  bn_ (fX5_priceOf (sb_ s 1) (0 : Int32) ((s 1 0) - (1 : Int32))) fun r1 =>
  if (0 : Int32) < (lg_cmp ((1000 : Int64) * (Int32.toInt64 r1)) (0 : Int64)) then (bn_ (fX1_loseWeights_l35 r1 FU_ ((0 : Int32), (0 : Int32), s)) (fX1_loseWeights_k35))
  else (some s)
def fX1_serveAll_j85 (s_j85 : st_) : Option (st_) :=
  bn_ (fX1_loseWeights s_j85) fun r11 =>
  bd_ (pt_ r11 0 9 ((r11 0 9) + (1 : Int32))) fun s15 =>
  some s15
def fX1_serveAll_x21_56 (s_x21_56 : st_) : Option (st_) :=
  bn_ (fX5_hasRival (sb_ s_x21_56 1)) fun r7 =>
  if r7 = (0 : Int32) then (fX1_serveAll_j85 s_x21_56)
  else (bn_ (fX0_serve (sb_ s_x21_56 8) (sb_ s_x21_56 1) (s_x21_56 0 13) (s_x21_56 0 9)) fun r19 =>
  bd_ (mg_ s_x21_56 8 3 r19) fun s23 =>
  fX1_serveAll_j85 s23)
def fX1_serveAll_k21 (x : st_) : Option (st_) :=
  fX1_serveAll_x21_56 x
def fX1_serveAll_b21 (v1_b21 : Int32) (s_b21 : st_) : Option ((Int32 × st_) ⊕ (st_)) :=
  if (s_b21 1 4) ≤ v1_b21 then (some (.inr s_b21))
  else (gd_ (ib_ v1_b21 6) <|
  bn_ (fX0_serve (sb_ s_b21 (3 * ix_ v1_b21 + 15)) (sb_ s_b21 1) v1_b21 (s_b21 0 9)) fun r26 =>
  bd_ (mg_ s_b21 (3 * ix_ v1_b21 + 15) 3 r26) fun s31 =>
  some (.inl ((v1_b21 + (1 : Int32)), s31)))
def fX1_serveAll_l21 : Nat → (Int32 × st_) → Option (st_) :=
  it_ (fun v => fX1_serveAll_b21 v.1 v.2)
def fX1_serveAll (s : st_) : Option (st_) :=
  bn_ (fX0_serve (sb_ s 5) (sb_ s 1) (s 0 12) (s 0 9)) fun r1 =>
  bd_ (mg_ s 5 3 r1) fun s5 =>
  bn_ (fX1_serveAll_l21 FU_ ((0 : Int32), s5)) (fX1_serveAll_k21)
def fX1_letPass_x2_25 (s_x2_25 : st_) : Option (st_) :=
  some s_x2_25
def fX1_letPass_k2 (x : st_) : Option (st_) :=
  fX1_letPass_x2_25 x
def fX1_letPass_b2 (i0 : Int32) (v2_b2 : Int32) (s_b2 : st_) : Option ((Int32 × st_) ⊕ (st_)) :=
  if i0 ≤ v2_b2 then (some (.inr s_b2))
  else (bn_ (fX1_moveFoe s_b2) fun r1 =>
  bn_ (fX1_takeRules r1) fun r5 =>
  bn_ (fX1_serveAll r5) fun r9 =>
  some (.inl ((v2_b2 + (1 : Int32)), r9)))
def fX1_letPass_l2 (i0 : Int32) : Nat → (Int32 × st_) → Option (st_) :=
  it_ (fun v => fX1_letPass_b2 i0 v.1 v.2)
def fX1_letPass (s : st_) (i0 : Int32) : Option (st_) :=
  bn_ (fX1_letPass_l2 i0 FU_ ((0 : Int32), s)) (fX1_letPass_k2)
def fX1_regretNow (s : st_) : Option (Int32) :=
  bn_ (fX1_cheapestRule s) fun r1 =>
  gd_ (ib_ r1 6) <|
  some ((s 5 5) - (s (3 * ix_ r1 + 15) 5))
def fX1_isBreach_j33 : Option (Int32) :=
  some (0 : Int32)
def fX1_isBreach (s : st_) : Option (Int32) :=
  if (s 1 17) = (-1 : Int32) then (fX1_isBreach_j33)
  else (bn_ (fX1_regretNow s) fun r1 =>
  bn_ (fX5_boundBehind (sb_ s 1) (s 0 9)) fun r5 =>
  if r1 ≤ r5 then (fX1_isBreach_j33)
  else (some (1 : Int32)))
def fX4_begin_x37_93 (s_x37_93 : st_) : Option (st_) :=
  some s_x37_93
def fX4_begin_k37 (x : st_) : Option (st_) :=
  fX4_begin_x37_93 x
def fX4_begin_x66_87 (v2_b37 : Int32) (s_x66_87 : st_) : Option ((Int32 × st_) ⊕ (st_)) :=
  some (.inl ((v2_b37 + (1 : Int32)), s_x66_87))
def fX4_begin_k66 (v2_b37 : Int32) (x : st_) : Option ((Int32 × st_) ⊕ (st_)) :=
  fX4_begin_x66_87 v2_b37 x
def fX4_begin_b66 (v2_b37 : Int32) (v3_b66 : Int32) (s_b66 : st_) : Option ((Int32 × st_) ⊕ (st_)) :=
  if (6 : Int32) ≤ v3_b66 then (some (.inr s_b66))
  else (gd_ (ib_ v2_b37 6) <|
  gd_ (ib_ v3_b66 6) <|
  bd_ (pt_ s_b66 (1 * ix_ v2_b37 + 14) (ix_ v3_b66) (0 : Int32)) fun s46 =>
  some (.inl ((v3_b66 + (1 : Int32)), s46)))
def fX4_begin_l66 (v2_b37 : Int32) : Nat → (Int32 × st_) → Option (st_) :=
  it_ (fun v => fX4_begin_b66 v2_b37 v.1 v.2)
def fX4_begin_b37 (v2_b37 : Int32) (s_b37 : st_) : Option ((Int32 × st_) ⊕ (st_)) :=
  if (6 : Int32) ≤ v2_b37 then (some (.inr s_b37))
  else (gd_ (ib_ v2_b37 6) <|
  bd_ (pt_ s_b37 10 (ix_ v2_b37) (0 : Int32)) fun s30 =>
  gd_ (ib_ v2_b37 6) <|
  bd_ (pt_ s30 11 (ix_ v2_b37) (0 : Int32)) fun s35 =>
  gd_ (ib_ v2_b37 6) <|
  bd_ (pt_ s35 12 (ix_ v2_b37) (0 : Int32)) fun s40 =>
  bn_ (fX4_begin_l66 v2_b37 FU_ ((0 : Int32), s40)) (fX4_begin_k66 v2_b37))
def fX4_begin_l37 : Nat → (Int32 × st_) → Option (st_) :=
  it_ (fun v => fX4_begin_b37 v.1 v.2)
def fX4_begin (s : st_) (i0 : Int32) : Option (st_) :=
  bd_ (pt_ s 0 0 i0) fun s1 =>
  bd_ (pt_ s1 0 1 (0 : Int32)) fun s5 =>
  bd_ (pt_ s5 0 9 (0 : Int32)) fun s9 =>
  bd_ (pt_ s9 0 10 (0 : Int32)) fun s13 =>
  bd_ (pt_ s13 0 11 (0 : Int32)) fun s17 =>
  bd_ (pt_ s17 0 12 (-1 : Int32)) fun s21 =>
  bd_ (pt_ s21 0 13 (0 : Int32)) fun s25 =>
  bn_ (fX4_begin_l37 FU_ ((0 : Int32), s25)) (fX4_begin_k37)
def fX4_copyFrom_x212_251 (s_x212_251 : st_) : Option (st_) :=
  some s_x212_251
def fX4_copyFrom_k212 (x : st_) : Option (st_) :=
  fX4_copyFrom_x212_251 x
def fX4_copyFrom_b212 (t : st_) (v2_b212 : Int32) (s_b212 : st_) : Option ((Int32 × st_) ⊕ (st_)) :=
  if (20 : Int32) ≤ v2_b212 then (some (.inr s_b212))
  else (gd_ (ib_ v2_b212 20) <|
  gd_ (ib_ v2_b212 20) <|
  gd_ (ib_ v2_b212 20) <|
  bd_ (rw_ s_b212 (1 * ix_ v2_b212 + 21) (va_cpy (t (1 * ix_ v2_b212 + 21)) (s_b212 (1 * ix_ v2_b212 + 21)) 0 0 5)) fun s48 =>
  some (.inl ((v2_b212 + (1 : Int32)), s48)))
def fX4_copyFrom_l212 (t : st_) : Nat → (Int32 × st_) → Option (st_) :=
  it_ (fun v => fX4_copyFrom_b212 t v.1 v.2)
def fX4_copyFrom_x171_210 (t : st_) (s_x171_210 : st_) : Option (st_) :=
  bn_ (fX4_copyFrom_l212 t FU_ ((0 : Int32), s_x171_210)) (fX4_copyFrom_k212)
def fX4_copyFrom_k171 (t : st_) (x : st_) : Option (st_) :=
  fX4_copyFrom_x171_210 t x
def fX4_copyFrom_b171 (t : st_) (v2_b171 : Int32) (s_b171 : st_) : Option ((Int32 × st_) ⊕ (st_)) :=
  if (6 : Int32) ≤ v2_b171 then (some (.inr s_b171))
  else (gd_ (ib_ v2_b171 6) <|
  gd_ (ib_ v2_b171 6) <|
  gd_ (ib_ v2_b171 6) <|
  bd_ (rw_ s_b171 (1 * ix_ v2_b171 + 14) (va_cpy (t (1 * ix_ v2_b171 + 14)) (s_b171 (1 * ix_ v2_b171 + 14)) 0 0 6)) fun s55 =>
  some (.inl ((v2_b171 + (1 : Int32)), s55)))
def fX4_copyFrom_l171 (t : st_) : Nat → (Int32 × st_) → Option (st_) :=
  it_ (fun v => fX4_copyFrom_b171 t v.1 v.2)
def fX4_copyFrom_x58_97 (t : st_) (s_x58_97 : st_) : Option (st_) :=
  bd_ (rw_ s_x58_97 9 (va_cpy (t 9) (s_x58_97 9) 0 0 1000)) fun s29 =>
  bd_ (rw_ s29 10 (va_cpy (t 10) (s29 10) 0 0 6)) fun s33 =>
  bd_ (rw_ s33 11 (va_cpy (t 11) (s33 11) 0 0 6)) fun s37 =>
  bd_ (rw_ s37 12 (va_cpy (t 12) (s37 12) 0 0 6)) fun s41 =>
  bn_ (fX4_copyFrom_l171 t FU_ ((0 : Int32), s41)) (fX4_copyFrom_k171 t)
def fX4_copyFrom_k58 (t : st_) (x : st_) : Option (st_) :=
  fX4_copyFrom_x58_97 t x
def fX4_copyFrom_b58 (t : st_) (v2_b58 : Int32) (s_b58 : st_) : Option ((Int32 × st_) ⊕ (st_)) :=
  if (7 : Int32) ≤ v2_b58 then (some (.inr s_b58))
  else (gd_ (ib_ v2_b58 7) <|
  gd_ (ib_ v2_b58 7) <|
  gd_ (ib_ v2_b58 7) <|
  bd_ (rw_ s_b58 (1 * ix_ v2_b58 + 2) (va_cpy (t (1 * ix_ v2_b58 + 2)) (s_b58 (1 * ix_ v2_b58 + 2)) 0 0 1001)) fun s62 =>
  some (.inl ((v2_b58 + (1 : Int32)), s62)))
def fX4_copyFrom_l58 (t : st_) : Nat → (Int32 × st_) → Option (st_) :=
  it_ (fun v => fX4_copyFrom_b58 t v.1 v.2)
def fX4_copyFrom (s : st_) (t : st_) : Option (st_) :=
  bd_ (pt_ s 0 0 (t 0 0)) fun s1 =>
  bd_ (pt_ s1 0 1 (t 0 1)) fun s5 =>
  bd_ (pt_ s5 0 9 (t 0 9)) fun s9 =>
  bd_ (pt_ s9 0 10 (t 0 10)) fun s13 =>
  bd_ (pt_ s13 0 11 (t 0 11)) fun s17 =>
  bd_ (pt_ s17 0 12 (t 0 12)) fun s21 =>
  bd_ (pt_ s21 0 13 (t 0 13)) fun s25 =>
  bn_ (fX4_copyFrom_l58 t FU_ ((0 : Int32), s25)) (fX4_copyFrom_k58 t)
def fX4_noteSwaps_x17_57 (s_x17_57 : st_) : Option (st_) :=
  some s_x17_57
def fX4_noteSwaps_k17 (x : st_) : Option (st_) :=
  fX4_noteSwaps_x17_57 x
def fX4_noteSwaps_b17 (t : st_) (v2_b17 : Int32) (s_b17 : st_) : Option ((Int32 × st_) ⊕ (st_)) :=
  if (s_b17 0 0) ≤ v2_b17 then (some (.inr s_b17))
  else (gd_ (ib_ (t 0 12) 6) <|
  gd_ (ib_ v2_b17 6) <|
  bn_ (fX0_costBy (sb_ t 5) (sb_ t 1) v2_b17) fun r7 =>
  gd_ (ib_ v2_b17 6) <|
  bd_ (pt_ s_b17 (1 * ix_ (t 0 12) + 14) (ix_ v2_b17) ((s_b17 (1 * ix_ (t 0 12) + 14) (ix_ v2_b17)) + r7)) fun s12 =>
  some (.inl ((v2_b17 + (1 : Int32)), s12)))
def fX4_noteSwaps_l17 (t : st_) : Nat → (Int32 × st_) → Option (st_) :=
  it_ (fun v => fX4_noteSwaps_b17 t v.1 v.2)
def fX4_noteSwaps (s : st_) (t : st_) : Option (st_) :=
  bn_ (fX5_hasRule (sb_ t 1) (t 0 12)) fun r1 =>
  if r1 = (0 : Int32) then (some s)
  else (bn_ (fX4_noteSwaps_l17 t FU_ ((0 : Int32), s)) (fX4_noteSwaps_k17))
def fX4_noteRegret_j51 (s_j25 : st_) (z1_j51 : Int32) : Option (st_) :=
  bd_ (pt_ s_j25 0 12 z1_j51) fun s9 =>
  bd_ (pt_ s9 0 10 ((s9 0 10) + (1 : Int32))) fun s13 =>
  some s13
def fX4_noteRegret_j25 (t : st_) (s_j25 : st_) : Option (st_) :=
  bn_ (fX1_isBreach t) fun r5 =>
  if r5 = (0 : Int32) then (some s_j25)
  else (if (s_j25 0 10) = (0 : Int32) then (fX4_noteRegret_j51 s_j25 (s_j25 0 1))
  else (fX4_noteRegret_j51 s_j25 (s_j25 0 12)))
def fX4_noteRegret_j20 (s : st_) (t : st_) (r1 : Int32) : Option (st_) :=
  bd_ (pt_ s 0 11 r1) fun s17 =>
  fX4_noteRegret_j25 t s17
def fX4_noteRegret (s : st_) (t : st_) : Option (st_) :=
  bn_ (fX1_regretNow t) fun r1 =>
  if (s 0 1) = (0 : Int32) then (fX4_noteRegret_j20 s t r1)
  else (if r1 ≤ (s 0 11) then (fX4_noteRegret_j25 t s)
  else (fX4_noteRegret_j20 s t r1))
def fX4_noteServed (s : st_) (t : st_) (i0 : Int32) : Option (st_) :=
  if (t 0 10) = (-1 : Int32) then (some s)
  else (gd_ (ib_ ((s 0 9) - (s 0 9) / (20 : Int32) * (20 : Int32)) 20) <|
  gd_ (ib_ (0 : Int32) 5) <|
  bd_ (pt_ s (1 * ix_ ((s 0 9) - (s 0 9) / (20 : Int32) * (20 : Int32)) + 21) (ix_ (0 : Int32)) (s 0 1)) fun s3 =>
  gd_ (ib_ (1 : Int32) 5) <|
  bd_ (pt_ s3 (1 * ix_ ((s 0 9) - (s 0 9) / (20 : Int32) * (20 : Int32)) + 21) (ix_ (1 : Int32)) (t 0 10)) fun s8 =>
  gd_ (ib_ (2 : Int32) 5) <|
  bd_ (pt_ s8 (1 * ix_ ((s 0 9) - (s 0 9) / (20 : Int32) * (20 : Int32)) + 21) (ix_ (2 : Int32)) (t 0 11)) fun s13 =>
  gd_ (ib_ (3 : Int32) 5) <|
  bd_ (pt_ s13 (1 * ix_ ((s 0 9) - (s 0 9) / (20 : Int32) * (20 : Int32)) + 21) (ix_ (3 : Int32)) (t 0 9)) fun s18 =>
  gd_ (ib_ (4 : Int32) 5) <|
  bd_ (pt_ s18 (1 * ix_ ((s 0 9) - (s 0 9) / (20 : Int32) * (20 : Int32)) + 21) (ix_ (4 : Int32)) i0) fun s23 =>
  bd_ (pt_ s23 0 9 ((s23 0 9) + (1 : Int32))) fun s27 =>
  some s27)
def fX4_noteRound_x139_174 (s_x139_174 : st_) : Option (st_) :=
  some s_x139_174
def fX4_noteRound_k139 (x : st_) : Option (st_) :=
  fX4_noteRound_x139_174 x
def fX4_noteRound_b139 (t : st_) (v3_b139 : Int32) (s_b139 : st_) : Option ((Int32 × st_) ⊕ (st_)) :=
  if (s_b139 0 0) < v3_b139 then (some (.inr s_b139))
  else (gd_ (ib_ v3_b139 7) <|
  bn_ (fX1_armOf t (v3_b139 - (1 : Int32))) fun r49 =>
  gd_ (ib_ (s_b139 0 1) 1001) <|
  bd_ (pt_ s_b139 (1 * ix_ v3_b139 + 2) (ix_ (s_b139 0 1)) (t (r49) 5)) fun s54 =>
  some (.inl ((v3_b139 + (1 : Int32)), s54)))
def fX4_noteRound_l139 (t : st_) : Nat → (Int32 × st_) → Option (st_) :=
  it_ (fun v => fX4_noteRound_b139 t v.1 v.2)
def fX4_noteRound_j113 (t : st_) (s_j113 : st_) : Option (st_) :=
  bn_ (fX4_noteRegret s_j113 t) fun r36 =>
  bn_ (fX4_noteServed r36 (sb_ t 5) (t 0 12)) fun r40 =>
  bd_ (pt_ r40 0 1 ((r40 0 1) + (1 : Int32))) fun s44 =>
  bn_ (fX4_noteRound_l139 t FU_ ((0 : Int32), s44)) (fX4_noteRound_k139)
def fX4_noteRound (s : st_) (t : st_) : Option (st_) :=
  if (1000 : Int32) ≤ (s 0 1) then (some s)
  else (bn_ (fX5_hasRule (sb_ t 1) (t 0 12)) fun r1 =>
  if r1 = (0 : Int32) then (some s)
  else (gd_ (ib_ (s 0 1) 1000) <|
  bd_ (pt_ s 9 (ix_ (s 0 1)) (t 0 12)) fun s6 =>
  gd_ (ib_ (t 0 12) 6) <|
  gd_ (ib_ (t 0 12) 6) <|
  bd_ (pt_ s6 10 (ix_ (t 0 12)) ((s6 10 (ix_ (t 0 12))) + (1 : Int32))) fun s12 =>
  gd_ (ib_ (t 0 12) 6) <|
  gd_ (ib_ (t 0 12) 6) <|
  bd_ (pt_ s12 11 (ix_ (t 0 12)) ((s12 11 (ix_ (t 0 12))) + (t 5 9))) fun s18 =>
  bn_ (fX1_cheapestRule t) fun r22 =>
  gd_ (ib_ r22 6) <|
  gd_ (ib_ r22 6) <|
  bd_ (pt_ s18 12 (ix_ r22) ((s18 12 (ix_ r22)) + (1 : Int32))) fun s28 =>
  bn_ (fX5_hasRival (sb_ t 1)) fun r32 =>
  if r32 = (0 : Int32) then (fX4_noteRound_j113 t s28)
  else (if (t 5 9) ≤ (t 8 9) then (fX4_noteRound_j113 t s28)
  else (bd_ (pt_ s28 0 13 ((s28 0 13) + (1 : Int32))) fun s58 =>
  fX4_noteRound_j113 t s58))))
def fX4_servedAt (s : st_) (i0 : Int32) (i1 : Int32) : Option (Int32) :=
  if i0 < (0 : Int32) then (some (-1 : Int32))
  else (if (s 0 9) ≤ i0 then (some (-1 : Int32))
  else (if (20 : Int32) ≤ i0 then (some (-1 : Int32))
  else (if i1 < (0 : Int32) then (some (-1 : Int32))
  else (if i1 < (5 : Int32) then (gd_ (ib_ ((((s 0 9) - (1 : Int32)) - i0) - (((s 0 9) - (1 : Int32)) - i0) / (20 : Int32) * (20 : Int32)) 20) <|
  gd_ (ib_ i1 5) <|
  some (s (1 * ix_ ((((s 0 9) - (1 : Int32)) - i0) - (((s 0 9) - (1 : Int32)) - i0) / (20 : Int32) * (20 : Int32)) + 21) (ix_ i1)))
  else (some (-1 : Int32))))))
def fX4_hasRounds_j30 : Option (Int32) :=
  some (0 : Int32)
def fX4_hasRounds (s : st_) (i0 : Int32) (i1 : Int32) : Option (Int32) :=
  if i0 < (0 : Int32) then (fX4_hasRounds_j30)
  else (if i1 < (0 : Int32) then (fX4_hasRounds_j30)
  else (if (s 0 1) < i1 then (fX4_hasRounds_j30)
  else (if ((s 0 1) - i1) < i0 then (fX4_hasRounds_j30)
  else (some (1 : Int32)))))
def fX4_paidIn (s : st_) (i0 : Int32) (i1 : Int32) (i2 : Int32) : Option (Int32) :=
  if (i0 + (1 : Int32)) < (0 : Int32) then (some (0 : Int32))
  else (if (s 0 0) < (i0 + (1 : Int32)) then (some (0 : Int32))
  else (if i1 < (0 : Int32) then (some (0 : Int32))
  else (if (s 0 1) < i2 then (some (0 : Int32))
  else (if i1 ≤ i2 then (gd_ (ib_ (i0 + (1 : Int32)) 7) <|
  gd_ (ib_ i2 1001) <|
  gd_ (ib_ (i0 + (1 : Int32)) 7) <|
  gd_ (ib_ i1 1001) <|
  some ((s (1 * ix_ (i0 + (1 : Int32)) + 2) (ix_ i2)) - (s (1 * ix_ (i0 + (1 : Int32)) + 2) (ix_ i1))))
  else (some (0 : Int32))))))
def fX4_cheapestIn_x5_41 (v3_x5_41 : Int32) : Option (Int32) :=
  some v3_x5_41
def fX4_cheapestIn_k5 (x : Int32) : Option (Int32) :=
  fX4_cheapestIn_x5_41 x
def fX4_cheapestIn_j35 (v4_b5 : Int32) (v3_j35 : Int32) : Option ((Int32 × Int32) ⊕ (Int32)) :=
  some (.inl (v3_j35, (v4_b5 + (1 : Int32))))
def fX4_cheapestIn_b5 (s : st_) (i0 : Int32) (i1 : Int32) (v3_b5 : Int32) (v4_b5 : Int32) : Option ((Int32 × Int32) ⊕ (Int32)) :=
  if (s 0 0) ≤ v4_b5 then (some (.inr v3_b5))
  else (bn_ (fX4_paidIn s v4_b5 i0 i1) fun r1 =>
  bn_ (fX4_paidIn s v3_b5 i0 i1) fun r5 =>
  if r5 ≤ r1 then (fX4_cheapestIn_j35 v4_b5 v3_b5)
  else (fX4_cheapestIn_j35 v4_b5 v4_b5))
def fX4_cheapestIn_l5 (s : st_) (i0 : Int32) (i1 : Int32) : Nat → (Int32 × Int32) → Option (Int32) :=
  it_ (fun v => fX4_cheapestIn_b5 s i0 i1 v.1 v.2)
def fX4_cheapestIn (s : st_) (i0 : Int32) (i1 : Int32) : Option (Int32) :=
  bn_ (fX4_cheapestIn_l5 s i0 i1 FU_ ((0 : Int32), (1 : Int32))) (fX4_cheapestIn_k5)
def fX4_regretOver (s : st_) (i0 : Int32) (i1 : Int32) : Option (Int32) :=
  bn_ (fX4_paidIn s (-1 : Int32) i0 i1) fun r1 =>
  bn_ (fX4_cheapestIn s i0 i1) fun r5 =>
  bn_ (fX4_paidIn s r5 i0 i1) fun r9 =>
  some (r1 - r9)
def fX4_splitCost (s : st_) (i0 : Int32) : Option (Int32) :=
  bn_ (fX4_cheapestIn s (0 : Int32) i0) fun r1 =>
  bn_ (fX4_paidIn s r1 (0 : Int32) i0) fun r5 =>
  bn_ (fX4_cheapestIn s i0 (s 0 1)) fun r9 =>
  bn_ (fX4_paidIn s r9 i0 (s 0 1)) fun r13 =>
  some (r5 + r13)
def fX4_bestSplit_x10_42 (v1_x10_42 : Int32) : Option (Int32) :=
  some v1_x10_42
def fX4_bestSplit_k10 (x : Int32) : Option (Int32) :=
  fX4_bestSplit_x10_42 x
def fX4_bestSplit_j36 (v3_b10 : Int32) (v1_j36 : Int32) (v2_j36 : Int32) : Option ((Int32 × Int32 × Int32) ⊕ (Int32)) :=
  some (.inl (v1_j36, v2_j36, (v3_b10 + (1 : Int32))))
def fX4_bestSplit_b10 (s : st_) (v1_b10 : Int32) (v2_b10 : Int32) (v3_b10 : Int32) : Option ((Int32 × Int32 × Int32) ⊕ (Int32)) :=
  if (s 0 1) < v3_b10 then (some (.inr v1_b10))
  else (bn_ (fX4_splitCost s v3_b10) fun r5 =>
  if v2_b10 ≤ r5 then (fX4_bestSplit_j36 v3_b10 v1_b10 v2_b10)
  else (fX4_bestSplit_j36 v3_b10 v3_b10 r5))
def fX4_bestSplit_l10 (s : st_) : Nat → (Int32 × Int32 × Int32) → Option (Int32) :=
  it_ (fun v => fX4_bestSplit_b10 s v.1 v.2.1 v.2.2)
def fX4_bestSplit (s : st_) : Option (Int32) :=
  bn_ (fX4_splitCost s (0 : Int32)) fun r1 =>
  bn_ (fX4_bestSplit_l10 s FU_ ((0 : Int32), r1, (1 : Int32))) (fX4_bestSplit_k10)
def fX4_cheapestSwap_x4_39 (v2_x4_39 : Int32) : Option (Int32) :=
  some v2_x4_39
def fX4_cheapestSwap_k4 (x : Int32) : Option (Int32) :=
  fX4_cheapestSwap_x4_39 x
def fX4_cheapestSwap_j33 (v3_b4 : Int32) (v2_j33 : Int32) : Option ((Int32 × Int32) ⊕ (Int32)) :=
  some (.inl (v2_j33, (v3_b4 + (1 : Int32))))
def fX4_cheapestSwap_b4 (s : st_) (i0 : Int32) (v2_b4 : Int32) (v3_b4 : Int32) : Option ((Int32 × Int32) ⊕ (Int32)) :=
  if (s 0 0) ≤ v3_b4 then (some (.inr v2_b4))
  else (gd_ (ib_ i0 6) <|
  gd_ (ib_ v3_b4 6) <|
  gd_ (ib_ i0 6) <|
  gd_ (ib_ v2_b4 6) <|
  if (s (1 * ix_ i0 + 14) (ix_ v2_b4)) ≤ (s (1 * ix_ i0 + 14) (ix_ v3_b4)) then (fX4_cheapestSwap_j33 v3_b4 v2_b4)
  else (fX4_cheapestSwap_j33 v3_b4 v3_b4))
def fX4_cheapestSwap_l4 (s : st_) (i0 : Int32) : Nat → (Int32 × Int32) → Option (Int32) :=
  it_ (fun v => fX4_cheapestSwap_b4 s i0 v.1 v.2)
def fX4_cheapestSwap (s : st_) (i0 : Int32) : Option (Int32) :=
  bn_ (fX4_cheapestSwap_l4 s i0 FU_ ((0 : Int32), (1 : Int32))) (fX4_cheapestSwap_k4)
def fX2_begin (s : st_) (t : st_) : Option (st_) :=
  bn_ (fX1_begin (sb_ s 1) t) fun r1 =>
  bd_ (mg_ s 1 33 r1) fun s5 =>
  bn_ (fX4_begin (sb_ s5 34) (t 0 4)) fun r7 =>
  bd_ (mg_ s5 34 41 r7) fun s11 =>
  some s11
def fX2_copyFrom (s : st_) (t : st_) : Option (st_) :=
  bn_ (fX1_copyFrom (sb_ s 1) (sb_ t 1)) fun r1 =>
  bd_ (mg_ s 1 33 r1) fun s5 =>
  bn_ (fX4_copyFrom (sb_ s5 34) (sb_ t 34)) fun r7 =>
  bd_ (mg_ s5 34 41 r7) fun s11 =>
  some s11
def fX2_makeRound (s : st_) : Option (st_) :=
  bn_ (fX1_moveFoe (sb_ s 1)) fun r1 =>
  bd_ (mg_ s 1 33 r1) fun s5 =>
  bn_ (fX1_takeRules (sb_ s5 1)) fun r7 =>
  bd_ (mg_ s5 1 33 r7) fun s11 =>
  bn_ (fX4_noteSwaps (sb_ s11 34) (sb_ s11 1)) fun r13 =>
  bd_ (mg_ s11 34 41 r13) fun s17 =>
  bn_ (fX1_serveAll (sb_ s17 1)) fun r19 =>
  bd_ (mg_ s17 1 33 r19) fun s23 =>
  bn_ (fX4_noteRound (sb_ s23 34) (sb_ s23 1)) fun r25 =>
  bd_ (mg_ s23 34 41 r25) fun s29 =>
  some s29
def fX6_costOver (s : st_) (t : st_) (i0 : Int32) (i1 : Int32) (i2 : Int32) : Option (Int32) :=
  gd_ (ib_ i1 9) <|
  gd_ (ib_ i2 9) <|
  bn_ (fX5_priceOf t (s 1 (ix_ i1)) (s 1 (ix_ i2))) fun r3 =>
  gd_ (ib_ (((i0 ||| ((1 : Int32) <<< (i2 &&& 31))) * (9 : Int32)) + i2) 2304) <|
  some (r3 + (s 2 (ix_ (((i0 ||| ((1 : Int32) <<< (i2 &&& 31))) * (9 : Int32)) + i2))))
def fX6_nextOf_x9_65 (v4_x9_65 : Int32) : Option (Int32) :=
  some v4_x9_65
def fX6_nextOf_k9 (x : Int32) : Option (Int32) :=
  fX6_nextOf_x9_65 x
def fX6_nextOf_j59 (v6_b9 : Int32) (v4_j59 : Int32) (v5_j59 : Int32) : Option ((Int32 × Int32 × Int32) ⊕ (Int32)) :=
  some (.inl (v4_j59, v5_j59, (v6_b9 + (1 : Int32))))
def fX6_nextOf_j51 (v6_b9 : Int32) (r1 : Int32) : Option ((Int32 × Int32 × Int32) ⊕ (Int32)) :=
  fX6_nextOf_j59 v6_b9 v6_b9 r1
def fX6_nextOf_b9 (s : st_) (t : st_) (i0 : Int32) (i1 : Int32) (v4_b9 : Int32) (v5_b9 : Int32) (v6_b9 : Int32) : Option ((Int32 × Int32 × Int32) ⊕ (Int32)) :=
  if (s 0 0) ≤ v6_b9 then (some (.inr v4_b9))
  else (if (i0 &&& ((1 : Int32) <<< (v6_b9 &&& 31))) = (0 : Int32) then (bn_ (fX6_costOver s t i0 i1 v6_b9) fun r1 =>
  if v4_b9 = (-1 : Int32) then (fX6_nextOf_j51 v6_b9 r1)
  else (if v5_b9 ≤ r1 then (fX6_nextOf_j59 v6_b9 v4_b9 v5_b9)
  else (fX6_nextOf_j51 v6_b9 r1)))
  else (fX6_nextOf_j59 v6_b9 v4_b9 v5_b9))
def fX6_nextOf_l9 (s : st_) (t : st_) (i0 : Int32) (i1 : Int32) : Nat → (Int32 × Int32 × Int32) → Option (Int32) :=
  it_ (fun v => fX6_nextOf_b9 s t i0 i1 v.1 v.2.1 v.2.2)
def fX6_nextOf (s : st_) (t : st_) (i0 : Int32) (i1 : Int32) : Option (Int32) :=
  bn_ (fX6_nextOf_l9 s t i0 i1 FU_ ((-1 : Int32), (0 : Int32), (0 : Int32))) (fX6_nextOf_k9)
def fX6_plan_x80_154 (s_x80_154 : st_) : Option (st_) :=
  some s_x80_154
def fX6_plan_k80 (x : st_) : Option (st_) :=
  fX6_plan_x80_154 x
def fX6_plan_x88_148 (v5_b80 : Int32) (s_x88_148 : st_) : Option ((Int32 × st_) ⊕ (st_)) :=
  some (.inl ((v5_b80 + (-1 : Int32)), s_x88_148))
def fX6_plan_k88 (v5_b80 : Int32) (x : st_) : Option ((Int32 × st_) ⊕ (st_)) :=
  fX6_plan_x88_148 v5_b80 x
def fX6_plan_j141 (v5_b80 : Int32) (v6_b88 : Int32) (s_b88 : st_) (z2_j141 : Int32) : Option ((Int32 × st_) ⊕ (st_)) :=
  gd_ (ib_ ((v5_b80 * (9 : Int32)) + v6_b88) 2304) <|
  bd_ (pt_ s_b88 2 (ix_ ((v5_b80 * (9 : Int32)) + v6_b88)) z2_j141) fun s15 =>
  some (.inl ((v6_b88 + (1 : Int32)), s15))
def fX6_plan_b88 (t : st_) (v5_b80 : Int32) (v6_b88 : Int32) (s_b88 : st_) : Option ((Int32 × st_) ⊕ (st_)) :=
  if (s_b88 0 0) < v6_b88 then (some (.inr s_b88))
  else (bn_ (fX6_nextOf s_b88 t v5_b80 v6_b88) fun r10 =>
  if r10 = (-1 : Int32) then (fX6_plan_j141 v5_b80 v6_b88 s_b88 (0 : Int32))
  else (bn_ (fX6_costOver s_b88 t v5_b80 v6_b88 r10) fun r19 =>
  fX6_plan_j141 v5_b80 v6_b88 s_b88 r19))
def fX6_plan_l88 (t : st_) (v5_b80 : Int32) : Nat → (Int32 × st_) → Option (st_) :=
  it_ (fun v => fX6_plan_b88 t v5_b80 v.1 v.2)
def fX6_plan_b80 (t : st_) (v5_b80 : Int32) (s_b80 : st_) : Option ((Int32 × st_) ⊕ (st_)) :=
  if v5_b80 < (0 : Int32) then (some (.inr s_b80))
  else (bn_ (fX6_plan_l88 t v5_b80 FU_ ((0 : Int32), s_b80)) (fX6_plan_k88 v5_b80))
def fX6_plan_l80 (t : st_) : Nat → (Int32 × st_) → Option (st_) :=
  it_ (fun v => fX6_plan_b80 t v.1 v.2)
def fX6_plan_x24_53 (t : st_) (u : st_) (s_x24_53 : st_) : Option (st_) :=
  gd_ (ib_ (s_x24_53 0 0) 9) <|
  bd_ (pt_ s_x24_53 1 (ix_ (s_x24_53 0 0)) (u 0 0)) fun s6 =>
  bn_ (fX6_plan_l80 t FU_ ((((1 : Int32) <<< ((s6 0 0) &&& 31)) - (1 : Int32)), s6)) (fX6_plan_k80)
def fX6_plan_k24 (t : st_) (u : st_) (x : st_) : Option (st_) :=
  fX6_plan_x24_53 t u x
def fX6_plan_b24 (u : st_) (v4_b24 : Int32) (s_b24 : st_) : Option ((Int32 × st_) ⊕ (st_)) :=
  if (s_b24 0 0) ≤ v4_b24 then (some (.inr s_b24))
  else (gd_ (ib_ v4_b24 20) <|
  gd_ (ib_ v4_b24 9) <|
  bd_ (pt_ s_b24 1 (ix_ v4_b24) (u 1 (ix_ v4_b24))) fun s25 =>
  some (.inl ((v4_b24 + (1 : Int32)), s25)))
def fX6_plan_l24 (u : st_) : Nat → (Int32 × st_) → Option (st_) :=
  it_ (fun v => fX6_plan_b24 u v.1 v.2)
def fX6_plan (s : st_) (t : st_) (u : st_) (i0 : Int32) : Option (st_) :=
  bd_ (pt_ s 0 0 (if (0 : Int32) < (if (if (8 : Int32) < (u 0 2) then (8 : Int32) else (u 0 2)) < i0 then (if (8 : Int32) < (u 0 2) then (8 : Int32) else (u 0 2)) else i0) then (if (if (8 : Int32) < (u 0 2) then (8 : Int32) else (u 0 2)) < i0 then (if (8 : Int32) < (u 0 2) then (8 : Int32) else (u 0 2)) else i0) else (0 : Int32))) fun s1 =>
  bn_ (fX6_plan_l24 u FU_ ((0 : Int32), s1)) (fX6_plan_k24 t u)
def fX6_leastCost (s : st_) : Option (Int32) :=
  gd_ (ib_ (s 0 0) 2304) <|
  some (s 2 (ix_ (s 0 0)))
def fX6_requestAt_x11_61 (v4_x11_61 : Int32) : Option (Int32) :=
  some v4_x11_61
def fX6_requestAt_x11_42 : Option (Int32) :=
  some (-1 : Int32)
def fX6_requestAt_k11 (x : (Unit) ⊕ (Int32)) : Option (Int32) :=
  Sum.elim (fun z => fX6_requestAt_x11_42) (fun z => fX6_requestAt_x11_61 z) x
def fX6_requestAt_b11 (s : st_) (t : st_) (i0 : Int32) (v3_b11 : Int32) (v4_b11 : Int32) (v5_b11 : Int32) : Option ((Int32 × Int32 × Int32) ⊕ ((Unit) ⊕ (Int32))) :=
  if i0 < v5_b11 then (some (.inr (.inr v4_b11)))
  else (if (s 0 0) ≤ v5_b11 then (some (.inr (.inr v4_b11)))
  else (bn_ (fX6_nextOf s t v3_b11 v4_b11) fun r1 =>
  if r1 = (-1 : Int32) then (some (.inr (.inl ())))
  else (some (.inl ((v3_b11 ||| ((1 : Int32) <<< (r1 &&& 31))), r1, (v5_b11 + (1 : Int32)))))))
def fX6_requestAt_l11 (s : st_) (t : st_) (i0 : Int32) : Nat → (Int32 × Int32 × Int32) → Option ((Unit) ⊕ (Int32)) :=
  it_ (fun v => fX6_requestAt_b11 s t i0 v.1 v.2.1 v.2.2)
def fX6_requestAt (s : st_) (t : st_) (i0 : Int32) : Option (Int32) :=
  bn_ (fX6_requestAt_l11 s t i0 FU_ ((0 : Int32), (s 0 0), (0 : Int32))) (fX6_requestAt_k11)
def fX3_skipSpaces_x0_38 (s_x0_38 : st_) : Option (st_) :=
  some s_x0_38
def fX3_skipSpaces_k0 (x : st_) : Option (st_) :=
  fX3_skipSpaces_x0_38 x
def fX3_skipSpaces_b0 (s_b0 : st_) : Option ((st_) ⊕ (st_)) :=
  if (s_b0 1 2) ≤ (s_b0 1 3) then (some (.inr s_b0))
  else (gd_ (tx_ (s_b0 1 1)) <|
  gd_ (ib_ (s_b0 1 3) 500) <|
  if (s_b0 0 (ix_ (s_b0 1 3))) = (32 : Int32) then (bd_ (pt_ s_b0 1 3 ((s_b0 1 3) + (1 : Int32))) fun s3 =>
  some (.inl s3))
  else (some (.inr s_b0)))
def fX3_skipSpaces_l0 : Nat → st_ → Option (st_) :=
  it_ (fun v => fX3_skipSpaces_b0 v)
def fX3_skipSpaces (s : st_) : Option (st_) :=
  bn_ (fX3_skipSpaces_l0 FU_ s) (fX3_skipSpaces_k0)
def fX3_isToken_x32_71 : Option (Int32) :=
  some (1 : Int32)
def fX3_isToken_x32_63 : Option (Int32) :=
  some (0 : Int32)
def fX3_isToken_k32 (x : (Unit) ⊕ (Unit)) : Option (Int32) :=
  Sum.elim (fun z => fX3_isToken_x32_63) (fun z => fX3_isToken_x32_71) x
def fX3_isToken_b32 (s : st_) (w0 : Nat) (i1 : Int32) (i2 : Int32) (v4_b32 : Int32) : Option ((Int32) ⊕ ((Unit) ⊕ (Unit))) :=
  if (i2 - i1) ≤ v4_b32 then (some (.inr (.inr ())))
  else (gd_ (sw_ w0) <|
  gd_ (ib_ (i1 + v4_b32) (sb_y w0).length) <|
  gd_ (tx_ (s 1 1)) <|
  gd_ (ib_ ((s 1 4) + v4_b32) 500) <|
  if (sch_ w0 (i1 + v4_b32)) = (s 0 (ix_ ((s 1 4) + v4_b32))) then (some (.inl (v4_b32 + (1 : Int32))))
  else (some (.inr (.inl ()))))
def fX3_isToken_l32 (s : st_) (w0 : Nat) (i1 : Int32) (i2 : Int32) : Nat → Int32 → Option ((Unit) ⊕ (Unit)) :=
  it_ (fun v => fX3_isToken_b32 s w0 i1 i2 v)
def fX3_isToken (s : st_) (w0 : Nat) (i1 : Int32) (i2 : Int32) : Option (Int32) :=
  if i1 < (0 : Int32) then (some (0 : Int32))
  else (gd_ (sw_ w0) <|
  if (sl_ w0) < i2 then (some (0 : Int32))
  else (if (i2 - i1) = ((s 1 3) - (s 1 4)) then (bn_ (fX3_isToken_l32 s w0 i1 i2 FU_ (0 : Int32)) (fX3_isToken_k32))
  else (some (0 : Int32))))
def fX3_placeIn_x7_63 : Option (Int32) :=
  some (-1 : Int32)
def fX3_placeIn_x7_47 (v2_x7_47 : Int32) : Option (Int32) :=
  some v2_x7_47
def fX3_placeIn_k7 (x : (Int32) ⊕ (Unit)) : Option (Int32) :=
  Sum.elim (fun z => fX3_placeIn_x7_47 z) (fun z => fX3_placeIn_x7_63) x
def fX3_placeIn_j57 (v4_b7 : Int32) (v2_j57 : Int32) (v3_j57 : Int32) : Option ((Int32 × Int32 × Int32) ⊕ ((Int32) ⊕ (Unit))) :=
  some (.inl (v2_j57, v3_j57, (v4_b7 + (1 : Int32))))
def fX3_placeIn_j36 (s : st_) (w0 : Nat) (v2_b7 : Int32) (v3_b7 : Int32) (v4_b7 : Int32) : Option ((Int32 × Int32 × Int32) ⊕ ((Int32) ⊕ (Unit))) :=
  bn_ (fX3_isToken s w0 v3_b7 v4_b7) fun r7 =>
  if r7 = (0 : Int32) then (fX3_placeIn_j57 v4_b7 (v2_b7 + (1 : Int32)) (v4_b7 + (1 : Int32)))
  else (some (.inr (.inl v2_b7)))
def fX3_placeIn_b7 (s : st_) (w0 : Nat) (v2_b7 : Int32) (v3_b7 : Int32) (v4_b7 : Int32) : Option ((Int32 × Int32 × Int32) ⊕ ((Int32) ⊕ (Unit))) :=
  gd_ (sw_ w0) <|
  if (sl_ w0) < v4_b7 then (some (.inr (.inr ())))
  else (gd_ (sw_ w0) <|
  if v4_b7 = (sl_ w0) then (fX3_placeIn_j36 s w0 v2_b7 v3_b7 v4_b7)
  else (gd_ (sw_ w0) <|
  gd_ (ib_ v4_b7 (sb_y w0).length) <|
  if (sch_ w0 v4_b7) = (32 : Int32) then (fX3_placeIn_j36 s w0 v2_b7 v3_b7 v4_b7)
  else (fX3_placeIn_j57 v4_b7 v2_b7 v3_b7)))
def fX3_placeIn_l7 (s : st_) (w0 : Nat) : Nat → (Int32 × Int32 × Int32) → Option ((Int32) ⊕ (Unit)) :=
  it_ (fun v => fX3_placeIn_b7 s w0 v.1 v.2.1 v.2.2)
def fX3_placeIn (s : st_) (w0 : Nat) : Option (Int32) :=
  bn_ (fX3_placeIn_l7 s w0 FU_ ((0 : Int32), (0 : Int32), (0 : Int32))) (fX3_placeIn_k7)
def fX3_fail (s : st_) (i0 : Int32) (i1 : Int32) : Option (st_) :=
  if (s 1 5) = (0 : Int32) then (bd_ (pt_ s 1 5 i0) fun s1 =>
  bd_ (pt_ s1 1 6 i1) fun s5 =>
  some s5)
  else (some s)
def fX3_readWord_x21_73 (w0 : Nat) (s_x21_73 : st_) : Option (st_ × Int32) :=
  bn_ (fX3_placeIn s_x21_73 w0) fun r9 =>
  if r9 = (-1 : Int32) then (bn_ (fX3_fail s_x21_73 (1 : Int32) (s_x21_73 1 4)) fun r13 =>
  some (r13, r9))
  else (some (s_x21_73, r9))
def fX3_readWord_k21 (w0 : Nat) (x : st_) : Option (st_ × Int32) :=
  fX3_readWord_x21_73 w0 x
def fX3_readWord_b21 (s_b21 : st_) : Option ((st_) ⊕ (st_)) :=
  if (s_b21 1 2) ≤ (s_b21 1 3) then (some (.inr s_b21))
  else (gd_ (tx_ (s_b21 1 1)) <|
  gd_ (ib_ (s_b21 1 3) 500) <|
  if (s_b21 0 (ix_ (s_b21 1 3))) < (97 : Int32) then (some (.inr s_b21))
  else (gd_ (tx_ (s_b21 1 1)) <|
  gd_ (ib_ (s_b21 1 3) 500) <|
  if (122 : Int32) < (s_b21 0 (ix_ (s_b21 1 3))) then (some (.inr s_b21))
  else (bd_ (pt_ s_b21 1 3 ((s_b21 1 3) + (1 : Int32))) fun s21 =>
  some (.inl s21))))
def fX3_readWord_l21 : Nat → st_ → Option (st_) :=
  it_ (fun v => fX3_readWord_b21 v)
def fX3_readWord (s : st_) (w0 : Nat) : Option (st_ × Int32) :=
  if (s 1 5) = (0 : Int32) then (bn_ (fX3_skipSpaces s) fun r1 =>
  bd_ (pt_ r1 1 4 (r1 1 3)) fun s5 =>
  bn_ (fX3_readWord_l21 FU_ s5) (fX3_readWord_k21 w0))
  else (some (s, (-1 : Int32)))
def fX3_readNumber_j131 (v3_x23_98 : Int32) (s_x23_98 : st_) : Option (st_ × Int32) :=
  bn_ (fX3_fail s_x23_98 (2 : Int32) (s_x23_98 1 4)) fun r9 =>
  some (r9, v3_x23_98)
def fX3_readNumber_x23_98 (i0 : Int32) (i1 : Int32) (v3_x23_98 : Int32) (s_x23_98 : st_) : Option (st_ × Int32) :=
  if (s_x23_98 1 3) = (s_x23_98 1 4) then (bn_ (fX3_fail s_x23_98 (1 : Int32) (s_x23_98 1 3)) fun r13 =>
  some (r13, v3_x23_98))
  else (if v3_x23_98 < i0 then (fX3_readNumber_j131 v3_x23_98 s_x23_98)
  else (if v3_x23_98 ≤ i1 then (some (s_x23_98, v3_x23_98))
  else (fX3_readNumber_j131 v3_x23_98 s_x23_98)))
def fX3_readNumber_k23 (i0 : Int32) (i1 : Int32) (x : Int32 × st_) : Option (st_ × Int32) :=
  fX3_readNumber_x23_98 i0 i1 x.1 x.2
def fX3_readNumber_b23 (v3_b23 : Int32) (s_b23 : st_) : Option ((Int32 × st_) ⊕ (Int32 × st_)) :=
  if (s_b23 1 2) ≤ (s_b23 1 3) then (some (.inr (v3_b23, s_b23)))
  else (gd_ (tx_ (s_b23 1 1)) <|
  gd_ (ib_ (s_b23 1 3) 500) <|
  if (s_b23 0 (ix_ (s_b23 1 3))) < (48 : Int32) then (some (.inr (v3_b23, s_b23)))
  else (gd_ (tx_ (s_b23 1 1)) <|
  gd_ (ib_ (s_b23 1 3) 500) <|
  if (57 : Int32) < (s_b23 0 (ix_ (s_b23 1 3))) then (some (.inr (v3_b23, s_b23)))
  else (gd_ (tx_ (s_b23 1 1)) <|
  gd_ (ib_ (s_b23 1 3) 500) <|
  bd_ (pt_ s_b23 1 3 ((s_b23 1 3) + (1 : Int32))) fun s23 =>
  some (.inl ((if (1000000 : Int32) < (((10 : Int32) * v3_b23) + ((s_b23 0 (ix_ (s_b23 1 3))) - (48 : Int32))) then (1000000 : Int32) else (((10 : Int32) * v3_b23) + ((s_b23 0 (ix_ (s_b23 1 3))) - (48 : Int32)))), s23)))))
def fX3_readNumber_l23 : Nat → (Int32 × st_) → Option (Int32 × st_) :=
  it_ (fun v => fX3_readNumber_b23 v.1 v.2)
def fX3_readNumber (s : st_) (i0 : Int32) (i1 : Int32) : Option (st_ × Int32) :=
  if (s 1 5) = (0 : Int32) then (bn_ (fX3_skipSpaces s) fun r1 =>
  bd_ (pt_ r1 1 4 (r1 1 3)) fun s5 =>
  bn_ (fX3_readNumber_l23 FU_ ((0 : Int32), s5)) (fX3_readNumber_k23 i0 i1))
  else (some (s, (0 : Int32)))
def fX3_readDrive_j18 (s_j18 : st_) : Option (st_) :=
  bn_ (fX3_readNumber s_j18 (2 : Int32) (100 : Int32)) fun r5 =>
  bd_ (pt_ r5.1 2 0 r5.2) fun s9 =>
  bn_ (fX3_readNumber s9 (0 : Int32) ((s9 2 0) - (1 : Int32))) fun r13 =>
  bd_ (pt_ r13.1 2 1 r13.2) fun s17 =>
  some s17
def fX3_readDrive (s : st_) : Option (st_) :=
  bn_ (fX3_readWord s 0) fun r1 =>
  if r1.2 = (0 : Int32) then (fX3_readDrive_j18 r1.1)
  else (bn_ (fX3_fail r1.1 (1 : Int32) (r1.1 1 4)) fun r21 =>
  fX3_readDrive_j18 r21)
def fX3_hasMore (s : st_) : Option (st_ × Int32) :=
  bn_ (fX3_skipSpaces s) fun r1 =>
  if (r1 1 5) = (0 : Int32) then (if (r1 1 3) < (r1 1 2) then (gd_ (tx_ (r1 1 1)) <|
  gd_ (ib_ (r1 1 3) 500) <|
  if (r1 0 (ix_ (r1 1 3))) = (59 : Int32) then (bd_ (pt_ r1 1 3 ((r1 1 3) + (1 : Int32))) fun s7 =>
  some (s7, (1 : Int32)))
  else (bn_ (fX3_fail r1 (1 : Int32) (r1 1 3)) fun r11 =>
  some (r11, (0 : Int32))))
  else (some (r1, (0 : Int32))))
  else (some (r1, (0 : Int32)))
def fX3_readRule_j44 (r1 : st_ × Int32) (z0_j44 : Int32) (s_j44 : st_) : Option (st_) :=
  if (s_j44 1 5) = (0 : Int32) then (bn_ (fX5_putRule (sb_ s_j44 2) r1.2 z0_j44) fun r5 =>
  bd_ (mg_ s_j44 2 4 r5) fun s9 =>
  some s9)
  else (some s_j44)
def fX3_readRule_j21 (s_j21 : st_) : Option (st_) :=
  bn_ (fX3_readWord s_j21 1) fun r1 =>
  if r1.2 = (4 : Int32) then (bn_ (fX3_readNumber r1.1 (0 : Int32) (99 : Int32)) fun r11 =>
  fX3_readRule_j44 r1 r11.2 r11.1)
  else (fX3_readRule_j44 r1 (-1 : Int32) r1.1)
def fX3_readRule (s : st_) : Option (st_) :=
  if (s 2 4) < (6 : Int32) then (fX3_readRule_j21 s)
  else (bn_ (fX3_fail s (3 : Int32) (s 1 4)) fun r15 =>
  fX3_readRule_j21 r15)
def fX3_readMaster_j30 (r1 : st_ × Int32) (z0_j30 : Int32) (s_j30 : st_) : Option (st_) :=
  bn_ (fX5_takeMaster (sb_ s_j30 2) r1.2 z0_j30) fun r5 =>
  bd_ (mg_ s_j30 2 4 r5) fun s9 =>
  some s9
def fX3_readMaster (s : st_) : Option (st_) :=
  bn_ (fX3_readWord s 2) fun r1 =>
  if r1.2 = (2 : Int32) then (bn_ (fX3_readNumber r1.1 (0 : Int32) ((r1.1 2 4) - (1 : Int32))) fun r11 =>
  fX3_readMaster_j30 r1 r11.2 r11.1)
  else (fX3_readMaster_j30 r1 (-1 : Int32) r1.1)
def fX3_readAsk_j21 (s_j21 : st_) : Option (st_) :=
  bn_ (fX3_readNumber s_j21 (0 : Int32) ((s_j21 2 0) - (1 : Int32))) fun r1 =>
  if (r1.1 1 5) = (0 : Int32) then (bn_ (fX5_putAsk (sb_ r1.1 2) r1.2) fun r5 =>
  bd_ (mg_ r1.1 2 4 r5) fun s9 =>
  some s9)
  else (some r1.1)
def fX3_readAsk (s : st_) : Option (st_) :=
  if (s 2 12) < (16 : Int32) then (fX3_readAsk_j21 s)
  else (bn_ (fX3_fail s (3 : Int32) (s 1 4)) fun r11 =>
  fX3_readAsk_j21 r11)
def fX3_readRival_j34 (r1 : st_ × Int32) (z1_j34 : Int32) (s_j34 : st_) : Option (st_) :=
  bd_ (pt_ s_j34 2 15 z1_j34) fun s5 =>
  bd_ (pt_ s5 2 14 r1.2) fun s9 =>
  some s9
def fX3_readRival (s : st_) : Option (st_) :=
  bn_ (fX3_readWord s 2) fun r1 =>
  if r1.2 = (2 : Int32) then (bn_ (fX3_readNumber r1.1 (0 : Int32) ((r1.1 2 4) - (1 : Int32))) fun r13 =>
  fX3_readRival_j34 r1 r13.2 r13.1)
  else (fX3_readRival_j34 r1 (-1 : Int32) r1.1)
def fX3_readStatement (s : st_) : Option (st_) :=
  bn_ (fX3_readWord s 0) fun r1 =>
  if r1.2 = (1 : Int32) then (bn_ (fX3_readNumber r1.1 (0 : Int32) (99 : Int32)) fun r5 =>
  bd_ (pt_ r5.1 2 2 r5.2) fun s9 =>
  bn_ (fX3_readNumber s9 (1 : Int32) (99 : Int32)) fun r13 =>
  bd_ (pt_ r13.1 2 3 r13.2) fun s17 =>
  some s17)
  else (if r1.2 = (2 : Int32) then (bn_ (fX3_readRule r1.1) fun r21 =>
  some r21)
  else (if r1.2 = (3 : Int32) then (bn_ (fX3_readMaster r1.1) fun r25 =>
  some r25)
  else (if r1.2 = (4 : Int32) then (bn_ (fX3_readNumber r1.1 (1 : Int32) (500 : Int32)) fun r29 =>
  bd_ (pt_ r29.1 2 9 r29.2) fun s33 =>
  bn_ (fX3_readNumber s33 (0 : Int32) (32767 : Int32)) fun r37 =>
  bd_ (pt_ r37.1 2 10 r37.2) fun s41 =>
  some s41)
  else (if r1.2 = (5 : Int32) then (bn_ (fX3_readWord r1.1 3) fun r45 =>
  bd_ (pt_ r45.1 2 11 r45.2) fun s49 =>
  some s49)
  else (if r1.2 = (6 : Int32) then (bn_ (fX3_readAsk r1.1) fun r53 =>
  some r53)
  else (if r1.2 = (7 : Int32) then (bn_ (fX3_readRival r1.1) fun r57 =>
  some r57)
  else (if r1.2 = (8 : Int32) then (bn_ (fX3_readNumber r1.1 (0 : Int32) (999 : Int32)) fun r61 =>
  bd_ (pt_ r61.1 2 16 r61.2) fun s65 =>
  some s65)
  else (if r1.2 = (9 : Int32) then (bn_ (fX3_readNumber r1.1 (0 : Int32) (99999 : Int32)) fun r69 =>
  bd_ (pt_ r69.1 2 17 r69.2) fun s73 =>
  bn_ (fX3_readNumber s73 (0 : Int32) (9999 : Int32)) fun r77 =>
  bd_ (pt_ r77.1 2 18 r77.2) fun s81 =>
  some s81)
  else (bn_ (fX3_fail r1.1 (1 : Int32) (r1.1 1 4)) fun r85 =>
  some r85)))))))))
def fX3_readText_x48_72 (s_x48_72 : st_) : Option (st_) :=
  bn_ (fX5_completeRules (sb_ s_x48_72 2)) fun r35 =>
  bd_ (mg_ s_x48_72 2 4 r35) fun s39 =>
  some s39
def fX3_readText_k48 (x : st_) : Option (st_) :=
  fX3_readText_x48_72 x
def fX3_readText_b48 (v3_b48 : Int32) (s_b48 : st_) : Option ((Int32 × st_) ⊕ (st_)) :=
  if (500 : Int32) ≤ v3_b48 then (some (.inr s_b48))
  else (bn_ (fX3_hasMore s_b48) fun r41 =>
  if r41.2 = (0 : Int32) then (some (.inr r41.1))
  else (bn_ (fX3_readStatement r41.1) fun r45 =>
  some (.inl ((v3_b48 + (1 : Int32)), r45))))
def fX3_readText_l48 : Nat → (Int32 × st_) → Option (st_) :=
  it_ (fun v => fX3_readText_b48 v.1 v.2)
def fX3_readText (s : st_) (i0 : Int32) : Option (st_) :=
  bd_ (pt_ s 1 1 (1 : Int32)) fun s1 =>
  bd_ (pt_ s1 1 2 (if (500 : Int32) < i0 then (500 : Int32) else i0)) fun s5 =>
  bd_ (pt_ s5 1 3 (0 : Int32)) fun s9 =>
  bd_ (pt_ s9 1 4 (0 : Int32)) fun s13 =>
  bd_ (pt_ s13 1 5 (0 : Int32)) fun s17 =>
  bd_ (pt_ s17 1 6 (0 : Int32)) fun s21 =>
  bn_ (fX5_becomeDefault (sb_ s21 2)) fun r25 =>
  bd_ (mg_ s21 2 4 r25) fun s29 =>
  bn_ (fX3_readDrive s29) fun r31 =>
  bn_ (fX3_readText_l48 FU_ ((0 : Int32), r31)) (fX3_readText_k48)
def fX7_append_x52_109 (s_x52_109 : st_) : Option (st_ × Int32) :=
  some (s_x52_109, (s_x52_109 0 1))
def fX7_append_k52 (x : st_) : Option (st_ × Int32) :=
  fX7_append_x52_109 x
def fX7_append_j103 (v4_b52 : Int32) (s_j103 : st_) : Option ((Int32 × st_) ⊕ (st_)) :=
  some (.inl ((v4_b52 + (-8 : Int32)), s_j103))
def fX7_append_b52 (i0 : Int64) (v4_b52 : Int32) (s_b52 : st_) : Option ((Int32 × st_) ⊕ (st_)) :=
  if v4_b52 < (0 : Int32) then (some (.inr s_b52))
  else (if (Int8.toInt32 (Int32.toInt8 (Int64.toInt32 (((Int64.toUInt64 i0) >>> ((Int64.toUInt64 (Int32.toInt64 v4_b52)) &&& Int64.toUInt64 63)).toInt64)))) = (0 : Int32) then (fX7_append_j103 v4_b52 s_b52)
  else (if (500 : Int32) ≤ (s_b52 0 1) then (fX7_append_j103 v4_b52 s_b52)
  else (gd_ (ib_ (s_b52 0 1) 500) <|
  bd_ (pt_ s_b52 1 (ix_ (s_b52 0 1)) (nb_ (Int8.toInt32 (Int32.toInt8 (Int64.toInt32 (((Int64.toUInt64 i0) >>> ((Int64.toUInt64 (Int32.toInt64 v4_b52)) &&& Int64.toUInt64 63)).toInt64)))))) fun s2 =>
  bd_ (pt_ s2 0 1 ((s2 0 1) + (1 : Int32))) fun s6 =>
  fX7_append_j103 v4_b52 s6)))
def fX7_append_l52 (i0 : Int64) : Nat → (Int32 × st_) → Option (st_) :=
  it_ (fun v => fX7_append_b52 i0 v.1 v.2)
def fX7_append_x6_33 (s : st_) (i0 : Int64) (v3_x6_33 : Int32) : Option (st_ × Int32) :=
  if ((s 0 1) + v3_x6_33) ≤ (500 : Int32) then (bn_ (fX7_append_l52 i0 FU_ ((56 : Int32), s)) (fX7_append_k52))
  else (some (s, (-2 : Int32)))
def fX7_append_k6 (s : st_) (i0 : Int64) (x : Int32) : Option (st_ × Int32) :=
  fX7_append_x6_33 s i0 x
def fX7_append_j27 (v4_b6 : Int32) (v3_j27 : Int32) : Option ((Int32 × Int32) ⊕ (Int32)) :=
  some (.inl (v3_j27, (v4_b6 + (-8 : Int32))))
def fX7_append_b6 (i0 : Int64) (v3_b6 : Int32) (v4_b6 : Int32) : Option ((Int32 × Int32) ⊕ (Int32)) :=
  if v4_b6 < (0 : Int32) then (some (.inr v3_b6))
  else (if (lg_cmp ((((Int64.toUInt64 i0) >>> ((Int64.toUInt64 (Int32.toInt64 v4_b6)) &&& Int64.toUInt64 63)).toInt64) &&& (255 : Int64)) (0 : Int64)) = (0 : Int32) then (fX7_append_j27 v4_b6 v3_b6)
  else (fX7_append_j27 v4_b6 (v3_b6 + (1 : Int32))))
def fX7_append_l6 (i0 : Int64) : Nat → (Int32 × Int32) → Option (Int32) :=
  it_ (fun v => fX7_append_b6 i0 v.1 v.2)
def fX7_append (s : st_) (i0 : Int64) : Option (st_ × Int32) :=
  bn_ (fX7_append_l6 i0 FU_ ((0 : Int32), (56 : Int32))) (fX7_append_k6 s i0)
def fX7_load (s : st_) : Option (st_ × Int32) :=
  bn_ (fX3_readText (sb_ s 1) (s 0 1)) fun r1 =>
  bd_ (mg_ s 1 7 r1) fun s5 =>
  bd_ (pt_ s5 0 1 (0 : Int32)) fun s7 =>
  bd_ (pt_ s7 0 2 (s7 2 5)) fun s11 =>
  if (s11 2 5) = (0 : Int32) then (bn_ (fX2_begin (sb_ s11 8) (sb_ s11 3)) fun r15 =>
  bd_ (mg_ s11 8 75 r15) fun s19 =>
  some (s19, (s19 10 4)))
  else (some (s11, ((-100 : Int32) - (s11 2 6))))
def fX7_loadError (s : st_) : Option (Int32) :=
  some (s 0 2)
def fX7_setting (s : st_) (i0 : Int32) : Option ((Int32 ⊕ Nat)) :=
  if i0 = (0 : Int32) then (some (.inl (s 10 0)))
  else (if i0 = (1 : Int32) then (some (.inl (s 10 1)))
  else (if i0 = (2 : Int32) then (some (.inl (s 10 2)))
  else (if i0 = (3 : Int32) then (some (.inl (s 10 3)))
  else (if i0 = (4 : Int32) then (some (.inl (s 10 4)))
  else (if i0 = (5 : Int32) then (some (.inl (s 10 7)))
  else (if i0 = (6 : Int32) then (some (.inl (s 10 8)))
  else (if i0 = (7 : Int32) then (some (.inl (s 10 9)))
  else (if i0 = (8 : Int32) then (some (.inl (s 9 7)))
  else (if i0 = (9 : Int32) then (some (.inl (s 10 11)))
  else (if i0 = (10 : Int32) then (some (.inl (s 10 12)))
  else (if i0 = (11 : Int32) then (some (.inl (s 10 17)))
  else (if i0 = (12 : Int32) then (some (.inl (s 10 18)))
  else (if i0 = (13 : Int32) then (some (.inl (s 10 16)))
  else (if i0 = (14 : Int32) then (some (.inl (s 9 11)))
  else (some (.inr 1))))))))))))))))
def fX7_requireRule (s : st_) (i0 : Int32) : Option ((Unit ⊕ Nat)) :=
  bn_ (fX5_hasRule (sb_ s 10) i0) fun r1 =>
  if r1 = (0 : Int32) then (some (.inr 0))
  else (some (.inl ()))
def fX7_rule (s : st_) (i0 : Int32) (i1 : Int32) : Option ((Int32 ⊕ Nat)) :=
  bn_ (fX7_requireRule s i0) fun r1 =>
  tb_ r1 (fun x5 =>
  if i1 = (0 : Int32) then (bn_ (fX5_kindOf (sb_ s 10) i0) fun r7 =>
  some (.inl r7))
  else (if i1 = (1 : Int32) then (bn_ (fX5_widthOf (sb_ s 10) i0) fun r11 =>
  some (.inl r11))
  else (if i1 = (2 : Int32) then (gd_ (ib_ i0 6) <|
  some (.inl (s 21 (ix_ i0))))
  else (if i1 = (3 : Int32) then (gd_ (ib_ i0 6) <|
  some (.inl (s 52 (ix_ i0))))
  else (if i1 = (4 : Int32) then (gd_ (ib_ i0 6) <|
  some (.inl (s (3 * ix_ i0 + 24) 5)))
  else (if i1 = (5 : Int32) then (gd_ (ib_ i0 6) <|
  some (.inl (s 53 (ix_ i0))))
  else (some (.inr 1))))))))
  (fun c6 => some (.inr c6))
def fX7_ask (s : st_) (i0 : Int32) : Option (Int32) :=
  bn_ (fX5_askAt (sb_ s 10) i0) fun r1 =>
  some r1
def fX7_requireWithin_j10 : Option ((Unit ⊕ Nat)) :=
  some (.inr 1)
def fX7_requireWithin (i0 : Int32) (i1 : Int32) (i2 : Int32) : Option ((Unit ⊕ Nat)) :=
  if i0 < i1 then (fX7_requireWithin_j10)
  else (if i0 ≤ i2 then (some (.inl ()))
  else (fX7_requireWithin_j10))
def fX7_requireCylinder (s : st_) (i0 : Int32) : Option ((Unit ⊕ Nat)) :=
  bn_ (fX7_requireWithin i0 (0 : Int32) ((s 10 0) - (1 : Int32))) fun r1 =>
  tb_ r1 (fun x5 =>
  some (.inl ()))
  (fun c6 => some (.inr c6))
def fX7_request (s : st_) (i0 : Int32) : Option (st_ × (Int32 ⊕ Nat)) :=
  bn_ (fX7_requireCylinder s i0) fun r1 =>
  tb_ r1 (fun x5 =>
  bn_ (fX1_isFull (sb_ s 9)) fun r7 =>
  if r7 = (0 : Int32) then (bn_ (fX1_addForAll (sb_ s 9) i0) fun r11 =>
  bd_ (mg_ s 9 33 r11) fun s15 =>
  some (s15, (.inl (s15 14 2))))
  else (some (s, (.inl (-2 : Int32)))))
  (fun c6 => some (s, (.inr c6)))
def fX7_setFoe (s : st_) (i0 : Int32) : Option (st_ × (Int32 ⊕ Nat)) :=
  bn_ (fX7_requireWithin i0 (0 : Int32) (5 : Int32)) fun r1 =>
  tb_ r1 (fun x5 =>
  bd_ (pt_ s 10 11 i0) fun s7 =>
  some (s7, (.inl (s 10 11))))
  (fun c6 => some (s, (.inr c6)))
def fX7_setMaster_j16 (s : st_) (i0 : Int32) (i1 : Int32) : Option (st_ × (Int32 ⊕ Nat)) :=
  bn_ (fX5_takeMaster (sb_ s 10) i0 i1) fun r7 =>
  bd_ (mg_ s 10 4 r7) fun s11 =>
  some (s11, (.inl (s 10 7)))
def fX7_setMaster (s : st_) (i0 : Int32) (i1 : Int32) : Option (st_ × (Int32 ⊕ Nat)) :=
  bn_ (fX7_requireWithin i0 (0 : Int32) (2 : Int32)) fun r1 =>
  tb_ r1 (fun x5 =>
  if i0 = (2 : Int32) then (bn_ (fX7_requireRule s i1) fun r13 =>
  tb_ r13 (fun x17 =>
  fX7_setMaster_j16 s i0 i1)
  (fun c18 => some (s, (.inr c18))))
  else (fX7_setMaster_j16 s i0 i1))
  (fun c6 => some (s, (.inr c6)))
def fX7_setEta (s : st_) (i0 : Int32) : Option (st_ × (Int32 ⊕ Nat)) :=
  bn_ (fX7_requireWithin i0 (1 : Int32) (500 : Int32)) fun r1 =>
  tb_ r1 (fun x5 =>
  bd_ (pt_ s 10 9 i0) fun s7 =>
  some (s7, (.inl (s 10 9))))
  (fun c6 => some (s, (.inr c6)))
def fX7_setBudget (s : st_) (i0 : Int32) : Option (st_ × (Int32 ⊕ Nat)) :=
  bn_ (fX7_requireWithin i0 (-1 : Int32) (999 : Int32)) fun r1 =>
  tb_ r1 (fun x5 =>
  bn_ (fX1_takeBudget (sb_ s 9) i0) fun r7 =>
  bd_ (mg_ s 9 33 r7) fun s11 =>
  some (s11, (.inl (s 10 16))))
  (fun c6 => some (s, (.inr c6)))
def fX7_setBound (s : st_) (i0 : Int32) (i1 : Int32) : Option (st_ × (Int32 ⊕ Nat)) :=
  bn_ (fX7_requireWithin i0 (0 : Int32) (99999 : Int32)) fun r1 =>
  tb_ r1 (fun x5 =>
  bn_ (fX7_requireWithin i1 (0 : Int32) (9999 : Int32)) fun r7 =>
  tb_ r7 (fun x11 =>
  bd_ (pt_ s 10 17 i0) fun s13 =>
  bd_ (pt_ s13 10 18 i1) fun s17 =>
  some (s17, (.inl (s 10 17))))
  (fun c12 => some (s, (.inr c12))))
  (fun c6 => some (s, (.inr c6)))
def fX7_addAsk (s : st_) (i0 : Int32) : Option (st_ × (Int32 ⊕ Nat)) :=
  bn_ (fX7_requireCylinder s i0) fun r1 =>
  tb_ r1 (fun x5 =>
  if (s 10 12) < (16 : Int32) then (bn_ (fX5_putAsk (sb_ s 10) i0) fun r7 =>
  bd_ (mg_ s 10 4 r7) fun s11 =>
  some (s11, (.inl ((s11 10 12) - (1 : Int32)))))
  else (some (s, (.inl (-2 : Int32)))))
  (fun c6 => some (s, (.inr c6)))
def fX7_evenWeights (s : st_) : Option (st_ × Int32) :=
  gd_ (ib_ (0 : Int32) 6) <|
  bn_ (fX1_resetWeights (sb_ s 9)) fun r2 =>
  bd_ (mg_ s 9 33 r2) fun s6 =>
  some (s6, (s 21 (ix_ (0 : Int32))))
def fX7_requireArm (s : st_) (i0 : Int32) : Option ((Unit ⊕ Nat)) :=
  if i0 = (-1 : Int32) then (some (.inl ()))
  else (bn_ (fX5_hasRule (sb_ s 10) i0) fun r1 =>
  if r1 = (0 : Int32) then (some (.inr 0))
  else (some (.inl ())))
def fX7_arm (s : st_) (i0 : Int32) (i1 : Int32) : Option ((Int32 ⊕ Nat)) :=
  bn_ (fX7_requireArm s i0) fun r1 =>
  tb_ r1 (fun x5 =>
  bn_ (fX1_armOf (sb_ s 9) i0) fun r7 =>
  if i1 = (0 : Int32) then (some (.inl (s (9 + r7) 0)))
  else (if i1 = (1 : Int32) then (if (s (9 + r7) 1) = (0 : Int32) then (some (.inl (0 : Int32)))
  else (some (.inl (1 : Int32))))
  else (if i1 = (2 : Int32) then (some (.inl (s (9 + r7) 2)))
  else (if i1 = (3 : Int32) then (some (.inl (s (9 + r7) 5)))
  else (if i1 = (4 : Int32) then (some (.inl (s (9 + r7) 6)))
  else (if i1 = (5 : Int32) then (some (.inl (s (9 + r7) 7)))
  else (if i1 = (6 : Int32) then (some (.inl (s (9 + r7) 8)))
  else (some (.inr 1)))))))))
  (fun c6 => some (.inr c6))
def fX7_waiting (s : st_) (i0 : Int32) (i1 : Int32) (i2 : Int32) : Option ((Int32 ⊕ Nat)) :=
  bn_ (fX7_requireArm s i0) fun r1 =>
  tb_ r1 (fun x5 =>
  bn_ (fX7_requireWithin i2 (0 : Int32) (1 : Int32)) fun r7 =>
  tb_ r7 (fun x11 =>
  bn_ (fX1_armOf (sb_ s 9) i0) fun r13 =>
  if i1 < (0 : Int32) then (some (.inl (-1 : Int32)))
  else (if i1 < (s (9 + r13) 2) then (if i2 = (0 : Int32) then (gd_ (ib_ i1 20) <|
  some (.inl (s (9 + r13 + 1) (ix_ i1))))
  else (gd_ (ib_ i1 20) <|
  some (.inl (s (9 + r13 + 2) (ix_ i1)))))
  else (some (.inl (-1 : Int32)))))
  (fun c12 => some (.inr c12)))
  (fun c6 => some (.inr c6))
def fX7_wouldServe (s : st_) (i0 : Int32) (i1 : Int32) : Option ((Int32 ⊕ Nat)) :=
  bn_ (fX7_requireArm s i0) fun r1 =>
  tb_ r1 (fun x5 =>
  bn_ (fX7_requireRule s i1) fun r7 =>
  tb_ r7 (fun x11 =>
  bn_ (fX1_armOf (sb_ s 9) i0) fun r13 =>
  bn_ (fX5_kindOf (sb_ s 10) i1) fun r17 =>
  bn_ (fX5_widthOf (sb_ s 10) i1) fun r21 =>
  bn_ (fX0_choose (sb_ s (9 + r13)) r17 r21) fun r25 =>
  if r25 = (-1 : Int32) then (some (.inl (-1 : Int32)))
  else (gd_ (ib_ r25 20) <|
  some (.inl (s (9 + r13 + 1) (ix_ r25)))))
  (fun c12 => some (.inr c12)))
  (fun c6 => some (.inr c6))
def fX7_optimum (s : st_) (i0 : Int32) : Option (st_ × (Int32 ⊕ Nat)) :=
  bn_ (fX7_requireWithin i0 (0 : Int32) (8 : Int32)) fun r1 =>
  tb_ r1 (fun x5 =>
  if i0 ≤ (s 14 2) then (bn_ (fX6_plan (sb_ s 116) (sb_ s 10) (sb_ s 14) i0) fun r7 =>
  bd_ (mg_ s 116 3 r7) fun s11 =>
  bn_ (fX6_leastCost (sb_ s11 116)) fun r13 =>
  some (s11, (.inl r13)))
  else (some (s, (.inl (-1 : Int32)))))
  (fun c6 => some (s, (.inr c6)))
def fX7_optimumAt (s : st_) (i0 : Int32) (i1 : Int32) : Option (st_ × (Int32 ⊕ Nat)) :=
  bn_ (fX7_requireWithin i0 (1 : Int32) (8 : Int32)) fun r1 =>
  tb_ r1 (fun x5 =>
  if (s 14 2) < i0 then (some (s, (.inl (-1 : Int32))))
  else (if i1 < (0 : Int32) then (some (s, (.inl (-1 : Int32))))
  else (if i1 < i0 then (bn_ (fX6_plan (sb_ s 116) (sb_ s 10) (sb_ s 14) i0) fun r7 =>
  bd_ (mg_ s 116 3 r7) fun s11 =>
  bn_ (fX6_requestAt (sb_ s11 116) (sb_ s11 10) i1) fun r13 =>
  some (s11, (.inl r13)))
  else (some (s, (.inl (-1 : Int32)))))))
  (fun c6 => some (s, (.inr c6)))
def fX7_nextRule (s : st_) : Option (Int32) :=
  bn_ (fX1_comingRule (sb_ s 9)) fun r1 =>
  some r1
def fX7_served (s : st_) (i0 : Int32) (i1 : Int32) : Option ((Int32 ⊕ Nat)) :=
  if (0 : Int32) ≤ i0 then (bn_ (fX7_requireWithin i1 (0 : Int32) (4 : Int32)) fun r1 =>
  tb_ r1 (fun x5 =>
  bn_ (fX4_servedAt (sb_ s 42) i0 i1) fun r7 =>
  some (.inl r7))
  (fun c6 => some (.inr c6)))
  else (some (.inr 1))
def fX7_rounds (s : st_) : Option (Int32) :=
  some (s 9 9)
def fX7_regret (s : st_) (i0 : Int32) : Option ((Int32 ⊕ Nat)) :=
  if i0 = (0 : Int32) then (bn_ (fX1_regretNow (sb_ s 9)) fun r1 =>
  some (.inl r1))
  else (if i0 = (1 : Int32) then (bn_ (fX5_boundBehind (sb_ s 10) (s 9 9)) fun r5 =>
  some (.inl r5))
  else (if i0 = (2 : Int32) then (some (.inl (s 42 10)))
  else (if i0 = (3 : Int32) then (some (.inl (s 42 11)))
  else (if i0 = (4 : Int32) then (some (.inl (s 42 12)))
  else (some (.inr 1))))))
def fX7_best (s : st_) : Option (Int32) :=
  bn_ (fX1_cheapestRule (sb_ s 9)) fun r1 =>
  some r1
def fX7_regretTo (s : st_) (i0 : Int32) : Option ((Int32 ⊕ Nat)) :=
  bn_ (fX7_requireRule s i0) fun r1 =>
  tb_ r1 (fun x5 =>
  gd_ (ib_ i0 6) <|
  some (.inl ((s 14 5) - (s (3 * ix_ i0 + 24) 5))))
  (fun c6 => some (.inr c6))
def fX7_swapCost (s : st_) (i0 : Int32) (i1 : Int32) : Option ((Int32 ⊕ Nat)) :=
  bn_ (fX7_requireRule s i0) fun r1 =>
  tb_ r1 (fun x5 =>
  bn_ (fX7_requireRule s i1) fun r7 =>
  tb_ r7 (fun x11 =>
  gd_ (ib_ i0 6) <|
  gd_ (ib_ i1 6) <|
  some (.inl (s (1 * ix_ i0 + 56) (ix_ i1))))
  (fun c12 => some (.inr c12)))
  (fun c6 => some (.inr c6))
def fX7_swapRegret_x4_60 (v1_x4_60 : Int32) : Option (Int32) :=
  some v1_x4_60
def fX7_swapRegret_k4 (x : Int32) : Option (Int32) :=
  fX7_swapRegret_x4_60 x
def fX7_swapRegret_b4 (s : st_) (v1_b4 : Int32) (v2_b4 : Int32) : Option ((Int32 × Int32) ⊕ (Int32)) :=
  if (s 10 4) ≤ v2_b4 then (some (.inr v1_b4))
  else (gd_ (ib_ v2_b4 6) <|
  gd_ (ib_ v2_b4 6) <|
  bn_ (fX4_cheapestSwap (sb_ s 42) v2_b4) fun r3 =>
  gd_ (ib_ r3 6) <|
  some (.inl ((v1_b4 + ((s (1 * ix_ v2_b4 + 56) (ix_ v2_b4)) - (s (1 * ix_ v2_b4 + 56) (ix_ r3)))), (v2_b4 + (1 : Int32)))))
def fX7_swapRegret_l4 (s : st_) : Nat → (Int32 × Int32) → Option (Int32) :=
  it_ (fun v => fX7_swapRegret_b4 s v.1 v.2)
def fX7_swapRegret (s : st_) : Option (Int32) :=
  bn_ (fX7_swapRegret_l4 s FU_ ((0 : Int32), (0 : Int32))) (fX7_swapRegret_k4)
def fX7_bestSwap (s : st_) (i0 : Int32) : Option ((Int32 ⊕ Nat)) :=
  bn_ (fX7_requireRule s i0) fun r1 =>
  tb_ r1 (fun x5 =>
  bn_ (fX4_cheapestSwap (sb_ s 42) i0) fun r7 =>
  some (.inl r7))
  (fun c6 => some (.inr c6))
def fX7_rival (s : st_) (i0 : Int32) : Option ((Int32 ⊕ Nat)) :=
  bn_ (fX7_requireWithin i0 (0 : Int32) (5 : Int32)) fun r1 =>
  tb_ r1 (fun x5 =>
  bn_ (fX5_hasRival (sb_ s 10)) fun r7 =>
  if r7 = (0 : Int32) then (some (.inl (-2000000000 : Int32)))
  else (if i0 = (0 : Int32) then (some (.inl (s 10 14)))
  else (if i0 = (1 : Int32) then (some (.inl (s 17 0)))
  else (if i0 = (2 : Int32) then (some (.inl (s 17 5)))
  else (if i0 = (3 : Int32) then (bn_ (fX1_cheapestRule (sb_ s 9)) fun r11 =>
  gd_ (ib_ r11 6) <|
  some (.inl ((s 17 5) - (s (3 * ix_ r11 + 24) 5))))
  else (if i0 = (4 : Int32) then (some (.inl (s 42 13)))
  else (some (.inl (s 9 13)))))))))
  (fun c6 => some (.inr c6))
def fX7_cost (s : st_) (i0 : Int32) (i1 : Int32) : Option ((Int32 ⊕ Nat)) :=
  bn_ (fX7_requireArm s i0) fun r1 =>
  tb_ r1 (fun x5 =>
  bn_ (fX4_hasRounds (sb_ s 42) i1 (1 : Int32)) fun r7 =>
  if r7 = (0 : Int32) then (some (.inl (-2000000000 : Int32)))
  else (bn_ (fX4_paidIn (sb_ s 42) i0 i1 (i1 + (1 : Int32))) fun r11 =>
  some (.inl r11)))
  (fun c6 => some (.inr c6))
def fX7_taken (s : st_) (i0 : Int32) : Option (Int32) :=
  bn_ (fX4_hasRounds (sb_ s 42) i0 (1 : Int32)) fun r1 =>
  if r1 = (0 : Int32) then (some (-1 : Int32))
  else (gd_ (ib_ i0 1000) <|
  some (s 51 (ix_ i0)))
def fX7_bestPair (s : st_) (i0 : Int32) : Option ((Int32 ⊕ Nat)) :=
  bn_ (fX7_requireWithin i0 (0 : Int32) (3 : Int32)) fun r1 =>
  tb_ r1 (fun x5 =>
  bn_ (fX4_bestSplit (sb_ s 42)) fun r7 =>
  if i0 = (0 : Int32) then (bn_ (fX4_splitCost (sb_ s 42) r7) fun r11 =>
  some (.inl r11))
  else (if i0 = (1 : Int32) then (bn_ (fX4_cheapestIn (sb_ s 42) (0 : Int32) r7) fun r15 =>
  some (.inl r15))
  else (if i0 = (2 : Int32) then (bn_ (fX4_cheapestIn (sb_ s 42) r7 (s 42 1)) fun r19 =>
  some (.inl r19))
  else (some (.inl r7)))))
  (fun c6 => some (.inr c6))
def fX7_cheaper_x24_67 (v4_x24_67 : Int32) : Option ((Int32 ⊕ Nat)) :=
  some (.inl v4_x24_67)
def fX7_cheaper_k24 (x : Int32) : Option ((Int32 ⊕ Nat)) :=
  fX7_cheaper_x24_67 x
def fX7_cheaper_j61 (v5_b24 : Int32) (v4_j61 : Int32) : Option ((Int32 × Int32) ⊕ (Int32)) :=
  some (.inl (v4_j61, (v5_b24 + (1 : Int32))))
def fX7_cheaper_b24 (s : st_) (i0 : Int32) (i1 : Int32) (v4_b24 : Int32) (v5_b24 : Int32) : Option ((Int32 × Int32) ⊕ (Int32)) :=
  if (s 42 1) ≤ v5_b24 then (some (.inr v4_b24))
  else (bn_ (fX4_paidIn (sb_ s 42) i0 v5_b24 (v5_b24 + (1 : Int32))) fun r13 =>
  bn_ (fX4_paidIn (sb_ s 42) i1 v5_b24 (v5_b24 + (1 : Int32))) fun r17 =>
  if r17 ≤ r13 then (fX7_cheaper_j61 v5_b24 v4_b24)
  else (fX7_cheaper_j61 v5_b24 (v4_b24 + (1 : Int32))))
def fX7_cheaper_l24 (s : st_) (i0 : Int32) (i1 : Int32) : Nat → (Int32 × Int32) → Option (Int32) :=
  it_ (fun v => fX7_cheaper_b24 s i0 i1 v.1 v.2)
def fX7_cheaper (s : st_) (i0 : Int32) (i1 : Int32) : Option ((Int32 ⊕ Nat)) :=
  bn_ (fX7_requireRule s i0) fun r1 =>
  tb_ r1 (fun x5 =>
  bn_ (fX7_requireRule s i1) fun r7 =>
  tb_ r7 (fun x11 =>
  bn_ (fX7_cheaper_l24 s i0 i1 FU_ ((0 : Int32), (0 : Int32))) (fX7_cheaper_k24))
  (fun c12 => some (.inr c12)))
  (fun c6 => some (.inr c6))
def fX7_leads (s : st_) (i0 : Int32) : Option ((Int32 ⊕ Nat)) :=
  bn_ (fX7_requireRule s i0) fun r1 =>
  tb_ r1 (fun x5 =>
  gd_ (ib_ i0 6) <|
  some (.inl (s 54 (ix_ i0))))
  (fun c6 => some (.inr c6))
def fX7_switches_x12_46 (v2_x12_46 : Int32) : Option (Int32) :=
  some v2_x12_46
def fX7_switches_k12 (x : Int32) : Option (Int32) :=
  fX7_switches_x12_46 x
def fX7_switches_j40 (v3_b12 : Int32) (v2_j40 : Int32) : Option ((Int32 × Int32) ⊕ (Int32)) :=
  some (.inl (v2_j40, (v3_b12 + (1 : Int32))))
def fX7_switches_b12 (s : st_) (v2_b12 : Int32) (v3_b12 : Int32) : Option ((Int32 × Int32) ⊕ (Int32)) :=
  if (s 42 1) ≤ v3_b12 then (some (.inr v2_b12))
  else (gd_ (ib_ v3_b12 1000) <|
  gd_ (ib_ (v3_b12 - (1 : Int32)) 1000) <|
  if (s 51 (ix_ v3_b12)) = (s 51 (ix_ (v3_b12 - (1 : Int32)))) then (fX7_switches_j40 v3_b12 v2_b12)
  else (fX7_switches_j40 v3_b12 (v2_b12 + (1 : Int32))))
def fX7_switches_l12 (s : st_) : Nat → (Int32 × Int32) → Option (Int32) :=
  it_ (fun v => fX7_switches_b12 s v.1 v.2)
def fX7_switches (s : st_) : Option (Int32) :=
  bn_ (fX7_switches_l12 s FU_ ((0 : Int32), (1 : Int32))) (fX7_switches_k12)
def fX7_streak_x21_64 (v3_x21_64 : Int32) : Option ((Int32 ⊕ Nat)) :=
  some (.inl v3_x21_64)
def fX7_streak_k21 (x : Int32) : Option ((Int32 ⊕ Nat)) :=
  fX7_streak_x21_64 x
def fX7_streak_j49 (v3_b21 : Int32) (v5_b21 : Int32) (z0_j49 : Int32) : Option ((Int32 × Int32 × Int32) ⊕ (Int32)) :=
  some (.inl ((if v3_b21 < z0_j49 then z0_j49 else v3_b21), z0_j49, (v5_b21 + (1 : Int32))))
def fX7_streak_b21 (s : st_) (i0 : Int32) (v3_b21 : Int32) (v4_b21 : Int32) (v5_b21 : Int32) : Option ((Int32 × Int32 × Int32) ⊕ (Int32)) :=
  if (s 42 1) ≤ v5_b21 then (some (.inr v3_b21))
  else (gd_ (ib_ v5_b21 1000) <|
  if (s 51 (ix_ v5_b21)) = i0 then (fX7_streak_j49 v3_b21 v5_b21 (v4_b21 + (1 : Int32)))
  else (fX7_streak_j49 v3_b21 v5_b21 (0 : Int32)))
def fX7_streak_l21 (s : st_) (i0 : Int32) : Nat → (Int32 × Int32 × Int32) → Option (Int32) :=
  it_ (fun v => fX7_streak_b21 s i0 v.1 v.2.1 v.2.2)
def fX7_streak (s : st_) (i0 : Int32) : Option ((Int32 ⊕ Nat)) :=
  bn_ (fX7_requireRule s i0) fun r1 =>
  tb_ r1 (fun x5 =>
  bn_ (fX7_streak_l21 s i0 FU_ ((0 : Int32), (0 : Int32), (0 : Int32))) (fX7_streak_k21))
  (fun c6 => some (.inr c6))
def fX7_dearest_x30_81 (v4_x30_81 : Int32) : Option ((Int32 ⊕ Nat)) :=
  some (.inl v4_x30_81)
def fX7_dearest_k30 (x : Int32) : Option ((Int32 ⊕ Nat)) :=
  fX7_dearest_x30_81 x
def fX7_dearest_j75 (v6_b30 : Int32) (v4_j75 : Int32) (v5_j75 : Int32) : Option ((Int32 × Int32 × Int32) ⊕ (Int32)) :=
  some (.inl (v4_j75, v5_j75, (v6_b30 + (1 : Int32))))
def fX7_dearest_j67 (v6_b30 : Int32) (r13 : Int32) : Option ((Int32 × Int32 × Int32) ⊕ (Int32)) :=
  fX7_dearest_j75 v6_b30 v6_b30 r13
def fX7_dearest_b30 (s : st_) (i0 : Int32) (i1 : Int32) (v4_b30 : Int32) (v5_b30 : Int32) (v6_b30 : Int32) : Option ((Int32 × Int32 × Int32) ⊕ (Int32)) :=
  if (s 42 1) < (v6_b30 + i1) then (some (.inr v4_b30))
  else (bn_ (fX4_paidIn (sb_ s 42) i0 v6_b30 (v6_b30 + i1)) fun r13 =>
  if v4_b30 = (-1 : Int32) then (fX7_dearest_j67 v6_b30 r13)
  else (if r13 ≤ v5_b30 then (fX7_dearest_j75 v6_b30 v4_b30 v5_b30)
  else (fX7_dearest_j67 v6_b30 r13)))
def fX7_dearest_l30 (s : st_) (i0 : Int32) (i1 : Int32) : Nat → (Int32 × Int32 × Int32) → Option (Int32) :=
  it_ (fun v => fX7_dearest_b30 s i0 i1 v.1 v.2.1 v.2.2)
def fX7_dearest (s : st_) (i0 : Int32) (i1 : Int32) : Option ((Int32 ⊕ Nat)) :=
  bn_ (fX7_requireRule s i0) fun r1 =>
  tb_ r1 (fun x5 =>
  bn_ (fX7_requireWithin i1 (1 : Int32) (1000 : Int32)) fun r7 =>
  tb_ r7 (fun x11 =>
  bn_ (fX7_dearest_l30 s i0 i1 FU_ ((-1 : Int32), (0 : Int32), (0 : Int32))) (fX7_dearest_k30))
  (fun c12 => some (.inr c12)))
  (fun c6 => some (.inr c6))
def fX7_requireWindow (s : st_) (i0 : Int32) (i1 : Int32) : Option ((Unit ⊕ Nat)) :=
  if (0 : Int32) ≤ i0 then (bn_ (fX7_requireWithin i1 (1 : Int32) (1000 : Int32)) fun r1 =>
  tb_ r1 (fun x5 =>
  some (.inl ()))
  (fun c6 => some (.inr c6)))
  else (some (.inr 1))
def fX7_windowRegret (s : st_) (i0 : Int32) (i1 : Int32) : Option ((Int32 ⊕ Nat)) :=
  bn_ (fX7_requireWindow s i0 i1) fun r1 =>
  tb_ r1 (fun x5 =>
  bn_ (fX4_hasRounds (sb_ s 42) i0 i1) fun r7 =>
  if r7 = (0 : Int32) then (some (.inl (-2000000000 : Int32)))
  else (bn_ (fX4_regretOver (sb_ s 42) i0 (i0 + i1)) fun r11 =>
  some (.inl r11)))
  (fun c6 => some (.inr c6))
def fX7_windowBest (s : st_) (i0 : Int32) (i1 : Int32) : Option ((Int32 ⊕ Nat)) :=
  bn_ (fX7_requireWindow s i0 i1) fun r1 =>
  tb_ r1 (fun x5 =>
  bn_ (fX4_hasRounds (sb_ s 42) i0 i1) fun r7 =>
  if r7 = (0 : Int32) then (some (.inl (-1 : Int32)))
  else (bn_ (fX4_cheapestIn (sb_ s 42) i0 (i0 + i1)) fun r11 =>
  some (.inl r11)))
  (fun c6 => some (.inr c6))
def fX7_worstWindow_x24_72 (v3_x24_72 : Int32) : Option ((Int32 ⊕ Nat)) :=
  some (.inl v3_x24_72)
def fX7_worstWindow_k24 (x : Int32) : Option ((Int32 ⊕ Nat)) :=
  fX7_worstWindow_x24_72 x
def fX7_worstWindow_j66 (v5_b24 : Int32) (v3_j66 : Int32) (v4_j66 : Int32) : Option ((Int32 × Int32 × Int32) ⊕ (Int32)) :=
  some (.inl (v3_j66, v4_j66, (v5_b24 + (1 : Int32))))
def fX7_worstWindow_j59 (v5_b24 : Int32) (r7 : Int32) : Option ((Int32 × Int32 × Int32) ⊕ (Int32)) :=
  fX7_worstWindow_j66 v5_b24 v5_b24 r7
def fX7_worstWindow_b24 (s : st_) (i0 : Int32) (v3_b24 : Int32) (v4_b24 : Int32) (v5_b24 : Int32) : Option ((Int32 × Int32 × Int32) ⊕ (Int32)) :=
  if (s 42 1) < (v5_b24 + i0) then (some (.inr v3_b24))
  else (bn_ (fX4_regretOver (sb_ s 42) v5_b24 (v5_b24 + i0)) fun r7 =>
  if v3_b24 = (-1 : Int32) then (fX7_worstWindow_j59 v5_b24 r7)
  else (if r7 ≤ v4_b24 then (fX7_worstWindow_j66 v5_b24 v3_b24 v4_b24)
  else (fX7_worstWindow_j59 v5_b24 r7)))
def fX7_worstWindow_l24 (s : st_) (i0 : Int32) : Nat → (Int32 × Int32 × Int32) → Option (Int32) :=
  it_ (fun v => fX7_worstWindow_b24 s i0 v.1 v.2.1 v.2.2)
def fX7_worstWindow (s : st_) (i0 : Int32) : Option ((Int32 ⊕ Nat)) :=
  bn_ (fX7_requireWithin i0 (1 : Int32) (1000 : Int32)) fun r1 =>
  tb_ r1 (fun x5 =>
  bn_ (fX7_worstWindow_l24 s i0 FU_ ((-1 : Int32), (0 : Int32), (0 : Int32))) (fX7_worstWindow_k24))
  (fun c6 => some (.inr c6))
def fX7_meanCost (s : st_) (i0 : Int32) : Option ((UInt64 ⊕ Nat)) :=
  bn_ (fX7_requireArm s i0) fun r1 =>
  tb_ r1 (fun x5 =>
  if (s 9 9) = (0 : Int32) then (some (.inl FP.dconst0))
  else (bn_ (fX1_armOf (sb_ s 9) i0) fun r7 =>
  gd_ (n64_ (FP.ddiv (FP.i2d (s (9 + r7) 5)) (FP.i2d (s 9 9)))) <|
  some (.inl (FP.ddiv (FP.i2d (s (9 + r7) 5)) (FP.i2d (s 9 9))))))
  (fun c6 => some (.inr c6))
def fX7_share (s : st_) (i0 : Int32) : Option ((UInt32 ⊕ Nat)) :=
  bn_ (fX7_requireRule s i0) fun r1 =>
  tb_ r1 (fun x5 =>
  bn_ (fX1_weightSum (sb_ s 9)) fun r7 =>
  if r7 = (0 : Int32) then (some (.inl FP.fconst0))
  else (gd_ (ib_ i0 6) <|
  gd_ (n32_ (FP.fdiv (FP.i2f (s 21 (ix_ i0))) (FP.i2f r7))) <|
  some (.inl (FP.fdiv (FP.i2f (s 21 (ix_ i0))) (FP.i2f r7)))))
  (fun c6 => some (.inr c6))
def fX7_run_x27_45 (s_x27_45 : st_) : Option (st_ × (Int32 ⊕ Nat)) :=
  some (s_x27_45, (.inl (s_x27_45 9 9)))
def fX7_run_k27 (x : st_) : Option (st_ × (Int32 ⊕ Nat)) :=
  fX7_run_x27_45 x
def fX7_run_b27 (i0 : Int32) (v2_b27 : Int32) (s_b27 : st_) : Option ((Int32 × st_) ⊕ (st_)) :=
  if i0 ≤ v2_b27 then (some (.inr s_b27))
  else (bn_ (fX2_makeRound (sb_ s_b27 8)) fun r7 =>
  bd_ (mg_ s_b27 8 75 r7) fun s11 =>
  some (.inl ((v2_b27 + (1 : Int32)), s11)))
def fX7_run_l27 (i0 : Int32) : Nat → (Int32 × st_) → Option (st_) :=
  it_ (fun v => fX7_run_b27 i0 v.1 v.2)
def fX7_run (s : st_) (i0 : Int32) : Option (st_ × (Int32 ⊕ Nat)) :=
  bn_ (fX7_requireWithin i0 (1 : Int32) (if ((1000 : Int32) - (s 9 9)) < (200 : Int32) then ((1000 : Int32) - (s 9 9)) else (200 : Int32))) fun r1 =>
  tb_ r1 (fun x5 =>
  bn_ (fX7_run_l27 i0 FU_ ((0 : Int32), s)) (fX7_run_k27))
  (fun c6 => some (s, (.inr c6)))
def fX7_runToBreach_x29_64 (s_x29_64 : st_) : Option (st_ × (Int32 ⊕ Nat)) :=
  some (s_x29_64, (.inl (-1 : Int32)))
def fX7_runToBreach_x29_54 (v3_x29_54 : Int32) (s_x29_54 : st_) : Option (st_ × (Int32 ⊕ Nat)) :=
  some (s_x29_54, (.inl (v3_x29_54 + (1 : Int32))))
def fX7_runToBreach_k29 (x : (Int32 × st_) ⊕ (st_)) : Option (st_ × (Int32 ⊕ Nat)) :=
  Sum.elim (fun z => fX7_runToBreach_x29_54 z.1 z.2) (fun z => fX7_runToBreach_x29_64 z) x
def fX7_runToBreach_b29 (s : st_) (i0 : Int32) (v3_b29 : Int32) (s_b29 : st_) : Option ((Int32 × st_) ⊕ ((Int32 × st_) ⊕ (st_))) :=
  if (if ((1000 : Int32) - (s 9 9)) < i0 then ((1000 : Int32) - (s 9 9)) else i0) ≤ v3_b29 then (some (.inr (.inr s_b29)))
  else (bn_ (fX2_makeRound (sb_ s_b29 8)) fun r7 =>
  bd_ (mg_ s_b29 8 75 r7) fun s11 =>
  bn_ (fX1_isBreach (sb_ s11 9)) fun r13 =>
  if r13 = (0 : Int32) then (some (.inl ((v3_b29 + (1 : Int32)), s11)))
  else (some (.inr (.inl (v3_b29, s11)))))
def fX7_runToBreach_l29 (s : st_) (i0 : Int32) : Nat → (Int32 × st_) → Option ((Int32 × st_) ⊕ (st_)) :=
  it_ (fun v => fX7_runToBreach_b29 s i0 v.1 v.2)
def fX7_runToBreach (s : st_) (i0 : Int32) : Option (st_ × (Int32 ⊕ Nat)) :=
  bn_ (fX7_requireWithin i0 (1 : Int32) (200 : Int32)) fun r1 =>
  tb_ r1 (fun x5 =>
  bn_ (fX7_runToBreach_l29 s i0 FU_ ((0 : Int32), s)) (fX7_runToBreach_k29))
  (fun c6 => some (s, (.inr c6)))
def fX7_hurtOf (s : st_) (i0 : Int32) : Option (st_ × (Int32 ⊕ Nat)) :=
  bn_ (fX7_requireCylinder s i0) fun r1 =>
  tb_ r1 (fun x5 =>
  bn_ (fX1_isFull (sb_ s 9)) fun r7 =>
  if r7 = (0 : Int32) then (bn_ (fX1_comingRule (sb_ s 9)) fun r11 =>
  bn_ (fX1_foreseeHurts (sb_ s 9) r11) fun r15 =>
  bd_ (mg_ s 9 33 r15) fun s19 =>
  gd_ (ib_ i0 100) <|
  some (s19, (.inl (s19 22 (ix_ i0)))))
  else (some (s, (.inl (-2000000000 : Int32)))))
  (fun c6 => some (s, (.inr c6)))
def fX7_worst (s : st_) : Option (st_ × Int32) :=
  bn_ (fX1_isFull (sb_ s 9)) fun r1 =>
  if r1 = (0 : Int32) then (bn_ (fX1_comingRule (sb_ s 9)) fun r5 =>
  bn_ (fX1_foreseeHurts (sb_ s 9) r5) fun r9 =>
  bd_ (mg_ s 9 33 r9) fun s13 =>
  bn_ (fX1_mostHurtful (sb_ s13 9)) fun r15 =>
  some (s13, r15))
  else (some (s, (-1 : Int32)))
def fX7_regretIn (s : st_) (i0 : Int32) : Option (st_ × (Int32 ⊕ Nat)) :=
  bn_ (fX7_requireWithin i0 (1 : Int32) (200 : Int32)) fun r1 =>
  tb_ r1 (fun x5 =>
  bn_ (fX1_copyFrom (sb_ s 83) (sb_ s 9)) fun r7 =>
  bd_ (mg_ s 83 33 r7) fun s11 =>
  bn_ (fX1_letPass (sb_ s11 83) i0) fun r13 =>
  bd_ (mg_ s11 83 33 r13) fun s17 =>
  bn_ (fX1_regretNow (sb_ s17 83)) fun r19 =>
  some (s17, (.inl r19)))
  (fun c6 => some (s, (.inr c6)))
def fX7_costIn (s : st_) (i0 : Int32) (i1 : Int32) : Option (st_ × (Int32 ⊕ Nat)) :=
  bn_ (fX7_requireArm s i0) fun r1 =>
  tb_ r1 (fun x5 =>
  bn_ (fX7_requireWithin i1 (1 : Int32) (200 : Int32)) fun r7 =>
  tb_ r7 (fun x11 =>
  bn_ (fX1_copyFrom (sb_ s 83) (sb_ s 9)) fun r13 =>
  bd_ (mg_ s 83 33 r13) fun s17 =>
  bn_ (fX1_letPass (sb_ s17 83) i1) fun r19 =>
  bd_ (mg_ s17 83 33 r19) fun s23 =>
  bn_ (fX1_armOf (sb_ s23 83) i0) fun r25 =>
  bn_ (fX1_armOf (sb_ s23 9) i0) fun r29 =>
  some (s23, (.inl ((s23 (83 + r25) 5) - (s23 (9 + r29) 5)))))
  (fun c12 => some (s, (.inr c12))))
  (fun c6 => some (s, (.inr c6)))
def fX7_breachIn_x35_68 (s_x35_68 : st_) : Option (st_ × Int32) :=
  some (s_x35_68, (-1 : Int32))
def fX7_breachIn_x35_60 (v1_x35_60 : Int32) (s_x35_60 : st_) : Option (st_ × Int32) :=
  some (s_x35_60, v1_x35_60)
def fX7_breachIn_k35 (x : (Int32 × st_) ⊕ (st_)) : Option (st_ × Int32) :=
  Sum.elim (fun z => fX7_breachIn_x35_60 z.1 z.2) (fun z => fX7_breachIn_x35_68 z) x
def fX7_breachIn_b35 (v1_b35 : Int32) (s_b35 : st_) : Option ((Int32 × st_) ⊕ ((Int32 × st_) ⊕ (st_))) :=
  if (200 : Int32) < v1_b35 then (some (.inr (.inr s_b35)))
  else (bn_ (fX1_letPass (sb_ s_b35 83) (1 : Int32)) fun r7 =>
  bd_ (mg_ s_b35 83 33 r7) fun s11 =>
  bn_ (fX1_isBreach (sb_ s11 83)) fun r13 =>
  if r13 = (0 : Int32) then (some (.inl ((v1_b35 + (1 : Int32)), s11)))
  else (some (.inr (.inl (v1_b35, s11)))))
def fX7_breachIn_l35 : Nat → (Int32 × st_) → Option ((Int32 × st_) ⊕ (st_)) :=
  it_ (fun v => fX7_breachIn_b35 v.1 v.2)
def fX7_breachIn (s : st_) : Option (st_ × Int32) :=
  if (s 10 17) = (-1 : Int32) then (some (s, (-1 : Int32)))
  else (bn_ (fX1_copyFrom (sb_ s 83) (sb_ s 9)) fun r1 =>
  bd_ (mg_ s 83 33 r1) fun s5 =>
  bn_ (fX7_breachIn_l35 FU_ ((1 : Int32), s5)) (fX7_breachIn_k35))
def fX7_regretKeeping (s : st_) (i0 : Int32) (i1 : Int32) : Option (st_ × (Int32 ⊕ Nat)) :=
  bn_ (fX7_requireRule s i0) fun r1 =>
  tb_ r1 (fun x5 =>
  bn_ (fX7_requireWithin i1 (1 : Int32) (200 : Int32)) fun r7 =>
  tb_ r7 (fun x11 =>
  bn_ (fX1_copyFrom (sb_ s 83) (sb_ s 9)) fun r13 =>
  bd_ (mg_ s 83 33 r13) fun s17 =>
  bn_ (fX5_takeMaster (sb_ s17 84) (2 : Int32) i0) fun r19 =>
  bd_ (mg_ s17 84 4 r19) fun s23 =>
  bn_ (fX1_letPass (sb_ s23 83) i1) fun r25 =>
  bd_ (mg_ s23 83 33 r25) fun s29 =>
  bn_ (fX1_regretNow (sb_ s29 83)) fun r31 =>
  some (s29, (.inl r31)))
  (fun c12 => some (s, (.inr c12))))
  (fun c6 => some (s, (.inr c6)))
def fX7_regretAgainst (s : st_) (i0 : Int32) (i1 : Int32) : Option (st_ × (Int32 ⊕ Nat)) :=
  bn_ (fX7_requireWithin i0 (0 : Int32) (5 : Int32)) fun r1 =>
  tb_ r1 (fun x5 =>
  bn_ (fX7_requireWithin i1 (1 : Int32) (200 : Int32)) fun r7 =>
  tb_ r7 (fun x11 =>
  bn_ (fX1_copyFrom (sb_ s 83) (sb_ s 9)) fun r13 =>
  bd_ (mg_ s 83 33 r13) fun s17 =>
  bd_ (pt_ s17 84 11 i0) fun s19 =>
  bn_ (fX1_letPass (sb_ s19 83) i1) fun r23 =>
  bd_ (mg_ s19 83 33 r23) fun s27 =>
  bn_ (fX1_regretNow (sb_ s27 83)) fun r29 =>
  some (s27, (.inl r29)))
  (fun c12 => some (s, (.inr c12))))
  (fun c6 => some (s, (.inr c6)))
def fX7_rivalIn (s : st_) (i0 : Int32) : Option (st_ × (Int32 ⊕ Nat)) :=
  bn_ (fX7_requireWithin i0 (1 : Int32) (200 : Int32)) fun r1 =>
  tb_ r1 (fun x5 =>
  bn_ (fX5_hasRival (sb_ s 10)) fun r7 =>
  if r7 = (0 : Int32) then (some (s, (.inl (-2000000000 : Int32))))
  else (bn_ (fX1_copyFrom (sb_ s 83) (sb_ s 9)) fun r11 =>
  bd_ (mg_ s 83 33 r11) fun s15 =>
  bn_ (fX1_letPass (sb_ s15 83) i0) fun r17 =>
  bd_ (mg_ s15 83 33 r17) fun s21 =>
  some (s21, (.inl ((s21 88 5) - (s21 91 5))))))
  (fun c6 => some (s, (.inr c6)))
def fX7_budgetFor_x2_69 (s_x2_69 : st_) : Option (st_ × Int32) :=
  some (s_x2_69, (-1 : Int32))
def fX7_budgetFor_x2_61 (v2_x2_61 : Int32) (s_x2_61 : st_) : Option (st_ × Int32) :=
  some (s_x2_61, v2_x2_61)
def fX7_budgetFor_k2 (x : (Int32 × st_) ⊕ (st_)) : Option (st_ × Int32) :=
  Sum.elim (fun z => fX7_budgetFor_x2_61 z.1 z.2) (fun z => fX7_budgetFor_x2_69 z) x
def fX7_budgetFor_b2 (i0 : Int32) (v2_b2 : Int32) (s_b2 : st_) : Option ((Int32 × st_) ⊕ ((Int32 × st_) ⊕ (st_))) :=
  if (20 : Int32) < v2_b2 then (some (.inr (.inr s_b2)))
  else (bn_ (fX1_copyFrom (sb_ s_b2 83) (sb_ s_b2 9)) fun r1 =>
  bd_ (mg_ s_b2 83 33 r1) fun s5 =>
  bd_ (pt_ s5 84 11 (5 : Int32)) fun s7 =>
  bn_ (fX1_takeBudget (sb_ s7 83) v2_b2) fun r11 =>
  bd_ (mg_ s7 83 33 r11) fun s15 =>
  bn_ (fX1_letPass (sb_ s15 83) (20 : Int32)) fun r17 =>
  bd_ (mg_ s15 83 33 r17) fun s21 =>
  bn_ (fX1_regretNow (sb_ s21 83)) fun r23 =>
  if r23 < i0 then (some (.inl ((v2_b2 + (1 : Int32)), s21)))
  else (some (.inr (.inl (v2_b2, s21)))))
def fX7_budgetFor_l2 (i0 : Int32) : Nat → (Int32 × st_) → Option ((Int32 × st_) ⊕ (st_)) :=
  it_ (fun v => fX7_budgetFor_b2 i0 v.1 v.2)
def fX7_budgetFor (s : st_) (i0 : Int32) : Option (st_ × Int32) :=
  bn_ (fX7_budgetFor_l2 i0 FU_ ((0 : Int32), s)) (fX7_budgetFor_k2)
