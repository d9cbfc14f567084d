/-! the law: areCostsRight -/
def mL_areCostsRight : mt_ := (yL_areCostsRight, cL_areCostsRight, 8, some .boolean, [], { frames := 3, locals := 67, cells := 0, slots := 0 })
theorem ckL_areCostsRight : cokS_ mL_areCostsRight := ⟨⟨(uw_mem 1209 (by decide +kernel) (by decide +kernel)), (uw_mem 28 (by decide +kernel) (by decide +kernel)), by decide +kernel, by decide +kernel⟩, (uw_mem 1208 (by decide +kernel) (by decide +kernel))⟩
theorem nkL_areCostsRight : nok_ mL_areCostsRight 2 := by decide +kernel
theorem lkL_192 : Cond.methodLink RL 192 yX7_best ∈ uw_ := (uw_mem 1291 (by decide +kernel) (by decide +kernel))
theorem lkL_182 : Cond.methodLink RL 182 yX7_regretTo ∈ uw_ := (uw_mem 1267 (by decide +kernel) (by decide +kernel))
theorem lkL_188 : Cond.methodLink RL 188 yX7_share ∈ uw_ := (uw_mem 1286 (by decide +kernel) (by decide +kernel))
theorem lkL_173 : Cond.methodLink RL 173 yX7_leads ∈ uw_ := (uw_mem 1254 (by decide +kernel) (by decide +kernel))
theorem lkL_176 : Cond.methodLink RL 176 yX7_swapCost ∈ uw_ := (uw_mem 1258 (by decide +kernel) (by decide +kernel))
theorem lkL_179 : Cond.methodLink RL 179 yX7_streak ∈ uw_ := (uw_mem 1262 (by decide +kernel) (by decide +kernel))
theorem lkL_185 : Cond.methodLink RL 185 yX7_bestSwap ∈ uw_ := (uw_mem 1278 (by decide +kernel) (by decide +kernel))
theorem lkL_161 : Cond.methodLink RL 161 yX7_cost ∈ uw_ := (uw_mem 1214 (by decide +kernel) (by decide +kernel))
theorem kwL_164 : Cond.constant RL 164 (-2000000000 : Int32) ∈ uw_ := (uw_mem 1238 (by decide +kernel) (by decide +kernel))
theorem lkL_165 : Cond.methodLink RL 165 yX7_meanCost ∈ uw_ := (uw_mem 1239 (by decide +kernel) (by decide +kernel))
theorem lkL_169 : Cond.methodLink RL 169 yX7_waiting ∈ uw_ := (uw_mem 1243 (by decide +kernel) (by decide +kernel))
def fL_areCostsRight_j516 : Option (Int32) :=
  some (0 : Int32)
def fL_areCostsRight_x431_467 (s : st_) (r1 : Int32) (v3_x236_428 : Int32) (v4_x236_428 : Int32) (v5_x236_428 : Int32) : Option (Int32) :=
  if v3_x236_428 = r1 then (bn_ (gX7_arm s (-1 : Int32) (3 : Int32)) fun r5 =>
  if v4_x236_428 = r5 then (if v5_x236_428 = r1 then (bn_ (gX7_regret s (0 : Int32)) fun r9 =>
  bn_ (gX7_best s) fun r13 =>
  bn_ (gX7_regretTo s r13) fun r17 =>
  if r9 = r17 then (bn_ (gX7_swapRegret s) fun r21 =>
  if r21 < (0 : Int32) then (fL_areCostsRight_j516)
  else (some (1 : Int32)))
  else (fL_areCostsRight_j516))
  else (fL_areCostsRight_j516))
  else (fL_areCostsRight_j516))
  else (fL_areCostsRight_j516)
def fL_areCostsRight_x431_459 : Option (Int32) :=
  some (0 : Int32)
def fL_areCostsRight_k431 (s : st_) (r1 : Int32) (v3_x236_428 : Int32) (v4_x236_428 : Int32) (v5_x236_428 : Int32) (x : (Unit) ⊕ (Unit)) : Option (Int32) :=
  Sum.elim (fun z => fL_areCostsRight_x431_459) (fun z => fL_areCostsRight_x431_467 s r1 v3_x236_428 v4_x236_428 v5_x236_428) x
def fL_areCostsRight_b431 (s : st_) (i0 : Int32) (v6_x236_428 : Int32) (v7_b431 : Int32) : Option ((Int32) ⊕ ((Unit) ⊕ (Unit))) :=
  if i0 ≤ v7_b431 then (some (.inr (.inr ())))
  else (bn_ (gX7_share s v7_b431) fun r25 =>
  bn_ (gX7_rule s v7_b431 (2 : Int32)) fun r29 =>
  gd_ (n32_ (FP.fdiv (FP.i2f r29) (FP.i2f v6_x236_428))) <|
  if (Op.cmpValue (FP.fcmp r25 (FP.fdiv (FP.i2f r29) (FP.i2f v6_x236_428))) .l) = (0 : Int32) then (some (.inl (v7_b431 + (1 : Int32))))
  else (some (.inr (.inl ()))))
def fL_areCostsRight_l431 (s : st_) (i0 : Int32) (v6_x236_428 : Int32) : Nat → Int32 → Option ((Unit) ⊕ (Unit)) :=
  it_ (fun v => fL_areCostsRight_b431 s i0 v6_x236_428 v)
def fL_areCostsRight_x236_428 (s : st_) (i0 : Int32) (r1 : Int32) (v3_x236_428 : Int32) (v4_x236_428 : Int32) (v5_x236_428 : Int32) (v6_x236_428 : Int32) : Option (Int32) :=
  bn_ (fL_areCostsRight_l431 s i0 v6_x236_428 FU_ (0 : Int32)) (fL_areCostsRight_k431 s r1 v3_x236_428 v4_x236_428 v5_x236_428)
def fL_areCostsRight_x236_395 : Option (Int32) :=
  some (0 : Int32)
def fL_areCostsRight_x236_420 : Option (Int32) :=
  some (0 : Int32)
def fL_areCostsRight_k236 (s : st_) (i0 : Int32) (r1 : Int32) (x : (Unit) ⊕ ((Unit) ⊕ (Int32 × Int32 × Int32 × Int32))) : Option (Int32) :=
  Sum.elim (fun z => fL_areCostsRight_x236_395) (Sum.elim (fun z => fL_areCostsRight_x236_420) (fun z => fL_areCostsRight_x236_428 s i0 r1 z.1 z.2.1 z.2.2.1 z.2.2.2)) x
def fL_areCostsRight_j378 (s : st_) (v3_b236 : Int32) (v4_b236 : Int32) (v5_b236 : Int32) (v6_b236 : Int32) (v7_b236 : Int32) (r34 : Int32) (r38 : Int32) (r42 : Int32) (r46 : Int32) (z0_j363 : Int32) (z1_j378 : Int32) : Option ((Int32 × Int32 × Int32 × Int32 × Int32) ⊕ ((Unit) ⊕ ((Unit) ⊕ (Int32 × Int32 × Int32 × Int32)))) :=
  if z0_j363 = z1_j378 then (bn_ (gX7_regretTo s v7_b236) fun r86 =>
  bn_ (gX7_regret s (0 : Int32)) fun r90 =>
  if r86 ≤ r90 then (bn_ (gX7_bestSwap s v7_b236) fun r94 =>
  bn_ (gX7_swapCost s v7_b236 r94) fun r98 =>
  bn_ (gX7_swapCost s v7_b236 v7_b236) fun r102 =>
  if r98 ≤ r102 then (some (.inl ((v3_b236 + r34), (v4_b236 + r38), (v5_b236 + r42), (v6_b236 + r46), (v7_b236 + (1 : Int32)))))
  else (some (.inr (.inr (.inl ())))))
  else (some (.inr (.inl ()))))
  else (some (.inr (.inl ())))
def fL_areCostsRight_j363 (s : st_) (v3_b236 : Int32) (v4_b236 : Int32) (v5_b236 : Int32) (v6_b236 : Int32) (v7_b236 : Int32) (r34 : Int32) (r38 : Int32) (r42 : Int32) (r46 : Int32) (z0_j363 : Int32) : Option ((Int32 × Int32 × Int32 × Int32 × Int32) ⊕ ((Unit) ⊕ ((Unit) ⊕ (Int32 × Int32 × Int32 × Int32)))) :=
  bn_ (gX7_rule s v7_b236 (3 : Int32)) fun r82 =>
  if r82 = (0 : Int32) then (fL_areCostsRight_j378 s v3_b236 v4_b236 v5_b236 v6_b236 v7_b236 r34 r38 r42 r46 z0_j363 (1 : Int32))
  else (fL_areCostsRight_j378 s v3_b236 v4_b236 v5_b236 v6_b236 v7_b236 r34 r38 r42 r46 z0_j363 (0 : Int32))
def fL_areCostsRight_b236 (s : st_) (i0 : Int32) (v3_b236 : Int32) (v4_b236 : Int32) (v5_b236 : Int32) (v6_b236 : Int32) (v7_b236 : Int32) : Option ((Int32 × Int32 × Int32 × Int32 × Int32) ⊕ ((Unit) ⊕ ((Unit) ⊕ (Int32 × Int32 × Int32 × Int32)))) :=
  if i0 ≤ v7_b236 then (some (.inr (.inr (.inr (v3_b236, v4_b236, v5_b236, v6_b236)))))
  else (bn_ (gX7_rule s v7_b236 (3 : Int32)) fun r34 =>
  bn_ (gX7_rule s v7_b236 (5 : Int32)) fun r38 =>
  bn_ (gX7_leads s v7_b236) fun r42 =>
  bn_ (gX7_rule s v7_b236 (2 : Int32)) fun r46 =>
  bn_ (gX7_rule s v7_b236 (2 : Int32)) fun r50 =>
  if r50 < (1 : Int32) then (some (.inr (.inl ())))
  else (bn_ (gX7_rule s v7_b236 (4 : Int32)) fun r54 =>
  bn_ (gX7_arm s v7_b236 (3 : Int32)) fun r58 =>
  if r54 = r58 then (bn_ (gX7_swapCost s v7_b236 v7_b236) fun r62 =>
  bn_ (gX7_rule s v7_b236 (5 : Int32)) fun r66 =>
  if r62 = r66 then (bn_ (gX7_streak s v7_b236) fun r70 =>
  bn_ (gX7_rule s v7_b236 (3 : Int32)) fun r74 =>
  if r74 < r70 then (some (.inr (.inl ())))
  else (bn_ (gX7_streak s v7_b236) fun r78 =>
  if r78 = (0 : Int32) then (fL_areCostsRight_j363 s v3_b236 v4_b236 v5_b236 v6_b236 v7_b236 r34 r38 r42 r46 (1 : Int32))
  else (fL_areCostsRight_j363 s v3_b236 v4_b236 v5_b236 v6_b236 v7_b236 r34 r38 r42 r46 (0 : Int32))))
  else (some (.inr (.inl ()))))
  else (some (.inr (.inl ())))))
def fL_areCostsRight_l236 (s : st_) (i0 : Int32) : Nat → (Int32 × Int32 × Int32 × Int32 × Int32) → Option ((Unit) ⊕ ((Unit) ⊕ (Int32 × Int32 × Int32 × Int32))) :=
  it_ (fun v => fL_areCostsRight_b236 s i0 v.1 v.2.1 v.2.2.1 v.2.2.2.1 v.2.2.2.2)
def fL_areCostsRight_x7_222 (s : st_) (i0 : Int32) (r1 : Int32) : Option (Int32) :=
  bn_ (fL_areCostsRight_l236 s i0 FU_ ((0 : Int32), (0 : Int32), (0 : Int32), (0 : Int32), (0 : Int32))) (fL_areCostsRight_k236 s i0 r1)
def fL_areCostsRight_x7_118 : Option (Int32) :=
  some (0 : Int32)
def fL_areCostsRight_x7_154 : Option (Int32) :=
  some (0 : Int32)
def fL_areCostsRight_x7_208 : Option (Int32) :=
  some (0 : Int32)
def fL_areCostsRight_k7 (s : st_) (i0 : Int32) (r1 : Int32) (x : (Unit) ⊕ ((Unit) ⊕ ((Unit) ⊕ (Unit)))) : Option (Int32) :=
  Sum.elim (fun z => fL_areCostsRight_x7_118) (Sum.elim (fun z => fL_areCostsRight_x7_154) (Sum.elim (fun z => fL_areCostsRight_x7_208) (fun z => fL_areCostsRight_x7_222 s i0 r1))) x
def fL_areCostsRight_x159_216 (v3_b7 : Int32) : Option ((Int32) ⊕ ((Unit) ⊕ ((Unit) ⊕ ((Unit) ⊕ (Unit))))) :=
  some (.inl (v3_b7 + (1 : Int32)))
def fL_areCostsRight_x159_208 : Option ((Int32) ⊕ ((Unit) ⊕ ((Unit) ⊕ ((Unit) ⊕ (Unit))))) :=
  some (.inr (.inr (.inr (.inl ()))))
def fL_areCostsRight_k159 (v3_b7 : Int32) (x : (Unit) ⊕ (Unit)) : Option ((Int32) ⊕ ((Unit) ⊕ ((Unit) ⊕ ((Unit) ⊕ (Unit))))) :=
  Sum.elim (fun z => fL_areCostsRight_x159_208) (fun z => fL_areCostsRight_x159_216 v3_b7) x
def fL_areCostsRight_j210 (v5_b159 : Int32) : Option ((Int32) ⊕ ((Unit) ⊕ (Unit))) :=
  some (.inl (v5_b159 + (1 : Int32)))
def fL_areCostsRight_b159 (s : st_) (r1 : Int32) (v3_b7 : Int32) (v5_b159 : Int32) : Option ((Int32) ⊕ ((Unit) ⊕ (Unit))) :=
  bn_ (gX7_arm s v3_b7 (2 : Int32)) fun r150 =>
  if r150 ≤ v5_b159 then (some (.inr (.inr ())))
  else (bn_ (gX7_waiting s v3_b7 v5_b159 (1 : Int32)) fun r154 =>
  if r1 < r154 then (some (.inr (.inl ())))
  else (if v5_b159 ≤ (0 : Int32) then (fL_areCostsRight_j210 v5_b159)
  else (bn_ (gX7_waiting s v3_b7 v5_b159 (1 : Int32)) fun r158 =>
  bn_ (gX7_waiting s v3_b7 (v5_b159 - (1 : Int32)) (1 : Int32)) fun r162 =>
  if r162 ≤ r158 then (fL_areCostsRight_j210 v5_b159)
  else (some (.inr (.inl ()))))))
def fL_areCostsRight_l159 (s : st_) (r1 : Int32) (v3_b7 : Int32) : Nat → Int32 → Option ((Unit) ⊕ (Unit)) :=
  it_ (fun v => fL_areCostsRight_b159 s r1 v3_b7 v)
def fL_areCostsRight_j150 (s : st_) (r1 : Int32) (v3_b7 : Int32) (r146 : UInt64) (z1_j150 : UInt64) : Option ((Int32) ⊕ ((Unit) ⊕ ((Unit) ⊕ ((Unit) ⊕ (Unit))))) :=
  if (Op.cmpValue (FP.dcmp r146 z1_j150) .l) = (0 : Int32) then (bn_ (fL_areCostsRight_l159 s r1 v3_b7 FU_ (0 : Int32)) (fL_areCostsRight_k159 v3_b7))
  else (some (.inr (.inr (.inl ()))))
def fL_areCostsRight_x18_42 (s : st_) (r1 : Int32) (v3_b7 : Int32) (v4_x18_42 : Int32) : Option ((Int32) ⊕ ((Unit) ⊕ ((Unit) ⊕ ((Unit) ⊕ (Unit))))) :=
  bn_ (gX7_arm s v3_b7 (3 : Int32)) fun r106 =>
  if v4_x18_42 = r106 then (bn_ (gX7_arm s v3_b7 (2 : Int32)) fun r110 =>
  bn_ (gX7_arm s (-1 : Int32) (2 : Int32)) fun r114 =>
  if r110 = r114 then (bn_ (gX7_arm s v3_b7 (6 : Int32)) fun r118 =>
  bn_ (gX7_arm s (-1 : Int32) (6 : Int32)) fun r122 =>
  if r118 = r122 then (bn_ (gX7_arm s v3_b7 (5 : Int32)) fun r126 =>
  if r1 < r126 then (some (.inr (.inl ())))
  else (bn_ (gX7_arm s v3_b7 (0 : Int32)) fun r130 =>
  if r130 < (0 : Int32) then (some (.inr (.inl ())))
  else (bn_ (gX7_arm s v3_b7 (0 : Int32)) fun r134 =>
  bn_ (gX7_setting s (0 : Int32)) fun r138 =>
  if r134 < r138 then (bn_ (gX7_cost s v3_b7 r1) fun r142 =>
  if r142 = (-2000000000 : Int32) then (bn_ (gX7_meanCost s v3_b7) fun r146 =>
  if r1 = (0 : Int32) then (fL_areCostsRight_j150 s r1 v3_b7 r146 FP.dconst0)
  else (gd_ (n64_ (FP.ddiv (FP.i2d v4_x18_42) (FP.i2d r1))) <|
  fL_areCostsRight_j150 s r1 v3_b7 r146 (FP.ddiv (FP.i2d v4_x18_42) (FP.i2d r1))))
  else (some (.inr (.inr (.inl ())))))
  else (some (.inr (.inl ()))))))
  else (some (.inr (.inl ()))))
  else (some (.inr (.inl ()))))
  else (some (.inr (.inl ())))
def fL_areCostsRight_k18 (s : st_) (r1 : Int32) (v3_b7 : Int32) (x : Int32) : Option ((Int32) ⊕ ((Unit) ⊕ ((Unit) ⊕ ((Unit) ⊕ (Unit))))) :=
  fL_areCostsRight_x18_42 s r1 v3_b7 x
def fL_areCostsRight_b18 (s : st_) (r1 : Int32) (v3_b7 : Int32) (v4_b18 : Int32) (v5_b18 : Int32) : Option ((Int32 × Int32) ⊕ (Int32)) :=
  if r1 ≤ v5_b18 then (some (.inr v4_b18))
  else (bn_ (gX7_cost s v3_b7 v5_b18) fun r167 =>
  some (.inl ((v4_b18 + r167), (v5_b18 + (1 : Int32)))))
def fL_areCostsRight_l18 (s : st_) (r1 : Int32) (v3_b7 : Int32) : Nat → (Int32 × Int32) → Option (Int32) :=
  it_ (fun v => fL_areCostsRight_b18 s r1 v3_b7 v.1 v.2)
def fL_areCostsRight_b7 (s : st_) (i0 : Int32) (r1 : Int32) (v3_b7 : Int32) : Option ((Int32) ⊕ ((Unit) ⊕ ((Unit) ⊕ ((Unit) ⊕ (Unit))))) :=
  if i0 ≤ v3_b7 then (some (.inr (.inr (.inr (.inr ())))))
  else (bn_ (fL_areCostsRight_l18 s r1 v3_b7 FU_ ((0 : Int32), (0 : Int32))) (fL_areCostsRight_k18 s r1 v3_b7))
def fL_areCostsRight_l7 (s : st_) (i0 : Int32) (r1 : Int32) : Nat → Int32 → Option ((Unit) ⊕ ((Unit) ⊕ ((Unit) ⊕ (Unit)))) :=
  it_ (fun v => fL_areCostsRight_b7 s i0 r1 v)
def fL_areCostsRight (s : st_) (i0 : Int32) : Option (Int32) :=
  bn_ (gX7_rounds s) fun r1 =>
  bn_ (fL_areCostsRight_l7 s i0 r1 FU_ (-1 : Int32)) (fL_areCostsRight_k7 s i0 r1)
set_option maxRecDepth 100000 in
theorem kL_areCostsRight {E : ev_} {H : Heap} {a : Nat} {s : st_} {i0 : Int32} {r : Int32} (hm : fL_areCostsRight s i0 = some r) (h0 : has_ E H a ly_M s) : sp_ E mL_areCostsRight [.ref a, .int i0] H (po1 (.inl (some (.int r))) (fun Hn => sm_ H Hn 0 0)) := by
  refine sp_of (by decide +kernel) rfl rfl ?_
  generalize hQ : po1 _ _ = Q
  have hs : sm_ H H 0 0 := sm_.rfl'
  unfold fL_areCostsRight at hm
  refine aw_lv (lv' := [(0, .ref a), (1, .int i0)]) [0, 1] rfl ?_
  refine aw_b (pc' := 1) (lv' := [(0, .ref a), (1, .int i0)]) (st' := [.ref a]) [(0, .aload_n 0, 1, .null)] (by decide +kernel) rfl ?_
  obtain ⟨r1, e2, hm⟩ := bn_x hm
  refine aw_cv (rest := []) (st1 := [.int r1]) a 0 (kX7_rounds e2 h0) rfl rfl ckX7_rounds lkL_136 h0 eo_M_0 ⟨_, _, rfl⟩ nkX7_rounds rfl rfl rfl (Nat.le_of_ble_eq_true rfl) (Nat.zero_le _) (Nat.zero_le _) (by decide +kernel) (fun H3 z4 => ?_)
  have h0 := h0.kept0 z4
  have hs := hs.step0 z4
  refine aw_b (pc' := 7) (lv' := [(3, .int (-1 : Int32)), (2, .int r1), (0, .ref a), (1, .int i0)]) (st' := []) [(4, .istore_n 2, 1, .null), (5, .iconst (-1), 1, .int (-1 : Int32)), (6, .istore_n 3, 1, .null)] (by decide +kernel) rfl ?_
  obtain ⟨x7, hx7, hr7⟩ := bn_x hm
  have X7_222 : ∀ (H_x7_222 : Heap), has_ E H_x7_222 a ly_M s → sm_ H H_x7_222 0 0 → fL_areCostsRight_x7_222 s i0 r1 = some r → aw E mL_areCostsRight Q 222 [(0, .ref a), (1, .int i0), (2, .int r1)] [] H_x7_222 0 0 := by
    intro H_x7_222 h0 hs hm
    unfold fL_areCostsRight_x7_222 at hm
    refine aw_b (pc' := 236) (lv' := [(7, .int (0 : Int32)), (6, .int (0 : Int32)), (5, .int (0 : Int32)), (4, .int (0 : Int32)), (3, .int (0 : Int32)), (0, .ref a), (1, .int i0), (2, .int r1)]) (st' := []) [(222, .iconst 0, 1, .int (0 : Int32)), (223, .istore_n 3, 1, .null), (224, .iconst 0, 1, .int (0 : Int32)), (225, .istore 4, 2, .null), (227, .iconst 0, 1, .int (0 : Int32)), (228, .istore 5, 2, .null), (230, .iconst 0, 1, .int (0 : Int32)), (231, .istore 6, 2, .null), (233, .iconst 0, 1, .int (0 : Int32)), (234, .istore 7, 2, .null)] (by decide +kernel) rfl ?_
    obtain ⟨x236, hx236, hr236⟩ := bn_x hm
    have X236_428 : ∀ (v3_x236_428 : Int32) (v4_x236_428 : Int32) (v5_x236_428 : Int32) (v6_x236_428 : Int32) (H_x236_428 : Heap), has_ E H_x236_428 a ly_M s → sm_ H H_x236_428 0 0 → fL_areCostsRight_x236_428 s i0 r1 v3_x236_428 v4_x236_428 v5_x236_428 v6_x236_428 = some r → aw E mL_areCostsRight Q 428 [(0, .ref a), (1, .int i0), (2, .int r1), (3, .int v3_x236_428), (4, .int v4_x236_428), (5, .int v5_x236_428), (6, .int v6_x236_428)] [] H_x236_428 0 0 := by
      intro v3_x236_428 v4_x236_428 v5_x236_428 v6_x236_428 H_x236_428 h0 hs hm
      unfold fL_areCostsRight_x236_428 at hm
      refine aw_b (pc' := 431) (lv' := [(7, .int (0 : Int32)), (0, .ref a), (1, .int i0), (2, .int r1), (3, .int v3_x236_428), (4, .int v4_x236_428), (5, .int v5_x236_428), (6, .int v6_x236_428)]) (st' := []) [(428, .iconst 0, 1, .int (0 : Int32)), (429, .istore 7, 2, .null)] (by decide +kernel) rfl ?_
      obtain ⟨x431, hx431, hr431⟩ := bn_x hm
      have X431_467 : ∀ (H_x431_467 : Heap), has_ E H_x431_467 a ly_M s → sm_ H H_x431_467 0 0 → fL_areCostsRight_x431_467 s r1 v3_x236_428 v4_x236_428 v5_x236_428 = some r → aw E mL_areCostsRight Q 467 [(0, .ref a), (2, .int r1), (3, .int v3_x236_428), (4, .int v4_x236_428), (5, .int v5_x236_428)] [] H_x431_467 0 0 := by
        intro H_x431_467 h0 hs hm
        unfold fL_areCostsRight_x431_467 at hm
        refine aw_b (pc' := 469) (lv' := [(0, .ref a), (2, .int r1), (3, .int v3_x236_428), (4, .int v4_x236_428), (5, .int v5_x236_428)]) (st' := [.int r1, .int v3_x236_428]) [(467, .iload_n 3, 1, .null), (468, .iload_n 2, 1, .null)] (by decide +kernel) rfl ?_
        have J516 : ∀ (H_j516 : Heap), has_ E H_j516 a ly_M s → sm_ H H_j516 0 0 → fL_areCostsRight_j516 = some r → aw E mL_areCostsRight Q 516 [] [] H_j516 0 0 := by
          intro H_j516 h0 hs hm
          unfold fL_areCostsRight_j516 at hm
          refine aw_b (pc' := 517) (lv' := []) (st' := [.int (0 : Int32)]) [(516, .iconst 0, 1, .int (0 : Int32))] (by decide +kernel) rfl ?_
          obtain rfl := Option.some.inj hm
          subst hQ
          exact aw_zret rfl (by decide +kernel) (Nat.zero_le _) (Nat.zero_le _) (by decide +kernel) ⟨rfl, hs⟩
        refine aw_ic_ne (off := 47) 516 (by decide) (by decide +kernel) (fun hc => ?_) (fun hc => ?_)
        · have hm := (if_neg hc).symm.trans hm
          refine aw_lv (lv' := []) [] rfl ?_
          exact J516 H_x431_467 h0 hs hm
        · have hm := (if_pos hc).symm.trans hm
          refine aw_b (pc' := 477) (lv' := [(0, .ref a), (2, .int r1), (3, .int v3_x236_428), (4, .int v4_x236_428), (5, .int v5_x236_428)]) (st' := [.int (3 : Int32), .int (-1 : Int32), .ref a, .int v4_x236_428]) [(472, .iload 4, 2, .null), (474, .aload_n 0, 1, .null), (475, .iconst (-1), 1, .int (-1 : Int32)), (476, .iconst 3, 1, .int (3 : Int32))] (by decide +kernel) rfl ?_
          obtain ⟨r5, e6, hm⟩ := bn_x hm
          refine aw_cv (rest := [.int v4_x236_428]) (st1 := [.int r5, .int v4_x236_428]) a 0 (kX7_arm e6 h0) rfl rfl ckX7_arm lkL_141 h0 eo_M_0 ⟨_, _, rfl⟩ nkX7_arm rfl rfl rfl (Nat.le_of_ble_eq_true rfl) (Nat.zero_le _) (Nat.zero_le _) (by decide +kernel) (fun H7 z8 => ?_)
          have h0 := h0.kept0 z8
          have hs := hs.step0 z8
          refine aw_ic_ne (off := 36) 516 (by decide) (by decide +kernel) (fun hc => ?_) (fun hc => ?_)
          · have hm := (if_neg hc).symm.trans hm
            refine aw_lv (lv' := []) [] rfl ?_
            exact J516 H7 h0 hs hm
          · have hm := (if_pos hc).symm.trans hm
            refine aw_b (pc' := 486) (lv' := [(0, .ref a), (2, .int r1), (3, .int v3_x236_428), (4, .int v4_x236_428), (5, .int v5_x236_428)]) (st' := [.int r1, .int v5_x236_428]) [(483, .iload 5, 2, .null), (485, .iload_n 2, 1, .null)] (by decide +kernel) rfl ?_
            refine aw_ic_ne (off := 30) 516 (by decide) (by decide +kernel) (fun hc => ?_) (fun hc => ?_)
            · have hm := (if_neg hc).symm.trans hm
              refine aw_lv (lv' := []) [] rfl ?_
              exact J516 H7 h0 hs hm
            · have hm := (if_pos hc).symm.trans hm
              refine aw_b (pc' := 491) (lv' := [(0, .ref a), (2, .int r1), (3, .int v3_x236_428), (4, .int v4_x236_428), (5, .int v5_x236_428)]) (st' := [.int (0 : Int32), .ref a]) [(489, .aload_n 0, 1, .null), (490, .iconst 0, 1, .int (0 : Int32))] (by decide +kernel) rfl ?_
              obtain ⟨r9, e10, hm⟩ := bn_x hm
              refine aw_cv (rest := []) (st1 := [.int r9]) a 0 (kX7_regret e10 h0) rfl rfl ckX7_regret lkL_147 h0 eo_M_0 ⟨_, _, rfl⟩ nkX7_regret rfl rfl rfl (Nat.le_of_ble_eq_true rfl) (Nat.zero_le _) (Nat.zero_le _) (by decide +kernel) (fun H11 z12 => ?_)
              have h0 := h0.kept0 z12
              have hs := hs.step0 z12
              refine aw_b (pc' := 496) (lv' := [(0, .ref a), (2, .int r1), (3, .int v3_x236_428), (4, .int v4_x236_428), (5, .int v5_x236_428)]) (st' := [.ref a, .ref a, .int r9]) [(494, .aload_n 0, 1, .null), (495, .aload_n 0, 1, .null)] (by decide +kernel) rfl ?_
              obtain ⟨r13, e14, hm⟩ := bn_x hm
              refine aw_cv (rest := [.ref a, .int r9]) (st1 := [.int r13, .ref a, .int r9]) a 0 (kX7_best e14 h0) rfl rfl ckX7_best lkL_192 h0 eo_M_0 ⟨_, _, rfl⟩ nkX7_best rfl rfl rfl (Nat.le_of_ble_eq_true rfl) (Nat.zero_le _) (Nat.zero_le _) (by decide +kernel) (fun H15 z16 => ?_)
              have h0 := h0.kept0 z16
              have hs := hs.step0 z16
              obtain ⟨r17, e18, hm⟩ := bn_x hm
              refine aw_cv (rest := [.int r9]) (st1 := [.int r17, .int r9]) a 0 (kX7_regretTo e18 h0) rfl rfl ckX7_regretTo lkL_182 h0 eo_M_0 ⟨_, _, rfl⟩ nkX7_regretTo rfl rfl rfl (Nat.le_of_ble_eq_true rfl) (Nat.zero_le _) (Nat.zero_le _) (by decide +kernel) (fun H19 z20 => ?_)
              have h0 := h0.kept0 z20
              have hs := hs.step0 z20
              refine aw_ic_ne (off := 14) 516 (by decide) (by decide +kernel) (fun hc => ?_) (fun hc => ?_)
              · have hm := (if_neg hc).symm.trans hm
                refine aw_lv (lv' := []) [] rfl ?_
                exact J516 H19 h0 hs hm
              · have hm := (if_pos hc).symm.trans hm
                refine aw_b (pc' := 506) (lv' := [(0, .ref a), (2, .int r1), (3, .int v3_x236_428), (4, .int v4_x236_428), (5, .int v5_x236_428)]) (st' := [.ref a]) [(505, .aload_n 0, 1, .null)] (by decide +kernel) rfl ?_
                obtain ⟨r21, e22, hm⟩ := bn_x hm
                refine aw_cv (rest := []) (st1 := [.int r21]) a 0 (kX7_swapRegret e22 h0) rfl rfl ckX7_swapRegret lkL_158 h0 eo_M_0 ⟨_, _, rfl⟩ nkX7_swapRegret rfl rfl rfl (Nat.le_of_ble_eq_true rfl) (Nat.zero_le _) (Nat.zero_le _) (by decide +kernel) (fun H23 z24 => ?_)
                have h0 := h0.kept0 z24
                have hs := hs.step0 z24
                refine aw_if_lt (off := 7) 516 (by decide) (by decide +kernel) (fun hc => ?_) (fun hc => ?_)
                · have hm := (if_pos hc).symm.trans hm
                  refine aw_lv (lv' := []) [] rfl ?_
                  exact J516 H23 h0 hs hm
                · have hm := (if_neg hc).symm.trans hm
                  refine aw_b (pc' := 517) (lv' := [(0, .ref a), (2, .int r1), (3, .int v3_x236_428), (4, .int v4_x236_428), (5, .int v5_x236_428)]) (st' := [.int (1 : Int32)]) [(512, .iconst 1, 1, .int (1 : Int32)), (513, .goto 4, 3, .null)] (by decide +kernel) rfl ?_
                  obtain rfl := Option.some.inj hm
                  subst hQ
                  exact aw_zret rfl (by decide +kernel) (Nat.zero_le _) (Nat.zero_le _) (by decide +kernel) ⟨rfl, hs⟩
      have X431_459 : ∀ (H_x431_459 : Heap), has_ E H_x431_459 a ly_M s → sm_ H H_x431_459 0 0 → fL_areCostsRight_x431_459 = some r → aw E mL_areCostsRight Q 459 [] [] H_x431_459 0 0 := by
        intro H_x431_459 h0 hs hm
        unfold fL_areCostsRight_x431_459 at hm
        refine aw_b (pc' := 460) (lv' := []) (st' := [.int (0 : Int32)]) [(459, .iconst 0, 1, .int (0 : Int32))] (by decide +kernel) rfl ?_
        obtain rfl := Option.some.inj hm
        subst hQ
        exact aw_zret rfl (by decide +kernel) (Nat.zero_le _) (Nat.zero_le _) (by decide +kernel) ⟨rfl, hs⟩
      have L431 : ∀ (fu : Nat) (v7_b431 : Int32) (H_b431 : Heap), has_ E H_b431 a ly_M s → sm_ H H_b431 0 0 → fL_areCostsRight_l431 s i0 v6_x236_428 fu v7_b431 = some x431 → aw E mL_areCostsRight Q 431 [(0, .ref a), (1, .int i0), (2, .int r1), (3, .int v3_x236_428), (4, .int v4_x236_428), (5, .int v5_x236_428), (6, .int v6_x236_428), (7, .int v7_b431)] [] H_b431 0 0 := by
        intro fu
        induction fu with
        | zero =>
          intro v7_b431 H_b431 h0 hs hm
          exact (it_0 hm).elim
        | succ fu ih431 =>
          intro v7_b431 H_b431 h0 hs hm
          obtain ⟨y431, hm, hk431⟩ := it_s hm
          have hm : fL_areCostsRight_b431 s i0 v6_x236_428 v7_b431 = some y431 := hm
          unfold fL_areCostsRight_b431 at hm
          refine aw_b (pc' := 434) (lv' := [(0, .ref a), (1, .int i0), (2, .int r1), (3, .int v3_x236_428), (4, .int v4_x236_428), (5, .int v5_x236_428), (6, .int v6_x236_428), (7, .int v7_b431)]) (st' := [.int i0, .int v7_b431]) [(431, .iload 7, 2, .null), (433, .iload_n 1, 1, .null)] (by decide +kernel) rfl ?_
          refine aw_ic_ge (off := 33) 467 (by decide) (by decide +kernel) (fun hc => ?_) (fun hc => ?_)
          · have hm := (if_pos hc).symm.trans hm
            cases hm
            refine aw_lv (lv' := [(0, .ref a), (2, .int r1), (3, .int v3_x236_428), (4, .int v4_x236_428), (5, .int v5_x236_428)]) [0, 2, 3, 4, 5] rfl ?_
            exact X431_467 H_b431 h0 hs ((congrArg (fL_areCostsRight_k431 s r1 v3_x236_428 v4_x236_428 v5_x236_428) (show (.inr ()) = x431 from hk431)).trans hr431)
          · have hm := (if_neg hc).symm.trans hm
            refine aw_b (pc' := 440) (lv' := [(0, .ref a), (1, .int i0), (2, .int r1), (3, .int v3_x236_428), (4, .int v4_x236_428), (5, .int v5_x236_428), (6, .int v6_x236_428), (7, .int v7_b431)]) (st' := [.int v7_b431, .ref a]) [(437, .aload_n 0, 1, .null), (438, .iload 7, 2, .null)] (by decide +kernel) rfl ?_
            obtain ⟨r25, e26, hm⟩ := bn_x hm
            refine aw_cv (rest := []) (st1 := [.float r25]) a 0 (kX7_share e26 h0) rfl rfl ckX7_share lkL_188 h0 eo_M_0 ⟨_, _, rfl⟩ nkX7_share rfl rfl rfl (Nat.le_of_ble_eq_true rfl) (Nat.zero_le _) (Nat.zero_le _) (by decide +kernel) (fun H27 z28 => ?_)
            have h0 := h0.kept0 z28
            have hs := hs.step0 z28
            refine aw_b (pc' := 447) (lv' := [(0, .ref a), (1, .int i0), (2, .int r1), (3, .int v3_x236_428), (4, .int v4_x236_428), (5, .int v5_x236_428), (6, .int v6_x236_428), (7, .int v7_b431)]) (st' := [.int (2 : Int32), .int v7_b431, .ref a, .float r25]) [(443, .aload_n 0, 1, .null), (444, .iload 7, 2, .null), (446, .iconst 2, 1, .int (2 : Int32))] (by decide +kernel) rfl ?_
            obtain ⟨r29, e30, hm⟩ := bn_x hm
            refine aw_cv (rest := [.float r25]) (st1 := [.int r29, .float r25]) a 0 (kX7_rule e30 h0) rfl rfl ckX7_rule lkL_144 h0 eo_M_0 ⟨_, _, rfl⟩ nkX7_rule rfl rfl rfl (Nat.le_of_ble_eq_true rfl) (Nat.zero_le _) (Nat.zero_le _) (by decide +kernel) (fun H31 z32 => ?_)
            have h0 := h0.kept0 z32
            have hs := hs.step0 z32
            refine aw_b (pc' := 454) (lv' := [(0, .ref a), (1, .int i0), (2, .int r1), (3, .int v3_x236_428), (4, .int v4_x236_428), (5, .int v5_x236_428), (6, .int v6_x236_428), (7, .int v7_b431)]) (st' := [.float (FP.i2f v6_x236_428), .float (FP.i2f r29), .float r25]) [(450, .i2f, 1, .null), (451, .iload 6, 2, .null), (453, .i2f, 1, .null)] (by decide +kernel) rfl ?_
            obtain ⟨g33, hm⟩ := gd_x hm
            refine aw_fdiv (n32_x g33) (by decide +kernel) ?_
            refine aw_b (pc' := 456) (lv' := [(0, .ref a), (1, .int i0), (2, .int r1), (3, .int v3_x236_428), (4, .int v4_x236_428), (5, .int v5_x236_428), (6, .int v6_x236_428), (7, .int v7_b431)]) (st' := [.int (Op.cmpValue (FP.fcmp r25 (FP.fdiv (FP.i2f r29) (FP.i2f v6_x236_428))) .l)]) [(455, .fcmp .l, 1, .null)] (by decide +kernel) rfl ?_
            refine aw_if_eq (off := 5) 461 (by decide) (by decide +kernel) (fun hc => ?_) (fun hc => ?_)
            · have hm := (if_pos hc).symm.trans hm
              refine aw_b (pc' := 431) (lv' := [(7, .int (v7_b431 + (1 : Int32))), (0, .ref a), (1, .int i0), (2, .int r1), (3, .int v3_x236_428), (4, .int v4_x236_428), (5, .int v5_x236_428), (6, .int v6_x236_428)]) (st' := []) [(461, .iinc 7 1, 3, .int (1 : Int32)), (464, .goto (-33), 3, .null)] (by decide +kernel) rfl ?_
              cases hm
              refine aw_lv (lv' := [(0, .ref a), (1, .int i0), (2, .int r1), (3, .int v3_x236_428), (4, .int v4_x236_428), (5, .int v5_x236_428), (6, .int v6_x236_428), (7, .int (v7_b431 + (1 : Int32)))]) [1, 2, 3, 4, 5, 6, 7, 0] rfl ?_
              exact ih431 (v7_b431 + (1 : Int32)) H31 h0 hs hk431
            · have hm := (if_neg hc).symm.trans hm
              cases hm
              refine aw_lv (lv' := []) [] rfl ?_
              exact X431_459 H31 h0 hs ((congrArg (fL_areCostsRight_k431 s r1 v3_x236_428 v4_x236_428 v5_x236_428) (show (.inl ()) = x431 from hk431)).trans hr431)
      refine aw_lv (lv' := [(0, .ref a), (1, .int i0), (2, .int r1), (3, .int v3_x236_428), (4, .int v4_x236_428), (5, .int v5_x236_428), (6, .int v6_x236_428), (7, .int (0 : Int32))]) [1, 2, 3, 4, 5, 6, 7, 0] rfl ?_
      exact L431 FU_ (0 : Int32) H_x236_428 h0 hs hx431
    have X236_395 : ∀ (H_x236_395 : Heap), has_ E H_x236_395 a ly_M s → sm_ H H_x236_395 0 0 → fL_areCostsRight_x236_395 = some r → aw E mL_areCostsRight Q 395 [] [] H_x236_395 0 0 := by
      intro H_x236_395 h0 hs hm
      unfold fL_areCostsRight_x236_395 at hm
      refine aw_b (pc' := 396) (lv' := []) (st' := [.int (0 : Int32)]) [(395, .iconst 0, 1, .int (0 : Int32))] (by decide +kernel) rfl ?_
      obtain rfl := Option.some.inj hm
      subst hQ
      exact aw_zret rfl (by decide +kernel) (Nat.zero_le _) (Nat.zero_le _) (by decide +kernel) ⟨rfl, hs⟩
    have X236_420 : ∀ (H_x236_420 : Heap), has_ E H_x236_420 a ly_M s → sm_ H H_x236_420 0 0 → fL_areCostsRight_x236_420 = some r → aw E mL_areCostsRight Q 420 [] [] H_x236_420 0 0 := by
      intro H_x236_420 h0 hs hm
      unfold fL_areCostsRight_x236_420 at hm
      refine aw_b (pc' := 421) (lv' := []) (st' := [.int (0 : Int32)]) [(420, .iconst 0, 1, .int (0 : Int32))] (by decide +kernel) rfl ?_
      obtain rfl := Option.some.inj hm
      subst hQ
      exact aw_zret rfl (by decide +kernel) (Nat.zero_le _) (Nat.zero_le _) (by decide +kernel) ⟨rfl, hs⟩
    have L236 : ∀ (fu : Nat) (v3_b236 : Int32) (v4_b236 : Int32) (v5_b236 : Int32) (v6_b236 : Int32) (v7_b236 : Int32) (H_b236 : Heap), has_ E H_b236 a ly_M s → sm_ H H_b236 0 0 → fL_areCostsRight_l236 s i0 fu (v3_b236, v4_b236, v5_b236, v6_b236, v7_b236) = some x236 → aw E mL_areCostsRight Q 236 [(0, .ref a), (1, .int i0), (2, .int r1), (3, .int v3_b236), (4, .int v4_b236), (5, .int v5_b236), (6, .int v6_b236), (7, .int v7_b236)] [] H_b236 0 0 := by
      intro fu
      induction fu with
      | zero =>
        intro v3_b236 v4_b236 v5_b236 v6_b236 v7_b236 H_b236 h0 hs hm
        exact (it_0 hm).elim
      | succ fu ih236 =>
        intro v3_b236 v4_b236 v5_b236 v6_b236 v7_b236 H_b236 h0 hs hm
        obtain ⟨y236, hm, hk236⟩ := it_s hm
        have hm : fL_areCostsRight_b236 s i0 v3_b236 v4_b236 v5_b236 v6_b236 v7_b236 = some y236 := hm
        unfold fL_areCostsRight_b236 at hm
        refine aw_b (pc' := 239) (lv' := [(0, .ref a), (1, .int i0), (2, .int r1), (3, .int v3_b236), (4, .int v4_b236), (5, .int v5_b236), (6, .int v6_b236), (7, .int v7_b236)]) (st' := [.int i0, .int v7_b236]) [(236, .iload 7, 2, .null), (238, .iload_n 1, 1, .null)] (by decide +kernel) rfl ?_
        refine aw_ic_ge (off := 189) 428 (by decide) (by decide +kernel) (fun hc => ?_) (fun hc => ?_)
        · have hm := (if_pos hc).symm.trans hm
          cases hm
          refine aw_lv (lv' := [(0, .ref a), (1, .int i0), (2, .int r1), (3, .int v3_b236), (4, .int v4_b236), (5, .int v5_b236), (6, .int v6_b236)]) [0, 1, 2, 3, 4, 5, 6] rfl ?_
          exact X236_428 v3_b236 v4_b236 v5_b236 v6_b236 H_b236 h0 hs ((congrArg (fL_areCostsRight_k236 s i0 r1) (show (.inr (.inr (v3_b236, v4_b236, v5_b236, v6_b236))) = x236 from hk236)).trans hr236)
        · have hm := (if_neg hc).symm.trans hm
          refine aw_b (pc' := 247) (lv' := [(0, .ref a), (1, .int i0), (2, .int r1), (3, .int v3_b236), (4, .int v4_b236), (5, .int v5_b236), (6, .int v6_b236), (7, .int v7_b236)]) (st' := [.int (3 : Int32), .int v7_b236, .ref a, .int v3_b236]) [(242, .iload_n 3, 1, .null), (243, .aload_n 0, 1, .null), (244, .iload 7, 2, .null), (246, .iconst 3, 1, .int (3 : Int32))] (by decide +kernel) rfl ?_
          obtain ⟨r34, e35, hm⟩ := bn_x hm
          refine aw_cv (rest := [.int v3_b236]) (st1 := [.int r34, .int v3_b236]) a 0 (kX7_rule e35 h0) rfl rfl ckX7_rule lkL_144 h0 eo_M_0 ⟨_, _, rfl⟩ nkX7_rule rfl rfl rfl (Nat.le_of_ble_eq_true rfl) (Nat.zero_le _) (Nat.zero_le _) (by decide +kernel) (fun H36 z37 => ?_)
          have h0 := h0.kept0 z37
          have hs := hs.step0 z37
          refine aw_b (pc' := 258) (lv' := [(3, .int (v3_b236 + r34)), (0, .ref a), (1, .int i0), (2, .int r1), (4, .int v4_b236), (5, .int v5_b236), (6, .int v6_b236), (7, .int v7_b236)]) (st' := [.int (5 : Int32), .int v7_b236, .ref a, .int v4_b236]) [(250, .iadd, 1, .null), (251, .istore_n 3, 1, .null), (252, .iload 4, 2, .null), (254, .aload_n 0, 1, .null), (255, .iload 7, 2, .null), (257, .iconst 5, 1, .int (5 : Int32))] (by decide +kernel) rfl ?_
          obtain ⟨r38, e39, hm⟩ := bn_x hm
          refine aw_cv (rest := [.int v4_b236]) (st1 := [.int r38, .int v4_b236]) a 0 (kX7_rule e39 h0) rfl rfl ckX7_rule lkL_144 h0 eo_M_0 ⟨_, _, rfl⟩ nkX7_rule rfl rfl rfl (Nat.le_of_ble_eq_true rfl) (Nat.zero_le _) (Nat.zero_le _) (by decide +kernel) (fun H40 z41 => ?_)
          have h0 := h0.kept0 z41
          have hs := hs.step0 z41
          refine aw_b (pc' := 269) (lv' := [(4, .int (v4_b236 + r38)), (3, .int (v3_b236 + r34)), (0, .ref a), (1, .int i0), (2, .int r1), (5, .int v5_b236), (6, .int v6_b236), (7, .int v7_b236)]) (st' := [.int v7_b236, .ref a, .int v5_b236]) [(261, .iadd, 1, .null), (262, .istore 4, 2, .null), (264, .iload 5, 2, .null), (266, .aload_n 0, 1, .null), (267, .iload 7, 2, .null)] (by decide +kernel) rfl ?_
          obtain ⟨r42, e43, hm⟩ := bn_x hm
          refine aw_cv (rest := [.int v5_b236]) (st1 := [.int r42, .int v5_b236]) a 0 (kX7_leads e43 h0) rfl rfl ckX7_leads lkL_173 h0 eo_M_0 ⟨_, _, rfl⟩ nkX7_leads rfl rfl rfl (Nat.le_of_ble_eq_true rfl) (Nat.zero_le _) (Nat.zero_le _) (by decide +kernel) (fun H44 z45 => ?_)
          have h0 := h0.kept0 z45
          have hs := hs.step0 z45
          refine aw_b (pc' := 281) (lv' := [(5, .int (v5_b236 + r42)), (4, .int (v4_b236 + r38)), (3, .int (v3_b236 + r34)), (0, .ref a), (1, .int i0), (2, .int r1), (6, .int v6_b236), (7, .int v7_b236)]) (st' := [.int (2 : Int32), .int v7_b236, .ref a, .int v6_b236]) [(272, .iadd, 1, .null), (273, .istore 5, 2, .null), (275, .iload 6, 2, .null), (277, .aload_n 0, 1, .null), (278, .iload 7, 2, .null), (280, .iconst 2, 1, .int (2 : Int32))] (by decide +kernel) rfl ?_
          obtain ⟨r46, e47, hm⟩ := bn_x hm
          refine aw_cv (rest := [.int v6_b236]) (st1 := [.int r46, .int v6_b236]) a 0 (kX7_rule e47 h0) rfl rfl ckX7_rule lkL_144 h0 eo_M_0 ⟨_, _, rfl⟩ nkX7_rule rfl rfl rfl (Nat.le_of_ble_eq_true rfl) (Nat.zero_le _) (Nat.zero_le _) (by decide +kernel) (fun H48 z49 => ?_)
          have h0 := h0.kept0 z49
          have hs := hs.step0 z49
          refine aw_b (pc' := 291) (lv' := [(6, .int (v6_b236 + r46)), (5, .int (v5_b236 + r42)), (4, .int (v4_b236 + r38)), (3, .int (v3_b236 + r34)), (0, .ref a), (1, .int i0), (2, .int r1), (7, .int v7_b236)]) (st' := [.int (2 : Int32), .int v7_b236, .ref a]) [(284, .iadd, 1, .null), (285, .istore 6, 2, .null), (287, .aload_n 0, 1, .null), (288, .iload 7, 2, .null), (290, .iconst 2, 1, .int (2 : Int32))] (by decide +kernel) rfl ?_
          obtain ⟨r50, e51, hm⟩ := bn_x hm
          refine aw_cv (rest := []) (st1 := [.int r50]) a 0 (kX7_rule e51 h0) rfl rfl ckX7_rule lkL_144 h0 eo_M_0 ⟨_, _, rfl⟩ nkX7_rule rfl rfl rfl (Nat.le_of_ble_eq_true rfl) (Nat.zero_le _) (Nat.zero_le _) (by decide +kernel) (fun H52 z53 => ?_)
          have h0 := h0.kept0 z53
          have hs := hs.step0 z53
          refine aw_b (pc' := 295) (lv' := [(6, .int (v6_b236 + r46)), (5, .int (v5_b236 + r42)), (4, .int (v4_b236 + r38)), (3, .int (v3_b236 + r34)), (0, .ref a), (1, .int i0), (2, .int r1), (7, .int v7_b236)]) (st' := [.int (1 : Int32), .int r50]) [(294, .iconst 1, 1, .int (1 : Int32))] (by decide +kernel) rfl ?_
          refine aw_ic_lt (off := 100) 395 (by decide) (by decide +kernel) (fun hc => ?_) (fun hc => ?_)
          · have hm := (if_pos hc).symm.trans hm
            cases hm
            refine aw_lv (lv' := []) [] rfl ?_
            exact X236_395 H52 h0 hs ((congrArg (fL_areCostsRight_k236 s i0 r1) (show (.inl ()) = x236 from hk236)).trans hr236)
          · have hm := (if_neg hc).symm.trans hm
            refine aw_b (pc' := 302) (lv' := [(6, .int (v6_b236 + r46)), (5, .int (v5_b236 + r42)), (4, .int (v4_b236 + r38)), (3, .int (v3_b236 + r34)), (0, .ref a), (1, .int i0), (2, .int r1), (7, .int v7_b236)]) (st' := [.int (4 : Int32), .int v7_b236, .ref a]) [(298, .aload_n 0, 1, .null), (299, .iload 7, 2, .null), (301, .iconst 4, 1, .int (4 : Int32))] (by decide +kernel) rfl ?_
            obtain ⟨r54, e55, hm⟩ := bn_x hm
            refine aw_cv (rest := []) (st1 := [.int r54]) a 0 (kX7_rule e55 h0) rfl rfl ckX7_rule lkL_144 h0 eo_M_0 ⟨_, _, rfl⟩ nkX7_rule rfl rfl rfl (Nat.le_of_ble_eq_true rfl) (Nat.zero_le _) (Nat.zero_le _) (by decide +kernel) (fun H56 z57 => ?_)
            have h0 := h0.kept0 z57
            have hs := hs.step0 z57
            refine aw_b (pc' := 309) (lv' := [(6, .int (v6_b236 + r46)), (5, .int (v5_b236 + r42)), (4, .int (v4_b236 + r38)), (3, .int (v3_b236 + r34)), (0, .ref a), (1, .int i0), (2, .int r1), (7, .int v7_b236)]) (st' := [.int (3 : Int32), .int v7_b236, .ref a, .int r54]) [(305, .aload_n 0, 1, .null), (306, .iload 7, 2, .null), (308, .iconst 3, 1, .int (3 : Int32))] (by decide +kernel) rfl ?_
            obtain ⟨r58, e59, hm⟩ := bn_x hm
            refine aw_cv (rest := [.int r54]) (st1 := [.int r58, .int r54]) a 0 (kX7_arm e59 h0) rfl rfl ckX7_arm lkL_141 h0 eo_M_0 ⟨_, _, rfl⟩ nkX7_arm rfl rfl rfl (Nat.le_of_ble_eq_true rfl) (Nat.zero_le _) (Nat.zero_le _) (by decide +kernel) (fun H60 z61 => ?_)
            have h0 := h0.kept0 z61
            have hs := hs.step0 z61
            refine aw_ic_ne (off := 83) 395 (by decide) (by decide +kernel) (fun hc => ?_) (fun hc => ?_)
            · have hm := (if_neg hc).symm.trans hm
              cases hm
              refine aw_lv (lv' := []) [] rfl ?_
              exact X236_395 H60 h0 hs ((congrArg (fL_areCostsRight_k236 s i0 r1) (show (.inl ()) = x236 from hk236)).trans hr236)
            · have hm := (if_pos hc).symm.trans hm
              refine aw_b (pc' := 320) (lv' := [(6, .int (v6_b236 + r46)), (5, .int (v5_b236 + r42)), (4, .int (v4_b236 + r38)), (3, .int (v3_b236 + r34)), (0, .ref a), (1, .int i0), (2, .int r1), (7, .int v7_b236)]) (st' := [.int v7_b236, .int v7_b236, .ref a]) [(315, .aload_n 0, 1, .null), (316, .iload 7, 2, .null), (318, .iload 7, 2, .null)] (by decide +kernel) rfl ?_
              obtain ⟨r62, e63, hm⟩ := bn_x hm
              refine aw_cv (rest := []) (st1 := [.int r62]) a 0 (kX7_swapCost e63 h0) rfl rfl ckX7_swapCost lkL_176 h0 eo_M_0 ⟨_, _, rfl⟩ nkX7_swapCost rfl rfl rfl (Nat.le_of_ble_eq_true rfl) (Nat.zero_le _) (Nat.zero_le _) (by decide +kernel) (fun H64 z65 => ?_)
              have h0 := h0.kept0 z65
              have hs := hs.step0 z65
              refine aw_b (pc' := 327) (lv' := [(6, .int (v6_b236 + r46)), (5, .int (v5_b236 + r42)), (4, .int (v4_b236 + r38)), (3, .int (v3_b236 + r34)), (0, .ref a), (1, .int i0), (2, .int r1), (7, .int v7_b236)]) (st' := [.int (5 : Int32), .int v7_b236, .ref a, .int r62]) [(323, .aload_n 0, 1, .null), (324, .iload 7, 2, .null), (326, .iconst 5, 1, .int (5 : Int32))] (by decide +kernel) rfl ?_
              obtain ⟨r66, e67, hm⟩ := bn_x hm
              refine aw_cv (rest := [.int r62]) (st1 := [.int r66, .int r62]) a 0 (kX7_rule e67 h0) rfl rfl ckX7_rule lkL_144 h0 eo_M_0 ⟨_, _, rfl⟩ nkX7_rule rfl rfl rfl (Nat.le_of_ble_eq_true rfl) (Nat.zero_le _) (Nat.zero_le _) (by decide +kernel) (fun H68 z69 => ?_)
              have h0 := h0.kept0 z69
              have hs := hs.step0 z69
              refine aw_ic_ne (off := 65) 395 (by decide) (by decide +kernel) (fun hc => ?_) (fun hc => ?_)
              · have hm := (if_neg hc).symm.trans hm
                cases hm
                refine aw_lv (lv' := []) [] rfl ?_
                exact X236_395 H68 h0 hs ((congrArg (fL_areCostsRight_k236 s i0 r1) (show (.inl ()) = x236 from hk236)).trans hr236)
              · have hm := (if_pos hc).symm.trans hm
                refine aw_b (pc' := 336) (lv' := [(6, .int (v6_b236 + r46)), (5, .int (v5_b236 + r42)), (4, .int (v4_b236 + r38)), (3, .int (v3_b236 + r34)), (0, .ref a), (1, .int i0), (2, .int r1), (7, .int v7_b236)]) (st' := [.int v7_b236, .ref a]) [(333, .aload_n 0, 1, .null), (334, .iload 7, 2, .null)] (by decide +kernel) rfl ?_
                obtain ⟨r70, e71, hm⟩ := bn_x hm
                refine aw_cv (rest := []) (st1 := [.int r70]) a 0 (kX7_streak e71 h0) rfl rfl ckX7_streak lkL_179 h0 eo_M_0 ⟨_, _, rfl⟩ nkX7_streak rfl rfl rfl (Nat.le_of_ble_eq_true rfl) (Nat.zero_le _) (Nat.zero_le _) (by decide +kernel) (fun H72 z73 => ?_)
                have h0 := h0.kept0 z73
                have hs := hs.step0 z73
                refine aw_b (pc' := 343) (lv' := [(6, .int (v6_b236 + r46)), (5, .int (v5_b236 + r42)), (4, .int (v4_b236 + r38)), (3, .int (v3_b236 + r34)), (0, .ref a), (1, .int i0), (2, .int r1), (7, .int v7_b236)]) (st' := [.int (3 : Int32), .int v7_b236, .ref a, .int r70]) [(339, .aload_n 0, 1, .null), (340, .iload 7, 2, .null), (342, .iconst 3, 1, .int (3 : Int32))] (by decide +kernel) rfl ?_
                obtain ⟨r74, e75, hm⟩ := bn_x hm
                refine aw_cv (rest := [.int r70]) (st1 := [.int r74, .int r70]) a 0 (kX7_rule e75 h0) rfl rfl ckX7_rule lkL_144 h0 eo_M_0 ⟨_, _, rfl⟩ nkX7_rule rfl rfl rfl (Nat.le_of_ble_eq_true rfl) (Nat.zero_le _) (Nat.zero_le _) (by decide +kernel) (fun H76 z77 => ?_)
                have h0 := h0.kept0 z77
                have hs := hs.step0 z77
                refine aw_ic_gt (off := 49) 395 (by decide) (by decide +kernel) (fun hc => ?_) (fun hc => ?_)
                · have hm := (if_pos hc).symm.trans hm
                  cases hm
                  refine aw_lv (lv' := []) [] rfl ?_
                  exact X236_395 H76 h0 hs ((congrArg (fL_areCostsRight_k236 s i0 r1) (show (.inl ()) = x236 from hk236)).trans hr236)
                · have hm := (if_neg hc).symm.trans hm
                  refine aw_b (pc' := 352) (lv' := [(6, .int (v6_b236 + r46)), (5, .int (v5_b236 + r42)), (4, .int (v4_b236 + r38)), (3, .int (v3_b236 + r34)), (0, .ref a), (1, .int i0), (2, .int r1), (7, .int v7_b236)]) (st' := [.int v7_b236, .ref a]) [(349, .aload_n 0, 1, .null), (350, .iload 7, 2, .null)] (by decide +kernel) rfl ?_
                  obtain ⟨r78, e79, hm⟩ := bn_x hm
                  refine aw_cv (rest := []) (st1 := [.int r78]) a 0 (kX7_streak e79 h0) rfl rfl ckX7_streak lkL_179 h0 eo_M_0 ⟨_, _, rfl⟩ nkX7_streak rfl rfl rfl (Nat.le_of_ble_eq_true rfl) (Nat.zero_le _) (Nat.zero_le _) (by decide +kernel) (fun H80 z81 => ?_)
                  have h0 := h0.kept0 z81
                  have hs := hs.step0 z81
                  have J363 : ∀ (z0_j363 : Int32) (H_j363 : Heap), has_ E H_j363 a ly_M s → sm_ H H_j363 0 0 → fL_areCostsRight_j363 s v3_b236 v4_b236 v5_b236 v6_b236 v7_b236 r34 r38 r42 r46 z0_j363 = some y236 → aw E mL_areCostsRight Q 363 [(0, .ref a), (1, .int i0), (2, .int r1), (3, .int (v3_b236 + r34)), (4, .int (v4_b236 + r38)), (5, .int (v5_b236 + r42)), (6, .int (v6_b236 + r46)), (7, .int v7_b236)] [.int z0_j363] H_j363 0 0 := by
                    intro z0_j363 H_j363 h0 hs hm
                    unfold fL_areCostsRight_j363 at hm
                    refine aw_b (pc' := 367) (lv' := [(0, .ref a), (1, .int i0), (2, .int r1), (3, .int (v3_b236 + r34)), (4, .int (v4_b236 + r38)), (5, .int (v5_b236 + r42)), (6, .int (v6_b236 + r46)), (7, .int v7_b236)]) (st' := [.int (3 : Int32), .int v7_b236, .ref a, .int z0_j363]) [(363, .aload_n 0, 1, .null), (364, .iload 7, 2, .null), (366, .iconst 3, 1, .int (3 : Int32))] (by decide +kernel) rfl ?_
                    obtain ⟨r82, e83, hm⟩ := bn_x hm
                    refine aw_cv (rest := [.int z0_j363]) (st1 := [.int r82, .int z0_j363]) a 0 (kX7_rule e83 h0) rfl rfl ckX7_rule lkL_144 h0 eo_M_0 ⟨_, _, rfl⟩ nkX7_rule rfl rfl rfl (Nat.le_of_ble_eq_true rfl) (Nat.zero_le _) (Nat.zero_le _) (by decide +kernel) (fun H84 z85 => ?_)
                    have h0 := h0.kept0 z85
                    have hs := hs.step0 z85
                    have J378 : ∀ (z1_j378 : Int32) (H_j378 : Heap), has_ E H_j378 a ly_M s → sm_ H H_j378 0 0 → fL_areCostsRight_j378 s v3_b236 v4_b236 v5_b236 v6_b236 v7_b236 r34 r38 r42 r46 z0_j363 z1_j378 = some y236 → aw E mL_areCostsRight Q 378 [(0, .ref a), (1, .int i0), (2, .int r1), (3, .int (v3_b236 + r34)), (4, .int (v4_b236 + r38)), (5, .int (v5_b236 + r42)), (6, .int (v6_b236 + r46)), (7, .int v7_b236)] [.int z1_j378, .int z0_j363] H_j378 0 0 := by
                      intro z1_j378 H_j378 h0 hs hm
                      unfold fL_areCostsRight_j378 at hm
                      refine aw_ic_ne (off := 17) 395 (by decide) (by decide +kernel) (fun hc => ?_) (fun hc => ?_)
                      · have hm := (if_neg hc).symm.trans hm
                        cases hm
                        refine aw_lv (lv' := []) [] rfl ?_
                        exact X236_395 H_j378 h0 hs ((congrArg (fL_areCostsRight_k236 s i0 r1) (show (.inl ()) = x236 from hk236)).trans hr236)
                      · have hm := (if_pos hc).symm.trans hm
                        refine aw_b (pc' := 384) (lv' := [(0, .ref a), (1, .int i0), (2, .int r1), (3, .int (v3_b236 + r34)), (4, .int (v4_b236 + r38)), (5, .int (v5_b236 + r42)), (6, .int (v6_b236 + r46)), (7, .int v7_b236)]) (st' := [.int v7_b236, .ref a]) [(381, .aload_n 0, 1, .null), (382, .iload 7, 2, .null)] (by decide +kernel) rfl ?_
                        obtain ⟨r86, e87, hm⟩ := bn_x hm
                        refine aw_cv (rest := []) (st1 := [.int r86]) a 0 (kX7_regretTo e87 h0) rfl rfl ckX7_regretTo lkL_182 h0 eo_M_0 ⟨_, _, rfl⟩ nkX7_regretTo rfl rfl rfl (Nat.le_of_ble_eq_true rfl) (Nat.zero_le _) (Nat.zero_le _) (by decide +kernel) (fun H88 z89 => ?_)
                        have h0 := h0.kept0 z89
                        have hs := hs.step0 z89
                        refine aw_b (pc' := 389) (lv' := [(0, .ref a), (1, .int i0), (2, .int r1), (3, .int (v3_b236 + r34)), (4, .int (v4_b236 + r38)), (5, .int (v5_b236 + r42)), (6, .int (v6_b236 + r46)), (7, .int v7_b236)]) (st' := [.int (0 : Int32), .ref a, .int r86]) [(387, .aload_n 0, 1, .null), (388, .iconst 0, 1, .int (0 : Int32))] (by decide +kernel) rfl ?_
                        obtain ⟨r90, e91, hm⟩ := bn_x hm
                        refine aw_cv (rest := [.int r86]) (st1 := [.int r90, .int r86]) a 0 (kX7_regret e91 h0) rfl rfl ckX7_regret lkL_147 h0 eo_M_0 ⟨_, _, rfl⟩ nkX7_regret rfl rfl rfl (Nat.le_of_ble_eq_true rfl) (Nat.zero_le _) (Nat.zero_le _) (by decide +kernel) (fun H92 z93 => ?_)
                        have h0 := h0.kept0 z93
                        have hs := hs.step0 z93
                        refine aw_ic_le (off := 5) 397 (by decide) (by decide +kernel) (fun hc => ?_) (fun hc => ?_)
                        · have hm := (if_pos hc).symm.trans hm
                          refine aw_b (pc' := 403) (lv' := [(0, .ref a), (1, .int i0), (2, .int r1), (3, .int (v3_b236 + r34)), (4, .int (v4_b236 + r38)), (5, .int (v5_b236 + r42)), (6, .int (v6_b236 + r46)), (7, .int v7_b236)]) (st' := [.int v7_b236, .ref a, .int v7_b236, .ref a]) [(397, .aload_n 0, 1, .null), (398, .iload 7, 2, .null), (400, .aload_n 0, 1, .null), (401, .iload 7, 2, .null)] (by decide +kernel) rfl ?_
                          obtain ⟨r94, e95, hm⟩ := bn_x hm
                          refine aw_cv (rest := [.int v7_b236, .ref a]) (st1 := [.int r94, .int v7_b236, .ref a]) a 0 (kX7_bestSwap e95 h0) rfl rfl ckX7_bestSwap lkL_185 h0 eo_M_0 ⟨_, _, rfl⟩ nkX7_bestSwap rfl rfl rfl (Nat.le_of_ble_eq_true rfl) (Nat.zero_le _) (Nat.zero_le _) (by decide +kernel) (fun H96 z97 => ?_)
                          have h0 := h0.kept0 z97
                          have hs := hs.step0 z97
                          obtain ⟨r98, e99, hm⟩ := bn_x hm
                          refine aw_cv (rest := []) (st1 := [.int r98]) a 0 (kX7_swapCost e99 h0) rfl rfl ckX7_swapCost lkL_176 h0 eo_M_0 ⟨_, _, rfl⟩ nkX7_swapCost rfl rfl rfl (Nat.le_of_ble_eq_true rfl) (Nat.zero_le _) (Nat.zero_le _) (by decide +kernel) (fun H100 z101 => ?_)
                          have h0 := h0.kept0 z101
                          have hs := hs.step0 z101
                          refine aw_b (pc' := 414) (lv' := [(0, .ref a), (1, .int i0), (2, .int r1), (3, .int (v3_b236 + r34)), (4, .int (v4_b236 + r38)), (5, .int (v5_b236 + r42)), (6, .int (v6_b236 + r46)), (7, .int v7_b236)]) (st' := [.int v7_b236, .int v7_b236, .ref a, .int r98]) [(409, .aload_n 0, 1, .null), (410, .iload 7, 2, .null), (412, .iload 7, 2, .null)] (by decide +kernel) rfl ?_
                          obtain ⟨r102, e103, hm⟩ := bn_x hm
                          refine aw_cv (rest := [.int r98]) (st1 := [.int r102, .int r98]) a 0 (kX7_swapCost e103 h0) rfl rfl ckX7_swapCost lkL_176 h0 eo_M_0 ⟨_, _, rfl⟩ nkX7_swapCost rfl rfl rfl (Nat.le_of_ble_eq_true rfl) (Nat.zero_le _) (Nat.zero_le _) (by decide +kernel) (fun H104 z105 => ?_)
                          have h0 := h0.kept0 z105
                          have hs := hs.step0 z105
                          refine aw_ic_le (off := 5) 422 (by decide) (by decide +kernel) (fun hc => ?_) (fun hc => ?_)
                          · have hm := (if_pos hc).symm.trans hm
                            refine aw_b (pc' := 236) (lv' := [(7, .int (v7_b236 + (1 : Int32))), (0, .ref a), (1, .int i0), (2, .int r1), (3, .int (v3_b236 + r34)), (4, .int (v4_b236 + r38)), (5, .int (v5_b236 + r42)), (6, .int (v6_b236 + r46))]) (st' := []) [(422, .iinc 7 1, 3, .int (1 : Int32)), (425, .goto (-189), 3, .null)] (by decide +kernel) rfl ?_
                            cases hm
                            refine aw_lv (lv' := [(0, .ref a), (1, .int i0), (2, .int r1), (3, .int (v3_b236 + r34)), (4, .int (v4_b236 + r38)), (5, .int (v5_b236 + r42)), (6, .int (v6_b236 + r46)), (7, .int (v7_b236 + (1 : Int32)))]) [1, 2, 3, 4, 5, 6, 7, 0] rfl ?_
                            exact ih236 (v3_b236 + r34) (v4_b236 + r38) (v5_b236 + r42) (v6_b236 + r46) (v7_b236 + (1 : Int32)) H104 h0 hs hk236
                          · have hm := (if_neg hc).symm.trans hm
                            cases hm
                            refine aw_lv (lv' := []) [] rfl ?_
                            exact X236_420 H104 h0 hs ((congrArg (fL_areCostsRight_k236 s i0 r1) (show (.inr (.inl ())) = x236 from hk236)).trans hr236)
                        · have hm := (if_neg hc).symm.trans hm
                          cases hm
                          refine aw_lv (lv' := []) [] rfl ?_
                          exact X236_395 H92 h0 hs ((congrArg (fL_areCostsRight_k236 s i0 r1) (show (.inl ()) = x236 from hk236)).trans hr236)
                    refine aw_if_ne (off := 7) 377 (by decide) (by decide +kernel) (fun hc => ?_) (fun hc => ?_)
                    · have hm := (if_neg hc).symm.trans hm
                      refine aw_b (pc' := 378) (lv' := [(0, .ref a), (1, .int i0), (2, .int r1), (3, .int (v3_b236 + r34)), (4, .int (v4_b236 + r38)), (5, .int (v5_b236 + r42)), (6, .int (v6_b236 + r46)), (7, .int v7_b236)]) (st' := [.int (0 : Int32), .int z0_j363]) [(377, .iconst 0, 1, .int (0 : Int32))] (by decide +kernel) rfl ?_
                      exact J378 (0 : Int32) H84 h0 hs hm
                    · have hm := (if_pos hc).symm.trans hm
                      refine aw_b (pc' := 378) (lv' := [(0, .ref a), (1, .int i0), (2, .int r1), (3, .int (v3_b236 + r34)), (4, .int (v4_b236 + r38)), (5, .int (v5_b236 + r42)), (6, .int (v6_b236 + r46)), (7, .int v7_b236)]) (st' := [.int (1 : Int32), .int z0_j363]) [(373, .iconst 1, 1, .int (1 : Int32)), (374, .goto 4, 3, .null)] (by decide +kernel) rfl ?_
                      exact J378 (1 : Int32) H84 h0 hs hm
                  refine aw_if_ne (off := 7) 362 (by decide) (by decide +kernel) (fun hc => ?_) (fun hc => ?_)
                  · have hm := (if_neg hc).symm.trans hm
                    refine aw_b (pc' := 363) (lv' := [(6, .int (v6_b236 + r46)), (5, .int (v5_b236 + r42)), (4, .int (v4_b236 + r38)), (3, .int (v3_b236 + r34)), (0, .ref a), (1, .int i0), (2, .int r1), (7, .int v7_b236)]) (st' := [.int (0 : Int32)]) [(362, .iconst 0, 1, .int (0 : Int32))] (by decide +kernel) rfl ?_
                    refine aw_lv (lv' := [(0, .ref a), (1, .int i0), (2, .int r1), (3, .int (v3_b236 + r34)), (4, .int (v4_b236 + r38)), (5, .int (v5_b236 + r42)), (6, .int (v6_b236 + r46)), (7, .int v7_b236)]) [4, 5, 6, 3, 2, 1, 0, 7] rfl ?_
                    exact J363 (0 : Int32) H80 h0 hs hm
                  · have hm := (if_pos hc).symm.trans hm
                    refine aw_b (pc' := 363) (lv' := [(6, .int (v6_b236 + r46)), (5, .int (v5_b236 + r42)), (4, .int (v4_b236 + r38)), (3, .int (v3_b236 + r34)), (0, .ref a), (1, .int i0), (2, .int r1), (7, .int v7_b236)]) (st' := [.int (1 : Int32)]) [(358, .iconst 1, 1, .int (1 : Int32)), (359, .goto 4, 3, .null)] (by decide +kernel) rfl ?_
                    refine aw_lv (lv' := [(0, .ref a), (1, .int i0), (2, .int r1), (3, .int (v3_b236 + r34)), (4, .int (v4_b236 + r38)), (5, .int (v5_b236 + r42)), (6, .int (v6_b236 + r46)), (7, .int v7_b236)]) [4, 5, 6, 3, 2, 1, 0, 7] rfl ?_
                    exact J363 (1 : Int32) H80 h0 hs hm
    refine aw_lv (lv' := [(0, .ref a), (1, .int i0), (2, .int r1), (3, .int (0 : Int32)), (4, .int (0 : Int32)), (5, .int (0 : Int32)), (6, .int (0 : Int32)), (7, .int (0 : Int32))]) [5, 6, 7, 4, 3, 2, 1, 0] rfl ?_
    exact L236 FU_ (0 : Int32) (0 : Int32) (0 : Int32) (0 : Int32) (0 : Int32) H_x7_222 h0 hs hx236
  have X7_118 : ∀ (H_x7_118 : Heap), has_ E H_x7_118 a ly_M s → sm_ H H_x7_118 0 0 → fL_areCostsRight_x7_118 = some r → aw E mL_areCostsRight Q 118 [] [] H_x7_118 0 0 := by
    intro H_x7_118 h0 hs hm
    unfold fL_areCostsRight_x7_118 at hm
    refine aw_b (pc' := 119) (lv' := []) (st' := [.int (0 : Int32)]) [(118, .iconst 0, 1, .int (0 : Int32))] (by decide +kernel) rfl ?_
    obtain rfl := Option.some.inj hm
    subst hQ
    exact aw_zret rfl (by decide +kernel) (Nat.zero_le _) (Nat.zero_le _) (by decide +kernel) ⟨rfl, hs⟩
  have X7_154 : ∀ (H_x7_154 : Heap), has_ E H_x7_154 a ly_M s → sm_ H H_x7_154 0 0 → fL_areCostsRight_x7_154 = some r → aw E mL_areCostsRight Q 154 [] [] H_x7_154 0 0 := by
    intro H_x7_154 h0 hs hm
    unfold fL_areCostsRight_x7_154 at hm
    refine aw_b (pc' := 155) (lv' := []) (st' := [.int (0 : Int32)]) [(154, .iconst 0, 1, .int (0 : Int32))] (by decide +kernel) rfl ?_
    obtain rfl := Option.some.inj hm
    subst hQ
    exact aw_zret rfl (by decide +kernel) (Nat.zero_le _) (Nat.zero_le _) (by decide +kernel) ⟨rfl, hs⟩
  have X7_208 : ∀ (H_x7_208 : Heap), has_ E H_x7_208 a ly_M s → sm_ H H_x7_208 0 0 → fL_areCostsRight_x7_208 = some r → aw E mL_areCostsRight Q 208 [] [] H_x7_208 0 0 := by
    intro H_x7_208 h0 hs hm
    unfold fL_areCostsRight_x7_208 at hm
    refine aw_b (pc' := 209) (lv' := []) (st' := [.int (0 : Int32)]) [(208, .iconst 0, 1, .int (0 : Int32))] (by decide +kernel) rfl ?_
    obtain rfl := Option.some.inj hm
    subst hQ
    exact aw_zret rfl (by decide +kernel) (Nat.zero_le _) (Nat.zero_le _) (by decide +kernel) ⟨rfl, hs⟩
  have L7 : ∀ (fu : Nat) (v3_b7 : Int32) (H_b7 : Heap), has_ E H_b7 a ly_M s → sm_ H H_b7 0 0 → fL_areCostsRight_l7 s i0 r1 fu v3_b7 = some x7 → aw E mL_areCostsRight Q 7 [(0, .ref a), (1, .int i0), (2, .int r1), (3, .int v3_b7)] [] H_b7 0 0 := by
    intro fu
    induction fu with
    | zero =>
      intro v3_b7 H_b7 h0 hs hm
      exact (it_0 hm).elim
    | succ fu ih7 =>
      intro v3_b7 H_b7 h0 hs hm
      obtain ⟨y7, hm, hk7⟩ := it_s hm
      have hm : fL_areCostsRight_b7 s i0 r1 v3_b7 = some y7 := hm
      unfold fL_areCostsRight_b7 at hm
      refine aw_b (pc' := 9) (lv' := [(0, .ref a), (1, .int i0), (2, .int r1), (3, .int v3_b7)]) (st' := [.int i0, .int v3_b7]) [(7, .iload_n 3, 1, .null), (8, .iload_n 1, 1, .null)] (by decide +kernel) rfl ?_
      refine aw_ic_ge (off := 213) 222 (by decide) (by decide +kernel) (fun hc => ?_) (fun hc => ?_)
      · have hm := (if_pos hc).symm.trans hm
        cases hm
        refine aw_lv (lv' := [(0, .ref a), (1, .int i0), (2, .int r1)]) [0, 1, 2] rfl ?_
        exact X7_222 H_b7 h0 hs ((congrArg (fL_areCostsRight_k7 s i0 r1) (show (.inr (.inr (.inr ()))) = x7 from hk7)).trans hr7)
      · have hm := (if_neg hc).symm.trans hm
        refine aw_b (pc' := 18) (lv' := [(5, .int (0 : Int32)), (4, .int (0 : Int32)), (0, .ref a), (1, .int i0), (2, .int r1), (3, .int v3_b7)]) (st' := []) [(12, .iconst 0, 1, .int (0 : Int32)), (13, .istore 4, 2, .null), (15, .iconst 0, 1, .int (0 : Int32)), (16, .istore 5, 2, .null)] (by decide +kernel) rfl ?_
        obtain ⟨x18, hx18, hr18⟩ := bn_x hm
        have X18_42 : ∀ (v4_x18_42 : Int32) (H_x18_42 : Heap), has_ E H_x18_42 a ly_M s → sm_ H H_x18_42 0 0 → fL_areCostsRight_x18_42 s r1 v3_b7 v4_x18_42 = some y7 → aw E mL_areCostsRight Q 42 [(0, .ref a), (1, .int i0), (2, .int r1), (3, .int v3_b7), (4, .int v4_x18_42)] [] H_x18_42 0 0 := by
          intro v4_x18_42 H_x18_42 h0 hs hm
          unfold fL_areCostsRight_x18_42 at hm
          refine aw_b (pc' := 47) (lv' := [(0, .ref a), (1, .int i0), (2, .int r1), (3, .int v3_b7), (4, .int v4_x18_42)]) (st' := [.int (3 : Int32), .int v3_b7, .ref a, .int v4_x18_42]) [(42, .iload 4, 2, .null), (44, .aload_n 0, 1, .null), (45, .iload_n 3, 1, .null), (46, .iconst 3, 1, .int (3 : Int32))] (by decide +kernel) rfl ?_
          obtain ⟨r106, e107, hm⟩ := bn_x hm
          refine aw_cv (rest := [.int v4_x18_42]) (st1 := [.int r106, .int v4_x18_42]) a 0 (kX7_arm e107 h0) rfl rfl ckX7_arm lkL_141 h0 eo_M_0 ⟨_, _, rfl⟩ nkX7_arm rfl rfl rfl (Nat.le_of_ble_eq_true rfl) (Nat.zero_le _) (Nat.zero_le _) (by decide +kernel) (fun H108 z109 => ?_)
          have h0 := h0.kept0 z109
          have hs := hs.step0 z109
          refine aw_ic_ne (off := 68) 118 (by decide) (by decide +kernel) (fun hc => ?_) (fun hc => ?_)
          · have hm := (if_neg hc).symm.trans hm
            cases hm
            refine aw_lv (lv' := []) [] rfl ?_
            exact X7_118 H108 h0 hs ((congrArg (fL_areCostsRight_k7 s i0 r1) (show (.inl ()) = x7 from hk7)).trans hr7)
          · have hm := (if_pos hc).symm.trans hm
            refine aw_b (pc' := 56) (lv' := [(0, .ref a), (1, .int i0), (2, .int r1), (3, .int v3_b7), (4, .int v4_x18_42)]) (st' := [.int (2 : Int32), .int v3_b7, .ref a]) [(53, .aload_n 0, 1, .null), (54, .iload_n 3, 1, .null), (55, .iconst 2, 1, .int (2 : Int32))] (by decide +kernel) rfl ?_
            obtain ⟨r110, e111, hm⟩ := bn_x hm
            refine aw_cv (rest := []) (st1 := [.int r110]) a 0 (kX7_arm e111 h0) rfl rfl ckX7_arm lkL_141 h0 eo_M_0 ⟨_, _, rfl⟩ nkX7_arm rfl rfl rfl (Nat.le_of_ble_eq_true rfl) (Nat.zero_le _) (Nat.zero_le _) (by decide +kernel) (fun H112 z113 => ?_)
            have h0 := h0.kept0 z113
            have hs := hs.step0 z113
            refine aw_b (pc' := 62) (lv' := [(0, .ref a), (1, .int i0), (2, .int r1), (3, .int v3_b7), (4, .int v4_x18_42)]) (st' := [.int (2 : Int32), .int (-1 : Int32), .ref a, .int r110]) [(59, .aload_n 0, 1, .null), (60, .iconst (-1), 1, .int (-1 : Int32)), (61, .iconst 2, 1, .int (2 : Int32))] (by decide +kernel) rfl ?_
            obtain ⟨r114, e115, hm⟩ := bn_x hm
            refine aw_cv (rest := [.int r110]) (st1 := [.int r114, .int r110]) a 0 (kX7_arm e115 h0) rfl rfl ckX7_arm lkL_141 h0 eo_M_0 ⟨_, _, rfl⟩ nkX7_arm rfl rfl rfl (Nat.le_of_ble_eq_true rfl) (Nat.zero_le _) (Nat.zero_le _) (by decide +kernel) (fun H116 z117 => ?_)
            have h0 := h0.kept0 z117
            have hs := hs.step0 z117
            refine aw_ic_ne (off := 53) 118 (by decide) (by decide +kernel) (fun hc => ?_) (fun hc => ?_)
            · have hm := (if_neg hc).symm.trans hm
              cases hm
              refine aw_lv (lv' := []) [] rfl ?_
              exact X7_118 H116 h0 hs ((congrArg (fL_areCostsRight_k7 s i0 r1) (show (.inl ()) = x7 from hk7)).trans hr7)
            · have hm := (if_pos hc).symm.trans hm
              refine aw_b (pc' := 72) (lv' := [(0, .ref a), (1, .int i0), (2, .int r1), (3, .int v3_b7), (4, .int v4_x18_42)]) (st' := [.int (6 : Int32), .int v3_b7, .ref a]) [(68, .aload_n 0, 1, .null), (69, .iload_n 3, 1, .null), (70, .bipush 6, 2, .int (6 : Int32))] (by decide +kernel) rfl ?_
              obtain ⟨r118, e119, hm⟩ := bn_x hm
              refine aw_cv (rest := []) (st1 := [.int r118]) a 0 (kX7_arm e119 h0) rfl rfl ckX7_arm lkL_141 h0 eo_M_0 ⟨_, _, rfl⟩ nkX7_arm rfl rfl rfl (Nat.le_of_ble_eq_true rfl) (Nat.zero_le _) (Nat.zero_le _) (by decide +kernel) (fun H120 z121 => ?_)
              have h0 := h0.kept0 z121
              have hs := hs.step0 z121
              refine aw_b (pc' := 79) (lv' := [(0, .ref a), (1, .int i0), (2, .int r1), (3, .int v3_b7), (4, .int v4_x18_42)]) (st' := [.int (6 : Int32), .int (-1 : Int32), .ref a, .int r118]) [(75, .aload_n 0, 1, .null), (76, .iconst (-1), 1, .int (-1 : Int32)), (77, .bipush 6, 2, .int (6 : Int32))] (by decide +kernel) rfl ?_
              obtain ⟨r122, e123, hm⟩ := bn_x hm
              refine aw_cv (rest := [.int r118]) (st1 := [.int r122, .int r118]) a 0 (kX7_arm e123 h0) rfl rfl ckX7_arm lkL_141 h0 eo_M_0 ⟨_, _, rfl⟩ nkX7_arm rfl rfl rfl (Nat.le_of_ble_eq_true rfl) (Nat.zero_le _) (Nat.zero_le _) (by decide +kernel) (fun H124 z125 => ?_)
              have h0 := h0.kept0 z125
              have hs := hs.step0 z125
              refine aw_ic_ne (off := 36) 118 (by decide) (by decide +kernel) (fun hc => ?_) (fun hc => ?_)
              · have hm := (if_neg hc).symm.trans hm
                cases hm
                refine aw_lv (lv' := []) [] rfl ?_
                exact X7_118 H124 h0 hs ((congrArg (fL_areCostsRight_k7 s i0 r1) (show (.inl ()) = x7 from hk7)).trans hr7)
              · have hm := (if_pos hc).symm.trans hm
                refine aw_b (pc' := 88) (lv' := [(0, .ref a), (1, .int i0), (2, .int r1), (3, .int v3_b7), (4, .int v4_x18_42)]) (st' := [.int (5 : Int32), .int v3_b7, .ref a]) [(85, .aload_n 0, 1, .null), (86, .iload_n 3, 1, .null), (87, .iconst 5, 1, .int (5 : Int32))] (by decide +kernel) rfl ?_
                obtain ⟨r126, e127, hm⟩ := bn_x hm
                refine aw_cv (rest := []) (st1 := [.int r126]) a 0 (kX7_arm e127 h0) rfl rfl ckX7_arm lkL_141 h0 eo_M_0 ⟨_, _, rfl⟩ nkX7_arm rfl rfl rfl (Nat.le_of_ble_eq_true rfl) (Nat.zero_le _) (Nat.zero_le _) (by decide +kernel) (fun H128 z129 => ?_)
                have h0 := h0.kept0 z129
                have hs := hs.step0 z129
                refine aw_b (pc' := 92) (lv' := [(0, .ref a), (1, .int i0), (2, .int r1), (3, .int v3_b7), (4, .int v4_x18_42)]) (st' := [.int r1, .int r126]) [(91, .iload_n 2, 1, .null)] (by decide +kernel) rfl ?_
                refine aw_ic_gt (off := 26) 118 (by decide) (by decide +kernel) (fun hc => ?_) (fun hc => ?_)
                · have hm := (if_pos hc).symm.trans hm
                  cases hm
                  refine aw_lv (lv' := []) [] rfl ?_
                  exact X7_118 H128 h0 hs ((congrArg (fL_areCostsRight_k7 s i0 r1) (show (.inl ()) = x7 from hk7)).trans hr7)
                · have hm := (if_neg hc).symm.trans hm
                  refine aw_b (pc' := 98) (lv' := [(0, .ref a), (1, .int i0), (2, .int r1), (3, .int v3_b7), (4, .int v4_x18_42)]) (st' := [.int (0 : Int32), .int v3_b7, .ref a]) [(95, .aload_n 0, 1, .null), (96, .iload_n 3, 1, .null), (97, .iconst 0, 1, .int (0 : Int32))] (by decide +kernel) rfl ?_
                  obtain ⟨r130, e131, hm⟩ := bn_x hm
                  refine aw_cv (rest := []) (st1 := [.int r130]) a 0 (kX7_arm e131 h0) rfl rfl ckX7_arm lkL_141 h0 eo_M_0 ⟨_, _, rfl⟩ nkX7_arm rfl rfl rfl (Nat.le_of_ble_eq_true rfl) (Nat.zero_le _) (Nat.zero_le _) (by decide +kernel) (fun H132 z133 => ?_)
                  have h0 := h0.kept0 z133
                  have hs := hs.step0 z133
                  refine aw_if_lt (off := 17) 118 (by decide) (by decide +kernel) (fun hc => ?_) (fun hc => ?_)
                  · have hm := (if_pos hc).symm.trans hm
                    cases hm
                    refine aw_lv (lv' := []) [] rfl ?_
                    exact X7_118 H132 h0 hs ((congrArg (fL_areCostsRight_k7 s i0 r1) (show (.inl ()) = x7 from hk7)).trans hr7)
                  · have hm := (if_neg hc).symm.trans hm
                    refine aw_b (pc' := 107) (lv' := [(0, .ref a), (1, .int i0), (2, .int r1), (3, .int v3_b7), (4, .int v4_x18_42)]) (st' := [.int (0 : Int32), .int v3_b7, .ref a]) [(104, .aload_n 0, 1, .null), (105, .iload_n 3, 1, .null), (106, .iconst 0, 1, .int (0 : Int32))] (by decide +kernel) rfl ?_
                    obtain ⟨r134, e135, hm⟩ := bn_x hm
                    refine aw_cv (rest := []) (st1 := [.int r134]) a 0 (kX7_arm e135 h0) rfl rfl ckX7_arm lkL_141 h0 eo_M_0 ⟨_, _, rfl⟩ nkX7_arm rfl rfl rfl (Nat.le_of_ble_eq_true rfl) (Nat.zero_le _) (Nat.zero_le _) (by decide +kernel) (fun H136 z137 => ?_)
                    have h0 := h0.kept0 z137
                    have hs := hs.step0 z137
                    refine aw_b (pc' := 112) (lv' := [(0, .ref a), (1, .int i0), (2, .int r1), (3, .int v3_b7), (4, .int v4_x18_42)]) (st' := [.int (0 : Int32), .ref a, .int r134]) [(110, .aload_n 0, 1, .null), (111, .iconst 0, 1, .int (0 : Int32))] (by decide +kernel) rfl ?_
                    obtain ⟨r138, e139, hm⟩ := bn_x hm
                    refine aw_cv (rest := [.int r134]) (st1 := [.int r138, .int r134]) a 0 (kX7_setting e139 h0) rfl rfl ckX7_setting lkL_111 h0 eo_M_0 ⟨_, _, rfl⟩ nkX7_setting rfl rfl rfl (Nat.le_of_ble_eq_true rfl) (Nat.zero_le _) (Nat.zero_le _) (by decide +kernel) (fun H140 z141 => ?_)
                    have h0 := h0.kept0 z141
                    have hs := hs.step0 z141
                    refine aw_ic_lt (off := 5) 120 (by decide) (by decide +kernel) (fun hc => ?_) (fun hc => ?_)
                    · have hm := (if_pos hc).symm.trans hm
                      refine aw_b (pc' := 123) (lv' := [(0, .ref a), (1, .int i0), (2, .int r1), (3, .int v3_b7), (4, .int v4_x18_42)]) (st' := [.int r1, .int v3_b7, .ref a]) [(120, .aload_n 0, 1, .null), (121, .iload_n 3, 1, .null), (122, .iload_n 2, 1, .null)] (by decide +kernel) rfl ?_
                      obtain ⟨r142, e143, hm⟩ := bn_x hm
                      refine aw_cv (rest := []) (st1 := [.int r142]) a 0 (kX7_cost e143 h0) rfl rfl ckX7_cost lkL_161 h0 eo_M_0 ⟨_, _, rfl⟩ nkX7_cost rfl rfl rfl (Nat.le_of_ble_eq_true rfl) (Nat.zero_le _) (Nat.zero_le _) (by decide +kernel) (fun H144 z145 => ?_)
                      have h0 := h0.kept0 z145
                      have hs := hs.step0 z145
                      refine aw_ldc (v := (-2000000000 : Int32)) kwL_164 (by decide +kernel) ?_
                      refine aw_ic_ne (off := 26) 154 (by decide) (by decide +kernel) (fun hc => ?_) (fun hc => ?_)
                      · have hm := (if_neg hc).symm.trans hm
                        cases hm
                        refine aw_lv (lv' := []) [] rfl ?_
                        exact X7_154 H144 h0 hs ((congrArg (fL_areCostsRight_k7 s i0 r1) (show (.inr (.inl ())) = x7 from hk7)).trans hr7)
                      · have hm := (if_pos hc).symm.trans hm
                        refine aw_b (pc' := 133) (lv' := [(0, .ref a), (1, .int i0), (2, .int r1), (3, .int v3_b7), (4, .int v4_x18_42)]) (st' := [.int v3_b7, .ref a]) [(131, .aload_n 0, 1, .null), (132, .iload_n 3, 1, .null)] (by decide +kernel) rfl ?_
                        obtain ⟨r146, e147, hm⟩ := bn_x hm
                        refine aw_cv (rest := []) (st1 := [.double r146]) a 0 (kX7_meanCost e147 h0) rfl rfl ckX7_meanCost lkL_165 h0 eo_M_0 ⟨_, _, rfl⟩ nkX7_meanCost rfl rfl rfl (Nat.le_of_ble_eq_true rfl) (Nat.zero_le _) (Nat.zero_le _) (by decide +kernel) (fun H148 z149 => ?_)
                        have h0 := h0.kept0 z149
                        have hs := hs.step0 z149
                        refine aw_b (pc' := 137) (lv' := [(0, .ref a), (1, .int i0), (2, .int r1), (3, .int v3_b7), (4, .int v4_x18_42)]) (st' := [.int r1, .double r146]) [(136, .iload_n 2, 1, .null)] (by decide +kernel) rfl ?_
                        have J150 : ∀ (z1_j150 : UInt64) (H_j150 : Heap), has_ E H_j150 a ly_M s → sm_ H H_j150 0 0 → fL_areCostsRight_j150 s r1 v3_b7 r146 z1_j150 = some y7 → aw E mL_areCostsRight Q 150 [(0, .ref a), (1, .int i0), (2, .int r1), (3, .int v3_b7)] [.double z1_j150, .double r146] H_j150 0 0 := by
                          intro z1_j150 H_j150 h0 hs hm
                          unfold fL_areCostsRight_j150 at hm
                          refine aw_b (pc' := 151) (lv' := [(0, .ref a), (1, .int i0), (2, .int r1), (3, .int v3_b7)]) (st' := [.int (Op.cmpValue (FP.dcmp r146 z1_j150) .l)]) [(150, .dcmp .l, 1, .null)] (by decide +kernel) rfl ?_
                          refine aw_if_eq (off := 5) 156 (by decide) (by decide +kernel) (fun hc => ?_) (fun hc => ?_)
                          · have hm := (if_pos hc).symm.trans hm
                            refine aw_b (pc' := 159) (lv' := [(5, .int (0 : Int32)), (0, .ref a), (1, .int i0), (2, .int r1), (3, .int v3_b7)]) (st' := []) [(156, .iconst 0, 1, .int (0 : Int32)), (157, .istore 5, 2, .null)] (by decide +kernel) rfl ?_
                            obtain ⟨x159, hx159, hr159⟩ := bn_x hm
                            have X159_216 : ∀ (H_x159_216 : Heap), has_ E H_x159_216 a ly_M s → sm_ H H_x159_216 0 0 → fL_areCostsRight_x159_216 v3_b7 = some y7 → aw E mL_areCostsRight Q 216 [(0, .ref a), (1, .int i0), (2, .int r1), (3, .int v3_b7)] [] H_x159_216 0 0 := by
                              intro H_x159_216 h0 hs hm
                              unfold fL_areCostsRight_x159_216 at hm
                              refine aw_b (pc' := 7) (lv' := [(3, .int (v3_b7 + (1 : Int32))), (0, .ref a), (1, .int i0), (2, .int r1)]) (st' := []) [(216, .iinc 3 1, 3, .int (1 : Int32)), (219, .goto (-212), 3, .null)] (by decide +kernel) rfl ?_
                              cases hm
                              refine aw_lv (lv' := [(0, .ref a), (1, .int i0), (2, .int r1), (3, .int (v3_b7 + (1 : Int32)))]) [1, 2, 3, 0] rfl ?_
                              exact ih7 (v3_b7 + (1 : Int32)) H_x159_216 h0 hs hk7
                            have X159_208 : ∀ (H_x159_208 : Heap), has_ E H_x159_208 a ly_M s → sm_ H H_x159_208 0 0 → fL_areCostsRight_x159_208 = some y7 → aw E mL_areCostsRight Q 208 [] [] H_x159_208 0 0 := by
                              intro H_x159_208 h0 hs hm
                              unfold fL_areCostsRight_x159_208 at hm
                              cases hm
                              exact X7_208 H_x159_208 h0 hs ((congrArg (fL_areCostsRight_k7 s i0 r1) (show (.inr (.inr (.inl ()))) = x7 from hk7)).trans hr7)
                            have L159 : ∀ (fu : Nat) (v5_b159 : Int32) (H_b159 : Heap), has_ E H_b159 a ly_M s → sm_ H H_b159 0 0 → fL_areCostsRight_l159 s r1 v3_b7 fu v5_b159 = some x159 → aw E mL_areCostsRight Q 159 [(0, .ref a), (1, .int i0), (2, .int r1), (3, .int v3_b7), (5, .int v5_b159)] [] H_b159 0 0 := by
                              intro fu
                              induction fu with
                              | zero =>
                                intro v5_b159 H_b159 h0 hs hm
                                exact (it_0 hm).elim
                              | succ fu ih159 =>
                                intro v5_b159 H_b159 h0 hs hm
                                obtain ⟨y159, hm, hk159⟩ := it_s hm
                                have hm : fL_areCostsRight_b159 s r1 v3_b7 v5_b159 = some y159 := hm
                                unfold fL_areCostsRight_b159 at hm
                                refine aw_b (pc' := 164) (lv' := [(0, .ref a), (1, .int i0), (2, .int r1), (3, .int v3_b7), (5, .int v5_b159)]) (st' := [.int (2 : Int32), .int v3_b7, .ref a, .int v5_b159]) [(159, .iload 5, 2, .null), (161, .aload_n 0, 1, .null), (162, .iload_n 3, 1, .null), (163, .iconst 2, 1, .int (2 : Int32))] (by decide +kernel) rfl ?_
                                obtain ⟨r150, e151, hm⟩ := bn_x hm
                                refine aw_cv (rest := [.int v5_b159]) (st1 := [.int r150, .int v5_b159]) a 0 (kX7_arm e151 h0) rfl rfl ckX7_arm lkL_141 h0 eo_M_0 ⟨_, _, rfl⟩ nkX7_arm rfl rfl rfl (Nat.le_of_ble_eq_true rfl) (Nat.zero_le _) (Nat.zero_le _) (by decide +kernel) (fun H152 z153 => ?_)
                                have h0 := h0.kept0 z153
                                have hs := hs.step0 z153
                                refine aw_ic_ge (off := 49) 216 (by decide) (by decide +kernel) (fun hc => ?_) (fun hc => ?_)
                                · have hm := (if_pos hc).symm.trans hm
                                  cases hm
                                  refine aw_lv (lv' := [(0, .ref a), (1, .int i0), (2, .int r1), (3, .int v3_b7)]) [0, 1, 2, 3] rfl ?_
                                  exact X159_216 H152 h0 hs ((congrArg (fL_areCostsRight_k159 v3_b7) (show (.inr ()) = x159 from hk159)).trans hr159)
                                · have hm := (if_neg hc).symm.trans hm
                                  refine aw_b (pc' := 175) (lv' := [(0, .ref a), (1, .int i0), (2, .int r1), (3, .int v3_b7), (5, .int v5_b159)]) (st' := [.int (1 : Int32), .int v5_b159, .int v3_b7, .ref a]) [(170, .aload_n 0, 1, .null), (171, .iload_n 3, 1, .null), (172, .iload 5, 2, .null), (174, .iconst 1, 1, .int (1 : Int32))] (by decide +kernel) rfl ?_
                                  obtain ⟨r154, e155, hm⟩ := bn_x hm
                                  refine aw_cv (rest := []) (st1 := [.int r154]) a 0 (kX7_waiting e155 h0) rfl rfl ckX7_waiting lkL_169 h0 eo_M_0 ⟨_, _, rfl⟩ nkX7_waiting rfl rfl rfl (Nat.le_of_ble_eq_true rfl) (Nat.zero_le _) (Nat.zero_le _) (by decide +kernel) (fun H156 z157 => ?_)
                                  have h0 := h0.kept0 z157
                                  have hs := hs.step0 z157
                                  refine aw_b (pc' := 179) (lv' := [(0, .ref a), (1, .int i0), (2, .int r1), (3, .int v3_b7), (5, .int v5_b159)]) (st' := [.int r1, .int r154]) [(178, .iload_n 2, 1, .null)] (by decide +kernel) rfl ?_
                                  refine aw_ic_gt (off := 29) 208 (by decide) (by decide +kernel) (fun hc => ?_) (fun hc => ?_)
                                  · have hm := (if_pos hc).symm.trans hm
                                    cases hm
                                    refine aw_lv (lv' := []) [] rfl ?_
                                    exact X159_208 H156 h0 hs ((congrArg (fL_areCostsRight_k159 v3_b7) (show (.inl ()) = x159 from hk159)).trans hr159)
                                  · have hm := (if_neg hc).symm.trans hm
                                    refine aw_b (pc' := 184) (lv' := [(0, .ref a), (1, .int i0), (2, .int r1), (3, .int v3_b7), (5, .int v5_b159)]) (st' := [.int v5_b159]) [(182, .iload 5, 2, .null)] (by decide +kernel) rfl ?_
                                    have J210 : ∀ (H_j210 : Heap), has_ E H_j210 a ly_M s → sm_ H H_j210 0 0 → fL_areCostsRight_j210 v5_b159 = some y159 → aw E mL_areCostsRight Q 210 [(0, .ref a), (1, .int i0), (2, .int r1), (3, .int v3_b7), (5, .int v5_b159)] [] H_j210 0 0 := by
                                      intro H_j210 h0 hs hm
                                      unfold fL_areCostsRight_j210 at hm
                                      refine aw_b (pc' := 159) (lv' := [(5, .int (v5_b159 + (1 : Int32))), (0, .ref a), (1, .int i0), (2, .int r1), (3, .int v3_b7)]) (st' := []) [(210, .iinc 5 1, 3, .int (1 : Int32)), (213, .goto (-54), 3, .null)] (by decide +kernel) rfl ?_
                                      cases hm
                                      refine aw_lv (lv' := [(0, .ref a), (1, .int i0), (2, .int r1), (3, .int v3_b7), (5, .int (v5_b159 + (1 : Int32)))]) [1, 2, 3, 4, 0] rfl ?_
                                      exact ih159 (v5_b159 + (1 : Int32)) H_j210 h0 hs hk159
                                    refine aw_if_le (off := 26) 210 (by decide) (by decide +kernel) (fun hc => ?_) (fun hc => ?_)
                                    · have hm := (if_pos hc).symm.trans hm
                                      exact J210 H156 h0 hs hm
                                    · have hm := (if_neg hc).symm.trans hm
                                      refine aw_b (pc' := 192) (lv' := [(0, .ref a), (1, .int i0), (2, .int r1), (3, .int v3_b7), (5, .int v5_b159)]) (st' := [.int (1 : Int32), .int v5_b159, .int v3_b7, .ref a]) [(187, .aload_n 0, 1, .null), (188, .iload_n 3, 1, .null), (189, .iload 5, 2, .null), (191, .iconst 1, 1, .int (1 : Int32))] (by decide +kernel) rfl ?_
                                      obtain ⟨r158, e159, hm⟩ := bn_x hm
                                      refine aw_cv (rest := []) (st1 := [.int r158]) a 0 (kX7_waiting e159 h0) rfl rfl ckX7_waiting lkL_169 h0 eo_M_0 ⟨_, _, rfl⟩ nkX7_waiting rfl rfl rfl (Nat.le_of_ble_eq_true rfl) (Nat.zero_le _) (Nat.zero_le _) (by decide +kernel) (fun H160 z161 => ?_)
                                      have h0 := h0.kept0 z161
                                      have hs := hs.step0 z161
                                      refine aw_b (pc' := 202) (lv' := [(0, .ref a), (1, .int i0), (2, .int r1), (3, .int v3_b7), (5, .int v5_b159)]) (st' := [.int (1 : Int32), .int (v5_b159 - (1 : Int32)), .int v3_b7, .ref a, .int r158]) [(195, .aload_n 0, 1, .null), (196, .iload_n 3, 1, .null), (197, .iload 5, 2, .null), (199, .iconst 1, 1, .int (1 : Int32)), (200, .isub, 1, .null), (201, .iconst 1, 1, .int (1 : Int32))] (by decide +kernel) rfl ?_
                                      obtain ⟨r162, e163, hm⟩ := bn_x hm
                                      refine aw_cv (rest := [.int r158]) (st1 := [.int r162, .int r158]) a 0 (kX7_waiting e163 h0) rfl rfl ckX7_waiting lkL_169 h0 eo_M_0 ⟨_, _, rfl⟩ nkX7_waiting rfl rfl rfl (Nat.le_of_ble_eq_true rfl) (Nat.zero_le _) (Nat.zero_le _) (by decide +kernel) (fun H164 z165 => ?_)
                                      have h0 := h0.kept0 z165
                                      have hs := hs.step0 z165
                                      refine aw_ic_ge (off := 5) 210 (by decide) (by decide +kernel) (fun hc => ?_) (fun hc => ?_)
                                      · have hm := (if_pos hc).symm.trans hm
                                        exact J210 H164 h0 hs hm
                                      · have hm := (if_neg hc).symm.trans hm
                                        cases hm
                                        refine aw_lv (lv' := []) [] rfl ?_
                                        exact X159_208 H164 h0 hs ((congrArg (fL_areCostsRight_k159 v3_b7) (show (.inl ()) = x159 from hk159)).trans hr159)
                            refine aw_lv (lv' := [(0, .ref a), (1, .int i0), (2, .int r1), (3, .int v3_b7), (5, .int (0 : Int32))]) [1, 2, 3, 4, 0] rfl ?_
                            exact L159 FU_ (0 : Int32) H_j150 h0 hs hx159
                          · have hm := (if_neg hc).symm.trans hm
                            cases hm
                            refine aw_lv (lv' := []) [] rfl ?_
                            exact X7_154 H_j150 h0 hs ((congrArg (fL_areCostsRight_k7 s i0 r1) (show (.inr (.inl ())) = x7 from hk7)).trans hr7)
                        refine aw_if_ne (off := 7) 144 (by decide) (by decide +kernel) (fun hc => ?_) (fun hc => ?_)
                        · have hm := (if_neg hc).symm.trans hm
                          refine aw_b (pc' := 149) (lv' := [(0, .ref a), (1, .int i0), (2, .int r1), (3, .int v3_b7), (4, .int v4_x18_42)]) (st' := [.double (FP.i2d r1), .double (FP.i2d v4_x18_42), .double r146]) [(144, .iload 4, 2, .null), (146, .i2d, 1, .null), (147, .iload_n 2, 1, .null), (148, .i2d, 1, .null)] (by decide +kernel) rfl ?_
                          obtain ⟨g166, hm⟩ := gd_x hm
                          refine aw_ddiv (n64_x g166) (by decide +kernel) ?_
                          refine aw_lv (lv' := [(0, .ref a), (1, .int i0), (2, .int r1), (3, .int v3_b7)]) [0, 1, 2, 3] rfl ?_
                          exact J150 (FP.ddiv (FP.i2d v4_x18_42) (FP.i2d r1)) H148 h0 hs hm
                        · have hm := (if_pos hc).symm.trans hm
                          refine aw_dc0 (by decide +kernel) ?_
                          refine aw_b (pc' := 150) (lv' := [(0, .ref a), (1, .int i0), (2, .int r1), (3, .int v3_b7), (4, .int v4_x18_42)]) (st' := [.double FP.dconst0, .double r146]) [(141, .goto 9, 3, .null)] (by decide +kernel) rfl ?_
                          refine aw_lv (lv' := [(0, .ref a), (1, .int i0), (2, .int r1), (3, .int v3_b7)]) [0, 1, 2, 3] rfl ?_
                          exact J150 FP.dconst0 H148 h0 hs hm
                    · have hm := (if_neg hc).symm.trans hm
                      cases hm
                      refine aw_lv (lv' := []) [] rfl ?_
                      exact X7_118 H140 h0 hs ((congrArg (fL_areCostsRight_k7 s i0 r1) (show (.inl ()) = x7 from hk7)).trans hr7)
        have L18 : ∀ (fu : Nat) (v4_b18 : Int32) (v5_b18 : Int32) (H_b18 : Heap), has_ E H_b18 a ly_M s → sm_ H H_b18 0 0 → fL_areCostsRight_l18 s r1 v3_b7 fu (v4_b18, v5_b18) = some x18 → aw E mL_areCostsRight Q 18 [(0, .ref a), (1, .int i0), (2, .int r1), (3, .int v3_b7), (4, .int v4_b18), (5, .int v5_b18)] [] H_b18 0 0 := by
          intro fu
          induction fu with
          | zero =>
            intro v4_b18 v5_b18 H_b18 h0 hs hm
            exact (it_0 hm).elim
          | succ fu ih18 =>
            intro v4_b18 v5_b18 H_b18 h0 hs hm
            obtain ⟨y18, hm, hk18⟩ := it_s hm
            have hm : fL_areCostsRight_b18 s r1 v3_b7 v4_b18 v5_b18 = some y18 := hm
            unfold fL_areCostsRight_b18 at hm
            refine aw_b (pc' := 21) (lv' := [(0, .ref a), (1, .int i0), (2, .int r1), (3, .int v3_b7), (4, .int v4_b18), (5, .int v5_b18)]) (st' := [.int r1, .int v5_b18]) [(18, .iload 5, 2, .null), (20, .iload_n 2, 1, .null)] (by decide +kernel) rfl ?_
            refine aw_ic_ge (off := 21) 42 (by decide) (by decide +kernel) (fun hc => ?_) (fun hc => ?_)
            · have hm := (if_pos hc).symm.trans hm
              cases hm
              refine aw_lv (lv' := [(0, .ref a), (1, .int i0), (2, .int r1), (3, .int v3_b7), (4, .int v4_b18)]) [0, 1, 2, 3, 4] rfl ?_
              exact X18_42 v4_b18 H_b18 h0 hs ((congrArg (fL_areCostsRight_k18 s r1 v3_b7) (show (v4_b18) = x18 from hk18)).trans hr18)
            · have hm := (if_neg hc).symm.trans hm
              refine aw_b (pc' := 30) (lv' := [(0, .ref a), (1, .int i0), (2, .int r1), (3, .int v3_b7), (4, .int v4_b18), (5, .int v5_b18)]) (st' := [.int v5_b18, .int v3_b7, .ref a, .int v4_b18]) [(24, .iload 4, 2, .null), (26, .aload_n 0, 1, .null), (27, .iload_n 3, 1, .null), (28, .iload 5, 2, .null)] (by decide +kernel) rfl ?_
              obtain ⟨r167, e168, hm⟩ := bn_x hm
              refine aw_cv (rest := [.int v4_b18]) (st1 := [.int r167, .int v4_b18]) a 0 (kX7_cost e168 h0) rfl rfl ckX7_cost lkL_161 h0 eo_M_0 ⟨_, _, rfl⟩ nkX7_cost rfl rfl rfl (Nat.le_of_ble_eq_true rfl) (Nat.zero_le _) (Nat.zero_le _) (by decide +kernel) (fun H169 z170 => ?_)
              have h0 := h0.kept0 z170
              have hs := hs.step0 z170
              refine aw_b (pc' := 18) (lv' := [(5, .int (v5_b18 + (1 : Int32))), (4, .int (v4_b18 + r167)), (0, .ref a), (1, .int i0), (2, .int r1), (3, .int v3_b7)]) (st' := []) [(33, .iadd, 1, .null), (34, .istore 4, 2, .null), (36, .iinc 5 1, 3, .int (1 : Int32)), (39, .goto (-21), 3, .null)] (by decide +kernel) rfl ?_
              cases hm
              refine aw_lv (lv' := [(0, .ref a), (1, .int i0), (2, .int r1), (3, .int v3_b7), (4, .int (v4_b18 + r167)), (5, .int (v5_b18 + (1 : Int32)))]) [2, 3, 4, 5, 1, 0] rfl ?_
              exact ih18 (v4_b18 + r167) (v5_b18 + (1 : Int32)) H169 h0 hs hk18
        refine aw_lv (lv' := [(0, .ref a), (1, .int i0), (2, .int r1), (3, .int v3_b7), (4, .int (0 : Int32)), (5, .int (0 : Int32))]) [2, 3, 4, 5, 1, 0] rfl ?_
        exact L18 FU_ (0 : Int32) (0 : Int32) H_b7 h0 hs hx18
  refine aw_lv (lv' := [(0, .ref a), (1, .int i0), (2, .int r1), (3, .int (-1 : Int32))]) [2, 3, 1, 0] rfl ?_
  exact L7 FU_ (-1 : Int32) H3 h0 hs hx7
