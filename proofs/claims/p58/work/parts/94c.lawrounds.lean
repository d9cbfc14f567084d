/-! the law: areRoundsRight -/
def ly_IRx_ (rr : Nat) : ly_ := [ia_ rr]
def mL_areRoundsRight : mt_ := (yL_areRoundsRight, cL_areRoundsRight, 10, some .boolean, [], { frames := 5, locals := 116, cells := 1, slots := 6 })
theorem ckL_areRoundsRight : cokS_ mL_areRoundsRight := ⟨⟨(uw_mem 1302 (by decide +kernel) (by decide +kernel)), (uw_mem 28 (by decide +kernel) (by decide +kernel)), by decide +kernel, by decide +kernel⟩, (uw_mem 1301 (by decide +kernel) (by decide +kernel))⟩
theorem nkL_areRoundsRight : nok_ mL_areRoundsRight 2 := by decide +kernel
theorem lkL_207 : Cond.methodLink RL 207 yX7_windowRegret ∈ uw_ := (uw_mem 1310 (by decide +kernel) (by decide +kernel))
theorem lkL_210 : Cond.methodLink RL 210 yX7_windowBest ∈ uw_ := (uw_mem 1328 (by decide +kernel) (by decide +kernel))
theorem lkL_213 : Cond.methodLink RL 213 yX7_worstWindow ∈ uw_ := (uw_mem 1333 (by decide +kernel) (by decide +kernel))
theorem lkL_216 : Cond.methodLink RL 216 yX7_switches ∈ uw_ := (uw_mem 1337 (by decide +kernel) (by decide +kernel))
theorem lkL_219 : Cond.methodLink RL 219 yX7_bestPair ∈ uw_ := (uw_mem 1341 (by decide +kernel) (by decide +kernel))
theorem kwL_200 : Cond.constant RL 200 (2147483647 : Int32) ∈ uw_ := (uw_mem 1307 (by decide +kernel) (by decide +kernel))
theorem mtL_204 : ml_ RL 204 Lib.Math.max.name Lib.Math.max.code 2 .int := ⟨(uw_mem 1309 (by decide +kernel) (by decide +kernel)), (uw_mem 768 (by decide +kernel) (by decide +kernel)), (uw_mem 38 (by decide +kernel) (by decide +kernel)), (uw_mem 769 (by decide +kernel) (by decide +kernel))⟩
theorem mtL_201 : ml_ RL 201 Lib.Math.min.name Lib.Math.min.code 2 .int := ⟨(uw_mem 1308 (by decide +kernel) (by decide +kernel)), (uw_mem 632 (by decide +kernel) (by decide +kernel)), (uw_mem 38 (by decide +kernel) (by decide +kernel)), (uw_mem 633 (by decide +kernel) (by decide +kernel))⟩
theorem lkL_195 : Cond.methodLink RL 195 yX7_taken ∈ uw_ := (uw_mem 1303 (by decide +kernel) (by decide +kernel))
def fL_areRoundsRight_j399 (t_x18_204 : st_) : Option (st_ × Int32) :=
  some (t_x18_204, (0 : Int32))
def fL_areRoundsRight_j355 (s : st_) (t_x18_204 : st_) (z0_j345 : Int32) (z1_j355 : Int32) : Option (st_ × Int32) :=
  if z0_j345 = z1_j355 then (bn_ (gX7_bestPair s (0 : Int32)) fun r33 =>
  bn_ (gX7_best s) fun r37 =>
  bn_ (gX7_arm s r37 (3 : Int32)) fun r41 =>
  if r41 < r33 then (fL_areRoundsRight_j399 t_x18_204)
  else (bn_ (gX7_bestPair s (3 : Int32)) fun r45 =>
  if r45 < (0 : Int32) then (fL_areRoundsRight_j399 t_x18_204)
  else (bn_ (gX7_bestPair s (3 : Int32)) fun r49 =>
  bn_ (gX7_rounds s) fun r53 =>
  if r53 < r49 then (fL_areRoundsRight_j399 t_x18_204)
  else (some (t_x18_204, (1 : Int32))))))
  else (fL_areRoundsRight_j399 t_x18_204)
def fL_areRoundsRight_j345 (s : st_) (v4_x18_204 : Int32) (t_x18_204 : st_) (z0_j345 : Int32) : Option (st_ × Int32) :=
  if v4_x18_204 ≤ (0 : Int32) then (fL_areRoundsRight_j355 s t_x18_204 z0_j345 (0 : Int32))
  else (fL_areRoundsRight_j355 s t_x18_204 z0_j345 (1 : Int32))
def fL_areRoundsRight_j305 (s : st_) (v2_x18_204 : Int32) (v3_x18_204 : Int32) (v4_x18_204 : Int32) (t_x18_204 : st_) : Option (st_ × Int32) :=
  bn_ (gX7_switches s) fun r17 =>
  if v2_x18_204 = r17 then (bn_ (gX7_regret s (3 : Int32)) fun r21 =>
  if v3_x18_204 = r21 then (bn_ (gX7_regret s (2 : Int32)) fun r25 =>
  if v4_x18_204 = r25 then (bn_ (gX7_regret s (4 : Int32)) fun r29 =>
  if r29 < (0 : Int32) then (fL_areRoundsRight_j345 s v4_x18_204 t_x18_204 (0 : Int32))
  else (fL_areRoundsRight_j345 s v4_x18_204 t_x18_204 (1 : Int32)))
  else (fL_areRoundsRight_j399 t_x18_204))
  else (fL_areRoundsRight_j399 t_x18_204))
  else (fL_areRoundsRight_j399 t_x18_204)
def fL_areRoundsRight_x18_204 (s : st_) (v2_x18_204 : Int32) (v3_x18_204 : Int32) (v4_x18_204 : Int32) (t_x18_204 : st_) : Option (st_ × Int32) :=
  bn_ (gX7_rounds s) fun r1 =>
  bn_ (gX7_windowRegret s (0 : Int32) (r1 + (1 : Int32))) fun r5 =>
  if r5 = (-2000000000 : Int32) then (bn_ (gX7_windowBest s r1 (1 : Int32)) fun r9 =>
  if r9 = (-1 : Int32) then (bn_ (gX7_worstWindow s (r1 + (1 : Int32))) fun r13 =>
  if r13 = (-1 : Int32) then (if r1 ≤ (1 : Int32) then (fL_areRoundsRight_j305 s v2_x18_204 v3_x18_204 v4_x18_204 t_x18_204)
  else (bn_ (gX7_windowRegret s (0 : Int32) r1) fun r57 =>
  bn_ (gX7_regret s (0 : Int32)) fun r61 =>
  if r57 = r61 then (bn_ (gX7_windowBest s (0 : Int32) r1) fun r65 =>
  bn_ (gX7_best s) fun r69 =>
  if r65 = r69 then (bn_ (gX7_worstWindow s (2 : Int32)) fun r73 =>
  bn_ (gX7_windowRegret s r73 (2 : Int32)) fun r77 =>
  bn_ (gX7_windowRegret s (0 : Int32) (2 : Int32)) fun r81 =>
  if r81 ≤ r77 then (fL_areRoundsRight_j305 s v2_x18_204 v3_x18_204 v4_x18_204 t_x18_204)
  else (some (t_x18_204, (0 : Int32))))
  else (some (t_x18_204, (0 : Int32))))
  else (some (t_x18_204, (0 : Int32)))))
  else (some (t_x18_204, (0 : Int32))))
  else (some (t_x18_204, (0 : Int32))))
  else (some (t_x18_204, (0 : Int32)))
def fL_areRoundsRight_k18 (s : st_) (x : Int32 × Int32 × Int32 × st_) : Option (st_ × Int32) :=
  fL_areRoundsRight_x18_204 s x.1 x.2.1 x.2.2.1 x.2.2.2
def fL_areRoundsRight_j195 (v2_b18 : Int32) (v4_b18 : Int32) (v6_b18 : Int32) (v7_b18 : Int32) (z1_j55 : Int32) (r89 : Int32) (t_x76_116 : st_) (z0_j163 : Int32) (z1_j195 : Int32) : Option ((Int32 × Int32 × Int32 × Int32 × Int32 × st_) ⊕ (Int32 × Int32 × Int32 × st_)) :=
  some (.inl ((v2_b18 + z1_j55), z0_j163, (v4_b18 + z1_j195), (v6_b18 + r89), (v7_b18 + (1 : Int32)), t_x76_116))
def fL_areRoundsRight_j163 (s : st_) (v2_b18 : Int32) (v4_b18 : Int32) (v6_b18 : Int32) (v7_b18 : Int32) (z1_j55 : Int32) (r89 : Int32) (v8_x76_116 : Int32) (t_x76_116 : st_) (v9_x119_141 : Int32) (z0_j163 : Int32) : Option ((Int32 × Int32 × Int32 × Int32 × Int32 × st_) ⊕ (Int32 × Int32 × Int32 × st_)) :=
  bn_ (gX7_setting s (11 : Int32)) fun r93 =>
  bn_ (gX7_setting s (12 : Int32)) fun r97 =>
  if ((v6_b18 + r89) - v8_x76_116) ≤ (r93 + (r97 * v9_x119_141)) then (fL_areRoundsRight_j195 v2_b18 v4_b18 v6_b18 v7_b18 z1_j55 r89 t_x76_116 z0_j163 (0 : Int32))
  else (fL_areRoundsRight_j195 v2_b18 v4_b18 v6_b18 v7_b18 z1_j55 r89 t_x76_116 z0_j163 (1 : Int32))
def fL_areRoundsRight_x119_141 (s : st_) (v2_b18 : Int32) (v3_b18 : Int32) (v4_b18 : Int32) (v6_b18 : Int32) (v7_b18 : Int32) (z1_j55 : Int32) (r89 : Int32) (v8_x76_116 : Int32) (t_x76_116 : st_) (v9_x119_141 : Int32) : Option ((Int32 × Int32 × Int32 × Int32 × Int32 × st_) ⊕ (Int32 × Int32 × Int32 × st_)) :=
  if v7_b18 = (0 : Int32) then (fL_areRoundsRight_j163 s v2_b18 v4_b18 v6_b18 v7_b18 z1_j55 r89 v8_x76_116 t_x76_116 v9_x119_141 ((v6_b18 + r89) - v8_x76_116))
  else (fL_areRoundsRight_j163 s v2_b18 v4_b18 v6_b18 v7_b18 z1_j55 r89 v8_x76_116 t_x76_116 v9_x119_141 (if v3_b18 < ((v6_b18 + r89) - v8_x76_116) then ((v6_b18 + r89) - v8_x76_116) else v3_b18))
def fL_areRoundsRight_k119 (s : st_) (v2_b18 : Int32) (v3_b18 : Int32) (v4_b18 : Int32) (v6_b18 : Int32) (v7_b18 : Int32) (z1_j55 : Int32) (r89 : Int32) (v8_x76_116 : Int32) (t_x76_116 : st_) (x : Int32) : Option ((Int32 × Int32 × Int32 × Int32 × Int32 × st_) ⊕ (Int32 × Int32 × Int32 × st_)) :=
  fL_areRoundsRight_x119_141 s v2_b18 v3_b18 v4_b18 v6_b18 v7_b18 z1_j55 r89 v8_x76_116 t_x76_116 x
def fL_areRoundsRight_b119 (v7_b18 : Int32) (v9_b119 : Int32) : Option ((Int32) ⊕ (Int32)) :=
  if (v7_b18 + (1 : Int32)) < ((v9_b119 + (1 : Int32)) * (v9_b119 + (1 : Int32))) then (some (.inr v9_b119))
  else (some (.inl (v9_b119 + (1 : Int32))))
def fL_areRoundsRight_l119 (v7_b18 : Int32) : Nat → Int32 → Option (Int32) :=
  it_ (fun v => fL_areRoundsRight_b119 v7_b18 v)
def fL_areRoundsRight_x76_116 (s : st_) (v2_b18 : Int32) (v3_b18 : Int32) (v4_b18 : Int32) (v6_b18 : Int32) (v7_b18 : Int32) (z1_j55 : Int32) (r89 : Int32) (v8_x76_116 : Int32) (t_x76_116 : st_) : Option ((Int32 × Int32 × Int32 × Int32 × Int32 × st_) ⊕ (Int32 × Int32 × Int32 × st_)) :=
  bn_ (fL_areRoundsRight_l119 v7_b18 FU_ (0 : Int32)) (fL_areRoundsRight_k119 s v2_b18 v3_b18 v4_b18 v6_b18 v7_b18 z1_j55 r89 v8_x76_116 t_x76_116)
def fL_areRoundsRight_k76 (s : st_) (v2_b18 : Int32) (v3_b18 : Int32) (v4_b18 : Int32) (v6_b18 : Int32) (v7_b18 : Int32) (z1_j55 : Int32) (r89 : Int32) (x : Int32 × st_) : Option ((Int32 × Int32 × Int32 × Int32 × Int32 × st_) ⊕ (Int32 × Int32 × Int32 × st_)) :=
  fL_areRoundsRight_x76_116 s v2_b18 v3_b18 v4_b18 v6_b18 v7_b18 z1_j55 r89 x.1 x.2
def fL_areRoundsRight_b76 (s : st_) (rr : Nat) (i0 : Int32) (v7_b18 : Int32) (v8_b76 : Int32) (v9_b76 : Int32) (t_b76 : st_) : Option ((Int32 × Int32 × st_) ⊕ (Int32 × st_)) :=
  if i0 ≤ v9_b76 then (some (.inr (v8_b76, t_b76)))
  else (gd_ (ib_ v9_b76 rr) <|
  bn_ (gX7_cost s v9_b76 v7_b18) fun r102 =>
  gd_ (ib_ v9_b76 rr) <|
  bd_ (pt_ t_b76 0 (ix_ v9_b76) ((t_b76 0 (ix_ v9_b76)) + r102)) fun t107 =>
  gd_ (ib_ v9_b76 rr) <|
  some (.inl ((if (t107 0 (ix_ v9_b76)) < v8_b76 then (t107 0 (ix_ v9_b76)) else v8_b76), (v9_b76 + (1 : Int32)), t107)))
def fL_areRoundsRight_l76 (s : st_) (rr : Nat) (i0 : Int32) (v7_b18 : Int32) : Nat → (Int32 × Int32 × st_) → Option (Int32 × st_) :=
  it_ (fun v => fL_areRoundsRight_b76 s rr i0 v7_b18 v.1 v.2.1 v.2.2)
def fL_areRoundsRight_j55 (s : st_) (rr : Nat) (i0 : Int32) (v2_b18 : Int32) (v3_b18 : Int32) (v4_b18 : Int32) (v6_b18 : Int32) (v7_b18 : Int32) (t_b18 : st_) (z1_j55 : Int32) : Option ((Int32 × Int32 × Int32 × Int32 × Int32 × st_) ⊕ (Int32 × Int32 × Int32 × st_)) :=
  bn_ (gX7_cost s (-1 : Int32) v7_b18) fun r89 =>
  bn_ (fL_areRoundsRight_l76 s rr i0 v7_b18 FU_ ((2147483647 : Int32), (0 : Int32), t_b18)) (fL_areRoundsRight_k76 s v2_b18 v3_b18 v4_b18 v6_b18 v7_b18 z1_j55 r89)
def fL_areRoundsRight_j54 (s : st_) (rr : Nat) (i0 : Int32) (v2_b18 : Int32) (v3_b18 : Int32) (v4_b18 : Int32) (v6_b18 : Int32) (v7_b18 : Int32) (t_b18 : st_) : Option ((Int32 × Int32 × Int32 × Int32 × Int32 × st_) ⊕ (Int32 × Int32 × Int32 × st_)) :=
  fL_areRoundsRight_j55 s rr i0 v2_b18 v3_b18 v4_b18 v6_b18 v7_b18 t_b18 (0 : Int32)
def fL_areRoundsRight_b18 (s : st_) (rr : Nat) (i0 : Int32) (v2_b18 : Int32) (v3_b18 : Int32) (v4_b18 : Int32) (v6_b18 : Int32) (v7_b18 : Int32) (t_b18 : st_) : Option ((Int32 × Int32 × Int32 × Int32 × Int32 × st_) ⊕ (Int32 × Int32 × Int32 × st_)) :=
  bn_ (gX7_rounds s) fun r85 =>
  if r85 ≤ v7_b18 then (some (.inr (v2_b18, v3_b18, v4_b18, t_b18)))
  else (if v7_b18 ≤ (0 : Int32) then (fL_areRoundsRight_j54 s rr i0 v2_b18 v3_b18 v4_b18 v6_b18 v7_b18 t_b18)
  else (bn_ (gX7_taken s v7_b18) fun r112 =>
  bn_ (gX7_taken s (v7_b18 - (1 : Int32))) fun r116 =>
  if r112 = r116 then (fL_areRoundsRight_j54 s rr i0 v2_b18 v3_b18 v4_b18 v6_b18 v7_b18 t_b18)
  else (fL_areRoundsRight_j55 s rr i0 v2_b18 v3_b18 v4_b18 v6_b18 v7_b18 t_b18 (1 : Int32))))
def fL_areRoundsRight_l18 (s : st_) (rr : Nat) (i0 : Int32) : Nat → (Int32 × Int32 × Int32 × Int32 × Int32 × st_) → Option (Int32 × Int32 × Int32 × st_) :=
  it_ (fun v => fL_areRoundsRight_b18 s rr i0 v.1 v.2.1 v.2.2.1 v.2.2.2.1 v.2.2.2.2.1 v.2.2.2.2.2)
def fL_areRoundsRight (s : st_) (t : st_) (rr : Nat) (i0 : Int32) : Option (st_ × Int32) :=
  bn_ (fL_areRoundsRight_l18 s rr i0 FU_ ((0 : Int32), (0 : Int32), (0 : Int32), (0 : Int32), (0 : Int32), t)) (fL_areRoundsRight_k18 s)
set_option maxRecDepth 100000 in
theorem kL_areRoundsRight {E : ev_} {H : Heap} {a b : Nat} {s : st_} {t : st_} {rr : Nat} {i0 : Int32} {r : st_ × Int32} (hm : fL_areRoundsRight s t rr i0 = some r) (h0 : has_ E H a ly_M s) (h1 : has_ E H b (ly_IRx_ rr) t) (hf : ev_fr E b) (d0 : b + 1 ≤ a ∨ a + 119 ≤ b) : aw E mL_areRoundsRight (po1 (.inl (some (.int r.2))) (fun Hn => sm_ H Hn b 1 ∧ has_ E Hn b (ly_IRx_ rr) r.1)) 12 [(0, .ref a), (1, .int i0), (2, .int (0 : Int32)), (3, .int (0 : Int32)), (4, .int (0 : Int32)), (5, .ref b)] [] H 1 6 := by
  generalize hQ : po1 _ _ = Q
  have hs : sm_ H H b 1 := sm_.rfl'
  unfold fL_areRoundsRight at hm
  refine aw_b (pc' := 18) (lv' := [(7, .int (0 : Int32)), (6, .int (0 : Int32)), (0, .ref a), (1, .int i0), (2, .int (0 : Int32)), (3, .int (0 : Int32)), (4, .int (0 : Int32)), (5, .ref b)]) (st' := []) [(12, .iconst 0, 1, .int (0 : Int32)), (13, .istore 6, 2, .null), (15, .iconst 0, 1, .int (0 : Int32)), (16, .istore 7, 2, .null)] (by decide +kernel) rfl ?_
  obtain ⟨x18, hx18, hr18⟩ := bn_x hm
  have X18_204 : ∀ (v2_x18_204 : Int32) (v3_x18_204 : Int32) (v4_x18_204 : Int32) (t_x18_204 : st_) (H_x18_204 : Heap), has_ E H_x18_204 a ly_M s → has_ E H_x18_204 b (ly_IRx_ rr) t_x18_204 → sm_ H H_x18_204 b 1 → fL_areRoundsRight_x18_204 s v2_x18_204 v3_x18_204 v4_x18_204 t_x18_204 = some r → aw E mL_areRoundsRight Q 204 [(0, .ref a), (2, .int v2_x18_204), (3, .int v3_x18_204), (4, .int v4_x18_204)] [] H_x18_204 1 6 := by
    intro v2_x18_204 v3_x18_204 v4_x18_204 t_x18_204 H_x18_204 h0 h1 hs hm
    unfold fL_areRoundsRight_x18_204 at hm
    refine aw_b (pc' := 205) (lv' := [(0, .ref a), (2, .int v2_x18_204), (3, .int v3_x18_204), (4, .int v4_x18_204)]) (st' := [.ref a]) [(204, .aload_n 0, 1, .null)] (by decide +kernel) rfl ?_
    obtain ⟨r1, e2, hm⟩ := bn_x hm
    refine aw_cv (rest := []) (st1 := [.int r1]) a 0 (kX7_rounds e2 h0) rfl rfl ckX7_rounds lkL_136 h0 eo_M_0 ⟨_, _, rfl⟩ nkX7_rounds rfl rfl rfl (Nat.le_of_ble_eq_true rfl) (Nat.le_of_ble_eq_true rfl) (Nat.le_of_ble_eq_true rfl) (by decide +kernel) (fun H3 z4 => ?_)
    have h0 := h0.kept0 z4
    have h1 := h1.kept0 z4
    have hs := hs.step0 z4
    refine aw_b (pc' := 216) (lv' := [(7, .int r1), (0, .ref a), (2, .int v2_x18_204), (3, .int v3_x18_204), (4, .int v4_x18_204)]) (st' := [.int (r1 + (1 : Int32)), .int (0 : Int32), .ref a]) [(208, .istore 7, 2, .null), (210, .aload_n 0, 1, .null), (211, .iconst 0, 1, .int (0 : Int32)), (212, .iload 7, 2, .null), (214, .iconst 1, 1, .int (1 : Int32)), (215, .iadd, 1, .null)] (by decide +kernel) rfl ?_
    obtain ⟨r5, e6, hm⟩ := bn_x hm
    refine aw_cv (rest := []) (st1 := [.int r5]) a 0 (kX7_windowRegret e6 h0) rfl rfl ckX7_windowRegret lkL_207 h0 eo_M_0 ⟨_, _, rfl⟩ nkX7_windowRegret rfl rfl rfl (Nat.le_of_ble_eq_true rfl) (Nat.le_of_ble_eq_true rfl) (Nat.le_of_ble_eq_true rfl) (by decide +kernel) (fun H7 z8 => ?_)
    have h0 := h0.kept0 z8
    have h1 := h1.kept0 z8
    have hs := hs.step0 z8
    refine aw_ldc (v := (-2000000000 : Int32)) kwL_164 (by decide +kernel) ?_
    refine aw_ic_ne (off := 26) 247 (by decide) (by decide +kernel) (fun hc => ?_) (fun hc => ?_)
    · have hm := (if_neg hc).symm.trans hm
      refine aw_b (pc' := 248) (lv' := [(7, .int r1), (0, .ref a), (2, .int v2_x18_204), (3, .int v3_x18_204), (4, .int v4_x18_204)]) (st' := [.int (0 : Int32)]) [(247, .iconst 0, 1, .int (0 : Int32))] (by decide +kernel) rfl ?_
      obtain rfl := Option.some.inj hm
      subst hQ
      exact aw_zret rfl (by decide +kernel) (Nat.le_of_ble_eq_true rfl) (Nat.le_of_ble_eq_true rfl) (by decide +kernel) ⟨rfl, hs, h1⟩
    · have hm := (if_pos hc).symm.trans hm
      refine aw_b (pc' := 228) (lv' := [(7, .int r1), (0, .ref a), (2, .int v2_x18_204), (3, .int v3_x18_204), (4, .int v4_x18_204)]) (st' := [.int (1 : Int32), .int r1, .ref a]) [(224, .aload_n 0, 1, .null), (225, .iload 7, 2, .null), (227, .iconst 1, 1, .int (1 : Int32))] (by decide +kernel) rfl ?_
      obtain ⟨r9, e10, hm⟩ := bn_x hm
      refine aw_cv (rest := []) (st1 := [.int r9]) a 0 (kX7_windowBest e10 h0) rfl rfl ckX7_windowBest lkL_210 h0 eo_M_0 ⟨_, _, rfl⟩ nkX7_windowBest rfl rfl rfl (Nat.le_of_ble_eq_true rfl) (Nat.le_of_ble_eq_true rfl) (Nat.le_of_ble_eq_true rfl) (by decide +kernel) (fun H11 z12 => ?_)
      have h0 := h0.kept0 z12
      have h1 := h1.kept0 z12
      have hs := hs.step0 z12
      refine aw_b (pc' := 232) (lv' := [(7, .int r1), (0, .ref a), (2, .int v2_x18_204), (3, .int v3_x18_204), (4, .int v4_x18_204)]) (st' := [.int (-1 : Int32), .int r9]) [(231, .iconst (-1), 1, .int (-1 : Int32))] (by decide +kernel) rfl ?_
      refine aw_ic_ne (off := 15) 247 (by decide) (by decide +kernel) (fun hc => ?_) (fun hc => ?_)
      · have hm := (if_neg hc).symm.trans hm
        refine aw_b (pc' := 248) (lv' := [(7, .int r1), (0, .ref a), (2, .int v2_x18_204), (3, .int v3_x18_204), (4, .int v4_x18_204)]) (st' := [.int (0 : Int32)]) [(247, .iconst 0, 1, .int (0 : Int32))] (by decide +kernel) rfl ?_
        obtain rfl := Option.some.inj hm
        subst hQ
        exact aw_zret rfl (by decide +kernel) (Nat.le_of_ble_eq_true rfl) (Nat.le_of_ble_eq_true rfl) (by decide +kernel) ⟨rfl, hs, h1⟩
      · have hm := (if_pos hc).symm.trans hm
        refine aw_b (pc' := 240) (lv' := [(7, .int r1), (0, .ref a), (2, .int v2_x18_204), (3, .int v3_x18_204), (4, .int v4_x18_204)]) (st' := [.int (r1 + (1 : Int32)), .ref a]) [(235, .aload_n 0, 1, .null), (236, .iload 7, 2, .null), (238, .iconst 1, 1, .int (1 : Int32)), (239, .iadd, 1, .null)] (by decide +kernel) rfl ?_
        obtain ⟨r13, e14, hm⟩ := bn_x hm
        refine aw_cv (rest := []) (st1 := [.int r13]) a 0 (kX7_worstWindow e14 h0) rfl rfl ckX7_worstWindow lkL_213 h0 eo_M_0 ⟨_, _, rfl⟩ nkX7_worstWindow rfl rfl rfl (Nat.le_of_ble_eq_true rfl) (Nat.le_of_ble_eq_true rfl) (Nat.le_of_ble_eq_true rfl) (by decide +kernel) (fun H15 z16 => ?_)
        have h0 := h0.kept0 z16
        have h1 := h1.kept0 z16
        have hs := hs.step0 z16
        refine aw_b (pc' := 244) (lv' := [(7, .int r1), (0, .ref a), (2, .int v2_x18_204), (3, .int v3_x18_204), (4, .int v4_x18_204)]) (st' := [.int (-1 : Int32), .int r13]) [(243, .iconst (-1), 1, .int (-1 : Int32))] (by decide +kernel) rfl ?_
        refine aw_ic_eq (off := 5) 249 (by decide) (by decide +kernel) (fun hc => ?_) (fun hc => ?_)
        · have hm := (if_pos hc).symm.trans hm
          refine aw_b (pc' := 252) (lv' := [(7, .int r1), (0, .ref a), (2, .int v2_x18_204), (3, .int v3_x18_204), (4, .int v4_x18_204)]) (st' := [.int (1 : Int32), .int r1]) [(249, .iload 7, 2, .null), (251, .iconst 1, 1, .int (1 : Int32))] (by decide +kernel) rfl ?_
          have J305 : ∀ (H_j305 : Heap), has_ E H_j305 a ly_M s → has_ E H_j305 b (ly_IRx_ rr) t_x18_204 → sm_ H H_j305 b 1 → fL_areRoundsRight_j305 s v2_x18_204 v3_x18_204 v4_x18_204 t_x18_204 = some r → aw E mL_areRoundsRight Q 305 [(0, .ref a), (2, .int v2_x18_204), (3, .int v3_x18_204), (4, .int v4_x18_204)] [] H_j305 1 6 := by
            intro H_j305 h0 h1 hs hm
            unfold fL_areRoundsRight_j305 at hm
            refine aw_b (pc' := 307) (lv' := [(0, .ref a), (2, .int v2_x18_204), (3, .int v3_x18_204), (4, .int v4_x18_204)]) (st' := [.ref a, .int v2_x18_204]) [(305, .iload_n 2, 1, .null), (306, .aload_n 0, 1, .null)] (by decide +kernel) rfl ?_
            obtain ⟨r17, e18, hm⟩ := bn_x hm
            refine aw_cv (rest := [.int v2_x18_204]) (st1 := [.int r17, .int v2_x18_204]) a 0 (kX7_switches e18 h0) rfl rfl ckX7_switches lkL_216 h0 eo_M_0 ⟨_, _, rfl⟩ nkX7_switches rfl rfl rfl (Nat.le_of_ble_eq_true rfl) (Nat.le_of_ble_eq_true rfl) (Nat.le_of_ble_eq_true rfl) (by decide +kernel) (fun H19 z20 => ?_)
            have h0 := h0.kept0 z20
            have h1 := h1.kept0 z20
            have hs := hs.step0 z20
            have J399 : ∀ (H_j399 : Heap), has_ E H_j399 a ly_M s → has_ E H_j399 b (ly_IRx_ rr) t_x18_204 → sm_ H H_j399 b 1 → fL_areRoundsRight_j399 t_x18_204 = some r → aw E mL_areRoundsRight Q 399 [] [] H_j399 1 6 := by
              intro H_j399 h0 h1 hs hm
              unfold fL_areRoundsRight_j399 at hm
              refine aw_b (pc' := 400) (lv' := []) (st' := [.int (0 : Int32)]) [(399, .iconst 0, 1, .int (0 : Int32))] (by decide +kernel) rfl ?_
              obtain rfl := Option.some.inj hm
              subst hQ
              exact aw_zret rfl (by decide +kernel) (Nat.le_of_ble_eq_true rfl) (Nat.le_of_ble_eq_true rfl) (by decide +kernel) ⟨rfl, hs, h1⟩
            refine aw_ic_ne (off := 89) 399 (by decide) (by decide +kernel) (fun hc => ?_) (fun hc => ?_)
            · have hm := (if_neg hc).symm.trans hm
              refine aw_lv (lv' := []) [] rfl ?_
              exact J399 H19 h0 h1 hs hm
            · have hm := (if_pos hc).symm.trans hm
              refine aw_b (pc' := 316) (lv' := [(0, .ref a), (2, .int v2_x18_204), (3, .int v3_x18_204), (4, .int v4_x18_204)]) (st' := [.int (3 : Int32), .ref a, .int v3_x18_204]) [(313, .iload_n 3, 1, .null), (314, .aload_n 0, 1, .null), (315, .iconst 3, 1, .int (3 : Int32))] (by decide +kernel) rfl ?_
              obtain ⟨r21, e22, hm⟩ := bn_x hm
              refine aw_cv (rest := [.int v3_x18_204]) (st1 := [.int r21, .int v3_x18_204]) a 0 (kX7_regret e22 h0) rfl rfl ckX7_regret lkL_147 h0 eo_M_0 ⟨_, _, rfl⟩ nkX7_regret rfl rfl rfl (Nat.le_of_ble_eq_true rfl) (Nat.le_of_ble_eq_true rfl) (Nat.le_of_ble_eq_true rfl) (by decide +kernel) (fun H23 z24 => ?_)
              have h0 := h0.kept0 z24
              have h1 := h1.kept0 z24
              have hs := hs.step0 z24
              refine aw_ic_ne (off := 80) 399 (by decide) (by decide +kernel) (fun hc => ?_) (fun hc => ?_)
              · have hm := (if_neg hc).symm.trans hm
                refine aw_lv (lv' := []) [] rfl ?_
                exact J399 H23 h0 h1 hs hm
              · have hm := (if_pos hc).symm.trans hm
                refine aw_b (pc' := 326) (lv' := [(0, .ref a), (2, .int v2_x18_204), (3, .int v3_x18_204), (4, .int v4_x18_204)]) (st' := [.int (2 : Int32), .ref a, .int v4_x18_204]) [(322, .iload 4, 2, .null), (324, .aload_n 0, 1, .null), (325, .iconst 2, 1, .int (2 : Int32))] (by decide +kernel) rfl ?_
                obtain ⟨r25, e26, hm⟩ := bn_x hm
                refine aw_cv (rest := [.int v4_x18_204]) (st1 := [.int r25, .int v4_x18_204]) a 0 (kX7_regret e26 h0) rfl rfl ckX7_regret lkL_147 h0 eo_M_0 ⟨_, _, rfl⟩ nkX7_regret rfl rfl rfl (Nat.le_of_ble_eq_true rfl) (Nat.le_of_ble_eq_true rfl) (Nat.le_of_ble_eq_true rfl) (by decide +kernel) (fun H27 z28 => ?_)
                have h0 := h0.kept0 z28
                have h1 := h1.kept0 z28
                have hs := hs.step0 z28
                refine aw_ic_ne (off := 70) 399 (by decide) (by decide +kernel) (fun hc => ?_) (fun hc => ?_)
                · have hm := (if_neg hc).symm.trans hm
                  refine aw_lv (lv' := []) [] rfl ?_
                  exact J399 H27 h0 h1 hs hm
                · have hm := (if_pos hc).symm.trans hm
                  refine aw_b (pc' := 334) (lv' := [(0, .ref a), (2, .int v2_x18_204), (3, .int v3_x18_204), (4, .int v4_x18_204)]) (st' := [.int (4 : Int32), .ref a]) [(332, .aload_n 0, 1, .null), (333, .iconst 4, 1, .int (4 : Int32))] (by decide +kernel) rfl ?_
                  obtain ⟨r29, e30, hm⟩ := bn_x hm
                  refine aw_cv (rest := []) (st1 := [.int r29]) a 0 (kX7_regret e30 h0) rfl rfl ckX7_regret lkL_147 h0 eo_M_0 ⟨_, _, rfl⟩ nkX7_regret rfl rfl rfl (Nat.le_of_ble_eq_true rfl) (Nat.le_of_ble_eq_true rfl) (Nat.le_of_ble_eq_true rfl) (by decide +kernel) (fun H31 z32 => ?_)
                  have h0 := h0.kept0 z32
                  have h1 := h1.kept0 z32
                  have hs := hs.step0 z32
                  have J345 : ∀ (z0_j345 : Int32) (H_j345 : Heap), has_ E H_j345 a ly_M s → has_ E H_j345 b (ly_IRx_ rr) t_x18_204 → sm_ H H_j345 b 1 → fL_areRoundsRight_j345 s v4_x18_204 t_x18_204 z0_j345 = some r → aw E mL_areRoundsRight Q 345 [(0, .ref a), (4, .int v4_x18_204)] [.int z0_j345] H_j345 1 6 := by
                    intro z0_j345 H_j345 h0 h1 hs hm
                    unfold fL_areRoundsRight_j345 at hm
                    refine aw_b (pc' := 347) (lv' := [(0, .ref a), (4, .int v4_x18_204)]) (st' := [.int v4_x18_204, .int z0_j345]) [(345, .iload 4, 2, .null)] (by decide +kernel) rfl ?_
                    have J355 : ∀ (z1_j355 : Int32) (H_j355 : Heap), has_ E H_j355 a ly_M s → has_ E H_j355 b (ly_IRx_ rr) t_x18_204 → sm_ H H_j355 b 1 → fL_areRoundsRight_j355 s t_x18_204 z0_j345 z1_j355 = some r → aw E mL_areRoundsRight Q 355 [(0, .ref a)] [.int z1_j355, .int z0_j345] H_j355 1 6 := by
                      intro z1_j355 H_j355 h0 h1 hs hm
                      unfold fL_areRoundsRight_j355 at hm
                      refine aw_ic_ne (off := 44) 399 (by decide) (by decide +kernel) (fun hc => ?_) (fun hc => ?_)
                      · have hm := (if_neg hc).symm.trans hm
                        refine aw_lv (lv' := []) [] rfl ?_
                        exact J399 H_j355 h0 h1 hs hm
                      · have hm := (if_pos hc).symm.trans hm
                        refine aw_b (pc' := 360) (lv' := [(0, .ref a)]) (st' := [.int (0 : Int32), .ref a]) [(358, .aload_n 0, 1, .null), (359, .iconst 0, 1, .int (0 : Int32))] (by decide +kernel) rfl ?_
                        obtain ⟨r33, e34, hm⟩ := bn_x hm
                        refine aw_cv (rest := []) (st1 := [.int r33]) a 0 (kX7_bestPair e34 h0) rfl rfl ckX7_bestPair lkL_219 h0 eo_M_0 ⟨_, _, rfl⟩ nkX7_bestPair rfl rfl rfl (Nat.le_of_ble_eq_true rfl) (Nat.le_of_ble_eq_true rfl) (Nat.le_of_ble_eq_true rfl) (by decide +kernel) (fun H35 z36 => ?_)
                        have h0 := h0.kept0 z36
                        have h1 := h1.kept0 z36
                        have hs := hs.step0 z36
                        refine aw_b (pc' := 365) (lv' := [(0, .ref a)]) (st' := [.ref a, .ref a, .int r33]) [(363, .aload_n 0, 1, .null), (364, .aload_n 0, 1, .null)] (by decide +kernel) rfl ?_
                        obtain ⟨r37, e38, hm⟩ := bn_x hm
                        refine aw_cv (rest := [.ref a, .int r33]) (st1 := [.int r37, .ref a, .int r33]) a 0 (kX7_best e38 h0) rfl rfl ckX7_best lkL_192 h0 eo_M_0 ⟨_, _, rfl⟩ nkX7_best rfl rfl rfl (Nat.le_of_ble_eq_true rfl) (Nat.le_of_ble_eq_true rfl) (Nat.le_of_ble_eq_true rfl) (by decide +kernel) (fun H39 z40 => ?_)
                        have h0 := h0.kept0 z40
                        have h1 := h1.kept0 z40
                        have hs := hs.step0 z40
                        refine aw_b (pc' := 369) (lv' := [(0, .ref a)]) (st' := [.int (3 : Int32), .int r37, .ref a, .int r33]) [(368, .iconst 3, 1, .int (3 : Int32))] (by decide +kernel) rfl ?_
                        obtain ⟨r41, e42, hm⟩ := bn_x hm
                        refine aw_cv (rest := [.int r33]) (st1 := [.int r41, .int r33]) a 0 (kX7_arm e42 h0) rfl rfl ckX7_arm lkL_141 h0 eo_M_0 ⟨_, _, rfl⟩ nkX7_arm rfl rfl rfl (Nat.le_of_ble_eq_true rfl) (Nat.le_of_ble_eq_true rfl) (Nat.le_of_ble_eq_true rfl) (by decide +kernel) (fun H43 z44 => ?_)
                        have h0 := h0.kept0 z44
                        have h1 := h1.kept0 z44
                        have hs := hs.step0 z44
                        refine aw_ic_gt (off := 27) 399 (by decide) (by decide +kernel) (fun hc => ?_) (fun hc => ?_)
                        · have hm := (if_pos hc).symm.trans hm
                          refine aw_lv (lv' := []) [] rfl ?_
                          exact J399 H43 h0 h1 hs hm
                        · have hm := (if_neg hc).symm.trans hm
                          refine aw_b (pc' := 377) (lv' := [(0, .ref a)]) (st' := [.int (3 : Int32), .ref a]) [(375, .aload_n 0, 1, .null), (376, .iconst 3, 1, .int (3 : Int32))] (by decide +kernel) rfl ?_
                          obtain ⟨r45, e46, hm⟩ := bn_x hm
                          refine aw_cv (rest := []) (st1 := [.int r45]) a 0 (kX7_bestPair e46 h0) rfl rfl ckX7_bestPair lkL_219 h0 eo_M_0 ⟨_, _, rfl⟩ nkX7_bestPair rfl rfl rfl (Nat.le_of_ble_eq_true rfl) (Nat.le_of_ble_eq_true rfl) (Nat.le_of_ble_eq_true rfl) (by decide +kernel) (fun H47 z48 => ?_)
                          have h0 := h0.kept0 z48
                          have h1 := h1.kept0 z48
                          have hs := hs.step0 z48
                          refine aw_if_lt (off := 19) 399 (by decide) (by decide +kernel) (fun hc => ?_) (fun hc => ?_)
                          · have hm := (if_pos hc).symm.trans hm
                            refine aw_lv (lv' := []) [] rfl ?_
                            exact J399 H47 h0 h1 hs hm
                          · have hm := (if_neg hc).symm.trans hm
                            refine aw_b (pc' := 385) (lv' := [(0, .ref a)]) (st' := [.int (3 : Int32), .ref a]) [(383, .aload_n 0, 1, .null), (384, .iconst 3, 1, .int (3 : Int32))] (by decide +kernel) rfl ?_
                            obtain ⟨r49, e50, hm⟩ := bn_x hm
                            refine aw_cv (rest := []) (st1 := [.int r49]) a 0 (kX7_bestPair e50 h0) rfl rfl ckX7_bestPair lkL_219 h0 eo_M_0 ⟨_, _, rfl⟩ nkX7_bestPair rfl rfl rfl (Nat.le_of_ble_eq_true rfl) (Nat.le_of_ble_eq_true rfl) (Nat.le_of_ble_eq_true rfl) (by decide +kernel) (fun H51 z52 => ?_)
                            have h0 := h0.kept0 z52
                            have h1 := h1.kept0 z52
                            have hs := hs.step0 z52
                            refine aw_b (pc' := 389) (lv' := [(0, .ref a)]) (st' := [.ref a, .int r49]) [(388, .aload_n 0, 1, .null)] (by decide +kernel) rfl ?_
                            obtain ⟨r53, e54, hm⟩ := bn_x hm
                            refine aw_cv (rest := [.int r49]) (st1 := [.int r53, .int r49]) a 0 (kX7_rounds e54 h0) rfl rfl ckX7_rounds lkL_136 h0 eo_M_0 ⟨_, _, rfl⟩ nkX7_rounds rfl rfl rfl (Nat.le_of_ble_eq_true rfl) (Nat.le_of_ble_eq_true rfl) (Nat.le_of_ble_eq_true rfl) (by decide +kernel) (fun H55 z56 => ?_)
                            have h0 := h0.kept0 z56
                            have h1 := h1.kept0 z56
                            have hs := hs.step0 z56
                            refine aw_ic_gt (off := 7) 399 (by decide) (by decide +kernel) (fun hc => ?_) (fun hc => ?_)
                            · have hm := (if_pos hc).symm.trans hm
                              refine aw_lv (lv' := []) [] rfl ?_
                              exact J399 H55 h0 h1 hs hm
                            · have hm := (if_neg hc).symm.trans hm
                              refine aw_b (pc' := 400) (lv' := [(0, .ref a)]) (st' := [.int (1 : Int32)]) [(395, .iconst 1, 1, .int (1 : Int32)), (396, .goto 4, 3, .null)] (by decide +kernel) rfl ?_
                              obtain rfl := Option.some.inj hm
                              subst hQ
                              exact aw_zret rfl (by decide +kernel) (Nat.le_of_ble_eq_true rfl) (Nat.le_of_ble_eq_true rfl) (by decide +kernel) ⟨rfl, hs, h1⟩
                    refine aw_if_le (off := 7) 354 (by decide) (by decide +kernel) (fun hc => ?_) (fun hc => ?_)
                    · have hm := (if_pos hc).symm.trans hm
                      refine aw_b (pc' := 355) (lv' := [(0, .ref a), (4, .int v4_x18_204)]) (st' := [.int (0 : Int32), .int z0_j345]) [(354, .iconst 0, 1, .int (0 : Int32))] (by decide +kernel) rfl ?_
                      refine aw_lv (lv' := [(0, .ref a)]) [0] rfl ?_
                      exact J355 (0 : Int32) H_j345 h0 h1 hs hm
                    · have hm := (if_neg hc).symm.trans hm
                      refine aw_b (pc' := 355) (lv' := [(0, .ref a), (4, .int v4_x18_204)]) (st' := [.int (1 : Int32), .int z0_j345]) [(350, .iconst 1, 1, .int (1 : Int32)), (351, .goto 4, 3, .null)] (by decide +kernel) rfl ?_
                      refine aw_lv (lv' := [(0, .ref a)]) [0] rfl ?_
                      exact J355 (1 : Int32) H_j345 h0 h1 hs hm
                  refine aw_if_lt (off := 7) 344 (by decide) (by decide +kernel) (fun hc => ?_) (fun hc => ?_)
                  · have hm := (if_pos hc).symm.trans hm
                    refine aw_b (pc' := 345) (lv' := [(0, .ref a), (2, .int v2_x18_204), (3, .int v3_x18_204), (4, .int v4_x18_204)]) (st' := [.int (0 : Int32)]) [(344, .iconst 0, 1, .int (0 : Int32))] (by decide +kernel) rfl ?_
                    refine aw_lv (lv' := [(0, .ref a), (4, .int v4_x18_204)]) [0, 3] rfl ?_
                    exact J345 (0 : Int32) H31 h0 h1 hs hm
                  · have hm := (if_neg hc).symm.trans hm
                    refine aw_b (pc' := 345) (lv' := [(0, .ref a), (2, .int v2_x18_204), (3, .int v3_x18_204), (4, .int v4_x18_204)]) (st' := [.int (1 : Int32)]) [(340, .iconst 1, 1, .int (1 : Int32)), (341, .goto 4, 3, .null)] (by decide +kernel) rfl ?_
                    refine aw_lv (lv' := [(0, .ref a), (4, .int v4_x18_204)]) [0, 3] rfl ?_
                    exact J345 (1 : Int32) H31 h0 h1 hs hm
          refine aw_ic_le (off := 53) 305 (by decide) (by decide +kernel) (fun hc => ?_) (fun hc => ?_)
          · have hm := (if_pos hc).symm.trans hm
            refine aw_lv (lv' := [(0, .ref a), (2, .int v2_x18_204), (3, .int v3_x18_204), (4, .int v4_x18_204)]) [1, 2, 3, 4] rfl ?_
            exact J305 H15 h0 h1 hs hm
          · have hm := (if_neg hc).symm.trans hm
            refine aw_b (pc' := 259) (lv' := [(7, .int r1), (0, .ref a), (2, .int v2_x18_204), (3, .int v3_x18_204), (4, .int v4_x18_204)]) (st' := [.int r1, .int (0 : Int32), .ref a]) [(255, .aload_n 0, 1, .null), (256, .iconst 0, 1, .int (0 : Int32)), (257, .iload 7, 2, .null)] (by decide +kernel) rfl ?_
            obtain ⟨r57, e58, hm⟩ := bn_x hm
            refine aw_cv (rest := []) (st1 := [.int r57]) a 0 (kX7_windowRegret e58 h0) rfl rfl ckX7_windowRegret lkL_207 h0 eo_M_0 ⟨_, _, rfl⟩ nkX7_windowRegret rfl rfl rfl (Nat.le_of_ble_eq_true rfl) (Nat.le_of_ble_eq_true rfl) (Nat.le_of_ble_eq_true rfl) (by decide +kernel) (fun H59 z60 => ?_)
            have h0 := h0.kept0 z60
            have h1 := h1.kept0 z60
            have hs := hs.step0 z60
            refine aw_b (pc' := 264) (lv' := [(7, .int r1), (0, .ref a), (2, .int v2_x18_204), (3, .int v3_x18_204), (4, .int v4_x18_204)]) (st' := [.int (0 : Int32), .ref a, .int r57]) [(262, .aload_n 0, 1, .null), (263, .iconst 0, 1, .int (0 : Int32))] (by decide +kernel) rfl ?_
            obtain ⟨r61, e62, hm⟩ := bn_x hm
            refine aw_cv (rest := [.int r57]) (st1 := [.int r61, .int r57]) a 0 (kX7_regret e62 h0) rfl rfl ckX7_regret lkL_147 h0 eo_M_0 ⟨_, _, rfl⟩ nkX7_regret rfl rfl rfl (Nat.le_of_ble_eq_true rfl) (Nat.le_of_ble_eq_true rfl) (Nat.le_of_ble_eq_true rfl) (by decide +kernel) (fun H63 z64 => ?_)
            have h0 := h0.kept0 z64
            have h1 := h1.kept0 z64
            have hs := hs.step0 z64
            refine aw_ic_ne (off := 36) 303 (by decide) (by decide +kernel) (fun hc => ?_) (fun hc => ?_)
            · have hm := (if_neg hc).symm.trans hm
              refine aw_b (pc' := 304) (lv' := [(7, .int r1), (0, .ref a), (2, .int v2_x18_204), (3, .int v3_x18_204), (4, .int v4_x18_204)]) (st' := [.int (0 : Int32)]) [(303, .iconst 0, 1, .int (0 : Int32))] (by decide +kernel) rfl ?_
              obtain rfl := Option.some.inj hm
              subst hQ
              exact aw_zret rfl (by decide +kernel) (Nat.le_of_ble_eq_true rfl) (Nat.le_of_ble_eq_true rfl) (by decide +kernel) ⟨rfl, hs, h1⟩
            · have hm := (if_pos hc).symm.trans hm
              refine aw_b (pc' := 274) (lv' := [(7, .int r1), (0, .ref a), (2, .int v2_x18_204), (3, .int v3_x18_204), (4, .int v4_x18_204)]) (st' := [.int r1, .int (0 : Int32), .ref a]) [(270, .aload_n 0, 1, .null), (271, .iconst 0, 1, .int (0 : Int32)), (272, .iload 7, 2, .null)] (by decide +kernel) rfl ?_
              obtain ⟨r65, e66, hm⟩ := bn_x hm
              refine aw_cv (rest := []) (st1 := [.int r65]) a 0 (kX7_windowBest e66 h0) rfl rfl ckX7_windowBest lkL_210 h0 eo_M_0 ⟨_, _, rfl⟩ nkX7_windowBest rfl rfl rfl (Nat.le_of_ble_eq_true rfl) (Nat.le_of_ble_eq_true rfl) (Nat.le_of_ble_eq_true rfl) (by decide +kernel) (fun H67 z68 => ?_)
              have h0 := h0.kept0 z68
              have h1 := h1.kept0 z68
              have hs := hs.step0 z68
              refine aw_b (pc' := 278) (lv' := [(7, .int r1), (0, .ref a), (2, .int v2_x18_204), (3, .int v3_x18_204), (4, .int v4_x18_204)]) (st' := [.ref a, .int r65]) [(277, .aload_n 0, 1, .null)] (by decide +kernel) rfl ?_
              obtain ⟨r69, e70, hm⟩ := bn_x hm
              refine aw_cv (rest := [.int r65]) (st1 := [.int r69, .int r65]) a 0 (kX7_best e70 h0) rfl rfl ckX7_best lkL_192 h0 eo_M_0 ⟨_, _, rfl⟩ nkX7_best rfl rfl rfl (Nat.le_of_ble_eq_true rfl) (Nat.le_of_ble_eq_true rfl) (Nat.le_of_ble_eq_true rfl) (by decide +kernel) (fun H71 z72 => ?_)
              have h0 := h0.kept0 z72
              have h1 := h1.kept0 z72
              have hs := hs.step0 z72
              refine aw_ic_ne (off := 22) 303 (by decide) (by decide +kernel) (fun hc => ?_) (fun hc => ?_)
              · have hm := (if_neg hc).symm.trans hm
                refine aw_b (pc' := 304) (lv' := [(7, .int r1), (0, .ref a), (2, .int v2_x18_204), (3, .int v3_x18_204), (4, .int v4_x18_204)]) (st' := [.int (0 : Int32)]) [(303, .iconst 0, 1, .int (0 : Int32))] (by decide +kernel) rfl ?_
                obtain rfl := Option.some.inj hm
                subst hQ
                exact aw_zret rfl (by decide +kernel) (Nat.le_of_ble_eq_true rfl) (Nat.le_of_ble_eq_true rfl) (by decide +kernel) ⟨rfl, hs, h1⟩
              · have hm := (if_pos hc).symm.trans hm
                refine aw_b (pc' := 287) (lv' := [(7, .int r1), (0, .ref a), (2, .int v2_x18_204), (3, .int v3_x18_204), (4, .int v4_x18_204)]) (st' := [.int (2 : Int32), .ref a, .ref a]) [(284, .aload_n 0, 1, .null), (285, .aload_n 0, 1, .null), (286, .iconst 2, 1, .int (2 : Int32))] (by decide +kernel) rfl ?_
                obtain ⟨r73, e74, hm⟩ := bn_x hm
                refine aw_cv (rest := [.ref a]) (st1 := [.int r73, .ref a]) a 0 (kX7_worstWindow e74 h0) rfl rfl ckX7_worstWindow lkL_213 h0 eo_M_0 ⟨_, _, rfl⟩ nkX7_worstWindow rfl rfl rfl (Nat.le_of_ble_eq_true rfl) (Nat.le_of_ble_eq_true rfl) (Nat.le_of_ble_eq_true rfl) (by decide +kernel) (fun H75 z76 => ?_)
                have h0 := h0.kept0 z76
                have h1 := h1.kept0 z76
                have hs := hs.step0 z76
                refine aw_b (pc' := 291) (lv' := [(7, .int r1), (0, .ref a), (2, .int v2_x18_204), (3, .int v3_x18_204), (4, .int v4_x18_204)]) (st' := [.int (2 : Int32), .int r73, .ref a]) [(290, .iconst 2, 1, .int (2 : Int32))] (by decide +kernel) rfl ?_
                obtain ⟨r77, e78, hm⟩ := bn_x hm
                refine aw_cv (rest := []) (st1 := [.int r77]) a 0 (kX7_windowRegret e78 h0) rfl rfl ckX7_windowRegret lkL_207 h0 eo_M_0 ⟨_, _, rfl⟩ nkX7_windowRegret rfl rfl rfl (Nat.le_of_ble_eq_true rfl) (Nat.le_of_ble_eq_true rfl) (Nat.le_of_ble_eq_true rfl) (by decide +kernel) (fun H79 z80 => ?_)
                have h0 := h0.kept0 z80
                have h1 := h1.kept0 z80
                have hs := hs.step0 z80
                refine aw_b (pc' := 297) (lv' := [(7, .int r1), (0, .ref a), (2, .int v2_x18_204), (3, .int v3_x18_204), (4, .int v4_x18_204)]) (st' := [.int (2 : Int32), .int (0 : Int32), .ref a, .int r77]) [(294, .aload_n 0, 1, .null), (295, .iconst 0, 1, .int (0 : Int32)), (296, .iconst 2, 1, .int (2 : Int32))] (by decide +kernel) rfl ?_
                obtain ⟨r81, e82, hm⟩ := bn_x hm
                refine aw_cv (rest := [.int r77]) (st1 := [.int r81, .int r77]) a 0 (kX7_windowRegret e82 h0) rfl rfl ckX7_windowRegret lkL_207 h0 eo_M_0 ⟨_, _, rfl⟩ nkX7_windowRegret rfl rfl rfl (Nat.le_of_ble_eq_true rfl) (Nat.le_of_ble_eq_true rfl) (Nat.le_of_ble_eq_true rfl) (by decide +kernel) (fun H83 z84 => ?_)
                have h0 := h0.kept0 z84
                have h1 := h1.kept0 z84
                have hs := hs.step0 z84
                refine aw_ic_ge (off := 5) 305 (by decide) (by decide +kernel) (fun hc => ?_) (fun hc => ?_)
                · have hm := (if_pos hc).symm.trans hm
                  refine aw_lv (lv' := [(0, .ref a), (2, .int v2_x18_204), (3, .int v3_x18_204), (4, .int v4_x18_204)]) [1, 2, 3, 4] rfl ?_
                  exact J305 H83 h0 h1 hs hm
                · have hm := (if_neg hc).symm.trans hm
                  refine aw_b (pc' := 304) (lv' := [(7, .int r1), (0, .ref a), (2, .int v2_x18_204), (3, .int v3_x18_204), (4, .int v4_x18_204)]) (st' := [.int (0 : Int32)]) [(303, .iconst 0, 1, .int (0 : Int32))] (by decide +kernel) rfl ?_
                  obtain rfl := Option.some.inj hm
                  subst hQ
                  exact aw_zret rfl (by decide +kernel) (Nat.le_of_ble_eq_true rfl) (Nat.le_of_ble_eq_true rfl) (by decide +kernel) ⟨rfl, hs, h1⟩
        · have hm := (if_neg hc).symm.trans hm
          refine aw_b (pc' := 248) (lv' := [(7, .int r1), (0, .ref a), (2, .int v2_x18_204), (3, .int v3_x18_204), (4, .int v4_x18_204)]) (st' := [.int (0 : Int32)]) [(247, .iconst 0, 1, .int (0 : Int32))] (by decide +kernel) rfl ?_
          obtain rfl := Option.some.inj hm
          subst hQ
          exact aw_zret rfl (by decide +kernel) (Nat.le_of_ble_eq_true rfl) (Nat.le_of_ble_eq_true rfl) (by decide +kernel) ⟨rfl, hs, h1⟩
  have L18 : ∀ (fu : Nat) (v2_b18 : Int32) (v3_b18 : Int32) (v4_b18 : Int32) (v6_b18 : Int32) (v7_b18 : Int32) (t_b18 : st_) (H_b18 : Heap), has_ E H_b18 a ly_M s → has_ E H_b18 b (ly_IRx_ rr) t_b18 → sm_ H H_b18 b 1 → fL_areRoundsRight_l18 s rr i0 fu (v2_b18, v3_b18, v4_b18, v6_b18, v7_b18, t_b18) = some x18 → aw E mL_areRoundsRight Q 18 [(0, .ref a), (1, .int i0), (2, .int v2_b18), (3, .int v3_b18), (4, .int v4_b18), (5, .ref b), (6, .int v6_b18), (7, .int v7_b18)] [] H_b18 1 6 := by
    intro fu
    induction fu with
    | zero =>
      intro v2_b18 v3_b18 v4_b18 v6_b18 v7_b18 t_b18 H_b18 h0 h1 hs hm
      exact (it_0 hm).elim
    | succ fu ih18 =>
      intro v2_b18 v3_b18 v4_b18 v6_b18 v7_b18 t_b18 H_b18 h0 h1 hs hm
      obtain ⟨y18, hm, hk18⟩ := it_s hm
      have hm : fL_areRoundsRight_b18 s rr i0 v2_b18 v3_b18 v4_b18 v6_b18 v7_b18 t_b18 = some y18 := hm
      unfold fL_areRoundsRight_b18 at hm
      refine aw_b (pc' := 21) (lv' := [(0, .ref a), (1, .int i0), (2, .int v2_b18), (3, .int v3_b18), (4, .int v4_b18), (5, .ref b), (6, .int v6_b18), (7, .int v7_b18)]) (st' := [.ref a, .int v7_b18]) [(18, .iload 7, 2, .null), (20, .aload_n 0, 1, .null)] (by decide +kernel) rfl ?_
      obtain ⟨r85, e86, hm⟩ := bn_x hm
      refine aw_cv (rest := [.int v7_b18]) (st1 := [.int r85, .int v7_b18]) a 0 (kX7_rounds e86 h0) rfl rfl ckX7_rounds lkL_136 h0 eo_M_0 ⟨_, _, rfl⟩ nkX7_rounds rfl rfl rfl (Nat.le_of_ble_eq_true rfl) (Nat.le_of_ble_eq_true rfl) (Nat.le_of_ble_eq_true rfl) (by decide +kernel) (fun H87 z88 => ?_)
      have h0 := h0.kept0 z88
      have h1 := h1.kept0 z88
      have hs := hs.step0 z88
      refine aw_ic_ge (off := 180) 204 (by decide) (by decide +kernel) (fun hc => ?_) (fun hc => ?_)
      · have hm := (if_pos hc).symm.trans hm
        cases hm
        refine aw_lv (lv' := [(0, .ref a), (2, .int v2_b18), (3, .int v3_b18), (4, .int v4_b18)]) [0, 2, 3, 4] rfl ?_
        exact X18_204 v2_b18 v3_b18 v4_b18 t_b18 H87 h0 h1 hs ((congrArg (fL_areRoundsRight_k18 s) (show ((v2_b18, v3_b18, v4_b18, t_b18)) = x18 from hk18)).trans hr18)
      · have hm := (if_neg hc).symm.trans hm
        refine aw_b (pc' := 30) (lv' := [(0, .ref a), (1, .int i0), (2, .int v2_b18), (3, .int v3_b18), (4, .int v4_b18), (5, .ref b), (6, .int v6_b18), (7, .int v7_b18)]) (st' := [.int v7_b18, .int v2_b18]) [(27, .iload_n 2, 1, .null), (28, .iload 7, 2, .null)] (by decide +kernel) rfl ?_
        have J55 : ∀ (z1_j55 : Int32) (H_j55 : Heap), has_ E H_j55 a ly_M s → has_ E H_j55 b (ly_IRx_ rr) t_b18 → sm_ H H_j55 b 1 → fL_areRoundsRight_j55 s rr i0 v2_b18 v3_b18 v4_b18 v6_b18 v7_b18 t_b18 z1_j55 = some y18 → aw E mL_areRoundsRight Q 55 [(0, .ref a), (1, .int i0), (3, .int v3_b18), (4, .int v4_b18), (5, .ref b), (6, .int v6_b18), (7, .int v7_b18)] [.int z1_j55, .int v2_b18] H_j55 1 6 := by
          intro z1_j55 H_j55 h0 h1 hs hm
          unfold fL_areRoundsRight_j55 at hm
          refine aw_b (pc' := 63) (lv' := [(2, .int (v2_b18 + z1_j55)), (0, .ref a), (1, .int i0), (3, .int v3_b18), (4, .int v4_b18), (5, .ref b), (6, .int v6_b18), (7, .int v7_b18)]) (st' := [.int v7_b18, .int (-1 : Int32), .ref a, .int v6_b18]) [(55, .iadd, 1, .null), (56, .istore_n 2, 1, .null), (57, .iload 6, 2, .null), (59, .aload_n 0, 1, .null), (60, .iconst (-1), 1, .int (-1 : Int32)), (61, .iload 7, 2, .null)] (by decide +kernel) rfl ?_
          obtain ⟨r89, e90, hm⟩ := bn_x hm
          refine aw_cv (rest := [.int v6_b18]) (st1 := [.int r89, .int v6_b18]) a 0 (kX7_cost e90 h0) rfl rfl ckX7_cost lkL_161 h0 eo_M_0 ⟨_, _, rfl⟩ nkX7_cost rfl rfl rfl (Nat.le_of_ble_eq_true rfl) (Nat.le_of_ble_eq_true rfl) (Nat.le_of_ble_eq_true rfl) (by decide +kernel) (fun H91 z92 => ?_)
          have h0 := h0.kept0 z92
          have h1 := h1.kept0 z92
          have hs := hs.step0 z92
          refine aw_b (pc' := 69) (lv' := [(6, .int (v6_b18 + r89)), (2, .int (v2_b18 + z1_j55)), (0, .ref a), (1, .int i0), (3, .int v3_b18), (4, .int v4_b18), (5, .ref b), (7, .int v7_b18)]) (st' := []) [(66, .iadd, 1, .null), (67, .istore 6, 2, .null)] (by decide +kernel) rfl ?_
          refine aw_ldc (v := (2147483647 : Int32)) kwL_200 (by decide +kernel) ?_
          refine aw_b (pc' := 76) (lv' := [(9, .int (0 : Int32)), (8, .int (2147483647 : Int32)), (6, .int (v6_b18 + r89)), (2, .int (v2_b18 + z1_j55)), (0, .ref a), (1, .int i0), (3, .int v3_b18), (4, .int v4_b18), (5, .ref b), (7, .int v7_b18)]) (st' := []) [(71, .istore 8, 2, .null), (73, .iconst 0, 1, .int (0 : Int32)), (74, .istore 9, 2, .null)] (by decide +kernel) rfl ?_
          obtain ⟨x76, hx76, hr76⟩ := bn_x hm
          have X76_116 : ∀ (v8_x76_116 : Int32) (t_x76_116 : st_) (H_x76_116 : Heap), has_ E H_x76_116 a ly_M s → has_ E H_x76_116 b (ly_IRx_ rr) t_x76_116 → sm_ H H_x76_116 b 1 → fL_areRoundsRight_x76_116 s v2_b18 v3_b18 v4_b18 v6_b18 v7_b18 z1_j55 r89 v8_x76_116 t_x76_116 = some y18 → aw E mL_areRoundsRight Q 116 [(0, .ref a), (1, .int i0), (2, .int (v2_b18 + z1_j55)), (3, .int v3_b18), (4, .int v4_b18), (5, .ref b), (6, .int (v6_b18 + r89)), (7, .int v7_b18), (8, .int v8_x76_116)] [] H_x76_116 1 6 := by
            intro v8_x76_116 t_x76_116 H_x76_116 h0 h1 hs hm
            unfold fL_areRoundsRight_x76_116 at hm
            refine aw_b (pc' := 119) (lv' := [(9, .int (0 : Int32)), (0, .ref a), (1, .int i0), (2, .int (v2_b18 + z1_j55)), (3, .int v3_b18), (4, .int v4_b18), (5, .ref b), (6, .int (v6_b18 + r89)), (7, .int v7_b18), (8, .int v8_x76_116)]) (st' := []) [(116, .iconst 0, 1, .int (0 : Int32)), (117, .istore 9, 2, .null)] (by decide +kernel) rfl ?_
            obtain ⟨x119, hx119, hr119⟩ := bn_x hm
            have X119_141 : ∀ (v9_x119_141 : Int32) (H_x119_141 : Heap), has_ E H_x119_141 a ly_M s → has_ E H_x119_141 b (ly_IRx_ rr) t_x76_116 → sm_ H H_x119_141 b 1 → fL_areRoundsRight_x119_141 s v2_b18 v3_b18 v4_b18 v6_b18 v7_b18 z1_j55 r89 v8_x76_116 t_x76_116 v9_x119_141 = some y18 → aw E mL_areRoundsRight Q 141 [(0, .ref a), (1, .int i0), (2, .int (v2_b18 + z1_j55)), (3, .int v3_b18), (4, .int v4_b18), (5, .ref b), (6, .int (v6_b18 + r89)), (7, .int v7_b18), (8, .int v8_x76_116), (9, .int v9_x119_141)] [] H_x119_141 1 6 := by
              intro v9_x119_141 H_x119_141 h0 h1 hs hm
              unfold fL_areRoundsRight_x119_141 at hm
              refine aw_b (pc' := 143) (lv' := [(0, .ref a), (1, .int i0), (2, .int (v2_b18 + z1_j55)), (3, .int v3_b18), (4, .int v4_b18), (5, .ref b), (6, .int (v6_b18 + r89)), (7, .int v7_b18), (8, .int v8_x76_116), (9, .int v9_x119_141)]) (st' := [.int v7_b18]) [(141, .iload 7, 2, .null)] (by decide +kernel) rfl ?_
              have J163 : ∀ (z0_j163 : Int32) (H_j163 : Heap), has_ E H_j163 a ly_M s → has_ E H_j163 b (ly_IRx_ rr) t_x76_116 → sm_ H H_j163 b 1 → fL_areRoundsRight_j163 s v2_b18 v4_b18 v6_b18 v7_b18 z1_j55 r89 v8_x76_116 t_x76_116 v9_x119_141 z0_j163 = some y18 → aw E mL_areRoundsRight Q 163 [(0, .ref a), (1, .int i0), (2, .int (v2_b18 + z1_j55)), (4, .int v4_b18), (5, .ref b), (6, .int (v6_b18 + r89)), (7, .int v7_b18), (8, .int v8_x76_116), (9, .int v9_x119_141)] [.int z0_j163] H_j163 1 6 := by
                intro z0_j163 H_j163 h0 h1 hs hm
                unfold fL_areRoundsRight_j163 at hm
                refine aw_b (pc' := 174) (lv' := [(3, .int z0_j163), (0, .ref a), (1, .int i0), (2, .int (v2_b18 + z1_j55)), (4, .int v4_b18), (5, .ref b), (6, .int (v6_b18 + r89)), (7, .int v7_b18), (8, .int v8_x76_116), (9, .int v9_x119_141)]) (st' := [.int (11 : Int32), .ref a, .int ((v6_b18 + r89) - v8_x76_116), .int v4_b18]) [(163, .istore_n 3, 1, .null), (164, .iload 4, 2, .null), (166, .iload 6, 2, .null), (168, .iload 8, 2, .null), (170, .isub, 1, .null), (171, .aload_n 0, 1, .null), (172, .bipush 11, 2, .int (11 : Int32))] (by decide +kernel) rfl ?_
                obtain ⟨r93, e94, hm⟩ := bn_x hm
                refine aw_cv (rest := [.int ((v6_b18 + r89) - v8_x76_116), .int v4_b18]) (st1 := [.int r93, .int ((v6_b18 + r89) - v8_x76_116), .int v4_b18]) a 0 (kX7_setting e94 h0) rfl rfl ckX7_setting lkL_111 h0 eo_M_0 ⟨_, _, rfl⟩ nkX7_setting rfl rfl rfl (Nat.le_of_ble_eq_true rfl) (Nat.le_of_ble_eq_true rfl) (Nat.le_of_ble_eq_true rfl) (by decide +kernel) (fun H95 z96 => ?_)
                have h0 := h0.kept0 z96
                have h1 := h1.kept0 z96
                have hs := hs.step0 z96
                refine aw_b (pc' := 180) (lv' := [(3, .int z0_j163), (0, .ref a), (1, .int i0), (2, .int (v2_b18 + z1_j55)), (4, .int v4_b18), (5, .ref b), (6, .int (v6_b18 + r89)), (7, .int v7_b18), (8, .int v8_x76_116), (9, .int v9_x119_141)]) (st' := [.int (12 : Int32), .ref a, .int r93, .int ((v6_b18 + r89) - v8_x76_116), .int v4_b18]) [(177, .aload_n 0, 1, .null), (178, .bipush 12, 2, .int (12 : Int32))] (by decide +kernel) rfl ?_
                obtain ⟨r97, e98, hm⟩ := bn_x hm
                refine aw_cv (rest := [.int r93, .int ((v6_b18 + r89) - v8_x76_116), .int v4_b18]) (st1 := [.int r97, .int r93, .int ((v6_b18 + r89) - v8_x76_116), .int v4_b18]) a 0 (kX7_setting e98 h0) rfl rfl ckX7_setting lkL_111 h0 eo_M_0 ⟨_, _, rfl⟩ nkX7_setting rfl rfl rfl (Nat.le_of_ble_eq_true rfl) (Nat.le_of_ble_eq_true rfl) (Nat.le_of_ble_eq_true rfl) (by decide +kernel) (fun H99 z100 => ?_)
                have h0 := h0.kept0 z100
                have h1 := h1.kept0 z100
                have hs := hs.step0 z100
                refine aw_b (pc' := 187) (lv' := [(3, .int z0_j163), (0, .ref a), (1, .int i0), (2, .int (v2_b18 + z1_j55)), (4, .int v4_b18), (5, .ref b), (6, .int (v6_b18 + r89)), (7, .int v7_b18), (8, .int v8_x76_116), (9, .int v9_x119_141)]) (st' := [.int (r93 + (r97 * v9_x119_141)), .int ((v6_b18 + r89) - v8_x76_116), .int v4_b18]) [(183, .iload 9, 2, .null), (185, .imul, 1, .null), (186, .iadd, 1, .null)] (by decide +kernel) rfl ?_
                have J195 : ∀ (z1_j195 : Int32) (H_j195 : Heap), has_ E H_j195 a ly_M s → has_ E H_j195 b (ly_IRx_ rr) t_x76_116 → sm_ H H_j195 b 1 → fL_areRoundsRight_j195 v2_b18 v4_b18 v6_b18 v7_b18 z1_j55 r89 t_x76_116 z0_j163 z1_j195 = some y18 → aw E mL_areRoundsRight Q 195 [(0, .ref a), (1, .int i0), (2, .int (v2_b18 + z1_j55)), (3, .int z0_j163), (5, .ref b), (6, .int (v6_b18 + r89)), (7, .int v7_b18)] [.int z1_j195, .int v4_b18] H_j195 1 6 := by
                  intro z1_j195 H_j195 h0 h1 hs hm
                  unfold fL_areRoundsRight_j195 at hm
                  refine aw_b (pc' := 18) (lv' := [(7, .int (v7_b18 + (1 : Int32))), (4, .int (v4_b18 + z1_j195)), (0, .ref a), (1, .int i0), (2, .int (v2_b18 + z1_j55)), (3, .int z0_j163), (5, .ref b), (6, .int (v6_b18 + r89))]) (st' := []) [(195, .iadd, 1, .null), (196, .istore 4, 2, .null), (198, .iinc 7 1, 3, .int (1 : Int32)), (201, .goto (-183), 3, .null)] (by decide +kernel) rfl ?_
                  cases hm
                  refine aw_lv (lv' := [(0, .ref a), (1, .int i0), (2, .int (v2_b18 + z1_j55)), (3, .int z0_j163), (4, .int (v4_b18 + z1_j195)), (5, .ref b), (6, .int (v6_b18 + r89)), (7, .int (v7_b18 + (1 : Int32)))]) [2, 3, 4, 5, 1, 6, 7, 0] rfl ?_
                  exact ih18 (v2_b18 + z1_j55) z0_j163 (v4_b18 + z1_j195) (v6_b18 + r89) (v7_b18 + (1 : Int32)) t_x76_116 H_j195 h0 h1 hs hk18
                refine aw_ic_le (off := 7) 194 (by decide) (by decide +kernel) (fun hc => ?_) (fun hc => ?_)
                · have hm := (if_pos hc).symm.trans hm
                  refine aw_b (pc' := 195) (lv' := [(3, .int z0_j163), (0, .ref a), (1, .int i0), (2, .int (v2_b18 + z1_j55)), (4, .int v4_b18), (5, .ref b), (6, .int (v6_b18 + r89)), (7, .int v7_b18), (8, .int v8_x76_116), (9, .int v9_x119_141)]) (st' := [.int (0 : Int32), .int v4_b18]) [(194, .iconst 0, 1, .int (0 : Int32))] (by decide +kernel) rfl ?_
                  refine aw_lv (lv' := [(0, .ref a), (1, .int i0), (2, .int (v2_b18 + z1_j55)), (3, .int z0_j163), (5, .ref b), (6, .int (v6_b18 + r89)), (7, .int v7_b18)]) [1, 2, 3, 0, 5, 6, 7] rfl ?_
                  exact J195 (0 : Int32) H99 h0 h1 hs hm
                · have hm := (if_neg hc).symm.trans hm
                  refine aw_b (pc' := 195) (lv' := [(3, .int z0_j163), (0, .ref a), (1, .int i0), (2, .int (v2_b18 + z1_j55)), (4, .int v4_b18), (5, .ref b), (6, .int (v6_b18 + r89)), (7, .int v7_b18), (8, .int v8_x76_116), (9, .int v9_x119_141)]) (st' := [.int (1 : Int32), .int v4_b18]) [(190, .iconst 1, 1, .int (1 : Int32)), (191, .goto 4, 3, .null)] (by decide +kernel) rfl ?_
                  refine aw_lv (lv' := [(0, .ref a), (1, .int i0), (2, .int (v2_b18 + z1_j55)), (3, .int z0_j163), (5, .ref b), (6, .int (v6_b18 + r89)), (7, .int v7_b18)]) [1, 2, 3, 0, 5, 6, 7] rfl ?_
                  exact J195 (1 : Int32) H99 h0 h1 hs hm
              refine aw_if_ne (off := 11) 154 (by decide) (by decide +kernel) (fun hc => ?_) (fun hc => ?_)
              · have hm := (if_neg hc).symm.trans hm
                refine aw_b (pc' := 160) (lv' := [(0, .ref a), (1, .int i0), (2, .int (v2_b18 + z1_j55)), (3, .int v3_b18), (4, .int v4_b18), (5, .ref b), (6, .int (v6_b18 + r89)), (7, .int v7_b18), (8, .int v8_x76_116), (9, .int v9_x119_141)]) (st' := [.int ((v6_b18 + r89) - v8_x76_116), .int v3_b18]) [(154, .iload_n 3, 1, .null), (155, .iload 6, 2, .null), (157, .iload 8, 2, .null), (159, .isub, 1, .null)] (by decide +kernel) rfl ?_
                refine aw_mx (rest := []) mtL_204 rfl (Nat.le_of_ble_eq_true rfl) (Nat.le_of_ble_eq_true rfl) (Nat.le_of_ble_eq_true rfl) (by decide +kernel) ?_
                refine aw_lv (lv' := [(0, .ref a), (1, .int i0), (2, .int (v2_b18 + z1_j55)), (4, .int v4_b18), (5, .ref b), (6, .int (v6_b18 + r89)), (7, .int v7_b18), (8, .int v8_x76_116), (9, .int v9_x119_141)]) [0, 1, 2, 4, 5, 6, 7, 8, 9] rfl ?_
                exact J163 (if v3_b18 < ((v6_b18 + r89) - v8_x76_116) then ((v6_b18 + r89) - v8_x76_116) else v3_b18) H_x119_141 h0 h1 hs hm
              · have hm := (if_pos hc).symm.trans hm
                refine aw_b (pc' := 163) (lv' := [(0, .ref a), (1, .int i0), (2, .int (v2_b18 + z1_j55)), (3, .int v3_b18), (4, .int v4_b18), (5, .ref b), (6, .int (v6_b18 + r89)), (7, .int v7_b18), (8, .int v8_x76_116), (9, .int v9_x119_141)]) (st' := [.int ((v6_b18 + r89) - v8_x76_116)]) [(146, .iload 6, 2, .null), (148, .iload 8, 2, .null), (150, .isub, 1, .null), (151, .goto 12, 3, .null)] (by decide +kernel) rfl ?_
                refine aw_lv (lv' := [(0, .ref a), (1, .int i0), (2, .int (v2_b18 + z1_j55)), (4, .int v4_b18), (5, .ref b), (6, .int (v6_b18 + r89)), (7, .int v7_b18), (8, .int v8_x76_116), (9, .int v9_x119_141)]) [0, 1, 2, 4, 5, 6, 7, 8, 9] rfl ?_
                exact J163 ((v6_b18 + r89) - v8_x76_116) H_x119_141 h0 h1 hs hm
            have L119 : ∀ (fu : Nat) (v9_b119 : Int32) (H_b119 : Heap), has_ E H_b119 a ly_M s → has_ E H_b119 b (ly_IRx_ rr) t_x76_116 → sm_ H H_b119 b 1 → fL_areRoundsRight_l119 v7_b18 fu v9_b119 = some x119 → aw E mL_areRoundsRight Q 119 [(0, .ref a), (1, .int i0), (2, .int (v2_b18 + z1_j55)), (3, .int v3_b18), (4, .int v4_b18), (5, .ref b), (6, .int (v6_b18 + r89)), (7, .int v7_b18), (8, .int v8_x76_116), (9, .int v9_b119)] [] H_b119 1 6 := by
              intro fu
              induction fu with
              | zero =>
                intro v9_b119 H_b119 h0 h1 hs hm
                exact (it_0 hm).elim
              | succ fu ih119 =>
                intro v9_b119 H_b119 h0 h1 hs hm
                obtain ⟨y119, hm, hk119⟩ := it_s hm
                have hm : fL_areRoundsRight_b119 v7_b18 v9_b119 = some y119 := hm
                unfold fL_areRoundsRight_b119 at hm
                refine aw_b (pc' := 132) (lv' := [(0, .ref a), (1, .int i0), (2, .int (v2_b18 + z1_j55)), (3, .int v3_b18), (4, .int v4_b18), (5, .ref b), (6, .int (v6_b18 + r89)), (7, .int v7_b18), (8, .int v8_x76_116), (9, .int v9_b119)]) (st' := [.int (v7_b18 + (1 : Int32)), .int ((v9_b119 + (1 : Int32)) * (v9_b119 + (1 : Int32)))]) [(119, .iload 9, 2, .null), (121, .iconst 1, 1, .int (1 : Int32)), (122, .iadd, 1, .null), (123, .iload 9, 2, .null), (125, .iconst 1, 1, .int (1 : Int32)), (126, .iadd, 1, .null), (127, .imul, 1, .null), (128, .iload 7, 2, .null), (130, .iconst 1, 1, .int (1 : Int32)), (131, .iadd, 1, .null)] (by decide +kernel) rfl ?_
                refine aw_ic_gt (off := 9) 141 (by decide) (by decide +kernel) (fun hc => ?_) (fun hc => ?_)
                · have hm := (if_pos hc).symm.trans hm
                  cases hm
                  exact X119_141 v9_b119 H_b119 h0 h1 hs ((congrArg (fL_areRoundsRight_k119 s v2_b18 v3_b18 v4_b18 v6_b18 v7_b18 z1_j55 r89 v8_x76_116 t_x76_116) (show (v9_b119) = x119 from hk119)).trans hr119)
                · have hm := (if_neg hc).symm.trans hm
                  refine aw_b (pc' := 119) (lv' := [(9, .int (v9_b119 + (1 : Int32))), (0, .ref a), (1, .int i0), (2, .int (v2_b18 + z1_j55)), (3, .int v3_b18), (4, .int v4_b18), (5, .ref b), (6, .int (v6_b18 + r89)), (7, .int v7_b18), (8, .int v8_x76_116)]) (st' := []) [(135, .iinc 9 1, 3, .int (1 : Int32)), (138, .goto (-19), 3, .null)] (by decide +kernel) rfl ?_
                  cases hm
                  refine aw_lv (lv' := [(0, .ref a), (1, .int i0), (2, .int (v2_b18 + z1_j55)), (3, .int v3_b18), (4, .int v4_b18), (5, .ref b), (6, .int (v6_b18 + r89)), (7, .int v7_b18), (8, .int v8_x76_116), (9, .int (v9_b119 + (1 : Int32)))]) [1, 2, 3, 4, 5, 6, 7, 8, 9, 0] rfl ?_
                  exact ih119 (v9_b119 + (1 : Int32)) H_b119 h0 h1 hs hk119
            refine aw_lv (lv' := [(0, .ref a), (1, .int i0), (2, .int (v2_b18 + z1_j55)), (3, .int v3_b18), (4, .int v4_b18), (5, .ref b), (6, .int (v6_b18 + r89)), (7, .int v7_b18), (8, .int v8_x76_116), (9, .int (0 : Int32))]) [1, 2, 3, 4, 5, 6, 7, 8, 9, 0] rfl ?_
            exact L119 FU_ (0 : Int32) H_x76_116 h0 h1 hs hx119
          have L76 : ∀ (fu : Nat) (v8_b76 : Int32) (v9_b76 : Int32) (t_b76 : st_) (H_b76 : Heap), has_ E H_b76 a ly_M s → has_ E H_b76 b (ly_IRx_ rr) t_b76 → sm_ H H_b76 b 1 → fL_areRoundsRight_l76 s rr i0 v7_b18 fu (v8_b76, v9_b76, t_b76) = some x76 → aw E mL_areRoundsRight Q 76 [(0, .ref a), (1, .int i0), (2, .int (v2_b18 + z1_j55)), (3, .int v3_b18), (4, .int v4_b18), (5, .ref b), (6, .int (v6_b18 + r89)), (7, .int v7_b18), (8, .int v8_b76), (9, .int v9_b76)] [] H_b76 1 6 := by
            intro fu
            induction fu with
            | zero =>
              intro v8_b76 v9_b76 t_b76 H_b76 h0 h1 hs hm
              exact (it_0 hm).elim
            | succ fu ih76 =>
              intro v8_b76 v9_b76 t_b76 H_b76 h0 h1 hs hm
              obtain ⟨y76, hm, hk76⟩ := it_s hm
              have hm : fL_areRoundsRight_b76 s rr i0 v7_b18 v8_b76 v9_b76 t_b76 = some y76 := hm
              unfold fL_areRoundsRight_b76 at hm
              refine aw_b (pc' := 79) (lv' := [(0, .ref a), (1, .int i0), (2, .int (v2_b18 + z1_j55)), (3, .int v3_b18), (4, .int v4_b18), (5, .ref b), (6, .int (v6_b18 + r89)), (7, .int v7_b18), (8, .int v8_b76), (9, .int v9_b76)]) (st' := [.int i0, .int v9_b76]) [(76, .iload 9, 2, .null), (78, .iload_n 1, 1, .null)] (by decide +kernel) rfl ?_
              refine aw_ic_ge (off := 37) 116 (by decide) (by decide +kernel) (fun hc => ?_) (fun hc => ?_)
              · have hm := (if_pos hc).symm.trans hm
                cases hm
                refine aw_lv (lv' := [(0, .ref a), (1, .int i0), (2, .int (v2_b18 + z1_j55)), (3, .int v3_b18), (4, .int v4_b18), (5, .ref b), (6, .int (v6_b18 + r89)), (7, .int v7_b18), (8, .int v8_b76)]) [0, 1, 2, 3, 4, 5, 6, 7, 8] rfl ?_
                exact X76_116 v8_b76 t_b76 H_b76 h0 h1 hs ((congrArg (fL_areRoundsRight_k76 s v2_b18 v3_b18 v4_b18 v6_b18 v7_b18 z1_j55 r89) (show ((v8_b76, t_b76)) = x76 from hk76)).trans hr76)
              · have hm := (if_neg hc).symm.trans hm
                refine aw_b (pc' := 87) (lv' := [(0, .ref a), (1, .int i0), (2, .int (v2_b18 + z1_j55)), (3, .int v3_b18), (4, .int v4_b18), (5, .ref b), (6, .int (v6_b18 + r89)), (7, .int v7_b18), (8, .int v8_b76), (9, .int v9_b76)]) (st' := [.int v9_b76, .ref b, .int v9_b76, .ref b]) [(82, .aload 5, 2, .null), (84, .iload 9, 2, .null), (86, .dup2, 1, .null)] (by decide +kernel) rfl ?_
                obtain ⟨g101, hm⟩ := gd_x hm
                refine aw_ial b 0 h1 rfl g101 (by decide +kernel) ?_
                refine aw_b (pc' := 93) (lv' := [(0, .ref a), (1, .int i0), (2, .int (v2_b18 + z1_j55)), (3, .int v3_b18), (4, .int v4_b18), (5, .ref b), (6, .int (v6_b18 + r89)), (7, .int v7_b18), (8, .int v8_b76), (9, .int v9_b76)]) (st' := [.int v7_b18, .int v9_b76, .ref a, .int (t_b76 0 (ix_ v9_b76)), .int v9_b76, .ref b]) [(88, .aload_n 0, 1, .null), (89, .iload 9, 2, .null), (91, .iload 7, 2, .null)] (by decide +kernel) rfl ?_
                obtain ⟨r102, e103, hm⟩ := bn_x hm
                refine aw_cv (rest := [.int (t_b76 0 (ix_ v9_b76)), .int v9_b76, .ref b]) (st1 := [.int r102, .int (t_b76 0 (ix_ v9_b76)), .int v9_b76, .ref b]) a 0 (kX7_cost e103 h0) rfl rfl ckX7_cost lkL_161 h0 eo_M_0 ⟨_, _, rfl⟩ nkX7_cost rfl rfl rfl (Nat.le_of_ble_eq_true rfl) (Nat.le_of_ble_eq_true rfl) (Nat.le_of_ble_eq_true rfl) (by decide +kernel) (fun H104 z105 => ?_)
                have h0 := h0.kept0 z105
                have h1 := h1.kept0 z105
                have hs := hs.step0 z105
                refine aw_b (pc' := 97) (lv' := [(0, .ref a), (1, .int i0), (2, .int (v2_b18 + z1_j55)), (3, .int v3_b18), (4, .int v4_b18), (5, .ref b), (6, .int (v6_b18 + r89)), (7, .int v7_b18), (8, .int v8_b76), (9, .int v9_b76)]) (st' := [.int ((t_b76 0 (ix_ v9_b76)) + r102), .int v9_b76, .ref b]) [(96, .iadd, 1, .null)] (by decide +kernel) rfl ?_
                obtain ⟨g106, hm⟩ := gd_x hm
                obtain ⟨t107, e108, hm⟩ := bd_x hm
                refine aw_isl b 0 h1 rfl hf g106 e108 (by decide +kernel) (fun H109 h1 z110 => ?_)
                have h0 := h0.kept (n := 119) z110 rfl (by omega)
                have hs := hs.step z110 (by omega) (by omega)
                refine aw_b (pc' := 104) (lv' := [(0, .ref a), (1, .int i0), (2, .int (v2_b18 + z1_j55)), (3, .int v3_b18), (4, .int v4_b18), (5, .ref b), (6, .int (v6_b18 + r89)), (7, .int v7_b18), (8, .int v8_b76), (9, .int v9_b76)]) (st' := [.int v9_b76, .ref b, .int v8_b76]) [(98, .iload 8, 2, .null), (100, .aload 5, 2, .null), (102, .iload 9, 2, .null)] (by decide +kernel) rfl ?_
                obtain ⟨g111, hm⟩ := gd_x hm
                refine aw_ial b 0 h1 rfl g111 (by decide +kernel) ?_
                refine aw_mn (rest := []) mtL_201 rfl (Nat.le_of_ble_eq_true rfl) (Nat.le_of_ble_eq_true rfl) (Nat.le_of_ble_eq_true rfl) (by decide +kernel) ?_
                refine aw_b (pc' := 76) (lv' := [(9, .int (v9_b76 + (1 : Int32))), (8, .int (if (t107 0 (ix_ v9_b76)) < v8_b76 then (t107 0 (ix_ v9_b76)) else v8_b76)), (0, .ref a), (1, .int i0), (2, .int (v2_b18 + z1_j55)), (3, .int v3_b18), (4, .int v4_b18), (5, .ref b), (6, .int (v6_b18 + r89)), (7, .int v7_b18)]) (st' := []) [(108, .istore 8, 2, .null), (110, .iinc 9 1, 3, .int (1 : Int32)), (113, .goto (-37), 3, .null)] (by decide +kernel) rfl ?_
                cases hm
                refine aw_lv (lv' := [(0, .ref a), (1, .int i0), (2, .int (v2_b18 + z1_j55)), (3, .int v3_b18), (4, .int v4_b18), (5, .ref b), (6, .int (v6_b18 + r89)), (7, .int v7_b18), (8, .int (if (t107 0 (ix_ v9_b76)) < v8_b76 then (t107 0 (ix_ v9_b76)) else v8_b76)), (9, .int (v9_b76 + (1 : Int32)))]) [2, 3, 4, 5, 6, 7, 8, 9, 1, 0] rfl ?_
                exact ih76 (if (t107 0 (ix_ v9_b76)) < v8_b76 then (t107 0 (ix_ v9_b76)) else v8_b76) (v9_b76 + (1 : Int32)) t107 H109 h0 h1 hs hk76
          refine aw_lv (lv' := [(0, .ref a), (1, .int i0), (2, .int (v2_b18 + z1_j55)), (3, .int v3_b18), (4, .int v4_b18), (5, .ref b), (6, .int (v6_b18 + r89)), (7, .int v7_b18), (8, .int (2147483647 : Int32)), (9, .int (0 : Int32))]) [4, 5, 3, 6, 7, 8, 2, 9, 1, 0] rfl ?_
          exact L76 FU_ (2147483647 : Int32) (0 : Int32) t_b18 H91 h0 h1 hs hx76
        have J54 : ∀ (H_j54 : Heap), has_ E H_j54 a ly_M s → has_ E H_j54 b (ly_IRx_ rr) t_b18 → sm_ H H_j54 b 1 → fL_areRoundsRight_j54 s rr i0 v2_b18 v3_b18 v4_b18 v6_b18 v7_b18 t_b18 = some y18 → aw E mL_areRoundsRight Q 54 [(0, .ref a), (1, .int i0), (3, .int v3_b18), (4, .int v4_b18), (5, .ref b), (6, .int v6_b18), (7, .int v7_b18)] [.int v2_b18] H_j54 1 6 := by
          intro H_j54 h0 h1 hs hm
          unfold fL_areRoundsRight_j54 at hm
          refine aw_b (pc' := 55) (lv' := [(0, .ref a), (1, .int i0), (3, .int v3_b18), (4, .int v4_b18), (5, .ref b), (6, .int v6_b18), (7, .int v7_b18)]) (st' := [.int (0 : Int32), .int v2_b18]) [(54, .iconst 0, 1, .int (0 : Int32))] (by decide +kernel) rfl ?_
          exact J55 (0 : Int32) H_j54 h0 h1 hs hm
        refine aw_if_le (off := 24) 54 (by decide) (by decide +kernel) (fun hc => ?_) (fun hc => ?_)
        · have hm := (if_pos hc).symm.trans hm
          refine aw_lv (lv' := [(0, .ref a), (1, .int i0), (3, .int v3_b18), (4, .int v4_b18), (5, .ref b), (6, .int v6_b18), (7, .int v7_b18)]) [0, 1, 3, 4, 5, 6, 7] rfl ?_
          exact J54 H87 h0 h1 hs hm
        · have hm := (if_neg hc).symm.trans hm
          refine aw_b (pc' := 36) (lv' := [(0, .ref a), (1, .int i0), (2, .int v2_b18), (3, .int v3_b18), (4, .int v4_b18), (5, .ref b), (6, .int v6_b18), (7, .int v7_b18)]) (st' := [.int v7_b18, .ref a, .int v2_b18]) [(33, .aload_n 0, 1, .null), (34, .iload 7, 2, .null)] (by decide +kernel) rfl ?_
          obtain ⟨r112, e113, hm⟩ := bn_x hm
          refine aw_cv (rest := [.int v2_b18]) (st1 := [.int r112, .int v2_b18]) a 0 (kX7_taken e113 h0) rfl rfl ckX7_taken lkL_195 h0 eo_M_0 ⟨_, _, rfl⟩ nkX7_taken rfl rfl rfl (Nat.le_of_ble_eq_true rfl) (Nat.le_of_ble_eq_true rfl) (Nat.le_of_ble_eq_true rfl) (by decide +kernel) (fun H114 z115 => ?_)
          have h0 := h0.kept0 z115
          have h1 := h1.kept0 z115
          have hs := hs.step0 z115
          refine aw_b (pc' := 44) (lv' := [(0, .ref a), (1, .int i0), (2, .int v2_b18), (3, .int v3_b18), (4, .int v4_b18), (5, .ref b), (6, .int v6_b18), (7, .int v7_b18)]) (st' := [.int (v7_b18 - (1 : Int32)), .ref a, .int r112, .int v2_b18]) [(39, .aload_n 0, 1, .null), (40, .iload 7, 2, .null), (42, .iconst 1, 1, .int (1 : Int32)), (43, .isub, 1, .null)] (by decide +kernel) rfl ?_
          obtain ⟨r116, e117, hm⟩ := bn_x hm
          refine aw_cv (rest := [.int r112, .int v2_b18]) (st1 := [.int r116, .int r112, .int v2_b18]) a 0 (kX7_taken e117 h0) rfl rfl ckX7_taken lkL_195 h0 eo_M_0 ⟨_, _, rfl⟩ nkX7_taken rfl rfl rfl (Nat.le_of_ble_eq_true rfl) (Nat.le_of_ble_eq_true rfl) (Nat.le_of_ble_eq_true rfl) (by decide +kernel) (fun H118 z119 => ?_)
          have h0 := h0.kept0 z119
          have h1 := h1.kept0 z119
          have hs := hs.step0 z119
          refine aw_ic_eq (off := 7) 54 (by decide) (by decide +kernel) (fun hc => ?_) (fun hc => ?_)
          · have hm := (if_pos hc).symm.trans hm
            refine aw_lv (lv' := [(0, .ref a), (1, .int i0), (3, .int v3_b18), (4, .int v4_b18), (5, .ref b), (6, .int v6_b18), (7, .int v7_b18)]) [0, 1, 3, 4, 5, 6, 7] rfl ?_
            exact J54 H118 h0 h1 hs hm
          · have hm := (if_neg hc).symm.trans hm
            refine aw_b (pc' := 55) (lv' := [(0, .ref a), (1, .int i0), (2, .int v2_b18), (3, .int v3_b18), (4, .int v4_b18), (5, .ref b), (6, .int v6_b18), (7, .int v7_b18)]) (st' := [.int (1 : Int32), .int v2_b18]) [(50, .iconst 1, 1, .int (1 : Int32)), (51, .goto 4, 3, .null)] (by decide +kernel) rfl ?_
            refine aw_lv (lv' := [(0, .ref a), (1, .int i0), (3, .int v3_b18), (4, .int v4_b18), (5, .ref b), (6, .int v6_b18), (7, .int v7_b18)]) [0, 1, 3, 4, 5, 6, 7] rfl ?_
            exact J55 (1 : Int32) H118 h0 h1 hs hm
  refine aw_lv (lv' := [(0, .ref a), (1, .int i0), (2, .int (0 : Int32)), (3, .int (0 : Int32)), (4, .int (0 : Int32)), (5, .ref b), (6, .int (0 : Int32)), (7, .int (0 : Int32))]) [2, 3, 4, 5, 6, 7, 1, 0] rfl ?_
  exact L18 FU_ (0 : Int32) (0 : Int32) (0 : Int32) (0 : Int32) (0 : Int32) t H h0 h1 hs hx18
