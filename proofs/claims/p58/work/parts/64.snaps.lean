/-! snapshots: copies of all, of the class and of the model -/
def CR (s t : st_) : Prop := (∀ j, (j < 2 ∨ (9 ≤ j ∧ j < 14)) → s 0 j = t 0 j) ∧ (∀ m j, m < 7 → j < 1001 → s (m + 2) j = t (m + 2) j) ∧ (∀ j, j < 1000 → s 9 j = t 9 j) ∧ (∀ r, r < 6 → s 10 r = t 10 r ∧ s 11 r = t 11 r ∧ s 12 r = t 12 r) ∧ (∀ r o, r < 6 → o < 6 → s (r + 14) o = t (r + 14) o) ∧ ∀ x j, x < 20 → j < 5 → s (x + 21) j = t (x + 21) j
def GK (g : st_) (w : Nat → Int32) : Prop := (∃ C R n T, DD (sb_ g 1) w C R n ∧ UPS (sb_ g 1) ∧ RR (sb_ g 34) w R T) ∧ Z0 (sb_ g 34)
section SNAPS
variable {s s' t t' e e' g : st_} {w w' : Nat → Int32} {C R n T k : Nat} {v x : Int32}
theorem rows_lo {f : Int32 × st_ → Option ((Int32 × st_) ⊕ st_)} {N base W : Nat} (hN : N ≤ 20) (body : ∀ k z, k < N → f (nI k, z) = some (.inl (nI (k + 1), rw_ z (k + base) (va_cpy (e (k + base)) (z (k + base)) 0 0 W)))) (fin : ∀ z, f (nI N, z) = some (.inr z)) : wp_ (it_ f FU_ ((0 : Int32), s)) (fun s' => (∀ o, (o < base ∨ base + N ≤ o) → s' o = s o) ∧ ∀ k j, k < N → j < W → s' (k + base) j = e (k + base) j) := by
  refine wp_up (fun k v => v.1 = nI k ∧ (∀ o, (o < base ∨ base + N ≤ o) → v.2 o = s o) ∧ ∀ i j, i < k → j < W → v.2 (i + base) j = e (i + base) j) 0 N (Nat.zero_le _) (by omega) ⟨rfl, fun _ _ => rfl, fun i j hi => absurd hi (by omega)⟩ (fun k v hk _ hv => ?_) (fun v hv => ?_)
  · obtain ⟨v1, z⟩ := v
    obtain ⟨a1, hz, hi⟩ := hv
    dsimp only at a1 hz hi
    subst a1
    refine ⟨_, body k z hk, rfl, fun o ho => ?_, fun i j hik hj => ?_⟩
    · dsimp only
      rw [rw_o (by omega)]
      exact hz o ho
    · dsimp only
      by_cases hc : i = k
      · subst hc
        rw [rw_a, cpy_i hj]
      · rw [rw_o (by omega)]
        exact hi i j (by omega) hj
  · obtain ⟨v1, z⟩ := v
    obtain ⟨a1, hz, hi⟩ := hv
    dsimp only at a1 hz hi
    subst a1
    exact ⟨_, fin z, hz, hi⟩
theorem recCopy_w : wp_ (fX4_copyFrom e t) (fun e' => CR e' t) := by
  unfold fX4_copyFrom
  refine wp_bd (wp_bd (wp_bd (wp_bd (wp_bd (wp_bd (wp_bd ?_))))))
  generalize hs25 : pt_ (pt_ (pt_ (pt_ (pt_ (pt_ (pt_ e 0 0 (t 0 0)) 0 1 (t 0 1)) 0 9 (t 0 9)) 0 10 (t 0 10)) 0 11 (t 0 11)) 0 12 (t 0 12)) 0 13 (t 0 13) = s25
  have q0 : ∀ j, (j < 2 ∨ (9 ≤ j ∧ j < 14)) → s25 0 j = t 0 j := fun j hj => by
    rw [← hs25]
    have e : j = 0 ∨ j = 1 ∨ j = 9 ∨ j = 10 ∨ j = 11 ∨ j = 12 ∨ j = 13 := by omega
    rcases e with rfl | rfl | rfl | rfl | rfl | rfl | rfl <;> simp (disch := omega) only [pt_a, pt_rr]
  unfold fX4_copyFrom_l58
  refine wp_bn (rows_lo (e := t) (N := 7) (base := 2) (W := 1001) (by omega) (fun k z hk => ?_) (fun z => ?_)) (fun z hz => ?_)
  · dsimp only
    unfold fX4_copyFrom_b58
    have ei : ix_ (nI k) = k := ix_n (by omega)
    rw [if_neg (show ¬ (7 : Int32) ≤ nI k from nI_ge (b := 7) hk (by omega)), gd_t (ib_n hk (by omega)), gd_t (ib_n hk (by omega)), gd_t (ib_n hk (by omega)), bd_e, ei, Nat.one_mul, nI_1]
  · dsimp only
    unfold fX4_copyFrom_b58
    rw [if_pos (show (7 : Int32) ≤ nI 7 from Int32.le_refl _)]
  obtain ⟨z1, z2⟩ := hz
  unfold fX4_copyFrom_k58 fX4_copyFrom_x58_97
  refine wp_bd (wp_bd (wp_bd (wp_bd ?_)))
  generalize hs41 : rw_ (rw_ (rw_ (rw_ z 9 (va_cpy (t 9) (z 9) 0 0 1000)) 10 (va_cpy (t 10) (rw_ z 9 (va_cpy (t 9) (z 9) 0 0 1000) 10) 0 0 6)) 11 (va_cpy (t 11) (rw_ (rw_ z 9 (va_cpy (t 9) (z 9) 0 0 1000)) 10 (va_cpy (t 10) (rw_ z 9 (va_cpy (t 9) (z 9) 0 0 1000) 10) 0 0 6) 11) 0 0 6)) 12 (va_cpy (t 12) (rw_ (rw_ (rw_ z 9 (va_cpy (t 9) (z 9) 0 0 1000)) 10 (va_cpy (t 10) (rw_ z 9 (va_cpy (t 9) (z 9) 0 0 1000) 10) 0 0 6)) 11 (va_cpy (t 11) (rw_ (rw_ z 9 (va_cpy (t 9) (z 9) 0 0 1000)) 10 (va_cpy (t 10) (rw_ z 9 (va_cpy (t 9) (z 9) 0 0 1000) 10) 0 0 6) 11) 0 0 6) 12) 0 0 6) = s41
  have r9 : ∀ j, j < 1000 → s41 9 j = t 9 j := fun j hj => by
    rw [← hs41, rw_o (by decide), rw_o (by decide), rw_o (by decide), rw_a, cpy_i hj]
  have r10 : ∀ j, j < 6 → s41 10 j = t 10 j := fun j hj => by
    rw [← hs41, rw_o (by decide), rw_o (by decide), rw_a, cpy_i hj]
  have r11 : ∀ j, j < 6 → s41 11 j = t 11 j := fun j hj => by
    rw [← hs41, rw_o (by decide), rw_a, cpy_i hj]
  have r12 : ∀ j, j < 6 → s41 12 j = t 12 j := fun j hj => by
    rw [← hs41, rw_a, cpy_i hj]
  have ro : ∀ o, (o < 9 ∨ 13 ≤ o) → s41 o = z o := fun o ho => by
    rw [← hs41, rw_o (by omega), rw_o (by omega), rw_o (by omega), rw_o (by omega)]
  unfold fX4_copyFrom_l171
  refine wp_bn (rows_lo (e := t) (N := 6) (base := 14) (W := 6) (by omega) (fun k z hk => ?_) (fun z => ?_)) (fun y hy => ?_)
  · dsimp only
    unfold fX4_copyFrom_b171
    have ei : ix_ (nI k) = k := ix_n (by omega)
    rw [if_neg (show ¬ (6 : Int32) ≤ nI k from nI_ge (b := 6) hk (by omega)), gd_t (ib_n hk (by omega)), gd_t (ib_n hk (by omega)), gd_t (ib_n hk (by omega)), bd_e, ei, Nat.one_mul, nI_1]
  · dsimp only
    unfold fX4_copyFrom_b171
    rw [if_pos (show (6 : Int32) ≤ nI 6 from Int32.le_refl _)]
  obtain ⟨y1, y2⟩ := hy
  unfold fX4_copyFrom_k171 fX4_copyFrom_x171_210 fX4_copyFrom_l212
  refine wp_bn (rows_lo (e := t) (N := 20) (base := 21) (W := 5) (by omega) (fun k z hk => ?_) (fun z => ?_)) (fun u hu => ?_)
  · dsimp only
    unfold fX4_copyFrom_b212
    have ei : ix_ (nI k) = k := ix_n (by omega)
    rw [if_neg (show ¬ (20 : Int32) ≤ nI k from nI_ge (b := 20) hk (by omega)), gd_t (ib_n hk (by omega)), gd_t (ib_n hk (by omega)), gd_t (ib_n hk (by omega)), bd_e, ei, Nat.one_mul, nI_1]
  · dsimp only
    unfold fX4_copyFrom_b212
    rw [if_pos (show (20 : Int32) ≤ nI 20 from Int32.le_refl _)]
  obtain ⟨u1, u2⟩ := hu
  unfold fX4_copyFrom_k212 fX4_copyFrom_x212_251
  refine wp_s ⟨fun j hj => ?_, fun m j hm hj => ?_, fun j hj => ?_, fun r hr => ⟨?_, ?_, ?_⟩, fun r o hr ho => ?_, fun x j hx hj => u2 x j hx hj⟩
  · rw [u1 0 (by omega), y1 0 (by omega), ro 0 (by omega), z1 0 (by omega)]
    exact q0 j hj
  · rw [u1 _ (by omega), y1 _ (by omega), ro _ (by omega)]
    exact z2 m j hm hj
  · rw [u1 _ (by omega), y1 _ (by omega)]
    exact r9 j hj
  · rw [u1 _ (by omega), y1 _ (by omega)]
    exact r10 r hr
  · rw [u1 _ (by omega), y1 _ (by omega)]
    exact r11 r hr
  · rw [u1 _ (by omega), y1 _ (by omega)]
    exact r12 r hr
  · rw [u1 _ (by omega)]
    exact y2 r o hr ho
theorem RR.ce (h : RR e w R T) (h6 : R ≤ 6) (hc : CR e' e) : RR e' w R T := by
  obtain ⟨⟨⟨g0, g1, g16, gT⟩, ⟨S, s9, sS, s20, sr⟩, hP, hTk, hC, ⟨j1, j2, j3, j4, j5⟩⟩, hX⟩ := h
  obtain ⟨c0, cm, c9, cr, cx, cl⟩ := hc
  refine ⟨⟨⟨by rw [c0 0 (by omega)]; exact g0, by rw [c0 1 (by omega)]; exact g1, g16, gT⟩, ⟨S, by rw [c0 9 (by omega)]; exact s9, sS, s20, fun i a b j c => ?_⟩, fun m hm => ?_, fun k hk => ?_, fun r hr => ?_, ⟨j1, by rw [c0 10 (by omega)]; exact j2, by rw [c0 11 (by omega)]; exact j3, by rw [c0 12 (by omega)]; exact j4, by rw [c0 13 (by omega)]; exact j5⟩⟩, fun r o hr ho => by rw [cx r o (by omega) (by omega)]; exact hX r o hr ho⟩
  · rw [cl _ j (Nat.mod_lt _ (by omega)) (by omega)]
    exact sr i a b j c
  · obtain ⟨p1, p2, p3⟩ := hP m hm
    refine ⟨fun k hk => ?_, p2, p3⟩
    have hb := rw6_b hm h6
    obtain ⟨q, hq⟩ : ∃ q, rw6 m = q + 2 := ⟨rw6 m - 2, by omega⟩
    rw [hq, cm q k (by omega) (by omega), ← hq]
    exact p1 k hk
  · rw [c9 k (by omega)]
    exact hTk k hk
  · obtain ⟨a1, a2, a3⟩ := cr r (by omega)
    rw [a1, a2, a3]
    exact hC r hr
theorem UPS.ce (h : UPS t) (hc : CD s t) : UPS s := by
  obtain ⟨-, c5, c8, cr, -⟩ := hc
  refine ⟨?_, ?_, fun r hr => ?_⟩
  · have e : s 5 1 = t 5 1 := c5.1 1 (by omega) (by omega) (by omega)
    rw [e]; exact h.1
  · have e : s 8 1 = t 8 1 := c8.1 1 (by omega) (by omega) (by omega)
    rw [e]; exact h.2.1
  · have e : s (3 * r + 15) 1 = t (3 * r + 15) 1 := (cr r hr).1 1 (by omega) (by omega) (by omega)
    rw [e]; exact h.2.2 r hr
theorem gameCopy_w (h : GK g w) : wp_ (fX2_copyFrom s g) (fun g' => GK g' w) := by
  obtain ⟨⟨C, R, n, T, hD, hU, hR⟩, hZ⟩ := h
  have h6 := hD.rb.1.2.1
  unfold fX2_copyFrom
  refine wp_bn (duelCopy_w (t := sb_ g 1) hU) (fun r1 h1 => wp_bd (wp_bn (recCopy_w (t := sb_ g 34)) (fun r7 h7 => wp_bd (wp_s ⟨⟨C, R, n, T, ?_, ?_, ?_⟩, fun m hm => ?_⟩))))
  · exact (hD.ce h1).x33 (fun o ho => by
      rw [sb_ap, mg_o (by omega), mg_i (by omega) (by omega)]
      congr 1
      omega)
  · exact (hU.ce h1).x33 (fun o ho => by
      rw [sb_ap, mg_o (by omega), mg_i (by omega) (by omega)]
      congr 1
      omega)
  · exact (hR.ce h6 h7).ext h6 (fun o ho => by
      rw [sb_ap, mg_i (by omega) (by omega)]
      congr 1
      omega)
  · rw [sb_ap, mg_i (by omega) (by omega), Nat.add_sub_cancel_left, h7.2.1 m 0 hm (by omega)]
    exact hZ m hm
theorem GK.wx (h : GK g w) (he : ∀ i, i < 12584 → w' i = w i) : GK g w' := by
  obtain ⟨⟨C, R, n, T, hD, hU, hR⟩, hZ⟩ := h
  exact ⟨⟨C, R, n, T, hD.wx (fun i hi => he i (by omega)), hU, hR.wx hD.rb.1.2.1 (fun i hi _ => he i hi)⟩, hZ⟩
theorem GH.gk (h : GH s t) (hz : Z0 (sb_ s 42)) : GK (sb_ s 8) (t 1) := by
  obtain ⟨C, R, n, T, hD, hU, hR⟩ := h
  exact ⟨⟨C, R, n, T, by rw [sb81]; exact hD, by rw [sb81]; exact hU, by rw [sb834]; exact hR⟩, by rw [sb834]; exact hz⟩
theorem GK.gh (h : GK g (t 1)) : GH (mg_ s 8 75 g) t ∧ Z0 (sb_ (mg_ s 8 75 g) 42) := by
  obtain ⟨⟨C, R, n, T, hD, hU, hR⟩, hZ⟩ := h
  exact ⟨⟨C, R, n, T, HH.of8 hD hU hR⟩, fun m hm => by rw [put8b (by omega)]; exact hZ m hm⟩
theorem cop_w {a b : Nat} (hab : b ≠ a) : ∃ r, fX8_copies (sb_ t a) (sb_ t b) = some r ∧ (∀ j, j < 12584 → mg_ t b 1 r b j = t a j) ∧ ∀ o, o ≠ b → mg_ t b 1 r o = t o := by
  obtain ⟨r, e, hr⟩ := copies_w (s := sb_ t a) (t := sb_ t b)
  refine ⟨r, e, fun j hj => ?_, fun o ho => mg_o (by omega)⟩
  rw [mg_i (by omega) (by omega), Nat.sub_self]
  exact hr j hj
theorem nb1_ : vp_nar .boolean (1 : Int32) = 1 := by decide +kernel
/-- the model saves -/
theorem mSave_w (hk : k < 2) : ∃ t', fX8_saveSnapshot t (nI k) = some (t', t 1 16) ∧ t' 0 6 = 0 ∧ (∀ j, j < 12584 → t' (4 + k) j = t 1 j) ∧ t' 6 k = 1 ∧ (∀ j, j ≠ k → t' 6 j = t 6 j) ∧ (∀ o, o ≠ 0 → o ≠ 6 → o ≠ 4 + k → t' o = t o) ∧ ∀ j, j ≠ 6 → t' 0 j = t 0 j := by
  have ei : ix_ (nI k) = k := ix_n (by omega)
  unfold fX8_saveSnapshot
  rw [bn_e (show fX8_in (Int32.toInt64 (nI k)) (0 : Int64) (1 : Int64) = some 1 from in_t (lo := 0) (hi := 1) ⟨nI_pos' (by omega), nI_le (b := 1) (by omega) (by omega)⟩), if_neg (show ¬ (1 : Int32) = 0 by decide), bn_e wrong_0, if_pos rfl]
  dsimp only
  have hk2 : k = 0 ∨ k = 1 := by omega
  rcases hk2 with rfl | rfl
  · obtain ⟨r, e, h1, h2⟩ := cop_w (t := pt_ t 0 6 0) (a := 1) (b := 4) (by decide)
    rw [if_pos (show nI 0 = (0 : Int32) from rfl), bn_e e, bd_e, gd_t (ib_n (by omega) (by omega)), ei, bd_e, gd_t b16_, i16_, nb1_]
    generalize hs : mg_ (pt_ t 0 6 0) 4 1 r = s at h1 h2
    refine ⟨pt_ s 6 0 1, ?_, ?_, fun j hj => ?_, pt_a, fun j hj => ?_, fun o a b c => ?_, fun j hj => ?_⟩
    · rw [pt_oo (by decide), h2 1 (by decide), pt_oo (by decide)]
    · rw [pt_oo (by decide), h2 0 (by decide), pt_a]
    · rw [pt_oo (by decide)]
      exact (h1 j hj).trans (pt_oo (by decide))
    · rw [pt_r hj, h2 6 (by decide), pt_oo (by decide)]
    · rw [pt_o b, h2 o (by omega), pt_o a]
    · rw [pt_oo (by decide), h2 0 (by decide), pt_r hj]
  · obtain ⟨r, e, h1, h2⟩ := cop_w (t := pt_ t 0 6 0) (a := 1) (b := 5) (by decide)
    rw [if_neg (show ¬ nI 1 = (0 : Int32) by decide), bn_e e, bd_e, gd_t (ib_n (by omega) (by omega)), ei, bd_e, gd_t b16_, i16_, nb1_]
    generalize hs : mg_ (pt_ t 0 6 0) 5 1 r = s at h1 h2
    refine ⟨pt_ s 6 1 1, ?_, ?_, fun j hj => ?_, pt_a, fun j hj => ?_, fun o a b c => ?_, fun j hj => ?_⟩
    · rw [pt_oo (by decide), h2 1 (by decide), pt_oo (by decide)]
    · rw [pt_oo (by decide), h2 0 (by decide), pt_a]
    · rw [pt_oo (by decide)]
      exact (h1 j hj).trans (pt_oo (by decide))
    · rw [pt_r hj, h2 6 (by decide), pt_oo (by decide)]
    · rw [pt_o b, h2 o (by omega), pt_o a]
    · rw [pt_oo (by decide), h2 0 (by decide), pt_r hj]
theorem mSave_f (hx : ¬ (0 ≤ x ∧ x ≤ 1)) : fX8_saveSnapshot t x = some (pt_ t 0 6 1, 0) := by
  unfold fX8_saveSnapshot
  rw [bn_e (show fX8_in (Int32.toInt64 x) (0 : Int64) (1 : Int64) = some 0 from in_f (lo := 0) (hi := 1) hx), if_pos rfl, bn_e wrong_1, if_neg (show ¬ (1 : Int32) = 0 by decide)]
theorem mRest_f (hx : ¬ (0 ≤ x ∧ x ≤ 1)) : fX8_restoreSnapshot t x = some (pt_ t 0 6 1, 0) := by
  unfold fX8_restoreSnapshot
  rw [bn_e (show fX8_in (Int32.toInt64 x) (0 : Int64) (1 : Int64) = some 0 from in_f (lo := 0) (hi := 1) hx), if_pos rfl, bn_e wrong_1, if_neg (show ¬ (1 : Int32) = 0 by decide)]
theorem mRest_0 (hk : k < 2) (h0 : t 6 k = 0) : fX8_restoreSnapshot t (nI k) = some (pt_ t 0 6 0, -1) := by
  have ei : ix_ (nI k) = k := ix_n (by omega)
  unfold fX8_restoreSnapshot
  rw [bn_e (show fX8_in (Int32.toInt64 (nI k)) (0 : Int64) (1 : Int64) = some 1 from in_t (lo := 0) (hi := 1) ⟨nI_pos' (by omega), nI_le (b := 1) (by omega) (by omega)⟩), if_neg (show ¬ (1 : Int32) = 0 by decide), bn_e wrong_0, if_pos rfl, gd_t (ib_n hk (by omega)), ei]
  dsimp only
  rw [if_pos ((pt_oo (by decide)).trans h0)]
theorem mRest_w (hk : k < 2) (h1 : t 6 k = 1) : ∃ t', fX8_restoreSnapshot t (nI k) = some (t', t' 1 16) ∧ t' 0 6 = 0 ∧ (∀ j, j < 12584 → t' 1 j = t (4 + k) j) ∧ (∀ o, o ≠ 0 → o ≠ 1 → t' o = t o) ∧ ∀ j, j ≠ 6 → t' 0 j = t 0 j := by
  have ei : ix_ (nI k) = k := ix_n (by omega)
  unfold fX8_restoreSnapshot
  rw [bn_e (show fX8_in (Int32.toInt64 (nI k)) (0 : Int64) (1 : Int64) = some 1 from in_t (lo := 0) (hi := 1) ⟨nI_pos' (by omega), nI_le (b := 1) (by omega) (by omega)⟩), if_neg (show ¬ (1 : Int32) = 0 by decide), bn_e wrong_0, if_pos rfl, gd_t (ib_n hk (by omega)), ei]
  dsimp only
  rw [if_neg (show ¬ (pt_ t 0 6 0) 6 k = 0 from fun z => by rw [pt_oo (by decide), h1] at z; exact absurd z (by decide))]
  have hk2 : k = 0 ∨ k = 1 := by omega
  rcases hk2 with rfl | rfl
  · obtain ⟨r, e, h3, h2⟩ := cop_w (t := pt_ t 0 6 0) (a := 4) (b := 1) (by decide)
    rw [if_pos (show nI 0 = (0 : Int32) from rfl), bn_e e, bd_e, gd_t b16_, i16_]
    exact ⟨_, rfl, by rw [h2 0 (by decide), pt_a], fun j hj => (h3 j hj).trans (pt_oo (by decide)), fun o a b => by rw [h2 o b, pt_o a], fun j hj => by rw [h2 0 (by decide), pt_r hj]⟩
  · obtain ⟨r, e, h3, h2⟩ := cop_w (t := pt_ t 0 6 0) (a := 5) (b := 1) (by decide)
    rw [if_neg (show ¬ nI 1 = (0 : Int32) by decide), bn_e e, bd_e, gd_t b16_, i16_]
    exact ⟨_, rfl, by rw [h2 0 (by decide), pt_a], fun j hj => (h3 j hj).trans (pt_oo (by decide)), fun o a b => by rw [h2 o b, pt_o a], fun j hj => by rw [h2 0 (by decide), pt_r hj]⟩
end SNAPS
