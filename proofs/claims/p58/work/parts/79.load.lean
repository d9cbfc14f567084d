/-! a game begins; load -/
section LOAD
variable {s s' t t' u u' S S' d e g a : st_} {w w' : Nat → Int32} {C R K T n L : Nat} {x : Int32} {ch : Nat → Nat}
/-- an arm at the start -/
def A0 (a : st_) (x : Int32) : Prop := a 0 0 = x ∧ a 0 1 = 1 ∧ a 0 2 = 0 ∧ a 0 5 = 0 ∧ a 0 6 = 0 ∧ a 0 7 = 0 ∧ a 0 8 = 0
theorem armBegin_w : wp_ (fX0_begin a x) (fun a' => A0 a' x) := by
  unfold fX0_begin
  simp only [bd_e]
  refine wp_s ⟨?_, ?_, ?_, ?_, ?_, ?_, ?_⟩ <;> simp (disch := omega) only [pt_a, pt_rr]
theorem A0.ext {a' : st_} (h : A0 a x) (he : ∀ q, q < 3 → a' q = a q) : A0 a' x := by
  unfold A0 at h ⊢
  rw [he 0 (by omega)]
  exact h
theorem duelBegin_w : wp_ (fX1_begin d S) (fun d' => CS (sb_ d' 1) S ∧ A0 (sb_ d' 5) (S 0 1) ∧ A0 (sb_ d' 8) (S 0 1) ∧ (∀ r, r < 6 → A0 (sb_ d' (3 * r + 15)) (S 0 1)) ∧ (∀ r, r < 6 → d' 12 r = nI 1000000) ∧ d' 0 7 = S 0 10 ∧ d' 0 8 = S 0 10 ∧ d' 0 9 = 0 ∧ d' 0 10 = -1 ∧ d' 0 11 = 0 ∧ d' 0 12 = -1 ∧ d' 0 13 = -1) := by
  unfold fX1_begin
  refine wp_bn setCopy_w (fun r1 h1 => wp_bd ?_)
  have e11 : r1 0 1 = S 0 1 := h1.1 1 (by omega) (by omega) (by omega) (by omega)
  generalize hs5 : mg_ d 1 4 r1 = s5
  have f5 : ∀ q, q < 4 → s5 (1 + q) = r1 q := fun q hq => by rw [← hs5, mg_i (by omega) (by omega), Nat.add_sub_cancel_left]
  have s51 : s5 1 1 = S 0 1 := by
    have := f5 0 (by omega)
    rw [show s5 1 = r1 0 from this]
    exact e11
  rw [s51]
  refine wp_bn armBegin_w (fun r7 h7 => wp_bd ?_)
  generalize hs11 : mg_ s5 5 3 r7 = s11
  have s11o : ∀ o, (o < 5 ∨ 8 ≤ o) → s11 o = s5 o := fun o ho => by rw [← hs11, mg_o (by omega)]
  have s11i : ∀ q, q < 3 → s11 (5 + q) = r7 q := fun q hq => by rw [← hs11, mg_i (by omega) (by omega), Nat.add_sub_cancel_left]
  rw [show s11 1 1 = S 0 1 by rw [s11o 1 (by omega)]; exact s51]
  refine wp_bn armBegin_w (fun r13 h13 => wp_bd ?_)
  generalize hs17 : mg_ s11 8 3 r13 = s17
  have s17o : ∀ o, (o < 8 ∨ 11 ≤ o) → s17 o = s11 o := fun o ho => by rw [← hs17, mg_o (by omega)]
  have s17i : ∀ q, q < 3 → s17 (8 + q) = r13 q := fun q hq => by rw [← hs17, mg_i (by omega) (by omega), Nat.add_sub_cancel_left]
  have s171 : s17 1 1 = S 0 1 := by rw [s17o 1 (by omega), s11o 1 (by omega)]; exact s51
  unfold fX1_begin_l38
  refine wp_bn (own_lo (R := 6) (d := s17) (fun r a => A0 a (S 0 1)) (by omega) (fun k z hk hz => ?_) (fun z hz => ?_) (fun r a a' he h => h.ext he)) (fun z hz => ?_)
  · show wp_ (fX1_begin_b38 (nI k) z) _
    unfold fX1_begin_b38
    have ei : ix_ (nI k) = k := ix_n (by omega)
    simp only [ei]
    refine wp_if' (nI_ge (b := 6) hk (by omega)) (wp_gd (ib_n (by omega) (by omega)) ?_)
    rw [show z 1 1 = S 0 1 by rw [hz 1 (by omega)]; exact s171]
    exact wp_bn armBegin_w (fun r52 h52 => wp_bd (wp_l ⟨nI_1 k, _, rfl, h52⟩))
  · show wp_ (fX1_begin_b38 (nI 6) z) _
    unfold fX1_begin_b38
    exact wp_it (show (6 : Int32) ≤ nI 6 from Int32.le_refl _) (wp_r rfl)
  · obtain ⟨zo, zF⟩ := hz
    unfold fX1_begin_k38 fX1_begin_x38_69
    refine wp_bn (resetWeights_w (d := z)) (fun v hv => ?_)
    obtain ⟨vo, v12⟩ := hv
    simp only [bd_e]
    have v1 : ∀ q, q < 4 → v (1 + q) = r1 q := fun q hq => by rw [vo _ (by omega), zo _ (by omega), s17o _ (by omega), s11o _ (by omega), f5 q hq]
    have v10 : v 1 10 = S 0 10 := by
      have := v1 0 (by omega)
      rw [show v 1 = r1 0 from this]
      exact h1.1 10 (by omega) (by omega) (by omega) (by omega)
    refine wp_s ⟨h1.ext (fun q hq => ?_) (fun _ _ => rfl), h7.ext (fun q hq => ?_), h13.ext (fun q hq => ?_), fun r hr => (zF r hr).ext (fun q hq => ?_), fun r hr => ?_, ?_, ?_, ?_, ?_, ?_, ?_, ?_⟩
    · rw [sb_ap]
      simp (disch := omega) only [pt_o]
      exact v1 q hq
    · rw [sb_ap]
      simp (disch := omega) only [pt_o]
      rw [vo _ (by omega), zo _ (by omega), s17o _ (by omega)]
      exact s11i q hq
    · rw [sb_ap]
      simp (disch := omega) only [pt_o]
      rw [vo _ (by omega), zo _ (by omega)]
      exact s17i q hq
    · rw [sb_ap]
      simp (disch := omega) only [pt_o]
      rw [vo _ (by omega)]
      rfl
    · simp (disch := omega) only [pt_oo]
      exact v12 r hr
    · simp (disch := omega) only [pt_a, pt_rr]
      exact v10
    · simp (disch := omega) only [pt_a, pt_rr, pt_oo]
      exact v10
    all_goals simp (disch := omega) only [pt_a, pt_rr]
/-- the rows of the records are emptied -/
theorem recBegin_w : wp_ (fX4_begin e x) (fun e' => e' 0 0 = x ∧ e' 0 1 = 0 ∧ e' 0 9 = 0 ∧ e' 0 10 = 0 ∧ e' 0 11 = 0 ∧ e' 0 12 = -1 ∧ e' 0 13 = 0 ∧ (∀ r, r < 6 → e' 10 r = 0 ∧ e' 11 r = 0 ∧ e' 12 r = 0 ∧ ∀ o, o < 6 → e' (r + 14) o = 0) ∧ ∀ o, o ≠ 0 → (o < 10 ∨ 20 ≤ o) → e' o = e o) := by
  unfold fX4_begin
  simp only [bd_e]
  generalize hs : pt_ (pt_ (pt_ (pt_ (pt_ (pt_ (pt_ e 0 0 x) 0 1 0) 0 9 0) 0 10 0) 0 11 0) 0 12 (-1)) 0 13 0 = s25
  have so : ∀ o, o ≠ 0 → s25 o = e o := fun o ho => by rw [← hs]; simp (disch := omega) only [pt_o]
  have s0 : s25 0 0 = x ∧ s25 0 1 = 0 ∧ s25 0 9 = 0 ∧ s25 0 10 = 0 ∧ s25 0 11 = 0 ∧ s25 0 12 = -1 ∧ s25 0 13 = 0 := by
    rw [← hs]
    refine ⟨?_, ?_, ?_, ?_, ?_, ?_, ?_⟩ <;> simp (disch := omega) only [pt_a, pt_rr]
  unfold fX4_begin_l37
  refine wp_bn (Q := fun v => v 0 = s25 0 ∧ (∀ r, r < 6 → v 10 r = 0 ∧ v 11 r = 0 ∧ v 12 r = 0 ∧ ∀ o, o < 6 → v (r + 14) o = 0) ∧ ∀ o, (o < 10 ∨ 20 ≤ o) → v o = s25 o) ?_ (fun v hv => ?_)
  · refine wp_up (fun k v => v.1 = nI k ∧ (∀ r, r < k → v.2 10 r = 0 ∧ v.2 11 r = 0 ∧ v.2 12 r = 0 ∧ ∀ o, o < 6 → v.2 (r + 14) o = 0) ∧ ∀ o, (o < 10 ∨ 20 ≤ o) → v.2 o = s25 o) 0 6 (Nat.zero_le _) (by omega) ⟨rfl, fun r hr => absurd hr (by omega), fun _ _ => rfl⟩ (fun k v hk _ hv => ?_) (fun v hv => ?_)
    · obtain ⟨v1, z⟩ := v
      obtain ⟨a, hz, hzo⟩ := hv
      dsimp only at a hz hzo
      subst a
      have ei : ix_ (nI k) = k := ix_n (by omega)
      unfold fX4_begin_b37
      simp only [ei]
      refine wp_if' (nI_ge (b := 6) hk (by omega)) (wp_gd (ib_n hk (by omega)) (wp_bd (wp_gd (ib_n hk (by omega)) (wp_bd (wp_gd (ib_n hk (by omega)) (wp_bd ?_))))))
      generalize hy : pt_ (pt_ (pt_ z 10 k 0) 11 k 0) 12 k 0 = y
      have yo : ∀ o, (o < 10 ∨ 13 ≤ o) → y o = z o := fun o ho => by rw [← hy, pt_o (by omega), pt_o (by omega), pt_o (by omega)]
      have yk : ∀ r, r < k + 1 → y 10 r = 0 ∧ y 11 r = 0 ∧ y 12 r = 0 := fun r hr => by
        rw [← hy]
        by_cases hrk : r = k
        · subst hrk
          refine ⟨?_, ?_, ?_⟩
          · rw [pt_oo (by decide), pt_oo (by decide), pt_a]
          · rw [pt_oo (by decide), pt_a]
          · rw [pt_a]
        · obtain ⟨a1, a2, a3, -⟩ := hz r (by omega)
          refine ⟨?_, ?_, ?_⟩
          · rw [pt_oo (by decide), pt_oo (by decide), pt_r hrk]; exact a1
          · rw [pt_oo (by decide), pt_r hrk, pt_oo (by decide)]; exact a2
          · rw [pt_r hrk, pt_oo (by decide), pt_oo (by decide)]; exact a3
      unfold fX4_begin_l66
      refine wp_bn (Q := fun u => (∀ o, o ≠ k + 14 → u o = y o) ∧ ∀ o, o < 6 → u (k + 14) o = 0) ?_ (fun u hu => ?_)
      · refine wp_up (fun j v => v.1 = nI j ∧ (∀ o, o ≠ k + 14 → v.2 o = y o) ∧ ∀ o, o < j → v.2 (k + 14) o = 0) 0 6 (Nat.zero_le _) (by omega) ⟨rfl, fun _ _ => rfl, fun o ho => absurd ho (by omega)⟩ (fun j v hj _ hv => ?_) (fun v hv => ?_)
        · obtain ⟨v1, b⟩ := v
          obtain ⟨a, hb, hbo⟩ := hv
          dsimp only at a hb hbo
          subst a
          have ej : ix_ (nI j) = j := ix_n (by omega)
          unfold fX4_begin_b66
          simp only [ei, ej, Nat.one_mul]
          refine wp_if' (nI_ge (b := 6) hj (by omega)) (wp_gd (ib_n hk (by omega)) (wp_gd (ib_n hj (by omega)) (wp_bd (wp_l ⟨nI_1 j, fun o ho => (pt_o ho).trans (hb o ho), fun o ho => ?_⟩))))
          dsimp only
          by_cases hoj : o = j
          · subst hoj
            rw [pt_a]
          · rw [pt_r hoj]
            exact hbo o (by omega)
        · obtain ⟨v1, b⟩ := v
          obtain ⟨a, hb, hbo⟩ := hv
          dsimp only at a hb hbo
          subst a
          unfold fX4_begin_b66
          exact wp_it (show (6 : Int32) ≤ nI 6 from Int32.le_refl _) (wp_r ⟨hb, hbo⟩)
      · obtain ⟨uo, u14⟩ := hu
        unfold fX4_begin_k66 fX4_begin_x66_87
        refine wp_l ⟨nI_1 k, fun r hr => ?_, fun o ho => ?_⟩
        · dsimp only
          obtain ⟨a1, a2, a3⟩ := yk r hr
          rw [uo 10 (by omega), uo 11 (by omega), uo 12 (by omega)]
          refine ⟨a1, a2, a3, fun o ho => ?_⟩
          by_cases hrk : r = k
          · subst hrk
            exact u14 o ho
          · rw [uo _ (by omega), yo _ (by omega)]
            exact (hz r (by omega)).2.2.2 o ho
        · dsimp only
          rw [uo _ (by omega), yo _ (by omega)]
          exact hzo o ho
    · obtain ⟨v1, z⟩ := v
      obtain ⟨a, hz, hzo⟩ := hv
      dsimp only at a hz hzo
      subst a
      unfold fX4_begin_b37
      exact wp_it (show (6 : Int32) ≤ nI 6 from Int32.le_refl _) (wp_r ⟨hzo 0 (by omega), hz, hzo⟩)
  · obtain ⟨v0, v1, v2⟩ := hv
    unfold fX4_begin_k37 fX4_begin_x37_93
    obtain ⟨c1, c2, c3, c4, c5, c6, c7⟩ := s0
    exact wp_s ⟨by rw [v0]; exact c1, by rw [v0]; exact c2, by rw [v0]; exact c3, by rw [v0]; exact c4, by rw [v0]; exact c5, by rw [v0]; exact c6, by rw [v0]; exact c7, v1, fun o h0 ho => by rw [v2 o ho, so o h0]⟩
theorem A0.ar {m : Nat} (h : A0 a (w 1)) (hm : m < 8) (hr : rg_ (w 1) 0 (C - 1)) (hw : w (ab_ m) = w 1 ∧ w (ab_ m + 1) = 1 ∧ ∀ j, 2 ≤ j → j < 47 → w (ab_ m + j) = 0) : AR a w m 0 ∧ AI w m 0 C := by
  obtain ⟨a0, a1, a2, a3, a4, a5, a6⟩ := h
  obtain ⟨w0, w1, wj⟩ := hw
  refine ⟨⟨a0.trans w0.symm, a1.trans w1.symm, a2.trans (wj 2 (by omega) (by omega)).symm, a3.trans (wj 3 (by omega) (by omega)).symm, a4.trans (wj 4 (by omega) (by omega)).symm, a5.trans (wj 5 (by omega) (by omega)).symm, a6.trans (wj 6 (by omega) (by omega)).symm, fun j hj => absurd hj (by omega)⟩, hm, by rw [w0]; exact hr, Or.inr w1, wj 2 (by omega) (by omega), by omega, fun j hj => absurd hj (by omega)⟩
theorem gameBegin_w (h : FC S w C R K) (hz : Z0 (sb_ g 34)) : wp_ (fX2_begin g S) (fun g' => GK g' w) := by
  obtain ⟨⟨f1, f2, ⟨f3, f3'⟩, f4, f5⟩, hR1, ⟨w14, w15, w16, w17, w18, w19, w20, w24, w25, w23⟩, hrow, harm, hrest⟩ := h
  have pi : ∀ i, PI i → S 0 (pj i) = w i := fun i hi => (f1 i hi).1
  have c0 := f1 0 (by unfold PI; omega)
  have c1 := f1 1 (by unfold PI; omega)
  have c2 := f1 2 (by unfold PI; omega)
  have c3 := f1 3 (by unfold PI; omega)
  have c4 := f1 4 (by unfold PI; omega)
  have c5 := f1 5 (by unfold PI; omega)
  have c7 := f1 7 (by unfold PI; omega)
  have c8 := f1 8 (by unfold PI; omega)
  have c9 := f1 9 (by unfold PI; omega)
  have c10 := f1 10 (by unfold PI; omega)
  have c11 := f1 11 (by unfold PI; omega)
  have c12 := f1 12 (by unfold PI; omega)
  have c13 := f1 13 (by unfold PI; omega)
  have c21 := f1 21 (by unfold PI; omega)
  have hC : C ≤ 100 := c0.2.2.2
  have hC2 : 2 ≤ C := c0.2.2.1
  have w0 : w 0 = nI C := c0.2.1
  have hR6 : R ≤ 6 := c4.2.2
  have w4 : w 4 = nI R := c4.2.1
  have hK : K ≤ 16 := c10.2.2
  have w10 : w 10 = nI K := c10.2.1
  have hst : rg_ (w 1) 0 (C - 1) := c1.2
  unfold fX2_begin
  refine wp_bn (duelBegin_w (d := sb_ g 1) (S := S)) (fun r1 h1 => wp_bd (wp_bn (recBegin_w (x := S 0 4)) (fun r7 h7 => wp_bd (wp_s ?_))))
  obtain ⟨⟨s0, s1, s3⟩, a5, a8, ar, a12, v7, v8, v9, v10, v11, v12, v13⟩ := h1
  obtain ⟨e0, e1, e9, e10, e11, e12, e13, er, eo⟩ := h7
  have es1 : S 0 1 = w 1 := c1.1
  rw [es1] at a5 a8 ar
  have dd : DD r1 w C R 0 := by
    refine ⟨⟨⟨hC2, hC, (s0 0 (by omega) (by omega) (by omega) (by omega)).trans (c0.1.trans w0), w0, hR1, hR6, (s0 4 (by omega) (by omega) (by omega) (by omega)).trans (c4.1.trans w4), w4, (s0 2 (by omega) (by omega) (by omega) (by omega)).trans c2.1, (s0 3 (by omega) (by omega) (by omega) (by omega)).trans c3.1, c2.2, c3.2, fun r hr => ?_⟩, (s0 1 (by omega) (by omega) (by omega) (by omega)).trans c1.1, hst, (s0 7 (by omega) (by omega) (by omega) (by omega)).trans c5.1, c5.2, fun z => ?_, fun z => ?_, (s0 9 (by omega) (by omega) (by omega) (by omega)).trans c7.1, c7.2, (s0 11 (by omega) (by omega) (by omega) (by omega)).trans c9.1, c9.2, (s0 12 (by omega) (by omega) (by omega) (by omega)).trans c10.1, by rw [w10]; exact rg_n (Nat.zero_le _) hK (by omega), fun k hk => ?_, (s0 17 (by omega) (by omega) (by omega) (by omega)).trans c11.1, (s0 18 (by omega) (by omega) (by omega) (by omega)).trans c12.1, (s0 16 (by omega) (by omega) (by omega) (by omega)).trans c13.1, (s0 14 (by omega) (by omega) (by omega) (by omega)).trans c21.1, c21.2, fun z => ?_⟩, ⟨v7.trans c8.1, c8.2, ?_, ?_, v9.trans w16.symm, ?_, ?_, ?_, v11.trans w14.symm, v13.trans w25.symm, fun r hr => ?_⟩, (a5.ar (m := 6) (by omega) hst (harm 6 (by omega))).1, (a5.ar (m := 6) (by omega) hst (harm 6 (by omega))).2, fun r hr => (ar r (by omega)).ar (by omega) hst (harm r (by omega)), fun _ => a8.ar (m := 7) (by omega) hst (harm 7 (by omega))⟩
    · obtain ⟨b1, b2, b3⟩ := f2 r hr
      rw [(s1 r (by omega)).1, (s1 r (by omega)).2]
      exact ⟨b1, b2, b3⟩
    · exact ⟨(s0 8 (by omega) (by omega) (by omega) (by omega)).trans (f3 z).1, (f3 z).2⟩
    · exact (s0 8 (by omega) (by omega) (by omega) (by omega)).trans (f3' z)
    · have hkK : k < K := by rw [w10, ix_n (by omega)] at hk; exact hk
      have e : r1 4 k = S 3 k := s3 k (by omega)
      rw [e]
      exact f5 k hkK
    · exact ⟨(s0 15 (by omega) (by omega) (by omega) (by omega)).trans (f4 z).1, (f4 z).2⟩
    · rw [w23]
      exact v8.trans c8.1
    · rw [w23]
      exact c8.2
    · rw [w16]
      exact rg_n (k := 0) (by omega) (by omega) (by omega)
    · rw [v10, w15]
      rfl
    · rw [w15, w10, ix_n (by omega)]
      exact rg_n (k := 0) (by omega) (by omega) (by omega)
    · rw [(hrow r hr).1]
      exact ⟨a12 r (by omega), rg_n (by omega) (by omega) (by omega)⟩
  refine ⟨⟨C, R, 0, 0, dd.x33 (fun o ho => ?_), ?_, RR.ext (e := r7) ?_ hR6 (fun o ho => ?_)⟩, fun m hm => ?_⟩
  · rw [sb_ap, mg_o (by omega), mg_i (by omega) (by omega)]
    congr 1
    omega
  · refine UPS.x33 (d := r1) ⟨Or.inr a5.2.1, Or.inr a8.2.1, fun r hr => Or.inr (ar r hr).2.1⟩ (fun o ho => ?_)
    rw [sb_ap, mg_o (by omega), mg_i (by omega) (by omega)]
    congr 1
    omega
  · refine ⟨⟨⟨e0.trans (c4.1.trans w4), e1, w16, by omega⟩, ⟨0, e9, by omega, w20, fun i _ hi => absurd hi (by omega)⟩, fun m hm => ⟨fun k hk => ?_, fun k hk => absurd hk (by omega), ?_⟩, fun k hk => absurd hk (by omega), fun r hr => ?_, ⟨by rw [w17]; exact rg_n (k := 0) (by omega) (by omega) (by omega), e10.trans w17.symm, e11.trans w18.symm, e12.trans w19.symm, e13.trans w24.symm⟩⟩, fun r o hr ho => ?_⟩
    · have hk0 : k = 0 := by omega
      subst hk0
      have hb := rw6_b hm hR6
      rw [eo _ (by omega) (by omega), sb_ap, mg_o (by omega)]
      obtain ⟨q, hq⟩ : ∃ q, rw6 m = q + 2 := ⟨rw6 m - 2, by omega⟩
      rw [hq]
      exact hz q (by omega)
    · have hm8 : m < 8 := by unfold am6 at hm; omega
      exact (harm m hm8).2.2 3 (by omega) (by omega)
    · obtain ⟨b1, b2, b3, b4⟩ := er r (by omega)
      obtain ⟨q1, q2, q3⟩ := hrow r hr
      exact ⟨b1.trans q2.symm, b2.trans q3.symm, b3⟩
    · rw [(er r (by omega)).2.2.2 o (by omega), hrest _ (by omega) (by omega)]
  · rw [sb_ap, mg_i (by omega) (by omega), Nat.add_sub_cancel_left]
  · rw [sb_ap, mg_i (by omega) (by omega), Nat.add_sub_cancel_left, eo _ (by omega) (by omega), sb_ap, mg_o (by omega)]
    exact hz m hm
/-! load -/
theorem FD.wx (h : FD 0 S w C R K) (he : ∀ i, i < 12584 → w' i = w i) : FD 0 S w' C R K := by
  obtain ⟨f1, f2, ⟨f3, f3'⟩, f4, f5, f6, f7, f8⟩ := h
  have hR : R ≤ 6 := (f1 4 (by omega) (by unfold PI; omega)).2.2
  have hK : K ≤ 16 := (f1 10 (by omega) (by unfold PI; omega)).2.2
  refine ⟨fun i a hi => ?_, fun r hr => ?_, ⟨fun z => ?_, fun z => ?_⟩, fun z => ?_, fun k hk => ?_, fun i hi hi2 => ?_, ?_, ?_⟩
  · have hb := hi.b
    rw [he i (by omega)]
    exact f1 i a hi
  · rw [he _ (by omega), he _ (by omega)]
    exact f2 r hr
  · rw [he 5 (by omega)] at z
    rw [he 6 (by omega)]
    exact f3 z
  · rw [he 5 (by omega)] at z
    exact f3' z
  · rw [he 21 (by omega)] at z
    rw [he 22 (by omega)]
    exact f4 z
  · rw [he _ (by omega)]
    exact f5 k hk
  · rw [he i hi]
    exact f6 i hi hi2
  · rw [he 19 (by omega)]
    exact f7
  · rw [he 25 (by omega)]
    exact f8
theorem FC.ext (h : FC S w C R K) (he : ∀ o, o < 4 → S' o = S o) : FC S' w C R K := by
  unfold FC at h ⊢
  rw [he 0 (by omega), he 1 (by omega), he 2 (by omega), he 3 (by omega)]
  exact h
/-- the buffers hold the same bytes -/
def BU (s t : st_) : Prop := ∃ (ch : Nat → Nat) (L : Nat), s 0 1 = nI L ∧ MTx t ch L ∧ ∀ j, j < L → (ch j < 128 ∧ s 1 j = nI (ch j)) ∨ (128 ≤ ch j ∧ s 1 j < 0)
def FF (s t : st_) : Prop := GH s t ∧ Z0 (sb_ s 42) ∧ BU s t ∧ s 0 2 = t 0 13
theorem FF.of (h : FF s t) (hc : CG s s') (hm : MG t t') (hg : GH s' t') : FF s' t' := by
  obtain ⟨-, hz, ⟨ch, L, b1, ⟨b2, b3, b4⟩, b5⟩, hf⟩ := h
  refine ⟨hg, hc.2 hz, ⟨ch, L, by rw [hc.1 0 (by omega)]; exact b1, ⟨b2, by rw [hm.2.1]; exact b3, fun j hj => ?_⟩, fun j hj => ?_⟩, by rw [hc.1 0 (by omega), hm.2.2]; exact hf⟩
  · rw [hm.1 7 (by omega) (by omega)]
    exact b4 j hj
  · rw [hc.1 1 (by omega)]
    exact b5 j hj
theorem loadError_p (h : FF s t) : ∃ t' y, fX7_loadError s = some y ∧ fX8_loadError t = some (t', y) ∧ MI t t' := by
  unfold fX7_loadError fX8_loadError
  rw [bd_e, pt_r (by decide), h.2.2.2]
  exact ⟨_, _, rfl, rfl, MI.t6⟩
/-- the class behind its reader -/
theorem load_c {s11 : st_} (h : s11 = pt_ (pt_ (mg_ s 1 7 (mg_ d 2 4 S')) 0 1 0) 0 2 ((pt_ (mg_ s 1 7 (mg_ d 2 4 S')) 0 1 0) 2 5)) : (∀ o, 8 ≤ o → s11 o = s o) ∧ s11 0 1 = 0 ∧ s11 0 2 = d 1 5 ∧ s11 2 5 = d 1 5 ∧ s11 2 6 = d 1 6 ∧ ∀ o, o < 4 → sb_ s11 3 o = S' o := by
  have e2 : (pt_ (mg_ s 1 7 (mg_ d 2 4 S')) 0 1 0) 2 = d 1 := by rw [pt_o (by decide), mg_i (by omega) (by omega), mg_o (by omega)]
  have e3 : ∀ o, o < 4 → mg_ d 2 4 S' (3 + o - 1) = S' o := fun o ho => by
    rw [mg_i (by omega) (by omega)]
    exact congrArg S' (by omega)
  refine ⟨fun o ho => ?_, ?_, ?_, ?_, ?_, fun o ho => ?_⟩
  · rw [h, pt_o (by omega), pt_o (by omega), mg_o (by omega)]
  · rw [h, pt_r (by decide), pt_a]
  · rw [h, pt_a, e2]
  · rw [h, pt_oo (by decide), e2]
  · rw [h, pt_oo (by decide), e2]
  · rw [h, sb_ap, pt_o (by omega), pt_o (by omega), mg_i (by omega) (by omega)]
    exact e3 o ho
set_option maxHeartbeats 4000000 in
theorem load_p (h : FF s t) : ∃ s' t' y, fX7_load s = some (s', y) ∧ fX8_load t = some (t', y) ∧ FF s' t' ∧ ∀ o, 4 ≤ o → o < 7 → t' o = t o := by
  obtain ⟨hG, hz, ⟨ch, L, b1, ⟨b2, b3, b4⟩, b5⟩, hf⟩ := h
  unfold fX7_load fX8_load
  -- the model's row is made anew
  rw [bd_e]
  obtain ⟨r5, er5, hr5⟩ := begins_w (u := sb_ (pt_ t 0 6 0) 3)
  rw [bn_e er5, bd_e, bd_e, bd_e]
  generalize ht15 : pt_ (pt_ (mg_ (pt_ t 0 6 0) 3 1 r5) 0 9 0) 0 12 0 = t15
  have q15 : ∀ o, o ≠ 0 → o ≠ 3 → t15 o = t o := fun o a b => by rw [← ht15, pt_o a, pt_o a, mg_o (by omega), pt_o a]
  have q15j : ∀ j, j ≠ 6 → j ≠ 9 → j ≠ 12 → t15 0 j = t 0 j := fun j a b c => by rw [← ht15, pt_r c, pt_r b, mg_o (by omega), pt_r a]
  have w15 : ∀ i, i < 12584 → t15 3 i = bgv i := fun i hi => by
    rw [← ht15, pt_oo (by decide), pt_oo (by decide), mg_i (by omega) (by omega)]
    exact hr5 i hi
  have m15 : MTx t15 ch L := ⟨b2, by rw [q15j 8 (by decide) (by decide) (by decide)]; exact b3, fun j hj => by rw [q15 7 (by decide) (by decide)]; exact b4 j hj⟩
  -- the class's reader
  unfold fX3_readText
  have eL : (if (500 : Int32) < s 0 1 then (500 : Int32) else s 0 1) = nI L := by
    rw [b1, if_neg (show ¬ (500 : Int32) < nI L from nI_nlt (a := 500) b2 (by omega))]
  rw [bd_e, bd_e, bd_e, bd_e, bd_e, bd_e, eL]
  generalize hs21 : pt_ (pt_ (pt_ (pt_ (pt_ (pt_ (sb_ s 1) 1 1 1) 1 2 (nI L)) 1 3 0) 1 4 0) 1 5 0) 1 6 0 = s21
  have p21 : ∀ o, o ≠ 1 → s21 o = s (1 + o) := fun o ho => by rw [← hs21]; simp (disch := omega) only [pt_o]; rfl
  have p21a : s21 1 1 = 1 ∧ s21 1 2 = nI L ∧ s21 1 3 = 0 ∧ s21 1 5 = 0 := by
    rw [← hs21]
    refine ⟨?_, ?_, ?_, ?_⟩ <;> simp (disch := omega) only [pt_a, pt_rr]
  obtain ⟨S, eS, hS, -, -⟩ := default_p (S := sb_ s21 2) w15
  rw [bn_e eS, bd_e]
  generalize hs29 : mg_ s21 2 4 S = s29
  have p29 : ∀ o, o < 2 → s29 o = s21 o := fun o ho => by rw [← hs29, mg_o (by omega)]
  have hd29 : ∀ o, o < 4 → sb_ s29 2 o = S o := fun o ho => by rw [← hs29]; exact put2 ho
  have hC29 : CTx s29 ch L := by
    refine ⟨b2, by rw [p29 1 (by omega)]; exact p21a.1, by rw [p29 1 (by omega)]; exact p21a.2.1, fun j hj => ?_⟩
    rw [p29 0 (by omega), p21 0 (by decide)]
    exact b5 j hj
  have hF29 : ∀ C, FD 2 (sb_ s29 2) (t15 3) C 0 0 := fun C => by
    obtain ⟨f1, f2, f3, f4, f5, f6⟩ := hS C
    unfold FD
    rw [hd29 0 (by omega), hd29 1 (by omega), hd29 2 (by omega), hd29 3 (by omega)]
    exact ⟨f1, f2, f3, f4, f5, f6⟩
  have hB29 : BJ s29 t15 ch L 0 := ⟨hC29, m15, Nat.zero_le _, by rw [p29 1 (by omega)]; exact p21a.2.2.1, by rw [← ht15, pt_r (by decide), pt_a]; rfl, by rw [p29 1 (by omega)]; exact p21a.2.2.2, by rw [← ht15, pt_a]⟩
  -- both read
  have read : ∃ d t2 y C, bn_ (fX3_readDrive s29) (fun r31 => bn_ (fX3_readText_l48 FU_ ((0 : Int32), r31)) fX3_readText_k48) = fX3_readText_k48 d ∧ fX8_readsAll t15 = some (t2, y) ∧ TO d t2 ch L C y ∧ MF t15 t2 := by
    obtain ⟨s31, e31, h31⟩ := drive_p hB29 hF29
    rw [bn_e e31]
    rcases h31 with ⟨t1, p1, C, m1, m2, m3, m4⟩ | ⟨t1, m1, m2, m3⟩
    · obtain ⟨d, t2, y, l1, l2, l3, l4⟩ := loop_p (i := 0) m2 (by omega)
      rw [bn_e (show fX3_readText_l48 FU_ ((0 : Int32), s31) = _ from l1), m1, l2]
      exact ⟨d, t2, y, C, rfl, rfl, l3, m4.tr l4⟩
    · obtain ⟨z, ez, c1, c2, c3⟩ := m2.1.more
      have el : fX3_readText_l48 FU_ ((0 : Int32), s31) = some z := by
        suffices hh : wp_ (fX3_readText_l48 FU_ ((0 : Int32), s31)) (fun v => v = z) by
          obtain ⟨v, ev, rfl⟩ := hh
          exact ev
        unfold fX3_readText_l48
        refine wp_lo (fun k v => v = ((0 : Int32), s31)) FU_ 0 _ (Nat.le_of_ble_eq_true rfl) rfl (fun k v _ hv => ?_)
        subst hv
        unfold fX3_readText_b48
        exact wp_if' (show ¬ (500 : Int32) ≤ (0 : Int32) by decide) (wp_bne ez (wp_it rfl (wp_r rfl)))
      rw [bn_e el, m1]
      exact ⟨z, t1, 0, 0, rfl, rfl, Or.inr ⟨rfl, c1, by rw [c2]; exact m2.2.1, by rw [c3]; exact m2.2.2⟩, m3⟩
  obtain ⟨d, t2, y, C, rd1, rd2, hT, hm2⟩ := read
  rw [rd1, bn_e rd2]
  have t24 : ∀ o, o ≠ 0 → o ≠ 3 → t2 o = t o := fun o a b => (hm2.1 o a b).trans (q15 o a b)
  unfold fX3_readText_k48 fX3_readText_x48_72
  rw [bd_e, bd_e, pt_r (show (12 : Nat) ≠ 8 by decide)]
  have BU0 : ∀ s' t' : st_, s' 0 1 = 0 → t' 0 8 = 0 → BU s' t' := fun s' t' h1 h2 => ⟨fun _ => 0, 0, h1, ⟨by omega, h2, fun j hj => absurd hj (by omega)⟩, fun j hj => absurd hj (by omega)⟩
  generalize ht27 : pt_ (pt_ t2 0 8 0) 0 13 (t2 0 12) = t27
  have t27o : ∀ o, o ≠ 0 → t27 o = t2 o := fun o ho => by rw [← ht27, pt_o ho, pt_o ho]
  have t278 : t27 0 8 = 0 := by rw [← ht27, pt_r (by decide), pt_a]
  have t2713 : t27 0 13 = t2 0 12 := by rw [← ht27, pt_a]
  have t2711 : t27 0 11 = t2 0 11 := by rw [← ht27, pt_r (by decide), pt_r (by decide)]
  rcases hT with ⟨rfl, h5, h12, R, K, hF⟩ | ⟨rfl, hE⟩
  · -- no error
    obtain ⟨r31, e31, k1, k2⟩ := cop_w (t := t27) (a := 3) (b := 1) (by decide)
    have hF2 : FD 0 (sb_ d 2) ((mg_ t27 1 1 r31) 1) C R K := hF.wx (fun i hi => by rw [k1 i hi, t27o 3 (by decide)])
    obtain ⟨S', u', R', c1, c2, c3, c4⟩ := complete_p (u := sb_ (mg_ t27 1 1 r31) 1) hF2 rfl
    generalize hs11 : pt_ (pt_ (mg_ s 1 7 (mg_ d 2 4 S')) 0 1 0) 0 2 ((pt_ (mg_ s 1 7 (mg_ d 2 4 S')) 0 1 0) 2 5) = s11
    obtain ⟨x1, x2, x3, x4, x5, x6⟩ := load_c hs11.symm
    have hFC : FC (sb_ s11 3) (u' 0) C R' K := c3.ext x6
    obtain ⟨g', eg, hg⟩ := gameBegin_w (g := sb_ s11 8) hFC (fun m hm => by
      show s11 (8 + (34 + (m + 2))) 0 = 0
      have e : 8 + (34 + (m + 2)) = 42 + (m + 2) := by omega
      rw [e, x1 _ (by omega)]
      exact hz m hm)
    rw [bn_e c1, bd_e, bn_s, bd_e, bd_e, bd_e, hs11, if_pos (x4.trans h5), bn_e eg, bd_e, if_neg (show ¬ (1 : Int32) = 0 by decide), bn_e e31, bd_e, bn_e c2, bd_e, gd_t b4_, i4_]
    have ew : (mg_ (mg_ t27 1 1 r31) 1 1 u') 1 = u' 0 := by rw [mg_i (by omega) (by omega)]
    obtain ⟨g1, g2⟩ := GK.gh (s := s11) (t := mg_ (mg_ t27 1 1 r31) 1 1 u') (g := g') (by rw [ew]; exact hg)
    obtain ⟨C', R'', n', T', hH⟩ := id g1
    have ev : (mg_ s11 8 75 g') 10 4 = (mg_ (mg_ t27 1 1 r31) 1 1 u') 1 4 := hH.1.1.1.2.2.2.2.2.2.1.trans hH.1.1.1.2.2.2.2.2.2.2.1.symm
    rw [ev]
    refine ⟨_, _, _, rfl, rfl, ⟨g1, g2, BU0 _ _ ?_ ?_, ?_⟩, fun o a b => ?_⟩
    · rw [mg_o (by omega)]; exact x2
    · rw [mg_o (by omega), mg_o (by omega)]; exact t278
    · rw [mg_o (by omega), mg_o (by omega), mg_o (by omega), x3, t2713, h5, h12]
    · rw [mg_o (by omega), mg_o (by omega), t27o o (by omega), t24 o (by omega) (by omega)]
  · -- an error
    obtain ⟨S', c1⟩ : ∃ S', fX5_completeRules (sb_ d 2) = some S' := by
      unfold fX5_completeRules
      by_cases h0 : sb_ d 2 0 4 = 0
      · rw [if_pos h0, bn_e (putRule_e (R := 0) h0 (by omega))]
        exact ⟨_, rfl⟩
      · rw [if_neg h0]
        exact ⟨_, rfl⟩
    generalize hs11 : pt_ (pt_ (mg_ s 1 7 (mg_ d 2 4 S')) 0 1 0) 0 2 ((pt_ (mg_ s 1 7 (mg_ d 2 4 S')) 0 1 0) 2 5) = s11
    obtain ⟨x1, x2, x3, x4, x5, x6⟩ := load_c hs11.symm
    rw [bn_e c1, bd_e, bn_s, bd_e, bd_e, bd_e, hs11, if_neg (show ¬ s11 2 5 = 0 from fun z => hE.1.2.2 (x4.symm.trans z)), if_pos rfl, x5, t2711, hE.2.2]
    obtain ⟨C', R'', n', T', hH⟩ := hG
    refine ⟨_, _, _, rfl, rfl, ⟨⟨C', R'', n', T', hH.ci (fun o a _ _ _ => x1 o (by omega)) (fun j hj => by rw [t27o 1 (by decide), t24 1 (by decide) (by decide)])⟩, fun m hm => ?_, BU0 _ _ x2 t278, ?_⟩, fun o a b => ?_⟩
    · rw [sb_ap, x1 _ (by omega)]
      exact hz m hm
    · rw [x3, t2713]
      exact hE.2.1.symm
    · rw [t27o o (by omega), t24 o (by omega) (by omega)]
end LOAD
