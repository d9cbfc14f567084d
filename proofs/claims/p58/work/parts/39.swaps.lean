/-! what all rules would cost is noted; one arm serves, of both -/
section SWAPS
variable {d t : st_} {C R n r9 T : Nat}
def cby (d : st_) (o : Nat) : Int32 := (fX0_costBy (sb_ d 5) (sb_ d 1) (nI o)).getD 0
theorem cby_e (h : DD d (t 1) C R n) {o : Nat} (ho : o < R) {s : st_} (hs : ∀ i, i < 12548 → s 1 i = t 1 i) : ∃ tu, fX0_costBy (sb_ d 5) (sb_ d 1) (nI o) = some (cby d o) ∧ fX8_wouldCost s (6 : Int32) (nI o) = some (pt_ s 0 15 tu, cby d o) := by
  have hb := ab_b (show 6 < 8 by omega)
  have hI := h.2.2.2.1
  obtain ⟨x, tu, e1, e2⟩ := costBy_p (t := s) (h.2.2.1.of hI.2.2.2.2.1 (fun i _ _ => hs i (by omega))) (hI.of (fun i _ _ => hs i (by omega))) (h.1.1.of (fun _ _ => rfl) (fun i hi => hs i (by unfold sI_ at hi; omega))) ho
  have e : cby d o = x := by
    unfold cby
    rw [e1]
    rfl
  rw [e]
  exact ⟨tu, e1, e2⟩
theorem swaps_w (h : DD d (t 1) C R n) (h9 : r9 < R) : wp_ (fX8_round_l79 (nI r9) FU_ ((0 : Int32), t)) (fun t' => mo_ t t' ∧ ∀ i, t' 1 i = if 12548 + 6 * r9 ≤ i ∧ i < 12548 + 6 * r9 + R then t 1 i + cby d (i - (12548 + 6 * r9)) else t 1 i) := by
  have hR6 := h.rb.1.2.1
  have hR4 : t 1 4 = nI R := h.rb.1.2.2.2
  refine wp_up (fun k v => v.1 = nI k ∧ mo_ t v.2 ∧ ∀ i, v.2 1 i = if 12548 + 6 * r9 ≤ i ∧ i < 12548 + 6 * r9 + k then t 1 i + cby d (i - (12548 + 6 * r9)) else t 1 i) 0 R (Nat.zero_le _) (by omega) ⟨rfl, mo_r, fun i => by dsimp only; rw [if_neg (by omega)]⟩ (fun k v hk _ hv => ?_) (fun v hv => ?_)
  · obtain ⟨v4, s⟩ := v
    obtain ⟨e, hmo, hs⟩ := hv
    dsimp only at e hmo hs
    subst e
    have q4 : s 1 4 = nI R := by rw [hs, if_neg (by omega), hR4]
    obtain ⟨tu, e1, e2⟩ := cby_e h hk (s := s) (fun i hi => by rw [hs, if_neg (by omega)])
    have e84 : fX8_swapAt (nI r9) (nI k) = some (nI (12548 + 6 * r9 + k)) := by
      show some (nI 12548 + nI 6 * nI r9 + nI k) = _
      rw [pk_mul, nI_add, nI_add]
    have y : ix_ (nI (12548 + 6 * r9 + k)) = 12548 + 6 * r9 + k := ix_n (by omega)
    have g : ib_ (nI (12548 + 6 * r9 + k)) 12584 = true := ib_n (by omega) (by omega)
    have qs : s 1 (12548 + 6 * r9 + k) = t 1 (12548 + 6 * r9 + k) := by rw [hs, if_neg (by omega)]
    unfold fX8_round_b79
    simp only [i4_, q4]
    refine wp_gd b4_ (wp_if' (nI_ge hk (by omega)) (wp_bne e84 (wp_gd g (wp_bne e2 (wp_gd g (wp_bd (wp_l ⟨nI_1 k, (hmo.tr mo_p15).tr mo_p1, fun i => ?_⟩)))))))
    simp only [y, qs]
    by_cases hi : i = 12548 + 6 * r9 + k
    · subst hi
      rw [pt_a, if_pos (by omega)]
      congr 2
      omega
    · rw [pt_r hi, pt_oo (by decide), hs]
      by_cases hc : 12548 + 6 * r9 ≤ i ∧ i < 12548 + 6 * r9 + k
      · rw [if_pos hc, if_pos (by omega)]
      · rw [if_neg hc, if_neg (by omega)]
  · obtain ⟨v4, s⟩ := v
    obtain ⟨e, hmo, hs⟩ := hv
    dsimp only at e hmo hs
    subst e
    have q4 : s 1 4 = nI R := by rw [hs, if_neg (by omega), hR4]
    unfold fX8_round_b79
    simp only [i4_, q4]
    exact wp_gd b4_ (wp_it (Int32.le_refl _) (wp_r ⟨hmo, hs⟩))
theorem adds_e {t : st_} {r j : Nat} {v : Int32} (hr : r < 6) (hj : j < 5) : fX8_adds t (nI r) (nI j) v = some (pt_ t 1 (26 + 5 * r + j) (t 1 (26 + 5 * r + j) + v)) := by
  have x : (26 : Int32) + (5 : Int32) * nI r + nI j = nI (26 + 5 * r + j) := by
    show nI 26 + nI 5 * nI r + nI j = _
    rw [pk_mul, nI_add, nI_add]
  unfold fX8_adds
  rw [x, gd_t (ib_n (by omega) (by omega)), gd_t (ib_n (by omega) (by omega)), ix_n (by omega)]
  rfl
end SWAPS
section SERVEQ
variable {a S t u : st_} {C R n m r T : Nat} {mk : Int32}
theorem serve_q (hA : AR a (t 1) m n) (hI : AI (t 1) m n C) (hS : RS S (t 1) C R) (hr : r < R) (hmk : mk = t 1 16) : ∃ a' z, fX0_serve a S (nI r) mk = some a' ∧ fX8_serves t (nI m) (nI r) = some z ∧ SPo t a' z m n C r ∧ a' 0 5 = a 0 5 + a' 0 9 := by
  subst hmk
  obtain ⟨a', z, e1, e2, h⟩ := serve_p hA hI hS hr
  refine ⟨a', z, e1, e2, h, ?_⟩
  obtain ⟨hC2, hC, hS0, hw0, hR1, hR6, hS4, hw4, hS2, hS3, hw2, hw3, hk⟩ := hS
  obtain ⟨hkd, hwd, hkr⟩ := hk r hr
  obtain ⟨kind, _, hk4, hke⟩ := hkr.ex
  obtain ⟨a1, e3, ha⟩ := serve_w (mk := t 1 16) (wd := S 2 r) (hA.ac hI hC hC2) hS4 hr hR6 (hkd.trans hke) hk4 rfl
  have e := Option.some.inj (e1.symm.trans e3)
  subst e
  rcases ha with ⟨_, ea'⟩ | ⟨k, _, hSA⟩
  · have b9 : a' 0 9 = 0 := by rw [ea']; simp (disch := omega) only [pt_a, pt_rr]
    have b5 : a' 0 5 = a 0 5 := by rw [ea']; simp (disch := omega) only [pt_a, pt_rr]
    rw [b9, b5, Int32.add_zero]
  · obtain ⟨-, -, -, s5, -, -, -, s9, -⟩ := hSA
    rw [s5, s9]
/-- the model's loop over the own arms, by what the class's came to -/
theorem ownm_w {A : Nat → st_} {B : Nat → st_} {t2 : st_} {rv : Int32} (hRS : ∀ r, r < R → AR (B r) (u 1) r n ∧ AI (u 1) r n C ∧ ∃ S a0, RS S (u 1) C R ∧ fX0_serve (B r) S (nI r) mk = some a0 ∧ ∀ q, q < 3 → A r q = a0 q) (hR4 : u 1 4 = nI R) (hR6 : R ≤ 6) (hmk : mk = u 1 16) (hT : t2 1 16 = nI T) (hT2 : T < 1200) : wp_ (fX8_round_l200 (t2, rv) FU_ ((0 : Int32), u)) (fun s => mo_ u s ∧ (∀ r, r < R → AR (A r) (s 1) r (n - 1) ∧ AI (s 1) r (n - 1) C ∧ s 1 (2948 + 1200 * r + T) = A r 0 9 ∧ rg_ (A r 0 9) 0 9900 ∧ A r 0 5 = B r 0 5 + A r 0 9) ∧ ∀ i, (i < 72 ∨ (72 + 47 * R ≤ i ∧ i < 2948) ∨ (2948 ≤ i ∧ (R ≤ (i - 2948) / 1200 ∨ (i - 2948) % 1200 ≠ T))) → s 1 i = u 1 i) := by
  refine wp_up (fun k v => v.1 = nI k ∧ mo_ u v.2 ∧ (∀ r, r < k → AR (A r) (v.2 1) r (n - 1) ∧ AI (v.2 1) r (n - 1) C ∧ v.2 1 (2948 + 1200 * r + T) = A r 0 9 ∧ rg_ (A r 0 9) 0 9900 ∧ A r 0 5 = B r 0 5 + A r 0 9) ∧ ∀ i, (i < 72 ∨ (72 + 47 * k ≤ i ∧ i < 2948) ∨ (2948 ≤ i ∧ (k ≤ (i - 2948) / 1200 ∨ (i - 2948) % 1200 ≠ T))) → v.2 1 i = u 1 i) 0 R (Nat.zero_le _) (by omega) ⟨rfl, mo_r, fun r hr => absurd hr (by omega), fun i hi => rfl⟩ (fun k v hk _ hv => ?_) (fun v hv => ?_)
  · obtain ⟨v4, s⟩ := v
    obtain ⟨e, hmo, hd, hs⟩ := hv
    dsimp only at e hmo hd hs
    subst e
    have q4 : s 1 4 = nI R := by rw [hs 4 (by omega), hR4]
    have q16 : s 1 16 = u 1 16 := hs 16 (by omega)
    have xc : (2948 : Int32) + (1200 : Int32) * nI k + nI T = nI (2948 + 1200 * k + T) := by
      show nI 2948 + nI 1200 * nI k + nI T = _
      rw [pk_mul, nI_add, nI_add]
    have yc : ix_ (nI (2948 + 1200 * k + T)) = 2948 + 1200 * k + T := ix_n (by omega)
    obtain ⟨hA, hI, S, a0, hS, e0, hq⟩ := hRS k hk
    have h20 := hI.2.2.2.2.1
    have hsk : ∀ i, ab_ k ≤ i → i < ab_ k + 47 → s 1 i = u 1 i := fun i h1 h2 => hs i (by unfold ab_ at h1 h2; omega)
    obtain ⟨a', z, e1, e2, hP, hpd⟩ := serve_q (t := s) (mk := mk) (hA.of h20 hsk) (hI.of hsk) (hS.of (fun _ _ => rfl) (fun i hi => hs i (by unfold sI_ at hi; omega))) hk (hmk.trans q16.symm)
    have e := Option.some.inj (e0.symm.trans e1)
    subst e
    obtain ⟨p1, p2, p3, p4, p5, p6⟩ := hP
    have hz : ∀ i, (i < ab_ k ∨ ab_ k + 47 ≤ i) → z.1 1 i = s 1 i := by
      rcases p6 with ⟨-, -, h⟩ | ⟨-, -, h⟩
      · intro i _; rw [h]
      · rcases h with ⟨-, h⟩ | ⟨h, -⟩
        · exact h
        · omega
    have eA0 : A k 0 = a0 0 := hq 0 (by omega)
    unfold fX8_round_b200
    simp only [i4_, q4, i16_, hT, xc, yc]
    refine wp_gd b4_ (wp_if' (nI_ge hk (by omega)) (wp_bne e2 (wp_gd (ib_n (by omega) (by omega)) (wp_bd (wp_l ⟨nI_1 k, (hmo.tr p1).tr mo_p1, fun r hr => ?_, fun i hi => ?_⟩)))))
    · dsimp only
      have hout : ∀ i, ab_ r ≤ i → i < ab_ r + 47 → pt_ z.1 1 (2948 + 1200 * k + T) z.2 1 i = z.1 1 i := fun i h1 h2 => pt_r (by unfold ab_ at h1 h2; omega)
      by_cases hrk : r = k
      · subst hrk
        refine ⟨(p2.ext hq).of (by omega) hout, p3.of hout, ?_, ?_, ?_⟩
        · rw [pt_a, eA0, p4]
        · rw [eA0, p4]; exact p5
        · rw [eA0]; exact hpd
      · obtain ⟨b1, b2, b3, b4, b5⟩ := hd r (by omega)
        have hz2 : ∀ i, ab_ r ≤ i → i < ab_ r + 47 → pt_ z.1 1 (2948 + 1200 * k + T) z.2 1 i = s 1 i := fun i h1 h2 => by
          rw [hout i h1 h2, hz i (by unfold ab_ at *; omega)]
        refine ⟨b1.of (by omega) hz2, b2.of hz2, ?_, b4, b5⟩
        rw [pt_r (by omega), hz _ (by unfold ab_; omega), b3]
    · dsimp only
      rw [pt_r (by omega), hz i (by unfold ab_; omega), hs i (by omega)]
  · obtain ⟨v4, s⟩ := v
    obtain ⟨e, hmo, hd, hs⟩ := hv
    dsimp only at e hmo hd hs
    subst e
    have q4 : s 1 4 = nI R := by rw [hs 4 (by omega), hR4]
    unfold fX8_round_b200
    simp only [i4_, q4]
    exact wp_gd b4_ (wp_it (Int32.le_refl _) (wp_r ⟨hmo, hd, hs⟩))
end SERVEQ
