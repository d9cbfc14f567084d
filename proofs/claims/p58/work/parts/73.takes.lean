/-! words and numbers, as the model reads them -/
section TAKES
variable {s s' t : st_} {ch : Nat → Nat} {L p q e w : Nat} {lo hi : Int32}
theorem tq_i (h : p ≤ L) : tq ch L (tq ch L p) = tq ch L p := rE_ii h
theorem te_i (h : p ≤ L) : te ch L (tq ch L p) = te ch L p := by
  unfold te
  show rE (ltb ch) L (tq ch L (tq ch L p)) = _
  rw [tq_i h]
  rfl
theorem tq_L (h : p ≤ L) : p ≤ tq ch L p ∧ tq ch L p ≤ L := ⟨(rE_s h).1, (rE_s h).2.1⟩
theorem te_L (h : p ≤ L) : tq ch L p ≤ te ch L p ∧ te ch L p ≤ L := ⟨(rE_s (tq_L h).2).1, (rE_s (tq_L h).2).2.1⟩
theorem ne_L (h : p ≤ L) : tq ch L p ≤ ne_ ch L p ∧ ne_ ch L p ≤ L := ⟨(rE_s (tq_L h).2).1, (rE_s (tq_L h).2).2.1⟩
theorem takes_w (h : MTx t ch L) (hw : w < 37) (hp : t 0 9 = nI p) (hpL : p ≤ L) : (TK ch (tq ch L p) (te ch L p) (sb_y w) → fX8_takes t w = some (sq t (tq ch L p) (te ch L p), 1)) ∧ (¬ TK ch (tq ch L p) (te ch L p) (sb_y w) → fX8_takes t w = some (sq t (tq ch L p) (tq ch L p), 0)) := by
  have hL := h.1
  have hqL := (tq_L (ch := ch) hpL).2
  have hlen := sx_lens w hw
  have hsw : sw_ w = true := Nat.ble_eq_true_of_le hw
  have esl : sl_ w = nI (sb_y w).length := rfl
  obtain ⟨e1, e2, e3, e4⟩ := rE_s (f := ltb ch) hqL
  have hee : te ch L p = rE (ltb ch) L (tq ch L p) := rfl
  have hsee := see_e h hp hpL
  generalize tq ch L p = q at hqL e1 e2 e3 e4 hee hsee
  rw [← hee] at e1 e2 e3 e4
  generalize te ch L p = e at hee e1 e2 e3 e4
  have hM : MTx (sq t q q) ch L := h.sq
  -- the end of the letters
  have hl10 : fX8_takes_l10 (sq t q q, byt ch L q) FU_ (nI q) = some (nI e) := by
    suffices hh : wp_ (fX8_takes_l10 (sq t q q, byt ch L q) FU_ (nI q)) (fun x => x = nI e) by
      obtain ⟨x, ex, rfl⟩ := hh
      exact ex
    unfold fX8_takes_l10
    refine wp_up (fun k v => v = nI k) q e e1 (by omega) rfl (fun k v hk hk0 hv => ?_) (fun v hv => ?_)
    · subst hv
      unfold fX8_takes_b10
      refine wp_bne (letter_e hM (by omega)) (wp_if' (by rw [if_pos ⟨by omega, e3 k hk0 hk⟩]; decide) (wp_l (nI_1 k)))
    · subst hv
      unfold fX8_takes_b10
      refine wp_bne (letter_e hM (by omega)) (wp_it (if_neg (fun z => ?_)) (wp_r rfl))
      rw [e4 z.1] at z
      exact absurd z.2 (by decide)
  -- the comparison
  have h46 : ∀ z0 : Int32, (z0 = 1 ∧ e - q = (sb_y w).length) ∨ (z0 = 0 ∧ e - q ≠ (sb_y w).length) → wp_ (fX8_takes_l46 w (sq t q q, byt ch L q) (nI e) FU_ (z0, (0 : Int32))) (fun x => (x = 1 ∧ TK ch q e (sb_y w)) ∨ (x = 0 ∧ ¬ TK ch q e (sb_y w))) := fun z0 hz => by
    unfold fX8_takes_l46
    rcases hz with ⟨rfl, hz⟩ | ⟨rfl, hz⟩
    · refine wp_lo (fun n v => ∃ k, k + n = e - q + 1 ∧ v.2 = nI k ∧ k ≤ e - q ∧ ((v.1 = 1 ∧ ∀ i, i < k → (sb_y w).getD i 0 = nI (ch (q + i))) ∨ (v.1 = 0 ∧ ¬ TK ch q e (sb_y w)))) FU_ (e - q + 1) _ (Nat.lt_of_lt_of_le (show e - q + 1 < 1000 by omega) (Nat.le_of_ble_eq_true rfl)) ⟨0, by omega, rfl, by omega, Or.inl ⟨rfl, fun i hi => absurd hi (by omega)⟩⟩ (fun n v _ hv => ?_)
      obtain ⟨v1, v2⟩ := v
      obtain ⟨k, hkn, ek, hke, hv⟩ := hv
      dsimp only at ek hv
      subst ek
      unfold fX8_takes_b46 fX8_takes_j86
      dsimp only
      rcases hv with ⟨rfl, hv⟩ | ⟨rfl, hv⟩
      · refine wp_if' (by decide) ?_
        simp only [sq_q, nI_add]
        by_cases hk : k < e - q
        · have ec : sch_ w (nI k) = (sb_y w).getD k 0 := by
            unfold sch_
            rw [ix_n (by omega)]
          refine wp_if' (nI_ge (by omega) (by omega)) (wp_bne (byteAt_t hM (by omega)) (wp_gd hsw (wp_gd (ib_n (by omega) (by omega)) ?_)))
          rw [ec]
          refine wp_if (fun hc => wp_l ⟨n - 1, by omega, k + 1, by omega, nI_1 k, by omega, Or.inl ⟨rfl, fun i hi => ?_⟩⟩) (fun hc => wp_l ⟨n - 1, by omega, k + 1, by omega, nI_1 k, by omega, Or.inr ⟨rfl, fun z => hc (z.2 k (by omega)).symm⟩⟩)
          by_cases hik : i = k
          · rw [hik]; exact hc.symm
          · exact hv i (by omega)
        · refine wp_it (nI_le (by omega) (by omega)) (wp_r (Or.inl ⟨rfl, hz, fun i hi => hv i (by omega)⟩))
      · exact wp_it rfl (wp_r (Or.inr ⟨rfl, hv⟩))
    · refine wp_lo (fun n v => v.1 = 0) FU_ 0 _ (Nat.le_of_ble_eq_true rfl) rfl (fun n v _ hv => ?_)
      obtain ⟨v1, v2⟩ := v
      dsimp only at hv
      subst hv
      unfold fX8_takes_b46
      dsimp only
      exact wp_it rfl (wp_r (Or.inr ⟨rfl, fun z => hz z.1⟩))
  have key : wp_ (fX8_takes t w) (fun x => (x = (sq t q e, 1) ∧ TK ch q e (sb_y w)) ∨ (x = (sq t q q, 0) ∧ ¬ TK ch q e (sb_y w))) := by
    have fin : ∀ x : Int32, (x = 1 ∧ TK ch q e (sb_y w)) ∨ (x = 0 ∧ ¬ TK ch q e (sb_y w)) → wp_ (fX8_takes_k46 (sq t q q, byt ch L q) (nI e) x) (fun x => (x = (sq t q e, 1) ∧ TK ch q e (sb_y w)) ∨ (x = (sq t q q, 0) ∧ ¬ TK ch q e (sb_y w))) := fun x hx => by
      unfold fX8_takes_k46 fX8_takes_x46_93 fX8_takes_j106
      dsimp only
      rcases hx with ⟨rfl, hx⟩ | ⟨rfl, hx⟩
      · refine wp_if' (by decide) (wp_bd (wp_gd (by decide) (wp_s (Or.inl ⟨?_, hx⟩))))
        rw [sq_9]
      · refine wp_it rfl (wp_bd (wp_gd (by decide) (wp_s (Or.inr ⟨?_, hx⟩))))
        rw [sq_p, sq_9]
    unfold fX8_takes
    refine wp_bne hsee ?_
    dsimp only
    rw [sq_q]
    refine wp_bne hl10 ?_
    unfold fX8_takes_k10 fX8_takes_x10_24 fX8_takes_j42
    dsimp only
    simp only [sq_q, esl, pk_sub e1]
    refine wp_gd hsw (wp_if (fun hc => ?_) (fun hc => ?_))
    · exact wp_bn (h46 1 (Or.inl ⟨rfl, (nI_eq (by omega) (by omega)).mp hc⟩)) (fun x hx => fin x hx)
    · exact wp_bn (h46 0 (Or.inr ⟨rfl, fun z => hc (by rw [z])⟩)) (fun x hx => fin x hx)
  obtain ⟨x, ex, hx⟩ := key
  refine ⟨fun hT => ?_, fun hT => ?_⟩
  · rcases hx with ⟨rfl, _⟩ | ⟨_, hx⟩
    · exact ex
    · exact absurd hT hx
  · rcases hx with ⟨_, hx⟩ | ⟨rfl, _⟩
    · exact absurd hx hT
    · exact ex
/-- behind the end of a token the model has failed -/
def fl_ (t : st_) (c : Int32) (q : Nat) : st_ := pt_ (pt_ t 0 12 c) 0 11 (nI q)
/-- a number, noted at a place -/
def nt_ (t : st_) (pl : Nat) (x : Int32) : st_ := pt_ (pt_ t 0 14 x) 3 pl x
theorem digits_e (h : MTx t ch L) (hp : t 0 9 = nI q) (hqL : q ≤ L) : fX8_digits t = some (pt_ t 0 9 (nI (rE (dgb ch) L q)), nI (cap 100000000 (dv ch q (rE (dgb ch) L q - q)))) := by
  have hL := h.1
  obtain ⟨e1, e2, e3, e4⟩ := rE_s (f := dgb ch) hqL
  generalize rE (dgb ch) L q = e at e1 e2 e3 e4
  unfold fX8_digits fX8_digits_l2
  have hl : wp_ (it_ (fun v => fX8_digits_b2 v.1 v.2) FU_ ((0 : Int64), t)) (fun x => x = (lN (cap 100000000 (dv ch q (e - q))), pt_ t 0 9 (nI e))) := by
    refine wp_up (fun k v => v = (lN (cap 100000000 (dv ch q (k - q))), pt_ t 0 9 (nI k))) q e e1 (by omega) ?_ (fun k v hk hk0 hv => ?_) (fun v hv => ?_)
    · rw [Nat.sub_self, pt_id hp]
      rfl
    · subst hv
      have hdg := of_decide_eq_true (e3 k hk0 hk)
      have hcm := cap_le (M := 100000000) (v := dv ch q (k - q))
      have ev : (10 : Int64) * lN (cap 100000000 (dv ch q (k - q))) + Int32.toInt64 (nI (ch k)) - (48 : Int64) = lN (10 * cap 100000000 (dv ch q (k - q)) + (ch k - 48)) := by
        rw [nI_l (by omega)]
        show lN 10 * lN (cap 100000000 (dv ch q (k - q))) + lN (ch k) - lN 48 = _
        rw [lN_mul, lN_add, lN_sub (by omega)]
        congr 1
        omega
      have ek : k + 1 - q = (k - q) + 1 := by omega
      have edv : dv ch q (k + 1 - q) = 10 * dv ch q (k - q) + (ch k - 48) := by
        rw [ek]
        show 10 * dv ch q (k - q) + (ch (q + (k - q)) - 48) = _
        rw [Nat.add_sub_cancel' hk0]
      unfold fX8_digits_b2
      dsimp only
      rw [pt_a]
      refine wp_bne (digit_e h.p9 (by omega)) (wp_if' (by rw [if_pos ⟨by omega, e3 k hk0 hk⟩]; decide) (wp_bne (byteAt_t h.p9 (by omega)) (wp_bd (wp_l ?_))))
      rw [pt_pt, nI_1, ev, edv, ← cap_s' (by omega)]
      congr 1
      by_cases hc : 10 * cap 100000000 (dv ch q (k - q)) + (ch k - 48) < 100000000
      · rw [if_pos (show lN _ < (100000000 : Int64) from (lN_lt (b := 100000000) (by omega) (by omega)).mpr hc), if_pos hc]
      · rw [if_neg (show ¬ lN _ < (100000000 : Int64) from fun z => hc ((lN_lt (b := 100000000) (by omega) (by omega)).mp z)), if_neg hc]
        rfl
    · subst hv
      unfold fX8_digits_b2
      dsimp only
      rw [pt_a]
      refine wp_bne (digit_e h.p9 (by omega)) (wp_it (if_neg (fun z => ?_)) (wp_r rfl))
      rw [e4 z.1] at z
      exact absurd z.2 (by decide)
  obtain ⟨x, ex, rfl⟩ := hl
  rw [bn_e ex]
  unfold fX8_digits_k2 fX8_digits_x2_52
  dsimp only
  rw [lN_i]
theorem MTx.n3 (h : MTx t ch L) {o j : Nat} {v : Int32} (ho : o ≠ 7) (hj : ¬ (o = 0 ∧ j = 8)) : MTx (pt_ t o j v) ch L := by
  obtain ⟨a, b, c⟩ := h
  refine ⟨a, ?_, fun j hj => by rw [pt_o (fun z => ho z.symm)]; exact c j hj⟩
  rw [pt_ap]
  by_cases h0 : 0 = o
  · rw [if_pos h0]
    by_cases h8 : 8 = j
    · exact absurd ⟨h0.symm, h8.symm⟩ hj
    · rw [if_neg h8]
      exact b
  · rw [if_neg h0]
    exact b
theorem into_w (h : MTx t ch L) (hp : t 0 9 = nI p) (hpL : p ≤ L) (h12 : t 0 12 = 0) {pl : Nat} (hpl : pl < 12584) : (ne_ ch L p = tq ch L p → fX8_into t (nI pl) lo hi = some (fl_ (sq t (tq ch L p) (tq ch L p)) 1 (tq ch L p), 0)) ∧ (ne_ ch L p ≠ tq ch L p → ∀ x, x = nI (cap 100000000 (dv ch (tq ch L p) (ne_ ch L p - tq ch L p))) → (lo ≤ x ∧ x ≤ hi → fX8_into t (nI pl) lo hi = some (nt_ (sq t (tq ch L p) (ne_ ch L p)) pl x, 1)) ∧ (¬ (lo ≤ x ∧ x ≤ hi) → fX8_into t (nI pl) lo hi = some (fl_ (nt_ (sq t (tq ch L p) (ne_ ch L p)) pl x) 2 (tq ch L p), 0))) := by
  have hL := h.1
  have hqL := (tq_L (ch := ch) hpL).2
  have hsee := see_e h hp hpL
  have hee : ne_ ch L p = rE (dgb ch) L (tq ch L p) := rfl
  obtain ⟨e1, e2, e3, e4⟩ := rE_s (f := dgb ch) hqL
  have hdig := digits_e (h.sq (q := tq ch L p) (p := tq ch L p)) sq_p hqL
  rw [← hee] at e1 e2 e3 e4 hdig
  generalize tq ch L p = q at hqL hsee hee e1 e2 e3 e4 hdig
  generalize ne_ ch L p = e at hee e1 e2 e3 e4 hdig
  have hM : MTx (sq t q q) ch L := h.sq
  have hz : (sq t q q) 0 12 = 0 := by rw [sq_j (by decide) (by decide)]; exact h12
  unfold fX8_into
  rw [bn_e hsee]
  dsimp only
  rw [sq_p, bn_e (digit_e hM (by omega))]
  refine ⟨fun heq => ?_, fun hne x hx => ⟨fun hin => ?_, fun hin => ?_⟩⟩
  · have hnd : ¬ (q < L ∧ dgb ch q = true) := fun z => by
      rw [heq] at e4
      rw [e4 z.1] at z
      exact absurd z.2 (by decide)
    rw [if_neg hnd, if_pos rfl, bn_e fails_e, if_pos hz, sq_q]
    rfl
  · have hd : q < L ∧ dgb ch q = true := ⟨by omega, e3 q (by omega) (by omega)⟩
    have e14 : (pt_ (pt_ (sq t q e) 0 14 x) 3 pl x) 0 14 = x := by rw [pt_oo (by decide), pt_a]
    rw [if_pos hd, if_neg (show ¬ (1 : Int32) = 0 by decide), bn_e hdig]
    dsimp only
    rw [sq_9, ← hx, bd_e, gd_t (ib_n hpl (by omega)), pt_a, bd_e, ix_n (by omega), e14, bn_e (in_t hin), if_neg (show ¬ (1 : Int32) = 0 by decide)]
    rfl
  · have hd : q < L ∧ dgb ch q = true := ⟨by omega, e3 q (by omega) (by omega)⟩
    have e14 : (pt_ (pt_ (sq t q e) 0 14 x) 3 pl x) 0 14 = x := by rw [pt_oo (by decide), pt_a]
    have e12 : (pt_ (pt_ (sq t q e) 0 14 x) 3 pl x) 0 12 = 0 := by rw [pt_oo (by decide), pt_r (by decide), sq_j (by decide) (by decide), h12]
    have e10 : (pt_ (pt_ (sq t q e) 0 14 x) 3 pl x) 0 10 = nI q := by rw [pt_oo (by decide), pt_r (by decide), sq_q]
    rw [if_pos hd, if_neg (show ¬ (1 : Int32) = 0 by decide), bn_e hdig]
    dsimp only
    rw [sq_9, ← hx, bd_e, gd_t (ib_n hpl (by omega)), pt_a, bd_e, ix_n (by omega), e14, bn_e (in_f hin), if_pos rfl, bn_e fails_e, if_pos e12, e10]
    rfl
end TAKES
