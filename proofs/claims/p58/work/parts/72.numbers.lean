/-! numbers, as the class reads them; words and numbers, as the model does -/
def cap (M v : Nat) : Nat := if M < v then M else v
theorem cap_s {M d x : Nat} (hM : 0 < M) : (if M < 10 * cap M d + x then M else 10 * cap M d + x) = cap M (10 * d + x) := by
  unfold cap
  by_cases h : M < d
  · rw [if_pos h, if_pos (show M < 10 * d + x by omega), if_pos (show M < 10 * M + x by omega)]
  · rw [if_neg h]
theorem cap_s' {M d x : Nat} (hM : 0 < M) : (if 10 * cap M d + x < M then 10 * cap M d + x else M) = cap M (10 * d + x) := by
  unfold cap
  by_cases h : M < d
  · rw [if_pos h, if_pos (show M < 10 * d + x by omega), if_neg (show ¬ 10 * M + x < M by omega)]
  · rw [if_neg h]
    by_cases h2 : 10 * d + x < M
    · rw [if_pos h2, if_neg (by omega)]
    · rw [if_neg h2]
      by_cases h3 : M < 10 * d + x
      · rw [if_pos h3]
      · rw [if_neg h3]
        omega
theorem cap_le {M v : Nat} : cap M v ≤ M := by
  unfold cap
  split <;> omega
/-- both caps lie beyond all ranges -/
theorem cap_in {v : Nat} {lo hi : Int32} (hh : hi < (1000000 : Int32)) : (lo ≤ nI (cap 1000000 v) ∧ nI (cap 1000000 v) ≤ hi ↔ lo ≤ nI (cap 100000000 v) ∧ nI (cap 100000000 v) ≤ hi) ∧ (lo ≤ nI (cap 1000000 v) ∧ nI (cap 1000000 v) ≤ hi → nI (cap 1000000 v) = nI (cap 100000000 v)) := by
  by_cases h : 1000000 < v
  · have e1 : cap 1000000 v = 1000000 := if_pos h
    have hb : ∀ n, 1000000 ≤ n → n ≤ 100000000 → ¬ nI n ≤ hi := fun n a b z => by
      have h1 := Int32.lt_of_le_of_lt z hh
      exact absurd h1 (nI_nlt (b := 1000000) a (by omega))
    have k1 := hb (cap 1000000 v) (by omega) (by omega)
    have k2 := hb (cap 100000000 v) (by unfold cap; split <;> omega) cap_le
    exact ⟨⟨fun z => absurd z.2 k1, fun z => absurd z.2 k2⟩, fun z => absurd z.2 k1⟩
  · have e1 : cap 1000000 v = v := if_neg h
    have e2 : cap 100000000 v = v := if_neg (by omega)
    rw [e1, e2]
    exact ⟨Iff.rfl, fun _ => rfl⟩
section NUMBERS
variable {s s' t : st_} {ch : Nat → Nat} {L p q e w : Nat} {lo hi : Int32}
/-- the error that the class has noted -/
def er_ (s : st_) (c x : Int32) : Prop := s 1 5 = c ∧ s 1 6 = x
theorem readNumber_w (h : CTx s ch L) (hp : s 1 3 = nI p) (hpL : p ≤ L) (h5 : s 1 5 = 0) : wp_ (fX3_readNumber s lo hi) (fun z => CFr s z.1 ∧ z.1 1 3 = nI (ne_ ch L p) ∧ z.1 1 4 = nI (tq ch L p) ∧ z.2 = nI (cap 1000000 (dv ch (tq ch L p) (ne_ ch L p - tq ch L p))) ∧ ((ne_ ch L p = tq ch L p ∧ er_ z.1 1 (nI (tq ch L p))) ∨ (ne_ ch L p ≠ tq ch L p ∧ (lo ≤ z.2 ∧ z.2 ≤ hi) ∧ z.1 1 5 = 0) ∨ (ne_ ch L p ≠ tq ch L p ∧ ¬ (lo ≤ z.2 ∧ z.2 ≤ hi) ∧ er_ z.1 2 (nI (tq ch L p))))) := by
  have hL := h.1
  obtain ⟨q1, q2, q3, q4⟩ := rE_s (f := spb ch) hpL
  unfold ne_ tq
  unfold fX3_readNumber
  refine wp_it h5 (wp_bn (skip_w h hp hpL) (fun r hr => ?_))
  generalize rE (spb ch) L p = q at q1 q2 q3 q4 hr
  obtain ⟨r1, r2, r3⟩ := hr
  obtain ⟨e1, e2, e3, e4⟩ := rE_s (f := dgb ch) q2
  generalize rE (dgb ch) L q = e at e1 e2 e3 e4
  refine wp_bd ?_
  rw [r2]
  generalize hs5 : pt_ r 1 4 (nI q) = s5
  have f5 : CFr s s5 := by rw [← hs5]; exact r1.tr (CFr.pt (by omega))
  have a3 : s5 1 3 = nI q := by rw [← hs5, pt_r (by decide), r2]
  have a4 : s5 1 4 = nI q := by rw [← hs5, pt_a]
  have a5 : s5 1 5 = 0 := by rw [← hs5, pt_r (by decide), r3 5 (by decide), h5]
  unfold fX3_readNumber_l23
  refine wp_bn (Q := fun v => v.1 = nI (cap 1000000 (dv ch q (e - q))) ∧ CFr s v.2 ∧ v.2 1 3 = nI e ∧ v.2 1 4 = nI q ∧ v.2 1 5 = 0) ?_ (fun v hv => ?_)
  · refine wp_up (fun k v => v.1 = nI (cap 1000000 (dv ch q (k - q))) ∧ CFr s v.2 ∧ v.2 1 3 = nI k ∧ v.2 1 4 = nI q ∧ v.2 1 5 = 0) q e e1 (by omega) ⟨by rw [Nat.sub_self]; rfl, f5, a3, a4, a5⟩ (fun k v hk hk0 hv => ?_) (fun v hv => ?_)
    · obtain ⟨v1, y⟩ := v
      obtain ⟨b0, b1, b2, b3, b4⟩ := hv
      dsimp only at b0 b1 b2 b3 b4
      subst b0
      have hx := h.fr b1
      have hdg := of_decide_eq_true (e3 k hk0 hk)
      have es : y 0 k = nI (ch k) := by
        rcases hx.2.2.2 k (by omega) with ⟨_, x⟩ | ⟨x, _⟩
        · exact x
        · omega
      have hcm := cap_le (M := 1000000) (v := dv ch q (k - q))
      have ev : (10 : Int32) * nI (cap 1000000 (dv ch q (k - q))) + (nI (ch k) - (48 : Int32)) = nI (10 * cap 1000000 (dv ch q (k - q)) + (ch k - 48)) := by
        show nI 10 * nI (cap 1000000 (dv ch q (k - q))) + (nI (ch k) - nI 48) = _
        rw [pk_mul, pk_sub (by omega), nI_add]
      have ek : k + 1 - q = (k - q) + 1 := by omega
      have edv : dv ch q (k + 1 - q) = 10 * dv ch q (k - q) + (ch k - 48) := by
        rw [ek]
        show 10 * dv ch q (k - q) + (ch (q + (k - q)) - 48) = _
        rw [Nat.add_sub_cancel' hk0]
      unfold fX3_readNumber_b23
      dsimp only
      simp only [hx.2.2.1, b2, ix_n (show k < 2147483648 by omega), es, ev]
      refine wp_if' (nI_ge (by omega) (by omega)) (wp_gd (tx_1 hx) (wp_gd (ib_n (by omega) (by omega)) (wp_if' (show ¬ nI (ch k) < (48 : Int32) from nI_nlt (b := 48) (by omega) (by omega)) (wp_gd (tx_1 hx) (wp_gd (ib_n (by omega) (by omega)) (wp_if' (show ¬ (57 : Int32) < nI (ch k) from nI_nlt (a := 57) (by omega) (by omega)) (wp_gd (tx_1 hx) (wp_gd (ib_n (by omega) (by omega)) (wp_bd (wp_l ⟨?_, b1.tr (CFr.pt (by omega)), ?_, ?_, ?_⟩))))))))))
      · dsimp only
        rw [edv, ← cap_s (by omega)]
        by_cases hc : 1000000 < 10 * cap 1000000 (dv ch q (k - q)) + (ch k - 48)
        · rw [if_pos (show (1000000 : Int32) < nI _ from nI_lt (a := 1000000) hc (by omega)), if_pos hc]
          rfl
        · rw [if_neg (show ¬ (1000000 : Int32) < nI _ from nI_nlt (a := 1000000) (by omega) (by omega)), if_neg hc]
      · dsimp only
        rw [pt_a, nI_1]
      · dsimp only
        rw [pt_r (by decide)]; exact b3
      · dsimp only
        rw [pt_r (by decide)]; exact b4
    · obtain ⟨v1, y⟩ := v
      obtain ⟨b0, b1, b2, b3, b4⟩ := hv
      dsimp only at b0 b1 b2 b3 b4
      have hx := h.fr b1
      unfold fX3_readNumber_b23
      simp only [hx.2.2.1, b2, ix_n (show e < 2147483648 by omega)]
      by_cases heL : e < L
      · have hdg := of_decide_eq_false (e4 heL)
        refine wp_if' (nI_ge (by omega) (by omega)) (wp_gd (tx_1 hx) (wp_gd (ib_n (by omega) (by omega)) (wp_if (fun _ => wp_r ⟨b0, b1, b2, b3, b4⟩) (fun hc => ?_))))
        have hc2 := (cb_lt hx heL (c := 48) (by omega)).mp hc
        exact wp_gd (tx_1 hx) (wp_gd (ib_n (by omega) (by omega)) (wp_it ((cb_gt hx heL (c := 57) (by omega) hc2.2).mpr (by omega)) (wp_r ⟨b0, b1, b2, b3, b4⟩)))
      · exact wp_it (nI_le (by omega) (by omega)) (wp_r ⟨b0, b1, b2, b3, b4⟩)
  · obtain ⟨v1, y⟩ := v
    obtain ⟨b0, b1, b2, b3, b4⟩ := hv
    dsimp only at b0 b1 b2 b3 b4
    have bad : ∀ c : Int32, CFr s (pt_ (pt_ y 1 5 c) 1 6 (nI q)) ∧ pt_ (pt_ y 1 5 c) 1 6 (nI q) 1 3 = nI e ∧ pt_ (pt_ y 1 5 c) 1 6 (nI q) 1 4 = nI q ∧ er_ (pt_ (pt_ y 1 5 c) 1 6 (nI q)) c (nI q) := fun c => ⟨(b1.tr (CFr.pt (by omega))).tr (CFr.pt (by omega)), by rw [pt_r (by decide), pt_r (by decide), b2], by rw [pt_r (by decide), pt_r (by decide), b3], by rw [pt_r (by decide), pt_a], pt_a⟩
    unfold fX3_readNumber_k23 fX3_readNumber_x23_98 fX3_readNumber_j131
    simp only [b2, b3]
    by_cases heq : e = q
    · subst heq
      refine wp_it rfl (wp_bne fail_e (wp_s ?_))
      rw [if_pos b4]
      obtain ⟨x1, x2, x3, x4⟩ := bad 1
      exact ⟨x1, x2, x3, b0, Or.inl ⟨rfl, x4⟩⟩
    · obtain ⟨x1, x2, x3, x4⟩ := bad 2
      refine wp_if' (fun z => heq ((nI_eq (by omega) (by omega)).mp z)) (wp_if (fun hlo => wp_bne fail_e (wp_s ?_)) (fun hlo => wp_if (fun hhi => wp_s ?_) (fun hhi => wp_bne fail_e (wp_s ?_))))
      · rw [if_pos b4]
        exact ⟨x1, x2, x3, b0, Or.inr (Or.inr ⟨heq, fun z => absurd hlo (Int32.not_lt.mpr z.1), x4⟩)⟩
      · exact ⟨b1, b2, b3, b0, Or.inr (Or.inl ⟨heq, ⟨Int32.not_lt.mp hlo, hhi⟩, b4⟩)⟩
      · rw [if_pos b4]
        exact ⟨x1, x2, x3, b0, Or.inr (Or.inr ⟨heq, fun z => hhi z.2, x4⟩)⟩
/-! the model -/
/-- the model's reader at a place, its token beginning at q -/
def sq (t : st_) (q p : Nat) : st_ := pt_ (pt_ t 0 9 (nI p)) 0 10 (nI q)
theorem pt_id {v : Int32} {o j : Nat} (h : s o j = v) : pt_ s o j v = s := by
  funext a b
  rw [pt_ap]
  by_cases ha : a = o
  · rw [if_pos ha]
    by_cases hb : b = j
    · rw [if_pos hb, ha, hb, h]
    · rw [if_neg hb]
  · rw [if_neg ha]
theorem pt_cm {v x : Int32} {o i j : Nat} (h : i ≠ j) : pt_ (pt_ s o i v) o j x = pt_ (pt_ s o j x) o i v := by
  funext a b
  rw [pt_ap, pt_ap, pt_ap, pt_ap]
  by_cases ha : a = o
  · subst ha
    by_cases h1 : b = j
    · subst h1
      simp [show ¬ b = i from fun z => h z.symm]
    · by_cases h2 : b = i
      · subst h2
        simp [h1]
      · simp [h1, h2]
  · rw [if_neg ha, if_neg ha, if_neg ha, if_neg ha]
theorem sq_sq {q' p' : Nat} : sq (sq t q p) q' p' = sq t q' p' := by
  unfold sq
  rw [pt_cm (i := 10) (j := 9) (by decide), pt_pt, pt_pt]
theorem sq_9 {p' : Nat} : pt_ (sq t q p) 0 9 (nI p') = sq t q p' := by
  unfold sq
  rw [pt_cm (i := 10) (j := 9) (by decide), pt_pt]
theorem sq_o {o : Nat} (h : o ≠ 0) : sq t q p o = t o := by
  unfold sq
  rw [pt_o h, pt_o h]
theorem sq_j {j : Nat} (h : j ≠ 9) (h2 : j ≠ 10) : sq t q p 0 j = t 0 j := by
  unfold sq
  rw [pt_r h2, pt_r h]
theorem sq_p : sq t q p 0 9 = nI p := by
  unfold sq
  rw [pt_r (by decide), pt_a]
theorem sq_q : sq t q p 0 10 = nI q := by
  unfold sq
  rw [pt_a]
theorem MTx.sq (h : MTx t ch L) : MTx (sq t q p) ch L := by
  obtain ⟨a, b, c⟩ := h
  exact ⟨a, by rw [sq_j (by decide) (by decide)]; exact b, fun j hj => by rw [sq_o (by decide)]; exact c j hj⟩
theorem MTx.p9 (h : MTx t ch L) {v : Int32} : MTx (pt_ t 0 9 v) ch L := by
  obtain ⟨a, b, c⟩ := h
  exact ⟨a, by rw [pt_r (by decide)]; exact b, fun j hj => by rw [pt_o (by decide)]; exact c j hj⟩
theorem fails_e {c : Int32} : fX8_fails t c = some (if t 0 12 = 0 then pt_ (pt_ t 0 12 c) 0 11 (t 0 10) else t, 0) := by
  unfold fX8_fails
  by_cases h : t 0 12 = 0
  · rw [if_pos h, if_pos h, bd_e, bd_e, pt_r (by decide)]
  · rw [if_neg h, if_neg h]
def byt (ch : Nat → Nat) (L q : Nat) : Int32 := if q < L then nI (ch q) else -1
theorem byteAt_e (h : MTx t ch L) (hq : q < 2147483648) : fX8_byteAt t (nI q) = some (byt ch L q) := by
  unfold byt
  by_cases hL : q < L
  · rw [if_pos hL, byteAt_t h hL]
  · rw [if_neg hL, byteAt_f h (by omega) hq]
theorem see_e (h : MTx t ch L) (hp : t 0 9 = nI p) (hpL : p ≤ L) : fX8_see t = some (sq t (tq ch L p) (tq ch L p), byt ch L (tq ch L p)) := by
  have hL := h.1
  obtain ⟨q1, q2, q3, q4⟩ := rE_s (f := spb ch) hpL
  unfold tq
  generalize rE (spb ch) L p = q at q1 q2 q3 q4
  unfold fX8_see fX8_see_l0
  have hl : wp_ (it_ (fun v => fX8_see_b0 v) FU_ t) (fun x => x = pt_ t 0 9 (nI q)) := by
    refine wp_up (fun k v => v = pt_ t 0 9 (nI k)) p q q1 (by omega) (pt_id hp).symm (fun k v hk hk0 hv => ?_) (fun v hv => ?_)
    · subst hv
      have h32 := of_decide_eq_true (q3 k hk0 hk)
      unfold fX8_see_b0
      rw [pt_a]
      refine wp_bne (byteAt_t h.p9 (by omega)) (wp_it (by rw [h32]; rfl) (wp_bd (wp_l ?_)))
      rw [pt_pt, nI_1]
    · subst hv
      unfold fX8_see_b0
      rw [pt_a]
      refine wp_bne (byteAt_e h.p9 (by omega)) (wp_if' (fun z => ?_) (wp_r rfl))
      unfold byt at z
      by_cases hq : q < L
      · rw [if_pos hq] at z
        have := (h.2.2 q hq).1
        exact of_decide_eq_false (q4 hq) ((nI_eq (b := 32) (by omega) (by omega)).mp z)
      · rw [if_neg hq] at z
        exact absurd z (by decide)
  obtain ⟨x, ex, rfl⟩ := hl
  rw [bn_e ex]
  unfold fX8_see_k0 fX8_see_x0_26
  rw [bd_e, pt_a, pt_r (by decide), pt_a]
  show bn_ (fX8_byteAt (sq t q q) (nI q)) (fun r5 => some (sq t q q, r5)) = _
  rw [bn_e (byteAt_e (MTx.sq (q := q) (p := q) h) (by omega))]
end NUMBERS
