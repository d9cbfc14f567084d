/-! the optimum is not below zero; hurts and the worst, foretold -/
theorem EQ_.nn {V : Nat → Nat → Int32} {pos pl : Nat → Nat} {sk pe : Int32} {m st N : Nat} (hN : NB m N) (hm : m ≤ 8) (h : ∀ set, set < N → EQ_ V pos pl sk pe m st N set) (h2 : rg_ sk 0 99) (h3 : rg_ pe 1 99) (hp : pos st < 100) (hpi : ∀ i, i < m → pos i < 100) (hpl : ∀ i, i < m → pl i < 100) : ∀ d set, set < N → N - 1 - set = d → ∀ p, (p = st ∨ (p < m ∧ bt set p = true)) → ∃ x, V set p = nI x ∧ x ≤ 9900 * d := by
  obtain ⟨n1, n2, n3, n4, n5, n6, n7, n8⟩ := hN
  intro d
  induction d using Nat.strongRecOn with
  | ind d ih =>
    intro set hs hd p hpp
    obtain ⟨x1, x2⟩ := h set hs p hpp
    by_cases hc : set = N - 1
    · exact ⟨0, x1 hc, Nat.zero_le _⟩
    · obtain ⟨q, hq, hb, e, -⟩ := x2 hc
      have hb4 := b4_c set (by omega) q (by omega)
      have hlt := (hb4.2.2.2 hb).1
      have hN2 := n3 set hs q hq
      obtain ⟨x, ex, hx⟩ := ih (N - 1 - so set q) (by omega) (so set q) hN2 rfl q (Or.inr ⟨hq, hb4.2.2.1⟩)
      have hpos : pos p < 100 := by
        rcases hpp with a | a
        · rw [a]; exact hp
        · exact hpi p a.1
      obtain ⟨y, _, hy, ey⟩ := (pr_rg h2 h3 hpos (hpl q hq)).ex
      dsimp only at e
      rw [ex, ey, nI_add] at e
      refine ⟨_, e, ?_⟩
      have : 9900 * (N - 1 - so set q + 1) ≤ 9900 * d := Nat.mul_le_mul_left _ (by omega)
      omega
/-- the greatest is not below any -/
theorem wst_max {f : Nat → Int32} : ∀ k j, j ≤ k → f j ≤ f (wst f k)
  | 0, j, hj => by
    have : j = 0 := by omega
    subst this
    exact Int32.le_refl _
  | k + 1, j, hj => by
    have ih := wst_max (f := f) k
    show f j ≤ f (if f (k + 1) ≤ f (wst f k) then wst f k else k + 1)
    by_cases hc : f (k + 1) ≤ f (wst f k)
    · rw [if_pos hc]
      rcases Nat.lt_or_ge k j with h | h
      · have : j = k + 1 := by omega
        subst this
        exact hc
      · exact ih j h
    · rw [if_neg hc]
      rcases Nat.lt_or_ge k j with h | h
      · have : j = k + 1 := by omega
        subst this
        exact Int32.le_refl _
      · exact Int32.le_trans (ih j h) (Int32.le_of_lt (Int32.not_le.mp hc))
theorem mnr_bst {f : Nat → Int32} : ∀ k, mnr f k = f (bst f k)
  | 0 => rfl
  | k + 1 => by
    have ih := mnr_bst (f := f) k
    show (if f (k + 1) < mnr f k then f (k + 1) else mnr f k) = f (if f (bst f k) ≤ f (k + 1) then bst f k else k + 1)
    rw [ih]
    by_cases hc : f (bst f k) ≤ f (k + 1)
    · rw [if_pos hc, if_neg (Int32.not_lt.mpr hc)]
    · rw [if_neg hc, if_pos (Int32.not_le.mp hc)]
section WORST58
variable {s s' t t' d d' : st_} {C R n n' T K k c m : Nat}
theorem p_optimum (h : HH s t C R n T) (hm : m ≤ 8) (hmn : m ≤ n) : ∃ s' x, gX7_optimum s (nI m) = some (s', nI x) ∧ x < 2147483648 ∧ ∀ o, o < 83 → s' o = s o := by
  obtain ⟨hC2, hC, hS0, hw0, hR1, hR6, hS4, hw4, hS2, hS3, hw2, hw3, hk⟩ := id h.1.1.1
  have h20 := h.n20
  have e14 : s 14 2 = nI n := h.n5
  obtain ⟨N, z, u, hN, ez, eu, z0, z1, uT, uo, zE, uE, hzu⟩ := tours_p h hm hmn (t0 := t) rfl
  have hpm : plc (t 1) m m < 100 := by
    have h1 := uT.2.1
    have : plc (t 1) m m = ix_ (t 1 (ab_ 6)) := if_pos rfl
    omega
  have hpi : ∀ i, i < m → plc (t 1) m i < 100 := fun i hi => (uT.2.2 i hi).2
  obtain ⟨x, ex, hx⟩ := EQ_.nn hN hm zE hw2 hw3 hpm hpi hpi (N - 1 - 0) 0 (by have := hN.1; omega) rfl m (Or.inl rfl)
  have hN2 := hN.2.1
  have h255 : 9900 * (N - 1 - 0) ≤ 9900 * 255 := Nat.mul_le_mul_left _ (by omega)
  have ew : gX7_requireWithin (nI m) (0 : Int32) (8 : Int32) = some () := gWithin (nI_pos' (by omega)) (nI_le (b := 8) hm (by omega))
  have e0 : mg_ s 116 3 z 116 0 = nI m := by rw [mg_i (by omega) (by omega)]; exact z0
  have el : fX6_leastCost (sb_ (mg_ s 116 3 z) 116) = some (z 2 m) := by
    unfold fX6_leastCost
    have e0' : sb_ (mg_ s 116 3 z) 116 0 0 = nI m := e0
    rw [e0', gd_t (ib_n (by omega) (by omega)), ix_n (by omega), sb_ap, mg_i (by omega) (by omega)]
  refine ⟨mg_ s 116 3 z, x, ?_, by omega, fun o ho => mg_o (by omega)⟩
  unfold gX7_optimum
  have ex : z 2 (9 * 0 + m) = nI x := ex
  rw [Nat.mul_zero, Nat.zero_add] at ex
  rw [bn_e ew, e14, if_pos (nI_le hmn (by omega)), bn_e ez, bd_e, bn_e el, ex]
theorem fcx_congr {a a' S S' : st_} {kind c n q : Nat} {wd : Int32} (h0 : a' 0 = a 0) (h1 : a' 1 = a 1) (h2 : S' 0 = S 0) : fcx a' S' kind wd c n q = fcx a S kind wd c n q := by
  have hka : ka_ a' kind wd c = ka_ a kind wd c := by
    funext j
    unfold ka_
    rw [h0, h1]
  unfold fcx
  rw [hka, h0, h1, h2]
theorem hurt_congr {r : Nat} (h6 : R ≤ 6) (h1 : 1 ≤ R) (he : ∀ o, o < 33 → o ≠ 13 → o ≠ 14 → d' o = d o) : hurt_f d' n R r c = hurt_f d n R r c := by
  unfold hurt_f
  have e1 : its_f d' n r c = its_f d n r c := by
    unfold its_f
    rw [he 5 (by omega) (by omega) (by omega), he 2 (by omega) (by omega) (by omega), he 3 (by omega) (by omega) (by omega), fcx_congr (a := sb_ d 5) (S := sb_ d 1) (he 5 (by omega) (by omega) (by omega)) (he 6 (by omega) (by omega) (by omega)) (he 1 (by omega) (by omega) (by omega))]
  have e2 : mnr (fun x => own_f d' n x c) (R - 1) = mnr (fun x => own_f d n x c) (R - 1) := mnr_congr (R - 1) (fun x hx => by
    unfold own_f
    rw [he (3 * x + 15) (by omega) (by omega) (by omega), he 2 (by omega) (by omega) (by omega), he 3 (by omega) (by omega) (by omega), fcx_congr (a := sb_ d (3 * x + 15)) (S := sb_ d 1) (he (3 * x + 15) (by omega) (by omega) (by omega)) (he (3 * x + 15 + 1) (by omega) (by omega) (by omega)) (he 1 (by omega) (by omega) (by omega))])
  rw [e1, e2]
theorem p_hurtOf (h : HH s t C R n T) (hc : c < C) (hn : n < 20) {r0 : Nat} (hr0 : r0 < R) (er : fX1_comingRule (sb_ s 9) = some (nI r0)) : ∃ s', gX7_hurtOf s (nI c) = some (s', hurt_f (sb_ s 9) n R r0 c) ∧ ∀ o, o ≠ 22 → o ≠ 23 → s' o = s o := by
  have hC := h.1.1.1.2.1
  obtain ⟨d1, ed, d1o, d1h⟩ := foresee_q h hn hr0
  refine ⟨mg_ s 9 33 d1, ?_, fun o a b => ?_⟩
  · unfold gX7_hurtOf
    have ev : mg_ s 9 33 d1 22 c = hurt_f (sb_ s 9) n R r0 c := by
      rw [mg_i (by omega) (by omega)]
      exact d1h c hc
    rw [bn_e (gCyl h hc).1, bn_e (isFull_e h.n5 h.n20), if_pos (by rw [if_pos hn]), bn_e er, bn_e ed, bd_e, gd_t (ib_n (by omega) (by omega)), ix_n (by omega), ev]
  · by_cases hc : 9 ≤ o ∧ o < 42
    · rw [mg_i (by omega) (by omega), d1o _ (by omega) (by omega), sb_ap]
      congr 1
      omega
    · exact mg_o (by omega)
theorem p_hurtOfN (h : HH s t C R n T) (hc : c < C) (hn : ¬ n < 20) : gX7_hurtOf s (nI c) = some (s, -2000000000) := by
  unfold gX7_hurtOf
  rw [bn_e (gCyl h hc).1, bn_e (isFull_e h.n5 h.n20), if_neg (by rw [if_neg hn]; decide)]
theorem p_worst (h : HH s t C R n T) (hn : n < 20) {r0 : Nat} (hr0 : r0 < R) (er : fX1_comingRule (sb_ s 9) = some (nI r0)) : ∃ s', gX7_worst s = some (s', nI (wst (hurt_f (sb_ s 9) n R r0) (C - 1))) ∧ ∀ o, o ≠ 22 → o ≠ 23 → s' o = s o := by
  obtain ⟨hC2, hC, hS0, hw0, hR1, hR6, hS4, hw4, hS2, hS3, hw2, hw3, hk⟩ := id h.1.1.1
  obtain ⟨d1, ed, d1o, d1h⟩ := foresee_q h hn hr0
  refine ⟨mg_ s 9 33 d1, ?_, fun o a b => ?_⟩
  · have em : fX1_mostHurtful (sb_ (mg_ s 9 33 d1) 9) = some (nI (wst (hurt_f (sb_ s 9) n R r0) (C - 1))) := by
      rw [mostHurtful_e (C := C) (by rw [put9 (by omega), d1o 1 (by decide) (by decide)]; exact hS0) hC2 hC]
      rw [wst_congr (g := hurt_f (sb_ s 9) n R r0) (C - 1) (fun r hr => by rw [put9 (by omega)]; exact d1h r (by omega))]
    unfold gX7_worst
    rw [bn_e (isFull_e h.n5 h.n20), if_pos (by rw [if_pos hn]), bn_e er, bn_e ed, bd_e, bn_e em]
  · by_cases hc : 9 ≤ o ∧ o < 42
    · rw [mg_i (by omega) (by omega), d1o _ (by omega) (by omega), sb_ap]
      congr 1
      omega
    · exact mg_o (by omega)
theorem p_worstN (h : HH s t C R n T) (hn : ¬ n < 20) : gX7_worst s = some (s, -1) := by
  unfold gX7_worst
  rw [bn_e (isFull_e h.n5 h.n20), if_neg (by rw [if_neg hn]; decide)]
end WORST58
