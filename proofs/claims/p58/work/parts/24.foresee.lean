/-! what an arm would have cost with one more request -/
section FORE
variable {a S u : st_} {c n r R C kind RK : Nat} {wd P : Int32}
theorem fore_lo (hc : a 0 0 = nI c) (h1 : c < 100) (hk4 : kind ≤ 4) (hC : S 0 0 = nI C) (hC100 : C ≤ 100) (hRK : RK ≤ 10000) : wp_ (fX0_foresee_j78 a S u (nI kind) wd (nI RK) P) (fun u' => ∀ q, q < C → u' 0 q = a 0 5 + (if rk_ kind wd (a 0 1) c q < RK then pr_ (S 0 2) (S 0 3) c q else P)) := by
  unfold fX0_foresee_j78 fX0_foresee_l83
  refine wp_bn (Q := fun u' => ∀ q, q < C → u' 0 q = a 0 5 + (if rk_ kind wd (a 0 1) c q < RK then pr_ (S 0 2) (S 0 3) c q else P)) ?_ (fun u' hu' => wp_s hu')
  refine wp_up (fun k v => v.1 = nI k ∧ ∀ q, q < k → v.2 0 q = a 0 5 + (if rk_ kind wd (a 0 1) c q < RK then pr_ (S 0 2) (S 0 3) c q else P)) 0 C (Nat.zero_le _) (by omega) ⟨rfl, fun q hq => absurd hq (Nat.not_lt_zero _)⟩ (fun k v hk _ hv => ?_) (fun v hv => ?_)
  · obtain ⟨v9, ub⟩ := v
    obtain ⟨e, hq⟩ := hv
    dsimp only at e hq
    subst e
    unfold fX0_foresee_b83
    refine wp_if' (by rw [hC]; exact nI_ge hk (by omega)) (wp_if' (nI_ge (b := 100) (by omega) (by omega)) ?_)
    refine wp_bne (rank_e hc hk4 h1 (by omega)) ?_
    have hlt : rk_ kind wd (a 0 1) c k < 10000 := rk_lt h1 (by omega)
    have put : ∀ x : Int32, x = (if rk_ kind wd (a 0 1) c k < RK then pr_ (S 0 2) (S 0 3) c k else P) → wp_ (fX0_foresee_j148 a (nI k) ub x) (Sum.elim (fun w => w.1 = nI (k + 1) ∧ ∀ q, q < k + 1 → w.2 0 q = a 0 5 + (if rk_ kind wd (a 0 1) c q < RK then pr_ (S 0 2) (S 0 3) c q else P)) (fun u' => ∀ q, q < C → u' 0 q = a 0 5 + (if rk_ kind wd (a 0 1) c q < RK then pr_ (S 0 2) (S 0 3) c q else P))) := fun x hx => by
      unfold fX0_foresee_j148
      refine wp_gd (ib_n (by omega) (by omega)) (wp_bd (wp_l ⟨nI_1 k, fun q hqk => ?_⟩))
      rw [ix_n (by omega)]
      show (pt_ ub 0 k (a 0 5 + x)) 0 q = _
      by_cases h : q = k
      · subst h
        rw [pt_a, hx]
      · rw [pt_r h]
        exact hq q (by omega)
    rcases Nat.lt_or_ge (rk_ kind wd (a 0 1) c k) RK with h | h
    · refine wp_if' (nI_ge h (by omega)) ?_
      unfold fX0_foresee_j119
      refine wp_if' (by decide) ?_
      rw [hc]
      exact wp_bne (price_e (by omega) (by omega)) (put _ (by rw [if_pos h]))
    · refine wp_it (nI_le h (by omega)) ?_
      unfold fX0_foresee_j119
      exact wp_it rfl (put _ (by rw [if_neg (by omega)]))
  · obtain ⟨v9, ub⟩ := v
    obtain ⟨e, hq⟩ := hv
    dsimp only at e hq
    subst e
    unfold fX0_foresee_b83
    exact wp_it (by rw [hC]; exact Int32.le_refl _) (wp_r hq)
/-- the cost that an arm would have in this round, with a request for q behind its own -/
def fcv (a S : st_) (kind : Nat) (wd : Int32) (c n q : Nat) (x : Int32) : Prop := (n = 0 → x = pr_ (S 0 2) (S 0 3) c q) ∧ ∀ k, fm_ (ka_ a kind wd c) n k → x = if rk_ kind wd (a 0 1) c q < ka_ a kind wd c k then pr_ (S 0 2) (S 0 3) c q else pr_ (S 0 2) (S 0 3) c (ix_ (a 1 k))
theorem foresee_w (A : AC a c n) (hR : S 0 4 = nI R) (hr : r < R) (h6 : R ≤ 6) (hkd : S 1 r = nI kind) (hk4 : kind ≤ 4) (hwd : S 2 r = wd) (hC : S 0 0 = nI C) (hC100 : C ≤ 100) : wp_ (fX0_foresee a S u (nI r)) (fun u' => ∀ q, q < C → ∃ x, fcv a S kind wd c n q x ∧ u' 0 q = a 0 5 + x) := by
  obtain ⟨hc, hn, h20, h1, hu, hq⟩ := A
  unfold fX0_foresee
  refine wp_bne (kindOf_t hR hr h6) (wp_bne (widthOf_t hR hr h6) ?_)
  rw [hkd, hwd]
  refine wp_bn (choose_w hc hn h20 h1 hk4 hq) (fun i hi => ?_)
  rcases hi with ⟨hz, e⟩ | ⟨k, e, hf⟩
  · subst e
    refine wp_it rfl ?_
    unfold fX0_foresee_j51
    refine wp_it rfl (wp_m (fore_lo (RK := 10000) (P := 0) hc h1 hk4 hC hC100 (by omega)) (fun u' hu' q hqC => ?_))
    refine ⟨_, ⟨fun _ => ?_, fun k hk => absurd hk.1 (by omega)⟩, hu' q hqC⟩
    rw [if_pos (rk_lt h1 (by omega))]
  · subst e
    have hkn := hf.1
    obtain ⟨qk, _, hq2, hqe⟩ := (hq k hkn).ex
    have hix : ix_ (a 1 k) = qk := by rw [hqe]; exact ix_n (by omega)
    refine wp_if' (nI_ne1 (by omega)) (wp_gd (ib_n (by omega) (by omega)) ?_)
    rw [ix_n (by omega), hqe]
    refine wp_bne (rank_e hc hk4 h1 (by omega)) ?_
    unfold fX0_foresee_j51
    refine wp_if' (nI_ne1 (by omega)) (wp_gd (ib_n (by omega) (by omega)) ?_)
    rw [ix_n (by omega), hqe, hc]
    refine wp_bne (price_e (by omega) (by omega)) ?_
    have hlt : rk_ kind wd (a 0 1) c qk < 10000 := rk_lt h1 (by omega)
    refine wp_m (fore_lo (P := pr_ (S 0 2) (S 0 3) c qk) hc h1 hk4 hC hC100 (by omega)) (fun u' hu' q hqC => ?_)
    refine ⟨_, ⟨fun z => absurd z (by omega), fun k' hk' => ?_⟩, hu' q hqC⟩
    have ek : k' = k := fm_u hk' hf
    subst ek
    unfold ka_
    rw [hix]
end FORE
