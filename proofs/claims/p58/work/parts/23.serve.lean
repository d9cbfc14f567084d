/-! the class's arm serves -/
def mx_ (x y : Int32) : Int32 := if x < y then y else x
def pr_ (sk pe : Int32) (c q : Nat) : Int32 := if c = q then 0 else sk + pe * nI (ds_ c q)
section PRICE
variable {S : st_} {c q r R : Nat}
theorem price_e (h1 : c < 1000000) (h2 : q < 1000000) : fX5_priceOf S (nI c) (nI q) = some (pr_ (S 0 2) (S 0 3) c q) := by
  unfold fX5_priceOf pr_
  by_cases h : c = q
  · subst h
    rw [if_pos rfl, if_pos rfl]
  · rw [if_neg (fun z => h ((nI_eq (by omega) (by omega)).mp z)), if_neg h]
    unfold fX5_priceOf_j31
    rcases Nat.lt_or_ge c q with h3 | h3
    · rw [if_neg (nI_ge h3 (by omega)), sub_up (by omega)]
    · rw [if_pos (nI_le h3 (by omega))]
      have e : nI c - nI q = nI (ds_ c q) := by rw [← sub_dn h3, Int32.neg_sub]
      rw [e]
theorem hasRule_t (hR : S 0 4 = nI R) (hr : r < R) (h6 : R ≤ 6) : fX5_hasRule S (nI r) = some 1 := by
  unfold fX5_hasRule
  rw [if_neg (nI_pos (by omega)), hR, if_neg (nI_ge hr (by omega))]
theorem hasRule_f {x : Int32} (hR : S 0 4 = nI R) (h6 : R ≤ 6) (hx : ¬ (0 ≤ x ∧ x < nI R)) : fX5_hasRule S x = some 0 := by
  unfold fX5_hasRule
  by_cases h : x < 0
  · rw [if_pos h]; rfl
  · rw [if_neg h, hR, if_pos (Int32.not_lt.mp (fun z => hx ⟨Int32.not_lt.mp h, z⟩))]; rfl
theorem kindOf_t (hR : S 0 4 = nI R) (hr : r < R) (h6 : R ≤ 6) : fX5_kindOf S (nI r) = some (S 1 r) := by
  unfold fX5_kindOf
  rw [bn_e (hasRule_t hR hr h6), if_neg (by decide), gd_t (ib_n (by omega) (by omega)), ix_n (by omega)]
theorem widthOf_t (hR : S 0 4 = nI R) (hr : r < R) (h6 : R ≤ 6) : fX5_widthOf S (nI r) = some (S 2 r) := by
  unfold fX5_widthOf
  rw [bn_e (hasRule_t hR hr h6), if_neg (by decide), gd_t (ib_n (by omega) (by omega)), ix_n (by omega)]
end PRICE
/-- the class's arm is in order: it stands at c, n wait -/
def AC (a : st_) (c n : Nat) : Prop := a 0 0 = nI c ∧ a 0 2 = nI n ∧ n ≤ 20 ∧ c < 100 ∧ (a 0 1 = 0 ∨ a 0 1 = 1) ∧ ∀ j, j < n → rg_ (a 1 j) 0 99
def ka_ (a : st_) (kind : Nat) (wd : Int32) (c : Nat) : Nat → Nat := fun j => rk_ kind wd (a 0 1) c (ix_ (a 1 j))
def ru_ (kind rk : Nat) (u : Int32) : Int32 := if kind = 2 ∧ 1000 ≤ rk then (if u = 0 then 1 else 0) else u
/-- what an arm is behind the serving of request k -/
def SA (a a' : st_) (n k c : Nat) (cost u' mk : Int32) : Prop := a' 0 0 = a 1 k ∧ a' 0 1 = u' ∧ a' 0 2 = nI (n - 1) ∧ a' 0 5 = a 0 5 + cost ∧ a' 0 6 = a 0 6 + nI (ds_ c (ix_ (a 1 k))) ∧ a' 0 7 = mx_ (a 0 7) (mk - a 2 k) ∧ a' 0 8 = a 0 8 + 1 ∧ a' 0 9 = cost ∧ a' 0 10 = a 1 k ∧ a' 0 11 = a 2 k ∧ ∀ j, j < n - 1 → a' 1 j = a 1 (if j < k then j else j + 1) ∧ a' 2 j = a 2 (if j < k then j else j + 1)
section SERVE
variable {a S : st_} {c n k r R kind : Nat} {wd mk : Int32}
theorem remove_w {s : st_} (hn : s 0 2 = nI n) (hk : k < n) (h20 : n ≤ 20) : wp_ (fX0_remove s (nI k)) (fun s' => s' 0 = up_ (s 0) 2 (nI (n - 1)) ∧ ∀ j, j < n - 1 → s' 1 j = s 1 (if j < k then j else j + 1) ∧ s' 2 j = s 2 (if j < k then j else j + 1)) := by
  unfold fX0_remove fX0_remove_l2
  refine wp_bn (Q := fun s1 => s1 0 = s 0 ∧ ∀ j, j < n - 1 → s1 1 j = s 1 (if j < k then j else j + 1) ∧ s1 2 j = s 2 (if j < k then j else j + 1)) ?_ (fun s1 hs1 => ?_)
  · refine wp_up (fun i v => v.1 = nI i ∧ v.2 0 = s 0 ∧ ∀ j, v.2 1 j = s 1 (if k ≤ j ∧ j < i then j + 1 else j) ∧ v.2 2 j = s 2 (if k ≤ j ∧ j < i then j + 1 else j)) k (n - 1) (by omega) (by omega) ⟨rfl, rfl, fun j => ?_⟩ (fun i v hi hki hv => ?_) (fun v hv => ?_)
    · rw [if_neg (by omega)]
      exact ⟨rfl, rfl⟩
    · obtain ⟨v2, sb⟩ := v
      obtain ⟨e, e0, hj⟩ := hv
      dsimp only at e e0 hj
      subst e
      have en : sb 0 2 = nI n := by rw [e0, hn]
      have e1 : nI i + 1 = nI (i + 1) := nI_1 i
      unfold fX0_remove_b2
      dsimp only
      have yi : ix_ (nI i) = i := ix_n (by omega)
      have yi1 : ix_ (nI (i + 1)) = i + 1 := ix_n (by omega)
      simp only [e1, en, yi, yi1]
      refine wp_if' (nI_ge (by omega) (by omega)) ?_
      refine wp_gd (ib_n (by omega) (by omega)) (wp_gd (ib_n (by omega) (by omega)) (wp_bd ?_))
      refine wp_gd (ib_n (by omega) (by omega)) (wp_gd (ib_n (by omega) (by omega)) (wp_bd (wp_l ⟨rfl, ?_, fun j => ?_⟩)))
      · show (pt_ (pt_ sb 1 i (sb 1 (i + 1))) 2 i (sb 2 (i + 1))) 0 = s 0
        rw [pt_o (by decide), pt_o (by decide), e0]
      · have q1 := (hj (i + 1)).1
        have q2 := (hj (i + 1)).2
        rw [if_neg (by omega)] at q1 q2
        have o1 : (pt_ (pt_ sb 1 i (sb 1 (i + 1))) 2 i (sb 2 (i + 1))) 1 = (pt_ sb 1 i (sb 1 (i + 1))) 1 := pt_o (by decide)
        have o2 : (pt_ sb 1 i (sb 1 (i + 1))) 2 = sb 2 := pt_o (by decide)
        show (pt_ (pt_ sb 1 i (sb 1 (i + 1))) 2 i (sb 2 (i + 1))) 1 j = _ ∧ (pt_ (pt_ sb 1 i (sb 1 (i + 1))) 2 i (sb 2 (i + 1))) 2 j = _
        rw [o1]
        by_cases hji : j = i
        · subst hji
          rw [pt_a, pt_a, q1, q2, if_pos (by omega)]
          exact ⟨rfl, rfl⟩
        · rw [pt_r hji, pt_r hji, o2, (hj j).1, (hj j).2]
          by_cases h : k ≤ j ∧ j < i
          · rw [if_pos h, if_pos (by omega)]; exact ⟨rfl, rfl⟩
          · rw [if_neg h, if_neg (by omega)]; exact ⟨rfl, rfl⟩
    · obtain ⟨v2, sb⟩ := v
      obtain ⟨e, e0, hj⟩ := hv
      dsimp only at e e0 hj
      subst e
      unfold fX0_remove_b2
      have en : sb 0 2 = nI n := by rw [e0, hn]
      dsimp only
      simp only [nI_1, en]
      refine wp_it (nI_le (by omega) (by omega)) (wp_r ⟨e0, fun j hjn => ?_⟩)
      rw [(hj j).1, (hj j).2]
      by_cases h : j < k
      · rw [if_neg (by omega), if_pos h]; exact ⟨rfl, rfl⟩
      · rw [if_pos (by omega), if_neg h]; exact ⟨rfl, rfl⟩
  · obtain ⟨e0, hj⟩ := hs1
    unfold fX0_remove_k2 fX0_remove_x2_46
    refine wp_bd (wp_s ⟨?_, fun j hjn => ?_⟩)
    · rw [pt_1 e0]
      have e : s 0 2 - 1 = nI (n - 1) := by
        rw [hn]
        obtain ⟨z, rfl⟩ : ∃ z, n = z + 1 := ⟨n - 1, by omega⟩
        exact nI_pred z
      rw [e0, e]
    · rw [pt_o (by decide), pt_o (by decide)]
      exact hj j hjn
/-- the end of serve: cost, way, wait; the request goes -/
theorem serve_j {s : st_} {q : Nat} (hc : s 0 0 = nI c) (hn : s 0 2 = nI n) (hs : s 0 10 = s 1 k) (hi : s 0 11 = s 2 k) (hq : s 1 k = nI q) (hk : k < n) (h20 : n ≤ 20) (h1 : c < 100) (h2 : q < 100) : wp_ (fX0_serve_j108 S mk (nI k) s) (fun a' => SA s a' n k c (pr_ (S 0 2) (S 0 3) c q) (s 0 1) mk) := by
  unfold fX0_serve_j108
  rw [hc, hs, hq]
  refine wp_bne (price_e (by omega) (by omega)) ?_
  generalize pr_ (S 0 2) (S 0 3) c q = cost
  refine wp_bd (wp_bd (wp_bd (wp_bd (wp_bd (wp_bd ?_)))))
  generalize hz : pt_ _ 0 0 _ = z
  have ha : (if (0 : Int32) ≤ s 0 10 - s 0 0 then s 0 10 - s 0 0 else (0 : Int32) - (s 0 10 - s 0 0)) = nI (ds_ c q) := by
    rw [hs, hq, hc]
    exact abs_ds (by omega) (by omega)
  have z0 : z 0 0 = s 1 k := by
    rw [← hz]
    simp (disch := omega) only [pt_a, pt_rr, hs]
  have z1 : z 0 1 = s 0 1 := by
    rw [← hz]
    simp (disch := omega) only [pt_a, pt_rr]
  have z2 : z 0 2 = nI n := by
    rw [← hz]
    simp (disch := omega) only [pt_a, pt_rr, hn]
  have z5 : z 0 5 = s 0 5 + cost := by
    rw [← hz]
    simp (disch := omega) only [pt_a, pt_rr]
  have z6 : z 0 6 = s 0 6 + nI (ds_ c q) := by
    rw [← hz]
    simp (disch := omega) only [pt_a, pt_rr]
    rw [ha]
  have z7 : z 0 7 = mx_ (s 0 7) (mk - s 2 k) := by
    rw [← hz]
    simp (disch := omega) only [pt_a, pt_rr, hi]
    rfl
  have z8 : z 0 8 = s 0 8 + 1 := by
    rw [← hz]
    simp (disch := omega) only [pt_a, pt_rr]
  have z9 : z 0 9 = cost := by
    rw [← hz]
    simp (disch := omega) only [pt_a, pt_rr]
  have z10 : z 0 10 = s 1 k := by
    rw [← hz]
    simp (disch := omega) only [pt_a, pt_rr, hs]
  have z11 : z 0 11 = s 2 k := by
    rw [← hz]
    simp (disch := omega) only [pt_a, pt_rr, hi]
  have zo : ∀ o, o ≠ 0 → z o = s o := fun o ho => by
    rw [← hz]
    rw [pt_o ho, pt_o ho, pt_o ho, pt_o ho, pt_o ho, pt_o ho]
  refine wp_bn (remove_w z2 hk h20) (fun a' ha => wp_s ?_)
  obtain ⟨e0, hj⟩ := ha
  have e1 := zo 1 (by decide)
  have e2 := zo 2 (by decide)
  rw [e1, e2] at hj
  have hix : ix_ (s 1 k) = q := by rw [hq]; exact ix_n (by omega)
  have eo : ∀ j, j ≠ 2 → a' 0 j = z 0 j := fun j hj2 => by rw [e0]; exact up_n hj2
  refine ⟨by rw [eo 0 (by decide), z0], by rw [eo 1 (by decide), z1], by rw [e0]; exact up_a, by rw [eo 5 (by decide), z5], by rw [eo 6 (by decide), z6, hix], by rw [eo 7 (by decide), z7], by rw [eo 8 (by decide), z8], by rw [eo 9 (by decide), z9], by rw [eo 10 (by decide), z10], by rw [eo 11 (by decide), z11], hj⟩
end SERVE
theorem SA.of {a s a' : st_} {n k c : Nat} {cost u' mk : Int32} (h : SA s a' n k c cost u' mk) (h5 : s 0 5 = a 0 5) (h6 : s 0 6 = a 0 6) (h7 : s 0 7 = a 0 7) (h8 : s 0 8 = a 0 8) (e1 : s 1 = a 1) (e2 : s 2 = a 2) : SA a a' n k c cost u' mk := by
  unfold SA at h ⊢
  rw [h5, h6, h7, h8, e1, e2] at h
  exact h
section SERVE2
variable {a S : st_} {c n r R kind : Nat} {wd mk : Int32}
theorem serve_w (A : AC a c n) (hR : S 0 4 = nI R) (hr : r < R) (h6 : R ≤ 6) (hkd : S 1 r = nI kind) (hk4 : kind ≤ 4) (hwd : S 2 r = wd) : wp_ (fX0_serve a S (nI r) mk) (fun a' => (n = 0 ∧ a' = pt_ (pt_ (pt_ a 0 9 0) 0 10 (-1)) 0 11 (-1)) ∨ ∃ k, fm_ (ka_ a kind wd c) n k ∧ SA a a' n k c (pr_ (S 0 2) (S 0 3) c (ix_ (a 1 k))) (ru_ kind (ka_ a kind wd c k) (a 0 1)) mk) := by
  obtain ⟨hc, hn, h20, h1, hu, hq⟩ := A
  unfold fX0_serve
  refine wp_bne (kindOf_t hR hr h6) (wp_bne (widthOf_t hR hr h6) ?_)
  rw [hkd, hwd]
  refine wp_bn (choose_w hc hn h20 h1 hk4 hq) (fun i hi => wp_bd (wp_bd (wp_bd ?_)))
  rcases hi with ⟨hz, e⟩ | ⟨k, e, hf⟩
  · exact wp_it e (wp_s (Or.inl ⟨hz, rfl⟩))
  subst e
  have hkn := hf.1
  obtain ⟨q, _, hq2, hqe⟩ := (hq k hkn).ex
  have hix : ix_ (a 1 k) = q := by rw [hqe]; exact ix_n (by omega)
  refine wp_if' (nI_ne1 (by omega)) (wp_gd (ib_n (by omega) (by omega)) (wp_bd (wp_gd (ib_n (by omega) (by omega)) (wp_bd ?_))))
  rw [ix_n (by omega)]
  generalize hs : pt_ _ 0 11 _ = s
  have s0 : ∀ j, j ≠ 9 → j ≠ 10 → j ≠ 11 → s 0 j = a 0 j := fun j h9 h10 h11 => by
    rw [← hs]
    rw [pt_r h11, pt_r h10, pt_r h11, pt_r h10, pt_r h9]
  have s1 : s 1 = a 1 := by rw [← hs, pt_o (by decide), pt_o (by decide), pt_o (by decide), pt_o (by decide), pt_o (by decide)]
  have s2 : s 2 = a 2 := by rw [← hs, pt_o (by decide), pt_o (by decide), pt_o (by decide), pt_o (by decide), pt_o (by decide)]
  have s10 : s 0 10 = a 1 k := by
    rw [← hs, pt_r (by decide), pt_a, pt_o (by decide), pt_o (by decide), pt_o (by decide)]
  have s11 : s 0 11 = a 2 k := by
    rw [← hs, pt_a, pt_o (by decide), pt_o (by decide), pt_o (by decide), pt_o (by decide)]
  have go : ∀ z : st_, (∀ j, j ≠ 1 → z 0 j = s 0 j) → z 1 = s 1 → z 2 = s 2 → wp_ (fX0_serve_j108 S mk (nI k) z) (fun a' => SA a a' n k c (pr_ (S 0 2) (S 0 3) c (ix_ (a 1 k))) (z 0 1) mk) := fun z hz0 hz1 hz2 => by
    rw [hix]
    refine wp_m (serve_j (s := z) (c := c) (n := n) (k := k) (q := q) (by rw [hz0 0 (by decide), s0 0 (by decide) (by decide) (by decide), hc]) (by rw [hz0 2 (by decide), s0 2 (by decide) (by decide) (by decide), hn]) (by rw [hz0 10 (by decide), s10, hz1, s1]) (by rw [hz0 11 (by decide), s11, hz2, s2]) (by rw [hz1, s1, hqe]) hkn h20 h1 (by omega)) (fun a' ha' => ?_)
    exact ha'.of (by rw [hz0 5 (by decide), s0 5 (by decide) (by decide) (by decide)]) (by rw [hz0 6 (by decide), s0 6 (by decide) (by decide) (by decide)]) (by rw [hz0 7 (by decide), s0 7 (by decide) (by decide) (by decide)]) (by rw [hz0 8 (by decide), s0 8 (by decide) (by decide) (by decide)]) (by rw [hz1, s1]) (by rw [hz2, s2])
  have su : s 0 1 = a 0 1 := s0 1 (by decide) (by decide) (by decide)
  have plain : ¬ (kind = 2 ∧ 1000 ≤ ka_ a kind wd c k) → wp_ (fX0_serve_j108 S mk (nI k) s) (fun a' => (n = 0 ∧ a' = pt_ (pt_ (pt_ a 0 9 0) 0 10 (-1)) 0 11 (-1)) ∨ ∃ k, fm_ (ka_ a kind wd c) n k ∧ SA a a' n k c (pr_ (S 0 2) (S 0 3) c (ix_ (a 1 k))) (ru_ kind (ka_ a kind wd c k) (a 0 1)) mk) := fun hno => by
    refine wp_m (go s (fun _ _ => rfl) rfl rfl) (fun a' ha' => Or.inr ⟨k, hf, ?_⟩)
    unfold ru_
    rw [if_neg hno, ← su]
    exact ha'
  by_cases hk2 : kind = 2
  · subst hk2
    refine wp_it rfl ?_
    rw [s10, hqe]
    have hrk := rank_e (s := s) (kind := 2) (wd := wd) (c := c) (q := q) (by rw [s0 0 (by decide) (by decide) (by decide), hc]) (by omega) h1 (by omega)
    rw [su] at hrk
    have hka : ka_ a 2 wd c k = rk_ 2 wd (a 0 1) c q := by unfold ka_; rw [hix]
    have hlt : rk_ 2 wd (a 0 1) c q < 10000 := rk_lt h1 (by omega)
    refine wp_bne hrk ?_
    rcases Nat.lt_or_ge (rk_ 2 wd (a 0 1) c q) 1000 with h | h
    · exact wp_it (nI_lt (b := 1000) h (by omega)) (plain (by rw [hka]; omega))
    · refine wp_if' (nI_nlt (b := 1000) h (by omega)) ?_
      have flip : ∀ z : Int32, bz_ z = true → z = ru_ 2 (ka_ a 2 wd c k) (a 0 1) → wp_ (fX0_serve_j105 S mk (nI k) s z) (fun a' => (n = 0 ∧ a' = pt_ (pt_ (pt_ a 0 9 0) 0 10 (-1)) 0 11 (-1)) ∨ ∃ k, fm_ (ka_ a 2 wd c) n k ∧ SA a a' n k c (pr_ (S 0 2) (S 0 3) c (ix_ (a 1 k))) (ru_ 2 (ka_ a 2 wd c k) (a 0 1)) mk) := fun z hb hz => by
        unfold fX0_serve_j105
        refine wp_gd hb (wp_bd ?_)
        refine wp_m (go (pt_ s 0 1 z) (fun j hj => pt_r hj) (pt_o (by decide)) (pt_o (by decide))) (fun a' ha' => Or.inr ⟨k, hf, ?_⟩)
        rw [pt_a, hz] at ha'
        exact ha'
      rw [su]
      by_cases h0 : a 0 1 = 0
      · refine wp_it h0 (flip 1 (by decide) ?_)
        unfold ru_
        rw [if_pos ⟨rfl, by rw [hka]; exact h⟩, if_pos h0]
      · refine wp_if' h0 (flip 0 (by decide) ?_)
        unfold ru_
        rw [if_pos ⟨rfl, by rw [hka]; exact h⟩, if_neg h0]
  · exact wp_if' (fun z => hk2 ((nI_eq (by omega) (by omega)).mp z)) (plain (fun z => hk2 z.1))
end SERVE2
