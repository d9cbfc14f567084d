/-! the least cost of a tour: the class's table -/
section CTOUR
variable {z z' a S : st_} {m N n set at' : Nat} {pl : Nat → Nat} {x : Int32}
theorem costOver_e {p k : Nat} (hp : z 1 p = nI (pl p)) (hk : z 1 k = nI (pl k)) (hp9 : p < 9) (hk8 : k < 8) (hs : set < 256) (h1 : pl p < 1000) (h2 : pl k < 1000) : fX6_costOver z S (nI set) (nI p) (nI k) = some (pr_ (S 0 2) (S 0 3) (pl p) (pl k) + z 2 (9 * so set k + k)) := by
  have hso := (b4_c set hs k hk8).2.1
  have ei : nI (so set k) * (9 : Int32) + nI k = nI (9 * so set k + k) := by
    show nI (so set k) * nI 9 + nI k = _
    rw [pk_mul, nI_add, Nat.mul_comm]
  unfold fX6_costOver
  rw [gd_t (ib_n (by omega) (by omega)), gd_t (ib_n (by omega) (by omega)), ix_n (by omega), ix_n (by omega), hp, hk, bn_e (price_e (by omega) (by omega)), b2_c set hs k hk8, ei, gd_t (ib_n (by omega) (by omega)), ix_n (by omega)]
theorem nextOf_w (hm : m ≤ 8) (h0 : z 0 0 = nI m) (hpl : ∀ i, i ≤ m → z 1 i = nI (pl i) ∧ pl i < 1000) {p : Nat} (hp : p ≤ m) (hs : set < 256) : wp_ (fX6_nextOf z S (nI set) (nI p)) (fun r => (r = -1 ∧ ∀ j, j < m → bt set j = true) ∨ ∃ i, r = nI i ∧ fi_ set m (fun q => pr_ (S 0 2) (S 0 3) (pl p) (pl q) + z 2 (9 * so set q + q)) i) := by
  generalize hf : (fun q => pr_ (S 0 2) (S 0 3) (pl p) (pl q) + z 2 (9 * so set q + q)) = f
  have hf' : ∀ q, pr_ (S 0 2) (S 0 3) (pl p) (pl q) + z 2 (9 * so set q + q) = f q := fun q => by rw [← hf]
  unfold fX6_nextOf fX6_nextOf_l9
  refine wp_bn (Q := fun r => (r = -1 ∧ ∀ j, j < m → bt set j = true) ∨ ∃ i, r = nI i ∧ fi_ set m f i) ?_ (fun r hr => wp_s hr)
  refine wp_up (fun k v => v.2.2 = nI k ∧ ((v.1 = -1 ∧ ∀ j, j < k → bt set j = true) ∨ ∃ i, v.1 = nI i ∧ v.2.1 = f i ∧ fi_ set k f i)) 0 m (Nat.zero_le _) (by omega) ⟨rfl, Or.inl ⟨rfl, fun j hj => absurd hj (by omega)⟩⟩ (fun k v hk _ hv => ?_) (fun v hv => ?_)
  · obtain ⟨v4, v5, v6⟩ := v
    obtain ⟨e6, hv⟩ := hv
    dsimp only at e6 hv
    subst e6
    unfold fX6_nextOf_b9 fX6_nextOf_j51 fX6_nextOf_j59
    dsimp only
    refine wp_if' (by rw [h0]; exact nI_ge hk (by omega)) (wp_if (fun hb => ?_) (fun hb => ?_))
    · have hb' := (b1_c set hs k (by omega)).mp hb
      have e := costOver_e (z := z) (S := S) (pl := pl) (set := set) (hpl p hp).1 (hpl k (by omega)).1 (by omega) (by omega) hs (hpl p hp).2 (hpl k (by omega)).2
      rw [hf'] at e
      refine wp_bne e ?_
      rcases hv with ⟨e4, hall⟩ | ⟨i, e4, e5, hi⟩
      · refine wp_it e4 (wp_l ⟨nI_1 k, Or.inr ⟨k, rfl, rfl, by omega, hb', fun j hj hbj => ?_⟩⟩)
        by_cases hjk : j = k
        · subst hjk
          exact Or.inr ⟨rfl, Nat.le_refl _⟩
        · have := hall j (by omega)
          rw [this] at hbj
          exact absurd hbj (by decide)
      · have hik := hi.1
        refine wp_if' (by rw [e4]; exact nI_ne1 (by omega)) ?_
        rw [e5]
        refine wp_if (fun hc => wp_l ⟨nI_1 k, Or.inr ⟨i, e4, rfl, by omega, hi.2.1, fun j hj hbj => ?_⟩⟩) (fun hc => wp_l ⟨nI_1 k, Or.inr ⟨k, rfl, rfl, by omega, hb', fun j hj hbj => ?_⟩⟩)
        · by_cases hjk : j = k
          · subst hjk
            by_cases he : f i = f j
            · exact Or.inr ⟨he, by omega⟩
            · exact Or.inl (Int32.lt_of_le_of_ne hc he)
          · exact hi.2.2 j (by omega) hbj
        · have hlt := Int32.not_le.mp hc
          by_cases hjk : j = k
          · subst hjk
            exact Or.inr ⟨rfl, Nat.le_refl _⟩
          · rcases hi.2.2 j (by omega) hbj with h | ⟨h, _⟩
            · exact Or.inl (Int32.lt_trans hlt h)
            · rw [← h]
              exact Or.inl hlt
    · have hb' := bt_n (fun h => hb ((b1_c set hs k (by omega)).mpr h))
      refine wp_l ⟨nI_1 k, ?_⟩
      rcases hv with ⟨e4, hall⟩ | ⟨i, e4, e5, hi⟩
      · refine Or.inl ⟨e4, fun j hj => ?_⟩
        by_cases hjk : j = k
        · rw [hjk]; exact hb'
        · exact hall j (by omega)
      · refine Or.inr ⟨i, e4, e5, by have := hi.1; omega, hi.2.1, fun j hj hbj => ?_⟩
        by_cases hjk : j = k
        · rw [hjk, hb'] at hbj
          exact absurd hbj (by decide)
        · exact hi.2.2 j (by omega) hbj
  · obtain ⟨v4, v5, v6⟩ := v
    obtain ⟨e6, hv⟩ := hv
    dsimp only at e6 hv
    subst e6
    unfold fX6_nextOf_b9
    dsimp only
    refine wp_it (by rw [h0]; exact Int32.le_refl _) (wp_r ?_)
    rcases hv with h | ⟨i, e4, _, hi⟩
    · exact Or.inl h
    · exact Or.inr ⟨i, e4, hi⟩
/-- one set of the table -/
theorem plan88_w (hN : NB m N) (hm : m ≤ 8) (h0 : z 0 0 = nI m) (hpl : ∀ i, i ≤ m → z 1 i = nI (pl i) ∧ pl i < 1000) (hs : set < N) : wp_ (fX6_plan_l88 S (nI set) FU_ ((0 : Int32), z)) (fun z' => z' 0 = z 0 ∧ z' 1 = z 1 ∧ (∀ i, (i < 9 * set ∨ 9 * set + 9 ≤ i) → z' 2 i = z 2 i) ∧ ∀ p, p ≤ m → (set = N - 1 → z' 2 (9 * set + p) = 0) ∧ (set ≠ N - 1 → mi_ set m (fun q => pr_ (S 0 2) (S 0 3) (pl p) (pl q) + z 2 (9 * so set q + q)) (z' 2 (9 * set + p)))) := by
  obtain ⟨n1, n2, n3, n4, n5, n6, n7, n8⟩ := hN
  unfold fX6_plan_l88
  refine wp_up (fun k v => v.1 = nI k ∧ v.2 0 = z 0 ∧ v.2 1 = z 1 ∧ (∀ i, (i < 9 * set ∨ 9 * set + 9 ≤ i) → v.2 2 i = z 2 i) ∧ ∀ p, p < k → (set = N - 1 → v.2 2 (9 * set + p) = 0) ∧ (set ≠ N - 1 → mi_ set m (fun q => pr_ (S 0 2) (S 0 3) (pl p) (pl q) + z 2 (9 * so set q + q)) (v.2 2 (9 * set + p)))) 0 (m + 1) (Nat.zero_le _) (by omega) ⟨rfl, rfl, rfl, fun _ _ => rfl, fun p hp => absurd hp (by omega)⟩ (fun k v hk _ hv => ?_) (fun v hv => ?_)
  · obtain ⟨v1, y⟩ := v
    obtain ⟨e1, y0, y1, y2, yp⟩ := hv
    dsimp only at e1 y0 y1 y2 yp
    subst e1
    have hso : ∀ q, q < m → bt set q = false → y 2 (9 * so set q + q) = z 2 (9 * so set q + q) := fun q hq hb => y2 _ (by have := ((b4_c set (by omega) q (by omega)).2.2.2 hb).1; omega)
    have ei : nI set * (9 : Int32) + nI k = nI (9 * set + k) := by
      show nI set * nI 9 + nI k = _
      rw [pk_mul, nI_add, Nat.mul_comm]
    have fin : ∀ (P : st_ → Prop) (x : Int32), ((set = N - 1 → x = 0) ∧ (set ≠ N - 1 → mi_ set m (fun q => pr_ (S 0 2) (S 0 3) (pl k) (pl q) + z 2 (9 * so set q + q)) x)) → wp_ (fX6_plan_j141 (nI set) (nI k) y x) (Sum.elim (fun w => w.1 = nI (k + 1) ∧ w.2 0 = z 0 ∧ w.2 1 = z 1 ∧ (∀ i, (i < 9 * set ∨ 9 * set + 9 ≤ i) → w.2 2 i = z 2 i) ∧ ∀ p, p < k + 1 → (set = N - 1 → w.2 2 (9 * set + p) = 0) ∧ (set ≠ N - 1 → mi_ set m (fun q => pr_ (S 0 2) (S 0 3) (pl p) (pl q) + z 2 (9 * so set q + q)) (w.2 2 (9 * set + p)))) P) := fun P x hx => by
      unfold fX6_plan_j141
      rw [ei, ix_n (by omega)]
      refine wp_gd (ib_n (by omega) (by omega)) (wp_bd (wp_l ⟨nI_1 k, by dsimp only; rw [pt_o (by decide)]; exact y0, by dsimp only; rw [pt_o (by decide)]; exact y1, fun i hi => ?_, fun p hp => ?_⟩))
      · dsimp only
        rw [pt_r (by omega)]
        exact y2 i hi
      · dsimp only
        by_cases hpk : p = k
        · subst hpk
          rw [pt_a]
          exact hx
        · rw [pt_r (by omega)]
          exact yp p (by omega)
    unfold fX6_plan_b88
    dsimp only
    refine wp_if' (by rw [y0, h0]; exact nI_nlt (by omega) (by omega)) ?_
    refine wp_bn (nextOf_w (z := y) (S := S) (pl := pl) hm (by rw [y0]; exact h0) (fun i hi => by rw [y1]; exact hpl i hi) (p := k) (by omega) (by omega)) (fun r hr => ?_)
    rcases hr with ⟨er, hall⟩ | ⟨i, er, hi⟩
    · refine wp_it er (fin _ 0 ⟨fun _ => rfl, fun hne => ?_⟩)
      rcases n4 set hs with h | ⟨q, hq, hb⟩
      · exact absurd h hne
      · rw [hall q hq] at hb
        exact absurd hb (by decide)
    · have him := hi.1
      subst er
      have e := costOver_e (z := y) (S := S) (pl := pl) (set := set) (by rw [y1]; exact (hpl k (by omega)).1) (by rw [y1]; exact (hpl i (by omega)).1) (by omega) (by omega) (by omega) (hpl k (by omega)).2 (hpl i (by omega)).2
      refine wp_if' (nI_ne1 (by omega)) (wp_bne e (fin _ _ ⟨fun hN => ?_, fun _ => ?_⟩))
      · have := n5 i him
        rw [← hN, hi.2.1] at this
        exact absurd this (by decide)
      · obtain ⟨j, j1, j2, j3, j4⟩ := hi.mi
        refine ⟨j, j1, j2, ?_, fun q hq hb => ?_⟩
        · dsimp only at j3 ⊢
          rw [← hso j j1 j2]
          exact j3
        · dsimp only at j4 ⊢
          rw [← hso j j1 j2, ← hso q hq hb]
          exact j4 q hq hb
  · obtain ⟨v1, y⟩ := v
    obtain ⟨e1, y0, y1, y2, yp⟩ := hv
    dsimp only at e1 y0 y1 y2 yp
    subst e1
    unfold fX6_plan_b88
    dsimp only
    exact wp_it (by rw [y0, h0]; exact nI_lt (by omega) (by omega)) (wp_r ⟨y0, y1, y2, fun p hp => yp p (by omega)⟩)
theorem plan80_w (hN : NB m N) (hm : m ≤ 8) (h0 : z 0 0 = nI m) (hpl : ∀ i, i ≤ m → z 1 i = nI (pl i) ∧ pl i < 1000) : wp_ (fX6_plan_l80 S FU_ (nI (N - 1), z)) (fun z' => z' 0 = z 0 ∧ z' 1 = z 1 ∧ ∀ set, set < N → EQ_ (fun s p => z' 2 (9 * s + p)) pl pl (S 0 2) (S 0 3) m m N set) := by
  have hN' := hN
  obtain ⟨n1, n2, n3, n4, n5, n6, n7, n8⟩ := hN'
  unfold fX6_plan_l80
  refine wp_up (fun j v => (j < N → v.1 = nI (N - 1 - j)) ∧ (j = N → v.1 = -1) ∧ v.2 0 = z 0 ∧ v.2 1 = z 1 ∧ ∀ set, N - j ≤ set → set < N → EQ_ (fun s p => v.2 2 (9 * s + p)) pl pl (S 0 2) (S 0 3) m m N set) 0 N (Nat.zero_le _) (by omega) ⟨fun _ => rfl, fun h => absurd h (by omega), rfl, rfl, fun set h1 h2 => absurd h2 (by omega)⟩ (fun j v hj _ hv => ?_) (fun v hv => ?_)
  · obtain ⟨v1, y⟩ := v
    obtain ⟨e1, -, y0, y1, yE⟩ := hv
    dsimp only at e1 y0 y1 yE
    have e1 := e1 hj
    subst e1
    unfold fX6_plan_b80
    dsimp only
    refine wp_if' (nI_pos (by omega)) ?_
    refine wp_bn (plan88_w (z := y) (S := S) (pl := pl) (set := N - 1 - j) hN hm (by rw [y0]; exact h0) (fun i hi => by rw [y1]; exact hpl i hi) (by omega)) (fun u hu => ?_)
    obtain ⟨u0, u1, u2, uP⟩ := hu
    unfold fX6_plan_k88 fX6_plan_x88_148
    refine wp_l ⟨fun hj2 => ?_, fun hj2 => ?_, u0.trans y0, u1.trans y1, fun set h1 h2 => ?_⟩
    · have e : N - 1 - j = (N - 1 - (j + 1)) + 1 := by omega
      dsimp only
      rw [e, nI_dec]
    · have e : N - 1 - j = 0 := by omega
      dsimp only
      rw [e]
      rfl
    · by_cases hc : set = N - 1 - j
      · subst hc
        intro p hp
        have hpm : p ≤ m := by rcases hp with a | a <;> omega
        obtain ⟨q1, q2⟩ := uP p hpm
        refine ⟨q1, fun hne => ?_⟩
        obtain ⟨i, i1, i2, i3, i4⟩ := q2 hne
        have hso : ∀ q, q < m → bt (N - 1 - j) q = false → u 2 (9 * so (N - 1 - j) q + q) = y 2 (9 * so (N - 1 - j) q + q) := fun q hq hb => u2 _ (by have := ((b4_c (N - 1 - j) (by omega) q (by omega)).2.2.2 hb).1; omega)
        refine ⟨i, i1, i2, ?_, fun q hq hb => ?_⟩
        · dsimp only at i3 ⊢
          rw [hso i i1 i2]
          exact i3
        · dsimp only at i4 ⊢
          rw [hso i i1 i2, hso q hq hb]
          exact i4 q hq hb
      · exact (yE set (by omega) h2).ext hm hm (by omega) (fun s p hs hp => u2 _ (by omega))
  · obtain ⟨v1, y⟩ := v
    obtain ⟨-, e1, y0, y1, yE⟩ := hv
    dsimp only at e1 y0 y1 yE
    have e1 := e1 rfl
    subst e1
    unfold fX6_plan_b80
    dsimp only
    exact wp_it (by decide) (wp_r ⟨y0, y1, fun set hs => yE set (by omega) hs⟩)
theorem plan_w (hN : NB m N) (hm : m ≤ 8) (hn : a 0 2 = nI n) (hmn : m ≤ n) (h20 : n ≤ 20) (hpl : ∀ i, i < m → a 1 i = nI (pl i) ∧ pl i < 1000) (hc : a 0 0 = nI (pl m) ∧ pl m < 1000) : wp_ (fX6_plan z S a (nI m)) (fun z' => z' 0 0 = nI m ∧ (∀ i, i ≤ m → z' 1 i = nI (pl i) ∧ pl i < 1000) ∧ ∀ set, set < N → EQ_ (fun s p => z' 2 (9 * s + p)) pl pl (S 0 2) (S 0 3) m m N set) := by
  unfold fX6_plan
  have e1 : (if (8 : Int32) < (a 0 2) then (8 : Int32) else (a 0 2)) = nI (if 8 < n then 8 else n) := by
    rw [hn]
    by_cases h : 8 < n
    · rw [if_pos (show (8 : Int32) < nI n from nI_lt (a := 8) h (by omega)), if_pos h]
      rfl
    · rw [if_neg (show ¬ (8 : Int32) < nI n from nI_nlt (a := 8) (by omega) (by omega)), if_neg h]
  have e2 : (if nI (if 8 < n then 8 else n) < nI m then nI (if 8 < n then 8 else n) else nI m) = nI m := by
    rw [if_neg (nI_nlt (by split <;> omega) (by split <;> omega))]
  have e3 : (if (0 : Int32) < nI m then nI m else (0 : Int32)) = nI m := by
    by_cases h : 0 < m
    · rw [if_pos (show (0 : Int32) < nI m from nI_lt (a := 0) h (by omega))]
    · have e : m = 0 := by omega
      subst e
      rw [if_neg (show ¬ (0 : Int32) < nI 0 by decide)]
      rfl
  rw [e1, e2, e3, bd_e]
  generalize hz1 : pt_ z 0 0 (nI m) = z1
  have z10 : z1 0 0 = nI m := by rw [← hz1, pt_a]
  unfold fX6_plan_l24
  refine wp_bn (Q := fun y => y 0 0 = nI m ∧ ∀ i, i < m → y 1 i = nI (pl i)) ?_ (fun y hy => ?_)
  · refine wp_up (fun k v => v.1 = nI k ∧ v.2 0 0 = nI m ∧ ∀ i, i < k → v.2 1 i = nI (pl i)) 0 m (Nat.zero_le _) (by omega) ⟨rfl, z10, fun i hi => absurd hi (by omega)⟩ (fun k v hk _ hv => ?_) (fun v hv => ?_)
    · obtain ⟨v1, y⟩ := v
      obtain ⟨b1, b2, b3⟩ := hv
      dsimp only at b1 b2 b3
      subst b1
      unfold fX6_plan_b24
      dsimp only
      rw [ix_n (show k < 2147483648 by omega)]
      refine wp_if' (by rw [b2]; exact nI_ge hk (by omega)) (wp_gd (ib_n (by omega) (by omega)) (wp_gd (ib_n (by omega) (by omega)) (wp_bd (wp_l ⟨nI_1 k, by dsimp only; rw [pt_oo (by decide)]; exact b2, fun i hi => ?_⟩))))
      dsimp only
      by_cases hik : i = k
      · subst hik
        rw [pt_a]
        exact (hpl i hk).1
      · rw [pt_r hik]
        exact b3 i (by omega)
    · obtain ⟨v1, y⟩ := v
      obtain ⟨b1, b2, b3⟩ := hv
      dsimp only at b1 b2 b3
      subst b1
      unfold fX6_plan_b24
      dsimp only
      exact wp_it (by rw [b2]; exact Int32.le_refl _) (wp_r ⟨b2, b3⟩)
  · obtain ⟨y0, y1⟩ := hy
    unfold fX6_plan_k24 fX6_plan_x24_53
    rw [y0, ix_n (show m < 2147483648 by omega)]
    refine wp_gd (ib_n (by omega) (by omega)) (wp_bd ?_)
    generalize hu : pt_ y 1 m (a 0 0) = u
    have u0 : u 0 0 = nI m := by rw [← hu, pt_oo (by decide), y0]
    have u1 : ∀ i, i ≤ m → u 1 i = nI (pl i) ∧ pl i < 1000 := fun i hi => by
      by_cases him : i = m
      · subst him
        rw [← hu, pt_a]
        exact hc
      · rw [← hu, pt_r him]
        exact ⟨y1 i (by omega), (hpl i (by omega)).2⟩
    rw [u0, hN.2.2.2.2.2.2.1]
    refine wp_bn (plan80_w (z := u) (S := S) (pl := pl) hN hm u0 u1) (fun w hw => ?_)
    obtain ⟨w0, w1, wE⟩ := hw
    unfold fX6_plan_k80 fX6_plan_x80_154
    exact wp_s ⟨by rw [w0]; exact u0, fun i hi => by rw [w1]; exact u1 i hi, wE⟩
end CTOUR
