/-! the least cost of a tour: the model's table, and that both say the same -/
section MTOUR
variable {s t u y S : st_} {m N n set c C R T : Nat} {pl : Nat → Nat} {x : Int32}
/-- where a tour stands: at a request, or (8) where the arm does -/
def ps8 (pl : Nat → Nat) (c : Nat) (p : Nat) : Nat := if p = 8 then c else pl p
/-- the row's arm itself, with the m requests -/
def TW (w : Nat → Int32) (pl : Nat → Nat) (c m : Nat) : Prop := w (ab_ 6) = nI c ∧ c < 100 ∧ ∀ i, i < m → w (ab_ 6 + 7 + 2 * i) = nI (pl i) ∧ pl i < 100
theorem through_e (hw : TW (u 1) pl c m) (hm : m ≤ 8) {p k : Nat} (hp : p = 8 ∨ p < m) (hk : k < m) (hs : set < 256) : fX8_through u (nI set) (nI p) (nI k) = some (pr_ (u 1 2) (u 1 3) (ps8 pl c p) (pl k) + u 9 (9 * so set k + k)) := by
  obtain ⟨w0, hc, wi⟩ := hw
  have hso := (b4_c set hs k (by omega)).2.1
  have er : (9 : Int32) * nI (so set k) + nI k = nI (9 * so set k + k) := by
    show nI 9 * nI (so set k) + nI k = _
    rw [pk_mul, nI_add]
  have ew : fX8_wayTo u (nI p) (nI k) = some (pr_ (u 1 2) (u 1 3) (ps8 pl c p) (pl k)) := by
    have ej : ∀ q, q < 100 → fX8_wayTo_j23 u (nI k) (nI q) = some (pr_ (u 1 2) (u 1 3) q (pl k)) := fun q hq => by
      unfold fX8_wayTo_j23
      rw [bn_e (show fX8_cylinderOf u (6 : Int32) (nI k) = _ from cylOf_e (m := 6) (by omega) (by omega)), (wi k hk).1, abs_ds (by omega) (by have := (wi k hk).2; omega), bn_e (costOf_d hq (wi k hk).2)]
    unfold fX8_wayTo ps8
    by_cases h8 : p = 8
    · subst h8
      rw [if_pos (show nI 8 = (8 : Int32) from rfl), if_pos rfl, bn_e (show fX8_armOf u (6 : Int32) (0 : Int32) = _ from armOf_0 (m := 6) (by omega)), w0, ej c hc]
    · have hpm : p < m := by omega
      rw [if_neg (show ¬ nI p = (8 : Int32) from fun z => h8 ((nI_eq (b := 8) (by omega) (by omega)).mp z)), if_neg h8, bn_e (show fX8_cylinderOf u (6 : Int32) (nI p) = _ from cylOf_e (m := 6) (by omega) (by omega)), (wi p hpm).1, ej _ (wi p hpm).2]
  unfold fX8_through fX8_restAt
  rw [bn_e ew, b2_c set hs k (by omega), bn_s, er, gd_t (ib_n (by omega) (by omega)), ix_n (by omega)]
/-- the least of all ways on -/
theorem lays76_w (hw : TW (u 1) pl c m) (hm : m ≤ 8) {p : Nat} (hp : p = 8 ∨ p < m) (hs : set < 256) (hx : ∃ k, k < m ∧ bt set k = false) : wp_ (fX8_laysRest_l76 (nI m) (nI set) (nI p) u FU_ ((2147483647 : Int32), (0 : Int32))) (fun x => mi_ set m (fun q => pr_ (u 1 2) (u 1 3) (ps8 pl c p) (pl q) + u 9 (9 * so set q + q)) x) := by
  generalize hf : (fun q => pr_ (u 1 2) (u 1 3) (ps8 pl c p) (pl q) + u 9 (9 * so set q + q)) = f
  have hf' : ∀ q, pr_ (u 1 2) (u 1 3) (ps8 pl c p) (pl q) + u 9 (9 * so set q + q) = f q := fun q => by rw [← hf]
  unfold fX8_laysRest_l76
  refine wp_up (fun k v => v.2 = nI k ∧ ((v.1 = 2147483647 ∧ ∀ j, j < k → bt set j = true) ∨ mi_ set k f v.1)) 0 m (Nat.zero_le _) (by omega) ⟨rfl, Or.inl ⟨rfl, fun j hj => absurd hj (by omega)⟩⟩ (fun k v hk _ hv => ?_) (fun v hv => ?_)
  · obtain ⟨v1, v2⟩ := v
    obtain ⟨e2, hv⟩ := hv
    dsimp only at e2 hv
    subst e2
    unfold fX8_laysRest_b76 fX8_laysRest_j107
    dsimp only
    rw [b3_c set hs k (by omega)]
    refine wp_if' (nI_ge hk (by omega)) ?_
    cases hb : bt set k with
    | false =>
      have e := through_e hw hm hp hk hs
      rw [hf'] at e
      refine wp_it (by rw [if_neg (by decide)]) (wp_bne e (wp_l ⟨nI_1 k, Or.inr ?_⟩))
      dsimp only
      rcases hv with ⟨e1, hall⟩ | ⟨i, i1, i2, i3, i4⟩
      · subst e1
        have ex : (if f k < (2147483647 : Int32) then f k else (2147483647 : Int32)) = f k := by
          by_cases h : f k < (2147483647 : Int32)
          · rw [if_pos h]
          · rw [if_neg h]
            exact Int32.le_antisymm (Int32.not_lt.mp h) (le_max32 _)
        rw [ex]
        refine ⟨k, by omega, hb, rfl, fun j hj hbj => ?_⟩
        by_cases hjk : j = k
        · subst hjk
          exact Int32.le_refl _
        · rw [hall j (by omega)] at hbj
          exact absurd hbj (by decide)
      · rw [i3]
        by_cases h : f k < f i
        · rw [if_pos h]
          refine ⟨k, by omega, hb, rfl, fun j hj hbj => ?_⟩
          by_cases hjk : j = k
          · subst hjk
            exact Int32.le_refl _
          · exact Int32.le_trans (Int32.le_of_lt h) (i4 j (by omega) hbj)
        · rw [if_neg h]
          refine ⟨i, by omega, i2, rfl, fun j hj hbj => ?_⟩
          by_cases hjk : j = k
          · subst hjk
            exact Int32.not_lt.mp h
          · exact i4 j (by omega) hbj
    | true =>
      refine wp_if' (by rw [if_pos rfl]; decide) (wp_l ⟨nI_1 k, ?_⟩)
      dsimp only
      rcases hv with ⟨e1, hall⟩ | ⟨i, i1, i2, i3, i4⟩
      · refine Or.inl ⟨e1, fun j hj => ?_⟩
        by_cases hjk : j = k
        · rw [hjk]; exact hb
        · exact hall j (by omega)
      · refine Or.inr ⟨i, by omega, i2, i3, fun j hj hbj => ?_⟩
        by_cases hjk : j = k
        · rw [hjk, hb] at hbj
          exact absurd hbj (by decide)
        · exact i4 j (by omega) hbj
  · obtain ⟨v1, v2⟩ := v
    obtain ⟨e2, hv⟩ := hv
    dsimp only at e2 hv
    subst e2
    unfold fX8_laysRest_b76
    dsimp only
    refine wp_it (Int32.le_refl _) (wp_r ?_)
    rcases hv with ⟨e1, hall⟩ | h
    · obtain ⟨k, k1, k2⟩ := hx
      rw [hall k k1] at k2
      exact absurd k2 (by decide)
    · exact h
/-- one set of the table -/
theorem lays42_w (hN : NB m N) (hw : TW (u 1) pl c m) (hm : m ≤ 8) (hs : set < N - 1) : wp_ (fX8_laysRest_l42 (nI m) (nI set) FU_ ((0 : Int32), u)) (fun u' => (∀ o, o ≠ 9 → u' o = u o) ∧ (∀ i, (i < 9 * set ∨ 9 * set + 9 ≤ i) → u' 9 i = u 9 i) ∧ ∀ p, (p = 8 ∨ (p < m ∧ bt set p = true)) → mi_ set m (fun q => pr_ (u 1 2) (u 1 3) (ps8 pl c p) (pl q) + u 9 (9 * so set q + q)) (u' 9 (9 * set + p))) := by
  obtain ⟨n1, n2, n3, n4, n5, n6, n7, n8⟩ := hN
  have hx : ∃ k, k < m ∧ bt set k = false := by
    rcases n4 set (by omega) with h | h
    · exact absurd h (by omega)
    · exact h
  unfold fX8_laysRest_l42
  refine wp_up (fun k v => v.1 = nI k ∧ (∀ o, o ≠ 9 → v.2 o = u o) ∧ (∀ i, (i < 9 * set ∨ 9 * set + 9 ≤ i) → v.2 9 i = u 9 i) ∧ ∀ p, p < k → (p = 8 ∨ (p < m ∧ bt set p = true)) → mi_ set m (fun q => pr_ (u 1 2) (u 1 3) (ps8 pl c p) (pl q) + u 9 (9 * so set q + q)) (v.2 9 (9 * set + p))) 0 9 (Nat.zero_le _) (by omega) ⟨rfl, fun _ _ => rfl, fun _ _ => rfl, fun p hp => absurd hp (by omega)⟩ (fun k v hk _ hv => ?_) (fun v hv => ?_)
  · obtain ⟨v1, y⟩ := v
    obtain ⟨e1, yo, y9, yp⟩ := hv
    dsimp only at e1 yo y9 yp
    subst e1
    have hso : ∀ q, q < m → bt set q = false → y 9 (9 * so set q + q) = u 9 (9 * so set q + q) := fun q hq hb => y9 _ (by have := ((b4_c set (by omega) q (by omega)).2.2.2 hb).1; omega)
    have er : (9 : Int32) * nI set + nI k = nI (9 * set + k) := by
      show nI 9 * nI set + nI k = _
      rw [pk_mul, nI_add]
    have skip : ∀ (P : st_ → Prop), ¬ (k = 8 ∨ (k < m ∧ bt set k = true)) → wp_ (fX8_laysRest_j126 (nI k) y) (Sum.elim (fun w => w.1 = nI (k + 1) ∧ (∀ o, o ≠ 9 → w.2 o = u o) ∧ (∀ i, (i < 9 * set ∨ 9 * set + 9 ≤ i) → w.2 9 i = u 9 i) ∧ ∀ p, p < k + 1 → (p = 8 ∨ (p < m ∧ bt set p = true)) → mi_ set m (fun q => pr_ (u 1 2) (u 1 3) (ps8 pl c p) (pl q) + u 9 (9 * so set q + q)) (w.2 9 (9 * set + p))) P) := fun P hn => by
      unfold fX8_laysRest_j126
      refine wp_l ⟨nI_1 k, yo, y9, fun p hp hpp => ?_⟩
      by_cases hpk : p = k
      · rw [hpk] at hpp
        exact absurd hpp hn
      · exact yp p (by omega) hpp
    have fin : ∀ (P : st_ → Prop), (k = 8 ∨ k < m) → wp_ (fX8_laysRest_j68 (nI m) (nI set) (nI k) y) (Sum.elim (fun w => w.1 = nI (k + 1) ∧ (∀ o, o ≠ 9 → w.2 o = u o) ∧ (∀ i, (i < 9 * set ∨ 9 * set + 9 ≤ i) → w.2 9 i = u 9 i) ∧ ∀ p, p < k + 1 → (p = 8 ∨ (p < m ∧ bt set p = true)) → mi_ set m (fun q => pr_ (u 1 2) (u 1 3) (ps8 pl c p) (pl q) + u 9 (9 * so set q + q)) (w.2 9 (9 * set + p))) P) := fun P hkp => by
      unfold fX8_laysRest_j68
      refine wp_bn (lays76_w (u := y) (pl := pl) (c := c) (m := m) (by rw [yo 1 (by decide)]; exact hw) hm hkp (by omega) hx) (fun x hxm => ?_)
      unfold fX8_laysRest_k76 fX8_laysRest_x76_113 fX8_laysRest_j126 fX8_restAt
      rw [bn_s, er, ix_n (by omega)]
      refine wp_gd (ib_n (by omega) (by omega)) (wp_bd (wp_l ⟨nI_1 k, fun o ho => (pt_o ho).trans (yo o ho), fun i hi => ?_, fun p hp hpp => ?_⟩))
      · dsimp only
        rw [pt_r (by omega)]
        exact y9 i hi
      · dsimp only
        by_cases hpk : p = k
        · subst hpk
          rw [pt_a]
          obtain ⟨i, i1, i2, i3, i4⟩ := hxm
          rw [yo 1 (by decide)] at i3 i4
          refine ⟨i, i1, i2, ?_, fun q hq hb => ?_⟩
          · dsimp only at i3 ⊢
            rw [← hso i i1 i2]
            exact i3
          · dsimp only at i4 ⊢
            rw [← hso i i1 i2, ← hso q hq hb]
            exact i4 q hq hb
        · rw [pt_r (by omega)]
          exact yp p (by omega) hpp
    unfold fX8_laysRest_b42
    dsimp only
    refine wp_if' (show ¬ (8 : Int32) < nI k from nI_nlt (a := 8) (by omega) (by omega)) (wp_if (fun h8 => ?_) (fun h8 => ?_))
    · have hk8 : k = 8 := by
        rcases Nat.lt_or_ge k 8 with h | h
        · exact absurd h8 (nI_ge (b := 8) h (by omega))
        · omega
      exact fin _ (Or.inl hk8)
    · have hk8 : k < 8 := by
        rcases Nat.lt_or_ge k 8 with h | h
        · exact h
        · exact absurd (show (8 : Int32) ≤ nI k from nI_le (a := 8) h (by omega)) h8
      rw [b3_c set (by omega) k hk8]
      cases hb : bt set k with
      | false => exact wp_it (by rw [if_neg (by decide)]) (skip _ (fun z => z.elim (fun z => absurd z (by omega)) (fun z => absurd (z.2.symm.trans hb) (by decide))))
      | true =>
        refine wp_if' (by rw [if_pos rfl]; decide) ?_
        by_cases hkm : k < m
        · exact fin _ (Or.inr hkm)
        · -- a bit above m is never set in a set below N
          exfalso
          rw [n8 set (by omega) k hk8 (by omega)] at hb
          exact absurd hb (by decide)
  · obtain ⟨v1, y⟩ := v
    obtain ⟨e1, yo, y9, yp⟩ := hv
    dsimp only at e1 yo y9 yp
    subst e1
    unfold fX8_laysRest_b42
    dsimp only
    exact wp_it (by decide) (wp_r ⟨yo, y9, fun p hp => yp p (by omega) hp⟩)
end MTOUR
