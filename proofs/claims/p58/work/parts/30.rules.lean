/-! the rule that a master takes -/
/-- the first of the least, by comparing on and on -/
def bst (f : Nat → Int32) : Nat → Nat
  | 0 => 0
  | k + 1 => if f (bst f k) ≤ f (k + 1) then bst f k else k + 1
theorem bst_le {f : Nat → Int32} : ∀ k, bst f k ≤ k
  | 0 => Nat.le_refl _
  | k + 1 => by
    have := bst_le (f := f) k
    unfold bst
    split <;> omega
theorem bst_congr {f g : Nat → Int32} : ∀ k, (∀ r, r ≤ k → f r = g r) → bst f k = bst g k
  | 0, _ => rfl
  | k + 1, h => by
    have e := bst_congr k (fun r hr => h r (by omega))
    have hb := bst_le (f := g) k
    unfold bst
    rw [e, h (k + 1) (by omega), h (bst g k) (by omega)]
def wsm (f : Nat → Int32) : Nat → Int32
  | 0 => 0
  | k + 1 => wsm f k + f k
theorem wsm_congr {f g : Nat → Int32} : ∀ k, (∀ r, r < k → f r = g r) → wsm f k = wsm g k
  | 0, _ => rfl
  | k + 1, h => by
    unfold wsm
    rw [wsm_congr k (fun r hr => h r (by omega)), h k (by omega)]
def nsm (F : Nat → Nat) : Nat → Nat
  | 0 => 0
  | k + 1 => nsm F k + F k
theorem wsm_n {f : Nat → Int32} {F : Nat → Nat} : ∀ k, (∀ r, r < k → f r = nI (F r)) → wsm f k = nI (nsm F k)
  | 0, _ => rfl
  | k + 1, h => by
    unfold wsm nsm
    rw [wsm_n k (fun r hr => h r (by omega)), h k (by omega), nI_add]
theorem nsm_mono {F : Nat → Nat} {a b : Nat} (h : a ≤ b) : nsm F a ≤ nsm F b := by
  induction b with
  | zero => rw [Nat.le_zero.mp h]; exact Nat.le_refl _
  | succ b ih =>
    rcases Nat.lt_or_ge b a with h2 | h2
    · have e : a = b + 1 := by omega
      rw [e]; exact Nat.le_refl _
    · exact Nat.le_trans (ih h2) (Nat.le_add_right _ _)
theorem nsm_b {F : Nat → Nat} {M : Nat} : ∀ k, (∀ r, r < k → F r ≤ M) → nsm F k ≤ k * M
  | 0, _ => Nat.zero_le _
  | k + 1, h => by
    unfold nsm
    have h1 := nsm_b k (fun r hr => h r (by omega))
    have h2 := h k (by omega)
    rw [Nat.succ_mul]
    omega
section RULES
variable {d t : st_} {R : Nat}
theorem cheapest_e (hR : d 1 4 = nI R) (h1 : 1 ≤ R) (h6 : R ≤ 6) : fX1_cheapestRule d = some (nI (bst (fun r => d (3 * r + 15) 5) (R - 1))) := by
  generalize hf : (fun r => d (3 * r + 15) 5) = f
  have hf' : ∀ r, d (3 * r + 15) 5 = f r := fun r => by rw [← hf]
  suffices h : wp_ (fX1_cheapestRule d) (fun x => x = nI (bst f (R - 1))) by
    obtain ⟨x, e, hx⟩ := h
    rw [e, hx]
  unfold fX1_cheapestRule fX1_cheapestRule_l4
  refine wp_bn (Q := fun x => x = nI (bst f (R - 1))) ?_ (fun x hx => wp_s hx)
  refine wp_up (fun k v => v.2 = nI k ∧ v.1 = nI (bst f (k - 1))) 1 R h1 (by omega) ⟨rfl, rfl⟩ (fun k v hk hk1 hv => ?_) (fun v hv => ?_)
  · obtain ⟨v1, v2⟩ := v
    obtain ⟨e2, e1⟩ := hv
    dsimp only at e1 e2
    subst e1 e2
    have hb := bst_le (f := f) (k - 1)
    have i1 : ix_ (nI k) = k := ix_n (by omega)
    have i2 : ix_ (nI (bst f (k - 1))) = bst f (k - 1) := ix_n (by omega)
    unfold fX1_cheapestRule_b4
    simp only [i1, i2, hf']
    refine wp_if' (by rw [hR]; exact nI_ge hk (by omega)) (wp_gd (ib_n (by omega) (by omega)) (wp_gd (ib_n (by omega) (by omega)) ?_))
    obtain ⟨y, rfl⟩ : ∃ y, k = y + 1 := ⟨k - 1, by omega⟩
    rw [Nat.add_sub_cancel]
    refine wp_if (fun h => wp_l ⟨nI_1 _, ?_⟩) (fun h => wp_l ⟨nI_1 _, ?_⟩)
    · show nI (bst f y) = nI (bst f (y + 1))
      rw [bst, if_pos h]
    · show nI (y + 1) = nI (bst f (y + 1))
      rw [bst, if_neg h]
  · obtain ⟨v1, v2⟩ := v
    obtain ⟨e2, e1⟩ := hv
    dsimp only at e1 e2
    subst e1 e2
    unfold fX1_cheapestRule_b4
    exact wp_it (by rw [hR]; exact Int32.le_refl _) (wp_r rfl)
theorem bestRule_e (hR : t 1 4 = nI R) (h1 : 1 ≤ R) (h6 : R ≤ 6) : fX8_bestRule t = some (nI (bst (fun r => t 1 (ab_ r + 3)) (R - 1))) := by
  generalize hf : (fun r => t 1 (ab_ r + 3)) = f
  have hf' : ∀ r, t 1 (ab_ r + 3) = f r := fun r => by rw [← hf]
  suffices h : wp_ (fX8_bestRule t) (fun x => x = nI (bst f (R - 1))) by
    obtain ⟨x, e, hx⟩ := h
    rw [e, hx]
  unfold fX8_bestRule fX8_bestRule_l4
  refine wp_bn (Q := fun x => x = nI (bst f (R - 1))) ?_ (fun x hx => wp_s hx)
  refine wp_up (fun k v => v.2 = nI k ∧ v.1 = nI (bst f (k - 1))) 1 R h1 (by omega) ⟨rfl, rfl⟩ (fun k v hk hk1 hv => ?_) (fun v hv => ?_)
  · obtain ⟨v1, v2⟩ := v
    obtain ⟨e2, e1⟩ := hv
    dsimp only at e1 e2
    subst e1 e2
    have hb := bst_le (f := f) (k - 1)
    unfold fX8_bestRule_b4
    simp only [i4_]
    refine wp_gd b4_ (wp_if' (by rw [hR]; exact nI_ge hk (by omega)) (wp_bne (armOf_3 (by omega)) (wp_bne (armOf_3 (by omega)) ?_)))
    rw [hf', hf']
    obtain ⟨y, rfl⟩ : ∃ y, k = y + 1 := ⟨k - 1, by omega⟩
    rw [Nat.add_sub_cancel]
    refine wp_if (fun h => wp_l ⟨nI_1 _, ?_⟩) (fun h => wp_l ⟨nI_1 _, ?_⟩)
    · show nI (bst f y) = nI (bst f (y + 1))
      rw [bst, if_pos h]
    · show nI (y + 1) = nI (bst f (y + 1))
      rw [bst, if_neg h]
  · obtain ⟨v1, v2⟩ := v
    obtain ⟨e2, e1⟩ := hv
    dsimp only at e1 e2
    subst e1 e2
    unfold fX8_bestRule_b4
    simp only [i4_]
    exact wp_gd b4_ (wp_it (by rw [hR]; exact Int32.le_refl _) (wp_r rfl))
theorem weightSum_e (hR : d 1 4 = nI R) (h6 : R ≤ 6) : fX1_weightSum d = some (wsm (d 12) R) := by
  suffices h : wp_ (fX1_weightSum d) (fun x => x = wsm (d 12) R) by
    obtain ⟨x, e, hx⟩ := h
    rw [e, hx]
  unfold fX1_weightSum fX1_weightSum_l4
  refine wp_bn (Q := fun x => x = wsm (d 12) R) ?_ (fun x hx => wp_s hx)
  refine wp_up (fun k v => v.2 = nI k ∧ v.1 = wsm (d 12) k) 0 R (Nat.zero_le _) (by omega) ⟨rfl, rfl⟩ (fun k v hk hk1 hv => ?_) (fun v hv => ?_)
  · obtain ⟨v1, v2⟩ := v
    obtain ⟨e2, e1⟩ := hv
    dsimp only at e1 e2
    subst e1 e2
    have i1 : ix_ (nI k) = k := ix_n (by omega)
    unfold fX1_weightSum_b4
    simp only [i1]
    exact wp_if' (by rw [hR]; exact nI_ge hk (by omega)) (wp_gd (ib_n (by omega) (by omega)) (wp_l ⟨nI_1 _, rfl⟩))
  · obtain ⟨v1, v2⟩ := v
    obtain ⟨e2, e1⟩ := hv
    dsimp only at e1 e2
    subst e1 e2
    unfold fX1_weightSum_b4
    exact wp_it (by rw [hR]; exact Int32.le_refl _) (wp_r rfl)
theorem weights_e (hR : t 1 4 = nI R) (h6 : R ≤ 6) : fX8_weights t = some (wsm (fun r => t 1 (26 + 5 * r + 2)) R) := by
  suffices h : wp_ (fX8_weights t) (fun x => x = wsm (fun r => t 1 (26 + 5 * r + 2)) R) by
    obtain ⟨x, e, hx⟩ := h
    rw [e, hx]
  unfold fX8_weights fX8_weights_l4
  refine wp_bn (Q := fun x => x = wsm (fun r => t 1 (26 + 5 * r + 2)) R) ?_ (fun x hx => wp_s hx)
  refine wp_up (fun k v => v.2 = nI k ∧ v.1 = wsm (fun r => t 1 (26 + 5 * r + 2)) k) 0 R (Nat.zero_le _) (by omega) ⟨rfl, rfl⟩ (fun k v hk hk1 hv => ?_) (fun v hv => ?_)
  · obtain ⟨v1, v2⟩ := v
    obtain ⟨e2, e1⟩ := hv
    dsimp only at e1 e2
    subst e1 e2
    unfold fX8_weights_b4
    simp only [i4_]
    exact wp_gd b4_ (wp_if' (by rw [hR]; exact nI_ge hk (by omega)) (wp_bne (of_2 (by omega)) (wp_l ⟨nI_1 _, rfl⟩)))
  · obtain ⟨v1, v2⟩ := v
    obtain ⟨e2, e1⟩ := hv
    dsimp only at e1 e2
    subst e1 e2
    unfold fX8_weights_b4
    simp only [i4_]
    exact wp_gd b4_ (wp_it (by rw [hR]; exact Int32.le_refl _) (wp_r rfl))
theorem seedBehind_e {s : Nat} (hs : s ≤ 32767) : fX1_seedBehind (nI s) = some (nI ((1103 * s + 12345) % 32768)) := by
  unfold fX1_seedBehind
  show some ((nI 1103 * nI s + nI 12345) - (nI 1103 * nI s + nI 12345) / nI 32768 * nI 32768) = _
  rw [pk_mul, nI_add, pk_rem (by omega) (by omega) (by omega)]
theorem drawn_e {s : Nat} (hs : s ≤ 32767) : fX8_drawn t (nI s) = some (nI ((1103 * s + 12345) % 32768)) := by
  unfold fX8_drawn
  rw [nI_l (by omega)]
  show some (((lN 1103 * lN s + lN 12345) - (lN 1103 * lN s + lN 12345) / lN 32768 * lN 32768).toInt32) = _
  rw [lN_mul, lN_add, pk_lRem (by omega) (by omega) (by omega), lN_i]
/-- a draw: the rule in whose part of the weights it falls -/
def dr_ (F : Nat → Nat) (R L r : Nat) : Prop := r < R ∧ nsm F r ≤ L ∧ L < nsm F (r + 1)
theorem dr_u {F : Nat → Nat} {L r r' : Nat} (h : dr_ F R L r) (h' : dr_ F R L r') : r = r' := by
  obtain ⟨a1, a2, a3⟩ := h
  obtain ⟨b1, b2, b3⟩ := h'
  rcases Nat.lt_or_ge r r' with h | h
  · have := nsm_mono (F := F) (a := r + 1) (b := r') (by omega)
    omega
  · rcases Nat.lt_or_ge r' r with h2 | h2
    · have := nsm_mono (F := F) (a := r' + 1) (b := r) (by omega)
      omega
    · omega
theorem ruleDrawn_w {F : Nat → Nat} {s : Nat} (hR : d 1 4 = nI R) (h1 : 1 ≤ R) (h6 : R ≤ 6) (hw : ∀ r, r < R → d 12 r = nI (F r) ∧ 1 ≤ F r ∧ F r ≤ 1000000) (hs : s ≤ 32767) : wp_ (fX1_ruleDrawn d (nI s)) (fun x => ∃ r, x = nI r ∧ dr_ F R (s % nsm F R) r) := by
  have hsum := nsm_b (F := F) (M := 1000000) R (fun r hr => (hw r hr).2.2)
  have hpos : 0 < nsm F R := by
    have h2 := nsm_mono (F := F) (a := 1) (b := R) h1
    have h3 := (hw 0 (by omega)).2.1
    have : nsm F 1 = F 0 := by unfold nsm nsm; omega
    omega
  have hle : R * 1000000 ≤ 6000000 := by omega
  unfold fX1_ruleDrawn
  refine wp_bne (weightSum_e hR h6) ?_
  rw [wsm_n (F := F) R (fun r hr => (hw r hr).1)]
  refine wp_if' (nI_nle hpos (by omega)) (wp_gd ?_ ?_)
  · unfold nz_
    exact decide_eq_true (nI_ne0 hpos (by omega))
  rw [pk_rem (by omega) hpos (by omega)]
  have hL : s % nsm F R < nsm F R := Nat.mod_lt _ hpos
  generalize s % nsm F R = L at hL
  unfold fX1_ruleDrawn_j16 fX1_ruleDrawn_l20
  refine wp_bn (Q := fun y => Sum.elim (fun x => ∃ r, x = nI r ∧ dr_ F R L r) (fun _ => False) y) ?_ (fun y hy => ?_)
  · refine wp_up (fun k v => v.2 = nI k ∧ v.1 = nI (L - nsm F k) ∧ nsm F k ≤ L) 0 R (Nat.zero_le _) (by omega) ⟨rfl, rfl, Nat.zero_le _⟩ (fun k v hk hk1 hv => ?_) (fun v hv => ?_)
    · obtain ⟨v1, v2⟩ := v
      obtain ⟨e2, e1, hkL⟩ := hv
      dsimp only at e1 e2
      subst e1 e2
      have i1 : ix_ (nI k) = k := ix_n (by omega)
      obtain ⟨w1, w2, w3⟩ := hw k hk
      have e : nsm F (k + 1) = nsm F k + F k := rfl
      unfold fX1_ruleDrawn_b20
      simp only [i1]
      refine wp_if' (by rw [hR]; exact nI_ge hk (by omega)) (wp_gd (ib_n (by omega) (by omega)) ?_)
      rw [w1]
      rcases Nat.lt_or_ge (L - nsm F k) (F k) with h | h
      · exact wp_if' (nI_ge h (by omega)) (wp_r ⟨k, rfl, hk, hkL, by omega⟩)
      · refine wp_it (nI_le h (by omega)) (wp_gd (ib_n (by omega) (by omega)) (wp_l ⟨nI_1 _, ?_, by omega⟩))
        show nI (L - nsm F k) - nI (F k) = _
        rw [pk_sub h]
        congr 1
        omega
    · obtain ⟨v1, v2⟩ := v
      obtain ⟨e2, e1, hkL⟩ := hv
      omega
  · cases y with
    | inl x => exact wp_s hy
    | inr x => exact hy.elim
theorem takenBy_w {F : Nat → Nat} {s : Nat} {kept : Int32} (hR : t 1 4 = nI R) (h1 : 1 ≤ R) (h6 : R ≤ 6) (hw : ∀ r, r < R → t 1 (26 + 5 * r + 2) = nI (F r) ∧ 1 ≤ F r ∧ F r ≤ 1000000) (hs : s ≤ 32767) : wp_ (fX8_takenBy t 0 kept (nI s)) (fun x => ∃ r, x = nI r ∧ dr_ F R (s % nsm F R) r) := by
  have hsum := nsm_b (F := F) (M := 1000000) R (fun r hr => (hw r hr).2.2)
  have hpos : 0 < nsm F R := by
    have h2 := nsm_mono (F := F) (a := 1) (b := R) h1
    have h3 := (hw 0 (by omega)).2.1
    have : nsm F 1 = F 0 := by unfold nsm nsm; omega
    omega
  have hle : R * 1000000 ≤ 6000000 := by omega
  unfold fX8_takenBy
  refine wp_if' (by decide) (wp_if' (by decide) (wp_bne (weights_e hR h6) ?_))
  rw [wsm_n (f := fun r => t 1 (26 + 5 * r + 2)) (F := F) R (fun r hr => (hw r hr).1)]
  refine wp_gd ?_ ?_
  · unfold nz_
    exact decide_eq_true (nI_ne0 hpos (by omega))
  rw [pk_rem (by omega) hpos (by omega)]
  have hL : s % nsm F R < nsm F R := Nat.mod_lt _ hpos
  generalize s % nsm F R = L at hL
  unfold fX8_takenBy_l28
  refine wp_bn (Q := fun x => ∃ r, x = nI r ∧ dr_ F R L r) ?_ (fun x hx => wp_s hx)
  refine wp_up (fun k v => v.2 = nI k ∧ v.1 = nI (L - nsm F k) ∧ nsm F k ≤ L) 0 R (Nat.zero_le _) (by omega) ⟨rfl, rfl, Nat.zero_le _⟩ (fun k v hk hk1 hv => ?_) (fun v hv => ?_)
  · obtain ⟨v1, v2⟩ := v
    obtain ⟨e2, e1, hkL⟩ := hv
    dsimp only at e1 e2
    subst e1 e2
    obtain ⟨w1, w2, w3⟩ := hw k hk
    have e : nsm F (k + 1) = nsm F k + F k := rfl
    unfold fX8_takenBy_b28
    refine wp_bne (of_2 (by omega)) ?_
    rw [w1]
    rcases Nat.lt_or_ge (L - nsm F k) (F k) with h | h
    · exact wp_it (nI_lt h (by omega)) (wp_r ⟨k, rfl, hk, hkL, by omega⟩)
    · refine wp_if' (nI_nlt h (by omega)) (wp_bne (of_2 (by omega)) (wp_l ⟨nI_1 _, ?_, by omega⟩))
      dsimp only
      rw [w1, pk_sub h]
      congr 1
      omega
  · obtain ⟨v1, v2⟩ := v
    obtain ⟨e2, e1, hkL⟩ := hv
    omega
end RULES
