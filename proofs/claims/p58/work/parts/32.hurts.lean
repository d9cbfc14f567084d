/-! the class foresees -/
def am_ (κ : Nat → Nat) : Nat → Nat
  | 0 => 0
  | k + 1 => if k = 0 then 0 else if κ k < κ (am_ κ k) then k else am_ κ k
theorem am_fm {κ : Nat → Nat} : ∀ n, 0 < n → fm_ κ n (am_ κ n)
  | 0, h => absurd h (Nat.lt_irrefl _)
  | k + 1, _ => by
    unfold am_
    by_cases h0 : k = 0
    · subst h0
      rw [if_pos rfl]
      exact fm_0
    · rw [if_neg h0]
      have ih := am_fm (κ := κ) k (by omega)
      by_cases h : κ k < κ (am_ κ k)
      · rw [if_pos h]
        exact fm_take ih h
      · rw [if_neg h]
        exact fm_keep ih (by omega)
/-- the cost of an arm in this round with a request for q behind its own -/
def fcx (a S : st_) (kind : Nat) (wd : Int32) (c n q : Nat) : Int32 := if n = 0 then pr_ (S 0 2) (S 0 3) c q else if rk_ kind wd (a 0 1) c q < ka_ a kind wd c (am_ (ka_ a kind wd c) n) then pr_ (S 0 2) (S 0 3) c q else pr_ (S 0 2) (S 0 3) c (ix_ (a 1 (am_ (ka_ a kind wd c) n)))
theorem fcv_x {a S : st_} {kind c n q : Nat} {wd x : Int32} (h : fcv a S kind wd c n q x) : x = fcx a S kind wd c n q := by
  unfold fcx
  by_cases h0 : n = 0
  · rw [if_pos h0]
    exact h.1 h0
  · rw [if_neg h0]
    exact h.2 _ (am_fm n (by omega))
def mnr (f : Nat → Int32) : Nat → Int32
  | 0 => f 0
  | k + 1 => if f (k + 1) < mnr f k then f (k + 1) else mnr f k
theorem mnr_congr {f g : Nat → Int32} : ∀ k, (∀ r, r ≤ k → f r = g r) → mnr f k = mnr g k
  | 0, h => h 0 (by omega)
  | k + 1, h => by
    unfold mnr
    rw [mnr_congr k (fun r hr => h r (by omega)), h (k + 1) (by omega)]
/-- the greatest, the first of them -/
def wst (f : Nat → Int32) : Nat → Nat
  | 0 => 0
  | k + 1 => if f (k + 1) ≤ f (wst f k) then wst f k else k + 1
theorem wst_le {f : Nat → Int32} : ∀ k, wst f k ≤ k
  | 0 => Nat.le_refl _
  | k + 1 => by
    have := wst_le (f := f) k
    unfold wst
    split <;> omega
theorem wst_congr {f g : Nat → Int32} : ∀ k, (∀ r, r ≤ k → f r = g r) → wst f k = wst g k
  | 0, _ => rfl
  | k + 1, h => by
    have e := wst_congr k (fun r hr => h r (by omega))
    have hb := wst_le (f := g) k
    unfold wst
    rw [e, h (k + 1) (by omega), h (wst g k) (by omega)]
/-- what the own arm of a rule would have cost behind this round with q more -/
def own_f (d : st_) (n r q : Nat) : Int32 := d (3 * r + 15) 5 + fcx (sb_ d (3 * r + 15)) (sb_ d 1) (ix_ (d 2 r)) (d 3 r) (ix_ (d (3 * r + 15) 0)) n q
def its_f (d : st_) (n r q : Nat) : Int32 := d 5 5 + fcx (sb_ d 5) (sb_ d 1) (ix_ (d 2 r)) (d 3 r) (ix_ (d 5 0)) n q
def hurt_f (d : st_) (n R r q : Nat) : Int32 := its_f d n r q - mnr (fun x => own_f d n x q) (R - 1)
section FHURT
variable {d : st_} {C R n r0 : Nat}
theorem foreseeHurts_w (hC : d 1 0 = nI C) (hC2 : 2 ≤ C) (hC100 : C ≤ 100) (hR : d 1 4 = nI R) (h1 : 1 ≤ R) (h6 : R ≤ 6) (hk : ∀ r, r < R → rg_ (d 2 r) 0 4) (hI : AC (sb_ d 5) (ix_ (d 5 0)) n) (hO : ∀ r, r < R → AC (sb_ d (3 * r + 15)) (ix_ (d (3 * r + 15) 0)) n) (hr0 : r0 < R) : wp_ (fX1_foreseeHurts d (nI r0)) (fun d' => (∀ o, o ≠ 13 → o ≠ 14 → d' o = d o) ∧ ∀ q, q < C → d' 13 q = hurt_f d n R r0 q) := by
  unfold fX1_foreseeHurts fX1_foreseeHurts_l2
  refine wp_bn (Q := fun s => (∀ o, o ≠ 13 → o ≠ 14 → s o = d o) ∧ ∀ q, q < C → s 13 q = mnr (fun x => own_f d n x q) (R - 1)) ?_ (fun s hs => ?_)
  · refine wp_up (fun k v => v.1 = nI k ∧ (∀ o, o ≠ 13 → o ≠ 14 → v.2 o = d o) ∧ (0 < k → ∀ q, q < C → v.2 13 q = mnr (fun x => own_f d n x q) (k - 1))) 0 R (Nat.zero_le _) (by omega) ⟨rfl, fun _ _ _ => rfl, fun h => absurd h (Nat.lt_irrefl _)⟩ (fun k v hk' _ hv => ?_) (fun v hv => ?_)
    · obtain ⟨v2, s⟩ := v
      obtain ⟨e, ho, hm⟩ := hv
      dsimp only at e ho hm
      subst e
      have i1 : ix_ (nI k) = k := ix_n (by omega)
      have e1 : ∀ o, o < 13 → sb_ s o = sb_ s o := fun _ _ => rfl
      unfold fX1_foreseeHurts_b2
      simp only [i1]
      refine wp_if' (by rw [ho 1 (by decide) (by decide), hR]; exact nI_ge hk' (by omega)) (wp_gd (ib_n (by omega) (by omega)) ?_)
      have eS : sb_ s 1 0 = d 1 := ho 1 (by decide) (by decide)
      have eS1 : sb_ s 1 1 = d 2 := ho 2 (by decide) (by decide)
      have eS2 : sb_ s 1 2 = d 3 := ho 3 (by decide) (by decide)
      have ea : ∀ x, x < 3 → sb_ s (3 * k + 15) x = sb_ d (3 * k + 15) x := fun x hx => ho _ (by omega) (by omega)
      have eA : AC (sb_ s (3 * k + 15)) (ix_ (d (3 * k + 15) 0)) n := by
        have h := hO k hk'
        unfold AC at h ⊢
        rw [ea 0 (by omega), ea 1 (by omega)]
        exact h
      refine wp_bn (foresee_w (S := sb_ s 1) (u := sb_ s 14) eA (by rw [eS]; exact hR) hk' h6 (by rw [eS1]; exact (hk k hk').1) (hk k hk').2.2 rfl (by rw [eS]; exact hC) hC100) (fun u' hu' => wp_bd ?_)
      have hu2 : ∀ q, q < C → u' 0 q = own_f d n k q := fun q hq => by
        obtain ⟨x, hx, hxe⟩ := hu' q hq
        rw [hxe, fcv_x hx]
        unfold own_f fcx ka_
        rw [ea 0 (by omega), ea 1 (by omega), eS, eS2]
        rfl
      generalize hs20 : mg_ s 14 1 u' = s20
      have s14 : s20 14 = u' 0 := by rw [← hs20, mg_i (by omega) (by omega)]
      have so : ∀ o, o ≠ 14 → s20 o = s o := fun o ho2 => by rw [← hs20]; exact mg_o (by omega)
      unfold fX1_foreseeHurts_l33
      refine wp_bn (Q := fun z => (∀ o, o ≠ 13 → z o = s20 o) ∧ ∀ q, q < C → z 13 q = mnr (fun x => own_f d n x q) k) ?_ (fun z hz => ?_)
      · refine wp_up (fun j v => v.1 = nI j ∧ (∀ o, o ≠ 13 → v.2 o = s20 o) ∧ ∀ q, v.2 13 q = if q < j then mnr (fun x => own_f d n x q) k else s20 13 q) 0 C (Nat.zero_le _) (by omega) ⟨rfl, fun _ _ => rfl, fun q => by rw [if_neg (by omega)]⟩ (fun j v hj _ hv => ?_) (fun v hv => ?_)
        · obtain ⟨v3, z⟩ := v
          obtain ⟨e, hzo, hz⟩ := hv
          dsimp only at e hzo hz
          subst e
          have i2 : ix_ (nI j) = j := ix_n (by omega)
          have z10 : z 1 0 = nI C := by rw [hzo 1 (by decide), so 1 (by decide), ho 1 (by decide) (by decide), hC]
          have z14 : z 14 j = own_f d n k j := by rw [hzo 14 (by decide), s14, hu2 j hj]
          have z13 : z 13 j = s 13 j := by rw [hz, if_neg (by omega), so 13 (by decide)]
          unfold fX1_foreseeHurts_b33
          simp only [i2, z14, z13]
          have put : ∀ x : Int32, x = mnr (fun x => own_f d n x j) k → wp_ (fX1_foreseeHurts_j77 (nI j) z x) (Sum.elim (fun v => v.1 = nI (j + 1) ∧ (∀ o, o ≠ 13 → v.2 o = s20 o) ∧ ∀ q, v.2 13 q = if q < j + 1 then mnr (fun x => own_f d n x q) k else s20 13 q) (fun z => (∀ o, o ≠ 13 → z o = s20 o) ∧ ∀ q, q < C → z 13 q = mnr (fun x => own_f d n x q) k)) := fun x hx => by
            unfold fX1_foreseeHurts_j77
            refine wp_gd (ib_n (by omega) (by omega)) (wp_bd (wp_l ⟨nI_1 j, fun o ho2 => ?_, fun q => ?_⟩))
            · show (pt_ z 13 _ x) o = _
              rw [pt_o ho2]
              exact hzo o ho2
            · show pt_ z 13 (ix_ (nI j)) x 13 q = _
              rw [i2]
              by_cases hq : q = j
              · subst hq
                rw [pt_a, if_pos (by omega), hx]
              · rw [pt_r hq, hz]
                by_cases h : q < j
                · rw [if_pos h, if_pos (by omega)]
                · rw [if_neg h, if_neg (by omega)]
          refine wp_if' (by rw [z10]; exact nI_ge hj (by omega)) ?_
          by_cases h0 : k = 0
          · subst h0
            exact wp_it rfl (wp_gd (ib_n (by omega) (by omega)) (put _ rfl))
          · refine wp_if' (fun z => h0 ((nI_eq (a := k) (b := 0) (by omega) (by omega)).mp z)) (wp_gd (ib_n (by omega) (by omega)) (wp_gd (ib_n (by omega) (by omega)) (put _ ?_)))
            rw [hm (by omega) j hj]
            obtain ⟨y, rfl⟩ : ∃ y, k = y + 1 := ⟨k - 1, by omega⟩
            rfl
        · obtain ⟨v3, z⟩ := v
          obtain ⟨e, hzo, hz⟩ := hv
          dsimp only at e hzo hz
          subst e
          have z10 : z 1 0 = nI C := by rw [hzo 1 (by decide), so 1 (by decide), ho 1 (by decide) (by decide), hC]
          unfold fX1_foreseeHurts_b33
          dsimp only
          exact wp_it (by rw [z10]; exact Int32.le_refl _) (wp_r ⟨hzo, fun q hq => by rw [hz, if_pos hq]⟩)
      · obtain ⟨hzo, hz⟩ := hz
        refine wp_l ⟨nI_1 k, fun o h13 h14 => ?_, fun _ q hq => ?_⟩
        · show z o = d o
          rw [hzo o h13, so o h14, ho o h13 h14]
        · show z 13 q = _
          rw [hz q hq, Nat.add_sub_cancel]
    · obtain ⟨v2, s⟩ := v
      obtain ⟨e, ho, hm⟩ := hv
      dsimp only at e ho hm
      subst e
      unfold fX1_foreseeHurts_b2
      dsimp only
      exact wp_it (by rw [ho 1 (by decide) (by decide), hR]; exact Int32.le_refl _) (wp_r ⟨ho, hm (by omega)⟩)
  · obtain ⟨ho, hm⟩ := hs
    unfold fX1_foreseeHurts_k2 fX1_foreseeHurts_x2_90
    have eS : sb_ s 1 0 = d 1 := ho 1 (by decide) (by decide)
    have eS1 : sb_ s 1 1 = d 2 := ho 2 (by decide) (by decide)
    have eS2 : sb_ s 1 2 = d 3 := ho 3 (by decide) (by decide)
    have ea : ∀ x, x < 3 → sb_ s 5 x = sb_ d 5 x := fun x hx => ho _ (by omega) (by omega)
    have eA : AC (sb_ s 5) (ix_ (d 5 0)) n := by
      unfold AC at hI ⊢
      rw [ea 0 (by omega), ea 1 (by omega)]
      exact hI
    refine wp_bn (foresee_w (S := sb_ s 1) (u := sb_ s 14) eA (by rw [eS]; exact hR) hr0 h6 (by rw [eS1]; exact (hk r0 hr0).1) (hk r0 hr0).2.2 rfl (by rw [eS]; exact hC) hC100) (fun u' hu' => wp_bd ?_)
    have hu2 : ∀ q, q < C → u' 0 q = its_f d n r0 q := fun q hq => by
      obtain ⟨x, hx, hxe⟩ := hu' q hq
      rw [hxe, fcv_x hx]
      unfold its_f fcx ka_
      rw [ea 0 (by omega), ea 1 (by omega), eS, eS2]
      rfl
    generalize hs20 : mg_ s 14 1 u' = s20
    have s14 : s20 14 = u' 0 := by rw [← hs20, mg_i (by omega) (by omega)]
    have so : ∀ o, o ≠ 14 → s20 o = s o := fun o ho2 => by rw [← hs20]; exact mg_o (by omega)
    unfold fX1_foreseeHurts_l108
    refine wp_bn (Q := fun z => (∀ o, o ≠ 13 → z o = s20 o) ∧ ∀ q, q < C → z 13 q = hurt_f d n R r0 q) ?_ (fun z hz => ?_)
    · refine wp_up (fun j v => v.1 = nI j ∧ (∀ o, o ≠ 13 → v.2 o = s20 o) ∧ ∀ q, v.2 13 q = if q < j then s20 14 q - s20 13 q else s20 13 q) 0 C (Nat.zero_le _) (by omega) ⟨rfl, fun _ _ => rfl, fun q => by rw [if_neg (by omega)]⟩ (fun j v hj _ hv => ?_) (fun v hv => ?_)
      · obtain ⟨v3, z⟩ := v
        obtain ⟨e, hzo, hz⟩ := hv
        dsimp only at e hzo hz
        subst e
        have i2 : ix_ (nI j) = j := ix_n (by omega)
        have z10 : z 1 0 = nI C := by rw [hzo 1 (by decide), so 1 (by decide), ho 1 (by decide) (by decide), hC]
        have z14 : z 14 j = s20 14 j := by rw [hzo 14 (by decide)]
        have z13 : z 13 j = s20 13 j := by rw [hz, if_neg (by omega)]
        unfold fX1_foreseeHurts_b108
        simp only [i2, z14, z13]
        refine wp_if' (by rw [z10]; exact nI_ge hj (by omega)) (wp_gd (ib_n (by omega) (by omega)) (wp_gd (ib_n (by omega) (by omega)) (wp_gd (ib_n (by omega) (by omega)) (wp_bd (wp_l ⟨nI_1 j, fun o ho2 => ?_, fun q => ?_⟩)))))
        · show (pt_ z 13 j _) o = _
          rw [pt_o ho2]
          exact hzo o ho2
        · show pt_ z 13 j (s20 14 j - s20 13 j) 13 q = _
          by_cases hq : q = j
          · subst hq
            rw [pt_a, if_pos (by omega)]
          · rw [pt_r hq, hz]
            by_cases h : q < j
            · rw [if_pos h, if_pos (by omega)]
            · rw [if_neg h, if_neg (by omega)]
      · obtain ⟨v3, z⟩ := v
        obtain ⟨e, hzo, hz⟩ := hv
        dsimp only at e hzo hz
        subst e
        have z10 : z 1 0 = nI C := by rw [hzo 1 (by decide), so 1 (by decide), ho 1 (by decide) (by decide), hC]
        unfold fX1_foreseeHurts_b108
        dsimp only
        refine wp_it (by rw [z10]; exact Int32.le_refl _) (wp_r ⟨hzo, fun q hq => ?_⟩)
        rw [hz, if_pos hq, s14, hu2 q hq, so 13 (by decide), hm q hq]
        rfl
    · obtain ⟨hzo, hz⟩ := hz
      exact wp_s ⟨fun o h13 h14 => by rw [hzo o h13, so o h14, ho o h13 h14], hz⟩
theorem mostHurtful_e (hC : d 1 0 = nI C) (hC2 : 2 ≤ C) (hC100 : C ≤ 100) : fX1_mostHurtful d = some (nI (wst (d 13) (C - 1))) := by
  suffices h : wp_ (fX1_mostHurtful d) (fun x => x = nI (wst (d 13) (C - 1))) by
    obtain ⟨x, e, hx⟩ := h
    rw [e, hx]
  unfold fX1_mostHurtful fX1_mostHurtful_l4
  refine wp_bn (Q := fun x => x = nI (wst (d 13) (C - 1))) ?_ (fun x hx => wp_s hx)
  refine wp_up (fun k v => v.2 = nI k ∧ v.1 = nI (wst (d 13) (k - 1))) 1 C (by omega) (by omega) ⟨rfl, rfl⟩ (fun k v hk hk1 hv => ?_) (fun v hv => ?_)
  · obtain ⟨v1, v2⟩ := v
    obtain ⟨e2, e1⟩ := hv
    dsimp only at e1 e2
    subst e1 e2
    have hb := wst_le (f := d 13) (k - 1)
    have i1 : ix_ (nI k) = k := ix_n (by omega)
    have i2 : ix_ (nI (wst (d 13) (k - 1))) = wst (d 13) (k - 1) := ix_n (by omega)
    unfold fX1_mostHurtful_b4
    simp only [i1, i2]
    refine wp_if' (by rw [hC]; exact nI_ge hk (by omega)) (wp_gd (ib_n (by omega) (by omega)) (wp_gd (ib_n (by omega) (by omega)) ?_))
    obtain ⟨y, rfl⟩ : ∃ y, k = y + 1 := ⟨k - 1, by omega⟩
    rw [Nat.add_sub_cancel]
    refine wp_if (fun h => wp_l ⟨nI_1 _, ?_⟩) (fun h => wp_l ⟨nI_1 _, ?_⟩)
    · show nI (wst (d 13) y) = nI (wst (d 13) (y + 1))
      rw [wst, if_pos h]
    · show nI (y + 1) = nI (wst (d 13) (y + 1))
      rw [wst, if_neg h]
  · obtain ⟨v1, v2⟩ := v
    obtain ⟨e2, e1⟩ := hv
    dsimp only at e1 e2
    subst e1 e2
    unfold fX1_mostHurtful_b4
    exact wp_it (by rw [hC]; exact Int32.le_refl _) (wp_r rfl)
end FHURT
