/-! the reference's arm serves -/
/-- but for the row and whether it turned nothing has changed -/
def mo_ (t t' : st_) : Prop := (∀ o, o ≠ 0 → o ≠ 1 → t' o = t o) ∧ ∀ j, j ≠ 15 → t' 0 j = t 0 j
section MO
variable {t t' t'' : st_} {i : Nat} {v : Int32}
theorem mo_r : mo_ t t := ⟨fun _ _ _ => rfl, fun _ _ => rfl⟩
theorem mo_.tr (h : mo_ t t') (h2 : mo_ t' t'') : mo_ t t'' := ⟨fun o a b => (h2.1 o a b).trans (h.1 o a b), fun j a => (h2.2 j a).trans (h.2 j a)⟩
theorem mo_p1 : mo_ t (pt_ t 1 i v) := ⟨fun _ _ b => pt_o b, fun _ _ => pt_oo (by decide)⟩
theorem mo_p15 : mo_ t (pt_ t 0 15 v) := ⟨fun _ a _ => pt_o a, fun _ a => pt_r a⟩
theorem costOf_e {f : Nat} (hf : f < 1000000) : fX8_costOf t (nI f) = some (if f = 0 then 0 else t 1 2 + t 1 3 * nI f) := by
  unfold fX8_costOf
  by_cases h : f = 0
  · subst h
    rw [if_pos (show nI 0 = 0 from rfl), if_pos rfl]
  · rw [if_neg (show ¬ nI f = 0 from fun z => h ((nI_eq (a := f) (b := 0) (by omega) (by omega)).mp z)), if_neg h, gd_t b2_, gd_t b3_, i2_, i3_]
theorem costOf_d {c q : Nat} (hc : c < 100) (hq : q < 100) : fX8_costOf t (nI (ds_ c q)) = some (pr_ (t 1 2) (t 1 3) c q) := by
  rw [costOf_e (by unfold ds_; omega)]
  unfold pr_
  by_cases h : c = q
  · rw [if_pos h, if_pos (by unfold ds_; omega)]
  · rw [if_neg h, if_neg (by unfold ds_; omega)]
end MO
/-- the arm's cells behind the serving of request k -/
def SM (w w' : Nat → Int32) (m n k c q : Nat) (cost u' : Int32) : Prop := w' (ab_ m) = nI q ∧ w' (ab_ m + 1) = u' ∧ w' (ab_ m + 2) = nI (n - 1) ∧ w' (ab_ m + 3) = w (ab_ m + 3) + cost ∧ w' (ab_ m + 4) = w (ab_ m + 4) + nI (ds_ c q) ∧ w' (ab_ m + 5) = mx_ (w (ab_ m + 5)) (w 16 - w (ab_ m + 7 + 2 * k + 1)) ∧ w' (ab_ m + 6) = w (ab_ m + 6) + 1 ∧ ∀ j, j < n - 1 → w' (ab_ m + 7 + 2 * j) = w (ab_ m + 7 + 2 * (if j < k then j else j + 1)) ∧ w' (ab_ m + 7 + 2 * j + 1) = w (ab_ m + 7 + 2 * (if j < k then j else j + 1) + 1)
section MSERVE
variable {t : st_} {m c n k r kind : Nat} {Q : Nat → Nat} {wd u its : Int32}
theorem shift_w {t : st_} (hm : m < 8) (hn : t 1 (ab_ m + 2) = nI (n - 1)) (hk : k < n) (h20 : n ≤ 20) : wp_ (fX8_serves_l187 (nI (ab_ m)) FU_ (nI (ab_ m + 7 + 2 * k), t)) (fun t' => mo_ t t' ∧ ∀ x, t' 1 x = t 1 (if ab_ m + 7 + 2 * k ≤ x ∧ x < ab_ m + 7 + 2 * (n - 1) then x + 2 else x)) := by
  have hab := ab_b hm
  unfold fX8_serves_l187
  have x2 : nI (ab_ m) + (2 : Int32) = nI (ab_ m + 2) := nI_add _ 2
  have y2 : ix_ (nI (ab_ m + 2)) = ab_ m + 2 := ix_n (by omega)
  have xe : nI (ab_ m) + (7 : Int32) + (2 : Int32) * nI (n - 1) = nI (ab_ m + 7 + 2 * (n - 1)) := by
    show nI (ab_ m) + nI 7 + nI 2 * nI (n - 1) = _
    rw [pk_mul, nI_add, nI_add]
  refine wp_up (fun i v => v.1 = nI i ∧ mo_ t v.2 ∧ ∀ x, v.2 1 x = t 1 (if ab_ m + 7 + 2 * k ≤ x ∧ x < i then x + 2 else x)) (ab_ m + 7 + 2 * k) (ab_ m + 7 + 2 * (n - 1)) (by omega) (by omega) ⟨rfl, mo_r, fun x => by rw [if_neg (by omega)]⟩ (fun i v hi hki hv => ?_) (fun v hv => ?_)
  · obtain ⟨v7, sb⟩ := v
    obtain ⟨e, hmo, hx⟩ := hv
    dsimp only at e hmo hx
    subst e
    have h2 : sb 1 (ab_ m + 2) = nI (n - 1) := by rw [hx, if_neg (by omega), hn]
    have xi : nI i + (2 : Int32) = nI (i + 2) := nI_add _ 2
    unfold fX8_serves_b187
    simp only [x2, y2, h2, xe, xi]
    refine wp_gd (ib_n (by omega) (by omega)) (wp_if' (nI_ge (by omega) (by omega)) (wp_gd (ib_n (by omega) (by omega)) (wp_gd (ib_n (by omega) (by omega)) (wp_bd (wp_l ⟨nI_1 i, hmo.tr mo_p1, fun x => ?_⟩)))))
    rw [ix_n (by omega), ix_n (by omega)]
    show pt_ sb 1 i (sb 1 (i + 2)) 1 x = _
    by_cases h : x = i
    · subst h
      rw [pt_a, hx, if_neg (by omega), if_pos (by omega)]
    · rw [pt_r h, hx]
      by_cases h3 : ab_ m + 7 + 2 * k ≤ x ∧ x < i
      · rw [if_pos h3, if_pos (by omega)]
      · rw [if_neg h3, if_neg (by omega)]
  · obtain ⟨v7, sb⟩ := v
    obtain ⟨e, hmo, hx⟩ := hv
    dsimp only at e hmo hx
    subst e
    have h2 : sb 1 (ab_ m + 2) = nI (n - 1) := by rw [hx, if_neg (by omega), hn]
    unfold fX8_serves_b187
    simp only [x2, y2, h2, xe]
    exact wp_gd (ib_n (by omega) (by omega)) (wp_it (Int32.le_refl _) (wp_r ⟨hmo, hx⟩))
theorem sj_w {st1 : st_} (A : AW (t 1) m c n Q) (hk : k < n) (hits : st1 1 (ab_ m + 7 + 2 * k + 1) = t 1 (ab_ m + 7 + 2 * k + 1)) : wp_ (fX8_serves_j71 (nI m) (st1, nI k) (nI (ab_ m)) (nI (ds_ c (Q k))) t) (fun z => z.2 = pr_ (t 1 2) (t 1 3) c (Q k) ∧ mo_ t z.1 ∧ SM (t 1) (z.1 1) m n k c (Q k) (pr_ (t 1 2) (t 1 3) c (Q k)) (t 1 (ab_ m + 1)) ∧ ∀ i, (i < ab_ m ∨ ab_ m + 47 ≤ i) → z.1 1 i = t 1 i) := by
  obtain ⟨hm, hc, hn, h20, h1, hQ⟩ := A
  obtain ⟨hqe, hq⟩ := hQ k hk
  have hab := ab_b hm
  have x0 : nI (ab_ m) + (0 : Int32) = nI (ab_ m) := nI_add _ 0
  have x2 : nI (ab_ m) + (2 : Int32) = nI (ab_ m + 2) := nI_add _ 2
  have x3 : nI (ab_ m) + (3 : Int32) = nI (ab_ m + 3) := nI_add _ 3
  have x4 : nI (ab_ m) + (4 : Int32) = nI (ab_ m + 4) := nI_add _ 4
  have x5 : nI (ab_ m) + (5 : Int32) = nI (ab_ m + 5) := nI_add _ 5
  have x6 : nI (ab_ m) + (6 : Int32) = nI (ab_ m + 6) := nI_add _ 6
  have xk : nI (ab_ m) + (7 : Int32) + (2 : Int32) * nI k = nI (ab_ m + 7 + 2 * k) := by
    show nI (ab_ m) + nI 7 + nI 2 * nI k = _
    rw [pk_mul, nI_add, nI_add]
  have xk1 : nI (ab_ m + 7 + 2 * k) + (1 : Int32) = nI (ab_ m + 7 + 2 * k + 1) := nI_1 _
  have y0 : ix_ (nI (ab_ m)) = ab_ m := ix_n (by omega)
  have y2 : ix_ (nI (ab_ m + 2)) = ab_ m + 2 := ix_n (by omega)
  have y3 : ix_ (nI (ab_ m + 3)) = ab_ m + 3 := ix_n (by omega)
  have y4 : ix_ (nI (ab_ m + 4)) = ab_ m + 4 := ix_n (by omega)
  have y5 : ix_ (nI (ab_ m + 5)) = ab_ m + 5 := ix_n (by omega)
  have y6 : ix_ (nI (ab_ m + 6)) = ab_ m + 6 := ix_n (by omega)
  have yk1 : ix_ (nI (ab_ m + 7 + 2 * k + 1)) = ab_ m + 7 + 2 * k + 1 := ix_n (by omega)
  unfold fX8_serves_j71
  simp only [x0, x2, x3, x4, x5, x6, xk, xk1, y0, y2, y3, y4, y5, y6, yk1, i16_, hits]
  refine wp_bne (cylOf_e hm (by omega)) ?_
  rw [hqe]
  refine wp_gd (ib_n (by omega) (by omega)) (wp_bd (wp_gd (ib_n (by omega) (by omega)) ?_))
  refine wp_bne (costOf_d (t := pt_ t 1 (ab_ m) (nI (Q k))) h1 hq) ?_
  have p2 : pt_ t 1 (ab_ m) (nI (Q k)) 1 2 = t 1 2 := pt_r (by omega)
  have p3 : pt_ t 1 (ab_ m) (nI (Q k)) 1 3 = t 1 3 := pt_r (by omega)
  rw [p2, p3]
  generalize hcost : pr_ (t 1 2) (t 1 3) c (Q k) = cost
  refine wp_gd (ib_n (by omega) (by omega)) (wp_bd (wp_gd (ib_n (by omega) (by omega)) (wp_gd (ib_n (by omega) (by omega)) (wp_bd (wp_gd (ib_n (by omega) (by omega)) (wp_gd b16_ (wp_gd (ib_n (by omega) (by omega)) (wp_bd (wp_gd (ib_n (by omega) (by omega)) (wp_gd (ib_n (by omega) (by omega)) (wp_bd (wp_gd (ib_n (by omega) (by omega)) (wp_gd (ib_n (by omega) (by omega)) (wp_bd ?_))))))))))))))
  generalize hz : pt_ _ 1 (ab_ m + 2) _ = z
  have zo : mo_ t z := by
    rw [← hz]
    exact ((((mo_p1.tr mo_p1).tr mo_p1).tr mo_p1).tr mo_p1).tr mo_p1
  have z0 : z 1 (ab_ m) = nI (Q k) := by
    rw [← hz]
    simp (disch := omega) only [pt_a, pt_rr, pt_oo]
  have z1 : z 1 (ab_ m + 1) = t 1 (ab_ m + 1) := by
    rw [← hz]
    simp (disch := omega) only [pt_a, pt_rr, pt_oo]
  have z2 : z 1 (ab_ m + 2) = nI (n - 1) := by
    rw [← hz]
    simp (disch := omega) only [pt_a, pt_rr, pt_oo]
    rw [hn]
    obtain ⟨y, rfl⟩ : ∃ y, n = y + 1 := ⟨n - 1, by omega⟩
    exact nI_pred y
  have z3 : z 1 (ab_ m + 3) = t 1 (ab_ m + 3) + cost := by
    rw [← hz]
    simp (disch := omega) only [pt_a, pt_rr, pt_oo]
  have z4 : z 1 (ab_ m + 4) = t 1 (ab_ m + 4) + nI (ds_ c (Q k)) := by
    rw [← hz]
    simp (disch := omega) only [pt_a, pt_rr, pt_oo]
  have z5 : z 1 (ab_ m + 5) = mx_ (t 1 (ab_ m + 5)) (t 1 16 - t 1 (ab_ m + 7 + 2 * k + 1)) := by
    rw [← hz]
    simp (disch := omega) only [pt_a, pt_rr, pt_oo]
    rfl
  have z6 : z 1 (ab_ m + 6) = t 1 (ab_ m + 6) + 1 := by
    rw [← hz]
    simp (disch := omega) only [pt_a, pt_rr, pt_oo]
  have zi : ∀ i, (i < ab_ m ∨ ab_ m + 7 ≤ i) → z 1 i = t 1 i := fun i hi => by
    rw [← hz]
    simp (disch := omega) only [pt_a, pt_rr, pt_oo]
  have e16 : z 1 2 = t 1 2 := zi 2 (by omega)
  have e17 : z 1 3 = t 1 3 := zi 3 (by omega)
  refine wp_bn (shift_w hm z2 hk h20) (fun t' ht' => ?_)
  obtain ⟨hmo, hx⟩ := ht'
  unfold fX8_serves_k187 fX8_serves_x187_231
  refine wp_bne (costOf_d (t := t') h1 hq) (wp_s ⟨?_, zo.tr hmo, ⟨?_, ?_, ?_, ?_, ?_, ?_, ?_, fun j hj => ?_⟩, fun i hi => ?_⟩)
  · dsimp only
    rw [hx, hx, if_neg (by omega), if_neg (by omega), e16, e17]
    exact hcost
  · dsimp only
    rw [hx, if_neg (by omega), z0]
  · dsimp only
    rw [hx, if_neg (by omega), z1]
  · dsimp only
    rw [hx, if_neg (by omega), z2]
  · dsimp only
    rw [hx, if_neg (by omega), z3]
  · dsimp only
    rw [hx, if_neg (by omega), z4]
  · dsimp only
    rw [hx, if_neg (by omega), z5]
  · dsimp only
    rw [hx, if_neg (by omega), z6]
  · dsimp only
    rw [hx, hx]
    by_cases h : j < k
    · rw [if_pos h, if_neg (by omega), if_neg (by omega), zi _ (by omega), zi _ (by omega)]
      exact ⟨rfl, rfl⟩
    · rw [if_neg h, if_pos (by omega), if_pos (by omega), zi _ (by omega), zi _ (by omega)]
      exact ⟨congrArg (t 1) (by omega), congrArg (t 1) (by omega)⟩
  · dsimp only
    rw [hx, if_neg (by omega), zi i (by omega)]
end MSERVE
