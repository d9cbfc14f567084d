/-! the reference's arm serves: the whole of it -/
theorem up_self {w : Nat → Int32} {i : Nat} : up_ w i (w i) = w := by
  funext x
  unfold up_
  split
  · rename_i h; rw [h]
  · rfl
theorem SM.of {w1 w w' : Nat → Int32} {m n k c q : Nat} {cost u' : Int32} (h : SM w1 w' m n k c q cost u') (hm : m < 8) (he : ∀ i, i ≠ ab_ m + 1 → (i = 16 ∨ (ab_ m ≤ i ∧ i < ab_ m + 47)) → w1 i = w i) (hk : k < n) (h20 : n ≤ 20) : SM w w' m n k c q cost u' := by
  have hab := ab_b hm
  obtain ⟨a0, a1, a2, a3, a4, a5, a6, aj⟩ := h
  refine ⟨a0, a1, a2, ?_, ?_, ?_, ?_, fun j hj => ?_⟩
  · rw [a3, he _ (by omega) (by omega)]
  · rw [a4, he _ (by omega) (by omega)]
  · rw [a5, he _ (by omega) (by omega), he 16 (by omega) (by omega), he _ (by omega) (by omega)]
  · rw [a6, he _ (by omega) (by omega)]
  · obtain ⟨b1, b2⟩ := aj j hj
    by_cases h : j < k
    · rw [if_pos h] at b1 b2 ⊢
      rw [b1, b2, he _ (by omega) (by omega), he _ (by omega) (by omega)]
      exact ⟨rfl, rfl⟩
    · rw [if_neg h] at b1 b2 ⊢
      rw [b1, b2, he _ (by omega) (by omega), he _ (by omega) (by omega)]
      exact ⟨rfl, rfl⟩
theorem AW.of {w w' : Nat → Int32} {m c n : Nat} {Q : Nat → Nat} (A : AW w m c n Q) (he : ∀ i, i ≠ ab_ m + 1 → (ab_ m ≤ i ∧ i < ab_ m + 47) → w' i = w i) : AW w' m c n Q := by
  obtain ⟨hm, hc, hn, h20, h1, hQ⟩ := A
  have hab := ab_b hm
  refine ⟨hm, by rw [he _ (by omega) (by omega)]; exact hc, by rw [he _ (by omega) (by omega)]; exact hn, h20, h1, fun j hj => ⟨?_, (hQ j hj).2⟩⟩
  rw [he _ (by omega) (by omega)]
  exact (hQ j hj).1
/-- what was served is noted -/
def NT (w w' : Nat → Int32) (i0 i1 i2 i3 : Int32) : Prop := w' 20 = (if w 20 + 1 < 20 then w 20 + 1 else 20) ∧ w' 448 = w 16 ∧ w' 449 = i0 ∧ w' 450 = i1 ∧ w' 451 = i2 ∧ w' 452 = i3 ∧ (∀ x, 453 ≤ x → x < 548 → w' x = w (x - 5)) ∧ ∀ x, x ≠ 20 → (x < 448 ∨ 548 ≤ x) → w' x = w x
section MSERVE2
variable {t : st_} {m c n r kind : Nat} {Q : Nat → Nat} {wd u : Int32}
theorem notes_w {i0 i1 i2 i3 : Int32} : wp_ (fX8_notes t i0 i1 i2 i3) (fun t' => mo_ t t' ∧ NT (t 1) (t' 1) i0 i1 i2 i3) := by
  unfold fX8_notes
  simp only [i20_]
  refine wp_gd b20_ (wp_gd b20_ (wp_bd ?_))
  generalize hz : pt_ t 1 20 _ = z
  have zo : mo_ t z := by rw [← hz]; exact mo_p1
  have z20 : z 1 20 = (if t 1 20 + 1 < 20 then t 1 20 + 1 else 20) := by rw [← hz, pt_a]
  have zi : ∀ x, x ≠ 20 → z 1 x = t 1 x := fun x hx => by rw [← hz, pt_r hx]
  unfold fX8_notes_l26
  refine wp_bn (Q := fun t' => mo_ t t' ∧ ∀ x, t' 1 x = if 452 < x ∧ x < 548 then z 1 (x - 5) else z 1 x) ?_ (fun t' ht' => ?_)
  · refine wp_lo (fun mm v => v.1 = nI (452 + mm) ∧ mm ≤ 95 ∧ mo_ t v.2 ∧ ∀ x, v.2 1 x = if 452 + mm < x ∧ x < 548 then z 1 (x - 5) else z 1 x) FU_ 95 _ (Nat.le_of_ble_eq_true rfl) ⟨rfl, Nat.le_refl _, zo, fun x => by rw [if_neg (by omega)]⟩ (fun mm v hmm hv => ?_)
    obtain ⟨v5, sb⟩ := v
    obtain ⟨e, h95, hmo, hx⟩ := hv
    dsimp only at e hmo hx
    subst e
    unfold fX8_notes_b26
    rcases Nat.eq_zero_or_pos mm with h | h
    · subst h
      exact wp_it (nI_lt (a := 452) (b := 453) (by omega) (by omega)) (wp_r ⟨hmo, hx⟩)
    · have x5 : nI (452 + mm) - (5 : Int32) = nI (447 + mm) := by
        have := pk_sub (a := 452 + mm) (b := 5) (by omega)
        rw [show 452 + mm - 5 = 447 + mm from by omega] at this
        exact this
      refine wp_if' (nI_nlt (b := 453) (by omega) (by omega)) ?_
      rw [x5]
      refine wp_gd (ib_n (by omega) (by omega)) (wp_gd (ib_n (by omega) (by omega)) (wp_bd (wp_l ⟨mm - 1, by omega, ?_, by omega, hmo.tr mo_p1, fun x => ?_⟩)))
      · obtain ⟨y, rfl⟩ : ∃ y, mm = y + 1 := ⟨mm - 1, by omega⟩
        exact pk_m1 (452 + y)
      · rw [ix_n (by omega), ix_n (by omega)]
        show pt_ sb 1 (452 + mm) (sb 1 (447 + mm)) 1 x = _
        by_cases hxe : x = 452 + mm
        · subst hxe
          rw [pt_a, hx, if_neg (by omega), if_pos (by omega)]
          congr 1
          omega
        · rw [pt_r hxe, hx]
          by_cases h2 : 452 + mm < x ∧ x < 548
          · rw [if_pos h2, if_pos (by omega)]
          · rw [if_neg h2, if_neg (by omega)]
  · obtain ⟨hmo, hx⟩ := ht'
    unfold fX8_notes_k26 fX8_notes_x26_56
    simp only [i16_, i448_, i449_, i450_, i451_, i452_]
    refine wp_gd b16_ (wp_gd b448_ (wp_bd (wp_gd b449_ (wp_bd (wp_gd b450_ (wp_bd (wp_gd b451_ (wp_bd (wp_gd b452_ (wp_bd (wp_s ⟨((((hmo.tr mo_p1).tr mo_p1).tr mo_p1).tr mo_p1).tr mo_p1, ?_, ?_, ?_, ?_, ?_, ?_, fun x h1 h2 => ?_, fun x h1 h2 => ?_⟩)))))))))))
    · simp (disch := omega) only [pt_a, pt_rr]
      rw [hx, if_neg (by omega), z20]
    · simp (disch := omega) only [pt_a, pt_rr]
      rw [hx, if_neg (by omega), zi _ (by omega)]
    · simp (disch := omega) only [pt_a, pt_rr]
    · simp (disch := omega) only [pt_a, pt_rr]
    · simp (disch := omega) only [pt_a, pt_rr]
    · simp (disch := omega) only [pt_a, pt_rr]
    · simp (disch := omega) only [pt_a, pt_rr]
      rw [hx, if_pos (by omega), zi _ (by omega)]
    · simp (disch := omega) only [pt_a, pt_rr]
      rw [hx, if_neg (by omega), zi _ (by omega)]
theorem served1_w (A : AW (t 1) m c n Q) (hr : r < 6) (hkd : t 1 (26 + 5 * r) = nI kind) (hk : kind ≤ 4) (hwd : t 1 (26 + 5 * r + 1) = wd) (hu : t 1 (ab_ m + 1) = u) (hu2 : u = 0 ∨ u = 1) : wp_ (fX8_served1 t (nI m) (nI r)) (fun z => mo_ t z.1 ∧ ((n = 0 ∧ z.2 = -1 ∧ z.1 1 = t 1) ∨ ∃ k, z.2 = nI k ∧ fm_ (fun j => rk_ kind wd u c (Q j)) n k ∧ z.1 1 = up_ (t 1) (ab_ m + 1) (ru_ kind (rk_ kind wd u c (Q k)) u))) := by
  have hab := ab_b A.1
  have h20 := A.2.2.2.1
  unfold fX8_served1
  refine wp_bn (picks_w A hr hkd hk hwd hu hu2) (fun z hz => ?_)
  obtain ⟨z1, z2⟩ := z
  obtain ⟨tu, e1, hz⟩ := hz
  dsimp only at e1 hz
  subst e1
  dsimp only
  have ew : (pt_ t 0 15 tu) 1 = t 1 := pt_o (by decide)
  rcases hz with ⟨h0, e2, e3⟩ | ⟨k, e2, hf, e3⟩
  · exact wp_it e2 (wp_s ⟨mo_p15, Or.inl ⟨h0, rfl, ew⟩⟩)
  · have hkn := hf.1
    refine wp_if' (by rw [e2]; exact nI_ne1 (by omega)) ?_
    have e15 : pt_ t 0 15 tu 0 15 = tu := pt_a
    by_cases h : kind = 2 ∧ 1000 ≤ rk_ kind wd u c (Q k)
    · rw [if_pos h] at e3
      subst e3
      refine wp_if' (by rw [e15]; decide) (wp_bne armAt_e (wp_bne (armOf_1 A.1) ?_))
      have x1 : nI (ab_ m) + (1 : Int32) = nI (ab_ m + 1) := nI_1 _
      rw [x1, ew, hu]
      refine wp_gd (ib_n (by omega) (by omega)) (wp_bd (wp_s ⟨mo_p15.tr mo_p1, Or.inr ⟨k, e2, hf, ?_⟩⟩))
      dsimp only
      rw [ix_n (by omega), pt_1 ew]
      unfold ru_
      rw [if_pos h]
      rcases hu2 with h2 | h2 <;> subst h2 <;> rfl
    · rw [if_neg h] at e3
      subst e3
      refine wp_it e15 (wp_s ⟨mo_p15, Or.inr ⟨k, e2, hf, ?_⟩⟩)
      unfold ru_
      dsimp only
      rw [if_neg h, ew, ← hu, up_self]
theorem serves_w (A : AW (t 1) m c n Q) (hr : r < 6) (hkd : t 1 (26 + 5 * r) = nI kind) (hk : kind ≤ 4) (hwd : t 1 (26 + 5 * r + 1) = wd) (hu : t 1 (ab_ m + 1) = u) (hu2 : u = 0 ∨ u = 1) : wp_ (fX8_serves t (nI m) (nI r)) (fun z => mo_ t z.1 ∧ ((n = 0 ∧ z.2 = 0 ∧ z.1 1 = t 1) ∨ ∃ k, fm_ (fun j => rk_ kind wd u c (Q j)) n k ∧ z.2 = pr_ (t 1 2) (t 1 3) c (Q k) ∧ SM (t 1) (z.1 1) m n k c (Q k) (pr_ (t 1 2) (t 1 3) c (Q k)) (ru_ kind (rk_ kind wd u c (Q k)) u) ∧ ((m ≠ 6 ∧ ∀ i, (i < ab_ m ∨ ab_ m + 47 ≤ i) → z.1 1 i = t 1 i) ∨ (m = 6 ∧ ∃ w1, NT (t 1) w1 (nI (Q k)) (t 1 (ab_ m + 7 + 2 * k + 1)) (pr_ (t 1 2) (t 1 3) c (Q k)) (nI r) ∧ ∀ i, (i < ab_ m ∨ ab_ m + 47 ≤ i) → z.1 1 i = w1 i)))) := by
  have hm := A.1
  have hab := ab_b A.1
  have h20 := A.2.2.2.1
  have h1 := A.2.2.2.2.1
  unfold fX8_serves
  refine wp_bn (served1_w A hr hkd hk hwd hu hu2) (fun z hz => ?_)
  obtain ⟨z1, z2⟩ := z
  obtain ⟨hmo, hz⟩ := hz
  dsimp only at hmo hz
  rcases hz with ⟨h0, e2, e3⟩ | ⟨k, e2, hf, e3⟩
  · exact wp_it e2 (wp_s ⟨hmo, Or.inl ⟨h0, rfl, e3⟩⟩)
  subst e2
  have hkn := hf.1
  have zi : ∀ i, i ≠ ab_ m + 1 → z1 1 i = t 1 i := fun i hi => by rw [e3]; exact up_n hi
  have zu : z1 1 (ab_ m + 1) = ru_ kind (rk_ kind wd u c (Q k)) u := by rw [e3]; exact up_a
  have A1 : AW (z1 1) m c n Q := A.of (fun i h _ => zi i h)
  obtain ⟨hqe, hq⟩ := A1.2.2.2.2.2 k hkn
  have xk : nI (ab_ m) + (7 : Int32) + (2 : Int32) * nI k = nI (ab_ m + 7 + 2 * k) := by
    show nI (ab_ m) + nI 7 + nI 2 * nI k = _
    rw [pk_mul, nI_add, nI_add]
  have xk1 : nI (ab_ m + 7 + 2 * k) + (1 : Int32) = nI (ab_ m + 7 + 2 * k + 1) := nI_1 _
  have yk1 : ix_ (nI (ab_ m + 7 + 2 * k + 1)) = ab_ m + 7 + 2 * k + 1 := ix_n (by omega)
  refine wp_if' (nI_ne1 (by omega)) (wp_bne armAt_e (wp_bne (farOf_e hm (by omega) A1.2.1 hqe h1 hq) ?_))
  dsimp only
  simp only [xk, xk1, yk1]
  refine wp_gd (ib_n (by omega) (by omega)) ?_
  have z2' : z1 1 2 = t 1 2 := zi 2 (by omega)
  have z3' : z1 1 3 = t 1 3 := zi 3 (by omega)
  have zk : z1 1 (ab_ m + 7 + 2 * k + 1) = t 1 (ab_ m + 7 + 2 * k + 1) := zi _ (by omega)
  by_cases h6 : m = 6
  · refine wp_it (by rw [h6]; rfl) (wp_bne (cylOf_e hm (by omega)) (wp_bne (costOf_d (t := z1) h1 hq) ?_))
    rw [hqe, zk, z2', z3']
    refine wp_bn notes_w (fun s hs => ?_)
    obtain ⟨hmo2, hnt⟩ := hs
    have si : ∀ i, i ≠ 20 → (i < 448 ∨ 548 ≤ i) → s 1 i = z1 1 i := hnt.2.2.2.2.2.2.2
    have A2 : AW (s 1) m c n Q := A1.of (fun i _ h => si i (by omega) (by omega))
    have s2 : s 1 2 = t 1 2 := by rw [si 2 (by omega) (by omega), z2']
    have s3 : s 1 3 = t 1 3 := by rw [si 3 (by omega) (by omega), z3']
    refine wp_m (sj_w (st1 := z1) A2 hkn (by rw [si _ (by omega) (by omega)])) (fun z hz => ?_)
    obtain ⟨q1, q2, q3, q4⟩ := hz
    rw [s2, s3] at q1 q3
    rw [si _ (by omega) (by omega), zu] at q3
    obtain ⟨n1, n2, n3, n4, n5, n6, n7, n8⟩ := hnt
    have w1e : ∀ x, x ≠ ab_ m + 1 → (fun i => if i = ab_ m + 1 then t 1 i else s 1 i) x = s 1 x := fun x hx => if_neg hx
    refine ⟨(hmo.tr hmo2).tr q2, Or.inr ⟨k, hf, q1, q3.of hm (fun i h h2 => by rw [si i (by omega) (by omega), zi i h]) hkn h20, Or.inr ⟨h6, fun i => if i = ab_ m + 1 then t 1 i else s 1 i, ⟨?_, ?_, ?_, ?_, ?_, ?_, fun x hx1 hx2 => ?_, fun x hx1 hx2 => ?_⟩, fun i hi => ?_⟩⟩⟩
    · rw [w1e _ (by omega), n1, zi 20 (by omega)]
    · rw [w1e _ (by omega), n2, zi 16 (by omega)]
    · rw [w1e _ (by omega), n3]
    · rw [w1e _ (by omega), n4]
    · rw [w1e _ (by omega), n5]
    · rw [w1e _ (by omega), n6]
    · rw [w1e _ (by omega), n7 x hx1 hx2, zi _ (by omega)]
    · by_cases hxe : x = ab_ m + 1
      · exact if_pos hxe
      · rw [w1e _ hxe, n8 x hx1 hx2, zi _ hxe]
    · rw [w1e _ (by omega), q4 i hi]
  · refine wp_if' (fun z => h6 ((nI_eq (a := m) (b := 6) (by omega) (by omega)).mp z)) ?_
    refine wp_m (sj_w (st1 := z1) A1 hkn rfl) (fun z hz => ?_)
    obtain ⟨q1, q2, q3, q4⟩ := hz
    rw [z2', z3'] at q1 q3
    rw [zu] at q3
    exact ⟨hmo.tr q2, Or.inr ⟨k, hf, q1, q3.of hm (fun i h h2 => zi i h) hkn h20, Or.inl ⟨h6, fun i hi => by rw [q4 i hi, zi i (by omega)]⟩⟩⟩
end MSERVE2
