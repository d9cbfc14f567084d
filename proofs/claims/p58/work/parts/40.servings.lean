/-! the arms serve in a round, of the class and of the model -/
def NL (w w' : Nat → Int32) (i0 i1 i2 i3 : Int32) : Prop := w' 20 = (if w 20 + 1 < 20 then w 20 + 1 else 20) ∧ w' 448 = w 16 ∧ w' 449 = i0 ∧ w' 450 = i1 ∧ w' 451 = i2 ∧ w' 452 = i3 ∧ ∀ x, 453 ≤ x → x < 548 → w' x = w (x - 5)
def vI_ (T i : Nat) : Prop := i ≠ 20 ∧ (26 ≤ i → i < 56 → (i - 26) % 5 < 3) ∧ (i < 354 ∨ 401 ≤ i) ∧ (i < 448 ∨ 548 ≤ i) ∧ (548 ≤ i → i < 12548 → (i - 548) % 1200 ≠ T ∨ (1748 ≤ i ∧ i < 10148))
def NTo (a5 : st_) (w w' : Nat → Int32) (r9 : Nat) : Prop := (a5 0 10 = -1 ∧ ∀ i, (i = 20 ∨ (448 ≤ i ∧ i < 548)) → w' i = w i) ∨ (rg_ (a5 0 10) 0 99 ∧ NL w w' (a5 0 10) (a5 0 11) (a5 0 9) (nI r9))
theorem NTo.of {a5 : st_} {w w' v v' : Nat → Int32} {r9 : Nat} (h : NTo a5 w w' r9) (h1 : ∀ i, (i = 16 ∨ i = 20 ∨ (448 ≤ i ∧ i < 548)) → v i = w i) (h2 : ∀ i, (i = 20 ∨ (448 ≤ i ∧ i < 548)) → v' i = w' i) : NTo a5 v v' r9 := by
  rcases h with ⟨h, hi⟩ | ⟨h, n1, n2, n3, n4, n5, n6, n7⟩
  · exact Or.inl ⟨h, fun i hh => by rw [h2 i hh, h1 i (by omega)]; exact hi i hh⟩
  · refine Or.inr ⟨h, ?_, ?_, ?_, ?_, ?_, ?_, fun x a b => ?_⟩
    · rw [h2 20 (by omega), h1 20 (by omega)]; exact n1
    · rw [h2 448 (by omega), h1 16 (by omega)]; exact n2
    · rw [h2 449 (by omega)]; exact n3
    · rw [h2 450 (by omega)]; exact n4
    · rw [h2 451 (by omega)]; exact n5
    · rw [h2 452 (by omega)]; exact n6
    · rw [h2 x (by omega), h1 (x - 5) (by omega)]; exact n7 x a b
section SERVINGS
variable {d t t2 : st_} {C R n r9 T : Nat} {rv : Int32}
theorem ms1 (h : DD d (t 1) C R n) (h9 : r9 < R) (hT : t2 1 16 = nI T) (hT2 : T < 1200) : ∃ a5 s, fX0_serve (sb_ d 5) (sb_ d 1) (nI r9) (t 1 16) = some a5 ∧ fX8_round_x79_118 (nI r9) (t2, rv) t = (if rv = (-1 : Int32) then (fX8_round_j197 (t2, rv) s) else (gd_ (ib_ (24 : Int32) 12584) <| bn_ (fX8_serves s (7 : Int32) rv) fun r74 => if (a5 0 9) ≤ r74.2 then (fX8_round_j195 (t2, rv) s r74 (0 : Int32)) else (fX8_round_j195 (t2, rv) s r74 (1 : Int32)))) ∧ mo_ t s ∧ (AR a5 (s 1) 6 (n - 1) ∧ AI (s 1) 6 (n - 1) C) ∧ (a5 0 5 = d 5 5 + a5 0 9 ∧ rg_ (a5 0 9) 0 9900 ∧ s 1 (10148 + T) = a5 0 9) ∧ s 1 (548 + T) = nI r9 ∧ (∀ r, r < R → s 1 (26 + 5 * r + 3) = t 1 (26 + 5 * r + 3) + (if r = r9 then 1 else 0) ∧ s 1 (26 + 5 * r + 4) = t 1 (26 + 5 * r + 4) + (if r = r9 then a5 0 9 else 0)) ∧ NTo a5 (t 1) (s 1) r9 ∧ ∀ i, vI_ T i → s 1 i = t 1 i := by
  have hR6 := h.rb.1.2.1
  have hI := h.2.2.2.1
  have h20 := hI.2.2.2.2.1
  have x1 : (548 : Int32) + nI T = nI (548 + T) := nI_add 548 T
  have x2 : (10148 : Int32) + nI T = nI (10148 + T) := nI_add 10148 T
  have y1 : ix_ (nI (548 + T)) = 548 + T := ix_n (by omega)
  have y2 : ix_ (nI (10148 + T)) = 10148 + T := ix_n (by omega)
  generalize hs19 : pt_ t 1 (548 + T) (nI r9) = s19
  have e23 := adds_e (t := s19) (r := r9) (j := 3) (v := 1) (by omega) (by omega)
  generalize hr23 : pt_ s19 1 (26 + 5 * r9 + 3) (s19 1 (26 + 5 * r9 + 3) + 1) = r23 at e23
  have m23 : mo_ t r23 := by rw [← hr23, ← hs19]; exact mo_p1.tr mo_p1
  have v23 : ∀ i, r23 1 i = if i = 26 + 5 * r9 + 3 then t 1 i + 1 else if i = 548 + T then nI r9 else t 1 i := fun i => by
    rw [← hr23, ← hs19]
    by_cases h1 : i = 26 + 5 * r9 + 3
    · subst h1
      rw [pt_a, if_pos rfl, pt_r (by omega)]
    · rw [if_neg h1, pt_r h1]
      by_cases h2 : i = 548 + T
      · rw [if_pos h2, h2, pt_a]
      · rw [if_neg h2, pt_r h2]
  have k23 : ∀ i, i ≠ 26 + 5 * r9 + 3 → i ≠ 548 + T → r23 1 i = t 1 i := fun i a b => by rw [v23, if_neg a, if_neg b]
  have q16 : r23 1 16 = t 1 16 := k23 16 (by omega) (by omega)
  have hb6 : ab_ 6 = 354 := rfl
  obtain ⟨a5, z, e5, e27, hP, hpd⟩ := serve_q (t := r23) (mk := t 1 16) (h.2.2.1.of h20 (fun i a b => k23 i (by omega) (by omega))) (hI.of (fun i a b => k23 i (by omega) (by omega))) (h.1.1.of (fun _ _ => rfl) (fun i hi => k23 i (by unfold sI_ at hi; omega) (by unfold sI_ at hi; omega))) h9 q16.symm
  obtain ⟨p1, p2, p3, p4, p5, p6⟩ := hP
  have hz : ∀ i, i ≠ 20 → (i < 354 ∨ 401 ≤ i) → (i < 448 ∨ 548 ≤ i) → z.1 1 i = r23 1 i := fun i a b c => by
    rcases p6 with ⟨-, -, h⟩ | ⟨-, -, h⟩
    · rw [h]
    · rcases h with ⟨h, -⟩ | ⟨-, w1, ⟨n1, n2, n3, n4, n5, n6, n7, n8⟩, h⟩
      · exact absurd rfl h
      · rw [h i (by omega), n8 i a c]
  have hN : NTo a5 (r23 1) (z.1 1) r9 := by
    rcases p6 with ⟨-, h1, h⟩ | ⟨-, h1, h⟩
    · exact Or.inl ⟨h1, fun i _ => by rw [h]⟩
    · rcases h with ⟨h, -⟩ | ⟨-, w1, ⟨n1, n2, n3, n4, n5, n6, n7, n8⟩, h⟩
      · exact absurd rfl h
      · refine Or.inr ⟨h1, ?_, ?_, ?_, ?_, ?_, ?_, fun x a b => ?_⟩
        · rw [h 20 (by omega)]; exact n1
        · rw [h 448 (by omega)]; exact n2
        · rw [h 449 (by omega)]; exact n3
        · rw [h 450 (by omega)]; exact n4
        · rw [h 451 (by omega)]; exact n5
        · rw [h 452 (by omega)]; exact n6
        · rw [h x (by omega)]; exact n7 x a b
  have e31 := adds_e (t := z.1) (r := r9) (j := 4) (v := z.2) (by omega) (by omega)
  generalize hr31 : pt_ z.1 1 (26 + 5 * r9 + 4) (z.1 1 (26 + 5 * r9 + 4) + z.2) = r31 at e31
  generalize hs36 : pt_ r31 1 (10148 + T) z.2 = s36
  have m36 : mo_ t s36 := by rw [← hs36, ← hr31]; exact (m23.tr p1).tr (mo_p1.tr mo_p1)
  have v36 : ∀ i, s36 1 i = if i = 10148 + T then z.2 else if i = 26 + 5 * r9 + 4 then z.1 1 i + z.2 else z.1 1 i := fun i => by
    rw [← hs36, ← hr31]
    by_cases h1 : i = 10148 + T
    · rw [if_pos h1, h1, pt_a]
    · rw [if_neg h1, pt_r h1]
      by_cases h2 : i = 26 + 5 * r9 + 4
      · rw [if_pos h2, h2, pt_a]
      · rw [if_neg h2, pt_r h2]
  have k36 : ∀ i, i ≠ 10148 + T → i ≠ 26 + 5 * r9 + 4 → s36 1 i = z.1 1 i := fun i a b => by rw [v36, if_neg a, if_neg b]
  refine ⟨a5, s36, e5, ?_, m36, ⟨p2.of (by omega) (fun i a b => k36 i (by omega) (by omega)), p3.of (fun i a b => k36 i (by omega) (by omega))⟩, ⟨hpd, by rw [p4]; exact p5, by rw [v36, if_pos rfl, p4]⟩, ?_, fun r hr => ⟨?_, ?_⟩, hN.of (fun i hi => (k23 i (by omega) (by omega)).symm) (fun i hi => k36 i (by omega) (by omega)), fun i hi => ?_⟩
  · unfold fX8_round_x79_118
    dsimp only
    rw [i16_, hT, x1, x2, y1, y2, gd_t (ib_n (by omega) (by omega)), bd_e, hs19, bn_e (show fX8_adds s19 (nI r9) (3 : Int32) (1 : Int32) = some r23 from e23), bn_e (show fX8_serves r23 (6 : Int32) (nI r9) = some z from e27), bn_e (show fX8_adds z.1 (nI r9) (4 : Int32) z.2 = some r31 from e31), gd_t (ib_n (by omega) (by omega)), bd_e, hs36, p4]
  · rw [k36 _ (by omega) (by omega), hz _ (by omega) (by omega) (by omega), v23, if_neg (by omega), if_pos rfl]
  · rw [k36 _ (by omega) (by omega), hz _ (by omega) (by omega) (by omega), v23]
    by_cases hrr : r = r9
    · rw [if_pos (by omega), if_pos hrr]
    · rw [if_neg (by omega), if_neg (by omega), if_neg hrr, Int32.add_zero]
  · rw [v36, if_neg (by omega)]
    have ez : z.1 1 (26 + 5 * r + 4) = t 1 (26 + 5 * r + 4) := by rw [hz _ (by omega) (by omega) (by omega), k23 _ (by omega) (by omega)]
    by_cases hrr : r = r9
    · rw [if_pos (by omega), if_pos hrr, ez, p4]
    · rw [if_neg (by omega), if_neg hrr, Int32.add_zero, ez]
  · unfold vI_ at hi
    rw [k36 i (by omega) (by omega), hz i (by omega) (by omega) (by omega), k23 i (by omega) (by omega)]
/-- the class's loop over the own arms -/
theorem ownc_w {s5 : st_} (h : DD d (t 1) C R n) (h5 : ∀ o, (o < 5 ∨ 8 ≤ o) → s5 o = d o) : wp_ (fX1_serveAll_l21 FU_ ((0 : Int32), s5)) (fun s' => (∀ o, (o < 15 ∨ 15 + 3 * R ≤ o) → s' o = s5 o) ∧ ∀ r, r < R → ∃ S a0, RS S (t 1) C R ∧ fX0_serve (sb_ d (3 * r + 15)) S (nI r) (t 1 16) = some a0 ∧ ∀ q, q < 3 → sb_ s' (3 * r + 15) q = a0 q) := by
  have hR6 := h.rb.1.2.1
  have hR4 : d 1 4 = nI R := h.rb.1.2.2.1
  unfold fX1_serveAll_l21
  refine own_lo (fun r a => ∃ S a0, RS S (t 1) C R ∧ fX0_serve (sb_ d (3 * r + 15)) S (nI r) (t 1 16) = some a0 ∧ ∀ q, q < 3 → a q = a0 q) hR6 (fun k s hk ho => ?_) (fun s ho => ?_) (fun r a a' he hF => ?_)
  · have q4 : s 1 4 = nI R := by rw [ho 1 (by omega), h5 1 (by omega), hR4]
    have q9 : s 0 9 = t 1 16 := by rw [ho 0 (by omega), h5 0 (by omega), h.mk]
    have esb : sb_ s (3 * k + 15) = sb_ d (3 * k + 15) := by
      funext q
      rw [sb_ap, sb_ap, ho _ (by omega), h5 _ (by omega)]
    have hS : RS (sb_ s 1) (t 1) C R := h.1.1.of (fun o hh => by rw [sb_ap, sb_ap, ho _ (by omega), h5 _ (by omega)]) (fun _ _ => rfl)
    obtain ⟨hA, hI⟩ := h.2.2.2.2.1 k hk
    obtain ⟨a', z, e1, -, -, -⟩ := serve_q (t := t) hA hI hS hk rfl
    have y : ix_ (nI k) = k := ix_n (by omega)
    show wp_ (fX1_serveAll_b21 (nI k) s) _
    unfold fX1_serveAll_b21
    simp only [q4, q9, y, esb]
    exact wp_if' (nI_ge hk (by omega)) (wp_gd (ib_n (by omega) (by omega)) (wp_bne e1 (wp_bd (wp_l ⟨nI_1 k, a', rfl, _, a', hS, e1, fun _ _ => rfl⟩))))
  · have q4 : s 1 4 = nI R := by rw [ho 1 (by omega), h5 1 (by omega), hR4]
    show wp_ (fX1_serveAll_b21 (nI R) s) _
    unfold fX1_serveAll_b21
    simp only [q4]
    exact wp_it (Int32.le_refl _) (wp_r rfl)
  · obtain ⟨S, a0, h1, h2, h3⟩ := hF
    exact ⟨S, a0, h1, h2, fun q hq => by rw [he q hq, h3 q hq]⟩
end SERVINGS
