/-! the arms serve in a round: all -/
def uI_ (T i : Nat) : Prop := i ≠ 20 ∧ i ≠ 24 ∧ (26 ≤ i → i < 56 → (i - 26) % 5 < 3) ∧ (i < 72 ∨ 548 ≤ i) ∧ (548 ≤ i → i < 12548 → (i - 548) % 1200 ≠ T ∨ (1748 ≤ i ∧ i < 2948))
def SVo (d d' : st_) (w w' : Nat → Int32) (R T r9 : Nat) : Prop :=
  (∀ i, uI_ T i → w' i = w i) ∧ w' (548 + T) = nI r9 ∧
  (∀ r, r < R → w' (26 + 5 * r + 3) = w (26 + 5 * r + 3) + (if r = r9 then 1 else 0) ∧ w' (26 + 5 * r + 4) = w (26 + 5 * r + 4) + (if r = r9 then d' 5 9 else 0)) ∧
  (w' (10148 + T) = d' 5 9 ∧ rg_ (d' 5 9) 0 9900 ∧ d' 5 5 = d 5 5 + d' 5 9) ∧
  (∀ r, r < R → w' (2948 + 1200 * r + T) = d' (3 * r + 15) 9 ∧ rg_ (d' (3 * r + 15) 9) 0 9900 ∧ d' (3 * r + 15) 5 = d (3 * r + 15) 5 + d' (3 * r + 15) 9) ∧
  NTo (sb_ d' 5) w w' r9 ∧
  w' 24 = w 24 + (if ¬ w 21 = -1 ∧ d' 8 9 < d' 5 9 then 1 else 0)
section SERVINGS
variable {d t t2 : st_} {C R n r9 T : Nat} {rv : Int32}
theorem servings_p (h : DD d (t 1) C R n) (h9 : r9 < R) (hd9 : d 0 12 = nI r9) (hT : t2 1 16 = nI T) (hT2 : T < 1200) (hrv : (t 1 21 = -1 ∧ rv = -1) ∨ (¬ t 1 21 = -1 ∧ ∃ rr, rr < R ∧ rv = nI rr ∧ d 0 13 = nI rr)) : ∃ d' s, fX1_serveAll d = fX1_serveAll_j85 d' ∧ fX8_round_x79_118 (nI r9) (t2, rv) t = fX8_round_x200_242 (t2, rv) s ∧ mo_ t s ∧ DA d' (s 1) C R (n - 1) ∧ (∀ o, (o < 5 ∨ (11 ≤ o ∧ o < 15)) → d' o = d o) ∧ OK_ d d' R ∧ SVo d d' (t 1) (s 1) R T r9 := by
  have hR6 := h.rb.1.2.1
  have hR4 : t 1 4 = nI R := h.rb.1.2.2.2
  have h20 : n ≤ 20 := h.2.2.2.1.2.2.2.2.1
  obtain ⟨a5, s36, e5, ex, m36, ⟨hA6, hI6⟩, ⟨p5, r5, c5⟩, hTI, hTB, hN, hv⟩ := ms1 (rv := rv) h h9 hT hT2
  obtain ⟨s', es, ho', hF⟩ := ownc_w (s5 := mg_ d 5 3 a5) h (fun o ho => mg_o (by omega))
  have hs5 : ∀ o, (o < 5 ∨ (8 ≤ o ∧ o < 15)) → s' o = d o := fun o ho => by rw [ho' o (by omega), mg_o (by omega)]
  have hs5q : ∀ q, q < 3 → s' (5 + q) = a5 q := fun q hq => by
    rw [ho' _ (by omega), mg_i (by omega) (by omega)]
    congr 1
    omega
  have ecl : fX1_serveAll d = fX1_serveAll_x21_56 s' := by
    unfold fX1_serveAll
    rw [hd9, h.mk, bn_e e5, bd_e, bn_e es]
    rfl
  have fin : ∀ u d' : st_, mo_ t u → (∀ i, i ≠ 24 → (i < 401 ∨ 448 ≤ i) → u 1 i = s36 1 i) → (¬ t 1 21 = -1 → AR (sb_ d' 8) (u 1) 7 (n - 1) ∧ AI (u 1) 7 (n - 1) C) → (∀ o, (o < 8 ∨ 11 ≤ o) → d' o = s' o) → (t 1 21 = -1 → d' 8 = s' 8) → u 1 24 = t 1 24 + (if ¬ t 1 21 = -1 ∧ d' 8 9 < d' 5 9 then 1 else 0) → ∃ s, fX8_round_j197 (t2, rv) u = fX8_round_x200_242 (t2, rv) s ∧ mo_ t s ∧ DA d' (s 1) C R (n - 1) ∧ (∀ o, (o < 5 ∨ (11 ≤ o ∧ o < 15)) → d' o = d o) ∧ OK_ d d' R ∧ SVo d d' (t 1) (s 1) R T r9 := by
    intro u d' hmu hu hu7 hd' hd8 hu24
    have kv : ∀ i, i ≠ 24 → (i < 401 ∨ 448 ≤ i) → vI_ T i → u 1 i = t 1 i := fun i a b c => by rw [hu i a b, hv i c]
    have hor : ∀ r, r < R → ∀ i, ab_ r ≤ i → i < ab_ r + 47 → u 1 i = t 1 i := fun r hr i a b => by
      unfold ab_ at a b
      exact kv i (by omega) (by omega) (by unfold vI_; omega)
    obtain ⟨s, el, hms, hA, hs⟩ := ownm_w (A := fun r => sb_ d' (3 * r + 15)) (B := fun r => sb_ d (3 * r + 15)) (u := u) (R := R) (C := C) (n := n) (t2 := t2) (rv := rv) (mk := t 1 16) (fun r hr => by
      obtain ⟨b1, b2⟩ := h.2.2.2.2.1 r hr
      obtain ⟨S, a0, f1, f2, f3⟩ := hF r hr
      refine ⟨b1.of h20 (hor r hr), b2.of (hor r hr), S, a0, f1.of (fun _ _ => rfl) (fun i hi => kv i (by unfold sI_ at hi; omega) (by unfold sI_ at hi; omega) (by unfold sI_ at hi; unfold vI_; omega)), f2, fun q hq => ?_⟩
      rw [sb_ap, hd' _ (by omega)]
      exact f3 q hq) (by rw [kv 4 (by omega) (by omega) (by unfold vI_; omega), hR4]) hR6 (by rw [kv 16 (by omega) (by omega) (by unfold vI_; omega)]) hT hT2
    have k2 : ∀ i, (i < 72 ∨ (354 ≤ i ∧ i < 2948) ∨ (2948 ≤ i ∧ (10148 ≤ i ∨ (i - 2948) % 1200 ≠ T))) → s 1 i = u 1 i := fun i hi => hs i (by omega)
    have eA : sb_ d' 5 0 = a5 0 := by rw [sb_ap, hd' _ (by omega)]; exact hs5q 0 (by omega)
    have eA5 : d' 5 = a5 0 := eA
    refine ⟨s, ?_, hmu.tr hms, ⟨?_, ?_, fun r hr => ?_, fun h7 => ?_⟩, fun o ho => by rw [hd' o (by omega), hs5 o (by omega)], ⟨fun o a b => by rw [hd' o (by omega), ho' o (by omega), mg_o (by omega)], fun h8 => by rw [hd8 (by rw [← h.rv]; exact h8), hs5 8 (by omega)]⟩, ?_⟩
    · unfold fX8_round_j197
      rw [bn_e el]
      rfl
    · refine ((hA6.ext (fun q hq => ?_)).of (by omega) (fun i a b => ?_))
      · rw [sb_ap, hd' _ (by omega)]
        exact hs5q q hq
      · unfold ab_ at a b
        rw [k2 i (by omega), hu i (by omega) (by omega)]
    · refine hI6.of (fun i a b => ?_)
      unfold ab_ at a b
      rw [k2 i (by omega), hu i (by omega) (by omega)]
    · exact ⟨(hA r hr).1, (hA r hr).2.1⟩
    · rw [k2 21 (by omega), kv 21 (by omega) (by omega) (by unfold vI_; omega)] at h7
      obtain ⟨b1, b2⟩ := hu7 h7
      exact ⟨b1.of (by omega) (fun i a b => by unfold ab_ at a b; exact k2 i (by omega)), b2.of (fun i a b => by unfold ab_ at a b; exact k2 i (by omega))⟩
    · refine ⟨fun i hi => ?_, ?_, fun r hr => ⟨?_, ?_⟩, ⟨?_, ?_, ?_⟩, fun r hr => ?_, ?_, ?_⟩
      · unfold uI_ at hi
        rw [k2 i (by omega), kv i (by omega) (by omega) (by unfold vI_; omega)]
      · rw [k2 _ (by omega), hu _ (by omega) (by omega), hTI]
      · rw [k2 _ (by omega), hu _ (by omega) (by omega), (hTB r hr).1]
      · rw [k2 _ (by omega), hu _ (by omega) (by omega), (hTB r hr).2, eA5]
      · rw [k2 _ (by omega), hu _ (by omega) (by omega), c5, eA5]
      · rw [eA5]; exact r5
      · rw [eA5]; exact p5
      · exact (hA r hr).2.2
      · refine (show NTo (sb_ d' 5) (t 1) (s36 1) r9 by unfold NTo at hN ⊢; rw [eA]; exact hN).of (fun _ _ => rfl) (fun i hi => ?_)
        rw [k2 i (by omega), hu i (by omega) (by omega)]
      · rw [k2 24 (by omega), hu24]
  rcases hrv with ⟨h1, h2⟩ | ⟨h1, rr, hrr, h2, h3⟩
  · obtain ⟨s, e1, e2, e3, e4, e5⟩ := fin s36 s' m36 (fun _ _ _ => rfl) (fun z => absurd h1 z) (fun _ _ => rfl) (fun _ => rfl) (by rw [if_neg (fun z => z.1 h1), Int32.add_zero]; exact hv 24 (by unfold vI_; omega))
    refine ⟨s', s, ?_, ?_, e2, e3, e4, e5⟩
    · rw [ecl]
      unfold fX1_serveAll_x21_56
      have e14 : sb_ s' 1 0 14 = -1 := by
        show s' 1 14 = -1
        rw [hs5 1 (by omega), h.rv, h1]
      rw [bn_e hasRival_e, if_pos e14, if_pos rfl]
    · rw [ex, if_pos h2, e1]
  · subst h2
    obtain ⟨b1, b2⟩ := h.2.2.2.2.2 h1
    have hS : RS (sb_ s' 1) (s36 1) C R := h.1.1.of (fun o hh => by rw [sb_ap, sb_ap, hs5 _ (by omega)]) (fun i hi => hv i (by unfold sI_ at hi; unfold vI_; omega))
    have q9 : s' 0 9 = t 1 16 := by rw [hs5 0 (by omega), h.mk]
    obtain ⟨a8, z, e8, ez, hP, -⟩ := serve_q (t := s36) (a := sb_ s' 8) (m := 7) (mk := s' 0 9) ((b1.ext (fun q hq => by rw [sb_ap, sb_ap, hs5 _ (by omega)])).of h20 (fun i a b => by unfold ab_ at a b; exact hv i (by unfold vI_; omega))) (b2.of (fun i a b => by unfold ab_ at a b; exact hv i (by unfold vI_; omega))) hS hrr (by rw [q9]; exact (hv 16 (by unfold vI_; omega)).symm)
    obtain ⟨p1, p2, p3, p4, pr, p6⟩ := hP
    have hz : ∀ i, (i < 401 ∨ 448 ≤ i) → z.1 1 i = s36 1 i := fun i a => by
      rcases p6 with ⟨-, -, h⟩ | ⟨-, -, h⟩
      · rw [h]
      · rcases h with ⟨-, h⟩ | ⟨h, -⟩
        · exact h i (by unfold ab_; omega)
        · exact absurd h (by decide)
    have d8 : mg_ s' 8 3 a8 8 = a8 0 := by rw [mg_i (by omega) (by omega)]
    have d5 : mg_ s' 8 3 a8 5 = a5 0 := by rw [mg_o (by omega)]; exact hs5q 0 (by omega)
    have step : ∀ z3 : Int32, z3 = (if a8 0 9 < a5 0 9 then 1 else 0) → ∃ s, fX8_round_j195 (t2, nI rr) s36 z z3 = fX8_round_x200_242 (t2, nI rr) s ∧ mo_ t s ∧ DA (mg_ s' 8 3 a8) (s 1) C R (n - 1) ∧ (∀ o, (o < 5 ∨ (11 ≤ o ∧ o < 15)) → (mg_ s' 8 3 a8) o = d o) ∧ OK_ d (mg_ s' 8 3 a8) R ∧ SVo d (mg_ s' 8 3 a8) (t 1) (s 1) R T r9 := by
      intro z3 hz3
      obtain ⟨s, e1, e2⟩ := fin (pt_ z.1 1 24 (s36 1 24 + z3)) (mg_ s' 8 3 a8) ((m36.tr p1).tr mo_p1) (fun i a b => by rw [pt_r a, hz i b]) (fun _ => by
        have he : ∀ i, ab_ 7 ≤ i → i < ab_ 7 + 47 → pt_ z.1 1 24 (s36 1 24 + z3) 1 i = z.1 1 i := fun i a b => by unfold ab_ at a b; exact pt_r (by omega)
        refine ⟨(p2.ext (fun q hq => ?_)).of (by omega) he, p3.of he⟩
        rw [sb_ap, mg_i (by omega) (by omega)]
        congr 1
        omega) (fun o ho => mg_o (by omega)) (fun z => absurd z h1) (by
        rw [pt_a, d8, d5, hz3, hv 24 (by unfold vI_; omega)]
        congr 1
        by_cases hc : a8 0 9 < a5 0 9
        · rw [if_pos hc, if_pos ⟨h1, hc⟩]
        · rw [if_neg hc, if_neg (fun z => hc z.2)])
      refine ⟨s, ?_, e2⟩
      unfold fX8_round_j195
      rw [gd_t b24_, bd_e, i24_, e1]
    have ej : ∃ z3 : Int32, z3 = (if a8 0 9 < a5 0 9 then 1 else 0) ∧ fX8_round_x79_118 (nI r9) (t2, nI rr) t = fX8_round_j195 (t2, nI rr) s36 z z3 := by
      rw [ex, if_neg (nI_ne1 (by omega)), gd_t b24_, bn_e (show fX8_serves s36 (7 : Int32) (nI rr) = some z from ez), ← p4]
      by_cases hc : a8 0 9 < a5 0 9
      · exact ⟨1, by rw [if_pos hc], by rw [if_neg (Int32.not_le.mpr hc)]⟩
      · exact ⟨0, by rw [if_neg hc], by rw [if_pos (Int32.not_lt.mp hc)]⟩
    obtain ⟨z3, hz3, ej⟩ := ej
    obtain ⟨s, e1, e2⟩ := step z3 hz3
    refine ⟨_, s, ?_, ej.trans e1, e2⟩
    rw [ecl]
    unfold fX1_serveAll_x21_56
    have e14 : ¬ sb_ s' 1 0 14 = -1 := by
      show ¬ s' 1 14 = -1
      rw [hs5 1 (by omega), h.rv]
      exact h1
    have e13 : s' 0 13 = nI rr := by rw [hs5 0 (by omega), h3]
    rw [bn_e hasRival_e, if_neg e14, if_neg (by decide), e13, bn_e e8, bd_e]
end SERVINGS
