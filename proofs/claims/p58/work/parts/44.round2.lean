/-! a round: all -/
def RE (d2 d3 : st_) (w w' : Nat → Int32) (R T r9 : Nat) : Prop :=
  (∀ d', (∀ q, q < 33 → d' q = d2 q) → ∀ o, o < R → fX0_costBy (sb_ d' 5) (sb_ d' 1) (nI o) = some (cby d2 o)) ∧
  (∀ i, 12548 ≤ i → w' i = if 12548 + 6 * r9 ≤ i ∧ i < 12548 + 6 * r9 + R then w i + cby d2 (i - (12548 + 6 * r9)) else w i) ∧
  w' (548 + T) = nI r9 ∧
  (∀ r, r < R → w' (26 + 5 * r + 3) = w (26 + 5 * r + 3) + (if r = r9 then 1 else 0) ∧ w' (26 + 5 * r + 4) = w (26 + 5 * r + 4) + (if r = r9 then d3 5 9 else 0)) ∧
  (w' (10148 + T) = d3 5 9 ∧ rg_ (d3 5 9) 0 9900 ∧ w' (ab_ 6 + 3) = w (ab_ 6 + 3) + d3 5 9) ∧
  (∀ r, r < R → w' (2948 + 1200 * r + T) = d3 (3 * r + 15) 9 ∧ rg_ (d3 (3 * r + 15) 9) 0 9900 ∧ w' (ab_ r + 3) = w (ab_ r + 3) + d3 (3 * r + 15) 9) ∧
  NTo (sb_ d3 5) w w' r9 ∧
  w' 24 = w 24 + (if ¬ w 21 = -1 ∧ d3 8 9 < d3 5 9 then 1 else 0) ∧
  (w' (1748 + T) = nI (bst (fun r => d3 (3 * r + 15) 5) (R - 1)) ∧ w' 16 = nI (T + 1)) ∧
  (∃ reg br, fX1_regretNow d3 = some reg ∧ fX1_isBreach d3 = some br ∧ w' 18 = (if T = 0 then reg else if w 18 < reg then reg else w 18) ∧ ((br = 0 ∧ w' 17 = w 17 ∧ w' 19 = w 19) ∨ (br = 1 ∧ w' 17 = w 17 + 1 ∧ w' 19 = if w 17 = 0 then nI T else w 19))) ∧
  ∀ i, 548 ≤ i → i < 12548 → (i - 548) % 1200 ≠ T → w' i = w i
section ROUND
variable {d d' t : st_} {w w' : Nat → Int32} {C R n r9 T : Nat}
theorem DV.of2 (h : DV d w R) (h1 : d' 0 = d 0) (h2 : d' 12 = d 12) (he : ∀ i, (i = 8 ∨ i = 10 ∨ i = 14 ∨ i = 15 ∨ i = 16 ∨ i = 23 ∨ i = 25 ∨ (26 ≤ i ∧ i < 56 ∧ (i - 26) % 5 = 2)) → w' i = w i) (hR6 : R ≤ 6) : DV d' w' R := by
  unfold DV at h ⊢
  rw [h1, h2, he 8 (by omega), he 10 (by omega), he 14 (by omega), he 15 (by omega), he 16 (by omega), he 23 (by omega), he 25 (by omega)]
  obtain ⟨v1, v2, v3, v4, v5, v6, v7, v8, v9, v10, v11⟩ := h
  refine ⟨v1, v2, v3, v4, v5, v6, v7, v8, v9, v10, fun r hr => ?_⟩
  rw [he _ (by omega)]
  exact v11 r hr
theorem DD.wx (h : DD d w C R n) (he : ∀ i, i < 12548 → w' i = w i) : DD d w' C R n :=
  ⟨h.1.of (fun _ _ _ => rfl) (fun i hi => he i (by unfold sI_ at hi; omega)), h.2.1.of rfl rfl (fun i hi => he i (by omega)) h.rb.1.2.1, h.2.2.wext h.rb.1.2.1 (fun i hi => he i (by omega))⟩
theorem foe_q (h : DD d (t 1) C R n) : ∃ d1 t1 n1, fX1_moveFoe d = some d1 ∧ fX8_round t = fX8_round_j11 t1 ∧ mo_ t t1 ∧ DD d1 (t1 1) C R n1 ∧ (∀ i, fI_ i → t1 1 i = t 1 i) ∧ OK_ d d1 R := by
  obtain ⟨A1, A2, -, -⟩ := id h.2.2
  have h20 := A2.2.2.2.2.1
  have e5 : d 5 2 = nI n := A1.2.2.1.trans A2.2.2.2.1
  rcases Nat.lt_or_ge n 20 with hn | hn
  · obtain ⟨d1, t1, n1, e1, e2, m1, h1, hi⟩ := foe_p h hn
    refine ⟨d1, t1, n1, e1, ?_, m1, h1, hi⟩
    unfold fX8_round
    rw [bn_e (misFull_e A2.2.2.2.1 h20), if_pos hn, if_pos rfl, bn_e e2]
  · refine ⟨d, t, n, ?_, ?_, mo_r, h, fun _ _ => rfl, OK_.r⟩
    · unfold fX1_moveFoe
      rw [bn_e (isFull_e e5 h20), if_neg (show ¬ n < 20 by omega), if_neg (show ¬ (1 : Int32) = 0 by decide)]
    · unfold fX8_round
      rw [bn_e (misFull_e A2.2.2.2.1 h20), if_neg (show ¬ n < 20 by omega), if_neg (show ¬ (1 : Int32) = 0 by decide)]
theorem DD.x33 (h : DD d w C R n) (he : ∀ o, o < 33 → d' o = d o) : DD d' w C R n := by
  have hR6 := h.rb.1.2.1
  obtain ⟨h1, h2, A1, A2, A3, A4⟩ := h
  exact ⟨h1.of (fun o _ _ => he o (by omega)) (fun _ _ => rfl), h2.of (he 0 (by omega)) (he 12 (by omega)) (fun _ _ => rfl) hR6, A1.ext (fun q hq => by rw [sb_ap, sb_ap, he _ (by omega)]), A2, fun r hr => ⟨(A3 r hr).1.ext (fun q hq => by rw [sb_ap, sb_ap, he _ (by omega)]), (A3 r hr).2⟩, fun h => ⟨(A4 h).1.ext (fun q hq => by rw [sb_ap, sb_ap, he _ (by omega)]), (A4 h).2⟩⟩
theorem cby_u (h : DD d (t 1) C R n) (h' : DD d' (t 1) C R n) {o : Nat} (ho : o < R) : fX0_costBy (sb_ d' 5) (sb_ d' 1) (nI o) = some (cby d o) := by
  obtain ⟨tu, e1, e2⟩ := cby_e h ho (s := t) (fun _ _ => rfl)
  obtain ⟨tu', e3, e4⟩ := cby_e h' ho (s := t) (fun _ _ => rfl)
  have e := congrArg Prod.snd (Option.some.inj (e2.symm.trans e4))
  have e : cby d o = cby d' o := e
  rw [e3, e]
/-- the class's three steps, with what lies about them left open -/
theorem round_g (h : DD d (t 1) C R n) (hT : t 1 16 = nI T) (hT2 : T < 1200) : ∃ d1, fX1_moveFoe d = some d1 ∧ ∀ d1', (∀ o, o < 33 → d1' o = d1 o) → ∃ d2, fX1_takeRules d1' = some d2 ∧ ∀ d2', (∀ o, o < 33 → d2' o = d2 o) → ∃ d3 t' n' r9, fX1_serveAll d2' = some d3 ∧ fX8_round t = some t' ∧ mo_ t t' ∧ DD d3 (t' 1) C R n' ∧ r9 < R ∧ d2' 0 12 = nI r9 ∧ d3 0 12 = nI r9 ∧ d2' 1 4 = nI R ∧ d3 1 4 = nI R ∧ d3 1 14 = t 1 21 ∧ OK_ d d3 R ∧ RE d2' d3 (t 1) (t' 1) R T r9 := by
  obtain ⟨d1, t1, n1, e1, er, m1, h1, hi1, hk1⟩ := foe_q h
  refine ⟨d1, e1, fun d1' hx1 => ?_⟩
  obtain ⟨d20, t2, r9, rv, e2, h9, hd9, hd2o, ej, m2, hi2, h20, hrv0⟩ := take_p (h1.x33 hx1)
  refine ⟨d20, e2, fun d2 hx2 => ?_⟩
  have h2 : DD d2 (t2 1) C R n1 := h20.x33 hx2
  have hd9 : d2 0 12 = nI r9 := by rw [hx2 0 (by omega)]; exact hd9
  have hrv : (t1 1 21 = -1 ∧ rv = -1) ∨ (¬ t1 1 21 = -1 ∧ ∃ rr, rr < R ∧ rv = nI rr ∧ d2 0 13 = nI rr) := by rw [hx2 0 (by omega)]; exact hrv0
  obtain ⟨t3, e3, m3, hi3⟩ := swaps_w h2 h9
  have k3 : ∀ i, i < 12548 → t3 1 i = t2 1 i := fun i hi => by rw [hi3, if_neg (by omega)]
  have h3 : DD d2 (t3 1) C R n1 := h2.wx k3
  have hR6 := h.rb.1.2.1
  have hR1 := h.rb.1.1
  have q1 : ∀ i, fI_ i → i ≠ 8 → i ≠ 23 → i ≠ 25 → t2 1 i = t 1 i := fun i a b c d => by rw [hi2 i b c d, hi1 i a]
  have q3 : ∀ i, fI_ i → i ≠ 8 → i ≠ 23 → i ≠ 25 → i < 12548 → t3 1 i = t 1 i := fun i a b c d e => by rw [k3 i e, q1 i a b c d]
  have f16 : fI_ 16 := by unfold fI_; omega
  have f21 : fI_ 21 := by unfold fI_; omega
  have hT2' : t2 1 16 = nI T := by rw [q1 16 f16 (by omega) (by omega) (by omega), hT]
  have e21 : t3 1 21 = t1 1 21 := by rw [k3 21 (by omega), hi2 21 (by omega) (by omega) (by omega)]
  obtain ⟨d', s, es, ex, ms, hA, hd'o, hk', hO⟩ := servings_p (rv := rv) h3 h9 hd9 hT2' hT2 (by rw [e21]; exact hrv)
  obtain ⟨o1, o2, o3, o4, o5, o6, o7⟩ := hO
  have u16 : s 1 16 = nI T := by rw [o1 16 (by unfold uI_; omega), k3 16 (by omega), hT2']
  have hS : DS d' (s 1) C R := h3.1.of (fun o a b => hd'o o (by omega)) (fun i hi => o1 i (by unfold sI_ at hi; unfold uI_; omega))
  have hV : DV d' (s 1) R := h3.2.1.of2 (hd'o 0 (by omega)) (hd'o 12 (by omega)) (fun i hi => o1 i (by unfold uI_; omega)) hR6
  obtain ⟨d3, t', e4, e5, m5, h5, d3o, d30, d39, j1, j2, j3, j4⟩ := round2_p (rv := rv) hS hV hA hT2' u16 hT2 (fun r hr => ⟨(o5 r hr).1, (o5 r hr).2.1⟩)
  have d35 : ∀ o, 5 ≤ o → o ≠ 12 → d3 o = d' o := fun o a b => d3o o (by omega) b
  have hd5 : sb_ d3 5 0 = sb_ d' 5 0 := by rw [sb_ap, sb_ap, d35 _ (by omega) (by omega)]
  have kk : ∀ i, i ≠ 16 → i ≠ 17 → i ≠ 18 → i ≠ 19 → (26 ≤ i → i < 56 → (i - 26) % 5 ≠ 2) → i ≠ 1748 + T → t' 1 i = s 1 i := j4
  have s3i : ∀ i, uI_ T i → s 1 i = t3 1 i := o1
  have h2R : d2 1 4 = nI R := h2.rb.1.2.2.1
  refine ⟨d3, t', n1 - 1, r9, es.trans e4, ?_, ((m1.tr m2).tr (m3.tr ms)).tr m5, h5, h9, hd9, ?_, h2R, h5.rb.1.2.2.1, ?_, ?_, ⟨fun dx hx o ho => ?_, fun i hi => ?_, ?_, fun r hr => ?_, ⟨?_, ?_, ?_⟩, fun r hr => ⟨?_, ?_, ?_⟩, ?_, ?_, ⟨j1, j2⟩, ?_, fun i a b c => ?_⟩⟩
  · rw [er, ej, bn_e e3]
    exact ex.trans e5
  · rw [d30 12 (by decide), hd'o 0 (by omega), hd9]
  · rw [h5.rv, kk 21 (by omega) (by omega) (by omega) (by omega) (by omega) (by omega), s3i 21 (by unfold uI_; omega), q3 21 f21 (by omega) (by omega) (by omega) (by omega)]
  · have g1 : d1' 1 14 = d 1 14 := by rw [hx1 1 (by omega), h1.rv, h.rv, hi1 21 f21]
    have g2 : d2 1 14 = d1' 1 14 := by rw [hx2 1 (by omega), hd2o 1 (by omega)]
    have k1 : OK_ d d1' R := ⟨fun o a b => (hx1 o b).trans (hk1.1 o a b), fun k => (hx1 8 (by omega)).trans (hk1.2 k)⟩
    have k2 : OK_ d1' d2 R := ⟨fun o a b => (hx2 o b).trans (hd2o o (by omega)), fun k => (hx2 8 (by omega)).trans (hd2o 8 (by omega))⟩
    have k3 : OK_ d' d3 R := ⟨fun o a b => d3o o (by omega) (by omega), fun k => d3o 8 (by omega) (by omega)⟩
    exact ((k1.tr k2 g1).tr hk' (g2.trans g1)).tr k3 (by rw [hd'o 1 (by omega), g2, g1])
  · exact cby_u h2 (h2.x33 hx) ho
  · rw [kk i (by omega) (by omega) (by omega) (by omega) (by omega) (by omega), s3i i (by unfold uI_; omega), hi3]
    rw [q1 i (by unfold fI_; omega) (by omega) (by omega) (by omega)]
  · rw [kk _ (by omega) (by omega) (by omega) (by omega) (by omega) (by omega), o2]
  · rw [kk (26 + 5 * r + 3) (by omega) (by omega) (by omega) (by omega) (by omega) (by omega), kk (26 + 5 * r + 4) (by omega) (by omega) (by omega) (by omega) (by omega) (by omega), (o3 r hr).1, (o3 r hr).2, q3 (26 + 5 * r + 3) (by unfold fI_; omega) (by omega) (by omega) (by omega) (by omega), q3 (26 + 5 * r + 4) (by unfold fI_; omega) (by omega) (by omega) (by omega) (by omega), d35 5 (by omega) (by omega)]
    exact ⟨rfl, rfl⟩
  · rw [kk _ (by omega) (by omega) (by omega) (by omega) (by omega) (by omega), o4.1, d35 5 (by omega) (by omega)]
  · rw [d35 5 (by omega) (by omega)]; exact o4.2.1
  · have a1 : d3 5 5 = t' 1 (ab_ 6 + 3) := h5.2.2.1.2.2.2.1
    have a2 : d2 5 5 = t3 1 (ab_ 6 + 3) := h3.2.2.1.2.2.2.1
    have a3 : t3 1 (ab_ 6 + 3) = t 1 (ab_ 6 + 3) := q3 _ (by unfold fI_ ab_; omega) (by unfold ab_; omega) (by unfold ab_; omega) (by unfold ab_; omega) (by unfold ab_; omega)
    rw [← a1, ← a3, ← a2, d35 5 (by omega) (by omega), o4.2.2]
  · rw [kk _ (by omega) (by omega) (by omega) (by omega) (by omega) (by omega), (o5 r hr).1, d35 _ (by omega) (by omega)]
  · rw [d35 _ (by omega) (by omega)]; exact (o5 r hr).2.1
  · have a1 : d3 (3 * r + 15) 5 = t' 1 (ab_ r + 3) := (h5.2.2.2.2.1 r hr).1.2.2.2.1
    have a2 : d2 (3 * r + 15) 5 = t3 1 (ab_ r + 3) := (h3.2.2.2.2.1 r hr).1.2.2.2.1
    have a3 : t3 1 (ab_ r + 3) = t 1 (ab_ r + 3) := q3 _ (by unfold fI_ ab_; omega) (by unfold ab_; omega) (by unfold ab_; omega) (by unfold ab_; omega) (by unfold ab_; omega)
    rw [← a1, ← a3, ← a2, d35 _ (by omega) (by omega), (o5 r hr).2.2]
  · refine (show NTo (sb_ d3 5) (t3 1) (s 1) r9 by unfold NTo at o6 ⊢; rw [hd5]; exact o6).of (fun i hi => ?_) (fun i hi => ?_)
    · exact (q3 i (by unfold fI_; omega) (by omega) (by omega) (by omega) (by omega)).symm
    · exact kk i (by omega) (by omega) (by omega) (by omega) (by omega) (by omega)
  · rw [kk 24 (by omega) (by omega) (by omega) (by omega) (by omega) (by omega), o7, q3 24 (by unfold fI_; omega) (by omega) (by omega) (by omega) (by omega), q3 21 f21 (by omega) (by omega) (by omega) (by omega), d35 5 (by omega) (by omega), d35 8 (by omega) (by omega)]
  · obtain ⟨reg, br, b1, b2, b3, b4⟩ := j3
    have c17 : s 1 17 = t 1 17 := by rw [s3i 17 (by unfold uI_; omega), q3 17 (by unfold fI_; omega) (by omega) (by omega) (by omega) (by omega)]
    have c18 : s 1 18 = t 1 18 := by rw [s3i 18 (by unfold uI_; omega), q3 18 (by unfold fI_; omega) (by omega) (by omega) (by omega) (by omega)]
    have c19 : s 1 19 = t 1 19 := by rw [s3i 19 (by unfold uI_; omega), q3 19 (by unfold fI_; omega) (by omega) (by omega) (by omega) (by omega)]
    rw [c18] at b3
    rw [c17, c19] at b4
    exact ⟨reg, br, b1, b2, b3, b4⟩
  · rw [kk i (by omega) (by omega) (by omega) (by omega) (by omega) (by omega), s3i i (by unfold uI_; omega), q3 i (by unfold fI_; omega) (by omega) (by omega) (by omega) b]
end ROUND
