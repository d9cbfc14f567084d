/-! a round, of the class and of the model -/
/-- what the second half of a round does to the row -/
def JO (d3 : st_) (w w' : Nat → Int32) (R T : Nat) : Prop :=
  w' (1748 + T) = nI (bst (fun r => d3 (3 * r + 15) 5) (R - 1)) ∧ w' 16 = nI (T + 1) ∧
  (∃ reg br, fX1_regretNow d3 = some reg ∧ fX1_isBreach d3 = some br ∧ w' 18 = (if T = 0 then reg else if w 18 < reg then reg else w 18) ∧ ((br = 0 ∧ w' 17 = w 17 ∧ w' 19 = w 19) ∨ (br = 1 ∧ w' 17 = w 17 + 1 ∧ w' 19 = if w 17 = 0 then nI T else w 19))) ∧
  ∀ i, i ≠ 16 → i ≠ 17 → i ≠ 18 → i ≠ 19 → (26 ≤ i → i < 56 → (i - 26) % 5 ≠ 2) → i ≠ 1748 + T → w' i = w i
section ROUND
variable {d t t2 : st_} {C R n r9 T : Nat} {rv : Int32}
theorem round2_p (hS : DS d (t 1) C R) (hV : DV d (t 1) R) (hA : DA d (t 1) C R n) (hT : t2 1 16 = nI T) (hT1 : t 1 16 = nI T) (hT2 : T < 1200) (hc : ∀ r, r < R → t 1 (2948 + 1200 * r + T) = d (3 * r + 15) 9 ∧ rg_ (d (3 * r + 15) 9) 0 9900) : ∃ d3 t', fX1_serveAll_j85 d = some d3 ∧ fX8_round_x200_242 (t2, rv) t = some t' ∧ mo_ t t' ∧ DD d3 (t' 1) C R n ∧ (∀ o, o ≠ 0 → o ≠ 12 → d3 o = d o) ∧ (∀ j, j ≠ 9 → d3 0 j = d 0 j) ∧ d3 0 9 = nI (T + 1) ∧ JO d3 (t 1) (t' 1) R T := by
  obtain ⟨hRS, a1, a2, k1, k2, k3, k4, eta, etar, foe, foer, ak, akr, asks, base, root, bud, rvd, rvr, rvk⟩ := id hS
  obtain ⟨v1, v2, v3, v4, v5, v6, v7, v8, v9, v10, v11⟩ := id hV
  obtain ⟨hC2, hC, hS0, hw0, hR1, hR6, hS4, hw4, hS2, hS3, hw2, hw3, hk⟩ := id hRS
  have hd4 : d 1 4 = nI R := hS4
  have hd0 : d 1 0 = nI C := hS0
  have hd2 : d 1 2 = t 1 2 := hS2
  have hd3 : d 1 3 = t 1 3 := hS3
  -- the most that a way costs
  obtain ⟨x, _, x2, ex⟩ := hw2.ex
  obtain ⟨y, y1, y2, ey⟩ := hw3.ex
  have hm1 : y * (C - 1) ≤ 99 * 99 := Nat.mul_le_mul y2 (by omega)
  have hm2 : 1 * 1 ≤ y * (C - 1) := Nat.mul_le_mul y1 (by omega)
  have eW : t 1 2 + t 1 3 * (t 1 0 - 1) = nI (x + y * (C - 1)) := by
    rw [ex, ey, hw0, show nI C - (1 : Int32) = nI (C - 1) from pk_sub (b := 1) (by omega), pk_mul, nI_add]
  have eW2 : pr_ (d 1 2) (d 1 3) 0 (C - 1) = nI (x + y * (C - 1)) := by
    unfold pr_ ds_
    rw [if_neg (by omega), hd2, hd3, ex, ey, show C - 1 - 0 + (0 - (C - 1)) = C - 1 by omega, pk_mul, nI_add]
  have hWr : rg_ (nI (x + y * (C - 1))) 1 9900 := rg_n (by omega) (by omega) (by omega)
  generalize nI (x + y * (C - 1)) = W at eW eW2 hWr
  generalize hf : (fun r => nw_ (t 1 (26 + 5 * r + 2)) (t 1 7) (t 1 (2948 + 1200 * r + T)) W) = f
  have hf1 : ∀ r, r < R → f r = nw_ (t 1 (26 + 5 * r + 2)) (t 1 7) (t 1 (2948 + 1200 * r + T)) W := fun r _ => by rw [← hf]
  have hf2 : ∀ r, r < R → f r = nw_ (d 12 r) (d 1 9) (d (3 * r + 15) 9) W := fun r hr => by rw [hf1 r hr, (hc r hr).1, (v11 r hr).1, eta]
  have hf3 : ∀ r, r < R → rg_ (f r) 1 1000000 := fun r hr => by
    rw [hf1 r hr, (hc r hr).1]
    exact nw_rg (v11 r hr).2 etar (hc r hr).2 hWr
  obtain ⟨d2, ed2, hd2o, hd2w⟩ := loseWeights_w (d := d) hd4 hR6 hd0 hC2 hC eW2 hWr hf2
  obtain ⟨s1, es1, m1, hs1w, hs1⟩ := weighs_w (t := t) hw4 hR6 eW hWr hT1 hT2 hf1
  have q1 : ∀ i, (26 ≤ i → i < 56 → (i - 26) % 5 ≠ 2) → s1 1 i = t 1 i := fun i hi => hs1 i (fun r hr => by omega)
  generalize hd3 : pt_ d2 0 9 (d2 0 9 + 1) = d3
  have d3o : ∀ o, o ≠ 0 → o ≠ 12 → d3 o = d o := fun o a b => by rw [← hd3, pt_o a, hd2o o b]
  have d30 : ∀ j, j ≠ 9 → d3 0 j = d 0 j := fun j a => by rw [← hd3, pt_r a, hd2o 0 (by decide)]
  have d39 : d3 0 9 = nI (T + 1) := by rw [← hd3, pt_a, hd2o 0 (by decide), v5, hT1]; exact nI_1 T
  have d312 : d3 12 = d2 12 := by rw [← hd3, pt_o (by decide)]
  have ed3 : fX1_serveAll_j85 d = some d3 := by
    unfold fX1_serveAll_j85
    rw [bn_e ed2, bd_e, hd3]
  -- the model goes on
  have hA1 : DA d3 (s1 1) C R n := (hA.dext hR6 (fun o ho => d3o o (by omega) (by omega))).wext hR6 (fun i hi => q1 i (by omega))
  have hR1m : s1 1 4 = nI R := by rw [q1 4 (by omega), hw4]
  have eb := best_p hA1 hR1m hR1 hR6
  have hbl := bst_le (f := fun r => d3 (3 * r + 15) 5) (R - 1)
  generalize hB : bst (fun r => d3 (3 * r + 15) 5) (R - 1) = b at eb hbl
  have xi : (1748 : Int32) + nI T = nI (1748 + T) := nI_add 1748 T
  have yi : ix_ (nI (1748 + T)) = 1748 + T := ix_n (by omega)
  generalize hs49 : pt_ s1 1 (1748 + T) (nI b) = s49
  have q49 : s49 1 16 = nI T := by rw [← hs49, pt_r (by omega), q1 16 (by omega), hT1]
  generalize hs55 : pt_ s49 1 16 (nI (T + 1)) = s55
  have m55 : mo_ t s55 := by rw [← hs55, ← hs49]; exact m1.tr (mo_p1.tr mo_p1)
  have q55 : ∀ i, i ≠ 16 → i ≠ 1748 + T → s55 1 i = s1 1 i := fun i a b => by rw [← hs55, pt_r a, ← hs49, pt_r b]
  have q5516 : s55 1 16 = nI (T + 1) := by rw [← hs55, pt_a]
  have q55T : s55 1 (1748 + T) = nI b := by rw [← hs55, pt_r (by omega), ← hs49, pt_a]
  have hA2 : DA d3 (s55 1) C R n := hA1.wext hR6 (fun i hi => q55 i (by omega) (by omega))
  have q2 : ∀ i, i ≠ 16 → i ≠ 1748 + T → (26 ≤ i → i < 56 → (i - 26) % 5 ≠ 2) → s55 1 i = t 1 i := fun i a b c => by rw [q55 i a b, q1 i c]
  have e31 : d3 1 = d 1 := d3o 1 (by decide) (by decide)
  obtain ⟨t', reg, br, j1, j2, j3, j4, j5, j6, j7⟩ := judges_p hA2 (by rw [e31]; exact hd4) (by rw [q2 4 (by omega) (by omega) (by omega)]; exact hw4) hR1 hR6 (by rw [e31, q2 11 (by omega) (by omega) (by omega)]; exact base) (by rw [e31, q2 12 (by omega) (by omega) (by omega)]; exact root) (d39.trans q5516.symm) q5516 hT2
  have qt : ∀ i, i ≠ 16 → i ≠ 17 → i ≠ 18 → i ≠ 19 → i ≠ 1748 + T → (26 ≤ i → i < 56 → (i - 26) % 5 ≠ 2) → t' 1 i = t 1 i := fun i a1 a2 a3 a4 b c => by rw [j7 i a2 a3 a4, q2 i a1 b c]
  refine ⟨d3, t', ed3, ?_, m55.tr j4, ⟨hS.of (fun o h1 h2 => d3o o (by omega) (by omega)) (fun i hi => qt i (by unfold sI_ at hi; omega) (by unfold sI_ at hi; omega) (by unfold sI_ at hi; omega) (by unfold sI_ at hi; omega) (by unfold sI_ at hi; omega) (by unfold sI_ at hi; omega)), ?_, hA2.wext hR6 (fun i hi => j7 i (by omega) (by omega) (by omega))⟩, d3o, d30, d39, ?_⟩
  · unfold fX8_round_x200_242
    dsimp only
    rw [bn_e es1, bn_e eb, i16_, hT, xi, yi, gd_t (ib_n (by omega) (by omega)), bd_e, hs49, gd_t b16_, gd_t b16_, bd_e, q49, nI_1, hs55, bn_e j1]
  · unfold DV
    rw [d30 7 (by decide), d30 8 (by decide), d30 10 (by decide), d30 11 (by decide), d30 13 (by decide), d39, qt 8 (by omega) (by omega) (by omega) (by omega) (by omega) (by omega), qt 23 (by omega) (by omega) (by omega) (by omega) (by omega) (by omega), qt 10 (by omega) (by omega) (by omega) (by omega) (by omega) (by omega), qt 14 (by omega) (by omega) (by omega) (by omega) (by omega) (by omega), qt 15 (by omega) (by omega) (by omega) (by omega) (by omega) (by omega), qt 25 (by omega) (by omega) (by omega) (by omega) (by omega) (by omega), j7 16 (by omega) (by omega) (by omega), q5516, d312]
    refine ⟨v1, v2, v3, v4, rfl, rg_n (Nat.zero_le _) (by omega) (by omega), v7, v8, v9, v10, fun r hr => ?_⟩
    have e : t' 1 (26 + 5 * r + 2) = fw_ f R r := by rw [j7 _ (by omega) (by omega) (by omega), q55 _ (by omega) (by omega), hs1w r hr]
    rw [e, hd2w r hr]
    exact ⟨rfl, fw_rg hr hf3⟩
  · refine ⟨?_, ?_, ⟨reg, br, j2, j3, ?_, ?_⟩, fun i a1 a2 a3 a4 b c => qt i a1 a2 a3 a4 c b⟩
    · rw [j7 _ (by omega) (by omega) (by omega), q55T, hB]
    · rw [j7 _ (by omega) (by omega) (by omega), q5516]
    · rw [j5, q2 18 (by omega) (by omega) (by omega)]
    · rw [q2 17 (by omega) (by omega) (by omega), q2 19 (by omega) (by omega) (by omega)] at j6
      exact j6
end ROUND
