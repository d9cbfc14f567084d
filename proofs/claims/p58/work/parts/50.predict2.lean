/-! predictions: settings changed, the others -/
def G1 (d : st_) (w : Nat → Int32) (R : Nat) : Prop := (d 1 7 = w 5 ∧ rg_ (w 5) 0 2) ∧ (w 5 = 2 → d 1 8 = w 6 ∧ rg_ (w 6) 0 (R - 1)) ∧ (¬ w 5 = 2 → d 1 8 = -1)
def G2 (d : st_) (w : Nat → Int32) : Prop := d 1 9 = w 7 ∧ rg_ (w 7) 1 500
def G3 (d : st_) (w : Nat → Int32) : Prop := d 1 11 = w 9 ∧ rg_ (w 9) 0 5
def G4 (d : st_) (w : Nat → Int32) (C : Nat) : Prop := d 1 12 = w 10 ∧ rg_ (w 10) 0 16 ∧ (∀ k, k < ix_ (w 10) → d 4 k = w (56 + k) ∧ rg_ (w (56 + k)) 0 (C - 1)) ∧ rg_ (w 15) 0 (ix_ (w 10))
def G5 (d : st_) (w : Nat → Int32) : Prop := d 1 17 = w 11 ∧ d 1 18 = w 12
def G6 (d : st_) (w : Nat → Int32) : Prop := d 1 16 = w 13 ∧ d 0 11 = w 14
section SETS
variable {s t d d' : st_} {w w' : Nat → Int32} {C R n T k : Nat} {x : Int32}
theorem GT.to (h : GT d w C R) : G1 d w R ∧ G2 d w ∧ G3 d w ∧ G4 d w C ∧ G5 d w ∧ G6 d w := ⟨⟨h.1, h.2.1, h.2.2.1⟩, h.2.2.2.1, h.2.2.2.2.1, h.2.2.2.2.2.1, h.2.2.2.2.2.2.1, h.2.2.2.2.2.2.2⟩
theorem GT.mk (h1 : G1 d w R) (h2 : G2 d w) (h3 : G3 d w) (h4 : G4 d w C) (h5 : G5 d w) (h6 : G6 d w) : GT d w C R := ⟨h1.1, h1.2.1, h1.2.2, h2, h3, h4, h5, h6⟩
theorem G1.of (h : G1 d w R) (a : d' 1 7 = d 1 7) (b : d' 1 8 = d 1 8) (c : w' 5 = w 5) (e : w' 6 = w 6) : G1 d' w' R := by
  unfold G1 at h ⊢
  rw [a, b, c, e]
  exact h
theorem G2.of (h : G2 d w) (a : d' 1 9 = d 1 9) (c : w' 7 = w 7) : G2 d' w' := by
  unfold G2 at h ⊢
  rw [a, c]
  exact h
theorem G3.of (h : G3 d w) (a : d' 1 11 = d 1 11) (c : w' 9 = w 9) : G3 d' w' := by
  unfold G3 at h ⊢
  rw [a, c]
  exact h
theorem G4.of (h : G4 d w C) (a : d' 1 12 = d 1 12) (b : d' 4 = d 4) (c : w' 10 = w 10) (e : w' 15 = w 15) (f : ∀ k, k < 16 → w' (56 + k) = w (56 + k)) : G4 d' w' C := by
  unfold G4 at h ⊢
  rw [a, b, c, e]
  refine ⟨h.1, h.2.1, fun k hk => ?_, h.2.2.2⟩
  have := h.2.1.2.2
  rw [f k (by omega)]
  exact h.2.2.1 k hk
theorem G5.of (h : G5 d w) (a : d' 1 17 = d 1 17) (b : d' 1 18 = d 1 18) (c : w' 11 = w 11) (e : w' 12 = w 12) : G5 d' w' := by
  unfold G5 at h ⊢
  rw [a, b, c, e]
  exact h
theorem G6.of (h : G6 d w) (a : d' 1 16 = d 1 16) (b : d' 0 11 = d 0 11) (c : w' 13 = w 13) (e : w' 14 = w 14) : G6 d' w' := by
  unfold G6 at h ⊢
  rw [a, b, c, e]
  exact h
/-- another master -/
theorem DD.mast (h : DD d w C R n) (hw : ∀ i, i ≠ 5 → i ≠ 6 → i < 12548 → w' i = w i) (hd1 : ∀ j, j ≠ 7 → j ≠ 8 → d' 1 j = d 1 j) (hdo : ∀ o, o < 33 → o ≠ 1 → d' o = d o) (hg : G1 d' w' R) : DD d' w' C R n := by
  obtain ⟨h1, h2, h3, h4, h5, h6⟩ := h.gt.to
  have e0 : d' 0 = d 0 := hdo 0 (by omega) (by omega)
  exact h.st (fun i a b => hw i (by omega) (by omega) a) (fun j a => hd1 j (by omega) (by omega)) (fun j _ => by rw [e0]) (fun o a b c d => hdo o a c) (GT.mk hg (h2.of (hd1 9 (by omega) (by omega)) (hw 7 (by omega) (by omega) (by omega))) (h3.of (hd1 11 (by omega) (by omega)) (hw 9 (by omega) (by omega) (by omega))) (h4.of (hd1 12 (by omega) (by omega)) (hdo 4 (by omega) (by omega)) (hw 10 (by omega) (by omega) (by omega)) (hw 15 (by omega) (by omega) (by omega)) (fun k hk => hw _ (by omega) (by omega) (by omega))) (h5.of (hd1 17 (by omega) (by omega)) (hd1 18 (by omega) (by omega)) (hw 11 (by omega) (by omega) (by omega)) (hw 12 (by omega) (by omega) (by omega))) (h6.of (hd1 16 (by omega) (by omega)) (by rw [e0]) (hw 13 (by omega) (by omega) (by omega)) (hw 14 (by omega) (by omega) (by omega))))
/-- another foe, another budget -/
theorem DD.foe (h : DD d w C R n) (hw : ∀ i, i ≠ 9 → i ≠ 13 → i ≠ 14 → i < 12548 → w' i = w i) (hd1 : ∀ j, j ≠ 11 → j ≠ 16 → d' 1 j = d 1 j) (hd0 : ∀ j, j ≠ 11 → d' 0 j = d 0 j) (hdo : ∀ o, o < 33 → o ≠ 0 → o ≠ 1 → d' o = d o) (hg : G3 d' w') (hg6 : G6 d' w') : DD d' w' C R n := by
  obtain ⟨h1, h2, h3, h4, h5, h6⟩ := h.gt.to
  exact h.st (fun i a b => hw i (by omega) (by omega) (by omega) a) (fun j a => hd1 j (by omega) (by omega)) hd0 (fun o a b c d => hdo o a b c) (GT.mk (h1.of (hd1 7 (by omega) (by omega)) (hd1 8 (by omega) (by omega)) (hw 5 (by omega) (by omega) (by omega) (by omega)) (hw 6 (by omega) (by omega) (by omega) (by omega))) (h2.of (hd1 9 (by omega) (by omega)) (hw 7 (by omega) (by omega) (by omega) (by omega))) hg (h4.of (hd1 12 (by omega) (by omega)) (hdo 4 (by omega) (by omega) (by omega)) (hw 10 (by omega) (by omega) (by omega) (by omega)) (hw 15 (by omega) (by omega) (by omega) (by omega)) (fun k hk => hw _ (by omega) (by omega) (by omega) (by omega))) (h5.of (hd1 17 (by omega) (by omega)) (hd1 18 (by omega) (by omega)) (hw 11 (by omega) (by omega) (by omega) (by omega)) (hw 12 (by omega) (by omega) (by omega) (by omega))) hg6)
theorem costIn_p (h : PP s t C R n T) (x i1 : Int32) : QP g2_ s t (fX7_costIn s x i1) (fX8_costIn t x i1) := by
  obtain ⟨hD, hU, hT, hT2, -⟩ := h
  have hB := hD.rb
  unfold fX7_costIn fX8_costIn
  rcases armX x hB.1.1 hB.1.2.1 with ⟨o, m, hm8, ho, et, -, ha, hA, hc, hn⟩ | ⟨hc, hn⟩
  · rw [bn_e (hc s hB.1.2.2.1), tb_l, bn_e (hn t hB.1.2.2.2), if_pos rfl]
    by_cases hx : 1 ≤ i1 ∧ i1 ≤ 200
    · obtain ⟨k, k1, k2, rfl⟩ := ((rg_iff (lo := 1) (hi := 200) (by omega) (by omega)).mpr hx).ex
      obtain ⟨r7, e7, hr7⟩ := trial_w hD hU
      obtain ⟨t2, e2, et2, e06, -, hmi⟩ := ask_w (t := t)
      have hD1 : DD (sb_ (mg_ s 83 33 r7) 83) (t2 1) C R n := by rw [et2]; exact hr7 _ (fun o a b => mg_i (by omega) (by omega))
      obtain ⟨d', t3, n', e3, e4, hm, hD3, h21⟩ := passes_p hD1 (by rw [et2]; exact hT) (k := k) (by omega)
      obtain ⟨t4, e5, hb, hbj⟩ := back_w (t := t3)
      obtain ⟨hmi1, h6⟩ := hmi t4 (fun o a => by rw [hb o (by omega), hm.1 o (by omega) (by omega)]) (fun j a => by rw [hb 0 (by decide), hm.2 j a]) (fun j a => by rw [hbj j a, hm.1 2 (by decide) (by decide)])
      have v1 : d' o 5 = t3 1 (ab_ m + 3) := (hA _ _ _ hD3.2.2).1.2.2.2.1
      have v2 : s (9 + o) 5 = t 1 (ab_ m + 3) := (hA _ _ _ hD.2.2).1.2.2.2.1
      have q4 : (sb_ (mg_ (mg_ s 83 33 r7) 83 33 d') 83) 1 4 = nI R := by
        rw [sb_ap, mg_i (by omega) (by omega)]
        exact hD3.rb.1.2.2.1
      have q5 : (sb_ (mg_ (mg_ s 83 33 r7) 83 33 d') 9) 1 4 = nI R := by
        rw [sb_ap, mg_o (by omega), mg_o (by omega)]
        exact hB.1.2.2.1
      refine ⟨mg_ (mg_ s 83 33 r7) 83 33 d', .inl (d' o 5 - s (9 + o) 5), t4, _, ?_, ?_, ⟨h6, by rw [v1, v2]⟩, fun o a _ _ => by rw [mg_o (by omega), mg_o (by omega)], hmi1⟩
      · rw [bn_e (within_t hx), tb_l, bn_e e7, bd_e, bn_e e3, bd_e, bn_e (ha _ q4), bn_e (ha _ q5), mg_i (by omega) (by omega), mg_o (q := 9 + o) (by omega), mg_o (q := 9 + o) (by omega), Nat.add_sub_cancel_left]
      · rw [bn_e (rounds_t pt_a hx), if_pos rfl, bn_e et, bn_e (armOf_3 hm8), bn_e e2, bn_e e4, bn_e et, bn_e (armOf_3 hm8), bn_e e5]
        dsimp only
        rw [pt_oo (show (1 : Nat) ≠ 0 by decide)]
    · refine ⟨s, .inr 1, _, 0, by rw [bn_e (within_f hx), tb_r], by rw [bn_e (rounds_f pt_a (by decide) hx), if_neg (show ¬ (1 : Int32) = 0 by decide)], ?_, CI.r, MI.t6.tr MI.t6⟩
      exact ⟨pt_a, by decide⟩
  · rw [bn_e (hc s hB.1.2.2.1), tb_r, bn_e (hn t hB.1.2.2.2), if_neg (show ¬ (1 : Int32) = 0 by decide)]
    refine ⟨s, .inr 0, _, 0, rfl, rfl, ?_, CI.r, MI.t6⟩
    exact ⟨(pt_a : pt_ t 0 6 1 0 6 = 1), by decide⟩
theorem rivalIn_p (h : PP s t C R n T) (i0 : Int32) : QP g1_ s t (fX7_rivalIn s i0) (fX8_rivalIn t i0) := by
  obtain ⟨hD, hU, hT, hT2, -⟩ := h
  unfold fX7_rivalIn fX8_rivalIn
  rw [bd_e]
  by_cases hx : 1 ≤ i0 ∧ i0 ≤ 200
  · obtain ⟨k, k1, k2, rfl⟩ := ((rg_iff (lo := 1) (hi := 200) (by omega) (by omega)).mpr hx).ex
    have e14 : sb_ s 10 0 14 = t 1 21 := hD.rv
    rw [bn_e (within_t hx), tb_l, bn_e hasRival_e, bn_e (rounds_t pt_a hx), if_pos rfl, gd_t b21_, i21_, e14]
    dsimp only
    have q21 : pt_ t 0 6 0 1 21 = t 1 21 := pt_oo (by decide)
    by_cases hr : t 1 21 = -1
    · rw [if_pos hr, if_pos (q21.trans hr), if_pos rfl]
      exact ⟨s, .inl (-2000000000), _, _, rfl, rfl, ⟨pt_a, rfl⟩, CI.r, MI.t6⟩
    · rw [if_neg hr, if_neg (fun z => hr (q21.symm.trans z)), if_neg (show ¬ (1 : Int32) = 0 by decide)]
      obtain ⟨r7, e7, hr7⟩ := trial_w hD hU
      obtain ⟨t2, e2, et2, e06, -, hmi⟩ := ask_w (t := t)
      have hD1 : DD (sb_ (mg_ s 83 33 r7) 83) (t2 1) C R n := by rw [et2]; exact hr7 _ (fun o a b => mg_i (by omega) (by omega))
      obtain ⟨d', t3, n', e3, e4, hm, hD3, h21⟩ := passes_p hD1 (by rw [et2]; exact hT) (k := k) (by omega)
      obtain ⟨t4, e5, hb, hbj⟩ := back_w (t := t3)
      obtain ⟨hmi1, h6⟩ := hmi t4 (fun o a => by rw [hb o (by omega), hm.1 o (by omega) (by omega)]) (fun j a => by rw [hb 0 (by decide), hm.2 j a]) (fun j a => by rw [hbj j a, hm.1 2 (by decide) (by decide)])
      have v6 : d' 5 5 = t3 1 (ab_ 6 + 3) := hD3.2.2.1.2.2.2.1
      have v7 : d' 8 5 = t3 1 (ab_ 7 + 3) := (hD3.2.2.2.2.2 (by rw [h21, et2]; exact hr)).1.2.2.2.1
      refine ⟨mg_ (mg_ s 83 33 r7) 83 33 d', .inl (d' 5 5 - d' 8 5), t4, _, ?_, ?_, ⟨h6, by rw [v6, v7]⟩, fun o a _ _ => by rw [mg_o (by omega), mg_o (by omega)], hmi1⟩
      · rw [bn_e e7, bd_e, bn_e e3, bd_e, mg_i (q := 88) (by omega) (by omega), mg_i (q := 91) (by omega) (by omega)]
      · rw [bn_e e2, bn_e e4, bn_e (show fX8_armOf t3 (6 : Int32) (3 : Int32) = some (t3 1 (ab_ 6 + 3)) from armOf_3 (m := 6) (by omega)), bn_e (show fX8_armOf t3 (7 : Int32) (3 : Int32) = some (t3 1 (ab_ 7 + 3)) from armOf_3 (m := 7) (by omega)), bn_e e5]
  · refine ⟨s, .inr 1, _, 0, by rw [bn_e (within_f hx), tb_r], by rw [bn_e (rounds_f pt_a (by decide) hx), if_neg (show ¬ (1 : Int32) = 0 by decide)], ?_, CI.r, MI.t6.tr MI.t6⟩
    exact ⟨pt_a, by decide⟩
end SETS
