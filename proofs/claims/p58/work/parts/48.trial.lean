/-! settings change; the model goes aside and comes back; the class's trial -/
def MI (t t' : st_) : Prop := (∀ j, j < 12584 → t' 1 j = t 1 j) ∧ (∀ o, 4 ≤ o → o ≤ 7 → t' o = t o) ∧ t' 0 8 = t 0 8 ∧ t' 0 13 = t 0 13
def CI (s s' : st_) : Prop := ∀ o, o < 83 → o ≠ 22 → o ≠ 23 → s' o = s o
def ou_ (g : Nat → Int32) (x : Int32 ⊕ Nat) (t' : st_) (y : Int32) : Prop := match x with
  | .inl v => t' 0 6 = 0 ∧ y = v
  | .inr c => t' 0 6 = g c ∧ g c ≠ 0
def g1_ : Nat → Int32 := fun c => if c = 0 then 0 else 1
def g1i_ : Nat → Int32 := fun c => if c = 0 then 1 else 0
def g3_ : Nat → Int32 := fun c => if c = 0 then 2 else 1
def g2_ : Nat → Int32 := fun c => if c = 0 then 1 else 2
theorem MI.r {t : st_} : MI t t := ⟨fun _ _ => rfl, fun _ _ _ => rfl, rfl, rfl⟩
theorem MI.tr {t t' t'' : st_} (h : MI t t') (h' : MI t' t'') : MI t t'' := ⟨fun j a => (h'.1 j a).trans (h.1 j a), fun o a b => (h'.2.1 o a b).trans (h.2.1 o a b), h'.2.2.1.trans h.2.2.1, h'.2.2.2.trans h.2.2.2⟩
theorem MI.t6 {t : st_} {v : Int32} : MI t (pt_ t 0 6 v) := ⟨fun _ _ => pt_oo (by decide), fun o a b => pt_o (by omega), pt_r (by decide), pt_r (by decide)⟩
theorem MI.mo {t t' : st_} (h : mo_ t t') (he : ∀ j, j < 12584 → t' 1 j = t 1 j) : MI t t' := ⟨he, fun o a b => h.1 o (by omega) (by omega), h.2 8 (by decide), h.2 13 (by decide)⟩
theorem CI.r {s : st_} : CI s s := fun _ _ _ _ => rfl
section TRIAL
variable {s t d d' : st_} {w w' : Nat → Int32} {C R n T k : Nat} {x : Int32}
def GT (d : st_) (w : Nat → Int32) (C R : Nat) : Prop := (d 1 7 = w 5 ∧ rg_ (w 5) 0 2) ∧ (w 5 = 2 → d 1 8 = w 6 ∧ rg_ (w 6) 0 (R - 1)) ∧ (¬ w 5 = 2 → d 1 8 = -1) ∧ (d 1 9 = w 7 ∧ rg_ (w 7) 1 500) ∧ (d 1 11 = w 9 ∧ rg_ (w 9) 0 5) ∧ (d 1 12 = w 10 ∧ rg_ (w 10) 0 16 ∧ (∀ k, k < ix_ (w 10) → d 4 k = w (56 + k) ∧ rg_ (w (56 + k)) 0 (C - 1)) ∧ rg_ (w 15) 0 (ix_ (w 10))) ∧ (d 1 17 = w 11 ∧ d 1 18 = w 12) ∧ d 1 16 = w 13 ∧ d 0 11 = w 14
theorem DD.gt (h : DD d w C R n) : GT d w C R := by
  obtain ⟨⟨hRS, a1, a2, k1, k2, k3, k4, eta, etar, foe, foer, ak, akr, asks, base, root, bud, rv, rvr, rvk⟩, ⟨v1, v2, v3, v4, v5, v6, v7, v8, v9, v10, v11⟩, -⟩ := h
  exact ⟨⟨k1, k2⟩, k3, k4, ⟨eta, etar⟩, ⟨foe, foer⟩, ⟨ak, akr, asks, v8⟩, ⟨base, root⟩, bud, v9⟩
theorem DD.st (h : DD d w C R n) (hw : ∀ i, i < 12548 → (i < 5 ∨ i = 8 ∨ (15 ≤ i ∧ i < 56) ∨ 72 ≤ i) → w' i = w i) (hd1 : ∀ j, (j < 7 ∨ (13 ≤ j ∧ j < 16)) → d' 1 j = d 1 j) (hd0 : ∀ j, j ≠ 11 → d' 0 j = d 0 j) (hdo : ∀ o, o < 33 → o ≠ 0 → o ≠ 1 → o ≠ 4 → d' o = d o) (hg : GT d' w' C R) : DD d' w' C R n := by
  obtain ⟨⟨b1, b2⟩, b3, b4, ⟨b5, b6⟩, ⟨b7, b8⟩, ⟨b9, b10, b11, b12⟩, ⟨b13, b14⟩, b15, b16⟩ := hg
  obtain ⟨⟨⟨hC2, hC, hS0, hw0, hR1, hR6, hS4, hw4, hS2, hS3, hw2, hw3, hk⟩, a1, a2, k1, k2, k3, k4, eta, etar, foe, foer, ak, akr, asks, base, root, bud, rv, rvr, rvk⟩, ⟨v1, v2, v3, v4, v5, v6, v7, v8, v9, v10, v11⟩, hA⟩ := h
  refine ⟨⟨⟨hC2, hC, (hd1 0 (by omega)).trans hS0, (hw 0 (by omega) (by omega)).trans hw0, hR1, hR6, (hd1 4 (by omega)).trans hS4, (hw 4 (by omega) (by omega)).trans hw4, ?_, ?_, ?_, ?_, fun r hr => ?_⟩, ?_, ?_, b1, b2, b3, b4, b5, b6, b7, b8, b9, b10, b11, b13, b14, b15, ?_, ?_, fun h => ?_⟩, ?_, ?_⟩
  · rw [hw 2 (by omega) (by omega)]; exact (hd1 2 (by omega)).trans hS2
  · rw [hw 3 (by omega) (by omega)]; exact (hd1 3 (by omega)).trans hS3
  · rw [hw 2 (by omega) (by omega)]; exact hw2
  · rw [hw 3 (by omega) (by omega)]; exact hw3
  · rw [sb_ap, sb_ap, hdo _ (by omega) (by omega) (by omega) (by omega), hdo _ (by omega) (by omega) (by omega) (by omega), hw (26 + 5 * r) (by omega) (by omega), hw (26 + 5 * r + 1) (by omega) (by omega)]
    exact hk r hr
  · rw [hw 1 (by omega) (by omega), hd1 1 (by omega)]; exact a1
  · rw [hw 1 (by omega) (by omega)]; exact a2
  · rw [hw 21 (by omega) (by omega), hd1 14 (by omega)]; exact rv
  · rw [hw 21 (by omega) (by omega)]; exact rvr
  · rw [hw 21 (by omega) (by omega)] at h
    rw [hw 22 (by omega) (by omega), hd1 15 (by omega)]; exact rvk h
  · unfold DV
    rw [hd0 7 (by omega), hd0 8 (by omega), hd0 9 (by omega), hd0 10 (by omega), hd0 13 (by omega), hw 8 (by omega) (by omega), hw 23 (by omega) (by omega), hw 16 (by omega) (by omega), hw 25 (by omega) (by omega), hdo 12 (by omega) (by omega) (by omega) (by omega)]
    refine ⟨v1, v2, v3, v4, v5, v6, ?_, b12, b16, v10, fun r hr => ?_⟩
    · rw [hw 15 (by omega) (by omega)]; exact v7
    · rw [hw _ (by omega) (by omega)]; exact v11 r hr
  · obtain ⟨A1, A2, A3, A4⟩ := hA.wext hR6 (w' := w') (fun i hi => hw i (by omega) (by omega))
    exact ⟨A1.ext (fun q hq => by rw [sb_ap, sb_ap, hdo _ (by omega) (by omega) (by omega) (by omega)]), A2, fun r hr => ⟨(A3 r hr).1.ext (fun q hq => by rw [sb_ap, sb_ap, hdo _ (by omega) (by omega) (by omega) (by omega)]), (A3 r hr).2⟩, fun h => ⟨(A4 h).1.ext (fun q hq => by rw [sb_ap, sb_ap, hdo _ (by omega) (by omega) (by omega) (by omega)]), (A4 h).2⟩⟩
theorem aside_w : wp_ (fX8_goesAside t) (fun t' => (∀ o, o ≠ 2 → t' o = t o) ∧ ∀ j, j < 12584 → t' 2 j = t 1 j) := by
  unfold fX8_goesAside
  refine wp_bn copies_w (fun r hr => wp_bd (wp_s ⟨fun o ho => mg_o (by omega), fun j hj => ?_⟩))
  rw [mg_i (by omega) (by omega)]
  exact hr j hj
theorem back_w : wp_ (fX8_comesBack t) (fun t' => (∀ o, o ≠ 1 → t' o = t o) ∧ ∀ j, j < 12584 → t' 1 j = t 2 j) := by
  unfold fX8_comesBack
  refine wp_bn copies_w (fun r hr => wp_bd (wp_s ⟨fun o ho => mg_o (by omega), fun j hj => ?_⟩))
  rw [mg_i (by omega) (by omega)]
  exact hr j hj
/-- the regret doesn't rest on what lies about -/
theorem regret_u (h : DD d (t 1) C R n) (h' : DD d' (t 1) C R n) (e : fX1_regretNow d = some x) : fX1_regretNow d' = some x := by
  have hB := h.rb
  have hB' := h'.rb
  obtain ⟨e1, e2⟩ := regretNow_p h.2.2 hB.1.2.2.1 hB.1.2.2.2 hB.1.1 hB.1.2.1
  obtain ⟨e3, e4⟩ := regretNow_p h'.2.2 hB'.1.2.2.1 hB'.1.2.2.2 hB'.1.1 hB'.1.2.1
  rw [e3, ← e4, e2, ← e1, e]
theorem behind_p (h : DD d (t 1) C R n) (hT : t 1 16 = nI T) (hk : T + k ≤ 1200) : ∃ d' t' x, fX1_letPass d (nI k) = some d' ∧ (∀ d'', (∀ o, o < 33 → d'' o = d' o) → fX1_regretNow d'' = some x) ∧ fX8_regretBehind t (nI k) = some (t', x) ∧ (∀ o, o ≠ 0 → o ≠ 1 → t' o = t o) ∧ (∀ j, j ≠ 15 → t' 0 j = t 0 j) ∧ ∀ j, j < 12584 → t' 1 j = t 2 j := by
  obtain ⟨d', t1, n', e1, e2, hm, hD, -⟩ := passes_p h hT hk
  have hB := hD.rb
  obtain ⟨e3, e4⟩ := regretNow_p hD.2.2 hB.1.2.2.1 hB.1.2.2.2 hB.1.1 hB.1.2.1
  obtain ⟨t', e5, hb, hbj⟩ := back_w (t := t1)
  refine ⟨d', t', _, e1, fun d'' hx => regret_u hD (hD.x33 hx) e3, ?_, fun o a b => by rw [hb o b, hm.1 o a b], fun j a => by rw [hb 0 (by decide), hm.2 j a], fun j a => by rw [hbj j a, hm.1 2 (by decide) (by decide)]⟩
  unfold fX8_regretBehind
  rw [bn_e e2, bn_e e4, bn_e e5]
theorem trial_w (h : DD (sb_ s 9) w C R n) (hu : UPS (sb_ s 9)) : ∃ r, fX1_copyFrom (sb_ s 83) (sb_ s 9) = some r ∧ ∀ s' : st_, (∀ o, 83 ≤ o → o < 116 → s' o = r (o - 83)) → DD (sb_ s' 83) w C R n := by
  obtain ⟨r, e, hc⟩ := duelCopy_w (s := sb_ s 83) hu
  refine ⟨r, e, fun s' hs => (h.ce hc).x33 (fun o ho => ?_)⟩
  rw [sb_ap, hs _ (by omega) (by omega)]
  congr 1
  omega
end TRIAL
