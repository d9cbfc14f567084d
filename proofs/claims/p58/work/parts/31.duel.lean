/-! the duel and the row: what is told, what varies -/
def DS (d : st_) (w : Nat → Int32) (C R : Nat) : Prop := RS (sb_ d 1) w C R ∧ d 1 1 = w 1 ∧ rg_ (w 1) 0 (C - 1) ∧ d 1 7 = w 5 ∧ rg_ (w 5) 0 2 ∧ (w 5 = 2 → d 1 8 = w 6 ∧ rg_ (w 6) 0 (R - 1)) ∧ (¬ w 5 = 2 → d 1 8 = -1) ∧ d 1 9 = w 7 ∧ rg_ (w 7) 1 500 ∧ d 1 11 = w 9 ∧ rg_ (w 9) 0 5 ∧ d 1 12 = w 10 ∧ rg_ (w 10) 0 16 ∧ (∀ k, k < ix_ (w 10) → d 4 k = w (56 + k) ∧ rg_ (w (56 + k)) 0 (C - 1)) ∧ d 1 17 = w 11 ∧ d 1 18 = w 12 ∧ d 1 16 = w 13 ∧ d 1 14 = w 21 ∧ (w 21 = -1 ∨ rg_ (w 21) 0 2) ∧ (w 21 = 2 → d 1 15 = w 22 ∧ rg_ (w 22) 0 (R - 1))
/-- the places of the row that tell settings -/
def sI_ (i : Nat) : Prop := i ≤ 7 ∨ (9 ≤ i ∧ i ≤ 13) ∨ i = 21 ∨ i = 22 ∨ (26 ≤ i ∧ i < 56 ∧ ((i - 26) % 5 = 0 ∨ (i - 26) % 5 = 1)) ∨ (56 ≤ i ∧ i < 72)
def DV (d : st_) (w : Nat → Int32) (R : Nat) : Prop := d 0 7 = w 8 ∧ rg_ (w 8) 0 32767 ∧ d 0 8 = w 23 ∧ rg_ (w 23) 0 32767 ∧ d 0 9 = w 16 ∧ rg_ (w 16) 0 1200 ∧ d 0 10 + 1 = w 15 ∧ rg_ (w 15) 0 (ix_ (w 10)) ∧ d 0 11 = w 14 ∧ d 0 13 = w 25 ∧ ∀ r, r < R → d 12 r = w (26 + 5 * r + 2) ∧ rg_ (w (26 + 5 * r + 2)) 1 1000000
section DUEL
variable {d d' t : st_} {w w' : Nat → Int32} {C R n m r : Nat}
theorem RS.of {S S' : st_} (h : RS S w C R) (h1 : ∀ o, o < 3 → S' o = S o) (h2 : ∀ i, sI_ i → w' i = w i) : RS S' w' C R := by
  obtain ⟨hC2, hC, hS0, hw0, hR1, hR6, hS4, hw4, hS2, hS3, hw2, hw3, hk⟩ := h
  have e0 := h1 0 (by omega)
  refine ⟨hC2, hC, by rw [e0]; exact hS0, by rw [h2 0 (by unfold sI_; omega)]; exact hw0, hR1, hR6, by rw [e0]; exact hS4, by rw [h2 4 (by unfold sI_; omega)]; exact hw4, by rw [e0, h2 2 (by unfold sI_; omega)]; exact hS2, by rw [e0, h2 3 (by unfold sI_; omega)]; exact hS3, by rw [h2 2 (by unfold sI_; omega)]; exact hw2, by rw [h2 3 (by unfold sI_; omega)]; exact hw3, fun r hr => ?_⟩
  rw [h1 1 (by omega), h1 2 (by omega), h2 (26 + 5 * r) (by unfold sI_; omega), h2 (26 + 5 * r + 1) (by unfold sI_; omega)]
  exact hk r hr
theorem DS.of (h : DS d w C R) (h1 : ∀ o, 1 ≤ o → o < 5 → d' o = d o) (h2 : ∀ i, sI_ i → w' i = w i) : DS d' w' C R := by
  unfold DS at h ⊢
  have e1 := h1 1 (by omega) (by omega)
  have e4 := h1 4 (by omega) (by omega)
  rw [e1, e4, h2 1 (by unfold sI_; omega), h2 5 (by unfold sI_; omega), h2 6 (by unfold sI_; omega), h2 7 (by unfold sI_; omega), h2 9 (by unfold sI_; omega), h2 10 (by unfold sI_; omega), h2 11 (by unfold sI_; omega), h2 12 (by unfold sI_; omega), h2 13 (by unfold sI_; omega), h2 21 (by unfold sI_; omega), h2 22 (by unfold sI_; omega)]
  obtain ⟨hRS, a1, a2, a3, a4, a5, a6, a7, a8, a9, a10, a11, a12, a13, a14⟩ := h
  refine ⟨hRS.of (fun o ho => h1 (1 + o) (by omega) (by omega)) h2, a1, a2, a3, a4, a5, a6, a7, a8, a9, a10, a11, a12, fun k hk => ?_, a14⟩
  have := a12.2.2
  rw [h2 (56 + k) (by unfold sI_; omega)]
  exact a13 k hk
theorem ruleBy_p {kind kc km s : Int32} (hd : d 1 4 = nI R) (ht : t 1 4 = nI R) (h1 : 1 ≤ R) (h6 : R ≤ 6) (hw : ∀ r, r < R → d 12 r = t 1 (26 + 5 * r + 2) ∧ rg_ (t 1 (26 + 5 * r + 2)) 1 1000000) (hp : ∀ r, r < R → d (3 * r + 15) 5 = t 1 (ab_ r + 3)) (hk : rg_ kind 0 2) (h2 : kind = 2 → kc = km ∧ rg_ km 0 (R - 1)) (hs : rg_ s 0 32767) : ∃ r, r < R ∧ fX1_ruleBy d kind kc s = some (nI r) ∧ fX8_takenBy t kind km s = some (nI r) := by
  obtain ⟨x, _, hx, rfl⟩ := hk.ex
  have hx3 : x = 0 ∨ x = 1 ∨ x = 2 := by omega
  rcases hx3 with rfl | rfl | rfl
  · obtain ⟨y, _, hy, rfl⟩ := hs.ex
    obtain ⟨z1, e1, r1, rfl, hr1⟩ := ruleDrawn_w (d := d) (F := fun r => ix_ (t 1 (26 + 5 * r + 2))) hd h1 h6 (fun r hr => ⟨(hw r hr).1.trans (hw r hr).2.1, (hw r hr).2.2.1, (hw r hr).2.2.2⟩) hy
    obtain ⟨z2, e2, r2, rfl, hr2⟩ := takenBy_w (t := t) (kept := km) (F := fun r => ix_ (t 1 (26 + 5 * r + 2))) ht h1 h6 (fun r hr => ⟨(hw r hr).2.1, (hw r hr).2.2.1, (hw r hr).2.2.2⟩) hy
    have e := dr_u hr1 hr2
    subst e
    refine ⟨r1, hr1.1, ?_, e2⟩
    unfold fX1_ruleBy
    rw [if_pos (show nI 0 = 0 from rfl), bn_e e1]
  · have hb := bst_le (f := fun r => d (3 * r + 15) 5) (R - 1)
    refine ⟨bst (fun r => d (3 * r + 15) 5) (R - 1), by omega, ?_, ?_⟩
    · unfold fX1_ruleBy
      rw [if_neg (by decide), if_pos (show nI 1 = 1 from rfl), bn_e (cheapest_e hd h1 h6)]
    · unfold fX8_takenBy
      rw [if_neg (by decide), if_pos (show nI 1 = 1 from rfl), bn_e (bestRule_e ht h1 h6), bst_congr (f := fun r => d (3 * r + 15) 5) (R - 1) (fun r hr => hp r (by omega))]
  · obtain ⟨e, hkm⟩ := h2 rfl
    subst e
    obtain ⟨r, _, hr, rfl⟩ := hkm.ex
    refine ⟨r, by omega, ?_, ?_⟩
    · unfold fX1_ruleBy
      rw [if_neg (by decide), if_neg (by decide), bn_e (hasRule_t (S := sb_ d 1) hd (by omega) h6), if_neg (by decide)]
    · unfold fX8_takenBy
      rw [if_pos (show nI 2 = 2 from rfl)]
/-! what an arm would cost -/
theorem wouldCost_w {c kind : Nat} {Q : Nat → Nat} {wd u : Int32} (A : AW (t 1) m c n Q) (hr : r < 6) (hkd : t 1 (26 + 5 * r) = nI kind) (hk : kind ≤ 4) (hwd : t 1 (26 + 5 * r + 1) = wd) (hu : t 1 (ab_ m + 1) = u) (hu2 : u = 0 ∨ u = 1) : wp_ (fX8_wouldCost t (nI m) (nI r)) (fun z => (∃ tu, z.1 = pt_ t 0 15 tu) ∧ ((n = 0 ∧ z.2 = 0) ∨ ∃ k, fm_ (fun j => rk_ kind wd u c (Q j)) n k ∧ z.2 = pr_ (t 1 2) (t 1 3) c (Q k))) := by
  have h20 := A.2.2.2.1
  unfold fX8_wouldCost
  refine wp_bn (picks_w A hr hkd hk hwd hu hu2) (fun z hz => ?_)
  obtain ⟨z1, z2⟩ := z
  obtain ⟨tu, e1, hz⟩ := hz
  dsimp only at e1 hz
  subst e1
  dsimp only
  have ew : (pt_ t 0 15 tu) 1 = t 1 := pt_o (by decide)
  rcases hz with ⟨h0, e2, _⟩ | ⟨k, e2, hf, _⟩
  · exact wp_it e2 (wp_s ⟨⟨tu, rfl⟩, Or.inl ⟨h0, rfl⟩⟩)
  · have hkn := hf.1
    subst e2
    obtain ⟨q1, q2⟩ := A.2.2.2.2.2 k hkn
    refine wp_if' (nI_ne1 (by omega)) (wp_bne (farOf_e (c := c) (q := Q k) A.1 (by omega) (by rw [ew]; exact A.2.1) (by rw [ew]; exact q1) A.2.2.2.2.1 q2) (wp_bne (costOf_d A.2.2.2.2.1 q2) (wp_s ⟨⟨tu, rfl⟩, Or.inr ⟨k, hf, ?_⟩⟩)))
    rw [ew]
theorem costBy_w {a S : st_} {c kind : Nat} {wd : Int32} (A : AC a c n) (hR : S 0 4 = nI R) (hr : r < R) (h6 : R ≤ 6) (hkd : S 1 r = nI kind) (hk4 : kind ≤ 4) (hwd : S 2 r = wd) : wp_ (fX0_costBy a S (nI r)) (fun x => (n = 0 ∧ x = 0) ∨ ∃ k, fm_ (ka_ a kind wd c) n k ∧ x = pr_ (S 0 2) (S 0 3) c (ix_ (a 1 k))) := by
  obtain ⟨hc, hn, h20, h1, hu, hq⟩ := A
  unfold fX0_costBy
  refine wp_bne (kindOf_t hR hr h6) (wp_bne (widthOf_t hR hr h6) ?_)
  rw [hkd, hwd]
  refine wp_bn (choose_w hc hn h20 h1 hk4 hq) (fun i hi => ?_)
  rcases hi with ⟨hz, e⟩ | ⟨k, e, hf⟩
  · exact wp_it e (wp_s (Or.inl ⟨hz, rfl⟩))
  · subst e
    have hkn := hf.1
    obtain ⟨q, _, hq2, hqe⟩ := (hq k hkn).ex
    have hix : ix_ (a 1 k) = q := by rw [hqe]; exact ix_n (by omega)
    refine wp_if' (nI_ne1 (by omega)) (wp_gd (ib_n (by omega) (by omega)) ?_)
    rw [ix_n (by omega), hqe, hc]
    exact wp_bne (price_e (by omega) (by omega)) (wp_s (Or.inr ⟨k, hf, by rw [hix]⟩))
theorem costBy_p {a S : st_} (hA : AR a (t 1) m n) (hI : AI (t 1) m n C) (hS : RS S (t 1) C R) (hr : r < R) : ∃ x tu, fX0_costBy a S (nI r) = some x ∧ fX8_wouldCost t (nI m) (nI r) = some (pt_ t 0 15 tu, x) := by
  obtain ⟨hC2, hC, hS0, hw0, hR1, hR6, hS4, hw4, hS2, hS3, hw2, hw3, hk⟩ := hS
  obtain ⟨hkd, hwd, hkr⟩ := hk r hr
  obtain ⟨kind, _, hk4, hke⟩ := hkr.ex
  obtain ⟨x, ex, hx⟩ := costBy_w (wd := S 2 r) (hA.ac hI hC hC2) hS4 hr hR6 (hkd.trans hke) hk4 rfl
  obtain ⟨z, ez, ⟨tu, e1⟩, hz⟩ := wouldCost_w (kind := kind) (wd := t 1 (26 + 5 * r + 1)) (u := t 1 (ab_ m + 1)) (hI.aw hC hC2) (by omega) hke hk4 rfl rfl hI.2.2.1
  obtain ⟨a0, a1, a2, a3, a4, a5, a6, aj⟩ := id hA
  refine ⟨x, tu, ex, ?_⟩
  rw [ez]
  congr 1
  refine Prod.ext e1 ?_
  have hka : ∀ j, j < n → ka_ a kind (S 2 r) (ix_ (t 1 (ab_ m))) j = rk_ kind (t 1 (26 + 5 * r + 1)) (t 1 (ab_ m + 1)) (ix_ (t 1 (ab_ m))) (ix_ (t 1 (ab_ m + 7 + 2 * j))) := fun j hj => by
    unfold ka_
    rw [hwd, a1, (aj j hj).1]
  rcases hx with ⟨h0, ex0⟩ | ⟨k, hf, exk⟩
  · rcases hz with ⟨_, ez0⟩ | ⟨k', hf', _⟩
    · rw [ez0, ex0]
    · exact absurd hf'.1 (by omega)
  · rcases hz with ⟨h0, _⟩ | ⟨k', hf', ezk⟩
    · exact absurd hf.1 (by omega)
    · have ek : k' = k := fm_u (fm_e2 hf' hka) hf
      subst ek
      rw [ezk, exk, hS2, hS3, (aj k' hf.1).1]
end DUEL
