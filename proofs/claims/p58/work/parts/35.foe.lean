/-! the foe moves -/
def DD (d : st_) (w : Nat → Int32) (C R n : Nat) : Prop := DS d w C R ∧ DV d w R ∧ DA d w C R n
section FOE
variable {d d' t : st_} {w w' : Nat → Int32} {m C R n r : Nat} {q : Int32}
theorem DA.dext (h : DA d w C R n) (hR6 : R ≤ 6) (he : ∀ o, ((5 ≤ o ∧ o < 11) ∨ 15 ≤ o) → d' o = d o) : DA d' w C R n := by
  obtain ⟨h1, h2, h3, h4⟩ := h
  exact ⟨h1.ext (fun x hx => by rw [sb_ap, sb_ap, he _ (by omega)]), h2, fun r hr => ⟨(h3 r hr).1.ext (fun x hx => by rw [sb_ap, sb_ap, he _ (by omega)]), (h3 r hr).2⟩, fun h => ⟨(h4 h).1.ext (fun x hx => by rw [sb_ap, sb_ap, he _ (by omega)]), (h4 h).2⟩⟩
theorem DA.wext (h : DA d w C R n) (hR6 : R ≤ 6) (he : ∀ i, (i = 21 ∨ (72 ≤ i ∧ i < 448)) → w' i = w i) : DA d w' C R n := by
  obtain ⟨h1, h2, h3, h4⟩ := h
  have h20 := h2.2.2.2.2.1
  have hb : ∀ m, m < 8 → ∀ i, ab_ m ≤ i → i < ab_ m + 47 → w' i = w i := fun m hm i h1 h2 => he i (by have := ab_b hm; omega)
  refine ⟨h1.of h20 (hb 6 (by omega)), h2.of (hb 6 (by omega)), fun r hr => ⟨(h3 r hr).1.of h20 (hb r (by omega)), (h3 r hr).2.of (hb r (by omega))⟩, fun h => ?_⟩
  rw [he 21 (by omega)] at h
  exact ⟨(h4 h).1.of h20 (hb 7 (by omega)), (h4 h).2.of (hb 7 (by omega))⟩
theorem DD.rb (h : DD d w C R n) : RB d w R := by
  obtain ⟨hs, hv, ha⟩ := h
  obtain ⟨hRS, a1, a2, k1, k2, k3, -⟩ := hs
  obtain ⟨v1, v2, -, -, -, -, -, -, -, -, v3⟩ := hv
  exact ⟨⟨hRS.2.2.2.2.1, hRS.2.2.2.2.2.1, hRS.2.2.2.2.2.2.1, hRS.2.2.2.2.2.2.2.1⟩, ⟨k1, k2, k3⟩, ⟨v1, v2⟩, v3, fun r hr => (ha.2.2.1 r hr).1.2.2.2.1⟩
theorem DD.rv (h : DD d w C R n) : d 1 14 = w 21 := h.1.2.2.2.2.2.2.2.2.2.2.2.2.2.2.2.2.2.1
theorem DD.mk (h : DD d w C R n) : d 0 9 = w 16 := h.2.1.2.2.2.2.1
theorem DV.of (h : DV d w R) (h1 : d' 0 = d 0) (h2 : d' 12 = d 12) (he : ∀ i, (i = 8 ∨ i = 10 ∨ i = 14 ∨ i = 15 ∨ i = 16 ∨ i = 23 ∨ i = 25 ∨ (26 ≤ i ∧ i < 56)) → w' i = w i) (hR6 : R ≤ 6) : DV d' w' R := by
  unfold DV at h ⊢
  rw [h1, h2, he 8 (by omega), he 10 (by omega), he 14 (by omega), he 15 (by omega), he 16 (by omega), he 23 (by omega), he 25 (by omega)]
  obtain ⟨v1, v2, v3, v4, v5, v6, v7, v8, v9, v10, v11⟩ := h
  refine ⟨v1, v2, v3, v4, v5, v6, v7, v8, v9, v10, fun r hr => ?_⟩
  rw [he _ (by omega)]
  exact v11 r hr
theorem cw_o3 {K i : Nat} (h : i < 72 ∨ 448 ≤ i ∨ (72 ≤ i ∧ (i - 72) % 47 = 3)) : cw_ w R n q K i = w i := by
  unfold cw_
  by_cases hc : 72 ≤ i ∧ i < 448 ∧ (i - 72) / 47 < K ∧ th_ w R ((i - 72) / 47) = true
  · rw [if_pos hc, if_neg (by omega), if_neg (by omega), if_neg (by omega)]
  · rw [if_neg hc]
/-- a request comes, of the foe or of a call -/
theorem come_dd (h : DD d (t 1) C R n) (h20 : n < 20) (hq : rg_ q 0 (C - 1)) : ∃ d' t', fX1_addForAll d q = some d' ∧ fX8_comes t q = some t' ∧ mo_ t t' ∧ DD d' (t' 1) C R (n + 1) ∧ (∀ i, (i < 72 ∨ 448 ≤ i ∨ (72 ≤ i ∧ (i - 72) % 47 = 3)) → t' 1 i = t 1 i) ∧ (∀ o, (o < 5 ∨ (11 ≤ o ∧ o < 15)) → d' o = d o) ∧ OK_ d d' R := by
  have hB := h.rb
  obtain ⟨d', t', e1, e2, hmo, hA, ho, hw, hk⟩ := comes_p (q := q) h.2.2 hB.1.2.2.2 hB.1.2.2.1 hB.1.2.1 h.mk h.rv h20 hq
  have hwi : ∀ i, (i < 72 ∨ 448 ≤ i ∨ (72 ≤ i ∧ (i - 72) % 47 = 3)) → t' 1 i = t 1 i := fun i hi => by rw [hw, cw_o3 hi]
  refine ⟨d', t', e1, e2, hmo, ⟨h.1.of (fun o h1 h2 => ho o (by omega)) (fun i hi => hwi i (by unfold sI_ at hi; omega)), h.2.1.of (ho 0 (by omega)) (ho 12 (by omega)) (fun i hi => hwi i (by omega)) hB.1.2.1, hA⟩, hwi, ho, hk⟩
def fI_ (i : Nat) : Prop := i ≠ 14 ∧ i ≠ 15 ∧ (i < 72 ∨ 448 ≤ i ∨ (72 ≤ i ∧ (i - 72) % 47 = 3))
/-- what a move of the foe comes to -/
def FoeP (d t : st_) (C R n : Nat) (x : Option st_) (y : Option st_) : Prop := ∃ d' t' n', x = some d' ∧ y = some t' ∧ mo_ t t' ∧ DD d' (t' 1) C R n' ∧ (∀ i, fI_ i → t' 1 i = t 1 i) ∧ OK_ d d' R
theorem foe_come (h : DD d (t 1) C R n) (h20 : n < 20) (hq : rg_ q 0 (C - 1)) : FoeP d t C R n (fX1_addForAll d q) (fX8_comes t q) := by
  obtain ⟨d', t', e1, e2, hmo, hD, hwi, _, hk⟩ := come_dd h h20 hq
  exact ⟨d', t', n + 1, e1, e2, hmo, hD, fun i hi => hwi i hi.2.2, hk⟩
theorem FoeP.bn {x y : Option st_} (h : FoeP d t C R n x y) : FoeP d t C R n (bn_ x fun r => some r) (bn_ y fun r => some r) := by
  obtain ⟨d', t', n', e1, e2, h⟩ := h
  rw [e1, e2]
  exact ⟨d', t', n', rfl, rfl, h⟩
theorem lists_p (h : DD d (t 1) C R n) (h20 : n < 20) : FoeP d t C R n (fX1_addNextAsk d) (fX8_lists t) := by
  have hR6 := h.rb.1.2.1
  obtain ⟨hRS, a1, a2, k1, k2, k3, k4, eta, etar, foe, foer, ak, akr, asks, base, root, bud, rv, rvr, rvk⟩ := id h.1
  obtain ⟨v1, v2, v3, v4, v5, v6, v7, v8, v9, v10, v11⟩ := id h.2.1
  obtain ⟨K, _, hK16, hKe⟩ := akr.ex
  obtain ⟨L, _, hLK, hLe⟩ := v8.ex
  have eK : ix_ (t 1 10) = K := by rw [hKe]; exact ix_n (by omega)
  rw [eK] at hLK asks
  rw [hKe] at ak
  rw [hLe] at v7
  unfold fX1_addNextAsk fX8_lists
  rw [i10_, i15_, ak, hKe, gd_t b10_]
  by_cases hK0 : K = 0
  · subst hK0
    rw [if_pos (show nI 0 ≤ 0 from Int32.le_refl _), if_pos (show nI 0 = 0 from rfl)]
    exact ⟨d, t, n, rfl, rfl, mo_r, h, fun _ _ => rfl, OK_.r⟩
  rw [if_neg (nI_nle (by omega) (by omega)), if_neg (nI_ne0 (by omega) (by omega)), v7]
  rw [hLe]
  have hx : L % K < K := Nat.mod_lt _ (by omega)
  have he : nI L - nI L / nI K * nI K = nI (L % K) := pk_rem (by omega) (by omega) (by omega)
  have hcl : (if nI K ≤ nI L then fX1_addNextAsk_j37 d (0 : Int32) else fX1_addNextAsk_j37 d (nI L)) = fX1_addNextAsk_j37 d (nI (L % K)) := by
    rcases Nat.lt_or_ge L K with h2 | h2
    · rw [if_neg (nI_ge h2 (by omega)), Nat.mod_eq_of_lt h2]
    · have e : L = K := by omega
      subst e
      rw [if_pos (Int32.le_refl _), Nat.mod_self]
      rfl
  rw [hcl, he]
  generalize L % K = x at hx he
  have e56 : (56 : Int32) + nI x = nI (56 + x) := nI_add 56 x
  have ei : ix_ (nI (56 + x)) = 56 + x := ix_n (by omega)
  have ex : ix_ (nI x) = x := ix_n (by omega)
  rw [e56, ei, gd_t b15_, gd_t (show nz_ (nI K) = true from decide_eq_true (nI_ne0 (by omega) (by omega))), gd_t (ib_n (by omega) (by omega))]
  obtain ⟨hask, haskr⟩ := asks x hx
  generalize hd1 : pt_ d 0 10 (nI x) = d1
  have d1o : ∀ o, o ≠ 0 → d1 o = d o := fun o ho => by rw [← hd1]; exact pt_o ho
  have d10 : ∀ j, j ≠ 10 → d1 0 j = d 0 j := fun j hj => by rw [← hd1]; exact pt_r hj
  have d1x : d1 0 10 = nI x := by rw [← hd1]; exact pt_a
  have hA1 : DA d1 (t 1) C R n := h.2.2.dext hR6 (fun o ho => d1o o (by omega))
  obtain ⟨d2, t2, e1, e2, hmo, hA2, ho, hw, hk⟩ := comes_p (q := t 1 (56 + x)) hA1 h.rb.1.2.2.2 (by rw [d1o 1 (by decide)]; exact h.rb.1.2.2.1) hR6 (by rw [d10 9 (by decide)]; exact h.mk) (by rw [d1o 1 (by decide)]; exact h.rv) h20 haskr
  have hwi : ∀ i, (i < 72 ∨ 448 ≤ i ∨ (72 ≤ i ∧ (i - 72) % 47 = 3)) → t2 1 i = t 1 i := fun i hi => by rw [hw, cw_o3 hi]
  have hj37 : fX1_addNextAsk_j37 d (nI x) = some d2 := by
    unfold fX1_addNextAsk_j37
    rw [bd_e, hd1]
    have eask : fX5_askAt (sb_ d1 1) (d1 0 10) = some (t 1 (56 + x)) := by
      unfold fX5_askAt
      have e12 : sb_ d1 1 0 12 = nI K := by
        show d1 1 12 = nI K
        rw [d1o 1 (by decide), ak]
      have e3 : sb_ d1 1 3 x = t 1 (56 + x) := by
        show d1 4 x = _
        rw [d1o 4 (by decide), hask]
      rw [d1x, if_neg (nI_pos (by omega)), e12, if_neg (nI_ge hx (by omega)), gd_t (ib_n (by omega) (by omega)), ex, e3]
    rw [bn_e eask, bn_e e1]
  have q10 : t2 1 10 = nI K := by rw [hwi 10 (by omega), hKe]
  have q15 : t2 1 15 = nI L := by rw [hwi 15 (by omega), hLe]
  rw [hj37, bn_e e2, q10, q15, he, gd_t b15_, gd_t b10_, gd_t (show nz_ (nI K) = true from decide_eq_true (nI_ne0 (by omega) (by omega))), gd_t b15_, bd_e, nI_1]
  have w2 : ∀ i, i ≠ 15 → pt_ t2 1 15 (nI (x + 1)) 1 i = t2 1 i := fun i hi => pt_r hi
  have w15 : pt_ t2 1 15 (nI (x + 1)) 1 15 = nI (x + 1) := pt_a
  have dd : ∀ o, 1 ≤ o → o < 5 → d2 o = d o := fun o h1 h2 => by rw [ho o (by omega), d1o o (by omega)]
  have d20 : d2 0 = d1 0 := ho 0 (by omega)
  refine ⟨d2, _, n + 1, rfl, rfl, hmo.tr mo_p1, ⟨h.1.of dd (fun i hi => ?_), ?_, hA2.wext hR6 (fun i hi => w2 i (by omega))⟩, fun i hi => ?_, fun o a b => (hk.1 o a b).trans (d1o o (by omega)), fun h8 => (hk.2 (by rw [d1o 1 (by decide)]; exact h8)).trans (d1o 8 (by decide))⟩
  · rw [w2 i (by unfold sI_ at hi; omega), hwi i (by unfold sI_ at hi; omega)]
  · unfold DV
    rw [d20, d10 7 (by decide), d10 8 (by decide), d10 9 (by decide), d10 11 (by decide), d10 13 (by decide), d1x, ho 12 (by omega), d1o 12 (by decide), w15, w2 8 (by decide), w2 23 (by decide), w2 16 (by decide), w2 10 (by decide), w2 14 (by decide), w2 25 (by decide), hwi 8 (by omega), hwi 23 (by omega), hwi 16 (by omega), hwi 10 (by omega), hwi 14 (by omega), hwi 25 (by omega), eK]
    refine ⟨v1, v2, v3, v4, v5, v6, nI_1 x, rg_n (Nat.zero_le _) (by omega) (by omega), v9, v10, fun r hr => ?_⟩
    rw [w2 _ (by omega), hwi _ (by omega)]
    exact v11 r hr
  · rw [w2 i hi.2.1, hwi i hi.2.2]
end FOE
