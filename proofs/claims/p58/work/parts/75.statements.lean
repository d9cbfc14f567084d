/-! statements, as both read them -/
section STM
variable {s s' t t' : st_} {ch : Nat → Nat} {L p q e w C R K : Nat} {lo hi x : Int32}
/-- in order: no error, the draft told -/
def JS (s t : st_) (ch : Nat → Nat) (L p C R K : Nat) : Prop := BJ s t ch L p ∧ FD 0 (sb_ s 2) (t 3) C R K
/-- what a piece of the text comes to, of both -/
def ST (s t : st_) (ch : Nat → Nat) (L p C : Nat) (A : Option st_) (B : Option (st_ × Int32)) : Prop := ∃ s', A = some s' ∧ ((∃ t' p' R' K', B = some (t', 1) ∧ p ≤ p' ∧ JS s' t' ch L p' C R' K' ∧ MF t t') ∨ (∃ t', B = some (t', 0) ∧ MF t t' ∧ EJ s' t' ch L))
theorem rg_ofR (hR : R ≤ 6) (h : 0 ≤ x ∧ x ≤ nI R - 1) : 1 ≤ R ∧ rg_ x 0 (R - 1) := by
  by_cases h0 : R = 0
  · subst h0
    exact absurd (Int32.le_trans h.1 h.2) (by decide)
  · have e : nI R - (1 : Int32) = nI (R - 1) := pk_sub (b := 1) (by omega)
    rw [e] at h
    exact ⟨by omega, (rg_iff (lo := 0) (by omega) (by omega)).mpr h⟩
theorem lt_ofR (hR : R ≤ 6) : nI R - (1 : Int32) < (1000000 : Int32) := by
  by_cases h0 : R = 0
  · subst h0
    decide
  · have e : nI R - (1 : Int32) = nI (R - 1) := pk_sub (b := 1) (by omega)
    rw [e]
    exact nI_lt (b := 1000000) (by omega) (by omega)
theorem FD.R6 (h : FD 0 (sb_ s 2) (t 3) C R K) : s 2 4 = nI R ∧ t 3 4 = nI R ∧ R ≤ 6 := by
  obtain ⟨a, b, c⟩ := h.1 4 (by omega) (by unfold PI; omega)
  have a : s 2 4 = t 3 4 := a
  exact ⟨a.trans b, b, c⟩
theorem FD.K16 (h : FD 0 (sb_ s 2) (t 3) C R K) : s 2 12 = nI K ∧ t 3 10 = nI K ∧ K ≤ 16 := by
  obtain ⟨a, b, c⟩ := h.1 10 (by omega) (by unfold PI; omega)
  have a : s 2 12 = t 3 10 := a
  exact ⟨a.trans b, b, c⟩
theorem FD.C100 (h : FD 0 (sb_ s 2) (t 3) C R K) : s 2 0 = nI C ∧ t 3 0 = nI C ∧ 2 ≤ C ∧ C ≤ 100 := by
  obtain ⟨a, b, c⟩ := h.1 0 (by omega) (by unfold PI; omega)
  have a : s 2 0 = t 3 0 := a
  exact ⟨a.trans b, b, c⟩
theorem FD.fr (h : FD 0 (sb_ s 2) (t 3) C R K) (hs : CFr s s') (ht : t' 3 = t 3) : FD 0 (sb_ s' 2) (t' 3) C R K := by
  have e : sb_ s' 2 = sb_ s 2 := by
    funext o
    rw [sb_ap, sb_ap, hs.1 _ (by omega)]
  rw [e, ht]
  exact h
/-- the same for a piece that comes later -/
theorem ST.le {p0 : Nat} {t0 : st_} {A : Option st_} {B : Option (st_ × Int32)} (h : ST s t ch L p C A B) (hp : p0 ≤ p) (hm : MF t0 t) : ST s t0 ch L p0 C A B := by
  obtain ⟨s', e, h⟩ := h
  refine ⟨s', e, ?_⟩
  rcases h with ⟨t', p', R', K', h1, h2, h3, h4⟩ | ⟨t', h1, h2, h3⟩
  · exact Or.inl ⟨t', p', R', K', h1, by omega, h3, hm.tr h4⟩
  · exact Or.inr ⟨t', h1, hm.tr h2, h3⟩
/-- one number for a field -/
theorem fld_p (h : JS s t ch L p C R K) {i : Nat} (hI : i = 2 ∨ i = 3 ∨ (7 ≤ i ∧ i ≤ 9) ∨ (11 ≤ i ∧ i ≤ 13)) (hok : ∀ x, lo ≤ x ∧ x ≤ hi → okw C R K i x) (hh : hi < (1000000 : Int32)) : ∃ s' x, fX3_readNumber s lo hi = some (s', x) ∧ ((∃ p' t', fX8_into t (nI i) lo hi = some (t', 1) ∧ p ≤ p' ∧ JS (pt_ s' 2 (pj i) x) t' ch L p' C R K ∧ MF t t') ∨ (∃ t', fX8_into t (nI i) lo hi = some (t', 0) ∧ MF t t' ∧ EJ (pt_ s' 2 (pj i) x) t' ch L)) := by
  obtain ⟨hB, hF⟩ := h
  obtain ⟨s', x, e1, hc, h2⟩ := num_p hB (pl := i) (lo := lo) (hi := hi) (by omega) hh
  refine ⟨s', x, e1, ?_⟩
  rcases h2 with ⟨p', t', k1, k2, k3, k4, k5, k6⟩ | ⟨t', k1, k2, k3⟩
  · refine Or.inl ⟨p', t', k1, k2, ⟨k3.of (pt_o (by decide)) (pt_o (by decide)) rfl rfl, ?_⟩, k6⟩
    refine hF.num hI (x := x) (fun o ho => ?_) (fun j hj => ?_) ?_ k5 (hok x k4)
    · rw [sb_ap, sb_ap, pt_o (by omega), hc.1 _ (by omega)]
    · show pt_ s' 2 (pj i) x 2 j = s 2 j
      rw [pt_r hj, hc.1 2 (by decide)]
    · exact pt_a
  · exact Or.inr ⟨t', k1, k2, k3.of (pt_o (by decide)) (pt_o (by decide))⟩
theorem tk_n {W : List Int32} (h : TK ch q e W) {w : Nat} (hne : W ≠ sb_y w) : ¬ TK ch q e (sb_y w) := fun z => hne (h.u z)
theorem stm_w {k : Nat} {W : List Int32} (h : (wds 0)[k]? = some W) : (k = 0 ∧ W = sb_y 13) ∨ (k = 1 ∧ W = sb_y 14) ∨ (k = 2 ∧ W = sb_y 15) ∨ (k = 3 ∧ W = sb_y 21) ∨ (k = 4 ∧ W = sb_y 27) ∨ (k = 5 ∧ W = sb_y 28) ∨ (k = 6 ∧ W = sb_y 35) ∨ (k = 7 ∧ W = sb_y 25) ∨ (k = 8 ∧ W = sb_y 26) ∨ (k = 9 ∧ W = sb_y 36) := by
  have hk : k < 10 := (List.getElem?_eq_some_iff.mp h).1
  rcases (show k = 0 ∨ k = 1 ∨ k = 2 ∨ k = 3 ∨ k = 4 ∨ k = 5 ∨ k = 6 ∨ k = 7 ∨ k = 8 ∨ k = 9 by omega) with rfl | rfl | rfl | rfl | rfl | rfl | rfl | rfl | rfl | rfl <;> cases h <;> simp
theorem rul_w {k : Nat} {W : List Int32} (h : (wds 1)[k]? = some W) : (k = 0 ∧ W = sb_y 16) ∨ (k = 1 ∧ W = sb_y 17) ∨ (k = 2 ∧ W = sb_y 18) ∨ (k = 3 ∧ W = sb_y 19) ∨ (k = 4 ∧ W = sb_y 20) := by
  have hk : k < 5 := (List.getElem?_eq_some_iff.mp h).1
  rcases (show k = 0 ∨ k = 1 ∨ k = 2 ∨ k = 3 ∨ k = 4 by omega) with rfl | rfl | rfl | rfl | rfl <;> cases h <;> simp
theorem mas_w {k : Nat} {W : List Int32} (h : (wds 2)[k]? = some W) : (k = 0 ∧ W = sb_y 22) ∨ (k = 1 ∧ W = sb_y 23) ∨ (k = 2 ∧ W = sb_y 24) := by
  have hk : k < 3 := (List.getElem?_eq_some_iff.mp h).1
  rcases (show k = 0 ∨ k = 1 ∨ k = 2 by omega) with rfl | rfl | rfl <;> cases h <;> simp
theorem foe_w {k : Nat} {W : List Int32} (h : (wds 3)[k]? = some W) : (k = 0 ∧ W = sb_y 29) ∨ (k = 1 ∧ W = sb_y 30) ∨ (k = 2 ∧ W = sb_y 31) ∨ (k = 3 ∧ W = sb_y 32) ∨ (k = 4 ∧ W = sb_y 33) ∨ (k = 5 ∧ W = sb_y 34) := by
  have hk : k < 6 := (List.getElem?_eq_some_iff.mp h).1
  rcases (show k = 0 ∨ k = 1 ∨ k = 2 ∨ k = 3 ∨ k = 4 ∨ k = 5 by omega) with rfl | rfl | rfl | rfl | rfl | rfl <;> cases h <;> simp
theorem is_e {i : Nat} (hi : i < 12584) : fX8_is t (nI i) x = some (pt_ t 3 i x, 1) := by
  unfold fX8_is
  rw [gd_t (ib_n hi (by omega)), bd_e, ix_n (by omega)]
/-- the foe -/
theorem readFoe_p (h : JS s t ch L p C R K) : ∃ s' r, fX3_readWord s 3 = some (s', r) ∧ ST s t ch L p C (some (pt_ s' 2 11 r)) (fX8_readFoe t) := by
  obtain ⟨hB, hF⟩ := h
  obtain ⟨s', r, e1, hc, -, hw⟩ := word_p hB (w := 3) (by omega)
  have hq := tq_L (ch := ch) hB.2.2.1
  have he := te_L (ch := ch) hB.2.2.1
  refine ⟨s', r, e1, _, rfl, ?_⟩
  have ok : ∀ k, k ≤ 5 → r = nI k → BJ s' (sq t (tq ch L p) (te ch L p)) ch L (te ch L p) → ∃ t' p' R' K', some (pt_ (sq t (tq ch L p) (te ch L p)) 3 9 (nI k), (1 : Int32)) = some (t', 1) ∧ p ≤ p' ∧ JS (pt_ s' 2 11 r) t' ch L p' C R' K' ∧ MF t t' := fun k hk er hb => by
    refine ⟨_, te ch L p, R, K, rfl, by omega, ⟨hb.of (pt_o (by decide)) (pt_o (by decide)) (pt_o (by decide)) (pt_o (by decide)), ?_⟩, MF.sq.tr MF.p3⟩
    refine (hF.fr (t' := t) hc rfl).num (i := 9) (x := nI k) (by omega) (fun o ho => ?_) (fun j hj => ?_) ?_ (pt_1 (sq_o (by decide))) ?_
    · rw [sb_ap, sb_ap, pt_o (by omega)]
    · show pt_ s' 2 11 r 2 j = s' 2 j
      exact pt_r hj
    · rw [er]
      exact pt_a
    · exact rg_n (Nat.zero_le _) hk (by omega)
  unfold fX8_readFoe
  rcases hw with ⟨k, W, k1, k2, k3, k4⟩ | ⟨k1, k2, k3⟩
  · rcases foe_w k1 with ⟨rfl, rfl⟩ | ⟨rfl, rfl⟩ | ⟨rfl, rfl⟩ | ⟨rfl, rfl⟩ | ⟨rfl, rfl⟩ | ⟨rfl, rfl⟩
    · refine Or.inl ?_
      rw [bn_e (show fX8_takes _ 29 = _ from (tk_t hB (by omega) k2).1), if_neg (show ¬ (1 : Int32) = 0 by decide), bn_e (show fX8_is _ (9 : Int32) (0 : Int32) = _ from is_e (i := 9) (by omega))]
      exact ok 0 (by omega) k3 k4
    · refine Or.inl ?_
      rw [bn_e (show fX8_takes _ 29 = _ from (tk_f hB (by omega) (tk_n k2 (by decide))).1), if_pos rfl, bn_e (show fX8_takes _ 30 = _ from (tk_t hB (by omega) k2).2), if_neg (show ¬ (1 : Int32) = 0 by decide), bn_e (show fX8_is _ (9 : Int32) (1 : Int32) = _ from is_e (i := 9) (by omega))]
      exact ok 1 (by omega) k3 k4
    · refine Or.inl ?_
      rw [bn_e (show fX8_takes _ 29 = _ from (tk_f hB (by omega) (tk_n k2 (by decide))).1), if_pos rfl, bn_e (show fX8_takes _ 30 = _ from (tk_f hB (by omega) (tk_n k2 (by decide))).2), if_pos rfl, bn_e (show fX8_takes _ 31 = _ from (tk_t hB (by omega) k2).2), if_neg (show ¬ (1 : Int32) = 0 by decide), bn_e (show fX8_is _ (9 : Int32) (2 : Int32) = _ from is_e (i := 9) (by omega))]
      exact ok 2 (by omega) k3 k4
    · refine Or.inl ?_
      rw [bn_e (show fX8_takes _ 29 = _ from (tk_f hB (by omega) (tk_n k2 (by decide))).1), if_pos rfl, bn_e (show fX8_takes _ 30 = _ from (tk_f hB (by omega) (tk_n k2 (by decide))).2), if_pos rfl, bn_e (show fX8_takes _ 31 = _ from (tk_f hB (by omega) (tk_n k2 (by decide))).2), if_pos rfl, bn_e (show fX8_takes _ 32 = _ from (tk_t hB (by omega) k2).2), if_neg (show ¬ (1 : Int32) = 0 by decide), bn_e (show fX8_is _ (9 : Int32) (3 : Int32) = _ from is_e (i := 9) (by omega))]
      exact ok 3 (by omega) k3 k4
    · refine Or.inl ?_
      rw [bn_e (show fX8_takes _ 29 = _ from (tk_f hB (by omega) (tk_n k2 (by decide))).1), if_pos rfl, bn_e (show fX8_takes _ 30 = _ from (tk_f hB (by omega) (tk_n k2 (by decide))).2), if_pos rfl, bn_e (show fX8_takes _ 31 = _ from (tk_f hB (by omega) (tk_n k2 (by decide))).2), if_pos rfl, bn_e (show fX8_takes _ 32 = _ from (tk_f hB (by omega) (tk_n k2 (by decide))).2), if_pos rfl, bn_e (show fX8_takes _ 33 = _ from (tk_t hB (by omega) k2).2), if_neg (show ¬ (1 : Int32) = 0 by decide), bn_e (show fX8_is _ (9 : Int32) (4 : Int32) = _ from is_e (i := 9) (by omega))]
      exact ok 4 (by omega) k3 k4
    · refine Or.inl ?_
      rw [bn_e (show fX8_takes _ 29 = _ from (tk_f hB (by omega) (tk_n k2 (by decide))).1), if_pos rfl, bn_e (show fX8_takes _ 30 = _ from (tk_f hB (by omega) (tk_n k2 (by decide))).2), if_pos rfl, bn_e (show fX8_takes _ 31 = _ from (tk_f hB (by omega) (tk_n k2 (by decide))).2), if_pos rfl, bn_e (show fX8_takes _ 32 = _ from (tk_f hB (by omega) (tk_n k2 (by decide))).2), if_pos rfl, bn_e (show fX8_takes _ 33 = _ from (tk_f hB (by omega) (tk_n k2 (by decide))).2), if_pos rfl, bn_e (show fX8_takes _ 34 = _ from (tk_t hB (by omega) k2).2), if_neg (show ¬ (1 : Int32) = 0 by decide), bn_e (show fX8_is _ (9 : Int32) (5 : Int32) = _ from is_e (i := 9) (by omega))]
      exact ok 5 (by omega) k3 k4
  · refine Or.inr ?_
    rw [bn_e (show fX8_takes _ 29 = _ from (tk_f hB (by omega) (k2 0 _ rfl)).1), if_pos rfl, bn_e (show fX8_takes _ 30 = _ from (tk_f hB (by omega) (k2 1 _ rfl)).2), if_pos rfl, bn_e (show fX8_takes _ 31 = _ from (tk_f hB (by omega) (k2 2 _ rfl)).2), if_pos rfl, bn_e (show fX8_takes _ 32 = _ from (tk_f hB (by omega) (k2 3 _ rfl)).2), if_pos rfl, bn_e (show fX8_takes _ 33 = _ from (tk_f hB (by omega) (k2 4 _ rfl)).2), if_pos rfl, bn_e (show fX8_takes _ 34 = _ from (tk_f hB (by omega) (k2 5 _ rfl)).2), if_pos rfl, bn_e (fails_q hB.2.2.2.2.2.2)]
    exact ⟨_, rfl, MF.sq.tr MF.fl, k3.of (pt_o (by decide)) (pt_o (by decide))⟩
/-- the master -/
theorem readMaster_p (h : JS s t ch L p C R K) : ST s t ch L p C (fX3_readMaster s) (fX8_readMaster t (5 : Int32) (6 : Int32)) := by
  obtain ⟨hB, hF⟩ := h
  obtain ⟨s', r, e1, hc, -, hw⟩ := word_p hB (w := 2) (by omega)
  have hq := tq_L (ch := ch) hB.2.2.1
  have he := te_L (ch := ch) hB.2.2.1
  have hF1 := hF.fr (t' := t) hc rfl
  have hR := hF1.R6
  have hRR := hF.R6
  unfold fX3_readMaster fX8_readMaster
  rw [bn_e e1]
  have cl : ∀ (u : st_) (r1 z : Int32), fX3_readMaster_j30 (s', r1) z u = some (mg_ u 2 4 (pt_ (pt_ (sb_ u 2) 0 7 r1) 0 8 (if r1 = 2 then z else -1))) := fun u r1 z => by
    unfold fX3_readMaster_j30
    rw [bn_e takeMaster_e, bd_e]
  have at2 : ∀ (u : st_) (r1 z : Int32), (∀ o, o ≠ 2 → mg_ u 2 4 (pt_ (pt_ (sb_ u 2) 0 7 r1) 0 8 z) o = u o) ∧ (∀ j, j ≠ 7 → j ≠ 8 → mg_ u 2 4 (pt_ (pt_ (sb_ u 2) 0 7 r1) 0 8 z) 2 j = u 2 j) ∧ mg_ u 2 4 (pt_ (pt_ (sb_ u 2) 0 7 r1) 0 8 z) 2 7 = r1 ∧ mg_ u 2 4 (pt_ (pt_ (sb_ u 2) 0 7 r1) 0 8 z) 2 8 = z := fun u r1 z => mast_h (s := u) (a := 1) (b := 2) rfl
  have bad : ∀ (u : st_) (r1 z : Int32) (t1 : st_), EJ u t1 ch L → EJ (mg_ u 2 4 (pt_ (pt_ (sb_ u 2) 0 7 r1) 0 8 (if r1 = 2 then z else -1))) t1 ch L := fun u r1 z t1 hE => hE.of ((at2 u r1 _).1 0 (by decide)) ((at2 u r1 _).1 1 (by decide))
  have ok : ∀ (u : st_) (k : Nat) (z : Int32) (t1 : st_) (p1 : Nat), k ≤ 2 → BJ u t1 ch L p1 → te ch L p ≤ p1 → (∀ o, o ≠ 1 → u o = s' o) → MF t t1 → (∀ i, i ≠ 6 → t1 3 i = t 3 i) → (k = 2 → t1 3 6 = z ∧ rg_ z 0 (R - 1)) → ∃ t' p' R' K', some (pt_ t1 3 5 (nI k), (1 : Int32)) = some (t', 1) ∧ p ≤ p' ∧ JS (mg_ u 2 4 (pt_ (pt_ (sb_ u 2) 0 7 (nI k)) 0 8 (if nI k = 2 then z else -1))) t' ch L p' C R' K' ∧ MF t t' := fun u k z t1 p1 hk hb hp hu hm ht h6 => by
    obtain ⟨a1, a2, a3, a4⟩ := at2 u (nI k) (if nI k = 2 then z else -1)
    refine ⟨_, p1, R, K, rfl, by omega, ⟨hb.of (a1 0 (by decide)) (a1 1 (by decide)) (pt_o (by decide)) (pt_o (by decide)), ?_⟩, hm.tr MF.p3⟩
    refine hF1.master (kd := nI k) (kp := z) (fun o ho => ?_) (fun j h1 h2 => ?_) a3 a4 (fun i h1 h2 => ?_) pt_a (fun hk2 => ?_) (rg_n (Nat.zero_le _) hk (by omega))
    · rw [sb_ap, sb_ap, a1 _ (by omega), hu _ (by omega)]
    · show mg_ u 2 4 _ 2 j = s' 2 j
      rw [a2 j h1 h2, hu 2 (by decide)]
    · rw [pt_r h1]
      exact ht i h2
    · have hk2 : k = 2 := (nI_eq (b := 2) (by omega) (by omega)).mp hk2
      rw [pt_r (by decide)]
      exact h6 hk2
  rcases hw with ⟨k, W, k1, k2, k3, k4⟩ | ⟨k1, k2, k3⟩
  · rcases mas_w k1 with ⟨rfl, rfl⟩ | ⟨rfl, rfl⟩ | ⟨rfl, rfl⟩
    · subst k3
      rw [if_neg (show ¬ nI 0 = (2 : Int32) by decide), cl, bn_e (show fX8_takes _ 22 = _ from (tk_t hB (by omega) k2).1), if_neg (show ¬ (1 : Int32) = 0 by decide), bn_e (show fX8_is _ (5 : Int32) (0 : Int32) = _ from is_e (i := 5) (by omega))]
      exact ⟨_, rfl, Or.inl (ok s' 0 (-1) _ _ (by omega) k4 (Nat.le_refl _) (fun _ _ => rfl) MF.sq (fun i _ => by dsimp only; rw [sq_o (by decide)]) (fun z => absurd z (by decide)))⟩
    · subst k3
      rw [if_neg (show ¬ nI 1 = (2 : Int32) by decide), cl, bn_e (show fX8_takes _ 22 = _ from (tk_f hB (by omega) (tk_n k2 (by decide))).1), if_pos rfl, bn_e (show fX8_takes _ 23 = _ from (tk_t hB (by omega) k2).2), if_neg (show ¬ (1 : Int32) = 0 by decide), bn_e (show fX8_is _ (5 : Int32) (1 : Int32) = _ from is_e (i := 5) (by omega))]
      exact ⟨_, rfl, Or.inl (ok s' 1 (-1) _ _ (by omega) k4 (Nat.le_refl _) (fun _ _ => rfl) MF.sq (fun i _ => by dsimp only; rw [sq_o (by decide)]) (fun z => absurd z (by decide)))⟩
    · subst k3
      rw [if_pos (show nI 2 = (2 : Int32) from rfl), bn_e (show fX8_takes _ 22 = _ from (tk_f hB (by omega) (tk_n k2 (by decide))).1), if_pos rfl, bn_e (show fX8_takes _ 23 = _ from (tk_f hB (by omega) (tk_n k2 (by decide))).2), if_pos rfl, bn_e (show fX8_takes _ 24 = _ from (tk_t hB (by omega) k2).2), if_neg (show ¬ (1 : Int32) = 0 by decide), gd_t b4_, i4_]
      dsimp only
      rw [hR.1, sq_o (by decide), hRR.2.1]
      obtain ⟨u, z, e2, hcu, h2⟩ := num_p k4 (pl := 6) (lo := 0) (hi := nI R - 1) (by omega) (lt_ofR hR.2.2)
      rw [bn_e e2]
      dsimp only
      rw [cl]
      rcases h2 with ⟨p1, t1, m1, m2, m3, m4, m5, m6⟩ | ⟨t1, m1, m2, m3⟩
      · have hz := rg_ofR hR.2.2 m4
        rw [bn_e (show fX8_into _ (6 : Int32) (0 : Int32) (nI R - (1 : Int32)) = _ from m1), if_neg (show ¬ (1 : Int32) = 0 by decide), bn_e (show fX8_is _ (5 : Int32) (2 : Int32) = _ from is_e (i := 5) (by omega)), if_neg (show ¬ (1 : Int32) = 0 by decide)]
        exact ⟨_, rfl, Or.inl (ok u 2 z t1 p1 (by omega) m3 m2 (fun o ho => hcu.1 o ho) (MF.sq.tr m6) (fun i hi => by rw [m5, up_n hi, sq_o (by decide)]) (fun _ => ⟨by rw [m5, up_a], hz.2⟩))⟩
      · rw [bn_e (show fX8_into _ (6 : Int32) (0 : Int32) (nI R - (1 : Int32)) = _ from m1), if_pos rfl]
        exact ⟨_, rfl, Or.inr ⟨t1, rfl, MF.sq.tr m2, bad u _ z t1 m3⟩⟩
  · subst k1
    rw [if_neg (show ¬ (-1 : Int32) = (2 : Int32) by decide), cl, bn_e (show fX8_takes _ 22 = _ from (tk_f hB (by omega) (k2 0 _ rfl)).1), if_pos rfl, bn_e (show fX8_takes _ 23 = _ from (tk_f hB (by omega) (k2 1 _ rfl)).2), if_pos rfl, bn_e (show fX8_takes _ 24 = _ from (tk_f hB (by omega) (k2 2 _ rfl)).2), if_pos rfl, bn_e (fails_q hB.2.2.2.2.2.2)]
    exact ⟨_, rfl, Or.inr ⟨_, rfl, MF.sq.tr MF.fl, bad s' _ _ _ k3⟩⟩
/-- the rival -/
theorem readRival_p (h : JS s t ch L p C R K) : ST s t ch L p C (fX3_readRival s) (fX8_readMaster t (21 : Int32) (22 : Int32)) := by
  obtain ⟨hB, hF⟩ := h
  obtain ⟨s', r, e1, hc, -, hw⟩ := word_p hB (w := 2) (by omega)
  have hq := tq_L (ch := ch) hB.2.2.1
  have he := te_L (ch := ch) hB.2.2.1
  have hF1 := hF.fr (t' := t) hc rfl
  have hR := hF1.R6
  have hRR := hF.R6
  unfold fX3_readRival fX8_readMaster
  rw [bn_e e1]
  have cl : ∀ (u : st_) (r1 z : Int32), fX3_readRival_j34 (s', r1) z u = some (pt_ (pt_ u 2 15 z) 2 14 r1) := fun u r1 z => by
    unfold fX3_readRival_j34
    rw [bd_e, bd_e]
  have bad : ∀ (u : st_) (r1 z : Int32) (t1 : st_), EJ u t1 ch L → EJ (pt_ (pt_ u 2 15 z) 2 14 r1) t1 ch L := fun u r1 z t1 hE => hE.of (by rw [pt_o (by decide), pt_o (by decide)]) (by rw [pt_o (by decide), pt_o (by decide)])
  have ok : ∀ (u : st_) (k : Nat) (z : Int32) (t1 : st_) (p1 : Nat), k ≤ 2 → BJ u t1 ch L p1 → te ch L p ≤ p1 → (∀ o, o ≠ 1 → u o = s' o) → MF t t1 → (∀ i, i ≠ 22 → t1 3 i = t 3 i) → (k = 2 → t1 3 22 = z ∧ rg_ z 0 (R - 1)) → ∃ t' p' R' K', some (pt_ t1 3 21 (nI k), (1 : Int32)) = some (t', 1) ∧ p ≤ p' ∧ JS (pt_ (pt_ u 2 15 z) 2 14 (nI k)) t' ch L p' C R' K' ∧ MF t t' := fun u k z t1 p1 hk hb hp hu hm ht h6 => by
    refine ⟨_, p1, R, K, rfl, by omega, ⟨hb.of (by rw [pt_o (by decide), pt_o (by decide)]) (by rw [pt_o (by decide), pt_o (by decide)]) (pt_o (by decide)) (pt_o (by decide)), ?_⟩, hm.tr MF.p3⟩
    refine hF1.rival (kd := nI k) (kp := z) (fun o ho => ?_) (fun j h1 h2 => ?_) pt_a (fun _ => ?_) (fun i h1 h2 => ?_) pt_a (fun hk2 => ?_) (rg_n (Nat.zero_le _) hk (by omega))
    · rw [sb_ap, sb_ap, pt_o (by omega), pt_o (by omega), hu _ (by omega)]
    · show pt_ (pt_ u 2 15 z) 2 14 (nI k) 2 j = s' 2 j
      rw [pt_r h1, pt_r h2, hu 2 (by decide)]
    · show pt_ (pt_ u 2 15 z) 2 14 (nI k) 2 15 = z
      rw [pt_r (by decide), pt_a]
    · rw [pt_r h1]
      exact ht i h2
    · have hk2 : k = 2 := (nI_eq (b := 2) (by omega) (by omega)).mp hk2
      rw [pt_r (by decide)]
      exact h6 hk2
  rcases hw with ⟨k, W, k1, k2, k3, k4⟩ | ⟨k1, k2, k3⟩
  · rcases mas_w k1 with ⟨rfl, rfl⟩ | ⟨rfl, rfl⟩ | ⟨rfl, rfl⟩
    · subst k3
      rw [if_neg (show ¬ nI 0 = (2 : Int32) by decide), cl, bn_e (show fX8_takes _ 22 = _ from (tk_t hB (by omega) k2).1), if_neg (show ¬ (1 : Int32) = 0 by decide), bn_e (show fX8_is _ (21 : Int32) (0 : Int32) = _ from is_e (i := 21) (by omega))]
      exact ⟨_, rfl, Or.inl (ok s' 0 (-1) _ _ (by omega) k4 (Nat.le_refl _) (fun _ _ => rfl) MF.sq (fun i _ => by dsimp only; rw [sq_o (by decide)]) (fun z => absurd z (by decide)))⟩
    · subst k3
      rw [if_neg (show ¬ nI 1 = (2 : Int32) by decide), cl, bn_e (show fX8_takes _ 22 = _ from (tk_f hB (by omega) (tk_n k2 (by decide))).1), if_pos rfl, bn_e (show fX8_takes _ 23 = _ from (tk_t hB (by omega) k2).2), if_neg (show ¬ (1 : Int32) = 0 by decide), bn_e (show fX8_is _ (21 : Int32) (1 : Int32) = _ from is_e (i := 21) (by omega))]
      exact ⟨_, rfl, Or.inl (ok s' 1 (-1) _ _ (by omega) k4 (Nat.le_refl _) (fun _ _ => rfl) MF.sq (fun i _ => by dsimp only; rw [sq_o (by decide)]) (fun z => absurd z (by decide)))⟩
    · subst k3
      rw [if_pos (show nI 2 = (2 : Int32) from rfl), bn_e (show fX8_takes _ 22 = _ from (tk_f hB (by omega) (tk_n k2 (by decide))).1), if_pos rfl, bn_e (show fX8_takes _ 23 = _ from (tk_f hB (by omega) (tk_n k2 (by decide))).2), if_pos rfl, bn_e (show fX8_takes _ 24 = _ from (tk_t hB (by omega) k2).2), if_neg (show ¬ (1 : Int32) = 0 by decide), gd_t b4_, i4_]
      dsimp only
      rw [hR.1, sq_o (by decide), hRR.2.1]
      obtain ⟨u, z, e2, hcu, h2⟩ := num_p k4 (pl := 22) (lo := 0) (hi := nI R - 1) (by omega) (lt_ofR hR.2.2)
      rw [bn_e e2]
      dsimp only
      rw [cl]
      rcases h2 with ⟨p1, t1, m1, m2, m3, m4, m5, m6⟩ | ⟨t1, m1, m2, m3⟩
      · have hz := rg_ofR hR.2.2 m4
        rw [bn_e (show fX8_into _ (22 : Int32) (0 : Int32) (nI R - (1 : Int32)) = _ from m1), if_neg (show ¬ (1 : Int32) = 0 by decide), bn_e (show fX8_is _ (21 : Int32) (2 : Int32) = _ from is_e (i := 21) (by omega)), if_neg (show ¬ (1 : Int32) = 0 by decide)]
        exact ⟨_, rfl, Or.inl (ok u 2 z t1 p1 (by omega) m3 m2 (fun o ho => hcu.1 o ho) (MF.sq.tr m6) (fun i hi => by rw [m5, up_n hi, sq_o (by decide)]) (fun _ => ⟨by rw [m5, up_a], hz.2⟩))⟩
      · rw [bn_e (show fX8_into _ (22 : Int32) (0 : Int32) (nI R - (1 : Int32)) = _ from m1), if_pos rfl]
        exact ⟨_, rfl, Or.inr ⟨t1, rfl, MF.sq.tr m2, bad u _ z t1 m3⟩⟩
  · subst k1
    rw [if_neg (show ¬ (-1 : Int32) = (2 : Int32) by decide), cl, bn_e (show fX8_takes _ 22 = _ from (tk_f hB (by omega) (k2 0 _ rfl)).1), if_pos rfl, bn_e (show fX8_takes _ 23 = _ from (tk_f hB (by omega) (k2 1 _ rfl)).2), if_pos rfl, bn_e (show fX8_takes _ 24 = _ from (tk_f hB (by omega) (k2 2 _ rfl)).2), if_pos rfl, bn_e (fails_q hB.2.2.2.2.2.2)]
    exact ⟨_, rfl, Or.inr ⟨_, rfl, MF.sq.tr MF.fl, bad s' _ _ _ k3⟩⟩
end STM
