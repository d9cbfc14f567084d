/-! predictions -/
theorem tb_l {α β : Type} {x : α} {f : α → Option β} {g : Nat → Option β} : tb_ (.inl x) f g = f x := rfl
theorem tb_r {α β : Type} {c : Nat} {f : α → Option β} {g : Nat → Option β} : tb_ (.inr c : α ⊕ Nat) f g = g c := rfl
def PP (s t : st_) (C R n T : Nat) : Prop := DD (sb_ s 9) (t 1) C R n ∧ UPS (sb_ s 9) ∧ t 1 16 = nI T ∧ T ≤ 1000 ∧ rg_ (t 1 17) 0 1000
def QP (g : Nat → Int32) (s t : st_) (A : Option (st_ × (Int32 ⊕ Nat))) (B : Option (st_ × Int32)) : Prop := ∃ s' x t' y, A = some (s', x) ∧ B = some (t', y) ∧ ou_ g x t' y ∧ CI s s' ∧ MI t t'
def QS (s t : st_) (A : Option (st_ × Int32)) (B : Option (st_ × Int32)) : Prop := ∃ s' x t', A = some (s', x) ∧ B = some (t', x) ∧ CI s s' ∧ MI t t'
def QN (g : Nat → Int32) (t : st_) (A : Option (Int32 ⊕ Nat)) (B : Option (st_ × Int32)) : Prop := ∃ x t' y, A = some x ∧ B = some (t', y) ∧ ou_ g x t' y ∧ MI t t'
def QV (t : st_) (A : Option Int32) (B : Option (st_ × Int32)) : Prop := ∃ x t', A = some x ∧ B = some (t', x) ∧ MI t t'
section PREDICT
variable {s t d d' : st_} {w w' : Nat → Int32} {C R n T k : Nat} {x : Int32}
/-- an arm that a call names -/
theorem armX (x : Int32) (h1 : 1 ≤ R) (h6 : R ≤ 6) : (∃ o m : Nat, m < 8 ∧ o + 3 ≤ 33 ∧ fX8_told x = some (nI m) ∧ ((m = 6 ∧ x = -1 ∧ o = 5) ∨ (m < R ∧ x = nI m ∧ o = 3 * m + 15)) ∧ (∀ d : st_, d 1 4 = nI R → fX1_armOf d x = some o) ∧ (∀ (d : st_) w n, DA d w C R n → AR (sb_ d o) w m n ∧ AI w m n C) ∧ (∀ s : st_, s 10 4 = nI R → fX7_requireArm s x = some (.inl ())) ∧ ∀ t : st_, t 1 4 = nI R → fX8_noArm t x = some (pt_ t 0 6 0, 0)) ∨ ((∀ s : st_, s 10 4 = nI R → fX7_requireArm s x = some (.inr 0)) ∧ ∀ t : st_, t 1 4 = nI R → fX8_noArm t x = some (pt_ t 0 6 1, 1)) := by
  by_cases hi : x = -1
  · subst hi
    refine Or.inl ⟨5, 6, by omega, by omega, ?_, Or.inl ⟨rfl, rfl, rfl⟩, fun d hd => ?_, fun d w n h => ⟨h.1, h.2.1⟩, fun s _ => reqArm_i, fun t _ => noArm_i⟩
    · unfold fX8_told
      rw [if_pos rfl]
      rfl
    · unfold fX1_armOf
      rw [bn_e (hasRule_f (S := sb_ d 1) hd h6 (fun z => absurd z.1 (by decide))), if_pos rfl]
  · rcases ruleC (R := R) x h6 with ⟨r, hr, rfl⟩ | hx
    · refine Or.inl ⟨3 * r + 15, r, by omega, by omega, ?_, Or.inr ⟨hr, rfl, rfl⟩, fun d hd => ?_, fun d w n h => h.2.2.1 r hr, fun s hs => reqArm_t hs hr h6, fun t ht => noArm_t ht hr h6⟩
      · unfold fX8_told
        rw [if_neg hi]
      · unfold fX1_armOf
        rw [bn_e (hasRule_t (S := sb_ d 1) hd hr h6), if_neg (by decide), gd_t (ib_n (by omega) (by omega)), ix_n (by omega)]
    · exact Or.inr ⟨fun s hs => reqArm_f hs h6 hi hx, fun t ht => noArm_f ht h1 h6 hi hx⟩
theorem ask_w : ∃ t2, fX8_goesAside (pt_ t 0 6 0) = some t2 ∧ t2 1 = t 1 ∧ t2 0 6 = 0 ∧ (∀ j, j < 12584 → t2 2 j = t 1 j) ∧ ∀ t' : st_, (∀ o, 3 ≤ o → t' o = t2 o) → (∀ j, j ≠ 15 → t' 0 j = t2 0 j) → (∀ j, j < 12584 → t' 1 j = t2 2 j) → MI t t' ∧ t' 0 6 = 0 := by
  obtain ⟨t2, e2, a1, a2⟩ := aside_w (t := pt_ t 0 6 0)
  have a3 : ∀ j, j < 12584 → t2 2 j = t 1 j := fun j hj => by rw [a2 j hj, pt_oo (by decide)]
  refine ⟨t2, e2, by rw [a1 1 (by decide), pt_o (by decide)], by rw [a1 0 (by decide), pt_a], a3, fun t' h1 h2 h3 => ⟨⟨fun j hj => by rw [h3 j hj, a3 j hj], fun o x y => by rw [h1 o (by omega), a1 o (by omega), pt_o (by omega)], ?_, ?_⟩, ?_⟩⟩
  · rw [h2 8 (by decide), a1 0 (by decide), pt_r (by decide)]
  · rw [h2 13 (by decide), a1 0 (by decide), pt_r (by decide)]
  · rw [h2 6 (by decide), a1 0 (by decide), pt_a]
theorem regretIn_p (h : PP s t C R n T) (i0 : Int32) : QP g1_ s t (fX7_regretIn s i0) (fX8_regretIn t i0) := by
  obtain ⟨hD, hU, hT, hT2, -⟩ := h
  unfold fX7_regretIn fX8_regretIn
  rw [bd_e]
  by_cases hx : 1 ≤ i0 ∧ i0 ≤ 200
  · obtain ⟨k, k1, k2, rfl⟩ := ((rg_iff (lo := 1) (hi := 200) (by omega) (by omega)).mpr hx).ex
    obtain ⟨r7, e7, hr7⟩ := trial_w hD hU
    obtain ⟨t2, e2, et, e06, -, hmi⟩ := ask_w (t := t)
    have hD1 : DD (sb_ (mg_ s 83 33 r7) 83) (t2 1) C R n := by rw [et]; exact hr7 _ (fun o a b => mg_i (by omega) (by omega))
    obtain ⟨d', t3, x, e3, e4, e5, b1, b2, b3⟩ := behind_p hD1 (by rw [et]; exact hT) (k := k) (by omega)
    obtain ⟨hm, h6⟩ := hmi t3 (fun o a => b1 o (by omega) (by omega)) b2 b3
    refine ⟨mg_ (mg_ s 83 33 r7) 83 33 d', .inl x, t3, x, ?_, ?_, ⟨h6, rfl⟩, fun o a _ _ => by rw [mg_o (by omega), mg_o (by omega)], hm⟩
    · have e8 := e4 (sb_ (mg_ (mg_ s 83 33 r7) 83 33 d') 83) (fun o ho => by rw [sb_ap, mg_i (by omega) (by omega), Nat.add_sub_cancel_left])
      rw [bn_e (within_t hx), tb_l, bn_e e7, bd_e, bn_e e3, bd_e, bn_e e8]
    · rw [bn_e (rounds_t pt_a hx), if_pos rfl, bn_e e2, bn_e e5]
  · refine ⟨s, .inr 1, _, 0, by rw [bn_e (within_f hx), tb_r], by rw [bn_e (rounds_f pt_a (by decide) hx), if_neg (show ¬ (1 : Int32) = 0 by decide)], ?_, CI.r, MI.t6.tr MI.t6⟩
    exact ⟨pt_a, by decide⟩
end PREDICT
