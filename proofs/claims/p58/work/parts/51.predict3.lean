/-! predictions: another master, another foe, budgets -/
theorem it_pair {α β γ δ : Type} {f : α → Option (α ⊕ β)} {g : γ → Option (γ ⊕ δ)} (J : Nat → α → γ → Prop) (P : β → δ → Prop) : ∀ n fu fv v u, n < fu → n < fv → J n v u → (∀ k v u, k ≤ n → J k v u → (∃ v' u' k', k' < k ∧ f v = some (.inl v') ∧ g u = some (.inl u') ∧ J k' v' u') ∨ (∃ b d, f v = some (.inr b) ∧ g u = some (.inr d) ∧ P b d)) → ∃ b d, it_ f fu v = some b ∧ it_ g fv u = some d ∧ P b d := by
  intro n
  induction n using Nat.strongRecOn with
  | ind n ih =>
    intro fu fv v u h1 h2 hJ st
    obtain ⟨fu, rfl⟩ : ∃ m, fu = m + 1 := ⟨fu - 1, by omega⟩
    obtain ⟨fv, rfl⟩ : ∃ m, fv = m + 1 := ⟨fv - 1, by omega⟩
    rcases st n v u (Nat.le_refl _) hJ with ⟨v', u', k', hk, e1, e2, hJ'⟩ | ⟨b, d, e1, e2, hP⟩
    · obtain ⟨b, d, e3, e4, hP⟩ := ih k' hk fu fv v' u' (by omega) (by omega) hJ' (fun k v u hk2 hJ => st k v u (by omega) hJ)
      refine ⟨b, d, ?_, ?_, hP⟩
      · unfold it_
        rw [e1]
        exact e3
      · unfold it_
        rw [e2]
        exact e4
    · refine ⟨b, d, ?_, ?_, hP⟩
      · unfold it_
        rw [e1]
      · unfold it_
        rw [e2]
theorem mgs {s r : st_} {a n : Nat} (hn : 0 < n) (h : ∀ o, o ≠ 0 → r o = s (a + o)) : (∀ o, o ≠ a → mg_ s a n r o = s o) ∧ mg_ s a n r a = r 0 := by
  refine ⟨fun o ho => ?_, by rw [mg_i (by omega) (by omega), Nat.sub_self]⟩
  by_cases hc : a ≤ o ∧ o < a + n
  · rw [mg_i hc.1 hc.2, h _ (by omega)]
    congr 1
    omega
  · rw [mg_o (by omega)]
theorem takeMaster_e {S : st_} {kind x : Int32} : fX5_takeMaster S kind x = some (pt_ (pt_ S 0 7 kind) 0 8 (if kind = 2 then x else -1)) := by
  unfold fX5_takeMaster fX5_takeMaster_j16
  rw [bd_e]
  by_cases h : kind = 2
  · rw [if_pos h, if_pos h]
    rfl
  · rw [if_neg h, if_neg h]
    rfl
section PREDICT
variable {s t d d' : st_} {w w' : Nat → Int32} {C R n T k : Nat} {x : Int32}
/-- the class's master is told anew, of a duel at a place -/
theorem mast_h {a b : Nat} {kind y : Int32} (hb : b = a + 1) : (∀ o, o ≠ b → mg_ s b 4 (pt_ (pt_ (sb_ s b) 0 7 kind) 0 8 y) o = s o) ∧ (∀ j, j ≠ 7 → j ≠ 8 → mg_ s b 4 (pt_ (pt_ (sb_ s b) 0 7 kind) 0 8 y) b j = s b j) ∧ mg_ s b 4 (pt_ (pt_ (sb_ s b) 0 7 kind) 0 8 y) b 7 = kind ∧ mg_ s b 4 (pt_ (pt_ (sb_ s b) 0 7 kind) 0 8 y) b 8 = y := by
  obtain ⟨h1, h2⟩ := mgs (s := s) (r := pt_ (pt_ (sb_ s b) 0 7 kind) 0 8 y) (a := b) (n := 4) (by omega) (fun o ho => by rw [pt_o ho, pt_o ho, sb_ap])
  refine ⟨h1, fun j a c => ?_, ?_, ?_⟩
  · rw [h2, pt_r c, pt_r a, sb_ap, Nat.add_zero]
  · rw [h2, pt_r (by decide), pt_a]
  · rw [h2, pt_a]
theorem regretKeeping_p (h : PP s t C R n T) (x i1 : Int32) : QP g2_ s t (fX7_regretKeeping s x i1) (fX8_regretKeeping t x i1) := by
  obtain ⟨hD, hU, hT, hT2, -⟩ := h
  have hB := hD.rb
  have hR6 := hB.1.2.1
  unfold fX7_regretKeeping fX8_regretKeeping
  rcases ruleC (R := R) x hB.1.2.1 with ⟨r, hr, rfl⟩ | hxr
  · rw [bn_e (reqRule_t hB.1.2.2.1 hr hB.1.2.1), tb_l, bn_e (noRule_t hB.1.2.2.2 hr hB.1.2.1), if_pos rfl]
    by_cases hx : 1 ≤ i1 ∧ i1 ≤ 200
    · obtain ⟨k, k1, k2, rfl⟩ := ((rg_iff (lo := 1) (hi := 200) (by omega) (by omega)).mpr hx).ex
      obtain ⟨r7, e7, hr7⟩ := trial_w hD hU
      obtain ⟨t2, e2, et2, e06, e22, hmi⟩ := ask_w (t := t)
      generalize hs17 : mg_ s 83 33 r7 = s17
      have hD1 : DD (sb_ s17 83) (t2 1) C R n := by rw [et2, ← hs17]; exact hr7 _ (fun o a b => mg_i (by omega) (by omega))
      obtain ⟨m1, m2, m3, m4⟩ := mast_h (s := s17) (a := 83) (b := 84) (kind := 2) (y := nI r) rfl
      generalize hs23 : mg_ s17 84 4 (pt_ (pt_ (sb_ s17 84) 0 7 2) 0 8 (nI r)) = s23 at m1 m2 m3 m4
      generalize ht3 : pt_ (pt_ t2 1 5 2) 1 6 (nI r) = t3
      have w5 : t3 1 5 = 2 := by rw [← ht3, pt_r (by decide), pt_a]
      have w6 : t3 1 6 = nI r := by rw [← ht3, pt_a]
      have wo : ∀ i, i ≠ 5 → i ≠ 6 → t3 1 i = t2 1 i := fun i a b => by rw [← ht3, pt_r b, pt_r a]
      have to : ∀ o, o ≠ 1 → t3 o = t2 o := fun o a => by rw [← ht3, pt_o a, pt_o a]
      have hD2 : DD (sb_ s23 83) (t3 1) C R n := hD1.mast (fun i a b _ => wo i a b) (fun j a b => m2 j a b) (fun o a b => by rw [sb_ap, sb_ap, m1 _ (by omega)]) ⟨⟨by rw [w5]; exact m3, by rw [w5]; exact rg_n (k := 2) (by omega) (by omega) (by omega)⟩, fun _ => ⟨by rw [w6]; exact m4, by rw [w6]; exact rg_n (Nat.zero_le _) (by omega) (by omega)⟩, fun z => absurd w5 z⟩
      obtain ⟨d', t4, x, e3, e4, e5, b1, b2, b3⟩ := behind_p hD2 (by rw [wo 16 (by decide) (by decide), et2]; exact hT) (k := k) (by omega)
      obtain ⟨hm, h6⟩ := hmi t4 (fun o a => by rw [b1 o (by omega) (by omega), to o (by omega)]) (fun j a => by rw [b2 j a, to 0 (by decide)]) (fun j a => by rw [b3 j a, to 2 (by decide)])
      refine ⟨mg_ s23 83 33 d', .inl x, t4, x, ?_, ?_, ⟨h6, rfl⟩, fun o a _ _ => by rw [mg_o (by omega), m1 o (by omega), ← hs17, mg_o (by omega)], hm⟩
      · have e8 := e4 (sb_ (mg_ s23 83 33 d') 83) (fun o ho => by rw [sb_ap, mg_i (by omega) (by omega), Nat.add_sub_cancel_left])
        have e9 : fX5_takeMaster (sb_ s17 84) (2 : Int32) (nI r) = some (pt_ (pt_ (sb_ s17 84) 0 7 2) 0 8 (nI r)) := by rw [takeMaster_e, if_pos rfl]
        rw [bn_e (within_t hx), tb_l, bn_e e7, bd_e, hs17, bn_e e9, bd_e, hs23, bn_e e3, bd_e, bn_e e8]
      · rw [bn_e (rounds_t pt_a hx), if_pos rfl, bn_e e2, gd_t b5_, bd_e, i5_, gd_t b6_, bd_e, i6_, ht3, bn_e e5]
    · refine ⟨s, .inr 1, _, 0, by rw [bn_e (within_f hx), tb_r], by rw [bn_e (rounds_f pt_a (by decide) hx), if_neg (show ¬ (1 : Int32) = 0 by decide)], ?_, CI.r, MI.t6.tr MI.t6⟩
      exact ⟨pt_a, by decide⟩
  · rw [bn_e (reqRule_f hB.1.2.2.1 hB.1.2.1 hxr), tb_r, bn_e (noRule_f hB.1.2.2.2 hB.1.1 hB.1.2.1 hxr), if_neg (show ¬ (1 : Int32) = 0 by decide)]
    refine ⟨s, .inr 0, _, 0, rfl, rfl, ?_, CI.r, MI.t6⟩
    exact ⟨(pt_a : pt_ t 0 6 1 0 6 = 1), by decide⟩
theorem regretAgainst_p (h : PP s t C R n T) (x i1 : Int32) : QP g1_ s t (fX7_regretAgainst s x i1) (fX8_regretAgainst t x i1) := by
  obtain ⟨hD, hU, hT, hT2, -⟩ := h
  unfold fX7_regretAgainst fX8_regretAgainst
  by_cases hx5 : 0 ≤ x ∧ x ≤ 5
  · rw [bn_e (within_t hx5), tb_l, bn_e (show fX8_in (Int32.toInt64 x) (0 : Int64) (5 : Int64) = some 1 from in_t (lo := 0) (hi := 5) hx5), if_neg (show ¬ (1 : Int32) = 0 by decide)]
    unfold fX8_regretAgainst_j18
    rw [bn_e wrong_0, if_pos rfl]
    by_cases hx : 1 ≤ i1 ∧ i1 ≤ 200
    · obtain ⟨k, k1, k2, rfl⟩ := ((rg_iff (lo := 1) (hi := 200) (by omega) (by omega)).mpr hx).ex
      obtain ⟨r7, e7, hr7⟩ := trial_w hD hU
      obtain ⟨t2, e2, et2, e06, e22, hmi⟩ := ask_w (t := t)
      generalize hs17 : mg_ s 83 33 r7 = s17
      have hD1 : DD (sb_ s17 83) (t2 1) C R n := by rw [et2, ← hs17]; exact hr7 _ (fun o a b => mg_i (by omega) (by omega))
      have hD2 : DD (sb_ (pt_ s17 84 11 x) 83) (pt_ t2 1 9 x 1) C R n := hD1.foe (fun i a _ _ _ => pt_r a) (fun j a _ => by rw [sb_ap, sb_ap, pt_r a]) (fun j a => by rw [sb_ap, sb_ap, pt_oo (by decide)]) (fun o a b c => by rw [sb_ap, sb_ap, pt_o (by omega)]) ⟨by rw [pt_a, sb_ap, pt_a], by rw [pt_a]; exact (rg_iff (lo := 0) (hi := 5) (by omega) (by omega)).mpr hx5⟩ (hD1.gt.to.2.2.2.2.2.of (by rw [sb_ap, sb_ap, pt_r (by decide)]) (by rw [sb_ap, sb_ap, pt_oo (by decide)]) (pt_r (by decide)) (pt_r (by decide)))
      obtain ⟨d', t4, y, e3, e4, e5, b1, b2, b3⟩ := behind_p hD2 (by rw [pt_r (by decide), et2]; exact hT) (k := k) (by omega)
      obtain ⟨hm, h6⟩ := hmi t4 (fun o a => by rw [b1 o (by omega) (by omega), pt_o (by omega)]) (fun j a => by rw [b2 j a, pt_oo (by decide)]) (fun j a => by rw [b3 j a, pt_oo (by decide)])
      refine ⟨mg_ (pt_ s17 84 11 x) 83 33 d', .inl y, t4, y, ?_, ?_, ⟨h6, rfl⟩, fun o a _ _ => by rw [mg_o (by omega), pt_o (by omega), ← hs17, mg_o (by omega)], hm⟩
      · have e8 := e4 (sb_ (mg_ (pt_ s17 84 11 x) 83 33 d') 83) (fun o ho => by rw [sb_ap, mg_i (by omega) (by omega), Nat.add_sub_cancel_left])
        rw [bn_e (within_t hx), tb_l, bn_e e7, bd_e, hs17, bd_e, bn_e e3, bd_e, bn_e e8]
      · rw [bn_e (rounds_t pt_a hx), if_pos rfl, bn_e e2, gd_t b9_, bd_e, i9_, bn_e e5]
    · refine ⟨s, .inr 1, _, 0, by rw [bn_e (within_f hx), tb_r], by rw [bn_e (rounds_f pt_a (by decide) hx), if_neg (show ¬ (1 : Int32) = 0 by decide)], ?_, CI.r, MI.t6.tr MI.t6⟩
      exact ⟨pt_a, by decide⟩
  · rw [bn_e (within_f hx5), tb_r, bn_e (show fX8_in (Int32.toInt64 x) (0 : Int64) (5 : Int64) = some 0 from in_f (lo := 0) (hi := 5) hx5), if_pos rfl]
    unfold fX8_regretAgainst_j18
    rw [bn_e wrong_1, if_neg (show ¬ (1 : Int32) = 0 by decide)]
    refine ⟨s, .inr 1, _, 0, rfl, rfl, ?_, CI.r, MI.t6⟩
    exact ⟨(pt_a : pt_ t 0 6 1 0 6 = 1), by decide⟩
end PREDICT
