/-! what the arms had cost ahead of the first round stays 0 -/
def Z0 (e : st_) : Prop := ∀ m, m < 7 → e (m + 2) 0 = 0
theorem it_inv {α β : Type} {f : α → Option (α ⊕ β)} {I : α → Prop} {P : β → Prop} (hl : ∀ v w, f v = some (.inl w) → I v → I w) (hr : ∀ v x, f v = some (.inr x) → I v → P x) : ∀ n v x, it_ f n v = some x → I v → P x
  | 0, v, x, h, _ => (it_0 h).elim
  | n + 1, v, x, h, hI => by
    obtain ⟨y, hy, hs⟩ := it_s h
    cases y with
    | inl w => exact it_inv hl hr n w x hs (hl v w hy hI)
    | inr z =>
      have hs : z = x := hs
      rw [← hs]
      exact hr v z hy hI
section ZEROS
variable {e e' d a g g' : st_} {T : Nat} {x : Int32}
theorem fr_swaps (h : fX4_noteSwaps e d = some e') : ∀ o, o < 14 → e' o = e o := by
  unfold fX4_noteSwaps at h
  obtain ⟨r1, -, h⟩ := bn_x h
  by_cases h0 : r1 = 0
  · rw [if_pos h0] at h
    intro o _
    rw [Option.some.inj h]
  · rw [if_neg h0] at h
    obtain ⟨z, hz, h⟩ := bn_x h
    unfold fX4_noteSwaps_k17 fX4_noteSwaps_x17_57 at h
    have hz := it_inv (I := fun v => ∀ o, o < 14 → v.2 o = e o) (P := fun z => ∀ o, o < 14 → z o = e o) (fun v w hv hI => ?_) (fun v w hv hI => ?_) _ _ _ hz (fun _ _ => rfl)
    · intro o ho
      rw [← Option.some.inj h]
      exact hz o ho
    · skip
      unfold fX4_noteSwaps_b17 at hv
      by_cases hc : v.2 0 0 ≤ v.1
      · rw [if_pos hc] at hv
        exact absurd (Option.some.inj hv) (fun z => by cases z)
      · rw [if_neg hc] at hv
        obtain ⟨-, hv⟩ := gd_x hv
        obtain ⟨-, hv⟩ := gd_x hv
        obtain ⟨r7, -, hv⟩ := bn_x hv
        obtain ⟨-, hv⟩ := gd_x hv
        rw [bd_e] at hv
        have hv := Sum.inl.inj (Option.some.inj hv)
        subst hv
        intro o ho
        dsimp only
        rw [pt_o (by omega)]
        exact hI o ho
    · skip
      unfold fX4_noteSwaps_b17 at hv
      by_cases hc : v.2 0 0 ≤ v.1
      · rw [if_pos hc] at hv
        have hv := Sum.inr.inj (Option.some.inj hv)
        subst hv
        exact hI
      · rw [if_neg hc] at hv
        obtain ⟨-, hv⟩ := gd_x hv
        obtain ⟨-, hv⟩ := gd_x hv
        obtain ⟨r7, -, hv⟩ := bn_x hv
        obtain ⟨-, hv⟩ := gd_x hv
        rw [bd_e] at hv
        exact absurd (Option.some.inj hv) (fun z => by cases z)
theorem fr_regret (h : fX4_noteRegret e d = some e') : (∀ o, o ≠ 0 → e' o = e o) ∧ e' 0 1 = e 0 1 := by
  have k51 : ∀ (s : st_) (z : Int32), fX4_noteRegret_j51 s z = some e' → (∀ o, o ≠ 0 → e' o = s o) ∧ e' 0 1 = s 0 1 := fun s z hz => by
    unfold fX4_noteRegret_j51 at hz
    rw [bd_e, bd_e] at hz
    rw [← Option.some.inj hz]
    exact ⟨fun o ho => by rw [pt_o ho, pt_o ho], by rw [pt_r (by decide), pt_r (by decide)]⟩
  have k25 : ∀ s : st_, fX4_noteRegret_j25 d s = some e' → (∀ o, o ≠ 0 → e' o = s o) ∧ e' 0 1 = s 0 1 := fun s hz => by
    unfold fX4_noteRegret_j25 at hz
    obtain ⟨r5, -, hz⟩ := bn_x hz
    by_cases h0 : r5 = 0
    · rw [if_pos h0] at hz
      rw [← Option.some.inj hz]
      exact ⟨fun _ _ => rfl, rfl⟩
    · rw [if_neg h0] at hz
      by_cases h1 : s 0 10 = 0
      · rw [if_pos h1] at hz
        exact k51 s _ hz
      · rw [if_neg h1] at hz
        exact k51 s _ hz
  have k20 : ∀ (s : st_) (z : Int32), fX4_noteRegret_j20 s d z = some e' → (∀ o, o ≠ 0 → e' o = s o) ∧ e' 0 1 = s 0 1 := fun s z hz => by
    unfold fX4_noteRegret_j20 at hz
    rw [bd_e] at hz
    obtain ⟨a, b⟩ := k25 _ hz
    exact ⟨fun o ho => by rw [a o ho, pt_o ho], by rw [b, pt_r (by decide)]⟩
  unfold fX4_noteRegret at h
  obtain ⟨r1, -, h⟩ := bn_x h
  by_cases h0 : e 0 1 = 0
  · rw [if_pos h0] at h
    exact k20 e _ h
  · rw [if_neg h0] at h
    by_cases h1 : r1 ≤ e 0 11
    · rw [if_pos h1] at h
      exact k25 e h
    · rw [if_neg h1] at h
      exact k20 e _ h
theorem fr_served (h : fX4_noteServed e a x = some e') : (∀ o, o ≠ 0 → o < 21 → e' o = e o) ∧ e' 0 1 = e 0 1 := by
  unfold fX4_noteServed at h
  by_cases h0 : a 0 10 = -1
  · rw [if_pos h0] at h
    rw [← Option.some.inj h]
    exact ⟨fun _ _ _ => rfl, rfl⟩
  · rw [if_neg h0] at h
    generalize ix_ (e 0 9 - e 0 9 / (20 : Int32) * (20 : Int32)) = q at h
    obtain ⟨-, h⟩ := gd_x h
    obtain ⟨-, h⟩ := gd_x h
    rw [bd_e] at h
    obtain ⟨-, h⟩ := gd_x h
    rw [bd_e] at h
    obtain ⟨-, h⟩ := gd_x h
    rw [bd_e] at h
    obtain ⟨-, h⟩ := gd_x h
    rw [bd_e] at h
    obtain ⟨-, h⟩ := gd_x h
    rw [bd_e, bd_e] at h
    rw [← Option.some.inj h]
    refine ⟨fun o ho h2 => ?_, ?_⟩
    · rw [pt_o ho, pt_o (by omega), pt_o (by omega), pt_o (by omega), pt_o (by omega), pt_o (by omega)]
    · rw [pt_r (by decide), pt_oo (by omega), pt_oo (by omega), pt_oo (by omega), pt_oo (by omega), pt_oo (by omega)]
theorem fr_paid (h : fX4_noteRound_l139 d FU_ (x, e) = some e') (h1 : e 0 1 = nI (T + 1)) (hT : T < 1000) (hz : Z0 e) : Z0 e' := by
  unfold fX4_noteRound_l139 at h
  have h2 := it_inv (I := fun v => v.2 0 1 = nI (T + 1) ∧ Z0 v.2) (P := fun z => Z0 z) (fun v w hv hI => ?_) (fun v w hv hI => ?_) _ _ _ h ⟨h1, hz⟩
  · exact h2
  · skip
    unfold fX4_noteRound_b139 at hv
    by_cases hc : v.2 0 0 < v.1
    · rw [if_pos hc] at hv
      exact absurd (Option.some.inj hv) (fun z => by cases z)
    · rw [if_neg hc] at hv
      obtain ⟨-, hv⟩ := gd_x hv
      obtain ⟨r, -, hv⟩ := bn_x hv
      obtain ⟨-, hv⟩ := gd_x hv
      rw [bd_e] at hv
      have hv := Sum.inl.inj (Option.some.inj hv)
      subst hv
      have ei : ix_ (v.2 0 1) = T + 1 := by rw [hI.1]; exact ix_n (by omega)
      refine ⟨?_, fun m hm => ?_⟩
      · dsimp only
        rw [pt_oo (by omega)]
        exact hI.1
      · dsimp only
        rw [ei, pt_ap]
        by_cases hm2 : m + 2 = 1 * ix_ v.1 + 2
        · rw [if_pos hm2, if_neg (by omega)]
          exact hI.2 m hm
        · rw [if_neg hm2]
          exact hI.2 m hm
  · skip
    unfold fX4_noteRound_b139 at hv
    by_cases hc : v.2 0 0 < v.1
    · rw [if_pos hc] at hv
      have hv := Sum.inr.inj (Option.some.inj hv)
      subst hv
      exact hI.2
    · rw [if_neg hc] at hv
      obtain ⟨-, hv⟩ := gd_x hv
      obtain ⟨r, -, hv⟩ := bn_x hv
      obtain ⟨-, hv⟩ := gd_x hv
      rw [bd_e] at hv
      exact absurd (Option.some.inj hv) (fun z => by cases z)
theorem fr_round (h : fX4_noteRound e d = some e') (h1 : e 0 1 = nI T) (hT : T < 1000) (hz : Z0 e) : Z0 e' := by
  have k113 : ∀ s : st_, s 0 1 = nI T → Z0 s → fX4_noteRound_j113 d s = some e' → Z0 e' := fun s hs hzs hh => by
    unfold fX4_noteRound_j113 at hh
    obtain ⟨r36, e36, hh⟩ := bn_x hh
    obtain ⟨r40, e40, hh⟩ := bn_x hh
    rw [bd_e] at hh
    obtain ⟨z, ez, hh⟩ := bn_x hh
    unfold fX4_noteRound_k139 fX4_noteRound_x139_174 at hh
    rw [← Option.some.inj hh]
    obtain ⟨a1, a2⟩ := fr_regret e36
    obtain ⟨b1, b2⟩ := fr_served e40
    have e1 : r40 0 1 = nI T := by rw [b2, a2, hs]
    refine fr_paid ez (T := T) (by rw [pt_a, e1, nI_1]) hT (fun m hm => ?_)
    rw [pt_oo (by omega), b1 _ (by omega) (by omega), a1 _ (by omega)]
    exact hzs m hm
  unfold fX4_noteRound at h
  by_cases hc : (1000 : Int32) ≤ e 0 1
  · rw [if_pos hc] at h
    rw [← Option.some.inj h]
    exact hz
  · rw [if_neg hc] at h
    obtain ⟨r1, -, h⟩ := bn_x h
    by_cases h0 : r1 = 0
    · rw [if_pos h0] at h
      rw [← Option.some.inj h]
      exact hz
    · rw [if_neg h0] at h
      obtain ⟨-, h⟩ := gd_x h
      rw [bd_e] at h
      obtain ⟨-, h⟩ := gd_x h
      obtain ⟨-, h⟩ := gd_x h
      rw [bd_e] at h
      obtain ⟨-, h⟩ := gd_x h
      obtain ⟨-, h⟩ := gd_x h
      rw [bd_e] at h
      obtain ⟨r22, -, h⟩ := bn_x h
      obtain ⟨-, h⟩ := gd_x h
      obtain ⟨-, h⟩ := gd_x h
      rw [bd_e] at h
      obtain ⟨r32, -, h⟩ := bn_x h
      generalize hs28 : pt_ (pt_ (pt_ (pt_ e 9 (ix_ (e 0 1)) (d 0 12)) 10 (ix_ (d 0 12)) ((pt_ e 9 (ix_ (e 0 1)) (d 0 12)) 10 (ix_ (d 0 12)) + (1 : Int32))) 11 (ix_ (d 0 12)) ((pt_ (pt_ e 9 (ix_ (e 0 1)) (d 0 12)) 10 (ix_ (d 0 12)) ((pt_ e 9 (ix_ (e 0 1)) (d 0 12)) 10 (ix_ (d 0 12)) + (1 : Int32))) 11 (ix_ (d 0 12)) + d 5 9)) 12 (ix_ r22) ((pt_ (pt_ (pt_ e 9 (ix_ (e 0 1)) (d 0 12)) 10 (ix_ (d 0 12)) ((pt_ e 9 (ix_ (e 0 1)) (d 0 12)) 10 (ix_ (d 0 12)) + (1 : Int32))) 11 (ix_ (d 0 12)) ((pt_ (pt_ e 9 (ix_ (e 0 1)) (d 0 12)) 10 (ix_ (d 0 12)) ((pt_ e 9 (ix_ (e 0 1)) (d 0 12)) 10 (ix_ (d 0 12)) + (1 : Int32))) 11 (ix_ (d 0 12)) + d 5 9)) 12 (ix_ r22) + (1 : Int32)) = s28 at h
      have q : ∀ o, (o < 9 ∨ 13 ≤ o) → s28 o = e o := fun o ho => by rw [← hs28, pt_o (by omega), pt_o (by omega), pt_o (by omega), pt_o (by omega)]
      have z28 : Z0 s28 := fun m hm => by rw [q _ (by omega)]; exact hz m hm
      have t28 : s28 0 1 = nI T := by rw [q 0 (by omega)]; exact h1
      by_cases h2 : r32 = 0
      · rw [if_pos h2] at h
        exact k113 s28 t28 z28 h
      · rw [if_neg h2] at h
        by_cases h3 : d 5 9 ≤ d 8 9
        · rw [if_pos h3] at h
          exact k113 s28 t28 z28 h
        · rw [if_neg h3, bd_e] at h
          exact k113 _ (by rw [pt_r (by decide)]; exact t28) (fun m hm => by rw [pt_oo (by omega)]; exact z28 m hm) h
theorem makeRound_z (h : fX2_makeRound g = some g') (h1 : g 34 1 = nI T) (hT : T < 1000) (hz : Z0 (sb_ g 34)) : Z0 (sb_ g' 34) := by
  unfold fX2_makeRound at h
  obtain ⟨r1, -, h⟩ := bn_x h
  rw [bd_e] at h
  obtain ⟨r7, -, h⟩ := bn_x h
  rw [bd_e] at h
  obtain ⟨r13, e13, h⟩ := bn_x h
  rw [bd_e] at h
  obtain ⟨r19, -, h⟩ := bn_x h
  rw [bd_e] at h
  obtain ⟨r25, e25, h⟩ := bn_x h
  rw [bd_e] at h
  rw [← Option.some.inj h]
  have f13 := fr_swaps e13
  have c13 : ∀ o, o < 14 → r13 o = g (34 + o) := fun o ho => by
    rw [f13 o ho, sb_ap, mg_o (by omega), mg_o (by omega)]
  have hr := fr_round e25 (T := T) (by
    rw [sb_ap, mg_o (by omega), mg_i (by omega) (by omega)]
    show r13 0 1 = _
    rw [c13 0 (by omega)]
    exact h1) hT (fun m hm => by
    rw [sb_ap, mg_o (by omega), mg_i (by omega) (by omega), Nat.add_sub_cancel_left, c13 _ (by omega)]
    exact hz m hm)
  intro m hm
  rw [sb_ap, mg_i (by omega) (by omega), Nat.add_sub_cancel_left]
  exact hr m hm
end ZEROS
