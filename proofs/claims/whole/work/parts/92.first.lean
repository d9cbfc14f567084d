/-! the two new objects are alike -/
section FIRST
theorem mgp {s t : st_} {o n : Nat} (q : Nat) (h : q < n) : sb_ (mg_ s o n t) o q = t q := by
  rw [sb_ap, mg_i (by omega) (by omega), Nat.add_sub_cancel_left]
theorem init_ff : ∃ r ro, fM_init = some r ∧ fO_init = some ro ∧ FF r ro ∧ ∀ k, ro 6 k = 0 := by
  unfold fM_init fO_init
  obtain ⟨r1, er1, hr1⟩ := begins_w (u := sb_ zs_ 1)
  obtain ⟨d1, e1, hS, h10, h01⟩ := default_p (S := sb_ zs_ 3) hr1
  rw [bn_e e1, bd_e, bn_e er1, bd_e, bd_e]
  have hd1 : ∀ o, o < 4 → sb_ (mg_ zs_ 3 4 d1) 3 o = d1 o := fun o ho => mgp o ho
  have hw1 : ∀ i, mg_ zs_ 1 1 r1 1 i = r1 0 i := fun i => by rw [mg_i (by omega) (by omega)]
  generalize hw : (pt_ (mg_ zs_ 1 1 r1) 1 0 10) 1 = w
  have w0 : w 0 = nI 10 := by rw [← hw, pt_a]; rfl
  have wr : ∀ i, i ≠ 0 → w i = r1 0 i := fun i hi => by rw [← hw, pt_r hi, hw1]
  have hF2 : ∀ C, FD 2 (sb_ (mg_ zs_ 3 4 d1) 3) (r1 0) C 0 0 := fun C => by
    obtain ⟨f1, f2, f3, f4, f5, f6⟩ := hS C
    unfold FD
    rw [hd1 0 (by omega), hd1 1 (by omega), hd1 2 (by omega), hd1 3 (by omega)]
    exact ⟨f1, f2, f3, f4, f5, f6⟩
  have w1 : w 1 = 0 := by rw [wr 1 (by decide), hr1 1 (by omega)]; rfl
  have hF0 : FD 0 (sb_ (mg_ zs_ 3 4 d1) 3) w 10 0 0 := FD.drive (C := 10) hF2 (fun _ _ => rfl) (fun _ _ _ => rfl) (by rw [hd1 0 (by omega), h10]; rfl) w0 (by rw [hd1 0 (by omega), h01, w1]) ⟨by omega, by omega⟩ (by rw [w1]; exact ⟨by decide, by decide⟩) (fun i h1 _ => wr i h1)
  obtain ⟨d2, r2, R, c1, c2, c3, c4⟩ := complete_p (u := sb_ (pt_ (mg_ zs_ 1 1 r1) 1 0 10) 1) hF0 hw
  rw [bn_e c1, bd_e, bn_e c2, bd_e]
  have hd2 : ∀ o, o < 4 → sb_ (mg_ (mg_ zs_ 3 4 d1) 3 4 d2) 3 o = d2 o := fun o ho => mgp o ho
  have hz : Z0 (sb_ (sb_ (mg_ (mg_ zs_ 3 4 d1) 3 4 d2) 8) 34) := fun m hm => by
    rw [sb_ap, sb_ap, mg_o (by omega), mg_o (by omega)]
    rfl
  obtain ⟨g, eg, hg⟩ := gameBegin_w (c3.ext hd2) hz
  rw [bn_e eg, bd_e]
  have hro1 : (mg_ (pt_ (mg_ zs_ 1 1 r1) 1 0 10) 1 1 r2) 1 = r2 0 := by
    funext i
    rw [mg_i (by omega) (by omega)]
  have hro : ∀ o, o ≠ 1 → (mg_ (pt_ (mg_ zs_ 1 1 r1) 1 0 10) 1 1 r2) o = zs_ o := fun o ho => by rw [mg_o (by omega), pt_o ho, mg_o (by omega)]
  rw [← hro1] at hg
  obtain ⟨q1, q2⟩ := hg.gh (s := mg_ (mg_ zs_ 3 4 d1) 3 4 d2)
  have hs0 : (mg_ (mg_ (mg_ zs_ 3 4 d1) 3 4 d2) 8 75 g) 0 = zs_ 0 := by rw [mg_o (by omega), mg_o (by omega), mg_o (by omega)]
  refine ⟨_, _, rfl, rfl, ⟨q1, q2, ⟨fun _ => 0, 0, by rw [hs0]; rfl, ⟨by omega, by rw [hro 0 (by decide)]; rfl, fun j hj => absurd hj (by omega)⟩, fun j hj => absurd hj (by omega)⟩, by rw [hs0, hro 0 (by decide)]; rfl⟩, fun k => by rw [hro 6 (by decide)]; rfl⟩
end FIRST
