/-! the tests ahead of what a call does, of both -/
theorem lgc_lt {x y : Int64} : lg_cmp x y < (0 : Int32) ↔ x < y := by
  unfold lg_cmp
  by_cases h1 : x > y
  · rw [if_pos h1]
    exact ⟨fun z => absurd z (by decide), fun z => (Int64.lt_irrefl (Int64.lt_trans z h1)).elim⟩
  · rw [if_neg h1]
    by_cases h2 : x = y
    · rw [if_pos h2]
      exact ⟨fun z => absurd z (by decide), fun z => (Int64.lt_irrefl (h2 ▸ z)).elim⟩
    · rw [if_neg h2]
      refine ⟨fun _ => ?_, fun _ => by decide⟩
      exact Int64.lt_of_le_of_ne (Int64.not_lt.mp h1) h2
theorem lgc_gt {x y : Int64} : (0 : Int32) < lg_cmp x y ↔ y < x := by
  unfold lg_cmp
  by_cases h1 : x > y
  · rw [if_pos h1]
    exact ⟨fun _ => h1, fun _ => by decide⟩
  · rw [if_neg h1]
    by_cases h2 : x = y
    · rw [if_pos h2]
      exact ⟨fun z => absurd z (by decide), fun z => absurd z h1⟩
    · rw [if_neg h2]
      exact ⟨fun z => absurd z (by decide), fun z => absurd z h1⟩
theorem in_t {x lo hi : Int32} (h : lo ≤ x ∧ x ≤ hi) : fX8_in (Int32.toInt64 x) (Int32.toInt64 lo) (Int32.toInt64 hi) = some 1 := by
  unfold fX8_in
  rw [if_neg (fun z => absurd (Int32.toInt64_lt.mp (lgc_lt.mp z)) (Int32.not_lt.mpr h.1)), if_neg (fun z => absurd (Int32.toInt64_lt.mp (lgc_gt.mp z)) (Int32.not_lt.mpr h.2))]
theorem in_f {x lo hi : Int32} (h : ¬ (lo ≤ x ∧ x ≤ hi)) : fX8_in (Int32.toInt64 x) (Int32.toInt64 lo) (Int32.toInt64 hi) = some 0 := by
  unfold fX8_in fX8_in_j17
  by_cases h1 : lo ≤ x
  · rw [if_neg (fun z => absurd (Int32.toInt64_lt.mp (lgc_lt.mp z)) (Int32.not_lt.mpr h1)), if_pos (lgc_gt.mpr (Int32.toInt64_lt.mpr (Int32.not_le.mp (fun z => h ⟨h1, z⟩))))]
  · rw [if_pos (lgc_lt.mpr (Int32.toInt64_lt.mpr (Int32.not_le.mp h1)))]
theorem within_t {x lo hi : Int32} (h : lo ≤ x ∧ x ≤ hi) : fX7_requireWithin x lo hi = some (.inl ()) := by
  unfold fX7_requireWithin
  rw [if_neg (Int32.not_lt.mpr h.1), if_pos h.2]
theorem within_f {x lo hi : Int32} (h : ¬ (lo ≤ x ∧ x ≤ hi)) : fX7_requireWithin x lo hi = some (.inr 1) := by
  unfold fX7_requireWithin fX7_requireWithin_j10
  by_cases h1 : lo ≤ x
  · rw [if_neg (Int32.not_lt.mpr h1), if_neg (fun z => h ⟨h1, z⟩)]
  · rw [if_pos (Int32.not_le.mp h1)]
section GUARD
variable {s t : st_} {C R n r T : Nat} {c x : Int32}
theorem wrong_0 : fX8_wrong t 0 = some (pt_ t 0 6 0, 0) := by
  unfold fX8_wrong fX8_throwsIf fX8_throwsIf_j16
  rw [bd_e, pt_a, if_pos rfl, if_pos rfl, if_pos rfl, bn_s]
  rfl
theorem wrong_1 : fX8_wrong t 1 = some (pt_ t 0 6 1, 1) := by
  unfold fX8_wrong fX8_throwsIf fX8_throwsIf_j16
  rw [bd_e, pt_a, if_pos rfl, if_neg (show ¬ (1 : Int32) = 0 by decide), bd_e, pt_pt, pt_a, if_neg (show ¬ (1 : Int32) = 0 by decide), bn_s]
  rfl
theorem thr_0 (h : t 0 6 = 0) : fX8_throwsIf t 0 c = some (t, 0) := by
  unfold fX8_throwsIf fX8_throwsIf_j16
  rw [if_pos h, if_pos rfl, if_pos h]
theorem thr_1 (h : t 0 6 = 0) (hc : c ≠ 0) : fX8_throwsIf t 1 c = some (pt_ t 0 6 c, 1) := by
  unfold fX8_throwsIf fX8_throwsIf_j16
  rw [if_pos h, if_neg (show ¬ (1 : Int32) = 0 by decide), bd_e, pt_a, if_neg hc]
/-- a number is that of a rule, or isn't -/
theorem ruleC (x : Int32) (h6 : R ≤ 6) : (∃ r, r < R ∧ x = nI r) ∨ ¬ (0 ≤ x ∧ x < nI R) := by
  by_cases h : 0 ≤ x ∧ x < nI R
  · obtain ⟨j, hj, rfl⟩ := nI_of (Int32.not_lt.mpr h.1)
    exact Or.inl ⟨j, (nI_ltI (by omega) (by omega)).mp h.2, rfl⟩
  · exact Or.inr h
theorem isRule_t (hR : t 1 4 = nI R) (hr : r < R) (h6 : R ≤ 6) : fX8_isRule t (nI r) = some 1 := by
  unfold fX8_isRule
  rw [gd_t b4_, i4_, hR, show nI R - (1 : Int32) = nI (R - 1) from pk_sub (b := 1) (by omega)]
  rw [bn_e (show fX8_in (Int32.toInt64 (nI r)) (0 : Int64) (Int32.toInt64 (nI (R - 1))) = some 1 from in_t (lo := 0) ⟨nI_le (a := 0) (Nat.zero_le _) (by omega), nI_le (by omega) (by omega)⟩)]
  rfl
theorem isRule_f (hR : t 1 4 = nI R) (h1 : 1 ≤ R) (h6 : R ≤ 6) (hx : ¬ (0 ≤ x ∧ x < nI R)) : fX8_isRule t x = some 0 := by
  unfold fX8_isRule
  rw [gd_t b4_, i4_, hR, show nI R - (1 : Int32) = nI (R - 1) from pk_sub (b := 1) (by omega)]
  rw [bn_e (show fX8_in (Int32.toInt64 x) (0 : Int64) (Int32.toInt64 (nI (R - 1))) = some 0 from in_f (lo := 0) (fun z => hx ⟨z.1, Int32.lt_of_le_of_lt z.2 (nI_lt (by omega) (by omega))⟩))]
  rfl
theorem noRule_t (hR : t 1 4 = nI R) (hr : r < R) (h6 : R ≤ 6) : fX8_noRule t (nI r) = some (pt_ t 0 6 0, 0) := by
  unfold fX8_noRule fX8_noRule_j14
  rw [bn_e (isRule_t hR hr h6), if_neg (by decide), bn_e wrong_0]
  rfl
theorem noRule_f (hR : t 1 4 = nI R) (h1 : 1 ≤ R) (h6 : R ≤ 6) (hx : ¬ (0 ≤ x ∧ x < nI R)) : fX8_noRule t x = some (pt_ t 0 6 1, 1) := by
  unfold fX8_noRule fX8_noRule_j14
  rw [bn_e (isRule_f hR h1 h6 hx), if_pos rfl, bn_e wrong_1]
  rfl
theorem noArm_i : fX8_noArm t (-1) = some (pt_ t 0 6 0, 0) := by
  unfold fX8_noArm fX8_noArm_j18 fX8_noArm_j19
  rw [if_pos rfl, bn_e wrong_0]
  rfl
theorem noArm_t (hR : t 1 4 = nI R) (hr : r < R) (h6 : R ≤ 6) : fX8_noArm t (nI r) = some (pt_ t 0 6 0, 0) := by
  unfold fX8_noArm fX8_noArm_j18 fX8_noArm_j19
  rw [if_neg (nI_ne1 (by omega)), bn_e (isRule_t hR hr h6), if_neg (by decide), bn_e wrong_0]
  rfl
theorem noArm_f (hR : t 1 4 = nI R) (h1 : 1 ≤ R) (h6 : R ≤ 6) (hi : ¬ x = -1) (hx : ¬ (0 ≤ x ∧ x < nI R)) : fX8_noArm t x = some (pt_ t 0 6 1, 1) := by
  unfold fX8_noArm fX8_noArm_j19
  rw [if_neg hi, bn_e (isRule_f hR h1 h6 hx), if_pos rfl, bn_e wrong_1]
  rfl
theorem rounds_t (h : t 0 6 = 0) (hx : 1 ≤ x ∧ x ≤ 200) : fX8_noRounds t x c = some (t, 0) := by
  unfold fX8_noRounds fX8_noRounds_j18
  rw [bn_e (show fX8_in (Int32.toInt64 x) (1 : Int64) (200 : Int64) = some 1 from in_t (lo := 1) (hi := 200) hx), if_neg (by decide), bn_e (thr_0 h)]
  rfl
theorem rounds_f (h : t 0 6 = 0) (hc : c ≠ 0) (hx : ¬ (1 ≤ x ∧ x ≤ 200)) : fX8_noRounds t x c = some (pt_ t 0 6 c, 1) := by
  unfold fX8_noRounds fX8_noRounds_j18
  rw [bn_e (show fX8_in (Int32.toInt64 x) (1 : Int64) (200 : Int64) = some 0 from in_f (lo := 1) (hi := 200) hx), if_pos rfl, bn_e (thr_1 h hc)]
  rfl
theorem noCyl_t (hC : t 1 0 = nI C) (h2 : 2 ≤ C) (h100 : C ≤ 100) (hx : 0 ≤ x ∧ x ≤ nI (C - 1)) : fX8_noCylinder t x = some (pt_ t 0 6 0, 0) := by
  unfold fX8_noCylinder fX8_noCylinder_j24
  rw [gd_t b0_, i0_, hC, show nI C - (1 : Int32) = nI (C - 1) from pk_sub (b := 1) (by omega), bn_e (show fX8_in (Int32.toInt64 x) (0 : Int64) (Int32.toInt64 (nI (C - 1))) = some 1 from in_t (lo := 0) hx), if_neg (by decide), bn_e wrong_0]
  rfl
theorem noCyl_f (hC : t 1 0 = nI C) (h2 : 2 ≤ C) (h100 : C ≤ 100) (hx : ¬ (0 ≤ x ∧ x ≤ nI (C - 1))) : fX8_noCylinder t x = some (pt_ t 0 6 1, 1) := by
  unfold fX8_noCylinder fX8_noCylinder_j24
  rw [gd_t b0_, i0_, hC, show nI C - (1 : Int32) = nI (C - 1) from pk_sub (b := 1) (by omega), bn_e (show fX8_in (Int32.toInt64 x) (0 : Int64) (Int32.toInt64 (nI (C - 1))) = some 0 from in_f (lo := 0) hx), if_pos rfl, bn_e wrong_1]
  rfl
theorem noWin_t {y : Int32} (hx : 0 ≤ x) (hy : 1 ≤ y ∧ y ≤ 1000) : fX8_noWindow t x y = some (pt_ t 0 6 0, 0) := by
  unfold fX8_noWindow fX8_noWindow_j22
  rw [if_neg (Int32.not_lt.mpr hx), bn_e (show fX8_in (Int32.toInt64 y) (1 : Int64) (1000 : Int64) = some 1 from in_t (lo := 1) (hi := 1000) hy), if_neg (by decide), bn_e wrong_0]
  rfl
theorem noWin_f {y : Int32} (h : ¬ (0 ≤ x ∧ 1 ≤ y ∧ y ≤ 1000)) : fX8_noWindow t x y = some (pt_ t 0 6 1, 1) := by
  unfold fX8_noWindow fX8_noWindow_j17 fX8_noWindow_j22
  by_cases hx : x < 0
  · rw [if_pos hx, bn_e wrong_1]
    rfl
  · rw [if_neg hx, bn_e (show fX8_in (Int32.toInt64 y) (1 : Int64) (1000 : Int64) = some 0 from in_f (lo := 1) (hi := 1000) (fun z => h ⟨Int32.not_lt.mp hx, z⟩)), if_pos rfl, bn_e wrong_1]
    rfl
/-- of the class -/
theorem reqRule_t (hR : s 10 4 = nI R) (hr : r < R) (h6 : R ≤ 6) : fX7_requireRule s (nI r) = some (.inl ()) := by
  unfold fX7_requireRule
  rw [bn_e (hasRule_t (S := sb_ s 10) hR hr h6), if_neg (by decide)]
theorem reqRule_f (hR : s 10 4 = nI R) (h6 : R ≤ 6) (hx : ¬ (0 ≤ x ∧ x < nI R)) : fX7_requireRule s x = some (.inr 0) := by
  unfold fX7_requireRule
  rw [bn_e (hasRule_f (S := sb_ s 10) hR h6 hx), if_pos rfl]
theorem reqArm_i : fX7_requireArm s (-1) = some (.inl ()) := by
  unfold fX7_requireArm
  rw [if_pos rfl]
theorem reqArm_t (hR : s 10 4 = nI R) (hr : r < R) (h6 : R ≤ 6) : fX7_requireArm s (nI r) = some (.inl ()) := by
  unfold fX7_requireArm
  rw [if_neg (nI_ne1 (by omega)), bn_e (hasRule_t (S := sb_ s 10) hR hr h6), if_neg (by decide)]
theorem reqArm_f (hR : s 10 4 = nI R) (h6 : R ≤ 6) (hi : ¬ x = -1) (hx : ¬ (0 ≤ x ∧ x < nI R)) : fX7_requireArm s x = some (.inr 0) := by
  unfold fX7_requireArm
  rw [if_neg hi, bn_e (hasRule_f (S := sb_ s 10) hR h6 hx), if_pos rfl]
theorem reqCyl_t (hC : s 10 0 = nI C) (h2 : 2 ≤ C) (hx : 0 ≤ x ∧ x ≤ nI (C - 1)) : fX7_requireCylinder s x = some (.inl ()) := by
  unfold fX7_requireCylinder
  rw [hC, show nI C - (1 : Int32) = nI (C - 1) from pk_sub (b := 1) (by omega), bn_e (within_t hx)]
  rfl
theorem reqCyl_f (hC : s 10 0 = nI C) (h2 : 2 ≤ C) (hx : ¬ (0 ≤ x ∧ x ≤ nI (C - 1))) : fX7_requireCylinder s x = some (.inr 1) := by
  unfold fX7_requireCylinder
  rw [hC, show nI C - (1 : Int32) = nI (C - 1) from pk_sub (b := 1) (by omega), bn_e (within_f hx)]
  rfl
theorem reqWin_t {y : Int32} (hx : 0 ≤ x) (hy : 1 ≤ y ∧ y ≤ 1000) : fX7_requireWindow s x y = some (.inl ()) := by
  unfold fX7_requireWindow
  rw [if_pos hx, bn_e (within_t hy)]
  rfl
theorem reqWin_f {y : Int32} (h : ¬ (0 ≤ x ∧ 1 ≤ y ∧ y ≤ 1000)) : fX7_requireWindow s x y = some (.inr 1) := by
  unfold fX7_requireWindow
  by_cases hx : 0 ≤ x
  · rw [if_pos hx, bn_e (within_f (fun z => h ⟨hx, z⟩))]
    rfl
  · rw [if_neg hx]
end GUARD
