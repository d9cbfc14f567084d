/-! the law's whole: a number of the row alone -/
section WHOLE
variable {s t : st_} {C R n T K : Nat}
def fo_ (f : Nat → Int32) (x : Int64) : Nat → Int64
  | 0 => x
  | k + 1 => (31 : Int64) * fo_ f x k + Int32.toInt64 (f k)
def wam_ (w : Nat → Int32) (x : Int64) : Nat → Int64
  | 0 => x
  | j + 1 => fo_ (fun k => w (ab_ (mj_ j) + k)) (wam_ w x j) 7
def rlv_ (w : Nat → Int32) (r k : Nat) : Int32 := if k = 0 then w (26 + 5 * r + 2) else if k = 1 then w (26 + 5 * r + 3) else if k = 2 then w (ab_ r + 3) else w (26 + 5 * r + 4)
def wru_ (w : Nat → Int32) (x : Int64) : Nat → Int64
  | 0 => x
  | r + 1 => fo_ (rlv_ w r) (wru_ w x r) 4
noncomputable def whl_ (w : Nat → Int32) (R T : Nat) : Int64 := (31 : Int64) * fo_ (rgv_ w R T) (wru_ w (wam_ w (fo_ (stv_ w) (Int32.toInt64 (nI T)) 15) (R + 1)) R) 5 + Int32.toInt64 (rv2_ w) + (7 : Int64) * Int32.toInt64 (srv_ w) + Int32.toInt64 (sw_s w R R)
theorem HH.whole (h : HH s t C R n T) (hn : ¬ t 1 11 = -1) : fL_whole s (nI R) = some (whl_ (t 1) R T) := by
  have hB := h.1.rb
  have h1 := hB.1.1
  have h6 := hB.1.2.1
  suffices hw : wp_ (fL_whole s (nI R)) (fun x => x = whl_ (t 1) R T) by
    obtain ⟨x, e1, rfl⟩ := hw
    exact e1
  unfold fL_whole fL_whole_l9 whl_
  refine wp_bne (v_rounds h) (wp_bn (Q := fun x => x = fo_ (stv_ (t 1)) (Int32.toInt64 (nI T)) 15) ?_ (fun x hx => ?_))
  · refine wp_up (fun k v => v = (fo_ (stv_ (t 1)) (Int32.toInt64 (nI T)) k, nI k)) 0 15 (Nat.zero_le _) (by omega) rfl (fun k v hk _ hv => ?_) (fun v hv => ?_)
    · subst hv
      unfold fL_whole_b9
      dsimp only
      refine wp_if' (show ¬ (14 : Int32) < nI k from nI_nlt (a := 14) (by omega) (by omega)) (wp_bne (v_setting h (by omega)) (wp_l ?_))
      rw [nI_1]
      rfl
    · subst hv
      unfold fL_whole_b9
      exact wp_it (show (14 : Int32) < nI 15 by decide) (wp_r rfl)
  subst hx
  unfold fL_whole_k9 fL_whole_x9_36 fL_whole_l39
  generalize fo_ (stv_ (t 1)) (Int32.toInt64 (nI T)) 15 = y1
  refine wp_bn (Q := fun x => x = wam_ (t 1) y1 (R + 1)) ?_ (fun x hx => ?_)
  · refine wp_up (fun j v => v = (wam_ (t 1) y1 j, xj_ R j)) 0 (R + 1) (Nat.zero_le _) (by omega) rfl (fun j v hj _ hv => ?_) (fun v hv => ?_)
    · subst hv
      unfold fL_whole_b39 fL_whole_l48
      dsimp only
      rw [if_neg (xj_n h6 hj), xj_m h6 hj]
      refine wp_bn (Q := fun x => x = wam_ (t 1) y1 (j + 1)) ?_ (fun x hx => ?_)
      · refine wp_up (fun k v => v = (fo_ (fun k => t 1 (ab_ (mj_ j) + k)) (wam_ (t 1) y1 j) k, nI k)) 0 7 (Nat.zero_le _) (by omega) rfl (fun k v hk _ hv => ?_) (fun v hv => ?_)
        · subst hv
          unfold fL_whole_b48
          dsimp only
          refine wp_if' (show ¬ (6 : Int32) < nI k from nI_nlt (a := 6) (by omega) (by omega)) (wp_bne (v_arm h (mj_am hj) (by omega)) (wp_l ?_))
          rw [nI_1]
          rfl
        · subst hv
          unfold fL_whole_b48
          exact wp_it (show (6 : Int32) < nI 7 by decide) (wp_r rfl)
      · subst hx
        unfold fL_whole_k48 fL_whole_x48_77
        rw [← xj_m h6 hj, xj_1]
        exact wp_l rfl
    · subst hv
      unfold fL_whole_b39
      refine wp_it ?_ (wp_r rfl)
      dsimp only
      unfold xj_
      rw [if_neg (by omega), Nat.add_sub_cancel]
      exact Int32.le_refl _
  subst hx
  unfold fL_whole_k39 fL_whole_x39_83 fL_whole_l86
  generalize wam_ (t 1) y1 (R + 1) = y2
  refine wp_bn (Q := fun x => x = wru_ (t 1) y2 R) ?_ (fun x hx => ?_)
  · refine wp_up (fun r v => v = (wru_ (t 1) y2 r, nI r)) 0 R (Nat.zero_le _) (by omega) rfl (fun r v hr _ hv => ?_) (fun v hv => ?_)
    · subst hv
      obtain ⟨r2, r3, r4, r5⟩ := v_rule h hr
      unfold fL_whole_b86 fL_whole_l95
      dsimp only
      rw [if_neg (nI_ge hr (by omega))]
      refine wp_bn (Q := fun x => x = wru_ (t 1) y2 (r + 1)) ?_ (fun x hx => ?_)
      · refine wp_up (fun k v => v = (fo_ (rlv_ (t 1) r) (wru_ (t 1) y2 r) k, nI (2 + k))) 0 4 (Nat.zero_le _) (by omega) rfl (fun k v hk _ hv => ?_) (fun v hv => ?_)
        · subst hv
          unfold fL_whole_b95
          dsimp only
          have er : gX7_rule s (nI r) (nI (2 + k)) = some (rlv_ (t 1) r k) := by
            unfold rlv_
            rcases (show k = 0 ∨ k = 1 ∨ k = 2 ∨ k = 3 by omega) with rfl | rfl | rfl | rfl
            · exact r2
            · exact r3
            · exact r4
            · exact r5
          refine wp_if' (show ¬ (5 : Int32) < nI (2 + k) from nI_nlt (a := 5) (by omega) (by omega)) (wp_bne er (wp_l ?_))
          rw [nI_1]
          rfl
        · subst hv
          unfold fL_whole_b95
          exact wp_it (show (5 : Int32) < nI (2 + 4) by decide) (wp_r rfl)
      · subst hx
        unfold fL_whole_k95 fL_whole_x95_123
        rw [nI_1]
        exact wp_l rfl
    · subst hv
      unfold fL_whole_b86
      exact wp_it (Int32.le_refl _) (wp_r rfl)
  subst hx
  unfold fL_whole_k86 fL_whole_x86_129 fL_whole_l132
  generalize wru_ (t 1) y2 R = y3
  refine wp_bn (Q := fun x => x = fo_ (rgv_ (t 1) R T) y3 5) ?_ (fun x hx => ?_)
  · refine wp_up (fun k v => v = (fo_ (rgv_ (t 1) R T) y3 k, nI k)) 0 5 (Nat.zero_le _) (by omega) rfl (fun k v hk _ hv => ?_) (fun v hv => ?_)
    · subst hv
      unfold fL_whole_b132
      dsimp only
      refine wp_if' (show ¬ (4 : Int32) < nI k from nI_nlt (a := 4) (by omega) (by omega)) (wp_bne (v_regret h hn (by omega)) (wp_l ?_))
      rw [nI_1]
      rfl
    · subst hv
      unfold fL_whole_b132
      exact wp_it (show (4 : Int32) < nI 5 by decide) (wp_r rfl)
  subst hx
  unfold fL_whole_k132 fL_whole_x132_158
  exact wp_bne (v_rival2 h) (wp_bne (v_served h) (wp_bne (v_swapRegret h) (wp_s rfl)))
end WHOLE
