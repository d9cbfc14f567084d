/-! the law's areCostsRight -/
section COSTSR
variable {s t : st_} {C R n T K : Nat}
def mj_ (j : Nat) : Nat := if j = 0 then 6 else j - 1
theorem mj_am {j : Nat} (hj : j < R + 1) : am6 R (mj_ j) := by
  unfold mj_ am6
  split <;> omega
/-- the variable of a loop over the arms -/
def xj_ (R j : Nat) : Int32 := if j = 0 then -1 else nI (j - 1)
theorem xj_m {j : Nat} (h6 : R ≤ 6) (hj : j < R + 1) : xj_ R j = xa_ (mj_ j) := by
  unfold xj_ mj_ xa_
  by_cases h0 : j = 0
  · rw [if_pos h0, if_pos h0, if_pos rfl]
  · rw [if_neg h0, if_neg h0, if_neg (show ¬ j - 1 = 6 by omega)]
theorem xj_1 {j : Nat} : xj_ R j + (1 : Int32) = xj_ R (j + 1) := by
  unfold xj_
  by_cases h0 : j = 0
  · subst h0
    rw [if_pos rfl, if_neg (by omega)]
    decide
  · rw [if_neg h0, if_neg (by omega), nI_1, Nat.sub_add_cancel (by omega), Nat.add_sub_cancel]
theorem xj_n {j : Nat} (h6 : R ≤ 6) (hj : j < R + 1) : ¬ nI R ≤ xj_ R j := by
  unfold xj_
  by_cases h0 : j = 0
  · rw [if_pos h0]
    exact fun z => by
      have h1 : nI R ≤ (-1 : Int32) := z
      have h2 : (0 : Int32) ≤ nI R := nI_pos' (by omega)
      exact absurd (Int32.le_trans h2 h1) (by decide)
  · rw [if_neg h0]
    exact nI_ge (by omega) (by omega)
theorem DT.x (h : DT (sb_ s 9) R n T K) (h6 : R ≤ 6) {m : Nat} (hm : am6 R m) : AT (sb_ (sb_ s 9) (oa_ m)) n T K := by
  unfold oa_
  rcases hm with hm | hm
  · rw [if_neg (by omega)]
    exact h.2 m hm
  · rw [if_pos hm]
    exact h.1
/-- the arms' share of the answer -/
theorem YY.arms (h : YY s t C R n T K) {j : Nat} (hj : j < R + 1) : wp_ (fL_areCostsRight_b7 s (nI R) (nI T) (xj_ R j)) (fun x => x = .inl (xj_ R (j + 1))) := by
  have hB := h.1.1.rb
  have h1 := hB.1.1
  have h6 := hB.1.2.1
  have hm := mj_am hj
  have hT := h.1.2.2.1.1.2.2.2
  have hC2 := h.1.1.1.1.1
  have hC := h.1.1.1.1.2.1
  obtain ⟨A, I⟩ := h.1.1.2.2.x h6 hm
  have D := h.2.2.x h6 hm
  have D6 := h.2.2.1
  have A6 := h.1.1.2.2.1
  have I6 := h.1.1.2.2.2.1
  obtain ⟨g1, g2, g3⟩ := h.1.2.2.1.2.2.1 (mj_ j) hm
  have a2 : t 1 (ab_ (mj_ j) + 2) = nI n := I.2.2.2.1
  have a26 : t 1 (ab_ 6 + 2) = nI n := I6.2.2.2.1
  have a6 : t 1 (ab_ (mj_ j) + 6) = nI K := by
    have e1 : sb_ (sb_ s 9) (oa_ (mj_ j)) 0 8 = t 1 (ab_ (mj_ j) + 6) := A.2.2.2.2.2.2.1
    rw [← e1]
    exact D.2.2.1
  have a66 : t 1 (ab_ 6 + 6) = nI K := by
    have e1 : sb_ (sb_ s 9) 5 0 8 = t 1 (ab_ 6 + 6) := A6.2.2.2.2.2.2.1
    rw [← e1]
    exact D6.2.2.1
  obtain ⟨x5, e5, hx5⟩ := D.2.1
  have a5 : t 1 (ab_ (mj_ j) + 5) = nI x5 := by
    have e1 : sb_ (sb_ s 9) (oa_ (mj_ j)) 0 7 = t 1 (ab_ (mj_ j) + 5) := A.2.2.2.2.2.1
    rw [← e1]
    exact e5
  obtain ⟨x0, _, hx0, e0⟩ := I.2.1.ex
  have a0 : t 1 (ab_ (mj_ j) + 0) = nI x0 := e0
  have v := fun k (hk : k ≤ 6) => v_arm h.1 hm (k := k) hk
  have v6 := fun k (hk : k ≤ 6) => v_arm h.1 (m := 6) (Or.inr rfl) (k := k) hk
  have eS : gX7_setting s (0 : Int32) = some (nI C) := by
    rw [show gX7_setting s (0 : Int32) = _ from v_setting h.1 (k := 0) (by omega)]
    unfold stv_
    rw [if_neg (by omega), h.1.1.1.1.2.2.2.1]
  have h20 := h.1.n20
  unfold fL_areCostsRight_b7 fL_areCostsRight_l18
  rw [if_neg (xj_n h6 hj), xj_m h6 hj]
  refine wp_bn (Q := fun x => x = t 1 (ab_ (mj_ j) + 3)) ?_ (fun x hx => ?_)
  · refine wp_up (fun k v => v = (nI (nsm (cs_ (t 1) (mj_ j)) k), nI k)) 0 T (Nat.zero_le _) (by omega) rfl (fun k v hk _ hv => ?_) (fun v hv => ?_)
    · subst hv
      unfold fL_areCostsRight_b18
      dsimp only
      refine wp_if' (nI_ge hk (by omega)) (wp_bne (v_cost h.1 hm hk) (wp_l ?_))
      have ec : t 1 (2948 + 1200 * mj_ j + k) = nI (cs_ (t 1) (mj_ j) k) := (g2 k hk).1
      rw [ec, nI_add, nI_1]
      rfl
    · subst hv
      unfold fL_areCostsRight_b18
      dsimp only
      exact wp_it (Int32.le_refl _) (wp_r g3.symm)
  subst hx
  unfold fL_areCostsRight_k18 fL_areCostsRight_x18_42
  refine wp_bne (v 3 (by omega)) (wp_it rfl (wp_bne (v 2 (by omega)) (wp_bne (v6 2 (by omega)) (wp_it (a2.trans a26.symm) (wp_bne (v 6 (by omega)) (wp_bne (v6 6 (by omega)) (wp_it (a6.trans a66.symm) (wp_bne (v 5 (by omega)) (wp_if' (by rw [a5]; exact nI_nlt hx5 (by omega)) (wp_bne (v 0 (by omega)) (wp_if' (by rw [a0]; exact nI_nlt (b := 0) (Nat.zero_le _) (by omega)) (wp_bne (v 0 (by omega)) (wp_bne eS (wp_it (by rw [a0]; exact nI_lt (by omega) (by omega)) (wp_bne (v_costN h.1 hm) (wp_it rfl (wp_bne (v_mean h.1 hm) ?_)))))))))))))))))
  have fin : wp_ (fL_areCostsRight_j150 s (nI T) (xa_ (mj_ j)) (mn_ (t 1 (ab_ (mj_ j) + 3)) T) (mn_ (t 1 (ab_ (mj_ j) + 3)) T)) (fun x => x = .inl (xj_ R (j + 1))) := by
    unfold fL_areCostsRight_j150
    refine wp_it (mn_self hT) ?_
    unfold fL_areCostsRight_l159
    refine wp_bn (Q := fun x => x = .inr ()) ?_ (fun x hx => ?_)
    · refine wp_up (fun k v => v = nI k) 0 n (Nat.zero_le _) (by omega) rfl (fun k v hk _ hv => ?_) (fun v hv => ?_)
      · subst hv
        obtain ⟨F, f1, f2⟩ := D.2.2.2
        have ek : ∀ i, i < n → s (9 + oa_ (mj_ j) + 2) i = nI (F i) ∧ F i ≤ T := fun i hi => by
          have e := f1 i hi
          have e2 : sb_ (sb_ s 9) (oa_ (mj_ j)) 2 i = s (9 + oa_ (mj_ j) + 2) i := by
            show s (9 + (oa_ (mj_ j) + 2)) i = _
            rw [Nat.add_assoc]
          rw [← e2]
          exact e
        unfold fL_areCostsRight_b159
        refine wp_bne (v 2 (by omega)) (wp_if' (by rw [a2]; exact nI_ge hk (by omega)) (wp_bne (v_came h.1 hm hk) (wp_if' (by rw [(ek k hk).1]; exact nI_nlt (ek k hk).2 (by omega)) (wp_if (fun hc => ?_) (fun hc => ?_)))))
        · unfold fL_areCostsRight_j210
          exact wp_l (nI_1 k)
        · have hk0 : k ≠ 0 := fun z => hc (by rw [z]; exact Int32.le_refl _)
          rw [show nI k - (1 : Int32) = nI (k - 1) from pk_sub (b := 1) (by omega)]
          refine wp_bne (v_came h.1 hm hk) (wp_bne (v_came h.1 hm (j := k - 1) (by omega)) (wp_it ?_ ?_))
          · rw [(ek k hk).1, (ek (k - 1) (by omega)).1]
            have := (ek k hk).2
            exact nI_le (f2 (k - 1) k (by omega) hk) (by omega)
          · unfold fL_areCostsRight_j210
            exact wp_l (nI_1 k)
      · subst hv
        unfold fL_areCostsRight_b159
        exact wp_bne (v 2 (by omega)) (wp_it (by rw [a2]; exact Int32.le_refl _) (wp_r rfl))
    · subst hx
      unfold fL_areCostsRight_k159
      show wp_ (fL_areCostsRight_x159_216 (xa_ (mj_ j))) _
      unfold fL_areCostsRight_x159_216
      rw [← xj_m h6 hj, xj_1]
      exact wp_s rfl
  by_cases h0 : T = 0
  · subst h0
    refine wp_it rfl ?_
    have e : mn_ (t 1 (ab_ (mj_ j) + 3)) 0 = FP.dconst0 := if_pos rfl
    rw [e] at fin ⊢
    exact fin
  · have hne : ¬ nI T = (0 : Int32) := fun z => h0 ((nI_eq (b := 0) (by omega) (by omega)).mp z)
    refine wp_if' hne (wp_gd (n64_div hne) ?_)
    have e : mn_ (t 1 (ab_ (mj_ j) + 3)) T = FP.ddiv (FP.i2d (t 1 (ab_ (mj_ j) + 3))) (FP.i2d (nI T)) := if_neg h0
    rw [e] at fin ⊢
    exact fin
end COSTSR
