/-! an arm of the class and the same arm in the reference's row -/
def AR (a : st_) (w : Nat → Int32) (m n : Nat) : Prop := a 0 0 = w (ab_ m) ∧ a 0 1 = w (ab_ m + 1) ∧ a 0 2 = w (ab_ m + 2) ∧ a 0 5 = w (ab_ m + 3) ∧ a 0 6 = w (ab_ m + 4) ∧ a 0 7 = w (ab_ m + 5) ∧ a 0 8 = w (ab_ m + 6) ∧ ∀ j, j < n → a 1 j = w (ab_ m + 7 + 2 * j) ∧ a 2 j = w (ab_ m + 7 + 2 * j + 1)
/-- an arm of the row is in order -/
def AI (w : Nat → Int32) (m n C : Nat) : Prop := m < 8 ∧ rg_ (w (ab_ m)) 0 (C - 1) ∧ (w (ab_ m + 1) = 0 ∨ w (ab_ m + 1) = 1) ∧ w (ab_ m + 2) = nI n ∧ n ≤ 20 ∧ ∀ j, j < n → rg_ (w (ab_ m + 7 + 2 * j)) 0 (C - 1)
/-- rules and prices of the class's settings and of the row; all in order -/
def RS (S : st_) (w : Nat → Int32) (C R : Nat) : Prop := 2 ≤ C ∧ C ≤ 100 ∧ S 0 0 = nI C ∧ w 0 = nI C ∧ 1 ≤ R ∧ R ≤ 6 ∧ S 0 4 = nI R ∧ w 4 = nI R ∧ S 0 2 = w 2 ∧ S 0 3 = w 3 ∧ rg_ (w 2) 0 99 ∧ rg_ (w 3) 1 99 ∧ ∀ r, r < R → S 1 r = w (26 + 5 * r) ∧ S 2 r = w (26 + 5 * r + 1) ∧ rg_ (w (26 + 5 * r)) 0 4
section ARMS
variable {a S t : st_} {w w' : Nat → Int32} {m n C R r : Nat}
theorem AI.aw (h : AI w m n C) (hC : C ≤ 100) (hC2 : 2 ≤ C) : AW w m (ix_ (w (ab_ m))) n (fun j => ix_ (w (ab_ m + 7 + 2 * j))) := by
  obtain ⟨hm, hc, hu, hn, h20, hq⟩ := h
  have := hc.2.2
  exact ⟨hm, hc.1, hn, h20, by omega, fun j hj => ⟨(hq j hj).1, by have := (hq j hj).2.2; dsimp only; omega⟩⟩
theorem AR.ac (h : AR a w m n) (hi : AI w m n C) (hC : C ≤ 100) (hC2 : 2 ≤ C) : AC a (ix_ (w (ab_ m))) n := by
  obtain ⟨hm, hc, hu, hn, h20, hq⟩ := hi
  obtain ⟨a0, a1, a2, a3, a4, a5, a6, aj⟩ := h
  have := hc.2.2
  refine ⟨by rw [a0]; exact hc.1, by rw [a2]; exact hn, h20, by omega, by rw [a1]; exact hu, fun j hj => ?_⟩
  rw [(aj j hj).1]
  exact (hq j hj).mono (Nat.zero_le _) (by omega)
theorem AI.of (h : AI w m n C) (he : ∀ i, ab_ m ≤ i → i < ab_ m + 47 → w' i = w i) : AI w' m n C := by
  obtain ⟨hm, hc, hu, hn, h20, hq⟩ := h
  refine ⟨hm, by rw [he _ (by omega) (by omega)]; exact hc, by rw [he _ (by omega) (by omega)]; exact hu, by rw [he _ (by omega) (by omega)]; exact hn, h20, fun j hj => ?_⟩
  rw [he _ (by omega) (by omega)]
  exact hq j hj
theorem AR.of (h : AR a w m n) (h20 : n ≤ 20) (he : ∀ i, ab_ m ≤ i → i < ab_ m + 47 → w' i = w i) : AR a w' m n := by
  obtain ⟨a0, a1, a2, a3, a4, a5, a6, aj⟩ := h
  refine ⟨by rw [he _ (by omega) (by omega)]; exact a0, by rw [he _ (by omega) (by omega)]; exact a1, by rw [he _ (by omega) (by omega)]; exact a2, by rw [he _ (by omega) (by omega)]; exact a3, by rw [he _ (by omega) (by omega)]; exact a4, by rw [he _ (by omega) (by omega)]; exact a5, by rw [he _ (by omega) (by omega)]; exact a6, fun j hj => ?_⟩
  rw [he _ (by omega) (by omega), he _ (by omega) (by omega)]
  exact aj j hj
theorem pr_rg {sk pe : Int32} {c q : Nat} (h1 : rg_ sk 0 99) (h2 : rg_ pe 1 99) (hc : c < 100) (hq : q < 100) : rg_ (pr_ sk pe c q) 0 9900 := by
  unfold pr_
  split
  · exact rg_n (k := 0) (Nat.le_refl _) (by omega) (by omega)
  · obtain ⟨x, _, hx, rfl⟩ := h1.ex
    obtain ⟨y, _, hy, rfl⟩ := h2.ex
    rw [pk_mul, nI_add]
    have hd : ds_ c q ≤ 99 := by unfold ds_; omega
    have hm : y * ds_ c q ≤ 99 * 99 := Nat.mul_le_mul hy hd
    exact rg_n (Nat.zero_le _) (by omega) (by omega)
/-- what the pair comes to -/
def SPo (t a' : st_) (z : st_ × Int32) (m n C r : Nat) : Prop := mo_ t z.1 ∧ AR a' (z.1 1) m (n - 1) ∧ AI (z.1 1) m (n - 1) C ∧ a' 0 9 = z.2 ∧ rg_ z.2 0 9900 ∧ ((n = 0 ∧ a' 0 10 = -1 ∧ z.1 1 = t 1) ∨ (0 < n ∧ rg_ (a' 0 10) 0 99 ∧ ((m ≠ 6 ∧ ∀ i, (i < ab_ m ∨ ab_ m + 47 ≤ i) → z.1 1 i = t 1 i) ∨ (m = 6 ∧ ∃ w1, NT (t 1) w1 (a' 0 10) (a' 0 11) (a' 0 9) (nI r) ∧ ∀ i, (i < ab_ m ∨ ab_ m + 47 ≤ i) → z.1 1 i = w1 i))))
theorem fm_e2 {κ κ' : Nat → Nat} {n k : Nat} (h : fm_ κ n k) (he : ∀ j, j < n → κ' j = κ j) : fm_ κ' n k := ⟨h.1, fun j hj => by rw [he j hj, he k h.1]; exact h.2 j hj⟩
theorem serve_p (hA : AR a (t 1) m n) (hI : AI (t 1) m n C) (hS : RS S (t 1) C R) (hr : r < R) : ∃ a' z, fX0_serve a S (nI r) (t 1 16) = some a' ∧ fX8_serves t (nI m) (nI r) = some z ∧ SPo t a' z m n C r := by
  obtain ⟨hC2, hC, hS0, hw0, hR1, hR6, hS4, hw4, hS2, hS3, hw2, hw3, hk⟩ := hS
  obtain ⟨hkd, hwd, hkr⟩ := hk r hr
  obtain ⟨kind, _, hk4, hke⟩ := hkr.ex
  have hW := hI.aw hC hC2
  have hAC := hA.ac hI hC hC2
  have hab := ab_b hI.1
  have h20 := hI.2.2.2.2.1
  obtain ⟨a', ea, ha⟩ := serve_w (mk := t 1 16) (wd := S 2 r) hAC hS4 hr hR6 (hkd.trans hke) hk4 rfl
  obtain ⟨z, ez, hmo, hz⟩ := serves_w (kind := kind) (wd := t 1 (26 + 5 * r + 1)) (u := t 1 (ab_ m + 1)) hW (by omega) hke hk4 rfl rfl hI.2.2.1
  refine ⟨a', z, ea, ez, ?_⟩
  obtain ⟨hm, hc, hu, hn, _, hq⟩ := hI
  obtain ⟨a0, a1, a2, a3, a4, a5, a6, aj⟩ := id hA
  have hka : ∀ j, j < n → ka_ a kind (S 2 r) (ix_ (t 1 (ab_ m))) j = rk_ kind (t 1 (26 + 5 * r + 1)) (t 1 (ab_ m + 1)) (ix_ (t 1 (ab_ m))) (ix_ (t 1 (ab_ m + 7 + 2 * j))) := fun j hj => by
    unfold ka_
    rw [hwd, a1, (aj j hj).1]
  rcases ha with ⟨h0, ea'⟩ | ⟨k, hf, hSA⟩
  · rcases hz with ⟨_, e2, e3⟩ | ⟨k, hf, _⟩
    · have b9 : a' 0 9 = 0 := by rw [ea']; simp (disch := omega) only [pt_a, pt_rr]
      have b10 : a' 0 10 = -1 := by rw [ea']; simp (disch := omega) only [pt_a, pt_rr]
      have bj : ∀ j, j ≠ 9 → j ≠ 10 → j ≠ 11 → a' 0 j = a 0 j := fun j x y z => by rw [ea']; simp (disch := omega) only [pt_a, pt_rr]
      subst h0
      refine ⟨hmo, ?_, ?_, by rw [b9, e2], by rw [e2]; exact rg_n (k := 0) (by omega) (by omega) (by omega), Or.inl ⟨rfl, b10, e3⟩⟩
      · rw [e3]
        exact ⟨by rw [bj 0 (by decide) (by decide) (by decide)]; exact a0, by rw [bj 1 (by decide) (by decide) (by decide)]; exact a1, by rw [bj 2 (by decide) (by decide) (by decide)]; exact a2, by rw [bj 5 (by decide) (by decide) (by decide)]; exact a3, by rw [bj 6 (by decide) (by decide) (by decide)]; exact a4, by rw [bj 7 (by decide) (by decide) (by decide)]; exact a5, by rw [bj 8 (by decide) (by decide) (by decide)]; exact a6, fun j hj => absurd hj (by omega)⟩
      · rw [e3]
        exact ⟨hm, hc, hu, hn, h20, fun j hj => absurd hj (by omega)⟩
    · exact absurd hf.1 (by omega)
  · have hkn := hf.1
    rcases hz with ⟨h0, _⟩ | ⟨k', hf', e2, hSM, hfr⟩
    · omega
    have ek : k' = k := fm_u (fm_e2 hf' hka) hf
    subst ek
    obtain ⟨b0, b1, b2, b5, b6, b7, b8, b9, b10, b11, bj⟩ := hSA
    obtain ⟨c0, c1, c2, c3, c4, c5, c6, cj⟩ := hSM
    have hqk := hq k' hkn
    have ajk := aj k' hkn
    have ecost : pr_ (S 0 2) (S 0 3) (ix_ (t 1 (ab_ m))) (ix_ (a 1 k')) = pr_ (t 1 2) (t 1 3) (ix_ (t 1 (ab_ m))) (ix_ (t 1 (ab_ m + 7 + 2 * k'))) := by rw [hS2, hS3, ajk.1]
    rw [ecost] at b5 b9
    have hc100 := hc.2.2
    have hq100 := hqk.2.2
    have eu : ru_ kind (ka_ a kind (S 2 r) (ix_ (t 1 (ab_ m))) k') (a 0 1) = ru_ kind (rk_ kind (t 1 (26 + 5 * r + 1)) (t 1 (ab_ m + 1)) (ix_ (t 1 (ab_ m))) (ix_ (t 1 (ab_ m + 7 + 2 * k')))) (t 1 (ab_ m + 1)) := by rw [hka k' hkn, a1]
    have hru : ∀ (x y : Nat) (v : Int32), (v = 0 ∨ v = 1) → (ru_ x y v = 0 ∨ ru_ x y v = 1) := fun x y v hv => by
      unfold ru_
      split
      · rcases hv with h | h <;> subst h
        · exact Or.inr rfl
        · exact Or.inl rfl
      · exact hv
    refine ⟨hmo, ⟨?_, ?_, ?_, ?_, ?_, ?_, ?_, fun j hj => ?_⟩, ⟨hm, ?_, ?_, c2, by omega, fun j hj => ?_⟩, by rw [b9, e2], by rw [e2]; exact pr_rg hw2 hw3 (by omega) (by omega), Or.inr ⟨by omega, ?_, ?_⟩⟩
    · rw [b0, c0, ajk.1]; exact hqk.1
    · rw [b1, c1, eu]
    · rw [b2, c2]
    · rw [b5, c3, a3]
    · rw [b6, c4, a4, ajk.1]
    · rw [b7, c5, a5, ajk.2]
    · rw [b8, c6, a6]
    · obtain ⟨x1, x2⟩ := bj j hj
      obtain ⟨y1, y2⟩ := cj j hj
      have hσ : (if j < k' then j else j + 1) < n := by split <;> omega
      rw [x1, x2, y1, y2]
      exact aj _ hσ
    · rw [c0]
      exact rg_n (Nat.zero_le _) hqk.2.2 (by omega)
    · rw [c1]; exact hru _ _ _ hu
    · obtain ⟨y1, y2⟩ := cj j hj
      have hσ : (if j < k' then j else j + 1) < n := by split <;> omega
      rw [y1]
      exact hq _ hσ
    · rw [b10, ajk.1]
      exact hqk.mono (Nat.zero_le _) (by omega)
    · rcases hfr with ⟨h6, hfr⟩ | ⟨h6, w1, hNT, hfr⟩
      · exact Or.inl ⟨h6, hfr⟩
      · refine Or.inr ⟨h6, w1, ?_, hfr⟩
        rw [b10, b11, b9, ajk.1, ajk.2]
        rw [← hqk.1] at hNT
        exact hNT
end ARMS
