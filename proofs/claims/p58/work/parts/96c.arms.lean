/-! arms over a round: how long requests waited, how many were served, when they came -/
/-- an arm: n wait, the oldest first, none came behind round T, none waited longer, K were served -/
def AT (a : st_) (n T K : Nat) : Prop := a 0 2 = nI n ∧ (∃ x, a 0 7 = nI x ∧ x ≤ T) ∧ a 0 8 = nI K ∧ ∃ F : Nat → Nat, (∀ j, j < n → a 2 j = nI (F j) ∧ F j ≤ T) ∧ ∀ i j, i ≤ j → j < n → F i ≤ F j
def DT (d : st_) (R n T K : Nat) : Prop := AT (sb_ d 5) n T K ∧ ∀ r, r < R → AT (sb_ d (3 * r + 15)) n T K
theorem it_fr {α β : Type} {f : α → Option (α ⊕ β)} {I : α → Prop} {P : β → Prop} (st : ∀ v y, I v → f v = some y → Sum.elim I P y) : ∀ (n : Nat) (v : α) (x : β), I v → it_ f n v = some x → P x
  | 0, v, x, _, h => (it_0 h).elim
  | n + 1, v, x, hI, h => by
    obtain ⟨y, hy, hk⟩ := it_s h
    have hs := st v y hI hy
    cases y with
    | inl w => exact it_fr st n w x hs hk
    | inr z =>
      have hk : z = x := hk
      subst hk
      exact hs
theorem lose_fr {x y : st_} (e : fX1_loseWeights x = some y) : ∀ o, o ≠ 12 → y o = x o := by
  unfold fX1_loseWeights at e
  obtain ⟨r1, e1, e⟩ := bn_x e
  split at e
  · obtain ⟨z, ez, e⟩ := bn_x e
    have hz : ∀ o, o ≠ 12 → z.2 o = x o := by
      refine it_fr (I := fun v : Int32 × Int32 × st_ => ∀ o, o ≠ 12 → v.2.2 o = x o) (P := fun z : Int32 × st_ => ∀ o, o ≠ 12 → z.2 o = x o) (fun v y hI hy => ?_) _ _ _ (fun _ _ => rfl) ez
      have hy : fX1_loseWeights_b35 r1 v.1 v.2.1 v.2.2 = some y := hy
      unfold fX1_loseWeights_b35 at hy
      split at hy
      · cases hy
        exact hI
      · obtain ⟨_, hy⟩ := gd_x hy
        obtain ⟨_, hy⟩ := gd_x hy
        obtain ⟨_, hy⟩ := gd_x hy
        obtain ⟨_, hy⟩ := gd_x hy
        obtain ⟨_, hy⟩ := gd_x hy
        obtain ⟨s16, es, hy⟩ := bd_x hy
        obtain ⟨_, hy⟩ := gd_x hy
        cases hy
        subst es
        exact fun o ho => (pt_o ho).trans (hI o ho)
    unfold fX1_loseWeights_k35 fX1_loseWeights_x35_121 at e
    obtain ⟨u, eu, e⟩ := bn_x e
    have hu : ∀ o, o ≠ 12 → u o = x o := by
      refine it_fr (I := fun v : Int32 × st_ => ∀ o, o ≠ 12 → v.2 o = x o) (P := fun z : st_ => ∀ o, o ≠ 12 → z o = x o) (fun v y hI hy => ?_) FU_ ((0 : Int32), z.2) u hz eu
      have hy : fX1_loseWeights_b124 z.1 v.1 v.2 = some y := hy
      unfold fX1_loseWeights_b124 at hy
      split at hy
      · cases hy
        exact hI
      · split at hy
        · cases hy
          exact hI
        · obtain ⟨_, hy⟩ := gd_x hy
          obtain ⟨_, hy⟩ := gd_x hy
          obtain ⟨s7, es, hy⟩ := bd_x hy
          cases hy
          subst es
          exact fun o ho => (pt_o ho).trans (hI o ho)
    cases e
    exact hu
  · cases e
    exact fun _ _ => rfl
section ARMS58
variable {a a' d d' d1 d3 g g' t : st_} {w : Nat → Int32} {C R n n' T K q0 r9 m : Nat} {q : Int32}
theorem AT.ext (h : AT a n T K) (he : ∀ q, q < 3 → a' q = a q) : AT a' n T K := by
  unfold AT at h ⊢
  rw [he 0 (by omega), he 2 (by omega)]
  exact h
theorem DT.ext (h : DT d R n T K) (h6 : R ≤ 6) (he : ∀ o, (5 ≤ o ∧ o < 8) ∨ (15 ≤ o ∧ o < 33) → d' o = d o) : DT d' R n T K :=
  ⟨h.1.ext (fun q hq => by rw [sb_ap, sb_ap]; exact he _ (by omega)), fun r hr => (h.2 r hr).ext (fun q hq => by rw [sb_ap, sb_ap]; exact he _ (by omega))⟩
theorem AT.up (h : AT a n T K) : AT a n (T + 1) K := by
  obtain ⟨h2, ⟨x, h7, hx⟩, h8, F, h1, hm⟩ := h
  exact ⟨h2, ⟨x, h7, by omega⟩, h8, F, fun j hj => ⟨(h1 j hj).1, by have := (h1 j hj).2; omega⟩, hm⟩
theorem DT.num (h : DT d R n T K) (hD : DA d w C R n') (hn : n ≤ 20) : n = n' := by
  have h1 : d 5 2 = nI n := h.1.1
  have h2 : d 5 2 = nI n' := hD.1.2.2.1.trans hD.2.1.2.2.2.1
  have h20 := hD.2.1.2.2.2.2.1
  exact (nI_eq (by omega) (by omega)).mp (h1.symm.trans h2)
/-- a request comes -/
theorem AT.come (h : AT a n T K) (h20 : n < 20) : AT (rcv n q (nI T) a) (n + 1) T K := by
  obtain ⟨h2, ⟨x, h7, hx⟩, h8, F, h1, hm⟩ := h
  have r0 : ∀ j, j ≠ 2 → rcv n q (nI T) a 0 j = a 0 j := fun j hj => by
    unfold rcv
    rw [pt_r hj, pt_oo (by decide), pt_oo (by decide)]
  have r2 : ∀ j, rcv n q (nI T) a 2 j = if j = n then nI T else a 2 j := fun j => by
    unfold rcv
    rw [pt_oo (by decide)]
    by_cases h : j = n
    · subst h; rw [pt_a, if_pos rfl]
    · rw [pt_r h, if_neg h, pt_oo (by decide)]
  refine ⟨pt_a, ⟨x, by rw [r0 7 (by decide)]; exact h7, hx⟩, by rw [r0 8 (by decide)]; exact h8, fun j => if j = n then T else F j, fun j hj => ?_, fun i j hij hj => ?_⟩
  · rw [r2]
    dsimp only
    by_cases h : j = n
    · rw [if_pos h, if_pos h]
      exact ⟨rfl, Nat.le_refl _⟩
    · rw [if_neg h, if_neg h]
      exact h1 j (by omega)
  · dsimp only
    by_cases h : j = n
    · rw [if_pos h]
      split
      · exact Nat.le_refl _
      · exact (h1 i (by omega)).2
    · rw [if_neg h, if_neg (show ¬ i = n by omega)]
      exact hm i j hij (by omega)
theorem add_x (e : fX1_addForAll d q = some d') (h : DT d R n T K) (hT : d 0 9 = nI T) (hR : d 1 4 = nI R) (h6 : R ≤ 6) (h20 : n < 20) (h8 : ¬ d 1 14 = -1 → d 8 2 = nI n) : DT d' R (n + 1) T K := by
  obtain ⟨z, ez, z1, z2, z3, -⟩ := addForAll_w (q := q) hR h6 h.1.1 (fun r hr => (h.2 r hr).1) h8 h20
  cases e.symm.trans ez
  rw [hT] at z2 z3
  exact ⟨(h.1.come h20).ext z2, fun r hr => ((h.2 r hr).come h20).ext (z3 r hr)⟩
theorem addx (e : fX1_addForAll d q = some d') (hD : DA d w C R n) (hrv : d 1 14 = w 21) (h : DT d R n T K) (hT : d 0 9 = nI T) (hR : d 1 4 = nI R) (h6 : R ≤ 6) (h20 : n < 20) : DT d' R (n + 1) T K :=
  add_x e h hT hR h6 h20 (fun z => by
    have z' : ¬ w 21 = -1 := fun y => z (hrv.trans y)
    exact (hD.2.2.2 z').1.2.2.1.trans (hD.2.2.2 z').2.2.2.2.1)
/-- the foe moves: a request more, or none -/
theorem moveFoe_x (e : fX1_moveFoe d = some d1) (hD : DD d (t 1) C R n) (h : DT d R n T K) (hT : d 0 9 = nI T) : ∃ n', (n' = n ∨ n' = n + 1) ∧ DT d1 R n' T K := by
  have hB := hD.rb
  have h6 := hB.1.2.1
  have hR := hB.1.2.2.1
  have hrv := hD.rv
  have hA := hD.2.2
  have h20 := hA.2.1.2.2.2.2.1
  unfold fX1_moveFoe at e
  obtain ⟨r1, e1, e⟩ := bn_x e
  rw [isFull_e h.1.1 h20] at e1
  have one : ∀ {x y : st_} {q : Int32}, (∀ o, o ≠ 0 → o ≠ 13 → o ≠ 14 → x o = d o) → x 0 9 = nI T → n < 20 → fX1_addForAll x q = some y → DT y R (n + 1) T K := fun {x y q} hx hx9 hn ex => by
    have x8 : ∀ o, o < 33 → o ≠ 0 → o ≠ 13 → o ≠ 14 → x o = d o := fun o _ a b c => hx o a b c
    refine add_x ex (h.ext h6 (fun o ho => hx o (by omega) (by omega) (by omega))) hx9 (by rw [hx 1 (by decide) (by decide) (by decide)]; exact hR) h6 hn (fun z => ?_)
    rw [hx 1 (by decide) (by decide) (by decide)] at z
    have z' : ¬ t 1 21 = -1 := fun y => z (hrv.trans y)
    rw [hx 8 (by decide) (by decide) (by decide)]
    exact (hA.2.2.2 z').1.2.2.1.trans (hA.2.2.2 z').2.2.2.2.1
  by_cases hr1 : r1 = 0
  · have hn : n < 20 := by
      rcases Nat.lt_or_ge n 20 with hn | hn
      · exact hn
      · rw [if_neg (by omega)] at e1
        cases e1
        exact absurd hr1 (by decide)
    rw [if_pos hr1] at e
    obtain ⟨r5, e5, e⟩ := bn_x e
    have tail : ∀ {y : st_} {q : Int32}, bn_ (fX1_addForAll d q) (fun r => some r) = some y → DT y R (n + 1) T K := fun ex => by
      obtain ⟨z, ez, ex⟩ := bn_x ex
      cases ex
      exact one (fun _ _ _ _ => rfl) hT hn ez
    have t81 : ∀ {q : Int32}, fX1_moveFoe_j81 d q = some d1 → DT d1 R (n + 1) T K := fun ex => tail ex
    have t118 : ∀ {q : Int32}, fX1_moveFoe_j118 d q = some d1 → DT d1 R (n + 1) T K := fun ex => tail ex
    by_cases c1 : r5 = 1
    · rw [if_pos c1] at e
      split at e
      · exact ⟨_, Or.inr rfl, t81 e⟩
      · exact ⟨_, Or.inr rfl, t81 e⟩
    · rw [if_neg c1] at e
      by_cases c2 : r5 = 2
      · rw [if_pos c2] at e
        exact ⟨_, Or.inr rfl, tail e⟩
      · rw [if_neg c2] at e
        by_cases c3 : r5 = 3
        · rw [if_pos c3] at e
          split at e
          · exact ⟨_, Or.inr rfl, t118 e⟩
          · exact ⟨_, Or.inr rfl, t118 e⟩
        · rw [if_neg c3] at e
          by_cases c4 : r5 = 4
          · rw [if_pos c4] at e
            obtain ⟨z, ez, e⟩ := bn_x e
            cases e
            unfold fX1_addNextAsk at ez
            split at ez
            · cases ez
              exact ⟨n, Or.inl rfl, h⟩
            · have nx : ∀ {q : Int32}, fX1_addNextAsk_j37 d q = some d1 → DT d1 R (n + 1) T K := fun {q} ex => by
                unfold fX1_addNextAsk_j37 at ex
                obtain ⟨s1, es1, ex⟩ := bd_x ex
                obtain ⟨r5, e5, ex⟩ := bn_x ex
                obtain ⟨z, ez, ex⟩ := bn_x ex
                cases ex
                subst es1
                exact one (fun o ho _ _ => pt_o ho) ((pt_r (by decide)).trans hT) hn ez
              split at ez
              · exact ⟨_, Or.inr rfl, nx ez⟩
              · exact ⟨_, Or.inr rfl, nx ez⟩
          · rw [if_neg c4] at e
            by_cases c5 : r5 = 5
            · rw [if_pos c5] at e
              obtain ⟨r25, e25, e⟩ := bn_x e
              obtain ⟨r29, e29, e⟩ := bn_x e
              obtain ⟨r33, e33, e⟩ := bn_x e
              obtain ⟨r37, e37, e⟩ := bn_x e
              obtain ⟨s41, es, e⟩ := bd_x e
              cases e
              obtain ⟨r, hr, q1, q2⟩ := comingRule_p hB
              cases e25.symm.trans q1
              obtain ⟨hRS, -⟩ := hD.1
              obtain ⟨hC2, hC, hS0, hw0, hR1, hR6, hS4, hw4, hS2, hS3, hw2, hw3, hkk⟩ := id hRS
              obtain ⟨z, ez, zo, -⟩ := foreseeHurts_w (C := C) (d := d) (n := n) (r0 := r) hS0 hC2 hC hS4 hR1 hR6 (fun r hr => by
                have := (hkk r hr).1
                rw [show d 2 r = t 1 (26 + 5 * r) from this]
                exact (hkk r hr).2.2) (by
                have := hA.1.ac hA.2.1 hC hC2
                rw [show d 5 0 = t 1 (ab_ 6) from hA.1.1]
                exact this) (fun r hr => by
                have := (hA.2.2.1 r hr).1.ac (hA.2.2.1 r hr).2 hC hC2
                rw [show d (3 * r + 15) 0 = t 1 (ab_ r) from (hA.2.2.1 r hr).1.1]
                exact this) hr
              cases e29.symm.trans ez
              subst es
              exact ⟨n + 1, Or.inr rfl, (one (x := r29) (fun o _ a b => zo o a b) (by rw [zo 0 (by decide) (by decide)]; exact hT) hn e37).ext h6 (fun o ho => pt_o (by omega))⟩
            · rw [if_neg c5] at e
              cases e
              exact ⟨n, Or.inl rfl, h⟩
  · rw [if_neg hr1] at e
    cases e
    exact ⟨n, Or.inl rfl, h⟩
/-- one arm serves -/
theorem AT.serve {S : st_} (hT : T ≤ 1200) (e : fX0_serve a S (nI q0) (nI T) = some a') (h : AT a n T K) (hA : AR a w m n) (hI : AI w m n C) (hS : RS S w C R) (hr : q0 < R) : AT a' (n - 1) T (if n = 0 then K else K + 1) := by
  obtain ⟨hC2, hC, hS0, hw0, hR1, hR6, hS4, hw4, hS2, hS3, hw2, hw3, hkk⟩ := hS
  obtain ⟨hkd, hwd, hkr⟩ := hkk q0 hr
  obtain ⟨kind, _, hk4, hke⟩ := hkr.ex
  obtain ⟨z, ez, hz⟩ := serve_w (mk := nI T) (wd := S 2 q0) (hA.ac hI hC hC2) hS4 hr hR6 (hkd.trans hke) hk4 rfl
  cases e.symm.trans ez
  obtain ⟨h2, ⟨x, h7, hx⟩, h8, F, h1, hm⟩ := h
  rcases hz with ⟨h0, ea⟩ | ⟨k, hf, b0, b1, b2, b5, b6, b7, b8, b9, b10, b11, bj⟩
  · subst h0
    rw [if_pos rfl, ea]
    refine ⟨?_, ⟨x, ?_, hx⟩, ?_, F, fun j hj => absurd hj (by omega), fun i j hij hj => absurd hj (by omega)⟩
    · simp (disch := omega) only [pt_rr]; exact h2
    · simp (disch := omega) only [pt_rr]; exact h7
    · simp (disch := omega) only [pt_rr]; exact h8
  · have hkn := hf.1
    obtain ⟨f1, f2⟩ := h1 k hkn
    rw [if_neg (by omega)]
    refine ⟨b2, ?_, by rw [b8, h8, nI_1], fun j => F (if j < k then j else j + 1), fun j hj => ?_, fun i j hij hj => hm _ _ (by split <;> split <;> omega) (by split <;> omega)⟩
    · rw [b7, h7, f1, pk_sub f2]
      unfold mx_
      rcases Nat.lt_or_ge x (T - F k) with hc | hc
      · exact ⟨T - F k, if_pos (nI_lt hc (by omega)), by omega⟩
      · exact ⟨x, if_neg (nI_nlt (by omega) (by omega)), hx⟩
    · rw [(bj j hj).2]
      exact h1 _ (by split <;> omega)
/-- the cost of serving is the cost foreseen -/
theorem serve_cost {S : st_} {x : Int32} (e : fX0_serve a S (nI q0) (nI T) = some a') (e2 : fX0_costBy a S (nI q0) = some x) (hA : AR a w m n) (hI : AI w m n C) (hS : RS S w C R) (hr : q0 < R) : a' 0 9 = x := by
  obtain ⟨hC2, hC, hS0, hw0, hR1, hR6, hS4, hw4, hS2, hS3, hw2, hw3, hkk⟩ := hS
  obtain ⟨hkd, hwd, hkr⟩ := hkk q0 hr
  obtain ⟨kind, _, hk4, hke⟩ := hkr.ex
  obtain ⟨z, ez, hz⟩ := serve_w (mk := nI T) (wd := S 2 q0) (hA.ac hI hC hC2) hS4 hr hR6 (hkd.trans hke) hk4 rfl
  obtain ⟨y, ey, hy⟩ := costBy_w (wd := S 2 q0) (hA.ac hI hC hC2) hS4 hr hR6 (hkd.trans hke) hk4 rfl
  cases e.symm.trans ez
  cases e2.symm.trans ey
  rcases hz with ⟨h0, ea⟩ | ⟨k, hf, b0, b1, b2, b5, b6, b7, b8, b9, b10, b11, bj⟩
  · rcases hy with ⟨-, hy⟩ | ⟨k, hf, hy⟩
    · rw [ea, hy]
      simp (disch := omega) only [pt_a, pt_rr]
    · exact absurd hf.1 (by omega)
  · rcases hy with ⟨h0, hy⟩ | ⟨k', hf', hy⟩
    · exact absurd hf.1 (by omega)
    · have ek := fm_u hf' hf
      subst ek
      rw [b9, hy]
theorem cost_rg {S : st_} {x : Int32} (e2 : fX0_costBy a S (nI q0) = some x) (hA : AR a w m n) (hI : AI w m n C) (hS : RS S w C R) (hr : q0 < R) : rg_ x 0 9900 := by
  obtain ⟨hC2, hC, hS0, hw0, hR1, hR6, hS4, hw4, hS2, hS3, hw2, hw3, hkk⟩ := hS
  obtain ⟨hkd, hwd, hkr⟩ := hkk q0 hr
  obtain ⟨kind, _, hk4, hke⟩ := hkr.ex
  have hAC := hA.ac hI hC hC2
  obtain ⟨y, ey, hy⟩ := costBy_w (wd := S 2 q0) hAC hS4 hr hR6 (hkd.trans hke) hk4 rfl
  cases e2.symm.trans ey
  rcases hy with ⟨-, hy⟩ | ⟨k, hf, hy⟩
  · rw [hy]
    exact rg_n (k := 0) (by omega) (by omega) (by omega)
  · rw [hy, hS2, hS3]
    have := (hAC.2.2.2.2.2 k hf.1).2.2
    exact pr_rg hw2 hw3 hAC.2.2.2.1 (by omega)
/-- all arms serve -/
theorem serveAll_x (e : fX1_serveAll d = some d3) (hD : DD d (t 1) C R n) (h9 : r9 < R) (hd9 : d 0 12 = nI r9) : (∃ a5, fX0_serve (sb_ d 5) (sb_ d 1) (nI r9) (t 1 16) = some a5 ∧ ∀ q, q < 3 → sb_ d3 5 q = a5 q) ∧ ∀ r, r < R → ∃ S a0, RS S (t 1) C R ∧ fX0_serve (sb_ d (3 * r + 15)) S (nI r) (t 1 16) = some a0 ∧ ∀ q, q < 3 → sb_ d3 (3 * r + 15) q = a0 q := by
  have hB := hD.rb
  have h6 := hB.1.2.1
  unfold fX1_serveAll at e
  rw [hd9, hD.mk] at e
  obtain ⟨a5, e5, f1⟩ := bn_x e
  obtain ⟨s5, es5, f2⟩ := bd_x f1
  obtain ⟨s', e', f3⟩ := bn_x f2
  subst es5
  obtain ⟨s'', e'', ho, hF⟩ := ownc_w (s5 := mg_ d 5 3 a5) hD (fun o ho => mg_o (by omega))
  have es : s' = s'' := Option.some.inj (e'.symm.trans e'')
  rw [← es] at ho hF
  unfold fX1_serveAll_k21 fX1_serveAll_x21_56 at f3
  obtain ⟨r7, e7, f4⟩ := bn_x f3
  have s1 : s' 1 = d 1 := by rw [ho 1 (by omega), mg_o (by omega)]
  have fin : ∀ x : st_, (∀ o, (o < 8 ∨ 11 ≤ o) → x o = s' o) → fX1_serveAll_j85 x = some d3 → ∀ o, ((5 ≤ o ∧ o < 8) ∨ (15 ≤ o ∧ o < 33)) → d3 o = s' o := fun x hx ex o hoo => by
    unfold fX1_serveAll_j85 at ex
    obtain ⟨r11, e11, ex⟩ := bn_x ex
    obtain ⟨s15, es, ex⟩ := bd_x ex
    cases ex
    subst es
    rw [pt_o (by omega)]
    have hfr : ∀ {y : st_}, fX1_loseWeights x = some y → ∀ o, o ≠ 12 → y o = x o := lose_fr
    rw [hfr e11 o (by omega), hx o (by omega)]
  have key : ∀ o, ((5 ≤ o ∧ o < 8) ∨ (15 ≤ o ∧ o < 33)) → d3 o = s' o := by
    split at f4
    · exact fin s' (fun _ _ => rfl) f4
    · obtain ⟨r19, e19, f5⟩ := bn_x f4
      obtain ⟨s23, es, f6⟩ := bd_x f5
      subst es
      exact fin _ (fun o hoo => mg_o (by omega)) f6
  refine ⟨⟨a5, e5, fun q hq => ?_⟩, fun r hr => ?_⟩
  · rw [sb_ap, key _ (by omega), ho _ (by omega), mg_i (by omega) (by omega)]
    congr 1
    omega
  · obtain ⟨S, a0, f1, f2, f3⟩ := hF r hr
    refine ⟨S, a0, f1, f2, fun q hq => ?_⟩
    rw [← f3 q hq, sb_ap, sb_ap, key _ (by omega)]
end ARMS58
