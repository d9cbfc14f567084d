/-! optimum and optimumAt -/
section OPT
variable {s t u y S z : st_} {m N n set c C R T : Nat} {pl : Nat → Nat} {x : Int32}
theorem shl_1 (hN : NB m N) : ((1 : Int32) <<< (nI m &&& 31)) - (1 : Int32) = nI (N - 1) := hN.2.2.2.2.2.2.1
theorem laysRest_w (hN : NB m N) (hm : m ≤ 8) (hw : TW (t 1) pl c m) : wp_ (fX8_laysRest t (nI m)) (fun t' => (∀ o, o ≠ 9 → t' o = t o) ∧ ∀ set, set < N → EQ_ (fun s p => t' 9 (9 * s + p)) (ps8 pl c) pl (t 1 2) (t 1 3) m 8 N set) := by
  obtain ⟨n1, n2, n3, n4, n5, n6, n7, n8⟩ := id hN
  unfold fX8_laysRest fX8_laysRest_l8
  refine wp_bn (Q := fun u => (∀ o, o ≠ 9 → u o = t o) ∧ ∀ p, p < 9 → u 9 (9 * (N - 1) + p) = 0) ?_ (fun u hu => ?_)
  · refine wp_up (fun k v => v.1 = nI k ∧ (∀ o, o ≠ 9 → v.2 o = t o) ∧ ∀ p, p < k → v.2 9 (9 * (N - 1) + p) = 0) 0 9 (Nat.zero_le _) (by omega) ⟨rfl, fun _ _ => rfl, fun p hp => absurd hp (by omega)⟩ (fun k v hk _ hv => ?_) (fun v hv => ?_)
    · obtain ⟨v1, y⟩ := v
      obtain ⟨e1, yo, yp⟩ := hv
      dsimp only at e1 yo yp
      subst e1
      have er : (9 : Int32) * nI (N - 1) + nI k = nI (9 * (N - 1) + k) := by
        show nI 9 * nI (N - 1) + nI k = _
        rw [pk_mul, nI_add]
      unfold fX8_laysRest_b8 fX8_restAt
      dsimp only
      rw [shl_1 hN, bn_s, er, ix_n (by omega)]
      refine wp_if' (show ¬ (8 : Int32) < nI k from nI_nlt (a := 8) (by omega) (by omega)) (wp_gd (ib_n (by omega) (by omega)) (wp_bd (wp_l ⟨nI_1 k, fun o ho => (pt_o ho).trans (yo o ho), fun p hp => ?_⟩)))
      dsimp only
      by_cases hpk : p = k
      · subst hpk
        rw [pt_a]
      · rw [pt_r (by omega)]
        exact yp p (by omega)
    · obtain ⟨v1, y⟩ := v
      obtain ⟨e1, yo, yp⟩ := hv
      dsimp only at e1 yo yp
      subst e1
      unfold fX8_laysRest_b8
      dsimp only
      exact wp_it (by decide) (wp_r ⟨yo, yp⟩)
  · obtain ⟨uo, up⟩ := hu
    have u1 : u 1 = t 1 := uo 1 (by decide)
    unfold fX8_laysRest_k8 fX8_laysRest_x8_31 fX8_laysRest_l35
    rw [shl_1 hN]
    refine wp_bn (Q := fun t' => (∀ o, o ≠ 9 → t' o = t o) ∧ ∀ set, set < N → EQ_ (fun s p => t' 9 (9 * s + p)) (ps8 pl c) pl (t 1 2) (t 1 3) m 8 N set) ?_ (fun x hx => ?_)
    · refine wp_up (fun j v => (j < N - 1 → v.1 = nI (N - 2 - j)) ∧ (j = N - 1 → v.1 = -1) ∧ (∀ o, o ≠ 9 → v.2 o = t o) ∧ ∀ set, N - 1 - j ≤ set → set < N → EQ_ (fun s p => v.2 9 (9 * s + p)) (ps8 pl c) pl (t 1 2) (t 1 3) m 8 N set) 0 (N - 1) (Nat.zero_le _) (by omega) ⟨fun h => ?_, fun h => ?_, uo, fun set h1 h2 => ?_⟩ (fun j v hj _ hv => ?_) (fun v hv => ?_)
      · dsimp only
        have e : N - 1 = (N - 2) + 1 := by omega
        rw [e, nI_pred]
        rfl
      · dsimp only
        rw [← h]
        rfl
      · have e : set = N - 1 := by omega
        subst e
        intro p hp
        refine ⟨fun _ => up p (by rcases hp with a | a <;> omega), fun h => absurd rfl h⟩
      · obtain ⟨v1, y⟩ := v
        obtain ⟨e1, -, yo, yE⟩ := hv
        dsimp only at e1 yo yE
        have e1 := e1 hj
        subst e1
        have y1 : y 1 = t 1 := yo 1 (by decide)
        unfold fX8_laysRest_b35
        dsimp only
        refine wp_if' (nI_pos (by omega)) ?_
        refine wp_bn (lays42_w (u := y) (pl := pl) (c := c) (set := N - 2 - j) hN (by rw [y1]; exact hw) hm (by omega)) (fun w hw2 => ?_)
        obtain ⟨wo, w9, wP⟩ := hw2
        unfold fX8_laysRest_k42 fX8_laysRest_x42_132
        refine wp_l ⟨fun hj2 => ?_, fun hj2 => ?_, fun o ho => (wo o ho).trans (yo o ho), fun set h1 h2 => ?_⟩
        · have e : N - 2 - j = (N - 2 - (j + 1)) + 1 := by omega
          dsimp only
          rw [e, nI_dec]
        · have e : N - 2 - j = 0 := by omega
          dsimp only
          rw [e]
          rfl
        · by_cases hc : set = N - 2 - j
          · subst hc
            intro p hp
            refine ⟨fun h => absurd h (by omega), fun hne => ?_⟩
            obtain ⟨i, i1, i2, i3, i4⟩ := wP p hp
            rw [y1] at i3 i4
            have hso : ∀ q, q < m → bt (N - 2 - j) q = false → w 9 (9 * so (N - 2 - j) q + q) = y 9 (9 * so (N - 2 - j) q + q) := fun q hq hb => w9 _ (by have := ((b4_c (N - 2 - j) (by omega) q (by omega)).2.2.2 hb).1; omega)
            refine ⟨i, i1, i2, ?_, fun q hq hb => ?_⟩
            · dsimp only at i3 ⊢
              rw [hso i i1 i2]
              exact i3
            · dsimp only at i4 ⊢
              rw [hso i i1 i2, hso q hq hb]
              exact i4 q hq hb
          · exact (yE set (by omega) h2).ext hm (by omega) (by omega) (fun s p hs hp => w9 _ (by omega))
      · obtain ⟨v1, y⟩ := v
        obtain ⟨-, e1, yo, yE⟩ := hv
        dsimp only at e1 yo yE
        have e1 := e1 rfl
        subst e1
        unfold fX8_laysRest_b35
        dsimp only
        exact wp_it (by decide) (wp_r ⟨yo, fun set hs => yE set (by omega) hs⟩)
    · unfold fX8_laysRest_k35 fX8_laysRest_x35_138
      exact wp_s hx
/-- the places, as the class has them -/
def plc (w : Nat → Int32) (m : Nat) (i : Nat) : Nat := if i = m then ix_ (w (ab_ 6)) else ix_ (w (ab_ 6 + 7 + 2 * i))
theorem tours_p (h : HH s t C R n T) (hm : m ≤ 8) (hmn : m ≤ n) {t0 : st_} (ht0 : t0 1 = t 1) : ∃ N z u, NB m N ∧ fX6_plan (sb_ s 116) (sb_ s 10) (sb_ s 14) (nI m) = some z ∧ fX8_laysRest t0 (nI m) = some u ∧ z 0 0 = nI m ∧ (∀ i, i ≤ m → z 1 i = nI (plc (t 1) m i) ∧ plc (t 1) m i < 1000) ∧ TW (u 1) (plc (t 1) m) (ix_ (t 1 (ab_ 6))) m ∧ (∀ o, o ≠ 9 → u o = t0 o) ∧ (∀ set, set < N → EQ_ (fun s p => z 2 (9 * s + p)) (plc (t 1) m) (plc (t 1) m) (t 1 2) (t 1 3) m m N set) ∧ (∀ set, set < N → EQ_ (fun s p => u 9 (9 * s + p)) (ps8 (plc (t 1) m) (ix_ (t 1 (ab_ 6)))) (plc (t 1) m) (t 1 2) (t 1 3) m 8 N set) ∧ ∀ set, set < N → z 2 (9 * set + m) = u 9 (9 * set + 8) ∧ ∀ i, i < m → bt set i = true → z 2 (9 * set + i) = u 9 (9 * set + i) := by
  obtain ⟨hC2, hC, hS0, hw0, hR1, hR6, hS4, hw4, hS2, hS3, hw2, hw3, hk⟩ := id h.1.1.1
  obtain ⟨A1, A2, -⟩ := h.1.2.2
  obtain ⟨a0, a1, a2, a3, a4, a5, a6, aj⟩ := A1
  obtain ⟨i0, i1, i2, i3, i4, i5⟩ := A2
  obtain ⟨N, hN⟩ := nb_x hm
  have pm : plc (t 1) m m = ix_ (t 1 (ab_ 6)) := if_pos rfl
  have pi : ∀ i, i < m → plc (t 1) m i = ix_ (t 1 (ab_ 6 + 7 + 2 * i)) := fun i hi => if_neg (by omega)
  have hc100 : ix_ (t 1 (ab_ 6)) < 100 := by have := i1.2.2; omega
  have hq100 : ∀ i, i < m → ix_ (t 1 (ab_ 6 + 7 + 2 * i)) < 100 := fun i hi => by have := (i5 i (by omega)).2.2; omega
  obtain ⟨z, ez, z0, z1, zE⟩ := plan_w (z := sb_ s 116) (S := sb_ s 10) (a := sb_ s 14) (pl := plc (t 1) m) hN hm (n := n) (a2.trans i3) hmn i4 (fun i hi => by
    rw [pi i hi]
    exact ⟨(aj i (by omega)).1.trans (i5 i (by omega)).1, by have := hq100 i hi; omega⟩) (by
    rw [pm]
    exact ⟨a0.trans i1.1, by omega⟩)
  have hTW : TW (t0 1) (plc (t 1) m) (ix_ (t 1 (ab_ 6))) m := by
    rw [ht0]
    exact ⟨i1.1, hc100, fun i hi => by rw [pi i hi]; exact ⟨(i5 i (by omega)).1, hq100 i hi⟩⟩
  obtain ⟨u, eu, uo, uE⟩ := laysRest_w (t := t0) hN hm hTW
  have e2 : sb_ s 10 0 2 = t 1 2 := hS2
  have e3 : sb_ s 10 0 3 = t 1 3 := hS3
  rw [e2, e3] at zE
  rw [ht0] at uE
  refine ⟨N, z, u, hN, ez, eu, z0, z1, by rw [uo 1 (by decide)]; exact hTW, uo, zE, uE, fun set hs => ?_⟩
  have hu := EQ_.u hN hm zE uE (by
    unfold ps8
    rw [if_pos rfl, pm]) (fun i hi => by
    unfold ps8
    rw [if_neg (by omega)])
  exact hu _ set hs rfl
theorem QP.bad {g : Nat → Int32} {A : Option (st_ × (Int32 ⊕ Nat))} {B : Option (st_ × Int32)} {y : Int32} (c : Nat) (hA : A = some (s, .inr c)) (hB : B = some (pt_ t 0 6 (g c), y)) (hc : g c ≠ 0) : QP g s t A B := ⟨s, .inr c, _, y, hA, hB, ⟨pt_a, hc⟩, CI.r, MI.t6⟩
theorem CI.t116 : CI s (mg_ s 116 3 z) := fun o a _ _ => mg_o (by omega)
theorem MI.o9 {t0 : st_} (h : MI t t0) (hu : ∀ o, o ≠ 9 → u o = t0 o) : MI t u := ⟨fun j a => by rw [hu 1 (by decide)]; exact h.1 j a, fun o a b => by rw [hu o (by omega)]; exact h.2.1 o a b, by rw [hu 0 (by decide)]; exact h.2.2.1, by rw [hu 0 (by decide)]; exact h.2.2.2⟩
theorem optimum_p (h : HH s t C R n T) (i0 : Int32) : QP g1_ s t (fX7_optimum s i0) (fX8_optimum t i0) := by
  have e14 : s 14 2 = nI n := h.n5
  have h20 := h.n20
  unfold fX7_optimum fX8_optimum fX8_optimum_j18
  by_cases hx : 0 ≤ i0 ∧ i0 ≤ 8
  · obtain ⟨m, _, hm, rfl⟩ := ((rg_iff (lo := 0) (hi := 8) (by omega) (by omega)).mpr hx).ex
    rw [bn_e (within_t (lo := 0) (hi := 8) hx), tb_l, bn_e (show fX8_in (Int32.toInt64 (nI m)) (0 : Int64) (8 : Int64) = some 1 from in_t (lo := 0) (hi := 8) hx), if_neg (show ¬ (1 : Int32) = 0 by decide), bn_e wrong_0, if_pos rfl]
    dsimp only
    rw [bn_e (show fX8_armOf (pt_ t 0 6 0) (6 : Int32) (2 : Int32) = _ from armOf_2 (m := 6) (by omega)), h.t6.n6, e14]
    by_cases hmn : m ≤ n
    · rw [if_pos (nI_le hmn (by omega)), if_pos (nI_le hmn (by omega))]
      obtain ⟨N, z, u, hN, ez, eu, z0, z1, uT, uo, zE, uE, hzu⟩ := tours_p h hm hmn (t0 := pt_ t 0 6 0) (pt_o (by decide))
      have e0 : mg_ s 116 3 z 116 0 = nI m := by rw [mg_i (by omega) (by omega)]; exact z0
      have el : fX6_leastCost (sb_ (mg_ s 116 3 z) 116) = some (z 2 m) := by
        unfold fX6_leastCost
        have e0' : sb_ (mg_ s 116 3 z) 116 0 0 = nI m := e0
        rw [e0', gd_t (ib_n (by omega) (by omega)), ix_n (by omega), sb_ap, mg_i (by omega) (by omega)]
      unfold fX8_restAt
      rw [bn_e ez, bd_e, bn_e el, bn_e eu, bn_s, show (9 : Int32) * (0 : Int32) + (8 : Int32) = nI 8 by decide, gd_t (ib_n (by omega) (by omega)), ix_n (by omega)]
      have hv := (hzu 0 (by have := hN.1; omega)).1
      rw [Nat.mul_zero, Nat.zero_add, Nat.zero_add] at hv
      rw [hv]
      exact ⟨_, .inl (u 9 8), _, _, rfl, rfl, ⟨by rw [uo 0 (by decide), pt_a], rfl⟩, CI.t116, MI.t6.o9 uo⟩
    · rw [if_neg (nI_ge (by omega) (by omega)), if_neg (nI_ge (by omega) (by omega))]
      exact ⟨s, .inl (-1), _, _, rfl, rfl, ⟨pt_a, rfl⟩, CI.r, MI.t6⟩
  · rw [bn_e (within_f (lo := 0) (hi := 8) hx), tb_r, bn_e (show fX8_in (Int32.toInt64 i0) (0 : Int64) (8 : Int64) = some 0 from in_f (lo := 0) (hi := 8) hx), if_pos rfl, bn_e wrong_1, if_neg (show ¬ (1 : Int32) = 0 by decide)]
    exact QP.bad 1 (y := 0) rfl rfl (by decide)
/-- the first request that keeps to the least, in the model's table -/
theorem opt75_w {V : Nat → Nat → Int32} (hw : TW (u 1) pl c m) (hm : m ≤ 8) {p k : Nat} (hp : p = 8 ∨ p < m) (hs : set < 256) (hf : fi_ set m (fun q => pr_ (u 1 2) (u 1 3) (ps8 pl c p) (pl q) + u 9 (9 * so set q + q)) k) (hr : u 9 (9 * set + p) = pr_ (u 1 2) (u 1 3) (ps8 pl c p) (pl k) + u 9 (9 * so set k + k)) : fX8_optimumAt_l75 u (nI set) (nI p) FU_ (0 : Int32) = some (nI k) := by
  obtain ⟨k1, k2, k3⟩ := hf
  suffices hh : wp_ (fX8_optimumAt_l75 u (nI set) (nI p) FU_ (0 : Int32)) (fun x => x = nI k) by
    obtain ⟨x, e, rfl⟩ := hh
    exact e
  have er : (9 : Int32) * nI set + nI p = nI (9 * set + p) := by
    show nI 9 * nI set + nI p = _
    rw [pk_mul, nI_add]
  have hp9 : p < 9 := by rcases hp with a | a <;> omega
  unfold fX8_optimumAt_l75
  refine wp_up (fun j v => v = nI j) 0 k (Nat.zero_le _) (by omega) rfl (fun j v hj _ hv => ?_) (fun v hv => ?_)
  · subst hv
    unfold fX8_optimumAt_b75 fX8_optimumAt_j108 fX8_restAt
    rw [b3_c set hs j (by omega)]
    cases hb : bt set j with
    | true => exact wp_it (by rw [if_pos rfl]) (wp_l (nI_1 j))
    | false =>
      refine wp_if' (by rw [if_neg (by decide)]; decide) (wp_bne (through_e hw hm hp (by omega) hs) ?_)
      rw [bn_s, er, ix_n (by omega)]
      refine wp_gd (ib_n (by omega) (by omega)) (wp_if' (fun h => ?_) (wp_l (nI_1 j)))
      rw [hr] at h
      rcases k3 j (by omega) hb with h2 | ⟨_, h2⟩
      · dsimp only at h2
        rw [h] at h2
        exact (Int32.lt_irrefl h2).elim
      · omega
  · subst hv
    unfold fX8_optimumAt_b75 fX8_restAt
    rw [b3_c set hs k (by omega), k2]
    refine wp_if' (by rw [if_neg (by decide)]; decide) (wp_bne (through_e hw hm hp k1 hs) ?_)
    rw [bn_s, er, ix_n (by omega)]
    exact wp_gd (ib_n (by omega) (by omega)) (wp_it hr.symm (wp_r rfl))
theorem optimumAt_p (h : HH s t C R n T) (i0 i1 : Int32) : QP g1_ s t (fX7_optimumAt s i0 i1) (fX8_optimumAt t i0 i1) := by
  have e14 : s 14 2 = nI n := h.n5
  have h20 := h.n20
  obtain ⟨hC2, hC, hS0, hw0, hR1, hR6, hS4, hw4, hS2, hS3, hw2, hw3, hk⟩ := id h.1.1.1
  unfold fX7_optimumAt fX8_optimumAt fX8_optimumAt_j18
  by_cases hx : 1 ≤ i0 ∧ i0 ≤ 8
  · obtain ⟨m, hm1, hm, rfl⟩ := ((rg_iff (lo := 1) (hi := 8) (by omega) (by omega)).mpr hx).ex
    rw [bn_e (within_t (lo := 1) (hi := 8) hx), tb_l, bn_e (show fX8_in (Int32.toInt64 (nI m)) (1 : Int64) (8 : Int64) = some 1 from in_t (lo := 1) (hi := 8) hx), if_neg (show ¬ (1 : Int32) = 0 by decide), bn_e wrong_0, if_pos rfl]
    dsimp only
    rw [bn_e (show fX8_armOf (pt_ t 0 6 0) (6 : Int32) (2 : Int32) = _ from armOf_2 (m := 6) (by omega)), h.t6.n6, e14]
    by_cases hmn : m ≤ n
    · rw [if_neg (nI_nlt hmn (by omega)), if_neg (nI_nlt hmn (by omega))]
      rcases idxC i1 m (by omega) with ⟨P, hP, rfl⟩ | hP
      · rw [if_neg (nI_pos (by omega)), if_pos (nI_lt hP (by omega)), bn_e (inIdx_t hP (by omega)), if_neg (show ¬ (1 : Int32) = 0 by decide)]
        obtain ⟨N, z, u, hN, ez, eu, z0, z1, uT, uo, zE, uE, hzu⟩ := tours_p h hm hmn (t0 := pt_ t 0 6 0) (pt_o (by decide))
        obtain ⟨n1, n2, n3, n4, n5, n6, n7, n8⟩ := id hN
        have u1 : u 1 = t 1 := (uo 1 (by decide)).trans (pt_o (by decide))
        generalize hs1 : mg_ s 116 3 z = s1
        have s116 : ∀ o, o < 3 → sb_ s1 116 o = z o := fun o ho => by rw [← hs1, sb_ap, mg_i (by omega) (by omega)]; congr 1; omega
        have s10 : ∀ o, o < 4 → sb_ s1 10 o = sb_ s 10 o := fun o ho => by rw [← hs1, sb_ap, mg_o (by omega)]; rfl
        have q2 : sb_ s1 10 0 2 = t 1 2 := by rw [s10 0 (by omega)]; exact hS2
        have q3 : sb_ s1 10 0 3 = t 1 3 := by rw [s10 0 (by omega)]; exact hS3
        rw [bn_e ez, bd_e, bn_e eu, hs1]
        -- the two loops go together
        obtain ⟨b, d, e1, e2, x, hb, hd⟩ := up_pair (f := fun v => fX6_requestAt_b11 (sb_ s1 116) (sb_ s1 10) (nI P) v.1 v.2.1 v.2.2) (g := fun v => fX8_optimumAt_b66 (nI P) u v.1 v.2.1 v.2.2) (fun i v w => ∃ set p p', set < N ∧ pcn set = i ∧ v = (nI set, nI p, nI i) ∧ w = (nI set, nI p', nI i) ∧ ((p = m ∧ p' = 8 ∧ i = 0) ∨ (p = p' ∧ p < m ∧ bt set p = true ∧ 0 < i))) (fun b d => ∃ x, b = .inr x ∧ d = x) 0 (P + 1) (Nat.zero_le _) (by omega) (v := ((0 : Int32), sb_ s1 116 0 0, (0 : Int32))) (u := ((0 : Int32), (8 : Int32), (0 : Int32))) ⟨0, m, 8, by omega, by decide, by rw [s116 0 (by omega), z0]; rfl, rfl, Or.inl ⟨rfl, rfl, rfl⟩⟩ (fun i v w hi _ hJ => by
          obtain ⟨set, p, p', hs, hpc, rfl, rfl, hpp⟩ := hJ
          have hpm : p ≤ m := by rcases hpp with a | a <;> omega
          have hp8 : p' = 8 ∨ p' < m := by rcases hpp with a | a <;> omega
          have hpos : plc (t 1) m p = ps8 (plc (t 1) m) (ix_ (t 1 (ab_ 6))) p' := by
            unfold ps8
            rcases hpp with ⟨a, b, _⟩ | ⟨a, b, _, _⟩
            · rw [if_pos b, a]
              exact if_pos rfl
            · rw [if_neg (by omega), a]
          have hVp : z 2 (9 * set + p) = u 9 (9 * set + p') := by
            rcases hpp with ⟨a, b, _⟩ | ⟨a, b, c, _⟩
            · rw [a, b]
              exact (hzu set hs).1
            · rw [← a]
              exact (hzu set hs).2 p b c
          have hne : set ≠ N - 1 := fun e => by rw [e, n6] at hpc; omega
          obtain ⟨r, er, hr⟩ := nextOf_w (z := sb_ s1 116) (S := sb_ s1 10) (pl := plc (t 1) m) (m := m) (set := set) hm (by rw [s116 0 (by omega)]; exact z0) (fun i hi => by rw [s116 1 (by omega)]; exact z1 i hi) (p := p) hpm (by omega)
          rw [q2, q3, s116 2 (by omega)] at hr
          rcases hr with ⟨-, hall⟩ | ⟨k, ek, hk⟩
          · rcases n4 set hs with h1 | ⟨q, hq, hb⟩
            · exact absurd h1 hne
            · rw [hall q hq] at hb
              exact absurd hb (by decide)
          · subst ek
            have hkm := hk.1
            have hkb := hk.2.1
            have hb4 := b4_c set (by omega) k (by omega)
            -- what the model compares is the same
            have hval : ∀ q, q < m → bt set q = false → pr_ (t 1 2) (t 1 3) (plc (t 1) m p) (plc (t 1) m q) + z 2 (9 * so set q + q) = pr_ (u 1 2) (u 1 3) (ps8 (plc (t 1) m) (ix_ (t 1 (ab_ 6))) p') (plc (t 1) m q) + u 9 (9 * so set q + q) := fun q hq hb => by
              rw [u1, hpos, (hzu (so set q) (n3 set hs q hq)).2 q hq (b4_c set (by omega) q (by omega)).2.2.1]
            have hk' : fi_ set m (fun q => pr_ (u 1 2) (u 1 3) (ps8 (plc (t 1) m) (ix_ (t 1 (ab_ 6))) p') (plc (t 1) m q) + u 9 (9 * so set q + q)) k := ⟨hkm, hkb, fun j hj hb => by
              have h3 := hk.2.2 j hj hb
              dsimp only at h3 ⊢
              rw [hval k hkm hkb, hval j hj hb] at h3
              exact h3⟩
            have hrest : u 9 (9 * set + p') = pr_ (u 1 2) (u 1 3) (ps8 (plc (t 1) m) (ix_ (t 1 (ab_ 6))) p') (plc (t 1) m k) + u 9 (9 * so set k + k) := by
              have hmi := (uE set hs p' (by rcases hpp with ⟨_, b, _⟩ | ⟨a, b, c, _⟩; exact Or.inl b; exact Or.inr (by rw [← a]; exact ⟨b, c⟩))).2 hne
              exact mi_u hmi hk'.mi (fun j hj hb => by rw [u1])
            refine ⟨(nI (so set k), nI k, nI (i + 1)), (nI (so set k), nI k, nI (i + 1)), ?_, ?_, so set k, k, k, n3 set hs k hkm, by rw [(hb4.2.2.2 hkb).2, hpc], rfl, rfl, Or.inr ⟨rfl, hkm, hb4.2.2.1, by omega⟩⟩
            · unfold fX6_requestAt_b11
              dsimp only
              rw [if_neg (nI_nlt (by omega) (by omega)), s116 0 (by omega), z0, if_neg (nI_ge (by omega) (by omega)), bn_e er, if_neg (nI_ne1 (by omega)), b2_c set (by omega) k (by omega), nI_1]
            · unfold fX8_optimumAt_b66
              dsimp only
              rw [if_neg (nI_nlt (by omega) (by omega)), bn_e (opt75_w (V := fun _ _ => 0) uT hm hp8 (by omega) hk' hrest)]
              unfold fX8_optimumAt_k75 fX8_optimumAt_x75_114
              rw [b2_c set (by omega) k (by omega), nI_1]) (fun v w hJ => by
          obtain ⟨set, p, p', hs, hpc, rfl, rfl, hpp⟩ := hJ
          have epp : p = p' := by rcases hpp with ⟨_, _, c⟩ | ⟨a, _, _, _⟩; exact absurd c (by omega); exact a
          subst epp
          refine ⟨.inr (nI p), nI p, ?_, ?_, nI p, rfl, rfl⟩
          · unfold fX6_requestAt_b11
            dsimp only
            rw [if_pos (nI_lt (by omega) (by omega))]
          · unfold fX8_optimumAt_b66
            dsimp only
            rw [if_pos (nI_lt (by omega) (by omega))])
        subst hb hd
        have er : fX6_requestAt (sb_ s1 116) (sb_ s1 10) (nI P) = some d := by
          unfold fX6_requestAt fX6_requestAt_l11
          rw [bn_e e1]
          rfl
        unfold fX8_optimumAt_l66
        rw [bn_e er, bn_e e2]
        unfold fX8_optimumAt_k66 fX8_optimumAt_x66_131
        exact ⟨_, .inl d, _, _, rfl, rfl, ⟨by rw [uo 0 (by decide), pt_a], rfl⟩, by rw [← hs1]; exact CI.t116, MI.t6.o9 uo⟩
      · rw [bn_e (inIdx_f hP (by omega)), if_pos rfl]
        by_cases h0 : i1 < 0
        · rw [if_pos h0]
          exact ⟨s, .inl (-1), _, _, rfl, rfl, ⟨pt_a, rfl⟩, CI.r, MI.t6⟩
        · rw [if_neg h0, if_neg (fun h1 => hP ⟨Int32.not_lt.mp h0, h1⟩)]
          exact ⟨s, .inl (-1), _, _, rfl, rfl, ⟨pt_a, rfl⟩, CI.r, MI.t6⟩
    · rw [if_pos (nI_lt (by omega) (by omega)), if_pos (nI_lt (by omega) (by omega))]
      exact ⟨s, .inl (-1), _, _, rfl, rfl, ⟨pt_a, rfl⟩, CI.r, MI.t6⟩
  · rw [bn_e (within_f (lo := 1) (hi := 8) hx), tb_r, bn_e (show fX8_in (Int32.toInt64 i0) (1 : Int64) (8 : Int64) = some 0 from in_f (lo := 1) (hi := 8) hx), if_pos rfl, bn_e wrong_1, if_neg (show ¬ (1 : Int32) = 0 by decide)]
    exact QP.bad 1 (y := 0) rfl rfl (by decide)
end OPT
