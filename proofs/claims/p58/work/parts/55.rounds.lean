/-! a round is noted; a round of the game, of the class and of the model -/
section ROUNDS
variable {e e' d d' a g t : st_} {w w' : Nat → Int32} {C R n T r9 : Nat}
theorem rw6_b {m : Nat} (hm : am6 R m) (h6 : R ≤ 6) : 2 ≤ rw6 m ∧ rw6 m < 9 := by
  unfold am6 at hm
  unfold rw6
  split <;> omega
theorem RV.ext (h : RV e w T) (h9 : e' 0 9 = e 0 9) (ho : ∀ o, 21 ≤ o → o < 41 → e' o = e o) : RV e' w T := by
  obtain ⟨S, a1, a2, a3, a4⟩ := h
  refine ⟨S, h9.trans a1, a2, a3, fun i hi hS j hj => ?_⟩
  have := Nat.mod_lt (S - 1 - i) (show 0 < 20 by omega)
  rw [ho _ (by omega) (by omega)]
  exact a4 i hi hS j hj
theorem noteRound_w (h1 : 1 ≤ R) (h6 : R ≤ 6) (h9 : r9 < R) (hd9 : d 0 12 = nI r9) (hdR : d 1 4 = nI R) (hrv : d 1 14 = w 21) (hT : T < 1000) (h : R0 e w R T) {dx : st_} (hE : RE dx d w w' R T r9) (hp6 : d 5 5 = w' (ab_ 6 + 3)) (hpr : ∀ r, r < R → d (3 * r + 15) 5 = w' (ab_ r + 3)) : wp_ (fX4_noteRound e d) (fun e' => R0 e' w' R (T + 1) ∧ ∀ o, 14 ≤ o → o < 20 → e' o = e o) := by
  obtain ⟨⟨g0, g1, g16, gT⟩, hV, hP, hTk, hC, ⟨j1, j2, j3, j4, j5⟩⟩ := h
  obtain ⟨-, -, x3, x4, x5, x6, x7, x8, ⟨x9, x10⟩, ⟨reg, br, e1, e2, x11, x12⟩, x13⟩ := hE
  have ec := cheapest_e hdR h1 h6
  have hbR : bst (fun r => d (3 * r + 15) 5) (R - 1) < R := by
    have := bst_le (f := fun r => d (3 * r + 15) 5) (R - 1)
    omega
  generalize bst (fun r => d (3 * r + 15) 5) (R - 1) = b at x9 ec hbR
  have keep : ∀ m k, am6 R m → k < T → w' (2948 + 1200 * m + k) = w (2948 + 1200 * m + k) := fun m k hm hk => by
    unfold am6 at hm
    exact x13 _ (by omega) (by omega) (by omega)
  have main : ∀ e28 : st_, (∀ o, (o < 9 ∨ 13 ≤ o) → e28 o = e o) → (∀ k, e28 9 k = if k = T then nI r9 else e 9 k) → (∀ r, e28 10 r = if r = r9 then e 10 r9 + 1 else e 10 r) → (∀ r, e28 11 r = if r = r9 then e 11 r9 + d 5 9 else e 11 r) → (∀ r, e28 12 r = if r = b then e 12 b + 1 else e 12 r) → ∀ e58 : st_, (∀ o, o ≠ 0 → e58 o = e28 o) → (∀ j, j ≠ 13 → e58 0 j = e28 0 j) → e58 0 13 = w' 24 → wp_ (fX4_noteRound_j113 d e58) (fun e' => R0 e' w' R (T + 1) ∧ ∀ o, 14 ≤ o → o < 20 → e' o = e o) := fun e28 o28 a9 a10 a11 a12 e58 k1 k2 k3 => by
    have z0 : ∀ j, j ≠ 13 → e58 0 j = e 0 j := fun j hj => by rw [k2 j hj, o28 0 (by omega)]
    have zo : ∀ o, o ≠ 0 → (o < 9 ∨ 13 ≤ o) → e58 o = e o := fun o ho h => by rw [k1 o ho, o28 o h]
    unfold fX4_noteRound_j113
    rw [hd9]
    refine wp_bn (noteRegret_w (e := e58) (d := d) (w := w) (w' := w') (T := T) (by rw [z0 1 (by decide), g1]) (by omega) ⟨j1, by rw [z0 10 (by decide), j2], by rw [z0 11 (by decide), j3], by rw [z0 12 (by decide), j4]⟩ e1 e2 x11 x12) (fun er hr => ?_)
    obtain ⟨⟨q1, q2, q3, q4⟩, qo, qj⟩ := hr
    have hVr : RV er w T := hV.ext (by rw [qj 9 (by decide) (by decide) (by decide), z0 9 (by decide)]) (fun o a b => by rw [qo o (by omega), zo o (by omega) (by omega)])
    refine wp_bn (noteServed_w (e := er) (a := sb_ d 5) (w' := w') (r9 := r9) hVr (by rw [qj 1 (by decide) (by decide) (by decide), z0 1 (by decide), g1]) g16 gT x7) (fun es hs => wp_bd ?_)
    obtain ⟨s1, so, sj⟩ := hs
    have y1 : es 0 1 + 1 = nI (T + 1) := by rw [sj 1 (by decide), qj 1 (by decide) (by decide) (by decide), z0 1 (by decide), g1, nI_1]
    rw [y1]
    have y0 : es 0 0 = nI R := by rw [sj 0 (by decide), qj 0 (by decide) (by decide) (by decide), z0 0 (by decide), g0]
    refine wp_bn (notePaid_w (e := pt_ es 0 1 (nI (T + 1))) (T := T + 1) hdR h6 (by rw [pt_r (by decide), y0]) pt_a (by omega)) (fun e' he => ?_)
    obtain ⟨p1, p2⟩ := he
    unfold fX4_noteRound_k139 fX4_noteRound_x139_174
    have f0 : ∀ j, j ≠ 1 → e' 0 j = es 0 j := fun j hj => by rw [p1 0 (by omega), pt_r hj]
    have fo : ∀ o, o ≠ 0 → (o < 2 ∨ 9 ≤ o) → e' o = es o := fun o ho h => by rw [p1 o h, pt_o ho]
    have f28 : ∀ o, o ≠ 0 → (o < 21 ∨ 41 ≤ o) → es o = e28 o := fun o ho h => by rw [so o ho h, qo o ho, k1 o ho]
    refine wp_s ⟨⟨⟨by rw [f0 0 (by decide), y0], by rw [p1 0 (by omega), pt_a], x10, by omega⟩, s1.ext (f0 9 (by decide)) (fun o a b => fo o (by omega) (by omega)), fun m hm => ?_, fun k hk => ?_, fun r hr => ?_, ⟨q1, ?_, ?_, ?_, ?_⟩⟩, fun o a b => ?_⟩
    · obtain ⟨P1, P2, P3⟩ := hP m hm
      have hrow : ∃ k, k ≤ R ∧ rw6 m = k + 2 ∧ rw6 m < 9 ∧ d (oa6 k) 5 = w' (ab_ m + 3) ∧ rg_ (w' (2948 + 1200 * m + T)) 0 9900 ∧ w' (ab_ m + 3) = w (ab_ m + 3) + w' (2948 + 1200 * m + T) := by
        by_cases h6m : m = 6
        · subst h6m
          have ei : 2948 + 1200 * 6 + T = 10148 + T := by omega
          rw [ei, x5.1]
          exact ⟨0, by omega, rfl, by decide, hp6, x5.2⟩
        · have hmR : m < R := by unfold am6 at hm; omega
          refine ⟨m + 1, by omega, by unfold rw6; rw [if_neg h6m], by unfold rw6; rw [if_neg h6m]; omega, ?_, ?_⟩
          · have eo : oa6 (m + 1) = 3 * m + 15 := by unfold oa6; rw [if_neg (by omega)]; omega
            rw [eo]
            exact hpr m hmR
          · rw [(x6 m hmR).1]
            exact (x6 m hmR).2
      obtain ⟨k, hk, hrw, hr9, hdk, hrg, hsum⟩ := hrow
      have hcs : ∀ k, k ≤ T → nsm (cs_ w' m) k = nsm (cs_ w m) k := fun k hk => nsm_congr k (fun r hr => by unfold cs_; rw [keep m r hm (by omega)])
      have htot : w' (ab_ m + 3) = nI (nsm (cs_ w' m) (T + 1)) := by
        show _ = nI (nsm (cs_ w' m) T + ix_ (w' (2948 + 1200 * m + T)))
        rw [hsum, P3, hcs T (Nat.le_refl _), ← nI_add, ← hrg.1]
      refine ⟨fun k0 hk0 => ?_, fun k0 hk0 => ?_, htot⟩
      · rw [hrw, p2 k hk]
        by_cases hc : k0 = T + 1
        · subst hc
          rw [up_a, hdk, htot]
        · rw [up_n hc, pt_o (by omega), so _ (by omega) (by omega), qo _ (by omega), zo _ (by omega) (by omega), ← hrw, P1 k0 (by omega), hcs k0 (by omega)]
      · by_cases hc : k0 = T
        · subst hc
          exact hrg
        · rw [keep m k0 hm (by omega)]
          exact P2 k0 (by omega)
    · rw [fo 9 (by omega) (by omega), f28 9 (by omega) (by omega), a9]
      by_cases hc : k = T
      · subst hc
        rw [if_pos rfl, x3]
        exact ⟨rfl, rg_n (Nat.zero_le _) (by omega) (by omega)⟩
      · rw [if_neg hc, x13 (548 + k) (by omega) (by omega) (by omega)]
        exact hTk k (by omega)
    · obtain ⟨c1, c2, c3⟩ := hC r hr
      have hcn : cnt (fun k => w' (1748 + k)) (nI r) T = cnt (fun k => w (1748 + k)) (nI r) T := cnt_congr T (fun k hk => x13 _ (by omega) (by omega) (by omega))
      refine ⟨?_, ?_, ?_⟩
      · rw [fo 10 (by omega) (by omega), f28 10 (by omega) (by omega), a10, (x4 r hr).1]
        by_cases hc : r = r9
        · subst hc
          rw [if_pos rfl, if_pos rfl, c1]
        · rw [if_neg hc, if_neg hc, c1, Int32.add_zero]
      · rw [fo 11 (by omega) (by omega), f28 11 (by omega) (by omega), a11, (x4 r hr).2]
        by_cases hc : r = r9
        · subst hc
          rw [if_pos rfl, if_pos rfl, c2]
        · rw [if_neg hc, if_neg hc, c2, Int32.add_zero]
      · rw [fo 12 (by omega) (by omega), f28 12 (by omega) (by omega), a12]
        show _ = nI (cnt (fun k => w' (1748 + k)) (nI r) T + if w' (1748 + T) = nI r then 1 else 0)
        rw [hcn, x9]
        by_cases hc : r = b
        · subst hc
          rw [if_pos rfl, if_pos rfl, c3, nI_1]
        · rw [if_neg hc, if_neg (fun z => hc ((nI_eq (by omega) (by omega)).mp z).symm), c3]
          rfl
    · rw [f0 10 (by decide), sj 10 (by decide), q2]
    · rw [f0 11 (by decide), sj 11 (by decide), q3]
    · rw [f0 12 (by decide), sj 12 (by decide), q4]
    · rw [f0 13 (by decide), sj 13 (by decide), qj 13 (by decide) (by decide) (by decide), k3]
    · rw [fo o (by omega) (by omega), f28 o (by omega) (by omega), o28 o (by omega)]
  have tail : ∀ e28 : st_, (∀ o, (o < 9 ∨ 13 ≤ o) → e28 o = e o) → (∀ k, e28 9 k = if k = T then nI r9 else e 9 k) → (∀ r, e28 10 r = if r = r9 then e 10 r9 + 1 else e 10 r) → (∀ r, e28 11 r = if r = r9 then e 11 r9 + d 5 9 else e 11 r) → (∀ r, e28 12 r = if r = b then e 12 b + 1 else e 12 r) → wp_ (bn_ (fX5_hasRival (sb_ d 1)) fun r32 => if r32 = (0 : Int32) then (fX4_noteRound_j113 d e28) else (if (d 5 9) ≤ (d 8 9) then (fX4_noteRound_j113 d e28) else (bd_ (pt_ e28 0 13 ((e28 0 13) + (1 : Int32))) fun s58 => fX4_noteRound_j113 d s58))) (fun e' => R0 e' w' R (T + 1) ∧ ∀ o, 14 ≤ o → o < 20 → e' o = e o) := fun e28 o28 a9 a10 a11 a12 => by
    have hm := main e28 o28 a9 a10 a11 a12
    have e13 : e28 0 13 = w 24 := by rw [o28 0 (by omega), j5]
    refine wp_bne hasRival_e ?_
    have er : sb_ d 1 0 14 = w 21 := hrv
    rw [er]
    by_cases hv : w 21 = -1
    · rw [if_pos hv]
      exact wp_it rfl (hm e28 (fun _ _ => rfl) (fun _ _ => rfl) (by rw [x8, if_neg (fun z => z.1 hv), e13, Int32.add_zero]))
    · rw [if_neg hv]
      refine wp_if' (by decide) (wp_if (fun hc => ?_) (fun hc => wp_bd ?_))
      · exact hm e28 (fun _ _ => rfl) (fun _ _ => rfl) (by rw [x8, if_neg (fun z => Int32.not_lt.mpr hc z.2), e13, Int32.add_zero])
      · exact hm _ (fun o ho => pt_o ho) (fun j hj => pt_r hj) (by rw [x8, if_pos ⟨hv, Int32.not_le.mp hc⟩, pt_a, e13])
  unfold fX4_noteRound
  simp only [hd9, g1, ix_n (show T < 2147483648 by omega), ix_n (show r9 < 2147483648 by omega)]
  refine wp_if' (nI_ge (b := 1000) hT (by omega)) (wp_bne (hasRule_t (S := sb_ d 1) hdR h9 h6) (wp_if' (by decide) ?_))
  refine wp_gd (ib_n hT (by omega)) (wp_bd (wp_gd (ib_n (by omega) (by omega)) (wp_gd (ib_n (by omega) (by omega)) (wp_bd (wp_gd (ib_n (by omega) (by omega)) (wp_gd (ib_n (by omega) (by omega)) (wp_bd (wp_bne ec ?_))))))))
  simp only [ix_n (show b < 2147483648 by omega)]
  refine wp_gd (ib_n (by omega) (by omega)) (wp_gd (ib_n (by omega) (by omega)) (wp_bd (tail _ (fun o ho => ?_) (fun k => ?_) (fun k => ?_) (fun k => ?_) (fun k => ?_))))
  · simp (disch := omega) only [pt_o]
  · rw [pt_oo (by decide), pt_oo (by decide), pt_oo (by decide), pt_ap, if_pos rfl]
  · rw [pt_oo (by decide), pt_oo (by decide), pt_ap, if_pos rfl, pt_oo (by decide), pt_oo (by decide)]
  · rw [pt_oo (by decide), pt_ap, if_pos rfl, pt_oo (by decide), pt_oo (by decide), pt_oo (by decide), pt_oo (by decide)]
  · rw [pt_ap, if_pos rfl, pt_oo (by decide), pt_oo (by decide), pt_oo (by decide), pt_oo (by decide), pt_oo (by decide), pt_oo (by decide)]
theorem UPS.ok (h : UPS d) (hk : OK_ d d' R) (hD : DD d' w C R n) (e14 : d 1 14 = w 21) : UPS d' := by
  obtain ⟨u1, u2, u3⟩ := h
  obtain ⟨-, -, ⟨A1, A2, A3, A4⟩⟩ := hD
  refine ⟨?_, ?_, fun r hr => ?_⟩
  · have := A1.2.1
    rw [sb_ap] at this
    rw [this]
    exact A2.2.2.1
  · by_cases hv : w 21 = -1
    · rw [hk.2 (e14.trans hv)]
      exact u2
    · have := (A4 hv).1.2.1
      rw [sb_ap] at this
      rw [this]
      exact (A4 hv).2.2.2.1
  · by_cases hrR : r < R
    · have := (A3 r hrR).1.2.1
      rw [sb_ap] at this
      rw [this]
      exact (A3 r hrR).2.2.2.1
    · rw [hk.1 _ (by omega) (by omega)]
      exact u3 r hr
theorem UPS.x33 (h : UPS d) (he : ∀ o, o < 33 → d' o = d o) : UPS d' := by
  obtain ⟨u1, u2, u3⟩ := h
  refine ⟨by rw [he 5 (by omega)]; exact u1, by rw [he 8 (by omega)]; exact u2, fun r hr => by rw [he _ (by omega)]; exact u3 r hr⟩
theorem R0.ext (h : R0 e w R T) (h6 : R ≤ 6) (ho : ∀ o, o < 41 → (o < 14 ∨ 20 ≤ o) → e' o = e o) : R0 e' w R T := by
  obtain ⟨⟨g0, g1, g16, gT⟩, hV, hP, hTk, hC, ⟨j1, j2, j3, j4, j5⟩⟩ := h
  have k0 := ho 0 (by omega) (by omega)
  refine ⟨⟨by rw [k0]; exact g0, by rw [k0]; exact g1, g16, gT⟩, hV.ext (by rw [k0]) (fun o a b => ho o (by omega) (by omega)), fun m hm => ?_, fun k hk => ?_, fun r hr => ?_, ⟨j1, by rw [k0]; exact j2, by rw [k0]; exact j3, by rw [k0]; exact j4, by rw [k0]; exact j5⟩⟩
  · have := rw6_b hm h6
    rw [ho (rw6 m) (by omega) (by omega)]
    exact hP m hm
  · rw [ho 9 (by omega) (by omega)]
    exact hTk k hk
  · rw [ho 10 (by omega) (by omega), ho 11 (by omega) (by omega), ho 12 (by omega) (by omega)]
    exact hC r hr
theorem RR.ext (h : RR e w R T) (h6 : R ≤ 6) (ho : ∀ o, o < 41 → e' o = e o) : RR e' w R T := ⟨h.1.ext h6 (fun o a _ => ho o a), fun r o hr hoR => by rw [ho _ (by omega)]; exact h.2 r o hr hoR⟩
theorem makeRound_p (hD : DD (sb_ g 1) (t 1) C R n) (hU : UPS (sb_ g 1)) (hR : RR (sb_ g 34) (t 1) R T) (hT : T < 1000) : ∃ g' t' n', fX2_makeRound g = some g' ∧ fX8_round t = some t' ∧ mo_ t t' ∧ DD (sb_ g' 1) (t' 1) C R n' ∧ UPS (sb_ g' 1) ∧ RR (sb_ g' 34) (t' 1) R (T + 1) ∧ ∃ br, fX1_isBreach (sb_ g' 1) = some br ∧ ((br = 0 ∧ t' 1 17 = t 1 17) ∨ (br = 1 ∧ t' 1 17 = t 1 17 + 1)) := by
  have hB := hD.rb
  have h1 := hB.1.1
  have h6 := hB.1.2.1
  obtain ⟨hR0, hX⟩ := hR
  have hT16 := hR0.1.2.2.1
  have into : ∀ (s r : st_) (o : Nat), o < 33 → sb_ (mg_ s 1 33 r) 1 o = r o := fun s r o ho => by
    rw [sb_ap, mg_i (by omega) (by omega), Nat.add_sub_cancel_left]
  have into2 : ∀ (s r : st_) (o : Nat), o < 41 → sb_ (mg_ s 34 41 r) 34 o = r o := fun s r o ho => by
    rw [sb_ap, mg_i (by omega) (by omega), Nat.add_sub_cancel_left]
  have over : ∀ (s r : st_) (o : Nat), o < 41 → sb_ (mg_ s 1 33 r) 34 o = sb_ s 34 o := fun s r o ho => by
    rw [sb_ap, sb_ap, mg_o (by omega)]
  have under : ∀ (s r : st_) (o : Nat), o < 33 → sb_ (mg_ s 34 41 r) 1 o = sb_ s 1 o := fun s r o ho => by
    rw [sb_ap, sb_ap, mg_o (by omega)]
  obtain ⟨d1, e1, f1⟩ := round_g hD hT16 (by omega)
  obtain ⟨d2, e2, f2⟩ := f1 (sb_ (mg_ g 1 33 d1) 1) (fun o ho => into g d1 o ho)
  unfold fX2_makeRound
  generalize hs5 : mg_ g 1 33 d1 = s5 at e2
  generalize hs11 : mg_ s5 1 33 d2 = s11
  have i11 : ∀ o, o < 33 → sb_ s11 1 o = d2 o := fun o ho => by rw [← hs11]; exact into s5 d2 o ho
  have v11 : ∀ o, o < 41 → sb_ s11 34 o = sb_ g 34 o := fun o ho => by rw [← hs11, over s5 d2 o ho, ← hs5, over g d1 o ho]
  -- what comes of the serving, at the duel behind the notes of swaps
  obtain ⟨d3, t', n', r9, e3, e4, hm, hD3, h9, q1, q2, q3, q4, q5, hk, hE⟩ := f2 (sb_ s11 1) i11
  obtain ⟨r13, e5, w1, w2⟩ := noteSwaps_w (e := sb_ s11 34) (d := sb_ s11 1) (f := cby (sb_ s11 1)) h1 h6 h9 q1 q3 (by rw [v11 0 (by omega)]; exact hR0.1.1) (fun o ho => hE.1 (sb_ s11 1) (fun _ _ => rfl) o ho)
  generalize hs17 : mg_ s11 34 41 r13 = s17
  have i17 : ∀ o, o < 33 → sb_ s17 1 o = sb_ s11 1 o := fun o ho => by rw [← hs17]; exact under s11 r13 o ho
  obtain ⟨d3', t'', n'', r9', e3', e4', hm', hD3', h9', q1', q2', q3', q4', q5', hk', hE'⟩ := f2 (sb_ s17 1) (fun o ho => (i17 o ho).trans (i11 o ho))
  have et : t'' = t' := Option.some.inj (e4'.symm.trans e4)
  have er9 : r9' = r9 := by
    have h1 : sb_ s17 1 0 12 = sb_ s11 1 0 12 := by rw [i17 0 (by omega)]
    rw [q1', q1] at h1
    exact (nI_eq (by omega) (by omega)).mp h1
  subst et er9
  generalize hs23 : mg_ s17 1 33 d3' = s23
  have i23 : ∀ o, o < 33 → sb_ s23 1 o = d3' o := fun o ho => by rw [← hs23]; exact into s17 d3' o ho
  have v23 : ∀ o, o < 41 → sb_ s23 34 o = r13 o := fun o ho => by rw [← hs23, over s17 d3' o ho, ← hs17, into2 s11 r13 o ho]
  have hD23 : DD (sb_ s23 1) (t'' 1) C R n'' := hD3'.x33 i23
  -- swaps, as the model has them
  have hsw : ∀ o, o < R → cby (sb_ s17 1) o = cby (sb_ s11 1) o := fun o ho => by
    have a1 := hE.1 (sb_ s17 1) i17 o ho
    have a2 := hE'.1 (sb_ s17 1) (fun _ _ => rfl) o ho
    exact Option.some.inj (a2.symm.trans a1)
  have hR0' : R0 (sb_ s23 34) (t 1) R T := hR0.ext h6 (fun o a b => by rw [v23 o a, w1 o (by omega), v11 o a])
  have hEx : RE (sb_ s17 1) (sb_ s23 1) (t 1) (t'' 1) R T r9' := by
    obtain ⟨x1, x2, x3, x4, x5, x6, x7, x8, x9, ⟨reg, br, b1, b2, b3, b4⟩, x11⟩ := hE'
    have c5 : sb_ s23 1 5 = d3' 5 := i23 5 (by omega)
    have c8 : sb_ s23 1 8 = d3' 8 := i23 8 (by omega)
    refine ⟨x1, x2, x3, ?_, ?_, fun r hr => ?_, ?_, ?_, ?_, ⟨reg, br, regret_u hD3' hD23 b1, isBreach_u hD3' hD23 (by rw [x9.2]; exact rg_n (Nat.zero_le _) (by omega) (by omega)) b2, b3, b4⟩, x11⟩
    · rw [c5]; exact x4
    · rw [c5]; exact x5
    · rw [i23 _ (by omega)]; exact x6 r hr
    · have c50 : sb_ (sb_ s23 1) 5 0 = sb_ d3' 5 0 := c5
      unfold NTo at x7 ⊢
      rw [c50]
      exact x7
    · rw [c5, c8]; exact x8
    · have eb : bst (fun r => sb_ s23 1 (3 * r + 15) 5) (R - 1) = bst (fun r => d3' (3 * r + 15) 5) (R - 1) := bst_congr _ (fun r hr => by rw [i23 _ (by omega)])
      rw [eb]
      exact x9
  obtain ⟨r25, e6, y1, y2⟩ := noteRound_w (e := sb_ s23 34) (d := sb_ s23 1) (w := t 1) (w' := t'' 1) (R := R) (T := T) (r9 := r9') h1 h6 h9' (by rw [i23 0 (by omega)]; exact q2') (by rw [i23 1 (by omega)]; exact q4') (by rw [i23 1 (by omega)]; exact q5') hT hR0' hEx (by rw [i23 5 (by omega)]; exact hD3'.2.2.1.2.2.2.1) (fun r hr => by rw [i23 _ (by omega)]; exact (hD3'.2.2.2.2.1 r hr).1.2.2.2.1)
  have i29 : ∀ o, o < 33 → sb_ (mg_ s23 34 41 r25) 1 o = sb_ s23 1 o := fun o ho => under s23 r25 o ho
  have hD29 : DD (sb_ (mg_ s23 34 41 r25) 1) (t'' 1) C R n'' := hD23.x33 i29
  refine ⟨mg_ s23 34 41 r25, t'', n'', ?_, e4', hm', hD29, ?_, ⟨y1.ext h6 (fun o a _ => into2 s23 r25 o a), fun r o hr ho => ?_⟩, ?_⟩
  · rw [bn_e e1, bd_e, hs5, bn_e e2, bd_e, hs11, bn_e e5, bd_e, hs17, bn_e e3', bd_e, hs23, bn_e e6, bd_e]
  · exact (hU.ok hk' hD3' (hD.rv.trans (q5'.symm.trans hD3'.rv))).x33 (fun o ho => (i29 o ho).trans (i23 o ho))
  · rw [into2 s23 r25 _ (by omega), y2 _ (by omega) (by omega), v23 _ (by omega)]
    rw [hE'.2.1 _ (by omega)]
    by_cases hc : r = r9'
    · subst hc
      rw [w2, if_pos ho, if_pos (by omega), v11 _ (by omega), hX r o hr ho, hsw _ (by omega)]
      congr 2
      omega
    · rw [w1 _ (by omega), v11 _ (by omega), if_neg (by omega)]
      exact hX r o hr ho
  · obtain ⟨-, -, -, -, -, -, -, -, ⟨-, x10⟩, ⟨reg, br, b1, b2, b3, b4⟩, -⟩ := hE'
    refine ⟨br, isBreach_u hD3' hD29 (by rw [x10]; exact rg_n (Nat.zero_le _) (by omega) (by omega)) b2, ?_⟩
    rcases b4 with ⟨a, b, -⟩ | ⟨a, b, -⟩
    · exact Or.inl ⟨a, b⟩
    · exact Or.inr ⟨a, b⟩
end ROUNDS
