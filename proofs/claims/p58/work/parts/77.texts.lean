/-! a whole text, read by both -/
section WHOLE
variable {s s' u t t' S S' : st_} {ch : Nat → Nat} {L p q e C R K i : Nat} {w w' : Nat → Int32} {x : Int32}
theorem FD.drive (h : ∀ C, FD 2 S w C 0 0) (ho : ∀ o, o ≠ 0 → S' o = S o) (hj : ∀ j, j ≠ 0 → j ≠ 1 → S' 0 j = S 0 j) (h0 : S' 0 0 = nI C) (w0 : w' 0 = nI C) (h1 : S' 0 1 = w' 1) (hC : 2 ≤ C ∧ C ≤ 100) (hr : rg_ (w' 1) 0 (C - 1)) (hw : ∀ i, i ≠ 0 → i ≠ 1 → w' i = w i) : FD 0 S' w' C 0 0 := by
  obtain ⟨f1, f2, ⟨f3, f3'⟩, f4, f5, f6, f7, f8⟩ := h C
  refine ⟨fun i hai hi => ?_, fun r hr => absurd hr (by omega), ⟨fun z => ?_, fun z => ?_⟩, fun z => ?_, fun k hk => absurd hk (by omega), fun i hi hi2 => ?_, ?_, ?_⟩
  · by_cases hi0 : i = 0
    · subst hi0
      exact ⟨h0.trans w0.symm, w0, hC.1, hC.2⟩
    · by_cases hi1 : i = 1
      · subst hi1
        exact ⟨h1, hr⟩
      · have hb := hi.b
        have e := f1 i (by omega) hi
        have p0 : pj i ≠ 0 := fun z => hi0 (pj_i i hb 0 (by omega) hi (by omega) z)
        have p1 : pj i ≠ 1 := fun z => hi1 (pj_i i hb 1 (by omega) hi (by omega) z)
        rw [hj _ p0 p1, hw i hi0 hi1]
        exact e
  · rw [hw 5 (by omega) (by omega)] at z
    rw [hj 8 (by decide) (by decide), hw 6 (by omega) (by omega)]
    exact f3 z
  · rw [hw 5 (by omega) (by omega)] at z
    rw [hj 8 (by decide) (by decide)]
    exact f3' z
  · rw [hw 21 (by omega) (by omega)] at z
    rw [hj 15 (by decide) (by decide), hw 22 (by omega) (by omega)]
    exact f4 z
  · rw [hw i (by omega) (by omega)]
    exact f6 i hi hi2
  · rw [hw 19 (by omega) (by omega)]
    exact f7
  · rw [hw 25 (by omega) (by omega)]
    exact f8
theorem CE.drive (h : CE s ch L) : ∃ s', fX3_readDrive_j18 s = some s' ∧ s' 0 = s 0 ∧ s' 1 = s 1 := by
  unfold fX3_readDrive_j18
  rw [bn_e h.num, bd_e]
  have h2 : CE (pt_ s 2 0 0) ch L := h.of (pt_o (by decide)) (pt_o (by decide))
  rw [bn_e h2.num, bd_e]
  exact ⟨_, rfl, by dsimp only; rw [pt_o (by decide), pt_o (by decide)], by dsimp only; rw [pt_o (by decide), pt_o (by decide)]⟩
theorem drive_p (hB : BJ s t ch L p) (hF : ∀ C, FD 2 (sb_ s 2) (t 3) C 0 0) : ∃ s', fX3_readDrive s = some s' ∧ ((∃ t1 p1 C, fX8_readsAll t = bn_ (fX8_readsAll_l45 FU_ t1) fX8_readsAll_k45 ∧ JS s' t1 ch L p1 C 0 0 ∧ p + 1 ≤ p1 ∧ MF t t1) ∨ (∃ t1, fX8_readsAll t = some (t1, 0) ∧ EJ s' t1 ch L ∧ MF t t1)) := by
  obtain ⟨s', r, e1, hc, hs4, hw⟩ := word_p hB (w := 0) (by omega)
  have hqL := tq_L (ch := ch) hB.2.2.1
  have he := te_L (ch := ch) hB.2.2.1
  unfold fX3_readDrive fX8_readsAll
  rw [bn_e e1]
  have err : ∀ v : st_, CE v ch L → ∀ t1 : st_, t1 0 12 = v 1 5 → t1 0 11 = v 1 6 → ∃ v', fX3_readDrive_j18 v = some v' ∧ EJ v' t1 ch L := fun v hv t1 h1 h2 => by
    obtain ⟨v', k1, k2, k3⟩ := hv.drive
    exact ⟨v', k1, hv.of k2 k3, by rw [k3]; exact h1, by rw [k3]; exact h2⟩
  rcases hw with ⟨k, W, k1, k2, k3, k4⟩ | ⟨k1, k2, k3⟩
  · have hk10 : k < 10 := (List.getElem?_eq_some_iff.mp k1).1
    by_cases hk0 : k = 0
    · subst hk0
      have eW : W = sb_y 13 := by
        rcases stm_w k1 with ⟨_, z⟩ | ⟨z, _⟩ | ⟨z, _⟩ | ⟨z, _⟩ | ⟨z, _⟩ | ⟨z, _⟩ | ⟨z, _⟩ | ⟨z, _⟩ | ⟨z, _⟩ | ⟨z, _⟩
        · exact z
        all_goals omega
      subst eW k3
      have h5 : te ch L p - tq ch L p = 5 := k2.1
      dsimp only
      rw [if_pos (show nI 0 = (0 : Int32) from rfl), bn_e (tk_t hB (by omega) k2).1, if_neg (show ¬ (1 : Int32) = 0 by decide)]
      unfold fX3_readDrive_j18
      obtain ⟨s1, x, e2, hc2, h2⟩ := num_p k4 (pl := 0) (lo := 2) (hi := 100) (by omega) (by decide)
      rw [bn_e e2, bd_e]
      dsimp only
      rcases h2 with ⟨p1, t1, m1, m2, m3, m4, m5, m6⟩ | ⟨t1, m1, m2, m3⟩
      · obtain ⟨C, hC2, hC, rfl⟩ := ((rg_iff (lo := 2) (hi := 100) (by omega) (by omega)).mpr m4).ex
        have t0 : t1 3 0 = nI C := by rw [m5, up_a]
        have eC : nI C - (1 : Int32) = nI (C - 1) := pk_sub (b := 1) (by omega)
        rw [bn_e (show fX8_into _ (0 : Int32) (2 : Int32) (100 : Int32) = _ from m1), if_neg (show ¬ (1 : Int32) = 0 by decide), gd_t b0_, i0_, pt_a]
        dsimp only
        rw [t0, eC]
        obtain ⟨s2, y, e3, hc3, h3⟩ := num_p (m3.of (s' := pt_ s1 2 0 (nI C)) (t' := t1) (pt_o (by decide)) (pt_o (by decide)) rfl rfl) (pl := 1) (lo := 0) (hi := nI (C - 1)) (by omega) (nI_lt (b := 1000000) (by omega) (by omega))
        rw [bn_e e3, bd_e]
        dsimp only
        rcases h3 with ⟨p2, t2, n1, n2, n3, n4, n5, n6⟩ | ⟨t2, n1, n2, n3⟩
        · rw [bn_e (show fX8_into _ (1 : Int32) (0 : Int32) _ = _ from n1), if_neg (show ¬ (1 : Int32) = 0 by decide)]
          refine ⟨_, rfl, Or.inl ⟨t2, p2, C, rfl, ⟨n3.of (pt_o (by decide)) (pt_o (by decide)) rfl rfl, ?_⟩, by omega, (MF.sq.tr m6).tr n6⟩⟩
          have b2 : ∀ o, o ≠ 2 → 2 ≤ o → s2 o = s o := fun o h1 h2 => by rw [hc3.1 o (by omega), pt_o h1, hc2.1 o (by omega), hc.1 o (by omega)]
          have b22 : s2 2 = up_ (s 2) 0 (nI C) := by
            rw [hc3.1 2 (by decide)]
            exact pt_1 (by rw [hc2.1 2 (by decide), hc.1 2 (by decide)])
          have w2 : ∀ i, i ≠ 0 → i ≠ 1 → t2 3 i = t 3 i := fun i h0 h1 => by rw [n5, up_n h1, m5, up_n h0, sq_o (by decide)]
          refine FD.drive hF (C := C) (fun o ho => ?_) (fun j h0 h1 => ?_) ?_ ?_ ?_ ⟨hC2, hC⟩ ?_ w2
          · rw [sb_ap, sb_ap, pt_o (by omega), b2 _ (by omega) (by omega)]
          · show pt_ s2 2 1 y 2 j = s 2 j
            rw [pt_r h1, b22, up_n h0]
          · show pt_ s2 2 1 y 2 0 = nI C
            rw [pt_r (by decide), b22, up_a]
          · rw [n5, up_n (by decide), t0]
          · show pt_ s2 2 1 y 2 1 = t2 3 1
            rw [pt_a, n5, up_a]
          · rw [n5, up_a]
            exact (rg_iff (lo := 0) (by omega) (by omega)).mpr n4
        · rw [bn_e (show fX8_into _ (1 : Int32) (0 : Int32) _ = _ from n1), if_pos rfl]
          exact ⟨_, rfl, Or.inr ⟨t2, rfl, n3.of (pt_o (by decide)) (pt_o (by decide)), (MF.sq.tr m6).tr n2⟩⟩
      · have h3 : CE (pt_ s1 2 0 x) ch L := m3.1.of (pt_o (by decide)) (pt_o (by decide))
        rw [bn_e (show fX8_into _ (0 : Int32) (2 : Int32) (100 : Int32) = _ from m1), if_pos rfl, bn_e h3.num, bd_e]
        exact ⟨_, rfl, Or.inr ⟨t1, rfl, m3.of (by dsimp only; rw [pt_o (by decide), pt_o (by decide)]) (by dsimp only; rw [pt_o (by decide), pt_o (by decide)]), MF.sq.tr m2⟩⟩
    · have hn : ¬ TK ch (tq ch L p) (te ch L p) (sb_y 13) := fun z => by
        have e := k2.u z
        rcases stm_w k1 with ⟨y, _⟩ | ⟨_, y⟩ | ⟨_, y⟩ | ⟨_, y⟩ | ⟨_, y⟩ | ⟨_, y⟩ | ⟨_, y⟩ | ⟨_, y⟩ | ⟨_, y⟩ | ⟨_, y⟩
        · exact hk0 y
        all_goals exact absurd (y.symm.trans e) (by decide)
      subst k3
      dsimp only
      rw [if_neg (show ¬ nI k = (0 : Int32) from fun z => hk0 ((nI_eq (b := 0) (by omega) (by omega)).mp z)), bn_e fail_e, if_pos k4.2.2.2.2.2.1, hs4, bn_e (tk_f hB (by omega) hn).1, if_pos rfl, bn_e (fails_q hB.2.2.2.2.2.2)]
      have hce : CE (pt_ (pt_ s' 1 5 1) 1 6 (nI (tq ch L p))) ch L := ⟨k4.1.fr ((CFr.pt (by omega)).tr (CFr.pt (by omega))), ⟨_, he.2, by rw [pt_r (by decide), pt_r (by decide)]; exact k4.2.2.2.1⟩, by rw [pt_r (by decide), pt_a]; decide⟩
      obtain ⟨v, v1, v2⟩ := err _ hce (fl_ (sq t (tq ch L p) (tq ch L p)) 1 (tq ch L p)) (by unfold fl_; rw [pt_r (by decide), pt_a, pt_r (by decide), pt_a]) (by unfold fl_; rw [pt_a, pt_a])
      exact ⟨v, v1, Or.inr ⟨_, rfl, v2, MF.sq.tr MF.fl⟩⟩
  · subst k1
    dsimp only
    rw [if_neg (show ¬ (-1 : Int32) = (0 : Int32) by decide), bn_e k3.1.fail, bn_e (tk_f hB (by omega) (k2 0 _ rfl)).1, if_pos rfl, bn_e (fails_q hB.2.2.2.2.2.2)]
    obtain ⟨v, v1, v2⟩ := err _ k3.1 _ k3.2.1 k3.2.2
    exact ⟨v, v1, Or.inr ⟨_, rfl, v2, MF.sq.tr MF.fl⟩⟩
/-- behind a semicolon, or at the end -/
theorem hasMore_p (hB : BJ s t ch L p) : ∃ s' x, fX3_hasMore s = some (s', x) ∧ CFr s s' ∧ ((tq ch L p < L ∧ ch (tq ch L p) = 59 ∧ x = 1 ∧ BJ s' (sq t (tq ch L p) (tq ch L p + 1)) ch L (tq ch L p + 1)) ∨ (tq ch L p < L ∧ ch (tq ch L p) ≠ 59 ∧ x = 0 ∧ CE s' ch L ∧ er_ s' 1 (nI (tq ch L p))) ∨ (tq ch L p = L ∧ x = 0 ∧ s' 1 5 = 0)) := by
  obtain ⟨hC, hM, hpL, h3, h9, h5, h12⟩ := hB
  have hL := hC.1
  obtain ⟨r, er, r1, r2, r3⟩ := skip_w hC h3 hpL
  have hq : rE (spb ch) L p = tq ch L p := rfl
  rw [hq] at r2
  have hqL := (tq_L (ch := ch) hpL).2
  generalize tq ch L p = q at r2 hqL hq ⊢
  have hx := hC.fr r1
  unfold fX3_hasMore
  rw [bn_e er, if_pos (by rw [r3 5 (by decide)]; exact h5)]
  by_cases hqlt : q < L
  · rw [if_pos (by rw [r2, hx.2.2.1]; exact nI_lt hqlt (by omega)), gd_t (tx_1 hx), gd_t (by rw [r2]; exact ib_n (by omega) (by omega))]
    have eix : ix_ (r 1 3) = q := by rw [r2]; exact ix_n (by omega)
    rw [eix]
    by_cases h59 : ch q = 59
    · rw [if_pos (show r 0 q = (59 : Int32) from (cb_eq hx hqlt (c := 59) (by omega)).mpr h59), r2, nI_1, bd_e]
      refine ⟨_, _, rfl, r1.tr (CFr.pt (by omega)), Or.inl ⟨hqlt, h59, rfl, hx.fr (CFr.pt (by omega)), hM.sq, by omega, pt_a, sq_p, ?_, ?_⟩⟩
      · rw [pt_r (by decide), r3 5 (by decide)]
        exact h5
      · rw [sq_j (by decide) (by decide)]
        exact h12
    · rw [if_neg (show ¬ r 0 q = (59 : Int32) from fun z => h59 ((cb_eq hx hqlt (c := 59) (by omega)).mp z)), bn_e fail_e, if_pos (by rw [r3 5 (by decide)]; exact h5), r2]
      refine ⟨_, _, rfl, (r1.tr (CFr.pt (by omega))).tr (CFr.pt (by omega)), Or.inr (Or.inl ⟨hqlt, h59, rfl, ⟨(hx.fr (CFr.pt (by omega))).fr (CFr.pt (by omega)), ⟨q, hqL, by rw [pt_r (by decide), pt_r (by decide), r2]⟩, by rw [pt_r (by decide), pt_a]; decide⟩, ?_, pt_a⟩)⟩
      rw [pt_r (by decide), pt_a]
  · rw [if_neg (by rw [r2, hx.2.2.1]; exact nI_nlt (by omega) (by omega))]
    exact ⟨r, 0, rfl, r1, Or.inr (Or.inr ⟨by omega, rfl, by rw [r3 5 (by decide)]; exact h5⟩)⟩
theorem CE.more (h : CE s ch L) : ∃ s', fX3_hasMore s = some (s', 0) ∧ CE s' ch L ∧ s' 1 5 = s 1 5 ∧ s' 1 6 = s 1 6 := by
  obtain ⟨hC, ⟨p, hpL, h3⟩, h5⟩ := h
  obtain ⟨r, er, r1, r2, r3⟩ := skip_w hC h3 hpL
  unfold fX3_hasMore
  rw [bn_e er, if_neg (by rw [r3 5 (by decide)]; exact h5)]
  exact ⟨r, rfl, ⟨hC.fr r1, ⟨_, (tq_L (ch := ch) hpL).2, r2⟩, by rw [r3 5 (by decide)]; exact h5⟩, r3 5 (by decide), r3 6 (by decide)⟩
/-- what the reading of a whole text comes to -/
def TO (d t' : st_) (ch : Nat → Nat) (L C : Nat) (y : Int32) : Prop := (y = 1 ∧ d 1 5 = 0 ∧ t' 0 12 = 0 ∧ ∃ R K, FD 0 (sb_ d 2) (t' 3) C R K) ∨ (y = 0 ∧ EJ d t' ch L)
theorem byt_n {c : Nat} (h : byt ch L q = nI c) (hc : c < 256) : q < L ∧ (ch q < 256 → ch q = c) := by
  unfold byt at h
  by_cases hq : q < L
  · rw [if_pos hq] at h
    exact ⟨hq, fun h2 => (nI_eq (by omega) (by omega)).mp h⟩
  · rw [if_neg hq] at h
    exact absurd h.symm (nI_ne1 (by omega))
theorem loop_p (h : JS s t ch L p C R K) (hi : i + 1 ≤ p) : ∃ d t' y, fX3_readText_l48 FU_ (nI i, s) = some d ∧ bn_ (fX8_readsAll_l45 FU_ t) fX8_readsAll_k45 = some (t', y) ∧ TO d t' ch L C y ∧ MF t t' := by
  have hL := h.1.1.1
  have hFU : 600 < FU_ := Nat.le_of_ble_eq_true rfl
  obtain ⟨b, d, e1, e2, hP⟩ := it_lag (f := fun v => fX8_readsAll_b45 v) (g := fun v => fX3_readText_b48 v.1 v.2) (fun k v u => ∃ p i R K, p + k = L ∧ u.1 = nI i ∧ i + 1 ≤ p ∧ JS u.2 v ch L p C R K ∧ MF t v) (fun b d => ∃ t' y, fX8_readsAll_k45 b = some (t', y) ∧ TO d t' ch L C y ∧ MF t t') (L - p) FU_ FU_ t (nI i, s) (by omega) (by omega) ⟨p, i, R, K, by have := h.1.2.2.1; omega, rfl, hi, h, MF.r⟩ (fun k v u _ hJ => by
    obtain ⟨p, i, R, K, hpk, hu1, hip, hJ, hm⟩ := hJ
    obtain ⟨u1, z⟩ := u
    dsimp only at hu1 hJ
    subst hu1
    have hB := hJ.1
    have hpL := hB.2.2.1
    have hq := tq_L (ch := ch) hpL
    have hM := hB.2.1
    obtain ⟨z', x, em, hcz, hx⟩ := hasMore_p hB
    have hsee := see_e hM hB.2.2.2.2.1 hpL
    have hi500 : ¬ (500 : Int32) ≤ nI i := nI_ge (b := 500) (by omega) (by omega)
    rcases hx with ⟨x1, x2, x3, x4⟩ | ⟨x1, x2, x3, x4, x5⟩ | ⟨x1, x3, x4⟩
    · subst x3
      have eb : byt ch L (tq ch L p) = 59 := by
        unfold byt
        rw [if_pos x1, x2]
        rfl
      have hJ2 : JS z' (sq v (tq ch L p) (tq ch L p + 1)) ch L (tq ch L p + 1) C R K := ⟨x4, hJ.2.fr hcz (sq_o (by decide))⟩
      obtain ⟨z2, ez, hz⟩ := readStatement_p hJ2
      have eg : fX3_readText_b48 (nI i) z = some (.inl (nI (i + 1), z2)) := by
        unfold fX3_readText_b48
        rw [if_neg hi500, bn_e em, if_neg (show ¬ (1 : Int32) = 0 by decide), bn_e ez, nI_1]
      have ef : ∀ t1 y, fX8_readStatement (sq v (tq ch L p) (tq ch L p + 1)) = some (t1, y) → fX8_readsAll_b45 v = if y = (0 : Int32) then (some (.inr (.inl t1))) else (some (.inl t1)) := fun t1 y hy => by
        unfold fX8_readsAll_b45
        rw [bn_e hsee, if_pos eb]
        dsimp only
        rw [sq_p, nI_1, bd_e, sq_9, bn_e hy]
      rcases hz with ⟨t1, p1, R1, K1, m1, m2, m3, m4⟩ | ⟨t1, m1, m2, m3⟩
      · refine Or.inl ⟨t1, (nI (i + 1), z2), L - p1, ?_, ?_, eg, p1, i + 1, R1, K1, ?_, rfl, by omega, m3, (hm.tr MF.sq).tr m4⟩
        · have := m3.1.2.2.1
          omega
        · rw [ef t1 1 m1, if_neg (by decide)]
        · have := m3.1.2.2.1
          omega
      · obtain ⟨z3, em3, c1, c2, c3⟩ := m3.1.more
        refine Or.inr (Or.inr ⟨.inl t1, (nI (i + 1), z2), z3, ?_, eg, ?_, t1, 0, rfl, Or.inr ⟨rfl, c1, by rw [c2]; exact m3.2.1, by rw [c3]; exact m3.2.2⟩, (hm.tr MF.sq).tr m2⟩)
        · rw [ef t1 0 m1, if_pos rfl]
        · dsimp only
          unfold fX3_readText_b48
          rw [if_neg (show ¬ (500 : Int32) ≤ nI (i + 1) from nI_ge (b := 500) (by omega) (by omega)), bn_e em3, if_pos rfl]
    all_goals
      subst x3
      have hne : ¬ byt ch L (tq ch L p) = (59 : Int32) := fun z => by
        have hz := byt_n (c := 59) z (by omega)
        have := (hM.2.2 _ hz.1).1
        have := hz.2 this
        omega
      have eg : fX3_readText_b48 (nI i) z = some (.inr z') := by
        unfold fX3_readText_b48
        rw [if_neg hi500, bn_e em, if_pos rfl]
      have ef : fX8_readsAll_b45 v = some (.inr (.inr (sq v (tq ch L p) (tq ch L p)))) := by
        unfold fX8_readsAll_b45
        rw [bn_e hsee, if_neg hne]
      have hsee2 := see_e (hM.sq (q := tq ch L p) (p := tq ch L p)) sq_p hq.2
      rw [tq_i hpL, sq_sq] at hsee2
      refine Or.inr (Or.inl ⟨_, z', ef, eg, ?_⟩)
      unfold fX8_readsAll_k45
      show ∃ t' y, fX8_readsAll_x45_73 (sq v (tq ch L p) (tq ch L p)) = some (t', y) ∧ _
      unfold fX8_readsAll_x45_73 fX8_readsAll_j89
      rw [bn_e hsee2]
      dsimp only
    · have hne1 : ¬ byt ch L (tq ch L p) = (-1 : Int32) := fun z => by
        unfold byt at z
        rw [if_pos x1] at z
        have := (hM.2.2 _ x1).1
        exact nI_ne1 (by omega) z
      rw [if_neg hne1, bn_e (fails_q hB.2.2.2.2.2.2), if_pos rfl]
      refine ⟨_, _, rfl, Or.inr ⟨rfl, x4, ?_, ?_⟩, (hm.tr MF.sq).tr MF.fl⟩
      · rw [x5.1]
        unfold fl_
        dsimp only
        rw [pt_r (by decide), pt_a]
      · rw [x5.2]
        unfold fl_
        dsimp only
        rw [pt_a]
    · have e1 : byt ch L (tq ch L p) = -1 := by
        unfold byt
        rw [if_neg (by omega)]
      rw [if_pos e1]
      refine ⟨_, _, rfl, Or.inl ⟨rfl, x4, ?_, R, K, hJ.2.fr hcz (sq_o (by decide))⟩, hm.tr MF.sq⟩
      rw [sq_j (by decide) (by decide)]
      exact hB.2.2.2.2.2.2)
  obtain ⟨t', y, k1, k2, k3⟩ := hP
  refine ⟨d, t', y, e2, ?_, k2, k3⟩
  unfold fX8_readsAll_l45
  rw [bn_e e1]
  exact k1
end WHOLE
