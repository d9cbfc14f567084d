/-! calls that change the settings or the arms: the master, asks, requests, weights -/
theorem HH.eq {s t s' t' : st_} {C R n n' T : Nat} (h : HH s t C R n T) (hD : DD (sb_ s' 9) (t' 1) C R n') (hU : UPS (sb_ s' 9)) (hs : ∀ o, o < 41 → s' (42 + o) = s (42 + o)) (hw : ∀ i, i < 12584 → rI_ i → t' 1 i = t 1 i) : HH s' t' C R n' T := by
  have h6 := h.1.rb.1.2.1
  exact ⟨hD, hU, (h.2.2.ext h6 (fun o ho => hs o ho)).wx h6 hw⟩
section CHANGE2
variable {s s' t t' d : st_} {C R n T k : Nat} {v x : Int32}
theorem HH.n5 (h : HH s t C R n T) : sb_ s 9 5 2 = nI n := h.1.2.2.1.2.2.1.trans h.1.2.2.2.1.2.2.2.1
theorem HH.n6 (h : HH s t C R n T) : t 1 (ab_ 6 + 2) = nI n := h.1.2.2.2.1.2.2.2.1
theorem HH.n20 (h : HH s t C R n T) : n ≤ 20 := h.1.2.2.2.1.2.2.2.2.1
/-- what lies at a place of the class when its duel is put back -/
theorem put9 {d : st_} {o : Nat} (ho : o < 33) : sb_ (mg_ s 9 33 d) 9 o = d o := by rw [sb_ap, mg_i (by omega) (by omega), Nat.add_sub_cancel_left]
theorem UPS.x33' {d' : st_} (h : UPS d) (he : ∀ o, o < 33 ∧ o ≠ 12 → d' o = d o) : UPS d' := ⟨by rw [he 5 (by omega)]; exact h.1, by rw [he 8 (by omega)]; exact h.2.1, fun r hr => by rw [he _ (by omega)]; exact h.2.2 r hr⟩
theorem request_p (h : HH s t C R n T) (i0 : Int32) : QU g1_ s t (fX7_request s i0) (fX8_request t i0) := by
  obtain ⟨hC2, hC, hS0, hw0, hR1, hR6, hS4, hw4, hS2, hS3, hw2, hw3, hk⟩ := id h.1.1.1
  have h20 := h.n20
  unfold fX7_request fX8_request
  by_cases hx : 0 ≤ i0 ∧ i0 ≤ nI (C - 1)
  · rw [bn_e (reqCyl_t hS0 hC2 hx), tb_l, bn_e (noCyl_t hw0 hC2 hC hx), if_pos rfl, bn_e (isFull_e h.n5 h20)]
    dsimp only
    rw [bn_e (misFull_e (t := pt_ t 0 6 0) h.t6.n6 h20)]
    by_cases hn : n < 20
    · rw [if_pos (by rw [if_pos hn]), if_pos (by rw [if_pos hn])]
      obtain ⟨d', t', e1, e2, hm, hD, hw, ho, hk⟩ := come_dd (t := pt_ t 0 6 0) h.t6.1 hn ((rg_iff (lo := 0) (by omega) (by omega)).mpr hx)
      have hwt : ∀ i, (i < 72 ∨ 448 ≤ i ∨ (72 ≤ i ∧ (i - 72) % 47 = 3)) → t' 1 i = t 1 i := fun i hi => (hw i hi).trans (pt_oo (by decide))
      have hD2 : DD (sb_ (mg_ s 9 33 d') 9) (t' 1) C R (n + 1) := hD.x33 (fun o a => put9 a)
      have hU2 : UPS (sb_ (mg_ s 9 33 d') 9) := (h.2.1.ok hk hD (h.1.rv.trans (hwt 21 (by omega)).symm)).x33 (fun o a => put9 a)
      rw [bn_e e1, bd_e, bn_e e2, bn_e (show fX8_armOf t' (6 : Int32) (2 : Int32) = _ from armOf_2 (m := 6) (by omega))]
      have ev : mg_ s 9 33 d' 14 2 = t' 1 (ab_ 6 + 2) := hD2.2.2.1.2.2.1
      rw [ev]
      exact QU.good rfl rfl ((hm.2 6 (by decide)).trans pt_a) (CG.of (fun o a => mg_o (by omega)) (fun m a => mg_o (by omega))) (MG.t6.tr (MG.mo hm)) (h.eq hD2 hU2 (fun o _ => mg_o (by omega)) (fun i _ a => hwt i (by unfold rI_ at a; omega)))
    · rw [if_neg (by rw [if_neg hn]; decide), if_neg (by rw [if_neg hn]; decide)]
      exact QU.good (t' := pt_ t 0 6 0) rfl rfl pt_a CG.r MG.t6 h.t6
  · rw [bn_e (reqCyl_f hS0 hC2 hx), tb_r, bn_e (noCyl_f hw0 hC2 hC hx), if_neg (show ¬ (1 : Int32) = 0 by decide)]
    exact QU.bad 1 (y := 0) rfl rfl (by decide) h
theorem setMaster_j (h : HH s t C R n T) {t1 : st_} (h1 : t1 1 = t 1) (h6 : t1 0 6 = 0) (hm1 : MG t t1) {kind y : Int32} (hk : rg_ kind 0 2) (hr : kind = 2 → rg_ y 0 (R - 1)) (hr2 : ¬ kind = 2 → y = 0) (i1 : Int32) (hy : kind = 2 → i1 = y) : QU g1_ s t (fX7_setMaster_j16 s kind i1) (fX8_setMaster_j68 kind (t1, (0 : Int32)) y) := by
  obtain ⟨⟨b1, b2⟩, b3, b4, ⟨b5, b6⟩, ⟨b7, b8⟩, ⟨b9, b10, b11, b12⟩, ⟨b13, b14⟩, b15, b16⟩ := h.1.gt
  unfold fX7_setMaster_j16 fX8_setMaster_j68
  rw [bn_e takeMaster_e, bd_e, gd_t b6_, i6_, bd_e]
  dsimp only
  rw [bn_e (show fX8_sets (pt_ t1 1 6 y) (5 : Int32) kind = _ from sets_e (k := 5) (by omega))]
  dsimp only
  obtain ⟨m1, m2, m3, m4⟩ := mast_h (s := s) (a := 9) (b := 10) (kind := kind) (y := if kind = 2 then i1 else -1) rfl
  generalize hs1 : mg_ s 10 4 (pt_ (pt_ (sb_ s 10) 0 7 kind) 0 8 (if kind = 2 then i1 else -1)) = s1 at m1 m2 m3 m4
  generalize ht2 : pt_ (pt_ t1 1 6 y) 1 5 kind = t2
  have q1 : ∀ j, j ≠ 7 → j ≠ 8 → sb_ s1 9 1 j = sb_ s 9 1 j := m2
  have qw : ∀ i, i ≠ 5 → i ≠ 6 → t2 1 i = t 1 i := fun i a b => by rw [← ht2, pt_r a, pt_r b, h1]
  have qwx : t2 1 5 = kind := by rw [← ht2]; exact pt_a
  have qwy : t2 1 6 = y := by rw [← ht2, pt_r (by decide)]; exact pt_a
  have q0 : sb_ s1 9 0 11 = sb_ s 9 0 11 := by rw [sb_ap, m1 9 (by decide)]; rfl
  have q4 : sb_ s1 9 4 = sb_ s 9 4 := m1 13 (by decide)
  refine QU.good (s' := s1) (t' := t2) (v := s 10 7) rfl ?_ ?_ (CG.of (fun o ho => m1 o (by omega)) (fun m hm => m1 _ (by omega))) ?_ (h.st (fun o a b c => m1 o b) (fun j hj => m2 j (by omega) (by omega)) (fun j hj => by rw [m1 9 (by decide)]) (fun i hi => qw i (by omega) (by omega)) ?_)
  · rw [pt_r (by decide), h1]
    exact congrArg (fun z => some (t2, z)) (show t 1 5 = s 10 7 from b1.symm)
  · rw [← ht2, pt_oo (by decide), pt_oo (by decide), h6]
  · rw [← ht2]; exact (hm1.tr MG.p1).tr MG.p1
  · have w8 : ∀ z, sb_ s1 9 1 8 = z ↔ (if kind = 2 then i1 else -1) = z := fun z => by rw [← m4]; exact Iff.rfl
    exact ⟨⟨(show sb_ s1 9 1 7 = kind from m3).trans qwx.symm, by rw [qwx]; exact hk⟩, fun z => by rw [qwx] at z; exact ⟨(w8 _).mpr (by rw [if_pos z, qwy, hy z]), by rw [qwy]; exact hr z⟩, fun z => by rw [qwx] at z; exact (w8 _).mpr (if_neg z), ⟨by rw [q1 9 (by decide) (by decide), qw 7 (by decide) (by decide)]; exact b5, by rw [qw 7 (by decide) (by decide)]; exact b6⟩, ⟨by rw [q1 11 (by decide) (by decide), qw 9 (by decide) (by decide)]; exact b7, by rw [qw 9 (by decide) (by decide)]; exact b8⟩, ⟨by rw [q1 12 (by decide) (by decide), qw 10 (by decide) (by decide)]; exact b9, by rw [qw 10 (by decide) (by decide)]; exact b10, fun k hk => by rw [qw 10 (by decide) (by decide)] at hk; have := b10.2.2; rw [q4, qw (56 + k) (by omega) (by omega)]; exact b11 k hk, by rw [qw 15 (by decide) (by decide), qw 10 (by decide) (by decide)]; exact b12⟩, ⟨by rw [q1 17 (by decide) (by decide), qw 11 (by decide) (by decide)]; exact b13, by rw [q1 18 (by decide) (by decide), qw 12 (by decide) (by decide)]; exact b14⟩, by rw [q1 16 (by decide) (by decide), qw 13 (by decide) (by decide)]; exact b15, by rw [q0, qw 14 (by decide) (by decide)]; exact b16⟩
theorem QU.g {g g' : Nat → Int32} {A : Option (st_ × (Int32 ⊕ Nat))} {B : Option (st_ × Int32)} (h : QU g s t A B) (hg : ∀ r, A = some r → ∃ v, r.2 = .inl v) : QU g' s t A B := by
  obtain ⟨s', x, t', y, hA, hB, ho, hr⟩ := h
  obtain ⟨v, e⟩ := hg _ hA
  dsimp only at e
  subst e
  exact ⟨s', _, t', y, hA, hB, ho, hr⟩
theorem setMaster_i {kind i1 : Int32} : ∀ r, fX7_setMaster_j16 s kind i1 = some r → ∃ v, r.2 = .inl v := by
  intro r hr
  unfold fX7_setMaster_j16 at hr
  rw [bn_e takeMaster_e, bd_e] at hr
  exact ⟨_, by rw [← Option.some.inj hr]⟩
theorem setMaster_p (h : HH s t C R n T) (i0 i1 : Int32) : QU g3_ s t (fX7_setMaster s i0 i1) (fX8_setMaster t i0 i1) := by
  have hB := h.1.rb
  have hR6 := hB.1.2.1
  unfold fX7_setMaster fX8_setMaster fX8_setMaster_j18 fX8_setMaster_j42
  by_cases hx : 0 ≤ i0 ∧ i0 ≤ 2
  · rw [bn_e (within_t (lo := 0) (hi := 2) hx), tb_l, bn_e (show fX8_in (Int32.toInt64 i0) (0 : Int64) (2 : Int64) = some 1 from in_t (lo := 0) (hi := 2) hx), if_neg (show ¬ (1 : Int32) = 0 by decide), bn_e wrong_0, if_pos rfl]
    have hrg : rg_ i0 0 2 := (rg_iff (by omega) (by omega)).mpr hx
    by_cases h2 : i0 = 2
    · rw [if_pos h2, if_pos h2]
      rcases ruleC (R := R) i1 hR6 with ⟨r, hr, rfl⟩ | hxr
      · rw [bn_e (reqRule_t hB.1.2.2.1 hr hR6), tb_l]
        dsimp only
        rw [bn_e (isRule_t (t := pt_ t 0 6 0) (by rw [pt_oo (by decide)]; exact hB.1.2.2.2) hr hR6), if_neg (show ¬ (1 : Int32) = 0 by decide)]
        unfold fX8_setMaster_j43
        dsimp only
        rw [bn_e (thr_0 pt_a), if_pos rfl, if_pos h2]
        exact (setMaster_j h (t1 := pt_ t 0 6 0) (pt_o (by decide)) pt_a MG.t6 hrg (fun _ => rg_n (Nat.zero_le _) (by omega) (by omega)) (fun z => absurd h2 z) (nI r) (fun _ => rfl)).g setMaster_i
      · rw [bn_e (reqRule_f hB.1.2.2.1 hR6 hxr), tb_r]
        dsimp only
        rw [bn_e (isRule_f (t := pt_ t 0 6 0) (by rw [pt_oo (by decide)]; exact hB.1.2.2.2) hB.1.1 hR6 hxr), if_pos rfl]
        unfold fX8_setMaster_j43
        dsimp only
        rw [bn_e (thr_1 pt_a (by decide)), if_neg (show ¬ (1 : Int32) = 0 by decide)]
        dsimp only
        rw [pt_pt]
        exact QU.bad 0 (y := 0) rfl rfl (by decide) h
    · rw [if_neg h2, if_neg h2]
      unfold fX8_setMaster_j43
      dsimp only
      rw [bn_e (thr_0 pt_a), if_pos rfl, if_neg h2]
      exact (setMaster_j h (t1 := pt_ t 0 6 0) (pt_o (by decide)) pt_a MG.t6 hrg (fun z => absurd z h2) (fun _ => rfl) i1 (fun z => absurd z h2)).g setMaster_i
  · rw [bn_e (within_f (lo := 0) (hi := 2) hx), tb_r, bn_e (show fX8_in (Int32.toInt64 i0) (0 : Int64) (2 : Int64) = some 0 from in_f (lo := 0) (hi := 2) hx), if_pos rfl, bn_e wrong_1, if_neg (show ¬ (1 : Int32) = 0 by decide)]
    exact QU.bad 1 (y := 0) rfl rfl (by decide) h
theorem addAsk_p (h : HH s t C R n T) (i0 : Int32) : QU g1_ s t (fX7_addAsk s i0) (fX8_addAsk t i0) := by
  obtain ⟨hC2, hC, hS0, hw0, hR1, hR6, hS4, hw4, hS2, hS3, hw2, hw3, hk⟩ := id h.1.1.1
  obtain ⟨⟨b1, b2⟩, b3, b4, ⟨b5, b6⟩, ⟨b7, b8⟩, ⟨b9, b10, b11, b12⟩, ⟨b13, b14⟩, b15, b16⟩ := h.1.gt
  obtain ⟨K, _, hK, eK⟩ := b10.ex
  have e12 : s 10 12 = nI K := (show s 10 12 = t 1 10 from b9).trans eK
  unfold fX7_addAsk fX8_addAsk
  by_cases hx : 0 ≤ i0 ∧ i0 ≤ nI (C - 1)
  · rw [bn_e (reqCyl_t hS0 hC2 hx), tb_l, bn_e (noCyl_t hw0 hC2 hC hx), if_pos rfl, gd_t b10_, i10_, e12]
    dsimp only
    have t10 : (pt_ t 0 6 0) 1 10 = nI K := (pt_oo (by decide)).trans eK
    by_cases hK16 : K < 16
    · have ei : ix_ (nI K) = K := ix_n (by omega)
      have e56 : (56 : Int32) + nI K = nI (56 + K) := nI_add 56 K
      have ei6 : ix_ (nI (56 + K)) = 56 + K := ix_n (by omega)
      rw [if_pos (show nI K < (16 : Int32) from nI_lt (b := 16) hK16 (by omega)), if_neg (show ¬ (pt_ t 0 6 0) 1 10 = (16 : Int32) from fun z => by rw [t10] at z; have := (nI_eq (b := 16) (by omega) (by omega)).mp z; omega), t10, gd_t b10_, e56, gd_t (ib_n (by omega) (by omega)), bd_e, gd_t b10_, gd_t b10_, bd_e, gd_t b10_, ei6]
      have ep : fX5_putAsk (sb_ s 10) i0 = some (pt_ (pt_ (sb_ s 10) 3 K i0) 0 12 (nI (K + 1))) := by
        have e12' : sb_ s 10 0 12 = nI K := e12
        have e12'' : (pt_ (sb_ s 10) 3 K i0) 0 12 = nI K := (pt_oo (by decide)).trans e12'
        unfold fX5_putAsk
        rw [e12', if_neg (show ¬ (16 : Int32) ≤ nI K from nI_ge (b := 16) hK16 (by omega)), gd_t (ib_n hK16 (by omega)), ei, bd_e, e12'', bd_e, nI_1]
      rw [bn_e ep, bd_e]
      have t10' : (pt_ (pt_ t 0 6 0) 1 (56 + K) i0) 1 10 = nI K := by rw [pt_r (by omega), t10]
      rw [t10', nI_1]
      generalize hs1 : mg_ s 10 4 (pt_ (pt_ (sb_ s 10) 3 K i0) 0 12 (nI (K + 1))) = s1
      generalize ht1 : pt_ (pt_ (pt_ t 0 6 0) 1 (56 + K) i0) 1 10 (nI (K + 1)) = t1
      have m1 : ∀ o, o ≠ 10 → o ≠ 13 → s1 o = s o := fun o a b => by
        rw [← hs1]
        by_cases hc : 10 ≤ o ∧ o < 14
        · rw [mg_i (by omega) (by omega), pt_o (by omega), pt_o (by omega), sb_ap]
          congr 1
          omega
        · exact mg_o (by omega)
      have m2 : ∀ j, j ≠ 12 → s1 10 j = s 10 j := fun j a => by
        rw [← hs1, mg_i (by omega) (by omega)]
        show pt_ (pt_ (sb_ s 10) 3 K i0) 0 12 (nI (K + 1)) 0 j = _
        rw [pt_r a, pt_oo (by decide)]
        rfl
      have m3 : s1 10 12 = nI (K + 1) := by
        rw [← hs1, mg_i (by omega) (by omega)]
        exact pt_a
      have m4 : ∀ j, j ≠ K → s1 13 j = s 13 j := fun j a => by
        rw [← hs1, mg_i (by omega) (by omega)]
        show pt_ (pt_ (sb_ s 10) 3 K i0) 0 12 (nI (K + 1)) 3 j = _
        rw [pt_oo (by decide), pt_r a]
        rfl
      have m5 : s1 13 K = i0 := by
        rw [← hs1, mg_i (by omega) (by omega)]
        show pt_ (pt_ (sb_ s 10) 3 K i0) 0 12 (nI (K + 1)) 3 K = _
        rw [pt_oo (by decide), pt_a]
      have q1 : ∀ j, j ≠ 12 → sb_ s1 9 1 j = sb_ s 9 1 j := m2
      have q0 : sb_ s1 9 0 11 = sb_ s 9 0 11 := by rw [sb_ap, m1 9 (by decide) (by decide)]; rfl
      have qw : ∀ i, i ≠ 10 → i ≠ 56 + K → t1 1 i = t 1 i := fun i a b => by rw [← ht1, pt_r a, pt_r b, pt_oo (by decide)]
      have qwx : t1 1 10 = nI (K + 1) := by rw [← ht1]; exact pt_a
      have qwy : t1 1 (56 + K) = i0 := by rw [← ht1, pt_r (by omega)]; exact pt_a
      rw [m3, qwx]
      have ixK : ix_ (t 1 10) = K := by rw [eK]; exact ei
      have ixK1 : ix_ (t1 1 10) = K + 1 := by rw [qwx]; exact ix_n (by omega)
      rw [ixK] at b11 b12
      refine QU.good (s' := s1) (t' := t1) rfl rfl ?_ (CG.of (fun o ho => m1 o (by omega) (by omega)) (fun m hm => m1 _ (by omega) (by omega))) ?_ (h.st (fun o a b c => m1 o b c) (fun j hj => m2 j (by omega)) (fun j hj => by rw [m1 9 (by decide) (by decide)]) (fun i hi => qw i (by omega) (by omega)) ?_)
      · rw [← ht1, pt_oo (by decide), pt_oo (by decide), pt_a]
      · rw [← ht1]; exact (MG.t6.tr MG.p1).tr MG.p1
      · refine ⟨⟨by rw [q1 7 (by decide), qw 5 (by omega) (by omega)]; exact b1, by rw [qw 5 (by omega) (by omega)]; exact b2⟩, fun z => by rw [q1 8 (by decide), qw 6 (by omega) (by omega)]; exact b3 (by rw [← qw 5 (by omega) (by omega)]; exact z), fun z => by rw [q1 8 (by decide)]; exact b4 (fun y => z (by rw [qw 5 (by omega) (by omega)]; exact y)), ⟨by rw [q1 9 (by decide), qw 7 (by omega) (by omega)]; exact b5, by rw [qw 7 (by omega) (by omega)]; exact b6⟩, ⟨by rw [q1 11 (by decide), qw 9 (by omega) (by omega)]; exact b7, by rw [qw 9 (by omega) (by omega)]; exact b8⟩, ⟨(show sb_ s1 9 1 12 = nI (K + 1) from m3).trans qwx.symm, by rw [qwx]; exact rg_n (Nat.zero_le _) (by omega) (by omega), fun k hk => ?_, by rw [qw 15 (by omega) (by omega), ixK1]; exact b12.mono (Nat.le_refl _) (by omega)⟩, ⟨by rw [q1 17 (by decide), qw 11 (by omega) (by omega)]; exact b13, by rw [q1 18 (by decide), qw 12 (by omega) (by omega)]; exact b14⟩, by rw [q1 16 (by decide), qw 13 (by omega) (by omega)]; exact b15, by rw [q0, qw 14 (by omega) (by omega)]; exact b16⟩
        rw [ixK1] at hk
        by_cases hkK : k = K
        · subst hkK
          rw [qwy]
          exact ⟨m5, (rg_iff (lo := 0) (by omega) (by omega)).mpr hx⟩
        · have e : sb_ s1 9 4 k = sb_ s 9 4 k := m4 k hkK
          rw [e, qw _ (by omega) (by omega)]
          exact b11 k (by omega)
    · rw [if_neg (show ¬ nI K < (16 : Int32) from nI_nlt (b := 16) (by omega) (by omega)), if_pos (show (pt_ t 0 6 0) 1 10 = (16 : Int32) from t10.trans (by rw [show K = 16 by omega]; rfl))]
      exact QU.good (t' := pt_ t 0 6 0) rfl rfl pt_a CG.r MG.t6 h.t6
  · rw [bn_e (reqCyl_f hS0 hC2 hx), tb_r, bn_e (noCyl_f hw0 hC2 hC hx), if_neg (show ¬ (1 : Int32) = 0 by decide)]
    exact QU.bad 1 (y := 0) rfl rfl (by decide) h
theorem resetWeights_w : wp_ (fX1_resetWeights d) (fun d' => (∀ o, o ≠ 12 → d' o = d o) ∧ ∀ r, r < 6 → d' 12 r = nI 1000000) := by
  unfold fX1_resetWeights fX1_resetWeights_l2
  refine wp_bn (Q := fun d' => (∀ o, o ≠ 12 → d' o = d o) ∧ ∀ r, r < 6 → d' 12 r = nI 1000000) ?_ (fun x hx => wp_s hx)
  refine wp_up (fun k v => v.1 = nI k ∧ (∀ o, o ≠ 12 → v.2 o = d o) ∧ ∀ r, r < k → v.2 12 r = nI 1000000) 0 6 (Nat.zero_le _) (by omega) ⟨rfl, fun _ _ => rfl, fun r hr => absurd hr (by omega)⟩ (fun k v hk _ hv => ?_) (fun v hv => ?_)
  · obtain ⟨v1, z⟩ := v
    obtain ⟨e, hz, hz2⟩ := hv
    dsimp only at e hz hz2
    subst e
    unfold fX1_resetWeights_b2
    have ei : ix_ (nI k) = k := ix_n (by omega)
    simp only [ei]
    refine wp_if' (nI_ge (b := 6) hk (by omega)) (wp_gd (ib_n (by omega) (by omega)) (wp_bd (wp_l ⟨nI_1 k, fun o ho => (pt_o ho).trans (hz o ho), fun r hr => ?_⟩)))
    dsimp only
    by_cases hc : r = k
    · subst hc
      exact pt_a
    · rw [pt_r hc]
      exact hz2 r (by omega)
  · obtain ⟨v1, z⟩ := v
    obtain ⟨e, hz, hz2⟩ := hv
    dsimp only at e hz hz2
    subst e
    unfold fX1_resetWeights_b2
    exact wp_it (show (6 : Int32) ≤ nI 6 from Int32.le_refl _) (wp_r ⟨hz, hz2⟩)
theorem evenW_w (hw4 : t 1 4 = nI R) (h6 : R ≤ 6) : wp_ (fX8_evenWeights_l14 FU_ ((0 : Int32), t)) (fun t' => (∀ o, o ≠ 1 → t' o = t o) ∧ (∀ i, (26 ≤ i → i < 56 → (i - 26) % 5 ≠ 2) → t' 1 i = t 1 i) ∧ ∀ r, r < R → t' 1 (26 + 5 * r + 2) = nI 1000000) := by
  unfold fX8_evenWeights_l14
  refine wp_up (fun k v => v.1 = nI k ∧ (∀ o, o ≠ 1 → v.2 o = t o) ∧ (∀ i, (26 ≤ i → i < 56 → (i - 26) % 5 ≠ 2) → v.2 1 i = t 1 i) ∧ ∀ r, r < k → v.2 1 (26 + 5 * r + 2) = nI 1000000) 0 R (Nat.zero_le _) (by omega) ⟨rfl, fun _ _ => rfl, fun _ _ => rfl, fun r hr => absurd hr (by omega)⟩ (fun k v hk _ hv => ?_) (fun v hv => ?_)
  · obtain ⟨v1, z⟩ := v
    obtain ⟨e, hz, hz1, hz2⟩ := hv
    dsimp only at e hz hz1 hz2
    subst e
    unfold fX8_evenWeights_b14
    have e1 : (26 : Int32) + (5 : Int32) * nI k + (2 : Int32) = nI (26 + 5 * k + 2) := by
      show nI 26 + nI 5 * nI k + nI 2 = _
      rw [pk_mul, nI_add, nI_add]
    have ei : ix_ (nI (26 + 5 * k + 2)) = 26 + 5 * k + 2 := ix_n (by omega)
    simp only [i4_, e1, ei]
    refine wp_gd b4_ (wp_if' (by rw [hz1 4 (by omega), hw4]; exact nI_ge hk (by omega)) (wp_gd (ib_n (by omega) (by omega)) (wp_bd (wp_l ⟨nI_1 k, fun o ho => (pt_o ho).trans (hz o ho), fun i hi => ?_, fun r hr => ?_⟩))))
    · dsimp only
      rw [pt_r (by omega)]
      exact hz1 i hi
    · dsimp only
      by_cases hc : r = k
      · subst hc
        exact pt_a
      · rw [pt_r (by omega)]
        exact hz2 r (by omega)
  · obtain ⟨v1, z⟩ := v
    obtain ⟨e, hz, hz1, hz2⟩ := hv
    dsimp only at e hz hz1 hz2
    subst e
    unfold fX8_evenWeights_b14
    simp only [i4_]
    exact wp_gd b4_ (wp_it (by rw [hz1 4 (by omega), hw4]; exact Int32.le_refl _) (wp_r ⟨hz, hz1, hz2⟩))
theorem evenWeights_p (h : HH s t C R n T) : QW s t (fX7_evenWeights s) (fX8_evenWeights t) := by
  have hB := h.1.rb
  have hR1 := hB.1.1
  have hR6 := hB.1.2.1
  obtain ⟨hS, hV, hA⟩ := h.1
  obtain ⟨d', e1, h1, h2⟩ := resetWeights_w (d := sb_ s 9)
  obtain ⟨t', e2, k1, k2, k3⟩ := evenW_w (t := pt_ t 0 6 0) (R := R) (by rw [pt_oo (by decide)]; exact hB.1.2.2.2) hR6
  have k2' : ∀ i, (26 ≤ i → i < 56 → (i - 26) % 5 ≠ 2) → t' 1 i = t 1 i := fun i hi => (k2 i hi).trans (pt_oo (by decide))
  have ev : s 21 0 = t 1 28 := (hV.2.2.2.2.2.2.2.2.2.2 0 (by omega)).1
  unfold fX7_evenWeights fX8_evenWeights
  rw [gd_t (by decide), bn_e e1, bd_e, bd_e, bn_e (show fX8_of (pt_ t 0 6 0) (0 : Int32) (2 : Int32) = _ from of_e (r := 0) (j := 2) (by omega) (by omega)), bn_e e2]
  unfold fX8_evenWeights_k14 fX8_evenWeights_x14_45
  rw [i0_, ev, pt_oo (by decide)]
  refine ⟨_, _, _, rfl, rfl, CG.of (fun o ho => mg_o (by omega)) (fun m hm => mg_o (by omega)), MG.t6.tr ⟨fun o a b => k1 o (by omega), by rw [k1 0 (by decide)], by rw [k1 0 (by decide)]⟩, C, R, n, T, h.eq (n' := n) ?_ (h.2.1.x33' (fun o a => ?_)) (fun o _ => mg_o (by omega)) (fun i _ a => k2' i (by unfold rI_ at a; omega))⟩
  · refine DD.x33 (d := d') ⟨hS.of (fun o a b => h1 o (by omega)) (fun i hi => k2' i (by unfold sI_ at hi; omega)), ?_, (hA.dext hR6 (fun o ho => h1 o (by omega))).wext hR6 (fun i hi => k2' i (by omega))⟩ (fun o a => put9 a)
    obtain ⟨v1, v2, v3, v4, v5, v6, v7, v8, v9, v10, v11⟩ := hV
    unfold DV
    rw [h1 0 (by decide), k2' 8 (by omega), k2' 10 (by omega), k2' 14 (by omega), k2' 15 (by omega), k2' 16 (by omega), k2' 23 (by omega), k2' 25 (by omega)]
    refine ⟨v1, v2, v3, v4, v5, v6, v7, v8, v9, v10, fun r hr => ?_⟩
    rw [k3 r hr, h2 r (by omega)]
    exact ⟨rfl, rg_n (by omega) (by omega) (by omega)⟩
  · rw [put9 a.1]
    exact h1 o a.2
end CHANGE2
