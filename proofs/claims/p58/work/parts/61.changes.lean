/-! calls that change the settings -/
def CG (s s' : st_) : Prop := (∀ o, o < 8 → s' o = s o) ∧ (Z0 (sb_ s 42) → Z0 (sb_ s' 42))
def MG (t t' : st_) : Prop := (∀ o, 4 ≤ o → o ≤ 7 → t' o = t o) ∧ t' 0 8 = t 0 8 ∧ t' 0 13 = t 0 13
def GH (s t : st_) : Prop := ∃ C R n T, HH s t C R n T
def QU (g : Nat → Int32) (s t : st_) (A : Option (st_ × (Int32 ⊕ Nat))) (B : Option (st_ × Int32)) : Prop := ∃ s' x t' y, A = some (s', x) ∧ B = some (t', y) ∧ ou_ g x t' y ∧ CG s s' ∧ MG t t' ∧ GH s' t'
def QW (s t : st_) (A B : Option (st_ × Int32)) : Prop := ∃ s' x t', A = some (s', x) ∧ B = some (t', x) ∧ CG s s' ∧ MG t t' ∧ GH s' t'
/-- the places of the row that tell of the rounds behind -/
def rI_ (i : Nat) : Prop := (16 ≤ i ∧ i ≤ 20) ∨ i = 24 ∨ (26 ≤ i ∧ i < 56 ∧ ((i - 26) % 5 = 3 ∨ (i - 26) % 5 = 4)) ∨ (72 ≤ i ∧ i < 448 ∧ (i - 72) % 47 = 3) ∨ 448 ≤ i
section CHANGE
variable {s s' t t' e : st_} {w w' : Nat → Int32} {C R n T k : Nat} {v x : Int32}
theorem CG.r : CG s s := ⟨fun _ _ => rfl, id⟩
theorem CG.of (h : ∀ o, o < 8 → s' o = s o) (h2 : ∀ m, m < 7 → s' (m + 44) = s (m + 44)) : CG s s' := ⟨h, fun z m hm => by
  have e : 42 + (m + 2) = m + 44 := by omega
  rw [sb_ap, e, h2 m hm, ← e]
  exact z m hm⟩
theorem MG.r : MG t t := ⟨fun _ _ _ => rfl, rfl, rfl⟩
theorem MG.tr {t'' : st_} (h : MG t t') (h' : MG t' t'') : MG t t'' := ⟨fun o a b => (h'.1 o a b).trans (h.1 o a b), h'.2.1.trans h.2.1, h'.2.2.trans h.2.2⟩
theorem MG.t6 : MG t (pt_ t 0 6 v) := ⟨fun o a _ => pt_o (by omega), pt_r (by decide), pt_r (by decide)⟩
theorem MG.p1 : MG t (pt_ t 1 k v) := ⟨fun o a _ => pt_o (by omega), pt_oo (by decide), pt_oo (by decide)⟩
theorem MG.mo (h : mo_ t t') : MG t t' := ⟨fun o a _ => h.1 o (by omega) (by omega), h.2 8 (by decide), h.2 13 (by decide)⟩
theorem MG.mi (h : MI t t') : MG t t' := ⟨h.2.1, h.2.2.1, h.2.2.2⟩
theorem CG.ci (h : CI s s') : CG s s' := CG.of (fun o ho => h o (by omega) (by omega) (by omega)) (fun m hm => h _ (by omega) (by omega) (by omega))
theorem RR.wx (h : RR e w R T) (h6 : R ≤ 6) (he : ∀ i, i < 12584 → rI_ i → w' i = w i) : RR e w' R T := by
  obtain ⟨⟨⟨g0, g1, g16, gT⟩, ⟨S, s9, sS, s20, sr⟩, hP, hTk, hC, ⟨j1, j2, j3, j4, j5⟩⟩, hX⟩ := h
  have e1 : ∀ i, 448 ≤ i → i < 12584 → w' i = w i := fun i a b => he i b (by unfold rI_; omega)
  have e16 : w' 16 = w 16 := he 16 (by omega) (by unfold rI_; omega)
  have e17 : w' 17 = w 17 := he 17 (by omega) (by unfold rI_; omega)
  have e18 : w' 18 = w 18 := he 18 (by omega) (by unfold rI_; omega)
  have e19 : w' 19 = w 19 := he 19 (by omega) (by unfold rI_; omega)
  have e20 : w' 20 = w 20 := he 20 (by omega) (by unfold rI_; omega)
  have e24 : w' 24 = w 24 := he 24 (by omega) (by unfold rI_; omega)
  refine ⟨⟨⟨g0, g1, by rw [e16]; exact g16, gT⟩, ⟨S, s9, sS, by rw [e20]; exact s20, fun i a b j c => by rw [e1 _ (by omega) (by omega)]; exact sr i a b j c⟩, fun m hm => ?_, fun k hk => ?_, fun r hr => ?_, ⟨by rw [e17]; exact j1, by rw [e17]; exact j2, by rw [e18]; exact j3, by rw [e19]; exact j4, by rw [e24]; exact j5⟩⟩, fun r o hr ho => by rw [e1 _ (by omega) (by omega)]; exact hX r o hr ho⟩
  · have hm7 : m < 7 := by rcases hm with a | a <;> omega
    obtain ⟨p1, p2, p3⟩ := hP m hm
    have ec : ∀ k, k ≤ T → nsm (cs_ w' m) k = nsm (cs_ w m) k := fun k hk => nsm_congr k (fun r hr => by unfold cs_; rw [e1 _ (by omega) (by omega)])
    refine ⟨fun k hk => by rw [ec k hk]; exact p1 k hk, fun k hk => by rw [e1 _ (by omega) (by omega)]; exact p2 k hk, ?_⟩
    rw [ec T (Nat.le_refl _), he _ (by unfold ab_; omega) (by unfold rI_ ab_; omega)]
    exact p3
  · rw [e1 _ (by omega) (by omega)]
    exact hTk k hk
  · obtain ⟨c1, c2, c3⟩ := hC r hr
    refine ⟨by rw [he _ (by omega) (by unfold rI_; omega)]; exact c1, by rw [he _ (by omega) (by unfold rI_; omega)]; exact c2, ?_⟩
    rw [cnt_congr (f := fun k => w' (1748 + k)) (g := fun k => w (1748 + k)) T (fun k hk => e1 _ (by omega) (by omega))]
    exact c3
theorem HH.pp (h : HH s t C R n T) : PP s t C R n T := ⟨h.1, h.2.1, h.2.2.1.1.2.2.1, h.2.2.1.1.2.2.2, h.2.2.1.2.2.2.2.2.1.mono (Nat.le_refl _) h.2.2.1.1.2.2.2⟩
theorem HH.ci (h : HH s t C R n T) (hs : ∀ o, 9 ≤ o → o < 83 → o ≠ 22 → o ≠ 23 → s' o = s o) (ht : ∀ j, j < 12584 → t' 1 j = t 1 j) : HH s' t' C R n T := by
  have h6 := h.1.rb.1.2.1
  have hp := h.pp.ext (s' := s') (t' := t') (fun o a b c d => hs o a (by omega) c d) ht
  exact ⟨hp.1, hp.2.1, (h.2.2.ext h6 (fun o ho => hs _ (by omega) (by omega) (by omega) (by omega))).wx h6 (fun i a _ => ht i a)⟩
theorem QU.good {g : Nat → Int32} {A : Option (st_ × (Int32 ⊕ Nat))} {B : Option (st_ × Int32)} (hA : A = some (s', .inl v)) (hB : B = some (t', v)) (h6 : t' 0 6 = 0) (hc : CG s s') (hm : MG t t') (hg : HH s' t' C R n T) : QU g s t A B := ⟨s', .inl v, t', v, hA, hB, ⟨h6, rfl⟩, hc, hm, C, R, n, T, hg⟩
theorem QU.bad {g : Nat → Int32} {A : Option (st_ × (Int32 ⊕ Nat))} {B : Option (st_ × Int32)} {y : Int32} (c : Nat) (hA : A = some (s, .inr c)) (hB : B = some (pt_ t 0 6 (g c), y)) (hc : g c ≠ 0) (h : HH s t C R n T) : QU g s t A B := ⟨s, .inr c, _, y, hA, hB, ⟨pt_a, hc⟩, CG.r, MG.t6, C, R, n, T, h.t6⟩
/-- settings change -/
theorem HH.st (h : HH s t C R n T) (hs : ∀ o, o ≠ 9 → o ≠ 10 → o ≠ 13 → s' o = s o) (h10 : ∀ j, (j < 7 ∨ (13 ≤ j ∧ j < 16)) → s' 10 j = s 10 j) (h9 : ∀ j, j ≠ 11 → s' 9 j = s 9 j) (hw : ∀ i, (i < 5 ∨ i = 8 ∨ (15 ≤ i ∧ i < 56) ∨ 72 ≤ i) → t' 1 i = t 1 i) (hg : GT (sb_ s' 9) (t' 1) C R) : HH s' t' C R n T := by
  have h6 := h.1.rb.1.2.1
  obtain ⟨hD, ⟨u1, u2, u3⟩, hR⟩ := h
  refine ⟨hD.st (fun i _ b => hw i b) (fun j hj => h10 j hj) (fun j hj => h9 j hj) (fun o a b c d => hs _ (by omega) (by omega) (by omega)) hg, ⟨?_, ?_, fun r hr => ?_⟩, (hR.ext h6 (fun o ho => hs _ (by omega) (by omega) (by omega))).wx h6 (fun i a b => hw i (by unfold rI_ at b; omega))⟩
  · rw [sb_ap, hs _ (by omega) (by omega) (by omega)]; exact u1
  · rw [sb_ap, hs _ (by omega) (by omega) (by omega)]; exact u2
  · rw [sb_ap, hs _ (by omega) (by omega) (by omega)]; exact u3 r hr
theorem sets_e (hk : k < 12584) : fX8_sets t (nI k) v = some (pt_ t 1 k v, t 1 k) := by
  unfold fX8_sets
  rw [gd_t (ib_n hk (by omega)), gd_t (ib_n hk (by omega)), bd_e, ix_n (by omega)]
theorem setFoe_p (h : HH s t C R n T) (i0 : Int32) : QU g1_ s t (fX7_setFoe s i0) (fX8_setFoe t i0) := by
  obtain ⟨⟨b1, b2⟩, b3, b4, ⟨b5, b6⟩, ⟨b7, b8⟩, ⟨b9, b10, b11, b12⟩, ⟨b13, b14⟩, b15, b16⟩ := h.1.gt
  unfold fX7_setFoe fX8_setFoe fX8_setFoe_j18
  by_cases hx : 0 ≤ i0 ∧ i0 ≤ 5
  · rw [bn_e (within_t (lo := 0) (hi := 5) hx), tb_l, bd_e, bn_e (show fX8_in (Int32.toInt64 i0) (0 : Int64) (5 : Int64) = some 1 from in_t (lo := 0) (hi := 5) hx), if_neg (show ¬ (1 : Int32) = 0 by decide), bn_e wrong_0, if_pos rfl]
    dsimp only
    rw [bn_e (show fX8_sets (pt_ t 0 6 0) (9 : Int32) i0 = _ from sets_e (k := 9) (by omega))]
    dsimp only
    generalize hs1 : pt_ s 10 11 i0 = s1
    generalize ht1 : pt_ (pt_ t 0 6 0) 1 9 i0 = t1
    have q1 : ∀ j, j ≠ 11 → sb_ s1 9 1 j = sb_ s 9 1 j := fun j hj => by rw [← hs1]; exact pt_r hj
    have q1x : sb_ s1 9 1 11 = i0 := by rw [← hs1]; exact pt_a
    have qo : ∀ o, o ≠ 10 → s1 o = s o := fun o ho => by rw [← hs1]; exact pt_o ho
    have qw : ∀ i, i ≠ 9 → t1 1 i = t 1 i := fun i hi => by rw [← ht1, pt_r hi, pt_oo (by decide)]
    have qwx : t1 1 9 = i0 := by rw [← ht1]; exact pt_a
    have q0 : sb_ s1 9 0 11 = sb_ s 9 0 11 := by rw [sb_ap, qo 9 (by decide)]; rfl
    have q4 : sb_ s1 9 4 = sb_ s 9 4 := qo 13 (by decide)
    refine QU.good (s' := s1) (t' := t1) (v := s 10 11) rfl ?_ ?_ (CG.of (fun o ho => qo o (by omega)) (fun m hm => qo _ (by omega))) ?_ (h.st (fun o a b c => qo o b) (fun j hj => q1 j (by omega)) (fun j hj => by rw [qo 9 (by decide)]) (fun i hi => qw i (by omega)) ?_)
    · rw [pt_oo (by decide)]
      exact congrArg (fun z => some (t1, z)) (show t 1 9 = s 10 11 from b7.symm)
    · rw [← ht1, pt_oo (by decide), pt_a]
    · rw [← ht1]; exact MG.t6.tr MG.p1
    · exact ⟨⟨by rw [q1 7 (by decide), qw 5 (by decide)]; exact b1, by rw [qw 5 (by decide)]; exact b2⟩, fun z => by rw [q1 8 (by decide), qw 6 (by decide)]; exact b3 (by rw [← qw 5 (by decide)]; exact z), fun z => by rw [q1 8 (by decide)]; exact b4 (fun y => z (by rw [qw 5 (by decide)]; exact y)), ⟨by rw [q1 9 (by decide), qw 7 (by decide)]; exact b5, by rw [qw 7 (by decide)]; exact b6⟩, ⟨q1x.trans qwx.symm, by rw [qwx]; exact (rg_iff (by omega) (by omega)).mpr hx⟩, ⟨by rw [q1 12 (by decide), qw 10 (by decide)]; exact b9, by rw [qw 10 (by decide)]; exact b10, fun k hk => by rw [qw 10 (by decide)] at hk; have := b10.2.2; rw [q4, qw (56 + k) (by omega)]; exact b11 k hk, by rw [qw 15 (by decide), qw 10 (by decide)]; exact b12⟩, ⟨by rw [q1 17 (by decide), qw 11 (by decide)]; exact b13, by rw [q1 18 (by decide), qw 12 (by decide)]; exact b14⟩, by rw [q1 16 (by decide), qw 13 (by decide)]; exact b15, by rw [q0, qw 14 (by decide)]; exact b16⟩
  · rw [bn_e (within_f (lo := 0) (hi := 5) hx), tb_r, bn_e (show fX8_in (Int32.toInt64 i0) (0 : Int64) (5 : Int64) = some 0 from in_f (lo := 0) (hi := 5) hx), if_pos rfl, bn_e wrong_1, if_neg (show ¬ (1 : Int32) = 0 by decide)]
    exact QU.bad 1 (y := 0) rfl rfl (by decide) h
theorem setEta_p (h : HH s t C R n T) (i0 : Int32) : QU g1_ s t (fX7_setEta s i0) (fX8_setEta t i0) := by
  obtain ⟨⟨b1, b2⟩, b3, b4, ⟨b5, b6⟩, ⟨b7, b8⟩, ⟨b9, b10, b11, b12⟩, ⟨b13, b14⟩, b15, b16⟩ := h.1.gt
  unfold fX7_setEta fX8_setEta fX8_setEta_j18
  by_cases hx : 1 ≤ i0 ∧ i0 ≤ 500
  · rw [bn_e (within_t (lo := 1) (hi := 500) hx), tb_l, bd_e, bn_e (show fX8_in (Int32.toInt64 i0) (1 : Int64) (500 : Int64) = some 1 from in_t (lo := 1) (hi := 500) hx), if_neg (show ¬ (1 : Int32) = 0 by decide), bn_e wrong_0, if_pos rfl]
    dsimp only
    rw [bn_e (show fX8_sets (pt_ t 0 6 0) (7 : Int32) i0 = _ from sets_e (k := 7) (by omega))]
    dsimp only
    generalize hs1 : pt_ s 10 9 i0 = s1
    generalize ht1 : pt_ (pt_ t 0 6 0) 1 7 i0 = t1
    have q1 : ∀ j, j ≠ 9 → sb_ s1 9 1 j = sb_ s 9 1 j := fun j hj => by rw [← hs1]; exact pt_r hj
    have q1x : sb_ s1 9 1 9 = i0 := by rw [← hs1]; exact pt_a
    have qo : ∀ o, o ≠ 10 → s1 o = s o := fun o ho => by rw [← hs1]; exact pt_o ho
    have qw : ∀ i, i ≠ 7 → t1 1 i = t 1 i := fun i hi => by rw [← ht1, pt_r hi, pt_oo (by decide)]
    have qwx : t1 1 7 = i0 := by rw [← ht1]; exact pt_a
    have q0 : sb_ s1 9 0 11 = sb_ s 9 0 11 := by rw [sb_ap, qo 9 (by decide)]; rfl
    have q4 : sb_ s1 9 4 = sb_ s 9 4 := qo 13 (by decide)
    refine QU.good (s' := s1) (t' := t1) (v := s 10 9) rfl ?_ ?_ (CG.of (fun o ho => qo o (by omega)) (fun m hm => qo _ (by omega))) ?_ (h.st (fun o a b c => qo o b) (fun j hj => q1 j (by omega)) (fun j hj => by rw [qo 9 (by decide)]) (fun i hi => qw i (by omega)) ?_)
    · rw [pt_oo (by decide)]
      exact congrArg (fun z => some (t1, z)) (show t 1 7 = s 10 9 from b5.symm)
    · rw [← ht1, pt_oo (by decide), pt_a]
    · rw [← ht1]; exact MG.t6.tr MG.p1
    · exact ⟨⟨by rw [q1 7 (by decide), qw 5 (by decide)]; exact b1, by rw [qw 5 (by decide)]; exact b2⟩, fun z => by rw [q1 8 (by decide), qw 6 (by decide)]; exact b3 (by rw [← qw 5 (by decide)]; exact z), fun z => by rw [q1 8 (by decide)]; exact b4 (fun y => z (by rw [qw 5 (by decide)]; exact y)), ⟨q1x.trans qwx.symm, by rw [qwx]; exact (rg_iff (by omega) (by omega)).mpr hx⟩, ⟨by rw [q1 11 (by decide), qw 9 (by decide)]; exact b7, by rw [qw 9 (by decide)]; exact b8⟩, ⟨by rw [q1 12 (by decide), qw 10 (by decide)]; exact b9, by rw [qw 10 (by decide)]; exact b10, fun k hk => by rw [qw 10 (by decide)] at hk; have := b10.2.2; rw [q4, qw (56 + k) (by omega)]; exact b11 k hk, by rw [qw 15 (by decide), qw 10 (by decide)]; exact b12⟩, ⟨by rw [q1 17 (by decide), qw 11 (by decide)]; exact b13, by rw [q1 18 (by decide), qw 12 (by decide)]; exact b14⟩, by rw [q1 16 (by decide), qw 13 (by decide)]; exact b15, by rw [q0, qw 14 (by decide)]; exact b16⟩
  · rw [bn_e (within_f (lo := 1) (hi := 500) hx), tb_r, bn_e (show fX8_in (Int32.toInt64 i0) (1 : Int64) (500 : Int64) = some 0 from in_f (lo := 1) (hi := 500) hx), if_pos rfl, bn_e wrong_1, if_neg (show ¬ (1 : Int32) = 0 by decide)]
    exact QU.bad 1 (y := 0) rfl rfl (by decide) h
theorem setBudget_p (h : HH s t C R n T) (i0 : Int32) : QU g1_ s t (fX7_setBudget s i0) (fX8_setBudget t i0) := by
  obtain ⟨⟨b1, b2⟩, b3, b4, ⟨b5, b6⟩, ⟨b7, b8⟩, ⟨b9, b10, b11, b12⟩, ⟨b13, b14⟩, b15, b16⟩ := h.1.gt
  unfold fX7_setBudget fX8_setBudget fX8_setBudget_j20
  by_cases hx : -1 ≤ i0 ∧ i0 ≤ 999
  · rw [bn_e (within_t (lo := -1) (hi := 999) hx), tb_l, bn_e (show fX8_in (Int32.toInt64 i0) (-1 : Int64) (999 : Int64) = some 1 from in_t (lo := -1) (hi := 999) hx), if_neg (show ¬ (1 : Int32) = 0 by decide), bn_e wrong_0, if_pos rfl]
    unfold fX1_takeBudget
    rw [bd_e, bd_e, bn_s, bd_e, gd_t b14_, i14_, bd_e]
    dsimp only
    rw [bn_e (show fX8_sets (pt_ (pt_ t 0 6 0) 1 14 0) (13 : Int32) i0 = _ from sets_e (k := 13) (by omega))]
    dsimp only
    generalize hs1 : mg_ s 9 33 (pt_ (pt_ (sb_ s 9) 1 16 i0) 0 11 0) = s1
    generalize ht1 : pt_ (pt_ (pt_ t 0 6 0) 1 14 0) 1 13 i0 = t1
    have q1 : ∀ j, j ≠ 16 → sb_ s1 9 1 j = sb_ s 9 1 j := fun j hj => by rw [← hs1, sb_ap, mg_i (by omega) (by omega)]; show pt_ (pt_ (sb_ s 9) 1 16 i0) 0 11 0 1 j = _; rw [pt_oo (by decide), pt_r hj]
    have q1x : sb_ s1 9 1 16 = i0 := by rw [← hs1, sb_ap, mg_i (by omega) (by omega)]; show pt_ (pt_ (sb_ s 9) 1 16 i0) 0 11 0 1 16 = _; rw [pt_oo (by decide), pt_a]
    have qo : ∀ o, o ≠ 9 → o ≠ 10 → s1 o = s o := fun o ho h2 => by
      rw [← hs1]
      by_cases hc : 9 ≤ o ∧ o < 42
      · rw [mg_i (by omega) (by omega), pt_o (by omega), pt_o (by omega), sb_ap]
        congr 1
        omega
      · exact mg_o (by omega)
    have q9 : ∀ j, j ≠ 11 → s1 9 j = s 9 j := fun j hj => by rw [← hs1, mg_i (by omega) (by omega)]; show pt_ (pt_ (sb_ s 9) 1 16 i0) 0 11 0 0 j = _; rw [pt_r hj, pt_oo (by decide)]; rfl
    have q0x : sb_ s1 9 0 11 = 0 := by rw [← hs1, sb_ap, mg_i (by omega) (by omega)]; exact pt_a
    have qw : ∀ i, i ≠ 13 → i ≠ 14 → t1 1 i = t 1 i := fun i hi h2 => by rw [← ht1, pt_r hi, pt_r h2, pt_oo (by decide)]
    have qwx : t1 1 13 = i0 := by rw [← ht1]; exact pt_a
    have qwy : t1 1 14 = 0 := by rw [← ht1, pt_r (by decide)]; exact pt_a
    have q4 : sb_ s1 9 4 = sb_ s 9 4 := qo 13 (by decide) (by decide)
    refine QU.good (s' := s1) (t' := t1) (v := s 10 16) rfl ?_ ?_ (CG.of (fun o ho => qo o (by omega) (by omega)) (fun m hm => qo _ (by omega) (by omega))) ?_ (h.st (fun o a b c => qo o a b) (fun j hj => q1 j (by omega)) q9 (fun i hi => qw i (by omega) (by omega)) ?_)
    · rw [pt_r (by decide), pt_oo (by decide)]
      exact congrArg (fun z => some (t1, z)) (show t 1 13 = s 10 16 from b15.symm)
    · rw [← ht1, pt_oo (by decide), pt_oo (by decide), pt_a]
    · rw [← ht1]; exact (MG.t6.tr MG.p1).tr MG.p1
    · exact ⟨⟨by rw [q1 7 (by decide), qw 5 (by decide) (by decide)]; exact b1, by rw [qw 5 (by decide) (by decide)]; exact b2⟩, fun z => by rw [q1 8 (by decide), qw 6 (by decide) (by decide)]; exact b3 (by rw [← qw 5 (by decide) (by decide)]; exact z), fun z => by rw [q1 8 (by decide)]; exact b4 (fun y => z (by rw [qw 5 (by decide) (by decide)]; exact y)), ⟨by rw [q1 9 (by decide), qw 7 (by decide) (by decide)]; exact b5, by rw [qw 7 (by decide) (by decide)]; exact b6⟩, ⟨by rw [q1 11 (by decide), qw 9 (by decide) (by decide)]; exact b7, by rw [qw 9 (by decide) (by decide)]; exact b8⟩, ⟨by rw [q1 12 (by decide), qw 10 (by decide) (by decide)]; exact b9, by rw [qw 10 (by decide) (by decide)]; exact b10, fun k hk => by rw [qw 10 (by decide) (by decide)] at hk; have := b10.2.2; rw [q4, qw (56 + k) (by omega) (by omega)]; exact b11 k hk, by rw [qw 15 (by decide) (by decide), qw 10 (by decide) (by decide)]; exact b12⟩, ⟨by rw [q1 17 (by decide), qw 11 (by decide) (by decide)]; exact b13, by rw [q1 18 (by decide), qw 12 (by decide) (by decide)]; exact b14⟩, q1x.trans qwx.symm, q0x.trans qwy.symm⟩
  · rw [bn_e (within_f (lo := -1) (hi := 999) hx), tb_r, bn_e (show fX8_in (Int32.toInt64 i0) (-1 : Int64) (999 : Int64) = some 0 from in_f (lo := -1) (hi := 999) hx), if_pos rfl, bn_e wrong_1, if_neg (show ¬ (1 : Int32) = 0 by decide)]
    exact QU.bad 1 (y := 0) rfl rfl (by decide) h
theorem setBound_p (h : HH s t C R n T) (i0 i1 : Int32) : QU g1_ s t (fX7_setBound s i0 i1) (fX8_setBound t i0 i1) := by
  obtain ⟨⟨b1, b2⟩, b3, b4, ⟨b5, b6⟩, ⟨b7, b8⟩, ⟨b9, b10, b11, b12⟩, ⟨b13, b14⟩, b15, b16⟩ := h.1.gt
  unfold fX7_setBound fX8_setBound fX8_setBound_j25 fX8_setBound_j30
  by_cases hx : 0 ≤ i0 ∧ i0 ≤ 99999
  · rw [bn_e (within_t (lo := 0) (hi := 99999) hx), tb_l, bn_e (show fX8_in (Int32.toInt64 i0) (0 : Int64) (99999 : Int64) = some 1 from in_t (lo := 0) (hi := 99999) hx), if_neg (show ¬ (1 : Int32) = 0 by decide)]
    by_cases hy : 0 ≤ i1 ∧ i1 ≤ 9999
    · rw [bn_e (within_t (lo := 0) (hi := 9999) hy), tb_l, bn_e (show fX8_in (Int32.toInt64 i1) (0 : Int64) (9999 : Int64) = some 1 from in_t (lo := 0) (hi := 9999) hy), if_neg (show ¬ (1 : Int32) = 0 by decide), bn_e wrong_0, if_pos rfl, bd_e, bd_e, gd_t b12_, i12_, bd_e]
      dsimp only
      rw [bn_e (show fX8_sets (pt_ (pt_ t 0 6 0) 1 12 i1) (11 : Int32) i0 = _ from sets_e (k := 11) (by omega))]
      dsimp only
      generalize hs1 : pt_ (pt_ s 10 17 i0) 10 18 i1 = s1
      generalize ht1 : pt_ (pt_ (pt_ t 0 6 0) 1 12 i1) 1 11 i0 = t1
      have q1 : ∀ j, j ≠ 17 → j ≠ 18 → sb_ s1 9 1 j = sb_ s 9 1 j := fun j hj h2 => by
        rw [← hs1]
        show pt_ (pt_ s 10 17 i0) 10 18 i1 10 j = s 10 j
        rw [pt_r h2, pt_r hj]
      have q1x : sb_ s1 9 1 17 = i0 := by
        rw [← hs1]
        show pt_ (pt_ s 10 17 i0) 10 18 i1 10 17 = i0
        rw [pt_r (by decide), pt_a]
      have q1y : sb_ s1 9 1 18 = i1 := by rw [← hs1]; exact pt_a
      have qo : ∀ o, o ≠ 10 → s1 o = s o := fun o ho => by rw [← hs1, pt_o ho, pt_o ho]
      have qw : ∀ i, i ≠ 11 → i ≠ 12 → t1 1 i = t 1 i := fun i hi h2 => by rw [← ht1, pt_r hi, pt_r h2, pt_oo (by decide)]
      have qwx : t1 1 11 = i0 := by rw [← ht1]; exact pt_a
      have qwy : t1 1 12 = i1 := by rw [← ht1, pt_r (by decide)]; exact pt_a
      have q0 : sb_ s1 9 0 11 = sb_ s 9 0 11 := by rw [sb_ap, qo 9 (by decide)]; rfl
      have q4 : sb_ s1 9 4 = sb_ s 9 4 := qo 13 (by decide)
      refine QU.good (s' := s1) (t' := t1) (v := s 10 17) rfl ?_ ?_ (CG.of (fun o ho => qo o (by omega)) (fun m hm => qo _ (by omega))) ?_ (h.st (fun o a b c => qo o b) (fun j hj => q1 j (by omega) (by omega)) (fun j hj => by rw [qo 9 (by decide)]) (fun i hi => qw i (by omega) (by omega)) ?_)
      · rw [pt_r (by decide), pt_oo (by decide)]
        exact congrArg (fun z => some (t1, z)) (show t 1 11 = s 10 17 from b13.symm)
      · rw [← ht1, pt_oo (by decide), pt_oo (by decide), pt_a]
      · rw [← ht1]; exact (MG.t6.tr MG.p1).tr MG.p1
      · exact ⟨⟨by rw [q1 7 (by decide) (by decide), qw 5 (by decide) (by decide)]; exact b1, by rw [qw 5 (by decide) (by decide)]; exact b2⟩, fun z => by rw [q1 8 (by decide) (by decide), qw 6 (by decide) (by decide)]; exact b3 (by rw [← qw 5 (by decide) (by decide)]; exact z), fun z => by rw [q1 8 (by decide) (by decide)]; exact b4 (fun y => z (by rw [qw 5 (by decide) (by decide)]; exact y)), ⟨by rw [q1 9 (by decide) (by decide), qw 7 (by decide) (by decide)]; exact b5, by rw [qw 7 (by decide) (by decide)]; exact b6⟩, ⟨by rw [q1 11 (by decide) (by decide), qw 9 (by decide) (by decide)]; exact b7, by rw [qw 9 (by decide) (by decide)]; exact b8⟩, ⟨by rw [q1 12 (by decide) (by decide), qw 10 (by decide) (by decide)]; exact b9, by rw [qw 10 (by decide) (by decide)]; exact b10, fun k hk => by rw [qw 10 (by decide) (by decide)] at hk; have := b10.2.2; rw [q4, qw (56 + k) (by omega) (by omega)]; exact b11 k hk, by rw [qw 15 (by decide) (by decide), qw 10 (by decide) (by decide)]; exact b12⟩, ⟨q1x.trans qwx.symm, q1y.trans qwy.symm⟩, by rw [q1 16 (by decide) (by decide), qw 13 (by decide) (by decide)]; exact b15, by rw [q0, qw 14 (by decide) (by decide)]; exact b16⟩
    · rw [bn_e (within_f (lo := 0) (hi := 9999) hy), tb_r, bn_e (show fX8_in (Int32.toInt64 i1) (0 : Int64) (9999 : Int64) = some 0 from in_f (lo := 0) (hi := 9999) hy), if_pos rfl, bn_e wrong_1, if_neg (show ¬ (1 : Int32) = 0 by decide)]
      exact QU.bad 1 (y := 0) rfl rfl (by decide) h
  · rw [bn_e (within_f (lo := 0) (hi := 99999) hx), tb_r, bn_e (show fX8_in (Int32.toInt64 i0) (0 : Int64) (99999 : Int64) = some 0 from in_f (lo := 0) (hi := 99999) hx), if_pos rfl, bn_e wrong_1, if_neg (show ¬ (1 : Int32) = 0 by decide)]
    exact QU.bad 1 (y := 0) rfl rfl (by decide) h
end CHANGE
