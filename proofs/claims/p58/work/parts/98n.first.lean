/-! the two new objects are alike -/
section FIRST
theorem mgp {s t : st_} {o n : Nat} (q : Nat) (h : q < n) : sb_ (mg_ s o n t) o q = t q := by
  rw [sb_ap, mg_i (by omega) (by omega), Nat.add_sub_cancel_left]
theorem init_ff : ∃ r ro, fM_init = some r ∧ fO_init = some ro ∧ FF r ro ∧ r 0 1 = 0 := by
  unfold fM_init fO_init
  obtain ⟨r1, er1, hr1⟩ := begins_w (u := sb_ zs_ 1)
  obtain ⟨d1, e1, hS, h10, h01⟩ := default_p (S := sb_ zs_ 3) hr1
  rw [bn_e e1, bd_e, bn_e er1, bd_e, bd_e]
  have hd1 : ∀ o, o < 4 → sb_ (mg_ zs_ 3 4 d1) 3 o = d1 o := fun o ho => mgp o ho
  have hw1 : ∀ i, mg_ zs_ 1 1 r1 1 i = r1 0 i := fun i => by rw [mg_i (by omega) (by omega)]
  generalize hw : (pt_ (mg_ zs_ 1 1 r1) 1 0 10) 1 = w
  have w0 : w 0 = nI 10 := by rw [← hw, pt_a]; rfl
  have wr : ∀ i, i ≠ 0 → w i = r1 0 i := fun i hi => by rw [← hw, pt_r hi, hw1]
  have hF2 : ∀ C, FD 2 (sb_ (mg_ zs_ 3 4 d1) 3) (r1 0) C 0 0 := fun C => by
    obtain ⟨f1, f2, f3, f4, f5, f6⟩ := hS C
    unfold FD
    rw [hd1 0 (by omega), hd1 1 (by omega), hd1 2 (by omega), hd1 3 (by omega)]
    exact ⟨f1, f2, f3, f4, f5, f6⟩
  have w1 : w 1 = 0 := by rw [wr 1 (by decide), hr1 1 (by omega)]; rfl
  have hF0 : FD 0 (sb_ (mg_ zs_ 3 4 d1) 3) w 10 0 0 := FD.drive (C := 10) hF2 (fun _ _ => rfl) (fun _ _ _ => rfl) (by rw [hd1 0 (by omega), h10]; rfl) w0 (by rw [hd1 0 (by omega), h01, w1]) ⟨by omega, by omega⟩ (by rw [w1]; exact ⟨by decide, by decide⟩) (fun i h1 _ => wr i h1)
  obtain ⟨d2, r2, R, c1, c2, c3, c4⟩ := complete_p (u := sb_ (pt_ (mg_ zs_ 1 1 r1) 1 0 10) 1) hF0 hw
  rw [bn_e c1, bd_e, bn_e c2, bd_e]
  have hd2 : ∀ o, o < 4 → sb_ (mg_ (mg_ zs_ 3 4 d1) 3 4 d2) 3 o = d2 o := fun o ho => mgp o ho
  have hz : Z0 (sb_ (sb_ (mg_ (mg_ zs_ 3 4 d1) 3 4 d2) 8) 34) := fun m hm => by
    rw [sb_ap, sb_ap, mg_o (by omega), mg_o (by omega)]
    rfl
  obtain ⟨g, eg, hg⟩ := gameBegin_w (c3.ext hd2) hz
  rw [bn_e eg, bd_e]
  have hro1 : (mg_ (pt_ (mg_ zs_ 1 1 r1) 1 0 10) 1 1 r2) 1 = r2 0 := by
    funext i
    rw [mg_i (by omega) (by omega)]
  have hro : ∀ o, o ≠ 1 → (mg_ (pt_ (mg_ zs_ 1 1 r1) 1 0 10) 1 1 r2) o = zs_ o := fun o ho => by rw [mg_o (by omega), pt_o ho, mg_o (by omega)]
  rw [← hro1] at hg
  obtain ⟨q1, q2⟩ := hg.gh (s := mg_ (mg_ zs_ 3 4 d1) 3 4 d2)
  have hs0 : (mg_ (mg_ (mg_ zs_ 3 4 d1) 3 4 d2) 8 75 g) 0 = zs_ 0 := by rw [mg_o (by omega), mg_o (by omega), mg_o (by omega)]
  refine ⟨_, _, rfl, rfl, ⟨q1, q2, ⟨fun _ => 0, 0, by rw [hs0]; rfl, ⟨by omega, by rw [hro 0 (by decide)]; rfl, fun j hj => absurd hj (by omega)⟩, fun j hj => absurd hj (by omega)⟩, by rw [hs0, hro 0 (by decide)]; rfl⟩, by rw [hs0]; rfl⟩
end FIRST
section LOAD58
variable {s s' : st_} {xs : List Int32} {C R a : Nat} {n : Nat} {f : Nat → Int32}
set_option maxHeartbeats 4000000 in
theorem load_58 (ht : txk_ xs) (hL : xs.length ≤ 480) (hx : xs = sb_y 48 ++ (dg_ C ++ (32 :: (dg_ a ++ z1_ n f C R)))) (hC2 : 2 ≤ C) (hC : C ≤ 100) (ha : a < C) (hR1 : 1 ≤ R) (hR6 : R ≤ 6) (h01 : s 0 1 = nI xs.length) (hch : ∀ j, j < xs.length → s 1 j = nI (tch_ xs j)) (hz : Z0 (sb_ s 42)) : ∃ s1 t, gX7_load s = some (s1, nI R) ∧ YY s1 t C R 0 0 0 := by
  let t15 : st_ := fun o j => if o = 0 then (if j = 8 then nI xs.length else 0) else if o = 7 then nI (tch_ xs j) else if o = 3 then bgv j else 0
  have w15 : ∀ i, i < 12584 → t15 3 i = bgv i := fun i _ => rfl
  have m15 : MTx t15 (tch_ xs) xs.length := ⟨by omega, rfl, fun j hj => ⟨by have := (ht j hj).2.2; omega, rfl⟩⟩
  unfold gX7_load fX3_readText
  have eL : (if (500 : Int32) < s 0 1 then (500 : Int32) else s 0 1) = nI xs.length := by
    rw [h01, if_neg (show ¬ (500 : Int32) < nI xs.length from nI_nlt (a := 500) (by omega) (by omega))]
  rw [bd_e, bd_e, bd_e, bd_e, bd_e, bd_e, eL]
  generalize hs21 : pt_ (pt_ (pt_ (pt_ (pt_ (pt_ (sb_ s 1) 1 1 1) 1 2 (nI xs.length)) 1 3 0) 1 4 0) 1 5 0) 1 6 0 = s21
  have p21 : ∀ o, o ≠ 1 → s21 o = s (1 + o) := fun o ho => by rw [← hs21]; simp (disch := omega) only [pt_o]; rfl
  have p21a : s21 1 1 = 1 ∧ s21 1 2 = nI xs.length ∧ s21 1 3 = 0 ∧ s21 1 5 = 0 := by
    rw [← hs21]
    refine ⟨?_, ?_, ?_, ?_⟩ <;> simp (disch := omega) only [pt_a, pt_rr]
  obtain ⟨S, eS, hS, -, -⟩ := default_p (S := sb_ s21 2) w15
  rw [bn_e eS, bd_e]
  generalize hs29 : mg_ s21 2 4 S = s29
  have p29 : ∀ o, o < 2 → s29 o = s21 o := fun o ho => by rw [← hs29, mg_o (by omega)]
  have hd29 : ∀ o, o < 4 → sb_ s29 2 o = S o := fun o ho => by rw [← hs29]; exact put2 ho
  have hC29 : CTx s29 (tch_ xs) xs.length := by
    refine ⟨by omega, by rw [p29 1 (by omega)]; exact p21a.1, by rw [p29 1 (by omega)]; exact p21a.2.1, fun j hj => Or.inl ⟨(ht j hj).2.2, ?_⟩⟩
    rw [p29 0 (by omega), p21 0 (by decide)]
    exact hch j hj
  have hF29 : ∀ C, FD 2 (sb_ s29 2) (t15 3) C 0 0 := fun C => by
    obtain ⟨f1, f2, f3, f4, f5, f6⟩ := hS C
    unfold FD
    rw [hd29 0 (by omega), hd29 1 (by omega), hd29 2 (by omega), hd29 3 (by omega)]
    exact ⟨f1, f2, f3, f4, f5, f6⟩
  have hB29 : BJ s29 t15 (tch_ xs) xs.length 0 := ⟨hC29, m15, Nat.zero_le _, by rw [p29 1 (by omega)]; exact p21a.2.2.1, rfl, by rw [p29 1 (by omega)]; exact p21a.2.2.2, rfl⟩
  -- the drive
  have hA29 : AT_ s29 xs 0 (sb_y 13 ++ (32 :: (dg_ C ++ (32 :: (dg_ a ++ z1_ n f C R))))) := ⟨hC29, Nat.zero_le _, hB29.2.2.2.1, hB29.2.2.2.2.2.1, by rw [List.drop_zero]; exact hx⟩
  obtain ⟨s30, p30, e30, h30, hA30⟩ := word0 (w := 0) (k := 0) ht (by omega) rfl hA29 stp_32
  obtain ⟨s32, p32, e32, h32, hA32⟩ := num1 (lo := 2) (hi := 100) ht hA30 stp_32 (by omega) (nI_le (a := 2) hC2 (by omega)) (nI_le (b := 100) hC (by omega))
  obtain ⟨s34, p34, e34, h34, hA34⟩ := num1 (lo := 0) (hi := nI (C - 1)) ht (hA32.pt (o := 2) (j := 0) (v := nI C) (by omega)) stp_59 (by omega) (nI_le (a := 0) (Nat.zero_le _) (by omega)) (nI_le (by omega) (by omega))
  have es : fX3_readDrive s29 = some (pt_ s34 2 1 (nI a)) := by
    unfold fX3_readDrive fX3_readDrive_j18
    rw [bn_e e30, if_pos (show nI 0 = (0 : Int32) from rfl), bn_e e32, bd_e]
    dsimp only
    rw [pt_a, show nI C - (1 : Int32) = nI (C - 1) from pk_sub (b := 1) (by omega), bn_e e34, bd_e]
  have hA35 := hA34.pt (o := 2) (j := 1) (v := nI a) (by omega)
  have hP : PS_ (pt_ s34 2 1 (nI a)) xs (z1_ n f C R) C 0 0 := by
    obtain ⟨sd, ed, hd⟩ := drive_p hB29 hF29
    cases es.symm.trans ed
    rcases hd with ⟨t1, p1, C1, -, hJ, -⟩ | ⟨t1, -, hE, -⟩
    · have e1 : p1 = p34 := (nI_eq (by have := hJ.1.2.2.1; omega) (by have := hA35.2.1; omega)).mp (hJ.1.2.2.2.1.symm.trans hA35.2.2.1)
      obtain ⟨c1, -, c2, c3⟩ := hJ.2.C100
      have ec : pt_ s34 2 1 (nI a) 2 0 = nI C := by rw [pt_r (by decide), h34 2 (by decide), pt_a]
      have e2 : C1 = C := (nI_eq (by omega) (by omega)).mp (c1.symm.trans ec)
      subst e1 e2
      exact ⟨t1, p1, hJ, hA35.2.2.2.2⟩
    · exact absurd hA35.2.2.2.1 hE.1.2.2
  rw [bn_e es]
  -- the statements
  obtain ⟨d, hd, d5, ⟨w, K, hFd⟩, b, hb, d17⟩ := g1c ht (by omega) hR6 hR1 hP (i := 0) (by omega)
  have ed : fX3_readText_l48 FU_ ((0 : Int32), pt_ s34 2 1 (nI a)) = some d := hd FU_ (by decide)
  rw [bn_e ed]
  unfold fX3_readText_k48 fX3_readText_x48_72
  obtain ⟨r1, -, r2⟩ := hFd.R6 (t := fun _ => w)
  obtain ⟨S', u', R', eS', -, hFC, hS4⟩ := complete_p (u := fun _ => w) hFd rfl
  have eS2 : fX5_completeRules (sb_ d 2) = some (sb_ d 2) := by
    unfold fX5_completeRules
    have e : sb_ d 2 0 4 = nI R := r1
    rw [e, if_neg (show ¬ nI R = (0 : Int32) from fun z => absurd ((nI_eq (b := 0) (by omega) (by omega)).mp z) (by omega))]
  have eSS : S' = sb_ d 2 := Option.some.inj (eS'.symm.trans eS2)
  have eR : R' = R := by
    have e : S' 0 4 = nI R := by rw [eSS]; exact r1
    have hR' : R' ≤ 6 := (hFC.1.1 4 (by unfold PI; omega)).2.2
    exact (nI_eq (by omega) (by omega)).mp (hS4.symm.trans e)
  subst eR
  rw [bn_e eS', bd_e, bn_s, bd_e, bd_e, bd_e]
  generalize hs11 : pt_ (pt_ (mg_ s 1 7 (mg_ d 2 4 S')) 0 1 0) 0 2 ((pt_ (mg_ s 1 7 (mg_ d 2 4 S')) 0 1 0) 2 5) = s11
  obtain ⟨q1, q2, q3, q4, q5, q6⟩ := load_c hs11.symm
  rw [if_pos (q4.trans d5)]
  have hFC2 : FC (sb_ s11 3) (u' 0) C R' K := hFC.ext q6
  have hz2 : Z0 (sb_ (sb_ s11 8) 34) := fun m hm => by
    have e : s11 (8 + (34 + (m + 2))) = s (8 + (34 + (m + 2))) := q1 _ (by omega)
    rw [sb_ap, sb_ap, e, show 8 + (34 + (m + 2)) = 42 + (m + 2) by omega]
    exact hz m hm
  obtain ⟨g, eg, hg⟩ := gameBegin_w hFC2 hz2
  rw [bn_e eg, bd_e]
  unfold fX2_begin at eg
  obtain ⟨k1, ek1, eg⟩ := bn_x eg
  obtain ⟨x5, ex5, eg⟩ := bd_x eg
  obtain ⟨k7, ek7, eg⟩ := bn_x eg
  obtain ⟨x11, ex11, eg⟩ := bd_x eg
  have egg : x11 = g := Option.some.inj eg
  obtain ⟨k1', ek1', ⟨b0, b1, b3⟩, b5, b8, br, -⟩ := duelBegin_w (d := sb_ (sb_ s11 8) 1) (S := sb_ s11 3)
  cases ek1.symm.trans ek1'
  obtain ⟨k7', ek7', v0, v1, v9, v10, v11, v12, v13, vr, -⟩ := recBegin_w (e := sb_ x5 34) (x := sb_ s11 3 0 4)
  cases ek7.symm.trans ek7'
  have g1 : ∀ o, o < 33 → sb_ g 1 o = k1 o := fun o ho => by rw [← egg, ex11, sb_ap, mg_o (by omega), ex5, mg_i (by omega) (by omega), Nat.add_sub_cancel_left]
  have g34 : ∀ o, o < 41 → sb_ g 34 o = k7 o := fun o ho => by rw [← egg, ex11, sb_ap, mg_i (by omega) (by omega), Nat.add_sub_cancel_left]
  have a9 : ∀ o, o < 33 → sb_ (mg_ s11 8 75 g) 9 o = k1 o := fun o ho => (put8a ho).trans (g1 o ho)
  have a42 : ∀ o, o < 41 → sb_ (mg_ s11 8 75 g) 42 o = k7 o := fun o ho => (put8b ho).trans (g34 o ho)
  obtain ⟨⟨C', R2, n', T', hH⟩, -⟩ := GK.gh (s := s11) (t := fun _ => u' 0) hg
  have e10 : ∀ j, j < 19 → j ≠ 5 → j ≠ 6 → j ≠ 13 → mg_ s11 8 75 g 10 j = sb_ s11 3 0 j := fun j c1 c2 c3 c4 => (congrFun (a9 1 (by omega)) j).trans (b0 j c1 c2 c3 c4)
  have x4 : sb_ s11 3 0 4 = nI R' := by rw [q6 0 (by omega), eSS]; exact r1
  have x0 : sb_ s11 3 0 0 = nI C := by rw [q6 0 (by omega), eSS]; exact (hFd.C100 (t := fun _ => w)).1
  have eC' : C' = C := by
    have h1 : mg_ s11 8 75 g 10 0 = nI C' := hH.1.1.1.2.2.1
    have l1 := hH.1.1.1.2.1
    exact (nI_eq (by omega) (by omega)).mp (h1.symm.trans ((e10 0 (by omega) (by omega) (by omega) (by omega)).trans x0))
  have eR' : R2 = R' := by
    have h1 : mg_ s11 8 75 g 10 4 = nI R2 := hH.1.rb.1.2.2.1
    have l1 := hH.1.rb.1.2.1
    exact (nI_eq (by omega) (by omega)).mp (h1.symm.trans ((e10 4 (by omega) (by omega) (by omega) (by omega)).trans x4))
  have eT' : T' = 0 := by
    have h1 : sb_ (mg_ s11 8 75 g) 42 0 1 = nI T' := hH.2.2.1.1.2.1
    have l1 := hH.2.2.1.1.2.2.2
    rw [a42 0 (by omega), v1] at h1
    exact (nI_eq (b := 0) (by omega) (by omega)).mp h1.symm
  have en' : n' = 0 := by
    have h1 : sb_ (mg_ s11 8 75 g) 9 5 2 = nI n' := hH.n5
    have l1 := hH.n20
    rw [a9 5 (by omega)] at h1
    have h2 : k1 5 2 = 0 := b5.2.2.1
    rw [h2] at h1
    exact (nI_eq (b := 0) (by omega) (by omega)).mp h1.symm
  subst eC' eR' eT' en'
  have hat : ∀ (A : st_) (x : Int32), A0 A x → AT A 0 0 0 := fun A x hA => ⟨hA.2.2.1, ⟨0, hA.2.2.2.2.2.1, Nat.le_refl _⟩, hA.2.2.2.2.2.2, fun _ => 0, fun j hj => absurd hj (by omega), fun i j _ hj => absurd hj (by omega)⟩
  refine ⟨_, fun _ => u' 0, by rw [e10 4 (by omega) (by omega) (by omega) (by omega), x4], hH, ?_, ⟨?_, fun r hr => ?_⟩⟩
  · obtain ⟨hD, -, ⟨⟨-, -, -, -, hRC, ⟨j1, j2, j3, j4, j5⟩⟩, hX⟩⟩ := id hH
    rw [a42 0 (by omega)] at j2 j3 j4
    have w17 : u' 0 17 = 0 := j2.symm.trans v10
    have w18 : u' 0 18 = 0 := j3.symm.trans v11
    have w19 : u' 0 19 = -1 := j4.symm.trans v12
    have c3 : ∀ r, r < R2 → u' 0 (26 + 5 * r + 3) = 0 ∧ u' 0 (26 + 5 * r + 4) = 0 := fun r hr => by
      obtain ⟨y1, y2, -⟩ := hRC r hr
      rw [a42 10 (by omega)] at y1
      rw [a42 11 (by omega)] at y2
      exact ⟨y1.symm.trans (vr r (by omega)).1, y2.symm.trans (vr r (by omega)).2.1⟩
    have cx : ∀ r o, r < R2 → o < R2 → u' 0 (12548 + 6 * r + o) = 0 := fun r o hr ho => by
      have y := hX r o hr ho
      rw [a42 _ (by omega)] at y
      exact y.symm.trans ((vr r (by omega)).2.2.2 o (by omega))
    refine ⟨fun r hr => (c3 r hr).1, fun r hr => (c3 r hr).2, fun k hk => absurd hk (by omega), fun r o hr ho => ⟨0, cx r o hr ho, Nat.zero_le _⟩, fun r hr => (cx r r hr hr).trans (c3 r hr).2.symm, w18, w17, Or.inl ⟨w17, w19⟩, fun z => ?_⟩
    have y : mg_ s11 8 75 g 10 17 = u' 0 11 := hH.base.1
    rw [e10 17 (by omega) (by omega) (by omega) (by omega), q6 0 (by omega), eSS] at y
    have y2 : d 2 17 = u' 0 11 := y
    rw [d17] at y2
    exact nI_ne1 (by omega) (y2.trans z)
  · exact (hat _ _ b5).ext (fun q hq => a9 (5 + q) (by omega))
  · exact (hat _ _ (br r (by omega))).ext (fun q hq => a9 (3 * r + 15 + q) (by omega))
end LOAD58
