/-! snapshots and trials, of a state on which the property rests -/
def SG (g t : st_) (C R n T K : Nat) : Prop := DD (sb_ g 1) (t 1) C R n ∧ UPS (sb_ g 1) ∧ RR (sb_ g 34) (t 1) R T ∧ DT (sb_ g 1) R n T K
section SNAP58
variable {s s' t t' g x d d' : st_} {C R n n' T K k : Nat}
theorem AT.ce {a a' : st_} (h : AT a n T K) (h20 : n ≤ 20) (hc : CA a' a) : AT a' n T K := by
  obtain ⟨h2, ⟨x, h7, hx⟩, h8, F, h1, hm⟩ := h
  obtain ⟨c0, cj⟩ := hc
  exact ⟨by rw [c0 2 (by omega) (by omega) (by omega)]; exact h2, ⟨x, by rw [c0 7 (by omega) (by omega) (by omega)]; exact h7, hx⟩, by rw [c0 8 (by omega) (by omega) (by omega)]; exact h8, F, fun j hj => ⟨by rw [(cj j (by omega)).2]; exact (h1 j hj).1, (h1 j hj).2⟩, hm⟩
theorem DT.ce (h : DT d R n T K) (h6 : R ≤ 6) (h20 : n ≤ 20) (hc : CD d' d) : DT d' R n T K :=
  ⟨h.1.ce h20 hc.2.1, fun r hr => (h.2 r hr).ce h20 (hc.2.2.2.1 r (by omega))⟩
theorem SG.copy (h : SG g t C R n T K) : wp_ (fX2_copyFrom x g) (fun g' => SG g' t C R n T K) := by
  obtain ⟨hD, hU, hR, hA⟩ := h
  have h6 := hD.rb.1.2.1
  have h20 : n ≤ 20 := hD.2.2.2.1.2.2.2.2.1
  unfold fX2_copyFrom
  refine wp_bn (duelCopy_w (t := sb_ g 1) hU) (fun r1 h1 => wp_bd (wp_bn (recCopy_w (t := sb_ g 34)) (fun r7 h7 => wp_bd (wp_s ⟨?_, ?_, ?_, ?_⟩))))
  · exact (hD.ce h1).x33 (fun o ho => by
      rw [sb_ap, mg_o (by omega), mg_i (by omega) (by omega)]
      congr 1
      omega)
  · exact (hU.ce h1).x33 (fun o ho => by
      rw [sb_ap, mg_o (by omega), mg_i (by omega) (by omega)]
      congr 1
      omega)
  · exact (hR.ce h6 h7).ext h6 (fun o ho => by
      rw [sb_ap, mg_i (by omega) (by omega)]
      congr 1
      omega)
  · exact (hA.ce h6 h20 h1).ext h6 (fun o ho => by
      rw [sb_ap, mg_o (by omega), mg_i (by omega) (by omega)]
      congr 1
      omega)
theorem YY.sg (h : YY s t C R n T K) : SG (sb_ s 8) t C R n T K := by
  obtain ⟨⟨hD, hU, hR⟩, -, hA⟩ := h
  unfold SG
  rw [sb81, sb834]
  exact ⟨hD, hU, hR, hA⟩
theorem SG.yy (h : SG g t C R n T K) (hI : WI (t 1) R T) : YY (mg_ s 8 75 g) t C R n T K := by
  obtain ⟨hD, hU, hR, hA⟩ := h
  exact ⟨HH.of8 hD hU hR, hI, hA.ext hD.rb.1.2.1 (fun o ho => put8a (by omega))⟩
/-- back to the snapshot -/
theorem SG.back (h : SG g t C R n T K) (hI : WI (t 1) R T) (s : st_) : ∃ r, fX2_copyFrom (sb_ s 8) g = some r ∧ YY (mg_ s 8 75 r) t C R n T K := by
  obtain ⟨r, e, hr⟩ := h.copy (x := sb_ s 8)
  exact ⟨r, e, hr.yy hI⟩
/-- predictions leave all but the trial -/
theorem YY.ci (h : YY s t C R n T K) (hs : ∀ o, 9 ≤ o → o < 83 → o ≠ 22 → o ≠ 23 → s' o = s o) : YY s' t C R n T K :=
  ⟨h.1.ci hs (fun _ _ => rfl), h.2.1, h.2.2.ext h.1.1.rb.1.2.1 (fun o ho => hs _ (by omega) (by omega) (by omega) (by omega))⟩
/-- a trial of k rounds -/
theorem HH.trial (h : HH s t C R n T) (hk : T + k ≤ 1200) (er : fX8_rounds t (nI k) = some t') : ∃ r d' n', fX1_copyFrom (sb_ s 83) (sb_ s 9) = some r ∧ CD r (sb_ s 9) ∧ fX1_letPass (sb_ (mg_ s 83 33 r) 83) (nI k) = some d' ∧ DD d' (t' 1) C R n' ∧ t' 1 21 = t 1 21 := by
  obtain ⟨r, e, hc⟩ := duelCopy_w (s := sb_ s 83) h.2.1
  have hD : DD (sb_ (mg_ s 83 33 r) 83) (t 1) C R n := (h.1.ce hc).x33 (fun o ho => by rw [sb_ap, mg_i (by omega) (by omega)]; congr 1; omega)
  obtain ⟨d', t2, n', e1, e2, -, hD2, h21⟩ := passes_p hD h.2.2.1.1.2.2.1 hk
  cases er.symm.trans e2
  exact ⟨r, d', n', e, hc, e1, hD2, h21⟩
theorem DD.reg (h : DD d (t 1) C R n) : fX1_regretNow d = some (rg0_ (t 1) R) := by
  have hB := h.rb
  exact h.2.2.rg hB.1.2.2.1 hB.1.2.2.2 hB.1.1 hB.1.2.1
theorem p_within (h1 : 1 ≤ k) (hk : k ≤ 200) : gX7_requireWithin (nI k) (1 : Int32) (200 : Int32) = some () := gWithin (nI_le (a := 1) h1 (by omega)) (nI_le (b := 200) hk (by omega))
theorem p_regretIn (h : HH s t C R n T) (h1 : 1 ≤ k) (hk : k ≤ 200) (er : fX8_rounds t (nI k) = some t') : ∃ s', gX7_regretIn s (nI k) = some (s', rg0_ (t' 1) R) ∧ ∀ o, o < 83 → s' o = s o := by
  obtain ⟨r, d', n', e1, -, e2, hD, -⟩ := h.trial (by have := h.2.2.1.1.2.2.2; omega) er
  refine ⟨mg_ (mg_ s 83 33 r) 83 33 d', ?_, fun o ho => by rw [mg_o (by omega), mg_o (by omega)]⟩
  have e3 : fX1_regretNow (sb_ (mg_ (mg_ s 83 33 r) 83 33 d') 83) = some (rg0_ (t' 1) R) := (hD.x33 (fun o ho => by rw [sb_ap, mg_i (by omega) (by omega), Nat.add_sub_cancel_left])).reg
  unfold gX7_regretIn
  rw [bn_e (p_within h1 hk), bn_e e1, bd_e, bn_e e2, bd_e, bn_e e3]
theorem p_costIn (h : HH s t C R n T) (h1 : 1 ≤ k) (hk : k ≤ 200) (er : fX8_rounds t (nI k) = some t') : ∃ s', gX7_costIn s (0 : Int32) (nI k) = some (s', t' 1 (ab_ 0 + 3) - t 1 (ab_ 0 + 3)) ∧ ∀ o, o < 83 → s' o = s o := by
  have hB := h.1.rb
  have hR1 := hB.1.1
  have h6 := hB.1.2.1
  obtain ⟨r, d', n', e1, -, e2, hD, -⟩ := h.trial (by have := h.2.2.1.1.2.2.2; omega) er
  have hm : am6 R 0 := Or.inl (by omega)
  have hD2 : DD (sb_ (mg_ (mg_ s 83 33 r) 83 33 d') 83) (t' 1) C R n' := hD.x33 (fun o ho => by rw [sb_ap, mg_i (by omega) (by omega), Nat.add_sub_cancel_left])
  have hD1 : DD (sb_ (mg_ (mg_ s 83 33 r) 83 33 d') 9) (t 1) C R n := h.1.x33 (fun o ho => by rw [sb_ap, sb_ap, mg_o (by omega), mg_o (by omega)])
  refine ⟨mg_ (mg_ s 83 33 r) 83 33 d', ?_, fun o ho => by rw [mg_o (by omega), mg_o (by omega)]⟩
  have a1 : fX1_armOf (sb_ (mg_ (mg_ s 83 33 r) 83 33 d') 83) (0 : Int32) = some 15 := armOf_x (m := 0) hD2.rb.1.2.2.1 h6 hm
  have a2 : fX1_armOf (sb_ (mg_ (mg_ s 83 33 r) 83 33 d') 9) (0 : Int32) = some 15 := armOf_x (m := 0) hD1.rb.1.2.2.1 h6 hm
  have ga : gX7_requireArm s (0 : Int32) = some () := gArm (m := 0) hB.1.2.2.1 hm h6
  unfold gX7_costIn
  rw [bn_e ga, bn_e (p_within h1 hk), bn_e e1, bd_e, bn_e e2, bd_e, bn_e a1, bn_e a2]
  have b1 : mg_ (mg_ s 83 33 r) 83 33 d' (83 + 15) 5 = t' 1 (ab_ 0 + 3) := (hD2.2.2.2.2.1 0 (by omega)).1.2.2.2.1
  have b2 : mg_ (mg_ s 83 33 r) 83 33 d' (9 + 15) 5 = t 1 (ab_ 0 + 3) := (hD1.2.2.2.2.1 0 (by omega)).1.2.2.2.1
  rw [b1, b2]
theorem p_rivalIn (h : HH s t C R n T) (h1 : 1 ≤ k) (hk : k ≤ 200) (er : fX8_rounds t (nI k) = some t') : ∃ s' x, gX7_rivalIn s (nI k) = some (s', x) ∧ (x = -2000000000 ∨ x = t' 1 (ab_ 6 + 3) - rv2_ (t' 1)) ∧ ∀ o, o < 83 → s' o = s o := by
  obtain ⟨r, d', n', e1, -, e2, hD, h21⟩ := h.trial (by have := h.2.2.1.1.2.2.2; omega) er
  have hD2 : DD (sb_ (mg_ (mg_ s 83 33 r) 83 33 d') 83) (t' 1) C R n' := hD.x33 (fun o ho => by rw [sb_ap, mg_i (by omega) (by omega), Nat.add_sub_cancel_left])
  have hrv : sb_ s 10 0 14 = t 1 21 := h.1.rv
  unfold gX7_rivalIn
  rw [bn_e (p_within h1 hk), bn_e hasRival_e, hrv]
  by_cases hv : t 1 21 = -1
  · rw [if_pos hv, if_pos rfl]
    exact ⟨s, _, rfl, Or.inl rfl, fun _ _ => rfl⟩
  · rw [if_neg hv, if_neg (show ¬ (1 : Int32) = 0 by decide), bn_e e1, bd_e, bn_e e2, bd_e]
    refine ⟨_, _, rfl, Or.inr ?_, fun o ho => by rw [mg_o (by omega), mg_o (by omega)]⟩
    have b1 : mg_ (mg_ s 83 33 r) 83 33 d' 88 5 = t' 1 (ab_ 6 + 3) := hD2.2.2.1.2.2.2.1
    have b2 : mg_ (mg_ s 83 33 r) 83 33 d' 91 5 = t' 1 (ab_ 7 + 3) := (hD2.2.2.2.2.2 (by rw [h21]; exact hv)).1.2.2.2.1
    unfold rv2_
    rw [b1, b2, h21, if_neg hv]
end SNAP58
