/-! what the property rests on is told by the records alone -/
/-- counts summed over the rules -/
def scn_ (f : Nat → Int32) (T : Nat) : Nat → Nat
  | 0 => 0
  | r + 1 => scn_ f T r + cnt f (nI r) T
theorem scn_congr {f g : Nat → Int32} {T : Nat} : ∀ R, (∀ r, r < R → cnt f (nI r) T = cnt g (nI r) T) → scn_ f T R = scn_ g T R
  | 0, _ => rfl
  | R + 1, h => by
    unfold scn_
    rw [scn_congr R (fun r hr => h r (by omega)), h R (by omega)]
theorem scn_one {f : Nat → Int32} {T : Nat} : ∀ R, R ≤ 6 → scn_ f (T + 1) R = scn_ f T R + (if 1 ≤ R ∧ f T = nI (ix_ (f T)) ∧ 0 ≤ ix_ (f T) ∧ ix_ (f T) ≤ R - 1 then 1 else 0)
  | 0, _ => by rw [if_neg (fun z => absurd z.1 (by omega))]; rfl
  | R + 1, h => by
    have ih := scn_one (f := f) (T := T) R (by omega)
    show scn_ f (T + 1) R + (cnt f (nI R) T + (if f T = nI R then 1 else 0)) = scn_ f T R + cnt f (nI R) T + _
    rw [ih]
    by_cases hc : f T = nI R
    · rw [if_pos hc, if_neg (fun z => by
        obtain ⟨x, _, hx, ex⟩ := (show rg_ (f T) 0 (R - 1) from z.2).ex
        have := (nI_eq (by omega) (by omega)).mp (hc.symm.trans ex)
        omega), if_pos ⟨by omega, (show rg_ (f T) 0 (R + 1 - 1) from by rw [hc]; exact rg_n (Nat.zero_le _) (by omega) (by omega))⟩]
      omega
    · rw [if_neg hc]
      by_cases hr : 1 ≤ R ∧ f T = nI (ix_ (f T)) ∧ 0 ≤ ix_ (f T) ∧ ix_ (f T) ≤ R - 1
      · rw [if_pos hr, if_pos ⟨by omega, (show rg_ (f T) 0 (R + 1 - 1) from rg_.mono hr.2 (Nat.le_refl _) (by omega))⟩]
        omega
      · rw [if_neg hr, if_neg (fun z => hr (by
          obtain ⟨x, _, hx, ex⟩ := (show rg_ (f T) 0 (R + 1 - 1) from z.2).ex
          have hxR : x ≠ R := fun y => hc (by rw [ex, y])
          refine ⟨by omega, (show rg_ (f T) 0 (R - 1) from ?_)⟩
          rw [ex]
          exact rg_n (Nat.zero_le _) (by omega) (by omega)))]
        omega
theorem scn_all {f : Nat → Int32} {R : Nat} (h1 : 1 ≤ R) (h6 : R ≤ 6) : ∀ T, scn_ f T R ≤ T ∧ (scn_ f T R = T ↔ ∀ k, k < T → rg_ (f k) 0 (R - 1))
  | 0 => by
    have e : ∀ R, scn_ f 0 R = 0 := fun R => by
      induction R with
      | zero => rfl
      | succ R ih => show scn_ f 0 R + 0 = 0; rw [ih]
    rw [e]
    exact ⟨Nat.le_refl _, fun _ k hk => absurd hk (by omega), fun _ => rfl⟩
  | T + 1 => by
    obtain ⟨i1, i2⟩ := scn_all (f := f) h1 h6 T
    rw [scn_one R h6]
    by_cases hc : 1 ≤ R ∧ f T = nI (ix_ (f T)) ∧ 0 ≤ ix_ (f T) ∧ ix_ (f T) ≤ R - 1
    · rw [if_pos hc]
      refine ⟨by omega, fun z k hk => ?_, fun z => ?_⟩
      · rcases Nat.lt_or_ge k T with hkT | hkT
        · exact i2.mp (by omega) k hkT
        · have : k = T := by omega
          subst this
          exact hc.2
      · rw [i2.mpr (fun k hk => z k (by omega))]
    · rw [if_neg hc]
      exact ⟨by omega, fun z => absurd z (by omega), fun z => absurd (show 1 ≤ R ∧ rg_ (f T) 0 (R - 1) from ⟨h1, z T (by omega)⟩) hc⟩
section SAME
variable {s s' t t' : st_} {C R n n' T K C' R' T' : Nat}
/-- the row of a state, as far as the records tell it -/
theorem HH.row (h : HH s t C R n T) (h' : HH s' t' C' R n' T) (hs : ∀ o, 42 ≤ o → o < 83 → s' o = s o) : (∀ k, k < T → t' 1 (548 + k) = t 1 (548 + k)) ∧ (∀ m, am6 R m → ∀ k, k ≤ T → nsm (cs_ (t' 1) m) k = nsm (cs_ (t 1) m) k) ∧ (∀ r, r < R → t' 1 (26 + 5 * r + 3) = t 1 (26 + 5 * r + 3) ∧ t' 1 (26 + 5 * r + 4) = t 1 (26 + 5 * r + 4) ∧ cnt (fun k => t' 1 (1748 + k)) (nI r) T = cnt (fun k => t 1 (1748 + k)) (nI r) T) ∧ (∀ r o, r < R → o < R → t' 1 (12548 + 6 * r + o) = t 1 (12548 + 6 * r + o)) ∧ t' 1 17 = t 1 17 ∧ t' 1 18 = t 1 18 ∧ t' 1 19 = t 1 19 := by
  have h6 := h.1.rb.1.2.1
  obtain ⟨⟨⟨g0, g1, g16, gT⟩, -, hP, hTk, hC, ⟨j1, j2, j3, j4, j5⟩⟩, hX⟩ := h.2.2
  obtain ⟨⟨⟨g0', g1', g16', gT'⟩, -, hP', hTk', hC', ⟨j1', j2', j3', j4', j5'⟩⟩, hX'⟩ := h'.2.2
  have e : ∀ o, o < 41 → sb_ s' 42 o = sb_ s 42 o := fun o ho => hs _ (by omega) (by omega)
  have e0 := e 0 (by omega)
  rw [e0] at j2' j3' j4'
  refine ⟨fun k hk => ?_, fun m hm k hk => ?_, fun r hr => ?_, fun r o hr ho => ?_, j2'.symm.trans j2, j3'.symm.trans j3, j4'.symm.trans j4⟩
  · rw [← (hTk k hk).1, ← (hTk' k hk).1, e 9 (by omega)]
  · have a1 := (hP m hm).1 k hk
    have a2 := (hP' m hm).1 k hk
    have b1 := nsm_b (F := cs_ (t 1) m) (M := 9900) k (fun i hi => ((hP m hm).2.1 i (by omega)).2.2)
    have b2 := nsm_b (F := cs_ (t' 1) m) (M := 9900) k (fun i hi => ((hP' m hm).2.1 i (by omega)).2.2)
    have hr7 : rw6 m < 41 := by unfold rw6; rcases hm with a | a <;> split <;> omega
    rw [e _ hr7] at a2
    have hk9 : k * 9900 ≤ 1000 * 9900 := Nat.mul_le_mul_right _ (by omega)
    exact (nI_eq (by omega) (by omega)).mp (a2.symm.trans a1)
  · obtain ⟨c1, c2, c3⟩ := hC r hr
    obtain ⟨c1', c2', c3'⟩ := hC' r hr
    rw [e _ (by omega)] at c1' c2' c3'
    have l1 := cnt_le (f := fun k => t 1 (1748 + k)) (v := nI r) T
    have l2 := cnt_le (f := fun k => t' 1 (1748 + k)) (v := nI r) T
    exact ⟨c1'.symm.trans c1, c2'.symm.trans c2, (nI_eq (by omega) (by omega)).mp (c3'.symm.trans c3)⟩
  · rw [← hX r o hr ho, ← hX' r o hr ho, e _ (by omega)]
theorem cs_of {w w' : Nat → Int32} {m : Nat} (h : ∀ k, k ≤ T → nsm (cs_ w' m) k = nsm (cs_ w m) k) : ∀ k, k < T → cs_ w' m k = cs_ w m k := fun k hk => by
  have a1 := h k (by omega)
  have a2 := h (k + 1) hk
  have e1 : nsm (cs_ w' m) (k + 1) = nsm (cs_ w' m) k + cs_ w' m k := rfl
  have e2 : nsm (cs_ w m) (k + 1) = nsm (cs_ w m) k + cs_ w m k := rfl
  omega
theorem WI.row {w w' : Nat → Int32} (hI : WI w R T) (h1 : 1 ≤ R) (h6 : R ≤ 6) (r1 : ∀ k, k < T → w' (548 + k) = w (548 + k)) (r2 : ∀ m, am6 R m → ∀ k, k ≤ T → nsm (cs_ w' m) k = nsm (cs_ w m) k) (r3 : ∀ r, r < R → w' (26 + 5 * r + 3) = w (26 + 5 * r + 3) ∧ w' (26 + 5 * r + 4) = w (26 + 5 * r + 4) ∧ cnt (fun k => w' (1748 + k)) (nI r) T = cnt (fun k => w (1748 + k)) (nI r) T) (r4 : ∀ r o, r < R → o < R → w' (12548 + 6 * r + o) = w (12548 + 6 * r + o)) (r5 : w' 17 = w 17) (r6 : w' 18 = w 18) (r7 : w' 19 = w 19) (w11 : w' 11 = w 11) (w12 : w' 12 = w 12) : WI w' R T := by
  obtain ⟨i1, i2, i3, i4, i5, i6, i7, i8, i9⟩ := hI
  have krg : ∀ k, k ≤ T → rgk_ w' R k = rgk_ w R k := fun k hk => by
    have eb : bst (fun r => nI (nsm (cs_ w' r) k)) (R - 1) = bst (fun r => nI (nsm (cs_ w r) k)) (R - 1) := bst_congr (R - 1) (fun r hr => by rw [r2 r (Or.inl (by omega)) k hk])
    have hb := bst_le (f := fun r => nI (nsm (cs_ w r) k)) (R - 1)
    unfold rgk_
    rw [eb, r2 6 (Or.inr rfl) k hk, r2 _ (Or.inl (by omega)) k hk]
  have kbd : ∀ k, bnd_ w' k = bnd_ w k := fun k => by
    unfold bnd_
    rw [w11, w12]
  have kmx : ∀ k, k ≤ T → mxr_ w' R k = mxr_ w R k := fun k => by
    induction k with
    | zero => intro _; rfl
    | succ k ih =>
      intro hk
      unfold mxr_
      rw [ih (by omega), krg (k + 1) hk]
  have kbr : ∀ k, k ≤ T → brc_ w' R k = brc_ w R k := fun k => by
    induction k with
    | zero => intro _; rfl
    | succ k ih =>
      intro hk
      unfold brc_
      rw [ih (by omega), krg (k + 1) hk, kbd]
  have ktk : ∀ r k, k ≤ T → tks_ w' r k = tks_ w r k := fun r k => by
    induction k with
    | zero => intro _; rfl
    | succ k ih =>
      intro hk
      unfold tks_
      rw [ih (by omega), r1 k (by omega), cs_of (r2 6 (Or.inr rfl)) k (by omega)]
  refine ⟨fun r hr => ?_, fun r hr => ?_, ?_, fun r o hr ho => ?_, fun r hr => ?_, ?_, ?_, ?_, ?_⟩
  · rw [(r3 r hr).1, i1 r hr]
    exact congrArg nI (cnt_congr T (fun k hk => (r1 k hk).symm))
  · rw [(r3 r hr).2.1, i2 r hr, ktk r T (Nat.le_refl _)]
  · have a1 := (scn_all (f := fun k => w (1748 + k)) h1 h6 T).2.mpr i3
    rw [← scn_congr R (fun r hr => (r3 r hr).2.2)] at a1
    exact (scn_all (f := fun k => w' (1748 + k)) h1 h6 T).2.mp a1
  · rw [r4 r o hr ho]
    exact i4 r o hr ho
  · rw [r4 r r hr hr, (r3 r hr).2.1]
    exact i5 r hr
  · rw [r6, i6, kmx T (Nat.le_refl _)]
  · rw [r5, i7, kbr T (Nat.le_refl _)]
  · rw [r5, r7]
    exact i8
  · rw [w11]
    exact i9
theorem HH.base (h : HH s t C R n T) : s 10 17 = t 1 11 ∧ s 10 18 = t 1 12 := by
  obtain ⟨hRS, a1, a2, k1, k2, k3, k4, eta, etar, foe, foer, ak, akr, asks, base, root, bud, rv, rvr, rvk⟩ := h.1.1
  exact ⟨base, root⟩
/-- settings change, the records stay -/
theorem YY.set (h : YY s t C R n T K) (hg : GH s' t') (ho : ∀ o, 14 ≤ o → o < 83 → s' o = s o) (h9 : s' 9 9 = s 9 9) (h0 : s' 10 0 = s 10 0) (h4 : s' 10 4 = s 10 4) (h17 : s' 10 17 = s 10 17) (h18 : s' 10 18 = s 10 18) : YY s' t' C R n T K := by
  obtain ⟨C', R', n', T', hH'⟩ := hg
  obtain ⟨hH, hI, hA⟩ := h
  obtain ⟨eC, eR, eT⟩ := hH.nums hH' h0 h4 h9
  subst eC eR eT
  have h1 := hH.1.rb.1.1
  have h6 := hH.1.rb.1.2.1
  have hA' : DT (sb_ s' 9) R' n T' K := hA.ext h6 (fun o hoo => ho _ (by omega) (by omega))
  have hn20 : n ≤ 20 := hH.1.2.2.2.1.2.2.2.2.1
  have en := hA'.num hH'.1.2.2 hn20
  subst en
  obtain ⟨r1, r2, r3, r4, r5, r6, r7⟩ := hH.row hH' (fun o a b => ho o (by omega) b)
  exact ⟨hH', hI.row h1 h6 r1 r2 r3 r4 r5 r6 r7 (by rw [← hH'.base.1, h17]; exact hH.base.1) (by rw [← hH'.base.2, h18]; exact hH.base.2), hA'⟩
end SAME
