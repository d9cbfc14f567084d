/-! a request comes for all arms -/
theorem AR.ext {a a' : st_} {w : Nat → Int32} {m n : Nat} (h : AR a w m n) (he : ∀ q, q < 3 → a' q = a q) : AR a' w m n := by
  unfold AR at h ⊢
  rw [he 0 (by omega), he 1 (by omega), he 2 (by omega)]
  exact h
/-- a loop over the rules' own arms -/
theorem own_lo {f : Int32 × st_ → Option ((Int32 × st_) ⊕ st_)} {R : Nat} {d : st_} (F : Nat → st_ → Prop) (hR : R ≤ 6)
    (body : ∀ k s, k < R → (∀ o, (o < 15 ∨ 15 + 3 * k ≤ o) → s o = d o) → wp_ (f (nI k, s)) (Sum.elim (fun w => w.1 = nI (k + 1) ∧ ∃ a', w.2 = mg_ s (3 * k + 15) 3 a' ∧ F k a') (fun _ => False)))
    (fin : ∀ s, (∀ o, (o < 15 ∨ 15 + 3 * R ≤ o) → s o = d o) → wp_ (f (nI R, s)) (Sum.elim (fun _ => False) (fun s' => s' = s)))
    (ext : ∀ r a a', (∀ q, q < 3 → a' q = a q) → F r a → F r a') : wp_ (it_ f FU_ ((0 : Int32), d)) (fun s' => (∀ o, (o < 15 ∨ 15 + 3 * R ≤ o) → s' o = d o) ∧ ∀ r, r < R → F r (sb_ s' (3 * r + 15))) := by
  refine wp_up (fun k v => v.1 = nI k ∧ (∀ o, (o < 15 ∨ 15 + 3 * k ≤ o) → v.2 o = d o) ∧ ∀ r, r < k → F r (sb_ v.2 (3 * r + 15))) 0 R (Nat.zero_le _) (by omega) ⟨rfl, fun _ _ => rfl, fun r hr => absurd hr (Nat.not_lt_zero _)⟩ (fun k v hk _ hv => ?_) (fun v hv => ?_)
  · obtain ⟨v1, s⟩ := v
    obtain ⟨e, ho, hF⟩ := hv
    dsimp only at e ho hF
    subst e
    refine wp_m (body k s hk ho) (fun y hy => ?_)
    cases y with
    | inl w =>
      obtain ⟨e1, a', e2, hFa⟩ := hy
      refine ⟨e1, fun o hoo => ?_, fun r hr => ?_⟩
      · rw [e2, mg_o (by omega)]
        exact ho o (by omega)
      · rw [e2]
        rcases Nat.lt_or_ge r k with h | h
        · refine ext r _ _ (fun q hq => ?_) (hF r h)
          rw [sb_ap, mg_o (by omega), sb_ap]
        · have er : r = k := by omega
          subst er
          refine ext r _ _ (fun q hq => ?_) hFa
          rw [sb_ap, mg_i (by omega) (by omega)]
          congr 1
          omega
    | inr x => exact hy.elim
  · obtain ⟨v1, s⟩ := v
    obtain ⟨e, ho, hF⟩ := hv
    dsimp only at e ho hF
    subst e
    refine wp_m (fin s ho) (fun y hy => ?_)
    cases y with
    | inl w => exact hy.elim
    | inr x =>
      have hy : x = s := hy
      subst hy
      exact ⟨ho, hF⟩
def rcv (n : Nat) (q mk : Int32) (a : st_) : st_ := pt_ (pt_ (pt_ a 1 n q) 2 n mk) 0 2 (nI (n + 1))
section RECV
variable {a d t : st_} {w w' : Nat → Int32} {m n C R : Nat} {q mk : Int32}
theorem receive_e (hn : a 0 2 = nI n) (h20 : n < 20) : fX0_receive a q mk = some (rcv n q mk a) := by
  have e1 : (pt_ a 1 n q) 0 2 = nI n := by rw [pt_oo (by decide), hn]
  have e2 : (pt_ (pt_ a 1 n q) 2 n mk) 0 2 = nI n := by rw [pt_oo (by decide), e1]
  have ei : ix_ (nI n) = n := ix_n (by omega)
  unfold fX0_receive
  rw [if_neg (by rw [hn]; exact nI_ge (b := 20) h20 (by omega))]
  simp only [hn, ei, bd_, e1, e2, nI_1]
  rw [gd_t (ib_n h20 (by omega)), gd_t (ib_n h20 (by omega))]
  rfl
/-- the row's arm with one request more -/
def CB (w w' : Nat → Int32) (m n : Nat) (q : Int32) : Prop := w' (ab_ m + 2) = nI (n + 1) ∧ w' (ab_ m + 7 + 2 * n) = q ∧ w' (ab_ m + 7 + 2 * n + 1) = w 16 ∧ ∀ i, ab_ m ≤ i → i < ab_ m + 47 → i ≠ ab_ m + 2 → i ≠ ab_ m + 7 + 2 * n → i ≠ ab_ m + 7 + 2 * n + 1 → w' i = w i
theorem recv_p (hA : AR a w m n) (hI : AI w m n C) (hB : CB w w' m n q) (h20 : n < 20) (hq : rg_ q 0 (C - 1)) (hmk : mk = w 16) : AR (rcv n q mk a) w' m (n + 1) ∧ AI w' m (n + 1) C := by
  obtain ⟨a0, a1, a2, a3, a4, a5, a6, aj⟩ := hA
  obtain ⟨hm, hc, hu, hn, _, hQ⟩ := hI
  obtain ⟨b1, b2, b3, b4⟩ := hB
  have r0 : ∀ j, j ≠ 2 → rcv n q mk a 0 j = a 0 j := fun j hj => by
    unfold rcv
    rw [pt_r hj, pt_oo (by decide), pt_oo (by decide)]
  have r02 : rcv n q mk a 0 2 = nI (n + 1) := pt_a
  have r1 : ∀ j, rcv n q mk a 1 j = if j = n then q else a 1 j := fun j => by
    unfold rcv
    rw [pt_oo (by decide), pt_oo (by decide)]
    by_cases h : j = n
    · subst h; rw [pt_a, if_pos rfl]
    · rw [pt_r h, if_neg h]
  have r2 : ∀ j, rcv n q mk a 2 j = if j = n then mk else a 2 j := fun j => by
    unfold rcv
    rw [pt_oo (by decide)]
    by_cases h : j = n
    · subst h; rw [pt_a, if_pos rfl]
    · rw [pt_r h, if_neg h, pt_oo (by decide)]
  refine ⟨⟨?_, ?_, ?_, ?_, ?_, ?_, ?_, fun j hj => ?_⟩, hm, ?_, ?_, b1, by omega, fun j hj => ?_⟩
  · rw [r0 0 (by decide), b4 _ (by omega) (by omega) (by omega) (by omega) (by omega)]; exact a0
  · rw [r0 1 (by decide), b4 _ (by omega) (by omega) (by omega) (by omega) (by omega)]; exact a1
  · rw [r02, b1]
  · rw [r0 5 (by decide), b4 _ (by omega) (by omega) (by omega) (by omega) (by omega)]; exact a3
  · rw [r0 6 (by decide), b4 _ (by omega) (by omega) (by omega) (by omega) (by omega)]; exact a4
  · rw [r0 7 (by decide), b4 _ (by omega) (by omega) (by omega) (by omega) (by omega)]; exact a5
  · rw [r0 8 (by decide), b4 _ (by omega) (by omega) (by omega) (by omega) (by omega)]; exact a6
  · rw [r1, r2]
    by_cases h : j = n
    · subst h
      rw [if_pos rfl, if_pos rfl, b2, b3]
      exact ⟨rfl, hmk⟩
    · rw [if_neg h, if_neg h, b4 _ (by omega) (by omega) (by omega) (by omega) (by omega), b4 _ (by omega) (by omega) (by omega) (by omega) (by omega)]
      exact aj j (by omega)
  · rw [b4 _ (by omega) (by omega) (by omega) (by omega) (by omega)]; exact hc
  · rw [b4 _ (by omega) (by omega) (by omega) (by omega) (by omega)]; exact hu
  · by_cases h : j = n
    · subst h
      rw [b2]; exact hq
    · rw [b4 _ (by omega) (by omega) (by omega) (by omega) (by omega)]
      exact hQ j (by omega)
theorem hasRival_e {S : st_} : fX5_hasRival S = some (if S 0 14 = -1 then 0 else 1) := by
  unfold fX5_hasRival
  split <;> rfl
/-- what lies about the arms that there are not stays as it was -/
def OK_ (d d' : st_) (R : Nat) : Prop := (∀ o, 15 + 3 * R ≤ o → o < 33 → d' o = d o) ∧ (d 1 14 = -1 → d' 8 = d 8)
theorem OK_.r {d : st_} {R : Nat} : OK_ d d R := ⟨fun _ _ _ => rfl, fun _ => rfl⟩
theorem OK_.tr {d d' d'' : st_} {R : Nat} (h : OK_ d d' R) (h' : OK_ d' d'' R) (e : d' 1 14 = d 1 14) : OK_ d d'' R := ⟨fun o a b => (h'.1 o a b).trans (h.1 o a b), fun k => (h'.2 (e.trans k)).trans (h.2 k)⟩
theorem addForAll_w (hR : d 1 4 = nI R) (hR6 : R ≤ 6) (h5 : d 5 2 = nI n) (hown : ∀ r, r < R → d (3 * r + 15) 2 = nI n) (h8 : ¬ d 1 14 = -1 → d 8 2 = nI n) (h20 : n < 20) : wp_ (fX1_addForAll d q) (fun d' => (∀ o, (o < 5 ∨ (11 ≤ o ∧ o < 15)) → d' o = d o) ∧ (∀ x, x < 3 → sb_ d' 5 x = rcv n q (d 0 9) (sb_ d 5) x) ∧ (∀ r, r < R → ∀ x, x < 3 → sb_ d' (3 * r + 15) x = rcv n q (d 0 9) (sb_ d (3 * r + 15)) x) ∧ (¬ d 1 14 = -1 → ∀ x, x < 3 → sb_ d' 8 x = rcv n q (d 0 9) (sb_ d 8) x) ∧ OK_ d d' R) := by
  unfold fX1_addForAll fX1_addForAll_l14
  refine wp_bne (receive_e (a := sb_ d 5) h5 h20) (wp_bd ?_)
  generalize hs : mg_ d 5 3 (rcv n q (d 0 9) (sb_ d 5)) = s
  have so : ∀ o, (o < 5 ∨ 8 ≤ o) → s o = d o := fun o ho => by rw [← hs]; exact mg_o (by omega)
  have s5 : ∀ x, x < 3 → s (5 + x) = rcv n q (d 0 9) (sb_ d 5) x := fun x hx => by
    rw [← hs, mg_i (by omega) (by omega)]
    congr 1
    omega
  refine wp_bn (own_lo (d := s) (fun r a' => ∀ x, x < 3 → a' x = rcv n q (d 0 9) (sb_ d (3 * r + 15)) x) hR6 (fun k z hk hz => ?_) (fun z hz => ?_) (fun r a a' he h x hx => by rw [he x hx]; exact h x hx)) (fun z hz => ?_)
  · unfold fX1_addForAll_b14
    dsimp only
    have e14 : z 1 4 = nI R := by rw [hz 1 (by omega), so 1 (by omega), hR]
    have ei : ix_ (nI k) = k := ix_n (by omega)
    have e09 : z 0 9 = d 0 9 := by rw [hz 0 (by omega), so 0 (by omega)]
    have esb : sb_ z (3 * k + 15) = sb_ d (3 * k + 15) := by
      funext x
      rw [sb_ap, sb_ap, hz _ (by omega), so _ (by omega)]
    simp only [ei, e09, esb]
    refine wp_if' (by rw [e14]; exact nI_ge hk (by omega)) (wp_gd (ib_n (by omega) (by omega)) (wp_bne (receive_e (a := sb_ d (3 * k + 15)) (hown k hk) h20) (wp_bd (wp_l ⟨nI_1 k, _, rfl, fun x hx => rfl⟩))))
  · unfold fX1_addForAll_b14
    dsimp only
    have e14 : z 1 4 = nI R := by rw [hz 1 (by omega), so 1 (by omega), hR]
    exact wp_it (by rw [e14]; exact Int32.le_refl _) (wp_r rfl)
  · obtain ⟨zo, zF⟩ := hz
    unfold fX1_addForAll_k14 fX1_addForAll_x14_45
    refine wp_bne hasRival_e ?_
    have e114 : sb_ z 1 0 14 = d 1 14 := by
      rw [sb_ap, zo _ (by omega), so _ (by omega)]
    rw [e114]
    have zo2 : ∀ o, (o < 5 ∨ (8 ≤ o ∧ o < 15)) → z o = d o := fun o ho => by rw [zo o (by omega), so o (by omega)]
    have z5 : ∀ x, x < 3 → sb_ z 5 x = rcv n q (d 0 9) (sb_ d 5) x := fun x hx => by rw [sb_ap, zo _ (by omega), s5 x hx]
    by_cases hr : d 1 14 = -1
    · refine wp_it (by rw [if_pos hr]) (wp_s ⟨fun o ho => zo2 o (by omega), z5, zF, fun h => absurd hr h, fun o ho _ => by rw [zo o (Or.inr ho), so o (by omega)], fun _ => zo2 8 (by omega)⟩)
    · refine wp_if' (by rw [if_neg hr]; decide) ?_
      have e09 : z 0 9 = d 0 9 := by rw [zo2 0 (by omega)]
      have e8 : sb_ z 8 0 2 = nI n := by
        rw [sb_ap, zo2 _ (by omega)]
        exact h8 hr
      rw [e09]
      refine wp_bne (receive_e e8 h20) (wp_bd (wp_s ⟨fun o ho => ?_, fun x hx => ?_, fun r hr x hx => ?_, fun _ x hx => ?_, fun o ho _ => by rw [mg_o (by omega), zo o (Or.inr ho), so o (by omega)], fun h => absurd h hr⟩))
      · rw [mg_o (by omega)]
        exact zo2 o (by omega)
      · rw [sb_ap, mg_o (by omega)]
        exact z5 x hx
      · rw [sb_ap, mg_o (by omega)]
        exact zF r hr x hx
      · rw [sb_ap, mg_i (by omega) (by omega)]
        have e : 8 + x - 8 = x := by omega
        rw [e]
        have key : ∀ y, y < 3 → sb_ z 8 y = sb_ d 8 y := fun y hy => by rw [sb_ap, sb_ap, zo2 _ (by omega)]
        unfold rcv
        unfold pt_
        have k0 := key 0 (by omega)
        have k1 := key 1 (by omega)
        have k2 := key 2 (by omega)
        have hx3 : x = 0 ∨ x = 1 ∨ x = 2 := by omega
        rcases hx3 with rfl | rfl | rfl
        · simp [k0]
        · simp [k1]
        · simp [k2]
end RECV
