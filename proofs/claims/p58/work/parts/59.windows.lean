/-! calls that ask, over windows of rounds -/
def sg_ (w : Nat → Int32) (m a b : Nat) : Nat := nsm (cs_ w m) b - nsm (cs_ w m) a
theorem sg_0 {w : Nat → Int32} {m a : Nat} : sg_ w m a a = 0 := Nat.sub_self _
theorem sg_1 {w : Nat → Int32} {m a k : Nat} (h : a ≤ k) : sg_ w m a (k + 1) = sg_ w m a k + cs_ w m k := by
  have := nsm_mono (F := cs_ w m) h
  show nsm (cs_ w m) k + cs_ w m k - nsm (cs_ w m) a = nsm (cs_ w m) k - nsm (cs_ w m) a + cs_ w m k
  omega
section WINDOWS
variable {s t e u : st_} {w : Nat → Int32} {C R n T a b : Nat}
theorem nsm_B (h : R0 e w R T) {m : Nat} (hm : am6 R m) {k : Nat} (hk : k ≤ T) : nsm (cs_ w m) k ≤ 9900000 := by
  have hT := h.1.2.2.2
  have := nsm_b (F := cs_ w m) (M := 9900) k (fun r hr => ((h.2.2.1 m hm).2.1 r (by omega)).2.2)
  omega
theorem paidIn_s (h : R0 e w R T) (h6 : R ≤ 6) {m : Nat} (hm : am6 R m) (hab : a ≤ b) (hb : b ≤ T) : fX4_paidIn e (xa_ m) (nI a) (nI b) = some (nI (sg_ w m a b)) := paidIn_e h h6 hm hab hb
theorem xa_r {r : Nat} (hr : r < R) (h6 : R ≤ 6) : xa_ r = nI r := by
  unfold xa_
  rw [if_neg (by omega)]
theorem cheapestIn_e (h : R0 e w R T) (h1 : 1 ≤ R) (h6 : R ≤ 6) (hab : a ≤ b) (hb : b ≤ T) : fX4_cheapestIn e (nI a) (nI b) = some (nI (bst (fun r => nI (sg_ w r a b)) (R - 1))) := by
  generalize hf : (fun r => nI (sg_ w r a b)) = f
  have hf' : ∀ r, r < R → fX4_paidIn e (nI r) (nI a) (nI b) = some (f r) := fun r hr => by
    rw [← hf, ← xa_r hr h6]
    exact paidIn_s h h6 (Or.inl hr) hab hb
  suffices h : wp_ (fX4_cheapestIn e (nI a) (nI b)) (fun x => x = nI (bst f (R - 1))) by
    obtain ⟨x, e1, rfl⟩ := h
    exact e1
  have g0 := h.1.1
  unfold fX4_cheapestIn fX4_cheapestIn_l5
  refine wp_bn (Q := fun x => x = nI (bst f (R - 1))) ?_ (fun x hx => wp_s hx)
  refine wp_up (fun k v => v = (nI (bst f (k - 1)), nI k)) 1 R h1 (by omega) rfl (fun k v hk hk1 hv => ?_) (fun v hv => ?_)
  · subst hv
    have hb := bst_le (f := f) (k - 1)
    unfold fX4_cheapestIn_b5
    dsimp only
    rw [g0]
    refine wp_if' (nI_ge hk (by omega)) (wp_bne (hf' k hk) (wp_bne (hf' _ (by omega)) ?_))
    have ek : bst f (k + 1 - 1) = if f (bst f (k - 1)) ≤ f k then bst f (k - 1) else k := by
      obtain ⟨j, rfl⟩ : ∃ j, k = j + 1 := ⟨k - 1, by omega⟩
      rfl
    unfold fX4_cheapestIn_j35
    refine wp_if (fun hc => wp_l ?_) (fun hc => wp_l ?_)
    · rw [ek, if_pos hc, nI_1]
    · rw [ek, if_neg hc, nI_1]
  · subst hv
    unfold fX4_cheapestIn_b5
    dsimp only
    rw [g0]
    exact wp_it (Int32.le_refl _) (wp_r rfl)
theorem regretOver_e (h : R0 e w R T) (h1 : 1 ≤ R) (h6 : R ≤ 6) (hab : a ≤ b) (hb : b ≤ T) : fX4_regretOver e (nI a) (nI b) = some (nI (sg_ w 6 a b) - nI (sg_ w (bst (fun r => nI (sg_ w r a b)) (R - 1)) a b)) := by
  have e1 : fX4_paidIn e (-1 : Int32) (nI a) (nI b) = some (nI (sg_ w 6 a b)) := paidIn_s h h6 (m := 6) (Or.inr rfl) hab hb
  have e2 := cheapestIn_e h h1 h6 hab hb
  have hb1 := bst_le (f := fun r => nI (sg_ w r a b)) (R - 1)
  generalize bst (fun r => nI (sg_ w r a b)) (R - 1) = c at e2 hb1
  have e3 := paidIn_s h h6 (m := c) (Or.inl (by omega)) hab hb
  rw [xa_r (R := R) (by omega) h6] at e3
  unfold fX4_regretOver
  rw [bn_e e1, bn_e e2, bn_e e3]
theorem sumIn_e (h : R0 e w R T) (h6 : R ≤ 6) (hu : u 1 = w) {m : Nat} (hm : am6 R m) {L : Nat} (hab : a + L ≤ T) : fX8_sumIn u (nI m) (nI a) (nI L) = some (nI (sg_ w m a (a + L))) := by
  have hT := h.1.2.2.2
  have hm8 : m < 8 := by unfold am6 at hm; omega
  suffices h : wp_ (fX8_sumIn u (nI m) (nI a) (nI L)) (fun x => x = nI (sg_ w m a (a + L))) by
    obtain ⟨x, e1, rfl⟩ := h
    exact e1
  unfold fX8_sumIn fX8_sumIn_l6
  refine wp_bn (Q := fun x => x = nI (sg_ w m a (a + L))) ?_ (fun x hx => wp_s hx)
  refine wp_up (fun k v => v = (nI (sg_ w m a k), nI k)) a (a + L) (by omega) (by omega) (by rw [sg_0]; rfl) (fun k v hk hk1 hv => ?_) (fun v hv => ?_)
  · subst hv
    unfold fX8_sumIn_b6
    dsimp only
    rw [nI_add]
    refine wp_if' (nI_ge hk (by omega)) (wp_bne (cost1_e hm8 (by omega)) (wp_l ?_))
    rw [hu, sg_1 hk1, nI_1, ← nI_add (sg_ w m a k)]
    have h9 : w (2948 + 1200 * m + k) = nI (cs_ w m k) := ((h.2.2.1 m hm).2.1 k (by omega)).1
    rw [h9]
  · subst hv
    unfold fX8_sumIn_b6
    dsimp only
    rw [nI_add]
    exact wp_it (Int32.le_refl _) (wp_r rfl)
/-- but for what is kept aside the model is the same -/
def LI (u u' : st_) : Prop := (∀ o, o ≠ 0 → u' o = u o) ∧ ∀ j, j ≠ 17 → u' 0 j = u 0 j
theorem LI.r : LI u u := ⟨fun _ _ => rfl, fun _ _ => rfl⟩
theorem LI.tr {u u' u'' : st_} (h : LI u u') (h' : LI u' u'') : LI u u'' := ⟨fun o a => (h'.1 o a).trans (h.1 o a), fun j a => (h'.2 j a).trans (h.2 j a)⟩
theorem LI.p {x : Int32} : LI u (pt_ u 0 17 x) := ⟨fun _ a => pt_o a, fun _ a => pt_r a⟩
theorem LI.mi (h : LI (pt_ t 0 6 0) u) : MI t u ∧ u 0 6 = 0 := ⟨⟨fun j _ => by rw [h.1 1 (by decide), pt_oo (by decide)], fun o a _ => by rw [h.1 o (by omega), pt_o (by omega)], by rw [h.2 8 (by decide), pt_r (by decide)], by rw [h.2 13 (by decide), pt_r (by decide)]⟩, by rw [h.2 6 (by decide), pt_a]⟩
theorem bestIn_w (h : R0 e w R T) (h1 : 1 ≤ R) (h6 : R ≤ 6) (hu : u 1 = w) (h4 : w 4 = nI R) {L : Nat} (hab : a + L ≤ T) : wp_ (fX8_bestIn u (nI a) (nI L)) (fun z => LI u z.1 ∧ z.2 = nI (bst (fun r => nI (sg_ w r a (a + L))) (R - 1)) ∧ z.1 0 17 = nI (sg_ w (bst (fun r => nI (sg_ w r a (a + L))) (R - 1)) a (a + L))) := by
  generalize hf : (fun r => nI (sg_ w r a (a + L))) = f
  have hf' : ∀ r, nI (sg_ w r a (a + L)) = f r := fun r => by rw [← hf]
  rw [hf']
  unfold fX8_bestIn fX8_bestIn_l5
  refine wp_bn (Q := fun z => LI u z.2 ∧ z.1 = nI (bst f (R - 1)) ∧ z.2 0 17 = f (bst f (R - 1))) ?_ (fun x hx => wp_s hx)
  refine wp_up (fun k v => LI u v.2.2 ∧ v.2.1 = nI k ∧ ((k = 0 ∧ v.1 = -1) ∨ (0 < k ∧ v.1 = nI (bst f (k - 1)) ∧ v.2.2 0 17 = f (bst f (k - 1))))) 0 R (Nat.zero_le _) (by omega) ⟨LI.r, rfl, Or.inl ⟨rfl, rfl⟩⟩ (fun k v hk hk1 hv => ?_) (fun v hv => ?_)
  · obtain ⟨v1, v2, z⟩ := v
    obtain ⟨hL, e2, hv⟩ := hv
    dsimp only at hL e2 hv
    subst e2
    have hz : z 1 = w := (hL.1 1 (by decide)).trans hu
    show wp_ (fX8_bestIn_b5 (nI a) (nI L) v1 (nI k) z) _
    unfold fX8_bestIn_b5
    rw [i4_, hz, h4]
    refine wp_gd b4_ (wp_if' (nI_ge hk (by omega)) (wp_bne (sumIn_e h h6 hz (m := k) (Or.inl hk) hab) ?_))
    rw [hf']
    have take : wp_ (fX8_bestIn_j43 (nI k) z (f k)) (Sum.elim (fun v => LI u v.2.2 ∧ v.2.1 = nI (k + 1) ∧ ((k + 1 = 0 ∧ v.1 = -1) ∨ (0 < k + 1 ∧ v.1 = nI k ∧ v.2.2 0 17 = f k))) (fun z => LI u z.2 ∧ z.1 = nI (bst f (R - 1)) ∧ z.2 0 17 = f (bst f (R - 1)))) := by
      unfold fX8_bestIn_j43 fX8_bestIn_j52
      exact wp_bd (wp_l ⟨hL.tr LI.p, nI_1 k, Or.inr ⟨by omega, rfl, (pt_a : pt_ z 0 17 (f k) 0 17 = f k)⟩⟩)
    rcases hv with ⟨h0, ev⟩ | ⟨h0, ev, e17⟩
    · subst h0
      exact wp_it ev take
    · have hb := bst_le (f := f) (k - 1)
      have ek : bst f (k + 1 - 1) = if f (bst f (k - 1)) ≤ f k then bst f (k - 1) else k := by
        obtain ⟨j, rfl⟩ : ∃ j, k = j + 1 := ⟨k - 1, by omega⟩
        rfl
      refine wp_if' (by rw [ev]; exact nI_ne1 (by omega)) ?_
      rw [e17]
      rw [ek]
      refine wp_if (fun hc => ?_) (fun hc => ?_)
      · rw [if_neg (Int32.not_le.mpr hc)]
        exact take
      · rw [if_pos (Int32.not_lt.mp hc)]
        unfold fX8_bestIn_j52
        exact wp_l ⟨hL, nI_1 k, Or.inr ⟨by omega, ev, e17⟩⟩
  · obtain ⟨v1, v2, z⟩ := v
    obtain ⟨hL, e2, hv⟩ := hv
    dsimp only at hL e2 hv
    subst e2
    have hz : z 1 = w := (hL.1 1 (by decide)).trans hu
    show wp_ (fX8_bestIn_b5 (nI a) (nI L) v1 (nI R) z) _
    unfold fX8_bestIn_b5
    rw [i4_, hz, h4]
    refine wp_gd b4_ (wp_it (Int32.le_refl _) (wp_r ⟨hL, ?_⟩))
    rcases hv with ⟨h0, _⟩ | ⟨h0, ev, e17⟩
    · omega
    · exact ⟨ev, e17⟩
theorem regretIn1_w (h : R0 e w R T) (h1 : 1 ≤ R) (h6 : R ≤ 6) (hu : u 1 = w) (h4 : w 4 = nI R) {L : Nat} (hab : a + L ≤ T) : wp_ (fX8_regretIn1 u (nI a) (nI L)) (fun z => LI u z.1 ∧ z.2 = nI (sg_ w 6 a (a + L)) - nI (sg_ w (bst (fun r => nI (sg_ w r a (a + L))) (R - 1)) a (a + L))) := by
  unfold fX8_regretIn1
  refine wp_bn (bestIn_w h h1 h6 hu h4 hab) (fun z hz => ?_)
  obtain ⟨hL, e1, e17⟩ := hz
  refine wp_bne (sumIn_e h h6 ((hL.1 1 (by decide)).trans hu) (m := 6) (Or.inr rfl) hab) (wp_s ⟨hL, ?_⟩)
  dsimp only
  rw [e17]
theorem hasR_n (h1 : e 0 1 = nI T) (hT : T ≤ 1000) {L : Nat} (h1L : 1 ≤ L) (hL : L ≤ 1000) (ha : a < 2147483648) (h : ¬ a + L ≤ T) : fX4_hasRounds e (nI a) (nI L) = some 0 := by
  unfold fX4_hasRounds fX4_hasRounds_j30
  rw [if_neg (nI_pos (by omega)), if_neg (nI_pos (by omega)), h1]
  by_cases hTL : T < L
  · rw [if_pos (nI_lt hTL (by omega))]
  · rw [if_neg (nI_nlt (by omega) (by omega)), pk_sub (by omega), if_pos (nI_lt (by omega) ha)]
theorem isWin_e (h16 : u 1 16 = nI T) (hT : T ≤ 1000) {L : Nat} (hL : L ≤ 1000) (ha : a < 2147483648) : fX8_isWindow u (nI a) (nI L) = some (if a + L ≤ T then 1 else 0) := by
  have h2 : (nI T - nI L).toInt = (T : Int) - L := pk_sub_toInt (by omega) (by omega)
  have h3 : (nI a).toInt = (a : Int) := nI_toInt ha
  unfold fX8_isWindow
  rw [gd_t b16_, i16_, h16]
  by_cases h : a + L ≤ T
  · rw [if_pos h, if_neg (fun z => by rw [Int32.lt_iff_toInt_lt, h2, h3] at z; omega)]
  · rw [if_neg h, if_pos (by rw [Int32.lt_iff_toInt_lt, h2, h3]; omega)]
theorem winC {x y : Int32} (h : 0 ≤ x ∧ 1 ≤ y ∧ y ≤ 1000) : ∃ a L : Nat, a < 2147483648 ∧ 1 ≤ L ∧ L ≤ 1000 ∧ x = nI a ∧ y = nI L := by
  obtain ⟨a, ha, rfl⟩ := nI_of (Int32.not_lt.mpr h.1)
  obtain ⟨L, l1, l2, rfl⟩ := ((rg_iff (lo := 1) (hi := 1000) (by omega) (by omega)).mpr h.2).ex
  exact ⟨a, L, ha, l1, l2, rfl, rfl⟩
theorem windowRegret_p (h : HH s t C R n T) (i0 i1 : Int32) : QN g1_ t (fX7_windowRegret s i0 i1) (fX8_windowRegret t i0 i1) := by
  obtain ⟨hD, -, hR0, -⟩ := h
  have hB := hD.rb
  have h6 := hB.1.2.1
  obtain ⟨⟨g0, g1, g16, gT⟩, -⟩ := id hR0
  unfold fX7_windowRegret fX8_windowRegret
  by_cases hx : 0 ≤ i0 ∧ 1 ≤ i1 ∧ i1 ≤ 1000
  · rw [bn_e (reqWin_t hx.1 hx.2), tb_l, bn_e (noWin_t hx.1 hx.2), if_pos rfl]
    obtain ⟨a, L, ha, l1, l2, rfl, rfl⟩ := winC hx
    have u16 : (pt_ t 0 6 0) 1 16 = nI T := (pt_oo (by decide)).trans g16
    rw [bn_e (isWin_e (u := pt_ t 0 6 0) u16 gT l2 ha)]
    by_cases hw : a + L ≤ T
    · obtain ⟨z, ez, hL, e2⟩ := regretIn1_w (u := pt_ t 0 6 0) hR0 hB.1.1 h6 (pt_o (by decide)) hB.1.2.2.2 hw
      have e1 := regretOver_e hR0 hB.1.1 h6 (a := a) (b := a + L) (by omega) hw
      rw [if_pos hw, bn_e (hasR_t (e := sb_ s 42) g1 gT hw), if_neg (show ¬ (1 : Int32) = 0 by decide), if_neg (show ¬ (1 : Int32) = 0 by decide), nI_add, bn_e e1, bn_e ez, e2]
      exact QN.good rfl rfl hL.mi.2 hL.mi.1
    · rw [if_neg hw, bn_e (hasR_n (e := sb_ s 42) g1 gT l1 l2 ha hw), if_pos rfl, if_pos rfl]
      exact QN.good (t' := pt_ t 0 6 0) rfl rfl pt_a MI.t6
  · rw [bn_e (reqWin_f hx), tb_r, bn_e (noWin_f hx), if_neg (show ¬ (1 : Int32) = 0 by decide)]
    exact QN.bad 1 (y := 0) rfl rfl (by decide)
theorem windowBest_p (h : HH s t C R n T) (i0 i1 : Int32) : QN g1_ t (fX7_windowBest s i0 i1) (fX8_windowBest t i0 i1) := by
  obtain ⟨hD, -, hR0, -⟩ := h
  have hB := hD.rb
  have h6 := hB.1.2.1
  obtain ⟨⟨g0, g1, g16, gT⟩, -⟩ := id hR0
  unfold fX7_windowBest fX8_windowBest
  by_cases hx : 0 ≤ i0 ∧ 1 ≤ i1 ∧ i1 ≤ 1000
  · rw [bn_e (reqWin_t hx.1 hx.2), tb_l, bn_e (noWin_t hx.1 hx.2), if_pos rfl]
    obtain ⟨a, L, ha, l1, l2, rfl, rfl⟩ := winC hx
    have u16 : (pt_ t 0 6 0) 1 16 = nI T := (pt_oo (by decide)).trans g16
    rw [bn_e (isWin_e (u := pt_ t 0 6 0) u16 gT l2 ha)]
    by_cases hw : a + L ≤ T
    · obtain ⟨z, ez, hL, e2, -⟩ := bestIn_w (u := pt_ t 0 6 0) hR0 hB.1.1 h6 (pt_o (by decide)) hB.1.2.2.2 hw
      have e1 := cheapestIn_e hR0 hB.1.1 h6 (a := a) (b := a + L) (by omega) hw
      rw [if_pos hw, bn_e (hasR_t (e := sb_ s 42) g1 gT hw), if_neg (show ¬ (1 : Int32) = 0 by decide), if_neg (show ¬ (1 : Int32) = 0 by decide), nI_add, bn_e e1, bn_e ez, e2]
      exact QN.good rfl rfl hL.mi.2 hL.mi.1
    · rw [if_neg hw, bn_e (hasR_n (e := sb_ s 42) g1 gT l1 l2 ha hw), if_pos rfl, if_pos rfl]
      exact QN.good (t' := pt_ t 0 6 0) rfl rfl pt_a MI.t6
  · rw [bn_e (reqWin_f hx), tb_r, bn_e (noWin_f hx), if_neg (show ¬ (1 : Int32) = 0 by decide)]
    exact QN.bad 1 (y := 0) rfl rfl (by decide)
theorem worstWindow_p (h : HH s t C R n T) (i0 : Int32) : QN g1_ t (fX7_worstWindow s i0) (fX8_worstWindow t i0) := by
  obtain ⟨hD, -, hR0, -⟩ := h
  have hB := hD.rb
  have h6 := hB.1.2.1
  obtain ⟨⟨g0, g1, g16, gT⟩, -⟩ := id hR0
  unfold fX7_worstWindow fX8_worstWindow
  by_cases hx : 1 ≤ i0 ∧ i0 ≤ 1000
  · rw [bn_e (within_t hx), tb_l, bn_e (noWin_t (x := 0) (Int32.le_refl _) hx), if_pos rfl]
    obtain ⟨L, l1, l2, rfl⟩ := ((rg_iff (lo := 1) (hi := 1000) (by omega) (by omega)).mpr hx).ex
    have hl : ∀ z : st_, LI (pt_ t 0 6 0) z → ∃ b d, fX7_worstWindow_l24 s (nI L) FU_ ((-1 : Int32), (0 : Int32), (0 : Int32)) = some b ∧ fX8_worstWindow_l18 (nI L) FU_ ((-1 : Int32), (0 : Int32), (0 : Int32), z) = some d ∧ d.1 = b ∧ LI (pt_ t 0 6 0) d.2 := by
      intro z hz
      unfold fX7_worstWindow_l24 fX8_worstWindow_l18
      refine up_pair (fun k (v : Int32 × Int32 × Int32) (u : Int32 × Int32 × Int32 × st_) => v.1 = u.1 ∧ v.2.1 = u.2.1 ∧ v.2.2 = nI k ∧ u.2.2.1 = nI k ∧ LI (pt_ t 0 6 0) u.2.2.2) (fun (b : Int32) (d : Int32 × st_) => d.1 = b ∧ LI (pt_ t 0 6 0) d.2) 0 (T + 1 - L) (Nat.zero_le _) (by omega) ⟨rfl, rfl, rfl, rfl, hz⟩ (fun k v u hk _ hJ => ?_) (fun v u hJ => ?_)
      · obtain ⟨v1, v2, v3⟩ := v
        obtain ⟨u1, u2, u3, z⟩ := u
        obtain ⟨rfl, rfl, e3, e4, hz⟩ := hJ
        dsimp only at e3 e4 hz
        subst e3 e4
        have z1 : z 1 = t 1 := (hz.1 1 (by decide)).trans (pt_o (by decide))
        have hw : k + L ≤ T := by omega
        obtain ⟨z', ez, hL, e2⟩ := regretIn1_w (u := z) hR0 hB.1.1 h6 z1 hB.1.2.2.2 hw
        have e1 := regretOver_e hR0 hB.1.1 h6 (a := k) (b := k + L) (by omega) hw
        have hL' := hz.tr hL
        show ∃ v' u', fX7_worstWindow_b24 s (nI L) v1 v2 (nI k) = some (.inl v') ∧ fX8_worstWindow_b18 (nI L) v1 v2 (nI k) z = some (.inl u') ∧ _
        unfold fX7_worstWindow_b24 fX8_worstWindow_b18
        rw [nI_add, show s 42 1 = nI T from g1, if_neg (nI_nlt hw (by omega)), bn_e e1, bn_e (isWin_e (u := z) (by rw [z1]; exact g16) gT l2 (by omega)), if_pos hw, if_neg (show ¬ (1 : Int32) = 0 by decide), bn_e ez, ← e2]
        unfold fX7_worstWindow_j59 fX7_worstWindow_j66 fX8_worstWindow_j51 fX8_worstWindow_j57
        by_cases hc : v1 = -1
        · rw [if_pos hc, if_pos hc]
          exact ⟨_, _, rfl, rfl, rfl, rfl, nI_1 k, nI_1 k, hL'⟩
        · rw [if_neg hc, if_neg hc]
          by_cases hd : v2 < z'.2
          · rw [if_neg (Int32.not_le.mpr hd), if_pos hd]
            exact ⟨_, _, rfl, rfl, rfl, rfl, nI_1 k, nI_1 k, hL'⟩
          · rw [if_pos (Int32.not_lt.mp hd), if_neg hd]
            exact ⟨_, _, rfl, rfl, rfl, rfl, nI_1 k, nI_1 k, hL'⟩
      · obtain ⟨v1, v2, v3⟩ := v
        obtain ⟨u1, u2, u3, z⟩ := u
        obtain ⟨rfl, rfl, e3, e4, hz⟩ := hJ
        dsimp only at e3 e4 hz
        subst e3 e4
        have z1 : z 1 = t 1 := (hz.1 1 (by decide)).trans (pt_o (by decide))
        show ∃ b d, fX7_worstWindow_b24 s (nI L) v1 v2 (nI (T + 1 - L)) = some (.inr b) ∧ fX8_worstWindow_b18 (nI L) v1 v2 (nI (T + 1 - L)) z = some (.inr d) ∧ _
        unfold fX7_worstWindow_b24 fX8_worstWindow_b18
        rw [nI_add, show s 42 1 = nI T from g1, if_pos (nI_lt (by omega) (by omega)), bn_e (isWin_e (u := z) (by rw [z1]; exact g16) gT l2 (by omega)), if_neg (show ¬ T + 1 - L + L ≤ T by omega), if_pos rfl]
        exact ⟨_, _, rfl, rfl, rfl, hz⟩
    obtain ⟨b, d, e1, e2, rfl, hL⟩ := hl (pt_ t 0 6 0) LI.r
    rw [bn_e e1, bn_e e2]
    exact QN.good rfl rfl hL.mi.2 hL.mi.1
  · rw [bn_e (within_f hx), tb_r, bn_e (noWin_f (x := 0) (fun z => hx z.2)), if_neg (show ¬ (1 : Int32) = 0 by decide)]
    exact QN.bad 1 (y := 0) rfl rfl (by decide)
/-- the dearest rounds -/
def dq_ (g : Nat → Int32) (v1 v2 : Int32) (j : Nat) : Prop := (j = 0 ∧ v1 = -1) ∨ (0 < j ∧ v1 = nI (wst g (j - 1)) ∧ v2 = g (wst g (j - 1)))
theorem dq_take {g : Nat → Int32} {v1 v2 : Int32} {j : Nat} (h : dq_ g v1 v2 j) (hj : j < 2000) (hc : v1 = -1 ∨ v2 < g j) : dq_ g (nI j) (g j) (j + 1) := by
  refine Or.inr ⟨by omega, ?_, ?_⟩
  all_goals
    rcases h with ⟨h0, _⟩ | ⟨h0, e1, e2⟩
    · subst h0
      rfl
    · have hw := wst_le (f := g) (j - 1)
      have ek : wst g (j + 1 - 1) = if g j ≤ g (wst g (j - 1)) then wst g (j - 1) else j := by
        obtain ⟨i, rfl⟩ : ∃ i, j = i + 1 := ⟨j - 1, by omega⟩
        rfl
      have hlt : g (wst g (j - 1)) < g j := by
        rcases hc with hc | hc
        · rw [e1] at hc
          exact absurd hc (nI_ne1 (by omega))
        · rw [← e2]
          exact hc
      rw [ek, if_neg (Int32.not_le.mpr hlt)]
theorem dq_keep {g : Nat → Int32} {v1 v2 : Int32} {j : Nat} (h : dq_ g v1 v2 j) (hc : ¬ v1 = -1) (hc2 : g j ≤ v2) : dq_ g v1 v2 (j + 1) := by
  rcases h with ⟨h0, e1⟩ | ⟨h0, e1, e2⟩
  · exact absurd e1 hc
  · have ek : wst g (j + 1 - 1) = if g j ≤ g (wst g (j - 1)) then wst g (j - 1) else j := by
      obtain ⟨i, rfl⟩ : ∃ i, j = i + 1 := ⟨j - 1, by omega⟩
      rfl
    rw [e2] at hc2
    refine Or.inr ⟨by omega, ?_, ?_⟩
    · rw [ek, if_pos hc2]; exact e1
    · rw [ek, if_pos hc2]; exact e2
theorem dq_u {g : Nat → Int32} {v1 v2 u1 u2 : Int32} {j : Nat} (h : dq_ g v1 v2 j) (h' : dq_ g u1 u2 j) : v1 = u1 := by
  rcases h with ⟨h0, e1⟩ | ⟨h0, e1, e2⟩ <;> rcases h' with ⟨h0', e1'⟩ | ⟨h0', e1', e2'⟩
  · rw [e1, e1']
  · omega
  · omega
  · rw [e1, e1']
theorem dearest_p (h : HH s t C R n T) (i0 i1 : Int32) : QN g2_ t (fX7_dearest s i0 i1) (fX8_dearest t i0 i1) := by
  obtain ⟨hD, -, hR0, -⟩ := h
  have hB := hD.rb
  have h6 := hB.1.2.1
  obtain ⟨⟨g0, g1, g16, gT⟩, -⟩ := id hR0
  unfold fX7_dearest fX8_dearest
  rcases ruleC (R := R) i0 h6 with ⟨r, hr, rfl⟩ | hx
  · rw [bn_e (reqRule_t hB.1.2.2.1 hr h6), tb_l, bn_e (noRule_t hB.1.2.2.2 hr h6), if_pos rfl]
    by_cases hx : 1 ≤ i1 ∧ i1 ≤ 1000
    · rw [bn_e (within_t hx), tb_l, bn_e (show fX8_in (Int32.toInt64 i1) (1 : Int64) (1000 : Int64) = some 1 from in_t (lo := 1) (hi := 1000) hx), if_neg (show ¬ (1 : Int32) = 0 by decide)]
      unfold fX8_dearest_j26
      rw [bn_e (thr_0 pt_a), if_pos rfl]
      obtain ⟨L, l1, l2, rfl⟩ := ((rg_iff (lo := 1) (hi := 1000) (by omega) (by omega)).mpr hx).ex
      generalize hg : (fun j => nI (sg_ (t 1) r j (j + L))) = g
      have hg' : ∀ j, nI (sg_ (t 1) r j (j + L)) = g j := fun j => by rw [← hg]
      have hcl : wp_ (fX7_dearest_l30 s (nI r) (nI L) FU_ ((-1 : Int32), (0 : Int32), (0 : Int32))) (fun x => ∃ y, dq_ g x y (T + 1 - L)) := by
        unfold fX7_dearest_l30
        refine wp_up (fun k v => dq_ g v.1 v.2.1 k ∧ v.2.2 = nI k) 0 (T + 1 - L) (Nat.zero_le _) (by omega) ⟨Or.inl ⟨rfl, rfl⟩, rfl⟩ (fun k v hk _ hv => ?_) (fun v hv => ?_)
        · obtain ⟨v1, v2, v3⟩ := v
          obtain ⟨hv, e3⟩ := hv
          dsimp only at hv e3
          subst e3
          have hp := paidIn_s hR0 h6 (m := r) (a := k) (b := k + L) (Or.inl hr) (by omega) (by omega)
          rw [xa_r hr h6, hg'] at hp
          show wp_ (fX7_dearest_b30 s (nI r) (nI L) v1 v2 (nI k)) _
          unfold fX7_dearest_b30
          rw [nI_add, show s 42 1 = nI T from g1]
          refine wp_if' (nI_nlt (by omega) (by omega)) (wp_bne hp ?_)
          unfold fX7_dearest_j67 fX7_dearest_j75
          refine wp_if (fun hc => wp_l ⟨dq_take hv (by omega) (Or.inl hc), nI_1 k⟩) (fun hc => wp_if (fun hd => wp_l ⟨dq_keep hv hc hd, nI_1 k⟩) (fun hd => wp_l ⟨dq_take hv (by omega) (Or.inr (Int32.not_le.mp hd)), nI_1 k⟩))
        · obtain ⟨v1, v2, v3⟩ := v
          obtain ⟨hv, e3⟩ := hv
          dsimp only at hv e3
          subst e3
          show wp_ (fX7_dearest_b30 s (nI r) (nI L) v1 v2 (nI (T + 1 - L))) _
          unfold fX7_dearest_b30
          rw [nI_add, show s 42 1 = nI T from g1]
          exact wp_it (nI_lt (by omega) (by omega)) (wp_r ⟨v2, hv⟩)
      have hml : ∀ z : st_ × Int32, z.1 1 = t 1 → wp_ (fX8_dearest_l46 (nI r) (nI L) z FU_ ((-1 : Int32), (0 : Int32), (0 : Int32), (0 : Int32))) (fun x => ∃ y, dq_ g x y (T + 1 - L)) := by
        intro z u1
        unfold fX8_dearest_l46
        refine wp_up (fun k v => dq_ g v.1 v.2.1 (k + 1 - L) ∧ v.2.2.1 = nI (sg_ (t 1) r (k - L) k) ∧ v.2.2.2 = nI k) 0 T (Nat.zero_le _) (by omega) ⟨Or.inl ⟨by omega, rfl⟩, by rw [Nat.zero_sub, sg_0]; rfl, rfl⟩ (fun k v hk _ hv => ?_) (fun v hv => ?_)
        · obtain ⟨v1, v2, v3, v4⟩ := v
          obtain ⟨hv, e3, e4⟩ := hv
          dsimp only at hv e3 e4
          subst e3 e4
          show wp_ (fX8_dearest_b46 (nI r) (nI L) z v1 v2 (nI (sg_ (t 1) r (k - L) k)) (nI k)) _
          unfold fX8_dearest_b46
          rw [i16_, u1, g16]
          have hck := ((hR0.2.2.1 r (Or.inl hr)).2.1 k hk).1
          have hsum : ∀ z2 : Int32, (k < L → z2 = 0) → (L ≤ k → z2 = t 1 (2948 + 1200 * r + (k - L))) → nI (sg_ (t 1) r (k - L) k) + (t 1 (2948 + 1200 * r + k) - z2) = nI (sg_ (t 1) r (k + 1 - L) (k + 1)) := fun z2 a1 a2 => by
            have hck' : t 1 (2948 + 1200 * r + k) = nI (cs_ (t 1) r k) := hck
            by_cases hkL : k < L
            · rw [a1 hkL, Int32.sub_zero, hck', nI_add]
              have e1 : k - L = 0 := by omega
              have e2 : k + 1 - L = 0 := by omega
              rw [e1, e2, sg_1 (Nat.zero_le _)]
            · have hcj := ((hR0.2.2.1 r (Or.inl hr)).2.1 (k - L) (by omega)).1
              have hcj' : t 1 (2948 + 1200 * r + (k - L)) = nI (cs_ (t 1) r (k - L)) := hcj
              rw [a2 (by omega), hck', hcj', Int32.sub_eq_add_neg, ← Int32.add_assoc, ← Int32.sub_eq_add_neg, nI_add, ← sg_1 (by omega)]
              have e2 : k + 1 - L = k - L + 1 := by omega
              have m1 := nsm_mono (F := cs_ (t 1) r) (a := k - L + 1) (b := k + 1) (by omega)
              have m2 : nsm (cs_ (t 1) r) (k - L + 1) = nsm (cs_ (t 1) r) (k - L) + cs_ (t 1) r (k - L) := rfl
              rw [pk_sub (by unfold sg_; omega), e2]
              congr 1
              unfold sg_
              omega
          have fin : ∀ z2 : Int32, (k < L → z2 = 0) → (L ≤ k → z2 = t 1 (2948 + 1200 * r + (k - L))) → wp_ (fX8_dearest_j86 (nI L) v1 v2 (nI (sg_ (t 1) r (k - L) k)) (nI k) (t 1 (2948 + 1200 * r + k)) z2) (Sum.elim (fun v => dq_ g v.1 v.2.1 (k + 1 + 1 - L) ∧ v.2.2.1 = nI (sg_ (t 1) r (k + 1 - L) (k + 1)) ∧ v.2.2.2 = nI (k + 1)) (fun x => ∃ y, dq_ g x y (T + 1 - L))) := fun z2 a1 a2 => by
            unfold fX8_dearest_j86 fX8_dearest_j113 fX8_dearest_j124
            rw [nI_1, hsum z2 a1 a2]
            by_cases hkL : k + 1 < L
            · refine wp_it (nI_lt hkL (by omega)) (wp_l ⟨?_, rfl, rfl⟩)
              have e1 : k + 1 + 1 - L = k + 1 - L := by omega
              rw [e1]
              exact hv
            · have e1 : k + 1 + 1 - L = (k + 1 - L) + 1 := by omega
              have e2 : nI (k + 1) - nI L = nI (k + 1 - L) := pk_sub (by omega)
              have e3 : nI (sg_ (t 1) r (k + 1 - L) (k + 1)) = g (k + 1 - L) := by
                have e5 := hg' (k + 1 - L)
                rw [show k + 1 - L + L = k + 1 by omega] at e5
                exact e5
              refine wp_if' (nI_nlt (by omega) (by omega)) ?_
              rw [e1, e2, e3]
              exact wp_if (fun hc => wp_l ⟨dq_take hv (by omega) (Or.inl hc), rfl, rfl⟩) (fun hc => wp_if (fun hd => wp_l ⟨dq_take hv (by omega) (Or.inr hd), rfl, rfl⟩) (fun hd => wp_l ⟨dq_keep hv hc (Int32.not_lt.mp hd), rfl, rfl⟩))
          refine wp_gd b16_ (wp_if' (nI_ge hk (by omega)) (wp_bne (cost1_e (t := z.1) (m := r) (by omega) (by omega)) ?_))
          rw [u1]
          by_cases hkL : k < L
          · exact wp_it (nI_lt hkL (by omega)) (fin 0 (fun _ => rfl) (fun z => absurd z (by omega)))
          · have ekL : nI k - nI L = nI (k - L) := pk_sub (by omega)
            refine wp_if' (nI_nlt (by omega) (by omega)) ?_
            rw [ekL]
            refine wp_bne (cost1_e (t := z.1) (m := r) (by omega) (by omega)) ?_
            rw [u1]
            exact fin _ (fun z => absurd z (by omega)) (fun _ => rfl)
        · obtain ⟨v1, v2, v3, v4⟩ := v
          obtain ⟨hv, e3, e4⟩ := hv
          dsimp only at hv e3 e4
          subst e3 e4
          show wp_ (fX8_dearest_b46 (nI r) (nI L) z v1 v2 (nI (sg_ (t 1) r (T - L) T)) (nI T)) _
          unfold fX8_dearest_b46
          rw [i16_, u1, g16]
          exact wp_gd b16_ (wp_it (Int32.le_refl _) (wp_r ⟨v2, hv⟩))
      obtain ⟨x, e1, y, hy⟩ := hcl
      obtain ⟨x', e2, y', hy'⟩ := hml (pt_ t 0 6 0, 0) (show (pt_ t 0 6 0) 1 = t 1 from pt_o (by decide))
      have ex := dq_u hy hy'
      subst ex
      rw [bn_e e1, bn_e e2]
      exact QN.good (t' := pt_ t 0 6 0) rfl rfl pt_a MI.t6
    · rw [bn_e (within_f hx), tb_r, bn_e (show fX8_in (Int32.toInt64 i1) (1 : Int64) (1000 : Int64) = some 0 from in_f (lo := 1) (hi := 1000) hx), if_pos rfl]
      unfold fX8_dearest_j26
      rw [bn_e (thr_1 pt_a (by decide)), if_neg (show ¬ (1 : Int32) = 0 by decide)]
      dsimp only
      rw [pt_pt]
      exact QN.bad 1 (y := 0) rfl rfl (by decide)
  · rw [bn_e (reqRule_f hB.1.2.2.1 h6 hx), tb_r, bn_e (noRule_f hB.1.2.2.2 hB.1.1 h6 hx), if_neg (show ¬ (1 : Int32) = 0 by decide)]
    exact QN.bad 0 (y := 0) rfl rfl (by decide)
end WINDOWS
