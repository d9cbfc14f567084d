/-! calls that ask, over the rounds that were made -/
theorem up_pair {α β γ δ : Type} {f : α → Option (α ⊕ β)} {g : γ → Option (γ ⊕ δ)} (J : Nat → α → γ → Prop) (P : β → δ → Prop) (k0 n : Nat) (hk : k0 ≤ n) (hn : n < 4000000000) {v : α} {u : γ} (h0 : J k0 v u) (st : ∀ k v u, k < n → k0 ≤ k → J k v u → ∃ v' u', f v = some (.inl v') ∧ g u = some (.inl u') ∧ J (k + 1) v' u') (en : ∀ v u, J n v u → ∃ b d, f v = some (.inr b) ∧ g u = some (.inr d) ∧ P b d) : ∃ b d, it_ f FU_ v = some b ∧ it_ g FU_ u = some d ∧ P b d := by
  have hF : n - k0 < FU_ := Nat.lt_of_le_of_lt (Nat.sub_le _ _) (Nat.lt_trans hn (Nat.le_of_ble_eq_true rfl))
  refine it_pair (fun m v u => ∃ k, k0 ≤ k ∧ k + m = n ∧ J k v u) P (n - k0) FU_ FU_ v u hF hF ⟨k0, Nat.le_refl _, by omega, h0⟩ (fun m v u hm hI => ?_)
  obtain ⟨k, hk0, hkn, hJ⟩ := hI
  rcases Nat.lt_or_ge k n with h | h
  · obtain ⟨v', u', e1, e2, hJ'⟩ := st k v u h hk0 hJ
    exact Or.inl ⟨v', u', m - 1, by omega, e1, e2, k + 1, by omega, by omega, hJ'⟩
  · have e : k = n := by omega
    rw [e] at hJ
    exact Or.inr (en v u hJ)
def xa_ (m : Nat) : Int32 := if m = 6 then -1 else nI m
theorem xa_1 {R m : Nat} (hm : am6 R m) (h6 : R ≤ 6) : xa_ m + 1 = nI (rw6 m - 2) := by
  unfold xa_ rw6
  by_cases h : m = 6
  · rw [if_pos h, if_pos h]
    rfl
  · rw [if_neg h, if_neg h, nI_1]
    rfl
theorem cnt_1 {f : Nat → Int32} {v : Int32} {k : Nat} (h : f k = v) : cnt f v (k + 1) = cnt f v k + 1 := by
  show cnt f v k + (if f k = v then 1 else 0) = _
  rw [if_pos h]
theorem cnt_0 {f : Nat → Int32} {v : Int32} {k : Nat} (h : ¬ f k = v) : cnt f v (k + 1) = cnt f v k := by
  show cnt f v k + (if f k = v then 1 else 0) = _
  rw [if_neg h]
  rfl
section LOOPS
variable {s t e : st_} {w : Nat → Int32} {C R n T : Nat}
theorem paidIn_e (h : R0 e w R T) (h6 : R ≤ 6) {m : Nat} (hm : am6 R m) {a b : Nat} (hab : a ≤ b) (hb : b ≤ T) : fX4_paidIn e (xa_ m) (nI a) (nI b) = some (nI (nsm (cs_ w m) b - nsm (cs_ w m) a)) := by
  obtain ⟨⟨g0, g1, g16, gT⟩, hV, hP, -⟩ := h
  obtain ⟨P1, -, -⟩ := hP m hm
  have h2 := rw6_b hm h6
  have hR : rw6 m - 2 ≤ R := by
    unfold am6 at hm
    unfold rw6
    split <;> omega
  have er : 1 * (rw6 m - 2) + 2 = rw6 m := by omega
  unfold fX4_paidIn
  rw [xa_1 hm h6, g0, g1, if_neg (nI_pos (by omega)), if_neg (nI_nlt hR (by omega)), if_neg (nI_pos (by omega)), if_neg (nI_nlt hb (by omega)), if_pos (nI_le hab (by omega)), gd_t (ib_n (k := rw6 m - 2) (by omega) (by omega)), gd_t (ib_n (k := b) (by omega) (by omega)), gd_t (ib_n (k := rw6 m - 2) (by omega) (by omega)), gd_t (ib_n (k := a) (by omega) (by omega)), ix_n (by omega), ix_n (by omega), ix_n (by omega), er, P1 b hb, P1 a (by omega), pk_sub (nsm_mono hab)]
theorem hasR_t (h1 : e 0 1 = nI T) (hT : T ≤ 1000) {a L : Nat} (h : a + L ≤ T) : fX4_hasRounds e (nI a) (nI L) = some 1 := by
  unfold fX4_hasRounds
  rw [h1, if_neg (nI_pos (by omega)), if_neg (nI_pos (by omega)), if_neg (nI_nlt (by omega) (by omega)), pk_sub (by omega), if_neg (nI_nlt (by omega) (by omega))]
theorem hasR_f (h1 : e 0 1 = nI T) (hT : T ≤ 1000) {x : Int32} {L : Nat} (h1L : 1 ≤ L) (hL : L ≤ 1000) (h : ¬ (0 ≤ x ∧ x + nI L ≤ nI T ∧ x < nI T)) (hx : x < nI 1000000 ∨ nI T ≤ x) : fX4_hasRounds e x (nI L) = some 0 := by
  unfold fX4_hasRounds fX4_hasRounds_j30
  by_cases h0 : x < 0
  · rw [if_pos h0]
  · rw [if_neg h0, if_neg (nI_pos (by omega)), h1]
    by_cases hTL : T < L
    · rw [if_pos (nI_lt hTL (by omega))]
    · rw [if_neg (nI_nlt (by omega) (by omega)), pk_sub (by omega)]
      obtain ⟨k, hk, rfl⟩ := nI_of h0
      rw [if_pos (nI_lt ?_ hk)]
      refine Nat.not_le.mp (fun z => h ⟨Int32.not_lt.mp h0, ?_, nI_lt (by omega) (by omega)⟩)
      rw [nI_add]
      exact nI_le (by omega) (by omega)
theorem made_t (h16 : t 1 16 = nI T) (hT : T ≤ 1000) {k : Nat} (hk : k < T) : fX8_isMade t (nI k) = some 1 := by
  unfold fX8_isMade
  rw [gd_t b16_, i16_, h16, bn_e (inIdx_t hk (by omega))]
  rfl
theorem made_f (h16 : t 1 16 = nI T) (hT : T ≤ 1000) {x : Int32} (hx : ¬ (0 ≤ x ∧ x < nI T)) : fX8_isMade t x = some 0 := by
  unfold fX8_isMade
  rw [gd_t b16_, i16_, h16, bn_e (inIdx_f hx (by omega))]
  rfl
theorem hasR1_f (h1 : e 0 1 = nI T) (hT : T ≤ 1000) {x : Int32} (h : ¬ (0 ≤ x ∧ x < nI T)) : fX4_hasRounds e x (1 : Int32) = some 0 := by
  refine hasR_f (L := 1) h1 hT (by omega) (by omega) (fun z => h ⟨z.1, z.2.2⟩) ?_
  by_cases h0 : x < 0
  · exact Or.inl (Int32.lt_trans h0 (by decide))
  · exact Or.inr (Int32.not_lt.mp (fun z => h ⟨Int32.not_lt.mp h0, z⟩))
theorem cost1_e {m k : Nat} (hm : m < 8) (hk : k < 1200) : fX8_costIn1 t (nI m) (nI k) = some (t 1 (2948 + 1200 * m + k)) := by
  have ei : (2948 : Int32) + (1200 : Int32) * nI m + nI k = nI (2948 + 1200 * m + k) := by
    show nI 2948 + nI 1200 * nI m + nI k = _
    rw [pk_mul, nI_add, nI_add]
  unfold fX8_costIn1
  rw [ei, gd_t (ib_n (by omega) (by omega)), ix_n (by omega)]
theorem paid1_e (h : R0 e w R T) (h6 : R ≤ 6) {m : Nat} (hm : am6 R m) {k : Nat} (hk : k < T) : fX4_paidIn e (xa_ m) (nI k) (nI k + (1 : Int32)) = some (w (2948 + 1200 * m + k)) := by
  have e1 : nI k + (1 : Int32) = nI (k + 1) := nI_1 k
  rw [e1, paidIn_e h h6 hm (by omega) (by omega)]
  have e2 : nsm (cs_ w m) (k + 1) - nsm (cs_ w m) k = ix_ (w (2948 + 1200 * m + k)) := by
    show nsm (cs_ w m) k + cs_ w m k - nsm (cs_ w m) k = _
    rw [Nat.add_sub_cancel_left]
    rfl
  rw [e2, ← ((h.2.2.1 m hm).2.1 k hk).1]
theorem cost_p (h : HH s t C R n T) (i0 i1 : Int32) : QN g1i_ t (fX7_cost s i0 i1) (fX8_cost t i0 i1) := by
  obtain ⟨hD, -, hR0, -⟩ := h
  have hB := hD.rb
  have h6 := hB.1.2.1
  obtain ⟨⟨g0, g1, g16, gT⟩, -⟩ := id hR0
  unfold fX7_cost fX8_cost
  rcases armX (C := C) (R := R) i0 hB.1.1 h6 with ⟨o, m, hm, ho, et, hc, eo, hA, hq, hn⟩ | ⟨hq, hn⟩
  · rw [bn_e (hq s hB.1.2.2.1), tb_l, bn_e (hn t hB.1.2.2.2), if_pos rfl]
    have u16 : (pt_ t 0 6 0) 1 16 = nI T := (pt_oo (by decide)).trans g16
    rcases idxC i1 T (by omega) with ⟨k, hk, rfl⟩ | hx
    · have hx0 : i0 = xa_ m ∧ am6 R m := by
        unfold xa_ am6
        rcases hc with ⟨a, b, -⟩ | ⟨a, b, -⟩
        · rw [if_pos a]
          exact ⟨b, Or.inr a⟩
        · rw [if_neg (by omega)]
          exact ⟨b, Or.inl a⟩
      have ep := paid1_e hR0 h6 hx0.2 hk
      rw [← hx0.1] at ep
      rw [bn_e (show fX4_hasRounds (sb_ s 42) (nI k) (1 : Int32) = some 1 from hasR_t (L := 1) g1 gT (by omega)), if_neg (show ¬ (1 : Int32) = 0 by decide), bn_e ep, bn_e (made_t (t := pt_ t 0 6 0) u16 gT hk), if_neg (show ¬ (1 : Int32) = 0 by decide), bn_e et, bn_e (cost1_e (t := pt_ t 0 6 0) hm (by omega))]
      dsimp only
      rw [pt_oo (by decide)]
      exact QN.good (t' := pt_ t 0 6 0) rfl rfl pt_a MI.t6
    · rw [bn_e (hasR1_f g1 gT hx), if_pos rfl, bn_e (made_f (t := pt_ t 0 6 0) u16 gT hx), if_pos rfl]
      exact QN.good (t' := pt_ t 0 6 0) rfl rfl pt_a MI.t6
  · rw [bn_e (hq s hB.1.2.2.1), tb_r, bn_e (hn t hB.1.2.2.2), if_neg (show ¬ (1 : Int32) = 0 by decide)]
    exact QN.bad 0 (y := 0) rfl rfl (by decide)
theorem taken_p (h : HH s t C R n T) (i0 : Int32) : QV t (fX7_taken s i0) (fX8_taken t i0) := by
  obtain ⟨-, -, ⟨⟨g0, g1, g16, gT⟩, -, -, hTk, -⟩, -⟩ := h
  have u16 : (pt_ t 0 6 0) 1 16 = nI T := (pt_oo (by decide)).trans g16
  unfold fX7_taken fX8_taken
  rw [bd_e]
  rcases idxC i0 T (by omega) with ⟨k, hk, rfl⟩ | hx
  · have ei : (548 : Int32) + nI k = nI (548 + k) := nI_add 548 k
    have ev : s 51 k = t 1 (548 + k) := (hTk k hk).1
    rw [bn_e (show fX4_hasRounds (sb_ s 42) (nI k) (1 : Int32) = some 1 from hasR_t (L := 1) g1 gT (by omega)), if_neg (show ¬ (1 : Int32) = 0 by decide), bn_e (made_t (t := pt_ t 0 6 0) u16 gT hk), if_neg (show ¬ (1 : Int32) = 0 by decide), ei, gd_t (ib_n (k := k) (by omega) (by omega)), gd_t (ib_n (k := 548 + k) (by omega) (by omega)), ix_n (k := k) (by omega), ix_n (k := 548 + k) (by omega), ev, pt_oo (by decide)]
    exact ⟨_, pt_ t 0 6 0, rfl, rfl, MI.t6⟩
  · rw [bn_e (hasR1_f g1 gT hx), if_pos rfl, bn_e (made_f (t := pt_ t 0 6 0) u16 gT hx), if_pos rfl]
    exact ⟨_, pt_ t 0 6 0, rfl, rfl, MI.t6⟩
theorem cheaper_p (h : HH s t C R n T) (i0 i1 : Int32) : QN g1i_ t (fX7_cheaper s i0 i1) (fX8_cheaper t i0 i1) := by
  obtain ⟨hD, -, hR0, -⟩ := h
  have hB := hD.rb
  have h6 := hB.1.2.1
  obtain ⟨⟨g0, g1, g16, gT⟩, -⟩ := id hR0
  unfold fX7_cheaper fX8_cheaper
  rcases ruleC (R := R) i0 h6 with ⟨r, hr, rfl⟩ | hx
  · rw [bn_e (reqRule_t hB.1.2.2.1 hr h6), tb_l, bn_e (noRule_t hB.1.2.2.2 hr h6), if_pos rfl]
    rcases ruleC (R := R) i1 h6 with ⟨o, ho, rfl⟩ | hx
    · rw [bn_e (reqRule_t hB.1.2.2.1 ho h6), tb_l, bn_e (isRule_t (t := pt_ t 0 6 0) (by rw [pt_oo (by decide)]; exact hB.1.2.2.2) ho h6), if_neg (show ¬ (1 : Int32) = 0 by decide)]
      unfold fX8_cheaper_j22
      rw [bn_e (thr_0 pt_a), if_pos rfl]
      have er : ∀ q, q < R → nI q = xa_ q := fun q hq => by unfold xa_; rw [if_neg (by omega)]
      have hl : ∀ z : st_ × Int32, z.1 1 = t 1 → ∃ b d, fX7_cheaper_l24 s (nI r) (nI o) FU_ ((0 : Int32), (0 : Int32)) = some b ∧ fX8_cheaper_l36 (nI r) (nI o) z FU_ ((0 : Int32), (0 : Int32)) = some d ∧ b = d := by
        intro z u1
        unfold fX7_cheaper_l24 fX8_cheaper_l36
        refine up_pair (fun k v u => v = u ∧ v.2 = nI k) (fun b d => b = d) 0 T (Nat.zero_le _) (by omega) ⟨rfl, rfl⟩ (fun k v u hk _ hJ => ?_) (fun v u hJ => ?_)
        · obtain ⟨rfl, e2⟩ := hJ
          obtain ⟨v1, v2⟩ := v
          dsimp only at e2
          subst e2
          unfold fX7_cheaper_b24 fX8_cheaper_b36
          dsimp only
          have p1 := paid1_e hR0 h6 (m := r) (Or.inl hr) hk
          have p2 := paid1_e hR0 h6 (m := o) (Or.inl ho) hk
          rw [← er r hr] at p1
          rw [← er o ho] at p2
          rw [show s 42 1 = nI T from g1, if_neg (nI_ge hk (by omega)), bn_e p1, bn_e p2, gd_t b16_, i16_, u1, g16, if_neg (nI_ge hk (by omega)), bn_e (cost1_e (t := z.1) (m := r) (by omega) (by omega)), bn_e (cost1_e (t := z.1) (m := o) (by omega) (by omega)), u1]
          unfold fX7_cheaper_j61 fX8_cheaper_j71
          by_cases hc : t 1 (2948 + 1200 * o + k) ≤ t 1 (2948 + 1200 * r + k)
          · rw [if_pos hc, if_pos hc]
            exact ⟨_, _, rfl, rfl, by rw [Int32.add_zero], nI_1 k⟩
          · rw [if_neg hc, if_neg hc]
            exact ⟨_, _, rfl, rfl, rfl, nI_1 k⟩
        · obtain ⟨rfl, e2⟩ := hJ
          obtain ⟨v1, v2⟩ := v
          dsimp only at e2
          subst e2
          unfold fX7_cheaper_b24 fX8_cheaper_b36
          dsimp only
          rw [show s 42 1 = nI T from g1, if_pos (Int32.le_refl _), gd_t b16_, i16_, u1, g16, if_pos (Int32.le_refl _)]
          exact ⟨_, _, rfl, rfl, rfl⟩
      obtain ⟨b, d, e1, e2, rfl⟩ := hl (pt_ t 0 6 0, 0) (show (pt_ t 0 6 0) 1 = t 1 from pt_o (by decide))
      rw [bn_e e1, bn_e e2]
      exact QN.good (t' := pt_ t 0 6 0) rfl rfl pt_a MI.t6
    · rw [bn_e (reqRule_f hB.1.2.2.1 h6 hx), tb_r, bn_e (isRule_f (t := pt_ t 0 6 0) (by rw [pt_oo (by decide)]; exact hB.1.2.2.2) hB.1.1 h6 hx), if_pos rfl]
      unfold fX8_cheaper_j22
      rw [bn_e (thr_1 pt_a (by decide)), if_neg (show ¬ (1 : Int32) = 0 by decide)]
      dsimp only
      rw [pt_pt]
      exact QN.bad 0 (y := 0) rfl rfl (by decide)
  · rw [bn_e (reqRule_f hB.1.2.2.1 h6 hx), tb_r, bn_e (noRule_f hB.1.2.2.2 hB.1.1 h6 hx), if_neg (show ¬ (1 : Int32) = 0 by decide)]
    exact QN.bad 0 (y := 0) rfl rfl (by decide)
theorem leads_p (h : HH s t C R n T) (i0 : Int32) : QN g1i_ t (fX7_leads s i0) (fX8_leads t i0) := by
  obtain ⟨hD, -, ⟨⟨g0, g1, g16, gT⟩, -, -, -, hC, -⟩, -⟩ := h
  have hB := hD.rb
  have h6 := hB.1.2.1
  unfold fX7_leads fX8_leads
  rcases ruleC (R := R) i0 h6 with ⟨r, hr, rfl⟩ | hx
  · have hl : ∀ z : st_ × Int32, z.1 1 = t 1 → wp_ (fX8_leads_l14 (nI r) z FU_ ((0 : Int32), (0 : Int32))) (fun x => x = nI (cnt (fun k => t 1 (1748 + k)) (nI r) T)) := by
      intro z u1
      unfold fX8_leads_l14
      refine wp_up (fun k v => v = (nI (cnt (fun k => t 1 (1748 + k)) (nI r) k), nI k)) 0 T (Nat.zero_le _) (by omega) rfl (fun k v hk _ hv => ?_) (fun v hv => ?_)
      · subst hv
        have ei : (1748 : Int32) + nI k = nI (1748 + k) := nI_add 1748 k
        unfold fX8_leads_b14
        dsimp only
        rw [i16_, u1, g16, ei]
        refine wp_gd b16_ (wp_if' (nI_ge hk (by omega)) (wp_gd (ib_n (by omega) (by omega)) ?_))
        rw [ix_n (by omega)]
        unfold fX8_leads_j45
        refine wp_if (fun hc => wp_l ?_) (fun hc => wp_l ?_)
        · rw [nI_1, nI_1, cnt_1 (f := fun k => t 1 (1748 + k)) (k := k) hc]
        · rw [nI_1, Int32.add_zero, cnt_0 (f := fun k => t 1 (1748 + k)) (k := k) hc]
      · subst hv
        unfold fX8_leads_b14
        dsimp only
        rw [i16_, u1, g16]
        exact wp_gd b16_ (wp_it (Int32.le_refl _) (wp_r rfl))
    obtain ⟨x, e1, rfl⟩ := hl (pt_ t 0 6 0, 0) (show (pt_ t 0 6 0) 1 = t 1 from pt_o (by decide))
    have ev : s 54 r = nI (cnt (fun k => t 1 (1748 + k)) (nI r) T) := (hC r hr).2.2
    rw [bn_e (reqRule_t hB.1.2.2.1 hr h6), tb_l, bn_e (noRule_t hB.1.2.2.2 hr h6), if_pos rfl, gd_t (ib_n (by omega) (by omega)), ix_n (by omega), bn_e e1, ev]
    exact QN.good (t' := pt_ t 0 6 0) rfl rfl pt_a MI.t6
  · rw [bn_e (reqRule_f hB.1.2.2.1 h6 hx), tb_r, bn_e (noRule_f hB.1.2.2.2 hB.1.1 h6 hx), if_neg (show ¬ (1 : Int32) = 0 by decide)]
    exact QN.bad 0 (y := 0) rfl rfl (by decide)
theorem switches_p (h : HH s t C R n T) : QV t (fX7_switches s) (fX8_switches t) := by
  obtain ⟨-, -, ⟨⟨g0, g1, g16, gT⟩, -, -, hTk, -⟩, -⟩ := h
  have u1 : (pt_ t 0 6 0) 1 = t 1 := pt_o (by decide)
  unfold fX7_switches fX8_switches
  rw [bd_e]
  have hl : ∃ b d, fX7_switches_l12 s FU_ ((0 : Int32), (1 : Int32)) = some b ∧ fX8_switches_l9 (pt_ t 0 6 0) FU_ ((0 : Int32), (1 : Int32)) = some d ∧ b = d := by
    unfold fX7_switches_l12 fX8_switches_l9
    refine up_pair (fun k v u => v = u ∧ v.2 = nI k) (fun b d => b = d) 1 (if T = 0 then 1 else T) (by split <;> omega) (by split <;> omega) ⟨rfl, rfl⟩ (fun k v u hk hk1 hJ => ?_) (fun v u hJ => ?_)
    · have hkT : k < T := by
        revert hk
        split <;> omega
      obtain ⟨rfl, e2⟩ := hJ
      obtain ⟨v1, v2⟩ := v
      dsimp only at e2
      subst e2
      have ei : (548 : Int32) + nI k = nI (548 + k) := nI_add 548 k
      have ej : nI (548 + k) - (1 : Int32) = nI (548 + (k - 1)) := by
        rw [show nI (548 + k) - (1 : Int32) = nI (548 + k - 1) from pk_sub (b := 1) (by omega)]
        congr 1
        omega
      have ek : nI k - (1 : Int32) = nI (k - 1) := pk_sub (b := 1) (by omega)
      have q1 : s 51 k = t 1 (548 + k) := (hTk k hkT).1
      have q2 : s 51 (k - 1) = t 1 (548 + (k - 1)) := (hTk (k - 1) (by omega)).1
      unfold fX7_switches_b12 fX8_switches_b9
      dsimp only
      rw [show s 42 1 = nI T from g1, if_neg (nI_ge hkT (by omega)), ek, gd_t (ib_n (k := k) (by omega) (by omega)), gd_t (ib_n (k := k - 1) (by omega) (by omega)), ix_n (k := k) (by omega), ix_n (k := k - 1) (by omega), q1, q2, gd_t b16_, i16_, u1, g16, if_neg (nI_ge hkT (by omega)), ei, ej, gd_t (ib_n (k := 548 + k) (by omega) (by omega)), gd_t (ib_n (k := 548 + (k - 1)) (by omega) (by omega)), ix_n (k := 548 + k) (by omega), ix_n (k := 548 + (k - 1)) (by omega)]
      unfold fX7_switches_j40 fX8_switches_j51
      by_cases hc : t 1 (548 + k) = t 1 (548 + (k - 1))
      · rw [if_pos hc, if_pos hc]
        exact ⟨_, _, rfl, rfl, by rw [Int32.add_zero], nI_1 k⟩
      · rw [if_neg hc, if_neg hc]
        exact ⟨_, _, rfl, rfl, rfl, nI_1 k⟩
    · obtain ⟨rfl, e2⟩ := hJ
      obtain ⟨v1, v2⟩ := v
      dsimp only at e2
      subst e2
      have hle : nI T ≤ nI (if T = 0 then 1 else T) := nI_le (by split <;> omega) (by split <;> omega)
      unfold fX7_switches_b12 fX8_switches_b9
      dsimp only
      rw [show s 42 1 = nI T from g1, if_pos hle, gd_t b16_, i16_, u1, g16, if_pos hle]
      exact ⟨_, _, rfl, rfl, rfl⟩
  obtain ⟨b, d, e1, e2, rfl⟩ := hl
  rw [bn_e e1, bn_e e2]
  exact ⟨_, pt_ t 0 6 0, rfl, rfl, MI.t6⟩
theorem streak_p (h : HH s t C R n T) (i0 : Int32) : QN g1i_ t (fX7_streak s i0) (fX8_streak t i0) := by
  obtain ⟨hD, -, ⟨⟨g0, g1, g16, gT⟩, -, -, hTk, -⟩, -⟩ := h
  have hB := hD.rb
  have h6 := hB.1.2.1
  unfold fX7_streak fX8_streak
  rcases ruleC (R := R) i0 h6 with ⟨r, hr, rfl⟩ | hx
  · have hl : ∀ z : st_ × Int32, z.1 1 = t 1 → ∃ b d, fX7_streak_l21 s (nI r) FU_ ((0 : Int32), (0 : Int32), (0 : Int32)) = some b ∧ fX8_streak_l17 (nI r) z FU_ ((0 : Int32), (0 : Int32), (0 : Int32)) = some d ∧ b = d := by
      intro z u1
      unfold fX7_streak_l21 fX8_streak_l17
      refine up_pair (fun k v u => v = u ∧ v.2.2 = nI k) (fun b d => b = d) 0 T (Nat.zero_le _) (by omega) ⟨rfl, rfl⟩ (fun k v u hk _ hJ => ?_) (fun v u hJ => ?_)
      · obtain ⟨rfl, e2⟩ := hJ
        obtain ⟨v1, v2, v3⟩ := v
        dsimp only at e2
        subst e2
        have ei : (548 : Int32) + nI k = nI (548 + k) := nI_add 548 k
        have q1 : s 51 k = t 1 (548 + k) := (hTk k hk).1
        unfold fX7_streak_b21 fX8_streak_b17
        dsimp only
        rw [show s 42 1 = nI T from g1, if_neg (nI_ge hk (by omega)), gd_t (ib_n (k := k) (by omega) (by omega)), ix_n (k := k) (by omega), q1, gd_t b16_, i16_, u1, g16, if_neg (nI_ge hk (by omega)), ei, gd_t (ib_n (k := 548 + k) (by omega) (by omega)), ix_n (k := 548 + k) (by omega)]
        unfold fX7_streak_j49 fX8_streak_j51
        by_cases hc : t 1 (548 + k) = nI r
        · rw [if_pos hc]
          exact ⟨_, _, rfl, rfl, rfl, nI_1 k⟩
        · rw [if_neg hc]
          exact ⟨_, _, rfl, rfl, rfl, nI_1 k⟩
      · obtain ⟨rfl, e2⟩ := hJ
        obtain ⟨v1, v2, v3⟩ := v
        dsimp only at e2
        subst e2
        unfold fX7_streak_b21 fX8_streak_b17
        dsimp only
        rw [show s 42 1 = nI T from g1, if_pos (Int32.le_refl _), gd_t b16_, i16_, u1, g16, if_pos (Int32.le_refl _)]
        exact ⟨_, _, rfl, rfl, rfl⟩
    obtain ⟨b, d, e1, e2, rfl⟩ := hl (pt_ t 0 6 0, 0) (show (pt_ t 0 6 0) 1 = t 1 from pt_o (by decide))
    rw [bn_e (reqRule_t hB.1.2.2.1 hr h6), tb_l, bn_e (noRule_t hB.1.2.2.2 hr h6), if_pos rfl, bn_e e1, bn_e e2]
    exact QN.good (t' := pt_ t 0 6 0) rfl rfl pt_a MI.t6
  · rw [bn_e (reqRule_f hB.1.2.2.1 h6 hx), tb_r, bn_e (noRule_f hB.1.2.2.2 hB.1.1 h6 hx), if_neg (show ¬ (1 : Int32) = 0 by decide)]
    exact QN.bad 0 (y := 0) rfl rfl (by decide)
/-- the best exchange, of both -/
theorem cheapSwap_e (h0 : e 0 0 = nI R) (h1 : 1 ≤ R) (h6 : R ≤ 6) {r : Nat} (hr : r < R) : fX4_cheapestSwap e (nI r) = some (nI (bst (e (r + 14)) (R - 1))) := by
  suffices h : wp_ (fX4_cheapestSwap e (nI r)) (fun x => x = nI (bst (e (r + 14)) (R - 1))) by
    obtain ⟨x, e1, rfl⟩ := h
    exact e1
  unfold fX4_cheapestSwap fX4_cheapestSwap_l4
  refine wp_bn (Q := fun x => x = nI (bst (e (r + 14)) (R - 1))) ?_ (fun x hx => wp_s hx)
  refine wp_up (fun k v => v = (nI (bst (e (r + 14)) (k - 1)), nI k)) 1 R h1 (by omega) rfl (fun k v hk hk1 hv => ?_) (fun v hv => ?_)
  · subst hv
    have hb := bst_le (f := e (r + 14)) (k - 1)
    unfold fX4_cheapestSwap_b4
    dsimp only
    rw [h0]
    refine wp_if' (nI_ge hk (by omega)) (wp_gd (ib_n (by omega) (by omega)) (wp_gd (ib_n (by omega) (by omega)) (wp_gd (ib_n (by omega) (by omega)) (wp_gd (ib_n (by omega) (by omega)) ?_))))
    rw [ix_n (k := r) (by omega), ix_n (k := k) (by omega), ix_n (k := bst (e (r + 14)) (k - 1)) (by omega), Nat.one_mul]
    have ek : bst (e (r + 14)) (k + 1 - 1) = if e (r + 14) (bst (e (r + 14)) (k - 1)) ≤ e (r + 14) k then bst (e (r + 14)) (k - 1) else k := by
      obtain ⟨j, rfl⟩ : ∃ j, k = j + 1 := ⟨k - 1, by omega⟩
      rfl
    unfold fX4_cheapestSwap_j33
    refine wp_if (fun hc => wp_l ?_) (fun hc => wp_l ?_)
    · rw [ek, if_pos hc, nI_1]
    · rw [ek, if_neg hc, nI_1]
  · subst hv
    unfold fX4_cheapestSwap_b4
    dsimp only
    rw [h0]
    exact wp_it (Int32.le_refl _) (wp_r rfl)
theorem bestSwapOf_e (h4 : t 1 4 = nI R) (h1 : 1 ≤ R) (h6 : R ≤ 6) {r : Nat} (hr : r < R) : fX8_bestSwapOf t (nI r) = some (nI (bst (fun o => t 1 (12548 + 6 * r + o)) (R - 1))) := by
  generalize hf : (fun o => t 1 (12548 + 6 * r + o)) = f
  have hf' : ∀ o, t 1 (12548 + 6 * r + o) = f o := fun o => by rw [← hf]
  suffices h : wp_ (fX8_bestSwapOf t (nI r)) (fun x => x = nI (bst f (R - 1))) by
    obtain ⟨x, e1, rfl⟩ := h
    exact e1
  unfold fX8_bestSwapOf fX8_bestSwapOf_l4
  refine wp_bn (Q := fun x => x = nI (bst f (R - 1))) ?_ (fun x hx => wp_s hx)
  refine wp_up (fun k v => v = (nI (bst f (k - 1)), nI k)) 1 R h1 (by omega) rfl (fun k v hk hk1 hv => ?_) (fun v hv => ?_)
  · subst hv
    have hb := bst_le (f := f) (k - 1)
    unfold fX8_bestSwapOf_b4
    dsimp only
    rw [i4_, h4]
    refine wp_gd b4_ (wp_if' (nI_ge hk (by omega)) (wp_bne swapAt_e (wp_gd (ib_n (by omega) (by omega)) (wp_bne swapAt_e (wp_gd (ib_n (by omega) (by omega)) ?_)))))
    rw [ix_n (k := 12548 + 6 * r + k) (by omega), ix_n (k := 12548 + 6 * r + bst f (k - 1)) (by omega), hf', hf']
    have ek : bst f (k + 1 - 1) = if f (bst f (k - 1)) ≤ f k then bst f (k - 1) else k := by
      obtain ⟨j, rfl⟩ : ∃ j, k = j + 1 := ⟨k - 1, by omega⟩
      rfl
    unfold fX8_bestSwapOf_j42
    refine wp_if (fun hc => wp_l ?_) (fun hc => wp_l ?_)
    · rw [ek, if_pos hc, nI_1]
    · rw [ek, if_neg hc, nI_1]
  · subst hv
    unfold fX8_bestSwapOf_b4
    dsimp only
    rw [i4_, h4]
    exact wp_gd b4_ (wp_it (Int32.le_refl _) (wp_r rfl))
theorem swap_bst (hX : RX e w R) {r : Nat} (hr : r < R) : bst (e (r + 14)) (R - 1) = bst (fun o => w (12548 + 6 * r + o)) (R - 1) := bst_congr _ (fun o ho => hX r o hr (by omega))
theorem bestSwap_p (h : HH s t C R n T) (i0 : Int32) : QN g1i_ t (fX7_bestSwap s i0) (fX8_bestSwap t i0) := by
  obtain ⟨hD, -, ⟨⟨g0, g1, g16, gT⟩, -⟩, hX⟩ := h
  have hB := hD.rb
  have h6 := hB.1.2.1
  unfold fX7_bestSwap fX8_bestSwap
  rcases ruleC (R := R) i0 h6 with ⟨r, hr, rfl⟩ | hx
  · have u1 : (pt_ t 0 6 0) 1 = t 1 := pt_o (by decide)
    have e2 := bestSwapOf_e (t := pt_ t 0 6 0) (by rw [u1]; exact hB.1.2.2.2) hB.1.1 h6 hr
    rw [u1, ← swap_bst hX hr] at e2
    rw [bn_e (reqRule_t hB.1.2.2.1 hr h6), tb_l, bn_e (noRule_t hB.1.2.2.2 hr h6), if_pos rfl, bn_e (cheapSwap_e g0 hB.1.1 h6 hr), bn_e e2]
    exact QN.good (t' := pt_ t 0 6 0) rfl rfl pt_a MI.t6
  · rw [bn_e (reqRule_f hB.1.2.2.1 h6 hx), tb_r, bn_e (noRule_f hB.1.2.2.2 hB.1.1 h6 hx), if_neg (show ¬ (1 : Int32) = 0 by decide)]
    exact QN.bad 0 (y := 0) rfl rfl (by decide)
theorem swapRegret_p (h : HH s t C R n T) : QV t (fX7_swapRegret s) (fX8_swapRegret t) := by
  obtain ⟨hD, -, ⟨⟨g0, g1, g16, gT⟩, -⟩, hX⟩ := h
  have hB := hD.rb
  have h6 := hB.1.2.1
  have h1 := hB.1.1
  have u1 : (pt_ t 0 6 0) 1 = t 1 := pt_o (by decide)
  unfold fX7_swapRegret fX8_swapRegret
  rw [bd_e]
  have hl : ∃ b d, fX7_swapRegret_l4 s FU_ ((0 : Int32), (0 : Int32)) = some b ∧ fX8_swapRegret_l9 (pt_ t 0 6 0) FU_ ((0 : Int32), (0 : Int32)) = some d ∧ b = d := by
    unfold fX7_swapRegret_l4 fX8_swapRegret_l9
    refine up_pair (fun k v u => v = u ∧ v.2 = nI k) (fun b d => b = d) 0 R (Nat.zero_le _) (by omega) ⟨rfl, rfl⟩ (fun k v u hk hk1 hJ => ?_) (fun v u hJ => ?_)
    · obtain ⟨rfl, e2⟩ := hJ
      obtain ⟨v1, v2⟩ := v
      dsimp only at e2
      subst e2
      have e2 := bestSwapOf_e (t := pt_ t 0 6 0) (by rw [u1]; exact hB.1.2.2.2) hB.1.1 h6 hk
      rw [u1, ← swap_bst hX hk] at e2
      have e1 := cheapSwap_e (e := sb_ s 42) g0 hB.1.1 h6 hk
      have hb := bst_le (f := sb_ s 42 (k + 14)) (R - 1)
      generalize bst (sb_ s 42 (k + 14)) (R - 1) = b at e1 e2 hb
      have e56 : 42 + (k + 14) = 1 * k + 56 := by omega
      have x1 : s (42 + (k + 14)) k = t 1 (12548 + 6 * k + k) := hX k k hk hk
      have x2 : s (42 + (k + 14)) b = t 1 (12548 + 6 * k + b) := hX k b hk (by omega)
      rw [e56] at x1 x2
      unfold fX7_swapRegret_b4 fX8_swapRegret_b9
      dsimp only
      rw [show s 10 4 = nI R from hB.1.2.2.1, if_neg (nI_ge hk (by omega)), gd_t (ib_n (k := k) (N := 6) (by omega) (by omega)), gd_t (ib_n (k := k) (N := 6) (by omega) (by omega)), bn_e e1, gd_t (ib_n (k := b) (N := 6) (by omega) (by omega)), ix_n (k := k) (by omega), ix_n (k := b) (by omega), x1, x2, gd_t b4_, i4_, u1, hB.1.2.2.2, if_neg (nI_ge hk (by omega)), bn_e swapAt_e, gd_t (ib_n (k := 12548 + 6 * k + k) (by omega) (by omega)), bn_e e2, bn_e swapAt_e, gd_t (ib_n (k := 12548 + 6 * k + b) (by omega) (by omega)), ix_n (k := 12548 + 6 * k + k) (by omega), ix_n (k := 12548 + 6 * k + b) (by omega)]
      exact ⟨_, _, rfl, rfl, rfl, nI_1 k⟩
    · obtain ⟨rfl, e2⟩ := hJ
      obtain ⟨v1, v2⟩ := v
      dsimp only at e2
      subst e2
      unfold fX7_swapRegret_b4 fX8_swapRegret_b9
      dsimp only
      rw [show s 10 4 = nI R from hB.1.2.2.1, if_pos (Int32.le_refl _), gd_t b4_, i4_, u1, hB.1.2.2.2, if_pos (Int32.le_refl _)]
      exact ⟨_, _, rfl, rfl, rfl⟩
  obtain ⟨b, d, e1, e2, rfl⟩ := hl
  rw [bn_e e1, bn_e e2]
  exact ⟨_, pt_ t 0 6 0, rfl, rfl, MI.t6⟩
end LOOPS
