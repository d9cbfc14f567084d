/-! calls that make rounds; the foe hurt, foretold -/
theorem it_lag {α β γ δ : Type} {f : α → Option (α ⊕ β)} {g : γ → Option (γ ⊕ δ)} (J : Nat → α → γ → Prop) (P : β → δ → Prop) : ∀ n fu fv v u, n + 1 < fu → n + 1 < fv → J n v u → (∀ k v u, k ≤ n → J k v u → (∃ v' u' k', k' < k ∧ f v = some (.inl v') ∧ g u = some (.inl u') ∧ J k' v' u') ∨ (∃ b d, f v = some (.inr b) ∧ g u = some (.inr d) ∧ P b d) ∨ (∃ b u' d, f v = some (.inr b) ∧ g u = some (.inl u') ∧ g u' = some (.inr d) ∧ P b d)) → ∃ b d, it_ f fu v = some b ∧ it_ g fv u = some d ∧ P b d := by
  intro n
  induction n using Nat.strongRecOn with
  | ind n ih =>
    intro fu fv v u h1 h2 hJ st
    obtain ⟨fu, rfl⟩ : ∃ m, fu = m + 2 := ⟨fu - 2, by omega⟩
    obtain ⟨fv, rfl⟩ : ∃ m, fv = m + 2 := ⟨fv - 2, by omega⟩
    rcases st n v u (Nat.le_refl _) hJ with ⟨v', u', k', hk, e1, e2, hJ'⟩ | ⟨b, d, e1, e2, hP⟩ | ⟨b, u', d, e1, e2, e3, hP⟩
    · obtain ⟨b, d, e3, e4, hP⟩ := ih k' hk (fu + 1) (fv + 1) v' u' (by omega) (by omega) hJ' (fun k v u hk2 hJ => st k v u (by omega) hJ)
      refine ⟨b, d, ?_, ?_, hP⟩
      · rw [it_, e1]
        exact e3
      · rw [it_, e2]
        exact e4
    · refine ⟨b, d, ?_, ?_, hP⟩
      · rw [it_, e1]
      · rw [it_, e2]
    · refine ⟨b, d, ?_, ?_, hP⟩
      · rw [it_, e1]
      · rw [it_, e2]
        show it_ g (fv + 1) u' = some d
        rw [it_, e3]
section RUNS
variable {s s' t t' d g : st_} {C R n T k : Nat} {v x : Int32}
theorem sb81 : sb_ (sb_ s 8) 1 = sb_ s 9 := by
  funext o
  show s (8 + (1 + o)) = s (9 + o)
  congr 1
  omega
theorem sb834 : sb_ (sb_ s 8) 34 = sb_ s 42 := by
  funext o
  show s (8 + (34 + o)) = s (42 + o)
  congr 1
  omega
theorem put8a {o : Nat} (ho : o < 33) : sb_ (mg_ s 8 75 g) 9 o = sb_ g 1 o := by
  rw [sb_ap, sb_ap, mg_i (by omega) (by omega)]
  congr 1
  omega
theorem put8b {o : Nat} (ho : o < 41) : sb_ (mg_ s 8 75 g) 42 o = sb_ g 34 o := by
  rw [sb_ap, sb_ap, mg_i (by omega) (by omega)]
  congr 1
  omega
theorem HH.of8 (hD : DD (sb_ g 1) (t 1) C R n) (hU : UPS (sb_ g 1)) (hR : RR (sb_ g 34) (t 1) R T) : HH (mg_ s 8 75 g) t C R n T :=
  ⟨hD.x33 (fun o a => put8a a), hU.x33 (fun o a => put8a a), hR.ext hD.rb.1.2.1 (fun o a => put8b a)⟩
theorem makeRound_q (h : HH s t C R n T) (hT : T < 1000) : ∃ g' t' n', fX2_makeRound (sb_ s 8) = some g' ∧ fX8_round t = some t' ∧ mo_ t t' ∧ HH (mg_ s 8 75 g') t' C R n' (T + 1) ∧ ∃ br, fX1_isBreach (sb_ (mg_ s 8 75 g') 9) = some br ∧ ((br = 0 ∧ t' 1 17 = t 1 17) ∨ (br = 1 ∧ t' 1 17 = t 1 17 + 1)) := by
  obtain ⟨g', t', n', e1, e2, hm, hD, hU, hR, br, hb, hbr⟩ := makeRound_p (g := sb_ s 8) (t := t) (by rw [sb81]; exact h.1) (by rw [sb81]; exact h.2.1) (by rw [sb834]; exact h.2.2) hT
  have hH : HH (mg_ s 8 75 g') t' C R n' (T + 1) := HH.of8 hD hU hR
  exact ⟨g', t', n', e1, e2, hm, hH, br, isBreach_u hD hH.1 (by rw [hR.1.1.2.2.1]; exact rg_n (Nat.zero_le _) (by omega) (by omega)) hb, hbr⟩
/-- rounds keep what a call keeps -/
theorem CG.rd {v : st_} (h : CG s v) (h2 : HH v t C R n T) (hT : T < 1000) (e : fX2_makeRound (sb_ v 8) = some g) : CG s (mg_ v 8 75 g) := by
  refine ⟨fun o ho => (mg_o (by omega)).trans (h.1 o ho), fun z => ?_⟩
  have e34 : sb_ (sb_ v 8) 34 = sb_ v 42 := sb834
  have h1 : sb_ v 8 34 1 = nI T := by
    have := h2.2.2.1.1.2.1
    exact this
  have hz := makeRound_z e h1 hT (by rw [e34]; exact h.2 z)
  intro m hm
  rw [put8b (by omega)]
  exact hz m hm
theorem run_lo (h : HH s t C R n T) (hk : T + k ≤ 1000) : ∃ s' t' n', fX7_run_l27 (nI k) FU_ ((0 : Int32), s) = some s' ∧ fX8_rounds t (nI k) = some t' ∧ CG s s' ∧ mo_ t t' ∧ HH s' t' C R n' (T + k) := by
  obtain ⟨b, d, e1, e2, n', hH, hc, hm⟩ := up_pair (f := fun v => fX7_run_b27 (nI k) v.1 v.2) (g := fun v => fX8_rounds_b2 (nI k) v.1 v.2) (fun j v u => v.1 = nI j ∧ u.1 = nI j ∧ ∃ n', HH v.2 u.2 C R n' (T + j) ∧ CG s v.2 ∧ mo_ t u.2) (fun b d => ∃ n', HH b d C R n' (T + k) ∧ CG s b ∧ mo_ t d) 0 k (Nat.zero_le _) (by omega) (v := ((0 : Int32), s)) (u := ((0 : Int32), t)) ⟨rfl, rfl, n, h, CG.r, mo_r⟩ (fun j v u hj _ hJ => by
    obtain ⟨v1, z⟩ := v
    obtain ⟨u1, y⟩ := u
    obtain ⟨a1, a2, n', hH, hc, hm⟩ := hJ
    dsimp only at a1 a2 hH hc hm
    subst a1 a2
    obtain ⟨g', y', n2, e1, e2, hm2, hH2, -⟩ := makeRound_q hH (by omega)
    refine ⟨(nI (j + 1), mg_ z 8 75 g'), (nI (j + 1), y'), ?_, ?_, rfl, rfl, n2, hH2, hc.rd hH (by omega) e1, hm.tr hm2⟩
    · unfold fX7_run_b27
      dsimp only
      rw [if_neg (nI_ge hj (by omega)), bn_e e1, bd_e, nI_1]
    · unfold fX8_rounds_b2
      dsimp only
      rw [if_neg (nI_ge hj (by omega)), bn_e e2, nI_1]) (fun v u hJ => by
    obtain ⟨v1, z⟩ := v
    obtain ⟨u1, y⟩ := u
    obtain ⟨a1, a2, n', hH, hc, hm⟩ := hJ
    dsimp only at a1 a2 hH hc hm
    subst a1 a2
    refine ⟨z, y, ?_, ?_, n', hH, hc, hm⟩
    · unfold fX7_run_b27
      dsimp only
      rw [if_pos (Int32.le_refl _)]
    · unfold fX8_rounds_b2
      dsimp only
      rw [if_pos (Int32.le_refl _)])
  refine ⟨b, d, n', e1, ?_, hc, hm, hH⟩
  unfold fX8_rounds fX8_rounds_l2
  rw [bn_e e2]
  rfl
theorem run_p (h : HH s t C R n T) (i0 : Int32) : QU g1_ s t (fX7_run s i0) (fX8_run t i0) := by
  have hT := h.2.2.1.1.2.2.2
  have h16 := h.2.2.1.1.2.2.1
  have e9 : s 9 9 = nI T := h.1.mk.trans h16
  obtain ⟨m, hm, em⟩ : ∃ m : Nat, (m = if 1000 - T < 200 then 1000 - T else 200) ∧ (if ((1000 : Int32) - (s 9 9)) < (200 : Int32) then ((1000 : Int32) - (s 9 9)) else (200 : Int32)) = nI m := by
    refine ⟨_, rfl, ?_⟩
    rw [e9, show (1000 : Int32) - nI T = nI (1000 - T) from pk_sub (a := 1000) hT]
    by_cases hc : 1000 - T < 200
    · rw [if_pos (show nI (1000 - T) < (200 : Int32) from nI_lt (b := 200) hc (by omega)), if_pos hc]
    · rw [if_neg (show ¬ nI (1000 - T) < (200 : Int32) from nI_nlt (b := 200) (by omega) (by omega)), if_neg hc]
      rfl
  have t16 : (pt_ t 0 6 0) 1 16 = nI T := (pt_oo (by decide)).trans h16
  unfold fX7_run fX8_run
  rw [em, bd_e]
  by_cases hx : 1 ≤ i0 ∧ i0 ≤ nI m
  · obtain ⟨k, k1, k2, rfl⟩ := ((rg_iff (lo := 1) (hi := m) (by split at hm <;> omega) (by
      have h1 := Int32.le_iff_toInt_le.mp hx.1
      have h2 := Int32.le_iff_toInt_le.mp hx.2
      rw [nI_toInt (by split at hm <;> omega)] at h2
      have h3 : (1 : Int32).toInt = 1 := by decide
      omega)).mpr hx).ex
    have hk200 : k ≤ 200 ∧ T + k ≤ 1000 := by split at hm <;> omega
    rw [bn_e (within_t hx), tb_l, bn_e (rounds_t pt_a ⟨hx.1, nI_le (b := 200) hk200.1 (by omega)⟩), if_pos rfl, gd_t b16_, i16_]
    dsimp only
    rw [if_pos (show (pt_ t 0 6 0) 1 16 + nI k ≤ (1000 : Int32) by rw [t16, nI_add]; exact nI_le (b := 1000) hk200.2 (by omega))]
    unfold fX8_run_j35
    dsimp only
    rw [bn_e (thr_0 pt_a), if_pos rfl]
    obtain ⟨s', t', n', e1, e2, hc, hmo, hH⟩ := run_lo (t := pt_ t 0 6 0) h.t6 hk200.2
    dsimp only
    rw [bn_e e1, bn_e e2, gd_t b16_, i16_]
    unfold fX7_run_k27 fX7_run_x27_45
    have ev : s' 9 9 = t' 1 16 := hH.1.mk
    rw [ev]
    exact QU.good rfl rfl ((hmo.2 6 (by decide)).trans pt_a) hc (MG.t6.tr (MG.mo hmo)) hH
  · rw [bn_e (within_f hx), tb_r]
    by_cases hy : 1 ≤ i0 ∧ i0 ≤ 200
    · obtain ⟨k, k1, k2, rfl⟩ := ((rg_iff (lo := 1) (hi := 200) (by omega) (by omega)).mpr hy).ex
      have hk : m < k := by
        rcases Nat.lt_or_ge m k with h1 | h1
        · exact h1
        · exact absurd ⟨hy.1, nI_le h1 (by split at hm <;> omega)⟩ hx
      have hk2 : 1000 < T + k := by split at hm <;> omega
      rw [bn_e (rounds_t pt_a hy), if_pos rfl, gd_t b16_, i16_]
      dsimp only
      rw [if_neg (show ¬ (pt_ t 0 6 0) 1 16 + nI k ≤ (1000 : Int32) by rw [t16, nI_add]; exact nI_ge (a := 1000) hk2 (by omega))]
      unfold fX8_run_j35
      dsimp only
      rw [bn_e (thr_1 pt_a (by decide)), if_neg (show ¬ (1 : Int32) = 0 by decide)]
      dsimp only
      rw [pt_pt]
      exact QU.bad 1 (y := 0) rfl rfl (by decide) h
    · rw [bn_e (rounds_f pt_a (by decide) hy), if_neg (show ¬ (1 : Int32) = 0 by decide)]
      dsimp only
      rw [pt_pt]
      exact QU.bad 1 (y := 0) rfl rfl (by decide) h
/-- what the two loops of runToBreach come to -/
def RBo (s t : st_) (C R : Nat) (a : Int32) (b : (Int32 × st_) ⊕ st_) (d : Int32 × st_) : Prop := match b with
  | .inl z => d.1 = z.1 + 1 ∧ ¬ d.2 1 17 ≤ a ∧ CG s z.2 ∧ mo_ t d.2 ∧ ∃ n T, HH z.2 d.2 C R n T
  | .inr z => d.2 1 17 ≤ a ∧ CG s z ∧ mo_ t d.2 ∧ ∃ n T, HH z d.2 C R n T
theorem breach_lo (h : HH s t C R n T) {q : Int32 × st_ → Option ((Int32 × st_) ⊕ (Int32 × st_))} {r5 : st_ × Int32} (hr5 : r5.1 1 17 = t 1 17) {K : Nat} (hK : K ≤ 200) (hq : q = fun v => fX8_runToBreach_b26 (nI K) r5 v.1 v.2) : ∃ b d, fX7_runToBreach_l29 s (nI K) FU_ ((0 : Int32), s) = some b ∧ it_ q FU_ ((0 : Int32), t) = some d ∧ RBo s t C R (t 1 17) b d := by
  have hT := h.2.2.1.1.2.2.2
  have h16 := h.2.2.1.1.2.2.1
  have e9 : s 9 9 = nI T := h.1.mk.trans h16
  obtain ⟨H0, _, hH0, eH0⟩ := h.pp.2.2.2.2.ex
  obtain ⟨m, hm, em⟩ : ∃ m : Nat, (m = if 1000 - T < K then 1000 - T else K) ∧ (if ((1000 : Int32) - (s 9 9)) < nI K then ((1000 : Int32) - (s 9 9)) else nI K) = nI m := by
    refine ⟨_, rfl, ?_⟩
    rw [e9, show (1000 : Int32) - nI T = nI (1000 - T) from pk_sub (a := 1000) hT]
    by_cases hc : 1000 - T < K
    · rw [if_pos (nI_lt hc (by omega)), if_pos hc]
    · rw [if_neg (nI_nlt (by omega) (by omega)), if_neg hc]
  have hmK : m ≤ K ∧ T + m ≤ 1000 ∧ (m < K → T + m = 1000) := by split at hm <;> omega
  unfold fX7_runToBreach_l29
  have hFU : m + 1 < FU_ := Nat.lt_of_lt_of_le (Nat.lt_of_le_of_lt (Nat.succ_le_succ hmK.1) (Nat.lt_of_le_of_lt (Nat.succ_le_succ hK) (show 200 + 1 < 300 by omega))) (Nat.le_of_ble_eq_true rfl)
  subst hq
  refine it_lag (fun j v u => ∃ i, i + j = m ∧ v.1 = nI i ∧ u.1 = nI i ∧ u.2 1 17 = t 1 17 ∧ CG s v.2 ∧ mo_ t u.2 ∧ ∃ n', HH v.2 u.2 C R n' (T + i)) (RBo s t C R (t 1 17)) m FU_ FU_ _ _ hFU hFU ⟨0, by omega, rfl, rfl, rfl, CG.r, mo_r, n, h⟩ (fun j v u hj hJ => ?_)
  obtain ⟨v1, z⟩ := v
  obtain ⟨u1, y⟩ := u
  obtain ⟨i, hi, a1, a2, a3, hc, hmo, n', hH⟩ := hJ
  dsimp only at a1 a2 a3 hc hmo hH
  subst a1 a2
  have y16 := hH.2.2.1.1.2.2.1
  by_cases him : i < m
  · obtain ⟨g', y', n2, e1, e2, hm2, hH2, br, eb, hbr⟩ := makeRound_q hH (by omega)
    have hcv : CG s (mg_ z 8 75 g') := hc.rd hH (by omega) e1
    have f1 : fX7_runToBreach_b29 s (nI K) (nI i) z = if br = (0 : Int32) then (some (.inl ((nI i + (1 : Int32)), mg_ z 8 75 g'))) else (some (.inr (.inl (nI i, mg_ z 8 75 g')))) := by
      unfold fX7_runToBreach_b29
      rw [em, if_neg (nI_ge him (by omega)), bn_e e1, bd_e, bn_e eb]
    have f2 : fX8_runToBreach_b26 (nI K) r5 (nI i) y = some (.inl (nI (i + 1), y')) := by
      unfold fX8_runToBreach_b26
      rw [gd_t b17_, i17_, a3, hr5, if_pos rfl, if_neg (nI_ge (by omega) (by omega)), gd_t b16_, i16_, y16, if_neg (show ¬ (1000 : Int32) ≤ nI (T + i) from nI_ge (b := 1000) (by omega) (by omega)), bn_e e2, nI_1]
    rcases hbr with ⟨hb0, h17⟩ | ⟨hb1, h17⟩
    · refine Or.inl ⟨(nI (i + 1), mg_ z 8 75 g'), (nI (i + 1), y'), j - 1, by omega, ?_, f2, i + 1, by omega, rfl, rfl, h17.trans a3, hcv, hmo.tr hm2, n2, hH2⟩
      dsimp only
      rw [f1, if_pos hb0, nI_1]
    · refine Or.inr (Or.inr ⟨.inl (nI i, mg_ z 8 75 g'), (nI (i + 1), y'), (nI (i + 1), y'), ?_, f2, ?_, ?_⟩)
      · dsimp only
        rw [f1, if_neg (by rw [hb1]; decide)]
      · dsimp only
        unfold fX8_runToBreach_b26
        rw [gd_t b17_, i17_, h17, a3, hr5, eH0, nI_1, if_neg (fun z => by have := (nI_eq (by omega) (by omega)).mp z; omega)]
      · refine ⟨(nI_1 i).symm, ?_, hcv, hmo.tr hm2, n2, _, hH2⟩
        dsimp only
        rw [h17, a3, eH0, nI_1]
        exact nI_ge (Nat.lt_succ_self _) (by omega)
  · have him2 : i = m := by omega
    subst him2
    refine Or.inr (Or.inl ⟨.inr z, (nI i, y), ?_, ?_, ?_⟩)
    · dsimp only
      unfold fX7_runToBreach_b29
      rw [em, if_pos (Int32.le_refl _)]
    · dsimp only
      unfold fX8_runToBreach_b26
      rw [gd_t b17_, i17_, a3, hr5, if_pos rfl]
      by_cases hiK : i = K
      · subst hiK
        rw [if_pos (Int32.le_refl _)]
      · rw [if_neg (nI_ge (by omega) (by omega)), gd_t b16_, i16_, y16, if_pos (show (1000 : Int32) ≤ nI (T + i) from nI_le (a := 1000) (by omega) (by omega))]
    · exact ⟨by dsimp only; rw [a3]; exact Int32.le_refl _, hc, hmo, n', _, hH⟩
theorem runToBreach_p (h : HH s t C R n T) (i0 : Int32) : QU g1_ s t (fX7_runToBreach s i0) (fX8_runToBreach t i0) := by
  unfold fX7_runToBreach fX8_runToBreach
  rw [bd_e]
  by_cases hx : 1 ≤ i0 ∧ i0 ≤ 200
  · obtain ⟨k, k1, k2, rfl⟩ := ((rg_iff (lo := 1) (hi := 200) (by omega) (by omega)).mpr hx).ex
    rw [bn_e (within_t hx), tb_l, bn_e (rounds_t pt_a hx), if_pos rfl, gd_t b17_]
    obtain ⟨b, d, e1, e2, hP⟩ := breach_lo (t := pt_ t 0 6 0) h.t6 (r5 := (pt_ t 0 6 0, (0 : Int32))) rfl k2 rfl
    unfold fX8_runToBreach_l26
    rw [bn_e e1, bn_e e2]
    unfold fX7_runToBreach_k29 fX8_runToBreach_k26 fX8_runToBreach_x26_65
    rw [gd_t b17_, i17_]
    cases b with
    | inl z =>
      obtain ⟨p1, p2, p3, p4, n', T', p5⟩ := hP
      dsimp only
      rw [if_neg p2, p1]
      exact QU.good (v := z.1 + 1) rfl rfl ((p4.2 6 (by decide)).trans pt_a) p3 (MG.t6.tr (MG.mo p4)) p5
    | inr z =>
      obtain ⟨p2, p3, p4, n', T', p5⟩ := hP
      dsimp only
      rw [if_pos p2]
      exact QU.good (v := -1) rfl rfl ((p4.2 6 (by decide)).trans pt_a) p3 (MG.t6.tr (MG.mo p4)) p5
  · rw [bn_e (within_f hx), tb_r, bn_e (rounds_f pt_a (by decide) hx), if_neg (show ¬ (1 : Int32) = 0 by decide)]
    dsimp only
    rw [pt_pt]
    exact QU.bad 1 (y := 0) rfl rfl (by decide) h
/-- hurts, foretold: behind it the row is the same but for what lies behind the requests -/
theorem HH.eqn (h : HH s t C R n T) (hE : EQn (t 1) (t' 1) n) (hs : ∀ o, 9 ≤ o → o < 83 → o ≠ 22 → o ≠ 23 → s' o = s o) : HH s' t' C R n T := by
  have hR6 := h.1.rb.1.2.1
  obtain ⟨hS, hV, hA⟩ := h.1
  have hD : DD (sb_ s 9) (t' 1) C R n := ⟨hS.of (fun _ _ _ => rfl) (fun i hi => hE i (by unfold sI_ at hi; omega)), hV.of rfl rfl (fun i hi => hE i (by omega)) hR6, hE.da hA hR6⟩
  have h1 : HH s t' C R n T := h.eq hD h.2.1 (fun _ _ => rfl) (fun i _ a => hE i (by unfold rI_ at a; omega))
  exact h1.ci hs (fun _ _ => rfl)
theorem foresee_q (h : HH s t C R n T) (h20 : n < 20) {r0 : Nat} (hr0 : r0 < R) : ∃ d1, fX1_foreseeHurts (sb_ s 9) (nI r0) = some d1 ∧ (∀ o, o ≠ 13 → o ≠ 14 → d1 o = sb_ s 9 o) ∧ ∀ q, q < C → d1 13 q = hurt_f (sb_ s 9) n R r0 q := by
  obtain ⟨hC2, hC, hS0, hw0, hR1, hR6, hS4, hw4, hS2, hS3, hw2, hw3, hkk⟩ := id h.1.1.1
  have hA := h.1.2.2
  have ac : ∀ a m, AR a (t 1) m n → AI (t 1) m n C → AC a (ix_ (a 0 0)) n := fun a m h1 h2 => by
    have h3 := h1.ac h2 hC hC2
    rw [h1.1]
    exact h3
  exact foreseeHurts_w (d := sb_ s 9) (C := C) (R := R) (n := n) (r0 := r0) hS0 hC2 hC hS4 hR1 hR6 (fun r hr => by
    have h3 := hkk r hr
    have h4 := h3.2.2
    rw [← h3.1] at h4
    exact h4) (ac _ _ hA.1 hA.2.1) (fun r hr => ac _ _ (hA.2.2.1 r hr).1 (hA.2.2.1 r hr).2) hr0
theorem hurtOf_p (h : HH s t C R n T) (i0 : Int32) : QU g1_ s t (fX7_hurtOf s i0) (fX8_hurtOf t i0) := by
  obtain ⟨hC2, hC, hS0, hw0, hR1, hR6, hS4, hw4, hS2, hS3, hw2, hw3, hk⟩ := id h.1.1.1
  have h20 := h.n20
  unfold fX7_hurtOf fX8_hurtOf
  by_cases hx : 0 ≤ i0 ∧ i0 ≤ nI (C - 1)
  · obtain ⟨q, _, hq, rfl⟩ := ((rg_iff (lo := 0) (by omega) (by omega)).mpr hx).ex
    rw [bn_e (reqCyl_t hS0 hC2 hx), tb_l, bn_e (noCyl_t hw0 hC2 hC hx), if_pos rfl, bn_e (isFull_e h.n5 h20)]
    dsimp only
    rw [bn_e (misFull_e (t := pt_ t 0 6 0) h.t6.n6 h20)]
    by_cases hn : n < 20
    · rw [if_pos (by rw [if_pos hn]), if_pos (by rw [if_pos hn])]
      have h0 := h.t6 (v := 0)
      obtain ⟨r0, z, hr0, ec, ez, hmo, hE, hzv⟩ := hurts_p (d := sb_ s 9) (t := pt_ t 0 6 0) (q := q) h0.1.2.2 h0.1.1.1 h0.1.rb h0.1.rv hn (by omega)
      obtain ⟨d1, ed, d1o, d1h⟩ := foresee_q h hn hr0
      rw [bn_e ec, bn_e ed, bd_e, bn_e ez, gd_t (ib_n (by omega) (by omega)), ix_n (by omega)]
      have ev : mg_ s 9 33 d1 22 q = z.2 := by
        rw [mg_i (by omega) (by omega), hzv]
        exact d1h q (by omega)
      rw [ev]
      exact QU.good rfl rfl ((hmo.2 6 (by decide)).trans pt_a) (CG.of (fun o a => mg_o (by omega)) (fun m a => mg_o (by omega))) (MG.t6.tr (MG.mo hmo)) (h0.eqn hE (fun o a b c e => by
        by_cases hc : o < 42
        · rw [mg_i (by omega) (by omega), d1o _ (by omega) (by omega), sb_ap]
          congr 1
          omega
        · exact mg_o (by omega)))
    · rw [if_neg (by rw [if_neg hn]; decide), if_neg (by rw [if_neg hn]; decide)]
      exact QU.good (t' := pt_ t 0 6 0) rfl rfl pt_a CG.r MG.t6 h.t6
  · rw [bn_e (reqCyl_f hS0 hC2 hx), tb_r, bn_e (noCyl_f hw0 hC2 hC hx), if_neg (show ¬ (1 : Int32) = 0 by decide)]
    exact QU.bad 1 (y := 0) rfl rfl (by decide) h
theorem worst_q (h : HH s t C R n T) : QW s t (fX7_worst s) (fX8_worst t) := by
  obtain ⟨hC2, hC, hS0, hw0, hR1, hR6, hS4, hw4, hS2, hS3, hw2, hw3, hk⟩ := id h.1.1.1
  have h20 := h.n20
  unfold fX7_worst fX8_worst
  rw [bn_e (isFull_e h.n5 h20), bd_e, bn_e (misFull_e (t := pt_ t 0 6 0) h.t6.n6 h20)]
  by_cases hn : n < 20
  · rw [if_pos (by rw [if_pos hn]), if_pos (by rw [if_pos hn])]
    have h0 := h.t6 (v := 0)
    obtain ⟨r0, z, hr0, ec, ez, hmo, hE, hzv⟩ := worstOf_p (d := sb_ s 9) (t := pt_ t 0 6 0) h0.1.2.2 h0.1.1.1 h0.1.rb h0.1.rv hn
    obtain ⟨d1, ed, d1o, d1h⟩ := foresee_q h hn hr0
    have em : fX1_mostHurtful (sb_ (mg_ s 9 33 d1) 9) = some (nI (wst (hurt_f (sb_ s 9) n R r0) (C - 1))) := by
      rw [mostHurtful_e (C := C) (by rw [put9 (by omega), d1o 1 (by decide) (by decide)]; exact hS0) hC2 hC]
      rw [wst_congr (g := hurt_f (sb_ s 9) n R r0) (C - 1) (fun r hr => by rw [put9 (by omega)]; exact d1h r (by omega))]
    rw [bn_e ec, bn_e ed, bd_e, bn_e ez, bn_e em, hzv]
    exact ⟨_, _, _, rfl, rfl, CG.of (fun o a => mg_o (by omega)) (fun m a => mg_o (by omega)), MG.t6.tr (MG.mo hmo), C, R, n, T, h0.eqn hE (fun o a b c e => by
      by_cases hc : o < 42
      · rw [mg_i (by omega) (by omega), d1o _ (by omega) (by omega), sb_ap]
        congr 1
        omega
      · exact mg_o (by omega))⟩
  · rw [if_neg (by rw [if_neg hn]; decide), if_neg (by rw [if_neg hn]; decide)]
    exact ⟨s, -1, _, rfl, rfl, CG.r, MG.t6, C, R, n, T, h.t6⟩
end RUNS
