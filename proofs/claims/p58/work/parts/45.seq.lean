/-! many rounds, of the class's trial and of the model -/
def stp (d : st_) : Option st_ := bn_ (fX1_moveFoe d) fun r1 => bn_ (fX1_takeRules r1) fun r5 => fX1_serveAll r5
def dn (d : st_) : Nat → st_
  | 0 => d
  | k + 1 => (stp (dn d k)).getD (dn d k)
def tn (t : st_) : Nat → st_
  | 0 => t
  | k + 1 => (fX8_round (tn t k)).getD (tn t k)
/-- a round, told by the model's rows: whether it is a breach -/
def BR (t t' : st_) (C R : Nat) : Prop := ∃ br, (∀ d n, DD d (t' 1) C R n → fX1_isBreach d = some br) ∧ ((br = 0 ∧ t' 1 17 = t 1 17) ∨ (br = 1 ∧ t' 1 17 = t 1 17 + 1))
section SEQ
variable {d d' t : st_} {w w' : Nat → Int32} {C R n r9 T k : Nat}
theorem isBreach_u (h : DD d (t 1) C R n) (h' : DD d' (t 1) C R k) (hT : rg_ (t 1 16) 0 1200) {x : Int32} (e : fX1_isBreach d = some x) : fX1_isBreach d' = some x := by
  have key : ∀ (d : st_) n, DD d (t 1) C R n → fX1_isBreach d = (if t 1 11 = -1 then some 0 else bn_ (fX8_regretNow t) fun r1 => bn_ (fX8_boundOf t (t 1 16)) fun r5 => if r1 ≤ r5 then some 0 else some 1) := by
    intro d n h
    have hB := h.rb
    obtain ⟨e1, e2⟩ := regretNow_p h.2.2 hB.1.2.2.1 hB.1.2.2.2 hB.1.1 hB.1.2.1
    obtain ⟨hRS, a1, a2, k1, k2, k3, k4, eta, etar, foe, foer, ak, akr, asks, base, root, bud, rvd, rvr, rvk⟩ := id h.1
    obtain ⟨V, _, hV, eV⟩ := hT.ex
    have hmk := h.mk
    rw [eV] at hmk ⊢
    obtain ⟨x, x1, x2⟩ := bound_p (S := sb_ d 1) (t := t) (V := V) base root hV
    unfold fX1_isBreach fX1_isBreach_j33
    rw [base]
    by_cases hb : t 1 11 = -1
    · rw [if_pos hb, if_pos hb]
    · rw [if_neg hb, if_neg hb, bn_e e1, bn_e e2, hmk, bn_e (x2 hb), bn_e x1]
  rw [key d' k h', ← key d n h, e]
theorem step_p (h : DD d (t 1) C R n) (hT : t 1 16 = nI T) (hT2 : T < 1200) : ∃ d3 t' n', stp d = some d3 ∧ fX8_round t = some t' ∧ mo_ t t' ∧ DD d3 (t' 1) C R n' ∧ t' 1 16 = nI (T + 1) ∧ t' 1 21 = t 1 21 ∧ BR t t' C R := by
  obtain ⟨d1, e1, h1⟩ := round_g h hT hT2
  obtain ⟨d2, e2, h2⟩ := h1 d1 (fun _ _ => rfl)
  obtain ⟨d3, t', n', r9, e3, e4, hm, hD, -, -, -, -, -, r14, -, hR⟩ := h2 d2 (fun _ _ => rfl)
  obtain ⟨-, -, -, -, -, -, -, -, ⟨-, r16⟩, ⟨reg, br, -, hb, -, hbr⟩, -⟩ := hR
  refine ⟨d3, t', n', ?_, e4, hm, hD, r16, hD.rv.symm.trans r14, br, fun d n h => isBreach_u hD h (by rw [r16]; exact rg_n (Nat.zero_le _) (by omega) (by omega)) hb, ?_⟩
  · unfold stp
    rw [bn_e e1, bn_e e2, e3]
  · rcases hbr with ⟨a, b, -⟩ | ⟨a, b, -⟩
    · exact Or.inl ⟨a, b⟩
    · exact Or.inr ⟨a, b⟩
theorem seq_p (h : DD d (t 1) C R n) (hT : t 1 16 = nI T) : ∀ j, T + j ≤ 1200 → (∃ n', DD (dn d j) (tn t j 1) C R n') ∧ (tn t j 1 16 = nI (T + j) ∧ tn t j 1 21 = t 1 21) ∧ mo_ t (tn t j) ∧ ∀ i, i < j → stp (dn d i) = some (dn d (i + 1)) ∧ fX8_round (tn t i) = some (tn t (i + 1)) ∧ BR (tn t i) (tn t (i + 1)) C R
  | 0, _ => ⟨⟨n, h⟩, ⟨hT, rfl⟩, mo_r, fun i hi => absurd hi (by omega)⟩
  | j + 1, hj => by
    obtain ⟨⟨n', hD⟩, ⟨h16, h21⟩, hm, hi⟩ := seq_p h hT j (by omega)
    obtain ⟨d3, t', n2, e1, e2, hm2, hD2, h17, h22, hb⟩ := step_p hD h16 (by omega)
    have ed : dn d (j + 1) = d3 := by
      show (stp (dn d j)).getD (dn d j) = d3
      rw [e1]; rfl
    have et : tn t (j + 1) = t' := by
      show (fX8_round (tn t j)).getD (tn t j) = t'
      rw [e2]; rfl
    rw [ed, et]
    refine ⟨⟨n2, hD2⟩, ⟨h17, h22.trans h21⟩, hm.tr hm2, fun i hij => ?_⟩
    by_cases hc : i = j
    · subst hc
      rw [ed, et]
      exact ⟨e1, e2, hb⟩
    · exact hi i (by omega)
theorem letPass_e (h : ∀ i, i < k → stp (dn d i) = some (dn d (i + 1))) (hk : k < 100000) : fX1_letPass d (nI k) = some (dn d k) := by
  suffices hw : wp_ (fX1_letPass d (nI k)) (fun x => x = dn d k) by
    obtain ⟨x, e, rfl⟩ := hw
    exact e
  unfold fX1_letPass fX1_letPass_l2
  refine wp_bn (Q := fun x => x = dn d k) ?_ (fun x hx => wp_s hx)
  refine wp_up (fun j v => v = (nI j, dn d j)) 0 k (Nat.zero_le _) (by omega) rfl (fun j v hj _ hv => ?_) (fun v hv => ?_)
  · subst hv
    have e := h j hj
    unfold stp at e
    obtain ⟨r1, e1, e⟩ := bn_x e
    obtain ⟨r5, e2, e⟩ := bn_x e
    unfold fX1_letPass_b2
    refine wp_if' (nI_ge hj (by omega)) (wp_bne e1 (wp_bne e2 (wp_bne e (wp_l ?_))))
    dsimp only
    rw [nI_1]
  · subst hv
    unfold fX1_letPass_b2
    exact wp_it (Int32.le_refl _) (wp_r rfl)
theorem rounds_e (h : ∀ i, i < k → fX8_round (tn t i) = some (tn t (i + 1))) (hk : k < 100000) : fX8_rounds t (nI k) = some (tn t k) := by
  suffices hw : wp_ (fX8_rounds t (nI k)) (fun x => x = tn t k) by
    obtain ⟨x, e, rfl⟩ := hw
    exact e
  unfold fX8_rounds fX8_rounds_l2
  refine wp_bn (Q := fun x => x = tn t k) ?_ (fun x hx => wp_s hx)
  refine wp_up (fun j v => v = (nI j, tn t j)) 0 k (Nat.zero_le _) (by omega) rfl (fun j v hj _ hv => ?_) (fun v hv => ?_)
  · subst hv
    unfold fX8_rounds_b2
    refine wp_if' (nI_ge hj (by omega)) (wp_bne (h j hj) (wp_l ?_))
    dsimp only
    rw [nI_1]
  · subst hv
    unfold fX8_rounds_b2
    exact wp_it (Int32.le_refl _) (wp_r rfl)
/-- k rounds at once -/
theorem passes_p (h : DD d (t 1) C R n) (hT : t 1 16 = nI T) (hk : T + k ≤ 1200) : ∃ d' t' n', fX1_letPass d (nI k) = some d' ∧ fX8_rounds t (nI k) = some t' ∧ mo_ t t' ∧ DD d' (t' 1) C R n' ∧ t' 1 21 = t 1 21 := by
  obtain ⟨⟨n', hD⟩, ⟨-, h21⟩, hm, hi⟩ := seq_p h hT k hk
  exact ⟨dn d k, tn t k, n', letPass_e (fun i hi2 => (hi i hi2).1) (by omega), rounds_e (fun i hi2 => (hi i hi2).2.1) (by omega), hm, hD, h21⟩
end SEQ
