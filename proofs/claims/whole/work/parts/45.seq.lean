/-! many rounds, of the class's trial and of the model -/
def stp (d : st_) : Option st_ := bn_ (fX1_moveFoe d) fun r1 => bn_ (fX1_takeRules r1) fun r5 => fX1_serveAll r5
def dn (d : st_) : Nat → st_
  | 0 => d
  | k + 1 => (stp (dn d k)).getD (dn d k)
def tn (t : st_) : Nat → st_
  | 0 => t
  | k + 1 => (fX8_round (tn t k)).getD (tn t k)
def BR (d : st_) (w w' : Nat → Int32) : Prop := ∃ br, fX1_isBreach d = some br ∧ ((br = 0 ∧ w' 17 = w 17) ∨ (br = 1 ∧ w' 17 = w 17 + 1))
section SEQ
variable {d d' t : st_} {w w' : Nat → Int32} {C R n r9 T k : Nat}
theorem step_p (h : DD d (t 1) C R n) (hT : t 1 16 = nI T) (hT2 : T < 1200) : ∃ d3 t' n', stp d = some d3 ∧ fX8_round t = some t' ∧ mo_ t t' ∧ DD d3 (t' 1) C R n' ∧ t' 1 16 = nI (T + 1) ∧ BR d3 (t 1) (t' 1) := by
  obtain ⟨d1, e1, h1⟩ := round_g h hT hT2
  obtain ⟨d2, e2, h2⟩ := h1 d1 (fun _ _ => rfl)
  obtain ⟨d3, t', n', r9, e3, e4, hm, hD, -, -, -, -, -, -, -, hR⟩ := h2 d2 (fun _ _ => rfl)
  obtain ⟨-, -, -, -, -, -, -, -, ⟨-, r16⟩, ⟨reg, br, -, hb, -, hbr⟩, -⟩ := hR
  refine ⟨d3, t', n', ?_, e4, hm, hD, r16, br, hb, ?_⟩
  · unfold stp
    rw [bn_e e1, bn_e e2, e3]
  · rcases hbr with ⟨a, b, -⟩ | ⟨a, b, -⟩
    · exact Or.inl ⟨a, b⟩
    · exact Or.inr ⟨a, b⟩
theorem seq_p (h : DD d (t 1) C R n) (hT : t 1 16 = nI T) : ∀ j, T + j ≤ 1200 → (∃ n', DD (dn d j) (tn t j 1) C R n') ∧ tn t j 1 16 = nI (T + j) ∧ mo_ t (tn t j) ∧ ∀ i, i < j → stp (dn d i) = some (dn d (i + 1)) ∧ fX8_round (tn t i) = some (tn t (i + 1)) ∧ BR (dn d (i + 1)) (tn t i 1) (tn t (i + 1) 1)
  | 0, _ => ⟨⟨n, h⟩, hT, mo_r, fun i hi => absurd hi (by omega)⟩
  | j + 1, hj => by
    obtain ⟨⟨n', hD⟩, h16, hm, hi⟩ := seq_p h hT j (by omega)
    obtain ⟨d3, t', n2, e1, e2, hm2, hD2, h17, hb⟩ := step_p hD h16 (by omega)
    have ed : dn d (j + 1) = d3 := by
      show (stp (dn d j)).getD (dn d j) = d3
      rw [e1]; rfl
    have et : tn t (j + 1) = t' := by
      show (fX8_round (tn t j)).getD (tn t j) = t'
      rw [e2]; rfl
    rw [ed, et]
    refine ⟨⟨n2, hD2⟩, h17, hm.tr hm2, fun i hij => ?_⟩
    by_cases hc : i = j
    · subst hc
      rw [ed, et]
      exact ⟨e1, e2, hb⟩
    · exact hi i (by omega)
theorem letPass_e (h : ∀ i, i < k → stp (dn d i) = some (dn d (i + 1))) (hk : k < 100000) : fX1_letPass d (nI k) = some (dn d k) := by
  suffices hw : wp_ (fX1_letPass d (nI k)) (fun x => x = dn d k) by
    obtain ⟨x, e, rfl⟩ := hw
    exact e
  unfold fX1_letPass fX1_letPass_l2
  refine wp_bn (Q := fun x => x = dn d k) ?_ (fun x hx => wp_s hx)
  refine wp_up (fun j v => v = (nI j, dn d j)) 0 k (Nat.zero_le _) (by omega) rfl (fun j v hj _ hv => ?_) (fun v hv => ?_)
  · subst hv
    have e := h j hj
    unfold stp at e
    obtain ⟨r1, e1, e⟩ := bn_x e
    obtain ⟨r5, e2, e⟩ := bn_x e
    unfold fX1_letPass_b2
    refine wp_if' (nI_ge hj (by omega)) (wp_bne e1 (wp_bne e2 (wp_bne e (wp_l ?_))))
    dsimp only
    rw [nI_1]
  · subst hv
    unfold fX1_letPass_b2
    exact wp_it (Int32.le_refl _) (wp_r rfl)
theorem rounds_e (h : ∀ i, i < k → fX8_round (tn t i) = some (tn t (i + 1))) (hk : k < 100000) : fX8_rounds t (nI k) = some (tn t k) := by
  suffices hw : wp_ (fX8_rounds t (nI k)) (fun x => x = tn t k) by
    obtain ⟨x, e, rfl⟩ := hw
    exact e
  unfold fX8_rounds fX8_rounds_l2
  refine wp_bn (Q := fun x => x = tn t k) ?_ (fun x hx => wp_s hx)
  refine wp_up (fun j v => v = (nI j, tn t j)) 0 k (Nat.zero_le _) (by omega) rfl (fun j v hj _ hv => ?_) (fun v hv => ?_)
  · subst hv
    unfold fX8_rounds_b2
    refine wp_if' (nI_ge hj (by omega)) (wp_bne (h j hj) (wp_l ?_))
    dsimp only
    rw [nI_1]
  · subst hv
    unfold fX8_rounds_b2
    exact wp_it (Int32.le_refl _) (wp_r rfl)
/-- k rounds at once -/
theorem passes_p (h : DD d (t 1) C R n) (hT : t 1 16 = nI T) (hk : T + k ≤ 1200) : ∃ d' t' n', fX1_letPass d (nI k) = some d' ∧ fX8_rounds t (nI k) = some t' ∧ mo_ t t' ∧ DD d' (t' 1) C R n' := by
  obtain ⟨⟨n', hD⟩, -, hm, hi⟩ := seq_p h hT k hk
  exact ⟨dn d k, tn t k, n', letPass_e (fun i hi2 => (hi i hi2).1) (by omega), rounds_e (fun i hi2 => (hi i hi2).2.1) (by omega), hm, hD⟩
end SEQ
