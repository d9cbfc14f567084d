/-! foresees: what its steps need -/
theorem am_lt {κ : Nat → Nat} : ∀ n, 0 < n → am_ κ n < n := fun n hn => (am_fm (κ := κ) n hn).1
theorem am_congr {κ κ' : Nat → Nat} : ∀ n, (∀ j, j < n → κ' j = κ j) → am_ κ' n = am_ κ n
  | 0, _ => rfl
  | k + 1, h => by
    have ih := am_congr (κ := κ) (κ' := κ') k (fun j hj => h j (by omega))
    unfold am_
    by_cases h0 : k = 0
    · rw [if_pos h0, if_pos h0]
    · have hl := am_lt (κ := κ) k (by omega)
      rw [if_neg h0, if_neg h0, ih, h k (by omega), h _ (by omega)]
section PARTS58
variable {s s' t t' d d' a a' S S' : st_} {C R n n' T K k c m r v kind q : Nat} {wd : Int32}
theorem fcx_n (h0 : a' 0 1 = a 0 1) (h1 : ∀ j, j < n → a' 1 j = a 1 j) (h2 : S' 0 2 = S 0 2) (h3 : S' 0 3 = S 0 3) : fcx a' S' kind wd c n q = fcx a S kind wd c n q := by
  have hka : ∀ j, j < n → ka_ a' kind wd c j = ka_ a kind wd c j := fun j hj => by
    unfold ka_
    rw [h0, h1 j hj]
  unfold fcx
  by_cases hn : n = 0
  · rw [if_pos hn, if_pos hn, h2, h3]
  · have hl := am_lt (κ := ka_ a kind wd c) n (by omega)
    rw [if_neg hn, if_neg hn, am_congr n hka, hka _ hl, h0, h1 _ hl, h2, h3]
theorem hurt_dd {w : Nat → Int32} (h : DD d w C R n) (h' : DD d' w C R n) (hr : r < R) : hurt_f d' n R r c = hurt_f d n R r c := by
  obtain ⟨u1, u2, u3, u4, u5, u6, u7, u8, u9, u10, u11, u12, u13⟩ := h.1.1
  obtain ⟨v1, v2, v3, v4, v5, v6, v7, v8, v9, v10, v11, v12, v13⟩ := h'.1.1
  have k2 : ∀ x, x < R → d' 2 x = d 2 x := fun x hx => (v13 x hx).1.trans (u13 x hx).1.symm
  have k3 : ∀ x, x < R → d' 3 x = d 3 x := fun x hx => (v13 x hx).2.1.trans (u13 x hx).2.1.symm
  have s2 : sb_ d' 1 0 2 = sb_ d 1 0 2 := v9.trans u9.symm
  have s3 : sb_ d' 1 0 3 = sb_ d 1 0 3 := v10.trans u10.symm
  have arm : ∀ o m, AR (sb_ d o) w m n → AR (sb_ d' o) w m n → d' o 0 = d o 0 ∧ d' o 5 = d o 5 ∧ sb_ d' o 0 1 = sb_ d o 0 1 ∧ ∀ j, j < n → sb_ d' o 1 j = sb_ d o 1 j := fun o m e e' => ⟨e'.1.trans e.1.symm, e'.2.2.2.1.trans e.2.2.2.1.symm, e'.2.1.trans e.2.1.symm, fun j hj => (e'.2.2.2.2.2.2.2 j hj).1.trans (e.2.2.2.2.2.2.2 j hj).1.symm⟩
  have own : ∀ x, x < R → own_f d' n x c = own_f d n x c := fun x hx => by
    obtain ⟨e0, e5, e1, ej⟩ := arm (3 * x + 15) x (h.2.2.2.2.1 x hx).1 (h'.2.2.2.2.1 x hx).1
    unfold own_f
    rw [e0, e5, k2 x hx, k3 x hx, fcx_n e1 ej s2 s3]
  have its : its_f d' n r c = its_f d n r c := by
    obtain ⟨e0, e5, e1, ej⟩ := arm 5 6 h.2.2.1 h'.2.2.1
    unfold its_f
    rw [e0, e5, k2 r hr, k3 r hr, fcx_n e1 ej s2 s3]
  unfold hurt_f
  rw [its, mnr_congr (g := fun x => own_f d n x c) (R - 1) (fun x hx => own x (by omega))]
theorem QU.exB {g : Nat → Int32} {A : Option (st_ × (Int32 ⊕ Nat))} {B : Option (st_ × Int32)} {x : Int32 ⊕ Nat} (h : QU g s t A B) (e : A = some (s', x)) : ∃ t' y, B = some (t', y) ∧ GH s' t' := by
  obtain ⟨s2, x2, t', y, e1, e2, -, -, -, hg⟩ := h
  cases e.symm.trans e1
  exact ⟨t', y, e2, hg⟩
theorem YY.setFoeB (h : YY s t C R n T K) (hv : v ≤ 5) : ∃ t' y, fX8_setFoe t (nI v) = some (t', y) ∧ gX7_setFoe s (nI v) = some (pt_ s 10 11 (nI v), s 10 11) ∧ YY (pt_ s 10 11 (nI v)) t' C R n T K := by
  have hw : (0 : Int32) ≤ nI v ∧ nI v ≤ (5 : Int32) := ⟨nI_pos' (by omega), nI_le (b := 5) hv (by omega)⟩
  obtain ⟨t', y, e, hg⟩ := (setFoe_p h.1 (nI v)).exB (s' := pt_ s 10 11 (nI v)) (x := .inl (s 10 11)) (by unfold fX7_setFoe; rw [bn_e (within_t hw), tb_l, bd_e])
  refine ⟨t', y, e, ?_, h.set hg (fun o a b => pt_o (by omega)) (pt_oo (by decide)) (pt_r (by decide)) (pt_r (by decide)) (pt_r (by decide)) (pt_r (by decide))⟩
  unfold gX7_setFoe
  rw [bn_e (gWithin hw.1 hw.2), bd_e]
theorem YY.setMasterB {r : Nat} (h : YY s t C R n T K) (hv : v ≤ 2) (hr : r < R) : ∃ t' y, fX8_setMaster t (nI v) (nI r) = some (t', y) ∧ gX7_setMaster s (nI v) (nI r) = some (msr_ s v r, s 10 7) ∧ YY (msr_ s v r) t' C R n T K := by
  have hB := h.1.1.rb
  have h6 := hB.1.2.1
  have hw : (0 : Int32) ≤ nI v ∧ nI v ≤ (2 : Int32) := ⟨nI_pos' (by omega), nI_le (b := 2) hv (by omega)⟩
  have ej : fX7_setMaster_j16 s (nI v) (nI r) = some (msr_ s v r, .inl (s 10 7)) := by
    unfold fX7_setMaster_j16 msr_
    rw [bn_e takeMaster_e, bd_e]
  have ej2 : gX7_setMaster_j16 s (nI v) (nI r) = some (msr_ s v r, s 10 7) := by
    unfold gX7_setMaster_j16 msr_
    rw [bn_e takeMaster_e, bd_e]
  obtain ⟨t', y, e, hg⟩ := (setMaster_p h.1 (nI v) (nI r)).exB (s' := msr_ s v r) (x := .inl (s 10 7)) (by
    unfold fX7_setMaster
    rw [bn_e (within_t hw), tb_l, bn_e (reqRule_t hB.1.2.2.1 hr h6), tb_l, ej]
    split <;> rfl)
  obtain ⟨m1, m2, m3, m4⟩ := mast_h (s := s) (a := 9) (b := 10) (kind := nI v) (y := if nI v = 2 then nI r else -1) rfl
  refine ⟨t', y, e, ?_, h.set hg (fun o a b => m1 o (by omega)) (congrFun (m1 9 (by decide)) 9) (m2 0 (by decide) (by decide)) (m2 4 (by decide) (by decide)) (m2 17 (by decide) (by decide)) (m2 18 (by decide) (by decide))⟩
  unfold gX7_setMaster
  rw [bn_e (gWithin hw.1 hw.2), bn_e (gRule hB.1.2.2.1 hr h6), ej2]
  split <;> rfl
/-- the first of the rounds that come -/
theorem YY.first (h : YY s t C R n T K) (hT : T < 1000) : ∃ t' r9, fX8_round t = some t' ∧ r9 < R ∧ (∀ s2, HH s2 t C R n T → fX1_comingRule (sb_ s2 9) = some (nI r9)) ∧ t' 1 (548 + T) = nI r9 ∧ t' 1 11 = t 1 11 := by
  obtain ⟨g', t', n', K', r9, d2, d3, e1, e2, hm, hH', hA', hr9, hcr, hE, hDA, q4, b3, b4, hmk, w11, w12, w21, hc, h5⟩ := round_y h.1 hT h.2.2
  obtain ⟨x1, x2, x3, -⟩ := hE
  refine ⟨t', r9, e2, hr9, fun s2 h2 => ?_, x3, w11⟩
  obtain ⟨ra, hra, ca, cb⟩ := comingRule_p h.1.1.rb
  obtain ⟨rb, hrb, cc, cd⟩ := comingRule_p h2.1.rb
  have er1 : nI ra = nI r9 := Option.some.inj (ca.symm.trans hcr)
  have er3 : nI ra = nI rb := Option.some.inj (cb.symm.trans cd)
  rw [cc, ← er3, er1]
end PARTS58
