/-! the law's load: the text into the buffer -/
def pkn (c : Nat → Nat) (q : Nat) : Nat → Nat
  | 0 => 0
  | m + 1 => 256 * pkn c q m + c (q + m)
theorem pkn_lt {c : Nat → Nat} {q : Nat} : ∀ m, (∀ i, i < m → c (q + i) < 256) → pkn c q m < 256 ^ m
  | 0, _ => (show 0 < 1 from Nat.zero_lt_one)
  | m + 1, h => by
    have h1 := pkn_lt (c := c) (q := q) m (fun i hi => h i (by omega))
    have h2 := h m (by omega)
    show 256 * pkn c q m + c (q + m) < 256 ^ (m + 1)
    rw [Nat.pow_succ]
    omega
theorem pkn_byte {c : Nat → Nat} {q : Nat} : ∀ m, (∀ i, i < m → c (q + i) < 256) → ∀ e, pkn c q m / 256 ^ e % 256 = if e < m then c (q + (m - 1 - e)) else 0
  | 0, _, e => by
    rw [if_neg (by omega)]
    show 0 / 256 ^ e % 256 = 0
    rw [Nat.zero_div]
  | m + 1, h, 0 => by
    rw [if_pos (by omega)]
    show (256 * pkn c q m + c (q + m)) / 256 ^ 0 % 256 = c (q + (m + 1 - 1 - 0))
    have := h m (by omega)
    rw [Nat.pow_zero, Nat.div_one, Nat.add_sub_cancel, Nat.sub_zero]
    omega
  | m + 1, h, e + 1 => by
    have ih := pkn_byte (c := c) (q := q) m (fun i hi => h i (by omega)) e
    have hx := h m (by omega)
    show (256 * pkn c q m + c (q + m)) / 256 ^ (e + 1) % 256 = _
    rw [Nat.pow_succ, Nat.mul_comm (256 ^ e) 256, ← Nat.div_div_eq_div_mul, show (256 * pkn c q m + c (q + m)) / 256 = pkn c q m by omega, ih]
    by_cases he : e < m
    · rw [if_pos he, if_pos (by omega), show m + 1 - 1 - (e + 1) = m - 1 - e by omega]
    · rw [if_neg he, if_neg (by omega)]
/-- a word grows by a byte -/
theorem lgrow {W : Int64} {N x : Nat} (h : W.toBitVec.toNat = N) (hN : N < 2 ^ 56) (hx : x < 128) : ((W <<< ((Int32.toInt64 (8 : Int32)) &&& 63)) ||| (Int32.toInt64 (nI x))).toBitVec.toNat = 256 * N + x := by
  have e8 : ((Int32.toInt64 (8 : Int32)) &&& 63 : Int64) = 8 := by decide
  have e1 : (W <<< (8 : Int64)).toBitVec.toNat = 256 * N := by
    have : (W <<< (8 : Int64)).toBitVec = W.toBitVec <<< (8 : Nat) := by
      rw [Int64.toBitVec_shiftLeft]
      rfl
    rw [this, BitVec.toNat_shiftLeft, h, Nat.shiftLeft_eq]
    omega
  have e2 : (Int32.toInt64 (nI x)).toBitVec.toNat = x := by
    have h1 : (Int32.toInt64 (nI x)).toInt = (x : Int) := by rw [Int32.toInt_toInt64, nI_toInt (by omega)]
    have h2 : (Int32.toInt64 (nI x)).toInt = ((Int32.toInt64 (nI x)).toBitVec.toNat : Int).bmod (2 ^ 64) := BitVec.toInt_eq_toNat_bmod _
    have h3 := (Int32.toInt64 (nI x)).toBitVec.isLt
    rw [h1, Int.bmod_def] at h2
    omega
  rw [e8, Int64.toBitVec_or, BitVec.toNat_or, e1, e2]
  have := Nat.shiftLeft_add_eq_or_of_lt (b := x) (i := 8) (by omega) N
  rw [Nat.shiftLeft_eq] at this
  have e3 : 256 * N = N * 2 ^ 8 := by omega
  rw [e3]
  exact this.symm
theorem bx_nat {W : Int64} {N : Nat} (h : W.toBitVec.toNat = N) : ∀ k, k < 8 → bc (bx W k) = N / 256 ^ (7 - k) % 256 := fun k hk => by
  have key : ∀ j : Nat, j < 64 → ∀ v : Int32, ((Int64.toUInt64 (Int32.toInt64 v)) &&& Int64.toUInt64 63) = UInt64.ofNat j → bc (((Int64.toUInt64 W) >>> ((Int64.toUInt64 (Int32.toInt64 v)) &&& Int64.toUInt64 63)).toInt64) = N / 2 ^ j % 256 := fun j hj v hv => by
    unfold bc
    rw [hv]
    show (((Int64.toUInt64 W) >>> UInt64.ofNat j).toBitVec).toNat % 256 = _
    have : (((Int64.toUInt64 W) >>> UInt64.ofNat j).toBitVec).toNat = N / 2 ^ j := by
      show (((Int64.toUInt64 W) >>> UInt64.ofNat j)).toNat = _
      rw [UInt64.toNat_shiftRight]
      have e1 : (Int64.toUInt64 W).toNat = N := h
      have e2 : (UInt64.ofNat j).toNat = j := by
        show (BitVec.ofNat 64 j).toNat = j
        rw [BitVec.toNat_ofNat]
        exact Nat.mod_eq_of_lt (by omega)
      rw [e1, e2, Nat.mod_eq_of_lt hj, Nat.shiftRight_eq_div_pow]
    rw [this]
  unfold bx
  rcases (show k = 0 ∨ k = 1 ∨ k = 2 ∨ k = 3 ∨ k = 4 ∨ k = 5 ∨ k = 6 ∨ k = 7 by omega) with rfl | rfl | rfl | rfl | rfl | rfl | rfl | rfl
  · exact key 56 (by omega) _ (by decide +kernel)
  · exact key 48 (by omega) _ (by decide +kernel)
  · exact key 40 (by omega) _ (by decide +kernel)
  · exact key 32 (by omega) _ (by decide +kernel)
  · exact key 24 (by omega) _ (by decide +kernel)
  · exact key 16 (by omega) _ (by decide +kernel)
  · exact key 8 (by omega) _ (by decide +kernel)
  · exact key 0 (by omega) _ (by decide +kernel)
section PACK
variable {s s' z : st_} {q m L : Nat} {c : Nat → Nat} {W : Int64}
/-- the buffer holds the first q bytes -/
def BF (s s' : st_) (c : Nat → Nat) (q : Nat) : Prop := s' 0 1 = nI q ∧ (∀ j, j < q → s' 1 j = nI (c j)) ∧ (∀ o, 2 ≤ o → s' o = s o) ∧ ∀ j, j ≠ 1 → s' 0 j = s 0 j
theorem append_w (hW : W.toBitVec.toNat = pkn c q m) (hm : m ≤ 8) (hc : ∀ i, i < m → 1 ≤ c (q + i) ∧ c (q + i) < 128) (h : BF s z c q) (hq : q ≤ 490) : wp_ (gX7_append z W) (fun y => BF s y.1 c (q + m)) := by
  have hf : ∀ k, k < 8 → bc (bx W k) = if 7 - k < m then c (q + (m - 1 - (7 - k))) else 0 := fun k hk => by
    rw [bx_nat hW k hk, pkn_byte m (fun i hi => by have := hc i hi; omega)]
  have hcnt : gX7_append_l6 W FU_ ((0 : Int32), (56 : Int32)) = some (nI (cnz (fun k => bc (bx W k)) 8)) := count_c
  have h8 := cnz_k (fun k => bc (bx W k)) 8
  unfold gX7_append
  refine wp_bne hcnt ?_
  unfold gX7_append_k6 gX7_append_x6_33
  rw [h.1, nI_add]
  refine wp_it (nI_le (b := 500) (by omega) (by omega)) ?_
  unfold gX7_append_l52
  refine wp_bn (Q := fun y => BF s y c (q + m)) ?_ (fun y hy => wp_s hy)
  refine wp_up (fun k v => v.1 = shs k ∧ BF s v.2 c (q + (k - (8 - m)))) 0 8 (Nat.zero_le _) (by omega) ⟨rfl, by rw [Nat.zero_sub]; exact h⟩ (fun k v hk _ hv => ?_) (fun v hv => ?_)
  · obtain ⟨v1, y⟩ := v
    obtain ⟨a1, b1, b2, b3, b4⟩ := hv
    dsimp only at a1 b1 b2 b3 b4
    subst a1
    obtain ⟨h1, h2⟩ := shs_c k hk
    obtain ⟨q1, q2, q3⟩ := byte_x (bx W k)
    have ebx : ((Int64.toUInt64 W) >>> ((Int64.toUInt64 (Int32.toInt64 (shs k))) &&& Int64.toUInt64 63)).toInt64 = bx W k := rfl
    have hfk := hf k hk
    show wp_ (gX7_append_b52 W (shs k) y) _
    unfold gX7_append_b52 gX7_append_j103
    rw [ebx]
    refine wp_if' h2 ?_
    by_cases hkm : 7 - k < m
    · rw [if_pos hkm] at hfk
      have hci := hc (m - 1 - (7 - k)) (by omega)
      rw [← hfk] at hci
      have eb : (bx W k).toInt32.toInt8.toInt32 = nI (c (q + (k - (8 - m)))) := by
        rcases q3 with ⟨a, b⟩ | ⟨a, b⟩
        · rw [b, hfk, show m - 1 - (7 - k) = k - (8 - m) by omega]
        · omega
      rw [show m - 1 - (7 - k) = k - (8 - m) by omega] at hfk
      rw [eb, b1]
      generalize hM : q + (k - (8 - m)) = M at b1 b2 hfk
      have ei : ix_ (nI M) = M := ix_n (by omega)
      rw [ei]
      refine wp_if' (fun w => ?_) (wp_if' (show ¬ (500 : Int32) ≤ nI M from nI_ge (b := 500) (by omega) (by omega)) (wp_gd (ib_n (by omega) (by omega)) (wp_bd (wp_bd (wp_l ⟨h1, ?_⟩)))))
      · have := (nI_eq (b := 0) (by omega) (by omega)).mp w
        omega
      · dsimp only
        have en : nb_ (nI (c M)) = nI (c M) := by
          have e := eb
          rw [hM] at e
          rw [← e]
          unfold nb_
          rw [pk_vb]
        rw [en]
        refine ⟨?_, fun j hj => ?_, fun o ho => ?_, fun j hj => ?_⟩
        · rw [pt_a, pt_oo (by decide), b1, nI_1]
          congr 1
          omega
        · rw [pt_oo (by decide)]
          by_cases hjM : j = M
          · subst hjM
            rw [pt_a]
          · rw [pt_r hjM]
            exact b2 j (by omega)
        · rw [pt_o (by omega), pt_o (by omega)]
          exact b3 o ho
        · rw [pt_r hj, pt_oo (by decide)]
          exact b4 j hj
    · rw [if_neg hkm] at hfk
      have eb : (bx W k).toInt32.toInt8.toInt32 = 0 := by
        rcases q3 with ⟨a, b⟩ | ⟨a, b⟩
        · rw [b, hfk]
          rfl
        · omega
      refine wp_it eb (wp_l ⟨h1, ?_⟩)
      rw [show q + (k + 1 - (8 - m)) = q + (k - (8 - m)) by omega]
      exact ⟨b1, b2, b3, b4⟩
  · obtain ⟨v1, y⟩ := v
    obtain ⟨a1, hb⟩ := hv
    dsimp only at a1 hb
    subst a1
    show wp_ (gX7_append_b52 W (shs 8) y) _
    unfold gX7_append_b52
    rw [show q + (8 - (8 - m)) = q + m by omega] at hb
    exact wp_it (by decide) (wp_r hb)
/-- the text goes into the buffer -/
theorem pack_w {ww : List Int32} (hL : ww.length = L) (hL2 : L ≤ 480) (hc : ∀ j, j < L → ww.getD j 0 = nI (c j) ∧ 1 ≤ c j ∧ c j < 128) (h0 : BF s s c 0) : wp_ (fL_load_l5 ww FU_ ((0 : Int64), (0 : Int32), s)) (fun y => BF s y c L) := by
  unfold fL_load_l5
  refine wp_up (fun k v => v.2.1 = nI k ∧ (k < L → v.1.toBitVec.toNat = pkn c (k / 8 * 8) (k % 8) ∧ BF s v.2.2 c (k / 8 * 8)) ∧ (k = L → BF s v.2.2 c L)) 0 L (Nat.zero_le _) (by omega) ⟨rfl, fun _ => ⟨rfl, h0⟩, fun e => by rw [← e]; exact h0⟩ (fun k v hk _ hv => ?_) (fun v hv => ?_)
  · obtain ⟨v1, v2, y⟩ := v
    obtain ⟨a2, b, -⟩ := hv
    dsimp only at a2 b
    obtain ⟨b1, b2⟩ := b hk
    subst a2
    obtain ⟨c1, c2, c3⟩ := hc k hk
    have ei : ix_ (nI k) = k := ix_n (by omega)
    have hb : pkn c (k / 8 * 8) (k % 8) < 256 ^ (k % 8) := pkn_lt _ (fun i hi => by have := (hc (k / 8 * 8 + i) (by omega)).2.2; omega)
    have hb2 : 256 ^ (k % 8) ≤ 256 ^ 7 := Nat.pow_le_pow_right (by omega) (by omega)
    have eg := lgrow (x := c k) b1 (by have : (256 : Nat) ^ 7 = 2 ^ 56 := by decide
                                       omega) c3
    rw [← c1] at eg
    have ep : 256 * pkn c (k / 8 * 8) (k % 8) + c k = pkn c (k / 8 * 8) (k % 8 + 1) := by
      show _ = 256 * pkn c (k / 8 * 8) (k % 8) + c (k / 8 * 8 + k % 8)
      rw [show k / 8 * 8 + k % 8 = k by omega]
    rw [ep] at eg
    show wp_ (fL_load_b5 ww v1 (nI k) y) _
    unfold fL_load_b5
    rw [hL, ei]
    refine wp_if' (nI_ge hk (by omega)) (wp_gd (ib_n hk (by omega)) ?_)
    rw [show nI k - nI k / (8 : Int32) * (8 : Int32) = nI (k % 8) from pk_rem (d := 8) (by omega) (by omega) (by omega)]
    have f51 : (k % 8 = 7 ∨ k + 1 = L) → wp_ (fL_load_j51 ww v1 (nI k) y) (Sum.elim (fun w => w.2.1 = nI (k + 1) ∧ (k + 1 < L → w.1.toBitVec.toNat = pkn c ((k + 1) / 8 * 8) ((k + 1) % 8) ∧ BF s w.2.2 c ((k + 1) / 8 * 8)) ∧ (k + 1 = L → BF s w.2.2 c L)) (fun y => BF s y c L)) := fun hor => by
      unfold fL_load_j51 fL_load_j59
      rw [ei]
      refine wp_bn (append_w eg (by omega) (fun i hi => (hc _ (by omega)).2) b2 (by omega)) (fun r hr => wp_l ⟨nI_1 k, fun hk1 => ?_, fun hk1 => ?_⟩)
      · have h7 : k % 8 = 7 := by omega
        rw [show (k + 1) % 8 = 0 by omega, show (k + 1) / 8 * 8 = k / 8 * 8 + (k % 8 + 1) by omega]
        exact ⟨rfl, hr⟩
      · rw [← hk1, show k + 1 = k / 8 * 8 + (k % 8 + 1) by omega]
        exact hr
    by_cases h7 : k % 8 = 7
    · exact wp_it (by rw [h7]; rfl) (f51 (Or.inl h7))
    · refine wp_if' (fun w => h7 ((nI_eq (b := 7) (by omega) (by omega)).mp w)) ?_
      rw [show nI L - (1 : Int32) = nI (L - 1) from pk_sub (b := 1) (by omega)]
      by_cases hl : k + 1 = L
      · exact wp_it (by rw [show k = L - 1 by omega]) (f51 (Or.inr hl))
      · refine wp_if' (fun w => hl (by have := (nI_eq (by omega) (by omega)).mp w; omega)) ?_
        unfold fL_load_j59
        refine wp_l ⟨nI_1 k, fun hk1 => ?_, fun hk1 => absurd hk1 hl⟩
        rw [show (k + 1) % 8 = k % 8 + 1 by omega, show (k + 1) / 8 * 8 = k / 8 * 8 by omega]
        exact ⟨eg, b2⟩
  · obtain ⟨v1, v2, y⟩ := v
    obtain ⟨a2, -, b⟩ := hv
    dsimp only at a2 b
    subst a2
    show wp_ (fL_load_b5 ww v1 (nI L) y) _
    unfold fL_load_b5
    rw [hL]
    exact wp_it (Int32.le_refl _) (wp_r (b rfl))
end PACK
