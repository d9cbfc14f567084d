/-! append -/
def bc (x : Int64) : Nat := x.toBitVec.toNat % 256
theorem byte_x (x : Int64) : bc x < 256 ∧ x &&& 255 = lN (bc x) ∧ ((bc x < 128 ∧ x.toInt32.toInt8.toInt32 = nI (bc x)) ∨ (128 ≤ bc x ∧ x.toInt32.toInt8.toInt32 < 0)) := by
  have hc : bc x < 256 := Nat.mod_lt _ (by omega)
  refine ⟨hc, ?_, ?_⟩
  · apply Int64.toBitVec_inj.mp
    apply BitVec.eq_of_toNat_eq
    have e1 : (x &&& 255).toBitVec = x.toBitVec &&& (255 : Int64).toBitVec := Int64.toBitVec_and _ _
    have e2 : (lN (bc x)).toBitVec.toNat = bc x := by
      show (BitVec.ofNat 64 (bc x)).toNat = bc x
      rw [BitVec.toNat_ofNat]
      exact Nat.mod_eq_of_lt (Nat.lt_trans hc (by decide))
    have e3 : ((255 : Int64).toBitVec).toNat = 2 ^ 8 - 1 := by decide
    rw [e1, e2, BitVec.toNat_and, e3, Nat.and_two_pow_sub_one_eq_mod]
    rfl
  · have h1 : (x.toInt32.toInt8.toInt32).toInt = ((x.toBitVec.toNat : Int)).bmod 256 := by
      rw [Int64.toInt8_toInt32, Int8.toInt_toInt32, Int64.toInt_toInt8]
      have e : x.toInt = ((x.toBitVec.toNat : Int)).bmod (2 ^ 64) := BitVec.toInt_eq_toNat_bmod _
      rw [e]
      exact Int.bmod_bmod_of_dvd (by decide)
    have h2 : ((x.toBitVec.toNat : Int)) % 256 = (bc x : Int) := by
      unfold bc
      omega
    rw [Int.bmod_def] at h1
    by_cases h : bc x < 128
    · refine Or.inl ⟨h, Int32.toInt_inj.mp ?_⟩
      rw [h1, nI_toInt (by omega), if_pos (by omega)]
      exact h2
    · refine Or.inr ⟨by omega, ?_⟩
      rw [Int32.lt_iff_toInt_lt, h1, if_neg (by omega)]
      have h0 : (0 : Int32).toInt = 0 := by decide
      omega
def shs (k : Nat) : Int32 := match k with
  | 0 => 56
  | 1 => 48
  | 2 => 40
  | 3 => 32
  | 4 => 24
  | 5 => 16
  | 6 => 8
  | 7 => 0
  | _ => -8
theorem shs_c : ∀ k, k < 8 → shs k + (-8 : Int32) = shs (k + 1) ∧ ¬ shs k < 0 := by decide +kernel
def cnz (f : Nat → Nat) : Nat → Nat
  | 0 => 0
  | k + 1 => if f k = 0 then cnz f k else cnz f k + 1
theorem cnz_s (f : Nat → Nat) (k : Nat) : cnz f k ≤ cnz f (k + 1) ∧ cnz f (k + 1) ≤ cnz f k + 1 := by
  show cnz f k ≤ (if f k = 0 then cnz f k else cnz f k + 1) ∧ (if f k = 0 then cnz f k else cnz f k + 1) ≤ cnz f k + 1
  split <;> omega
theorem cnz_k (f : Nat → Nat) : ∀ k, cnz f k ≤ k
  | 0 => Nat.le_refl _
  | k + 1 => Nat.le_trans (cnz_s f k).2 (Nat.succ_le_succ (cnz_k f k))
theorem cnz_m (f : Nat → Nat) (k : Nat) : ∀ j, cnz f k ≤ cnz f (k + j)
  | 0 => Nat.le_refl _
  | j + 1 => Nat.le_trans (cnz_m f k j) (cnz_s f (k + j)).1
theorem cnz_le {f : Nat → Nat} (k j : Nat) : cnz f k ≤ cnz f (k + j) ∧ cnz f k ≤ k := ⟨cnz_m f k j, cnz_k f k⟩
section APPEND
variable {s s' t t' : st_} {C R K T n L k : Nat} {x : Int32} {ch : Nat → Nat} {i0 : Int64}
def bx (i0 : Int64) (k : Nat) : Int64 := ((Int64.toUInt64 i0) >>> ((Int64.toUInt64 (Int32.toInt64 (shs k))) &&& Int64.toUInt64 63)).toInt64
theorem count_c : fX7_append_l6 i0 FU_ ((0 : Int32), (56 : Int32)) = some (nI (cnz (fun k => bc (bx i0 k)) 8)) := by
  suffices hh : wp_ (fX7_append_l6 i0 FU_ ((0 : Int32), (56 : Int32))) (fun x => x = nI (cnz (fun k => bc (bx i0 k)) 8)) by
    obtain ⟨x, e, rfl⟩ := hh
    exact e
  unfold fX7_append_l6
  refine wp_up (fun k v => v.1 = nI (cnz (fun k => bc (bx i0 k)) k) ∧ v.2 = shs k) 0 8 (Nat.zero_le _) (by omega) ⟨rfl, rfl⟩ (fun k v hk _ hv => ?_) (fun v hv => ?_)
  · obtain ⟨v1, v2⟩ := v
    obtain ⟨a, b⟩ := hv
    dsimp only at a b
    subst a b
    obtain ⟨h1, h2⟩ := shs_c k hk
    obtain ⟨q1, q2, q3⟩ := byte_x (bx i0 k)
    unfold fX7_append_b6 fX7_append_j27
    dsimp only
    refine wp_if' h2 ?_
    show wp_ (if lg_cmp (bx i0 k &&& 255) 0 = 0 then _ else _) _
    rw [q2]
    have hz : lg_cmp (lN (bc (bx i0 k))) 0 = 0 ↔ bc (bx i0 k) = 0 := by
      rw [lg_cmp_eq]
      exact lN_eq (b := 0) (by omega) (by omega)
    refine wp_if (fun hc => wp_l ⟨?_, h1⟩) (fun hc => wp_l ⟨?_, h1⟩)
    · dsimp only
      rw [cnz, if_pos (hz.mp hc)]
    · dsimp only
      rw [cnz, if_neg (fun z => hc (hz.mpr z)), nI_1]
  · obtain ⟨v1, v2⟩ := v
    obtain ⟨a, b⟩ := hv
    dsimp only at a b
    subst a b
    unfold fX7_append_b6
    dsimp only
    exact wp_it (by decide) (wp_r rfl)
theorem count_m : fX8_append_l11 i0 FU_ ((0 : Int32), (56 : Int32)) = some (nI (cnz (fun k => bc (bx i0 k)) 8)) := by
  suffices hh : wp_ (fX8_append_l11 i0 FU_ ((0 : Int32), (56 : Int32))) (fun x => x = nI (cnz (fun k => bc (bx i0 k)) 8)) by
    obtain ⟨x, e, rfl⟩ := hh
    exact e
  unfold fX8_append_l11
  refine wp_up (fun k v => v.1 = nI (cnz (fun k => bc (bx i0 k)) k) ∧ v.2 = shs k) 0 8 (Nat.zero_le _) (by omega) ⟨rfl, rfl⟩ (fun k v hk _ hv => ?_) (fun v hv => ?_)
  · obtain ⟨v1, v2⟩ := v
    obtain ⟨a, b⟩ := hv
    dsimp only at a b
    subst a b
    obtain ⟨h1, h2⟩ := shs_c k hk
    obtain ⟨q1, q2, q3⟩ := byte_x (bx i0 k)
    unfold fX8_append_b11 fX8_append_j35
    dsimp only
    refine wp_if' h2 ?_
    show wp_ (if lg_cmp (bx i0 k &&& 255) 0 = 0 then _ else _) _
    rw [q2]
    have hz : lg_cmp (lN (bc (bx i0 k))) 0 = 0 ↔ bc (bx i0 k) = 0 := by
      rw [lg_cmp_eq]
      exact lN_eq (b := 0) (by omega) (by omega)
    refine wp_if (fun hc => wp_l ⟨?_, h1⟩) (fun hc => wp_l ⟨?_, h1⟩)
    · dsimp only
      rw [cnz, if_pos (hz.mp hc), Int32.add_zero]
    · dsimp only
      rw [cnz, if_neg (fun z => hc (hz.mpr z)), nI_1]
  · obtain ⟨v1, v2⟩ := v
    obtain ⟨a, b⟩ := hv
    dsimp only at a b
    subst a b
    unfold fX8_append_b11
    dsimp only
    exact wp_it (by decide) (wp_r rfl)
/-- both buffers, and what lies about them -/
def BB (s t s' t' : st_) (L : Nat) : Prop := (∃ ch : Nat → Nat, s' 0 1 = nI L ∧ t' 0 8 = nI L ∧ ∀ j, j < L → (ch j < 256 ∧ t' 7 j = nI (ch j)) ∧ ((ch j < 128 ∧ s' 1 j = nI (ch j)) ∨ (128 ≤ ch j ∧ s' 1 j < 0))) ∧ ((∀ o, 2 ≤ o → s' o = s o) ∧ ∀ j, j ≠ 1 → s' 0 j = s 0 j) ∧ (∀ o, o ≠ 0 → o ≠ 7 → t' o = t o) ∧ ∀ j, j ≠ 8 → t' 0 j = t 0 j
theorem fill_p {s0 t0 : st_} {f : Nat → Nat} (hf : f = fun k => bc (bx i0 k)) (h : BB s0 t0 s t L) (hL : L + cnz f 8 ≤ 500) : ∃ s' t', fX7_append_l52 i0 FU_ ((56 : Int32), s) = some s' ∧ fX8_append_l62 i0 FU_ ((56 : Int32), t) = some t' ∧ BB s0 t0 s' t' (L + cnz f 8) := by
  refine up_pair (f := fun v => fX7_append_b52 i0 v.1 v.2) (g := fun v => fX8_append_b62 i0 v.1 v.2) (fun k v u => v.1 = shs k ∧ u.1 = shs k ∧ BB s0 t0 v.2 u.2 (L + cnz f k)) (fun b d => BB s0 t0 b d (L + cnz f 8)) 0 8 (Nat.zero_le _) (by omega) (v := ((56 : Int32), s)) (u := ((56 : Int32), t)) ⟨rfl, rfl, h⟩ (fun k v u hk _ hJ => ?_) (fun v u hJ => ?_)
  · obtain ⟨v1, z⟩ := v
    obtain ⟨u1, y⟩ := u
    obtain ⟨a1, a2, ⟨ch, b1, b2, b3⟩, ⟨b4, b5⟩, b6, b7⟩ := hJ
    dsimp only at a1 a2 b1 b2 b3 b4 b5 b6 b7
    subst a1 a2
    obtain ⟨h1, h2⟩ := shs_c k hk
    obtain ⟨q1, q2, q3⟩ := byte_x (bx i0 k)
    have efk : f k = bc (bx i0 k) := by rw [hf]
    have hmono := (cnz_le (f := f) (k + 1) (7 - k)).1
    rw [show k + 1 + (7 - k) = 8 by omega] at hmono
    have em : (bx i0 k &&& 255).toInt32 = nI (f k) := by rw [q2, lN_i, efk]
    have ec0 : (bx i0 k).toInt32.toInt8.toInt32 = 0 ↔ f k = 0 := by
      rw [efk]
      rcases q3 with ⟨a, b⟩ | ⟨a, b⟩
      · rw [b]
        exact nI_eq (b := 0) (by omega) (by omega)
      · exact ⟨fun z => by rw [z] at b; exact absurd b (by decide), fun z => absurd z (by omega)⟩
    have ebx : ((Int64.toUInt64 i0) >>> ((Int64.toUInt64 (Int32.toInt64 (shs k))) &&& Int64.toUInt64 63)).toInt64 = bx i0 k := rfl
    by_cases h0 : f k = 0
    · refine ⟨(shs (k + 1), z), (shs (k + 1), y), ?_, ?_, rfl, rfl, ?_⟩
      · unfold fX7_append_b52 fX7_append_j103
        dsimp only
        rw [if_neg h2, ebx, if_pos (show (bx i0 k).toInt32.toInt8.toInt32 = 0 from ec0.mpr h0), h1]
      · unfold fX8_append_b62 fX8_append_j107
        dsimp only
        rw [if_neg h2, ebx, if_pos (show (bx i0 k &&& 255).toInt32 = 0 by rw [em, h0]; rfl), h1]
      · dsimp only
        rw [show cnz f (k + 1) = cnz f k by rw [cnz, if_pos h0]]
        exact ⟨⟨ch, b1, b2, b3⟩, ⟨b4, b5⟩, b6, b7⟩
    · have ecn : cnz f (k + 1) = cnz f k + 1 := by rw [cnz, if_neg h0]
      have hlt : L + cnz f k < 500 := by omega
      generalize hM : L + cnz f k = M at b1 b2 b3 hlt
      have ei : ix_ (nI M) = M := ix_n (by omega)
      refine ⟨(shs (k + 1), pt_ (pt_ z 1 M ((bx i0 k).toInt32.toInt8.toInt32)) 0 1 (nI (M + 1))), (shs (k + 1), pt_ (pt_ y 7 M (nI (f k))) 0 8 (nI (M + 1))), ?_, ?_, rfl, rfl, ⟨fun j => if j = M then f k else ch j, ?_, ?_, fun j hj => ?_⟩, ⟨fun o ho => ?_, fun j hj => ?_⟩, fun o ho ho2 => ?_, fun j hj => ?_⟩
      · unfold fX7_append_b52 fX7_append_j103
        dsimp only
        rw [if_neg h2, ebx, if_neg (show ¬ (bx i0 k).toInt32.toInt8.toInt32 = 0 from fun w => h0 (ec0.mp w)), if_neg (show ¬ (500 : Int32) ≤ z 0 1 by rw [b1]; exact nI_ge (b := 500) hlt (by omega)), b1, gd_t (ib_n hlt (by omega)), bd_e, ei, pt_oo (by decide), b1, bd_e, nI_1, h1]
        unfold nb_
        rw [pk_vb]
      · unfold fX8_append_b62 fX8_append_j107
        dsimp only
        rw [if_neg h2, ebx, if_neg (show ¬ (bx i0 k &&& 255).toInt32 = 0 by rw [em]; exact fun w => h0 ((nI_eq (b := 0) (by omega) (by omega)).mp w)), b2, gd_t (ib_n hlt (by omega)), bd_e, ei, pt_oo (by decide), b2, bd_e, nI_1, h1, ← em]
      · dsimp only
        rw [pt_a, ecn, ← Nat.add_assoc, hM]
      · dsimp only
        rw [pt_a, ecn, ← Nat.add_assoc, hM]
      · dsimp only
        by_cases hjM : j = M
        · subst hjM
          rw [if_pos rfl, pt_oo (by decide), pt_a, pt_oo (by decide), pt_a, efk]
          exact ⟨⟨q1, rfl⟩, q3⟩
        · rw [if_neg hjM, pt_oo (by decide), pt_r hjM, pt_oo (by decide), pt_r hjM]
          exact b3 j (by omega)
      · dsimp only
        rw [pt_o (by omega), pt_o (by omega)]
        exact b4 o ho
      · dsimp only
        rw [pt_r hj, pt_oo (by decide)]
        exact b5 j hj
      · dsimp only
        rw [pt_o ho, pt_o ho2]
        exact b6 o ho ho2
      · dsimp only
        rw [pt_r hj, pt_oo (by decide)]
        exact b7 j hj
  · obtain ⟨v1, z⟩ := v
    obtain ⟨u1, y⟩ := u
    obtain ⟨a1, a2, hb⟩ := hJ
    dsimp only at a1 a2 hb
    subst a1 a2
    refine ⟨z, y, ?_, ?_, hb⟩
    · unfold fX7_append_b52
      dsimp only
      rw [if_pos (by decide)]
    · unfold fX8_append_b62
      dsimp only
      rw [if_pos (by decide)]
theorem append_p (h : FF s t) (i0 : Int64) : ∃ s' t' y, fX7_append s i0 = some (s', y) ∧ fX8_append t i0 = some (t', y) ∧ FF s' t' ∧ ∀ o, 4 ≤ o → o < 7 → t' o = t o := by
  obtain ⟨hG, hz, ⟨ch, L, b1, ⟨b2, b3, b4⟩, b5⟩, hf⟩ := h
  generalize hff : (fun k => bc (bx i0 k)) = f
  have hn8 := (cnz_le (f := f) 8 0).2
  unfold fX7_append fX8_append
  rw [bd_e, bn_e count_c, bn_e count_m, hff]
  unfold fX7_append_k6 fX7_append_x6_33 fX8_append_k11 fX8_append_x11_43
  rw [b1, pt_r (show (8 : Nat) ≠ 6 by decide), b3, nI_add]
  obtain ⟨C, R, n, T, hH⟩ := hG
  by_cases hc : L + cnz f 8 ≤ 500
  · rw [if_pos (show nI (L + cnz f 8) ≤ (500 : Int32) from nI_le (b := 500) hc (by omega)), if_pos (show nI (L + cnz f 8) ≤ (500 : Int32) from nI_le (b := 500) hc (by omega))]
    obtain ⟨s', t', e1, e2, ⟨ch', c1, c2, c3⟩, ⟨c4, c5⟩, c6, c7⟩ := fill_p (i0 := i0) (s0 := s) (t0 := pt_ t 0 6 0) (s := s) (t := pt_ t 0 6 0) (L := L) hff.symm ⟨⟨ch, b1, by rw [pt_r (by decide)]; exact b3, fun j hj => ⟨by rw [pt_oo (by decide)]; exact b4 j hj, b5 j hj⟩⟩, ⟨fun _ _ => rfl, fun _ _ => rfl⟩, fun _ _ _ => rfl, fun _ _ => rfl⟩ hc
    rw [bn_e e1, bn_e e2]
    unfold fX7_append_k52 fX7_append_x52_109 fX8_append_k62 fX8_append_x62_113
    rw [c1, c2]
    refine ⟨s', t', _, rfl, rfl, ⟨⟨C, R, n, T, hH.ci (fun o a _ _ _ => c4 o (by omega)) (fun j _ => by rw [c6 1 (by decide) (by decide), pt_o (by decide)])⟩, fun m hm => ?_, ⟨ch', _, c1, ⟨hc, c2, fun j hj => (c3 j hj).1⟩, fun j hj => (c3 j hj).2⟩, ?_⟩, fun o a b => ?_⟩
    · rw [sb_ap, c4 _ (by omega)]
      exact hz m hm
    · rw [c5 2 (by decide), c7 13 (by decide), pt_r (by decide)]
      exact hf
    · rw [c6 o (by omega) (by omega), pt_o (by omega)]
  · rw [if_neg (show ¬ nI (L + cnz f 8) ≤ (500 : Int32) from nI_ge (a := 500) (by omega) (by omega)), if_neg (show ¬ nI (L + cnz f 8) ≤ (500 : Int32) from nI_ge (a := 500) (by omega) (by omega))]
    refine ⟨s, _, _, rfl, rfl, ⟨⟨C, R, n, T, hH.t6⟩, hz, ⟨ch, L, b1, ⟨b2, by rw [pt_r (by decide)]; exact b3, fun j hj => by rw [pt_oo (by decide)]; exact b4 j hj⟩, b5⟩, ?_⟩, fun o a b => pt_o (by omega)⟩
    rw [pt_r (by decide)]
    exact hf
end APPEND
