/-! the law's text, statement after statement -/
/-- the reader's loop ends well -/
def GG (C Rf i : Nat) (s : st_) : Prop := ∃ d, (∀ n, 600 ≤ n + i → it_ (fun v => fX3_readText_b48 v.1 v.2) n (nI i, s) = some d) ∧ d 1 5 = 0 ∧ (∃ w K, FD 0 (sb_ d 2) w C Rf K) ∧ ∃ b : Nat, b < 100000 ∧ d 2 17 = nI b
section CHAIN
variable {xs W Y Z : List Int32} {p q C R K k v a b r i : Nat} {s s' s1 s2 s3 t : st_}
theorem GG.step (h : GG C R (i + 1) s2) (e1 : fX3_hasMore s = some (s1, 1)) (e2 : fX3_readStatement s1 = some s2) (hi : i < 499) : GG C R i s := by
  obtain ⟨d, h1, h2⟩ := h
  refine ⟨d, fun n hn => ?_, h2⟩
  obtain ⟨m, rfl⟩ : ∃ m, n = m + 1 := ⟨n - 1, by omega⟩
  have e : fX3_readText_b48 (nI i) s = some (.inl (nI (i + 1), s2)) := by
    unfold fX3_readText_b48
    rw [if_neg (show ¬ (500 : Int32) ≤ nI i from nI_ge (b := 500) (by omega) (by omega)), bn_e e1, if_neg (show ¬ (1 : Int32) = 0 by decide), bn_e e2, nI_1]
  rw [it_]
  dsimp only
  rw [e]
  exact h1 m (by omega)
theorem GG.end (h : PS_ s xs [] C R K) (hi : i < 499) (hb : b < 100000) (h17 : s 2 17 = nI b) : GG C R i s := by
  obtain ⟨t, p, hJ, hd⟩ := h
  obtain ⟨hB, hF⟩ := hJ
  have hp := hB.2.2.1
  have hl := drop_len hd hp
  have hl : p = xs.length := by
    rw [List.length_nil] at hl
    omega
  have et : tq (tch_ xs) xs.length p = p := rE_i hp (fun z => by omega)
  obtain ⟨s1, x, e1, hfr, hx⟩ := hasMore_p hB
  rw [et] at hx
  rcases hx with ⟨hx, -⟩ | ⟨hx, -⟩ | ⟨-, hx, h5⟩
  · omega
  · omega
  · subst hx
    refine ⟨s1, fun n hn => ?_, h5, ⟨t 3, K, ?_⟩, b, hb, by rw [hfr.1 2 (by decide)]; exact h17⟩
    · obtain ⟨m, rfl⟩ : ∃ m, n = m + 1 := ⟨n - 1, by omega⟩
      have e : fX3_readText_b48 (nI i) s = some (.inr s1) := by
        unfold fX3_readText_b48
        rw [if_neg (show ¬ (500 : Int32) ≤ nI i from nI_ge (b := 500) (by omega) (by omega)), bn_e e1, if_pos rfl]
      rw [it_]
      dsimp only
      rw [e]
    · exact hF.fr (t' := t) hfr rfl
/-- one more statement, well read -/
def SX (s : st_) (xs Y : List Int32) (C R K : Nat) : Prop := ∃ s1 s3, fX3_hasMore s = some (s1, 1) ∧ fX3_readStatement s1 = some s3 ∧ PS_ s3 xs Y C R K
theorem SX.gg {Rf : Nat} (h : SX s xs Y C R K) (hi : i < 499) (k : ∀ s3, PS_ s3 xs Y C R K → GG C Rf (i + 1) s3) : GG C Rf i s := by
  obtain ⟨s1, s3, e1, e2, hP⟩ := h
  exact (k s3 hP).step e1 e2 hi
theorem gMaster (ht : txk_ xs) (h : PS_ s xs (sb_y 51 ++ (kd_ v R ++ Y)) C R K) (hR : 0 < R) (hY : stp_ Y) : SX s xs Y C R K := by
  have hm := Nat.mod_lt v hR
  unfold kd_ at h
  by_cases h0 : v % 3 = 0
  · rw [if_pos h0] at h
    exact L_master (v := 0) (W := sb_y 22) ht h rfl (by omega) hY
  · rw [if_neg h0] at h
    by_cases h1 : v % 3 = 1
    · rw [if_pos h1] at h
      exact L_master (v := 1) (W := sb_y 23) ht h rfl (by omega) hY
    · rw [if_neg h1, List.append_assoc] at h
      exact L_masterK ht h hY hm
theorem gRival (ht : txk_ xs) (h : PS_ s xs (sb_y 58 ++ (kd_ v R ++ Y)) C R K) (hR : 0 < R) (hY : stp_ Y) : SX s xs Y C R K := by
  have hm := Nat.mod_lt v hR
  unfold kd_ at h
  by_cases h0 : v % 3 = 0
  · rw [if_pos h0] at h
    exact L_rival (v := 0) (W := sb_y 22) ht h rfl (by omega) hY
  · rw [if_neg h0] at h
    by_cases h1 : v % 3 = 1
    · rw [if_pos h1] at h
      exact L_rival (v := 1) (W := sb_y 23) ht h rfl (by omega) hY
    · rw [if_neg h1, List.append_assoc] at h
      exact L_rivalK ht h hY hm
theorem gKind {n : Nat} {f : Nat → Int32} {j : Nat} (hj : j < 5) (ht : txk_ xs) (h : PS_ s xs (sb_y 50 ++ (knd_ n f j ++ Y)) C R K) (hR : R < 6) (hY : stp_ Y) : SX s xs Y C (R + 1) K := by
  have hm := Nat.mod_lt (cl_ n f 1) (show 0 < 20 by omega)
  unfold knd_ at h
  by_cases h0 : j = 0
  · rw [if_pos h0] at h
    exact L_rule (v := 0) (W := sb_y 16) ht h rfl (by omega) hY hR
  rw [if_neg h0] at h
  by_cases h1 : j = 1
  · rw [if_pos h1] at h
    exact L_rule (v := 1) (W := sb_y 17) ht h rfl (by omega) hY hR
  rw [if_neg h1] at h
  by_cases h2 : j = 2
  · rw [if_pos h2] at h
    exact L_rule (v := 2) (W := sb_y 18) ht h rfl (by omega) hY hR
  rw [if_neg h2] at h
  by_cases h3 : j = 3
  · rw [if_pos h3] at h
    exact L_rule (v := 3) (W := sb_y 19) ht h rfl (by omega) hY hR
  rw [if_neg h3, List.append_assoc] at h
  exact L_band ht h hY (by omega) hR
theorem gFoe {j : Nat} (hj : j < 6) (ht : txk_ xs) (h : PS_ s xs (sb_y 56 ++ (foe_ j ++ Y)) C R K) (hY : stp_ Y) : SX s xs Y C R K := by
  unfold foe_ at h
  by_cases h0 : j = 0
  · rw [if_pos h0] at h
    exact L_foe (v := 0) (W := sb_y 29) ht h rfl hY
  rw [if_neg h0] at h
  by_cases h1 : j = 1
  · rw [if_pos h1] at h
    exact L_foe (v := 1) (W := sb_y 30) ht h rfl hY
  rw [if_neg h1] at h
  by_cases h2 : j = 2
  · rw [if_pos h2] at h
    exact L_foe (v := 2) (W := sb_y 31) ht h rfl hY
  rw [if_neg h2] at h
  by_cases h3 : j = 3
  · rw [if_pos h3] at h
    exact L_foe (v := 3) (W := sb_y 32) ht h rfl hY
  rw [if_neg h3] at h
  by_cases h4 : j = 4
  · rw [if_pos h4] at h
    exact L_foe (v := 4) (W := sb_y 33) ht h rfl hY
  rw [if_neg h4] at h
  exact L_foe (v := 5) (W := sb_y 34) ht h rfl hY
/-- what is left of the text, from its end -/
def z7_ (n : Nat) (f : Nat → Int32) : List Int32 := sb_y 60 ++ (dg_ (cl_ n f 23 % 300) ++ (32 :: (dg_ (cl_ n f 24 % 60) ++ [])))
def z6_ (n : Nat) (f : Nat → Int32) : List Int32 := if cl_ n f 22 % 3 = 0 then sb_y 59 ++ (dg_ (cl_ n f 22 % 9) ++ z7_ n f) else z7_ n f
def z5_ (n : Nat) (f : Nat → Int32) (r : Nat) : List Int32 := if cl_ n f 20 % 2 = 0 then sb_y 58 ++ (kd_ (cl_ n f 21) r ++ z6_ n f) else z6_ n f
def z4_ (n : Nat) (f : Nat → Int32) (cy r : Nat) : Nat → Nat → List Int32
  | _, 0 => z5_ n f r
  | k, d + 1 => sb_y 57 ++ (dg_ (cl_ n f (15 + k) % cy) ++ z4_ n f cy r (k + 1) d)
def z3_ (n : Nat) (f : Nat → Int32) (cy r : Nat) : List Int32 := sb_y 51 ++ (kd_ (cl_ n f 10) r ++ (sb_y 55 ++ (dg_ (1 + cl_ n f 11 % 500) ++ (32 :: (dg_ (cl_ n f 12 % 32768) ++ (sb_y 56 ++ (foe_ (cl_ n f 13 % 6) ++ z4_ n f cy r 0 (cl_ n f 14 % 5))))))))
def z2_ (n : Nat) (f : Nat → Int32) (cy r : Nat) : Nat → Nat → List Int32
  | _, 0 => z3_ n f cy r
  | k, d + 1 => sb_y 50 ++ (knd_ n f (cl_ n f (5 + k) % 5) ++ z2_ n f cy r (k + 1) d)
def z1_ (n : Nat) (f : Nat → Int32) (cy r : Nat) : List Int32 := sb_y 49 ++ (dg_ (cl_ n f 3 % 20) ++ (32 :: (dg_ (1 + cl_ n f 4 % 9) ++ z2_ n f cy r 0 r)))
variable {n : Nat} {f : Nat → Int32} {cy : Nat}
theorem stp_z7 : stp_ (z7_ n f) := stp_59
theorem stp_z6 : stp_ (z6_ n f) := by
  unfold z6_
  split
  · exact stp_59
  · exact stp_z7
theorem stp_z5 : stp_ (z5_ n f r) := by
  unfold z5_
  split
  · exact stp_59
  · exact stp_z6
theorem stp_z4 : ∀ d k, stp_ (z4_ n f cy r k d)
  | 0, k => stp_z5
  | d + 1, k => stp_59
theorem stp_z2 : ∀ d k, stp_ (z2_ n f cy r k d)
  | 0, k => stp_59
  | d + 1, k => stp_59
theorem g7 (ht : txk_ xs) (h : PS_ s xs (z7_ n f) C R K) (hi : i < 400) : GG C R i s := by
  have h1 := Nat.mod_lt (cl_ n f 23) (show 0 < 300 by omega)
  have h2 := Nat.mod_lt (cl_ n f 24) (show 0 < 60 by omega)
  obtain ⟨s1, s3, e1, e2, hP, h17⟩ := L_bound ht h stp_0 (by omega) (by omega)
  exact (GG.end hP (by omega) (by omega) h17).step e1 e2 (by omega)
theorem g6 (ht : txk_ xs) (h : PS_ s xs (z6_ n f) C R K) (hi : i < 399) : GG C R i s := by
  unfold z6_ at h
  by_cases h0 : cl_ n f 22 % 3 = 0
  · rw [if_pos h0] at h
    have h1 := Nat.mod_lt (cl_ n f 22) (show 0 < 9 by omega)
    exact SX.gg (L_budget ht h stp_z7 (by omega)) (by omega) (fun s3 h3 => g7 ht h3 (by omega))
  · rw [if_neg h0] at h
    exact g7 ht h (by omega)
theorem g5 (ht : txk_ xs) (h : PS_ s xs (z5_ n f R) C R K) (hR : 0 < R) (hi : i < 398) : GG C R i s := by
  unfold z5_ at h
  by_cases h0 : cl_ n f 20 % 2 = 0
  · rw [if_pos h0] at h
    exact (gRival ht h hR stp_z6).gg (by omega) (fun s3 h3 => g6 ht h3 (by omega))
  · rw [if_neg h0] at h
    exact g6 ht h (by omega)
theorem g4 (ht : txk_ xs) (hR : 0 < R) (hC : 0 < C) : ∀ d k {s : st_} {K i : Nat}, PS_ s xs (z4_ n f C R k d) C R K → K + d ≤ 16 → i + d < 398 → GG C R i s
  | 0, k, s, K, i, h, hK, hi => g5 ht h hR (by omega)
  | d + 1, k, s, K, i, h, hK, hi => by
    have hm := Nat.mod_lt (cl_ n f (15 + k)) hC
    exact SX.gg (L_ask ht h (stp_z4 d (k + 1)) hm (by omega)) (by omega) (fun s3 h3 => g4 ht hR hC d (k + 1) h3 (by omega) (by omega))
theorem g3 (ht : txk_ xs) (hR : 0 < R) (hC : 0 < C) (h : PS_ s xs (z3_ n f C R) C R 0) (hi : i < 380) : GG C R i s := by
  have h1 := Nat.mod_lt (cl_ n f 11) (show 0 < 500 by omega)
  have h2 := Nat.mod_lt (cl_ n f 12) (show 0 < 32768 by omega)
  have h3 := Nat.mod_lt (cl_ n f 14) (show 0 < 5 by omega)
  refine (gMaster ht h hR stp_59).gg (by omega) (fun s3 p3 => ?_)
  refine SX.gg (L_mix ht p3 stp_59 (by omega) (by omega)) (by omega) (fun s5 p5 => ?_)
  exact (gFoe (Nat.mod_lt _ (by omega)) ht p5 (stp_z4 _ _)).gg (by omega) (fun s7 p7 => g4 ht hR hC _ _ p7 (by omega) (by omega))
theorem g2 (ht : txk_ xs) (hC : 0 < C) {Rf : Nat} (hR6 : Rf ≤ 6) (hR1 : 0 < Rf) : ∀ d k {s : st_} {R i : Nat}, PS_ s xs (z2_ n f C Rf k d) C R 0 → R + d = Rf → i + d < 380 → GG C Rf i s
  | 0, k, s, R, i, h, hR, hi => by
    have hR : R = Rf := hR
    subst hR
    exact g3 ht hR1 hC h (by omega)
  | d + 1, k, s, R, i, h, hR, hi => (gKind (Nat.mod_lt _ (by omega)) ht h (by omega) (stp_z2 d (k + 1))).gg (by omega) (fun s3 h3 => g2 ht hC hR6 hR1 d (k + 1) h3 (by omega) (by omega))
theorem g1c (ht : txk_ xs) (hC : 0 < C) {Rf : Nat} (hR6 : Rf ≤ 6) (hR1 : 0 < Rf) (h : PS_ s xs (z1_ n f C Rf) C 0 0) (hi : i < 300) : GG C Rf i s := by
  have h1 := Nat.mod_lt (cl_ n f 3) (show 0 < 20 by omega)
  have h2 := Nat.mod_lt (cl_ n f 4) (show 0 < 9 by omega)
  exact SX.gg (L_cost ht h (stp_z2 _ _) (by omega) (by omega)) (by omega) (fun s3 h3 => g2 ht hC hR6 hR1 Rf 0 h3 (by omega) (by omega))
/-- the text, told from its end -/
theorem xt2_z {L : List Int32} {cy r : Nat} : ∀ k d, xt_2 n f k L ++ z2_ n f cy r k d = L ++ z2_ n f cy r 0 (k + d)
  | 0, d => by rw [Nat.zero_add]; rfl
  | k + 1, d => by
    have ih := xt2_z (L := L) (cy := cy) (r := r) k (d + 1)
    rw [show k + (d + 1) = k + 1 + d by omega] at ih
    rw [← ih]
    show xt_2 n f k L ++ sb_y 50 ++ knd_ n f (cl_ n f (5 + k) % 5) ++ z2_ n f cy r (k + 1) d = xt_2 n f k L ++ (sb_y 50 ++ (knd_ n f (cl_ n f (5 + k) % 5) ++ z2_ n f cy r (k + 1) d))
    rw [List.append_assoc, List.append_assoc]
theorem xt4_z {L : List Int32} {cy r : Nat} : ∀ k d, xt_4 n f cy k L ++ z4_ n f cy r k d = L ++ z4_ n f cy r 0 (k + d)
  | 0, d => by rw [Nat.zero_add]; rfl
  | k + 1, d => by
    have ih := xt4_z (L := L) (cy := cy) (r := r) k (d + 1)
    rw [show k + (d + 1) = k + 1 + d by omega] at ih
    rw [← ih]
    show xt_4 n f cy k L ++ sb_y 57 ++ dg_ (cl_ n f (15 + k) % cy) ++ z4_ n f cy r (k + 1) d = xt_4 n f cy k L ++ (sb_y 57 ++ (dg_ (cl_ n f (15 + k) % cy) ++ z4_ n f cy r (k + 1) d))
    rw [List.append_assoc, List.append_assoc]
theorem xt_z {r : Nat} : xt_ n f r = sb_y 48 ++ (dg_ (2 + cl_ n f 0 % 40) ++ (32 :: (dg_ (cl_ n f 2 % (2 + cl_ n f 0 % 40)) ++ z1_ n f (2 + cl_ n f 0 % 40) r))) := by
  have e7 : ∀ L, xt_7 n f L = L ++ z7_ n f := fun L => by
    unfold xt_7 z7_
    rw [List.append_nil, List.append_assoc, List.append_assoc, List.append_assoc]
    rfl
  have e6 : ∀ L, xt_6 n f L ++ z7_ n f = L ++ z6_ n f := fun L => by
    unfold xt_6 z6_
    split
    · rw [List.append_assoc, List.append_assoc]
    · rfl
  have e5 : ∀ L, xt_5 n f r L ++ z6_ n f = L ++ z5_ n f r := fun L => by
    unfold xt_5 z5_
    split
    · rw [List.append_assoc, List.append_assoc]
    · rfl
  have e4 : ∀ L, xt_4 n f (2 + cl_ n f 0 % 40) (cl_ n f 14 % 5) L ++ z5_ n f r = L ++ z4_ n f (2 + cl_ n f 0 % 40) r 0 (cl_ n f 14 % 5) := fun L => xt4_z (r := r) (cl_ n f 14 % 5) 0
  have e3 : ∀ L, xt_3 n f r L ++ z4_ n f (2 + cl_ n f 0 % 40) r 0 (cl_ n f 14 % 5) = L ++ z3_ n f (2 + cl_ n f 0 % 40) r := fun L => by
    unfold xt_3 z3_
    simp only [List.append_assoc]
    rfl
  have e2 : ∀ L, xt_2 n f r L ++ z3_ n f (2 + cl_ n f 0 % 40) r = L ++ z2_ n f (2 + cl_ n f 0 % 40) r 0 r := fun L => xt2_z r 0
  unfold xt_
  rw [e7, e6, e5, e4, e3, e2]
  unfold xt_1 z1_
  simp only [List.append_assoc]
  rfl
end CHAIN
