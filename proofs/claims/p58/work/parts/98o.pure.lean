/-! what the law's mirrors say: the property, without a heap -/
def okc_ (c : Int32) : Bool := decide (c = nI (ix_ c) ∧ 1 ≤ ix_ c ∧ ix_ c < 128)
def okt_ (N : Nat) (X : List Int32) : Prop := X.length ≤ N ∧ ∀ c ∈ X, okc_ c = true
section PURE
variable {X Y : List Int32} {a b n : Nat} {f : Nat → Int32}
theorem okt_.app (h : okt_ a X) (h' : okt_ b Y) : okt_ (a + b) (X ++ Y) := ⟨by rw [List.length_append]; have := h.1; have := h'.1; omega, fun c hc => by
  rcases List.mem_append.mp hc with z | z
  · exact h.2 c z
  · exact h'.2 c z⟩
theorem okt_.le (h : okt_ a X) (hab : a ≤ b) : okt_ b X := ⟨Nat.le_trans h.1 hab, h.2⟩
theorem okt_.sp (h : okt_ a X) : okt_ (a + 1) (32 :: X) := ⟨by rw [List.length_cons]; have := h.1; omega, fun c hc => by
  rcases List.mem_cons.mp hc with z | z
  · rw [z]; decide
  · exact h.2 c z⟩
theorem sb_c : ∀ w, w < 61 → 37 ≤ w → ((sb_y w).length ≤ 12 ∧ (sb_y w).all okc_ = true) := by decide +kernel
theorem okt_sb {w : Nat} (h1 : 37 ≤ w) (h2 : w < 61) : okt_ 12 (sb_y w) := ⟨(sb_c w h2 h1).1, fun c hc => List.all_eq_true.mp (sb_c w h2 h1).2 c hc⟩
theorem okt_dg {x : Nat} (h : x < 100000) : okt_ 5 (dg_ x) := ⟨(dg_ok h).2.2, fun c hc => by
  have h1 := of_decide_eq_true ((dg_dig h).1 c hc)
  have h2 := (dg_ok h).1 c hc
  have h3 : (1 : Int32) ≤ c := by
    have := Int32.lt_iff_toInt_lt.mp h2.1
    rw [Int32.le_iff_toInt_le]
    have e0 : (0 : Int32).toInt = 0 := by decide
    have e1 : (1 : Int32).toInt = 1 := by decide
    omega
  have h4 : c ≤ (127 : Int32) := by
    have := Int32.lt_iff_toInt_lt.mp h2.2
    rw [Int32.le_iff_toInt_le]
    have e0 : (128 : Int32).toInt = 128 := by decide
    have e1 : (127 : Int32).toInt = 127 := by decide
    omega
  have h5 : rg_ c 1 127 := (rg_iff (lo := 1) (hi := 127) (by omega) (by omega)).mpr ⟨h3, h4⟩
  exact decide_eq_true ⟨h5.1, h5.2.1, by have := h5.2.2; omega⟩⟩
theorem okt_nil : okt_ 0 [] := ⟨Nat.le_refl _, fun c hc => absurd hc (List.not_mem_nil)⟩
theorem okt_kd {v r : Nat} (hr : 0 < r) (h4 : r ≤ 4) : okt_ 17 (kd_ v r) := by
  have hm := Nat.mod_lt v hr
  unfold kd_
  split
  · exact (okt_sb (by omega) (by omega)).le (by omega)
  · split
    · exact (okt_sb (by omega) (by omega)).le (by omega)
    · exact (okt_sb (by omega) (by omega)).app (okt_dg (by omega))
theorem okt_knd {j : Nat} : okt_ 17 (knd_ n f j) := by
  have hm := Nat.mod_lt (cl_ n f 1) (show 0 < 20 by omega)
  unfold knd_
  split
  · exact (okt_sb (by omega) (by omega)).le (by omega)
  split
  · exact (okt_sb (by omega) (by omega)).le (by omega)
  split
  · exact (okt_sb (by omega) (by omega)).le (by omega)
  split
  · exact (okt_sb (by omega) (by omega)).le (by omega)
  · exact (okt_sb (by omega) (by omega)).app (okt_dg (by omega))
theorem okt_foe {j : Nat} : okt_ 12 (foe_ j) := by
  unfold foe_
  split
  · exact okt_sb (by omega) (by omega)
  split
  · exact okt_sb (by omega) (by omega)
  split
  · exact okt_sb (by omega) (by omega)
  split
  · exact okt_sb (by omega) (by omega)
  split
  · exact okt_sb (by omega) (by omega)
  · exact okt_sb (by omega) (by omega)
theorem okt_z7 : okt_ 23 (z7_ n f) := by
  have h1 := Nat.mod_lt (cl_ n f 23) (show 0 < 300 by omega)
  have h2 := Nat.mod_lt (cl_ n f 24) (show 0 < 60 by omega)
  exact (okt_sb (by omega) (by omega)).app ((okt_dg (by omega)).app ((okt_dg (by omega)).app okt_nil).sp)
theorem okt_z6 : okt_ 40 (z6_ n f) := by
  have h1 := Nat.mod_lt (cl_ n f 22) (show 0 < 9 by omega)
  unfold z6_
  split
  · exact (okt_sb (by omega) (by omega)).app ((okt_dg (by omega)).app okt_z7)
  · exact okt_z7.le (by omega)
theorem okt_z5 {r : Nat} (hr : 0 < r) (h4 : r ≤ 4) : okt_ 69 (z5_ n f r) := by
  unfold z5_
  split
  · exact (okt_sb (by omega) (by omega)).app ((okt_kd hr h4).app okt_z6)
  · exact okt_z6.le (by omega)
theorem okt_z4 {r cy : Nat} (hr : 0 < r) (h4 : r ≤ 4) (hc : 0 < cy) (hc2 : cy ≤ 100) : ∀ d k, okt_ (69 + 17 * d) (z4_ n f cy r k d)
  | 0, k => okt_z5 hr h4
  | d + 1, k => by
    have h1 := Nat.mod_lt (cl_ n f (15 + k)) hc
    exact ((okt_sb (by omega) (by omega)).app ((okt_dg (by omega)).app (okt_z4 hr h4 hc hc2 d (k + 1)))).le (by omega)
theorem okt_z3 {r cy : Nat} (hr : 0 < r) (h4 : r ≤ 4) (hc : 0 < cy) (hc2 : cy ≤ 100) : okt_ 213 (z3_ n f cy r) := by
  have h1 := Nat.mod_lt (cl_ n f 11) (show 0 < 500 by omega)
  have h2 := Nat.mod_lt (cl_ n f 12) (show 0 < 32768 by omega)
  have h3 := Nat.mod_lt (cl_ n f 14) (show 0 < 5 by omega)
  exact ((okt_sb (by omega) (by omega)).app ((okt_kd hr h4).app ((okt_sb (by omega) (by omega)).app ((okt_dg (by omega)).app ((okt_dg (by omega)).app ((okt_sb (by omega) (by omega)).app (okt_foe.app (okt_z4 hr h4 hc hc2 _ _)))).sp)))).le (by omega)
theorem okt_z2 {r cy : Nat} (hr : 0 < r) (h4 : r ≤ 4) (hc : 0 < cy) (hc2 : cy ≤ 100) : ∀ d k, okt_ (213 + 29 * d) (z2_ n f cy r k d)
  | 0, k => okt_z3 hr h4 hc hc2
  | d + 1, k => ((okt_sb (by omega) (by omega)).app (okt_knd.app (okt_z2 hr h4 hc hc2 d (k + 1)))).le (by omega)
theorem okt_xt {r : Nat} (hr : 0 < r) (h4 : r ≤ 4) : okt_ 480 (xt_ n f r) := by
  have h0 := Nat.mod_lt (cl_ n f 0) (show 0 < 40 by omega)
  have h2 := Nat.mod_lt (cl_ n f 2) (show 0 < 2 + cl_ n f 0 % 40 by omega)
  have h3 := Nat.mod_lt (cl_ n f 3) (show 0 < 20 by omega)
  have h5 := Nat.mod_lt (cl_ n f 4) (show 0 < 9 by omega)
  have hz1 : okt_ (213 + 29 * r + 35) (z1_ n f (2 + cl_ n f 0 % 40) r) := ((okt_sb (by omega) (by omega)).app ((okt_dg (by omega)).app ((okt_dg (by omega)).app (okt_z2 hr h4 (by omega) (by omega) r 0)).sp)).le (by omega)
  rw [xt_z]
  exact ((okt_sb (by omega) (by omega)).app ((okt_dg (by omega)).app ((okt_dg (by omega)).app hz1).sp)).le (by omega)
theorem okt_.txk (h : okt_ a X) : txk_ X := fun j hj => of_decide_eq_true (h.2 _ (get_mem hj))
/-- the law's mirrors say so, for each script -/
theorem law_pure_ok {n : Nat} {f : Nat → Int32} (hL : n ≤ 260) : law_pure n f (1 + cl_ n f 25 % 4) := by
  have hm := Nat.mod_lt (cl_ n f 25) (show 0 < 4 by omega)
  generalize hR : 1 + cl_ n f 25 % 4 = R
  have hR1 : 1 ≤ R := by omega
  have hR4 : R ≤ 4 := by omega
  have hC40 := Nat.mod_lt (cl_ n f 0) (show 0 < 40 by omega)
  have ha := Nat.mod_lt (cl_ n f 2) (show 0 < 2 + cl_ n f 0 % 40 by omega)
  have hx := okt_xt (n := n) (f := f) (r := R) (by omega) hR4
  have ht := hx.txk
  obtain ⟨s0, ro, e0, -, hFF, h01⟩ := init_ff
  have hz0 := hFF.2.1
  -- the text goes in
  obtain ⟨y, ey, hy1, hy2, hy3, hy4⟩ := pack_w (s := s0) (c := tch_ (xt_ n f R)) rfl hx.1 ht ⟨h01, fun j hj => absurd hj (by omega), fun _ _ => rfl, fun _ _ => rfl⟩
  have hzy : Z0 (sb_ y 42) := fun m hm => by
    rw [sb_ap, hy3 _ (by omega)]
    exact hz0 m hm
  obtain ⟨s1, t1, e1, h1⟩ := load_58 (a := cl_ n f 2 % (2 + cl_ n f 0 % 40)) (n := n) (f := f) (C := 2 + cl_ n f 0 % 40) (R := R) ht hx.1 xt_z (by omega) (by omega) ha hR1 (by omega) hy1 hy2 hzy
  have eload : fL_load s0 (xt_ n f R) = some (s1, nI R) := by
    unfold fL_load
    rw [bn_e ey]
    unfold fL_load_k5 fL_load_x5_65
    rw [bn_e e1]
  obtain ⟨s2, t2, n2, T2, K2, e2, h2, hT2⟩ := YY.steps (nn := n) (ff := f) 14 0 rfl h1 (by omega)
  obtain ⟨z3, e4⟩ := h2.roundsr (by omega)
  have h0C := Nat.mod_lt (cl_ n f 55) (show 0 < 2 + cl_ n f 0 % 40 by omega)
  have h54 := Nat.mod_lt (cl_ n f 54) (show 0 < 12 by omega)
  obtain ⟨s3, e6, h6⟩ := h2.foresees (k := 1 + cl_ n f 54 % 12) (c := cl_ n f 55 % (2 + cl_ n f 0 % 40)) (by omega) (by omega) (by omega) h0C
  have eS : gX7_setting s2 (0 : Int32) = some (nI (2 + cl_ n f 0 % 40)) := by
    rw [show gX7_setting s2 (0 : Int32) = _ from v_setting h2.1 (k := 0) (by omega)]
    unfold stv_
    rw [if_neg (by omega), h2.1.1.1.1.2.2.2.1]
  exact ⟨s0, s1, s2, s3, z3, 2 + cl_ n f 0 % 40, e0, eload, e2, h2.costs, e4, by omega, by omega, eS, e6, h6.costs⟩
end PURE
