/-! the law's text: its beginning; the whole method -/
theorem upo_n {α : Type} {f : Nat → α} {i j : Nat} {v : α} (h : j ≠ i) : up_ f i v j = f j := if_neg h
theorem upo_a {α : Type} {f : Nat → α} {i : Nat} {v : α} : up_ f i v i = v := if_pos rfl
section LU
variable {E : ev_} {Q : po_} {H Hb H0 : Heap} {k a b v n t x N m r n1 cy ka fa j : Nat} {f : Nat → Int32} {L S : List Int32}
theorem clL_15 : Cond.classLink RL 15 "java/lang/String" ∈ uw_ := (uw_mem 708 (by decide +kernel) (by decide +kernel))
set_option maxRecDepth 100000 in
theorem kL_text (hs : scr_ E a n f) (hO : exo_ E) (hf : ev_fr E H0.size) (hr : 0 < r) (hr4 : r ≤ 4) : sp_ E mL_text [.ref a, .int (nI r)] H0 (rt_ E H0 (xt_ n f r)) := by
  refine sp_of (by decide +kernel) rfl rfl ?_
  refine aw_lv (lv' := [(0, .ref a), (1, .int (nI r))]) [0, 1] rfl ?_
  refine aw_b (pc' := 3) (lv' := [(0, .ref a), (1, .int (nI r))]) (st' := [.int (0 : Int32), .ref a, .int (2 : Int32)]) [(0, .iconst 2, 1, .int (2 : Int32)), (1, .aload_n 0, 1, .null), (2, .iconst 0, 1, .int (0 : Int32))] (by decide +kernel) rfl ?_
  refine aw_cs (rest := [.int 2]) (st1 := .int (nI (cl_ n f 0)) :: [.int 2]) (kL_cell (i := 0) hs (by omega)) rfl rfl ck_mL_cell msL_52 nk_mL_cell rfl rfl rfl (Nat.le_of_ble_eq_true rfl) (by decide) (by decide) (by decide +kernel) (fun Ha hz => ?_)
  have hza := hz.1
  have hoa : ∀ q : Nat, q < H0.size → Ha[q]? = H0[q]? := fun q hq => hz.2 q hq (Nat.lt_or_ge _ 0)
  refine aw_b (pc' := 8) (lv' := [(0, .ref a), (1, .int (nI r))]) (st' := [.int (40 : Int32), .int (nI (cl_ n f 0)), .int (2 : Int32)]) [(6, .bipush 40, 2, .int (40 : Int32))] (by decide +kernel) rfl ?_
  have hcl := cl_lt n f 0
  refine aw_irem (x := nI (cl_ n f 0)) (y := nI 40) (fun hc => absurd ((nI_eq (a := 40) (b := 0) (by omega) (by omega)).mp hc) (by omega)) (by decide +kernel) ?_
  rw [pk_rem (by omega) (by omega) (by omega)]
  refine aw_b (pc' := 10) (lv' := [(0, .ref a), (1, .int (nI r))]) (st' := [.int (nI 2 + nI (cl_ n f 0 % 40))]) [(9, .iadd, 1, .null)] (by decide +kernel) rfl ?_
  rw [nI_add]
  refine aw_b (pc' := 12) (lv' := [(2, .int (nI (2 + cl_ n f 0 % 40))), (0, .ref a), (1, .int (nI r))]) (st' := [.int (5 : Int32)]) [(10, .istore_n 2, 1, .null), (11, .iconst 5, 1, .int (5 : Int32))] (by decide +kernel) rfl ?_
  refine aw_nqs (N := 5) hO clL_15 (by decide) (by decide) (by decide) (by decide +kernel) (fun H1 zs ho hA => ?_)
  have hfa : ev_fr E Ha.size := Nat.le_trans hf hza
  refine aw_b (pc' := 17) (lv' := [(2, .int (nI (2 + cl_ n f 0 % 40))), (0, .ref a), (1, .int (nI r))]) (st' := [.int (0 : Int32), .ref (Ha.size), .ref (Ha.size)]) [(15, .dup, 1, .null), (16, .iconst 0, 1, .int (0 : Int32))] (by decide +kernel) rfl ?_
  refine aw_lds 37 (by decide +kernel) rfl rfl (by decide +kernel) ?_
  refine aw_astc hA (by decide +kernel) hfa (by decide) (by decide +kernel) (fun H1 hA zx => ?_)
  have zs := zx.1.trans zs
  have ho := fun q (hq : q < Ha.size) => (zx.2 q (by omega)).trans (ho q hq)
  refine aw_b (pc' := 22) (lv' := [(2, .int (nI (2 + cl_ n f 0 % 40))), (0, .ref a), (1, .int (nI r))]) (st' := [.int (1 : Int32), .ref (Ha.size), .ref (Ha.size)]) [(20, .dup, 1, .null), (21, .iconst 1, 1, .int (1 : Int32))] (by decide +kernel) rfl ?_
  refine aw_lds 38 (by decide +kernel) rfl rfl (by decide +kernel) ?_
  refine aw_astc hA (by decide +kernel) hfa (by decide) (by decide +kernel) (fun H1 hA zx => ?_)
  have zs := zx.1.trans zs
  have ho := fun q (hq : q < Ha.size) => (zx.2 q (by omega)).trans (ho q hq)
  refine aw_b (pc' := 27) (lv' := [(2, .int (nI (2 + cl_ n f 0 % 40))), (0, .ref a), (1, .int (nI r))]) (st' := [.int (2 : Int32), .ref (Ha.size), .ref (Ha.size)]) [(25, .dup, 1, .null), (26, .iconst 2, 1, .int (2 : Int32))] (by decide +kernel) rfl ?_
  refine aw_lds 39 (by decide +kernel) rfl rfl (by decide +kernel) ?_
  refine aw_astc hA (by decide +kernel) hfa (by decide) (by decide +kernel) (fun H1 hA zx => ?_)
  have zs := zx.1.trans zs
  have ho := fun q (hq : q < Ha.size) => (zx.2 q (by omega)).trans (ho q hq)
  refine aw_b (pc' := 32) (lv' := [(2, .int (nI (2 + cl_ n f 0 % 40))), (0, .ref a), (1, .int (nI r))]) (st' := [.int (3 : Int32), .ref (Ha.size), .ref (Ha.size)]) [(30, .dup, 1, .null), (31, .iconst 3, 1, .int (3 : Int32))] (by decide +kernel) rfl ?_
  refine aw_lds 40 (by decide +kernel) rfl rfl (by decide +kernel) ?_
  refine aw_astc hA (by decide +kernel) hfa (by decide) (by decide +kernel) (fun H1 hA zx => ?_)
  have zs := zx.1.trans zs
  have ho := fun q (hq : q < Ha.size) => (zx.2 q (by omega)).trans (ho q hq)
  have hkl : Ha.size < H1.size := by omega
  refine aw_b (pc' := 37) (lv' := [(2, .int (nI (2 + cl_ n f 0 % 40))), (0, .ref a), (1, .int (nI r))]) (st' := [.int (4 : Int32), .ref (Ha.size), .ref (Ha.size)]) [(35, .dup, 1, .null), (36, .iconst 4, 1, .int (4 : Int32))] (by decide +kernel) rfl ?_
  refine aw_bqn (Nat.le_trans hfa (Nat.le_of_lt hkl)) nwL_37 msL_39 rfl (Nat.le_of_ble_eq_true rfl) (by decide) (by decide) (by decide +kernel) (by decide +kernel) (by decide +kernel) (fun Hx vx h => ?_)
  refine aw_lds 41 (by decide +kernel) rfl rfl (by decide +kernel) ?_
  refine aw_bqs (rest := [.int (4 : Int32), .ref (Ha.size), .ref (Ha.size)]) (P := fun _ => False) (m := 5) h (tt_.c (by decide +kernel)) id (by decide) (by decide) msL_42 rfl rfl (Nat.le_of_ble_eq_true rfl) (by decide) (by decide) (by decide +kernel) (fun Hx vx h => ?_)
  refine aw_b (pc' := 51) (lv' := [(2, .int (nI (2 + cl_ n f 0 % 40))), (0, .ref a), (1, .int (nI r))]) (st' := [.int (1 : Int32), .ref a, .ref (H1.size), .int (4 : Int32), .ref (Ha.size), .ref (Ha.size)]) [(49, .aload_n 0, 1, .null), (50, .iconst 1, 1, .int (1 : Int32))] (by decide +kernel) rfl ?_
  refine aw_cs (rest := [.ref (H1.size), .int (4 : Int32), .ref (Ha.size), .ref (Ha.size)]) (st1 := .int (nI (cl_ n f 1)) :: [.ref (H1.size), .int (4 : Int32), .ref (Ha.size), .ref (Ha.size)]) (kL_cell (i := 1) hs (by omega)) rfl rfl ck_mL_cell msL_52 nk_mL_cell rfl rfl rfl (Nat.le_of_ble_eq_true rfl) (by decide) (by decide) (by decide +kernel) (fun Hx hz => ?_)
  have h := h.sm hz
  refine aw_b (pc' := 56) (lv' := [(2, .int (nI (2 + cl_ n f 0 % 40))), (0, .ref a), (1, .int (nI r))]) (st' := [.int (20 : Int32), .int (nI (cl_ n f 1)), .ref (H1.size), .int (4 : Int32), .ref (Ha.size), .ref (Ha.size)]) [(54, .bipush 20, 2, .int (20 : Int32))] (by decide +kernel) rfl ?_
  have hcl := cl_lt n f 1
  refine aw_irem (x := nI (cl_ n f 1)) (y := nI 20) (fun hc => absurd ((nI_eq (a := 20) (b := 0) (by omega) (by omega)).mp hc) (by omega)) (by decide +kernel) ?_
  rw [pk_rem (by omega) (by omega) (by omega)]
  refine aw_bqi (rest := [.int (4 : Int32), .ref (Ha.size), .ref (Ha.size)]) hO h (x := cl_ n f 1 % 20) (by omega) (by decide) msL_45 rfl rfl (Nat.le_of_ble_eq_true rfl) (by decide) (by decide) (by decide +kernel) (fun H3 vx h => ?_)
  refine aw_bqt (rest := [.int (4 : Int32), .ref (Ha.size), .ref (Ha.size)]) h msL_48 rfl rfl (Nat.le_of_ble_eq_true rfl) (by decide) (by decide) (by decide +kernel) (fun H4 z4 o4 t4 hv4 => ?_)
  obtain ⟨u4, hv4⟩ := hv4
  have z13 := h.2.2.2.1
  have o13 := h.2.2.2.2
  have hA := at_same hA ((o4 _ (Nat.lt_of_lt_of_le hkl z13)).trans (o13 _ hkl))
  refine aw_ast (t := 2) (ci := 8) hA rfl hv4 rfl hfa (by decide) (by decide +kernel) (fun H5 hA z5 => ?_)
  have e0 : ix_ (0 : Int32) = 0 := rfl
  have e1 : ix_ (1 : Int32) = 1 := rfl
  have e2 : ix_ (2 : Int32) = 2 := rfl
  have e3 : ix_ (3 : Int32) = 3 := rfl
  have e4 : ix_ (4 : Int32) = 4 := rfl
  have e5 : ix_ (5 : Int32) = 5 := rfl
  rw [e0, e1, e2, e3, e4] at hA
  have s5 := z5.1
  have hka : arr_ E H5 Ha.size 5 (knd_ n f) H5.size := by
    refine ⟨_, hA, fun j hj => ?_⟩
    rcases (show j = 0 ∨ j = 1 ∨ j = 2 ∨ j = 3 ∨ j = 4 by omega) with rfl | rfl | rfl | rfl | rfl
    · exact ⟨sa_ E 37, by simp (disch := omega) only [upo_n, upo_a], tt_.c (by decide +kernel)⟩
    · exact ⟨sa_ E 38, by simp (disch := omega) only [upo_n, upo_a], tt_.c (by decide +kernel)⟩
    · exact ⟨sa_ E 39, by simp (disch := omega) only [upo_n, upo_a], tt_.c (by decide +kernel)⟩
    · exact ⟨sa_ E 40, by simp (disch := omega) only [upo_n, upo_a], tt_.c (by decide +kernel)⟩
    · exact ⟨H3.size, by simp (disch := omega) only [upo_n, upo_a], (t4.keep (fun q _ hq => z5.2 q (by omega))).up⟩
  have o5 : ∀ q : Nat, q < Ha.size → H5[q]? = Ha[q]? := fun q hq => by
    rw [z5.2 q (by omega), o4 q (by omega), o13 q (by omega)]
    exact ho q hq
  have z5a : Ha.size < H5.size := by omega
  clear ho hA
  refine aw_b (pc' := 67) (lv' := [(3, .ref (Ha.size)), (2, .int (nI (2 + cl_ n f 0 % 40))), (0, .ref a), (1, .int (nI r))]) (st' := [.int (6 : Int32)]) [(64, .astore_n 3, 1, .null), (65, .bipush 6, 2, .int (6 : Int32))] (by decide +kernel) rfl ?_
  refine aw_nqs (N := 6) hO clL_15 (by decide) (by decide) (by decide) (by decide +kernel) (fun H1 zs ho hA => ?_)
  have hfa : ev_fr E H5.size := Nat.le_trans hfa (Nat.le_of_lt z5a)
  refine aw_b (pc' := 72) (lv' := [(3, .ref (Ha.size)), (2, .int (nI (2 + cl_ n f 0 % 40))), (0, .ref a), (1, .int (nI r))]) (st' := [.int (0 : Int32), .ref (H5.size), .ref (H5.size)]) [(70, .dup, 1, .null), (71, .iconst 0, 1, .int (0 : Int32))] (by decide +kernel) rfl ?_
  refine aw_lds 42 (by decide +kernel) rfl rfl (by decide +kernel) ?_
  refine aw_astc hA (by decide +kernel) hfa (by decide) (by decide +kernel) (fun H1 hA zx => ?_)
  have zs := zx.1.trans zs
  have ho := fun q (hq : q < H5.size) => (zx.2 q (by omega)).trans (ho q hq)
  refine aw_b (pc' := 77) (lv' := [(3, .ref (Ha.size)), (2, .int (nI (2 + cl_ n f 0 % 40))), (0, .ref a), (1, .int (nI r))]) (st' := [.int (1 : Int32), .ref (H5.size), .ref (H5.size)]) [(75, .dup, 1, .null), (76, .iconst 1, 1, .int (1 : Int32))] (by decide +kernel) rfl ?_
  refine aw_lds 43 (by decide +kernel) rfl rfl (by decide +kernel) ?_
  refine aw_astc hA (by decide +kernel) hfa (by decide) (by decide +kernel) (fun H1 hA zx => ?_)
  have zs := zx.1.trans zs
  have ho := fun q (hq : q < H5.size) => (zx.2 q (by omega)).trans (ho q hq)
  refine aw_b (pc' := 82) (lv' := [(3, .ref (Ha.size)), (2, .int (nI (2 + cl_ n f 0 % 40))), (0, .ref a), (1, .int (nI r))]) (st' := [.int (2 : Int32), .ref (H5.size), .ref (H5.size)]) [(80, .dup, 1, .null), (81, .iconst 2, 1, .int (2 : Int32))] (by decide +kernel) rfl ?_
  refine aw_lds 44 (by decide +kernel) rfl rfl (by decide +kernel) ?_
  refine aw_astc hA (by decide +kernel) hfa (by decide) (by decide +kernel) (fun H1 hA zx => ?_)
  have zs := zx.1.trans zs
  have ho := fun q (hq : q < H5.size) => (zx.2 q (by omega)).trans (ho q hq)
  refine aw_b (pc' := 87) (lv' := [(3, .ref (Ha.size)), (2, .int (nI (2 + cl_ n f 0 % 40))), (0, .ref a), (1, .int (nI r))]) (st' := [.int (3 : Int32), .ref (H5.size), .ref (H5.size)]) [(85, .dup, 1, .null), (86, .iconst 3, 1, .int (3 : Int32))] (by decide +kernel) rfl ?_
  refine aw_lds 45 (by decide +kernel) rfl rfl (by decide +kernel) ?_
  refine aw_astc hA (by decide +kernel) hfa (by decide) (by decide +kernel) (fun H1 hA zx => ?_)
  have zs := zx.1.trans zs
  have ho := fun q (hq : q < H5.size) => (zx.2 q (by omega)).trans (ho q hq)
  refine aw_b (pc' := 92) (lv' := [(3, .ref (Ha.size)), (2, .int (nI (2 + cl_ n f 0 % 40))), (0, .ref a), (1, .int (nI r))]) (st' := [.int (4 : Int32), .ref (H5.size), .ref (H5.size)]) [(90, .dup, 1, .null), (91, .iconst 4, 1, .int (4 : Int32))] (by decide +kernel) rfl ?_
  refine aw_lds 46 (by decide +kernel) rfl rfl (by decide +kernel) ?_
  refine aw_astc hA (by decide +kernel) hfa (by decide) (by decide +kernel) (fun H1 hA zx => ?_)
  have zs := zx.1.trans zs
  have ho := fun q (hq : q < H5.size) => (zx.2 q (by omega)).trans (ho q hq)
  refine aw_b (pc' := 97) (lv' := [(3, .ref (Ha.size)), (2, .int (nI (2 + cl_ n f 0 % 40))), (0, .ref a), (1, .int (nI r))]) (st' := [.int (5 : Int32), .ref (H5.size), .ref (H5.size)]) [(95, .dup, 1, .null), (96, .iconst 5, 1, .int (5 : Int32))] (by decide +kernel) rfl ?_
  refine aw_lds 47 (by decide +kernel) rfl rfl (by decide +kernel) ?_
  refine aw_astc hA (by decide +kernel) hfa (by decide) (by decide +kernel) (fun H1 hA zx => ?_)
  have zs := zx.1.trans zs
  have ho := fun q (hq : q < H5.size) => (zx.2 q (by omega)).trans (ho q hq)
  rw [e0, e1, e2, e3, e4, e5] at hA
  refine aw_b (pc' := 102) (lv' := [(4, .ref (H5.size)), (3, .ref (Ha.size)), (2, .int (nI (2 + cl_ n f 0 % 40))), (0, .ref a), (1, .int (nI r))]) (st' := []) [(100, .astore 4, 2, .null)] (by decide +kernel) rfl ?_
  have hfo : arr_ E H1 H5.size 6 foe_ H1.size := by
    refine ⟨_, hA, fun j hj => ?_⟩
    rcases (show j = 0 ∨ j = 1 ∨ j = 2 ∨ j = 3 ∨ j = 4 ∨ j = 5 by omega) with rfl | rfl | rfl | rfl | rfl | rfl
    · exact ⟨sa_ E 42, by simp (disch := omega) only [upo_n, upo_a], tt_.c (by decide +kernel)⟩
    · exact ⟨sa_ E 43, by simp (disch := omega) only [upo_n, upo_a], tt_.c (by decide +kernel)⟩
    · exact ⟨sa_ E 44, by simp (disch := omega) only [upo_n, upo_a], tt_.c (by decide +kernel)⟩
    · exact ⟨sa_ E 45, by simp (disch := omega) only [upo_n, upo_a], tt_.c (by decide +kernel)⟩
    · exact ⟨sa_ E 46, by simp (disch := omega) only [upo_n, upo_a], tt_.c (by decide +kernel)⟩
    · exact ⟨sa_ E 47, by simp (disch := omega) only [upo_n, upo_a], tt_.c (by decide +kernel)⟩
  have hka := (hka.keep (Nat.le_refl _) z5a ho).mono (b' := H1.size) (by omega)
  have oo : ∀ q : Nat, q < H0.size → H1[q]? = H0[q]? := fun q hq => (ho q (by omega)).trans ((o5 q (by omega)).trans (hoa q hq))
  refine xt_c1 hs hO (by omega) (by omega) (Nat.le_trans hfa (by omega)) (by decide) (by decide) (fun H2 v2 k2 m2 hk2 hm2 h => ?_)
  refine xt_c2 (k := k2) (n1 := m2) hs hO hr4 hka (by omega) (fun H3 v3 k3 m3 hk3 hm3 h => ?_) (by omega) (by omega) (by omega) r 0 (Nat.zero_add r) (Nat.le_refl _) (Nat.le_refl _) h
  refine xt_c3 hs hO hr hr4 hfo (by omega) (by omega) (by omega) (by omega) h (fun H4 v4 k4 m4 hk4 hm4 h => ?_)
  refine xt_c4 (k := k4) (n1 := m4) hs hO (by omega) (by omega) (m := cl_ n f 14 % 5) (by omega) (fun H5 v5 k5 m5 hk5 hm5 h => ?_) (by omega) (by omega) (by omega) (cl_ n f 14 % 5) 0 (Nat.zero_add _) (Nat.le_refl _) (Nat.le_refl _) h
  refine xt_c5 hs hO hr hr4 (by omega) (by omega) (by omega) h (fun H6 v6 k6 m6 hk6 hm6 h => ?_)
  refine xt_c5b hs hO (by omega) (by omega) (by omega) h (fun H7 v7 k7 m7 hk7 hm7 h => ?_)
  exact xt_c6 hs hO (by omega) (by omega) (by omega) h (fun x Hn hx hq ht => ⟨x, rfl, by omega, fun q hq2 => (hq q (by omega)).trans (oo q hq2), ht.mono (fun q hq3 => Nat.le_trans (by omega) hq3)⟩)
end LU
