/-! the law's text, all of it -/
def knd_ (n : Nat) (f : Nat → Int32) (j : Nat) : List Int32 := if j = 0 then sb_y 37 else if j = 1 then sb_y 38 else if j = 2 then sb_y 39 else if j = 3 then sb_y 40 else sb_y 41 ++ dg_ (cl_ n f 1 % 20)
def foe_ (j : Nat) : List Int32 := if j = 0 then sb_y 42 else if j = 1 then sb_y 43 else if j = 2 then sb_y 44 else if j = 3 then sb_y 45 else if j = 4 then sb_y 46 else sb_y 47
def xt_1 (n : Nat) (f : Nat → Int32) (cy : Nat) : List Int32 := sb_y 48 ++ dg_ cy ++ [32] ++ dg_ (cl_ n f 2 % cy) ++ sb_y 49 ++ dg_ (cl_ n f 3 % 20) ++ [32] ++ dg_ (1 + cl_ n f 4 % 9)
def xt_2 (n : Nat) (f : Nat → Int32) : Nat → List Int32 → List Int32
  | 0, L => L
  | k + 1, L => xt_2 n f k L ++ sb_y 50 ++ knd_ n f (cl_ n f (5 + k) % 5)
def xt_3 (n : Nat) (f : Nat → Int32) (r : Nat) (L : List Int32) : List Int32 := L ++ sb_y 51 ++ kd_ (cl_ n f 10) r ++ sb_y 55 ++ dg_ (1 + cl_ n f 11 % 500) ++ [32] ++ dg_ (cl_ n f 12 % 32768) ++ sb_y 56 ++ foe_ (cl_ n f 13 % 6)
def xt_4 (n : Nat) (f : Nat → Int32) (cy : Nat) : Nat → List Int32 → List Int32
  | 0, L => L
  | k + 1, L => xt_4 n f cy k L ++ sb_y 57 ++ dg_ (cl_ n f (15 + k) % cy)
def xt_5 (n : Nat) (f : Nat → Int32) (r : Nat) (L : List Int32) : List Int32 := if cl_ n f 20 % 2 = 0 then L ++ sb_y 58 ++ kd_ (cl_ n f 21) r else L
def xt_6 (n : Nat) (f : Nat → Int32) (L : List Int32) : List Int32 := if cl_ n f 22 % 3 = 0 then L ++ sb_y 59 ++ dg_ (cl_ n f 22 % 9) else L
def xt_7 (n : Nat) (f : Nat → Int32) (L : List Int32) : List Int32 := L ++ sb_y 60 ++ dg_ (cl_ n f 23 % 300) ++ [32] ++ dg_ (cl_ n f 24 % 60)
/-- the text that the law makes of its script -/
def xt_ (n : Nat) (f : Nat → Int32) (r : Nat) : List Int32 := xt_7 n f (xt_6 n f (xt_5 n f r (xt_4 n f (2 + cl_ n f 0 % 40) (cl_ n f 14 % 5) (xt_3 n f r (xt_2 n f r (xt_1 n f (2 + cl_ n f 0 % 40)))))))
theorem kd_len {v r : Nat} (hr : 0 < r) (hr4 : r ≤ 4) : (kd_ v r).length ≤ 10 := by
  unfold kd_
  split
  · decide
  · split
    · decide
    · have h := (dg_ok (x := v % r) (by have := Nat.mod_lt v hr; omega)).2.2
      rw [List.length_append, show (sb_y 54).length = 5 from rfl]
      omega
theorem knd_len {n : Nat} {f : Nat → Int32} (j : Nat) : (knd_ n f j).length ≤ 10 := by
  have h := (dg_ok (x := cl_ n f 1 % 20) (by omega)).2.2
  unfold knd_
  split
  · decide
  · split
    · decide
    · split
      · decide
      · split
        · decide
        · rw [List.length_append, show (sb_y 41).length = 5 from rfl]
          omega
theorem foe_len (j : Nat) : (foe_ j).length ≤ 6 := by
  unfold foe_
  repeat' split
  all_goals decide
/-- a row of texts -/
def arr_ (E : ev_) (H : Heap) (a N : Nat) (g : Nat → List Int32) (b : Nat) : Prop := ∃ fk : Nat → Option Nat, at_ E H a (.inl (E.2.1 2, N, .inr (.inr (.inr (.inr fk))))) ∧ ∀ j, j < N → ∃ t : Nat, fk j = some t ∧ tt_ E H t (g j) (fun q => q < b)
theorem tt_.up {E : ev_} {H : Heap} {t : Nat} {L : List Int32} {P : Nat → Prop} (h : tt_ E H t L P) : tt_ E H t L (fun q => q < H.size) := by
  obtain ⟨hl, h | ⟨v, p1, p2, h1, f, hf, h2⟩⟩ := h
  · exact ⟨hl, Or.inl h⟩
  · exact ⟨hl, Or.inr ⟨v, at_lt h1, at_lt h2, h1, f, hf, h2⟩⟩
theorem arr_.keep {E : ev_} {H H1 : Heap} {a N b : Nat} {g : Nat → List Int32} (h : arr_ E H a N g b) (hz : b ≤ H.size) (ha : a < b) (ho : ∀ q : Nat, q < b → H1[q]? = H[q]?) : arr_ E H1 a N g b := by
  obtain ⟨fk, h1, h2⟩ := h
  refine ⟨fk, at_same h1 (ho _ ha), fun j hj => ?_⟩
  obtain ⟨t, e, ht⟩ := h2 j hj
  exact ⟨t, e, ht.keep (fun q _ hq => ho q hq)⟩
theorem arr_.mono {E : ev_} {H : Heap} {a N b b' : Nat} {g : Nat → List Int32} (h : arr_ E H a N g b) (hb : b ≤ b') : arr_ E H a N g b' := by
  obtain ⟨fk, h1, h2⟩ := h
  refine ⟨fk, h1, fun j hj => ?_⟩
  obtain ⟨t, e, ht⟩ := h2 j hj
  exact ⟨t, e, ht.mono (fun q hq => Nat.lt_of_lt_of_le hq hb)⟩
def mL_text : mt_ := (yL_text, cL_text, 8, some (.object "java/lang/String"), [], { frames := 9, locals := 240, cells := 70, slots := 62000 })
theorem ck_mL_text : cokS_ mL_text := ⟨⟨(uw_mem 707 (by decide +kernel) (by decide +kernel)), (uw_mem 28 (by decide +kernel) (by decide +kernel)), by decide +kernel, by decide +kernel⟩, (uw_mem 706 (by decide +kernel) (by decide +kernel))⟩
theorem nk_mL_text : nok_ mL_text 2 := by decide +kernel
section LT
variable {E : ev_} {Q : po_} {H Hb H0 : Heap} {k a b v n t x N m r n1 cy ka fa j : Nat} {f : Nat → Int32} {L S : List Int32}
theorem msL_52 : Cond.methodLink RL 52 yL_cell ∈ uw_ := (uw_mem 560 (by decide +kernel) (by decide +kernel))
theorem msL_85 : Cond.methodLink RL 85 yJ4_append_cf468 ∈ uw_ := (uw_mem 942 (by decide +kernel) (by decide +kernel))
theorem xt_c6 (hs : scr_ E a n f) (hO : exo_ E) (hk : k + 6 ≤ 70) (hn : n1 + 6004 ≤ 62000) (hN : N ≤ 500) (h : bq_ E Hb H b v L N) (hQ : ∀ (x : Nat) (Hn : Heap), Hb.size ≤ Hn.size → (∀ q : Nat, q < Hb.size → Hn[q]? = Hb[q]?) → tt_ E Hn x (xt_7 n f L) (fun q => Hb.size ≤ q) → Q (.inl (some (.ref x))) Hn) : aw E mL_text Q 393 [(5, .ref b), (4, .ref fa), (3, .ref ka), (2, .int (nI cy)), (0, .ref a), (1, .int (nI r))] [] H k n1 := by
  refine aw_b (pc' := 395) (lv' := [(5, .ref b), (4, .ref fa), (3, .ref ka), (2, .int (nI cy)), (0, .ref a), (1, .int (nI r))]) (st' := [.ref b]) [(393, .aload 5, 2, .null)] (by decide +kernel) rfl ?_
  refine aw_lds 60 (by decide +kernel) rfl rfl (by decide +kernel) ?_
  refine aw_bqs (rest := []) (m := 7) h (tt_.c (P := fun _ => False) (by decide +kernel)) id (by decide) (by omega) msL_42 rfl rfl (Nat.le_of_ble_eq_true rfl) (by show _ ≤ 70; omega) (by show _ ≤ 62000; omega) (by decide +kernel) (fun Hx vx h => ?_)
  refine aw_b (pc' := 403) (lv' := [(5, .ref b), (4, .ref fa), (3, .ref ka), (2, .int (nI cy)), (0, .ref a), (1, .int (nI r))]) (st' := [.int (23 : Int32), .ref a, .ref b]) [(400, .aload_n 0, 1, .null), (401, .bipush 23, 2, .int (23 : Int32))] (by decide +kernel) rfl ?_
  refine aw_cs (rest := [.ref b]) (st1 := .int (nI (cl_ n f 23)) :: [.ref b]) (kL_cell (i := 23) hs (by omega)) rfl rfl ck_mL_cell msL_52 nk_mL_cell rfl rfl rfl (Nat.le_of_ble_eq_true rfl) (by show _ ≤ 70; omega) (by show _ ≤ 62000; omega) (by decide +kernel) (fun Hx hz => ?_)
  have h := h.sm hz
  refine aw_b (pc' := 409) (lv' := [(5, .ref b), (4, .ref fa), (3, .ref ka), (2, .int (nI cy)), (0, .ref a), (1, .int (nI r))]) (st' := [.int (300 : Int32), .int (nI (cl_ n f 23)), .ref b]) [(406, .sipush 300, 3, .int (300 : Int32))] (by decide +kernel) rfl ?_
  have hcl := cl_lt n f 23
  refine aw_irem (x := nI (cl_ n f 23)) (y := nI 300) (fun hc => absurd ((nI_eq (a := 300) (b := 0) (by omega) (by omega)).mp hc) (by omega)) (by decide +kernel) ?_
  rw [pk_rem (by omega) (by omega) (by omega)]
  refine aw_bqi (rest := []) hO h (x := cl_ n f 23 % 300) (by omega) (by omega) msL_45 rfl rfl (Nat.le_of_ble_eq_true rfl) (by show _ ≤ 70; omega) (by show _ ≤ 62000; omega) (by decide +kernel) (fun Hx vx h => ?_)
  refine aw_b (pc' := 415) (lv' := [(5, .ref b), (4, .ref fa), (3, .ref ka), (2, .int (nI cy)), (0, .ref a), (1, .int (nI r))]) (st' := [.int (32 : Int32), .ref b]) [(413, .bipush 32, 2, .int (32 : Int32))] (by decide +kernel) rfl ?_
  refine aw_bqc (rest := []) h (by decide) (by omega) msL_85 rfl rfl (Nat.le_of_ble_eq_true rfl) (by show _ ≤ 70; omega) (by show _ ≤ 62000; omega) (by decide +kernel) (fun Hx vx h => ?_)
  refine aw_b (pc' := 421) (lv' := [(5, .ref b), (4, .ref fa), (3, .ref ka), (2, .int (nI cy)), (0, .ref a), (1, .int (nI r))]) (st' := [.int (24 : Int32), .ref a, .ref b]) [(418, .aload_n 0, 1, .null), (419, .bipush 24, 2, .int (24 : Int32))] (by decide +kernel) rfl ?_
  refine aw_cs (rest := [.ref b]) (st1 := .int (nI (cl_ n f 24)) :: [.ref b]) (kL_cell (i := 24) hs (by omega)) rfl rfl ck_mL_cell msL_52 nk_mL_cell rfl rfl rfl (Nat.le_of_ble_eq_true rfl) (by show _ ≤ 70; omega) (by show _ ≤ 62000; omega) (by decide +kernel) (fun Hx hz => ?_)
  have h := h.sm hz
  refine aw_b (pc' := 426) (lv' := [(5, .ref b), (4, .ref fa), (3, .ref ka), (2, .int (nI cy)), (0, .ref a), (1, .int (nI r))]) (st' := [.int (60 : Int32), .int (nI (cl_ n f 24)), .ref b]) [(424, .bipush 60, 2, .int (60 : Int32))] (by decide +kernel) rfl ?_
  have hcl := cl_lt n f 24
  refine aw_irem (x := nI (cl_ n f 24)) (y := nI 60) (fun hc => absurd ((nI_eq (a := 60) (b := 0) (by omega) (by omega)).mp hc) (by omega)) (by decide +kernel) ?_
  rw [pk_rem (by omega) (by omega) (by omega)]
  refine aw_bqi (rest := []) hO h (x := cl_ n f 24 % 60) (by omega) (by omega) msL_45 rfl rfl (Nat.le_of_ble_eq_true rfl) (by show _ ≤ 70; omega) (by show _ ≤ 62000; omega) (by decide +kernel) (fun Hx vx h => ?_)
  refine aw_bqt (rest := []) h msL_48 rfl rfl (Nat.le_of_ble_eq_true rfl) (by show _ ≤ 70; omega) (by show _ ≤ 62000; omega) (by decide +kernel) (fun H4 z4 o4 t4 _ => ?_)
  exact aw_aret rfl (by show _ ≤ 70; omega) (by show _ ≤ 62000; omega) (by decide +kernel) (hQ _ _ (Nat.le_trans h.2.2.2.1 (Nat.le_of_lt z4)) (fun q hq => (o4 q (Nat.lt_of_lt_of_le hq h.2.2.2.1)).trans (h.2.2.2.2 q hq)) (t4.mono (fun q hq => Nat.le_trans h.2.2.2.1 hq)))
theorem xt_c5b (hs : scr_ E a n f) (hO : exo_ E) (hk : k + 2 ≤ 70) (hn : n1 + 2400 ≤ 62000) (hN : N ≤ 400) (h : bq_ E Hb H b v L N) (kk : ∀ (H1 : Heap) (v' k1 m1 : Nat), k1 ≤ k + 2 → m1 ≤ n1 + 2400 → bq_ E Hb H1 b v' (xt_6 n f L) (N + 8 + 5) → aw E mL_text Q 393 [(5, .ref b), (4, .ref fa), (3, .ref ka), (2, .int (nI cy)), (0, .ref a), (1, .int (nI r))] [] H1 k1 m1) : aw E mL_text Q 362 [(5, .ref b), (4, .ref fa), (3, .ref ka), (2, .int (nI cy)), (0, .ref a), (1, .int (nI r))] [] H k n1 := by
  refine aw_b (pc' := 365) (lv' := [(5, .ref b), (4, .ref fa), (3, .ref ka), (2, .int (nI cy)), (0, .ref a), (1, .int (nI r))]) (st' := [.int (22 : Int32), .ref a]) [(362, .aload_n 0, 1, .null), (363, .bipush 22, 2, .int (22 : Int32))] (by decide +kernel) rfl ?_
  refine aw_cs (rest := []) (st1 := .int (nI (cl_ n f 22)) :: []) (kL_cell (i := 22) hs (by omega)) rfl rfl ck_mL_cell msL_52 nk_mL_cell rfl rfl rfl (Nat.le_of_ble_eq_true rfl) (by show _ ≤ 70; omega) (by show _ ≤ 62000; omega) (by decide +kernel) (fun Hx hz => ?_)
  have h := h.sm hz
  refine aw_b (pc' := 369) (lv' := [(5, .ref b), (4, .ref fa), (3, .ref ka), (2, .int (nI cy)), (0, .ref a), (1, .int (nI r))]) (st' := [.int (3 : Int32), .int (nI (cl_ n f 22))]) [(368, .iconst 3, 1, .int (3 : Int32))] (by decide +kernel) rfl ?_
  have hcl := cl_lt n f 22
  refine aw_irem (x := nI (cl_ n f 22)) (y := nI 3) (fun hc => absurd ((nI_eq (a := 3) (b := 0) (by omega) (by omega)).mp hc) (by omega)) (by decide +kernel) ?_
  rw [pk_rem (by omega) (by omega) (by omega)]
  refine aw_if_ne (off := 23) 393 (by decide) (by decide +kernel) (fun hc => ?_) (fun hc => ?_)
  · skip
    refine kk _ v _ _ (by omega) (by omega) ?_
    unfold xt_6
    rw [if_neg (fun q => hc (by rw [q]; rfl))]
    exact ⟨h.1, Nat.le_trans h.2.1 (by omega), h.2.2⟩
  · skip
    have h3 : cl_ n f 22 % 3 = 0 := (nI_eq (by omega) (by omega)).mp hc
    refine aw_b (pc' := 375) (lv' := [(5, .ref b), (4, .ref fa), (3, .ref ka), (2, .int (nI cy)), (0, .ref a), (1, .int (nI r))]) (st' := [.ref b]) [(373, .aload 5, 2, .null)] (by decide +kernel) rfl ?_
    refine aw_lds 59 (by decide +kernel) rfl rfl (by decide +kernel) ?_
    refine aw_bqs (rest := []) (m := 8) h (tt_.c (P := fun _ => False) (by decide +kernel)) id (by decide) (by omega) msL_42 rfl rfl (Nat.le_of_ble_eq_true rfl) (by show _ ≤ 70; omega) (by show _ ≤ 62000; omega) (by decide +kernel) (fun Hx vx h => ?_)
    refine aw_b (pc' := 383) (lv' := [(5, .ref b), (4, .ref fa), (3, .ref ka), (2, .int (nI cy)), (0, .ref a), (1, .int (nI r))]) (st' := [.int (22 : Int32), .ref a, .ref b]) [(380, .aload_n 0, 1, .null), (381, .bipush 22, 2, .int (22 : Int32))] (by decide +kernel) rfl ?_
    refine aw_cs (rest := [.ref b]) (st1 := .int (nI (cl_ n f 22)) :: [.ref b]) (kL_cell (i := 22) hs (by omega)) rfl rfl ck_mL_cell msL_52 nk_mL_cell rfl rfl rfl (Nat.le_of_ble_eq_true rfl) (by show _ ≤ 70; omega) (by show _ ≤ 62000; omega) (by decide +kernel) (fun Hx hz => ?_)
    have h := h.sm hz
    refine aw_b (pc' := 388) (lv' := [(5, .ref b), (4, .ref fa), (3, .ref ka), (2, .int (nI cy)), (0, .ref a), (1, .int (nI r))]) (st' := [.int (9 : Int32), .int (nI (cl_ n f 22)), .ref b]) [(386, .bipush 9, 2, .int (9 : Int32))] (by decide +kernel) rfl ?_
    have hcl := cl_lt n f 22
    refine aw_irem (x := nI (cl_ n f 22)) (y := nI 9) (fun hc => absurd ((nI_eq (a := 9) (b := 0) (by omega) (by omega)).mp hc) (by omega)) (by decide +kernel) ?_
    rw [pk_rem (by omega) (by omega) (by omega)]
    refine aw_bqi (rest := []) hO h (x := cl_ n f 22 % 9) (by omega) (by omega) msL_45 rfl rfl (Nat.le_of_ble_eq_true rfl) (by show _ ≤ 70; omega) (by show _ ≤ 62000; omega) (by decide +kernel) (fun Hx vx h => ?_)
    refine aw_b (pc' := 393) (lv' := [(5, .ref b), (4, .ref fa), (3, .ref ka), (2, .int (nI cy)), (0, .ref a), (1, .int (nI r))]) (st' := []) [(392, .pop, 1, .null)] (by decide +kernel) rfl ?_
    refine kk _ vx _ _ (by omega) (by omega) ?_
    unfold xt_6
    rw [if_pos h3]
    exact h
theorem msL_94 : Cond.methodLink RL 94 yL_kind ∈ uw_ := (uw_mem 958 (by decide +kernel) (by decide +kernel))
theorem xt_c5 (hs : scr_ E a n f) (hO : exo_ E) (hr : 0 < r) (hr4 : r ≤ 4) (hk : k + 8 ≤ 70) (hn : n1 + 6024 ≤ 62000) (hN : N ≤ 400) (h : bq_ E Hb H b v L N) (kk : ∀ (H1 : Heap) (v' k1 m1 : Nat), k1 ≤ k + 8 → m1 ≤ n1 + 6024 → bq_ E Hb H1 b v' (xt_5 n f r L) (N + 7 + 10) → aw E mL_text Q 362 [(5, .ref b), (4, .ref fa), (3, .ref ka), (2, .int (nI cy)), (0, .ref a), (1, .int (nI r))] [] H1 k1 m1) : aw E mL_text Q 330 [(5, .ref b), (4, .ref fa), (3, .ref ka), (2, .int (nI cy)), (0, .ref a), (1, .int (nI r))] [] H k n1 := by
  refine aw_b (pc' := 333) (lv' := [(5, .ref b), (4, .ref fa), (3, .ref ka), (2, .int (nI cy)), (0, .ref a), (1, .int (nI r))]) (st' := [.int (20 : Int32), .ref a]) [(330, .aload_n 0, 1, .null), (331, .bipush 20, 2, .int (20 : Int32))] (by decide +kernel) rfl ?_
  refine aw_cs (rest := []) (st1 := .int (nI (cl_ n f 20)) :: []) (kL_cell (i := 20) hs (by omega)) rfl rfl ck_mL_cell msL_52 nk_mL_cell rfl rfl rfl (Nat.le_of_ble_eq_true rfl) (by show _ ≤ 70; omega) (by show _ ≤ 62000; omega) (by decide +kernel) (fun Hx hz => ?_)
  have h := h.sm hz
  refine aw_b (pc' := 337) (lv' := [(5, .ref b), (4, .ref fa), (3, .ref ka), (2, .int (nI cy)), (0, .ref a), (1, .int (nI r))]) (st' := [.int (2 : Int32), .int (nI (cl_ n f 20))]) [(336, .iconst 2, 1, .int (2 : Int32))] (by decide +kernel) rfl ?_
  have hcl := cl_lt n f 20
  refine aw_irem (x := nI (cl_ n f 20)) (y := nI 2) (fun hc => absurd ((nI_eq (a := 2) (b := 0) (by omega) (by omega)).mp hc) (by omega)) (by decide +kernel) ?_
  rw [pk_rem (by omega) (by omega) (by omega)]
  refine aw_if_ne (off := 24) 362 (by decide) (by decide +kernel) (fun hc => ?_) (fun hc => ?_)
  · skip
    refine kk _ v _ _ (by omega) (by omega) ?_
    unfold xt_5
    rw [if_neg (fun q => hc (by rw [q]; rfl))]
    exact ⟨h.1, Nat.le_trans h.2.1 (by omega), h.2.2⟩
  · skip
    have h3 : cl_ n f 20 % 2 = 0 := (nI_eq (by omega) (by omega)).mp hc
    refine aw_b (pc' := 343) (lv' := [(5, .ref b), (4, .ref fa), (3, .ref ka), (2, .int (nI cy)), (0, .ref a), (1, .int (nI r))]) (st' := [.ref b]) [(341, .aload 5, 2, .null)] (by decide +kernel) rfl ?_
    refine aw_lds 58 (by decide +kernel) rfl rfl (by decide +kernel) ?_
    refine aw_bqs (rest := []) (m := 7) h (tt_.c (P := fun _ => False) (by decide +kernel)) id (by decide) (by omega) msL_42 rfl rfl (Nat.le_of_ble_eq_true rfl) (by show _ ≤ 70; omega) (by show _ ≤ 62000; omega) (by decide +kernel) (fun Hx vx h => ?_)
    refine aw_b (pc' := 351) (lv' := [(5, .ref b), (4, .ref fa), (3, .ref ka), (2, .int (nI cy)), (0, .ref a), (1, .int (nI r))]) (st' := [.int (21 : Int32), .ref a, .ref b]) [(348, .aload_n 0, 1, .null), (349, .bipush 21, 2, .int (21 : Int32))] (by decide +kernel) rfl ?_
    refine aw_cs (rest := [.ref b]) (st1 := .int (nI (cl_ n f 21)) :: [.ref b]) (kL_cell (i := 21) hs (by omega)) rfl rfl ck_mL_cell msL_52 nk_mL_cell rfl rfl rfl (Nat.le_of_ble_eq_true rfl) (by show _ ≤ 70; omega) (by show _ ≤ 62000; omega) (by decide +kernel) (fun Hx hz => ?_)
    have h := h.sm hz
    refine aw_b (pc' := 355) (lv' := [(5, .ref b), (4, .ref fa), (3, .ref ka), (2, .int (nI cy)), (0, .ref a), (1, .int (nI r))]) (st' := [.int (nI r), .int (nI (cl_ n f 21)), .ref b]) [(354, .iload_n 1, 1, .null)] (by decide +kernel) rfl ?_
    have hbl := at_lt h.1.2.2.2.1
    refine aw_callS (rest := [.ref b]) (kL_kind hO (Nat.le_trans h.1.2.1 (Nat.le_of_lt hbl)) (cl_lt n f 21) hr hr4) rfl ck_mL_kind msL_94 nk_mL_kind rfl rfl rfl (Nat.le_of_ble_eq_true rfl) (by show _ + 6 ≤ 70; omega) (by show _ + 3624 ≤ 62000; omega) (by decide +kernel) (fun rr Hx _ hq => ?_) (fun _ _ _ hq => by obtain ⟨x, e, -⟩ := hq; cases e)
    obtain ⟨t, er, hz, ho, ht⟩ := hq
    have er := Sum.inl.inj er
    subst er
    have h := h.same hz ho
    show aw E mL_text Q 358 [(5, .ref b), (4, .ref fa), (3, .ref ka), (2, .int (nI cy)), (0, .ref a), (1, .int (nI r))] [.ref t, .ref b] Hx ((k + 1) + 6) ((n1 + 1200) + 3624)
    refine aw_bqs (rest := []) (m := 10) h ht (fun q => absurd q (Nat.not_le.mpr hbl)) (kd_len hr hr4) (by omega) msL_42 rfl rfl (Nat.le_of_ble_eq_true rfl) (by show _ ≤ 70; omega) (by show _ ≤ 62000; omega) (by decide +kernel) (fun Hx vx h => ?_)
    refine aw_b (pc' := 362) (lv' := [(5, .ref b), (4, .ref fa), (3, .ref ka), (2, .int (nI cy)), (0, .ref a), (1, .int (nI r))]) (st' := []) [(361, .pop, 1, .null)] (by decide +kernel) rfl ?_
    refine kk _ vx _ _ (by omega) (by omega) ?_
    unfold xt_5
    rw [if_pos h3]
    exact h
theorem xt_c4 (hs : scr_ E a n f) (hO : exo_ E) (hcy : 2 ≤ cy) (hcy2 : cy ≤ 41) (hm : m ≤ 4) (kk : ∀ (H1 : Heap) (v' k1 m1 : Nat), k1 ≤ k + 2 * m → m1 ≤ n1 + 2400 * m → bq_ E Hb H1 b v' (xt_4 n f cy m L) (N + 10 * m) → aw E mL_text Q 330 [(5, .ref b), (4, .ref fa), (3, .ref ka), (2, .int (nI cy)), (0, .ref a), (1, .int (nI r))] [] H1 k1 m1) (hk : k + 8 ≤ 70) (hn : n1 + 9600 ≤ 62000) (hN : N ≤ 400) : ∀ (d j : Nat) {H : Heap} {v k1 m1 : Nat}, j + d = m → k1 ≤ k + 2 * j → m1 ≤ n1 + 2400 * j → bq_ E Hb H b v (xt_4 n f cy j L) (N + 10 * j) → aw E mL_text Q 295 [(7, .int (nI j)), (6, .int (nI m)), (5, .ref b), (4, .ref fa), (3, .ref ka), (2, .int (nI cy)), (0, .ref a), (1, .int (nI r))] [] H k1 m1 := by
  intro d
  induction d with
  | zero =>
    intro j H v k1 m1 hj hk1 hm1 h
    have hj : m = j := hj.symm
    subst hj
    refine aw_b (pc' := 299) (lv' := [(7, .int (nI m)), (6, .int (nI m)), (5, .ref b), (4, .ref fa), (3, .ref ka), (2, .int (nI cy)), (0, .ref a), (1, .int (nI r))]) (st' := [.int (nI m), .int (nI m)]) [(295, .iload 7, 2, .null), (297, .iload 6, 2, .null)] (by decide +kernel) rfl ?_
    refine aw_ic_ge (off := 31) 330 (by decide) (by decide +kernel) (fun _ => ?_) (fun hc => absurd (Int32.le_refl _) hc)
    refine aw_lv (lv' := [(5, .ref b), (4, .ref fa), (3, .ref ka), (2, .int (nI cy)), (0, .ref a), (1, .int (nI r))]) [2, 3, 4, 5, 6, 7] rfl ?_
    exact kk _ _ _ _ (by omega) (by omega) h
  | succ d ih =>
    intro j H v k1 m1 hj hk1 hm1 h
    refine aw_b (pc' := 299) (lv' := [(7, .int (nI j)), (6, .int (nI m)), (5, .ref b), (4, .ref fa), (3, .ref ka), (2, .int (nI cy)), (0, .ref a), (1, .int (nI r))]) (st' := [.int (nI m), .int (nI j)]) [(295, .iload 7, 2, .null), (297, .iload 6, 2, .null)] (by decide +kernel) rfl ?_
    refine aw_ic_ge (off := 31) 330 (by decide) (by decide +kernel) (fun hc => absurd hc (nI_ge (by omega) (by omega))) (fun _ => ?_)
    refine aw_b (pc' := 304) (lv' := [(7, .int (nI j)), (6, .int (nI m)), (5, .ref b), (4, .ref fa), (3, .ref ka), (2, .int (nI cy)), (0, .ref a), (1, .int (nI r))]) (st' := [.ref b]) [(302, .aload 5, 2, .null)] (by decide +kernel) rfl ?_
    refine aw_lds 57 (by decide +kernel) rfl rfl (by decide +kernel) ?_
    refine aw_bqs (rest := []) (m := 5) h (tt_.c (P := fun _ => False) (by decide +kernel)) id (by decide) (by omega) msL_42 rfl rfl (Nat.le_of_ble_eq_true rfl) (by show _ ≤ 70; omega) (by show _ ≤ 62000; omega) (by decide +kernel) (fun Hx vx h => ?_)
    refine aw_b (pc' := 314) (lv' := [(7, .int (nI j)), (6, .int (nI m)), (5, .ref b), (4, .ref fa), (3, .ref ka), (2, .int (nI cy)), (0, .ref a), (1, .int (nI r))]) (st' := [.int (nI j), .int (15 : Int32), .ref a, .ref b]) [(309, .aload_n 0, 1, .null), (310, .bipush 15, 2, .int (15 : Int32)), (312, .iload 7, 2, .null)] (by decide +kernel) rfl ?_
    refine aw_b (pc' := 315) (lv' := [(7, .int (nI j)), (6, .int (nI m)), (5, .ref b), (4, .ref fa), (3, .ref ka), (2, .int (nI cy)), (0, .ref a), (1, .int (nI r))]) (st' := [.int (nI 15 + nI (j)), .ref a, .ref b]) [(314, .iadd, 1, .null)] (by decide +kernel) rfl ?_
    rw [nI_add]
    refine aw_cs (rest := [.ref b]) (st1 := .int (nI (cl_ n f (15 + j))) :: [.ref b]) (kL_cell (i := (15 + j)) hs (by omega)) rfl rfl ck_mL_cell msL_52 nk_mL_cell rfl rfl rfl (Nat.le_of_ble_eq_true rfl) (by show _ ≤ 70; omega) (by show _ ≤ 62000; omega) (by decide +kernel) (fun Hx hz => ?_)
    have h := h.sm hz
    refine aw_b (pc' := 319) (lv' := [(7, .int (nI j)), (6, .int (nI m)), (5, .ref b), (4, .ref fa), (3, .ref ka), (2, .int (nI cy)), (0, .ref a), (1, .int (nI r))]) (st' := [.int (nI cy), .int (nI (cl_ n f (15 + j))), .ref b]) [(318, .iload_n 2, 1, .null)] (by decide +kernel) rfl ?_
    have hcl := cl_lt n f (15 + j)
    refine aw_irem (x := nI (cl_ n f (15 + j))) (y := nI cy) (fun hc => absurd ((nI_eq (a := cy) (b := 0) (by omega) (by omega)).mp hc) (by omega)) (by decide +kernel) ?_
    rw [pk_rem (by omega) (by omega) (by omega)]
    have hlt := Nat.mod_lt (cl_ n f (15 + j)) (show 0 < cy by omega)
    refine aw_bqi (rest := []) hO h (x := cl_ n f (15 + j) % cy) (by omega) (by omega) msL_45 rfl rfl (Nat.le_of_ble_eq_true rfl) (by show _ ≤ 70; omega) (by show _ ≤ 62000; omega) (by decide +kernel) (fun Hx vx h => ?_)
    refine aw_b (pc' := 295) (lv' := [(7, .int ((nI j) + (1 : Int32))), (6, .int (nI m)), (5, .ref b), (4, .ref fa), (3, .ref ka), (2, .int (nI cy)), (0, .ref a), (1, .int (nI r))]) (st' := []) [(323, .pop, 1, .null), (324, .iinc 7 1, 3, .int (1 : Int32)), (327, .goto (-32), 3, .null)] (by decide +kernel) rfl ?_
    rw [nI_1]
    exact ih (j + 1) (by omega) (by omega) (by omega) h
theorem xt_c3 (hs : scr_ E a n f) (hO : exo_ E) (hr : 0 < r) (hr4 : r ≤ 4) (hfa : arr_ E Hb fa 6 foe_ Hb.size) (hfl : fa < Hb.size) (hk : k + 15 ≤ 70) (hn : n1 + 14424 ≤ 62000) (hN : N ≤ 400) (h : bq_ E Hb H b v L N) (kk : ∀ (H1 : Heap) (v' k1 m1 : Nat), k1 ≤ k + 15 → m1 ≤ n1 + 14424 → bq_ E Hb H1 b v' (xt_3 n f r L) (N + 8 + 10 + 5 + 5 + 1 + 5 + 5 + 6) → aw E mL_text Q 295 [(7, .int (0 : Int32)), (6, .int (nI (cl_ n f 14 % 5))), (5, .ref b), (4, .ref fa), (3, .ref ka), (2, .int (nI cy)), (0, .ref a), (1, .int (nI r))] [] H1 k1 m1) : aw E mL_text Q 204 [(6, .int (nI j)), (5, .ref b), (4, .ref fa), (3, .ref ka), (2, .int (nI cy)), (0, .ref a), (1, .int (nI r))] [] H k n1 := by
  refine aw_lv (lv' := [(5, .ref b), (4, .ref fa), (3, .ref ka), (2, .int (nI cy)), (0, .ref a), (1, .int (nI r))]) [1, 2, 3, 4, 5, 6] rfl ?_
  refine aw_b (pc' := 206) (lv' := [(5, .ref b), (4, .ref fa), (3, .ref ka), (2, .int (nI cy)), (0, .ref a), (1, .int (nI r))]) (st' := [.ref b]) [(204, .aload 5, 2, .null)] (by decide +kernel) rfl ?_
  refine aw_lds 51 (by decide +kernel) rfl rfl (by decide +kernel) ?_
  refine aw_bqs (rest := []) (m := 8) h (tt_.c (P := fun _ => False) (by decide +kernel)) id (by decide) (by omega) msL_42 rfl rfl (Nat.le_of_ble_eq_true rfl) (by show _ ≤ 70; omega) (by show _ ≤ 62000; omega) (by decide +kernel) (fun Hx vx h => ?_)
  refine aw_b (pc' := 214) (lv' := [(5, .ref b), (4, .ref fa), (3, .ref ka), (2, .int (nI cy)), (0, .ref a), (1, .int (nI r))]) (st' := [.int (10 : Int32), .ref a, .ref b]) [(211, .aload_n 0, 1, .null), (212, .bipush 10, 2, .int (10 : Int32))] (by decide +kernel) rfl ?_
  refine aw_cs (rest := [.ref b]) (st1 := .int (nI (cl_ n f 10)) :: [.ref b]) (kL_cell (i := 10) hs (by omega)) rfl rfl ck_mL_cell msL_52 nk_mL_cell rfl rfl rfl (Nat.le_of_ble_eq_true rfl) (by show _ ≤ 70; omega) (by show _ ≤ 62000; omega) (by decide +kernel) (fun Hx hz => ?_)
  have h := h.sm hz
  refine aw_b (pc' := 218) (lv' := [(5, .ref b), (4, .ref fa), (3, .ref ka), (2, .int (nI cy)), (0, .ref a), (1, .int (nI r))]) (st' := [.int (nI r), .int (nI (cl_ n f 10)), .ref b]) [(217, .iload_n 1, 1, .null)] (by decide +kernel) rfl ?_
  have hbl := at_lt h.1.2.2.2.1
  refine aw_callS (rest := [.ref b]) (kL_kind hO (Nat.le_trans h.1.2.1 (Nat.le_of_lt hbl)) (cl_lt n f 10) hr hr4) rfl ck_mL_kind msL_94 nk_mL_kind rfl rfl rfl (Nat.le_of_ble_eq_true rfl) (by show _ + 6 ≤ 70; omega) (by show _ + 3624 ≤ 62000; omega) (by decide +kernel) (fun rr Hx _ hq => ?_) (fun _ _ _ hq => by obtain ⟨x, e, -⟩ := hq; cases e)
  obtain ⟨t, er, hz, ho, ht⟩ := hq
  have er := Sum.inl.inj er
  subst er
  have h := h.same hz ho
  show aw E mL_text Q 221 [(5, .ref b), (4, .ref fa), (3, .ref ka), (2, .int (nI cy)), (0, .ref a), (1, .int (nI r))] [.ref t, .ref b] Hx ((k + 1) + 6) ((n1 + 1200) + 3624)
  refine aw_bqs (rest := []) (m := 10) h ht (fun q => absurd q (Nat.not_le.mpr hbl)) (kd_len hr hr4) (by omega) msL_42 rfl rfl (Nat.le_of_ble_eq_true rfl) (by show _ ≤ 70; omega) (by show _ ≤ 62000; omega) (by decide +kernel) (fun Hx vx h => ?_)
  refine aw_lds 55 (by decide +kernel) rfl rfl (by decide +kernel) ?_
  refine aw_bqs (rest := []) (m := 5) h (tt_.c (P := fun _ => False) (by decide +kernel)) id (by decide) (by omega) msL_42 rfl rfl (Nat.le_of_ble_eq_true rfl) (by show _ ≤ 70; omega) (by show _ ≤ 62000; omega) (by decide +kernel) (fun Hx vx h => ?_)
  refine aw_b (pc' := 233) (lv' := [(5, .ref b), (4, .ref fa), (3, .ref ka), (2, .int (nI cy)), (0, .ref a), (1, .int (nI r))]) (st' := [.int (11 : Int32), .ref a, .int (1 : Int32), .ref b]) [(229, .iconst 1, 1, .int (1 : Int32)), (230, .aload_n 0, 1, .null), (231, .bipush 11, 2, .int (11 : Int32))] (by decide +kernel) rfl ?_
  refine aw_cs (rest := [.int (1 : Int32), .ref b]) (st1 := .int (nI (cl_ n f 11)) :: [.int (1 : Int32), .ref b]) (kL_cell (i := 11) hs (by omega)) rfl rfl ck_mL_cell msL_52 nk_mL_cell rfl rfl rfl (Nat.le_of_ble_eq_true rfl) (by show _ ≤ 70; omega) (by show _ ≤ 62000; omega) (by decide +kernel) (fun Hx hz => ?_)
  have h := h.sm hz
  refine aw_b (pc' := 239) (lv' := [(5, .ref b), (4, .ref fa), (3, .ref ka), (2, .int (nI cy)), (0, .ref a), (1, .int (nI r))]) (st' := [.int (500 : Int32), .int (nI (cl_ n f 11)), .int (1 : Int32), .ref b]) [(236, .sipush 500, 3, .int (500 : Int32))] (by decide +kernel) rfl ?_
  have hcl := cl_lt n f 11
  refine aw_irem (x := nI (cl_ n f 11)) (y := nI 500) (fun hc => absurd ((nI_eq (a := 500) (b := 0) (by omega) (by omega)).mp hc) (by omega)) (by decide +kernel) ?_
  rw [pk_rem (by omega) (by omega) (by omega)]
  refine aw_b (pc' := 241) (lv' := [(5, .ref b), (4, .ref fa), (3, .ref ka), (2, .int (nI cy)), (0, .ref a), (1, .int (nI r))]) (st' := [.int (nI 1 + nI (cl_ n f 11 % 500)), .ref b]) [(240, .iadd, 1, .null)] (by decide +kernel) rfl ?_
  rw [nI_add]
  refine aw_bqi (rest := []) hO h (x := 1 + cl_ n f 11 % 500) (by omega) (by omega) msL_45 rfl rfl (Nat.le_of_ble_eq_true rfl) (by show _ ≤ 70; omega) (by show _ ≤ 62000; omega) (by decide +kernel) (fun Hx vx h => ?_)
  refine aw_b (pc' := 246) (lv' := [(5, .ref b), (4, .ref fa), (3, .ref ka), (2, .int (nI cy)), (0, .ref a), (1, .int (nI r))]) (st' := [.int (32 : Int32), .ref b]) [(244, .bipush 32, 2, .int (32 : Int32))] (by decide +kernel) rfl ?_
  refine aw_bqc (rest := []) h (by decide) (by omega) msL_85 rfl rfl (Nat.le_of_ble_eq_true rfl) (by show _ ≤ 70; omega) (by show _ ≤ 62000; omega) (by decide +kernel) (fun Hx vx h => ?_)
  refine aw_b (pc' := 252) (lv' := [(5, .ref b), (4, .ref fa), (3, .ref ka), (2, .int (nI cy)), (0, .ref a), (1, .int (nI r))]) (st' := [.int (12 : Int32), .ref a, .ref b]) [(249, .aload_n 0, 1, .null), (250, .bipush 12, 2, .int (12 : Int32))] (by decide +kernel) rfl ?_
  refine aw_cs (rest := [.ref b]) (st1 := .int (nI (cl_ n f 12)) :: [.ref b]) (kL_cell (i := 12) hs (by omega)) rfl rfl ck_mL_cell msL_52 nk_mL_cell rfl rfl rfl (Nat.le_of_ble_eq_true rfl) (by show _ ≤ 70; omega) (by show _ ≤ 62000; omega) (by decide +kernel) (fun Hx hz => ?_)
  have h := h.sm hz
  refine aw_ldc kcL_100 (by decide +kernel) ?_
  have hcl := cl_lt n f 12
  refine aw_irem (x := nI (cl_ n f 12)) (y := nI 32768) (fun hc => absurd ((nI_eq (a := 32768) (b := 0) (by omega) (by omega)).mp hc) (by omega)) (by decide +kernel) ?_
  rw [pk_rem (by omega) (by omega) (by omega)]
  refine aw_bqi (rest := []) hO h (x := cl_ n f 12 % 32768) (by omega) (by omega) msL_45 rfl rfl (Nat.le_of_ble_eq_true rfl) (by show _ ≤ 70; omega) (by show _ ≤ 62000; omega) (by decide +kernel) (fun Hx vx h => ?_)
  refine aw_lds 56 (by decide +kernel) rfl rfl (by decide +kernel) ?_
  refine aw_bqs (rest := []) (m := 5) h (tt_.c (P := fun _ => False) (by decide +kernel)) id (by decide) (by omega) msL_42 rfl rfl (Nat.le_of_ble_eq_true rfl) (by show _ ≤ 70; omega) (by show _ ≤ 62000; omega) (by decide +kernel) (fun Hx vx h => ?_)
  refine aw_b (pc' := 271) (lv' := [(5, .ref b), (4, .ref fa), (3, .ref ka), (2, .int (nI cy)), (0, .ref a), (1, .int (nI r))]) (st' := [.int (13 : Int32), .ref a, .ref fa, .ref b]) [(266, .aload 4, 2, .null), (268, .aload_n 0, 1, .null), (269, .bipush 13, 2, .int (13 : Int32))] (by decide +kernel) rfl ?_
  refine aw_cs (rest := [.ref fa, .ref b]) (st1 := .int (nI (cl_ n f 13)) :: [.ref fa, .ref b]) (kL_cell (i := 13) hs (by omega)) rfl rfl ck_mL_cell msL_52 nk_mL_cell rfl rfl rfl (Nat.le_of_ble_eq_true rfl) (by show _ ≤ 70; omega) (by show _ ≤ 62000; omega) (by decide +kernel) (fun Hx hz => ?_)
  have h := h.sm hz
  refine aw_b (pc' := 276) (lv' := [(5, .ref b), (4, .ref fa), (3, .ref ka), (2, .int (nI cy)), (0, .ref a), (1, .int (nI r))]) (st' := [.int (6 : Int32), .int (nI (cl_ n f 13)), .ref fa, .ref b]) [(274, .bipush 6, 2, .int (6 : Int32))] (by decide +kernel) rfl ?_
  have hcl := cl_lt n f 13
  refine aw_irem (x := nI (cl_ n f 13)) (y := nI 6) (fun hc => absurd ((nI_eq (a := 6) (b := 0) (by omega) (by omega)).mp hc) (by omega)) (by decide +kernel) ?_
  rw [pk_rem (by omega) (by omega) (by omega)]
  obtain ⟨fk, hA, hfk⟩ := hfa.keep (Nat.le_refl _) hfl h.2.2.2.2
  obtain ⟨t, et, ht⟩ := hfk (cl_ n f 13 % 6) (by omega)
  refine aw_aaldS hA (ib_in (ib_n (k := cl_ n f 13 % 6) (N := 6) (by omega) (by omega))) (by decide +kernel) ?_
  rw [show (nI (cl_ n f 13 % 6)).toNatClampNeg = cl_ n f 13 % 6 from ix_n (by omega), et]
  show aw E mL_text Q 278 [(5, .ref b), (4, .ref fa), (3, .ref ka), (2, .int (nI cy)), (0, .ref a), (1, .int (nI r))] [.ref t, .ref b] _ _ _
  refine aw_bqs (rest := []) (m := 6) h ht (fun q => absurd q (Nat.not_lt.mpr h.2.2.1)) (foe_len _) (by omega) msL_42 rfl rfl (Nat.le_of_ble_eq_true rfl) (by show _ ≤ 70; omega) (by show _ ≤ 62000; omega) (by decide +kernel) (fun Hx vx h => ?_)
  refine aw_b (pc' := 285) (lv' := [(5, .ref b), (4, .ref fa), (3, .ref ka), (2, .int (nI cy)), (0, .ref a), (1, .int (nI r))]) (st' := [.int (14 : Int32), .ref a]) [(281, .pop, 1, .null), (282, .aload_n 0, 1, .null), (283, .bipush 14, 2, .int (14 : Int32))] (by decide +kernel) rfl ?_
  refine aw_cs (rest := []) (st1 := .int (nI (cl_ n f 14)) :: []) (kL_cell (i := 14) hs (by omega)) rfl rfl ck_mL_cell msL_52 nk_mL_cell rfl rfl rfl (Nat.le_of_ble_eq_true rfl) (by show _ ≤ 70; omega) (by show _ ≤ 62000; omega) (by decide +kernel) (fun Hx hz => ?_)
  have h := h.sm hz
  refine aw_b (pc' := 289) (lv' := [(5, .ref b), (4, .ref fa), (3, .ref ka), (2, .int (nI cy)), (0, .ref a), (1, .int (nI r))]) (st' := [.int (5 : Int32), .int (nI (cl_ n f 14))]) [(288, .iconst 5, 1, .int (5 : Int32))] (by decide +kernel) rfl ?_
  have hcl := cl_lt n f 14
  refine aw_irem (x := nI (cl_ n f 14)) (y := nI 5) (fun hc => absurd ((nI_eq (a := 5) (b := 0) (by omega) (by omega)).mp hc) (by omega)) (by decide +kernel) ?_
  rw [pk_rem (by omega) (by omega) (by omega)]
  refine aw_b (pc' := 295) (lv' := [(7, .int (0 : Int32)), (6, .int (nI (cl_ n f 14 % 5))), (5, .ref b), (4, .ref fa), (3, .ref ka), (2, .int (nI cy)), (0, .ref a), (1, .int (nI r))]) (st' := []) [(290, .istore 6, 2, .null), (292, .iconst 0, 1, .int (0 : Int32)), (293, .istore 7, 2, .null)] (by decide +kernel) rfl ?_
  exact kk _ _ _ _ (by omega) (by omega) h
theorem xt_c2 (hs : scr_ E a n f) (hO : exo_ E) (hr4 : r ≤ 4) (hka : arr_ E Hb ka 5 (knd_ n f) Hb.size) (hkl : ka < Hb.size) (kk : ∀ (H1 : Heap) (v' k1 m1 : Nat), k1 ≤ k + 2 * r → m1 ≤ n1 + 2400 * r → bq_ E Hb H1 b v' (xt_2 n f r L) (N + 16 * r) → aw E mL_text Q 204 [(6, .int (nI r)), (5, .ref b), (4, .ref fa), (3, .ref ka), (2, .int (nI cy)), (0, .ref a), (1, .int (nI r))] [] H1 k1 m1) (hk : k + 8 ≤ 70) (hn : n1 + 9600 ≤ 62000) (hN : N ≤ 400) : ∀ (d j : Nat) {H : Heap} {v k1 m1 : Nat}, j + d = r → k1 ≤ k + 2 * j → m1 ≤ n1 + 2400 * j → bq_ E Hb H b v (xt_2 n f j L) (N + 16 * j) → aw E mL_text Q 169 [(6, .int (nI j)), (5, .ref b), (4, .ref fa), (3, .ref ka), (2, .int (nI cy)), (0, .ref a), (1, .int (nI r))] [] H k1 m1 := by
  intro d
  induction d with
  | zero =>
    intro j H v k1 m1 hj hk1 hm1 h
    have hj : r = j := hj.symm
    subst hj
    refine aw_b (pc' := 172) (lv' := [(6, .int (nI r)), (5, .ref b), (4, .ref fa), (3, .ref ka), (2, .int (nI cy)), (0, .ref a), (1, .int (nI r))]) (st' := [.int (nI r), .int (nI r)]) [(169, .iload 6, 2, .null), (171, .iload_n 1, 1, .null)] (by decide +kernel) rfl ?_
    refine aw_ic_ge (off := 32) 204 (by decide) (by decide +kernel) (fun _ => ?_) (fun hc => absurd (Int32.le_refl _) hc)
    exact kk _ _ _ _ (by omega) (by omega) h
  | succ d ih =>
    intro j H v k1 m1 hj hk1 hm1 h
    refine aw_b (pc' := 172) (lv' := [(6, .int (nI j)), (5, .ref b), (4, .ref fa), (3, .ref ka), (2, .int (nI cy)), (0, .ref a), (1, .int (nI r))]) (st' := [.int (nI r), .int (nI j)]) [(169, .iload 6, 2, .null), (171, .iload_n 1, 1, .null)] (by decide +kernel) rfl ?_
    refine aw_ic_ge (off := 32) 204 (by decide) (by decide +kernel) (fun hc => absurd hc (nI_ge (by omega) (by omega))) (fun _ => ?_)
    refine aw_b (pc' := 177) (lv' := [(6, .int (nI j)), (5, .ref b), (4, .ref fa), (3, .ref ka), (2, .int (nI cy)), (0, .ref a), (1, .int (nI r))]) (st' := [.ref b]) [(175, .aload 5, 2, .null)] (by decide +kernel) rfl ?_
    refine aw_lds 50 (by decide +kernel) rfl rfl (by decide +kernel) ?_
    refine aw_bqs (rest := []) (m := 6) h (tt_.c (P := fun _ => False) (by decide +kernel)) id (by decide) (by omega) msL_42 rfl rfl (Nat.le_of_ble_eq_true rfl) (by show _ ≤ 70; omega) (by show _ ≤ 62000; omega) (by decide +kernel) (fun Hx vx h => ?_)
    refine aw_b (pc' := 187) (lv' := [(6, .int (nI j)), (5, .ref b), (4, .ref fa), (3, .ref ka), (2, .int (nI cy)), (0, .ref a), (1, .int (nI r))]) (st' := [.int (nI j), .int (5 : Int32), .ref a, .ref ka, .ref b]) [(182, .aload_n 3, 1, .null), (183, .aload_n 0, 1, .null), (184, .iconst 5, 1, .int (5 : Int32)), (185, .iload 6, 2, .null)] (by decide +kernel) rfl ?_
    refine aw_b (pc' := 188) (lv' := [(6, .int (nI j)), (5, .ref b), (4, .ref fa), (3, .ref ka), (2, .int (nI cy)), (0, .ref a), (1, .int (nI r))]) (st' := [.int (nI 5 + nI (j)), .ref a, .ref ka, .ref b]) [(187, .iadd, 1, .null)] (by decide +kernel) rfl ?_
    rw [nI_add]
    refine aw_cs (rest := [.ref ka, .ref b]) (st1 := .int (nI (cl_ n f (5 + j))) :: [.ref ka, .ref b]) (kL_cell (i := (5 + j)) hs (by omega)) rfl rfl ck_mL_cell msL_52 nk_mL_cell rfl rfl rfl (Nat.le_of_ble_eq_true rfl) (by show _ ≤ 70; omega) (by show _ ≤ 62000; omega) (by decide +kernel) (fun Hx hz => ?_)
    have h := h.sm hz
    refine aw_b (pc' := 192) (lv' := [(6, .int (nI j)), (5, .ref b), (4, .ref fa), (3, .ref ka), (2, .int (nI cy)), (0, .ref a), (1, .int (nI r))]) (st' := [.int (5 : Int32), .int (nI (cl_ n f (5 + j))), .ref ka, .ref b]) [(191, .iconst 5, 1, .int (5 : Int32))] (by decide +kernel) rfl ?_
    have hcl := cl_lt n f (5 + j)
    refine aw_irem (x := nI (cl_ n f (5 + j))) (y := nI 5) (fun hc => absurd ((nI_eq (a := 5) (b := 0) (by omega) (by omega)).mp hc) (by omega)) (by decide +kernel) ?_
    rw [pk_rem (by omega) (by omega) (by omega)]
    obtain ⟨fk, hA, hfk⟩ := hka.keep (Nat.le_refl _) hkl h.2.2.2.2
    obtain ⟨t, et, ht⟩ := hfk (cl_ n f (5 + j) % 5) (by omega)
    refine aw_aaldS hA (ib_in (ib_n (k := cl_ n f (5 + j) % 5) (N := 5) (by omega) (by omega))) (by decide +kernel) ?_
    rw [show (nI (cl_ n f (5 + j) % 5)).toNatClampNeg = cl_ n f (5 + j) % 5 from ix_n (by omega), et]
    show aw E mL_text Q 194 [(6, .int (nI j)), (5, .ref b), (4, .ref fa), (3, .ref ka), (2, .int (nI cy)), (0, .ref a), (1, .int (nI r))] [.ref t, .ref b] _ _ _
    refine aw_bqs (rest := []) (m := 10) h ht (fun q => absurd q (Nat.not_lt.mpr h.2.2.1)) (knd_len _) (by omega) msL_42 rfl rfl (Nat.le_of_ble_eq_true rfl) (by show _ ≤ 70; omega) (by show _ ≤ 62000; omega) (by decide +kernel) (fun Hx vx h => ?_)
    refine aw_b (pc' := 169) (lv' := [(6, .int ((nI j) + (1 : Int32))), (5, .ref b), (4, .ref fa), (3, .ref ka), (2, .int (nI cy)), (0, .ref a), (1, .int (nI r))]) (st' := []) [(197, .pop, 1, .null), (198, .iinc 6 1, 3, .int (1 : Int32)), (201, .goto (-32), 3, .null)] (by decide +kernel) rfl ?_
    rw [nI_1]
    exact ih (j + 1) (by omega) (by omega) (by omega) ⟨h.1, Nat.le_trans h.2.1 (by omega), h.2.2⟩
theorem msL_82 : Cond.methodLink RL 82 yJ4_init_a7421 ∈ uw_ := (uw_mem 931 (by decide +kernel) (by decide +kernel))
set_option maxRecDepth 100000 in
theorem xt_c1 (hs : scr_ E a n f) (hO : exo_ E) (hcy : 2 ≤ cy) (hcy2 : cy ≤ 41) (hf : ev_fr E H.size) (hk : k + 10 ≤ 70) (hn : n1 + 10220 ≤ 62000) (kk : ∀ (H1 : Heap) (v' k1 m1 : Nat), k1 ≤ k + 10 → m1 ≤ n1 + 10220 → bq_ E H H1 H.size v' (xt_1 n f cy) (6 + 5 + 1 + 5 + 6 + 5 + 1 + 5) → aw E mL_text Q 169 [(6, .int (0 : Int32)), (5, .ref (H.size)), (4, .ref fa), (3, .ref ka), (2, .int (nI cy)), (0, .ref a), (1, .int (nI r))] [] H1 k1 m1) : aw E mL_text Q 102 [(4, .ref fa), (3, .ref ka), (2, .int (nI cy)), (0, .ref a), (1, .int (nI r))] [] H k n1 := by
  refine aw_bqw (w := 48) (N := 6) hf (by decide +kernel) (by decide) nwL_37 rfl rfl msL_82 rfl (by decide) (by show _ ≤ 70; omega) (by show _ ≤ 62000; omega) (by decide +kernel) (by decide +kernel) (by decide +kernel) (by decide +kernel) (fun Hx vx h => ?_)
  refine aw_b (pc' := 112) (lv' := [(4, .ref fa), (3, .ref ka), (2, .int (nI cy)), (0, .ref a), (1, .int (nI r))]) (st' := [.int (nI cy), .ref (H.size)]) [(111, .iload_n 2, 1, .null)] (by decide +kernel) rfl ?_
  refine aw_bqi (rest := []) hO h (x := cy) (by omega) (by omega) msL_45 rfl rfl (Nat.le_of_ble_eq_true rfl) (by show _ ≤ 70; omega) (by show _ ≤ 62000; omega) (by decide +kernel) (fun Hx vx h => ?_)
  refine aw_b (pc' := 117) (lv' := [(4, .ref fa), (3, .ref ka), (2, .int (nI cy)), (0, .ref a), (1, .int (nI r))]) (st' := [.int (32 : Int32), .ref (H.size)]) [(115, .bipush 32, 2, .int (32 : Int32))] (by decide +kernel) rfl ?_
  refine aw_bqc (rest := []) h (by decide) (by omega) msL_85 rfl rfl (Nat.le_of_ble_eq_true rfl) (by show _ ≤ 70; omega) (by show _ ≤ 62000; omega) (by decide +kernel) (fun Hx vx h => ?_)
  refine aw_b (pc' := 122) (lv' := [(4, .ref fa), (3, .ref ka), (2, .int (nI cy)), (0, .ref a), (1, .int (nI r))]) (st' := [.int (2 : Int32), .ref a, .ref (H.size)]) [(120, .aload_n 0, 1, .null), (121, .iconst 2, 1, .int (2 : Int32))] (by decide +kernel) rfl ?_
  refine aw_cs (rest := [.ref (H.size)]) (st1 := .int (nI (cl_ n f 2)) :: [.ref (H.size)]) (kL_cell (i := 2) hs (by omega)) rfl rfl ck_mL_cell msL_52 nk_mL_cell rfl rfl rfl (Nat.le_of_ble_eq_true rfl) (by show _ ≤ 70; omega) (by show _ ≤ 62000; omega) (by decide +kernel) (fun Hx hz => ?_)
  have h := h.sm hz
  refine aw_b (pc' := 126) (lv' := [(4, .ref fa), (3, .ref ka), (2, .int (nI cy)), (0, .ref a), (1, .int (nI r))]) (st' := [.int (nI cy), .int (nI (cl_ n f 2)), .ref (H.size)]) [(125, .iload_n 2, 1, .null)] (by decide +kernel) rfl ?_
  have hcl := cl_lt n f 2
  refine aw_irem (x := nI (cl_ n f 2)) (y := nI cy) (fun hc => absurd ((nI_eq (a := cy) (b := 0) (by omega) (by omega)).mp hc) (by omega)) (by decide +kernel) ?_
  rw [pk_rem (by omega) (by omega) (by omega)]
  have hlt := Nat.mod_lt (cl_ n f 2) (show 0 < cy by omega)
  refine aw_bqi (rest := []) hO h (x := cl_ n f 2 % cy) (by omega) (by omega) msL_45 rfl rfl (Nat.le_of_ble_eq_true rfl) (by show _ ≤ 70; omega) (by show _ ≤ 62000; omega) (by decide +kernel) (fun Hx vx h => ?_)
  refine aw_lds 49 (by decide +kernel) rfl rfl (by decide +kernel) ?_
  refine aw_bqs (rest := []) (m := 6) h (tt_.c (P := fun _ => False) (by decide +kernel)) id (by decide) (by omega) msL_42 rfl rfl (Nat.le_of_ble_eq_true rfl) (by show _ ≤ 70; omega) (by show _ ≤ 62000; omega) (by decide +kernel) (fun Hx vx h => ?_)
  refine aw_b (pc' := 137) (lv' := [(4, .ref fa), (3, .ref ka), (2, .int (nI cy)), (0, .ref a), (1, .int (nI r))]) (st' := [.int (3 : Int32), .ref a, .ref (H.size)]) [(135, .aload_n 0, 1, .null), (136, .iconst 3, 1, .int (3 : Int32))] (by decide +kernel) rfl ?_
  refine aw_cs (rest := [.ref (H.size)]) (st1 := .int (nI (cl_ n f 3)) :: [.ref (H.size)]) (kL_cell (i := 3) hs (by omega)) rfl rfl ck_mL_cell msL_52 nk_mL_cell rfl rfl rfl (Nat.le_of_ble_eq_true rfl) (by show _ ≤ 70; omega) (by show _ ≤ 62000; omega) (by decide +kernel) (fun Hx hz => ?_)
  have h := h.sm hz
  refine aw_b (pc' := 142) (lv' := [(4, .ref fa), (3, .ref ka), (2, .int (nI cy)), (0, .ref a), (1, .int (nI r))]) (st' := [.int (20 : Int32), .int (nI (cl_ n f 3)), .ref (H.size)]) [(140, .bipush 20, 2, .int (20 : Int32))] (by decide +kernel) rfl ?_
  have hcl := cl_lt n f 3
  refine aw_irem (x := nI (cl_ n f 3)) (y := nI 20) (fun hc => absurd ((nI_eq (a := 20) (b := 0) (by omega) (by omega)).mp hc) (by omega)) (by decide +kernel) ?_
  rw [pk_rem (by omega) (by omega) (by omega)]
  refine aw_bqi (rest := []) hO h (x := cl_ n f 3 % 20) (by omega) (by omega) msL_45 rfl rfl (Nat.le_of_ble_eq_true rfl) (by show _ ≤ 70; omega) (by show _ ≤ 62000; omega) (by decide +kernel) (fun Hx vx h => ?_)
  refine aw_b (pc' := 148) (lv' := [(4, .ref fa), (3, .ref ka), (2, .int (nI cy)), (0, .ref a), (1, .int (nI r))]) (st' := [.int (32 : Int32), .ref (H.size)]) [(146, .bipush 32, 2, .int (32 : Int32))] (by decide +kernel) rfl ?_
  refine aw_bqc (rest := []) h (by decide) (by omega) msL_85 rfl rfl (Nat.le_of_ble_eq_true rfl) (by show _ ≤ 70; omega) (by show _ ≤ 62000; omega) (by decide +kernel) (fun Hx vx h => ?_)
  refine aw_b (pc' := 154) (lv' := [(4, .ref fa), (3, .ref ka), (2, .int (nI cy)), (0, .ref a), (1, .int (nI r))]) (st' := [.int (4 : Int32), .ref a, .int (1 : Int32), .ref (H.size)]) [(151, .iconst 1, 1, .int (1 : Int32)), (152, .aload_n 0, 1, .null), (153, .iconst 4, 1, .int (4 : Int32))] (by decide +kernel) rfl ?_
  refine aw_cs (rest := [.int (1 : Int32), .ref (H.size)]) (st1 := .int (nI (cl_ n f 4)) :: [.int (1 : Int32), .ref (H.size)]) (kL_cell (i := 4) hs (by omega)) rfl rfl ck_mL_cell msL_52 nk_mL_cell rfl rfl rfl (Nat.le_of_ble_eq_true rfl) (by show _ ≤ 70; omega) (by show _ ≤ 62000; omega) (by decide +kernel) (fun Hx hz => ?_)
  have h := h.sm hz
  refine aw_b (pc' := 159) (lv' := [(4, .ref fa), (3, .ref ka), (2, .int (nI cy)), (0, .ref a), (1, .int (nI r))]) (st' := [.int (9 : Int32), .int (nI (cl_ n f 4)), .int (1 : Int32), .ref (H.size)]) [(157, .bipush 9, 2, .int (9 : Int32))] (by decide +kernel) rfl ?_
  have hcl := cl_lt n f 4
  refine aw_irem (x := nI (cl_ n f 4)) (y := nI 9) (fun hc => absurd ((nI_eq (a := 9) (b := 0) (by omega) (by omega)).mp hc) (by omega)) (by decide +kernel) ?_
  rw [pk_rem (by omega) (by omega) (by omega)]
  refine aw_b (pc' := 161) (lv' := [(4, .ref fa), (3, .ref ka), (2, .int (nI cy)), (0, .ref a), (1, .int (nI r))]) (st' := [.int (nI 1 + nI (cl_ n f 4 % 9)), .ref (H.size)]) [(160, .iadd, 1, .null)] (by decide +kernel) rfl ?_
  rw [nI_add]
  refine aw_bqi (rest := []) hO h (x := 1 + cl_ n f 4 % 9) (by omega) (by omega) msL_45 rfl rfl (Nat.le_of_ble_eq_true rfl) (by show _ ≤ 70; omega) (by show _ ≤ 62000; omega) (by decide +kernel) (fun Hx vx h => ?_)
  refine aw_b (pc' := 169) (lv' := [(6, .int (0 : Int32)), (5, .ref (H.size)), (4, .ref fa), (3, .ref ka), (2, .int (nI cy)), (0, .ref a), (1, .int (nI r))]) (st' := []) [(164, .astore 5, 2, .null), (166, .iconst 0, 1, .int (0 : Int32)), (167, .istore 6, 2, .null)] (by decide +kernel) rfl ?_
  exact kk _ _ _ _ (by omega) (by omega) h
end LT
