/-! the methods of StringBuilder, of texts in one byte a letter -/
/-- bytes of a row fit -/
def bf_ (g : Nat → Int32) (m : Nat) : Prop := ∀ j, j < m → fits .byte (.int (g j)) = true
/-- a builder at b whose bytes lie in the row v -/
def bu_ (E : ev_) (H : Heap) (b v : Nat) (L : List Int32) : Prop := lt_ L ∧ ev_fr E b ∧ b < v ∧ at_ E H b (.inr (9, [.ref v, .int 0, .int 0, .int (nI L.length)])) ∧ ∃ (m : Nat) (g : Nat → Int32), at_ E H v (.inl (E.2.1 1, m, .inl g)) ∧ L.length ≤ m ∧ m ≤ 1200 ∧ (∀ j, j < L.length → g j = L.getD j 0) ∧ bf_ g m
/-- what an appending changes -/
def ef_ (H Hn : Heap) (b v v' : Nat) : Prop := H.size ≤ Hn.size ∧ (v' = v ∨ H.size ≤ v') ∧ ∀ q : Nat, q < H.size → q ≠ b → q ≠ v → Hn[q]? = H[q]?
theorem mx_nI {a b : Nat} (ha : a < 2147483648) (hb : b < 2147483648) : (if nI a < nI b then nI b else nI a) = nI (max a b) := by
  by_cases h : a < b
  · rw [if_pos (nI_lt h (by omega)), Nat.max_eq_right (by omega)]
  · rw [if_neg (nI_nlt (by omega) (by omega)), Nat.max_eq_left (by omega)]
theorem mn_nI {a b : Nat} (ha : a < 2147483648) (hb : b < 2147483648) : (if nI b < nI a then nI b else nI a) = nI (min a b) := by
  by_cases h : b < a
  · rw [if_pos (nI_lt h (by omega)), Nat.min_eq_right (by omega)]
  · rw [if_neg (nI_nlt (by omega) (by omega)), Nat.min_eq_left (by omega)]
def mJ5i : mt_ := (yJ5_isLatin1_aae02, cJ5_isLatin1_aae02, 1, some .boolean, [], { frames := 0, locals := 0, cells := 0, slots := 0 })
theorem ck_mJ5i : cok_ mJ5i := ⟨(uw_mem 791 (by decide +kernel) (by decide +kernel)), (uw_mem 39 (by decide +kernel) (by decide +kernel)), by decide +kernel, by decide +kernel⟩
theorem nk_mJ5i : nok_ mJ5i 0 := by decide +kernel
theorem imJ5_isLatin1_aae02 : Cond.instanceMethod yJ5_isLatin1_aae02 ∈ uw_ := (uw_mem 788 (by decide +kernel) (by decide +kernel))
theorem smJ5_isLatin1_aae02 : Cond.sameMethod yJ5_isLatin1_aae02.cls yJ5_isLatin1_aae02.cls yJ5_isLatin1_aae02.name yJ5_isLatin1_aae02.desc ∈ uw_ := (uw_mem 789 (by decide +kernel) (by decide +kernel))
def mJ8n : mt_ := (yJ8_newLength_cabcc, cJ8_newLength_cabcc, 4, some .int, [], { frames := 1, locals := 24, cells := 0, slots := 0 })
theorem ck_mJ8n : cokS_ mJ8n := ⟨⟨(uw_mem 766 (by decide +kernel) (by decide +kernel)), (uw_mem 43 (by decide +kernel) (by decide +kernel)), by decide +kernel, by decide +kernel⟩, (uw_mem 765 (by decide +kernel) (by decide +kernel))⟩
theorem nk_mJ8n : nok_ mJ8n 3 := by decide +kernel
def mJ5n : mt_ := (yJ5_newCapacity_0f7a4, cJ5_newCapacity_0f7a4, 6, some .int, [], { frames := 2, locals := 47, cells := 0, slots := 0 })
theorem ck_mJ5n : cok_ mJ5n := ⟨(uw_mem 763 (by decide +kernel) (by decide +kernel)), (uw_mem 39 (by decide +kernel) (by decide +kernel)), by decide +kernel, by decide +kernel⟩
theorem nk_mJ5n : nok_ mJ5n 1 := by decide +kernel
theorem imJ5_newCapacity_0f7a4 : Cond.instanceMethod yJ5_newCapacity_0f7a4 ∈ uw_ := (uw_mem 762 (by decide +kernel) (by decide +kernel))
theorem pmJ5_newCapacity_0f7a4 : Cond.privateMethod yJ5_newCapacity_0f7a4 ∈ lw_tbl := List.mem_of_getElem? (i := 761) (by decide +kernel)
def mJ7c : mt_ := (yJ7_copyOf_9075b, cJ7_copyOf_9075b, 3, some (.array .byte), [], { frames := 1, locals := 60, cells := 1, slots := 1200 })
theorem ck_mJ7c : cokS_ mJ7c := ⟨⟨(uw_mem 777 (by decide +kernel) (by decide +kernel)), (uw_mem 44 (by decide +kernel) (by decide +kernel)), by decide +kernel, by decide +kernel⟩, (uw_mem 776 (by decide +kernel) (by decide +kernel))⟩
theorem nk_mJ7c : nok_ mJ7c 2 := by decide +kernel
def mJ5e : mt_ := (yJ5_ensureCapacityInternal_d00df, cJ5_ensureCapacityInternal_d00df, 3, none, [], { frames := 3, locals := 82, cells := 1, slots := 1200 })
theorem ck_mJ5e : cok_ mJ5e := ⟨(uw_mem 759 (by decide +kernel) (by decide +kernel)), (uw_mem 39 (by decide +kernel) (by decide +kernel)), by decide +kernel, by decide +kernel⟩
theorem nk_mJ5e : nok_ mJ5e 1 := by decide +kernel
theorem imJ5_ensureCapacityInternal_d00df : Cond.instanceMethod yJ5_ensureCapacityInternal_d00df ∈ uw_ := (uw_mem 758 (by decide +kernel) (by decide +kernel))
theorem pmJ5_ensureCapacityInternal_d00df : Cond.privateMethod yJ5_ensureCapacityInternal_d00df ∈ lw_tbl := List.mem_of_getElem? (i := 757) (by decide +kernel)
def mJ5f : mt_ := (yJ5_inflateIfNeededFor_a7421, cJ5_inflateIfNeededFor_a7421, 2, none, [], { frames := 1, locals := 20, cells := 0, slots := 0 })
theorem ck_mJ5f : cok_ mJ5f := ⟨(uw_mem 815 (by decide +kernel) (by decide +kernel)), (uw_mem 39 (by decide +kernel) (by decide +kernel)), by decide +kernel, by decide +kernel⟩
theorem nk_mJ5f : nok_ mJ5f 1 := by decide +kernel
theorem imJ5_inflateIfNeededFor_a7421 : Cond.instanceMethod yJ5_inflateIfNeededFor_a7421 ∈ uw_ := (uw_mem 814 (by decide +kernel) (by decide +kernel))
theorem pmJ5_inflateIfNeededFor_a7421 : Cond.privateMethod yJ5_inflateIfNeededFor_a7421 ∈ lw_tbl := List.mem_of_getElem? (i := 813) (by decide +kernel)
def mJ5p : mt_ := (yJ5_putStringAt_47b60, cJ5_putStringAt_47b60, 3, none, [], { frames := 2, locals := 83, cells := 0, slots := 0 })
theorem ck_mJ5p : cok_ mJ5p := ⟨(uw_mem 811 (by decide +kernel) (by decide +kernel)), (uw_mem 39 (by decide +kernel) (by decide +kernel)), by decide +kernel, by decide +kernel⟩
theorem nk_mJ5p : nok_ mJ5p 2 := by decide +kernel
theorem imJ5_putStringAt_47b60 : Cond.instanceMethod yJ5_putStringAt_47b60 ∈ uw_ := (uw_mem 810 (by decide +kernel) (by decide +kernel))
theorem pmJ5_putStringAt_47b60 : Cond.privateMethod yJ5_putStringAt_47b60 ∈ lw_tbl := List.mem_of_getElem? (i := 809) (by decide +kernel)
def mJ5s : mt_ := (yJ5_append_cf1ce, cJ5_append_cf1ce, 3, some (.object "java/lang/AbstractStringBuilder"), [], { frames := 4, locals := 105, cells := 1, slots := 1200 })
theorem ck_mJ5s : cok_ mJ5s := ⟨(uw_mem 751 (by decide +kernel) (by decide +kernel)), (uw_mem 39 (by decide +kernel) (by decide +kernel)), by decide +kernel, by decide +kernel⟩
theorem nk_mJ5s : nok_ mJ5s 1 := by decide +kernel
theorem imJ5_append_cf1ce : Cond.instanceMethod yJ5_append_cf1ce ∈ uw_ := (uw_mem 750 (by decide +kernel) (by decide +kernel))
theorem smJ5_append_cf1ce : Cond.sameMethod yJ5_append_cf1ce.cls yJ5_append_cf1ce.cls yJ5_append_cf1ce.name yJ5_append_cf1ce.desc ∈ uw_ := (uw_mem 1475 (by decide +kernel) (by decide +kernel))
section SM
variable {E : ev_} {Q : po_} {H : Heap} {b v m n q : Nat} {z : Int32} {g : Nat → Int32} {L : List Int32}
theorem fsJ5_18 : Cond.fieldLink RJ5 18 "java/lang/String" "COMPACT_STRINGS" "Z" ∈ uw_ := (uw_mem 723 (by decide +kernel) (by decide +kernel))
theorem fgJ5_22_9 : fok_ RJ5 22 9 1 := ⟨_, _, _, rfl, by decide, (uw_mem 732 (by decide +kernel) (by decide +kernel)), wkJ4⟩
theorem kJ5i (hb : at_ E H b (.inr (9, [.ref v, .int 0, .int 0, .int z]))) : sp_ E mJ5i [.ref b] H (po1 (.inl (some (.int 1))) (fun Hn => sm_ H Hn 0 0)) := by
  intro hok hbs
  refine sp_of (by decide +kernel) rfl rfl ?_ hok hbs
  refine aw_lv (lv' := [(0, .ref b)]) [0] rfl ?_
  refine aw_gst hok.2.2.2.2.2.2.1 fsJ5_18 (by decide +kernel) ?_
  refine aw_if_eq (off := 14) 17 (by decide) (by decide +kernel) (fun hc => absurd hc (by decide)) (fun _ => ?_)
  refine aw_b (pc' := 7) (lv' := [(0, .ref b)]) (st' := [.ref b]) [(6, .aload_n 0, 1, .null)] (by decide +kernel) rfl ?_
  refine aw_get fgJ5_22_9 hb rfl (by decide +kernel) ?_
  refine aw_if_ne (off := 7) 17 (by decide) (by decide +kernel) (fun hc => absurd rfl hc) (fun _ => ?_)
  refine aw_b (pc' := 18) (lv' := [(0, .ref b)]) (st' := [.int (1 : Int32)]) [(13, .iconst 1, 1, .int (1 : Int32)), (14, .goto 4, 3, .null)] (by decide +kernel) rfl ?_
  exact aw_tret rfl (by decide +kernel) (Nat.zero_le _) (Nat.zero_le _) (by decide +kernel) ⟨rfl, sm_.rfl'⟩
theorem mtJ8_194 : ml_ RJ8 194 Lib.Math.max.name Lib.Math.max.code 2 .int := ⟨(uw_mem 767 (by decide +kernel) (by decide +kernel)), (uw_mem 768 (by decide +kernel) (by decide +kernel)), (uw_mem 38 (by decide +kernel) (by decide +kernel)), (uw_mem 769 (by decide +kernel) (by decide +kernel))⟩
theorem kcJ8_200 : Cond.constant RJ8 200 (2147483639 : Int32) ∈ uw_ := (uw_mem 770 (by decide +kernel) (by decide +kernel))
theorem kJ8n (h : m + max n q < 100000) (h0 : 0 < m + max n q) : sp_ E mJ8n [.int (nI m), .int (nI n), .int (nI q)] H (po1 (.inl (some (.int (nI (m + max n q))))) (fun Hn => sm_ H Hn 0 0)) := by
  refine sp_of (by decide +kernel) rfl rfl ?_
  refine aw_lv (lv' := [(0, .int (nI m)), (1, .int (nI n)), (2, .int (nI q))]) [0, 1, 2] rfl ?_
  refine aw_b (pc' := 3) (lv' := [(0, .int (nI m)), (1, .int (nI n)), (2, .int (nI q))]) (st' := [.int (nI q), .int (nI n), .int (nI m)]) [(0, .iload_n 0, 1, .null), (1, .iload_n 1, 1, .null), (2, .iload_n 2, 1, .null)] (by decide +kernel) rfl ?_
  refine aw_mx (rest := [.int (nI m)]) mtJ8_194 rfl (Nat.le_of_ble_eq_true rfl) (Nat.zero_le _) (Nat.zero_le _) (by decide +kernel) ?_
  rw [mx_nI (by omega) (by omega)]
  refine aw_b (pc' := 7) (lv' := [(0, .int (nI m)), (1, .int (nI n)), (2, .int (nI q))]) (st' := [.int (nI m + nI (max n q))]) [(6, .iadd, 1, .null)] (by decide +kernel) rfl ?_
  rw [nI_add]
  refine aw_b (pc' := 10) (lv' := [(3, .int (nI (m + max n q))), (0, .int (nI m)), (1, .int (nI n)), (2, .int (nI q))]) (st' := [.int (nI (m + max n q)), .int (0 : Int32)]) [(7, .istore_n 3, 1, .null), (8, .iconst 0, 1, .int (0 : Int32)), (9, .iload_n 3, 1, .null)] (by decide +kernel) rfl ?_
  refine aw_ic_ge (off := 11) 21 (by decide) (by decide +kernel) (fun hc => absurd hc (nI_ge (a := 0) (by omega) (by omega))) (fun _ => ?_)
  refine aw_b (pc' := 14) (lv' := [(3, .int (nI (m + max n q))), (0, .int (nI m)), (1, .int (nI n)), (2, .int (nI q))]) (st' := [.int (nI (m + max n q))]) [(13, .iload_n 3, 1, .null)] (by decide +kernel) rfl ?_
  refine aw_ldc kcJ8_200 (by decide +kernel) ?_
  refine aw_ic_gt (off := 5) 21 (by decide) (by decide +kernel) (fun hc => absurd hc (nI_nlt (b := m + max n q) (a := 2147483639) (by omega) (by omega))) (fun _ => ?_)
  refine aw_b (pc' := 20) (lv' := [(3, .int (nI (m + max n q))), (0, .int (nI m)), (1, .int (nI n)), (2, .int (nI q))]) (st' := [.int (nI (m + max n q))]) [(19, .iload_n 3, 1, .null)] (by decide +kernel) rfl ?_
  exact aw_iret rfl (Nat.zero_le _) (Nat.zero_le _) (by decide +kernel) ⟨rfl, sm_.rfl'⟩
theorem fgJ5_15_9 : fok_ RJ5 15 9 0 := ⟨_, _, _, rfl, by decide, (uw_mem 731 (by decide +kernel) (by decide +kernel)), wkJ4⟩
theorem fgJ5_79_9 : fok_ RJ5 79 9 3 := ⟨_, _, _, rfl, by decide, (uw_mem 734 (by decide +kernel) (by decide +kernel)), wkJ4⟩
theorem msJ5_114 : Cond.methodLink RJ5 114 yJ8_newLength_cabcc ∈ uw_ := (uw_mem 764 (by decide +kernel) (by decide +kernel))
theorem kcJ5_39 : Cond.constant RJ5 39 (2147483647 : Int32) ∈ uw_ := (uw_mem 774 (by decide +kernel) (by decide +kernel))
theorem kJ5n (hb : at_ E H b (.inr (9, [.ref v, .int 0, .int 0, .int z]))) (hv : at_ E H v (.inl (E.2.1 1, m, .inl g))) (hmq : m < q) (hq : q ≤ 600) : sp_ E mJ5n [.ref b, .int (nI q)] H (po1 (.inl (some (.int (nI (m + max (q - m) (m + 2)))))) (fun Hn => sm_ H Hn 0 0)) := by
  refine sp_of (by decide +kernel) rfl rfl ?_
  refine aw_lv (lv' := [(0, .ref b), (1, .int (nI q))]) [0, 1] rfl ?_
  refine aw_b (pc' := 1) (lv' := [(0, .ref b), (1, .int (nI q))]) (st' := [.ref b]) [(0, .aload_n 0, 1, .null)] (by decide +kernel) rfl ?_
  refine aw_get fgJ5_15_9 hb rfl (by decide +kernel) ?_
  refine aw_alen (ci := 1) (ty := .byte) (x := .inl (E.2.1 1, m, .inl g)) rfl hv rfl (by decide +kernel) ?_
  refine aw_b (pc' := 8) (lv' := [(2, .int (nI m)), (0, .ref b), (1, .int (nI q))]) (st' := [.ref b, .int (nI q)]) [(5, .istore_n 2, 1, .null), (6, .iload_n 1, 1, .null), (7, .aload_n 0, 1, .null)] (by decide +kernel) rfl ?_
  refine aw_get fgJ5_22_9 hb rfl (by decide +kernel) ?_
  refine aw_b (pc' := 12) (lv' := [(2, .int (nI m)), (0, .ref b), (1, .int (nI q))]) (st' := [.int (nI q <<< ((0 : Int32) &&& 31))]) [(11, .ishl, 1, .null)] (by decide +kernel) rfl ?_
  rw [sb_shl0]
  refine aw_b (pc' := 15) (lv' := [(3, .int (nI q)), (2, .int (nI m)), (0, .ref b), (1, .int (nI q))]) (st' := [.int (nI m), .int (nI q)]) [(12, .istore_n 3, 1, .null), (13, .iload_n 3, 1, .null), (14, .iload_n 2, 1, .null)] (by decide +kernel) rfl ?_
  refine aw_b (pc' := 16) (lv' := [(3, .int (nI q)), (2, .int (nI m)), (0, .ref b), (1, .int (nI q))]) (st' := [.int (nI q - nI m)]) [(15, .isub, 1, .null)] (by decide +kernel) rfl ?_
  rw [pk_sub (by omega)]
  refine aw_b (pc' := 24) (lv' := [(4, .int (nI (q - m))), (3, .int (nI q)), (2, .int (nI m)), (0, .ref b), (1, .int (nI q))]) (st' := [.ref b, .int (2 : Int32), .int (nI m), .int (nI (q - m)), .int (nI m)]) [(16, .istore 4, 2, .null), (18, .iload_n 2, 1, .null), (19, .iload 4, 2, .null), (21, .iload_n 2, 1, .null), (22, .iconst 2, 1, .int (2 : Int32)), (23, .aload_n 0, 1, .null)] (by decide +kernel) rfl ?_
  refine aw_get fgJ5_22_9 hb rfl (by decide +kernel) ?_
  refine aw_b (pc' := 28) (lv' := [(4, .int (nI (q - m))), (3, .int (nI q)), (2, .int (nI m)), (0, .ref b), (1, .int (nI q))]) (st' := [.int ((2 : Int32) <<< ((0 : Int32) &&& 31)), .int (nI m), .int (nI (q - m)), .int (nI m)]) [(27, .ishl, 1, .null)] (by decide +kernel) rfl ?_
  rw [sb_shl0]
  refine aw_b (pc' := 29) (lv' := [(4, .int (nI (q - m))), (3, .int (nI q)), (2, .int (nI m)), (0, .ref b), (1, .int (nI q))]) (st' := [.int (nI m + nI 2), .int (nI (q - m)), .int (nI m)]) [(28, .iadd, 1, .null)] (by decide +kernel) rfl ?_
  rw [nI_add]
  refine aw_cs (rest := []) (st1 := [.int (nI (m + max (q - m) (m + 2)))]) (kJ8n (by omega) (by omega)) rfl rfl ck_mJ8n msJ5_114 nk_mJ8n rfl rfl rfl (Nat.le_of_ble_eq_true rfl) (Nat.zero_le _) (Nat.zero_le _) (by decide +kernel) (fun H1 hz => ?_)
  have hb := at_same hb (hz.2 _ (at_lt hb) (Nat.lt_or_ge _ 0))
  refine aw_b (pc' := 36) (lv' := [(5, .int (nI (m + max (q - m) (m + 2)))), (4, .int (nI (q - m))), (3, .int (nI q)), (2, .int (nI m)), (0, .ref b), (1, .int (nI q))]) (st' := [.int (nI (m + max (q - m) (m + 2)))]) [(32, .istore 5, 2, .null), (34, .iload 5, 2, .null)] (by decide +kernel) rfl ?_
  refine aw_ldc kcJ5_39 (by decide +kernel) ?_
  refine aw_ic_ne (off := 13) 51 (by decide) (by decide +kernel) (fun _ => ?_) (fun hc => absurd ((nI_eq (b := 2147483647) (by omega) (by omega)).mp hc) (by omega))
  refine aw_b (pc' := 54) (lv' := [(5, .int (nI (m + max (q - m) (m + 2)))), (4, .int (nI (q - m))), (3, .int (nI q)), (2, .int (nI m)), (0, .ref b), (1, .int (nI q))]) (st' := [.ref b, .int (nI (m + max (q - m) (m + 2)))]) [(51, .iload 5, 2, .null), (53, .aload_n 0, 1, .null)] (by decide +kernel) rfl ?_
  refine aw_get fgJ5_22_9 hb rfl (by decide +kernel) ?_
  refine aw_b (pc' := 58) (lv' := [(5, .int (nI (m + max (q - m) (m + 2)))), (4, .int (nI (q - m))), (3, .int (nI q)), (2, .int (nI m)), (0, .ref b), (1, .int (nI q))]) (st' := [.int (nI (m + max (q - m) (m + 2)) >>> ((0 : Int32) &&& 31))]) [(57, .ishr, 1, .null)] (by decide +kernel) rfl ?_
  rw [sb_shr0]
  exact aw_iret rfl (Nat.zero_le _) (Nat.zero_le _) (by decide +kernel) ⟨rfl, hz⟩
theorem mtJ7_304 : ml_ RJ7 304 Lib.Math.min.name Lib.Math.min.code 2 .int := ⟨(uw_mem 785 (by decide +kernel) (by decide +kernel)), (uw_mem 632 (by decide +kernel) (by decide +kernel)), (uw_mem 38 (by decide +kernel) (by decide +kernel)), (uw_mem 633 (by decide +kernel) (by decide +kernel))⟩
theorem cpJ7_150 : al_ RJ7 150 := ⟨(uw_mem 786 (by decide +kernel) (by decide +kernel)), (uw_mem 451 (by decide +kernel) (by decide +kernel)), (uw_mem 450 (by decide +kernel) (by decide +kernel)), (uw_mem 37 (by decide +kernel) (by decide +kernel))⟩
theorem kJ7c (hv : at_ E H v (.inl (E.2.1 1, m, .inl g))) (hf : ev_fr E H.size) (hfit : bf_ g m) (hmn : m < n) (hn : n ≤ 1200) : sp_ E mJ7c [.ref v, .int (nI n)] H (po1 (.inl (some (.ref H.size))) (fun Hn => H.size < Hn.size ∧ (∀ q : Nat, q < H.size → Hn[q]? = H[q]?) ∧ at_ E Hn H.size (.inl (E.2.1 1, n, .inl (va_cpy g (fun _ => 0) 0 0 m))))) := by
  refine sp_of (by decide +kernel) rfl rfl ?_
  refine aw_lv (lv' := [(0, .ref v), (1, .int (nI n))]) [0, 1] rfl ?_
  refine aw_b (pc' := 2) (lv' := [(0, .ref v), (1, .int (nI n))]) (st' := [.ref v, .int (nI n)]) [(0, .iload_n 1, 1, .null), (1, .aload_n 0, 1, .null)] (by decide +kernel) rfl ?_
  refine aw_alen (ci := 1) (ty := .byte) (x := .inl (E.2.1 1, m, .inl g)) rfl hv rfl (by decide +kernel) ?_
  refine aw_ic_ne (off := 11) 14 (by decide) (by decide +kernel) (fun _ => ?_) (fun hc => absurd ((nI_eq (by omega) (by omega)).mp hc) (by omega))
  refine aw_b (pc' := 15) (lv' := [(0, .ref v), (1, .int (nI n))]) (st' := [.int (nI n)]) [(14, .iload_n 1, 1, .null)] (by decide +kernel) rfl ?_
  refine aw_nab (N := n) (by omega) (by decide) (by show 0 + n ≤ 1200; omega) (by decide +kernel) (fun H1 z1 o1 h1 => ?_)
  have hv := at_same hv (o1 _ (at_lt hv))
  refine aw_b (pc' := 23) (lv' := [(2, .ref (H.size)), (0, .ref v), (1, .int (nI n))]) (st' := [.ref v, .int (0 : Int32), .ref (H.size), .int (0 : Int32), .ref v]) [(17, .astore_n 2, 1, .null), (18, .aload_n 0, 1, .null), (19, .iconst 0, 1, .int (0 : Int32)), (20, .aload_n 2, 1, .null), (21, .iconst 0, 1, .int (0 : Int32)), (22, .aload_n 0, 1, .null)] (by decide +kernel) rfl ?_
  refine aw_alen (ci := 1) (ty := .byte) (x := .inl (E.2.1 1, m, .inl g)) rfl hv rfl (by decide +kernel) ?_
  refine aw_b (pc' := 25) (lv' := [(2, .ref (H.size)), (0, .ref v), (1, .int (nI n))]) (st' := [.int (nI n), .int (nI m), .int (0 : Int32), .ref (H.size), .int (0 : Int32), .ref v]) [(24, .iload_n 1, 1, .null)] (by decide +kernel) rfl ?_
  refine aw_mn (rest := [.int 0, .ref H.size, .int 0, .ref v]) mtJ7_304 rfl (Nat.le_of_ble_eq_true rfl) (by decide) (by show 0 + n ≤ 1200; omega) (by decide +kernel) ?_
  rw [mn_nI (by omega) (by omega), Nat.min_eq_left (by omega)]
  refine aw_cpx cpJ7_150 hv (Nat.le_refl _) hfit h1 hf (by omega) (by omega) rfl (Nat.le_of_ble_eq_true rfl) (by decide +kernel) (fun H2 h2 z2 => ?_)
  refine aw_b (pc' := 32) (lv' := [(2, .ref (H.size)), (0, .ref v), (1, .int (nI n))]) (st' := [.ref (H.size)]) [(31, .aload_n 2, 1, .null)] (by decide +kernel) rfl ?_
  exact aw_areta rfl (by decide) (by show 0 + n ≤ 1200; omega) (by decide +kernel) ⟨rfl, by rw [z2.1, z1]; omega, fun q hq => (z2.2 q (by omega)).trans (o1 q hq), h2⟩
/-- behind ensureCapacityInternal: the row may be another -/
def ec_ (E : ev_) (H Hn : Heap) (b v m q : Nat) (g : Nat → Int32) (z : Int32) : Prop := ∃ (v' m' : Nat) (g' : Nat → Int32), at_ E Hn b (.inr (9, [.ref v', .int 0, .int 0, .int z])) ∧ at_ E Hn v' (.inl (E.2.1 1, m', .inl g')) ∧ q ≤ m' ∧ m' ≤ 1200 ∧ bf_ g' m' ∧ (∀ j, j < m → g' j = g j) ∧ H.size ≤ Hn.size ∧ (v' = v ∨ H.size ≤ v') ∧ ∀ q : Nat, q < H.size → q ≠ b → Hn[q]? = H[q]?
theorem bf_cpy {g : Nat → Int32} {m n : Nat} (h : bf_ g m) : bf_ (va_cpy g (fun _ => 0) 0 0 m) n := fun j hj => by
  by_cases hm : j < m
  · rw [pk_cpy_in (Nat.zero_le _) (by omega), Nat.zero_add, Nat.sub_zero]
    exact h j hm
  · rw [pk_cpy_out (by omega)]
    decide
theorem fpJ5_15_9 : fpk_ RJ5 15 9 0 (.array .byte) := ⟨_, _, _, tyJ4, rfl, by decide, (uw_mem 731 (by decide +kernel) (by decide +kernel)), wkJ4, tyJ4_ok, nmJ4, rfl, by decide +kernel⟩
theorem msJ5_104 : Cond.methodLink RJ5 104 yJ5_newCapacity_0f7a4 ∈ uw_ := (uw_mem 760 (by decide +kernel) (by decide +kernel))
theorem msJ5_108 : Cond.methodLink RJ5 108 yJ7_copyOf_9075b ∈ uw_ := (uw_mem 775 (by decide +kernel) (by decide +kernel))
theorem kJ5e (hb : at_ E H b (.inr (9, [.ref v, .int 0, .int 0, .int z]))) (hv : at_ E H v (.inl (E.2.1 1, m, .inl g))) (hf : ev_fr E b) (hm : m ≤ 1200) (hq : q ≤ 600) (hfit : bf_ g m) : sp_ E mJ5e [.ref b, .int (nI q)] H (po1 (.inl none) (fun Hn => ec_ E H Hn b v m q g z)) := by
  refine sp_of (by decide +kernel) rfl rfl ?_
  generalize hQ0 : po1 _ _ = Q
  refine aw_lv (lv' := [(0, .ref b), (1, .int (nI q))]) [0, 1] rfl ?_
  refine aw_b (pc' := 1) (lv' := [(0, .ref b), (1, .int (nI q))]) (st' := [.ref b]) [(0, .aload_n 0, 1, .null)] (by decide +kernel) rfl ?_
  refine aw_get fgJ5_15_9 hb rfl (by decide +kernel) ?_
  refine aw_alen (ci := 1) (ty := .byte) (x := .inl (E.2.1 1, m, .inl g)) rfl hv rfl (by decide +kernel) ?_
  refine aw_b (pc' := 6) (lv' := [(0, .ref b), (1, .int (nI q))]) (st' := [.ref b, .int (nI m)]) [(5, .aload_n 0, 1, .null)] (by decide +kernel) rfl ?_
  refine aw_get fgJ5_22_9 hb rfl (by decide +kernel) ?_
  refine aw_b (pc' := 10) (lv' := [(0, .ref b), (1, .int (nI q))]) (st' := [.int (nI m >>> ((0 : Int32) &&& 31))]) [(9, .ishr, 1, .null)] (by decide +kernel) rfl ?_
  rw [sb_shr0]
  refine aw_b (pc' := 14) (lv' := [(2, .int (nI m)), (0, .ref b), (1, .int (nI q))]) (st' := [.int ((nI q) - (nI m))]) [(10, .istore_n 2, 1, .null), (11, .iload_n 1, 1, .null), (12, .iload_n 2, 1, .null), (13, .isub, 1, .null)] (by decide +kernel) rfl ?_
  have hQ : ∀ (Hn : Heap) (k1 n1 : Nat), k1 ≤ 1 → n1 ≤ 1200 → ec_ E H Hn b v m q g z → aw E mJ5e Q 38 [(2, .int (nI m)), (0, .ref b), (1, .int (nI q))] [] Hn k1 n1 := fun Hn k1 n1 h1 h2 h => aw_vret rfl h1 h2 (by decide +kernel) (by rw [← hQ0]; exact ⟨rfl, h⟩)
  refine aw_if_le (off := 24) 38 (by decide) (by decide +kernel) (fun hc => ?_) (fun hc => ?_)
  · have hqm : q ≤ m := by
      rcases Nat.lt_or_ge m q with h | h
      · rw [pk_sub (by omega)] at hc
        exact absurd hc (nI_ge (a := 0) (b := q - m) (by omega) (by omega))
      · exact h
    exact hQ _ _ _ (Nat.zero_le _) (Nat.zero_le _) ⟨v, m, g, hb, hv, hqm, hm, hfit, fun _ _ => rfl, Nat.le_refl _, Or.inl rfl, fun _ _ _ => rfl⟩
  · have hqm : m < q := by
      rcases Nat.lt_or_ge m q with h | h
      · exact h
      · refine absurd ?_ hc
        rw [Int32.le_iff_toInt_le, pk_sub_toInt (by omega) (by omega), Int32.toInt_zero]
        omega
    refine aw_b (pc' := 19) (lv' := [(2, .int (nI m)), (0, .ref b), (1, .int (nI q))]) (st' := [.ref b, .ref b]) [(17, .aload_n 0, 1, .null), (18, .aload_n 0, 1, .null)] (by decide +kernel) rfl ?_
    refine aw_get fgJ5_15_9 hb rfl (by decide +kernel) ?_
    refine aw_b (pc' := 24) (lv' := [(2, .int (nI m)), (0, .ref b), (1, .int (nI q))]) (st' := [.int (nI q), .ref b, .ref v, .ref b]) [(22, .aload_n 0, 1, .null), (23, .iload_n 1, 1, .null)] (by decide +kernel) rfl ?_
    refine aw_cp (rest := [.ref v, .ref b]) (st1 := [.int (nI (m + max (q - m) (m + 2))), .ref v, .ref b]) (kJ5n hb hv (by omega) hq) rfl rfl ck_mJ5n imJ5_newCapacity_0f7a4 pmJ5_newCapacity_0f7a4 rfl msJ5_104 hb nk_mJ5n rfl rfl rfl rfl (Nat.le_of_ble_eq_true rfl) (by decide) (by decide) (by decide +kernel) (fun H1 hz => ?_)
    have hb := at_same hb (hz.2 _ (at_lt hb) (Nat.lt_or_ge _ 0))
    have hv := at_same hv (hz.2 _ (at_lt hv) (Nat.lt_or_ge _ 0))
    refine aw_b (pc' := 28) (lv' := [(2, .int (nI m)), (0, .ref b), (1, .int (nI q))]) (st' := [.ref b, .int (nI (m + max (q - m) (m + 2))), .ref v, .ref b]) [(27, .aload_n 0, 1, .null)] (by decide +kernel) rfl ?_
    refine aw_get fgJ5_22_9 hb rfl (by decide +kernel) ?_
    refine aw_b (pc' := 32) (lv' := [(2, .int (nI m)), (0, .ref b), (1, .int (nI q))]) (st' := [.int (nI (m + max (q - m) (m + 2)) <<< ((0 : Int32) &&& 31)), .ref v, .ref b]) [(31, .ishl, 1, .null)] (by decide +kernel) rfl ?_
    rw [sb_shl0]
    refine aw_callS (rest := [.ref b]) (kJ7c hv (Nat.le_trans hf (Nat.le_trans (Nat.le_of_lt (at_lt hb)) (Nat.le_refl _))) hfit (by omega) (by omega)) rfl ck_mJ7c msJ5_108 nk_mJ7c rfl rfl rfl (Nat.le_of_ble_eq_true rfl) (by decide) (by decide) (by decide +kernel) (fun r H2 _ hq2 => ?_) (fun _ _ _ hq2 => by cases hq2.1)
    have er := Sum.inl.inj hq2.1
    subst er
    obtain ⟨-, s2, o2, h2⟩ := hq2
    have hbl := at_lt hb
    have hb := at_same hb (o2 _ hbl)
    show aw E mJ5e Q 35 [(2, .int (nI m)), (0, .ref b), (1, .int (nI q))] [.ref H1.size, .ref b] H2 1 1200
    refine aw_put fpJ5_15_9 hb hf rfl rfl rfl (by decide +kernel) (fun H3 h3 z3 => ?_)
    exact hQ _ _ _ (Nat.le_refl _) (Nat.le_refl _) ⟨H1.size, _, _, h3, at_same h2 (z3.2 _ (by omega)), by omega, by omega, bf_cpy hfit, fun j hj => by rw [pk_cpy_in (Nat.zero_le _) (by omega), Nat.zero_add, Nat.sub_zero], by have := hz.1; rw [z3.1]; omega, Or.inr hz.1, fun x hx hxb => (z3.2 x hxb).trans ((o2 x (Nat.lt_of_lt_of_le hx hz.1)).trans (hz.2 x hx (Nat.lt_or_ge _ 0)))⟩
theorem msJ5_40 : Cond.methodLink RJ5 40 yJ0_coder_7d493 ∈ uw_ := (uw_mem 816 (by decide +kernel) (by decide +kernel))
theorem kJ5f (hb : at_ E H b (.inr (9, [.ref v, .int 0, .int 0, .int z]))) {t : Nat} {S : List Int32} {P : Nat → Prop} (ht : tt_ E H t S P) : sp_ E mJ5f [.ref b, .ref t] H (po1 (.inl none) (fun Hn => sm_ H Hn 0 0)) := by
  intro hok hbs
  refine sp_of (by decide +kernel) rfl rfl ?_ hok hbs
  refine aw_lv (lv' := [(0, .ref b), (1, .ref t)]) [0, 1] rfl ?_
  refine aw_gst hok.2.2.2.2.2.2.1 fsJ5_18 (by decide +kernel) ?_
  refine aw_if_eq (off := 18) 21 (by decide) (by decide +kernel) (fun hc => absurd hc (by decide)) (fun _ => ?_)
  refine aw_b (pc' := 7) (lv' := [(0, .ref b), (1, .ref t)]) (st' := [.ref b]) [(6, .aload_n 0, 1, .null)] (by decide +kernel) rfl ?_
  refine aw_get fgJ5_22_9 hb rfl (by decide +kernel) ?_
  refine aw_b (pc' := 11) (lv' := [(0, .ref b), (1, .ref t)]) (st' := [.ref t, .int (0 : Int32)]) [(10, .aload_n 1, 1, .null)] (by decide +kernel) rfl ?_
  refine aw_crt (rest := [.int 0]) (st1 := [.int 0, .int 0]) ht rfl (kJ0c ht) rfl rfl ck_mJ0c msJ5_40 nk_mJ0c rfl rfl rfl (Nat.le_of_ble_eq_true rfl) (Nat.zero_le _) (Nat.zero_le _) (by decide +kernel) (fun H1 hz => ?_)
  refine aw_ic_eq (off := 7) 21 (by decide) (by decide +kernel) (fun _ => ?_) (fun hc => absurd rfl hc)
  exact aw_vret rfl (Nat.zero_le _) (Nat.zero_le _) (by decide +kernel) ⟨rfl, hz⟩
theorem msJ5_397 : Cond.methodLink RJ5 397 yJ5_inflateIfNeededFor_a7421 ∈ uw_ := (uw_mem 812 (by decide +kernel) (by decide +kernel))
theorem msJ5_399 : Cond.methodLink RJ5 399 yJ0_getBytes_840e7 ∈ uw_ := (uw_mem 836 (by decide +kernel) (by decide +kernel))
theorem kJ5p (hb : at_ E H b (.inr (9, [.ref v, .int 0, .int 0, .int z]))) (hv : at_ E H v (.inl (E.2.1 1, m, .inl g))) {t : Nat} {S : List Int32} {P : Nat → Prop} (ht : tt_ E H t S P) (hf : ev_fr E v) (hr : n + S.length ≤ m) (hm : m ≤ 1200) : sp_ E mJ5p [.ref b, .int (nI n), .ref t] H (po1 (.inl none) (fun Hn => sm_ H Hn v 1 ∧ at_ E Hn v (.inl (E.2.1 1, m, .inl (bpt_ g n S))))) := by
  refine sp_of (by decide +kernel) rfl rfl ?_
  refine aw_lv (lv' := [(0, .ref b), (1, .int (nI n)), (2, .ref t)]) [0, 1, 2] rfl ?_
  refine aw_b (pc' := 2) (lv' := [(0, .ref b), (1, .int (nI n)), (2, .ref t)]) (st' := [.ref t, .ref b]) [(0, .aload_n 0, 1, .null), (1, .aload_n 2, 1, .null)] (by decide +kernel) rfl ?_
  refine aw_cp (rest := []) (st1 := []) (kJ5f hb ht) rfl rfl ck_mJ5f imJ5_inflateIfNeededFor_a7421 pmJ5_inflateIfNeededFor_a7421 rfl msJ5_397 hb nk_mJ5f rfl rfl rfl rfl (Nat.le_of_ble_eq_true rfl) (by decide) (by decide) (by decide +kernel) (fun H1 hz => ?_)
  have hb := at_same hb (hz.2 _ (at_lt hb) (Nat.lt_or_ge _ 0))
  have hv := at_same hv (hz.2 _ (at_lt hv) (Nat.lt_or_ge _ 0))
  have ht := ht.sm hz
  refine aw_b (pc' := 7) (lv' := [(0, .ref b), (1, .int (nI n)), (2, .ref t)]) (st' := [.ref b, .ref t]) [(5, .aload_n 2, 1, .null), (6, .aload_n 0, 1, .null)] (by decide +kernel) rfl ?_
  refine aw_get fgJ5_15_9 hb rfl (by decide +kernel) ?_
  refine aw_b (pc' := 12) (lv' := [(0, .ref b), (1, .int (nI n)), (2, .ref t)]) (st' := [.ref b, .int (nI n), .ref v, .ref t]) [(10, .iload_n 1, 1, .null), (11, .aload_n 0, 1, .null)] (by decide +kernel) rfl ?_
  refine aw_get fgJ5_22_9 hb rfl (by decide +kernel) ?_
  refine aw_crt (rest := []) (st1 := []) ht rfl (kJ0g ht hv hf hr (by omega)) rfl rfl ck_mJ0g msJ5_399 nk_mJ0g rfl rfl rfl (Nat.le_of_ble_eq_true rfl) (Nat.zero_le _) (Nat.zero_le _) (by decide +kernel) (fun H2 h2 => ?_)
  exact aw_vret rfl (Nat.zero_le _) (Nat.zero_le _) (by decide +kernel) ⟨rfl, ⟨Nat.le_trans hz.1 h2.1.1, fun x hx ho => (h2.1.2 x (Nat.lt_of_lt_of_le hx hz.1) ho).trans (hz.2 x hx (Nat.lt_or_ge _ 0))⟩, h2.2⟩
theorem lt_.app {L S : List Int32} (h : lt_ L) (h2 : ∀ c ∈ S, 0 < c ∧ c < 128) (hl : L.length + S.length ≤ 600) : lt_ (L ++ S) := ⟨by rw [List.length_append]; exact hl, fun c hc => (List.mem_append.mp hc).elim (h.2 c) (h2 c)⟩
theorem bpt_app {g g' : Nat → Int32} {L S : List Int32} (hg : ∀ j, j < L.length → g j = L.getD j 0) (hg' : ∀ j, j < L.length → g' j = g j) : ∀ j, j < (L ++ S).length → bpt_ g' L.length S j = (L ++ S).getD j 0 := fun j hj => by
  unfold bpt_
  rw [List.length_append] at hj
  by_cases h : j < L.length
  · rw [if_neg (by omega), hg' j h, hg j h, List.getD_eq_getElem?_getD, List.getD_eq_getElem?_getD, List.getElem?_append_left h]
  · rw [if_pos (by omega), List.getD_eq_getElem?_getD, List.getD_eq_getElem?_getD, List.getElem?_append_right (by omega)]
theorem bf_bpt {g : Nat → Int32} {m n : Nat} {S : List Int32} (h : bf_ g m) (hS : ∀ c ∈ S, 0 < c ∧ c < 128) : bf_ (bpt_ g n S) m := fun j hj => by
  unfold bpt_
  split
  · rename_i hc
    have hlt : j - n < S.length := by omega
    rw [List.getD_eq_getElem?_getD, List.getElem?_eq_getElem hlt]
    exact (by_ok (hS _ (List.getElem_mem hlt))).2.2.1
  · exact h j hj
theorem fpJ5_79_9 : fpk_ RJ5 79 9 3 .int := ⟨_, _, _, tyJ4, rfl, by decide, (uw_mem 734 (by decide +kernel) (by decide +kernel)), wkJ4, tyJ4_ok, nmJ4, rfl, by decide +kernel⟩
theorem msJ5_32 : Cond.methodLink RJ5 32 yJ0_length_8abf5 ∈ uw_ := (uw_mem 807 (by decide +kernel) (by decide +kernel))
theorem msJ5_100 : Cond.methodLink RJ5 100 yJ5_ensureCapacityInternal_d00df ∈ uw_ := (uw_mem 756 (by decide +kernel) (by decide +kernel))
theorem msJ5_208 : Cond.methodLink RJ5 208 yJ5_putStringAt_47b60 ∈ uw_ := (uw_mem 808 (by decide +kernel) (by decide +kernel))
theorem kJ5s {t : Nat} {S : List Int32} {P : Nat → Prop} (h : bu_ E H b v L) (ht : tt_ E H t S P) (hPb : ¬ P b) (hl : L.length + S.length ≤ 600) : sp_ E mJ5s [.ref b, .ref t] H (po1 (.inl (some (.ref b))) (fun Hn => ∃ v', bu_ E Hn b v' (L ++ S) ∧ ef_ H Hn b v v')) := by
  obtain ⟨hL, hfb, hbv, hb, m, g, hv, hLm, hm, hg, hfit⟩ := h
  refine sp_of (by decide +kernel) rfl rfl ?_
  refine aw_lv (lv' := [(0, .ref b), (1, .ref t)]) [0, 1] rfl ?_
  refine aw_b (pc' := 1) (lv' := [(0, .ref b), (1, .ref t)]) (st' := [.ref t]) [(0, .aload_n 1, 1, .null)] (by decide +kernel) rfl ?_
  refine aw_ifnonnull (off := 8) 9 (by decide) (by decide +kernel) ?_
  refine aw_b (pc' := 10) (lv' := [(0, .ref b), (1, .ref t)]) (st' := [.ref t]) [(9, .aload_n 1, 1, .null)] (by decide +kernel) rfl ?_
  refine aw_crt (rest := []) (st1 := [.int (nI S.length)]) ht rfl (kJ0l ht) rfl rfl ck_mJ0l msJ5_32 nk_mJ0l rfl rfl rfl (Nat.le_of_ble_eq_true rfl) (Nat.zero_le _) (Nat.zero_le _) (by decide +kernel) (fun H1 hz => ?_)
  have hb := at_same hb (hz.2 _ (at_lt hb) (Nat.lt_or_ge _ 0))
  have hv := at_same hv (hz.2 _ (at_lt hv) (Nat.lt_or_ge _ 0))
  have ht := ht.sm hz
  refine aw_b (pc' := 16) (lv' := [(2, .int (nI S.length)), (0, .ref b), (1, .ref t)]) (st' := [.ref b, .ref b]) [(13, .istore_n 2, 1, .null), (14, .aload_n 0, 1, .null), (15, .aload_n 0, 1, .null)] (by decide +kernel) rfl ?_
  refine aw_get fgJ5_79_9 hb rfl (by decide +kernel) ?_
  refine aw_b (pc' := 20) (lv' := [(2, .int (nI S.length)), (0, .ref b), (1, .ref t)]) (st' := [.int (nI S.length), .int (nI L.length), .ref b]) [(19, .iload_n 2, 1, .null)] (by decide +kernel) rfl ?_
  refine aw_b (pc' := 21) (lv' := [(2, .int (nI S.length)), (0, .ref b), (1, .ref t)]) (st' := [.int (nI L.length + nI S.length), .ref b]) [(20, .iadd, 1, .null)] (by decide +kernel) rfl ?_
  rw [nI_add]
  refine aw_cp (rest := []) (st1 := []) (kJ5e hb hv hfb hm hl hfit) rfl rfl ck_mJ5e imJ5_ensureCapacityInternal_d00df pmJ5_ensureCapacityInternal_d00df rfl msJ5_100 hb nk_mJ5e rfl rfl rfl rfl (Nat.le_of_ble_eq_true rfl) (by decide) (by decide) (by decide +kernel) (fun H2 h2 => ?_)
  obtain ⟨v2, m2, g2, hb2, hv2, hq2, hm2, hf2, he2, hs2, hvv, ho2⟩ := h2
  have hbv2 : b < v2 := by
    rcases hvv with h | h
    · rw [h]; exact hbv
    · exact Nat.lt_of_lt_of_le (at_lt hb) h
  have ht := ht.keep (fun x hx hpx => ho2 x hx (fun e => hPb (e ▸ hpx)))
  have hb := hb2
  refine aw_b (pc' := 26) (lv' := [(2, .int (nI S.length)), (0, .ref b), (1, .ref t)]) (st' := [.ref b, .ref b]) [(24, .aload_n 0, 1, .null), (25, .aload_n 0, 1, .null)] (by decide +kernel) rfl ?_
  refine aw_get fgJ5_79_9 hb rfl (by decide +kernel) ?_
  refine aw_b (pc' := 30) (lv' := [(2, .int (nI S.length)), (0, .ref b), (1, .ref t)]) (st' := [.ref t, .int (nI L.length), .ref b]) [(29, .aload_n 1, 1, .null)] (by decide +kernel) rfl ?_
  refine aw_cp (rest := []) (st1 := []) (kJ5p hb hv2 ht (Nat.le_trans hfb (Nat.le_of_lt hbv2)) hq2 hm2) rfl rfl ck_mJ5p imJ5_putStringAt_47b60 pmJ5_putStringAt_47b60 rfl msJ5_208 hb nk_mJ5p rfl rfl rfl rfl (Nat.le_of_ble_eq_true rfl) (by decide) (by decide) (by decide +kernel) (fun H3 h3 => ?_)
  obtain ⟨z3, h3⟩ := h3
  have hb := at_same hb (z3.2 _ (at_lt hb) (Or.inl hbv2))
  refine aw_b (pc' := 35) (lv' := [(2, .int (nI S.length)), (0, .ref b), (1, .ref t)]) (st' := [.ref b, .ref b]) [(33, .aload_n 0, 1, .null), (34, .dup, 1, .null)] (by decide +kernel) rfl ?_
  refine aw_get fgJ5_79_9 hb rfl (by decide +kernel) ?_
  refine aw_b (pc' := 40) (lv' := [(2, .int (nI S.length)), (0, .ref b), (1, .ref t)]) (st' := [.int (nI L.length + nI S.length), .ref b]) [(38, .iload_n 2, 1, .null), (39, .iadd, 1, .null)] (by decide +kernel) rfl ?_
  rw [nI_add]
  refine aw_put fpJ5_79_9 hb hfb rfl rfl rfl (by decide +kernel) (fun H4 h4 z4 => ?_)
  refine aw_b (pc' := 44) (lv' := [(2, .int (nI S.length)), (0, .ref b), (1, .ref t)]) (st' := [.ref b]) [(43, .aload_n 0, 1, .null)] (by decide +kernel) rfl ?_
  refine aw_aret rfl (by decide) (by decide) (by decide +kernel) ⟨rfl, v2, ⟨hL.app ht.1.2 hl, hfb, hbv2, ?_, m2, _, at_same h3 (z4.2 _ (by omega)), by rw [List.length_append]; exact hq2, hm2, bpt_app hg (fun j hj => he2 j (by omega)), bf_bpt hf2 ht.1.2⟩, ?_, ?_, ?_⟩
  · rw [List.length_append]
    exact h4
  · have a1 := hz.1
    have a3 := z3.1
    rw [z4.1]
    omega
  · rcases hvv with h | h
    · exact Or.inl h
    · exact Or.inr (Nat.le_trans hz.1 h)
  · intro x hx hxb hxv
    rw [z4.2 x hxb, z3.2 x (Nat.lt_of_lt_of_le (Nat.lt_of_lt_of_le hx hz.1) hs2) (by rcases hvv with h | h <;> have := hz.1 <;> omega), ho2 x (Nat.lt_of_lt_of_le hx hz.1) hxb]
    exact hz.2 x hx (Nat.lt_or_ge _ 0)
end SM
