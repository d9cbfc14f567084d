/-! StringBuilder, the end: letters, numbers, the outer methods, constructors, toString -/
section CX
variable {E : ev_} {M : mt_} {Q : po_} {pc : Nat} {lv : List (Nat × Value)} {rest : List Value} {H : Heap} {k n : Nat}
/-- a virtual call that may make things -/
theorem aw_cvu {M' : mt_} {a ci u u6 : Nat} {fs : List Value} {rv : Option Value} {P : Heap → Prop} {As st0 st1 : List Value} {idx j : Nat} (hs : sp_ E M' (.ref a :: As) H (po1 (.inl rv) P)) (hst : st0 = As.reverse ++ .ref a :: rest) (hst1 : rv.toList ++ rest = st1) (hc : cokV_ M') (hl : Cond.methodLink M.1.cls idx M'.1 ∈ uw_) (hA : at_ E H a (.inr (ci, fs))) (hci : ∃ T N, vwCl[ci]? = some (M'.1.cls, T, N)) (hn : nok_ M' j) (hj : As.length = j) (hR : rok_ M M' = true) (htab : M.2.2.2.2.1 = []) (hu : (mt_R M').cells = u) (hu6 : (mt_R M').slots = u6) (hroom : (rest.map fun v => v.category).sum ≤ 8) (hkk : k + u ≤ (mt_R M).cells) (hnn : n + u6 ≤ (mt_R M).slots) (hd : decode M.2.1 pc = .ok (.invokevirtual idx, 3))
    (kk : ∀ H1 : Heap, H.size ≤ H1.size → P H1 → aw E M Q (pc + 3) lv st1 H1 (k + u) (n + u6)) : aw E M Q pc lv st0 H k n := by
  subst hst1 hu hu6
  refine aw_callV hs hst hc hl hA hci hn hj hR htab hroom hkk hnn hd (fun r H1 hz hq => ?_) (fun X H1 _ hq => by cases hq.1)
  have e := Sum.inl.inj hq.1
  subst e
  exact kk H1 hz hq.2
/-- a static call that may make things -/
theorem aw_csx {M' : mt_} {u u6 : Nat} {rv : Option Value} {P : Heap → Prop} {As st0 st1 : List Value} {idx j : Nat} (hs : sp_ E M' As H (po1 (.inl rv) P)) (hst : st0 = As.reverse ++ rest) (hst1 : rv.toList ++ rest = st1) (hc : cokS_ M') (hl : Cond.methodLink M.1.cls idx M'.1 ∈ uw_) (hn : nok_ M' j) (hj : As.length = j) (hR : rok_ M M' = true) (htab : M.2.2.2.2.1 = []) (hu : (mt_R M').cells = u) (hu6 : (mt_R M').slots = u6) (hroom : (rest.map fun v => v.category).sum ≤ 8) (hkk : k + u ≤ (mt_R M).cells) (hnn : n + u6 ≤ (mt_R M).slots) (hd : decode M.2.1 pc = .ok (.invokestatic idx, 3))
    (kk : ∀ H1 : Heap, H.size ≤ H1.size → P H1 → aw E M Q (pc + 3) lv st1 H1 (k + u) (n + u6)) : aw E M Q pc lv st0 H k n := by
  subst hst1 hu hu6
  refine aw_callS hs hst hc hl hn hj hR htab hroom hkk hnn hd (fun r H1 hz hq => ?_) (fun X H1 _ hq => by cases hq.1)
  have e := Sum.inl.inj hq.1
  subst e
  exact kk H1 hz hq.2
/-- the clone of a row of bytes -/
theorem aw_cln {v N idx : Nat} {g : Nat → Int32} (hl : Cond.methodLink M.1.cls idx ⟨"[B", "clone", "()Ljava/lang/Object;"⟩ ∈ uw_) (hv : at_ E H v (.inl (E.2.1 1, N, .inl g))) (hfit : bf_ g N) (hfr : Nat.ble 1 (mt_R M).frames = true) (hlo : (rest.map fun v => v.category).sum + 14 ≤ (mt_R M).locals) (hk : k + 1 ≤ (mt_R M).cells) (hn : n + N ≤ (mt_R M).slots) (hd : decode M.2.1 pc = .ok (.invokevirtual idx, 3))
    (kk : ∀ H1 : Heap, H1.size = H.size + 1 → (∀ q : Nat, q < H.size → H1[q]? = H[q]?) → at_ E H1 H.size (.inl (E.2.1 1, N, .inl g)) → aw E M Q (pc + 3) lv (.ref H.size :: rest) H1 (k + 1) (n + N)) : aw E M Q pc lv (.ref v :: rest) H k n := by
  intro p e s m args below meth c locs ls C P L T hT X
  have hts := C.2.2.2.2.2.1
  have hc0 : H[v]? = some (vp_cell (E.2.1 1) (N, .inl g)) := hv
  have hnm : s.vm.findClass "[B" = some (E.2.1 1) := ((cx_K C).2 1 _ rfl).2
  have hcl : va_Nw (.castable "[B" "java/lang/Cloneable") s := va_Nw.warmC C.2.2.2.2.2.2.2.2.1 (C.2.2.2.2.2.2.2.2.2.2.1.2.2.1 (.castable "[B" "java/lang/Cloneable") (List.mem_of_getElem? (i := 783) (by decide +kernel)) rfl)
  obtain ⟨c0, t0, f1, f2, f3⟩ := Cond.castable_spec (va_Nw.use (A := args) rfl hcl)
  have f1' : c0 = E.2.1 1 := Option.some.inj (f1.symm.trans hnm)
  subst f1'
  obtain ⟨-, kS, hkS, compS, hkindS⟩ := ((cx_K C).2 1 _ rfl).1 N (fun j => .int (g j))
  obtain ⟨-, kA, hkA, comp, hkind⟩ := State.isArrayOf_alike X.warmed.alike (((cx_K C).2 1 _ rfl).1 N (fun j => .int (g j)))
  have hsz : (vp_cell (E.2.1 1) (N, .inl g)).slots.size = N := arrV_size _ _ _
  obtain ⟨vm', X', st⟩ := X.cloneArray C.1 C.2.2.2.2.1 (hts _ hl) (hts _ (uw_mem 779 (by decide +kernel) (by decide +kernel))) (hts _ (uw_mem 780 (by decide +kernel) (by decide +kernel))) (hts _ (uw_mem 781 (by decide +kernel) (by decide +kernel))) (hts _ (uw_mem 782 (by decide +kernel) (by decide +kernel))) (a := v) (cell := vp_cell (E.2.1 1) (N, .inl g)) (by rw [hT]; exact hc0) (fun _ h => by cases h) (fun h => by cases h) hnm f2 f3
    (fun i x hx => by
      have hk' : T.vm.classes[(vp_cell (E.2.1 1) (N, .inl g)).cls]? = some kA := hkA
      have hi : i < N := by
        have := (Array.getElem?_eq_some_iff.mp hx).1
        rw [hsz] at this
        exact this
      have hx' : (arrV (E.2.1 1) N (fun j => .int (g j))).slots[i]? = some x := hx
      rw [arrV_read _ _ hi] at hx'
      cases hx'
      have := hfit i hi
      simpa [State.fitsSlot, State.slotType?, hk', hkind] using this)
    (g := F0 m pc ls (.ref v :: rest)) rfl (by rw [C.2.2.2.1, ← L.1]) (rest := rest) rfl (by rw [C.2.1]; exact hd) (Nat.le_of_ble_eq_true hfr) (by show 2 * 0 + _ + 14 ≤ _; omega) hk (by rw [hsz]; exact hn) (hloader := Vm.clonesLoader_of_array hkS hkindS)
  have hcellE : ({ cls := (vp_cell (E.2.1 1) (N, .inl g)).cls, slots := (vp_cell (E.2.1 1) (N, .inl g)).slots } : Cell) = vp_cell (E.2.1 1) (N, .inl g) := rfl
  rw [hcellE, hsz] at X'
  generalize hH1 : H.push (vp_cell (E.2.1 1) (N, .inl g)) = H1
  have z1 : H1.size = H.size + 1 := by rw [← hH1, Array.size_push]
  have e1 : H1[H.size]? = some (vp_cell (E.2.1 1) (N, .inl g)) := by rw [← hH1, Array.getElem?_push_size]
  have o1 : ∀ q : Nat, q < H.size → H1[q]? = H[q]? := fun q hq => by rw [← hH1, Array.getElem?_push, if_neg (Nat.ne_of_lt hq)]
  obtain ⟨t, b1, b2⟩ := kk H1 z1 o1 e1 p e s m args below meth c locs ls C (P.grow (by rw [z1]; omega) o1) L ((T.setVm vm').pushCell (vp_cell (E.2.1 1) (N, .inl g))) (by rw [← hH1, ← hT]; rfl) X'
  refine ⟨t, st t ?_, b2⟩
  rw [hcellE, hT]
  exact b1
theorem aw_casta {a idx : Nat} {x : vp_A} (hl : Cond.classLink M.1.cls idx "[B" ∈ uw_) (ha : at_ E H a (.inl (E.2.1 1, x))) (hd : decode M.2.1 pc = .ok (.checkcast idx, 3)) (kk : aw E M Q (pc + 3) lv (.ref a :: rest) H k n) : aw E M Q pc lv (.ref a :: rest) H k n := by
  intro p e s m args below meth c locs ls C P L
  have hnm : s.vm.findClass "[B" = some (E.2.1 1) := ((cx_K C).2 1 _ rfl).2
  have hvm0 : (vp_cell (E.2.1 1) x).vm = .none := by
    obtain ⟨n, f | f | f | f | f⟩ := x <;> rfl
  have hcl0 : (vp_cell (E.2.1 1) x).cls = E.2.1 1 := by
    obtain ⟨n, f | f | f | f | f⟩ := x <;> rfl
  have hc0 : H[a]? = some (vp_cell (E.2.1 1) x) := ha
  intro T hT X
  obtain ⟨vm', X', st⟩ := X.checkcastYes C.1 C.2.2.2.2.1 (C.2.2.2.2.2.1 _ hl) (by rw [hT]; exact hc0) (by rw [hvm0]; rfl) hnm (by rw [hcl0]; exact va_asg _ _) (g := F0 m pc ls (.ref a :: rest)) rfl rfl (by rw [C.2.1]; exact hd)
  obtain ⟨t, a1, b1⟩ := kk p e s m args below meth c locs ls C P L (T.setVm vm') hT X'
  exact ⟨t, st t a1, b1⟩
end CX
/-- a method that gives a copy of the row's first cells -/
def rkp_ (E : ev_) (H : Heap) (n : Nat) (g : Nat → Int32) : po_ := fun o Hn => ∃ x : Nat, o = .inl (some (.ref x)) ∧ H.size ≤ x ∧ x < Hn.size ∧ (∀ q : Nat, q < H.size → Hn[q]? = H[q]?) ∧ ∃ f : Nat → Int32, (∀ j, j < n → f j = g j) ∧ at_ E Hn x (.inl (E.2.1 1, n, .inl f))
theorem bu_.keep {E : ev_} {H Hn : Heap} {b v : Nat} {L : List Int32} (h : bu_ E H b v L) (ho : ∀ q : Nat, q < H.size → Hn[q]? = H[q]?) : bu_ E Hn b v L := by
  obtain ⟨hL, hfb, hbv, hb, m, g, hv, hLm, hm, hg, hfit⟩ := h
  exact ⟨hL, hfb, hbv, at_same hb (ho _ (at_lt hb)), m, g, at_same hv (ho _ (at_lt hv)), hLm, hm, hg, hfit⟩
def mJ4s : mt_ := (yJ4_append_15ec4, cJ4_append_15ec4, 2, some (.object "java/lang/StringBuilder"), [], { frames := 5, locals := 127, cells := 1, slots := 1200 })
theorem ck_mJ4s : cokV_ mJ4s := ⟨⟨(uw_mem 748 (by decide +kernel) (by decide +kernel)), (uw_mem 40 (by decide +kernel) (by decide +kernel)), by decide +kernel, by decide +kernel⟩, (uw_mem 746 (by decide +kernel) (by decide +kernel)), (uw_mem 747 (by decide +kernel) (by decide +kernel))⟩
theorem nk_mJ4s : nok_ mJ4s 1 := by decide +kernel
def mJ4c : mt_ := (yJ4_append_cf468, cJ4_append_cf468, 2, some (.object "java/lang/StringBuilder"), [], { frames := 5, locals := 127, cells := 1, slots := 1200 })
theorem ck_mJ4c : cokV_ mJ4c := ⟨⟨(uw_mem 945 (by decide +kernel) (by decide +kernel)), (uw_mem 40 (by decide +kernel) (by decide +kernel)), by decide +kernel, by decide +kernel⟩, (uw_mem 943 (by decide +kernel) (by decide +kernel)), (uw_mem 944 (by decide +kernel) (by decide +kernel))⟩
theorem nk_mJ4c : nok_ mJ4c 1 := by decide +kernel
def mJ4i : mt_ := (yJ4_append_bf812, cJ4_append_bf812, 2, some (.object "java/lang/StringBuilder"), [], { frames := 5, locals := 127, cells := 1, slots := 1200 })
theorem ck_mJ4i : cokV_ mJ4i := ⟨⟨(uw_mem 845 (by decide +kernel) (by decide +kernel)), (uw_mem 40 (by decide +kernel) (by decide +kernel)), by decide +kernel, by decide +kernel⟩, (uw_mem 843 (by decide +kernel) (by decide +kernel)), (uw_mem 844 (by decide +kernel) (by decide +kernel))⟩
theorem nk_mJ4i : nok_ mJ4i 1 := by decide +kernel
def mJ4b : mt_ := (yJ4_append_cf1ce, cJ4_append_cf1ce, 2, some (.object "java/lang/AbstractStringBuilder"), [], { frames := 6, locals := 148, cells := 1, slots := 1200 })
theorem ck_mJ4b : cok_ mJ4b := ⟨(uw_mem 940 (by decide +kernel) (by decide +kernel)), (uw_mem 40 (by decide +kernel) (by decide +kernel)), by decide +kernel, by decide +kernel⟩
theorem nk_mJ4b : nok_ mJ4b 1 := by decide +kernel
theorem imJ4_append_cf1ce : Cond.instanceMethod yJ4_append_cf1ce ∈ uw_ := (uw_mem 939 (by decide +kernel) (by decide +kernel))
def mJ5o : mt_ := (yJ5_init_a7421, cJ5_init_a7421, 5, none, [], { frames := 7, locals := 169, cells := 2, slots := 1816 })
theorem ck_mJ5o : cokI_ mJ5o := ⟨⟨(uw_mem 936 (by decide +kernel) (by decide +kernel)), (uw_mem 39 (by decide +kernel) (by decide +kernel)), by decide +kernel, by decide +kernel⟩, (uw_mem 935 (by decide +kernel) (by decide +kernel)), rfl⟩
theorem nk_mJ5o : nok_ mJ5o 1 := by decide +kernel
def mJ4o : mt_ := (yJ4_init_a7421, cJ4_init_a7421, 2, none, [], { frames := 8, locals := 193, cells := 2, slots := 1816 })
theorem ck_mJ4o : cokI_ mJ4o := ⟨⟨(uw_mem 933 (by decide +kernel) (by decide +kernel)), (uw_mem 40 (by decide +kernel) (by decide +kernel)), by decide +kernel, by decide +kernel⟩, (uw_mem 932 (by decide +kernel) (by decide +kernel)), rfl⟩
theorem nk_mJ4o : nok_ mJ4o 1 := by decide +kernel
def mJ5z : mt_ := (yJ5_init_d00df, cJ5_init_d00df, 2, none, [], { frames := 1, locals := 13, cells := 1, slots := 16 })
theorem ck_mJ5z : cokI_ mJ5z := ⟨⟨(uw_mem 721 (by decide +kernel) (by decide +kernel)), (uw_mem 39 (by decide +kernel) (by decide +kernel)), by decide +kernel, by decide +kernel⟩, (uw_mem 720 (by decide +kernel) (by decide +kernel)), rfl⟩
theorem nk_mJ5z : nok_ mJ5z 1 := by decide +kernel
def mJ4z : mt_ := (yJ4_init_da8c8, cJ4_init_da8c8, 1, none, [], { frames := 2, locals := 34, cells := 1, slots := 16 })
theorem ck_mJ4z : cokI_ mJ4z := ⟨⟨(uw_mem 718 (by decide +kernel) (by decide +kernel)), (uw_mem 40 (by decide +kernel) (by decide +kernel)), by decide +kernel, by decide +kernel⟩, (uw_mem 717 (by decide +kernel) (by decide +kernel)), rfl⟩
theorem nk_mJ4z : nok_ mJ4z 0 := by decide +kernel
def mJ5l : mt_ := (yJ5_length_8abf5, cJ5_length_8abf5, 1, some .int, [], { frames := 0, locals := 0, cells := 0, slots := 0 })
theorem ck_mJ5l : cok_ mJ5l := ⟨(uw_mem 892 (by decide +kernel) (by decide +kernel)), (uw_mem 39 (by decide +kernel) (by decide +kernel)), by decide +kernel, by decide +kernel⟩
theorem nk_mJ5l : nok_ mJ5l 0 := by decide +kernel
theorem imJ5_length_8abf5 : Cond.instanceMethod yJ5_length_8abf5 ∈ uw_ := (uw_mem 886 (by decide +kernel) (by decide +kernel))
theorem smJ5_length_8abf5 : Cond.sameMethod yJ5_length_8abf5.cls yJ5_length_8abf5.cls yJ5_length_8abf5.name yJ5_length_8abf5.desc ∈ uw_ := (uw_mem 887 (by decide +kernel) (by decide +kernel))
def mJ4l : mt_ := (yJ4_length_8abf5, cJ4_length_8abf5, 1, some .int, [], { frames := 1, locals := 20, cells := 0, slots := 0 })
theorem ck_mJ4l : cok_ mJ4l := ⟨(uw_mem 890 (by decide +kernel) (by decide +kernel)), (uw_mem 40 (by decide +kernel) (by decide +kernel)), by decide +kernel, by decide +kernel⟩
theorem nk_mJ4l : nok_ mJ4l 0 := by decide +kernel
theorem imJ4_length_8abf5 : Cond.instanceMethod yJ4_length_8abf5 ∈ uw_ := (uw_mem 889 (by decide +kernel) (by decide +kernel))
def mJ5v : mt_ := (yJ5_getValue_6d5f1, cJ5_getValue_6d5f1, 1, some (.array .byte), [], { frames := 0, locals := 0, cells := 0, slots := 0 })
theorem ck_mJ5v : cok_ mJ5v := ⟨(uw_mem 884 (by decide +kernel) (by decide +kernel)), (uw_mem 39 (by decide +kernel) (by decide +kernel)), by decide +kernel, by decide +kernel⟩
theorem nk_mJ5v : nok_ mJ5v 0 := by decide +kernel
theorem imJ5_getValue_6d5f1 : Cond.instanceMethod yJ5_getValue_6d5f1 ∈ uw_ := (uw_mem 881 (by decide +kernel) (by decide +kernel))
theorem smJ5_getValue_6d5f1 : Cond.sameMethod yJ5_getValue_6d5f1.cls yJ5_getValue_6d5f1.cls yJ5_getValue_6d5f1.name yJ5_getValue_6d5f1.desc ∈ uw_ := (uw_mem 882 (by decide +kernel) (by decide +kernel))
def mJ7l : mt_ := (yJ7_checkLength_df160, cJ7_checkLength_df160, 2, none, [], { frames := 0, locals := 0, cells := 0, slots := 0 })
theorem ck_mJ7l : cokS_ mJ7l := ⟨⟨(uw_mem 902 (by decide +kernel) (by decide +kernel)), (uw_mem 44 (by decide +kernel) (by decide +kernel)), by decide +kernel, by decide +kernel⟩, (uw_mem 901 (by decide +kernel) (by decide +kernel))⟩
theorem nk_mJ7l : nok_ mJ7l 2 := by decide +kernel
def mJ7b : mt_ := (yJ7_copyOfRangeByte_39247, cJ7_copyOfRangeByte_39247, 5, some (.array .byte), [], { frames := 1, locals := 60, cells := 1, slots := 1200 })
theorem ck_mJ7b : cokS_ mJ7b := ⟨⟨(uw_mem 899 (by decide +kernel) (by decide +kernel)), (uw_mem 44 (by decide +kernel) (by decide +kernel)), by decide +kernel, by decide +kernel⟩, (uw_mem 898 (by decide +kernel) (by decide +kernel))⟩
theorem nk_mJ7b : nok_ mJ7b 3 := by decide +kernel
def mJ7r : mt_ := (yJ7_copyOfRange_39247, cJ7_copyOfRange_39247, 3, some (.array .byte), [], { frames := 2, locals := 84, cells := 1, slots := 1200 })
theorem ck_mJ7r : cokS_ mJ7r := ⟨⟨(uw_mem 896 (by decide +kernel) (by decide +kernel)), (uw_mem 44 (by decide +kernel) (by decide +kernel)), by decide +kernel, by decide +kernel⟩, (uw_mem 895 (by decide +kernel) (by decide +kernel))⟩
theorem nk_mJ7r : nok_ mJ7r 3 := by decide +kernel
def mJ0y : mt_ := (yJ0_init_db425, cJ0_init_db425, 5, none, [], { frames := 3, locals := 106, cells := 1, slots := 1200 })
theorem ck_mJ0y : cokI_ mJ0y := ⟨⟨(uw_mem 878 (by decide +kernel) (by decide +kernel)), (uw_mem 41 (by decide +kernel) (by decide +kernel)), by decide +kernel, by decide +kernel⟩, (uw_mem 877 (by decide +kernel) (by decide +kernel)), rfl⟩
theorem nk_mJ0y : nok_ mJ0y 2 := by decide +kernel
def mJ0x : mt_ := (yJ0_init_81219, cJ0_init_81219, 2, none, [], { frames := 4, locals := 130, cells := 1, slots := 1200 })
theorem ck_mJ0x : cokI_ mJ0x := ⟨⟨(uw_mem 875 (by decide +kernel) (by decide +kernel)), (uw_mem 41 (by decide +kernel) (by decide +kernel)), by decide +kernel, by decide +kernel⟩, (uw_mem 874 (by decide +kernel) (by decide +kernel)), rfl⟩
theorem nk_mJ0x : nok_ mJ0x 1 := by decide +kernel
def mJ4t : mt_ := (yJ4_toString_0e30d, cJ4_toString_0e30d, 1, some (.object "java/lang/String"), [], { frames := 5, locals := 151, cells := 2, slots := 1204 })
theorem ck_mJ4t : cokV_ mJ4t := ⟨⟨(uw_mem 870 (by decide +kernel) (by decide +kernel)), (uw_mem 40 (by decide +kernel) (by decide +kernel)), by decide +kernel, by decide +kernel⟩, (uw_mem 868 (by decide +kernel) (by decide +kernel)), (uw_mem 869 (by decide +kernel) (by decide +kernel))⟩
theorem nk_mJ4t : nok_ mJ4t 0 := by decide +kernel
theorem spw54 : Cond.superclass RJ4 RJ5 ∈ uw_ := (uw_mem 743 (by decide +kernel) (by decide +kernel))
section SE
variable {E : ev_} {Q : po_} {H : Heap} {b v m n q i x t : Nat} {z c : Int32} {g : Nat → Int32} {L S : List Int32} {P : Nat → Prop}
theorem kJ1e (h1 : c < 128) : sp_ E mJ1e [.int c] H (po1 (.inl (some (.int 1))) (fun Hn => sm_ H Hn 0 0)) := by
  refine sp_of (by decide +kernel) rfl rfl ?_
  refine aw_lv (lv' := [(0, .int c)]) [0] rfl ?_
  refine aw_b (pc' := 4) (lv' := [(0, .int c)]) (st' := [.int (255 : Int32), .int c]) [(0, .iload_n 0, 1, .null), (1, .sipush 255, 3, .int (255 : Int32))] (by decide +kernel) rfl ?_
  refine aw_ic_gt (off := 7) 11 (by decide) (by decide +kernel) (fun hc => absurd hc (Int32.not_lt.mpr (Int32.le_of_lt (Int32.lt_of_lt_of_le h1 (by decide))))) (fun _ => ?_)
  refine aw_b (pc' := 12) (lv' := [(0, .int c)]) (st' := [.int (1 : Int32)]) [(7, .iconst 1, 1, .int (1 : Int32)), (8, .goto 4, 3, .null)] (by decide +kernel) rfl ?_
  exact aw_tret rfl (by decide +kernel) (Nat.zero_le _) (Nat.zero_le _) (by decide +kernel) ⟨rfl, sm_.rfl'⟩
theorem fpJ5_22_9 : fpk_ RJ5 22 9 1 .byte := ⟨_, _, _, tyJ4, rfl, by decide, (uw_mem 732 (by decide +kernel) (by decide +kernel)), wkJ4, tyJ4_ok, nmJ4, rfl, by decide +kernel⟩
theorem msJ5_83 : Cond.methodLink RJ5 83 yJ5_isLatin1_aae02 ∈ uw_ := (uw_mem 787 (by decide +kernel) (by decide +kernel))
theorem msJ5_191 : Cond.methodLink RJ5 191 yJ1_canEncode_fc78d ∈ uw_ := (uw_mem 949 (by decide +kernel) (by decide +kernel))
theorem kJ5a (h : bu_ E H b v L) (hc : 0 < c ∧ c < 128) (hl : L.length + 1 ≤ 600) : sp_ E mJ5a [.ref b, .int c] H (po1 (.inl (some (.ref b))) (fun Hn => ∃ v', bu_ E Hn b v' (L ++ [c]) ∧ ef_ H Hn b v v')) := by
  intro hok hbs
  obtain ⟨hL, hfb, hbv, hb, m, g, hv, hLm, hm, hg, hfit⟩ := h
  refine sp_of (by decide +kernel) rfl rfl ?_ hok hbs
  refine aw_lv (lv' := [(0, .ref b), (1, .int c)]) [0, 1] rfl ?_
  refine aw_b (pc' := 2) (lv' := [(0, .ref b), (1, .int c)]) (st' := [.ref b, .ref b]) [(0, .aload_n 0, 1, .null), (1, .aload_n 0, 1, .null)] (by decide +kernel) rfl ?_
  refine aw_get fgJ5_79_9 hb rfl (by decide +kernel) ?_
  refine aw_b (pc' := 7) (lv' := [(0, .ref b), (1, .int c)]) (st' := [.int (nI L.length + (1 : Int32)), .ref b]) [(5, .iconst 1, 1, .int (1 : Int32)), (6, .iadd, 1, .null)] (by decide +kernel) rfl ?_
  rw [nI_1]
  refine aw_cp (rest := []) (st1 := []) (kJ5e hb hv hfb hm hl hfit) rfl rfl ck_mJ5e imJ5_ensureCapacityInternal_d00df pmJ5_ensureCapacityInternal_d00df rfl msJ5_100 hb nk_mJ5e rfl rfl rfl rfl (Nat.le_of_ble_eq_true rfl) (by decide) (by decide) (by decide +kernel) (fun H2 h2 => ?_)
  obtain ⟨v2, m2, g2, hb2, hv2, hq2, hm2, hf2, he2, hs2, hvv, ho2⟩ := h2
  have hbv2 : b < v2 := by
    rcases hvv with h | h
    · rw [h]; exact hbv
    · exact Nat.lt_of_lt_of_le (at_lt hb) h
  have hb := hb2
  refine aw_b (pc' := 11) (lv' := [(0, .ref b), (1, .int c)]) (st' := [.ref b]) [(10, .aload_n 0, 1, .null)] (by decide +kernel) rfl ?_
  refine aw_cu (rest := []) (st1 := [.int 1]) (kJ5i hb) rfl rfl ck_mJ5i imJ5_isLatin1_aae02 smJ5_isLatin1_aae02 sl_J5_isLatin1_aae02_J5_isLatin1_aae02 msJ5_83 hb nk_mJ5i rfl rfl rfl rfl (Nat.le_of_ble_eq_true rfl) (by decide) (by decide) (by decide +kernel) (fun HL hz => ?_)
  have hb := at_same hb (hz.2 _ (at_lt hb) (Nat.lt_or_ge _ 0))
  have hv2 := at_same hv2 (hz.2 _ (at_lt hv2) (Nat.lt_or_ge _ 0))
  refine aw_if_eq (off := 31) 45 (by decide) (by decide +kernel) (fun hc => absurd hc (by decide)) (fun _ => ?_)
  refine aw_b (pc' := 18) (lv' := [(0, .ref b), (1, .int c)]) (st' := [.int c]) [(17, .iload_n 1, 1, .null)] (by decide +kernel) rfl ?_
  refine aw_cs (rest := []) (st1 := [.int 1]) (kJ1e hc.2) rfl rfl ck_mJ1e msJ5_191 nk_mJ1e rfl rfl rfl (Nat.le_of_ble_eq_true rfl) (by decide) (by decide) (by decide +kernel) (fun HM hy => ?_)
  have hb := at_same hb (hy.2 _ (at_lt hb) (Nat.lt_or_ge _ 0))
  have hv2 := at_same hv2 (hy.2 _ (at_lt hv2) (Nat.lt_or_ge _ 0))
  refine aw_if_eq (off := 24) 45 (by decide) (by decide +kernel) (fun hc => absurd hc (by decide)) (fun _ => ?_)
  refine aw_b (pc' := 25) (lv' := [(0, .ref b), (1, .int c)]) (st' := [.ref b]) [(24, .aload_n 0, 1, .null)] (by decide +kernel) rfl ?_
  refine aw_get fgJ5_15_9 hb rfl (by decide +kernel) ?_
  refine aw_b (pc' := 30) (lv' := [(0, .ref b), (1, .int c)]) (st' := [.ref b, .ref b, .ref v2]) [(28, .aload_n 0, 1, .null), (29, .dup, 1, .null)] (by decide +kernel) rfl ?_
  refine aw_get fgJ5_79_9 hb rfl (by decide +kernel) ?_
  refine aw_dx1 (by decide +kernel) rfl rfl ?_
  refine aw_b (pc' := 36) (lv' := [(0, .ref b), (1, .int c)]) (st' := [.int (nI L.length + (1 : Int32)), .ref b, .int (nI L.length), .ref v2]) [(34, .iconst 1, 1, .int (1 : Int32)), (35, .iadd, 1, .null)] (by decide +kernel) rfl ?_
  rw [nI_1]
  refine aw_put fpJ5_79_9 hb hfb rfl rfl rfl (by decide +kernel) (fun H4 h4 z4 => ?_)
  have hv2 := at_same hv2 (z4.2 _ (by omega))
  refine aw_b (pc' := 40) (lv' := [(0, .ref b), (1, .int c)]) (st' := [.int c, .int (nI L.length), .ref v2]) [(39, .iload_n 1, 1, .null)] (by decide +kernel) rfl ?_
  refine aw_b (pc' := 41) (lv' := [(0, .ref b), (1, .int c)]) (st' := [.int (Int8.toInt32 (Int32.toInt8 c)), .int (nI L.length), .ref v2]) [(40, .i2b, 1, .null)] (by decide +kernel) rfl ?_
  rw [show Int8.toInt32 (Int32.toInt8 c) = c from (by_ok hc).2.2.2.1]
  refine aw_bast (by_ok hc).2.2.2.1 hv2 (Nat.le_trans hfb (Nat.le_of_lt hbv2)) (ib_in (ib_n (k := L.length) (by omega) (by omega))) (by decide +kernel) (fun H5 h5 z5 => ?_)
  rw [show (nI L.length).toNatClampNeg = L.length from ix_n (by omega), bpt_1] at h5
  refine aw_b (pc' := 76) (lv' := [(0, .ref b), (1, .int c)]) (st' := [.ref b]) [(42, .goto 33, 3, .null), (75, .aload_n 0, 1, .null)] (by decide +kernel) rfl ?_
  refine aw_aret rfl (by decide) (by decide) (by decide +kernel) ⟨rfl, v2, ⟨hL.app (S := [c]) (fun d hd => by rw [List.mem_singleton.mp hd]; exact hc) hl, hfb, hbv2, ?_, m2, _, h5, by rw [List.length_append]; exact hq2, hm2, bpt_app hg (fun j hj => he2 j (by omega)), bf_bpt hf2 (fun d hd => by rw [List.mem_singleton.mp hd]; exact hc)⟩, ?_, ?_, ?_⟩
  · rw [List.length_append]
    exact at_same h4 (z5.2 _ (by omega))
  · have a1 := hz.1
    have a2 := hy.1
    rw [z5.1, z4.1]
    omega
  · exact hvv
  · intro x hx hxb hxv
    have hx2 : x ≠ v2 := by rcases hvv with h | h <;> omega
    have a1 := hz.1
    rw [z5.2 x hx2, z4.2 x hxb, hy.2 x (by omega) (Nat.lt_or_ge _ 0), hz.2 x (by omega) (Nat.lt_or_ge _ 0)]
    exact ho2 x hx hxb
theorem msJ5_245 : Cond.methodLink RJ5 245 yJ6_stringSize_0f7a4 ∈ uw_ := (uw_mem 849 (by decide +kernel) (by decide +kernel))
theorem msJ5_248 : Cond.methodLink RJ5 248 yJ6_getChars_ba4f3 ∈ uw_ := (uw_mem 852 (by decide +kernel) (by decide +kernel))
theorem kJ5b (hO : exo_ E) (h : bu_ E H b v L) (hx : x < 100000) (hl : L.length + (dg_ x).length ≤ 600) : sp_ E mJ5b [.ref b, .int (nI x)] H (po1 (.inl (some (.ref b))) (fun Hn => ∃ v', bu_ E Hn b v' (L ++ dg_ x) ∧ ef_ H Hn b v v')) := by
  intro hok hbs
  obtain ⟨hL, hfb, hbv, hb, m, g, hv, hLm, hm, hg, hfit⟩ := h
  have hdg := dg_ok hx
  refine sp_of (by decide +kernel) rfl rfl ?_ hok hbs
  refine aw_lv (lv' := [(0, .ref b), (1, .int (nI x))]) [0, 1] rfl ?_
  refine aw_b (pc' := 1) (lv' := [(0, .ref b), (1, .int (nI x))]) (st' := [.ref b]) [(0, .aload_n 0, 1, .null)] (by decide +kernel) rfl ?_
  refine aw_get fgJ5_79_9 hb rfl (by decide +kernel) ?_
  refine aw_b (pc' := 7) (lv' := [(2, .int (nI L.length)), (0, .ref b), (1, .int (nI x))]) (st' := [.int (nI x), .int (nI L.length)]) [(4, .istore_n 2, 1, .null), (5, .iload_n 2, 1, .null), (6, .iload_n 1, 1, .null)] (by decide +kernel) rfl ?_
  refine aw_cs (rest := [.int (nI L.length)]) (st1 := [.int (nI (dg_ x).length), .int (nI L.length)]) (kJ6s hx) rfl rfl ck_mJ6s msJ5_245 nk_mJ6s rfl rfl rfl (Nat.le_of_ble_eq_true rfl) (by decide) (by decide) (by decide +kernel) (fun H1 hz => ?_)
  have hb := at_same hb (hz.2 _ (at_lt hb) (Nat.lt_or_ge _ 0))
  have hv := at_same hv (hz.2 _ (at_lt hv) (Nat.lt_or_ge _ 0))
  refine aw_b (pc' := 11) (lv' := [(2, .int (nI L.length)), (0, .ref b), (1, .int (nI x))]) (st' := [.int (nI L.length + nI (dg_ x).length)]) [(10, .iadd, 1, .null)] (by decide +kernel) rfl ?_
  rw [nI_add]
  refine aw_b (pc' := 14) (lv' := [(3, .int (nI (L.length + (dg_ x).length))), (2, .int (nI L.length)), (0, .ref b), (1, .int (nI x))]) (st' := [.int (nI (L.length + (dg_ x).length)), .ref b]) [(11, .istore_n 3, 1, .null), (12, .aload_n 0, 1, .null), (13, .iload_n 3, 1, .null)] (by decide +kernel) rfl ?_
  refine aw_cp (rest := []) (st1 := []) (kJ5e hb hv hfb hm hl hfit) rfl rfl ck_mJ5e imJ5_ensureCapacityInternal_d00df pmJ5_ensureCapacityInternal_d00df rfl msJ5_100 hb nk_mJ5e rfl rfl rfl rfl (Nat.le_of_ble_eq_true rfl) (by decide) (by decide) (by decide +kernel) (fun H2 h2 => ?_)
  obtain ⟨v2, m2, g2, hb2, hv2, hq2, hm2, hf2, he2, hs2, hvv, ho2⟩ := h2
  have hbv2 : b < v2 := by
    rcases hvv with h | h
    · rw [h]; exact hbv
    · exact Nat.lt_of_lt_of_le (at_lt hb) h
  have hb := hb2
  refine aw_b (pc' := 18) (lv' := [(3, .int (nI (L.length + (dg_ x).length))), (2, .int (nI L.length)), (0, .ref b), (1, .int (nI x))]) (st' := [.ref b]) [(17, .aload_n 0, 1, .null)] (by decide +kernel) rfl ?_
  refine aw_cu (rest := []) (st1 := [.int 1]) (kJ5i hb) rfl rfl ck_mJ5i imJ5_isLatin1_aae02 smJ5_isLatin1_aae02 sl_J5_isLatin1_aae02_J5_isLatin1_aae02 msJ5_83 hb nk_mJ5i rfl rfl rfl rfl (Nat.le_of_ble_eq_true rfl) (by decide) (by decide) (by decide +kernel) (fun HL hy => ?_)
  have hb := at_same hb (hy.2 _ (at_lt hb) (Nat.lt_or_ge _ 0))
  have hv2 := at_same hv2 (hy.2 _ (at_lt hv2) (Nat.lt_or_ge _ 0))
  refine aw_if_eq (off := 16) 37 (by decide) (by decide +kernel) (fun hc => absurd hc (by decide)) (fun _ => ?_)
  refine aw_b (pc' := 27) (lv' := [(3, .int (nI (L.length + (dg_ x).length))), (2, .int (nI L.length)), (0, .ref b), (1, .int (nI x))]) (st' := [.ref b, .int (nI (L.length + (dg_ x).length)), .int (nI x)]) [(24, .iload_n 1, 1, .null), (25, .iload_n 3, 1, .null), (26, .aload_n 0, 1, .null)] (by decide +kernel) rfl ?_
  refine aw_get fgJ5_15_9 hb rfl (by decide +kernel) ?_
  refine aw_cs (rest := []) (st1 := [.int (nI (L.length + (dg_ x).length - (dg_ x).length))]) (kJ6g hO hv2 (Nat.le_trans hfb (Nat.le_of_lt hbv2)) hx (by omega) hq2 hm2) rfl rfl ck_mJ6g msJ5_248 nk_mJ6g rfl rfl rfl (Nat.le_of_ble_eq_true rfl) (by decide) (by decide) (by decide +kernel) (fun H3 h3 => ?_)
  obtain ⟨z3, h3⟩ := h3
  have hb := at_same hb (z3.2 _ (at_lt hb) (Or.inl hbv2))
  rw [Nat.add_sub_cancel] at h3
  refine aw_b (pc' := 50) (lv' := [(3, .int (nI (L.length + (dg_ x).length))), (2, .int (nI L.length)), (0, .ref b), (1, .int (nI x))]) (st' := [.int (nI (L.length + (dg_ x).length)), .ref b]) [(33, .pop, 1, .null), (34, .goto 14, 3, .null), (48, .aload_n 0, 1, .null), (49, .iload_n 3, 1, .null)] (by decide +kernel) rfl ?_
  refine aw_put fpJ5_79_9 hb hfb rfl rfl rfl (by decide +kernel) (fun H4 h4 z4 => ?_)
  refine aw_b (pc' := 54) (lv' := [(3, .int (nI (L.length + (dg_ x).length))), (2, .int (nI L.length)), (0, .ref b), (1, .int (nI x))]) (st' := [.ref b]) [(53, .aload_n 0, 1, .null)] (by decide +kernel) rfl ?_
  refine aw_aret rfl (by decide) (by decide) (by decide +kernel) ⟨rfl, v2, ⟨hL.app hdg.1 hl, hfb, hbv2, ?_, m2, _, at_same h3 (z4.2 _ (by omega)), by rw [List.length_append]; exact hq2, hm2, bpt_app hg (fun j hj => he2 j (by omega)), bf_bpt hf2 hdg.1⟩, ?_, ?_, ?_⟩
  · rw [List.length_append]
    exact h4
  · have a1 := hz.1
    have a2 := hy.1
    have a3 := z3.1
    rw [z4.1]
    omega
  · rcases hvv with h | h
    · exact Or.inl h
    · exact Or.inr (Nat.le_trans hz.1 h)
  · intro x hx hxb hxv
    have a1 := hz.1
    have a2 := hy.1
    have hx2 : x ≠ v2 := by rcases hvv with h | h <;> omega
    rw [z4.2 x hxb, z3.2 x (by omega) (by omega), hy.2 x (by omega) (Nat.lt_or_ge _ 0), ho2 x (by omega) hxb]
    exact hz.2 x hx (Nat.lt_or_ge _ 0)
theorem msJ4_29 : Cond.methodLink RJ4 29 yJ5_append_cf1ce ∈ uw_ := (uw_mem 749 (by decide +kernel) (by decide +kernel))
theorem kJ4s (h : bu_ E H b v L) (ht : tt_ E H t S P) (hPb : ¬ P b) (hl : L.length + S.length ≤ 600) : sp_ E mJ4s [.ref b, .ref t] H (po1 (.inl (some (.ref b))) (fun Hn => ∃ v', bu_ E Hn b v' (L ++ S) ∧ ef_ H Hn b v v')) := by
  refine sp_of (by decide +kernel) rfl rfl ?_
  refine aw_lv (lv' := [(0, .ref b), (1, .ref t)]) [0, 1] rfl ?_
  refine aw_b (pc' := 2) (lv' := [(0, .ref b), (1, .ref t)]) (st' := [.ref t, .ref b]) [(0, .aload_n 0, 1, .null), (1, .aload_n 1, 1, .null)] (by decide +kernel) rfl ?_
  refine aw_csu (rest := []) (st1 := [.ref b]) (kJ5s h ht hPb hl) rfl rfl ck_mJ5s imJ5_append_cf1ce smJ5_append_cf1ce spw54 (by decide) msJ4_29 h.2.2.2.1 nk_mJ5s rfl rfl rfl rfl (Nat.le_of_ble_eq_true rfl) (by decide) (by decide) (by decide +kernel) (fun H1 h1 => ?_)
  refine aw_b (pc' := 7) (lv' := [(0, .ref b), (1, .ref t)]) (st' := [.ref b]) [(5, .pop, 1, .null), (6, .aload_n 0, 1, .null)] (by decide +kernel) rfl ?_
  exact aw_aret rfl (by decide) (by decide) (by decide +kernel) ⟨rfl, h1⟩
theorem msJ4_50 : Cond.methodLink RJ4 50 yJ5_append_3fe6f ∈ uw_ := (uw_mem 946 (by decide +kernel) (by decide +kernel))
theorem kJ4c (h : bu_ E H b v L) (hc : 0 < c ∧ c < 128) (hl : L.length + 1 ≤ 600) : sp_ E mJ4c [.ref b, .int c] H (po1 (.inl (some (.ref b))) (fun Hn => ∃ v', bu_ E Hn b v' (L ++ [c]) ∧ ef_ H Hn b v v')) := by
  refine sp_of (by decide +kernel) rfl rfl ?_
  refine aw_lv (lv' := [(0, .ref b), (1, .int c)]) [0, 1] rfl ?_
  refine aw_b (pc' := 2) (lv' := [(0, .ref b), (1, .int c)]) (st' := [.int c, .ref b]) [(0, .aload_n 0, 1, .null), (1, .iload_n 1, 1, .null)] (by decide +kernel) rfl ?_
  refine aw_csu (rest := []) (st1 := [.ref b]) (kJ5a h hc hl) rfl rfl ck_mJ5a imJ5_append_3fe6f smJ5_append_3fe6f spw54 (by decide) msJ4_50 h.2.2.2.1 nk_mJ5a rfl rfl rfl rfl (Nat.le_of_ble_eq_true rfl) (by decide) (by decide) (by decide +kernel) (fun H1 h1 => ?_)
  refine aw_b (pc' := 7) (lv' := [(0, .ref b), (1, .int c)]) (st' := [.ref b]) [(5, .pop, 1, .null), (6, .aload_n 0, 1, .null)] (by decide +kernel) rfl ?_
  exact aw_aret rfl (by decide) (by decide) (by decide +kernel) ⟨rfl, h1⟩
theorem msJ4_53 : Cond.methodLink RJ4 53 yJ5_append_c97b9 ∈ uw_ := (uw_mem 846 (by decide +kernel) (by decide +kernel))
theorem kJ4i (h : bu_ E H b v L) (hO : exo_ E) (hx : x < 100000) (hl : L.length + (dg_ x).length ≤ 600) : sp_ E mJ4i [.ref b, .int (nI x)] H (po1 (.inl (some (.ref b))) (fun Hn => ∃ v', bu_ E Hn b v' (L ++ dg_ x) ∧ ef_ H Hn b v v')) := by
  refine sp_of (by decide +kernel) rfl rfl ?_
  refine aw_lv (lv' := [(0, .ref b), (1, .int (nI x))]) [0, 1] rfl ?_
  refine aw_b (pc' := 2) (lv' := [(0, .ref b), (1, .int (nI x))]) (st' := [.int (nI x), .ref b]) [(0, .aload_n 0, 1, .null), (1, .iload_n 1, 1, .null)] (by decide +kernel) rfl ?_
  refine aw_csu (rest := []) (st1 := [.ref b]) (kJ5b hO h hx hl) rfl rfl ck_mJ5b imJ5_append_c97b9 smJ5_append_c97b9 spw54 (by decide) msJ4_53 h.2.2.2.1 nk_mJ5b rfl rfl rfl rfl (Nat.le_of_ble_eq_true rfl) (by decide) (by decide) (by decide +kernel) (fun H1 h1 => ?_)
  refine aw_b (pc' := 7) (lv' := [(0, .ref b), (1, .int (nI x))]) (st' := [.ref b]) [(5, .pop, 1, .null), (6, .aload_n 0, 1, .null)] (by decide +kernel) rfl ?_
  exact aw_aret rfl (by decide) (by decide) (by decide +kernel) ⟨rfl, h1⟩
theorem msJ4_23 : Cond.methodLink RJ4 23 yJ4_append_15ec4 ∈ uw_ := (uw_mem 941 (by decide +kernel) (by decide +kernel))
theorem kJ4b (h : bu_ E H b v L) (ht : tt_ E H t S P) (hPb : ¬ P b) (hl : L.length + S.length ≤ 600) : sp_ E mJ4b [.ref b, .ref t] H (po1 (.inl (some (.ref b))) (fun Hn => ∃ v', bu_ E Hn b v' (L ++ S) ∧ ef_ H Hn b v v')) := by
  refine sp_of (by decide +kernel) rfl rfl ?_
  refine aw_lv (lv' := [(0, .ref b), (1, .ref t)]) [0, 1] rfl ?_
  refine aw_b (pc' := 2) (lv' := [(0, .ref b), (1, .ref t)]) (st' := [.ref t, .ref b]) [(0, .aload_n 0, 1, .null), (1, .aload_n 1, 1, .null)] (by decide +kernel) rfl ?_
  refine aw_cvu (rest := []) (st1 := [.ref b]) (kJ4s h ht hPb hl) rfl rfl ck_mJ4s msJ4_23 h.2.2.2.1 ⟨_, _, rfl⟩ nk_mJ4s rfl rfl rfl rfl rfl (Nat.le_of_ble_eq_true rfl) (by decide) (by decide) (by decide +kernel) (fun H1 _ h1 => ?_)
  exact aw_aret rfl (by decide) (by decide) (by decide +kernel) ⟨rfl, h1⟩
theorem oiJ5_3 : Cond.methodLink RJ5 3 Lib.objectInit ∈ uw_ := (uw_mem 722 (by decide +kernel) (by decide +kernel))
theorem oiJ0_1 : Cond.methodLink RJ0 1 Lib.objectInit ∈ uw_ := (uw_mem 879 (by decide +kernel) (by decide +kernel))
theorem kJ5z (hb : at_ E H b (.inr (9, [.null, .int 0, .int 0, .int 0]))) (hfb : ev_fr E b) : sp_ E mJ5z [.ref b, .int 16] H (po1 (.inl none) (fun Hn => ∃ v', bu_ E Hn b v' [] ∧ ef_ H Hn b b v')) := by
  intro hok hbs
  refine sp_of (by decide +kernel) rfl rfl ?_ hok hbs
  refine aw_lv (lv' := [(0, .ref b), (1, .int (16 : Int32))]) [0, 1] rfl ?_
  refine aw_b (pc' := 1) (lv' := [(0, .ref b), (1, .int (16 : Int32))]) (st' := [.ref b]) [(0, .aload_n 0, 1, .null)] (by decide +kernel) rfl ?_
  refine aw_oi oiJ5_3 (by decide) (by decide) (by decide +kernel) ?_
  refine aw_gst hok.2.2.2.2.2.2.1 fsJ5_18 (by decide +kernel) ?_
  refine aw_if_eq (off := 18) 25 (by decide) (by decide +kernel) (fun hc => absurd hc (by decide)) (fun _ => ?_)
  refine aw_b (pc' := 12) (lv' := [(0, .ref b), (1, .int (16 : Int32))]) (st' := [.int (16 : Int32), .ref b]) [(10, .aload_n 0, 1, .null), (11, .iload_n 1, 1, .null)] (by decide +kernel) rfl ?_
  refine aw_nab (N := 16) (by decide) (by decide) (by decide) (by decide +kernel) (fun H1 z1 o1 h1 => ?_)
  have hbl := at_lt hb
  have hb := at_same hb (o1 _ hbl)
  refine aw_put fpJ5_15_9 hb hfb rfl rfl rfl (by decide +kernel) (fun H2 h2 z2 => ?_)
  refine aw_b (pc' := 19) (lv' := [(0, .ref b), (1, .int (16 : Int32))]) (st' := [.int (0 : Int32), .ref b]) [(17, .aload_n 0, 1, .null), (18, .iconst 0, 1, .int (0 : Int32))] (by decide +kernel) rfl ?_
  refine aw_put fpJ5_22_9 h2 hfb rfl rfl rfl (by decide +kernel) (fun H3 h3 z3 => ?_)
  refine aw_b (pc' := 38) (lv' := [(0, .ref b), (1, .int (16 : Int32))]) (st' := []) [(22, .goto 16, 3, .null)] (by decide +kernel) rfl ?_
  exact aw_vret rfl (by decide) (by decide) (by decide +kernel) ⟨rfl, H.size, ⟨⟨Nat.zero_le _, fun c hc => absurd hc List.not_mem_nil⟩, hfb, hbl, h3, 16, _, at_same h1 ((z3.2 _ (by omega)).trans (z2.2 _ (by omega))), Nat.zero_le _, by decide, fun j hj => absurd hj (Nat.not_lt_zero _), fun j _ => show fits .byte (.int 0) = true by decide⟩, by rw [z3.1, z2.1, z1]; omega, Or.inr (Nat.le_refl _), fun y hy hyb hyv => (z3.2 y hyb).trans ((z2.2 y hyb).trans (o1 y hy))⟩
theorem msJ4_1 : Cond.methodLink RJ4 1 yJ5_init_d00df ∈ uw_ := (uw_mem 719 (by decide +kernel) (by decide +kernel))
theorem kJ4z (hb : at_ E H b (.inr (9, [.null, .int 0, .int 0, .int 0]))) (hfb : ev_fr E b) : sp_ E mJ4z [.ref b] H (po1 (.inl none) (fun Hn => ∃ v', bu_ E Hn b v' [] ∧ ef_ H Hn b b v')) := by
  refine sp_of (by decide +kernel) rfl rfl ?_
  refine aw_lv (lv' := [(0, .ref b)]) [0] rfl ?_
  refine aw_b (pc' := 3) (lv' := [(0, .ref b)]) (st' := [.int (16 : Int32), .ref b]) [(0, .aload_n 0, 1, .null), (1, .bipush 16, 2, .int (16 : Int32))] (by decide +kernel) rfl ?_
  refine aw_cia (rest := []) (kJ5z hb hfb) rfl ck_mJ5z rfl msJ4_1 nk_mJ5z rfl rfl rfl rfl (Nat.le_of_ble_eq_true rfl) (by decide) (by decide) (by decide +kernel) (fun H1 h1 => ?_)
  exact aw_vret rfl (by decide) (by decide) (by decide +kernel) ⟨rfl, h1⟩
theorem kcJ5_38 : Cond.constant RJ5 38 (2147483631 : Int32) ∈ uw_ := (uw_mem 937 (by decide +kernel) (by decide +kernel))
theorem sl_J5_append_cf1ce_J4_append_cf1ce : Cond.selects RJ4 yJ5_append_cf1ce yJ4_append_cf1ce ∈ uw_ := (uw_mem 1483 (by decide +kernel) (by decide +kernel))
theorem msJ5_43 : Cond.methodLink RJ5 43 yJ5_append_cf1ce ∈ uw_ := (uw_mem 938 (by decide +kernel) (by decide +kernel))
theorem kJ5o (hb : at_ E H b (.inr (9, [.null, .int 0, .int 0, .int 0]))) (hfb : ev_fr E b) (ht : tt_ E H t S P) (hPb : ¬ P b) : sp_ E mJ5o [.ref b, .ref t] H (po1 (.inl none) (fun Hn => ∃ v', bu_ E Hn b v' S ∧ ef_ H Hn b b v')) := by
  refine sp_of (by decide +kernel) rfl rfl ?_
  refine aw_lv (lv' := [(0, .ref b), (1, .ref t)]) [0, 1] rfl ?_
  refine aw_b (pc' := 1) (lv' := [(0, .ref b), (1, .ref t)]) (st' := [.ref b]) [(0, .aload_n 0, 1, .null)] (by decide +kernel) rfl ?_
  refine aw_oi oiJ5_3 (by decide) (by decide) (by decide +kernel) ?_
  refine aw_b (pc' := 5) (lv' := [(0, .ref b), (1, .ref t)]) (st' := [.ref t]) [(4, .aload_n 1, 1, .null)] (by decide +kernel) rfl ?_
  refine aw_crt (rest := []) (st1 := [.int (nI S.length)]) ht rfl (kJ0l ht) rfl rfl ck_mJ0l msJ5_32 nk_mJ0l rfl rfl rfl (Nat.le_of_ble_eq_true rfl) (Nat.zero_le _) (Nat.zero_le _) (by decide +kernel) (fun H1 hz => ?_)
  have hS := ht.1
  have hSl := hS.1
  have hbl := at_lt hb
  have hb := at_same hb (hz.2 _ hbl (Nat.lt_or_ge _ 0))
  have ht := ht.sm hz
  refine aw_b (pc' := 10) (lv' := [(2, .int (nI S.length)), (0, .ref b), (1, .ref t)]) (st' := [.int (nI S.length)]) [(8, .istore_n 2, 1, .null), (9, .iload_n 2, 1, .null)] (by decide +kernel) rfl ?_
  refine aw_ldc kcJ5_38 (by decide +kernel) ?_
  refine aw_ic_ge (off := 10) 22 (by decide) (by decide +kernel) (fun hc => absurd hc (nI_ge (b := 2147483631) (by omega) (by omega))) (fun _ => ?_)
  refine aw_b (pc' := 24) (lv' := [(2, .int (nI S.length)), (0, .ref b), (1, .ref t)]) (st' := [.int (nI S.length + nI 16)]) [(15, .iload_n 2, 1, .null), (16, .bipush 16, 2, .int (16 : Int32)), (18, .iadd, 1, .null), (19, .goto 5, 3, .null)] (by decide +kernel) rfl ?_
  rw [nI_add]
  refine aw_b (pc' := 26) (lv' := [(3, .int (nI (S.length + 16))), (2, .int (nI S.length)), (0, .ref b), (1, .ref t)]) (st' := [.ref t]) [(24, .istore_n 3, 1, .null), (25, .aload_n 1, 1, .null)] (by decide +kernel) rfl ?_
  refine aw_crt (rest := []) (st1 := [.int 0]) ht rfl (kJ0c ht) rfl rfl ck_mJ0c msJ5_40 nk_mJ0c rfl rfl rfl (Nat.le_of_ble_eq_true rfl) (Nat.zero_le _) (Nat.zero_le _) (by decide +kernel) (fun H2 hy => ?_)
  have hb := at_same hb (hy.2 _ (at_lt hb) (Nat.lt_or_ge _ 0))
  have ht := ht.sm hy
  refine aw_b (pc' := 34) (lv' := [(4, .int (0 : Int32)), (3, .int (nI (S.length + 16))), (2, .int (nI S.length)), (0, .ref b), (1, .ref t)]) (st' := [.int (0 : Int32), .ref b]) [(29, .istore 4, 2, .null), (31, .aload_n 0, 1, .null), (32, .iload 4, 2, .null)] (by decide +kernel) rfl ?_
  refine aw_put fpJ5_22_9 hb hfb rfl rfl rfl (by decide +kernel) (fun H3 hb z3 => ?_)
  refine aw_b (pc' := 40) (lv' := [(4, .int (0 : Int32)), (3, .int (nI (S.length + 16))), (2, .int (nI S.length)), (0, .ref b), (1, .ref t)]) (st' := [.int (0 : Int32), .ref b]) [(37, .aload_n 0, 1, .null), (38, .iload 4, 2, .null)] (by decide +kernel) rfl ?_
  refine aw_if_ne (off := 9) 49 (by decide) (by decide +kernel) (fun hc => absurd rfl hc) (fun _ => ?_)
  refine aw_b (pc' := 44) (lv' := [(4, .int (0 : Int32)), (3, .int (nI (S.length + 16))), (2, .int (nI S.length)), (0, .ref b), (1, .ref t)]) (st' := [.int (nI (S.length + 16)), .ref b]) [(43, .iload_n 3, 1, .null)] (by decide +kernel) rfl ?_
  refine aw_nab (N := S.length + 16) (by omega) (by decide) (by show 0 + (S.length + 16) ≤ 1816; omega) (by decide +kernel) (fun H4 z4 o4 h4 => ?_)
  refine aw_b (pc' := 53) (lv' := [(4, .int (0 : Int32)), (3, .int (nI (S.length + 16))), (2, .int (nI S.length)), (0, .ref b), (1, .ref t)]) (st' := [.ref (H3.size), .ref b]) [(46, .goto 7, 3, .null)] (by decide +kernel) rfl ?_
  have hb3 := at_lt hb
  have hb := at_same hb (o4 _ hb3)
  refine aw_put fpJ5_15_9 hb hfb rfl rfl rfl (by decide +kernel) (fun H5 hb z5 => ?_)
  have ht := (ht.keep (fun x hx hpx => z3.2 x (fun e => hPb (e ▸ hpx))))
  have ht := (ht.keep (fun x hx hpx => o4 x hx))
  have ht := (ht.keep (fun x hx hpx => z5.2 x (fun e => hPb (e ▸ hpx))))
  have hbu : bu_ E H5 b H3.size [] := ⟨⟨Nat.zero_le _, fun c hc => absurd hc List.not_mem_nil⟩, hfb, hb3, hb, S.length + 16, _, at_same h4 (z5.2 _ (by omega)), Nat.zero_le _, by omega, fun j hj => absurd hj (Nat.not_lt_zero _), fun j _ => show fits .byte (.int 0) = true by decide⟩
  refine aw_b (pc' := 58) (lv' := [(4, .int (0 : Int32)), (3, .int (nI (S.length + 16))), (2, .int (nI S.length)), (0, .ref b), (1, .ref t)]) (st' := [.ref t, .ref b]) [(56, .aload_n 0, 1, .null), (57, .aload_n 1, 1, .null)] (by decide +kernel) rfl ?_
  refine aw_co (rest := []) (st1 := [.ref b]) (kJ4b hbu ht hPb (by show 0 + S.length ≤ 600; omega)) rfl rfl ck_mJ4b imJ4_append_cf1ce ck_mJ5s.1 imJ5_append_cf1ce (by decide) rfl smJ5_append_cf1ce sl_J5_append_cf1ce_J4_append_cf1ce msJ5_43 hb nk_mJ4b rfl rfl rfl rfl (Nat.le_of_ble_eq_true rfl) (by show 0 + 1 + 1 ≤ 2; omega) (by show 0 + (S.length + 16) + 1200 ≤ 1816; omega) (by decide +kernel) (fun H6 h6 => ?_)
  refine aw_b (pc' := 62) (lv' := [(4, .int (0 : Int32)), (3, .int (nI (S.length + 16))), (2, .int (nI S.length)), (0, .ref b), (1, .ref t)]) (st' := []) [(61, .pop, 1, .null)] (by decide +kernel) rfl ?_
  obtain ⟨v6, hb6, s6, w6, o6⟩ := h6
  rw [List.nil_append] at hb6
  have a1 := hz.1
  have a2 := hy.1
  have a3 := z3.1
  have a5 := z5.1
  refine aw_vret rfl (by decide) (by show 0 + (S.length + 16) + 1200 ≤ 1816; omega) (by decide +kernel) ⟨rfl, v6, hb6, by omega, Or.inr (by rcases w6 with h | h <;> omega), fun y hy2 hyb hyv => ?_⟩
  rw [o6 y (by omega) hyb (by omega), z5.2 y hyb, o4 y (by omega), z3.2 y hyb, hy.2 y (by omega) (Nat.lt_or_ge _ 0)]
  exact hz.2 y hy2 (Nat.lt_or_ge _ 0)
theorem msJ4_7 : Cond.methodLink RJ4 7 yJ5_init_a7421 ∈ uw_ := (uw_mem 934 (by decide +kernel) (by decide +kernel))
theorem kJ4o (hb : at_ E H b (.inr (9, [.null, .int 0, .int 0, .int 0]))) (hfb : ev_fr E b) (ht : tt_ E H t S P) (hPb : ¬ P b) : sp_ E mJ4o [.ref b, .ref t] H (po1 (.inl none) (fun Hn => ∃ v', bu_ E Hn b v' S ∧ ef_ H Hn b b v')) := by
  refine sp_of (by decide +kernel) rfl rfl ?_
  refine aw_lv (lv' := [(0, .ref b), (1, .ref t)]) [0, 1] rfl ?_
  refine aw_b (pc' := 2) (lv' := [(0, .ref b), (1, .ref t)]) (st' := [.ref t, .ref b]) [(0, .aload_n 0, 1, .null), (1, .aload_n 1, 1, .null)] (by decide +kernel) rfl ?_
  refine aw_cia (rest := []) (kJ5o hb hfb ht hPb) rfl ck_mJ5o rfl msJ4_7 nk_mJ5o rfl rfl rfl rfl (Nat.le_of_ble_eq_true rfl) (by decide) (by decide) (by decide +kernel) (fun H1 h1 => ?_)
  exact aw_vret rfl (by decide) (by decide) (by decide +kernel) ⟨rfl, h1⟩
theorem kJ5l (hb : at_ E H b (.inr (9, [.ref v, .int 0, .int 0, .int z]))) : sp_ E mJ5l [.ref b] H (po1 (.inl (some (.int z))) (fun Hn => sm_ H Hn 0 0)) := by
  refine sp_of (by decide +kernel) rfl rfl ?_
  refine aw_lv (lv' := [(0, .ref b)]) [0] rfl ?_
  refine aw_b (pc' := 1) (lv' := [(0, .ref b)]) (st' := [.ref b]) [(0, .aload_n 0, 1, .null)] (by decide +kernel) rfl ?_
  refine aw_get fgJ5_79_9 hb rfl (by decide +kernel) ?_
  exact aw_iret rfl (Nat.zero_le _) (Nat.zero_le _) (by decide +kernel) ⟨rfl, sm_.rfl'⟩
theorem msJ4_343 : Cond.methodLink RJ4 343 yJ5_length_8abf5 ∈ uw_ := (uw_mem 891 (by decide +kernel) (by decide +kernel))
theorem kJ4l (hb : at_ E H b (.inr (9, [.ref v, .int 0, .int 0, .int z]))) : sp_ E mJ4l [.ref b] H (po1 (.inl (some (.int z))) (fun Hn => sm_ H Hn 0 0)) := by
  refine sp_of (by decide +kernel) rfl rfl ?_
  refine aw_lv (lv' := [(0, .ref b)]) [0] rfl ?_
  refine aw_b (pc' := 1) (lv' := [(0, .ref b)]) (st' := [.ref b]) [(0, .aload_n 0, 1, .null)] (by decide +kernel) rfl ?_
  refine aw_csu (rest := []) (st1 := [.int z]) (kJ5l hb) rfl rfl ck_mJ5l imJ5_length_8abf5 smJ5_length_8abf5 spw54 (by decide) msJ4_343 hb nk_mJ5l rfl rfl rfl rfl (Nat.le_of_ble_eq_true rfl) (by decide) (by decide) (by decide +kernel) (fun H1 h1 => ?_)
  exact aw_iret rfl (by decide) (by decide) (by decide +kernel) ⟨rfl, h1⟩
theorem kJ5v (hb : at_ E H b (.inr (9, [.ref v, .int 0, .int 0, .int z]))) : sp_ E mJ5v [.ref b] H (po1 (.inl (some (.ref v))) (fun Hn => sm_ H Hn 0 0)) := by
  refine sp_of (by decide +kernel) rfl rfl ?_
  refine aw_lv (lv' := [(0, .ref b)]) [0] rfl ?_
  refine aw_b (pc' := 1) (lv' := [(0, .ref b)]) (st' := [.ref b]) [(0, .aload_n 0, 1, .null)] (by decide +kernel) rfl ?_
  refine aw_get fgJ5_15_9 hb rfl (by decide +kernel) ?_
  exact aw_areta rfl (Nat.zero_le _) (Nat.zero_le _) (by decide +kernel) ⟨rfl, sm_.rfl'⟩
theorem kJ7l (hn : n ≤ 1200) : sp_ E mJ7l [.int 0, .int (nI n)] H (po1 (.inl none) (fun Hn => sm_ H Hn 0 0)) := by
  refine sp_of (by decide +kernel) rfl rfl ?_
  refine aw_lv (lv' := [(0, .int (0 : Int32)), (1, .int (nI n))]) [0, 1] rfl ?_
  refine aw_b (pc' := 2) (lv' := [(0, .int (0 : Int32)), (1, .int (nI n))]) (st' := [.int (0 : Int32), .int (nI n)]) [(0, .iload_n 1, 1, .null), (1, .iload_n 0, 1, .null)] (by decide +kernel) rfl ?_
  refine aw_ic_ge (off := 35) 37 (by decide) (by decide +kernel) (fun _ => ?_) (fun hc => absurd (nI_pos' (by omega)) hc)
  exact aw_vret rfl (Nat.zero_le _) (Nat.zero_le _) (by decide +kernel) ⟨rfl, sm_.rfl'⟩
theorem msJ7_343 : Cond.methodLink RJ7 343 yJ7_checkLength_df160 ∈ uw_ := (uw_mem 900 (by decide +kernel) (by decide +kernel))
theorem kJ7b (hv : at_ E H v (.inl (E.2.1 1, m, .inl g))) (hf : ev_fr E H.size) (hfit : bf_ g m) (hnm : n ≤ m) (hm : m ≤ 1200) : sp_ E mJ7b [.ref v, .int 0, .int (nI n)] H (rkp_ E H n g) := by
  refine sp_of (by decide +kernel) rfl rfl ?_
  refine aw_lv (lv' := [(0, .ref v), (1, .int (0 : Int32)), (2, .int (nI n))]) [0, 1, 2] rfl ?_
  refine aw_b (pc' := 2) (lv' := [(0, .ref v), (1, .int (0 : Int32)), (2, .int (nI n))]) (st' := [.int (nI n), .int (0 : Int32)]) [(0, .iload_n 1, 1, .null), (1, .iload_n 2, 1, .null)] (by decide +kernel) rfl ?_
  refine aw_cs (rest := []) (st1 := []) (kJ7l (by omega)) rfl rfl ck_mJ7l msJ7_343 nk_mJ7l rfl rfl rfl (Nat.le_of_ble_eq_true rfl) (Nat.zero_le _) (Nat.zero_le _) (by decide +kernel) (fun H0 hz => ?_)
  have hs0 : ∀ q : Nat, q < H.size → H0[q]? = H[q]? := fun q hq => hz.2 q hq (Nat.lt_or_ge _ 0)
  have hv := at_same hv (hs0 _ (at_lt hv))
  refine aw_b (pc' := 8) (lv' := [(0, .ref v), (1, .int (0 : Int32)), (2, .int (nI n))]) (st' := [.int (nI n - (0 : Int32))]) [(5, .iload_n 2, 1, .null), (6, .iload_n 1, 1, .null), (7, .isub, 1, .null)] (by decide +kernel) rfl ?_
  rw [Int32.sub_zero]
  refine aw_b (pc' := 10) (lv' := [(3, .int (nI n)), (0, .ref v), (1, .int (0 : Int32)), (2, .int (nI n))]) (st' := [.int (nI n)]) [(8, .istore_n 3, 1, .null), (9, .iload_n 3, 1, .null)] (by decide +kernel) rfl ?_
  refine aw_nab (N := n) (by omega) (by decide) (by show 0 + n ≤ 1200; omega) (by decide +kernel) (fun H1 z1 o1 h1 => ?_)
  have hv := at_same hv (o1 _ (at_lt hv))
  refine aw_b (pc' := 20) (lv' := [(4, .ref (H0.size)), (3, .int (nI n)), (0, .ref v), (1, .int (0 : Int32)), (2, .int (nI n))]) (st' := [.ref v, .int (0 : Int32), .ref (H0.size), .int (0 : Int32), .ref v]) [(12, .astore 4, 2, .null), (14, .aload_n 0, 1, .null), (15, .iload_n 1, 1, .null), (16, .aload 4, 2, .null), (18, .iconst 0, 1, .int (0 : Int32)), (19, .aload_n 0, 1, .null)] (by decide +kernel) rfl ?_
  refine aw_alen (ci := 1) (ty := .byte) (x := .inl (E.2.1 1, m, .inl g)) rfl hv rfl (by decide +kernel) ?_
  refine aw_b (pc' := 23) (lv' := [(4, .ref (H0.size)), (3, .int (nI n)), (0, .ref v), (1, .int (0 : Int32)), (2, .int (nI n))]) (st' := [.int (nI m - (0 : Int32)), .int (0 : Int32), .ref H0.size, .int (0 : Int32), .ref v]) [(21, .iload_n 1, 1, .null), (22, .isub, 1, .null)] (by decide +kernel) rfl ?_
  rw [Int32.sub_zero]
  refine aw_b (pc' := 24) (lv' := [(4, .ref (H0.size)), (3, .int (nI n)), (0, .ref v), (1, .int (0 : Int32)), (2, .int (nI n))]) (st' := [.int (nI n), .int (nI m), .int (0 : Int32), .ref (H0.size), .int (0 : Int32), .ref v]) [(23, .iload_n 3, 1, .null)] (by decide +kernel) rfl ?_
  refine aw_mn (rest := [.int 0, .ref H0.size, .int 0, .ref v]) mtJ7_304 rfl (Nat.le_of_ble_eq_true rfl) (by decide) (by show 0 + n ≤ 1200; omega) (by decide +kernel) ?_
  rw [mn_nI (by omega) (by omega), Nat.min_eq_right (by omega)]
  refine aw_cpx cpJ7_150 hv (by omega) (fun j hj => hfit j (by omega)) h1 (Nat.le_trans hf hz.1) (by omega) (by omega) rfl (Nat.le_of_ble_eq_true rfl) (by decide +kernel) (fun H2 h2 z2 => ?_)
  refine aw_b (pc' := 32) (lv' := [(4, .ref (H0.size)), (3, .int (nI n)), (0, .ref v), (1, .int (0 : Int32)), (2, .int (nI n))]) (st' := [.ref (H0.size)]) [(30, .aload 4, 2, .null)] (by decide +kernel) rfl ?_
  have a0 := hz.1
  exact aw_areta rfl (by decide) (by show 0 + n ≤ 1200; omega) (by decide +kernel) ⟨H0.size, rfl, a0, by rw [z2.1, z1]; omega, fun q hq => (z2.2 q (by omega)).trans ((o1 q (by omega)).trans (hs0 q hq)), _, fun j hj => by rw [pk_cpy_in (Nat.zero_le _) (by omega), Nat.zero_add, Nat.sub_zero], h2⟩
theorem msJ7_310 : Cond.methodLink RJ7 310 ⟨"[B", "clone", "()Ljava/lang/Object;"⟩ ∈ uw_ := (uw_mem 778 (by decide +kernel) (by decide +kernel))
theorem clJ7_311 : Cond.classLink RJ7 311 "[B" ∈ uw_ := (uw_mem 784 (by decide +kernel) (by decide +kernel))
theorem msJ7_339 : Cond.methodLink RJ7 339 yJ7_copyOfRangeByte_39247 ∈ uw_ := (uw_mem 897 (by decide +kernel) (by decide +kernel))
theorem kJ7r (hv : at_ E H v (.inl (E.2.1 1, m, .inl g))) (hf : ev_fr E H.size) (hfit : bf_ g m) (hnm : n ≤ m) (hm : m ≤ 1200) : sp_ E mJ7r [.ref v, .int 0, .int (nI n)] H (rkp_ E H n g) := by
  refine sp_of (by decide +kernel) rfl rfl ?_
  refine aw_lv (lv' := [(0, .ref v), (1, .int (0 : Int32)), (2, .int (nI n))]) [0, 1, 2] rfl ?_
  refine aw_b (pc' := 1) (lv' := [(0, .ref v), (1, .int (0 : Int32)), (2, .int (nI n))]) (st' := [.int (0 : Int32)]) [(0, .iload_n 1, 1, .null)] (by decide +kernel) rfl ?_
  refine aw_if_ne (off := 9) 10 (by decide) (by decide +kernel) (fun hc => absurd rfl hc) (fun _ => ?_)
  refine aw_b (pc' := 6) (lv' := [(0, .ref v), (1, .int (0 : Int32)), (2, .int (nI n))]) (st' := [.ref v, .int (nI n)]) [(4, .iload_n 2, 1, .null), (5, .aload_n 0, 1, .null)] (by decide +kernel) rfl ?_
  refine aw_alen (ci := 1) (ty := .byte) (x := .inl (E.2.1 1, m, .inl g)) rfl hv rfl (by decide +kernel) ?_
  refine aw_ic_eq (off := 10) 17 (by decide) (by decide +kernel) (fun hc => ?_) (fun hc => ?_)
  · skip
    refine aw_b (pc' := 18) (lv' := [(0, .ref v), (1, .int (0 : Int32)), (2, .int (nI n))]) (st' := [.ref v]) [(17, .aload_n 0, 1, .null)] (by decide +kernel) rfl ?_
    have enm : n = m := (nI_eq (by omega) (by omega)).mp hc
    subst enm
    refine aw_cln (N := n) msJ7_310 hv hfit rfl (by decide) (by decide) (by show 0 + n ≤ 1200; omega) (by decide +kernel) (fun H1 z1 o1 h1 => ?_)
    refine aw_casta clJ7_311 h1 (by decide +kernel) ?_
    exact aw_areta rfl (by decide) (by show 0 + n ≤ 1200; omega) (by decide +kernel) ⟨H.size, rfl, Nat.le_refl _, by omega, o1, g, fun _ _ => rfl, h1⟩
  · skip
    refine aw_b (pc' := 13) (lv' := [(0, .ref v), (1, .int (0 : Int32)), (2, .int (nI n))]) (st' := [.int (nI n), .int (0 : Int32), .ref v]) [(10, .aload_n 0, 1, .null), (11, .iload_n 1, 1, .null), (12, .iload_n 2, 1, .null)] (by decide +kernel) rfl ?_
    refine aw_callS (rest := []) (kJ7b hv hf hfit hnm hm) rfl ck_mJ7b msJ7_339 nk_mJ7b rfl rfl rfl (Nat.le_of_ble_eq_true rfl) (by decide) (by decide) (by decide +kernel) (fun r H2 _ hq2 => ?_) (fun _ _ _ hq2 => by obtain ⟨x, h, -⟩ := hq2; cases h)
    obtain ⟨x, er, hq⟩ := hq2
    have er := Sum.inl.inj er
    subst er
    exact aw_areta rfl (by decide) (by decide) (by decide +kernel) ⟨x, rfl, hq⟩
theorem ffJ0_15_8 : fpf_ RJ0 15 8 1 .byte := ⟨_, _, _, tyJ0, rfl, by decide, (uw_mem 914 (by decide +kernel) (by decide +kernel)), wkJ0, tyJ0_ok, nmJ0, rfl, rfl, by decide +kernel⟩
theorem ffJ0_9_8 : fpf_ RJ0 9 8 0 (.array .byte) := ⟨_, _, _, tyJ0, rfl, by decide, (uw_mem 913 (by decide +kernel) (by decide +kernel)), wkJ0, tyJ0_ok, nmJ0, rfl, rfl, by decide +kernel⟩
theorem sl_J5_getValue_6d5f1_J5_getValue_6d5f1 : Cond.selects RJ4 yJ5_getValue_6d5f1 yJ5_getValue_6d5f1 ∈ uw_ := (uw_mem 883 (by decide +kernel) (by decide +kernel))
theorem msJ0_552 : Cond.methodLink RJ0 552 yJ5_getValue_6d5f1 ∈ uw_ := (uw_mem 880 (by decide +kernel) (by decide +kernel))
theorem sl_J5_length_8abf5_J4_length_8abf5 : Cond.selects RJ4 yJ5_length_8abf5 yJ4_length_8abf5 ∈ uw_ := (uw_mem 888 (by decide +kernel) (by decide +kernel))
theorem msJ0_549 : Cond.methodLink RJ0 549 yJ5_length_8abf5 ∈ uw_ := (uw_mem 885 (by decide +kernel) (by decide +kernel))
theorem msJ0_1047 : Cond.methodLink RJ0 1047 yJ5_isLatin1_aae02 ∈ uw_ := (uw_mem 893 (by decide +kernel) (by decide +kernel))
theorem msJ0_54 : Cond.methodLink RJ0 54 yJ7_copyOfRange_39247 ∈ uw_ := (uw_mem 894 (by decide +kernel) (by decide +kernel))
theorem kJ0y (h : bu_ E H b v L) (hvt : v < t) (ht : at_ E H t (.inr (8, [.null, .int 0, .int 0, .int 0]))) (hft : ev_fr E t) : sp_ E mJ0y [.ref t, .ref b, .null] H (po1 (.inl none) (fun Hn => ∃ (u : Nat) (f : Nat → Int32), H.size ≤ u ∧ H.size ≤ Hn.size ∧ (∀ q : Nat, q < H.size → q ≠ t → Hn[q]? = H[q]?) ∧ at_ E Hn t (.inr (8, [.ref u, .int 0, .int 0, .int 0])) ∧ (∀ j, j < L.length → f j = L.getD j 0) ∧ at_ E Hn u (.inl (E.2.1 1, L.length, .inl f)))) := by
  intro hok hbs
  obtain ⟨hL, hfb, hbv, hb, m, g, hv, hLm, hm, hg, hfit⟩ := h
  refine sp_of (by decide +kernel) rfl rfl ?_ hok hbs
  refine aw_lv (lv' := [(0, .ref t), (1, .ref b), (2, .null)]) [0, 1, 2] rfl ?_
  refine aw_b (pc' := 1) (lv' := [(0, .ref t), (1, .ref b), (2, .null)]) (st' := [.ref t]) [(0, .aload_n 0, 1, .null)] (by decide +kernel) rfl ?_
  refine aw_oi oiJ0_1 (by decide) (by decide) (by decide +kernel) ?_
  refine aw_b (pc' := 5) (lv' := [(0, .ref t), (1, .ref b), (2, .null)]) (st' := [.ref b]) [(4, .aload_n 1, 1, .null)] (by decide +kernel) rfl ?_
  refine aw_cu (rest := []) (st1 := [.ref v]) (kJ5v hb) rfl rfl ck_mJ5v imJ5_getValue_6d5f1 smJ5_getValue_6d5f1 sl_J5_getValue_6d5f1_J5_getValue_6d5f1 msJ0_552 hb nk_mJ5v rfl rfl rfl rfl (Nat.le_of_ble_eq_true rfl) (by decide) (by decide) (by decide +kernel) (fun H1 hz => ?_)
  have htl := at_lt ht
  have hb := at_same hb (hz.2 _ (at_lt hb) (Nat.lt_or_ge _ 0))
  have hv := at_same hv (hz.2 _ (at_lt hv) (Nat.lt_or_ge _ 0))
  have ht := at_same ht (hz.2 _ (at_lt ht) (Nat.lt_or_ge _ 0))
  refine aw_b (pc' := 10) (lv' := [(3, .ref v), (0, .ref t), (1, .ref b), (2, .null)]) (st' := [.ref b]) [(8, .astore_n 3, 1, .null), (9, .aload_n 1, 1, .null)] (by decide +kernel) rfl ?_
  refine aw_co (rest := []) (st1 := [.int (nI L.length)]) (kJ4l hb) rfl rfl ck_mJ4l imJ4_length_8abf5 ck_mJ5l.1 imJ5_length_8abf5 (by decide) rfl smJ5_length_8abf5 sl_J5_length_8abf5_J4_length_8abf5 msJ0_549 hb nk_mJ4l rfl rfl rfl rfl (Nat.le_of_ble_eq_true rfl) (by decide) (by decide) (by decide +kernel) (fun H2 hy => ?_)
  have hb := at_same hb (hy.2 _ (at_lt hb) (Nat.lt_or_ge _ 0))
  have hv := at_same hv (hy.2 _ (at_lt hv) (Nat.lt_or_ge _ 0))
  have ht := at_same ht (hy.2 _ (at_lt ht) (Nat.lt_or_ge _ 0))
  refine aw_b (pc' := 16) (lv' := [(4, .int (nI L.length)), (3, .ref v), (0, .ref t), (1, .ref b), (2, .null)]) (st' := [.ref b]) [(13, .istore 4, 2, .null), (15, .aload_n 1, 1, .null)] (by decide +kernel) rfl ?_
  refine aw_cu (rest := []) (st1 := [.int 1]) (kJ5i hb) rfl rfl ck_mJ5i imJ5_isLatin1_aae02 smJ5_isLatin1_aae02 sl_J5_isLatin1_aae02_J5_isLatin1_aae02 msJ0_1047 hb nk_mJ5i rfl rfl rfl rfl (Nat.le_of_ble_eq_true rfl) (by decide) (by decide) (by decide +kernel) (fun H3 hw => ?_)
  have hb := at_same hb (hw.2 _ (at_lt hb) (Nat.lt_or_ge _ 0))
  have hv := at_same hv (hw.2 _ (at_lt hv) (Nat.lt_or_ge _ 0))
  have ht := at_same ht (hw.2 _ (at_lt ht) (Nat.lt_or_ge _ 0))
  refine aw_if_eq (off := 22) 41 (by decide) (by decide +kernel) (fun hc => absurd hc (by decide)) (fun _ => ?_)
  refine aw_b (pc' := 24) (lv' := [(4, .int (nI L.length)), (3, .ref v), (0, .ref t), (1, .ref b), (2, .null)]) (st' := [.int (0 : Int32), .ref t]) [(22, .aload_n 0, 1, .null), (23, .iconst 0, 1, .int (0 : Int32))] (by decide +kernel) rfl ?_
  refine aw_putF ffJ0_15_8 rfl ht hft rfl rfl rfl (by decide +kernel) (fun H4 ht z4 => ?_)
  have hb := at_same hb (z4.2 _ (by omega))
  have hv := at_same hv (z4.2 _ (by omega))
  refine aw_b (pc' := 32) (lv' := [(4, .int (nI L.length)), (3, .ref v), (0, .ref t), (1, .ref b), (2, .null)]) (st' := [.int (nI L.length), .int (0 : Int32), .ref v, .ref t]) [(27, .aload_n 0, 1, .null), (28, .aload_n 3, 1, .null), (29, .iconst 0, 1, .int (0 : Int32)), (30, .iload 4, 2, .null)] (by decide +kernel) rfl ?_
  refine aw_callS (rest := [.ref t]) (kJ7r hv (Nat.le_trans hft (Nat.le_of_lt (at_lt ht))) hfit hLm hm) rfl ck_mJ7r msJ0_54 nk_mJ7r rfl rfl rfl (Nat.le_of_ble_eq_true rfl) (by decide) (by decide) (by decide +kernel) (fun r H5 _ hq2 => ?_) (fun _ _ _ hq2 => by obtain ⟨x, h, -⟩ := hq2; cases h)
  obtain ⟨u, er, u1, u2, u3, f, hf, hu⟩ := hq2
  have er := Sum.inl.inj er
  subst er
  have ht4 := at_lt ht
  have ht := at_same ht (u3 _ ht4)
  show aw E mJ0y _ 35 [(4, .int (nI L.length)), (3, .ref v), (0, .ref t), (1, .ref b), (2, .null)] [.ref u, .ref t] H5 1 1200
  refine aw_putF ffJ0_9_8 rfl ht hft rfl rfl rfl (by decide +kernel) (fun H6 ht z6 => ?_)
  refine aw_b (pc' := 97) (lv' := [(4, .int (nI L.length)), (3, .ref v), (0, .ref t), (1, .ref b), (2, .null)]) (st' := []) [(38, .goto 59, 3, .null)] (by decide +kernel) rfl ?_
  have a1 := hz.1
  have a2 := hy.1
  have a3 := hw.1
  have a4 := z4.1
  refine aw_vret rfl (by decide) (by decide) (by decide +kernel) ⟨rfl, u, f, by omega, by rw [z6.1]; omega, fun q hq hqt => ?_, ht, fun j hj => (hf j hj).trans (hg j hj), at_same hu (z6.2 _ (by omega))⟩
  rw [z6.2 q hqt, u3 q (by omega), z4.2 q hqt, hw.2 q (by omega) (Nat.lt_or_ge _ 0), hy.2 q (by omega) (Nat.lt_or_ge _ 0)]
  exact hz.2 q hq (Nat.lt_or_ge _ 0)
theorem msJ0_489 : Cond.methodLink RJ0 489 yJ0_init_db425 ∈ uw_ := (uw_mem 876 (by decide +kernel) (by decide +kernel))
theorem kJ0x (h : bu_ E H b v L) (hvt : v < t) (ht : at_ E H t (.inr (8, [.null, .int 0, .int 0, .int 0]))) (hft : ev_fr E t) : sp_ E mJ0x [.ref t, .ref b] H (po1 (.inl none) (fun Hn => ∃ (u : Nat) (f : Nat → Int32), H.size ≤ u ∧ H.size ≤ Hn.size ∧ (∀ q : Nat, q < H.size → q ≠ t → Hn[q]? = H[q]?) ∧ at_ E Hn t (.inr (8, [.ref u, .int 0, .int 0, .int 0])) ∧ (∀ j, j < L.length → f j = L.getD j 0) ∧ at_ E Hn u (.inl (E.2.1 1, L.length, .inl f)))) := by
  refine sp_of (by decide +kernel) rfl rfl ?_
  refine aw_lv (lv' := [(0, .ref t), (1, .ref b)]) [0, 1] rfl ?_
  refine aw_b (pc' := 2) (lv' := [(0, .ref t), (1, .ref b)]) (st' := [.ref b, .ref t]) [(0, .aload_n 0, 1, .null), (1, .aload_n 1, 1, .null)] (by decide +kernel) rfl ?_
  refine aw_nul (by decide +kernel) ?_
  refine aw_cia (rest := []) (kJ0y h hvt ht hft) rfl ck_mJ0y rfl msJ0_489 nk_mJ0y rfl rfl rfl rfl (Nat.le_of_ble_eq_true rfl) (by decide) (by decide) (by decide +kernel) (fun H1 h1 => ?_)
  exact aw_vret rfl (by decide) (by decide) (by decide +kernel) ⟨rfl, h1⟩
theorem nwJ4_18 : nwk_ RJ4 18 8 4 [.null, .int 0, .int 0, .int 0] := ⟨_, _, tyJ0, rfl, tyJ0_ok, wkJ0, (uw_mem 871 (by decide +kernel) (by decide +kernel)), (uw_mem 872 (by decide +kernel) (by decide +kernel)), (uw_mem 41 (by decide +kernel) (by decide +kernel)), by decide +kernel⟩
theorem msJ4_137 : Cond.methodLink RJ4 137 yJ0_init_81219 ∈ uw_ := (uw_mem 873 (by decide +kernel) (by decide +kernel))
theorem kJ4t (h : bu_ E H b v L) : sp_ E mJ4t [.ref b] H (po1 (.inl (some (.ref H.size))) (fun Hn => ∃ (u : Nat) (f : Nat → Int32), H.size < u ∧ H.size < Hn.size ∧ (∀ q : Nat, q < H.size → Hn[q]? = H[q]?) ∧ at_ E Hn H.size (.inr (8, [.ref u, .int 0, .int 0, .int 0])) ∧ (∀ j, j < L.length → f j = L.getD j 0) ∧ at_ E Hn u (.inl (E.2.1 1, L.length, .inl f)))) := by
  refine sp_of (by decide +kernel) rfl rfl ?_
  refine aw_lv (lv' := [(0, .ref b)]) [0] rfl ?_
  refine aw_nw (H0 := H) (a := H.size) (es := []) (x := H.size) (es' := [.inr (8, [.null, .int 0, .int 0, .int 0])]) (nwl_.rf rfl) nwJ4_18 rfl rfl (by decide) (by decide) (by decide +kernel) (fun H1 h1 => ?_)
  have hbl := at_lt h.2.2.2.1
  have hvl : v < H.size := by
    obtain ⟨-, -, -, -, m, g, hv, -⟩ := h
    exact at_lt hv
  have hfb := h.2.1
  have h := h.keep (fun q hq => h1.2.1 q hq)
  have ht := h1.2.2 0 _ rfl
  have hz1 : H1.size = H.size + 1 := h1.1
  have ho1 : ∀ q : Nat, q < H.size → H1[q]? = H[q]? := h1.2.1
  refine aw_b (pc' := 5) (lv' := [(0, .ref b)]) (st' := [.ref b, .ref (H.size), .ref (H.size)]) [(3, .dup, 1, .null), (4, .aload_n 0, 1, .null)] (by decide +kernel) rfl ?_
  refine aw_cia (rest := [.ref H.size]) (kJ0x h hvl ht (Nat.le_trans hfb (Nat.le_of_lt hbl))) rfl ck_mJ0x rfl msJ4_137 nk_mJ0x rfl rfl rfl rfl (Nat.le_of_ble_eq_true rfl) (by decide) (by decide) (by decide +kernel) (fun H2 h2 => ?_)
  obtain ⟨u, f, a1, a2, a3, a4, a5, a6⟩ := h2
  exact aw_aret rfl (by decide) (by decide) (by decide +kernel) ⟨rfl, u, f, by omega, by omega, fun q hq => (a3 q (by omega) (by omega)).trans (ho1 q hq), a4, a5, a6⟩
end SE
