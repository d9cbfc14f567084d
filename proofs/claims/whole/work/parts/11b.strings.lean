/-! texts: String.length and charAt, walked -/
theorem tb_i {α β : Type} {v : α ⊕ Nat} {f : α → Option β} {g : Nat → Option β} {x : α} {y : β} (h : v = .inl x) (hm : tb_ v f g = some y) : f x = some y := by subst h; exact hm
theorem tb_e {α β : Type} {v : α ⊕ Nat} {f : α → Option β} {g : Nat → Option β} {x : Nat} {y : β} (h : v = .inr x) (hm : tb_ v f g = some y) : g x = some y := by subst h; exact hm
def sw_ (w : Nat) : Bool := Nat.blt w 37
def sl_ (w : Nat) : Int32 := Int32.ofNat (sb_y w).length
def sch_ (w : Nat) (i : Int32) : Int32 := (sb_y w).getD (ix_ i) 0
def n64_ (r : UInt64) : Bool := decide (r &&& 0x7fffffffffffffff ≤ 0x7ff0000000000000)
theorem n64_x {r : UInt64} (h : n64_ r = true) : vf_n64 r := by
  unfold vf_n64
  exact of_decide_eq_true h
def n32_ (r : UInt32) : Bool := decide (r &&& 0x7fffffff ≤ 0x7f800000)
theorem n32_x {r : UInt32} (h : n32_ r = true) : vf_n32 r := by
  unfold vf_n32
  exact of_decide_eq_true h
theorem sx_bytes : ∀ w, w < 37 → ∀ b ∈ sb_y w, ((b &&& 255).toUInt32 % 65536).toInt32 = b ∧ narrow .char (.int b) = .int b := by decide +kernel
theorem sx_lens : ∀ w, w < 37 → (sb_y w).length < 100 := by decide +kernel
section AS
variable {E : ev_} {M : mt_} {Q : po_} {pc : Nat} {lv : List (Nat × Value)} {rest : List Value} {H : Heap} {k n : Nat} {a : Nat}
theorem hp_S {s : State} {locs : List Loc} (hb : ev_base E s.heap) (P : hp_ E s H locs) : va_S (ev_fr E) s.heap H locs := ⟨P.1, fun q hq hf => by
    have h1 : q < (ev_s E).heap.size := Nat.not_le.mp hf
    rw [P.2.1.2 q h1, hb.2 q h1], P.2.2⟩
theorem hb_k {s : State} (hb : ev_base E s.heap) : ∀ q : Nat, q < (ev_s E).heap.size → ¬ ev_fr E q → s.heap[q]? = (ev_s E).heap[q]? := fun q hq _ => hb.2 q hq
theorem aw_gst {C n0 d : String} {idx : Nat} {v : Value} (hZ : va_Z C n0 d v (ev_fr E) (ev_s E) (ev_s E).heap) (hl : Cond.fieldLink M.1.cls idx C n0 d ∈ uw_) (hd : decode M.2.1 pc = .ok (.getstatic idx, 3)) (kk : aw E M Q (pc + 3) lv (v :: rest) H k n) : aw E M Q pc lv rest H k n := by
  intro p e s m args below meth c locs ls C0 P L
  obtain ⟨c1, c2, c3, c4, c5, c6, c7, c8, c9, c10, c11, c12⟩ := id C0
  exact va_gets c1 c2 (va_Z.kept (va_Z.moved c9.alike hZ) (hb_k c10)) (hp_S c10 P) c5 (c6 _ hl) (fun _ h => h) hd (kk p e s m args below meth c locs ls C0 P L)
theorem aw_gsq {C n0 d : String} {idx : Nat} (hZ : va_Zq C n0 d (ev_fr E) (ev_s E) (ev_s E).heap) (hl : Cond.fieldLink M.1.cls idx C n0 d ∈ uw_) (hd : decode M.2.1 pc = .ok (.getstatic idx, 3)) (k0 : aw E M Q (pc + 3) lv (.null :: rest) H k n) (k1 : ∀ t : Nat, aw E M Q (pc + 3) lv (.ref t :: rest) H k n) : aw E M Q pc lv rest H k n := by
  rcases hZ with hZ | ⟨t, hZ⟩
  · exact aw_gst hZ hl hd k0
  · exact aw_gst hZ hl hd (k1 t)
theorem aw_sgf {n0 d : String} {idx q : Nat} {v : Value} (hE : va_OF "java/lang/String" n0 d v q (ev_fr E) (ev_s E) (ev_s E).heap) (hl : Cond.fieldLink M.1.cls idx "java/lang/String" n0 d ∈ uw_) (hd : decode M.2.1 pc = .ok (.getfield idx, 3)) (kk : aw E M Q (pc + 3) lv (v :: rest) H k n) : aw E M Q pc lv (.ref q :: rest) H k n := by
  intro p e s m args below meth c locs ls C0 P L
  obtain ⟨c1, c2, c3, c4, c5, c6, c7, c8, c9, c10, c11, c12⟩ := id C0
  exact vk_getf c1 c2 (va_OF.kept (va_OF.moved c9.alike hE) (hb_k c10)) (hp_S c10 P) c5 (c6 _ hl) (fun _ h => h) hd (kk p e s m args below meth c locs ls C0 P L)
theorem aw_tln {t N : Nat} {f : Nat → Value} {v : Int32} (hT : va_T .byte t N f (ev_fr E) (ev_s E) (ev_s E).heap) (hv : Int32.ofNat N = v) (hd : decode M.2.1 pc = .ok (.arraylength, 1)) (kk : aw E M Q (pc + 1) lv (.int v :: rest) H k n) : aw E M Q pc lv (.ref t :: rest) H k n := by
  intro p e s m args below meth c locs ls C0 P L
  obtain ⟨c1, c2, c3, c4, c5, c6, c7, c8, c9, c10, c11, c12⟩ := id C0
  exact va_tlen c1 c2 (va_T.kept (va_T.moved c9.alike hT) (hb_k c10)) (hp_S c10 P) hv hd (kk p e s m args below meth c locs ls C0 P L)
theorem aw_tbl {t N : Nat} {f : Nat → Value} {i : Int32} {v : Value} (hT : va_T .byte t N f (ev_fr E) (ev_s E) (ev_s E).heap) (hin : vp_in i N) (hv : f i.toNatClampNeg = v) (hd : decode M.2.1 pc = .ok (.baload, 1)) (kk : aw E M Q (pc + 1) lv (v :: rest) H k n) : aw E M Q pc lv (.int i :: .ref t :: rest) H k n := by
  intro p e s m args below meth c locs ls C0 P L
  obtain ⟨c1, c2, c3, c4, c5, c6, c7, c8, c9, c10, c11, c12⟩ := id C0
  exact va_tb c1 c2 (va_T.kept (va_T.moved c9.alike hT) (hb_k c10)) (hp_S c10 P) hin hv hd (kk p e s m args below meth c locs ls C0 P L)
theorem aw_i2c {x v : Int32} (hv : (x.toUInt32 % 65536).toInt32 = v) (hd : decode M.2.1 pc = .ok (.i2c, 1)) (kk : aw E M Q (pc + 1) lv (.int v :: rest) H k n) : aw E M Q pc lv (.int x :: rest) H k n :=
  fun p e s m args below meth c locs ls C P L => lv_i2c C.1 C.2.1 hd hv (kk p e s m args below meth c locs ls C P L)
theorem aw_tret {x : Int32} {ty : FieldType} (hr : M.2.2.2.1 = some ty) (hz : narrow ty (.int x) = .int x) (hk : k ≤ (mt_R M).cells) (hn : n ≤ (mt_R M).slots) (hd : decode M.2.1 pc = .ok (.ireturn, 1)) (hq : Q (.inl (some (.int x))) H) : aw E M Q pc lv [.int x] H k n := by
  intro p e s m args below meth c locs ls C P L
  refine W.widen hk hn (vx_ret ?_)
  exact W.zret C.1 C.2.1 (C.2.2.1.trans hr) hz (fun t ht hW => aw_fin P hq ht) P.2.2 hd C.2.2.2.2.2.2.1
theorem aw_lds {idx : Nat} (w : Nat) (hw : w < 37) (hown : M.1.cls = (sx_n w).1) (hidx : (sx_n w).2.1 = idx) (hd : decode M.2.1 pc = .ok (.ldc idx, 2)) (kk : aw E M Q (pc + 2) lv (.ref (sa_ E w) :: rest) H k n) : aw E M Q pc lv rest H k n := by
  intro p e s m args below meth c locs ls C0 P L
  obtain ⟨c1, c2, c3, c4, c5, c6, c7, c8, c9, c10, c11, c12⟩ := id C0
  have h1 := vk_R.warm c9 (c11.2.2.2.2.2.1 w hw).1
  rw [hidx, ← hown] at h1
  exact va_ldcS c1 c2 c5 h1 hd (kk p e s m args below meth c locs ls C0 P L)
theorem sc_recv {w : Nat} (h : sc_ok E w) (s : State) (locs : List Loc) (hW : (ev_s E).WarmedH s.vm) (P : hp_ E s H locs) : ∃ cellB : Cell, H[sa_ E w]? = some cellB ∧ cellB.vm.isStatics = false ∧ s.vm.findClass "java/lang/String" = some cellB.cls := by
  obtain ⟨cell, h1, h2, h3, h4⟩ := h.2.1
  exact ⟨cell, by rw [P.2.1.2 _ (Array.getElem?_eq_some_iff.mp h1).1]; exact h1, h2, by rw [hW.alike.findClass]; exact h3⟩
theorem aw_cr {M' : mt_} {rv : Option Value} {P : Heap → Prop} {As : List Value} {idx j : Nat} {st0 st1 : List Value} (hs : sp_ E M' (.ref a :: As) H (po1 (.inl rv) P)) (hst : st0 = As.reverse ++ .ref a :: rest) (hst1 : rv.toList ++ rest = st1) (hc : cokV_ M') (hl : Cond.methodLink M.1.cls idx M'.1 ∈ uw_) (hrec : ∀ (s : State) (locs : List Loc), (ev_s E).WarmedH s.vm → hp_ E s H locs → ∃ cellB : Cell, H[a]? = some cellB ∧ cellB.vm.isStatics = false ∧ s.vm.findClass M'.1.cls = some cellB.cls) (hn : nok_ M' j) (hj : As.length = j) (hR : (rok_ M M' && c0_ M') = true) (htab : M.2.2.2.2.1 = []) (hroom : (rest.map fun v => v.category).sum ≤ 8) (hkk : k ≤ (mt_R M).cells) (hnn : n ≤ (mt_R M).slots) (hd : decode M.2.1 pc = .ok (.invokevirtual idx, 3))
    (kk : ∀ H1 : Heap, P H1 → aw E M Q (pc + 3) lv st1 H1 k n) : aw E M Q pc lv st0 H k n := by
  rw [Bool.and_eq_true] at hR
  obtain ⟨z1, z2⟩ := c0_x hR.2
  intro p e s m args below meth c locs ls C P0 L
  subst hst
  have hts := C.2.2.2.2.2.1
  refine run_aw (rest := rest) (M' := M') (Q' := po1 (.inl rv) P) (av := .ref a :: As) htab C P0 L (by rw [z1]; exact hkk) (by rw [z2]; exact hnn) ?_ (fun r H1 _ hq => ?_) (fun X H1 _ hq => ?_)
  · exact vx_runV (C := M'.1.cls) (n := j) (Ts := uw_) ⟨C.1, C.2.1, C.2.2.2.1, C.2.2.2.2.1, hts⟩ (hs C.2.2.2.2.2.2.2.2.2.2.1 P0.2.1) ⟨callB_aw hc.1 hR.1 hn hl C, hts _ hc.2.1, hts _ hc.2.2⟩ ⟨(pre_aw C (av := .ref a :: As)).1, hrec s locs C.2.2.2.2.2.2.2.2.1 P0, (pre_aw C (av := .ref a :: As)).2⟩ rfl hj L.1 rfl (lv_room hroom) hd ⟨by rw [z1]; exact hkk, by rw [z2]; exact hnn⟩
  · have e := Sum.inl.inj hq.1
    rw [z1, z2, e, hst1]
    exact kk H1 hq.2
  · cases hq.1
def mJ0c : mt_ := (yJ0_coder_7d493, cJ0_coder_7d493, 1, some .byte, [], { frames := 0, locals := 0, cells := 0, slots := 0 })
theorem ck_mJ0c : cokV_ mJ0c := ⟨⟨(uw_mem 601 (by decide +kernel) (by decide +kernel)), (uw_mem 114 (by decide +kernel) (by decide +kernel)), by decide +kernel, by decide +kernel⟩, (uw_mem 599 (by decide +kernel) (by decide +kernel)), (uw_mem 600 (by decide +kernel) (by decide +kernel))⟩
theorem nk_mJ0c : nok_ mJ0c 0 := by decide +kernel
def mJ0i : mt_ := (yJ0_isLatin1_aae02, cJ0_isLatin1_aae02, 1, some .boolean, [], { frames := 0, locals := 0, cells := 0, slots := 0 })
theorem ck_mJ0i : cokV_ mJ0i := ⟨⟨(uw_mem 611 (by decide +kernel) (by decide +kernel)), (uw_mem 114 (by decide +kernel) (by decide +kernel)), by decide +kernel, by decide +kernel⟩, (uw_mem 609 (by decide +kernel) (by decide +kernel)), (uw_mem 610 (by decide +kernel) (by decide +kernel))⟩
theorem nk_mJ0i : nok_ mJ0i 0 := by decide +kernel
def mJ0l : mt_ := (yJ0_length_8abf5, cJ0_length_8abf5, 1, some .int, [], { frames := 1, locals := 20, cells := 0, slots := 0 })
theorem ck_mJ0l : cokV_ mJ0l := ⟨⟨(uw_mem 597 (by decide +kernel) (by decide +kernel)), (uw_mem 114 (by decide +kernel) (by decide +kernel)), by decide +kernel, by decide +kernel⟩, (uw_mem 595 (by decide +kernel) (by decide +kernel)), (uw_mem 596 (by decide +kernel) (by decide +kernel))⟩
theorem nk_mJ0l : nok_ mJ0l 0 := by decide +kernel
def mJ3k : mt_ := (yJ3_checkIndex_8e157, cJ3_checkIndex_8e157, 3, some .int, [], { frames := 0, locals := 0, cells := 0, slots := 0 })
theorem ck_mJ3k : cokS_ mJ3k := ⟨⟨(uw_mem 622 (by decide +kernel) (by decide +kernel)), (uw_mem 116 (by decide +kernel) (by decide +kernel)), by decide +kernel, by decide +kernel⟩, (uw_mem 621 (by decide +kernel) (by decide +kernel))⟩
theorem nk_mJ3k : nok_ mJ3k 3 := by decide +kernel
def mJ0k : mt_ := (yJ0_checkIndex_df160, cJ0_checkIndex_df160, 2, none, [], { frames := 1, locals := 22, cells := 0, slots := 0 })
theorem ck_mJ0k : cokS_ mJ0k := ⟨⟨(uw_mem 617 (by decide +kernel) (by decide +kernel)), (uw_mem 114 (by decide +kernel) (by decide +kernel)), by decide +kernel, by decide +kernel⟩, (uw_mem 616 (by decide +kernel) (by decide +kernel))⟩
theorem nk_mJ0k : nok_ mJ0k 2 := by decide +kernel
def mJ1h : mt_ := (yJ1_charAt_3b067, cJ1_charAt_3b067, 2, some .char, [], { frames := 2, locals := 43, cells := 0, slots := 0 })
theorem ck_mJ1h : cokS_ mJ1h := ⟨⟨(uw_mem 614 (by decide +kernel) (by decide +kernel)), (uw_mem 115 (by decide +kernel) (by decide +kernel)), by decide +kernel, by decide +kernel⟩, (uw_mem 613 (by decide +kernel) (by decide +kernel))⟩
theorem nk_mJ1h : nok_ mJ1h 2 := by decide +kernel
def mJ0h : mt_ := (yJ0_charAt_5068e, cJ0_charAt_5068e, 2, some .char, [], { frames := 3, locals := 64, cells := 0, slots := 0 })
theorem ck_mJ0h : cokV_ mJ0h := ⟨⟨(uw_mem 607 (by decide +kernel) (by decide +kernel)), (uw_mem 114 (by decide +kernel) (by decide +kernel)), by decide +kernel, by decide +kernel⟩, (uw_mem 605 (by decide +kernel) (by decide +kernel)), (uw_mem 606 (by decide +kernel) (by decide +kernel))⟩
theorem nk_mJ0h : nok_ mJ0h 1 := by decide +kernel
theorem fs38 : Cond.fieldLink "java/lang/String" 38 "java/lang/String" "COMPACT_STRINGS" "Z" ∈ uw_ := (uw_mem 602 (by decide +kernel) (by decide +kernel))
theorem fs1053 : Cond.fieldLink "java/lang/String" 1053 "jdk/internal/util/Preconditions" "SIOOBE_FORMATTER" "Ljava/util/function/BiFunction;" ∈ uw_ := (uw_mem 618 (by decide +kernel) (by decide +kernel))
theorem fs9 : Cond.fieldLink "java/lang/String" 9 "java/lang/String" "value" "[B" ∈ uw_ := (uw_mem 2099 (by decide +kernel) (by decide +kernel))
theorem fs15 : Cond.fieldLink "java/lang/String" 15 "java/lang/String" "coder" "B" ∈ uw_ := (uw_mem 2100 (by decide +kernel) (by decide +kernel))
theorem ms335 : Cond.methodLink "java/lang/String" 335 yJ0_coder_7d493 ∈ uw_ := (uw_mem 598 (by decide +kernel) (by decide +kernel))
theorem ms492 : Cond.methodLink "java/lang/String" 492 yJ0_isLatin1_aae02 ∈ uw_ := (uw_mem 608 (by decide +kernel) (by decide +kernel))
theorem ms495 : Cond.methodLink "java/lang/String" 495 yJ1_charAt_3b067 ∈ uw_ := (uw_mem 612 (by decide +kernel) (by decide +kernel))
theorem ms9 : Cond.methodLink "java/lang/StringLatin1" 9 yJ0_checkIndex_df160 ∈ uw_ := (uw_mem 615 (by decide +kernel) (by decide +kernel))
theorem ms1059 : Cond.methodLink "java/lang/String" 1059 yJ3_checkIndex_8e157 ∈ uw_ := (uw_mem 620 (by decide +kernel) (by decide +kernel))
theorem kJ0c {w : Nat} (hw : w < 37) : sp_ E mJ0c [.ref (sa_ E w)] H (po1 (.inl (some (.int 0))) (fun Hn => sm_ H Hn 0 0)) := by
  intro hok hb
  obtain ⟨h1, h2, h3, v, h4, h5⟩ := hok.2.2.2.2.2.1 w hw
  refine sp_of (by decide +kernel) rfl rfl ?_ hok hb
  refine aw_lv (lv' := [(0, .ref (sa_ E w))]) [0] rfl ?_
  refine aw_gst hok.2.2.2.2.2.2.1 fs38 (by decide +kernel) ?_
  refine aw_if_eq (off := 10) 13 (by decide) (by decide +kernel) (fun hc => absurd hc (by decide)) (fun _ => ?_)
  refine aw_b (pc' := 7) (lv' := [(0, .ref (sa_ E w))]) (st' := [.ref (sa_ E w)]) [(6, .aload_n 0, 1, .null)] (by decide +kernel) rfl ?_
  refine aw_sgf h3 fs15 (by decide +kernel) ?_
  refine aw_b (pc' := 14) (lv' := [(0, .ref (sa_ E w))]) (st' := [.int 0]) [(10, .goto 4, 3, .null)] (by decide +kernel) rfl ?_
  exact aw_tret rfl (by decide +kernel) (Nat.zero_le _) (Nat.zero_le _) (by decide +kernel) ⟨rfl, sm_.rfl'⟩
theorem kJ0i {w : Nat} (hw : w < 37) : sp_ E mJ0i [.ref (sa_ E w)] H (po1 (.inl (some (.int 1))) (fun Hn => sm_ H Hn 0 0)) := by
  intro hok hb
  obtain ⟨h1, h2, h3, v, h4, h5⟩ := hok.2.2.2.2.2.1 w hw
  refine sp_of (by decide +kernel) rfl rfl ?_ hok hb
  refine aw_lv (lv' := [(0, .ref (sa_ E w))]) [0] rfl ?_
  refine aw_gst hok.2.2.2.2.2.2.1 fs38 (by decide +kernel) ?_
  refine aw_if_eq (off := 14) 17 (by decide) (by decide +kernel) (fun hc => absurd hc (by decide)) (fun _ => ?_)
  refine aw_b (pc' := 7) (lv' := [(0, .ref (sa_ E w))]) (st' := [.ref (sa_ E w)]) [(6, .aload_n 0, 1, .null)] (by decide +kernel) rfl ?_
  refine aw_sgf h3 fs15 (by decide +kernel) ?_
  refine aw_if_ne (off := 7) 17 (by decide) (by decide +kernel) (fun hc => absurd rfl hc) (fun _ => ?_)
  refine aw_b (pc' := 18) (lv' := [(0, .ref (sa_ E w))]) (st' := [.int 1]) [(13, .iconst 1, 1, .int 1), (14, .goto 4, 3, .null)] (by decide +kernel) rfl ?_
  exact aw_tret rfl (by decide +kernel) (Nat.zero_le _) (Nat.zero_le _) (by decide +kernel) ⟨rfl, sm_.rfl'⟩
theorem shr0_ (x : Int32) : x >>> ((0 : Int32) &&& 31) = x := by
  rw [show ((0 : Int32) &&& 31) = 0 from by decide]
  exact Int32.shiftRight_zero
theorem kJ0l {w : Nat} (hw : w < 37) : sp_ E mJ0l [.ref (sa_ E w)] H (po1 (.inl (some (.int (sl_ w)))) (fun Hn => sm_ H Hn 0 0)) := by
  intro hok hb
  have hsc := hok.2.2.2.2.2.1 w hw
  obtain ⟨h1, h2, h3, v, h4, h5⟩ := id hsc
  refine sp_of (by decide +kernel) rfl rfl ?_ hok hb
  refine aw_lv (lv' := [(0, .ref (sa_ E w))]) [0] rfl ?_
  refine aw_b (pc' := 1) (lv' := [(0, .ref (sa_ E w))]) (st' := [.ref (sa_ E w)]) [(0, .aload_n 0, 1, .null)] (by decide +kernel) rfl ?_
  refine aw_sgf h4 fs9 (by decide +kernel) ?_
  refine aw_tln h5 rfl (by decide +kernel) ?_
  refine aw_b (pc' := 6) (lv' := [(0, .ref (sa_ E w))]) (st' := [.ref (sa_ E w), .int (sl_ w)]) [(5, .aload_n 0, 1, .null)] (by decide +kernel) rfl ?_
  refine aw_cr (rest := [.int (sl_ w)]) (st1 := [.int 0, .int (sl_ w)]) (kJ0c hw) rfl rfl ck_mJ0c ms335 (sc_recv hsc) nk_mJ0c rfl rfl rfl (Nat.le_of_ble_eq_true rfl) (Nat.zero_le _) (Nat.zero_le _) (by decide +kernel) (fun H1 hz => ?_)
  refine aw_b (pc' := 10) (lv' := [(0, .ref (sa_ E w))]) (st' := [.int (sl_ w >>> ((0 : Int32) &&& 31))]) [(9, .ishr, 1, .null)] (by decide +kernel) rfl ?_
  rw [shr0_]
  exact aw_iret rfl (Nat.zero_le _) (Nat.zero_le _) (by decide +kernel) ⟨rfl, hz⟩
theorem kJ3k {i j : Int32} {f : Value} (hf : f = .null ∨ ∃ t : Nat, f = .ref t) (h1 : 0 ≤ i) (h2 : i < j) : sp_ E mJ3k [.int i, .int j, f] H (po1 (.inl (some (.int i))) (fun Hn => sm_ H Hn 0 0)) := by
  rcases hf with rfl | ⟨t, rfl⟩
  all_goals
    refine sp_of (by decide +kernel) rfl rfl ?_
    refine aw_lv (lv' := [(0, .int i), (1, .int j)]) [0, 1] rfl ?_
    refine aw_b (pc' := 1) (lv' := [(0, .int i), (1, .int j)]) (st' := [.int i]) [(0, .iload_n 0, 1, .null)] (by decide +kernel) rfl ?_
    refine aw_if_lt (off := 8) 9 (by decide) (by decide +kernel) (fun hc => absurd h1 (Int32.not_le.mpr hc)) (fun _ => ?_)
    refine aw_b (pc' := 6) (lv' := [(0, .int i), (1, .int j)]) (st' := [.int j, .int i]) [(4, .iload_n 0, 1, .null), (5, .iload_n 1, 1, .null)] (by decide +kernel) rfl ?_
    refine aw_ic_lt (off := 10) 16 (by decide) (by decide +kernel) (fun _ => ?_) (fun hc => absurd h2 hc)
    refine aw_b (pc' := 17) (lv' := [(0, .int i), (1, .int j)]) (st' := [.int i]) [(16, .iload_n 0, 1, .null)] (by decide +kernel) rfl ?_
    exact aw_iret rfl (Nat.zero_le _) (Nat.zero_le _) (by decide +kernel) ⟨rfl, sm_.rfl'⟩
theorem kJ0k {i j : Int32} (h1 : 0 ≤ i) (h2 : i < j) : sp_ E mJ0k [.int i, .int j] H (po1 (.inl none) (fun Hn => sm_ H Hn 0 0)) := by
  intro hok hb
  have hZ := hok.2.2.2.2.2.2.2
  refine sp_of (by decide +kernel) rfl rfl ?_ hok hb
  refine aw_lv (lv' := [(0, .int i), (1, .int j)]) [0, 1] rfl ?_
  refine aw_b (pc' := 2) (lv' := [(0, .int i), (1, .int j)]) (st' := [.int j, .int i]) [(0, .iload_n 0, 1, .null), (1, .iload_n 1, 1, .null)] (by decide +kernel) rfl ?_
  refine aw_gsq hZ fs1053 (by decide +kernel) ?_ (fun t => ?_)
  · refine aw_cs (rest := []) (st1 := [.int i]) (kJ3k (Or.inl rfl) h1 h2) rfl rfl ck_mJ3k ms1059 nk_mJ3k rfl rfl rfl (Nat.le_of_ble_eq_true rfl) (Nat.zero_le _) (Nat.zero_le _) (by decide +kernel) (fun H1 hz => ?_)
    refine aw_b (pc' := 9) (lv' := [(0, .int i), (1, .int j)]) (st' := []) [(8, .pop, 1, .null)] (by decide +kernel) rfl ?_
    exact aw_vret rfl (Nat.zero_le _) (Nat.zero_le _) (by decide +kernel) ⟨rfl, hz⟩
  · refine aw_cs (rest := []) (st1 := [.int i]) (kJ3k (Or.inr ⟨t, rfl⟩) h1 h2) rfl rfl ck_mJ3k ms1059 nk_mJ3k rfl rfl rfl (Nat.le_of_ble_eq_true rfl) (Nat.zero_le _) (Nat.zero_le _) (by decide +kernel) (fun H1 hz => ?_)
    refine aw_b (pc' := 9) (lv' := [(0, .int i), (1, .int j)]) (st' := []) [(8, .pop, 1, .null)] (by decide +kernel) rfl ?_
    exact aw_vret rfl (Nat.zero_le _) (Nat.zero_le _) (by decide +kernel) ⟨rfl, hz⟩
theorem ib_i32 {i : Int32} {N : Nat} (hN : N < 100) (h : ib_ i N = true) : 0 ≤ i ∧ i < Int32.ofNat N := by
  have h2 := ib_lt h
  unfold ib_ at h
  rw [Bool.and_eq_true] at h
  have h1 : (0 : Int32) ≤ i := of_decide_eq_true h.1
  refine ⟨h1, Int32.lt_iff_toInt_lt.mpr ?_⟩
  have h3 : (0 : Int) ≤ i.toInt := by simpa using Int32.le_iff_toInt_le.mp h1
  have h4 : (Int32.ofNat N).toInt = (N : Int) := Int32.toInt_ofNat_of_lt (by omega)
  have h5 : ((i.toInt.toNat : Nat) : Int) = i.toInt := by omega
  have h6 : i.toInt.toNat < N := h2
  omega
theorem kJ1h {w v : Nat} {i : Int32} (hw : w < 37) (hi : ib_ i (sb_y w).length = true) (h5 : va_T .byte v (sb_y w).length (fun j => .int ((sb_y w).getD j 0)) (ev_fr E) (ev_s E) (ev_s E).heap) : sp_ E mJ1h [.ref v, .int i] H (po1 (.inl (some (.int (sch_ w i)))) (fun Hn => sm_ H Hn 0 0)) := by
  obtain ⟨i1, i2⟩ := ib_i32 (sx_lens w hw) hi
  have hmem : sch_ w i ∈ sb_y w := by
    unfold sch_
    rw [List.getD_eq_getElem?_getD, List.getElem?_eq_getElem (ib_lt hi)]
    exact List.getElem_mem _
  obtain ⟨b1, b2⟩ := sx_bytes w hw _ hmem
  refine sp_of (by decide +kernel) rfl rfl ?_
  refine aw_lv (lv' := [(0, .ref v), (1, .int i)]) [0, 1] rfl ?_
  refine aw_b (pc' := 2) (lv' := [(0, .ref v), (1, .int i)]) (st' := [.ref v, .int i]) [(0, .iload_n 1, 1, .null), (1, .aload_n 0, 1, .null)] (by decide +kernel) rfl ?_
  refine aw_tln h5 rfl (by decide +kernel) ?_
  refine aw_cs (rest := []) (st1 := []) (kJ0k i1 i2) rfl rfl ck_mJ0k ms9 nk_mJ0k rfl rfl rfl (Nat.le_of_ble_eq_true rfl) (Nat.zero_le _) (Nat.zero_le _) (by decide +kernel) (fun H1 hz => ?_)
  refine aw_b (pc' := 8) (lv' := [(0, .ref v), (1, .int i)]) (st' := [.int i, .ref v]) [(6, .aload_n 0, 1, .null), (7, .iload_n 1, 1, .null)] (by decide +kernel) rfl ?_
  refine aw_tbl h5 (ib_in hi) (v := .int (sch_ w i)) rfl (by decide +kernel) ?_
  refine aw_b (pc' := 13) (lv' := [(0, .ref v), (1, .int i)]) (st' := [.int (sch_ w i &&& (255 : Int32))]) [(9, .sipush 255, 3, .int (255 : Int32)), (12, .iand, 1, .null)] (by decide +kernel) rfl ?_
  refine aw_i2c b1 (by decide +kernel) ?_
  exact aw_tret rfl b2 (Nat.zero_le _) (Nat.zero_le _) (by decide +kernel) ⟨rfl, hz⟩
theorem kJ0h {w : Nat} {i : Int32} (hw : w < 37) (hi : ib_ i (sb_y w).length = true) : sp_ E mJ0h [.ref (sa_ E w), .int i] H (po1 (.inl (some (.int (sch_ w i)))) (fun Hn => sm_ H Hn 0 0)) := by
  intro hok hb
  have hsc := hok.2.2.2.2.2.1 w hw
  obtain ⟨h1, h2, h3, v, h4, h5⟩ := id hsc
  have hmem : sch_ w i ∈ sb_y w := by
    unfold sch_
    rw [List.getD_eq_getElem?_getD, List.getElem?_eq_getElem (ib_lt hi)]
    exact List.getElem_mem _
  obtain ⟨b1, b2⟩ := sx_bytes w hw _ hmem
  refine sp_of (by decide +kernel) rfl rfl ?_ hok hb
  refine aw_lv (lv' := [(0, .ref (sa_ E w)), (1, .int i)]) [0, 1] rfl ?_
  refine aw_b (pc' := 1) (lv' := [(0, .ref (sa_ E w)), (1, .int i)]) (st' := [.ref (sa_ E w)]) [(0, .aload_n 0, 1, .null)] (by decide +kernel) rfl ?_
  refine aw_cr (rest := []) (st1 := [.int 1]) (kJ0i hw) rfl rfl ck_mJ0i ms492 (sc_recv hsc) nk_mJ0i rfl rfl rfl (Nat.le_of_ble_eq_true rfl) (Nat.zero_le _) (Nat.zero_le _) (by decide +kernel) (fun H1 hz => ?_)
  refine aw_if_eq (off := 12) 16 (by decide) (by decide +kernel) (fun hc => absurd hc (by decide)) (fun _ => ?_)
  refine aw_b (pc' := 8) (lv' := [(0, .ref (sa_ E w)), (1, .int i)]) (st' := [.ref (sa_ E w)]) [(7, .aload_n 0, 1, .null)] (by decide +kernel) rfl ?_
  refine aw_sgf h4 fs9 (by decide +kernel) ?_
  refine aw_b (pc' := 12) (lv' := [(0, .ref (sa_ E w)), (1, .int i)]) (st' := [.int i, .ref v]) [(11, .iload_n 1, 1, .null)] (by decide +kernel) rfl ?_
  refine aw_cs (rest := []) (st1 := [.int (sch_ w i)]) (kJ1h hw hi h5) rfl rfl ck_mJ1h ms495 nk_mJ1h rfl rfl rfl (Nat.le_of_ble_eq_true rfl) (Nat.zero_le _) (Nat.zero_le _) (by decide +kernel) (fun H2 hz2 => ?_)
  exact aw_tret rfl b2 (Nat.zero_le _) (Nat.zero_le _) (by decide +kernel) ⟨rfl, hz.step0 hz2⟩
theorem aw_sln (w : Nat) {idx : Nat} (hw : sw_ w = true) (hl : Cond.methodLink M.1.cls idx yJ0_length_8abf5 ∈ uw_) (hR : (rok_ M mJ0l && c0_ mJ0l) = true) (htab : M.2.2.2.2.1 = []) (hroom : (rest.map fun v => v.category).sum ≤ 8) (hkk : k ≤ (mt_R M).cells) (hnn : n ≤ (mt_R M).slots) (hd : decode M.2.1 pc = .ok (.invokevirtual idx, 3)) (kk : ∀ H1 : Heap, sm_ H H1 0 0 → aw E M Q (pc + 3) lv (.int (sl_ w) :: rest) H1 k n) : aw E M Q pc lv (.ref (sa_ E w) :: rest) H k n := by
  have hw : w < 37 := Nat.le_of_ble_eq_true hw
  intro p e s m args below meth c locs ls C P L
  exact aw_cr (rest := rest) (As := []) (kJ0l hw) rfl rfl ck_mJ0l hl (sc_recv (C.2.2.2.2.2.2.2.2.2.2.1.2.2.2.2.2.1 w hw)) nk_mJ0l rfl hR htab hroom hkk hnn hd kk p e s m args below meth c locs ls C P L
theorem aw_sch (w : Nat) {idx : Nat} {i : Int32} (hw : sw_ w = true) (hi : ib_ i (sb_y w).length = true) (hl : Cond.methodLink M.1.cls idx yJ0_charAt_5068e ∈ uw_) (hR : (rok_ M mJ0h && c0_ mJ0h) = true) (htab : M.2.2.2.2.1 = []) (hroom : (rest.map fun v => v.category).sum ≤ 8) (hkk : k ≤ (mt_R M).cells) (hnn : n ≤ (mt_R M).slots) (hd : decode M.2.1 pc = .ok (.invokevirtual idx, 3)) (kk : ∀ H1 : Heap, sm_ H H1 0 0 → aw E M Q (pc + 3) lv (.int (sch_ w i) :: rest) H1 k n) : aw E M Q pc lv (.int i :: .ref (sa_ E w) :: rest) H k n := by
  have hw : w < 37 := Nat.le_of_ble_eq_true hw
  intro p e s m args below meth c locs ls C P L
  exact aw_cr (rest := rest) (As := [.int i]) (kJ0h hw hi) rfl rfl ck_mJ0h hl (sc_recv (C.2.2.2.2.2.2.2.2.2.2.1.2.2.2.2.2.1 w hw)) nk_mJ0h rfl hR htab hroom hkk hnn hd kk p e s m args below meth c locs ls C P L
end AS
