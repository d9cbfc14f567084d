/-! texts, constants and made ones: length, letters, bytes; calls of inherited and of private methods -/
theorem wkJ0 : ∀ w ∈ u_ws RJ0 TJ0 4, w ∈ uw_ := wk_of [915, 917, 919, 921] (by decide +kernel) (by decide +kernel)
theorem wkJ4 : ∀ w ∈ u_ws RJ4 TJ4 4, w ∈ uw_ := wk_of [735, 737, 739, 741] (by decide +kernel) (by decide +kernel)
theorem sxb_lt {w : Nat} (h : sxb_ w = true) : w < 61 := by
  unfold sxb_ at h
  rw [Bool.or_eq_true, Bool.and_eq_true] at h
  rcases h with h | h
  · have h : w < 13 := Nat.le_of_ble_eq_true h
    omega
  · exact Nat.le_of_ble_eq_true h.2
/-- bytes as texts have them -/
def lt_ (L : List Int32) : Prop := L.length ≤ 600 ∧ ∀ b ∈ L, 0 < b ∧ b < 128
theorem sx_ok : ∀ w, w < 61 → (sb_y w).length ≤ 600 ∧ ∀ b ∈ sb_y w, 0 < b ∧ b < 128 := by decide +kernel
theorem by_c : ∀ k, k < 128 → ((nI k &&& 255).toUInt32 % 65536).toInt32 = nI k ∧ narrow .char (.int (nI k)) = .int (nI k) ∧ fits .byte (.int (nI k)) = true ∧ nb_ (nI k) = nI k ∧ narrow .byte (.int (nI k)) = .int (nI k) := by decide +kernel
theorem by_k {b : Int32} (h : 0 < b ∧ b < 128) : ∃ k, 0 < k ∧ k < 128 ∧ b = nI k := by
  have h1 := Int32.lt_iff_toInt_lt.mp h.1
  have h2 := Int32.lt_iff_toInt_lt.mp h.2
  have e1 : (0 : Int32).toInt = 0 := by decide
  have e2 : (128 : Int32).toInt = 128 := by decide
  rw [e1] at h1
  rw [e2] at h2
  refine ⟨b.toInt.toNat, by omega, by omega, ?_⟩
  apply Int32.toInt_inj.mp
  rw [nI_toInt (by omega)]
  omega
theorem by_ok {b : Int32} (h : 0 < b ∧ b < 128) : ((b &&& 255).toUInt32 % 65536).toInt32 = b ∧ narrow .char (.int b) = .int b ∧ fits .byte (.int b) = true ∧ nb_ b = b ∧ narrow .byte (.int b) = .int b := by
  obtain ⟨k, _, hk, rfl⟩ := by_k h
  exact by_c k hk
theorem lt_.g {L : List Int32} (h : lt_ L) {j : Nat} (hj : j < L.length) : 0 < L.getD j 0 ∧ L.getD j 0 < 128 := by
  rw [List.getD_eq_getElem?_getD, List.getElem?_eq_getElem hj]
  exact h.2 _ (List.getElem_mem hj)
/-- the bytes of a text -/
def tv_ (E : ev_) (H : Heap) (v : Nat) (L : List Int32) (P : Nat → Prop) : Prop := va_T .byte v L.length (fun j => .int (L.getD j 0)) (ev_fr E) (ev_s E) (ev_s E).heap ∨ (P v ∧ ∃ f, (∀ j, j < L.length → f j = L.getD j 0) ∧ at_ E H v (.inl (E.2.1 1, L.length, .inl f)))
/-- a text: a constant, or one that was made, whose cells keep to P -/
def tt_ (E : ev_) (H : Heap) (q : Nat) (L : List Int32) (P : Nat → Prop) : Prop := lt_ L ∧ ((∃ w, sxb_ w = true ∧ q = sa_ E w ∧ L = sb_y w) ∨ ∃ v, P q ∧ P v ∧ at_ E H q (.inr (8, [.ref v, .int 0, .int 0, .int 0])) ∧ ∃ f, (∀ j, j < L.length → f j = L.getD j 0) ∧ at_ E H v (.inl (E.2.1 1, L.length, .inl f)))
theorem tt_.c {E : ev_} {H : Heap} {w : Nat} {P : Nat → Prop} (h : sxb_ w = true) : tt_ E H (sa_ E w) (sb_y w) P := ⟨sx_ok _ (sxb_lt h), Or.inl ⟨w, h, rfl, rfl⟩⟩
theorem tt_.keep {E : ev_} {H H1 : Heap} {q : Nat} {L : List Int32} {P : Nat → Prop} (h : tt_ E H q L P) (hk : ∀ a : Nat, a < H.size → P a → H1[a]? = H[a]?) : tt_ E H1 q L P := by
  obtain ⟨hl, h | ⟨v, p1, p2, h1, f, hf, h2⟩⟩ := h
  · exact ⟨hl, Or.inl h⟩
  · exact ⟨hl, Or.inr ⟨v, p1, p2, at_same h1 (hk _ (at_lt h1) p1), f, hf, at_same h2 (hk _ (at_lt h2) p2)⟩⟩
theorem tv_.keep {E : ev_} {H H1 : Heap} {q : Nat} {L : List Int32} {P : Nat → Prop} (h : tv_ E H q L P) (hk : ∀ a : Nat, a < H.size → P a → H1[a]? = H[a]?) : tv_ E H1 q L P := by
  rcases h with h | ⟨p2, f, hf, h2⟩
  · exact Or.inl h
  · exact Or.inr ⟨p2, f, hf, at_same h2 (hk _ (at_lt h2) p2)⟩
theorem tt_.sm {E : ev_} {H H1 : Heap} {q b : Nat} {L : List Int32} {P : Nat → Prop} (h : tt_ E H q L P) (z : sm_ H H1 b 0) : tt_ E H1 q L P := h.keep (fun a ha _ => z.2 a ha (Nat.lt_or_ge a b))
theorem tv_.sm {E : ev_} {H H1 : Heap} {q b : Nat} {L : List Int32} {P : Nat → Prop} (h : tv_ E H q L P) (z : sm_ H H1 b 0) : tv_ E H1 q L P := h.keep (fun a ha _ => z.2 a ha (Nat.lt_or_ge a b))
theorem tt_.mono {E : ev_} {H : Heap} {q : Nat} {L : List Int32} {P P' : Nat → Prop} (h : tt_ E H q L P) (hk : ∀ a : Nat, P a → P' a) : tt_ E H q L P' := by
  obtain ⟨hl, h | ⟨v, p1, p2, h1⟩⟩ := h
  · exact ⟨hl, Or.inl h⟩
  · exact ⟨hl, Or.inr ⟨v, hk _ p1, hk _ p2, h1⟩⟩
/-- bytes put into a row -/
def bpt_ (g : Nat → Int32) (a : Nat) (L : List Int32) : Nat → Int32 := fun j => if a ≤ j ∧ j < a + L.length then L.getD (j - a) 0 else g j
section AS
variable {E : ev_} {M : mt_} {Q : po_} {pc : Nat} {lv : List (Nat × Value)} {rest : List Value} {H : Heap} {k n : Nat} {a : Nat}
theorem hp_S {s : State} {locs : List Loc} (hb : ev_base E s.heap) (P : hp_ E s H locs) : va_S (ev_fr E) s.heap H locs := ⟨P.1, fun q hq hf => by
    have h1 : q < (ev_s E).heap.size := Nat.not_le.mp hf
    rw [P.2.1.2 q h1, hb.2 q h1], P.2.2⟩
theorem hb_k {s : State} (hb : ev_base E s.heap) : ∀ q : Nat, q < (ev_s E).heap.size → ¬ ev_fr E q → s.heap[q]? = (ev_s E).heap[q]? := fun q hq _ => hb.2 q hq
theorem aw_gst {C n0 d : String} {idx : Nat} {v : Value} (hZ : va_Z C n0 d v (ev_fr E) (ev_s E) (ev_s E).heap) (hl : Cond.fieldLink M.1.cls idx C n0 d ∈ uw_) (hd : decode M.2.1 pc = .ok (.getstatic idx, 3)) (kk : aw E M Q (pc + 3) lv (v :: rest) H k n) : aw E M Q pc lv rest H k n := by
  intro p e s m args below meth c locs ls C0 P L
  obtain ⟨c1, c2, c3, c4, c5, c6, c7, c8, c9, c10, c11, c12⟩ := id C0
  exact va_gets c1 c2 (va_Z.kept (va_Z.moved c9.alike hZ) (hb_k c10)) (hp_S c10 P) c5 (c6 _ hl) (fun _ h => h) hd (kk p e s m args below meth c locs ls C0 P L)
theorem aw_gsq {C n0 d : String} {idx : Nat} (hZ : va_Zq C n0 d (ev_fr E) (ev_s E) (ev_s E).heap) (hl : Cond.fieldLink M.1.cls idx C n0 d ∈ uw_) (hd : decode M.2.1 pc = .ok (.getstatic idx, 3)) (k0 : aw E M Q (pc + 3) lv (.null :: rest) H k n) (k1 : ∀ t : Nat, aw E M Q (pc + 3) lv (.ref t :: rest) H k n) : aw E M Q pc lv rest H k n := by
  rcases hZ with hZ | ⟨t, hZ⟩
  · exact aw_gst hZ hl hd k0
  · exact aw_gst hZ hl hd (k1 t)
theorem aw_sgf {n0 d : String} {idx q : Nat} {v : Value} (hE : va_OF "java/lang/String" n0 d v q (ev_fr E) (ev_s E) (ev_s E).heap) (hl : Cond.fieldLink M.1.cls idx "java/lang/String" n0 d ∈ uw_) (hd : decode M.2.1 pc = .ok (.getfield idx, 3)) (kk : aw E M Q (pc + 3) lv (v :: rest) H k n) : aw E M Q pc lv (.ref q :: rest) H k n := by
  intro p e s m args below meth c locs ls C0 P L
  obtain ⟨c1, c2, c3, c4, c5, c6, c7, c8, c9, c10, c11, c12⟩ := id C0
  exact vk_getf c1 c2 (va_OF.kept (va_OF.moved c9.alike hE) (hb_k c10)) (hp_S c10 P) c5 (c6 _ hl) (fun _ h => h) hd (kk p e s m args below meth c locs ls C0 P L)
theorem aw_tln {ty : FieldType} {t N : Nat} {f : Nat → Value} {v : Int32} (hT : va_T ty t N f (ev_fr E) (ev_s E) (ev_s E).heap) (hv : Int32.ofNat N = v) (hd : decode M.2.1 pc = .ok (.arraylength, 1)) (kk : aw E M Q (pc + 1) lv (.int v :: rest) H k n) : aw E M Q pc lv (.ref t :: rest) H k n := by
  intro p e s m args below meth c locs ls C0 P L
  obtain ⟨c1, c2, c3, c4, c5, c6, c7, c8, c9, c10, c11, c12⟩ := id C0
  exact va_tlen c1 c2 (va_T.kept (va_T.moved c9.alike hT) (hb_k c10)) (hp_S c10 P) hv hd (kk p e s m args below meth c locs ls C0 P L)
theorem aw_tbl {t N : Nat} {f : Nat → Value} {i : Int32} {v : Value} (hT : va_T .byte t N f (ev_fr E) (ev_s E) (ev_s E).heap) (hin : vp_in i N) (hv : f i.toNatClampNeg = v) (hd : decode M.2.1 pc = .ok (.baload, 1)) (kk : aw E M Q (pc + 1) lv (v :: rest) H k n) : aw E M Q pc lv (.int i :: .ref t :: rest) H k n := by
  intro p e s m args below meth c locs ls C0 P L
  obtain ⟨c1, c2, c3, c4, c5, c6, c7, c8, c9, c10, c11, c12⟩ := id C0
  exact va_tb c1 c2 (va_T.kept (va_T.moved c9.alike hT) (hb_k c10)) (hp_S c10 P) hin hv hd (kk p e s m args below meth c locs ls C0 P L)
theorem aw_i2c {x v : Int32} (hv : (x.toUInt32 % 65536).toInt32 = v) (hd : decode M.2.1 pc = .ok (.i2c, 1)) (kk : aw E M Q (pc + 1) lv (.int v :: rest) H k n) : aw E M Q pc lv (.int x :: rest) H k n :=
  fun p e s m args below meth c locs ls C P L => lv_i2c C.1 C.2.1 hd hv (kk p e s m args below meth c locs ls C P L)
theorem aw_tret {x : Int32} {ty : FieldType} (hr : M.2.2.2.1 = some ty) (hz : narrow ty (.int x) = .int x) (hk : k ≤ (mt_R M).cells) (hn : n ≤ (mt_R M).slots) (hd : decode M.2.1 pc = .ok (.ireturn, 1)) (hq : Q (.inl (some (.int x))) H) : aw E M Q pc lv [.int x] H k n := by
  intro p e s m args below meth c locs ls C P L
  refine W.widen hk hn (vx_ret ?_)
  exact W.zret C.1 C.2.1 (C.2.2.1.trans hr) hz (fun t ht hW => aw_fin P hq ht) P.2.2 hd C.2.2.2.2.2.2.1
theorem aw_lds {idx : Nat} (w : Nat) (hw : sxb_ w = true) (hown : M.1.cls = (sx_n w).1) (hidx : (sx_n w).2.1 = idx) (hd : decode M.2.1 pc = .ok (.ldc idx, 2)) (kk : aw E M Q (pc + 2) lv (.ref (sa_ E w) :: rest) H k n) : aw E M Q pc lv rest H k n := by
  intro p e s m args below meth c locs ls C0 P L
  obtain ⟨c1, c2, c3, c4, c5, c6, c7, c8, c9, c10, c11, c12⟩ := id C0
  have h1 := vk_R.warm c9 (c11.2.2.2.2.2.1 w hw).1
  rw [hidx, ← hown] at h1
  exact va_ldcS c1 c2 c5 h1 hd (kk p e s m args below meth c locs ls C0 P L)
theorem sc_recv {w : Nat} (h : sc_ok E w) (s : State) (locs : List Loc) (hW : (ev_s E).WarmedH s.vm) (P : hp_ E s H locs) : ∃ cellB : Cell, H[sa_ E w]? = some cellB ∧ cellB.vm.isStatics = false ∧ s.vm.findClass "java/lang/String" = some cellB.cls := by
  obtain ⟨cell, h1, h2, h3, h4⟩ := h.2.1
  exact ⟨cell, by rw [P.2.1.2 _ (Array.getElem?_eq_some_iff.mp h1).1]; exact h1, h2, by rw [hW.alike.findClass]; exact h3⟩
theorem aw_cr {M' : mt_} {rv : Option Value} {P : Heap → Prop} {As : List Value} {idx j : Nat} {st0 st1 : List Value} (hs : sp_ E M' (.ref a :: As) H (po1 (.inl rv) P)) (hst : st0 = As.reverse ++ .ref a :: rest) (hst1 : rv.toList ++ rest = st1) (hc : cokV_ M') (hl : Cond.methodLink M.1.cls idx M'.1 ∈ uw_) (hrec : ∀ (s : State) (locs : List Loc), ev_ok E → (ev_s E).WarmedH s.vm → hp_ E s H locs → ∃ cellB : Cell, H[a]? = some cellB ∧ cellB.vm.isStatics = false ∧ s.vm.findClass M'.1.cls = some cellB.cls) (hn : nok_ M' j) (hj : As.length = j) (hR : (rok_ M M' && c0_ M') = true) (htab : M.2.2.2.2.1 = []) (hroom : (rest.map fun v => v.category).sum ≤ 8) (hkk : k ≤ (mt_R M).cells) (hnn : n ≤ (mt_R M).slots) (hd : decode M.2.1 pc = .ok (.invokevirtual idx, 3))
    (kk : ∀ H1 : Heap, P H1 → aw E M Q (pc + 3) lv st1 H1 k n) : aw E M Q pc lv st0 H k n := by
  rw [Bool.and_eq_true] at hR
  obtain ⟨z1, z2⟩ := c0_x hR.2
  intro p e s m args below meth c locs ls C P0 L
  subst hst
  have hts := C.2.2.2.2.2.1
  refine run_aw (rest := rest) (M' := M') (Q' := po1 (.inl rv) P) (av := .ref a :: As) htab C P0 L (by rw [z1]; exact hkk) (by rw [z2]; exact hnn) ?_ (fun r H1 _ hq => ?_) (fun X H1 _ hq => ?_)
  · exact vx_runV (C := M'.1.cls) (n := j) (Ts := uw_) ⟨C.1, C.2.1, C.2.2.2.1, C.2.2.2.2.1, hts⟩ (hs C.2.2.2.2.2.2.2.2.2.2.1 P0.2.1) ⟨callB_aw hc.1 hR.1 hn hl C, hts _ hc.2.1, hts _ hc.2.2⟩ ⟨(pre_aw C (av := .ref a :: As)).1, hrec s locs C.2.2.2.2.2.2.2.2.2.2.1 C.2.2.2.2.2.2.2.2.1 P0, (pre_aw C (av := .ref a :: As)).2⟩ rfl hj L.1 rfl (lv_room hroom) hd ⟨by rw [z1]; exact hkk, by rw [z2]; exact hnn⟩
  · have e := Sum.inl.inj hq.1
    rw [z1, z2, e, hst1]
    exact kk H1 hq.2
  · cases hq.1
theorem tt_recv {q : Nat} {L : List Int32} {P : Nat → Prop} (h : tt_ E H q L P) (s : State) (locs : List Loc) (hok : ev_ok E) (hW : (ev_s E).WarmedH s.vm) (P0 : hp_ E s H locs) : ∃ cellB : Cell, H[q]? = some cellB ∧ cellB.vm.isStatics = false ∧ s.vm.findClass "java/lang/String" = some cellB.cls := by
  obtain ⟨hl, ⟨w, hw, rfl, rfl⟩ | ⟨v, p1, p2, h1, f, hf2, h2⟩⟩ := h
  · exact sc_recv (hok.2.2.2.2.2.1 w hw) s locs hW P0
  · obtain ⟨r, hr1, cell, q1, q2, q3, q4⟩ := h1
    have hr : r = (RJ0, TJ0, 4) := Option.some.inj (hr1.symm.trans rfl)
    subst hr
    obtain ⟨hS, hfc, kC, hkC, hkind⟩ := (va_K.moved hW.alike hok.1).1 8 _ rfl
    exact ⟨cell, q1, by rw [q3]; rfl, by rw [q2]; exact hfc⟩
theorem aw_ttv {q idx : Nat} {L : List Int32} {P : Nat → Prop} (h : tt_ E H q L P) (hf : fok_ M.1.cls idx 8 0) (hd : decode M.2.1 pc = .ok (.getfield idx, 3)) (kk : ∀ v, tv_ E H v L P → aw E M Q (pc + 3) lv (.ref v :: rest) H k n) : aw E M Q pc lv (.ref q :: rest) H k n := by
  obtain ⟨hl, ⟨w, hw, rfl, rfl⟩ | ⟨v, p1, p2, h1, f, hf2, h2⟩⟩ := h
  · intro p e s m args below meth c locs ls C P0 L0
    obtain ⟨h1, h2, h3, v, h4, h5⟩ := C.2.2.2.2.2.2.2.2.2.2.1.2.2.2.2.2.1 w hw
    obtain ⟨C0, T, N, e1, e2, e3, e4⟩ := hf
    have e0 : (C0, T, N) = (RJ0, TJ0, 4) := Option.some.inj (e1.symm.trans rfl)
    cases e0
    exact aw_sgf h4 e3 hd (kk v (Or.inl h5)) p e s m args below meth c locs ls C P0 L0
  · exact aw_get hf h1 rfl hd (kk v (Or.inr ⟨p2, f, hf2, h2⟩))
theorem aw_ttc {q idx : Nat} {L : List Int32} {P : Nat → Prop} (h : tt_ E H q L P) (hf : fok_ M.1.cls idx 8 1) (hd : decode M.2.1 pc = .ok (.getfield idx, 3)) (kk : aw E M Q (pc + 3) lv (.int 0 :: rest) H k n) : aw E M Q pc lv (.ref q :: rest) H k n := by
  obtain ⟨hl, ⟨w, hw, rfl, rfl⟩ | ⟨v, p1, p2, h1, f, hf2, h2⟩⟩ := h
  · intro p e s m args below meth c locs ls C P0 L0
    obtain ⟨h1, h2, h3, v, h4, h5⟩ := C.2.2.2.2.2.2.2.2.2.2.1.2.2.2.2.2.1 w hw
    obtain ⟨C0, T, N, e1, e2, e3, e4⟩ := hf
    have e0 : (C0, T, N) = (RJ0, TJ0, 4) := Option.some.inj (e1.symm.trans rfl)
    cases e0
    exact aw_sgf h3 e3 hd kk p e s m args below meth c locs ls C P0 L0
  · exact aw_get hf h1 rfl hd kk
theorem aw_tvl {v : Nat} {L : List Int32} {P : Nat → Prop} (h : tv_ E H v L P) (hd : decode M.2.1 pc = .ok (.arraylength, 1)) (kk : aw E M Q (pc + 1) lv (.int (nI L.length) :: rest) H k n) : aw E M Q pc lv (.ref v :: rest) H k n := by
  rcases h with h | ⟨p2, f, hf, h⟩
  · exact aw_tln h rfl hd kk
  · exact aw_alen (ci := 1) (ty := .byte) (x := .inl (E.2.1 1, L.length, .inl f)) rfl h rfl hd kk
theorem aw_tvb {v : Nat} {i : Int32} {L : List Int32} {P : Nat → Prop} (h : tv_ E H v L P) (hi : ib_ i L.length = true) (hd : decode M.2.1 pc = .ok (.baload, 1)) (kk : aw E M Q (pc + 1) lv (.int (L.getD (ix_ i) 0) :: rest) H k n) : aw E M Q pc lv (.int i :: .ref v :: rest) H k n := by
  rcases h with h | ⟨p2, f, hf, h⟩
  · exact aw_tbl h (ib_in hi) rfl hd kk
  · refine aw_bald h (ib_in hi) hd ?_
    have e : f (ix_ i) = L.getD (ix_ i) 0 := hf _ (ib_lt hi)
    show aw E M Q (pc + 1) lv (.int (f (ix_ i)) :: rest) H k n
    rw [e]
    exact kk
/-- a call of a text's own method -/
theorem aw_crt {M' : mt_} {q : Nat} {L : List Int32} {P : Nat → Prop} {rv : Option Value} {P1 : Heap → Prop} {As : List Value} {idx j : Nat} {st0 st1 : List Value} (ht : tt_ E H q L P) (hcl : M'.1.cls = "java/lang/String") (hs : sp_ E M' (.ref q :: As) H (po1 (.inl rv) P1)) (hst : st0 = As.reverse ++ .ref q :: rest) (hst1 : rv.toList ++ rest = st1) (hc : cokV_ M') (hl : Cond.methodLink M.1.cls idx M'.1 ∈ uw_) (hn : nok_ M' j) (hj : As.length = j) (hR : (rok_ M M' && c0_ M') = true) (htab : M.2.2.2.2.1 = []) (hroom : (rest.map fun v => v.category).sum ≤ 8) (hkk : k ≤ (mt_R M).cells) (hnn : n ≤ (mt_R M).slots) (hd : decode M.2.1 pc = .ok (.invokevirtual idx, 3))
    (kk : ∀ H1 : Heap, P1 H1 → aw E M Q (pc + 3) lv st1 H1 k n) : aw E M Q pc lv st0 H k n :=
  aw_cr hs hst hst1 hc hl (fun s locs hok hW P0 => by rw [hcl]; exact tt_recv ht s locs hok hW P0) hn hj hR htab hroom hkk hnn hd kk
/-- bytes of a text copied into a row -/
theorem aw_cpb {v d idx m dp : Nat} {L : List Int32} {P : Nat → Prop} {g : Nat → Int32} (hw : al_ M.1.cls idx) (hL : lt_ L) (hv : tv_ E H v L P) (hA : at_ E H d (.inl (E.2.1 1, m, .inl g))) (hfr : ev_fr E d) (h5 : dp + L.length ≤ m) (hm : m < 2147483648) (hframes : Nat.ble 1 (mt_R M).frames = true) (hlocals : (rest.map fun v => v.category).sum + (nativeFrameWords "java/lang/System" "arraycopy" 5 + 11) ≤ (mt_R M).locals) (hd : decode M.2.1 pc = .ok (.invokestatic idx, 3))
    (kk : ∀ H1 : Heap, at_ E H1 d (.inl (E.2.1 1, m, .inl (bpt_ g dp L))) → sm1 H H1 d → aw E M Q (pc + 3) lv rest H1 k n) : aw E M Q pc lv (.int (nI L.length) :: .int (nI dp) :: .ref d :: .int 0 :: .ref v :: rest) H k n := by
  intro p e s m0 args below meth c locs ls C P0 L0
  obtain ⟨c1, c2, c3, c4, c5, c6, c7, c8, c9, c10, c11, c12⟩ := id C
  have hsrc : ∃ scr : Cell, H[v]? = some scr ∧ s.isArrayOf scr .byte ∧ scr.vm ≠ .unknown ∧ L.length ≤ scr.slots.size ∧ ∀ j : Nat, j < L.length → scr.slots[j]? = some (.int (L.getD j 0)) := by
    rcases hv with hv | ⟨-, f, hf, hv⟩
    · obtain ⟨scr, q1, q2, q3, q4, -, q5, q7⟩ := va_T.kept (va_T.moved c9.alike hv) (hb_k c10)
      exact ⟨scr, by rw [(hp_S c10 P0).2.1 v (Array.getElem?_eq_some_iff.mp q1).1 q7]; exact q1, q2, q3, q4, q5⟩
    · refine ⟨vp_cell (E.2.1 1) (L.length, .inl f), hv, ((cx_K C).2 1 _ rfl).1 L.length (fun j => .int (f j)), (fun h => by cases h), ?_, fun j hj => ?_⟩
      · show L.length ≤ (arrV _ _ _).slots.size
        rw [arrV_size]
        exact Nat.le_refl _
      · show (arrV _ L.length (fun j => .int (f j))).slots[j]? = _
        rw [arrV_read _ _ hj, hf j hj]
  obtain ⟨scr, hc0, ⟨hs6, k0, hk0, cm0, hkk0⟩, hs3, hs4, hs5⟩ := hsrc
  intro T hT X
  have ht := C.2.2.2.2.2.1
  have hc1 : H[d]? = some (vp_cell (E.2.1 1) (m, .inl g)) := hA
  obtain ⟨-, k1, hk1, cm1, hkk1⟩ := ((cx_K C).2 1 _ rfl).1 m (fun j => .int (g j))
  have zl : (nI L.length).toInt = (L.length : Int) := nI_toInt (by have := hL.1; omega)
  have zd : (nI dp).toInt = (dp : Int) := nI_toInt (by omega)
  have z0 : (0 : Int32).toInt = 0 := by decide
  have cl : (nI L.length).toNatClampNeg = L.length := nI_clamp (by have := hL.1; omega)
  have cd : (nI dp).toNatClampNeg = dp := nI_clamp (by omega)
  have c0 : (0 : Int32).toNatClampNeg = 0 := by decide
  obtain ⟨vm', X', step⟩ := X.arraycopy c1 c5 (ht _ hw.1) (ht _ hw.2.1) (ht _ hw.2.2.1) (ht _ hw.2.2.2) (src := v) (dst := d) (cs := scr) (cd := vp_cell (E.2.1 1) (m, .inl g)) (srcPos := 0) (destPos := nI dp) (n := nI L.length) (by rw [hT]; exact hc0) (by rw [hT]; exact hc1)
    hs6 (fun _ h => by cases h) hs3 (fun h => by cases h) hk0 hk1 hkk0 hkk1 (by simp [refKind]) (by decide) (nI_pos (by omega)) (nI_pos (by have := hL.1; omega))
    (by rw [z0, zl]; omega)
    (by rw [zd, zl]; show ¬ _ > ((arrV _ m (fun j => .int (g j))).slots.size : Int); rw [arrV_size]; omega)
    (fun vm₁ _ i hi => by
      rw [cl] at hi
      have e : scr.slots.getD ((0 : Int32).toNatClampNeg + i) .null = .int (L.getD i 0) := by
        rw [c0, Nat.zero_add, Array.getD_eq_getD_getElem?, hs5 _ hi]
        rfl
      refine ⟨?_, ?_⟩
      · rw [e]
        exact (by_ok (hL.g hi)).2.2.1
      · rw [e]
        exact trivial)
    (g := F0 m0 pc ls (.int (nI L.length) :: .int (nI dp) :: .ref d :: .int 0 :: .ref v :: rest)) rfl (by rw [C.2.2.2.1, ← L0.1]) (rest := rest) rfl (by rw [C.2.1]; exact hd) (Nat.le_of_ble_eq_true hframes) (by show 2 * 0 + _ + _ ≤ _; omega)
  have e1 : copied scr (vp_cell (E.2.1 1) (m, .inl g)) 0 (nI dp) (nI L.length) = vp_cell (E.2.1 1) (m, .inl (bpt_ g dp L)) := by
    have e2 : copied scr (vp_cell (E.2.1 1) (m, .inl g)) 0 (nI dp) (nI L.length) = vp_cell (E.2.1 1) (m, .inl (va_cpy (fun j => L.getD j 0) g (0 : Int32).toNatClampNeg (nI dp).toNatClampNeg (nI L.length).toNatClampNeg)) := va_copiedX (fun z => .int z) scr (E.2.1 1) (fun j => L.getD j 0) g hs5 (by rw [c0, cl]; omega)
    refine Eq.trans e2 ?_
    rw [c0, cl, cd]
    refine congrArg (fun z => vp_cell (E.2.1 1) (m, .inl z)) (funext fun j => ?_)
    unfold va_cpy bpt_
    by_cases hj : dp ≤ j ∧ j < dp + L.length
    · rw [if_pos hj, if_pos hj, Nat.zero_add]
    · rw [if_neg hj, if_neg hj]
  rw [e1] at X' step
  have hl : d < H.size := (Array.getElem?_eq_some_iff.mp hc1).1
  have hheap : ((T.setVm vm').setCell d (vp_cell (E.2.1 1) (m, .inl (bpt_ g dp L)))).heap = H.setIfInBounds d (vp_cell (E.2.1 1) (m, .inl (bpt_ g dp L))) := by rw [← hT]; rfl
  have oq : ∀ q : Nat, q ≠ d → (H.setIfInBounds d (vp_cell (E.2.1 1) (m, .inl (bpt_ g dp L))))[q]? = H[q]? := fun q hq => by simp [Array.getElem?_setIfInBounds, Ne.symm hq]
  have hsm : sm1 H (H.setIfInBounds d (vp_cell (E.2.1 1) (m, .inl (bpt_ g dp L)))) d := ⟨by simp, oq⟩
  have hP1 : ∀ Lx : List Loc, (∀ z ∈ Lx, z.base = d) → hp_ E s (H.setIfInBounds d (vp_cell (E.2.1 1) (m, .inl (bpt_ g dp L)))) (locs ++ Lx) := by
    intro Lx hLx
    refine ⟨by rw [hsm.1]; exact P0.1, ⟨by rw [hsm.1]; exact P0.2.1.1, fun q hq => ?_⟩, fun z hz => ?_⟩
    · rw [oq q (fun e => by subst e; exact absurd hfr (Nat.not_le.mpr hq))]
      exact P0.2.1.2 q hq
    · rcases List.mem_append.mp hz with h | h
      · exact P0.2.2 z h
      · rw [hLx z h]
        exact hfr
  obtain ⟨t, a1, b1⟩ := kk _ (show (H.setIfInBounds d _)[d]? = some _ by simp [Array.getElem?_setIfInBounds, hl]) hsm p e s m0 args below meth c _ ls C (hP1 _ (fun z hz => by obtain ⟨z', -, hz'⟩ := List.mem_map.mp hz; rw [← hz'])) L0 _ hheap X'
  exact ⟨t, step t a1, b1⟩
def mJ0c : mt_ := (yJ0_coder_7d493, cJ0_coder_7d493, 1, some .byte, [], { frames := 0, locals := 0, cells := 0, slots := 0 })
theorem ck_mJ0c : cokV_ mJ0c := ⟨⟨(uw_mem 577 (by decide +kernel) (by decide +kernel)), (uw_mem 41 (by decide +kernel) (by decide +kernel)), by decide +kernel, by decide +kernel⟩, (uw_mem 575 (by decide +kernel) (by decide +kernel)), (uw_mem 576 (by decide +kernel) (by decide +kernel))⟩
theorem nk_mJ0c : nok_ mJ0c 0 := by decide +kernel
def mJ0i : mt_ := (yJ0_isLatin1_aae02, cJ0_isLatin1_aae02, 1, some .boolean, [], { frames := 0, locals := 0, cells := 0, slots := 0 })
theorem ck_mJ0i : cokV_ mJ0i := ⟨⟨(uw_mem 587 (by decide +kernel) (by decide +kernel)), (uw_mem 41 (by decide +kernel) (by decide +kernel)), by decide +kernel, by decide +kernel⟩, (uw_mem 585 (by decide +kernel) (by decide +kernel)), (uw_mem 586 (by decide +kernel) (by decide +kernel))⟩
theorem nk_mJ0i : nok_ mJ0i 0 := by decide +kernel
def mJ0l : mt_ := (yJ0_length_8abf5, cJ0_length_8abf5, 1, some .int, [], { frames := 1, locals := 20, cells := 0, slots := 0 })
theorem ck_mJ0l : cokV_ mJ0l := ⟨⟨(uw_mem 573 (by decide +kernel) (by decide +kernel)), (uw_mem 41 (by decide +kernel) (by decide +kernel)), by decide +kernel, by decide +kernel⟩, (uw_mem 571 (by decide +kernel) (by decide +kernel)), (uw_mem 572 (by decide +kernel) (by decide +kernel))⟩
theorem nk_mJ0l : nok_ mJ0l 0 := by decide +kernel
def mJ3k : mt_ := (yJ3_checkIndex_8e157, cJ3_checkIndex_8e157, 3, some .int, [], { frames := 0, locals := 0, cells := 0, slots := 0 })
theorem ck_mJ3k : cokS_ mJ3k := ⟨⟨(uw_mem 598 (by decide +kernel) (by decide +kernel)), (uw_mem 45 (by decide +kernel) (by decide +kernel)), by decide +kernel, by decide +kernel⟩, (uw_mem 597 (by decide +kernel) (by decide +kernel))⟩
theorem nk_mJ3k : nok_ mJ3k 3 := by decide +kernel
def mJ0k : mt_ := (yJ0_checkIndex_df160, cJ0_checkIndex_df160, 2, none, [], { frames := 1, locals := 22, cells := 0, slots := 0 })
theorem ck_mJ0k : cokS_ mJ0k := ⟨⟨(uw_mem 593 (by decide +kernel) (by decide +kernel)), (uw_mem 41 (by decide +kernel) (by decide +kernel)), by decide +kernel, by decide +kernel⟩, (uw_mem 592 (by decide +kernel) (by decide +kernel))⟩
theorem nk_mJ0k : nok_ mJ0k 2 := by decide +kernel
def mJ1h : mt_ := (yJ1_charAt_3b067, cJ1_charAt_3b067, 2, some .char, [], { frames := 2, locals := 43, cells := 0, slots := 0 })
theorem ck_mJ1h : cokS_ mJ1h := ⟨⟨(uw_mem 590 (by decide +kernel) (by decide +kernel)), (uw_mem 46 (by decide +kernel) (by decide +kernel)), by decide +kernel, by decide +kernel⟩, (uw_mem 589 (by decide +kernel) (by decide +kernel))⟩
theorem nk_mJ1h : nok_ mJ1h 2 := by decide +kernel
def mJ0h : mt_ := (yJ0_charAt_5068e, cJ0_charAt_5068e, 2, some .char, [], { frames := 3, locals := 64, cells := 0, slots := 0 })
theorem ck_mJ0h : cokV_ mJ0h := ⟨⟨(uw_mem 583 (by decide +kernel) (by decide +kernel)), (uw_mem 41 (by decide +kernel) (by decide +kernel)), by decide +kernel, by decide +kernel⟩, (uw_mem 581 (by decide +kernel) (by decide +kernel)), (uw_mem 582 (by decide +kernel) (by decide +kernel))⟩
theorem nk_mJ0h : nok_ mJ0h 1 := by decide +kernel
def mJ0g : mt_ := (yJ0_getBytes_840e7, cJ0_getBytes_840e7, 4, none, [], { frames := 1, locals := 60, cells := 0, slots := 0 })
theorem ck_mJ0g : cokV_ mJ0g := ⟨⟨(uw_mem 839 (by decide +kernel) (by decide +kernel)), (uw_mem 41 (by decide +kernel) (by decide +kernel)), by decide +kernel, by decide +kernel⟩, (uw_mem 837 (by decide +kernel) (by decide +kernel)), (uw_mem 838 (by decide +kernel) (by decide +kernel))⟩
theorem nk_mJ0g : nok_ mJ0g 3 := by decide +kernel
theorem fsJ0_38 : Cond.fieldLink RJ0 38 "java/lang/String" "COMPACT_STRINGS" "Z" ∈ uw_ := (uw_mem 578 (by decide +kernel) (by decide +kernel))
theorem fgJ0_15_8 : fok_ RJ0 15 8 1 := ⟨_, _, _, rfl, by decide, (uw_mem 914 (by decide +kernel) (by decide +kernel)), wkJ0⟩
theorem kJ0c {q : Nat} {L : List Int32} {P : Nat → Prop} (ht : tt_ E H q L P) : sp_ E mJ0c [.ref q] H (po1 (.inl (some (.int 0))) (fun Hn => sm_ H Hn 0 0)) := by
  intro hok hb
  refine sp_of (by decide +kernel) rfl rfl ?_ hok hb
  refine aw_lv (lv' := [(0, .ref q)]) [0] rfl ?_
  refine aw_gst hok.2.2.2.2.2.2.1 fsJ0_38 (by decide +kernel) ?_
  refine aw_if_eq (off := 10) 13 (by decide) (by decide +kernel) (fun hc => absurd hc (by decide)) (fun _ => ?_)
  refine aw_b (pc' := 7) (lv' := [(0, .ref q)]) (st' := [.ref q]) [(6, .aload_n 0, 1, .null)] (by decide +kernel) rfl ?_
  refine aw_ttc ht fgJ0_15_8 (by decide +kernel) ?_
  refine aw_b (pc' := 14) (lv' := [(0, .ref q)]) (st' := [.int 0]) [(10, .goto 4, 3, .null)] (by decide +kernel) rfl ?_
  exact aw_tret rfl (by decide +kernel) (Nat.zero_le _) (Nat.zero_le _) (by decide +kernel) ⟨rfl, sm_.rfl'⟩
theorem kJ0i {q : Nat} {L : List Int32} {P : Nat → Prop} (ht : tt_ E H q L P) : sp_ E mJ0i [.ref q] H (po1 (.inl (some (.int 1))) (fun Hn => sm_ H Hn 0 0)) := by
  intro hok hb
  refine sp_of (by decide +kernel) rfl rfl ?_ hok hb
  refine aw_lv (lv' := [(0, .ref q)]) [0] rfl ?_
  refine aw_gst hok.2.2.2.2.2.2.1 fsJ0_38 (by decide +kernel) ?_
  refine aw_if_eq (off := 14) 17 (by decide) (by decide +kernel) (fun hc => absurd hc (by decide)) (fun _ => ?_)
  refine aw_b (pc' := 7) (lv' := [(0, .ref q)]) (st' := [.ref q]) [(6, .aload_n 0, 1, .null)] (by decide +kernel) rfl ?_
  refine aw_ttc ht fgJ0_15_8 (by decide +kernel) ?_
  refine aw_if_ne (off := 7) 17 (by decide) (by decide +kernel) (fun hc => absurd rfl hc) (fun _ => ?_)
  refine aw_b (pc' := 18) (lv' := [(0, .ref q)]) (st' := [.int (1 : Int32)]) [(13, .iconst 1, 1, .int (1 : Int32)), (14, .goto 4, 3, .null)] (by decide +kernel) rfl ?_
  exact aw_tret rfl (by decide +kernel) (Nat.zero_le _) (Nat.zero_le _) (by decide +kernel) ⟨rfl, sm_.rfl'⟩
theorem fgJ0_9_8 : fok_ RJ0 9 8 0 := ⟨_, _, _, rfl, by decide, (uw_mem 913 (by decide +kernel) (by decide +kernel)), wkJ0⟩
theorem msJ0_335 : Cond.methodLink RJ0 335 yJ0_coder_7d493 ∈ uw_ := (uw_mem 574 (by decide +kernel) (by decide +kernel))
theorem kJ0l {q : Nat} {L : List Int32} {P : Nat → Prop} (ht : tt_ E H q L P) : sp_ E mJ0l [.ref q] H (po1 (.inl (some (.int (nI L.length)))) (fun Hn => sm_ H Hn 0 0)) := by
  intro hok hb
  refine sp_of (by decide +kernel) rfl rfl ?_ hok hb
  refine aw_lv (lv' := [(0, .ref q)]) [0] rfl ?_
  refine aw_b (pc' := 1) (lv' := [(0, .ref q)]) (st' := [.ref q]) [(0, .aload_n 0, 1, .null)] (by decide +kernel) rfl ?_
  refine aw_ttv ht fgJ0_9_8 (by decide +kernel) (fun v hv => ?_)
  refine aw_tvl hv (by decide +kernel) ?_
  refine aw_b (pc' := 6) (lv' := [(0, .ref q)]) (st' := [.ref q, .int (nI L.length)]) [(5, .aload_n 0, 1, .null)] (by decide +kernel) rfl ?_
  refine aw_crt (rest := [.int (nI L.length)]) (st1 := [.int 0, .int (nI L.length)]) ht rfl (kJ0c ht) rfl rfl ck_mJ0c msJ0_335 nk_mJ0c rfl rfl rfl (Nat.le_of_ble_eq_true rfl) (Nat.zero_le _) (Nat.zero_le _) (by decide +kernel) (fun H1 hz => ?_)
  refine aw_b (pc' := 10) (lv' := [(0, .ref q)]) (st' := [.int (nI L.length >>> ((0 : Int32) &&& 31))]) [(9, .ishr, 1, .null)] (by decide +kernel) rfl ?_
  rw [sb_shr0]
  exact aw_iret rfl (Nat.zero_le _) (Nat.zero_le _) (by decide +kernel) ⟨rfl, hz⟩
theorem kJ3k {i j : Int32} {f : Value} (hf : f = .null ∨ ∃ t : Nat, f = .ref t) (h1 : 0 ≤ i) (h2 : i < j) : sp_ E mJ3k [.int i, .int j, f] H (po1 (.inl (some (.int i))) (fun Hn => sm_ H Hn 0 0)) := by
  rcases hf with rfl | ⟨t, rfl⟩
  all_goals
    refine sp_of (by decide +kernel) rfl rfl ?_
    refine aw_lv (lv' := [(0, .int i), (1, .int j)]) [0, 1] rfl ?_
    refine aw_b (pc' := 1) (lv' := [(0, .int i), (1, .int j)]) (st' := [.int i]) [(0, .iload_n 0, 1, .null)] (by decide +kernel) rfl ?_
    refine aw_if_lt (off := 8) 9 (by decide) (by decide +kernel) (fun hc => absurd h1 (Int32.not_le.mpr hc)) (fun _ => ?_)
    refine aw_b (pc' := 6) (lv' := [(0, .int i), (1, .int j)]) (st' := [.int j, .int i]) [(4, .iload_n 0, 1, .null), (5, .iload_n 1, 1, .null)] (by decide +kernel) rfl ?_
    refine aw_ic_lt (off := 10) 16 (by decide) (by decide +kernel) (fun _ => ?_) (fun hc => absurd h2 hc)
    refine aw_b (pc' := 17) (lv' := [(0, .int i), (1, .int j)]) (st' := [.int i]) [(16, .iload_n 0, 1, .null)] (by decide +kernel) rfl ?_
    exact aw_iret rfl (Nat.zero_le _) (Nat.zero_le _) (by decide +kernel) ⟨rfl, sm_.rfl'⟩
theorem fsJ0_1053 : Cond.fieldLink RJ0 1053 "jdk/internal/util/Preconditions" "SIOOBE_FORMATTER" "Ljava/util/function/BiFunction;" ∈ uw_ := (uw_mem 594 (by decide +kernel) (by decide +kernel))
theorem msJ0_1059 : Cond.methodLink RJ0 1059 yJ3_checkIndex_8e157 ∈ uw_ := (uw_mem 596 (by decide +kernel) (by decide +kernel))
theorem msJ1_9 : Cond.methodLink RJ1 9 yJ0_checkIndex_df160 ∈ uw_ := (uw_mem 591 (by decide +kernel) (by decide +kernel))
theorem msJ0_492 : Cond.methodLink RJ0 492 yJ0_isLatin1_aae02 ∈ uw_ := (uw_mem 584 (by decide +kernel) (by decide +kernel))
theorem msJ0_495 : Cond.methodLink RJ0 495 yJ1_charAt_3b067 ∈ uw_ := (uw_mem 588 (by decide +kernel) (by decide +kernel))
theorem kJ0k {i j : Int32} (h1 : 0 ≤ i) (h2 : i < j) : sp_ E mJ0k [.int i, .int j] H (po1 (.inl none) (fun Hn => sm_ H Hn 0 0)) := by
  intro hok hb
  have hZ := hok.2.2.2.2.2.2.2
  refine sp_of (by decide +kernel) rfl rfl ?_ hok hb
  refine aw_lv (lv' := [(0, .int i), (1, .int j)]) [0, 1] rfl ?_
  refine aw_b (pc' := 2) (lv' := [(0, .int i), (1, .int j)]) (st' := [.int j, .int i]) [(0, .iload_n 0, 1, .null), (1, .iload_n 1, 1, .null)] (by decide +kernel) rfl ?_
  refine aw_gsq hZ fsJ0_1053 (by decide +kernel) ?_ (fun t => ?_)
  · refine aw_cs (rest := []) (st1 := [.int i]) (kJ3k (Or.inl rfl) h1 h2) rfl rfl ck_mJ3k msJ0_1059 nk_mJ3k rfl rfl rfl (Nat.le_of_ble_eq_true rfl) (Nat.zero_le _) (Nat.zero_le _) (by decide +kernel) (fun H1 hz => ?_)
    refine aw_b (pc' := 9) (lv' := [(0, .int i), (1, .int j)]) (st' := []) [(8, .pop, 1, .null)] (by decide +kernel) rfl ?_
    exact aw_vret rfl (Nat.zero_le _) (Nat.zero_le _) (by decide +kernel) ⟨rfl, hz⟩
  · refine aw_cs (rest := []) (st1 := [.int i]) (kJ3k (Or.inr ⟨t, rfl⟩) h1 h2) rfl rfl ck_mJ3k msJ0_1059 nk_mJ3k rfl rfl rfl (Nat.le_of_ble_eq_true rfl) (Nat.zero_le _) (Nat.zero_le _) (by decide +kernel) (fun H1 hz => ?_)
    refine aw_b (pc' := 9) (lv' := [(0, .int i), (1, .int j)]) (st' := []) [(8, .pop, 1, .null)] (by decide +kernel) rfl ?_
    exact aw_vret rfl (Nat.zero_le _) (Nat.zero_le _) (by decide +kernel) ⟨rfl, hz⟩
theorem ib_i32 {i : Int32} {N : Nat} (hN : N < 2147483648) (h : ib_ i N = true) : 0 ≤ i ∧ i < nI N := by
  have h2 := ib_lt h
  unfold ib_ at h
  rw [Bool.and_eq_true] at h
  have h1 : (0 : Int32) ≤ i := of_decide_eq_true h.1
  refine ⟨h1, Int32.lt_iff_toInt_lt.mpr ?_⟩
  have h3 : (0 : Int) ≤ i.toInt := by simpa using Int32.le_iff_toInt_le.mp h1
  have h4 : (nI N).toInt = (N : Int) := nI_toInt (by omega)
  have h5 : ((i.toInt.toNat : Nat) : Int) = i.toInt := by omega
  have h6 : i.toInt.toNat < N := h2
  omega
theorem kJ1h {v : Nat} {i : Int32} {L : List Int32} {P : Nat → Prop} (hL : lt_ L) (hv : tv_ E H v L P) (hi : ib_ i L.length = true) : sp_ E mJ1h [.ref v, .int i] H (po1 (.inl (some (.int (L.getD (ix_ i) 0)))) (fun Hn => sm_ H Hn 0 0)) := by
  obtain ⟨i1, i2⟩ := ib_i32 (by have := hL.1; omega) hi
  obtain ⟨b1, b2, -⟩ := by_ok (hL.g (ib_lt hi))
  refine sp_of (by decide +kernel) rfl rfl ?_
  refine aw_lv (lv' := [(0, .ref v), (1, .int i)]) [0, 1] rfl ?_
  refine aw_b (pc' := 2) (lv' := [(0, .ref v), (1, .int i)]) (st' := [.ref v, .int i]) [(0, .iload_n 1, 1, .null), (1, .aload_n 0, 1, .null)] (by decide +kernel) rfl ?_
  refine aw_tvl hv (by decide +kernel) ?_
  refine aw_cs (rest := []) (st1 := []) (kJ0k i1 i2) rfl rfl ck_mJ0k msJ1_9 nk_mJ0k rfl rfl rfl (Nat.le_of_ble_eq_true rfl) (Nat.zero_le _) (Nat.zero_le _) (by decide +kernel) (fun H1 hz => ?_)
  refine aw_b (pc' := 8) (lv' := [(0, .ref v), (1, .int i)]) (st' := [.int i, .ref v]) [(6, .aload_n 0, 1, .null), (7, .iload_n 1, 1, .null)] (by decide +kernel) rfl ?_
  refine aw_tvb (hv.sm hz) hi (by decide +kernel) ?_
  refine aw_b (pc' := 13) (lv' := [(0, .ref v), (1, .int i)]) (st' := [.int (L.getD (ix_ i) 0 &&& (255 : Int32))]) [(9, .sipush 255, 3, .int (255 : Int32)), (12, .iand, 1, .null)] (by decide +kernel) rfl ?_
  refine aw_i2c b1 (by decide +kernel) ?_
  exact aw_tret rfl b2 (Nat.zero_le _) (Nat.zero_le _) (by decide +kernel) ⟨rfl, hz⟩
theorem kJ0h {i : Int32} {q : Nat} {L : List Int32} {P : Nat → Prop} (ht : tt_ E H q L P) (hi : ib_ i L.length = true) : sp_ E mJ0h [.ref q, .int i] H (po1 (.inl (some (.int (L.getD (ix_ i) 0)))) (fun Hn => sm_ H Hn 0 0)) := by
  obtain ⟨b1, b2, -⟩ := by_ok (ht.1.g (ib_lt hi))
  refine sp_of (by decide +kernel) rfl rfl ?_
  refine aw_lv (lv' := [(0, .ref q), (1, .int i)]) [0, 1] rfl ?_
  refine aw_b (pc' := 1) (lv' := [(0, .ref q), (1, .int i)]) (st' := [.ref q]) [(0, .aload_n 0, 1, .null)] (by decide +kernel) rfl ?_
  refine aw_crt (rest := []) (st1 := [.int 1]) ht rfl (kJ0i ht) rfl rfl ck_mJ0i msJ0_492 nk_mJ0i rfl rfl rfl (Nat.le_of_ble_eq_true rfl) (Nat.zero_le _) (Nat.zero_le _) (by decide +kernel) (fun H1 hz => ?_)
  refine aw_if_eq (off := 12) 16 (by decide) (by decide +kernel) (fun hc => absurd hc (by decide)) (fun _ => ?_)
  refine aw_b (pc' := 8) (lv' := [(0, .ref q), (1, .int i)]) (st' := [.ref q]) [(7, .aload_n 0, 1, .null)] (by decide +kernel) rfl ?_
  refine aw_ttv (ht.sm hz) fgJ0_9_8 (by decide +kernel) (fun v hv => ?_)
  refine aw_b (pc' := 12) (lv' := [(0, .ref q), (1, .int i)]) (st' := [.int i, .ref v]) [(11, .iload_n 1, 1, .null)] (by decide +kernel) rfl ?_
  refine aw_cs (rest := []) (st1 := [.int (L.getD (ix_ i) 0)]) (kJ1h ht.1 hv hi) rfl rfl ck_mJ1h msJ0_495 nk_mJ1h rfl rfl rfl (Nat.le_of_ble_eq_true rfl) (Nat.zero_le _) (Nat.zero_le _) (by decide +kernel) (fun H2 hz2 => ?_)
  exact aw_tret rfl b2 (Nat.zero_le _) (Nat.zero_le _) (by decide +kernel) ⟨rfl, hz.step0 hz2⟩
theorem aw_sln (w : Nat) {idx : Nat} (hw : sxb_ w = true) (hl : Cond.methodLink M.1.cls idx yJ0_length_8abf5 ∈ uw_) (hR : (rok_ M mJ0l && c0_ mJ0l) = true) (htab : M.2.2.2.2.1 = []) (hroom : (rest.map fun v => v.category).sum ≤ 8) (hkk : k ≤ (mt_R M).cells) (hnn : n ≤ (mt_R M).slots) (hd : decode M.2.1 pc = .ok (.invokevirtual idx, 3)) (kk : ∀ H1 : Heap, sm_ H H1 0 0 → aw E M Q (pc + 3) lv (.int (sl_ w) :: rest) H1 k n) : aw E M Q pc lv (.ref (sa_ E w) :: rest) H k n :=
  aw_crt (P := fun _ => True) (rest := rest) (As := []) (tt_.c hw) rfl (kJ0l (P := fun _ => True) (tt_.c hw)) rfl rfl ck_mJ0l hl nk_mJ0l rfl hR htab hroom hkk hnn hd kk
theorem aw_sch (w : Nat) {idx : Nat} {i : Int32} (hw : sxb_ w = true) (hi : ib_ i (sb_y w).length = true) (hl : Cond.methodLink M.1.cls idx yJ0_charAt_5068e ∈ uw_) (hR : (rok_ M mJ0h && c0_ mJ0h) = true) (htab : M.2.2.2.2.1 = []) (hroom : (rest.map fun v => v.category).sum ≤ 8) (hkk : k ≤ (mt_R M).cells) (hnn : n ≤ (mt_R M).slots) (hd : decode M.2.1 pc = .ok (.invokevirtual idx, 3)) (kk : ∀ H1 : Heap, sm_ H H1 0 0 → aw E M Q (pc + 3) lv (.int (sch_ w i) :: rest) H1 k n) : aw E M Q pc lv (.int i :: .ref (sa_ E w) :: rest) H k n :=
  aw_crt (P := fun _ => True) (rest := rest) (As := [.int i]) (tt_.c hw) rfl (kJ0h (P := fun _ => True) (tt_.c hw) hi) rfl rfl ck_mJ0h hl nk_mJ0h rfl hR htab hroom hkk hnn hd kk
theorem cpJ0_212 : al_ RJ0 212 := ⟨(uw_mem 840 (by decide +kernel) (by decide +kernel)), (uw_mem 451 (by decide +kernel) (by decide +kernel)), (uw_mem 450 (by decide +kernel) (by decide +kernel)), (uw_mem 37 (by decide +kernel) (by decide +kernel))⟩
theorem kJ0g {q d m : Nat} {L : List Int32} {P : Nat → Prop} {g : Nat → Int32} (ht : tt_ E H q L P) (hd : at_ E H d (.inl (E.2.1 1, m, .inl g))) (hfr : ev_fr E d) (hr : a + L.length ≤ m) (hm : m < 2147483648) : sp_ E mJ0g [.ref q, .ref d, .int (nI a), .int 0] H (po1 (.inl none) (fun Hn => sm_ H Hn d 1 ∧ at_ E Hn d (.inl (E.2.1 1, m, .inl (bpt_ g a L))))) := by
  refine sp_of (by decide +kernel) rfl rfl ?_
  refine aw_lv (lv' := [(0, .ref q), (1, .ref d), (2, .int (nI a)), (3, .int (0 : Int32))]) [0, 1, 2, 3] rfl ?_
  refine aw_b (pc' := 1) (lv' := [(0, .ref q), (1, .ref d), (2, .int (nI a)), (3, .int (0 : Int32))]) (st' := [.ref q]) [(0, .aload_n 0, 1, .null)] (by decide +kernel) rfl ?_
  refine aw_crt (rest := []) (st1 := [.int 0]) ht rfl (kJ0c ht) rfl rfl ck_mJ0c msJ0_335 nk_mJ0c rfl rfl rfl (Nat.le_of_ble_eq_true rfl) (Nat.zero_le _) (Nat.zero_le _) (by decide +kernel) (fun H1 hz => ?_)
  have ht1 := ht.sm hz
  have hd1 := at_same hd (hz.2 _ (at_lt hd) (Nat.lt_or_ge _ 0))
  refine aw_b (pc' := 5) (lv' := [(0, .ref q), (1, .ref d), (2, .int (nI a)), (3, .int (0 : Int32))]) (st' := [.int (0 : Int32), .int (0 : Int32)]) [(4, .iload_n 3, 1, .null)] (by decide +kernel) rfl ?_
  refine aw_ic_ne (off := 23) 28 (by decide) (by decide +kernel) (fun hc => absurd rfl hc) (fun _ => ?_)
  refine aw_b (pc' := 9) (lv' := [(0, .ref q), (1, .ref d), (2, .int (nI a)), (3, .int (0 : Int32))]) (st' := [.ref q]) [(8, .aload_n 0, 1, .null)] (by decide +kernel) rfl ?_
  refine aw_ttv ht1 fgJ0_9_8 (by decide +kernel) (fun v hv => ?_)
  refine aw_b (pc' := 18) (lv' := [(0, .ref q), (1, .ref d), (2, .int (nI a)), (3, .int (0 : Int32))]) (st' := [.ref q, .int ((nI a) <<< ((0 : Int32) &&& 31)), .ref d, .int (0 : Int32), .ref v]) [(12, .iconst 0, 1, .int (0 : Int32)), (13, .aload_n 1, 1, .null), (14, .iload_n 2, 1, .null), (15, .iload_n 3, 1, .null), (16, .ishl, 1, .null), (17, .aload_n 0, 1, .null)] (by decide +kernel) rfl ?_
  refine aw_ttv ht1 fgJ0_9_8 (by decide +kernel) (fun v2 hv2 => ?_)
  refine aw_tvl hv2 (by decide +kernel) ?_
  rw [sb_shl0]
  refine aw_cpb cpJ0_212 ht1.1 hv hd1 hfr hr hm rfl (by decide) (by decide +kernel) (fun H2 h2 z2 => ?_)
  refine aw_b (pc' := 43) (lv' := [(0, .ref q), (1, .ref d), (2, .int (nI a)), (3, .int (0 : Int32))]) (st' := []) [(25, .goto 18, 3, .null)] (by decide +kernel) rfl ?_
  exact aw_vret rfl (Nat.zero_le _) (Nat.zero_le _) (by decide +kernel) ⟨rfl, ⟨Nat.le_trans hz.1 (Nat.le_of_eq z2.1.symm), fun q hq ho => (z2.2 q (by omega)).trans (hz.2 q hq (Nat.lt_or_ge _ 0))⟩, h2⟩
end AS
