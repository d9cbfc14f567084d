/-! StringBuilder: calls of inherited, private and super methods; rows of bytes made and copied; the builder's methods -/
section BU
variable {E : ev_} {M : mt_} {Q : po_} {pc : Nat} {lv : List (Nat × Value)} {rest : List Value} {H : Heap} {k n : Nat}
theorem aw_run {M' : mt_} {rv : Option Value} {P : Heap → Prop} {av st0 : List Value} {u u6 : Nat} (hr : ∀ (p : Program) (e : Env) (s : State) (m : MethodId) (args : Array Value) (below : List Frame) (meth : Method) (c : Code) (locs : List Loc) (ls : Array Slot), cx_ E M p s m args meth c → hp_ E s H locs → lv_has ls M.2.2.1 lv → va_Run p (ev_l E) e (mt_R M) s m args below meth c H locs k n u u6 (F0 m pc ls st0) rest (aw_Q E (po1 (.inl rv) P) av.toArray) (ev_fr E)) (kk : ∀ H1 : Heap, H.size ≤ H1.size → P H1 → aw E M Q (pc + 3) lv (rv.toList ++ rest) H1 (k + u) (n + u6)) : aw E M Q pc lv st0 H k n := by
  intro p e s m args below meth c locs ls C P0 L T hT X
  obtain ⟨v, st₀, t, T', L9, h0, X', hL, e1, e2, ⟨r, er, hq, hz, hb⟩, st⟩ := hr p e s m args below meth c locs ls C P0 L T hT X
  cases er
  rw [← e1] at hq hb hz
  rw [h0] at hz
  have ev := Sum.inl.inj hq.1
  subst ev
  obtain ⟨t2, a1, b1⟩ := kk T'.heap hz hq.2 p e s m args below meth c (locs ++ L9) ls C (P0.call hz hb hL) L T' rfl X'
  exact ⟨t2, st t2 a1, b1⟩
end BU
section RP
variable {p : Program} {l : Launch} {e : Env} {R : Room} {s : State} {m : MethodId} {args : Array Value} {below : List Frame} {meth : Method} {c : Code} {H : Heap} {locs : List Loc} {cells slots : Nat}
theorem va_runP {y : MethodName} {bytes cc : ByteArray} {maxL nL mc ms n index : Nat} {ret : Option FieldType} {ws : List Cond} {rm : Room} {Pc : Array Value → State → Prop} {Qc : Array Value → State → Outcome → State → Prop} {free : Addr → Prop} {Ts : List Cond} {own C : String} {b : Addr} {As rest : List Value} {g : JFrame}
    (S : CallFix p m c cc nL s args Ts own) (hM : Met l y ws rm Pc Qc mc ms free) (cw : CallB R s args own index y bytes maxL ret ws rm mc ms n) (hinst : (Cond.instanceMethod y).before args s = true) (hsel : (Cond.selects y.cls y y).before args s = true) (hpriv : s.PrivateAt y) (hp : PreV s H C b Pc As)
    (hg : g.method = m) (hn : As.length = n) (hsize : g.locals.size = nL) (hstack : g.stack = As.reverse ++ .ref b :: rest) (hW : 2 * g.monitorRoom + (rest.map fun v => v.category).sum ≤ 8) (hdg : decode cc g.pc = .ok (.invokevirtual index, 3)) (hf : cells + mc ≤ R.cells ∧ slots + ms ≤ R.slots) :
    va_Run p l e R s m args below meth c H locs cells slots mc ms g rest (Qc (Value.ref b :: As).toArray) free := by
  obtain ⟨hrc, hrs, hfr, hlo, hws, hcw, hcode, hini, hnm, hlen, hlink⟩ := cw
  have hK : Back l R p e below s args y 3 8 (PreOf R mc ms Pc) (PostOf Qc mc ms free) := back_of (bytes := bytes) (maxL := maxL) (ret := ret) hM hp.1 hrc hrs hfr hlo hws hcw (fun a' U hW => word_at hW (Or.inl (by first | rfl | simp [Cond.onTables, Cond.keeps, Cond.steady])) hini)
  obtain ⟨hx, hb, hml, ho, -⟩ := S
  obtain ⟨-, ⟨cellB, hcB, hoB, hclB⟩, hPc⟩ := hp
  intro T hT X
  obtain ⟨v, vm₁, ⟨U', l2, c2, s2⟩, hW₁, X', ⟨g', mk, t, L, e1, e2, hq, h1, hL, h2, h3⟩, st⟩ := X.privateBack hx ho hlink hinst hsel hpriv hcode hnm hK hg (hsize.trans hml.symm) (Steps.refl _) (by rw [hT]; exact hcB) (fun q h => by rw [h] at hoB; cases hoB) (argsL := As) (rest := rest) (fun sig h => hn.trans (hlen sig h)) hstack hW (by rw [hb]; exact hdg) (fun vm₁ hW₁ => ⟨hf.1, hf.2, hPc (T.setVm vm₁) hT hW₁⟩)
  dsimp only [Pt.U, Pt.locs, Pt.cells, Pt.slots] at X' e1 e2 h1 h2 h3 st
  subst h1; subst h2; subst h3
  exact ⟨v, (T.setVm vm₁).calling g' mk (Value.ref b :: As).toArray, t, U', L, hT, X', hL, e1, e2, hq, fun target h => st.trans h⟩
end RP
theorem sl_J5_isLatin1_aae02_J5_isLatin1_aae02 : Cond.selects RJ4 yJ5_isLatin1_aae02 yJ5_isLatin1_aae02 ∈ uw_ := (uw_mem 790 (by decide +kernel) (by decide +kernel))
theorem asb_cls {s : State} {args : Array Value} (hts : ∀ w ∈ uw_, w.before args s = true) : ∃ (c : ClassId) (k : Class), s.vm.findClass RJ5 = some c ∧ s.vm.classes[c]? = some k ∧ k.isInterface = false := by
  obtain ⟨c, r, m, h1, h2, h3, h4, mk, h5, h6⟩ := Cond.selects_spec (hts _ sl_J5_isLatin1_aae02_J5_isLatin1_aae02)
  exact ⟨m.cls, mk, findClass_of_methodNamed h3, h5, h6⟩
section BC
variable {E : ev_} {M : mt_} {Q : po_} {pc : Nat} {lv : List (Nat × Value)} {rest : List Value} {H : Heap} {k n : Nat}
/-- a private method of the class above, on a builder -/
theorem aw_cp {M' : mt_} {b : Nat} {fs : List Value} {rv : Option Value} {P : Heap → Prop} {As st0 st1 : List Value} {idx j u u6 : Nat} (hs : sp_ E M' (.ref b :: As) H (po1 (.inl rv) P)) (hst : st0 = As.reverse ++ .ref b :: rest) (hst1 : rv.toList ++ rest = st1) (hc : cok_ M') (hi : Cond.instanceMethod M'.1 ∈ uw_) (hp : Cond.privateMethod M'.1 ∈ lw_tbl) (hcl : M'.1.cls = RJ5) (hl : Cond.methodLink M.1.cls idx M'.1 ∈ uw_) (hb : at_ E H b (.inr (9, fs))) (hn : nok_ M' j) (hj : As.length = j) (hR : rok_ M M' = true) (hu : (mt_R M').cells = u) (hu6 : (mt_R M').slots = u6) (hroom : (rest.map fun v => v.category).sum ≤ 8) (hkk : k + u ≤ (mt_R M).cells) (hnn : n + u6 ≤ (mt_R M).slots) (hd : decode M.2.1 pc = .ok (.invokevirtual idx, 3))
    (kk : ∀ H1 : Heap, P H1 → aw E M Q (pc + 3) lv st1 H1 (k + u) (n + u6)) : aw E M Q pc lv st0 H k n := by
  subst hst hst1 hu hu6
  refine aw_run (rest := rest) (M' := M') (av := .ref b :: As) (rv := rv) (P := P) (fun p e s m args below meth c locs ls C P0 L => ?_) (fun H1 _ h1 => kk H1 h1)
  have hts := C.2.2.2.2.2.1
  obtain ⟨cA, kA, e1, e2, e3⟩ := asb_cls hts
  have hpriv := Cond.privateMethod_at (Cond.privateMethod_warm (args' := args) C.2.2.2.2.2.2.2.2.1 (C.2.2.2.2.2.2.2.2.2.2.1.2.2.1 _ hp rfl))
  have hsel : (Cond.selects M'.1.cls M'.1 M'.1).before args s = true := selects_self_of_private (by rw [hcl]; exact e1) e2 e3 hpriv (hts _ hi) hc.2.2
  exact va_runP (C := RJ4) (n := j) (Ts := uw_) ⟨C.1, C.2.1, C.2.2.2.1, C.2.2.2.2.1, hts⟩ (sp_met hs C.2.2.2.2.2.2.2.2.2.2.1 P0.2.1) (callB_aw hc hR hn hl C) (hts _ hi) hsel hpriv ⟨(pre_aw C (av := .ref b :: As)).1, recv_aw C hb rfl, (pre_aw C (av := .ref b :: As)).2⟩ rfl hj L.1 rfl (lv_room hroom) hd ⟨hkk, hnn⟩
/-- a method that a builder inherits -/
theorem aw_cu {M' : mt_} {b : Nat} {fs : List Value} {rv : Option Value} {P : Heap → Prop} {As st0 st1 : List Value} {idx j u u6 : Nat} (hs : sp_ E M' (.ref b :: As) H (po1 (.inl rv) P)) (hst : st0 = As.reverse ++ .ref b :: rest) (hst1 : rv.toList ++ rest = st1) (hc : cok_ M') (hi : Cond.instanceMethod M'.1 ∈ uw_) (hsm : Cond.sameMethod M'.1.cls M'.1.cls M'.1.name M'.1.desc ∈ uw_) (hsl : Cond.selects RJ4 M'.1 M'.1 ∈ uw_) (hl : Cond.methodLink M.1.cls idx M'.1 ∈ uw_) (hb : at_ E H b (.inr (9, fs))) (hn : nok_ M' j) (hj : As.length = j) (hR : rok_ M M' = true) (hu : (mt_R M').cells = u) (hu6 : (mt_R M').slots = u6) (hroom : (rest.map fun v => v.category).sum ≤ 8) (hkk : k + u ≤ (mt_R M).cells) (hnn : n + u6 ≤ (mt_R M).slots) (hd : decode M.2.1 pc = .ok (.invokevirtual idx, 3))
    (kk : ∀ H1 : Heap, P H1 → aw E M Q (pc + 3) lv st1 H1 (k + u) (n + u6)) : aw E M Q pc lv st0 H k n := by
  subst hst hst1 hu hu6
  refine aw_run (rest := rest) (M' := M') (av := .ref b :: As) (rv := rv) (P := P) (fun p e s m args below meth c locs ls C P0 L => ?_) (fun H1 _ h1 => kk H1 h1)
  have hts := C.2.2.2.2.2.1
  unfold rok_ at hR
  rw [Bool.and_eq_true] at hR
  have hG : GoodIn uw_ (va_wsU M.1.cls idx RJ4 M'.1.cls M'.1 M'.1 (.code M'.1 M'.2.1 M'.2.2.1 M'.2.2.2.1 :: uw_)) := by
    intro w hw
    unfold va_wsU at hw
    rcases List.mem_append.mp hw with h | h
    · have hm : w ∈ uw_ := by
        simp only [List.mem_cons, List.not_mem_nil, or_false] at h
        rcases h with rfl | rfl | rfl | rfl | rfl
        · exact hl
        · exact hsm
        · exact hsl
        · exact hi
        · exact hc.2.1
      exact ⟨hm, uw_good _ hm⟩
    · exact uw_ws hc.1 w h
  exact va_runU (C := RJ4) (n := j) (Ts := uw_) ⟨C.1, C.2.1, C.2.2.2.1, C.2.2.2.2.1, hts⟩ (sp_met hs C.2.2.2.2.2.2.2.2.2.2.1 P0.2.1) (va_cwU j hts hG rfl rfl rfl rfl ⟨hc.2.2.1, hc.2.2.2, hn⟩ ⟨Nat.le_of_ble_eq_true hR.1, Nat.le_of_ble_eq_true hR.2⟩) ⟨(pre_aw C (av := .ref b :: As)).1, recv_aw C hb rfl, (pre_aw C (av := .ref b :: As)).2⟩ rfl hj L.1 rfl (lv_room hroom) hd ⟨hkk, hnn⟩
/-- a method that a builder overrides -/
theorem aw_co {M' : mt_} {x : MethodName} {b0 : ByteArray} {m0 : Nat} {r0 : Option FieldType} {b : Nat} {fs : List Value} {rv : Option Value} {P : Heap → Prop} {As st0 st1 : List Value} {idx j u u6 : Nat} (hs : sp_ E M' (.ref b :: As) H (po1 (.inl rv) P)) (hst : st0 = As.reverse ++ .ref b :: rest) (hst1 : rv.toList ++ rest = st1) (hc : cok_ M') (hi : Cond.instanceMethod M'.1 ∈ uw_) (hx0 : Cond.code x b0 m0 r0 ∈ uw_) (hxi : Cond.instanceMethod x ∈ uw_) (hxc : x.cls ≠ "java/lang/invoke/MethodHandle" ∧ x.cls ≠ "java/lang/invoke/VarHandle") (hxd : x.desc = M'.1.desc) (hsm : Cond.sameMethod x.cls x.cls x.name x.desc ∈ uw_) (hsl : Cond.selects RJ4 x M'.1 ∈ uw_) (hl : Cond.methodLink M.1.cls idx x ∈ uw_) (hb : at_ E H b (.inr (9, fs))) (hn : nok_ M' j) (hj : As.length = j) (hR : rok_ M M' = true) (hu : (mt_R M').cells = u) (hu6 : (mt_R M').slots = u6) (hroom : (rest.map fun v => v.category).sum ≤ 8) (hkk : k + u ≤ (mt_R M).cells) (hnn : n + u6 ≤ (mt_R M).slots) (hd : decode M.2.1 pc = .ok (.invokevirtual idx, 3))
    (kk : ∀ H1 : Heap, P H1 → aw E M Q (pc + 3) lv st1 H1 (k + u) (n + u6)) : aw E M Q pc lv st0 H k n := by
  subst hst hst1 hu hu6
  refine aw_run (rest := rest) (M' := M') (av := .ref b :: As) (rv := rv) (P := P) (fun p e s m args below meth c locs ls C P0 L => ?_) (fun H1 _ h1 => kk H1 h1)
  have hts := C.2.2.2.2.2.1
  unfold rok_ at hR
  rw [Bool.and_eq_true] at hR
  have hG : GoodIn uw_ (va_wsO M.1.cls idx RJ4 x.cls x M'.1 (.code M'.1 M'.2.1 M'.2.2.1 M'.2.2.2.1 :: uw_)) := by
    intro w hw
    unfold va_wsO at hw
    rcases List.mem_append.mp hw with h | h
    · have hm : w ∈ uw_ := by
        simp only [List.mem_cons, List.not_mem_nil, or_false] at h
        rcases h with rfl | rfl | rfl | rfl | rfl | rfl
        · exact hl
        · exact hsm
        · exact hxi
        · exact hsl
        · exact hi
        · exact hc.2.1
      exact ⟨hm, uw_good _ hm⟩
    · exact uw_ws hc.1 w h
  exact va_runU (C := RJ4) (n := j) (Ts := uw_) ⟨C.1, C.2.1, C.2.2.2.1, C.2.2.2.2.1, hts⟩ (sp_met hs C.2.2.2.2.2.2.2.2.2.2.1 P0.2.1) (va_cwO j hts hG rfl rfl rfl hx0 ⟨hxc.1, hxc.2, by rw [hxd]; exact hn⟩ ⟨Nat.le_of_ble_eq_true hR.1, Nat.le_of_ble_eq_true hR.2⟩) ⟨(pre_aw C (av := .ref b :: As)).1, recv_aw C hb rfl, (pre_aw C (av := .ref b :: As)).2⟩ rfl hj L.1 rfl (lv_room hroom) hd ⟨hkk, hnn⟩
/-- super.m(..) of a builder -/
theorem aw_csu {M' : mt_} {b : Nat} {fs : List Value} {rv : Option Value} {P : Heap → Prop} {As st0 st1 : List Value} {idx j u u6 : Nat} (hs : sp_ E M' (.ref b :: As) H (po1 (.inl rv) P)) (hst : st0 = As.reverse ++ .ref b :: rest) (hst1 : rv.toList ++ rest = st1) (hc : cok_ M') (hi : Cond.instanceMethod M'.1 ∈ uw_) (hsm : Cond.sameMethod M'.1.cls M'.1.cls M'.1.name M'.1.desc ∈ uw_) (hsp : Cond.superclass M.1.cls M'.1.cls ∈ uw_) (hno : M'.1.name ≠ "<init>") (hl : Cond.methodLink M.1.cls idx M'.1 ∈ uw_) (hb : at_ E H b (.inr (9, fs))) (hn : nok_ M' j) (hj : As.length = j) (hR : rok_ M M' = true) (hu : (mt_R M').cells = u) (hu6 : (mt_R M').slots = u6) (hroom : (rest.map fun v => v.category).sum ≤ 8) (hkk : k + u ≤ (mt_R M).cells) (hnn : n + u6 ≤ (mt_R M).slots) (hd : decode M.2.1 pc = .ok (.invokespecial idx, 3))
    (kk : ∀ H1 : Heap, P H1 → aw E M Q (pc + 3) lv st1 H1 (k + u) (n + u6)) : aw E M Q pc lv st0 H k n := by
  subst hst hst1 hu hu6
  refine aw_run (rest := rest) (M' := M') (av := .ref b :: As) (rv := rv) (P := P) (fun p e s m args below meth c locs ls C P0 L => ?_) (fun H1 _ h1 => kk H1 h1)
  have hts := C.2.2.2.2.2.1
  unfold rok_ at hR
  rw [Bool.and_eq_true] at hR
  have hG : GoodIn uw_ (va_wsSU M.1.cls idx M'.1 (.code M'.1 M'.2.1 M'.2.2.1 M'.2.2.2.1 :: uw_)) := by
    intro w hw
    unfold va_wsSU at hw
    rcases List.mem_append.mp hw with h | h
    · have hm : w ∈ uw_ := by
        simp only [List.mem_cons, List.not_mem_nil, or_false] at h
        rcases h with rfl | rfl | rfl | rfl | rfl
        · exact hl
        · exact hsm
        · exact hsp
        · exact hi
        · exact hc.2.1
      exact ⟨hm, uw_good _ hm⟩
    · exact uw_ws hc.1 w h
  obtain ⟨hS, hfc, kC, hkC, hkind⟩ := (cx_K C).1 9 _ rfl
  exact va_runSU (C := RJ4) (n := j) (Ts := uw_) ⟨hfc, kC, hkC, hkind⟩ ⟨C.1, C.2.1, C.2.2.2.1, C.2.2.2.2.1, hts⟩ (sp_met hs C.2.2.2.2.2.2.2.2.2.2.1 P0.2.1) (va_cwSU j hts hG rfl rfl rfl ⟨hno, hn⟩ ⟨Nat.le_of_ble_eq_true hR.1, Nat.le_of_ble_eq_true hR.2⟩) ⟨(pre_aw C (av := .ref b :: As)).1, recv_aw C hb rfl, (pre_aw C (av := .ref b :: As)).2⟩ rfl hj L.1 rfl (lv_room hroom) hd ⟨hkk, hnn⟩
/-- a constructor with arguments -/
theorem aw_cia {M' : mt_} {b : Nat} {P : Heap → Prop} {As st0 : List Value} {idx j u u6 : Nat} (hs : sp_ E M' (.ref b :: As) H (po1 (.inl none) P)) (hst : st0 = As.reverse ++ .ref b :: rest) (hc : cokI_ M') (hr : M'.2.2.2.1 = none) (hl : Cond.methodLink M.1.cls idx M'.1 ∈ uw_) (hn : nok_ M' j) (hj : As.length = j) (hR : rok_ M M' = true) (hu : (mt_R M').cells = u) (hu6 : (mt_R M').slots = u6) (hroom : (rest.map fun v => v.category).sum ≤ 8) (hkk : k + u ≤ (mt_R M).cells) (hnn : n + u6 ≤ (mt_R M).slots) (hd : decode M.2.1 pc = .ok (.invokespecial idx, 3))
    (kk : ∀ H1 : Heap, P H1 → aw E M Q (pc + 3) lv rest H1 (k + u) (n + u6)) : aw E M Q pc lv st0 H k n := by
  subst hst hu hu6
  refine aw_run (rest := rest) (M' := M') (av := .ref b :: As) (rv := none) (P := P) (fun p e s m args below meth c locs ls C P0 L => ?_) (fun H1 _ h1 => kk H1 h1)
  have hts := C.2.2.2.2.2.1
  have hm := sp_met hs C.2.2.2.2.2.2.2.2.2.2.1 P0.2.1
  have hB := callB_aw hc.1 hR hn hl C
  rw [hr] at hm hB
  exact va_runI (H := H) (locs := locs) (meth := meth) (below := below) (e := e) (g := F0 m pc ls (As.reverse ++ .ref b :: rest)) (n := j) (Ts := uw_) (As := As) (b := b) (rest := rest) ⟨C.1, C.2.1, C.2.2.2.1, C.2.2.2.2.1, hts⟩ hm ⟨hB, hc.2.2, hts _ hc.2.1⟩ (pre_aw C (av := .ref b :: As)) rfl hj L.1 rfl (lv_room hroom) hd ⟨hkk, hnn⟩
theorem aw_nul (hd : decode M.2.1 pc = .ok (.aconst_null, 1)) (kk : aw E M Q (pc + 1) lv (.null :: rest) H k n) : aw E M Q pc lv rest H k n :=
  fun p e s m args below meth c locs ls C P L => lv_null C.1 C.2.1 hd (kk p e s m args below meth c locs ls C P L)
theorem aw_dx1 {a b : Value} (hd : decode M.2.1 pc = .ok (.dup_x1, 1)) (ha : a.category = 1) (hb : b.category = 1) (kk : aw E M Q (pc + 1) lv (a :: b :: a :: rest) H k n) : aw E M Q pc lv (a :: b :: rest) H k n :=
  fun p e s m args below meth c locs ls C P L => lv_dup_x1 C.1 C.2.1 hd ha hb (kk p e s m args below meth c locs ls C P L)
theorem aw_idv {x y : Int32} (hne : ¬ y = 0) (hd : decode M.2.1 pc = .ok (.idiv, 1)) (kk : aw E M Q (pc + 1) lv (.int (x / y) :: rest) H k n) : aw E M Q pc lv (.int y :: .int x :: rest) H k n :=
  fun p e s m args below meth c locs ls C P L => lv_idiv C.1 C.2.1 hd hne (kk p e s m args below meth c locs ls C P L)
theorem aw_areta {x : Nat} {ty : FieldType} (hr : M.2.2.2.1 = some (.array ty)) (hk : k ≤ (mt_R M).cells) (hn : n ≤ (mt_R M).slots) (hd : decode M.2.1 pc = .ok (.areturn, 1)) (hq : Q (.inl (some (.ref x))) H) : aw E M Q pc lv [.ref x] H k n := by
  intro p e s m args below meth c locs ls C P L
  refine W.widen hk hn (vx_ret ?_)
  exact W.aret C.1 C.2.1 (C.2.2.1.trans hr) (Or.inr ⟨_, rfl⟩) (Or.inr ⟨_, rfl⟩) (fun t ht hW => aw_fin P hq ht) P.2.2 hd C.2.2.2.2.2.2.1
/-- bytes of a row copied into another one, from the starts -/
theorem aw_cpx {v d idx m c0 N : Nat} {f g : Nat → Int32} (hw : al_ M.1.cls idx) (hv : at_ E H v (.inl (E.2.1 1, N, .inl f))) (hcN : c0 ≤ N) (hfit : ∀ j, j < c0 → fits .byte (.int (f j)) = true) (hA : at_ E H d (.inl (E.2.1 1, m, .inl g))) (hfr : ev_fr E d) (h5 : c0 ≤ m) (hm : m < 2147483648) (hframes : Nat.ble 1 (mt_R M).frames = true) (hlocals : (rest.map fun v => v.category).sum + (nativeFrameWords "java/lang/System" "arraycopy" 5 + 11) ≤ (mt_R M).locals) (hd : decode M.2.1 pc = .ok (.invokestatic idx, 3))
    (kk : ∀ H1 : Heap, at_ E H1 d (.inl (E.2.1 1, m, .inl (va_cpy f g 0 0 c0))) → sm1 H H1 d → aw E M Q (pc + 3) lv rest H1 k n) : aw E M Q pc lv (.int (nI c0) :: .int 0 :: .ref d :: .int 0 :: .ref v :: rest) H k n := by
  intro p e s m0 args below meth c locs ls C P0 L0 T hT X
  obtain ⟨c1, c2, c3, c4, c5, c6, c7, c8, c9, c10, c11, c12⟩ := id C
  have ht := C.2.2.2.2.2.1
  have hc0 : H[v]? = some (vp_cell (E.2.1 1) (N, .inl f)) := hv
  have hc1 : H[d]? = some (vp_cell (E.2.1 1) (m, .inl g)) := hA
  obtain ⟨hs6, k0, hk0, cm0, hkk0⟩ := ((cx_K C).2 1 _ rfl).1 N (fun j => .int (f j))
  obtain ⟨-, k1, hk1, cm1, hkk1⟩ := ((cx_K C).2 1 _ rfl).1 m (fun j => .int (g j))
  have zl : (nI c0).toInt = (c0 : Int) := nI_toInt (by omega)
  have z0 : (0 : Int32).toInt = 0 := by decide
  have cl : (nI c0).toNatClampNeg = c0 := nI_clamp (by omega)
  have cz : (0 : Int32).toNatClampNeg = 0 := by decide
  obtain ⟨vm', X', step⟩ := X.arraycopy c1 c5 (ht _ hw.1) (ht _ hw.2.1) (ht _ hw.2.2.1) (ht _ hw.2.2.2) (src := v) (dst := d) (cs := vp_cell (E.2.1 1) (N, .inl f)) (cd := vp_cell (E.2.1 1) (m, .inl g)) (srcPos := 0) (destPos := 0) (n := nI c0) (by rw [hT]; exact hc0) (by rw [hT]; exact hc1)
    (fun _ h => by cases h) (fun _ h => by cases h) (fun h => by cases h) (fun h => by cases h) hk0 hk1 hkk0 hkk1 (by simp [refKind]) (by decide) (by decide) (nI_pos (by omega))
    (by rw [z0, zl]; show ¬ _ > ((arrV _ N (fun j => .int (f j))).slots.size : Int); rw [arrV_size]; omega)
    (by rw [z0, zl]; show ¬ _ > ((arrV _ m (fun j => .int (g j))).slots.size : Int); rw [arrV_size]; omega)
    (fun vm₁ _ i hi => by
      rw [cl] at hi
      have e : (vp_cell (E.2.1 1) (N, .inl f)).slots.getD ((0 : Int32).toNatClampNeg + i) .null = .int (f i) := by
        show (arrV _ N (fun j => .int (f j))).slots.getD _ _ = _
        rw [cz, Nat.zero_add, Array.getD_eq_getD_getElem?, arrV_read _ _ (by omega)]
        rfl
      refine ⟨?_, ?_⟩
      · rw [e]
        exact hfit i hi
      · rw [e]
        exact trivial)
    (g := F0 m0 pc ls (.int (nI c0) :: .int 0 :: .ref d :: .int 0 :: .ref v :: rest)) rfl (by rw [C.2.2.2.1, ← L0.1]) (rest := rest) rfl (by rw [C.2.1]; exact hd) (Nat.le_of_ble_eq_true hframes) (by show 2 * 0 + _ + _ ≤ _; omega)
  have e1 : copied (vp_cell (E.2.1 1) (N, .inl f)) (vp_cell (E.2.1 1) (m, .inl g)) 0 0 (nI c0) = vp_cell (E.2.1 1) (m, .inl (va_cpy f g 0 0 c0)) := by
    have e2 : copied (vp_cell (E.2.1 1) (N, .inl f)) (vp_cell (E.2.1 1) (m, .inl g)) 0 0 (nI c0) = vp_cell (E.2.1 1) (m, .inl (va_cpy f g (0 : Int32).toNatClampNeg (0 : Int32).toNatClampNeg (nI c0).toNatClampNeg)) := va_copied (fun z => .int z) (E.2.1 1) (E.2.1 1) f g (n0 := N) (by rw [cz, cl]; omega)
    rw [cz, cl] at e2
    exact e2
  rw [e1] at X' step
  have hl : d < H.size := (Array.getElem?_eq_some_iff.mp hc1).1
  have hheap : ((T.setVm vm').setCell d (vp_cell (E.2.1 1) (m, .inl (va_cpy f g 0 0 c0)))).heap = H.setIfInBounds d (vp_cell (E.2.1 1) (m, .inl (va_cpy f g 0 0 c0))) := by rw [← hT]; rfl
  have oq : ∀ q : Nat, q ≠ d → (H.setIfInBounds d (vp_cell (E.2.1 1) (m, .inl (va_cpy f g 0 0 c0))))[q]? = H[q]? := fun q hq => by simp [Array.getElem?_setIfInBounds, Ne.symm hq]
  have hsm : sm1 H (H.setIfInBounds d (vp_cell (E.2.1 1) (m, .inl (va_cpy f g 0 0 c0)))) d := ⟨by simp, oq⟩
  have hP1 : ∀ Lx : List Loc, (∀ z ∈ Lx, z.base = d) → hp_ E s (H.setIfInBounds d (vp_cell (E.2.1 1) (m, .inl (va_cpy f g 0 0 c0)))) (locs ++ Lx) := by
    intro Lx hLx
    refine ⟨by rw [hsm.1]; exact P0.1, ⟨by rw [hsm.1]; exact P0.2.1.1, fun q hq => ?_⟩, fun z hz => ?_⟩
    · rw [oq q (fun e => by subst e; exact absurd hfr (Nat.not_le.mpr hq))]
      exact P0.2.1.2 q hq
    · rcases List.mem_append.mp hz with h | h
      · exact P0.2.2 z h
      · rw [hLx z h]
        exact hfr
  obtain ⟨t, a1, b1⟩ := kk _ (show (H.setIfInBounds d _)[d]? = some _ by simp [Array.getElem?_setIfInBounds, hl]) hsm p e s m0 args below meth c _ ls C (hP1 _ (fun z hz => by obtain ⟨z', -, hz'⟩ := List.mem_map.mp hz; rw [← hz'])) L0 _ hheap X'
  exact ⟨t, step t a1, b1⟩
/-- a new row of bytes -/
theorem aw_nab {N : Nat} (hN : N < 100000) (hk : k + 1 ≤ (mt_R M).cells) (hn : n + N ≤ (mt_R M).slots) (hd : decode M.2.1 pc = .ok (.newarray .byte, 2)) (kk : ∀ H1 : Heap, H1.size = H.size + 1 → (∀ q : Nat, q < H.size → H1[q]? = H[q]?) → at_ E H1 H.size (.inl (E.2.1 1, N, .inl (fun _ => 0))) → aw E M Q (pc + 2) lv (.ref H.size :: rest) H1 (k + 1) (n + N)) : aw E M Q pc lv (.int (nI N) :: rest) H k n := by
  refine aw_na (H0 := H) (a := H.size) (es := []) (atype := .byte) (ty := .byte) (t := 1) (N := N) (x := H.size) (z := .inl (fun _ => 0)) (es' := [.inl (E.2.1 1, N, .inl (fun _ => 0))]) (nwl_.rf rfl) rfl rfl (fun _ _ h => h) acw_byte (fun c => rfl) (nI_pos (by omega)) (ix_n (by omega)) (by show N * 1 ≤ _; omega) rfl rfl hk hn hd (fun H1 h => ?_)
  exact kk H1 h.1 h.2.1 (h.2.2 0 _ rfl)
end BC
