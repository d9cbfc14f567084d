/-! rows of 'aw': calls of own methods (returning or throwing), Math, throws -/
section AC
variable {E : ev_} {M : mt_} {Q : po_} {pc : Nat} {lv : List (Nat × Value)} {rest : List Value} {H : Heap} {k n : Nat} {a : Nat}
theorem uw_ws {y : MethodName} {cc : ByteArray} {nL : Nat} {ret : Option FieldType} (hc : Cond.code y cc nL ret ∈ uw_) : GoodIn uw_ (.code y cc nL ret :: uw_) := fun w hw => by
  rcases List.mem_cons.mp hw with e | h
  · rw [e]; exact ⟨hc, uw_good _ hc⟩
  · exact ⟨h, uw_good _ h⟩
/-- a method that can be called: its words -/
def cok_ (M' : mt_) : Prop := Cond.code M'.1 M'.2.1 M'.2.2.1 M'.2.2.2.1 ∈ uw_ ∧ Cond.initialized M'.1.cls ∈ uw_ ∧ (M'.1.cls ≠ "java/lang/invoke/MethodHandle" ∧ M'.1.cls ≠ "java/lang/invoke/VarHandle")
def cokV_ (M' : mt_) : Prop := cok_ M' ∧ Cond.instanceMethod M'.1 ∈ uw_ ∧ Cond.selects M'.1.cls M'.1 M'.1 ∈ uw_
def cokS_ (M' : mt_) : Prop := cok_ M' ∧ Cond.static M'.1 ∈ uw_
def cokI_ (M' : mt_) : Prop := cok_ M' ∧ Cond.instanceMethod M'.1 ∈ uw_ ∧ M'.1.name = "<init>"
/-- the callee's room fits into ours -/
def rok_ (M M' : mt_) : Bool := Nat.ble ((mt_R M').frames + 1) (mt_R M).frames && Nat.ble (8 + (M'.2.2.1 + 11) + (mt_R M').locals) (mt_R M).locals
abbrev nok_ (M' : mt_) (j : Nat) : Prop := (parseMethodDescriptor M'.1.desc).map (fun d => d.parameters.length) = some j
theorem callB_aw {M' : mt_} {idx j : Nat} (hc : cok_ M') (hR : rok_ M M' = true) (hn : nok_ M' j) (hl : Cond.methodLink M.1.cls idx M'.1 ∈ uw_) {p : Program} {s : State} {m : MethodId} {args : Array Value} {meth : Method} {c : Code} (C : cx_ E M p s m args meth c) :
    CallB (mt_R M) s args M.1.cls idx M'.1 M'.2.1 M'.2.2.1 M'.2.2.2.1 (.code M'.1 M'.2.1 M'.2.2.1 M'.2.2.2.1 :: uw_) (mt_R M') (mt_R M').cells (mt_R M').slots j := by
  have hts := C.2.2.2.2.2.1
  unfold rok_ at hR
  rw [Bool.and_eq_true] at hR
  exact callB_of j hts (uw_ws hc.1) rfl rfl rfl (hts _ hc.2.1) (hts _ hl) ⟨hc.2.2.1, hc.2.2.2, hn⟩ ⟨Nat.le_of_ble_eq_true hR.1, Nat.le_of_ble_eq_true hR.2⟩
theorem pre_aw {p : Program} {s : State} {m : MethodId} {args : Array Value} {meth : Method} {c : Code} (C : cx_ E M p s m args meth c) {av : List Value} : FrameBlind (fun v U => v = av.toArray ∧ (ev_s E).WarmedH U.vm ∧ U.heap = H) ∧ ∀ U : State, U.heap = H → s.WarmedH U.vm → (fun (v : Array Value) (U : State) => v = av.toArray ∧ (ev_s E).WarmedH U.vm ∧ U.heap = H) av.toArray U :=
  ⟨fun a U g mk q => q, fun U hU hW => ⟨rfl, State.WarmedH.trans C.2.2.2.2.2.2.2.2.1 hW, hU⟩⟩
theorem hp_.call {s : State} {locs L : List Loc} {H1 : Heap} (P : hp_ E s H locs) (h1 : H.size ≤ H1.size) (h2 : ev_base E H1) (h3 : ∀ z ∈ L, ev_fr E z.base) : hp_ E s H1 (locs ++ L) :=
  ⟨Nat.le_trans P.1 h1, h2, fun z hz => (List.mem_append.mp hz).elim (P.2.2 z) (h3 z)⟩
/-- behind a call: it goes on, or the throw leaves this method too -/
theorem run_aw {M' : mt_} {Q' : po_} {av : List Value} {st0 : List Value} (htab : M.2.2.2.2.1 = []) {p : Program} {e : Env} {s : State} {m : MethodId} {args : Array Value} {below : List Frame} {meth : Method} {c : Code} {locs : List Loc} {ls : Array Slot}
    (C : cx_ E M p s m args meth c) (P : hp_ E s H locs) (L : lv_has ls M.2.2.1 lv) (hkk : k + (mt_R M').cells ≤ (mt_R M).cells) (hnn : n + (mt_R M').slots ≤ (mt_R M).slots)
    (hr : vx_Run p (ev_l E) e (mt_R M) s m args below meth c H locs k n (mt_R M').cells (mt_R M').slots (F0 m pc ls st0) rest (aw_Q E Q' av.toArray) (aw_X E Q') (ev_fr E))
    (kk : ∀ (r : Option Value) (H1 : Heap), H.size ≤ H1.size → Q' (.inl r) H1 → aw E M Q (pc + 3) lv (r.toList ++ rest) H1 (k + (mt_R M').cells) (n + (mt_R M').slots)) (kx : ∀ (X : String) (H1 : Heap), H.size ≤ H1.size → Q' (.inr X) H1 → Q (.inr X) H1) :
    W p (ev_l E) e (mt_R M) s m args below meth c H locs k n (vx_MQ below (aw_Q E Q) (aw_X E Q) args s (mt_R M).cells (mt_R M).slots (ev_fr E)) (F0 m pc ls st0) := by
  intro T hT X
  rcases hr T hT X with ⟨v, st₀, t, T', L9, h0, X', hL, e1, e2, ⟨r, er, hq, hz, hb⟩, st⟩ | ⟨q, st₀, t, T', L9, E9, ce, h0, X', hL, e1, e2, ⟨hq, hz, hb⟩, hc9, hv9, hcl9, st⟩
  · cases er
    rw [← e1] at hq hb hz
    rw [h0] at hz
    obtain ⟨t2, a1, b1⟩ := kk v T'.heap hz hq p e s m args below meth c (locs ++ L9) ls C (P.call hz hb hL) L T' rfl X'
    exact ⟨t2, st t2 a1, b1⟩
  · rw [← e1] at hq hb hz
    rw [h0] at hz
    have hP1 := P.call hz hb hL
    have hx := vx_out (p := p) (l := ev_l E) (e := e) (R := mt_R M) (s := s) (m := m) (args := args) (below := below) (meth := meth) (c := c) (H := T'.heap) (locs := locs ++ L9) (cells := k + (mt_R M').cells) (slots := n + (mt_R M').slots) (ls := ls) (rest := rest) (pc := pc) (Qc := aw_Q E Q) (XC := aw_X E Q) (free := ev_fr E) (E := E9) (ce := ce) (q := q) (mc := (mt_R M).cells) (ms := (mt_R M).slots)
      (by rw [C.2.2.2.2.2.2.2.1, htab]; exact fun x hx => absurd hx List.not_mem_nil) C.2.2.2.2.2.2.1 (by rw [e1]; exact hc9) hv9 hcl9 (fun t9 ht9 _ => ⟨by rw [ht9]; exact kx E9 _ hz hq, by rw [ht9]; exact hP1.1, by rw [ht9]; exact hP1.2.1⟩) hP1.2.2 hkk hnn
    obtain ⟨t2, a1, b1⟩ := hx T' rfl X'
    exact ⟨t2, st.trans a1, b1⟩
theorem recv_aw {p : Program} {s : State} {m : MethodId} {args : Array Value} {meth : Method} {c : Code} (C : cx_ E M p s m args meth c) {ci : Nat} {fs : List Value} {C0 : String} {T : u_T} {N : Nat} (hA : at_ E H a (.inr (ci, fs))) (hc : vwCl[ci]? = some (C0, T, N)) : ∃ cellB : Cell, H[a]? = some cellB ∧ cellB.vm.isStatics = false ∧ s.vm.findClass C0 = some cellB.cls := by
  obtain ⟨r, hr1, cell, q1, q2, q3, q4⟩ := hA
  have hr : r = (C0, T, N) := Option.some.inj (hr1.symm.trans hc)
  subst hr
  obtain ⟨hS, hfc, kC, hkC, hkind⟩ := (cx_K C).1 ci _ hc
  exact ⟨cell, q1, by rw [q3]; rfl, by rw [q2]; exact hfc⟩
theorem aw_callV {M' : mt_} {Q' : po_} {As : List Value} {idx ci j : Nat} {fs : List Value} {st0 : List Value} (hs : sp_ E M' (.ref a :: As) H Q') (hst : st0 = As.reverse ++ .ref a :: rest) (hc : cokV_ M') (hl : Cond.methodLink M.1.cls idx M'.1 ∈ uw_) (hA : at_ E H a (.inr (ci, fs))) (hci : ∃ T N, vwCl[ci]? = some (M'.1.cls, T, N)) (hn : nok_ M' j) (hj : As.length = j) (hR : rok_ M M' = true) (htab : M.2.2.2.2.1 = []) (hroom : (rest.map fun v => v.category).sum ≤ 8) (hkk : k + (mt_R M').cells ≤ (mt_R M).cells) (hnn : n + (mt_R M').slots ≤ (mt_R M).slots) (hd : decode M.2.1 pc = .ok (.invokevirtual idx, 3))
    (kk : ∀ (r : Option Value) (H1 : Heap), H.size ≤ H1.size → Q' (.inl r) H1 → aw E M Q (pc + 3) lv (r.toList ++ rest) H1 (k + (mt_R M').cells) (n + (mt_R M').slots)) (kx : ∀ (X : String) (H1 : Heap), H.size ≤ H1.size → Q' (.inr X) H1 → Q (.inr X) H1) : aw E M Q pc lv st0 H k n := by
  intro p e s m args below meth c locs ls C P L
  obtain ⟨T, N, hci⟩ := hci
  subst hst
  have hts := C.2.2.2.2.2.1
  refine run_aw (M' := M') (Q' := Q') (av := .ref a :: As) htab C P L hkk hnn ?_ kk kx
  exact vx_runV (C := M'.1.cls) (n := j) (Ts := uw_) ⟨C.1, C.2.1, C.2.2.2.1, C.2.2.2.2.1, hts⟩ (hs C.2.2.2.2.2.2.2.2.2.2.1 P.2.1) ⟨callB_aw hc.1 hR hn hl C, hts _ hc.2.1, hts _ hc.2.2⟩ ⟨(pre_aw C (av := .ref a :: As)).1, recv_aw C hA hci, (pre_aw C (av := .ref a :: As)).2⟩ rfl hj L.1 rfl (lv_room hroom) hd ⟨hkk, hnn⟩
theorem aw_callS {M' : mt_} {Q' : po_} {As : List Value} {idx j : Nat} {st0 : List Value} (hs : sp_ E M' As H Q') (hst : st0 = As.reverse ++ rest) (hc : cokS_ M') (hl : Cond.methodLink M.1.cls idx M'.1 ∈ uw_) (hn : nok_ M' j) (hj : As.length = j) (hR : rok_ M M' = true) (htab : M.2.2.2.2.1 = []) (hroom : (rest.map fun v => v.category).sum ≤ 8) (hkk : k + (mt_R M').cells ≤ (mt_R M).cells) (hnn : n + (mt_R M').slots ≤ (mt_R M).slots) (hd : decode M.2.1 pc = .ok (.invokestatic idx, 3))
    (kk : ∀ (r : Option Value) (H1 : Heap), H.size ≤ H1.size → Q' (.inl r) H1 → aw E M Q (pc + 3) lv (r.toList ++ rest) H1 (k + (mt_R M').cells) (n + (mt_R M').slots)) (kx : ∀ (X : String) (H1 : Heap), H.size ≤ H1.size → Q' (.inr X) H1 → Q (.inr X) H1) : aw E M Q pc lv st0 H k n := by
  intro p e s m args below meth c locs ls C P L
  subst hst
  have hts := C.2.2.2.2.2.1
  refine run_aw (M' := M') (Q' := Q') (av := As) htab C P L hkk hnn ?_ kk kx
  exact vx_runS (n := j) (Ts := uw_) ⟨C.1, C.2.1, C.2.2.2.1, C.2.2.2.2.1, hts⟩ (hs C.2.2.2.2.2.2.2.2.2.2.1 P.2.1) ⟨callB_aw hc.1 hR hn hl C, hts _ hc.2⟩ (pre_aw C) rfl hj L.1 rfl (lv_room hroom) hd ⟨hkk, hnn⟩
theorem aw_mmax {x y : Int32} {idx : Nat} (hw : [Cond.methodLink M.1.cls idx Lib.Math.max.name, Cond.static Lib.Math.max.name, Cond.initialized "java/lang/Math", Cond.code Lib.Math.max.name Lib.Math.max.code 2 (some .int)].all (fun w => decide (w ∈ uw_)) = true) (hf : Nat.ble 1 (mt_R M).frames = true) (hlo : (rest.map fun v => v.category).sum + 13 ≤ (mt_R M).locals) (hk : k ≤ (mt_R M).cells) (hn : n ≤ (mt_R M).slots) (hd : decode M.2.1 pc = .ok (.invokestatic idx, 3)) (kk : aw E M Q (pc + 3) lv (.int (if x < y then y else x) :: rest) H k n) : aw E M Q pc lv (.int y :: .int x :: rest) H k n := by
  intro p e s m args below meth c locs ls C P L
  have hts : ∀ w ∈ _, w ∈ uw_ := fun w h => of_decide_eq_true (List.all_eq_true.mp hw w h)
  have ht := C.2.2.2.2.2.1
  exact va_mmax C.1 C.2.1 (C.2.2.2.1.trans L.1.symm) C.2.2.2.2.1 (ht _ (hts _ List.mem_cons_self)) (ht _ (hts _ (List.mem_cons_of_mem _ List.mem_cons_self))) (ht _ (hts _ (List.mem_cons_of_mem _ (List.mem_cons_of_mem _ List.mem_cons_self)))) (ht _ (hts _ (List.mem_cons_of_mem _ (List.mem_cons_of_mem _ (List.mem_cons_of_mem _ List.mem_cons_self))))) (Nat.le_of_ble_eq_true hf) hlo hk hn hd (kk p e s m args below meth c locs ls C P L)
theorem aw_mmin {x y : Int32} {idx : Nat} (hw : [Cond.methodLink M.1.cls idx Lib.Math.min.name, Cond.static Lib.Math.min.name, Cond.initialized "java/lang/Math", Cond.code Lib.Math.min.name Lib.Math.min.code 2 (some .int)].all (fun w => decide (w ∈ uw_)) = true) (hf : Nat.ble 1 (mt_R M).frames = true) (hlo : (rest.map fun v => v.category).sum + 13 ≤ (mt_R M).locals) (hk : k ≤ (mt_R M).cells) (hn : n ≤ (mt_R M).slots) (hd : decode M.2.1 pc = .ok (.invokestatic idx, 3)) (kk : aw E M Q (pc + 3) lv (.int (if y < x then y else x) :: rest) H k n) : aw E M Q pc lv (.int y :: .int x :: rest) H k n := by
  intro p e s m args below meth c locs ls C P L
  have hts : ∀ w ∈ _, w ∈ uw_ := fun w h => of_decide_eq_true (List.all_eq_true.mp hw w h)
  have ht := C.2.2.2.2.2.1
  exact va_mmin C.1 C.2.1 (C.2.2.2.1.trans L.1.symm) C.2.2.2.2.1 (ht _ (hts _ List.mem_cons_self)) (ht _ (hts _ (List.mem_cons_of_mem _ List.mem_cons_self))) (ht _ (hts _ (List.mem_cons_of_mem _ (List.mem_cons_of_mem _ List.mem_cons_self)))) (ht _ (hts _ (List.mem_cons_of_mem _ (List.mem_cons_of_mem _ (List.mem_cons_of_mem _ List.mem_cons_self))))) (Nat.le_of_ble_eq_true hf) hlo hk hn hd (kk p e s m args below meth c locs ls C P L)
end AC
