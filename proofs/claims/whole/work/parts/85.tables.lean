/-! rows of 'aw' for methods with a table: what they catch, and their calls -/
abbrev hh_ : Type := List (Nat × Nat × Nat × Nat)
def spW_ (E : ev_) (M : mt_) (hh : hh_) (av : List Value) (H : Heap) (Q : po_) : Prop := ev_ok E → ev_base E H →
  vx_Met (ev_l E) M.1 (.codeWith M.1 M.2.1 M.2.2.1 M.2.2.2.1 hh :: uw_) (mt_R M) (fun v U => v = av.toArray ∧ (ev_s E).WarmedH U.vm ∧ U.heap = H) (aw_Q E Q) (aw_X E Q) (mt_R M).cells (mt_R M).slots (ev_fr E)
theorem spW_of {E : ev_} {M : mt_} {hh : hh_} {av : List Value} {H : Heap} {Q : po_} (hy : plainName M.1.cls = true) (ht : M.2.2.2.2.1 = tableOf hh) (hn : Nat.ble (lg_sl av).length M.2.2.1 = true) (h : aw E M Q 0 (lv_args 0 av) [] H 0 0) : spW_ E M hh av H Q := by
  intro hok hbase
  refine vx_ofWH (cc := M.2.1) (maxL := M.2.2.1) (ret := M.2.2.2.1) (hh := hh) hy rfl ?_
  intro p e s m args below meth c s₁ B hml hv
  obtain ⟨rfl, hal, hH⟩ := hv
  have hts := atoms_spec (ws := .codeWith M.1 M.2.1 M.2.2.1 M.2.2.2.1 hh :: uw_) B.pre
  have htab : c.exceptionTable.toList = M.2.2.2.2.1 := by
    rw [ht]
    exact vx_table (x := M.1) B (hts _ List.mem_cons_self)
  have hl := lv_entry av (n := M.2.2.1) (Nat.le_of_ble_eq_true hn)
  rw [lg_entry_eq]
  have hC : cx_ E M p s m av.toArray meth c := ⟨B.exec, B.bytes, B.returns, hml, findClass_of_methodNamed B.named, fun w hw => hts w (List.mem_cons_of_mem _ hw), B.notSynchronized, htab, hal, by rw [hH]; exact hbase, hok, (name_of_methodNamed B.named B.method).1⟩
  have h1 := h p e s m av.toArray below meth c [] _ hC ⟨by rw [hH]; exact Nat.le_refl _, hbase, fun z hz => absurd hz List.not_mem_nil⟩ hl
  rw [← hH] at h1
  exact h1
theorem sp_.mono {E : ev_} {M : mt_} {av : List Value} {H : Heap} {Q Q' : po_} (h : sp_ E M av H Q) (hq : ∀ r H1, Q r H1 → Q' r H1) : sp_ E M av H Q' := fun h1 h2 =>
  MetFree.mono (h h1 h2) (fun _ _ h => h) (fun _ _ _ _ _ h => h) (fun a s o s' _ h3 => by
    rcases h3 with ⟨⟨v, e1, e2, e3⟩, h5⟩ | ⟨q, e1, X0, ce, L0, ⟨e2, e3⟩, h5⟩
    · exact Or.inl ⟨⟨v, e1, hq _ _ e2, e3⟩, h5⟩
    · exact Or.inr ⟨q, e1, X0, ce, L0, ⟨hq _ _ e2, e3⟩, h5⟩)
/-- where a throw of the class X at pc is caught -/
def hnd_ (E : ev_) (M : mt_) (pc : Nat) (X : String) (hpc : Nat) : Prop := ∃ (pre : List ExceptionTableEntry) (x : ExceptionTableEntry) (suf : List ExceptionTableEntry) (nm : String), M.2.2.2.2.1 = pre ++ x :: suf ∧ (∀ z ∈ pre, covers z pc = false ∨ (z.catchType ≠ 0 ∧ ∃ n2 : String, Cond.classLink M.1.cls z.catchType n2 ∈ uw_ ∧ va_Nc X n2 (ev_s E))) ∧ covers x pc = true ∧ x.catchType ≠ 0 ∧ Cond.classLink M.1.cls x.catchType nm ∈ uw_ ∧ Cond.castable X nm ∈ lw_tbl ∧ x.handlerPc = hpc
section TB
variable {E : ev_} {M : mt_} {Q : po_} {pc : Nat} {lv : List (Nat × Value)} {rest : List Value} {H : Heap} {k n : Nat} {a : Nat}
/-- a call whose throw is caught here -/
theorem aw_cc {L : ly_} {s : st_} {M' : mt_} {α : Type} {f : α → Option Value} {v : α ⊕ Nat} {P : Heap → Prop} {As : List Value} {idx ci j u u6 : Nat} {fs : List Value} {st0 : List Value} (hs : sp_ E M' (.ref a :: As) H (po1 (thr_ f v) P)) (hst : st0 = As.reverse ++ .ref a :: rest) (hc : cokV_ M') (hl : Cond.methodLink M.1.cls idx M'.1 ∈ uw_) (hA : at_ E H a (.inr (ci, fs))) (hci : ∃ T N, vwCl[ci]? = some (M'.1.cls, T, N)) (hn : nok_ M' j) (hj : As.length = j) (hR : rok_ M M' = true) (hu : (mt_R M').cells = u) (hu6 : (mt_R M').slots = u6) (hroom : (rest.map fun v => v.category).sum ≤ 8) (hkk : k + u ≤ (mt_R M).cells) (hnn : n + u6 ≤ (mt_R M).slots) (hd : decode M.2.1 pc = .ok (.invokevirtual idx, 3))
    (kk : ∀ (x : α) (H1 : Heap), v = .inl x → P H1 → aw E M Q (pc + 3) lv ((f x).toList ++ rest) H1 (k + u) (n + u6)) (kx : ∀ (x : Nat) (H1 : Heap), v = .inr x → P H1 → ∃ hpc, hnd_ E M pc (xn_ x) hpc ∧ ∀ q : Nat, aw E M Q hpc lv [.ref q] H1 (k + u) (n + u6)) : aw E M Q pc lv st0 H k n := by
  intro p e s m args below meth c locs ls C P0 L0
  subst hu hu6 hst
  obtain ⟨T0, N0, hci⟩ := hci
  have hts := C.2.2.2.2.2.1
  have hr : vx_Run p (ev_l E) e (mt_R M) s m args below meth c H locs k n (mt_R M').cells (mt_R M').slots (F0 m pc ls (As.reverse ++ .ref a :: rest)) rest (aw_Q E (po1 (thr_ f v) P) (Value.ref a :: As).toArray) (aw_X E (po1 (thr_ f v) P)) (ev_fr E) :=
    vx_runV (C := M'.1.cls) (n := j) (Ts := uw_) ⟨C.1, C.2.1, C.2.2.2.1, C.2.2.2.2.1, hts⟩ (hs C.2.2.2.2.2.2.2.2.2.2.1 P0.2.1) ⟨callB_aw hc.1 hR hn hl C, hts _ hc.2.1, hts _ hc.2.2⟩ ⟨(pre_aw C (av := .ref a :: As)).1, recv_aw C hA hci, (pre_aw C (av := .ref a :: As)).2⟩ rfl hj L0.1 rfl (lv_room hroom) hd ⟨hkk, hnn⟩
  intro T hT X
  rcases hr T hT X with ⟨v9, st₀, t, T', L9, h0, X', hL, e1, e2, ⟨r, er, hq, hz, hb⟩, st⟩ | ⟨q, st₀, t, T', L9, E9, ce, h0, X', hL, e1, e2, ⟨hq, hz, hb⟩, hc9, hv9, hcl9, st⟩
  · cases er
    rw [← e1] at hq hb hz
    rw [h0] at hz
    cases v with
    | inl x =>
      have e := Sum.inl.inj hq.1
      subst e
      obtain ⟨t2, a1, b1⟩ := kk x T'.heap rfl hq.2 p e s m args below meth c (locs ++ L9) ls C (P0.call hz hb hL) L0 T' rfl X'
      exact ⟨t2, st t2 a1, b1⟩
    | inr x => cases hq.1
  · rw [← e1] at hq hb hz
    rw [h0] at hz
    cases v with
    | inl x => cases hq.1
    | inr x =>
      have e := Sum.inr.inj hq.1
      subst e
      obtain ⟨hpc, ⟨pre, y, suf, nm, g1, g2, g3, g4, g5, g6, rfl⟩, kq⟩ := kx x T'.heap rfl hq.2
      have hcd : (Cond.castable (xn_ x) nm).before args s = true := cd_at C.2.2.2.2.2.2.2.2.1 rfl (C.2.2.2.2.2.2.2.2.2.2.1.2.2.1 _ g6 rfl)
      have hx := vx_catch (p := p) (l := ev_l E) (e := e) (R := mt_R M) (s := s) (m := m) (args := args) (below := below) (meth := meth) (c := c) (H := T'.heap) (locs := locs ++ L9) (cells := k + (mt_R M').cells) (slots := n + (mt_R M').slots) (Q := vx_MQ below (aw_Q E Q) (aw_X E Q) args s (mt_R M).cells (mt_R M).slots (ev_fr E)) (pc := pc) (ls := ls) (rest := rest) (ce := ce) (q := q) C.2.2.2.2.1 pre y suf (C.2.2.2.2.2.2.2.1.trans g1) (fun z hz => (g2 z hz).imp id (fun ⟨w1, n2, w2, w3⟩ => ⟨w1, n2, hts _ w2, va_Nc.moved C.2.2.2.2.2.2.2.2.1.alike w3⟩)) g3 g4 (hts _ g5) hcd (by rw [e1]; exact hc9) hv9 hcl9 (kq q p e s m args below meth c (locs ++ L9) ls C (P0.call hz hb hL) L0)
      obtain ⟨t2, a1, b1⟩ := hx T' rfl X'
      exact ⟨t2, st.trans a1, b1⟩
/-- a static call of a method with a table, that returns -/
theorem aw_csw {M' : mt_} {hh : hh_} {Q' : po_} {As : List Value} {idx j u u6 : Nat} {st0 : List Value} (hs : spW_ E M' hh As H Q') (hst : st0 = As.reverse ++ rest) (hc : Cond.codeWith M'.1 M'.2.1 M'.2.2.1 M'.2.2.2.1 hh ∈ uw_) (hi : Cond.initialized M'.1.cls ∈ uw_) (hy : M'.1.cls ≠ "java/lang/invoke/MethodHandle" ∧ M'.1.cls ≠ "java/lang/invoke/VarHandle") (hstt : Cond.static M'.1 ∈ uw_) (hl : Cond.methodLink M.1.cls idx M'.1 ∈ uw_) (hn : nok_ M' j) (hj : As.length = j) (hR : rok_ M M' = true) (htab : M.2.2.2.2.1 = []) (hu : (mt_R M').cells = u) (hu6 : (mt_R M').slots = u6) (hroom : (rest.map fun v => v.category).sum ≤ 8) (hkk : k + u ≤ (mt_R M).cells) (hnn : n + u6 ≤ (mt_R M).slots) (hd : decode M.2.1 pc = .ok (.invokestatic idx, 3)) (hx : ∀ X H1, ¬ Q' (.inr X) H1)
    (kk : ∀ (r : Option Value) (H1 : Heap), H.size ≤ H1.size → Q' (.inl r) H1 → aw E M Q (pc + 3) lv (r.toList ++ rest) H1 (k + u) (n + u6)) : aw E M Q pc lv st0 H k n := by
  intro p e s m args below meth c locs ls C P L
  subst hst hu hu6
  have hts := C.2.2.2.2.2.1
  refine run_aw (M' := M') (Q' := Q') (av := As) htab C P L hkk hnn ?_ kk (fun X H1 _ h => absurd h (hx X H1))
  unfold rok_ at hR
  rw [Bool.and_eq_true] at hR
  have hG : GoodIn uw_ (va_wsS M.1.cls idx M'.1 (.codeWith M'.1 M'.2.1 M'.2.2.1 M'.2.2.2.1 hh :: uw_)) := fun w hw => by
    unfold va_wsS at hw
    rcases List.mem_append.mp hw with h | h
    · simp only [List.mem_cons, List.not_mem_nil, or_false] at h
      rcases h with h | h | h <;> subst h
      · exact ⟨hl, uw_good _ hl⟩
      · exact ⟨hstt, uw_good _ hstt⟩
      · exact ⟨hi, uw_good _ hi⟩
    · rcases List.mem_cons.mp h with h | h
      · rw [h]; exact ⟨hc, uw_good _ hc⟩
      · exact ⟨h, uw_good _ h⟩
  exact vx_runSX (n := j) (Ts := uw_) ⟨C.1, C.2.1, C.2.2.2.1, C.2.2.2.2.1, hts⟩ (hs C.2.2.2.2.2.2.2.2.2.2.1 P.2.1) (vx_cwSW j hts hG rfl rfl rfl ⟨hy.1, hy.2, hn⟩ ⟨Nat.le_of_ble_eq_true hR.1, Nat.le_of_ble_eq_true hR.2⟩) (pre_aw C) rfl hj L.1 rfl (lv_room hroom) hd ⟨hkk, hnn⟩
end TB
/-- what a wrapper of the law leaves: 0 and the answer in its array, or the throw's number -/
def wq_ {α : Type} (E : ev_) (o : Nat) (cd : Nat → Int32) (out : α → va_E → Prop) (v : α ⊕ Nat) (P : Heap → Prop) : po_ := fun r Hn => match v with
  | .inl y => r = .inl (some (.int 0)) ∧ ∃ H1 e, P H1 ∧ at_ E Hn o e ∧ out y e ∧ sm1 H1 Hn o
  | .inr c => r = .inl (some (.int (cd c))) ∧ P Hn
/-- an array of one long, or of one double -/
def lo_ (E : ev_) (z : Int64) (e : va_E) : Prop := ∃ f : Nat → Int64, e = .inl (E.2.1 3, 1, .inr (.inl f)) ∧ f 0 = z
def do_ (E : ev_) (z : UInt64) (e : va_E) : Prop := ∃ f : Nat → UInt64, e = .inl (E.2.1 4, 1, .inr (.inr (.inr (.inl f)))) ∧ f 0 = z
theorem wq_r {α : Type} {E : ev_} {o : Nat} {cd : Nat → Int32} {out : α → va_E → Prop} {v : α ⊕ Nat} {P : Heap → Prop} : ∀ X H1, ¬ wq_ E o cd out v P (.inr X) H1 := fun X H1 h => by
  unfold wq_ at h
  split at h
  · cases h.1
  · cases h.1
theorem xn_s {c : Nat} (h : c ≠ 0) : xn_ c = "java/lang/IllegalArgumentException" := by
  cases c with
  | zero => exact absurd rfl h
  | succ c => rfl
theorem clkL_13 : Cond.classLink RL 13 "java/lang/IllegalArgumentException" ∈ uw_ := uw_mem 917 (by decide +kernel) (by decide +kernel)
theorem clkL_19 : Cond.classLink RL 19 "java/lang/IndexOutOfBoundsException" ∈ uw_ := uw_mem 991 (by decide +kernel) (by decide +kernel)
theorem csA : Cond.castable "java/lang/IllegalArgumentException" "java/lang/IllegalArgumentException" ∈ lw_tbl := List.mem_of_getElem? (i := 924) (by decide +kernel)
theorem csI : Cond.castable "java/lang/IndexOutOfBoundsException" "java/lang/IndexOutOfBoundsException" ∈ lw_tbl := List.mem_of_getElem? (i := 1003) (by decide +kernel)
