/-! what is made anew lies behind one another; rows of 'aw' for what allocates -/
/-- more that the law's start gives: the arrays' classes by their components; the tables of digits -/
def dgt_ (E : ev_) (n0 : String) (f : Nat → Int32) : Prop := ∃ t : Nat, va_Z "java/lang/Integer" n0 "[B" (.ref t) (ev_fr E) (ev_s E) (ev_s E).heap ∧ va_T .byte t 100 (fun j => .int (f j)) (ev_fr E) (ev_s E) (ev_s E).heap
def exo_ (E : ev_) : Prop := va_AO "ArmDuel$Arm" (ev_s E) ∧ va_AO "ArmDuel$Game" (ev_s E) ∧ (Cond.arrayOver (.array .int)).before #[] (ev_s E) = true ∧ va_AO "java/lang/String" (ev_s E) ∧ dgt_ E "DigitOnes" (fun j => nI (48 + j % 10)) ∧ dgt_ E "DigitTens" (fun j => nI (48 + j / 10))
/-- from the cell a on lie these things, and nothing behind them; below a all is as in H0 -/
def nwl_ (E : ev_) (H0 H : Heap) (a : Nat) (es : List va_E) : Prop := H.size = a + es.length ∧ (∀ q : Nat, q < a → H[q]? = H0[q]?) ∧ ∀ (i : Nat) (e : va_E), es[i]? = some e → at_ E H (a + i) e
def lc_ (E : ev_) (a : Nat) (L : ly_) : List va_E := L.map (fun f => f E a (fun _ => 0))
def zs_ : st_ := fun _ _ => 0
/-- a class whose objects can be made: what a new one holds -/
def nwk_ (own : String) (idx ci N : Nat) (fs : List Value) : Prop := ∃ (C : String) (T : u_T) (ty : Nat → FieldType), vwCl[ci]? = some (C, T, N) ∧ (∀ k, k < N → parseFieldDescriptor (T k).2.2.1 = some (ty k)) ∧ (∀ w ∈ u_ws C T N, w ∈ uw_) ∧ Cond.classLink own idx C ∈ uw_ ∧ Cond.instantiable C N ∈ uw_ ∧ Cond.initialized C ∈ uw_ ∧ ∀ j, j < N → defaultValue (ty j) = vp_V fs j
/-- a final field of the method's class -/
def fpf_ (own : String) (idx ci j : Nat) (ty : FieldType) : Prop := ∃ (C : String) (T : u_T) (N : Nat) (t0 : Nat → FieldType), vwCl[ci]? = some (C, T, N) ∧ j < N ∧ Cond.fieldLink own idx (T j).1 (T j).2.1 (T j).2.2.1 ∈ uw_ ∧ (∀ w ∈ u_ws C T N, w ∈ uw_) ∧ (∀ k, k < N → parseFieldDescriptor (T k).2.2.1 = some (t0 k)) ∧ (∀ a, a < N → ∀ b, b < N → a ≠ b → (T a).2.1 ≠ (T b).2.1) ∧ (T j).2.2.2 = true ∧ (T j).1 = own ∧ parseFieldDescriptor (T j).2.2.1 = some ty
/-- a constructor of ours, as it is named there -/
def ilk_ (own : String) (idx : Nat) (y : MethodName) : Prop := Cond.methodLink own idx y ∈ uw_ ∨ ∃ host : String, Cond.methodLinkNest own idx y host ∈ lw_tbl
theorem oi_inst : Cond.instanceMethod Lib.objectInit ∈ uw_ := uw_mem 59 (by decide +kernel) (by decide +kernel)
theorem oi_code : Cond.code Lib.objectInit ⟨#[0xb1]⟩ 1 none ∈ uw_ := uw_mem 60 (by decide +kernel) (by decide +kernel)
section NW
variable {E : ev_} {H H0 H1 Hn : Heap} {a o m : Nat} {L L' : ly_} {es es' es0 es2 xs : List va_E} {x : va_E}
theorem lc_sh {k : Nat} : lc_ E a (sh_ k L) = lc_ E (a + k) L := by
  unfold lc_ sh_
  rw [List.map_map]
  rfl
theorem lc_app : lc_ E a (L ++ L') = lc_ E a L ++ lc_ E a L' := List.map_append
theorem lc_len : (lc_ E a L).length = L.length := List.length_map ..
theorem nwl_.rf {a : Nat} (h : H.size = a) : nwl_ E H H a [] := ⟨by simp [h], fun _ _ => rfl, fun i e h => by simp at h⟩
theorem nwl_.sub (h : nwl_ E H0 H a es) (hs : ∀ i f, L[i]? = some f → es[o + i]? = some (f E (a + o) (fun _ => 0))) : has_ E H (a + o) L zs_ := fun i f hf => by
  have := h.2.2 _ _ (hs i f hf)
  rw [Nat.add_assoc]
  exact this
theorem nwl_.has (h : nwl_ E H0 H a (lc_ E a L)) : has_ E H a L zs_ := fun o f hf => h.2.2 o _ (by unfold lc_; rw [List.getElem?_map, hf]; rfl)
theorem nwl_.app (h : nwl_ E H0 H a es) (hz : H1.size = a + es.length + xs.length) (ho : ∀ q : Nat, q < a + es.length → H1[q]? = H[q]?) (hx : ∀ (i : Nat) (e : va_E), xs[i]? = some e → at_ E H1 (a + es.length + i) e) : nwl_ E H0 H1 a (es ++ xs) := by
  refine ⟨by rw [hz, List.length_append, Nat.add_assoc], fun q hq => (ho q (by omega)).trans (h.2.1 q hq), fun i e hi => ?_⟩
  by_cases hl : i < es.length
  · rw [List.getElem?_append_left hl] at hi
    exact at_same (h.2.2 i e hi) (ho _ (by omega))
  · rw [List.getElem?_append_right (by omega)] at hi
    have := hx _ e hi
    rw [show a + es.length + (i - es.length) = a + i by omega] at this
    exact this
theorem nwl_.put (h : nwl_ E H0 H a es) (hl : o < es.length) (h1 : at_ E H1 (a + o) x) (h2 : sm1 H H1 (a + o)) : nwl_ E H0 H1 a (es.set o x) := by
  refine ⟨by rw [h2.1, List.length_set]; exact h.1, fun q hq => (h2.2 q (by omega)).trans (h.2.1 q hq), fun i e hi => ?_⟩
  by_cases hio : i = o
  · subst hio
    rw [List.getElem?_set_self hl] at hi
    cases hi
    exact h1
  · rw [List.getElem?_set_ne (fun e => hio e.symm)] at hi
    exact at_same (h.2.2 i e hi) (h2.2 _ (by omega))
/-- the last thing was built by its constructor -/
theorem nwl_.built (h : nwl_ E H0 H a (es0 ++ [x])) (h2 : nwl_ E H Hn (a + es0.length) es2) : nwl_ E H0 Hn a (es0 ++ es2) := by
  refine ⟨by rw [h2.1, List.length_append, Nat.add_assoc], fun q hq => (h2.2.1 q (by omega)).trans (h.2.1 q hq), fun i e hi => ?_⟩
  by_cases hl : i < es0.length
  · rw [List.getElem?_append_left hl] at hi
    have h3 : (es0 ++ [x])[i]? = some e := by rw [List.getElem?_append_left hl]; exact hi
    exact at_same (h.2.2 i e h3) (h2.2.1 _ (by omega))
  · rw [List.getElem?_append_right (by omega)] at hi
    have := h2.2.2 _ e hi
    rw [show a + es0.length + (i - es0.length) = a + i by omega] at this
    exact this
/-- a method changed things within -/
theorem nwl_.sm (h : nwl_ E H0 H a es) (hs : sm_ H Hn (a + o) m) (hz : Hn.size = H.size) : ∀ i e, es[i]? = some e → (i < o ∨ o + m ≤ i) → at_ E Hn (a + i) e := fun i e hi ho => by
  have h3 := h.2.2 i e hi
  exact at_same h3 (hs.2 _ (at_lt h3) (by omega))
end NW
section AF
variable {E : ev_} {M : mt_} {Q : po_} {pc : Nat} {lv : List (Nat × Value)} {rest : List Value} {H H0 : Heap} {k n : Nat} {a : Nat} {es es' es0 es2 : List va_E}
theorem hp_.grow {s : State} {H1 : Heap} {locs : List Loc} (P : hp_ E s H locs) (hz : H.size ≤ H1.size) (ho : ∀ q : Nat, q < H.size → H1[q]? = H[q]?) : hp_ E s H1 locs :=
  ⟨Nat.le_trans P.1 hz, ⟨Nat.le_trans P.2.1.1 hz, fun q hq => (ho q (Nat.lt_of_lt_of_le hq P.2.1.1)).trans (P.2.1.2 q hq)⟩, P.2.2⟩
theorem aw_oi {idx : Nat} (hl : Cond.methodLink M.1.cls idx Lib.objectInit ∈ uw_) (hfr : Nat.ble 1 (mt_R M).frames = true) (hlo : (rest.map fun v => v.category).sum + 12 ≤ (mt_R M).locals) (hd : decode M.2.1 pc = .ok (.invokespecial idx, 3)) (kk : aw E M Q (pc + 3) lv rest H k n) : aw E M Q pc lv (.ref a :: rest) H k n := by
  intro p e s m args below meth c locs ls C P L
  have ht := C.2.2.2.2.2.1
  exact W.objInit (g := F0 m pc ls (.ref a :: rest)) (rest := rest) C.1 C.2.1 C.2.2.2.2.1 (ht _ hl) (ht _ oi_inst) (ht _ oi_code) rfl (L.1.trans C.2.2.2.1.symm) rfl hd (Nat.le_of_ble_eq_true hfr) (by show 2 * 0 + _ + 12 ≤ _; omega) (kk p e s m args below meth c locs ls C P L)
theorem aw_nw {ci idx N x : Nat} {fs : List Value} (h : nwl_ E H0 H a es) (hK : nwk_ M.1.cls idx ci N fs) (hx : a + es.length = x) (he : es ++ [.inr (ci, fs)] = es') (hk : k + 1 ≤ (mt_R M).cells) (hn : n + N ≤ (mt_R M).slots) (hd : decode M.2.1 pc = .ok (.new idx, 3)) (kk : ∀ H1 : Heap, nwl_ E H0 H1 a es' → aw E M Q (pc + 3) lv (.ref x :: rest) H1 (k + 1) (n + N)) : aw E M Q pc lv rest H k n := by
  intro p e s m args below meth c locs ls C P L
  obtain ⟨C0, T, ty, h1, h2, h3, h4, h5, h6, h7⟩ := hK
  have ht := C.2.2.2.2.2.1
  have hKn := (cx_K C).1 ci _ h1
  subst hx he
  refine W.newcK C.1 C.2.1 C.2.2.2.2.1 (ht _ h4) (ht _ h5) (ht _ h6) rfl hd hk hn hKn.2.1 h.1 fun H1 kC hkC e1 z1 o1 => ?_
  refine kk H1 (h.app (by rw [z1]; rfl) o1 (fun i e hi => ?_)) p e s m args below meth c locs ls C (P.grow (by rw [z1, h.1]; omega) (fun q hq => o1 q (by rw [← h.1]; exact hq))) L
  have hz : i < 1 := (List.getElem?_eq_some_iff.mp hi).1
  rw [show i = 0 by omega] at hi ⊢
  cases hi
  exact ⟨_, h1, (u_born ty ht h3 hKn hkC e1 h2).to h7⟩
theorem aw_na {t N x : Nat} {ty : FieldType} {atype : ArrayType} {n1 : Int32} {z : (Nat → Int32) ⊕ (Nat → Int64) ⊕ (Nat → UInt32) ⊕ (Nat → UInt64) ⊕ (Nat → Option Nat)} (h : nwl_ E H0 H a es) (hty : newarray.typeOf atype = ty) (ht : (ev_tys E)[t]? = some (E.2.1 t, ty)) (hp : ∀ (U : State) (cA : ClassId), va_RA U cA ty → U.vm.findClass ("[" ++ ty.toString) = some cA) (hw : Cond.arrayClass ty ∈ uw_) (ha : ∀ c : ClassId, vp_cell c (N, z) = arrV c N (fun _ => defaultValue ty)) (hn1 : ¬ n1 < 0) (hN : n1.toNatClampNeg = N) (hb : N * componentBytes ty ≤ 536870912)
    (hx : a + es.length = x) (he : es ++ [.inl (E.2.1 t, N, z)] = es') (hk : k + 1 ≤ (mt_R M).cells) (hn : n + N ≤ (mt_R M).slots) (hd : decode M.2.1 pc = .ok (.newarray atype, 2)) (kk : ∀ H1 : Heap, nwl_ E H0 H1 a es' → aw E M Q (pc + 2) lv (.ref x :: rest) H1 (k + 1) (n + N)) : aw E M Q pc lv (.int n1 :: rest) H k n := by
  intro p e s m args below meth c locs ls C P L
  have hts := C.2.2.2.2.2.1
  subst hx he hty
  refine va_newaK C.1 C.2.1 (hts _ hw) rfl hd rfl hn1 hN hb hk hn h.1 fun H1 cA e1 z1 o1 hAr hNm => ?_
  have ec : cA = E.2.1 t := Option.some.inj (hNm.symm.trans (hp _ _ ((cx_K C).2 t _ ht).2))
  subst ec
  refine kk H1 (h.app (by rw [z1]; rfl) o1 (fun i e hi => ?_)) p e s m args below meth c locs ls C (P.grow (by rw [z1, h.1]; omega) (fun q hq => o1 q (by rw [← h.1]; exact hq))) L
  have hz : i < 1 := (List.getElem?_eq_some_iff.mp hi).1
  rw [show i = 0 by omega] at hi ⊢
  cases hi
  show H1[a + es.length]? = some (vp_cell _ _)
  rw [ha]
  exact e1
theorem aw_nq {t N x idx : Nat} {C0 : String} {n1 : Int32} (h : nwl_ E H0 H a es) (hO : va_AO C0 (ev_s E)) (ht : (ev_tys E)[t]? = some (E.2.1 t, .object C0)) (hl : Cond.classLink M.1.cls idx C0 ∈ uw_) (hn1 : ¬ n1 < 0) (hN : n1.toNatClampNeg = N) (hb : N * 4 ≤ 536870912)
    (hx : a + es.length = x) (he : es ++ [.inl (E.2.1 t, N, .inr (.inr (.inr (.inr (fun _ => none)))))] = es') (hk : k + 1 ≤ (mt_R M).cells) (hn : n + N ≤ (mt_R M).slots) (hd : decode M.2.1 pc = .ok (.anewarray idx, 3)) (kk : ∀ H1 : Heap, nwl_ E H0 H1 a es' → aw E M Q (pc + 3) lv (.ref x :: rest) H1 (k + 1) (n + N)) : aw E M Q pc lv (.int n1 :: rest) H k n := by
  intro p e s m args below meth c locs ls C P L
  have hts := C.2.2.2.2.2.1
  subst hx he hN
  refine W.anew C.1 C.2.1 C.2.2.2.2.1 (hts _ hl) (va_AO.use (va_AO.moved C.2.2.2.2.2.2.2.2.1.alike hO)) rfl hd rfl hn1 hb hk hn fun cA kA comp f1 f2 f3 f4 => ?_
  obtain ⟨kA', comp', q1, q2, q3, q4⟩ := ((cx_K C).2 t _ ht).2
  have ec : cA = E.2.1 t := Option.some.inj (f1.symm.trans q4)
  subst ec
  rw [h.1]
  generalize hH1 : H.push ({ cls := E.2.1 t, slots := Array.replicate n1.toNatClampNeg .null, vm := .none } : Cell) = H1
  have z1 : H1.size = H.size + 1 := by rw [← hH1, Array.size_push]
  have e1 : H1[H.size]? = some (arrV (E.2.1 t) n1.toNatClampNeg (fun _ => .null)) := by rw [← hH1, Array.getElem?_push_size, ← arrV_new]
  have o1 : ∀ q : Nat, q < H.size → H1[q]? = H[q]? := fun q hq => by rw [← hH1, Array.getElem?_push, if_neg (Nat.ne_of_lt hq)]
  refine kk H1 (h.app (by rw [z1, h.1]; rfl) (fun q hq => o1 q (by rw [h.1]; exact hq)) (fun i e hi => ?_)) p e s m args below meth c locs ls C (P.grow (by rw [z1]; omega) o1) L
  have hz : i < 1 := (List.getElem?_eq_some_iff.mp hi).1
  rw [show i = 0 by omega] at hi ⊢
  cases hi
  show H1[a + es.length]? = some (vp_cell _ _)
  rw [← h.1, vp_cell_q]
  exact e1
theorem fr_outer (c : ClassId) (N h0 : Nat) : ∀ i : Nat, Jvm.Free.Multi.outerC c N h0 i = arrV c N (fun j => va_rf (if j < i then some (h0 + 1 + j) else none))
  | 0 => by
    show ({ cls := c, slots := Array.replicate N .null, vm := .none } : Cell) = _
    rw [arrV_new]
    refine congrArg (arrV c N) (funext fun j => ?_)
    simp [va_rf]
  | i + 1 => by
    show (Jvm.Free.Multi.outerC c N h0 i).setSlot i (.ref (h0 + 1 + i)) = _
    rw [fr_outer c N h0 i, arrV_store]
    refine congrArg (arrV c N) (funext fun j => ?_)
    by_cases e : j = i
    · subst e
      simp [updV, va_rf]
    · by_cases h : j < i
      · simp [updV, e, h, Nat.lt_succ_of_lt h]
      · simp [updV, e, h, show ¬ j < i + 1 by omega]
/-- new int[N][K] -/
theorem aw_mm {N K x idx : Nat} {n1 k1 : Int32} {f : Nat → Option Nat} (h : nwl_ E H0 H a es) (hO : (Cond.arrayOver (.array .int)).before #[] (ev_s E) = true) (hl : Cond.classLink M.1.cls idx "[[I" ∈ uw_) (hw : Cond.arrayClass .int ∈ uw_) (hn1 : ¬ n1 < 0) (hk1 : ¬ k1 < 0) (hN : n1.toNatClampNeg = N) (hK : k1.toNatClampNeg = K) (hb1 : N * 4 ≤ 536870912) (hb2 : K * 4 ≤ 536870912)
    (hx : a + es.length = x) (hf : ∀ j, f j = if j < N then some (x + 1 + j) else none) (he : es ++ (.inl (E.2.1 7, N, .inr (.inr (.inr (.inr f)))) :: List.replicate N (.inl (E.2.1 0, K, .inl (fun _ => 0)))) = es') (hk : k + (1 + N) ≤ (mt_R M).cells) (hn : n + (N + N * K) ≤ (mt_R M).slots) (hd : decode M.2.1 pc = .ok (.multianewarray idx 2, 4)) (kk : ∀ H1 : Heap, nwl_ E H0 H1 a es' → aw E M Q (pc + 4) lv (.ref x :: rest) H1 (k + 1 + N) (n + N + N * K)) : aw E M Q pc lv (.int k1 :: .int n1 :: rest) H k n := by
  intro p e s m args below meth c locs ls C P L
  have hts := C.2.2.2.2.2.1
  subst hx he hN hK
  intro T hT Xs
  obtain ⟨vm₁, cA, comp, -, fA, fC, hOO, -, X', step⟩ := Xs.multianewarray2F (ty := .int) C.1 C.2.2.2.2.1 (hts _ hl) (over_moved (a' := args) C.2.2.2.2.2.2.2.2.1.alike hO) (hts _ hw) (g := F0 m pc ls (.int k1 :: .int n1 :: rest)) rfl (by rw [C.2.1]; exact hd) rfl hn1 hk1 hb1 hb2 (by omega) rfl rfl hk hn
  have e0 : comp = E.2.1 0 := Option.some.inj (fC.symm.trans ((cx_K C).2 0 _ rfl).2)
  have e7 : cA = E.2.1 7 := Option.some.inj (fA.symm.trans ((cx_K C).2 7 _ rfl).2)
  subst e0 e7
  generalize hF : Jvm.Free.Multi.fill (T.setVm vm₁) (E.2.1 7) (E.2.1 0) n1.toNatClampNeg k1.toNatClampNeg (defaultValue .int) n1.toNatClampNeg = F at X' step
  have hTh : (T.setVm vm₁).heap = H := hT
  obtain ⟨f1, f2, -, -⟩ := Jvm.Free.Multi.fill_facts (T.setVm vm₁) (E.2.1 7) (E.2.1 0) n1.toNatClampNeg k1.toNatClampNeg (defaultValue .int) n1.toNatClampNeg
  rw [hF, hTh] at f1 f2
  have hold : ∀ x : Nat, x < H.size → F.heap[x]? = H[x]? := fun x hx => by
    have := Jvm.Free.Multi.fill_old (T.setVm vm₁) (E.2.1 7) (E.2.1 0) n1.toNatClampNeg k1.toNatClampNeg (defaultValue .int) (a := x) (by rw [hTh]; exact hx) n1.toNatClampNeg
    rw [hF, hTh] at this
    exact this
  have hz : ∀ c : ClassId, Jvm.Free.Multi.innerC c k1.toNatClampNeg (defaultValue .int) = vp_cell c (k1.toNatClampNeg, .inl (fun _ => 0)) := fun c => by
    show ({ cls := c, slots := Array.replicate k1.toNatClampNeg (.int 0), vm := .none } : Cell) = _
    rw [arrV_new, vp_cell_i]
  have hrow : ∀ j : Nat, j < n1.toNatClampNeg → F.heap[H.size + 1 + j]? = some (vp_cell (E.2.1 0) (k1.toNatClampNeg, .inl (fun _ => 0))) := fun j hj => by
    have := Jvm.Free.Multi.fill_inner (T.setVm vm₁) (E.2.1 7) (E.2.1 0) n1.toNatClampNeg k1.toNatClampNeg (defaultValue .int) n1.toNatClampNeg j hj
    rw [hF, hTh, hz] at this
    exact this
  have hout : Jvm.Free.Multi.outerC (E.2.1 7) n1.toNatClampNeg H.size n1.toNatClampNeg = vp_cell (E.2.1 7) (n1.toNatClampNeg, .inr (.inr (.inr (.inr f)))) := by
    rw [vp_cell_q, fr_outer]
    refine congrArg (arrV _ _) (funext fun j => ?_)
    rw [hf, h.1]
  rw [hout] at f2
  have hnw : nwl_ E H0 F.heap a (es ++ (.inl (E.2.1 7, n1.toNatClampNeg, .inr (.inr (.inr (.inr f)))) :: List.replicate n1.toNatClampNeg (.inl (E.2.1 0, k1.toNatClampNeg, .inl (fun _ => 0))))) := by
    refine h.app (by rw [f1, h.1, List.length_cons, List.length_replicate]; omega) (fun q hq => hold q (by rw [h.1]; exact hq)) (fun i e hi => ?_)
    cases i with
    | zero =>
      cases hi
      show F.heap[a + es.length + 0]? = some _
      rw [Nat.add_zero, ← h.1]
      exact f2
    | succ i =>
      rw [List.getElem?_cons_succ, List.getElem?_replicate] at hi
      split at hi
      · rename_i hlt
        cases hi
        show F.heap[a + es.length + (i + 1)]? = some _
        rw [← h.1, show H.size + (i + 1) = H.size + 1 + i by omega]
        exact hrow i hlt
      · cases hi
  obtain ⟨t, a1, b1⟩ := kk F.heap hnw p e s m args below meth c locs ls C (P.grow (by rw [f1]; omega) hold) L F rfl X'
  refine ⟨t, step t ?_, b1⟩
  have e9 : T.heap.size = a + es.length := by rw [hT, h.1]
  rw [e9]
  exact a1
theorem aw_putF {ci j idx : Nat} {fs : List Value} {v : Value} {ty : FieldType} (hf : fpf_ M.1.cls idx ci j ty) (hin2 : M.1.name = "<init>") (hA : at_ E H a (.inr (ci, fs))) (hfr : ev_fr E a) (hn : narrow ty v = v) (hfit : fits ty v = true) (hl : Nat.blt j fs.length = true) (hd : decode M.2.1 pc = .ok (.putfield idx, 3)) (kk : ∀ H1 : Heap, at_ E H1 a (.inr (ci, fs.set j v)) → sm1 H H1 a → aw E M Q (pc + 3) lv rest H1 k n) : aw E M Q pc lv (v :: .ref a :: rest) H k n := by
  intro p e s m args below meth c locs ls C P L
  obtain ⟨C0, T, N, t0, h1, h2, h3, hin, hty, hnm, hfin, hdecl, hdd⟩ := hf
  have hts := C.2.2.2.2.2.1
  have hown := C.2.2.2.2.1
  have hK := cx_K C
  have hap := va_apart (own := M.1.cls) hts hin t0 hty hnm hK h1
  obtain ⟨r, hr1, cell, q1, q2, q3, q4⟩ := hA
  have hr : r = (C0, T, N) := Option.some.inj (hr1.symm.trans h1)
  subst hr
  obtain ⟨hS, hfc, kC, hkC, hkind⟩ := hK.1 ci _ h1
  obtain ⟨cf, kf, fi, f, hi, hsl⟩ := hS j h2
  have hlay := hts _ (hin _ (u_in_lay h2))
  unfold u_lay at hlay
  rw [if_pos hfin] at hlay
  have hst := (u_facts hfc hkC (u_lays hts hin h2) hi).1
  have hcf : m.cls = cf := by
    obtain ⟨_, _, c', _, _, _, -, -, hf', -, -, -, hown2, -⟩ := Cond.laysFinal_spec hlay
    have e1 : c' = cf := by have := hi.symm.trans hf'; simp at this; exact this.1.symm
    rw [hdecl] at hown2
    rw [← e1]; exact Option.some.inj (hown.symm.trans hown2)
  have h6 := u_fits hfc hkC hkind (Or.inr hlay) hi hdd hn hfit
  refine W.putFinK C.1 C.2.1 hown (hts _ h3) hi hst hcf (C.2.2.2.2.2.2.2.2.2.2.2.trans hin2) (by rw [q2]; exact h6) q1 q3 (by rw [hsl]; exact k2_hasslot (q4 j h2)) rfl rfl hd fun H' e1 e2 e3 => ?_
  rw [hsl] at e1 ⊢
  have hl' : j < fs.length := Nat.lt_of_lt_of_le (Nat.lt_succ_self j) (Nat.le_of_ble_eq_true hl)
  exact kk H' ⟨_, h1, t_OB.to (V := updV (vp_V fs) j v) ⟨_, e1, q2, q3, t_set q4 hap h2 v⟩ (fun i _ => vp_updV_set hl' v i)⟩ ⟨e2, e3⟩ p e s m args below meth c _ ls C (P.put ⟨e2, e3⟩ hfr) L
theorem aw_pf (o : Nat) {ci j idx : Nat} {fs : List Value} {v : Value} {ty : FieldType} (h : nwl_ E H0 H a es) (he : es[o]? = some (.inr (ci, fs))) (hf : fpf_ M.1.cls idx ci j ty) (hin2 : M.1.name = "<init>") (hfr : ev_fr E a) (hn : narrow ty v = v) (hfit : fits ty v = true) (hl : Nat.blt j fs.length = true) (hes : es.set o (.inr (ci, fs.set j v)) = es') (hd : decode M.2.1 pc = .ok (.putfield idx, 3)) (kk : ∀ H1 : Heap, nwl_ E H0 H1 a es' → aw E M Q (pc + 3) lv rest H1 k n) : aw E M Q pc lv (v :: .ref (a + o) :: rest) H k n := by
  subst hes
  exact aw_putF hf hin2 (h.2.2 o _ he) (Nat.le_trans hfr (Nat.le_add_right a o)) hn hfit hl hd (fun H1 h1 h2 => kk H1 (h.put (List.getElem?_eq_some_iff.mp he).1 h1 h2))
theorem aw_pn (o : Nat) {ci j idx : Nat} {fs : List Value} {v : Value} {ty : FieldType} (h : nwl_ E H0 H a es) (he : es[o]? = some (.inr (ci, fs))) (hf : fpk_ M.1.cls idx ci j ty) (hfr : ev_fr E a) (hn : narrow ty v = v) (hfit : fits ty v = true) (hl : Nat.blt j fs.length = true) (hes : es.set o (.inr (ci, fs.set j v)) = es') (hd : decode M.2.1 pc = .ok (.putfield idx, 3)) (kk : ∀ H1 : Heap, nwl_ E H0 H1 a es' → aw E M Q (pc + 3) lv rest H1 k n) : aw E M Q pc lv (v :: .ref (a + o) :: rest) H k n := by
  subst hes
  exact aw_put hf (h.2.2 o _ he) (Nat.le_trans hfr (Nat.le_add_right a o)) hn hfit hl hd (fun H1 h1 h2 => kk H1 (h.put (List.getElem?_eq_some_iff.mp he).1 h1 h2))
theorem aw_gn (o : Nat) {ci j idx : Nat} {fs : List Value} {v : Value} (h : nwl_ E H0 H a es) (he : es[o]? = some (.inr (ci, fs))) (hf : fok_ M.1.cls idx ci j) (hv : fs[j]? = some v) (hd : decode M.2.1 pc = .ok (.getfield idx, 3)) (kk : aw E M Q (pc + 3) lv (v :: rest) H k n) : aw E M Q pc lv (.ref (a + o) :: rest) H k n := aw_get hf (h.2.2 o _ he) hv hd kk
/-- an object put into an array of its class -/
theorem aw_ast {t ci y N N2 : Nat} {f : Nat → Option Nat} {vs : List Value} {C0 : String} {T : u_T} {i : Int32} {b : Nat} (hA : at_ E H b (.inl (E.2.1 t, N, .inr (.inr (.inr (.inr f)))))) (ht : (ev_tys E)[t]? = some (E.2.1 t, .object C0)) (hv : at_ E H y (.inr (ci, vs))) (hc : vwCl[ci]? = some (C0, T, N2)) (hfr : ev_fr E b) (hin : ib_ i N = true) (hd : decode M.2.1 pc = .ok (.aastore, 1)) (kk : ∀ H1 : Heap, at_ E H1 b (.inl (E.2.1 t, N, .inr (.inr (.inr (.inr (up_ f (ix_ i) (some y))))))) → sm1 H H1 b → aw E M Q (pc + 1) lv rest H1 k n) : aw E M Q pc lv (.ref y :: .int i :: .ref b :: rest) H k n := by
  intro p e s m args below meth c locs ls C P L
  have hin' := ib_in hin
  have hlt : i.toNatClampNeg < N := Nat.not_le.mp fun q => hin' (Or.inr q)
  have h0 : ¬ i < 0 := fun q => hin' (Or.inl q)
  obtain ⟨r', hr', cellV, g1, g2, g3, -⟩ := hv
  have hcls := ((cx_K C).1 ci _ hc).2
  obtain ⟨kA, comp, k1, k2, k3, -⟩ := ((cx_K C).2 t _ ht).2
  have hcomp : comp = E.1.1 ci := Option.some.inj (k3.symm.trans hcls.1)
  subst hcomp
  obtain ⟨kC, hkC, -⟩ := hcls.2
  refine W.aast C.1 C.2.1 hA (fun q h => by cases h) (fun h => by cases h) k1 k2 rfl hkC ⟨h0, by show _ < (arrV _ _ _).slots.size; rw [arrV_size]; exact hlt⟩ g1 (fun q h => by rw [g3] at h; cases h) (by rw [g2]; exact hkC) (by rw [g2]; exact va_assign hcls) rfl rfl hd fun H1 e1 z oq => ?_
  refine kk H1 ?_ ⟨z, oq⟩ p e s m args below meth c _ ls C (P.put ⟨z, oq⟩ hfr) L
  show H1[b]? = some (vp_cell _ _)
  rw [e1]
  rw [vp_cell_q, vp_cell_q, arrV_store]
  congr 2
  funext q
  by_cases hq : q = i.toNatClampNeg
  · subst hq
    simp [updV, up_, va_rf]
  · simp [updV, up_, hq]
/-- a call of a constructor of ours -/
theorem sp_met {M' : mt_} {av : List Value} {r : Option Value} {P : Heap → Prop} (h : sp_ E M' av H (po1 (.inl r) P)) (h1 : ev_ok E) (h2 : ev_base E H) : Met (ev_l E) M'.1 (.code M'.1 M'.2.1 M'.2.2.1 M'.2.2.2.1 :: uw_) (mt_R M') (fun v U => v = av.toArray ∧ (ev_s E).WarmedH U.vm ∧ U.heap = H) (aw_Q E (po1 (.inl r) P)) (mt_R M').cells (mt_R M').slots (ev_fr E) :=
  MetFree.mono (h h1 h2) (fun _ _ h => h) (fun _ _ _ _ _ h => h) (fun a s o s' _ hq => by
    rcases hq with hq | ⟨q, e, X0, ce, L0, ⟨hx, -⟩, -⟩
    · exact hq
    · cases hx.1)
theorem aw_ci {M' : mt_} {b u u6 idx : Nat} {P : Heap → Prop} (hs : sp_ E M' [.ref b] H (po1 (.inl none) P)) (hc : cokI_ M') (hr : M'.2.2.2.1 = none) (hl : ilk_ M.1.cls idx M'.1) (hn : nok_ M' 0) (hR : rok_ M M' = true) (hu : (mt_R M').cells = u) (hu6 : (mt_R M').slots = u6) (hroom : (rest.map fun v => v.category).sum ≤ 8) (hkk : k + u ≤ (mt_R M).cells) (hnn : n + u6 ≤ (mt_R M).slots) (hd : decode M.2.1 pc = .ok (.invokespecial idx, 3))
    (kk : ∀ H1 : Heap, P H1 → aw E M Q (pc + 3) lv rest H1 (k + u) (n + u6)) : aw E M Q pc lv (.ref b :: rest) H k n := by
  intro p e s m args below meth c locs ls C P0 L
  subst hu hu6
  have hts := C.2.2.2.2.2.1
  have hm := sp_met hs C.2.2.2.2.2.2.2.2.2.2.1 P0.2.1
  rw [hr] at hm
  have hrun : va_Run p (ev_l E) e (mt_R M) s m args below meth c H locs k n (mt_R M').cells (mt_R M').slots (F0 m pc ls (.ref b :: rest)) rest (aw_Q E (po1 (.inl none) P) (Value.ref b :: []).toArray) (ev_fr E) := by
    rcases hl with hl | ⟨host, hl⟩
    · have hB := callB_aw hc.1 hR hn hl C
      rw [hr] at hB
      exact va_runI (H := H) (locs := locs) (meth := meth) (below := below) (e := e) (g := F0 m pc ls (.ref b :: rest)) (n := 0) (Ts := uw_) (As := []) (b := b) (rest := rest) ⟨C.1, C.2.1, C.2.2.2.1, C.2.2.2.2.1, hts⟩ hm ⟨hB, hc.2.2, hts _ hc.2.1⟩ (pre_aw C (av := [.ref b])) rfl rfl L.1 rfl (lv_room hroom) hd ⟨hkk, hnn⟩
    · unfold rok_ at hR
      rw [Bool.and_eq_true] at hR
      have hw := uw_ws hc.1.1
      rw [hr] at hw
      have hB := va_cnB (R := mt_R M) (ret := none) (maxL := M'.2.2.1) (bytes := M'.2.1) (rm := mt_R M') 0 hts hw rfl rfl rfl (va_Nw.warmM C.2.2.2.2.2.2.2.2.1 (C.2.2.2.2.2.2.2.2.2.2.1.2.2.1 _ hl rfl)) (hts _ hc.1.2.1) ⟨hc.1.2.2.1, hc.1.2.2.2, hn⟩ ⟨Nat.le_of_ble_eq_true hR.1, Nat.le_of_ble_eq_true hR.2⟩
      exact va_runIN (H := H) (locs := locs) (meth := meth) (below := below) (e := e) (g := F0 m pc ls (.ref b :: rest)) (n := 0) (Ts := uw_) (As := []) (b := b) (rest := rest) ⟨C.1, C.2.1, C.2.2.2.1, C.2.2.2.2.1, hts⟩ hm ⟨hB, hc.2.2, hts _ hc.2.1⟩ (pre_aw C (av := [.ref b])) rfl rfl L.1 rfl (lv_room hroom) hd ⟨hkk, hnn⟩
  intro T hT X
  obtain ⟨v, st₀, t, T', L9, h0, X', hL, e1, e2, ⟨r, er, hq, hz, hb⟩, st⟩ := hrun T hT X
  cases er
  rw [← e1] at hq hb hz
  rw [h0] at hz
  have ev := Sum.inl.inj hq.1
  subst ev
  obtain ⟨t2, a1, b1⟩ := kk T'.heap hq.2 p e s m args below meth c (locs ++ L9) ls C (P0.call hz hb hL) L T' rfl X'
  exact ⟨t2, st t2 a1, b1⟩
theorem nwl_.last {x : va_E} (h : nwl_ E H0 H a (es ++ [x])) : nwl_ E H H (a + es.length) [x] := by
  refine ⟨by rw [h.1, List.length_append, Nat.add_assoc], fun _ _ => rfl, fun i e hi => ?_⟩
  have hz : i < 1 := (List.getElem?_eq_some_iff.mp hi).1
  rw [show i = 0 by omega] at hi ⊢
  cases hi
  exact h.2.2 _ _ (by rw [List.getElem?_append_right (Nat.le_refl _), Nat.sub_self]; rfl)
/-- new; dup; the constructor -/
theorem aw_nc {M' : mt_} {ci idx idx2 N x u u6 k1 n1 : Nat} {fs : List Value} {L : ly_} (h : nwl_ E H0 H a es) (hK : nwk_ M.1.cls idx ci N fs) (hx : a + es.length = x) (hs : ∀ H1 : Heap, nwl_ E H1 H1 x [.inr (ci, fs)] → sp_ E M' [.ref x] H1 (po1 (.inl none) (fun Hn => nwl_ E H1 Hn x (lc_ E x L)))) (hc : cokI_ M') (hr : M'.2.2.2.1 = none) (hl : ilk_ M.1.cls idx2 M'.1) (hn : nok_ M' 0) (hR : rok_ M M' = true) (hu : (mt_R M').cells = u) (hu6 : (mt_R M').slots = u6) (hroom : (rest.map fun v => v.category).sum ≤ 7) (hk1 : k + 1 + u = k1) (hn1 : n + N + u6 = n1) (hkk : k1 ≤ (mt_R M).cells) (hnn : n1 ≤ (mt_R M).slots) (he : es ++ lc_ E x L = es') (d0 : decode M.2.1 pc = .ok (.new idx, 3)) (d3 : decode M.2.1 (pc + 3) = .ok (.dup, 1)) (d4 : decode M.2.1 (pc + 3 + 1) = .ok (.invokespecial idx2, 3))
    (kk : ∀ H1 : Heap, nwl_ E H0 H1 a es' → aw E M Q (pc + 7) lv (.ref x :: rest) H1 k1 n1) : aw E M Q pc lv rest H k n := by
  subst hk1 hn1 hx he
  refine aw_nw h hK rfl rfl (by omega) (by omega) d0 (fun H1 h1 => ?_)
  refine pe1_ok (v := .null) d3 rfl ?_
  refine aw_ci (hs H1 h1.last) hc hr hl hn hR hu hu6 (by rw [List.map_cons, List.sum_cons]; show 1 + _ ≤ 8; omega) hkk hnn d4 (fun H2 h2 => ?_)
  exact kk H2 (h1.built h2)
end AF
