/-! 'aw': the kit's W with the surroundings (program, state at the entry, frame, words) quantified away; blocks of pure instructions by evaluation -/
def uw_ : List Cond := lw_tbl.filter goodWord
theorem uw_mem {w : Cond} (i : Nat) (h : lw_tbl[i]? = some w) (hg : goodWord w = true) : w ∈ uw_ := List.mem_filter.mpr ⟨List.mem_of_getElem? h, hg⟩
theorem uw_good : ∀ w ∈ uw_, (w.onTables && w.keeps) = true ∨ ∃ ty, w = .arrayClass ty := fun w h => good_of_word (List.mem_filter.mp h).2
/-- class numbers and slots; the arrays' classes; the launch; the law's start -/
abbrev ev_ : Type := va_G × (Nat → ClassId) × Launch × State
abbrev ev_l (E : ev_) : Launch := E.2.2.1
abbrev ev_s (E : ev_) : State := E.2.2.2
def ev_tys (E : ev_) : List (ClassId × FieldType) := [(E.2.1 0, .int), (E.2.1 1, .byte), (E.2.1 2, .object "java/lang/String"), (E.2.1 3, .int), (E.2.1 4, .int), (E.2.1 5, .object "ArmDuel$Arm"), (E.2.1 6, .object "ArmDuel$Game"), (E.2.1 7, .array .int)]
def ev_base (E : ev_) (H : Heap) : Prop := (ev_s E).heap.size ≤ H.size ∧ ∀ q : Nat, q < (ev_s E).heap.size → H[q]? = (ev_s E).heap[q]?
def ev_fr (E : ev_) : Addr → Prop := fun q => (ev_s E).heap.size ≤ q
/-- the texts: their classes, places, bytes -/
def sx_ : List (String × Nat × String × List Int32) := [("ArmDuel$Reader", 67, "drive cost rule master mix foe ask rival budget bound", [100, 114, 105, 118, 101, 32, 99, 111, 115, 116, 32, 114, 117, 108, 101, 32, 109, 97, 115, 116, 101, 114, 32, 109, 105, 120, 32, 102, 111, 101, 32, 97, 115, 107, 32, 114, 105, 118, 97, 108, 32, 98, 117, 100, 103, 101, 116, 32, 98, 111, 117, 110, 100]),
  ("ArmDuel$Reader", 124, "fcfs near scan wrap band", [102, 99, 102, 115, 32, 110, 101, 97, 114, 32, 115, 99, 97, 110, 32, 119, 114, 97, 112, 32, 98, 97, 110, 100]),
  ("ArmDuel$Reader", 136, "draw lead keep", [100, 114, 97, 119, 32, 108, 101, 97, 100, 32, 107, 101, 101, 112]),
  ("ArmDuel$Reader", 100, "none far mirror ends list hurt", [110, 111, 110, 101, 32, 102, 97, 114, 32, 109, 105, 114, 114, 111, 114, 32, 101, 110, 100, 115, 32, 108, 105, 115, 116, 32, 104, 117, 114, 116]),
  ("ArmDuel", 133, "no such setting", [110, 111, 32, 115, 117, 99, 104, 32, 115, 101, 116, 116, 105, 110, 103]),
  ("ArmDuel", 387, "no such rule", [110, 111, 32, 115, 117, 99, 104, 32, 114, 117, 108, 101]),
  ("ArmDuel", 174, "no such number of a rule", [110, 111, 32, 115, 117, 99, 104, 32, 110, 117, 109, 98, 101, 114, 32, 111, 102, 32, 97, 32, 114, 117, 108, 101]),
  ("ArmDuel", 394, "out of range", [111, 117, 116, 32, 111, 102, 32, 114, 97, 110, 103, 101]),
  ("ArmDuel", 390, "no such arm", [110, 111, 32, 115, 117, 99, 104, 32, 97, 114, 109]),
  ("ArmDuel", 237, "no such number of an arm", [110, 111, 32, 115, 117, 99, 104, 32, 110, 117, 109, 98, 101, 114, 32, 111, 102, 32, 97, 110, 32, 97, 114, 109]),
  ("ArmDuel", 264, "a negative index", [97, 32, 110, 101, 103, 97, 116, 105, 118, 101, 32, 105, 110, 100, 101, 120]),
  ("ArmDuel", 287, "no such number of the regret", [110, 111, 32, 115, 117, 99, 104, 32, 110, 117, 109, 98, 101, 114, 32, 111, 102, 32, 116, 104, 101, 32, 114, 101, 103, 114, 101, 116]),
  ("ArmDuel", 392, "a negative round", [97, 32, 110, 101, 103, 97, 116, 105, 118, 101, 32, 114, 111, 117, 110, 100]),
  ("ArmDuelModel", 203, "drive", [100, 114, 105, 118, 101]),
  ("ArmDuelModel", 171, "cost", [99, 111, 115, 116]),
  ("ArmDuelModel", 173, "rule", [114, 117, 108, 101]),
  ("ArmDuelModel", 132, "fcfs", [102, 99, 102, 115]),
  ("ArmDuelModel", 138, "near", [110, 101, 97, 114]),
  ("ArmDuelModel", 140, "scan", [115, 99, 97, 110]),
  ("ArmDuelModel", 142, "wrap", [119, 114, 97, 112]),
  ("ArmDuelModel", 144, "band", [98, 97, 110, 100]),
  ("ArmDuelModel", 178, "master", [109, 97, 115, 116, 101, 114]),
  ("ArmDuelModel", 149, "draw", [100, 114, 97, 119]),
  ("ArmDuelModel", 155, "lead", [108, 101, 97, 100]),
  ("ArmDuelModel", 157, "keep", [107, 101, 101, 112]),
  ("ArmDuelModel", 183, "rival", [114, 105, 118, 97, 108]),
  ("ArmDuelModel", 185, "budget", [98, 117, 100, 103, 101, 116]),
  ("ArmDuelModel", 187, "mix", [109, 105, 120]),
  ("ArmDuelModel", 189, "foe", [102, 111, 101]),
  ("ArmDuelModel", 159, "none", [110, 111, 110, 101]),
  ("ArmDuelModel", 161, "far", [102, 97, 114]),
  ("ArmDuelModel", 163, "mirror", [109, 105, 114, 114, 111, 114]),
  ("ArmDuelModel", 165, "ends", [101, 110, 100, 115]),
  ("ArmDuelModel", 167, "list", [108, 105, 115, 116]),
  ("ArmDuelModel", 169, "hurt", [104, 117, 114, 116]),
  ("ArmDuelModel", 195, "ask", [97, 115, 107]),
  ("ArmDuelModel", 200, "bound", [98, 111, 117, 110, 100]),
  ("ArmDuelLaw", 58, "fcfs", [102, 99, 102, 115]),
  ("ArmDuelLaw", 60, "near", [110, 101, 97, 114]),
  ("ArmDuelLaw", 62, "scan", [115, 99, 97, 110]),
  ("ArmDuelLaw", 64, "wrap", [119, 114, 97, 112]),
  ("ArmDuelLaw", 66, "band ", [98, 97, 110, 100, 32]),
  ("ArmDuelLaw", 68, "none", [110, 111, 110, 101]),
  ("ArmDuelLaw", 70, "far", [102, 97, 114]),
  ("ArmDuelLaw", 72, "mirror", [109, 105, 114, 114, 111, 114]),
  ("ArmDuelLaw", 74, "ends", [101, 110, 100, 115]),
  ("ArmDuelLaw", 76, "list", [108, 105, 115, 116]),
  ("ArmDuelLaw", 78, "hurt", [104, 117, 114, 116]),
  ("ArmDuelLaw", 80, "drive ", [100, 114, 105, 118, 101, 32]),
  ("ArmDuelLaw", 88, ";cost ", [59, 99, 111, 115, 116, 32]),
  ("ArmDuelLaw", 90, ";rule ", [59, 114, 117, 108, 101, 32]),
  ("ArmDuelLaw", 92, ";master ", [59, 109, 97, 115, 116, 101, 114, 32]),
  ("ArmDuelLaw", 33, "draw", [100, 114, 97, 119]),
  ("ArmDuelLaw", 35, "lead", [108, 101, 97, 100]),
  ("ArmDuelLaw", 40, "keep ", [107, 101, 101, 112, 32]),
  ("ArmDuelLaw", 98, ";mix ", [59, 109, 105, 120, 32]),
  ("ArmDuelLaw", 101, ";foe ", [59, 102, 111, 101, 32]),
  ("ArmDuelLaw", 103, ";ask ", [59, 97, 115, 107, 32]),
  ("ArmDuelLaw", 105, ";rival ", [59, 114, 105, 118, 97, 108, 32]),
  ("ArmDuelLaw", 107, ";budget ", [59, 98, 117, 100, 103, 101, 116, 32]),
  ("ArmDuelLaw", 109, ";bound ", [59, 98, 111, 117, 110, 100, 32])]
def sx_n (w : Nat) : String × Nat × String × List Int32 := sx_.getD w ("", 0, "", [])
abbrev sb_y (w : Nat) : List Int32 := (sx_n w).2.2.2
/-- where a text lies -/
def sa_ (E : ev_) (w : Nat) : Nat := match (Term.string (sx_n w).1 (sx_n w).2.1).eval #[] (ev_s E) none [] (ev_s E) with
  | some (.ref a) => a
  | _ => 0
/-- a text lies there, and holds its bytes -/
def sc_ok (E : ev_) (w : Nat) : Prop := vk_R (sx_n w).1 (sx_n w).2.1 (sx_n w).2.2.1 (sa_ E w) (ev_s E) ∧ va_O "java/lang/String" (sa_ E w) (ev_fr E) (ev_s E) (ev_s E).heap ∧ va_OF "java/lang/String" "coder" "B" (.int 0) (sa_ E w) (ev_fr E) (ev_s E) (ev_s E).heap ∧ ∃ v : Nat, va_OF "java/lang/String" "value" "[B" (.ref v) (sa_ E w) (ev_fr E) (ev_s E) (ev_s E).heap ∧ va_T .byte v (sb_y w).length (fun j => .int ((sb_y w).getD j 0)) (ev_fr E) (ev_s E) (ev_s E).heap
/-- the texts that this claim has -/
def sxb_ (w : Nat) : Bool := Nat.blt w 13 || (Nat.ble 37 w && Nat.blt w sx_.length)
def es_ (E : ev_) : Prop := (∀ w, sxb_ w = true → sc_ok E w) ∧ va_Z "java/lang/String" "COMPACT_STRINGS" "Z" (.int 1) (ev_fr E) (ev_s E) (ev_s E).heap ∧ va_Zq "jdk/internal/util/Preconditions" "SIOOBE_FORMATTER" "Ljava/util/function/BiFunction;" (ev_fr E) (ev_s E) (ev_s E).heap
def ew_ (w : Cond) : Bool := match w with
  | .stringRef _ _ _ => true
  | w => w.onTables
/-- what the law's start gives to all methods -/
def ev_ok (E : ev_) : Prop := va_K E.1 vwCl (ev_tys E) (ev_s E) ∧ (ev_l E).flags = flags0 ∧ (∀ w ∈ lw_tbl, ew_ w = true → va_Nw w (ev_s E)) ∧ vx_Zq Bundle.tN "UNASSIGNED_STACK" Bundle.steD (ev_fr E) (ev_s E) (ev_s E).heap ∧ vx_Zq Bundle.tN "SUPPRESSED_SENTINEL" Bundle.listD (ev_fr E) (ev_s E) (ev_s E).heap ∧ es_ E
/-- a method: its name, code, locals, what it returns, its handlers, its room -/
abbrev mt_ : Type := MethodName × ByteArray × Nat × Option FieldType × List ExceptionTableEntry × Room
abbrev mt_R (M : mt_) : Room := M.2.2.2.2.2
def cx_ (E : ev_) (M : mt_) (p : Program) (s : State) (m : MethodId) (args : Array Value) (meth : Method) (c : Code) : Prop :=
  p.tables.exec = Jvm.exec ∧ c.code = M.2.1 ∧ meth.sig.returnType = M.2.2.2.1 ∧ c.maxLocals = M.2.2.1 ∧ s.vm.findClass M.1.cls = some m.cls ∧ (∀ w ∈ uw_, w.before args s = true) ∧ meth.locks = false ∧ c.exceptionTable.toList = M.2.2.2.2.1 ∧ (ev_s E).WarmedH s.vm ∧ ev_base E s.heap ∧ ev_ok E ∧ meth.name = M.1.name
def hp_ (E : ev_) (s : State) (H : Heap) (locs : List Loc) : Prop := s.heap.size ≤ H.size ∧ ev_base E H ∧ ∀ z ∈ locs, ev_fr E z.base
abbrev po_ : Type := Option Value ⊕ String → Heap → Prop
def aw_Q (E : ev_) (Q : po_) : Array Value → State → Outcome → State → Prop := fun _ st o t => ∃ v, o = .returned v ∧ Q (.inl v) t.heap ∧ st.heap.size ≤ t.heap.size ∧ ev_base E t.heap
def aw_X (E : ev_) (Q : po_) : String → State → State → Prop := fun X st t => Q (.inr X) t.heap ∧ st.heap.size ≤ t.heap.size ∧ ev_base E t.heap
def aw (E : ev_) (M : mt_) (Q : po_) (pc : Nat) (lv : List (Nat × Value)) (st : List Value) (H : Heap) (k n : Nat) : Prop :=
  ∀ (p : Program) (e : Env) (s : State) (m : MethodId) (args : Array Value) (below : List Frame) (meth : Method) (c : Code) (locs : List Loc) (ls : Array Slot),
    cx_ E M p s m args meth c → hp_ E s H locs → lv_has ls M.2.2.1 lv →
    W p (ev_l E) e (mt_R M) s m args below meth c H locs k n (vx_MQ below (aw_Q E Q) (aw_X E Q) args s (mt_R M).cells (mt_R M).slots (ev_fr E)) (F0 m pc ls st)
/-- a contract at one heap: from H with these arguments the method comes to an end with Q -/
def sp_ (E : ev_) (M : mt_) (av : List Value) (H : Heap) (Q : po_) : Prop := ev_ok E → ev_base E H →
  vx_Met (ev_l E) M.1 (.code M.1 M.2.1 M.2.2.1 M.2.2.2.1 :: uw_) (mt_R M) (fun v U => v = av.toArray ∧ (ev_s E).WarmedH U.vm ∧ U.heap = H) (aw_Q E Q) (aw_X E Q) (mt_R M).cells (mt_R M).slots (ev_fr E)
theorem sp_of {E : ev_} {M : mt_} {av : List Value} {H : Heap} {Q : po_} (hy : plainName M.1.cls = true) (ht : M.2.2.2.2.1 = []) (hn : Nat.ble (lg_sl av).length M.2.2.1 = true) (h : aw E M Q 0 (lv_args 0 av) [] H 0 0) : sp_ E M av H Q := by
  intro hok hbase
  refine vx_ofW (cc := M.2.1) (maxL := M.2.2.1) (ret := M.2.2.2.1) hy rfl ?_
  intro p e s m args below meth c s₁ B hml ht0 hv
  obtain ⟨rfl, hal, hH⟩ := hv
  have htab : c.exceptionTable.toList = M.2.2.2.2.1 := by
    rw [ht]
    exact List.eq_nil_iff_forall_not_mem.mpr (fun x hx => ht0 x hx)
  have hts := atoms_spec (ws := .code M.1 M.2.1 M.2.2.1 M.2.2.2.1 :: uw_) B.pre
  have hl := lv_entry av (n := M.2.2.1) (Nat.le_of_ble_eq_true hn)
  rw [lg_entry_eq]
  have hC : cx_ E M p s m av.toArray meth c := ⟨B.exec, B.bytes, B.returns, hml, findClass_of_methodNamed B.named, fun w hw => hts w (List.mem_cons_of_mem _ hw), B.notSynchronized, htab, hal, by rw [hH]; exact hbase, hok, (name_of_methodNamed B.named B.method).1⟩
  have h1 := h p e s m av.toArray below meth c [] _ hC ⟨by rw [hH]; exact Nat.le_refl _, hbase, fun z hz => absurd hz List.not_mem_nil⟩ hl
  rw [← hH] at h1
  exact h1
theorem aw_lv {E : ev_} {M : mt_} {Q : po_} {pc : Nat} {lv lv' : List (Nat × Value)} {st : List Value} {H : Heap} {k n : Nat} (ks : List Nat) (h : lv_pick lv ks = lv') (kk : aw E M Q pc lv' st H k n) : aw E M Q pc lv st H k n :=
  fun p e s m args below meth c locs ls C P L => kk p e s m args below meth c locs ls C P (lv_sub L ks h)
theorem aw_eq {E : ev_} {M : mt_} {Q : po_} {pc pc' : Nat} {lv lv' : List (Nat × Value)} {st st' : List Value} {H : Heap} {k n : Nat} (h1 : pc = pc') (h2 : lv = lv') (h3 : st = st') (kk : aw E M Q pc' lv' st' H k n) : aw E M Q pc lv st H k n := by
  subst h1; subst h2; subst h3; exact kk
theorem aw_post {E : ev_} {M : mt_} {Q Q' : po_} {pc : Nat} {lv : List (Nat × Value)} {st : List Value} {H : Heap} {k n : Nat} (h : ∀ r H, Q r H → Q' r H) (kk : aw E M Q pc lv st H k n) : aw E M Q' pc lv st H k n := by
  intro p e s m args below meth c locs ls C P L T hT X
  obtain ⟨t, h1, o, h2, h3, h4⟩ := kk p e s m args below meth c locs ls C P L T hT X
  refine ⟨t, h1, o, h2, h3, ?_⟩
  rcases h4 with ⟨⟨v, e1, e2, e3⟩, h5⟩ | ⟨q, e1, X0, ce, L0, ⟨e2, e3⟩, h5⟩
  · exact Or.inl ⟨⟨v, e1, h _ _ e2, e3⟩, h5⟩
  · exact Or.inr ⟨q, e1, X0, ce, L0, ⟨h _ _ e2, e3⟩, h5⟩
theorem aw_widen {E : ev_} {M : mt_} {Q : po_} {pc : Nat} {lv : List (Nat × Value)} {st : List Value} {H : Heap} {k n k' n' : Nat} (h1 : k ≤ k') (h2 : n ≤ n') (kk : aw E M Q pc lv st H k' n') : aw E M Q pc lv st H k n :=
  fun p e s m args below meth c locs ls C P L => W.widen h1 h2 (kk p e s m args below meth c locs ls C P L)
/-! blocks of pure instructions -/
abbrev in_ : Type := Nat × Instr × Nat × Value
def lv_gt (lv : List (Nat × Value)) (i : Nat) : Option Value := match lv with
  | [] => none
  | q :: r => match Nat.beq q.1 i with
    | true => some q.2
    | false => lv_gt r i
theorem lv_gt_ok {ls : Array Slot} {nL : Nat} {v : Value} {i : Nat} : ∀ {lv : List (Nat × Value)}, lv_has ls nL lv → lv_gt lv i = some v → ls[i]? = some (.val v)
  | [], _, h => by cases h
  | q :: r, L, h => by
    unfold lv_gt at h
    split at h
    · rename_i hb
      cases h
      have e : q.1 = i := Nat.eq_of_beq_eq_true hb
      have := L.2.2 q List.mem_cons_self
      rw [e] at this
      exact this
    · exact lv_gt_ok (lv := r) ⟨L.1, L.2.1, fun z hz => L.2.2 z (List.mem_cons_of_mem _ hz)⟩ h
def lv_s1 (lv : List (Nat × Value)) (i : Nat) (v : Value) : List (Nat × Value) := (i, v) :: lv.filter (fun q => !(q.1 == i) && !(q.1 + 1 == i && q.2.category == 2))
def lv_s2 (lv : List (Nat × Value)) (i : Nat) (v : Value) : List (Nat × Value) := (i, v) :: lv.filter (fun q => !(q.1 == i) && (!(q.1 == i + 1) && !(q.1 + 1 == i && q.2.category == 2)))
def pe1 (nL : Nat) (i : Instr) (len : Nat) (v : Value) (pc : Nat) (lv : List (Nat × Value)) (st : List Value) : Option (Nat × List (Nat × Value) × List Value) := match i, len with
  | .iconst a, 1 => match v with | .int x => (match decide (Int32.ofInt a = x) with | true => some (pc + 1, lv, .int x :: st) | false => none) | _ => none
  | .bipush a, 2 => match v with | .int x => (match decide ((Int8.ofInt a).toInt32 = x) with | true => some (pc + 2, lv, .int x :: st) | false => none) | _ => none
  | .sipush a, 3 => match v with | .int x => (match decide ((Int16.ofInt a).toInt32 = x) with | true => some (pc + 3, lv, .int x :: st) | false => none) | _ => none
  | .lconst a, 1 => match v with | .long x => (match decide (Int64.ofNat (a : Nat) = x) with | true => some (pc + 1, lv, .long x :: st) | false => none) | _ => none
  | .iload_n a, 1 => match lv_gt lv a with | some (.int x) => some (pc + 1, lv, .int x :: st) | _ => none
  | .iload a, 2 => match lv_gt lv a with | some (.int x) => some (pc + 2, lv, .int x :: st) | _ => none
  | .istore_n a, 1 => match st with | .int x :: r => (match Nat.ble (a + 1) nL with | true => some (pc + 1, lv_s1 lv a (.int x), r) | false => none) | _ => none
  | .istore a, 2 => match st with | .int x :: r => (match Nat.ble (a + 1) nL with | true => some (pc + 2, lv_s1 lv a (.int x), r) | false => none) | _ => none
  | .lload_n a, 1 => match lv_gt lv a with | some (.long x) => some (pc + 1, lv, .long x :: st) | _ => none
  | .lload a, 2 => match lv_gt lv a with | some (.long x) => some (pc + 2, lv, .long x :: st) | _ => none
  | .lstore_n a, 1 => match st with | .long x :: r => (match Nat.ble (a + 2) nL with | true => some (pc + 1, lv_s2 lv a (.long x), r) | false => none) | _ => none
  | .lstore a, 2 => match st with | .long x :: r => (match Nat.ble (a + 2) nL with | true => some (pc + 2, lv_s2 lv a (.long x), r) | false => none) | _ => none
  | .aload_n a, 1 => match lv_gt lv a with | some (.ref x) => some (pc + 1, lv, .ref x :: st) | _ => none
  | .aload a, 2 => match lv_gt lv a with | some (.ref x) => some (pc + 2, lv, .ref x :: st) | _ => none
  | .astore_n a, 1 => match st with | .ref x :: r => (match Nat.ble (a + 1) nL with | true => some (pc + 1, lv_s1 lv a (.ref x), r) | false => none) | _ => none
  | .astore a, 2 => match st with | .ref x :: r => (match Nat.ble (a + 1) nL with | true => some (pc + 2, lv_s1 lv a (.ref x), r) | false => none) | _ => none
  | .fload_n a, 1 => match lv_gt lv a with | some (.float x) => some (pc + 1, lv, .float x :: st) | _ => none
  | .fload a, 2 => match lv_gt lv a with | some (.float x) => some (pc + 2, lv, .float x :: st) | _ => none
  | .fstore_n a, 1 => match st with | .float x :: r => (match Nat.ble (a + 1) nL with | true => some (pc + 1, lv_s1 lv a (.float x), r) | false => none) | _ => none
  | .fstore a, 2 => match st with | .float x :: r => (match Nat.ble (a + 1) nL with | true => some (pc + 2, lv_s1 lv a (.float x), r) | false => none) | _ => none
  | .dload_n a, 1 => match lv_gt lv a with | some (.double x) => some (pc + 1, lv, .double x :: st) | _ => none
  | .dload a, 2 => match lv_gt lv a with | some (.double x) => some (pc + 2, lv, .double x :: st) | _ => none
  | .dstore_n a, 1 => match st with | .double x :: r => (match Nat.ble (a + 2) nL with | true => some (pc + 1, lv_s2 lv a (.double x), r) | false => none) | _ => none
  | .dstore a, 2 => match st with | .double x :: r => (match Nat.ble (a + 2) nL with | true => some (pc + 2, lv_s2 lv a (.double x), r) | false => none) | _ => none
  | .iinc a b, 3 => match lv_gt lv a with | some (.int x) => (match v with | .int z => (match decide (Int32.ofInt b = z), Nat.ble (a + 1) nL with | true, true => some (pc + 3, lv_s1 lv a (.int (x + z)), st) | _, _ => none) | _ => none) | _ => none
  | .iadd, 1 => match st with | .int y :: .int x :: r => some (pc + 1, lv, .int (x + y) :: r) | _ => none
  | .isub, 1 => match st with | .int y :: .int x :: r => some (pc + 1, lv, .int (x - y) :: r) | _ => none
  | .imul, 1 => match st with | .int y :: .int x :: r => some (pc + 1, lv, .int (x * y) :: r) | _ => none
  | .ishl, 1 => match st with | .int y :: .int x :: r => some (pc + 1, lv, .int (x <<< (y &&& 31)) :: r) | _ => none
  | .ishr, 1 => match st with | .int y :: .int x :: r => some (pc + 1, lv, .int (x >>> (y &&& 31)) :: r) | _ => none
  | .iand, 1 => match st with | .int y :: .int x :: r => some (pc + 1, lv, .int (x &&& y) :: r) | _ => none
  | .ior, 1 => match st with | .int y :: .int x :: r => some (pc + 1, lv, .int (x ||| y) :: r) | _ => none
  | .ineg, 1 => match st with | .int x :: r => some (pc + 1, lv, .int (-x) :: r) | _ => none
  | .ladd, 1 => match st with | .long y :: .long x :: r => some (pc + 1, lv, .long (x + y) :: r) | _ => none
  | .lsub, 1 => match st with | .long y :: .long x :: r => some (pc + 1, lv, .long (x - y) :: r) | _ => none
  | .lmul, 1 => match st with | .long y :: .long x :: r => some (pc + 1, lv, .long (x * y) :: r) | _ => none
  | .land, 1 => match st with | .long y :: .long x :: r => some (pc + 1, lv, .long (x &&& y) :: r) | _ => none
  | .lor, 1 => match st with | .long y :: .long x :: r => some (pc + 1, lv, .long (x ||| y) :: r) | _ => none
  | .lushr, 1 => match st with | .int y :: .long x :: r => some (pc + 1, lv, .long ((x.toUInt64 >>> (y.toInt64.toUInt64 &&& Int64.toUInt64 63)).toInt64) :: r) | _ => none
  | .lshl, 1 => match st with | .int y :: .long x :: r => some (pc + 1, lv, .long (x <<< (y.toInt64 &&& 63)) :: r) | _ => none
  | .lcmp, 1 => match st with | .long y :: .long x :: r => some (pc + 1, lv, .int (lg_cmp x y) :: r) | _ => none
  | .i2l, 1 => match st with | .int x :: r => some (pc + 1, lv, .long x.toInt64 :: r) | _ => none
  | .l2i, 1 => match st with | .long x :: r => some (pc + 1, lv, .int x.toInt32 :: r) | _ => none
  | .i2b, 1 => match st with | .int x :: r => some (pc + 1, lv, .int x.toInt8.toInt32 :: r) | _ => none
  | .i2d, 1 => match st with | .int x :: r => some (pc + 1, lv, .double (FP.i2d x) :: r) | _ => none
  | .i2f, 1 => match st with | .int x :: r => some (pc + 1, lv, .float (FP.i2f x) :: r) | _ => none
  | .dcmp o, 1 => match st with | .double y :: .double x :: r => some (pc + 1, lv, .int (Op.cmpValue (FP.dcmp x y) o) :: r) | _ => none
  | .fcmp o, 1 => match st with | .float y :: .float x :: r => some (pc + 1, lv, .int (Op.cmpValue (FP.fcmp x y) o) :: r) | _ => none
  | .dup, 1 => match st with | .int x :: r => some (pc + 1, lv, .int x :: .int x :: r) | .ref x :: r => some (pc + 1, lv, .ref x :: .ref x :: r) | _ => none
  | .pop, 1 => match st with | .int _ :: r => some (pc + 1, lv, r) | .ref _ :: r => some (pc + 1, lv, r) | _ => none
  | .dup2, 1 => match st with | .int y :: .ref x :: r => some (pc + 1, lv, .int y :: .ref x :: .int y :: .ref x :: r) | _ => none
  | .goto a, 3 => match Int.toNat (pc + a), decide ((pc : Int) + a = ((Int.toNat (pc + a) : Nat) : Int)) with | t, true => some (t, lv, st) | _, _ => none
  | _, _ => none
section II
variable {p : Program} {l : Launch} {e : Env} {R : Room} {s : State} {m : MethodId} {args : Array Value} {below : List Frame} {meth : Method} {c : Code} {H : Heap} {locs : List Loc} {cells slots : Nat} {Q : State → Prop} {cc : ByteArray} {pc : Nat} {ls : Array Slot} {rest : List Value}
theorem lv_iincG (hexec : p.tables.exec = Jvm.exec) (hb : c.code = cc) {i nL : Nat} {n : Int} {x z : Int32} {lv : List (Nat × Value)} (hdg : decode cc pc = .ok (.iinc i n, 3)) (h : lv_has ls nL lv) (hx : ls[i]? = some (.val (.int x))) (hn : i < nL) (hz : Int32.ofInt n = z) (kk : ∀ ls' : Array Slot, lv_has ls' nL (lv_s1 lv i (.int (x + z))) → W p l e R s m args below meth c H locs cells slots Q (F0 m (pc + 3) ls' rest)) : W p l e R s m args below meth c H locs cells slots Q (F0 m pc ls rest) := by
  subst hz
  have h' : lv_has ls nL ((i, .int x) :: lv) := ⟨h.1, h.2.1, fun q hq => by
    rcases List.mem_cons.mp hq with e | hq
    · rw [e]; exact hx
    · exact h.2.2 q hq⟩
  refine lv_iinc (k := 0) hexec hb hdg h' rfl rfl hn rfl (fun ls' L' => kk ls' ?_)
  refine ⟨L'.1, L'.2.1, fun q hq => L'.2.2 q ?_⟩
  unfold lv_s1 at hq
  rcases List.mem_cons.mp hq with e | hq
  · rw [e]; exact List.mem_cons_self
  · refine List.mem_cons_of_mem _ ?_
    rw [List.mem_filter] at hq ⊢
    exact ⟨List.mem_cons_of_mem _ hq.1, hq.2⟩
end II
section PE
variable {E : ev_} {M : mt_} {Q : po_} {pc : Nat} {lv : List (Nat × Value)} {st : List Value} {H : Heap} {k n : Nat} {i : Instr} {len : Nat} {v : Value} {z : Nat × List (Nat × Value) × List Value}
set_option maxHeartbeats 4000000 in
theorem pe1_ok (hd : decode M.2.1 pc = .ok (i, len)) (h : pe1 M.2.2.1 i len v pc lv st = some z) (kk : aw E M Q z.1 z.2.1 z.2.2 H k n) : aw E M Q pc lv st H k n := by
  intro p e s m args below meth c locs ls C P L
  unfold pe1 at h
  split at h
  · split at h
    · split at h
      · rename_i hx
        cases h
        exact lv_iconst C.1 C.2.1 hd (of_decide_eq_true hx) (kk p e s m args below meth c locs ls C P L)
      · cases h
    · cases h
  · split at h
    · split at h
      · rename_i hx
        cases h
        exact lv_bipush C.1 C.2.1 hd (of_decide_eq_true hx) (kk p e s m args below meth c locs ls C P L)
      · cases h
    · cases h
  · split at h
    · split at h
      · rename_i hx
        cases h
        exact lv_sipush C.1 C.2.1 hd (of_decide_eq_true hx) (kk p e s m args below meth c locs ls C P L)
      · cases h
    · cases h
  · split at h
    · split at h
      · rename_i hx
        cases h
        exact lv_lconst C.1 C.2.1 hd (of_decide_eq_true hx) (kk p e s m args below meth c locs ls C P L)
      · cases h
    · cases h
  · split at h
    · rename_i hx
      cases h
      exact lv_iload_n C.1 C.2.1 hd rfl (lv_gt_ok L hx) (kk p e s m args below meth c locs ls C P L)
    · cases h
  · split at h
    · rename_i hx
      cases h
      exact lv_iload C.1 C.2.1 hd (lv_gt_ok L hx) (kk p e s m args below meth c locs ls C P L)
    · cases h
  · split at h
    · split at h
      · rename_i hx
        cases h
        exact lv_istore_n C.1 C.2.1 hd rfl L (Nat.le_of_ble_eq_true hx) rfl (fun ls' L' => kk p e s m args below meth c locs ls' C P L')
      · cases h
    · cases h
  · split at h
    · split at h
      · rename_i hx
        cases h
        exact lv_istore C.1 C.2.1 hd L (Nat.le_of_ble_eq_true hx) rfl (fun ls' L' => kk p e s m args below meth c locs ls' C P L')
      · cases h
    · cases h
  · split at h
    · rename_i hx
      cases h
      exact lv_lload_n C.1 C.2.1 hd rfl (lv_gt_ok L hx) (kk p e s m args below meth c locs ls C P L)
    · cases h
  · split at h
    · rename_i hx
      cases h
      exact lv_lload C.1 C.2.1 hd (lv_gt_ok L hx) (kk p e s m args below meth c locs ls C P L)
    · cases h
  · split at h
    · split at h
      · rename_i hx
        cases h
        exact lv_lstore_n C.1 C.2.1 hd rfl L (Nat.le_of_ble_eq_true hx) rfl (fun ls' L' => kk p e s m args below meth c locs ls' C P L')
      · cases h
    · cases h
  · split at h
    · split at h
      · rename_i hx
        cases h
        exact lv_lstore C.1 C.2.1 hd L (Nat.le_of_ble_eq_true hx) rfl (fun ls' L' => kk p e s m args below meth c locs ls' C P L')
      · cases h
    · cases h
  · split at h
    · rename_i hx
      cases h
      exact lv_aload_n C.1 C.2.1 hd rfl (lv_gt_ok L hx) (kk p e s m args below meth c locs ls C P L)
    · cases h
  · split at h
    · rename_i hx
      cases h
      exact lv_aload C.1 C.2.1 hd (lv_gt_ok L hx) (kk p e s m args below meth c locs ls C P L)
    · cases h
  · split at h
    · split at h
      · rename_i hx
        cases h
        exact lv_astore_n C.1 C.2.1 hd rfl L (Nat.le_of_ble_eq_true hx) rfl (fun ls' L' => kk p e s m args below meth c locs ls' C P L')
      · cases h
    · cases h
  · split at h
    · split at h
      · rename_i hx
        cases h
        exact lv_astore C.1 C.2.1 hd L (Nat.le_of_ble_eq_true hx) rfl (fun ls' L' => kk p e s m args below meth c locs ls' C P L')
      · cases h
    · cases h
  · split at h
    · rename_i hx
      cases h
      exact lv_fload_n C.1 C.2.1 hd rfl (lv_gt_ok L hx) (kk p e s m args below meth c locs ls C P L)
    · cases h
  · split at h
    · rename_i hx
      cases h
      exact lv_fload C.1 C.2.1 hd (lv_gt_ok L hx) (kk p e s m args below meth c locs ls C P L)
    · cases h
  · split at h
    · split at h
      · rename_i hx
        cases h
        exact lv_fstore_n C.1 C.2.1 hd rfl L (Nat.le_of_ble_eq_true hx) rfl (fun ls' L' => kk p e s m args below meth c locs ls' C P L')
      · cases h
    · cases h
  · split at h
    · split at h
      · rename_i hx
        cases h
        exact lv_fstore C.1 C.2.1 hd L (Nat.le_of_ble_eq_true hx) rfl (fun ls' L' => kk p e s m args below meth c locs ls' C P L')
      · cases h
    · cases h
  · split at h
    · rename_i hx
      cases h
      exact lv_dload_n C.1 C.2.1 hd rfl (lv_gt_ok L hx) (kk p e s m args below meth c locs ls C P L)
    · cases h
  · split at h
    · rename_i hx
      cases h
      exact lv_dload C.1 C.2.1 hd (lv_gt_ok L hx) (kk p e s m args below meth c locs ls C P L)
    · cases h
  · split at h
    · split at h
      · rename_i hx
        cases h
        exact lv_dstore_n C.1 C.2.1 hd rfl L (Nat.le_of_ble_eq_true hx) rfl (fun ls' L' => kk p e s m args below meth c locs ls' C P L')
      · cases h
    · cases h
  · split at h
    · split at h
      · rename_i hx
        cases h
        exact lv_dstore C.1 C.2.1 hd L (Nat.le_of_ble_eq_true hx) rfl (fun ls' L' => kk p e s m args below meth c locs ls' C P L')
      · cases h
    · cases h
  · split at h
    · rename_i hx
      split at h
      · split at h
        · rename_i hz hb
          cases h
          have hz := of_decide_eq_true hz
          exact lv_iincG C.1 C.2.1 hd L (lv_gt_ok L hx) (Nat.le_of_ble_eq_true hb) hz (fun ls' L' => kk p e s m args below meth c locs ls' C P L')
        · cases h
      · cases h
    · cases h
  · split at h
    · cases h
      exact lv_iadd C.1 C.2.1 hd (kk p e s m args below meth c locs ls C P L)
    · cases h
  · split at h
    · cases h
      exact lv_isub C.1 C.2.1 hd (kk p e s m args below meth c locs ls C P L)
    · cases h
  · split at h
    · cases h
      exact lv_imul C.1 C.2.1 hd (kk p e s m args below meth c locs ls C P L)
    · cases h
  · split at h
    · cases h
      exact lv_ishl C.1 C.2.1 hd (kk p e s m args below meth c locs ls C P L)
    · cases h
  · split at h
    · cases h
      exact lv_ishr C.1 C.2.1 hd (kk p e s m args below meth c locs ls C P L)
    · cases h
  · split at h
    · cases h
      exact lv_iand C.1 C.2.1 hd (kk p e s m args below meth c locs ls C P L)
    · cases h
  · split at h
    · cases h
      exact lv_ior C.1 C.2.1 hd (kk p e s m args below meth c locs ls C P L)
    · cases h
  · split at h
    · cases h
      exact lv_ineg C.1 C.2.1 hd (kk p e s m args below meth c locs ls C P L)
    · cases h
  · split at h
    · cases h
      exact lv_ladd C.1 C.2.1 hd (kk p e s m args below meth c locs ls C P L)
    · cases h
  · split at h
    · cases h
      exact lv_lsub C.1 C.2.1 hd (kk p e s m args below meth c locs ls C P L)
    · cases h
  · split at h
    · cases h
      exact lv_lmul C.1 C.2.1 hd (kk p e s m args below meth c locs ls C P L)
    · cases h
  · split at h
    · cases h
      exact lv_land C.1 C.2.1 hd (kk p e s m args below meth c locs ls C P L)
    · cases h
  · split at h
    · cases h
      exact lv_lor C.1 C.2.1 hd (kk p e s m args below meth c locs ls C P L)
    · cases h
  · split at h
    · cases h
      exact lv_lushr C.1 C.2.1 hd rfl (kk p e s m args below meth c locs ls C P L)
    · cases h
  · split at h
    · cases h
      exact lv_lshl C.1 C.2.1 hd rfl (kk p e s m args below meth c locs ls C P L)
    · cases h
  · split at h
    · cases h
      exact W.lcmp C.1 C.2.1 hd (kk p e s m args below meth c locs ls C P L)
    · cases h
  · split at h
    · cases h
      exact lv_i2l C.1 C.2.1 hd rfl (kk p e s m args below meth c locs ls C P L)
    · cases h
  · split at h
    · cases h
      exact lv_l2i C.1 C.2.1 hd rfl (kk p e s m args below meth c locs ls C P L)
    · cases h
  · split at h
    · cases h
      exact lv_i2b C.1 C.2.1 hd rfl (kk p e s m args below meth c locs ls C P L)
    · cases h
  · split at h
    · cases h
      exact lv_i2d C.1 C.2.1 hd (kk p e s m args below meth c locs ls C P L)
    · cases h
  · split at h
    · cases h
      exact lv_i2f C.1 C.2.1 hd (kk p e s m args below meth c locs ls C P L)
    · cases h
  · split at h
    · cases h
      exact lv_dcmp C.1 C.2.1 hd (kk p e s m args below meth c locs ls C P L)
    · cases h
  · split at h
    · cases h
      exact lv_fcmp C.1 C.2.1 hd (kk p e s m args below meth c locs ls C P L)
    · cases h
  · split at h
    · cases h
      exact lv_dup C.1 C.2.1 hd rfl (kk p e s m args below meth c locs ls C P L)
    · cases h
      exact lv_dup C.1 C.2.1 hd rfl (kk p e s m args below meth c locs ls C P L)
    · cases h
  · split at h
    · cases h
      exact lv_pop C.1 C.2.1 hd rfl (kk p e s m args below meth c locs ls C P L)
    · cases h
      exact lv_pop C.1 C.2.1 hd rfl (kk p e s m args below meth c locs ls C P L)
    · cases h
  · split at h
    · cases h
      exact lv_dup2_11 C.1 C.2.1 hd rfl rfl (kk p e s m args below meth c locs ls C P L)
    · cases h
  · split at h
    · rename_i hx
      cases h
      exact lv_goto C.1 C.2.1 hd (of_decide_eq_true hx) (kk p e s m args below meth c locs ls C P L)
    · cases h
  · cases h
def pev (nL : Nat) : List in_ → Nat → List (Nat × Value) → List Value → Option (Nat × List (Nat × Value) × List Value)
  | [], pc, lv, st => some (pc, lv, st)
  | x :: r, pc, lv, st => match Nat.beq x.1 pc with
    | true => (match pe1 nL x.2.1 x.2.2.1 x.2.2.2 pc lv st with
      | some z => pev nL r z.1 z.2.1 z.2.2
      | none => none)
    | false => none
def pok (cc : ByteArray) (b : List in_) : Prop := ∀ x ∈ b, decode cc x.1 = .ok (x.2.1, x.2.2.1)
def pokb (cc : ByteArray) (b : List in_) : Bool := b.all (fun x => decide (decode cc x.1 = .ok (x.2.1, x.2.2.1)))
theorem pev_ok : ∀ {b : List in_} {pc : Nat} {lv : List (Nat × Value)} {st : List Value}, pok M.2.1 b → pev M.2.2.1 b pc lv st = some z → aw E M Q z.1 z.2.1 z.2.2 H k n → aw E M Q pc lv st H k n
  | [], pc, lv, st, _, h, kk => by cases h; exact kk
  | x :: r, pc, lv, st, hk, h, kk => by
    unfold pev at h
    split at h
    · rename_i hb
      split at h
      · rename_i z1 h1
        have e : x.1 = pc := Nat.eq_of_beq_eq_true hb
        have hd := hk x List.mem_cons_self
        rw [e] at hd
        exact pe1_ok hd h1 (pev_ok (fun y hy => hk y (List.mem_cons_of_mem _ hy)) h kk)
      · cases h
    · cases h
theorem aw_b {pc' : Nat} {lv' : List (Nat × Value)} {st' : List Value} (b : List in_) (hk : pokb M.2.1 b = true) (h : pev M.2.2.1 b pc lv st = some (pc', lv', st')) (kk : aw E M Q pc' lv' st' H k n) : aw E M Q pc lv st H k n := pev_ok (fun x hx => of_decide_eq_true (List.all_eq_true.mp hk x hx)) h kk
end PE
