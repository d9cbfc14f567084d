section
/-! the tables: begun from the kit's skeleton and printed names -/
/-- a private method of a class that the tables say can be made, by its rows of tables_1 -/
def lw_okq (q : MethodName × Nat) : Prop := (q.1.cls ≠ "java/lang/invoke/MethodHandle" ∧ q.1.cls ≠ "java/lang/invoke/VarHandle") ∧ Cond.instantiable q.1.cls q.2 ∈ tables_1 ∧ Cond.privateMethod q.1 ∈ tables_1 ∧ Cond.instanceMethod q.1 ∈ tables_1
theorem lw_p0 : lw_okq (⟨"java/lang/Throwable", "fillInStackTrace", "(I)Ljava/lang/Throwable;"⟩, 6) := ⟨⟨by decide +kernel, by decide +kernel⟩, List.mem_of_getElem? (i := 504) (by decide +kernel), List.mem_of_getElem? (i := 502) (by decide +kernel), List.mem_of_getElem? (i := 503) (by decide +kernel)⟩
theorem lw_p1 : lw_okq (⟨"ArmDuel$Reader", "readDrive", "()V"⟩, 7) := ⟨⟨by decide +kernel, by decide +kernel⟩, List.mem_of_getElem? (i := 34) (by decide +kernel), List.mem_of_getElem? (i := 608) (by decide +kernel), List.mem_of_getElem? (i := 609) (by decide +kernel)⟩
theorem lw_p2 : lw_okq (⟨"ArmDuel$Reader", "readWord", "(Ljava/lang/String;)I"⟩, 7) := ⟨⟨by decide +kernel, by decide +kernel⟩, List.mem_of_getElem? (i := 34) (by decide +kernel), List.mem_of_getElem? (i := 613) (by decide +kernel), List.mem_of_getElem? (i := 614) (by decide +kernel)⟩
theorem lw_p3 : lw_okq (⟨"ArmDuel$Reader", "skipSpaces", "()V"⟩, 7) := ⟨⟨by decide +kernel, by decide +kernel⟩, List.mem_of_getElem? (i := 34) (by decide +kernel), List.mem_of_getElem? (i := 617) (by decide +kernel), List.mem_of_getElem? (i := 618) (by decide +kernel)⟩
theorem lw_p4 : lw_okq (⟨"ArmDuel$Reader", "placeIn", "(Ljava/lang/String;)I"⟩, 7) := ⟨⟨by decide +kernel, by decide +kernel⟩, List.mem_of_getElem? (i := 34) (by decide +kernel), List.mem_of_getElem? (i := 621) (by decide +kernel), List.mem_of_getElem? (i := 622) (by decide +kernel)⟩
theorem lw_p5 : lw_okq (⟨"ArmDuel$Reader", "isToken", "(Ljava/lang/String;II)Z"⟩, 7) := ⟨⟨by decide +kernel, by decide +kernel⟩, List.mem_of_getElem? (i := 34) (by decide +kernel), List.mem_of_getElem? (i := 627) (by decide +kernel), List.mem_of_getElem? (i := 628) (by decide +kernel)⟩
theorem lw_p6 : lw_okq (⟨"ArmDuel$Reader", "fail", "(II)V"⟩, 7) := ⟨⟨by decide +kernel, by decide +kernel⟩, List.mem_of_getElem? (i := 34) (by decide +kernel), List.mem_of_getElem? (i := 631) (by decide +kernel), List.mem_of_getElem? (i := 632) (by decide +kernel)⟩
theorem lw_p7 : lw_okq (⟨"ArmDuel$Reader", "readNumber", "(II)I"⟩, 7) := ⟨⟨by decide +kernel, by decide +kernel⟩, List.mem_of_getElem? (i := 34) (by decide +kernel), List.mem_of_getElem? (i := 635) (by decide +kernel), List.mem_of_getElem? (i := 636) (by decide +kernel)⟩
theorem lw_p8 : lw_okq (⟨"ArmDuel$Reader", "hasMore", "()Z"⟩, 7) := ⟨⟨by decide +kernel, by decide +kernel⟩, List.mem_of_getElem? (i := 34) (by decide +kernel), List.mem_of_getElem? (i := 640) (by decide +kernel), List.mem_of_getElem? (i := 641) (by decide +kernel)⟩
theorem lw_p9 : lw_okq (⟨"ArmDuel$Reader", "readStatement", "()V"⟩, 7) := ⟨⟨by decide +kernel, by decide +kernel⟩, List.mem_of_getElem? (i := 34) (by decide +kernel), List.mem_of_getElem? (i := 644) (by decide +kernel), List.mem_of_getElem? (i := 645) (by decide +kernel)⟩
theorem lw_p10 : lw_okq (⟨"ArmDuel$Reader", "readRule", "()V"⟩, 7) := ⟨⟨by decide +kernel, by decide +kernel⟩, List.mem_of_getElem? (i := 34) (by decide +kernel), List.mem_of_getElem? (i := 648) (by decide +kernel), List.mem_of_getElem? (i := 649) (by decide +kernel)⟩
theorem lw_p11 : lw_okq (⟨"ArmDuel$Reader", "readMaster", "()V"⟩, 7) := ⟨⟨by decide +kernel, by decide +kernel⟩, List.mem_of_getElem? (i := 34) (by decide +kernel), List.mem_of_getElem? (i := 654) (by decide +kernel), List.mem_of_getElem? (i := 655) (by decide +kernel)⟩
theorem lw_p12 : lw_okq (⟨"ArmDuel$Reader", "readAsk", "()V"⟩, 7) := ⟨⟨by decide +kernel, by decide +kernel⟩, List.mem_of_getElem? (i := 34) (by decide +kernel), List.mem_of_getElem? (i := 664) (by decide +kernel), List.mem_of_getElem? (i := 665) (by decide +kernel)⟩
theorem lw_p13 : lw_okq (⟨"ArmDuel$Reader", "readRival", "()V"⟩, 7) := ⟨⟨by decide +kernel, by decide +kernel⟩, List.mem_of_getElem? (i := 34) (by decide +kernel), List.mem_of_getElem? (i := 672) (by decide +kernel), List.mem_of_getElem? (i := 673) (by decide +kernel)⟩
theorem lw_p14 : lw_okq (⟨"ArmDuel", "requireCylinder", "(I)V"⟩, 8) := ⟨⟨by decide +kernel, by decide +kernel⟩, List.mem_of_getElem? (i := 26) (by decide +kernel), List.mem_of_getElem? (i := 951) (by decide +kernel), List.mem_of_getElem? (i := 952) (by decide +kernel)⟩
theorem lw_p15 : lw_okq (⟨"ArmDuel", "requireRule", "(I)V"⟩, 8) := ⟨⟨by decide +kernel, by decide +kernel⟩, List.mem_of_getElem? (i := 26) (by decide +kernel), List.mem_of_getElem? (i := 983) (by decide +kernel), List.mem_of_getElem? (i := 984) (by decide +kernel)⟩
def lw_privs_1 : List (MethodName × Nat) := [(⟨"java/lang/Throwable", "fillInStackTrace", "(I)Ljava/lang/Throwable;"⟩, 6), (⟨"ArmDuel$Reader", "readDrive", "()V"⟩, 7), (⟨"ArmDuel$Reader", "readWord", "(Ljava/lang/String;)I"⟩, 7), (⟨"ArmDuel$Reader", "skipSpaces", "()V"⟩, 7), (⟨"ArmDuel$Reader", "placeIn", "(Ljava/lang/String;)I"⟩, 7), (⟨"ArmDuel$Reader", "isToken", "(Ljava/lang/String;II)Z"⟩, 7), (⟨"ArmDuel$Reader", "fail", "(II)V"⟩, 7), (⟨"ArmDuel$Reader", "readNumber", "(II)I"⟩, 7), (⟨"ArmDuel$Reader", "hasMore", "()Z"⟩, 7), (⟨"ArmDuel$Reader", "readStatement", "()V"⟩, 7), (⟨"ArmDuel$Reader", "readRule", "()V"⟩, 7), (⟨"ArmDuel$Reader", "readMaster", "()V"⟩, 7), (⟨"ArmDuel$Reader", "readAsk", "()V"⟩, 7), (⟨"ArmDuel$Reader", "readRival", "()V"⟩, 7), (⟨"ArmDuel", "requireCylinder", "(I)V"⟩, 8), (⟨"ArmDuel", "requireRule", "(I)V"⟩, 8)]
theorem lw_r1 : ∀ q ∈ lw_privs_1, lw_okq q := List.forall_mem_cons.mpr ⟨lw_p0, List.forall_mem_cons.mpr ⟨lw_p1, List.forall_mem_cons.mpr ⟨lw_p2, List.forall_mem_cons.mpr ⟨lw_p3, List.forall_mem_cons.mpr ⟨lw_p4, List.forall_mem_cons.mpr ⟨lw_p5, List.forall_mem_cons.mpr ⟨lw_p6, List.forall_mem_cons.mpr ⟨lw_p7, List.forall_mem_cons.mpr ⟨lw_p8, List.forall_mem_cons.mpr ⟨lw_p9, List.forall_mem_cons.mpr ⟨lw_p10, List.forall_mem_cons.mpr ⟨lw_p11, List.forall_mem_cons.mpr ⟨lw_p12, List.forall_mem_cons.mpr ⟨lw_p13, List.forall_mem_cons.mpr ⟨lw_p14, List.forall_mem_cons.mpr ⟨lw_p15, fun _ h => absurd h List.not_mem_nil⟩⟩⟩⟩⟩⟩⟩⟩⟩⟩⟩⟩⟩⟩⟩⟩
theorem lw_p16 : lw_okq (⟨"ArmDuel$Duel", "foeNow", "()I"⟩, 14) := ⟨⟨by decide +kernel, by decide +kernel⟩, List.mem_of_getElem? (i := 180) (by decide +kernel), List.mem_of_getElem? (i := 1039) (by decide +kernel), List.mem_of_getElem? (i := 1040) (by decide +kernel)⟩
theorem lw_p17 : lw_okq (⟨"ArmDuel$Duel", "addNextAsk", "()V"⟩, 14) := ⟨⟨by decide +kernel, by decide +kernel⟩, List.mem_of_getElem? (i := 180) (by decide +kernel), List.mem_of_getElem? (i := 1044) (by decide +kernel), List.mem_of_getElem? (i := 1045) (by decide +kernel)⟩
theorem lw_p18 : lw_okq (⟨"ArmDuel$Duel", "ruleBy", "(III)I"⟩, 14) := ⟨⟨by decide +kernel, by decide +kernel⟩, List.mem_of_getElem? (i := 180) (by decide +kernel), List.mem_of_getElem? (i := 1060) (by decide +kernel), List.mem_of_getElem? (i := 1061) (by decide +kernel)⟩
theorem lw_p19 : lw_okq (⟨"ArmDuel$Duel", "ruleDrawn", "(I)I"⟩, 14) := ⟨⟨by decide +kernel, by decide +kernel⟩, List.mem_of_getElem? (i := 180) (by decide +kernel), List.mem_of_getElem? (i := 1064) (by decide +kernel), List.mem_of_getElem? (i := 1065) (by decide +kernel)⟩
theorem lw_p20 : lw_okq (⟨"ArmDuel$Arm", "remove", "(I)V"⟩, 12) := ⟨⟨by decide +kernel, by decide +kernel⟩, List.mem_of_getElem? (i := 188) (by decide +kernel), List.mem_of_getElem? (i := 1134) (by decide +kernel), List.mem_of_getElem? (i := 1135) (by decide +kernel)⟩
theorem lw_p21 : lw_okq (⟨"ArmDuel$Duel", "loseWeights", "()V"⟩, 14) := ⟨⟨by decide +kernel, by decide +kernel⟩, List.mem_of_getElem? (i := 180) (by decide +kernel), List.mem_of_getElem? (i := 1138) (by decide +kernel), List.mem_of_getElem? (i := 1139) (by decide +kernel)⟩
theorem lw_p22 : lw_okq (⟨"ArmDuel$Records", "noteRegret", "(LArmDuel$Duel;)V"⟩, 14) := ⟨⟨by decide +kernel, by decide +kernel⟩, List.mem_of_getElem? (i := 309) (by decide +kernel), List.mem_of_getElem? (i := 1154) (by decide +kernel), List.mem_of_getElem? (i := 1155) (by decide +kernel)⟩
theorem lw_p23 : lw_okq (⟨"ArmDuel$Records", "noteServed", "(LArmDuel$Arm;I)V"⟩, 14) := ⟨⟨by decide +kernel, by decide +kernel⟩, List.mem_of_getElem? (i := 309) (by decide +kernel), List.mem_of_getElem? (i := 1172) (by decide +kernel), List.mem_of_getElem? (i := 1173) (by decide +kernel)⟩
theorem lw_p24 : lw_okq (⟨"ArmDuel", "requireArm", "(I)V"⟩, 8) := ⟨⟨by decide +kernel, by decide +kernel⟩, List.mem_of_getElem? (i := 26) (by decide +kernel), List.mem_of_getElem? (i := 1191) (by decide +kernel), List.mem_of_getElem? (i := 1192) (by decide +kernel)⟩
theorem lw_p25 : lw_okq (⟨"ArmDuel", "requireWindow", "(II)V"⟩, 8) := ⟨⟨by decide +kernel, by decide +kernel⟩, List.mem_of_getElem? (i := 26) (by decide +kernel), List.mem_of_getElem? (i := 1287) (by decide +kernel), List.mem_of_getElem? (i := 1288) (by decide +kernel)⟩
theorem lw_p26 : lw_okq (⟨"ArmDuel$Tour", "nextOf", "(LArmDuel$Settings;II)I"⟩, 3) := ⟨⟨by decide +kernel, by decide +kernel⟩, List.mem_of_getElem? (i := 381) (by decide +kernel), List.mem_of_getElem? (i := 1416) (by decide +kernel), List.mem_of_getElem? (i := 1417) (by decide +kernel)⟩
theorem lw_p27 : lw_okq (⟨"ArmDuel$Tour", "costOver", "(LArmDuel$Settings;III)I"⟩, 3) := ⟨⟨by decide +kernel, by decide +kernel⟩, List.mem_of_getElem? (i := 381) (by decide +kernel), List.mem_of_getElem? (i := 1420) (by decide +kernel), List.mem_of_getElem? (i := 1421) (by decide +kernel)⟩
def lw_privs_2 : List (MethodName × Nat) := [(⟨"ArmDuel$Duel", "foeNow", "()I"⟩, 14), (⟨"ArmDuel$Duel", "addNextAsk", "()V"⟩, 14), (⟨"ArmDuel$Duel", "ruleBy", "(III)I"⟩, 14), (⟨"ArmDuel$Duel", "ruleDrawn", "(I)I"⟩, 14), (⟨"ArmDuel$Arm", "remove", "(I)V"⟩, 12), (⟨"ArmDuel$Duel", "loseWeights", "()V"⟩, 14), (⟨"ArmDuel$Records", "noteRegret", "(LArmDuel$Duel;)V"⟩, 14), (⟨"ArmDuel$Records", "noteServed", "(LArmDuel$Arm;I)V"⟩, 14), (⟨"ArmDuel", "requireArm", "(I)V"⟩, 8), (⟨"ArmDuel", "requireWindow", "(II)V"⟩, 8), (⟨"ArmDuel$Tour", "nextOf", "(LArmDuel$Settings;II)I"⟩, 3), (⟨"ArmDuel$Tour", "costOver", "(LArmDuel$Settings;III)I"⟩, 3)]
theorem lw_r2 : ∀ q ∈ lw_privs_2, lw_okq q := List.forall_mem_cons.mpr ⟨lw_p16, List.forall_mem_cons.mpr ⟨lw_p17, List.forall_mem_cons.mpr ⟨lw_p18, List.forall_mem_cons.mpr ⟨lw_p19, List.forall_mem_cons.mpr ⟨lw_p20, List.forall_mem_cons.mpr ⟨lw_p21, List.forall_mem_cons.mpr ⟨lw_p22, List.forall_mem_cons.mpr ⟨lw_p23, List.forall_mem_cons.mpr ⟨lw_p24, List.forall_mem_cons.mpr ⟨lw_p25, List.forall_mem_cons.mpr ⟨lw_p26, List.forall_mem_cons.mpr ⟨lw_p27, fun _ h => absurd h List.not_mem_nil⟩⟩⟩⟩⟩⟩⟩⟩⟩⟩⟩⟩
def lw_privs : List (MethodName × Nat) := lw_privs_1 ++ (lw_privs_2)
def lw_tbl : List Cond := k2_sels lw_privs ++ tables_1
theorem lw_privs_ok : ∀ q ∈ lw_privs, lw_okq q := by
  show ∀ q ∈ lw_privs_1 ++ (lw_privs_2), lw_okq q
  exact List.forall_mem_append.mpr ⟨lw_r1, lw_r2⟩
/-- the streams that the claim lets the run draw from -/
abbrev lw_cs : List Choice := [Jvm.Choice.named "NaN.bits"]
theorem lw_bits : nanBits ∈ lw_cs := by first | decide | exact List.mem_cons_self | simp [lw_cs, nanBits]
/-! ===== BEGIN words of one list among another's, by their places ===== -/
theorem goodIn_r {big : List Cond} (ws : List Cond) (ps : List Nat) (hp : ws = ps.filterMap (fun i => big[i]?)) (h : ws.all goodWord = true) : GoodIn big ws := by
  intro w hw
  have h1 := List.all_eq_true.mp h w hw
  rw [hp] at hw
  obtain ⟨i, -, hi⟩ := List.mem_filterMap.mp hw
  have hm : w ∈ big := by first | exact List.mem_of_getElem? hi | exact List.getElem?_mem hi
  exact ⟨hm, good_of_word h1⟩
theorem goodIn_app {big a b : List Cond} (ha : GoodIn big a) (hb : GoodIn big b) : GoodIn big (a ++ b) := fun w h => (List.mem_append.mp h).elim (ha w) (hb w)
theorem goodIn_ca {big a b : List Cond} {c : Cond} (ha : GoodIn big (c :: a)) (hb : GoodIn big b) : GoodIn big (c :: (a ++ b)) := fun w h => (List.mem_cons.mp h).elim (fun e => ha w (List.mem_cons.mpr (Or.inl e))) (fun h => (List.mem_append.mp h).elim (fun h => ha w (List.mem_cons.mpr (Or.inr h))) (hb w))
theorem goodIn_sub {big ws : List Cond} (hm : ∀ w ∈ ws, w ∈ big) (h : ws.all goodWord = true) : GoodIn big ws := fun w hw => ⟨hm w hw, good_of_word (List.all_eq_true.mp h w hw)⟩
/-! ===== END ===== -/


/-! ===== BEGIN exceptions that leave a method, and their catching by the caller (launches without stack traces) ===== -/
section VXA
/-! The laws vx_back, vx_callV, vx_callS, vx_callSW, vx_throw0, vx_throwS follow proofs of the library, with one case more: JvmDerived/Free/Laws.lean (Back.of_free), Shelf42/LK1.lean (callV, callS), Shelf/KitTraced.lean (throwNew0V, throwNewS). -/
/-- where a method has thrown q: the class by its name, the cell, what was written, the world -/
def vx_T (XC : String → State → State → Prop) (st : State) (q : Addr) (t : State) (mc ms : Nat) (free : Addr → Prop) : Prop :=
  ∃ (E : String) (ce : Cell) (L : List Loc), XC E st t ∧ t.heap[q]? = some ce ∧ ce.vm = .none ∧ st.vm.findClass E = some ce.cls ∧ st.WarmedH t.vm ∧ st.sameButNew ({ t with vm := st.vm } : State) L mc ms ∧ ∀ z ∈ L, free z.base
def vx_Q (Qc : Array Value → State → Outcome → State → Prop) (XC : String → State → State → Prop) (mc ms : Nat) (free : Addr → Prop) : Array Value → State → Outcome → State → Prop := fun a st o t =>
  (Qc a st o t ∧ ∃ L, FrameEnd st o t L mc ms ∧ ∀ q ∈ L, free q.base) ∨ ∃ q, o = .threw q ∧ vx_T XC st q t mc ms free
/-- a callee that returns or throws -/
def vx_Met (l : Launch) (y : MethodName) (ws : List Cond) (rm : Room) (Pc : Array Value → State → Prop) (Qc : Array Value → State → Outcome → State → Prop) (XC : String → State → State → Prop) (mc ms : Nat) (free : Addr → Prop) : Prop :=
  MetFree l y (headSpec ws rm) Pc (fun _ _ _ _ _ => True) (vx_Q Qc XC mc ms free)
def vx_Post (XC : String → State → State → Prop) (mc ms : Nat) (free : Addr → Prop) : Pt → Array Value → Addr → Pt → Prop := fun A a q B =>
  ∃ (g : JFrame) (mk : MethodId) (t : State) (L : List Loc) (E : String) (ce : Cell), B.U.heap = t.heap ∧ B.U.vm = t.vm ∧ XC E (A.U.calling g mk a) t ∧ t.heap[q]? = some ce ∧ ce.vm = .none ∧ A.U.vm.findClass E = some ce.cls ∧ B.locs = A.locs ++ L ∧ (∀ z ∈ L, free z.base) ∧ B.cells = A.cells + mc ∧ B.slots = A.slots + ms
def vx_Back (l : Launch) (R : Room) (p : Program) (e : Env) (below : List Frame) (s : State) (sargs : Array Value) (y : MethodName) (len W9 : Nat)
    (Pre : Pt → Array Value → Prop) (Post : Pt → Array Value → Option Value → Pt → Prop) (PostX : Pt → Array Value → Addr → Pt → Prop) : Prop :=
  ∀ (m : MethodId) (meth : Method) (c : Code) (A : Pt) (g : JFrame) (ig : Instr) (mk : MethodId) (a : Array Value),
    Stand p l e R s m sargs below meth c A.U A.locs A.cells A.slots → g.method = m → g.locals.size = c.maxLocals → decode c.code g.pc = .ok (ig, len) →
    2 * g.monitorRoom + (g.stack.map fun v => v.category).sum ≤ W9 → A.U.methodNamed? y = some mk → Pre A a →
    (∃ (v : Option Value) (B : Pt), Stand p l e R s m sargs below meth c B.U B.locs B.cells B.slots ∧ Post A a v B ∧
      Steps p.tables e below (doInvoke e (A.U.setTop g) [] mk a).1 (B.U.setTop { g with pc := g.pc + len, stack := v.toList ++ g.stack })) ∨
    (∃ (q : Addr) (B : Pt), Stand p l e R s m sargs below meth c B.U B.locs B.cells B.slots ∧ PostX A a q B ∧
      Steps p.tables e below (doInvoke e (A.U.setTop g) [] mk a).1 ((B.U.setTop g).pushFrame (.throwing q)))
section Payer
variable {l : Launch} {R : Room} {p : Program} {e : Env} {below : List Frame} {s : State} {sargs : Array Value} {y : MethodName} {len W9 : Nat}
theorem vx_back {ws : List Cond} {rm : Room} {Pc : Array Value → State → Prop} {Qc : Array Value → State → Outcome → State → Prop} {XC : String → State → State → Prop} {mc ms : Nat} {free : Addr → Prop} {bytes : ByteArray} {maxL : Nat} {ret : Option FieldType}
    (hM : vx_Met l y ws rm Pc Qc XC mc ms free) (hblind : FrameBlind Pc) (hrc : rm.cells = mc) (hrs : rm.slots = ms)
    (hframes : rm.frames + 1 ≤ R.frames) (hlocals : W9 + (maxL + 11) + rm.locals ≤ R.locals)
    (hws : ∀ w ∈ ws, ∀ a' U, s.WarmedH U.vm → w.before a' U = true) (hcode : Cond.code y bytes maxL ret ∈ ws) (hinit : ∀ a' U, s.WarmedH U.vm → (Cond.initialized y.cls).before a' U = true) :
    vx_Back l R p e below s sargs y len W9 (PreOf R mc ms Pc) (PostOf Qc mc ms free) (vx_Post XC mc ms free) := by
  intro m meth c A g ig mk a X hg hsize hdg hW hn hp
  have h1 : (headSpec ws rm).pre.before a A.U = true := atoms_intro fun w hw => hws w hw _ _ X.warmed
  have h2 : (Cond.code y bytes maxL ret).before a A.U = true := hws _ hcode _ _ X.warmed
  have h3 : (Cond.initialized y.cls).before a A.U = true := hinit _ _ X.warmed
  have h4 : A.cells + (headSpec ws rm).room.cells ≤ R.cells := by rw [show (headSpec ws rm).room.cells = mc from hrc]; exact hp.1
  have h5 : A.slots + (headSpec ws rm).room.slots ≤ R.slots := by rw [show (headSpec ws rm).room.slots = ms from hrs]; exact hp.2.1
  have hPc : Pc a (A.U.calling g mk a) := hblind _ _ _ _ hp.2.2
  obtain ⟨U, Ls, c0, s0⟩ := A
  dsimp only [Pt.U, Pt.locs, Pt.cells, Pt.slots] at h1 h2 h3 h4 h5 X hn hPc ⊢
  obtain ⟨methY, cY, hmY, hcY, -, hlY, -, -, -, -⟩ := Cond.code_spec hn h2
  obtain ⟨kY, hkY, -⟩ := className_of_methodNamed hn
  have hinitY : kY.init = .initialized := Cond.initialized_spec (findClass_of_methodNamed hn) hkY h3
  have h : At U g.method c below := by rw [hg]; exact X.here
  have hlocals9 : W9 + (maxL + 11) + (headSpec ws rm).room.locals ≤ R.locals := hlocals
  have happ : (headSpec ws rm).appliesLoose y e.platform (U.calling g mk a) = true :=
    Spec.appliesLoose_calling (g := g) h hdg hn hkY hinitY
      (X.room_calling (g := g) (R' := (headSpec ws rm).room) hsize hmY hcY hframes (by rw [hlY]; omega) h4 h5) h1
  obtain ⟨mid, hmid⟩ := h.above
  have hfr : (U.setTop g).frames = (.java g :: mid) ++ below := by rw [State.frames_setTop' g h.top, hmid]; rfl
  obtain ⟨o, s₂, hsteps, -, hend, hq⟩ := Steps.callFree hM p X.admits X.cas X.clock (acts := []) hfr happ hPc trivial
  have hq' : vx_Q Qc XC mc ms free a (U.calling g mk a) o s₂ := hq
  rw [State.frames_setTop' g h.top] at hend
  obtain ⟨g₀, hg0⟩ := Option.isSome_iff_exists.mp h.top
  obtain ⟨r, hr⟩ := State.topJava?_eq_some.mp hg0
  have hr' : (({ U with heap := s₂.heap, slotsUsed := s₂.slotsUsed } : State).setVm s₂.vm).frames = .java g₀ :: r := hr
  rcases hq' with ⟨hqc, L, hfe, hL⟩ | ⟨q, rfl, E, ce, L, hx, hce, hcv, hcl, hW₂, hsm, hL⟩
  · obtain ⟨⟨v, rfl⟩, hW₂, e2, q2, q3, q4, q5, q6⟩ := id hfe
    have e3 : s₂ = ({ (U.calling g mk a).setFrames s₂.frames with heap := s₂.heap, slotsUsed := s₂.slotsUsed } : State).setVm s₂.vm := by
      have : s₂ = ({ s₂ with vm := (U.calling g mk a).vm } : State).setVm s₂.vm := rfl
      rw [e2] at this
      exact this
    obtain ⟨c₂, i₂, len₂, hc₂, hd₂, hf₂⟩ := hend
    have hW' : U.WarmedH s₂.vm := hW₂
    have hcc : c₂ = c := by
      have h1 : s₂.code? g.method = U.code? g.method := by
        rw [State.code?_eq, State.code?_eq, hW'.alike.method?]
      exact Option.some.inj (hc₂.symm.trans (h1.trans h.code))
    subst hcc
    have hlen : len₂ = len := by rw [hdg] at hd₂; cases hd₂; rfl
    subst hlen
    have hs₂ : s₂ = (({ U with heap := s₂.heap, slotsUsed := s₂.slotsUsed } : State).setVm s₂.vm).setTop { g with pc := g.pc + len₂, stack := v.toList ++ g.stack } := by
      refine e3.trans ?_
      rw [hf₂, State.calling_eq h.top, State.setFrames_setFrames, State.setTop_of_frames _ hr', hr]
      rfl
    have hsame : U.sameButNew ({ U with heap := s₂.heap, slotsUsed := s₂.slotsUsed } : State) L mc ms := by
      refine ⟨?_, q2, q3, q4, q5, q6⟩
      obtain ⟨t, ht, -⟩ := State.frames_cons hr
      show ({ U with heap := s₂.heap, slotsUsed := s₂.slotsUsed } : State) = { U.setFrames U.frames with heap := s₂.heap, slotsUsed := s₂.slotsUsed }
      rw [State.setFrames_self ht]
    subst hg
    refine Or.inl ⟨v, ⟨(({ U with heap := s₂.heap, slotsUsed := s₂.slotsUsed } : State).setVm s₂.vm), Ls ++ L, c0 + mc, s0 + ms⟩,
      ⟨X.admits, X.cas, X.clock, X.frames, X.room, X.hears, X.method, X.code, (X.here.setHeapUsed s₂.heap s₂.slotsUsed).setVm hW'.alike, X.tail, State.WarmedH.trans X.warmed hW', X.limits, X.bytes, X.same.trans (hsame.setVm s.vm)⟩,
      ⟨g, mk, s₂, L, rfl, rfl, hqc, rfl, hL, rfl, rfl⟩, ?_⟩
    show Steps p.tables e below _ ((({ U with heap := s₂.heap, slotsUsed := s₂.slotsUsed } : State).setVm s₂.vm).setTop { g with pc := g.pc + len₂, stack := v.toList ++ g.stack })
    rw [← hs₂]
    exact hsteps
  · obtain ⟨e2, q2, q3, q4, q5, q6⟩ := id hsm
    have e3 : s₂ = ({ (U.calling g mk a).setFrames s₂.frames with heap := s₂.heap, slotsUsed := s₂.slotsUsed } : State).setVm s₂.vm := by
      have : s₂ = ({ s₂ with vm := (U.calling g mk a).vm } : State).setVm s₂.vm := rfl
      rw [e2] at this
      exact this
    have hf₂ : s₂.frames = .throwing q :: .java g :: U.frames.tail := hend
    have hW' : U.WarmedH s₂.vm := hW₂
    have hs₂ : s₂ = ((({ U with heap := s₂.heap, slotsUsed := s₂.slotsUsed } : State).setVm s₂.vm).setTop g).pushFrame (.throwing q) := by
      refine e3.trans ?_
      rw [hf₂, State.calling_eq h.top, State.setFrames_setFrames, State.pushFrame, State.frames_setTop _ hr', State.setTop_of_frames _ hr', State.setFrames_setFrames, hr]
      rfl
    have hsame : U.sameButNew ({ U with heap := s₂.heap, slotsUsed := s₂.slotsUsed } : State) L mc ms := by
      refine ⟨?_, q2, q3, q4, q5, q6⟩
      obtain ⟨t, ht, -⟩ := State.frames_cons hr
      show ({ U with heap := s₂.heap, slotsUsed := s₂.slotsUsed } : State) = { U.setFrames U.frames with heap := s₂.heap, slotsUsed := s₂.slotsUsed }
      rw [State.setFrames_self ht]
    subst hg
    refine Or.inr ⟨q, ⟨(({ U with heap := s₂.heap, slotsUsed := s₂.slotsUsed } : State).setVm s₂.vm), Ls ++ L, c0 + mc, s0 + ms⟩,
      ⟨X.admits, X.cas, X.clock, X.frames, X.room, X.hears, X.method, X.code, (X.here.setHeapUsed s₂.heap s₂.slotsUsed).setVm hW'.alike, X.tail, State.WarmedH.trans X.warmed hW', X.limits, X.bytes, X.same.trans (hsame.setVm s.vm)⟩,
      ⟨g, mk, s₂, L, E, ce, rfl, rfl, hx, hce, hcv, hcl, rfl, hL, rfl, rfl⟩, ?_⟩
    show Steps p.tables e below _ (((({ U with heap := s₂.heap, slotsUsed := s₂.slotsUsed } : State).setVm s₂.vm).setTop g).pushFrame (.throwing q))
    rw [← hs₂]
    exact hsteps
end Payer
section Calls
variable {p : Program} {l : Launch} {e : Env} {R : Room} {s : State} {m : MethodId} {args : Array Value} {below : List Frame} {meth : Method} {c : Code} {T : State} {locs : List Loc} {cells slots : Nat}
theorem vx_callV (X : Stand p l e R s m args below meth c T locs cells slots) (hexec : p.tables.exec = Jvm.exec) {own C : String} {index : Nat} {y : MethodName} {bytes : ByteArray} {maxL : Nat} {ret : Option FieldType}
    (hown : s.vm.findClass own = some m.cls) (hlink : (Cond.methodLink own index y).before args s = true) (hinst : (Cond.instanceMethod y).before args s = true) (hsel : (Cond.selects C y y).before args s = true)
    (hcode : (Cond.code y bytes maxL ret).before args s = true) (hy : y.cls ≠ "java/lang/invoke/MethodHandle" ∧ y.cls ≠ "java/lang/invoke/VarHandle")
    {W9 : Nat} {Pre : Pt → Array Value → Prop} {Post : Pt → Array Value → Option Value → Pt → Prop} {PostX : Pt → Array Value → Addr → Pt → Prop} (hK : vx_Back l R p e below s args y 3 W9 Pre Post PostX)
    {b : Addr} {cellB : Cell} (hcell : T.heap[b]? = some cellB) (hobj : cellB.vm.isStatics = false) (hcls : s.vm.findClass C = some cellB.cls)
    {g : JFrame} (hg : g.method = m) (hsize : g.locals.size = c.maxLocals) {argsL rest : List Value} (hlen : ∀ sig, parseMethodDescriptor y.desc = some sig → argsL.length = sig.parameters.length)
    (hstack : g.stack = argsL.reverse ++ .ref b :: rest) (hW : 2 * g.monitorRoom + (rest.map fun v => v.category).sum ≤ W9) (hdg : decode c.code g.pc = .ok (.invokevirtual index, 3))
    (hpre : ∀ vm₁, s.WarmedH vm₁ → Pre ⟨T.setVm vm₁, locs, cells, slots⟩ (Value.ref b :: argsL).toArray) :
    (∃ (v : Option Value) (vm₁ : Vm) (B : Pt), s.WarmedH vm₁ ∧ Stand p l e R s m args below meth c B.U B.locs B.cells B.slots ∧ Post ⟨T.setVm vm₁, locs, cells, slots⟩ (Value.ref b :: argsL).toArray v B ∧
      ∀ target, Steps p.tables e below (B.U.setTop { g with pc := g.pc + 3, stack := v.toList ++ rest }) target → Steps p.tables e below (T.setTop g) target) ∨
    (∃ (q : Addr) (vm₁ : Vm) (B : Pt), s.WarmedH vm₁ ∧ Stand p l e R s m args below meth c B.U B.locs B.cells B.slots ∧ PostX ⟨T.setVm vm₁, locs, cells, slots⟩ (Value.ref b :: argsL).toArray q B ∧
      Steps p.tables e below (T.setTop g) ((B.U.setTop { g with stack := rest }).pushFrame (.throwing q))) := by
  obtain ⟨mk, methM, hnamed, hmethM, hstM, habM⟩ := Cond.instanceMethod_spec hinst
  obtain ⟨methM', cM, hmethM', -, -, -, -, -, -, hsigM⟩ := Cond.code_spec hnamed hcode
  cases hmethM.symm.trans hmethM'
  obtain ⟨c2, r2, m2, q1, q2, q3, q4, kP, hkP, hkPi⟩ := Cond.selects_spec hsel
  cases hcls.symm.trans q1
  cases (State.methodFound?_of_named hnamed hy).symm.trans q2
  cases hnamed.symm.trans q3
  have hselP : selectMethod e.platform s.vm cellB.cls mk = .method mk := by rw [Launch.admits_selectMethod X.admits]; exact q4
  obtain ⟨vm₁, X₁, hstep₁⟩ := X.invokevirtual hexec hown hlink hnamed hmethM hstM hkP hkPi hy (a := b) (cell := cellB) hcell
    (fun z h => by rw [h] at hobj; cases hobj) hselP hmethM habM hkP hkPi (g := g) hg (argsL := argsL) (rest := rest) (hlen _ hsigM) hstack hdg
  rcases hK m meth c ⟨T.setVm vm₁, locs, cells, slots⟩ { g with stack := rest } (.invokevirtual index) mk (Value.ref b :: argsL).toArray X₁ hg hsize hdg hW (X₁.named hnamed) (hpre vm₁ X₁.warmed) with ⟨v, B, X', hpost, hsteps⟩ | ⟨q, B, X', hpost, hsteps⟩
  · exact Or.inl ⟨v, vm₁, B, X₁.warmed, X', hpost, fun target h => hstep₁ _ fun acts => by rw [doInvoke_state]; exact hsteps.trans h⟩
  · exact Or.inr ⟨q, vm₁, B, X₁.warmed, X', hpost, hstep₁ _ fun acts => by rw [doInvoke_state]; exact hsteps⟩
theorem vx_callS (X : Stand p l e R s m args below meth c T locs cells slots) (hexec : p.tables.exec = Jvm.exec) {own : String} {index : Nat} {y : MethodName} {bytes : ByteArray} {maxL : Nat} {ret : Option FieldType}
    (hown : s.vm.findClass own = some m.cls) (hlink : (Cond.methodLink own index y).before args s = true) (hstat : (Cond.static y).before args s = true) (hinit : (Cond.initialized y.cls).before args s = true)
    (hcode : (Cond.code y bytes maxL ret).before args s = true) (hy : y.cls ≠ "java/lang/invoke/MethodHandle" ∧ y.cls ≠ "java/lang/invoke/VarHandle")
    {W9 : Nat} {Pre : Pt → Array Value → Prop} {Post : Pt → Array Value → Option Value → Pt → Prop} {PostX : Pt → Array Value → Addr → Pt → Prop} (hK : vx_Back l R p e below s args y 3 W9 Pre Post PostX)
    {g : JFrame} (hg : g.method = m) (hsize : g.locals.size = c.maxLocals) {argsL rest : List Value} (hlen : ∀ sig, parseMethodDescriptor y.desc = some sig → argsL.length = sig.parameters.length)
    (hstack : g.stack = argsL.reverse ++ rest) (hW : 2 * g.monitorRoom + (rest.map fun v => v.category).sum ≤ W9) (hdg : decode c.code g.pc = .ok (.invokestatic index, 3))
    (hpre : ∀ vm₁, s.WarmedH vm₁ → Pre ⟨T.setVm vm₁, locs, cells, slots⟩ argsL.toArray) :
    (∃ (v : Option Value) (vm₁ : Vm) (B : Pt), s.WarmedH vm₁ ∧ Stand p l e R s m args below meth c B.U B.locs B.cells B.slots ∧ Post ⟨T.setVm vm₁, locs, cells, slots⟩ argsL.toArray v B ∧
      ∀ target, Steps p.tables e below (B.U.setTop { g with pc := g.pc + 3, stack := v.toList ++ rest }) target → Steps p.tables e below (T.setTop g) target) ∨
    (∃ (q : Addr) (vm₁ : Vm) (B : Pt), s.WarmedH vm₁ ∧ Stand p l e R s m args below meth c B.U B.locs B.cells B.slots ∧ PostX ⟨T.setVm vm₁, locs, cells, slots⟩ argsL.toArray q B ∧
      Steps p.tables e below (T.setTop g) ((B.U.setTop { g with stack := rest }).pushFrame (.throwing q))) := by
  obtain ⟨mk, hnamed⟩ := Cond.code_named hcode
  obtain ⟨methM, cM, hmethM, -, -, -, -, -, -, hsigM⟩ := Cond.code_spec hnamed hcode
  have hstatic : methM.isStatic = true := Cond.static_spec hnamed hmethM hstat
  obtain ⟨kP, hkP, -⟩ := className_of_methodNamed hnamed
  have hinitP : kP.init = .initialized := Cond.initialized_spec (findClass_of_methodNamed hnamed) hkP hinit
  obtain ⟨vm₁, X₁, hstep₁⟩ := X.invokestatic hexec hown hlink hnamed hmethM hstatic hkP hinitP hy (g := g) hg (argsL := argsL) (rest := rest) (hlen _ hsigM) hstack hdg
  rcases hK m meth c ⟨T.setVm vm₁, locs, cells, slots⟩ { g with stack := rest } (.invokestatic index) mk argsL.toArray X₁ hg hsize hdg hW (X₁.named hnamed) (hpre vm₁ X₁.warmed) with ⟨v, B, X', hpost, hsteps⟩ | ⟨q, B, X', hpost, hsteps⟩
  · exact Or.inl ⟨v, vm₁, B, X₁.warmed, X', hpost, fun target h => hstep₁ _ fun acts => by rw [doInvoke_state]; exact hsteps.trans h⟩
  · exact Or.inr ⟨q, vm₁, B, X₁.warmed, X', hpost, hstep₁ _ fun acts => by rw [doInvoke_state]; exact hsteps⟩
end Calls
theorem vx_cls {s : State} {T : State} {vm₁ : Vm} {E : String} {k : ClassId} (hW : s.WarmedH vm₁) (h : (T.setVm vm₁).vm.findClass E = some k) : s.vm.findClass E = some k := by
  have h1 : vm₁.findClass E = some k := h
  rw [hW.alike.findClass] at h1
  exact h1
/-- the method's frame g, with q thrown over it -/
def vx_W (p : Program) (l : Launch) (e : Env) (R : Room) (s : State) (m : MethodId) (args : Array Value) (below : List Frame) (meth : Method) (c : Code) (H : Heap) (locs : List Loc) (cells slots : Nat) (Q : State → Prop) (g : JFrame) (q : Addr) : Prop :=
  ∀ T : State, T.heap = H → Stand p l e R s m args below meth c T locs cells slots → ∃ t, Steps p.tables e below ((T.setTop g).pushFrame (.throwing q)) t ∧ Q t
def vx_Run (p : Program) (l : Launch) (e : Env) (R : Room) (s : State) (m : MethodId) (args : Array Value) (below : List Frame) (meth : Method) (c : Code) (H : Heap) (locs : List Loc) (cells slots mc ms : Nat) (g : JFrame) (rest : List Value) (Qa : State → Outcome → State → Prop) (XC : String → State → State → Prop) (free : Addr → Prop) : Prop :=
  ∀ T : State, T.heap = H → Stand p l e R s m args below meth c T locs cells slots →
    (∃ (v : Option Value) (st₀ t T' : State) (L : List Loc), st₀.heap = H ∧ Stand p l e R s m args below meth c T' (locs ++ L) (cells + mc) (slots + ms) ∧ (∀ q ∈ L, free q.base) ∧ T'.heap = t.heap ∧ T'.vm = t.vm ∧ Qa st₀ (.returned v) t ∧
      Goes p e below T g T' { g with pc := g.pc + 3, stack := v.toList ++ rest }) ∨
    (∃ (q : Addr) (st₀ t T' : State) (L : List Loc) (E : String) (ce : Cell), st₀.heap = H ∧ Stand p l e R s m args below meth c T' (locs ++ L) (cells + mc) (slots + ms) ∧ (∀ z ∈ L, free z.base) ∧ T'.heap = t.heap ∧ T'.vm = t.vm ∧ XC E st₀ t ∧ t.heap[q]? = some ce ∧ ce.vm = .none ∧ s.vm.findClass E = some ce.cls ∧
      Steps p.tables e below (T.setTop g) ((T'.setTop { g with stack := rest }).pushFrame (.throwing q)))
def vx_X {S : Type} (px : S → Prop) (B : String → S → State → Prop) (A : Nat → Prop) : String → State → State → Prop := fun E st t => ∃ u : S, px u ∧ B E u t ∧ va_F A st t
section Runs
variable {p : Program} {l : Launch} {e : Env} {R : Room} {s : State} {m : MethodId} {args : Array Value} {below : List Frame} {meth : Method} {c : Code} {H : Heap} {locs : List Loc} {cells slots : Nat}
variable {y : MethodName} {bytes cc : ByteArray} {maxL nL mc ms n index : Nat} {ret : Option FieldType} {ws : List Cond} {rm : Room} {Pc : Array Value → State → Prop} {Qc : Array Value → State → Outcome → State → Prop} {XC : String → State → State → Prop} {free : Addr → Prop} {Ts : List Cond} {own C : String} {b : Addr} {As rest : List Value} {g : JFrame}
theorem vx_callBack (cb : CallB R s args own index y bytes maxL ret ws rm mc ms n) (hM : vx_Met l y ws rm Pc Qc XC mc ms free) (hbl : FrameBlind Pc) : vx_Back l R p e below s args y 3 8 (PreOf R mc ms Pc) (PostOf Qc mc ms free) (vx_Post XC mc ms free) := by
  obtain ⟨hrc, hrs, hfr, hlo, hws, hcw, -, hini, -⟩ := cb
  exact vx_back (bytes := bytes) (maxL := maxL) (ret := ret) hM hbl hrc hrs hfr hlo hws hcw (fun a' U hW => word_at hW (Or.inl (by first | rfl | simp [Cond.onTables, Cond.keeps, Cond.steady])) hini)
theorem vx_runV (S : CallFix p m c cc nL s args Ts own) (hM : vx_Met l y ws rm Pc Qc XC mc ms free) (cw : CallW R s args own C index y bytes maxL ret ws rm mc ms n) (hp : PreV s H C b Pc As)
    (hg : g.method = m) (hn : As.length = n) (hsize : g.locals.size = nL) (hstack : g.stack = As.reverse ++ .ref b :: rest) (hW : 2 * g.monitorRoom + (rest.map fun v => v.category).sum ≤ 8) (hdg : decode cc g.pc = .ok (.invokevirtual index, 3)) (hf : cells + mc ≤ R.cells ∧ slots + ms ≤ R.slots) :
    vx_Run p l e R s m args below meth c H locs cells slots mc ms g rest (Qc (Value.ref b :: As).toArray) XC free := by
  have hK : vx_Back l R p e below s args y 3 8 (PreOf R mc ms Pc) (PostOf Qc mc ms free) (vx_Post XC mc ms free) := vx_callBack cw.1 hM hp.1
  obtain ⟨⟨-, -, -, -, -, -, hcode, -, hy, hlen, hl⟩, hin, hse⟩ := cw
  obtain ⟨hx, hb, hml, ho, -⟩ := S
  obtain ⟨-, ⟨cellB, hcB, hoB, hclB⟩, hPc⟩ := hp
  intro T hT X
  rcases vx_callV X hx (C := C) (bytes := bytes) (maxL := maxL) (ret := ret) ho hl hin hse hcode hy hK (by rw [hT]; exact hcB) hoB hclB hg (hsize.trans hml.symm) (argsL := As) (rest := rest) (fun sig h => hn.trans (hlen sig h)) hstack hW (by rw [hb]; exact hdg)
    (fun vm₁ hW₁ => ⟨hf.1, hf.2, hPc (T.setVm vm₁) hT hW₁⟩) with ⟨v, vm₁, ⟨U', l2, c2, s2⟩, hW₁, X', ⟨g', mk, t, L, e1, e2, hq, h1, hL, h2, h3⟩, st⟩ | ⟨q, vm₁, ⟨U', l2, c2, s2⟩, hW₁, X', ⟨g', mk, t, L, E, ce, e1, e2, hq, hce, hcv, hcl, h1, hL, h2, h3⟩, st⟩
  · dsimp only [Pt.U, Pt.locs, Pt.cells, Pt.slots] at X' e1 e2 h1 h2 h3 st
    subst h1; subst h2; subst h3
    exact Or.inl ⟨v, (T.setVm vm₁).calling g' mk (Value.ref b :: As).toArray, t, U', L, hT, X', hL, e1, e2, hq, st⟩
  · dsimp only [Pt.U, Pt.locs, Pt.cells, Pt.slots] at X' e1 e2 h1 h2 h3 st hcl
    subst h1; subst h2; subst h3
    exact Or.inr ⟨q, (T.setVm vm₁).calling g' mk (Value.ref b :: As).toArray, t, U', L, E, ce, hT, X', hL, e1, e2, hq, hce, hcv, vx_cls hW₁ hcl, st⟩
theorem vx_runS (S : CallFix p m c cc nL s args Ts own) (hM : vx_Met l y ws rm Pc Qc XC mc ms free) (cw : CallB R s args own index y bytes maxL ret ws rm mc ms n ∧ (Cond.static y).before args s = true) (hp : PreS s H Pc As)
    (hg : g.method = m) (hn : As.length = n) (hsize : g.locals.size = nL) (hstack : g.stack = As.reverse ++ rest) (hW : 2 * g.monitorRoom + (rest.map fun v => v.category).sum ≤ 8) (hdg : decode cc g.pc = .ok (.invokestatic index, 3)) (hf : cells + mc ≤ R.cells ∧ slots + ms ≤ R.slots) :
    vx_Run p l e R s m args below meth c H locs cells slots mc ms g rest (Qc As.toArray) XC free := by
  have hK : vx_Back l R p e below s args y 3 8 (PreOf R mc ms Pc) (PostOf Qc mc ms free) (vx_Post XC mc ms free) := vx_callBack cw.1 hM hp.1
  obtain ⟨⟨-, -, -, -, -, -, hcode, hini, hy, hlen, hl⟩, hstt⟩ := cw
  obtain ⟨hx, hb, hml, ho, -⟩ := S
  intro T hT X
  rcases vx_callS X hx (bytes := bytes) (maxL := maxL) (ret := ret) ho hl hstt hini hcode hy hK hg (hsize.trans hml.symm) (argsL := As) (rest := rest) (fun sig h => hn.trans (hlen sig h)) hstack hW (by rw [hb]; exact hdg)
    (fun vm₁ hW₁ => ⟨hf.1, hf.2, hp.2 (T.setVm vm₁) hT hW₁⟩) with ⟨v, vm₁, ⟨U', l2, c2, s2⟩, hW₁, X', ⟨g', mk, t, L, e1, e2, hq, h1, hL, h2, h3⟩, st⟩ | ⟨q, vm₁, ⟨U', l2, c2, s2⟩, hW₁, X', ⟨g', mk, t, L, E, ce, e1, e2, hq, hce, hcv, hcl, h1, hL, h2, h3⟩, st⟩
  · dsimp only [Pt.U, Pt.locs, Pt.cells, Pt.slots] at X' e1 e2 h1 h2 h3 st
    subst h1; subst h2; subst h3
    exact Or.inl ⟨v, (T.setVm vm₁).calling g' mk As.toArray, t, U', L, hT, X', hL, e1, e2, hq, st⟩
  · dsimp only [Pt.U, Pt.locs, Pt.cells, Pt.slots] at X' e1 e2 h1 h2 h3 st hcl
    subst h1; subst h2; subst h3
    exact Or.inr ⟨q, (T.setVm vm₁).calling g' mk As.toArray, t, U', L, E, ce, hT, X', hL, e1, e2, hq, hce, hcv, vx_cls hW₁ hcl, st⟩
end Runs
section Rows
variable {p : Program} {l : Launch} {e : Env} {R : Room} {s : State} {m : MethodId} {args : Array Value} {below : List Frame} {meth : Method} {c : Code} {H : Heap} {locs : List Loc} {cells slots : Nat} {Q : State → Prop}
variable {mc ms : Nat} {free : Addr → Prop} {A0 A1 : Nat → Prop} {H0 : Heap} {a : Array Value} {pc : Nat} {ls : Array Slot} {st0 rest : List Value}
theorem vx_keep {st₀ t T' : State} {L : List Loc} (h0 : st₀.heap = H) (e1 : T'.heap = t.heap) (hS : va_S A0 H0 H locs) (hA : ∀ q, q < H.size → A1 q → A0 q) (hf : ∀ q, free q → A0 q) (hL : ∀ q ∈ L, free q.base) (hF : va_F A1 st₀ t) :
    H.size ≤ T'.heap.size ∧ (∀ q : Nat, q < H.size → ¬ A1 q → T'.heap[q]? = H[q]?) ∧ va_S A0 H0 T'.heap (locs ++ L) := by
  obtain ⟨hz, hk⟩ := hF
  rw [h0] at hz hk
  exact ⟨by rw [e1]; exact hz, fun q h1 h2 => by rw [e1]; exact hk q h1 h2,
    ⟨Nat.le_trans hS.1 (by rw [e1]; exact hz), fun q h1 h2 => by rw [e1, hk q (Nat.lt_of_lt_of_le h1 hS.1) (fun z => h2 (hA q (Nat.lt_of_lt_of_le h1 hS.1) z))]; exact hS.2.1 q h1 h2, fun q hq => by
      rcases List.mem_append.mp hq with h | h
      · exact hS.2.2 q h
      · exact hf _ (hL q h)⟩⟩
theorem vx_calli {S SX : Type} {post : Int32 → S → Prop} {px : SX → Prop} {B : S → State → Prop} {BX : String → SX → State → Prop} {AX : Nat → Prop} (hr : vx_Run p l e R s m args below meth c H locs cells slots mc ms (F0 m pc ls st0) rest (va_Qi post B A1 a) (vx_X px BX AX) free) (hS : va_S A0 H0 H locs) (hA : ∀ q, q < H.size → A1 q → A0 q) (hf : ∀ q, free q → A0 q) (hAX : ∀ q, q < H.size → AX q → A0 q)
    (kx : ∀ (E : String) (ce : Cell) (q9 : Addr) (u : SX) (t : State) (H1 : Heap) (locs1 : List Loc), t.heap = H1 → s.vm.Alike t.vm → px u → BX E u t → H.size ≤ H1.size → (∀ q : Nat, q < H.size → ¬ AX q → H1[q]? = H[q]?) → va_S A0 H0 H1 locs1 → H1[q9]? = some ce → ce.vm = .none → s.vm.findClass E = some ce.cls → vx_W p l e R s m args below meth c H1 locs1 (cells + mc) (slots + ms) Q (F0 m pc ls rest) q9)
    (kk : ∀ (r : Int32) (u : S) (t : State) (H1 : Heap) (locs1 : List Loc), t.heap = H1 → s.vm.Alike t.vm → post r u → B u t → H.size ≤ H1.size → (∀ q : Nat, q < H.size → ¬ A1 q → H1[q]? = H[q]?) → va_S A0 H0 H1 locs1 → W p l e R s m args below meth c H1 locs1 (cells + mc) (slots + ms) Q (F0 m (pc + 3) ls (.int r :: rest))) : W p l e R s m args below meth c H locs cells slots Q (F0 m pc ls st0) := by
  intro T hT X
  rcases hr T hT X with ⟨v, st₀, t, T', L, h0, X', hL, e1, e2, ⟨⟨r, u, hv, hp, hb⟩, hF⟩, st⟩ | ⟨q, st₀, t, T', L, E, ce, h0, X', hL, e1, e2, ⟨u, hp, hb, hF⟩, hce, hcv, hcl, st⟩
  · cases hv
    obtain ⟨k1, k2, k3⟩ := vx_keep h0 e1 hS hA hf hL hF
    obtain ⟨t2, a1, b1⟩ := kk r u t T'.heap (locs ++ L) e1.symm (by rw [← e2]; exact X'.warmed.alike) hp hb k1 k2 k3 T' rfl X'
    exact ⟨t2, st t2 a1, b1⟩
  · obtain ⟨k1, k2, k3⟩ := vx_keep h0 e1 hS hAX hf hL hF
    obtain ⟨t2, a1, b1⟩ := kx E ce q u t T'.heap (locs ++ L) e1.symm (by rw [← e2]; exact X'.warmed.alike) hp hb k1 k2 k3 (by rw [e1]; exact hce) hcv hcl T' rfl X'
    exact ⟨t2, st.trans a1, b1⟩
theorem vx_calll {S SX : Type} {post : Int64 → S → Prop} {px : SX → Prop} {B : S → State → Prop} {BX : String → SX → State → Prop} {AX : Nat → Prop} (hr : vx_Run p l e R s m args below meth c H locs cells slots mc ms (F0 m pc ls st0) rest (va_Ql post B A1 a) (vx_X px BX AX) free) (hS : va_S A0 H0 H locs) (hA : ∀ q, q < H.size → A1 q → A0 q) (hf : ∀ q, free q → A0 q) (hAX : ∀ q, q < H.size → AX q → A0 q)
    (kx : ∀ (E : String) (ce : Cell) (q9 : Addr) (u : SX) (t : State) (H1 : Heap) (locs1 : List Loc), t.heap = H1 → s.vm.Alike t.vm → px u → BX E u t → H.size ≤ H1.size → (∀ q : Nat, q < H.size → ¬ AX q → H1[q]? = H[q]?) → va_S A0 H0 H1 locs1 → H1[q9]? = some ce → ce.vm = .none → s.vm.findClass E = some ce.cls → vx_W p l e R s m args below meth c H1 locs1 (cells + mc) (slots + ms) Q (F0 m pc ls rest) q9)
    (kk : ∀ (r : Int64) (u : S) (t : State) (H1 : Heap) (locs1 : List Loc), t.heap = H1 → s.vm.Alike t.vm → post r u → B u t → H.size ≤ H1.size → (∀ q : Nat, q < H.size → ¬ A1 q → H1[q]? = H[q]?) → va_S A0 H0 H1 locs1 → W p l e R s m args below meth c H1 locs1 (cells + mc) (slots + ms) Q (F0 m (pc + 3) ls (.long r :: rest))) : W p l e R s m args below meth c H locs cells slots Q (F0 m pc ls st0) := by
  intro T hT X
  rcases hr T hT X with ⟨v, st₀, t, T', L, h0, X', hL, e1, e2, ⟨⟨r, u, hv, hp, hb⟩, hF⟩, st⟩ | ⟨q, st₀, t, T', L, E, ce, h0, X', hL, e1, e2, ⟨u, hp, hb, hF⟩, hce, hcv, hcl, st⟩
  · cases hv
    obtain ⟨k1, k2, k3⟩ := vx_keep h0 e1 hS hA hf hL hF
    obtain ⟨t2, a1, b1⟩ := kk r u t T'.heap (locs ++ L) e1.symm (by rw [← e2]; exact X'.warmed.alike) hp hb k1 k2 k3 T' rfl X'
    exact ⟨t2, st t2 a1, b1⟩
  · obtain ⟨k1, k2, k3⟩ := vx_keep h0 e1 hS hAX hf hL hF
    obtain ⟨t2, a1, b1⟩ := kx E ce q u t T'.heap (locs ++ L) e1.symm (by rw [← e2]; exact X'.warmed.alike) hp hb k1 k2 k3 (by rw [e1]; exact hce) hcv hcl T' rfl X'
    exact ⟨t2, st.trans a1, b1⟩
theorem vx_callf {S SX : Type} {post : UInt32 → S → Prop} {px : SX → Prop} {B : S → State → Prop} {BX : String → SX → State → Prop} {AX : Nat → Prop} (hr : vx_Run p l e R s m args below meth c H locs cells slots mc ms (F0 m pc ls st0) rest (va_Qf post B A1 a) (vx_X px BX AX) free) (hS : va_S A0 H0 H locs) (hA : ∀ q, q < H.size → A1 q → A0 q) (hf : ∀ q, free q → A0 q) (hAX : ∀ q, q < H.size → AX q → A0 q)
    (kx : ∀ (E : String) (ce : Cell) (q9 : Addr) (u : SX) (t : State) (H1 : Heap) (locs1 : List Loc), t.heap = H1 → s.vm.Alike t.vm → px u → BX E u t → H.size ≤ H1.size → (∀ q : Nat, q < H.size → ¬ AX q → H1[q]? = H[q]?) → va_S A0 H0 H1 locs1 → H1[q9]? = some ce → ce.vm = .none → s.vm.findClass E = some ce.cls → vx_W p l e R s m args below meth c H1 locs1 (cells + mc) (slots + ms) Q (F0 m pc ls rest) q9)
    (kk : ∀ (r : UInt32) (u : S) (t : State) (H1 : Heap) (locs1 : List Loc), t.heap = H1 → s.vm.Alike t.vm → post r u → B u t → H.size ≤ H1.size → (∀ q : Nat, q < H.size → ¬ A1 q → H1[q]? = H[q]?) → va_S A0 H0 H1 locs1 → W p l e R s m args below meth c H1 locs1 (cells + mc) (slots + ms) Q (F0 m (pc + 3) ls (.float r :: rest))) : W p l e R s m args below meth c H locs cells slots Q (F0 m pc ls st0) := by
  intro T hT X
  rcases hr T hT X with ⟨v, st₀, t, T', L, h0, X', hL, e1, e2, ⟨⟨r, u, hv, hp, hb⟩, hF⟩, st⟩ | ⟨q, st₀, t, T', L, E, ce, h0, X', hL, e1, e2, ⟨u, hp, hb, hF⟩, hce, hcv, hcl, st⟩
  · cases hv
    obtain ⟨k1, k2, k3⟩ := vx_keep h0 e1 hS hA hf hL hF
    obtain ⟨t2, a1, b1⟩ := kk r u t T'.heap (locs ++ L) e1.symm (by rw [← e2]; exact X'.warmed.alike) hp hb k1 k2 k3 T' rfl X'
    exact ⟨t2, st t2 a1, b1⟩
  · obtain ⟨k1, k2, k3⟩ := vx_keep h0 e1 hS hAX hf hL hF
    obtain ⟨t2, a1, b1⟩ := kx E ce q u t T'.heap (locs ++ L) e1.symm (by rw [← e2]; exact X'.warmed.alike) hp hb k1 k2 k3 (by rw [e1]; exact hce) hcv hcl T' rfl X'
    exact ⟨t2, st.trans a1, b1⟩
theorem vx_calld {S SX : Type} {post : UInt64 → S → Prop} {px : SX → Prop} {B : S → State → Prop} {BX : String → SX → State → Prop} {AX : Nat → Prop} (hr : vx_Run p l e R s m args below meth c H locs cells slots mc ms (F0 m pc ls st0) rest (va_Qd post B A1 a) (vx_X px BX AX) free) (hS : va_S A0 H0 H locs) (hA : ∀ q, q < H.size → A1 q → A0 q) (hf : ∀ q, free q → A0 q) (hAX : ∀ q, q < H.size → AX q → A0 q)
    (kx : ∀ (E : String) (ce : Cell) (q9 : Addr) (u : SX) (t : State) (H1 : Heap) (locs1 : List Loc), t.heap = H1 → s.vm.Alike t.vm → px u → BX E u t → H.size ≤ H1.size → (∀ q : Nat, q < H.size → ¬ AX q → H1[q]? = H[q]?) → va_S A0 H0 H1 locs1 → H1[q9]? = some ce → ce.vm = .none → s.vm.findClass E = some ce.cls → vx_W p l e R s m args below meth c H1 locs1 (cells + mc) (slots + ms) Q (F0 m pc ls rest) q9)
    (kk : ∀ (r : UInt64) (u : S) (t : State) (H1 : Heap) (locs1 : List Loc), t.heap = H1 → s.vm.Alike t.vm → post r u → B u t → H.size ≤ H1.size → (∀ q : Nat, q < H.size → ¬ A1 q → H1[q]? = H[q]?) → va_S A0 H0 H1 locs1 → W p l e R s m args below meth c H1 locs1 (cells + mc) (slots + ms) Q (F0 m (pc + 3) ls (.double r :: rest))) : W p l e R s m args below meth c H locs cells slots Q (F0 m pc ls st0) := by
  intro T hT X
  rcases hr T hT X with ⟨v, st₀, t, T', L, h0, X', hL, e1, e2, ⟨⟨r, u, hv, hp, hb⟩, hF⟩, st⟩ | ⟨q, st₀, t, T', L, E, ce, h0, X', hL, e1, e2, ⟨u, hp, hb, hF⟩, hce, hcv, hcl, st⟩
  · cases hv
    obtain ⟨k1, k2, k3⟩ := vx_keep h0 e1 hS hA hf hL hF
    obtain ⟨t2, a1, b1⟩ := kk r u t T'.heap (locs ++ L) e1.symm (by rw [← e2]; exact X'.warmed.alike) hp hb k1 k2 k3 T' rfl X'
    exact ⟨t2, st t2 a1, b1⟩
  · obtain ⟨k1, k2, k3⟩ := vx_keep h0 e1 hS hAX hf hL hF
    obtain ⟨t2, a1, b1⟩ := kx E ce q u t T'.heap (locs ++ L) e1.symm (by rw [← e2]; exact X'.warmed.alike) hp hb k1 k2 k3 (by rw [e1]; exact hce) hcv hcl T' rfl X'
    exact ⟨t2, st.trans a1, b1⟩
theorem vx_callv {S SX : Type} {post : S → Prop} {px : SX → Prop} {B : S → State → Prop} {BX : String → SX → State → Prop} {AX : Nat → Prop} (hr : vx_Run p l e R s m args below meth c H locs cells slots mc ms (F0 m pc ls st0) rest (va_Qv post B A1 a) (vx_X px BX AX) free) (hS : va_S A0 H0 H locs) (hA : ∀ q, q < H.size → A1 q → A0 q) (hf : ∀ q, free q → A0 q) (hAX : ∀ q, q < H.size → AX q → A0 q)
    (kx : ∀ (E : String) (ce : Cell) (q9 : Addr) (u : SX) (t : State) (H1 : Heap) (locs1 : List Loc), t.heap = H1 → s.vm.Alike t.vm → px u → BX E u t → H.size ≤ H1.size → (∀ q : Nat, q < H.size → ¬ AX q → H1[q]? = H[q]?) → va_S A0 H0 H1 locs1 → H1[q9]? = some ce → ce.vm = .none → s.vm.findClass E = some ce.cls → vx_W p l e R s m args below meth c H1 locs1 (cells + mc) (slots + ms) Q (F0 m pc ls rest) q9)
    (kk : ∀ (u : S) (t : State) (H1 : Heap) (locs1 : List Loc), t.heap = H1 → s.vm.Alike t.vm → post u → B u t → H.size ≤ H1.size → (∀ q : Nat, q < H.size → ¬ A1 q → H1[q]? = H[q]?) → va_S A0 H0 H1 locs1 → W p l e R s m args below meth c H1 locs1 (cells + mc) (slots + ms) Q (F0 m (pc + 3) ls (rest))) : W p l e R s m args below meth c H locs cells slots Q (F0 m pc ls st0) := by
  intro T hT X
  rcases hr T hT X with ⟨v, st₀, t, T', L, h0, X', hL, e1, e2, ⟨⟨u, hv, hp, hb⟩, hF⟩, st⟩ | ⟨q, st₀, t, T', L, E, ce, h0, X', hL, e1, e2, ⟨u, hp, hb, hF⟩, hce, hcv, hcl, st⟩
  · cases hv
    obtain ⟨k1, k2, k3⟩ := vx_keep h0 e1 hS hA hf hL hF
    obtain ⟨t2, a1, b1⟩ := kk u t T'.heap (locs ++ L) e1.symm (by rw [← e2]; exact X'.warmed.alike) hp hb k1 k2 k3 T' rfl X'
    exact ⟨t2, st t2 a1, b1⟩
  · obtain ⟨k1, k2, k3⟩ := vx_keep h0 e1 hS hAX hf hL hF
    obtain ⟨t2, a1, b1⟩ := kx E ce q u t T'.heap (locs ++ L) e1.symm (by rw [← e2]; exact X'.warmed.alike) hp hb k1 k2 k3 (by rw [e1]; exact hce) hcv hcl T' rfl X'
    exact ⟨t2, st.trans a1, b1⟩
/-- caught by the row x of this method's table; the rows ahead don't take it -/
theorem vx_catch {own name : String} {E : String} {ce : Cell} {q : Addr} (hown : s.vm.findClass own = some m.cls) (pre : List ExceptionTableEntry) (x : ExceptionTableEntry) (suf : List ExceptionTableEntry) (hsplit : c.exceptionTable.toList = pre ++ x :: suf)
    (hpass : ∀ z ∈ pre, covers z pc = false ∨ (z.catchType ≠ 0 ∧ ∃ nm : String, (Cond.classLink own z.catchType nm).before args s = true ∧ va_Nc E nm s)) (hx : covers x pc = true) (h0 : x.catchType ≠ 0)
    (hlink : (Cond.classLink own x.catchType name).before args s = true) (hcast : (Cond.castable E name).before args s = true) (hcell : H[q]? = some ce) (hv : ce.vm = .none) (hcl : s.vm.findClass E = some ce.cls)
    (kk : W p l e R s m args below meth c H locs cells slots Q (F0 m x.handlerPc ls [.ref q])) : vx_W p l e R s m args below meth c H locs cells slots Q (F0 m pc ls rest) q := by
  intro T hT X
  have hpl : e.platform.magicAccessors = ({} : Platform).magicAccessors := by rw [X.admits.platform]
  obtain ⟨c3, c4, hc3, hc4, hasg⟩ := Cond.castable_spec hcast
  cases Option.some.inj (hc3.symm.trans hcl)
  obtain ⟨c5, hc5, hcl5⟩ := Cond.classLink_spec hown hlink e.platform hpl
  cases Option.some.inj (hc4.symm.trans hc5)
  obtain ⟨vm', X', st⟩ := X.thenCaughtThrough q (g := F0 m pc ls rest) rfl (Steps.refl _) (by rw [hT]; exact hcell) (by rw [hv]; rfl) (by obtain ⟨k9, h9, -⟩ := Vm.findClass_spec hcl; exact ⟨k9, h9⟩) pre x suf hsplit
    (fun z hz => by
      rcases hpass z hz with h | ⟨hz0, nm, hl1, hn1⟩
      · exact Or.inl h
      · obtain ⟨c6, hc6, hcl6⟩ := Cond.classLink_spec hown hl1 e.platform hpl
        obtain ⟨a8, b8, h1, h2, h3⟩ := hn1
        cases Option.some.inj (h1.symm.trans hcl)
        cases Option.some.inj (h2.symm.trans hc6)
        exact Or.inr ⟨hz0, _, hcl6, h3⟩) hx (Or.inr ⟨h0, c4, hcl5, hasg⟩)
  obtain ⟨t, a1, b1⟩ := kk (T.setVm vm') hT X'
  exact ⟨t, st.trans a1, b1⟩
end Rows
section Ends
variable {p : Program} {l : Launch} {e : Env} {R : Room} {s : State} {m : MethodId} {args : Array Value} {below : List Frame} {meth : Method} {c : Code} {H : Heap} {locs : List Loc} {cells slots : Nat} {Q : State → Prop}
variable {mc ms : Nat} {free : Addr → Prop} {A0 A1 : Nat → Prop} {H0 : Heap} {a : Array Value} {ls : Array Slot} {st0 rest : List Value}
variable {Qc : Array Value → State → Outcome → State → Prop} {XC : String → State → State → Prop}
/-- what a body that may throw owes at its end -/
def vx_MQ (below : List Frame) (Qc : Array Value → State → Outcome → State → Prop) (XC : String → State → State → Prop) (a : Array Value) (s : State) (mc ms : Nat) (free : Addr → Prop) : State → Prop := fun t =>
  ∃ o, t.status = .running ∧ Ended t below o ∧ vx_Q Qc XC mc ms free a s o t
theorem vx_ret {g : JFrame} {mc ms : Nat} (k : W p l e R s m args below meth c H locs cells slots (MQ below Qc args s mc ms free) g) : W p l e R s m args below meth c H locs cells slots (vx_MQ below Qc XC args s mc ms free) g := by
  intro T hT X
  obtain ⟨t, a1, o, b1, b2, b3, b4⟩ := k T hT X
  exact ⟨t, a1, o, b1, b2, Or.inl ⟨b3, b4⟩⟩
/-- not caught here: it goes on to the caller -/
theorem vx_widen {g : JFrame} {q : Addr} {k n : Nat} (h1 : cells ≤ k) (h2 : slots ≤ n) (kk : vx_W p l e R s m args below meth c H locs k n Q g q) : vx_W p l e R s m args below meth c H locs cells slots Q g q := fun T hT X => kk T hT (stand_widen X h1 h2)
theorem vx_out {pc : Nat} {E : String} {ce : Cell} {q : Addr} {mc ms : Nat} (hout : ∀ x ∈ c.exceptionTable.toList, covers x pc = false) (hlocks : meth.locks = false) (hcell : H[q]? = some ce) (hv : ce.vm = .none) (hcl : s.vm.findClass E = some ce.cls)
    (hx : ∀ t : State, t.heap = H → s.vm.Alike t.vm → XC E s t) (hf : ∀ z ∈ locs, free z.base) (hc : cells ≤ mc) (hs : slots ≤ ms) :
    vx_W p l e R s m args below meth c H locs cells slots (vx_MQ below Qc XC args s mc ms free) (F0 m pc ls rest) q := by
  intro T hT X
  obtain ⟨st1, hrun, hend, hW, hsm⟩ := X.leaveThrown q (g := F0 m pc ls rest) rfl rfl rfl hout hlocks
  have hcell9 : (T.setFrames (.throwing q :: below)).heap[q]? = some ce := by
    show T.heap[q]? = some ce
    rw [hT]; exact hcell
  exact ⟨_, st1, .threw q, hrun, hend, Or.inr ⟨q, rfl, E, ce, locs, hx _ hT hW.alike, hcell9, hv, hcl, hW, hsm.mono hc hs, hf⟩⟩
theorem vx_frame {U : State} {k n : Nat} (h : s.sameButNew ({ U with vm := s.vm } : State) locs k n) : s.heap.size ≤ U.heap.size ∧ ∀ q : Nat, q < s.heap.size → (∀ z ∈ locs, z.base ≠ q) → U.heap[q]? = s.heap[q]? := by
  obtain ⟨-, h2, -, -, -, h6⟩ := h
  refine ⟨h2, fun q hq hz => ?_⟩
  obtain ⟨c9, e1, e2, e3, e4⟩ := h6 q _ (Array.getElem?_eq_getElem hq)
  have hs : c9.slots = (s.heap[q]).slots := Array.ext_getElem? fun i => e4 i fun hm => hz _ hm rfl
  have h9 : c9 = s.heap[q] := by
    rw [hs] at e2
    exact e2
  have e5 : U.heap[q]? = some c9 := e1
  rw [e5, h9, Array.getElem?_eq_getElem hq]
/-- the words of a throw but the four that speak of the heap -/
def vx_no (w : Cond) : Bool := decide (w ≠ .isRef (.static Bundle.tN "UNASSIGNED_STACK" Bundle.steD)) && decide (w ≠ .isRef (.static Bundle.tN "SUPPRESSED_SENTINEL" Bundle.listD)) && decide (w ≠ .laysStatic Bundle.tN "UNASSIGNED_STACK" Bundle.steD) && decide (w ≠ .laysStatic Bundle.tN "SUPPRESSED_SENTINEL" Bundle.listD)
def vx_at0 (own : String) (ic : Nat) (X : String) (names : List String) : List Cond := (Bundle.ownAtoms0 own ic X names).filter vx_no
def vx_atS (own : String) (ic : Nat) (X : String) (names : List String) : List Cond := (Bundle.ownAtoms own ic X names).filter vx_no
/-- a word that the tables alone decide, or a good one -/
def vx_ot (w : Cond) : Bool := w.onTables || goodWord w
theorem vx_ot_at {args a' : Array Value} {s U : State} {w : Cond} (hW : s.WarmedH U.vm) (hvm : s.vm = U.vm) (hg : vx_ot w = true) (h : w.before args s = true) : w.before a' U = true := by
  simp only [vx_ot, Bool.or_eq_true] at hg
  rcases hg with hg | hg
  · exact va_tabs hg hvm h
  · exact word_at hW (good_of_word hg) h
/-- a list's words: the good ones out of the method's own list, the others by premises of their own -/
theorem vx_hat {args : Array Value} {s : State} {L B : List Cond} (h1 : ∀ w ∈ L.filter goodWord, w.before args s = true) (h2 : ∀ w ∈ L.filter (fun w => !goodWord w), w ∈ B) (h3 : ∀ w ∈ B, w.before args s = true) : ∀ w ∈ L, w.before args s = true := by
  intro w hw
  by_cases g : goodWord w = true
  · exact h1 w (List.mem_filter.mpr ⟨hw, g⟩)
  · refine h3 w (h2 w (List.mem_filter.mpr ⟨hw, ?_⟩))
    show (!goodWord w) = true
    cases hgw : goodWord w
    · rfl
    · exact absurd hgw g
theorem vx_c {args : Array Value} {s : State} {w : Cond} {B : List Cond} (h : w.before args s = true) (t : ∀ w ∈ B, w.before args s = true) : ∀ w' ∈ w :: B, w'.before args s = true := fun w' h' => (List.mem_cons.mp h').elim (fun e => by rw [e]; exact h) (t w')
theorem vx_n {args : Array Value} {s : State} : ∀ w ∈ ([] : List Cond), w.before args s = true := fun _ h => nomatch h
theorem vx_own {args : Array Value} {s : State} {L : List Cond} (h1 : ∀ w ∈ L.filter vx_no, w.before args s = true)
    (hU : (Cond.isRef (.static Bundle.tN "UNASSIGNED_STACK" Bundle.steD)).before args s = true) (hN : (Cond.isRef (.static Bundle.tN "SUPPRESSED_SENTINEL" Bundle.listD)).before args s = true)
    (lU : (Cond.laysStatic Bundle.tN "UNASSIGNED_STACK" Bundle.steD).before args s = true) (lN : (Cond.laysStatic Bundle.tN "SUPPRESSED_SENTINEL" Bundle.listD).before args s = true) : ∀ w ∈ L, w.before args s = true := by
  intro w hw
  by_cases e1 : w = .isRef (.static Bundle.tN "UNASSIGNED_STACK" Bundle.steD)
  · rw [e1]; exact hU
  · by_cases e2 : w = .isRef (.static Bundle.tN "SUPPRESSED_SENTINEL" Bundle.listD)
    · rw [e2]; exact hN
    · by_cases e3 : w = .laysStatic Bundle.tN "UNASSIGNED_STACK" Bundle.steD
      · rw [e3]; exact lU
      · by_cases e4 : w = .laysStatic Bundle.tN "SUPPRESSED_SENTINEL" Bundle.listD
        · rw [e4]; exact lN
        · exact h1 w (List.mem_filter.mpr ⟨hw, by unfold vx_no; rw [decide_eq_true e1, decide_eq_true e2, decide_eq_true e3, decide_eq_true e4]; rfl⟩)
/-- where a static field lies, its class's statics cell in H -/
def vx_L (C n d : String) (A : Nat → Prop) (U : State) (H : Heap) : Prop := ∃ (c : ClassId) (k : Class) (i : Nat) (f : Field) (a : Nat) (cell : Cell), U.vm.findClass C = some c ∧ U.fieldFound? C n d = some (c, k, i, f) ∧ f.isStatic = true ∧ k.statics = some a ∧ H[a]? = some cell ∧ cell.vm.isStatics = true ∧ cell.cls = c ∧ f.slot < cell.slots.size ∧ k.staticTypes[f.slot]? = some f.type ∧ ¬ A a
theorem vx_L.moved {C n d : String} {A : Nat → Prop} {u U : State} {H : Heap} (hvm : u.vm.Alike U.vm) (h : vx_L C n d A u H) : vx_L C n d A U H := by
  obtain ⟨c, k, i, f, a, cell, h1, h2, h3, h4, h5, h6, h7, h8, h9, h10⟩ := h
  obtain ⟨k', hi', he⟩ := State.fieldFound?_setVm hvm h2
  exact ⟨c, k', i, f, a, cell, by rw [hvm.findClass]; exact h1, hi', h3, by rw [he]; exact h4, h5, h6, h7, h8, by rw [he]; exact h9, h10⟩
theorem vx_L.kept {C n d : String} {A : Nat → Prop} {U : State} {H H1 : Heap} (h : vx_L C n d A U H) (hq : ∀ a : Nat, a < H.size → ¬ A a → H1[a]? = H[a]?) : vx_L C n d A U H1 := by
  obtain ⟨c, k, i, f, a, cell, h1, h2, h3, h4, h5, h6, h7, h8, h9, h10⟩ := h
  exact ⟨c, k, i, f, a, cell, h1, h2, h3, h4, by rw [hq a (Array.getElem?_eq_some_iff.mp h5).1 h10]; exact h5, h6, h7, h8, h9, h10⟩
theorem vx_L.narrow {C n d : String} {A B : Nat → Prop} {U : State} {H : Heap} (h : vx_L C n d A U H) (hAB : ∀ q, B q → A q) : vx_L C n d B U H := by
  obtain ⟨c, k, i, f, a, cell, h1, h2, h3, h4, h5, h6, h7, h8, h9, h10⟩ := h
  exact ⟨c, k, i, f, a, cell, h1, h2, h3, h4, h5, h6, h7, h8, h9, fun z => h10 (hAB _ z)⟩
theorem vx_L.word {C n d : String} {A : Nat → Prop} {s : State} {args : Array Value} (h : vx_L C n d A s s.heap) : (Cond.laysStatic C n d).before args s = true := by
  obtain ⟨c, k, i, f, a, cell, h1, h2, h3, h4, h5, h6, h7, h8, h9, -⟩ := h
  show (Cond.laysStatic C n d).holds args s none s [] = true
  exact Cond.laysStatic_of h1 h2 h3 h4 h5 h6 h7 h8 h9
/-- .. and what it holds: null or some reference -/
def vx_Zq (C n d : String) (A : Nat → Prop) (U : State) (H : Heap) : Prop := va_Zq C n d A U H ∧ vx_L C n d A U H
theorem vx_Zq.moved {C n d : String} {A : Nat → Prop} {u U : State} {H : Heap} (hvm : u.vm.Alike U.vm) (h : vx_Zq C n d A u H) : vx_Zq C n d A U H := ⟨va_Zq.moved hvm h.1, vx_L.moved hvm h.2⟩
theorem vx_Zq.kept {C n d : String} {A : Nat → Prop} {U : State} {H H1 : Heap} (h : vx_Zq C n d A U H) (hq : ∀ a : Nat, a < H.size → ¬ A a → H1[a]? = H[a]?) : vx_Zq C n d A U H1 := ⟨va_Zq.kept h.1 hq, vx_L.kept h.2 hq⟩
theorem vx_Zq.narrow {C n d : String} {A B : Nat → Prop} {U : State} {H : Heap} (h : vx_Zq C n d A U H) (hAB : ∀ q, B q → A q) : vx_Zq C n d B U H := ⟨va_Zq.narrow h.1 hAB, vx_L.narrow h.2 hAB⟩
theorem vx_Zqof {args : Array Value} {s : State} {C n d : String} {A : Nat → Prop} (hl : (Cond.laysStatic C n d).before args s = true) (hini : (Cond.initialized C).before args s = true) (h : (Cond.isRef (.static C n d)).before args s = true) (hA : ∀ a : Nat, a < s.heap.size → ¬ A a) : vx_Zq C n d A s s.heap := by
  refine ⟨va_Zqof hl hini h hA, ?_⟩
  obtain ⟨c, k, i, f, a, cell, h1, h2, h3, h4, h5, h6, h7, h8, h9⟩ := Cond.laysStatic_spec hl
  exact ⟨c, k, i, f, a, cell, h1, h2, h3, h4, h5, h6, h7, h8, h9, hA a (Array.getElem?_eq_some_iff.mp h5).1⟩
theorem vx_isRef {C n d : String} {v : Value} {A : Nat → Prop} {s : State} {args : Array Value} (h : va_Z C n d v A s s.heap) (hv : v.isRef = true) : (Cond.isRef (.static C n d)).before args s = true := by
  obtain ⟨cf, kf, fi, f, a, cell, h1, h2, h3, h4, h5, h6, h7, -⟩ := h
  have he : (Term.static C n d).eval args s none [] s = some v := by
    simp [Term.eval, State.fieldNamed?, h1, h2, h4, h5, h6, h7]
  simp only [Cond.before, Cond.holds, Cond.value, he]
  cases v <;> simp_all [Value.isRef]
theorem vx_isRefq {C n d : String} {A : Nat → Prop} {s : State} {args : Array Value} (h : va_Zq C n d A s s.heap) : (Cond.isRef (.static C n d)).before args s = true := by
  rcases h with h | ⟨t, h⟩
  · exact vx_isRef h rfl
  · exact vx_isRef h rfl
/-- the same frame, seen from here: as if the method were called anew in this heap -/
theorem vx_rebase {T : State} (X : Stand p l e R s m args below meth c T locs cells slots) {R' : Room} (hf : R'.frames ≤ R.frames) (hl : R'.locals ≤ R.locals) (hc : cells + R'.cells ≤ R.cells) (hs : slots + R'.slots ≤ R.slots) :
    Stand p l e R' ((T.setVm s.vm).setFrames (.invoking m args :: below)) m args below meth c T [] 0 0 := by
  have htop : (T.setVm s.vm).topJava?.isSome := X.here.top
  have hF : ((T.setVm s.vm).setFrames (.invoking m args :: below)).frames = .invoking m args :: below := State.frames_setFrames _ (State.cur_lt_of_top htop)
  obtain ⟨g₀, hg0⟩ := Option.isSome_iff_exists.mp htop
  obtain ⟨r, hr⟩ := State.topJava?_eq_some.mp hg0
  have hl9 : e.platform.stackLimits (T.setVm s.vm).me = e.platform.stackLimits s.me := X.limits
  have hb9 : (T.setVm s.vm).me.stackBytes = s.me.stackBytes := X.bytes
  refine ⟨X.admits, X.cas, X.clock, hF, ?_, X.hears, X.method, X.code, X.here, X.tail, X.warmed, ?_, ?_, ?_⟩
  · have h := X.room
    have hU : ((T.setVm s.vm).setFrames (.invoking m args :: below)).localsInUse = s.localsInUse := by
      rw [State.localsInUse_invoking hF (meth := meth) (c := c) X.method X.code, State.localsInUse_invoking X.frames X.method X.code]
    simp only [State.hasRoom, Bool.and_eq_true, decide_eq_true_eq] at h ⊢
    obtain ⟨⟨⟨⟨h1, h2, h3, h4, h5, h6⟩, h7⟩, h8⟩, h9⟩ := h
    rw [X.frames, List.length_cons] at h2 h3
    have q1 := X.heapSize
    have q2 := X.used
    simp only [hF, hU, List.length_cons, State.stackLimits_setFrames, State.stackBytes_setFrames, hl9, hb9]
    refine ⟨⟨⟨⟨by omega, by omega, by omega, by omega, by omega, h6⟩, ?_⟩, ?_⟩, X.book⟩
    · show T.heap.size + R'.cells ≤ e.platform.maxCells
      omega
    · show T.slotsUsed + R'.slots ≤ e.platform.maxSlots
      omega
  · rw [State.stackLimits_setFrames]; rfl
  · rw [State.stackBytes_setFrames]; rfl
  · refine ⟨?_, Nat.le_refl _, Nat.le_refl _, ?_, ?_, fun a c9 h9 => ⟨c9, h9, rfl, rfl, fun _ _ => rfl⟩⟩
    · obtain ⟨t, ht, -⟩ := State.frames_cons hr
      show T.setVm s.vm = { ((T.setVm s.vm).setFrames (.invoking m args :: below)).setFrames (T.setVm s.vm).frames with heap := T.heap, slotsUsed := T.slotsUsed }
      rw [State.setFrames_setFrames, State.setFrames_self ht]
      rfl
    · show T.slotsUsed = T.slotsUsed + ((T.heap.toList.drop T.heap.size).map (·.slots.size)).sum
      rw [List.drop_eq_nil_of_le (Nat.le_of_eq Array.length_toList)]
      rfl
    · show ((T.heap.toList.drop T.heap.size).map (·.slots.size)).sum ≤ 0
      rw [List.drop_eq_nil_of_le (Nat.le_of_eq Array.length_toList)]
      exact Nat.le_refl _
/-- 'throw new E()': new; dup; invokespecial; athrow -/
theorem vx_throw0 {cc : ByteArray} {pc : Nat} (hexec : p.tables.exec = Jvm.exec) (hb : c.code = cc) (hl : l.stackTraces = false) {own cls : String} {names : List String} {ik ic mc ms : Nat} {A : Nat → Prop}
    (hown : s.vm.findClass own = some m.cls) (hcls : Bundle.fit cls = true) (hnames : ∀ n ∈ names, Bundle.fit n = true)
    (hk : (Cond.classLink own ik cls).before args s = true) (hini : (Cond.initialized cls).before args s = true) (hat : ∀ w ∈ vx_at0 own ic cls names, w.before args s = true)
    (hgood : ∀ w ∈ Cond.classLink own ik cls :: Cond.initialized cls :: vx_at0 own ic cls names, vx_ot w = true)
    (hU : vx_Zq Bundle.tN "UNASSIGNED_STACK" Bundle.steD A s s.heap) (hN : vx_Zq Bundle.tN "SUPPRESSED_SENTINEL" Bundle.listD A s s.heap) (hS : va_S A s.heap H locs) (hsize : ls.size = c.maxLocals)
    (d0 : decode cc pc = .ok (.new ik, 3)) (d3 : decode cc (pc + 3) = .ok (.dup, 1)) (d4 : decode cc (pc + 4) = .ok (.invokespecial ic, 3)) (d7 : decode cc (pc + 7) = .ok (.athrow, 1))
    (hout : ∀ x ∈ c.exceptionTable.toList, covers x (pc + 7) = false)
    (hRframes : names.length + 3 < R.frames) (hRlocals : (rest.map fun v => v.category).sum + (13 * (names.length + 1) + 42) ≤ R.locals) (hRcells : cells + 1 ≤ R.cells) (hRslots : slots + 6 ≤ R.slots) (hlocks : meth.locks = false)
    (hx : ∀ t : State, s.vm.Alike t.vm → H.size ≤ t.heap.size → (∀ q : Nat, q < H.size → t.heap[q]? = H[q]?) → XC cls s t)
    (hf : ∀ z ∈ locs, free z.base) (hc : cells + 1 ≤ mc) (hs : slots + 6 ≤ ms) :
    W p l e R s m args below meth c H locs cells slots (vx_MQ below Qc XC args s mc ms free) (F0 m pc ls rest) := by
  intro T hT X
  have htr : e.platform.stackTraces = false := (show e.platform.stackTraces = l.stackTraces by rw [X.admits.platform]).trans hl
  have Y := vx_rebase X (R' := { frames := R.frames, locals := R.locals, cells := 1, slots := 6 }) (Nat.le_refl _) (Nat.le_refl _) hRcells hRslots
  obtain ⟨s', hA⟩ : ∃ z, z = (T.setVm s.vm).setFrames (.invoking m args :: below) := ⟨_, rfl⟩
  rw [← hA] at Y
  have hvm : s'.vm = s.vm := by rw [hA]; rfl
  have hhp : s'.heap = H := by rw [hA]; exact hT
  have hW0 : s.WarmedH s'.vm := by rw [hvm]; exact State.WarmedH.refl s
  have hat' : ∀ w ∈ vx_at0 own ic cls names, w.before args s' = true := fun w hw => vx_ot_at hW0 hvm.symm (hgood w (List.mem_cons_of_mem _ (List.mem_cons_of_mem _ hw))) (hat w hw)
  have hk' : (Cond.classLink own ik cls).before args s' = true := vx_ot_at hW0 hvm.symm (hgood _ List.mem_cons_self) hk
  have hini' : (Cond.initialized cls).before args s' = true := vx_ot_at hW0 hvm.symm (hgood _ (List.mem_cons_of_mem _ List.mem_cons_self)) hini
  have hU' : vx_Zq Bundle.tN "UNASSIGNED_STACK" Bundle.steD A s' s'.heap := by rw [hhp]; exact vx_Zq.moved hW0.alike (hU.kept hS.2.1)
  have hN' : vx_Zq Bundle.tN "SUPPRESSED_SENTINEL" Bundle.listD A s' s'.heap := by rw [hhp]; exact vx_Zq.moved hW0.alike (hN.kept hS.2.1)
  have h : ∀ w ∈ Bundle.ownAtoms0 own ic cls names, w.before args s' = true := vx_own hat' (vx_isRefq hU'.1) (vx_isRefq hN'.1) hU'.2.word hN'.2.word
  have hown' : s'.vm.findClass own = some m.cls := by rw [hvm]; exact hown
  have hins : (Cond.instantiable cls 6).before args s' = true := h _ (by simp [Bundle.ownAtoms0])
  obtain ⟨vm₁, cX, kX, hfX, hkX, -, -, X₁, st1⟩ := Y.newCold hexec (own := own) (C := cls) (index := ik) (n := 6) hown' hk' hins hini'
    (g := F0 m pc ls rest) rfl (by rw [hb]; exact d0) (Nat.le_refl _) (Nat.le_refl _)
  generalize hT1 : (T.setVm vm₁).pushCell { cls := cX, slots := kX.instanceTypes.map defaultValue, vm := .none } = T1 at X₁ st1
  have hcat : (Value.ref T.heap.size).category = 1 := rfl
  have hcellA : T1.heap[T.heap.size]? = some (freshCell cX kX) := by rw [← hT1]; exact State.heap_pushCell_size _ _
  have d3' : decode c.code (pc + 3) = .ok (.dup, 1) := by rw [hb]; exact d3
  obtain ⟨U, hsteps, hrun, hend, hW, hsame, ce, hce, hO⟩ := X₁.ctorThrow0 hexec htr (own := own) (cls := cls) (names := names) (ic := ic) hown' hcls hnames h (fun x hx => nomatch hx) hfX hkX hcellA (by rw [hhp, hT]; exact Nat.le_refl _)
    (g := { method := m, pc := pc + 4, locals := ls, stack := .ref T.heap.size :: .ref T.heap.size :: rest, locked := none }) rfl hsize rfl rfl (rest := rest) rfl
    (by rw [hb]; exact d4) (by rw [hb]; exact d7) hout hRframes (by simp only [List.map_cons, List.sum_cons, hcat]; omega) hlocks
  obtain ⟨f1, f2⟩ := vx_frame hsame
  rw [hhp] at f1 f2
  have hWs : s.WarmedH U.vm := State.WarmedH.trans hW0 hW
  have hcl : s.vm.findClass cls = some ce.cls := by
    have h9 := hO.cls
    rw [hvm] at h9
    exact h9
  have hall : s.sameButNew ({ U with vm := s.vm } : State) locs mc ms := by
    subst hA
    obtain ⟨e1, e2⟩ := hsame
    rw [State.setFrames_setFrames] at e1
    have h2 : (T.setVm s.vm).sameButNew ({ U with vm := s.vm } : State) [] (0 + 1) (0 + 6) := ⟨e1, e2⟩
    have h3 := X.same.trans h2
    rw [List.append_nil] at h3
    exact h3.mono hc hs
  refine ⟨U, ?_, .threw T.heap.size, hrun, hend, Or.inr ⟨T.heap.size, rfl, cls, ce, locs, hx U hWs.alike f1 (fun q hq => f2 q hq (fun z hz => nomatch hz)), hce, hO.vm, hcl, hWs, hall, hf⟩⟩
  refine st1 _ ?_
  show Steps p.tables e below (T1.setTop { method := m, pc := pc + 3, locals := ls, stack := .ref T.heap.size :: rest, locked := none }) _
  jvm_step X₁.here [X₁.here.top, hexec, d3', Value.category]
  exact hsteps
/-- 'throw new E("text")': new; dup; ldc; invokespecial; athrow -/
theorem vx_throwS {cc : ByteArray} {pc : Nat} (hexec : p.tables.exec = Jvm.exec) (hb : c.code = cc) (hl : l.stackTraces = false) {own cls text : String} {names : List String} {ik is ic mc ms sa : Nat} {A : Nat → Prop}
    (hown : s.vm.findClass own = some m.cls) (hcls : Bundle.fit cls = true) (hnames : ∀ n ∈ names, Bundle.fit n = true)
    (hk : (Cond.classLink own ik cls).before args s = true) (hini : (Cond.initialized cls).before args s = true) (hstr : vk_R own is text sa s) (hat : ∀ w ∈ vx_atS own ic cls names, w.before args s = true)
    (hgood : ∀ w ∈ Cond.classLink own ik cls :: Cond.initialized cls :: vx_atS own ic cls names, vx_ot w = true)
    (hU : vx_Zq Bundle.tN "UNASSIGNED_STACK" Bundle.steD A s s.heap) (hN : vx_Zq Bundle.tN "SUPPRESSED_SENTINEL" Bundle.listD A s s.heap) (hS : va_S A s.heap H locs) (hsize : ls.size = c.maxLocals)
    (d0 : decode cc pc = .ok (.new ik, 3)) (d3 : decode cc (pc + 3) = .ok (.dup, 1)) (d4 : decode cc (pc + 4) = .ok (.ldc is, 2)) (d6 : decode cc (pc + 6) = .ok (.invokespecial ic, 3)) (d9 : decode cc (pc + 9) = .ok (.athrow, 1))
    (hout : ∀ x ∈ c.exceptionTable.toList, covers x (pc + 9) = false)
    (hRframes : names.length + 3 < R.frames) (hRlocals : (rest.map fun v => v.category).sum + (13 * (names.length + 1) + 43) ≤ R.locals) (hRcells : cells + 1 ≤ R.cells) (hRslots : slots + 6 ≤ R.slots) (hlocks : meth.locks = false)
    (hx : ∀ t : State, s.vm.Alike t.vm → H.size ≤ t.heap.size → (∀ q : Nat, q < H.size → t.heap[q]? = H[q]?) → XC cls s t)
    (hf : ∀ z ∈ locs, free z.base) (hc : cells + 1 ≤ mc) (hs : slots + 6 ≤ ms) :
    W p l e R s m args below meth c H locs cells slots (vx_MQ below Qc XC args s mc ms free) (F0 m pc ls rest) := by
  intro T hT X
  have htr : e.platform.stackTraces = false := (show e.platform.stackTraces = l.stackTraces by rw [X.admits.platform]).trans hl
  have Y := vx_rebase X (R' := { frames := R.frames, locals := R.locals, cells := 1, slots := 6 }) (Nat.le_refl _) (Nat.le_refl _) hRcells hRslots
  obtain ⟨s', hA⟩ : ∃ z, z = (T.setVm s.vm).setFrames (.invoking m args :: below) := ⟨_, rfl⟩
  rw [← hA] at Y
  have hvm : s'.vm = s.vm := by rw [hA]; rfl
  have hhp : s'.heap = H := by rw [hA]; exact hT
  have hW0 : s.WarmedH s'.vm := by rw [hvm]; exact State.WarmedH.refl s
  have hat' : ∀ w ∈ vx_atS own ic cls names, w.before args s' = true := fun w hw => vx_ot_at hW0 hvm.symm (hgood w (List.mem_cons_of_mem _ (List.mem_cons_of_mem _ hw))) (hat w hw)
  have hk' : (Cond.classLink own ik cls).before args s' = true := vx_ot_at hW0 hvm.symm (hgood _ List.mem_cons_self) hk
  have hini' : (Cond.initialized cls).before args s' = true := vx_ot_at hW0 hvm.symm (hgood _ (List.mem_cons_of_mem _ List.mem_cons_self)) hini
  have hU' : vx_Zq Bundle.tN "UNASSIGNED_STACK" Bundle.steD A s' s'.heap := by rw [hhp]; exact vx_Zq.moved hW0.alike (hU.kept hS.2.1)
  have hN' : vx_Zq Bundle.tN "SUPPRESSED_SENTINEL" Bundle.listD A s' s'.heap := by rw [hhp]; exact vx_Zq.moved hW0.alike (hN.kept hS.2.1)
  have h : ∀ w ∈ Bundle.ownAtoms own ic cls names, w.before args s' = true := vx_own hat' (vx_isRefq hU'.1) (vx_isRefq hN'.1) hU'.2.word hN'.2.word
  have hown' : s'.vm.findClass own = some m.cls := by rw [hvm]; exact hown
  have hins : (Cond.instantiable cls 6).before args s' = true := h _ (by simp [Bundle.ownAtoms])
  obtain ⟨vm₁, cX, kX, hfX, hkX, -, -, X₁, st1⟩ := Y.newCold hexec (own := own) (C := cls) (index := ik) (n := 6) hown' hk' hins hini'
    (g := F0 m pc ls rest) rfl (by rw [hb]; exact d0) (Nat.le_refl _) (Nat.le_refl _)
  generalize hT1 : (T.setVm vm₁).pushCell { cls := cX, slots := kX.instanceTypes.map defaultValue, vm := .none } = T1 at X₁ st1
  have hcat : (Value.ref T.heap.size).category = 1 := rfl
  have hcellA : T1.heap[T.heap.size]? = some (freshCell cX kX) := by rw [← hT1]; exact State.heap_pushCell_size _ _
  have d3' : decode c.code (pc + 3) = .ok (.dup, 1) := by rw [hb]; exact d3
  have d4' : decode c.code (pc + 4) = .ok (.ldc is, 2) := by rw [hb]; exact d4
  have hstr' : vk_R own is text sa s' := vk_R.warm hW0 hstr
  obtain ⟨U, hsteps, hrun, hend, hW, hsame, ce, hce, hO⟩ := X₁.ctorThrowS hexec htr (own := own) (cls := cls) (names := names) (ic := ic) hown' hcls hnames h (fun x hx => nomatch hx) hfX hkX hcellA (by rw [hhp, hT]; exact Nat.le_refl _) (msg := .ref sa) rfl
    (g := { method := m, pc := pc + 6, locals := ls, stack := .ref sa :: .ref T.heap.size :: .ref T.heap.size :: rest, locked := none }) rfl hsize rfl rfl (rest := rest) rfl
    (by rw [hb]; exact d6) (by rw [hb]; exact d9) hout hRframes (by simp only [List.map_cons, List.sum_cons, hcat]; omega) hlocks
  obtain ⟨f1, f2⟩ := vx_frame hsame
  rw [hhp] at f1 f2
  have hWs : s.WarmedH U.vm := State.WarmedH.trans hW0 hW
  have hcl : s.vm.findClass cls = some ce.cls := by
    have h9 := hO.cls
    rw [hvm] at h9
    exact h9
  have hall : s.sameButNew ({ U with vm := s.vm } : State) locs mc ms := by
    subst hA
    obtain ⟨e1, e2⟩ := hsame
    rw [State.setFrames_setFrames] at e1
    have h2 : (T.setVm s.vm).sameButNew ({ U with vm := s.vm } : State) [] (0 + 1) (0 + 6) := ⟨e1, e2⟩
    have h3 := X.same.trans h2
    rw [List.append_nil] at h3
    exact h3.mono hc hs
  refine ⟨U, ?_, .threw T.heap.size, hrun, hend, Or.inr ⟨T.heap.size, rfl, cls, ce, locs, hx U hWs.alike f1 (fun q hq => f2 q hq (fun z hz => nomatch hz)), hce, hO.vm, hcl, hWs, hall, hf⟩⟩
  refine st1 _ ?_
  show Steps p.tables e below (T1.setTop { method := m, pc := pc + 3, locals := ls, stack := .ref T.heap.size :: rest, locked := none }) _
  jvm_step X₁.here [X₁.here.top, hexec, d3', Value.category]
  exact X₁.ldcString hexec (own := own) (text := text) (index := is) (a := sa) hown' hstr'.1 hstr'.2
    (g := { method := m, pc := pc + 4, locals := ls, stack := .ref T.heap.size :: .ref T.heap.size :: rest, locked := none }) rfl d4' _ hsteps
/-- 'throw new E("text")', the text by a wide index -/
theorem vx_throwSW {cc : ByteArray} {pc : Nat} (hexec : p.tables.exec = Jvm.exec) (hb : c.code = cc) (hl : l.stackTraces = false) {own cls text : String} {names : List String} {ik is ic mc ms sa : Nat} {A : Nat → Prop}
    (hown : s.vm.findClass own = some m.cls) (hcls : Bundle.fit cls = true) (hnames : ∀ n ∈ names, Bundle.fit n = true)
    (hk : (Cond.classLink own ik cls).before args s = true) (hini : (Cond.initialized cls).before args s = true) (hstr : vk_R own is text sa s) (hat : ∀ w ∈ vx_atS own ic cls names, w.before args s = true)
    (hgood : ∀ w ∈ Cond.classLink own ik cls :: Cond.initialized cls :: vx_atS own ic cls names, vx_ot w = true)
    (hU : vx_Zq Bundle.tN "UNASSIGNED_STACK" Bundle.steD A s s.heap) (hN : vx_Zq Bundle.tN "SUPPRESSED_SENTINEL" Bundle.listD A s s.heap) (hS : va_S A s.heap H locs) (hsize : ls.size = c.maxLocals)
    (d0 : decode cc pc = .ok (.new ik, 3)) (d3 : decode cc (pc + 3) = .ok (.dup, 1)) (d4 : decode cc (pc + 4) = .ok (.ldc_w is, 3)) (d7 : decode cc (pc + 7) = .ok (.invokespecial ic, 3)) (d10 : decode cc (pc + 10) = .ok (.athrow, 1))
    (hout : ∀ x ∈ c.exceptionTable.toList, covers x (pc + 10) = false)
    (hRframes : names.length + 3 < R.frames) (hRlocals : (rest.map fun v => v.category).sum + (13 * (names.length + 1) + 43) ≤ R.locals) (hRcells : cells + 1 ≤ R.cells) (hRslots : slots + 6 ≤ R.slots) (hlocks : meth.locks = false)
    (hx : ∀ t : State, s.vm.Alike t.vm → H.size ≤ t.heap.size → (∀ q : Nat, q < H.size → t.heap[q]? = H[q]?) → XC cls s t)
    (hf : ∀ z ∈ locs, free z.base) (hc : cells + 1 ≤ mc) (hs : slots + 6 ≤ ms) :
    W p l e R s m args below meth c H locs cells slots (vx_MQ below Qc XC args s mc ms free) (F0 m pc ls rest) := by
  intro T hT X
  have htr : e.platform.stackTraces = false := (show e.platform.stackTraces = l.stackTraces by rw [X.admits.platform]).trans hl
  have Y := vx_rebase X (R' := { frames := R.frames, locals := R.locals, cells := 1, slots := 6 }) (Nat.le_refl _) (Nat.le_refl _) hRcells hRslots
  obtain ⟨s', hA⟩ : ∃ z, z = (T.setVm s.vm).setFrames (.invoking m args :: below) := ⟨_, rfl⟩
  rw [← hA] at Y
  have hvm : s'.vm = s.vm := by rw [hA]; rfl
  have hhp : s'.heap = H := by rw [hA]; exact hT
  have hW0 : s.WarmedH s'.vm := by rw [hvm]; exact State.WarmedH.refl s
  have hat' : ∀ w ∈ vx_atS own ic cls names, w.before args s' = true := fun w hw => vx_ot_at hW0 hvm.symm (hgood w (List.mem_cons_of_mem _ (List.mem_cons_of_mem _ hw))) (hat w hw)
  have hk' : (Cond.classLink own ik cls).before args s' = true := vx_ot_at hW0 hvm.symm (hgood _ List.mem_cons_self) hk
  have hini' : (Cond.initialized cls).before args s' = true := vx_ot_at hW0 hvm.symm (hgood _ (List.mem_cons_of_mem _ List.mem_cons_self)) hini
  have hU' : vx_Zq Bundle.tN "UNASSIGNED_STACK" Bundle.steD A s' s'.heap := by rw [hhp]; exact vx_Zq.moved hW0.alike (hU.kept hS.2.1)
  have hN' : vx_Zq Bundle.tN "SUPPRESSED_SENTINEL" Bundle.listD A s' s'.heap := by rw [hhp]; exact vx_Zq.moved hW0.alike (hN.kept hS.2.1)
  have h : ∀ w ∈ Bundle.ownAtoms own ic cls names, w.before args s' = true := vx_own hat' (vx_isRefq hU'.1) (vx_isRefq hN'.1) hU'.2.word hN'.2.word
  have hown' : s'.vm.findClass own = some m.cls := by rw [hvm]; exact hown
  have hins : (Cond.instantiable cls 6).before args s' = true := h _ (by simp [Bundle.ownAtoms])
  obtain ⟨vm₁, cX, kX, hfX, hkX, -, -, X₁, st1⟩ := Y.newCold hexec (own := own) (C := cls) (index := ik) (n := 6) hown' hk' hins hini'
    (g := F0 m pc ls rest) rfl (by rw [hb]; exact d0) (Nat.le_refl _) (Nat.le_refl _)
  generalize hT1 : (T.setVm vm₁).pushCell { cls := cX, slots := kX.instanceTypes.map defaultValue, vm := .none } = T1 at X₁ st1
  have hcat : (Value.ref T.heap.size).category = 1 := rfl
  have hcellA : T1.heap[T.heap.size]? = some (freshCell cX kX) := by rw [← hT1]; exact State.heap_pushCell_size _ _
  have d3' : decode c.code (pc + 3) = .ok (.dup, 1) := by rw [hb]; exact d3
  have d4' : decode c.code (pc + 4) = .ok (.ldc_w is, 3) := by rw [hb]; exact d4
  have hstr' : vk_R own is text sa s' := vk_R.warm hW0 hstr
  obtain ⟨U, hsteps, hrun, hend, hW, hsame, ce, hce, hO⟩ := X₁.ctorThrowS hexec htr (own := own) (cls := cls) (names := names) (ic := ic) hown' hcls hnames h (fun x hx => nomatch hx) hfX hkX hcellA (by rw [hhp, hT]; exact Nat.le_refl _) (msg := .ref sa) rfl
    (g := { method := m, pc := pc + 7, locals := ls, stack := .ref sa :: .ref T.heap.size :: .ref T.heap.size :: rest, locked := none }) rfl hsize rfl rfl (rest := rest) rfl
    (by rw [hb]; exact d7) (by rw [hb]; exact d10) hout hRframes (by simp only [List.map_cons, List.sum_cons, hcat]; omega) hlocks
  obtain ⟨f1, f2⟩ := vx_frame hsame
  rw [hhp] at f1 f2
  have hWs : s.WarmedH U.vm := State.WarmedH.trans hW0 hW
  have hcl : s.vm.findClass cls = some ce.cls := by
    have h9 := hO.cls
    rw [hvm] at h9
    exact h9
  have hall : s.sameButNew ({ U with vm := s.vm } : State) locs mc ms := by
    subst hA
    obtain ⟨e1, e2⟩ := hsame
    rw [State.setFrames_setFrames] at e1
    have h2 : (T.setVm s.vm).sameButNew ({ U with vm := s.vm } : State) [] (0 + 1) (0 + 6) := ⟨e1, e2⟩
    have h3 := X.same.trans h2
    rw [List.append_nil] at h3
    exact h3.mono hc hs
  refine ⟨U, ?_, .threw T.heap.size, hrun, hend, Or.inr ⟨T.heap.size, rfl, cls, ce, locs, hx U hWs.alike f1 (fun q hq => f2 q hq (fun z hz => nomatch hz)), hce, hO.vm, hcl, hWs, hall, hf⟩⟩
  refine st1 _ ?_
  show Steps p.tables e below (T1.setTop { method := m, pc := pc + 3, locals := ls, stack := .ref T.heap.size :: rest, locked := none }) _
  jvm_step X₁.here [X₁.here.top, hexec, d3', Value.category]
  exact X₁.ldcStringW hexec (own := own) (text := text) (index := is) (a := sa) hown' hstr'.1 hstr'.2
    (g := { method := m, pc := pc + 4, locals := ls, stack := .ref T.heap.size :: .ref T.heap.size :: rest, locked := none }) rfl d4' _ hsteps
end Ends
section Bodies
variable {l : Launch}
theorem vx_ofW {y : MethodName} {ws ws' : List Cond} {rm : Room} {Pc : Array Value → State → Prop} {Qc : Array Value → State → Outcome → State → Prop} {XC : String → State → State → Prop} {mc ms : Nat} {free : Addr → Prop} {cc : ByteArray} {maxL : Nat} {ret : Option FieldType}
    (hy : plainName y.cls = true) (hw : ws = Cond.code y cc maxL ret :: ws')
    (body : ∀ p e s m args below meth c s₁, BodyLoose p l y (headSpec ws rm) cc maxL ret e s m args below meth c s₁ → c.maxLocals = maxL → (∀ x ∈ c.exceptionTable.toList, False) → Pc args s →
      W p l e (headSpec ws rm).room s m args below meth c s.heap [] 0 0 (vx_MQ below Qc XC args s mc ms free) (entryFrame m args maxL)) : vx_Met l y ws rm Pc Qc XC mc ms free := by
  refine MetFree.of_bodyS (code := cc) (maxLocals := maxL) (ret := ret) hy ?_ ?_
  · intro args s m h hn
    obtain ⟨meth, c, h1, h2, h3, h4, h5, h6, -, -⟩ := Cond.code_spec hn (atoms_spec (ws := ws) h _ (by rw [hw]; exact List.mem_cons_self))
    exact ⟨meth, c, h1, h2, h3, h4, h5, h6⟩
  · intro p e s m args below meth c s₁ B hml hP _
    have hh0 : s₁.heap = s.heap := by rw [B.state]; rfl
    have ht : ∀ x ∈ c.exceptionTable.toList, False := by
      obtain ⟨meth9, c9, h1, h2, -, -, -, -, h7, -⟩ := Cond.code_spec B.named (atoms_spec (ws := ws) B.pre _ (by rw [hw]; exact List.mem_cons_self))
      cases Option.some.inj (h1.symm.trans B.method)
      cases Option.some.inj (h2.symm.trans (Stand.of_body B).code)
      intro x hx
      rw [Array.isEmpty_iff.mp h7] at hx
      cases hx
    obtain ⟨t, a1, o, b1, b2, b3⟩ := body p e s m args below meth c s₁ B hml ht hP s₁ hh0 (Stand.of_body B)
    exact ⟨t, o, a1, b1, b2, b3⟩
/-- the table of a body with handlers -/
theorem vx_table {p : Program} {x y : MethodName} {S : Spec} {cc bytes : ByteArray} {maxL maxL' : Nat} {ret ret' : Option FieldType} {e : Env} {s s₁ : State} {m : MethodId} {args : Array Value} {below : List Frame} {meth : Method} {c : Code} {hh : List (Nat × Nat × Nat × Nat)}
    (B : BodyLoose p l y S cc maxL ret e s m args below meth c s₁) (h : (Cond.codeWith y bytes maxL' ret' hh).before args s = true) : c.exceptionTable.toList = tableOf hh := by
  obtain ⟨m9, meth9, c9, hn9, h1, h2, -, -, h6, -⟩ := Cond.codeWith_spec h
  cases Option.some.inj (hn9.symm.trans B.named)
  cases Option.some.inj (h1.symm.trans B.method)
  cases Option.some.inj (h2.symm.trans (Stand.of_body B).code)
  rw [← h6, table_eq]
end Bodies
end VXA
/-! ===== END ===== -/
/-! ===== BEGIN a static call of a method with an exception table ===== -/
section VXS
variable {p : Program} {l : Launch} {e : Env} {R : Room} {s : State} {m : MethodId} {args : Array Value} {below : List Frame} {meth : Method} {c : Code} {T : State} {H : Heap} {locs : List Loc} {cells slots : Nat}
abbrev vx_CSW (R : Room) (s : State) (args : Array Value) (own : String) (index : Nat) (y : MethodName) (bytes : ByteArray) (maxL : Nat) (ret : Option FieldType) (hh : List (Nat × Nat × Nat × Nat)) (ws : List Cond) (rm : Room) (mc ms n : Nat) : Prop :=
  (rm.cells = mc ∧ rm.slots = ms ∧ rm.frames + 1 ≤ R.frames ∧ 8 + (maxL + 11) + rm.locals ≤ R.locals ∧ (∀ w ∈ ws, ∀ (a' : Array Value) (U : State), s.WarmedH U.vm → w.before a' U = true) ∧ Cond.codeWith y bytes maxL ret hh ∈ ws) ∧
  (Cond.codeWith y bytes maxL ret hh).before args s = true ∧ (Cond.initialized y.cls).before args s = true ∧ (y.cls ≠ "java/lang/invoke/MethodHandle" ∧ y.cls ≠ "java/lang/invoke/VarHandle") ∧
  (∀ sig, parseMethodDescriptor y.desc = some sig → n = sig.parameters.length) ∧ (Cond.methodLink own index y).before args s = true ∧ (Cond.static y).before args s = true
theorem vx_cwSW {own : String} {index maxL mc ms : Nat} {y : MethodName} {bytes : ByteArray} {ret : Option FieldType} {hh : List (Nat × Nat × Nat × Nat)} {Ts ws ws' : List Cond} {rm : Room} (n : Nat) (ht : ∀ w ∈ Ts, w.before args s = true) (hT : GoodIn Ts (va_wsS own index y ws)) (hw : ws = Cond.codeWith y bytes maxL ret hh :: ws') (hrc : rm.cells = mc) (hrs : rm.slots = ms)
    (hd : y.cls ≠ "java/lang/invoke/MethodHandle" ∧ y.cls ≠ "java/lang/invoke/VarHandle" ∧ (parseMethodDescriptor y.desc).map (fun d => d.parameters.length) = some n) (hR : rm.frames + 1 ≤ R.frames ∧ 8 + (maxL + 11) + rm.locals ≤ R.locals) :
    vx_CSW R s args own index y bytes maxL ret hh ws rm mc ms n := by
  have ok : ∀ w ∈ va_wsS own index y ws, w.before args s = true := fun w h => ht w (hT w h).1
  have hG : GoodIn Ts ws := fun w h => hT w (by unfold va_wsS; exact List.mem_append_right _ h)
  have hc : Cond.codeWith y bytes maxL ret hh ∈ ws := by rw [hw]; exact List.mem_cons_self
  refine ⟨⟨hrc, hrs, hR.1, hR.2, pay_in ht hG, hc⟩, ht _ (hG _ hc).1, ok _ (by simp [va_wsS]), ⟨hd.1, hd.2.1⟩, fun sig h => ?_, ok _ (by simp [va_wsS]), ok _ (by simp [va_wsS])⟩
  have h2 := hd.2.2
  rw [h] at h2
  exact (Option.some.inj h2).symm
theorem vx_callSW (X : Stand p l e R s m args below meth c T locs cells slots) (hexec : p.tables.exec = Jvm.exec) {own : String} {index : Nat} {y : MethodName} {bytes : ByteArray} {maxL : Nat} {ret : Option FieldType} {hh : List (Nat × Nat × Nat × Nat)}
    (hown : s.vm.findClass own = some m.cls) (hlink : (Cond.methodLink own index y).before args s = true) (hstat : (Cond.static y).before args s = true) (hinit : (Cond.initialized y.cls).before args s = true)
    (hcode : (Cond.codeWith y bytes maxL ret hh).before args s = true) (hy : y.cls ≠ "java/lang/invoke/MethodHandle" ∧ y.cls ≠ "java/lang/invoke/VarHandle")
    {W9 : Nat} {Pre : Pt → Array Value → Prop} {Post : Pt → Array Value → Option Value → Pt → Prop} (hK : Back l R p e below s args y 3 W9 Pre Post)
    {g : JFrame} (hg : g.method = m) (hsize : g.locals.size = c.maxLocals) {argsL rest : List Value} (hlen : ∀ sig, parseMethodDescriptor y.desc = some sig → argsL.length = sig.parameters.length)
    (hstack : g.stack = argsL.reverse ++ rest) (hW : 2 * g.monitorRoom + (rest.map fun v => v.category).sum ≤ W9) (hdg : decode c.code g.pc = .ok (.invokestatic index, 3))
    (hpre : ∀ vm₁, s.WarmedH vm₁ → Pre ⟨T.setVm vm₁, locs, cells, slots⟩ argsL.toArray) :
    ∃ (v : Option Value) (vm₁ : Vm) (B : Pt), s.WarmedH vm₁ ∧ Stand p l e R s m args below meth c B.U B.locs B.cells B.slots ∧ Post ⟨T.setVm vm₁, locs, cells, slots⟩ argsL.toArray v B ∧
      ∀ target, Steps p.tables e below (B.U.setTop { g with pc := g.pc + 3, stack := v.toList ++ rest }) target → Steps p.tables e below (T.setTop g) target := by
  obtain ⟨mk, methM, cM, hnamed, hmethM, -, -, -, -, -, -, hsigM⟩ := Cond.codeWith_spec hcode
  have hstatic : methM.isStatic = true := Cond.static_spec hnamed hmethM hstat
  obtain ⟨kP, hkP, -⟩ := className_of_methodNamed hnamed
  have hinitP : kP.init = .initialized := Cond.initialized_spec (findClass_of_methodNamed hnamed) hkP hinit
  obtain ⟨vm₁, X₁, hstep₁⟩ := X.invokestatic hexec hown hlink hnamed hmethM hstatic hkP hinitP hy (g := g) hg (argsL := argsL) (rest := rest) (hlen _ hsigM) hstack hdg
  obtain ⟨v, B, X', hpost, hsteps⟩ := hK m meth c ⟨T.setVm vm₁, locs, cells, slots⟩ { g with stack := rest } (.invokestatic index) mk argsL.toArray X₁ hg hsize hdg hW (X₁.named hnamed) (hpre vm₁ X₁.warmed)
  exact ⟨v, vm₁, B, X₁.warmed, X', hpost, fun target h => hstep₁ _ fun acts => by rw [doInvoke_state]; exact hsteps.trans h⟩
theorem vx_runSW {y : MethodName} {bytes cc : ByteArray} {maxL nL mc ms n index : Nat} {ret : Option FieldType} {hh : List (Nat × Nat × Nat × Nat)} {ws : List Cond} {rm : Room} {Pc : Array Value → State → Prop} {Qc : Array Value → State → Outcome → State → Prop} {free : Addr → Prop} {Ts : List Cond} {own : String} {As rest : List Value} {g : JFrame}
    (S : CallFix p m c cc nL s args Ts own) (hM : Met l y ws rm Pc Qc mc ms free) (cw : vx_CSW R s args own index y bytes maxL ret hh ws rm mc ms n) (hp : PreS s H Pc As)
    (hg : g.method = m) (hn : As.length = n) (hsize : g.locals.size = nL) (hstack : g.stack = As.reverse ++ rest) (hW : 2 * g.monitorRoom + (rest.map fun v => v.category).sum ≤ 8) (hdg : decode cc g.pc = .ok (.invokestatic index, 3)) (hf : cells + mc ≤ R.cells ∧ slots + ms ≤ R.slots) :
    va_Run p l e R s m args below meth c H locs cells slots mc ms g rest (Qc As.toArray) (free) := by
  obtain ⟨⟨hrc, hrs, hfr, hlo, hws, hcw⟩, hcode, hini, hy, hlen, hl, hstt⟩ := cw
  have hK : Back l R p e below s args y 3 8 (PreOf R mc ms Pc) (PostOf Qc mc ms free) := va_backW (hh := hh) (bytes := bytes) (maxL := maxL) (ret := ret) hM hp.1 hrc hrs hfr hlo hws hcw (fun a' U hW => word_at hW (Or.inl (by first | rfl | simp [Cond.onTables, Cond.keeps, Cond.steady])) hini)
  obtain ⟨hx, hb, hml, ho, -⟩ := S
  intro T hT X
  obtain ⟨v, vm₁, ⟨U', l2, c2, s2⟩, hW₁, X', ⟨g', mk, t, L, e1, e2, hq, h1, hL, h2, h3⟩, st⟩ := vx_callSW X hx (hh := hh) (bytes := bytes) (maxL := maxL) (ret := ret) ho hl hstt hini hcode hy hK hg (hsize.trans hml.symm) (argsL := As) (rest := rest) (fun sig h => hn.trans (hlen sig h)) hstack hW (by rw [hb]; exact hdg)
    (fun vm₁ hW₁ => ⟨hf.1, hf.2, hp.2 (T.setVm vm₁) hT hW₁⟩)
  dsimp only [Pt.U, Pt.locs, Pt.cells, Pt.slots] at X' e1 e2 h1 h2 h3 st
  subst h1; subst h2; subst h3
  exact ⟨v, (T.setVm vm₁).calling g' mk As.toArray, t, U', L, hT, X', hL, e1, e2, hq, st⟩
/-- not caught here, past rows that name other classes: it goes on to the caller -/
theorem vx_outP {p : Program} {l : Launch} {e : Env} {R : Room} {s : State} {m : MethodId} {args : Array Value} {below : List Frame} {meth : Method} {c : Code} {H : Heap} {locs : List Loc} {cells slots : Nat} {free : Addr → Prop} {ls : Array Slot} {rest : List Value} {Qc : Array Value → State → Outcome → State → Prop} {XC : String → State → State → Prop}
    {pc : Nat} {own E : String} {ce : Cell} {q : Addr} {mc ms : Nat} (hown : s.vm.findClass own = some m.cls) (hlocks : meth.locks = false)
    (hpass : ∀ z ∈ c.exceptionTable.toList, covers z pc = false ∨ (z.catchType ≠ 0 ∧ ∃ nm : String, (Cond.classLink own z.catchType nm).before args s = true ∧ va_Nc E nm s)) (hcell : H[q]? = some ce) (hv : ce.vm = .none) (hcl : s.vm.findClass E = some ce.cls)
    (hx : ∀ t : State, t.heap = H → s.vm.Alike t.vm → XC E s t) (hf : ∀ z ∈ locs, free z.base) (hc : cells ≤ mc) (hs : slots ≤ ms) :
    vx_W p l e R s m args below meth c H locs cells slots (vx_MQ below Qc XC args s mc ms free) (F0 m pc ls rest) q := by
  intro T hT X
  have hpl : e.platform.magicAccessors = ({} : Platform).magicAccessors := by rw [X.admits.platform]
  obtain ⟨vm', hW', X', st⟩ := X.outThrough hlocks q (g := F0 m pc ls rest) rfl rfl rfl (cell := ce) (by rw [hT]; exact hcell) (by rw [hv]; rfl)
    (by obtain ⟨k9, h9, -⟩ := Vm.findClass_spec hcl; exact ⟨k9, h9⟩) (fun z hz => by
      rcases hpass z hz with h | ⟨hz0, nm, hl1, hn1⟩
      · exact Or.inl h
      · obtain ⟨c6, hc6, hcl6⟩ := Cond.classLink_spec hown hl1 e.platform hpl
        obtain ⟨a8, b8, h1, h2, h3⟩ := hn1
        cases Option.some.inj (h1.symm.trans hcl)
        cases Option.some.inj (h2.symm.trans hc6)
        exact Or.inr ⟨hz0, _, hcl6, h3⟩)
  obtain ⟨g₀, hfr⟩ := X'.frames_eq
  have hcell9 : ((T.setVm vm').setFrames (.throwing q :: below)).heap[q]? = some ce := by
    show T.heap[q]? = some ce
    rw [hT]; exact hcell
  have hend : Ended ((T.setVm vm').setFrames (.throwing q :: below)) below (.threw q) := State.frames_setFrames _ (State.cur_lt_of_frames hfr)
  refine ⟨(T.setVm vm').setFrames (.throwing q :: below), ?_, .threw q, X'.here.running, hend, Or.inr ⟨q, rfl, E, ce, locs, hx _ hT (X'.ends _).1.alike, hcell9, hv, hcl, (X'.ends _).1, (X'.ends _).2.mono hc hs, hf⟩⟩
  rw [X.pushThrowing_eq]
  exact st
/-- a thing of a world lies in the heap -/
theorem vx_lt {D : va_G} {cl : List vw_C} {ws : va_W} {H1 : Heap} (h : va_P D cl ws H1) {k : Nat} {q : Nat × va_E} (hk : ws[k]? = some q) : q.1 < H1.size := (h k q hk).lt
end VXS
/-! ===== END ===== -/
/-! ===== BEGIN methods with a table of their own: called by a name, returning or throwing ===== -/
section VXH
/-! vx_backW, vx_callVX, vx_callSX, vx_callVW, vx_runVW, vx_runVX, vx_runSX, vx_ofWH follow the same proofs as their sisters above (Free/Laws.lean, Shelf42/LK1.lean); vx_outP calls Shelf42/NT130.lean (outThrough). -/
section
variable {l : Launch} {R : Room} {p : Program} {e : Env} {below : List Frame} {s : State} {sargs : Array Value} {y : MethodName} {len W9 : Nat}
theorem vx_backW {ws : List Cond} {rm : Room} {Pc : Array Value → State → Prop} {Qc : Array Value → State → Outcome → State → Prop} {XC : String → State → State → Prop} {mc ms : Nat} {free : Addr → Prop} {bytes : ByteArray} {maxL : Nat} {ret : Option FieldType} {hh : List (Nat × Nat × Nat × Nat)}
    (hM : vx_Met l y ws rm Pc Qc XC mc ms free) (hblind : FrameBlind Pc) (hrc : rm.cells = mc) (hrs : rm.slots = ms)
    (hframes : rm.frames + 1 ≤ R.frames) (hlocals : W9 + (maxL + 11) + rm.locals ≤ R.locals)
    (hws : ∀ w ∈ ws, ∀ a' U, s.WarmedH U.vm → w.before a' U = true) (hcode : Cond.codeWith y bytes maxL ret hh ∈ ws) (hinit : ∀ a' U, s.WarmedH U.vm → (Cond.initialized y.cls).before a' U = true) :
    vx_Back l R p e below s sargs y len W9 (PreOf R mc ms Pc) (PostOf Qc mc ms free) (vx_Post XC mc ms free) := by
  intro m meth c A g ig mk a X hg hsize hdg hW hn hp
  have h1 : (headSpec ws rm).pre.before a A.U = true := atoms_intro fun w hw => hws w hw _ _ X.warmed
  have h2 : (Cond.codeWith y bytes maxL ret hh).before a A.U = true := hws _ hcode _ _ X.warmed
  have h3 : (Cond.initialized y.cls).before a A.U = true := hinit _ _ X.warmed
  have h4 : A.cells + (headSpec ws rm).room.cells ≤ R.cells := by rw [show (headSpec ws rm).room.cells = mc from hrc]; exact hp.1
  have h5 : A.slots + (headSpec ws rm).room.slots ≤ R.slots := by rw [show (headSpec ws rm).room.slots = ms from hrs]; exact hp.2.1
  have hPc : Pc a (A.U.calling g mk a) := hblind _ _ _ _ hp.2.2
  obtain ⟨U, Ls, c0, s0⟩ := A
  dsimp only [Pt.U, Pt.locs, Pt.cells, Pt.slots] at h1 h2 h3 h4 h5 X hn hPc ⊢
  obtain ⟨m9, methY, cY, hn9, hmY, hcY, -, hlY, -⟩ := Cond.codeWith_spec h2
  cases Option.some.inj (hn9.symm.trans hn)
  obtain ⟨kY, hkY, -⟩ := className_of_methodNamed hn
  have hinitY : kY.init = .initialized := Cond.initialized_spec (findClass_of_methodNamed hn) hkY h3
  have h : At U g.method c below := by rw [hg]; exact X.here
  have hlocals9 : W9 + (maxL + 11) + (headSpec ws rm).room.locals ≤ R.locals := hlocals
  have happ : (headSpec ws rm).appliesLoose y e.platform (U.calling g mk a) = true :=
    Spec.appliesLoose_calling (g := g) h hdg hn hkY hinitY
      (X.room_calling (g := g) (R' := (headSpec ws rm).room) hsize hmY hcY hframes (by rw [hlY]; omega) h4 h5) h1
  obtain ⟨mid, hmid⟩ := h.above
  have hfr : (U.setTop g).frames = (.java g :: mid) ++ below := by rw [State.frames_setTop' g h.top, hmid]; rfl
  obtain ⟨o, s₂, hsteps, -, hend, hq⟩ := Steps.callFree hM p X.admits X.cas X.clock (acts := []) hfr happ hPc trivial
  have hq' : vx_Q Qc XC mc ms free a (U.calling g mk a) o s₂ := hq
  rw [State.frames_setTop' g h.top] at hend
  obtain ⟨g₀, hg0⟩ := Option.isSome_iff_exists.mp h.top
  obtain ⟨r, hr⟩ := State.topJava?_eq_some.mp hg0
  have hr' : (({ U with heap := s₂.heap, slotsUsed := s₂.slotsUsed } : State).setVm s₂.vm).frames = .java g₀ :: r := hr
  rcases hq' with ⟨hqc, L, hfe, hL⟩ | ⟨q, rfl, E, ce, L, hx, hce, hcv, hcl, hW₂, hsm, hL⟩
  · obtain ⟨⟨v, rfl⟩, hW₂, e2, q2, q3, q4, q5, q6⟩ := id hfe
    have e3 : s₂ = ({ (U.calling g mk a).setFrames s₂.frames with heap := s₂.heap, slotsUsed := s₂.slotsUsed } : State).setVm s₂.vm := by
      have : s₂ = ({ s₂ with vm := (U.calling g mk a).vm } : State).setVm s₂.vm := rfl
      rw [e2] at this
      exact this
    obtain ⟨c₂, i₂, len₂, hc₂, hd₂, hf₂⟩ := hend
    have hW' : U.WarmedH s₂.vm := hW₂
    have hcc : c₂ = c := by
      have h1 : s₂.code? g.method = U.code? g.method := by
        rw [State.code?_eq, State.code?_eq, hW'.alike.method?]
      exact Option.some.inj (hc₂.symm.trans (h1.trans h.code))
    subst hcc
    have hlen : len₂ = len := by rw [hdg] at hd₂; cases hd₂; rfl
    subst hlen
    have hs₂ : s₂ = (({ U with heap := s₂.heap, slotsUsed := s₂.slotsUsed } : State).setVm s₂.vm).setTop { g with pc := g.pc + len₂, stack := v.toList ++ g.stack } := by
      refine e3.trans ?_
      rw [hf₂, State.calling_eq h.top, State.setFrames_setFrames, State.setTop_of_frames _ hr', hr]
      rfl
    have hsame : U.sameButNew ({ U with heap := s₂.heap, slotsUsed := s₂.slotsUsed } : State) L mc ms := by
      refine ⟨?_, q2, q3, q4, q5, q6⟩
      obtain ⟨t, ht, -⟩ := State.frames_cons hr
      show ({ U with heap := s₂.heap, slotsUsed := s₂.slotsUsed } : State) = { U.setFrames U.frames with heap := s₂.heap, slotsUsed := s₂.slotsUsed }
      rw [State.setFrames_self ht]
    subst hg
    refine Or.inl ⟨v, ⟨(({ U with heap := s₂.heap, slotsUsed := s₂.slotsUsed } : State).setVm s₂.vm), Ls ++ L, c0 + mc, s0 + ms⟩,
      ⟨X.admits, X.cas, X.clock, X.frames, X.room, X.hears, X.method, X.code, (X.here.setHeapUsed s₂.heap s₂.slotsUsed).setVm hW'.alike, X.tail, State.WarmedH.trans X.warmed hW', X.limits, X.bytes, X.same.trans (hsame.setVm s.vm)⟩,
      ⟨g, mk, s₂, L, rfl, rfl, hqc, rfl, hL, rfl, rfl⟩, ?_⟩
    show Steps p.tables e below _ ((({ U with heap := s₂.heap, slotsUsed := s₂.slotsUsed } : State).setVm s₂.vm).setTop { g with pc := g.pc + len₂, stack := v.toList ++ g.stack })
    rw [← hs₂]
    exact hsteps
  · obtain ⟨e2, q2, q3, q4, q5, q6⟩ := id hsm
    have e3 : s₂ = ({ (U.calling g mk a).setFrames s₂.frames with heap := s₂.heap, slotsUsed := s₂.slotsUsed } : State).setVm s₂.vm := by
      have : s₂ = ({ s₂ with vm := (U.calling g mk a).vm } : State).setVm s₂.vm := rfl
      rw [e2] at this
      exact this
    have hf₂ : s₂.frames = .throwing q :: .java g :: U.frames.tail := hend
    have hW' : U.WarmedH s₂.vm := hW₂
    have hs₂ : s₂ = ((({ U with heap := s₂.heap, slotsUsed := s₂.slotsUsed } : State).setVm s₂.vm).setTop g).pushFrame (.throwing q) := by
      refine e3.trans ?_
      rw [hf₂, State.calling_eq h.top, State.setFrames_setFrames, State.pushFrame, State.frames_setTop _ hr', State.setTop_of_frames _ hr', State.setFrames_setFrames, hr]
      rfl
    have hsame : U.sameButNew ({ U with heap := s₂.heap, slotsUsed := s₂.slotsUsed } : State) L mc ms := by
      refine ⟨?_, q2, q3, q4, q5, q6⟩
      obtain ⟨t, ht, -⟩ := State.frames_cons hr
      show ({ U with heap := s₂.heap, slotsUsed := s₂.slotsUsed } : State) = { U.setFrames U.frames with heap := s₂.heap, slotsUsed := s₂.slotsUsed }
      rw [State.setFrames_self ht]
    subst hg
    refine Or.inr ⟨q, ⟨(({ U with heap := s₂.heap, slotsUsed := s₂.slotsUsed } : State).setVm s₂.vm), Ls ++ L, c0 + mc, s0 + ms⟩,
      ⟨X.admits, X.cas, X.clock, X.frames, X.room, X.hears, X.method, X.code, (X.here.setHeapUsed s₂.heap s₂.slotsUsed).setVm hW'.alike, X.tail, State.WarmedH.trans X.warmed hW', X.limits, X.bytes, X.same.trans (hsame.setVm s.vm)⟩,
      ⟨g, mk, s₂, L, E, ce, rfl, rfl, hx, hce, hcv, hcl, rfl, hL, rfl, rfl⟩, ?_⟩
    show Steps p.tables e below _ (((({ U with heap := s₂.heap, slotsUsed := s₂.slotsUsed } : State).setVm s₂.vm).setTop g).pushFrame (.throwing q))
    rw [← hs₂]
    exact hsteps
end
variable {p : Program} {l : Launch} {e : Env} {R : Room} {s : State} {m : MethodId} {args : Array Value} {below : List Frame} {meth : Method} {c : Code} {T : State} {H : Heap} {locs : List Loc} {cells slots : Nat}
theorem vx_callVX (X : Stand p l e R s m args below meth c T locs cells slots) (hexec : p.tables.exec = Jvm.exec) {own C : String} {index : Nat} {y : MethodName} {bytes : ByteArray} {maxL : Nat} {ret : Option FieldType} {hh : List (Nat × Nat × Nat × Nat)}
    (hown : s.vm.findClass own = some m.cls) (hlink : (Cond.methodLink own index y).before args s = true) (hinst : (Cond.instanceMethod y).before args s = true) (hsel : (Cond.selects C y y).before args s = true)
    (hcode : (Cond.codeWith y bytes maxL ret hh).before args s = true) (hy : y.cls ≠ "java/lang/invoke/MethodHandle" ∧ y.cls ≠ "java/lang/invoke/VarHandle")
    {W9 : Nat} {Pre : Pt → Array Value → Prop} {Post : Pt → Array Value → Option Value → Pt → Prop} {PostX : Pt → Array Value → Addr → Pt → Prop} (hK : vx_Back l R p e below s args y 3 W9 Pre Post PostX)
    {b : Addr} {cellB : Cell} (hcell : T.heap[b]? = some cellB) (hobj : cellB.vm.isStatics = false) (hcls : s.vm.findClass C = some cellB.cls)
    {g : JFrame} (hg : g.method = m) (hsize : g.locals.size = c.maxLocals) {argsL rest : List Value} (hlen : ∀ sig, parseMethodDescriptor y.desc = some sig → argsL.length = sig.parameters.length)
    (hstack : g.stack = argsL.reverse ++ .ref b :: rest) (hW : 2 * g.monitorRoom + (rest.map fun v => v.category).sum ≤ W9) (hdg : decode c.code g.pc = .ok (.invokevirtual index, 3))
    (hpre : ∀ vm₁, s.WarmedH vm₁ → Pre ⟨T.setVm vm₁, locs, cells, slots⟩ (Value.ref b :: argsL).toArray) :
    (∃ (v : Option Value) (vm₁ : Vm) (B : Pt), s.WarmedH vm₁ ∧ Stand p l e R s m args below meth c B.U B.locs B.cells B.slots ∧ Post ⟨T.setVm vm₁, locs, cells, slots⟩ (Value.ref b :: argsL).toArray v B ∧
      ∀ target, Steps p.tables e below (B.U.setTop { g with pc := g.pc + 3, stack := v.toList ++ rest }) target → Steps p.tables e below (T.setTop g) target) ∨
    (∃ (q : Addr) (vm₁ : Vm) (B : Pt), s.WarmedH vm₁ ∧ Stand p l e R s m args below meth c B.U B.locs B.cells B.slots ∧ PostX ⟨T.setVm vm₁, locs, cells, slots⟩ (Value.ref b :: argsL).toArray q B ∧
      Steps p.tables e below (T.setTop g) ((B.U.setTop { g with stack := rest }).pushFrame (.throwing q))) := by
  obtain ⟨mk, methM, hnamed, hmethM, hstM, habM⟩ := Cond.instanceMethod_spec hinst
  obtain ⟨m8, methM', cM, hn8, hmethM', -, -, -, -, -, -, hsigM⟩ := Cond.codeWith_spec hcode
  cases Option.some.inj (hn8.symm.trans hnamed)
  cases hmethM.symm.trans hmethM'
  obtain ⟨c2, r2, m2, q1, q2, q3, q4, kP, hkP, hkPi⟩ := Cond.selects_spec hsel
  cases hcls.symm.trans q1
  cases (State.methodFound?_of_named hnamed hy).symm.trans q2
  cases hnamed.symm.trans q3
  have hselP : selectMethod e.platform s.vm cellB.cls mk = .method mk := by rw [Launch.admits_selectMethod X.admits]; exact q4
  obtain ⟨vm₁, X₁, hstep₁⟩ := X.invokevirtual hexec hown hlink hnamed hmethM hstM hkP hkPi hy (a := b) (cell := cellB) hcell
    (fun z h => by rw [h] at hobj; cases hobj) hselP hmethM habM hkP hkPi (g := g) hg (argsL := argsL) (rest := rest) (hlen _ hsigM) hstack hdg
  rcases hK m meth c ⟨T.setVm vm₁, locs, cells, slots⟩ { g with stack := rest } (.invokevirtual index) mk (Value.ref b :: argsL).toArray X₁ hg hsize hdg hW (X₁.named hnamed) (hpre vm₁ X₁.warmed) with ⟨v, B, X', hpost, hsteps⟩ | ⟨q, B, X', hpost, hsteps⟩
  · exact Or.inl ⟨v, vm₁, B, X₁.warmed, X', hpost, fun target h => hstep₁ _ fun acts => by rw [doInvoke_state]; exact hsteps.trans h⟩
  · exact Or.inr ⟨q, vm₁, B, X₁.warmed, X', hpost, hstep₁ _ fun acts => by rw [doInvoke_state]; exact hsteps⟩
theorem vx_callSX (X : Stand p l e R s m args below meth c T locs cells slots) (hexec : p.tables.exec = Jvm.exec) {own : String} {index : Nat} {y : MethodName} {bytes : ByteArray} {maxL : Nat} {ret : Option FieldType} {hh : List (Nat × Nat × Nat × Nat)}
    (hown : s.vm.findClass own = some m.cls) (hlink : (Cond.methodLink own index y).before args s = true) (hstat : (Cond.static y).before args s = true) (hinit : (Cond.initialized y.cls).before args s = true)
    (hcode : (Cond.codeWith y bytes maxL ret hh).before args s = true) (hy : y.cls ≠ "java/lang/invoke/MethodHandle" ∧ y.cls ≠ "java/lang/invoke/VarHandle")
    {W9 : Nat} {Pre : Pt → Array Value → Prop} {Post : Pt → Array Value → Option Value → Pt → Prop} {PostX : Pt → Array Value → Addr → Pt → Prop} (hK : vx_Back l R p e below s args y 3 W9 Pre Post PostX)
    {g : JFrame} (hg : g.method = m) (hsize : g.locals.size = c.maxLocals) {argsL rest : List Value} (hlen : ∀ sig, parseMethodDescriptor y.desc = some sig → argsL.length = sig.parameters.length)
    (hstack : g.stack = argsL.reverse ++ rest) (hW : 2 * g.monitorRoom + (rest.map fun v => v.category).sum ≤ W9) (hdg : decode c.code g.pc = .ok (.invokestatic index, 3))
    (hpre : ∀ vm₁, s.WarmedH vm₁ → Pre ⟨T.setVm vm₁, locs, cells, slots⟩ argsL.toArray) :
    (∃ (v : Option Value) (vm₁ : Vm) (B : Pt), s.WarmedH vm₁ ∧ Stand p l e R s m args below meth c B.U B.locs B.cells B.slots ∧ Post ⟨T.setVm vm₁, locs, cells, slots⟩ argsL.toArray v B ∧
      ∀ target, Steps p.tables e below (B.U.setTop { g with pc := g.pc + 3, stack := v.toList ++ rest }) target → Steps p.tables e below (T.setTop g) target) ∨
    (∃ (q : Addr) (vm₁ : Vm) (B : Pt), s.WarmedH vm₁ ∧ Stand p l e R s m args below meth c B.U B.locs B.cells B.slots ∧ PostX ⟨T.setVm vm₁, locs, cells, slots⟩ argsL.toArray q B ∧
      Steps p.tables e below (T.setTop g) ((B.U.setTop { g with stack := rest }).pushFrame (.throwing q))) := by
  obtain ⟨mk, methM, cM, hnamed, hmethM, -, -, -, -, -, -, hsigM⟩ := Cond.codeWith_spec hcode
  have hstatic : methM.isStatic = true := Cond.static_spec hnamed hmethM hstat
  obtain ⟨kP, hkP, -⟩ := className_of_methodNamed hnamed
  have hinitP : kP.init = .initialized := Cond.initialized_spec (findClass_of_methodNamed hnamed) hkP hinit
  obtain ⟨vm₁, X₁, hstep₁⟩ := X.invokestatic hexec hown hlink hnamed hmethM hstatic hkP hinitP hy (g := g) hg (argsL := argsL) (rest := rest) (hlen _ hsigM) hstack hdg
  rcases hK m meth c ⟨T.setVm vm₁, locs, cells, slots⟩ { g with stack := rest } (.invokestatic index) mk argsL.toArray X₁ hg hsize hdg hW (X₁.named hnamed) (hpre vm₁ X₁.warmed) with ⟨v, B, X', hpost, hsteps⟩ | ⟨q, B, X', hpost, hsteps⟩
  · exact Or.inl ⟨v, vm₁, B, X₁.warmed, X', hpost, fun target h => hstep₁ _ fun acts => by rw [doInvoke_state]; exact hsteps.trans h⟩
  · exact Or.inr ⟨q, vm₁, B, X₁.warmed, X', hpost, hstep₁ _ fun acts => by rw [doInvoke_state]; exact hsteps⟩
theorem vx_callVW (X : Stand p l e R s m args below meth c T locs cells slots) (hexec : p.tables.exec = Jvm.exec) {own C : String} {index : Nat} {y : MethodName} {bytes : ByteArray} {maxL : Nat} {ret : Option FieldType} {hh : List (Nat × Nat × Nat × Nat)}
    (hown : s.vm.findClass own = some m.cls) (hlink : (Cond.methodLink own index y).before args s = true) (hinst : (Cond.instanceMethod y).before args s = true) (hsel : (Cond.selects C y y).before args s = true)
    (hcode : (Cond.codeWith y bytes maxL ret hh).before args s = true) (hy : y.cls ≠ "java/lang/invoke/MethodHandle" ∧ y.cls ≠ "java/lang/invoke/VarHandle")
    {W9 : Nat} {Pre : Pt → Array Value → Prop} {Post : Pt → Array Value → Option Value → Pt → Prop} (hK : Back l R p e below s args y 3 W9 Pre Post)
    {b : Addr} {cellB : Cell} (hcell : T.heap[b]? = some cellB) (hobj : cellB.vm.isStatics = false) (hcls : s.vm.findClass C = some cellB.cls)
    {g : JFrame} (hg : g.method = m) (hsize : g.locals.size = c.maxLocals) {argsL rest : List Value} (hlen : ∀ sig, parseMethodDescriptor y.desc = some sig → argsL.length = sig.parameters.length)
    (hstack : g.stack = argsL.reverse ++ .ref b :: rest) (hW : 2 * g.monitorRoom + (rest.map fun v => v.category).sum ≤ W9) (hdg : decode c.code g.pc = .ok (.invokevirtual index, 3))
    (hpre : ∀ vm₁, s.WarmedH vm₁ → Pre ⟨T.setVm vm₁, locs, cells, slots⟩ (Value.ref b :: argsL).toArray) :
    ∃ (v : Option Value) (vm₁ : Vm) (B : Pt), s.WarmedH vm₁ ∧ Stand p l e R s m args below meth c B.U B.locs B.cells B.slots ∧ Post ⟨T.setVm vm₁, locs, cells, slots⟩ (Value.ref b :: argsL).toArray v B ∧
      ∀ target, Steps p.tables e below (B.U.setTop { g with pc := g.pc + 3, stack := v.toList ++ rest }) target → Steps p.tables e below (T.setTop g) target := by
  obtain ⟨mk, methM, hnamed, hmethM, hstM, habM⟩ := Cond.instanceMethod_spec hinst
  obtain ⟨m8, methM', cM, hn8, hmethM', -, -, -, -, -, -, hsigM⟩ := Cond.codeWith_spec hcode
  cases Option.some.inj (hn8.symm.trans hnamed)
  cases hmethM.symm.trans hmethM'
  obtain ⟨c2, r2, m2, q1, q2, q3, q4, kP, hkP, hkPi⟩ := Cond.selects_spec hsel
  cases hcls.symm.trans q1
  cases (State.methodFound?_of_named hnamed hy).symm.trans q2
  cases hnamed.symm.trans q3
  have hselP : selectMethod e.platform s.vm cellB.cls mk = .method mk := by rw [Launch.admits_selectMethod X.admits]; exact q4
  obtain ⟨vm₁, X₁, hstep₁⟩ := X.invokevirtual hexec hown hlink hnamed hmethM hstM hkP hkPi hy (a := b) (cell := cellB) hcell
    (fun z h => by rw [h] at hobj; cases hobj) hselP hmethM habM hkP hkPi (g := g) hg (argsL := argsL) (rest := rest) (hlen _ hsigM) hstack hdg
  obtain ⟨v, B, X', hpost, hsteps⟩ := hK m meth c ⟨T.setVm vm₁, locs, cells, slots⟩ { g with stack := rest } (.invokevirtual index) mk (Value.ref b :: argsL).toArray X₁ hg hsize hdg hW (X₁.named hnamed) (hpre vm₁ X₁.warmed)
  exact ⟨v, vm₁, B, X₁.warmed, X', hpost, fun target h => hstep₁ _ fun acts => by rw [doInvoke_state]; exact hsteps.trans h⟩
abbrev vx_CVW (R : Room) (s : State) (args : Array Value) (own C : String) (index : Nat) (y : MethodName) (bytes : ByteArray) (maxL : Nat) (ret : Option FieldType) (hh : List (Nat × Nat × Nat × Nat)) (ws : List Cond) (rm : Room) (mc ms n : Nat) : Prop :=
  (rm.cells = mc ∧ rm.slots = ms ∧ rm.frames + 1 ≤ R.frames ∧ 8 + (maxL + 11) + rm.locals ≤ R.locals ∧ (∀ w ∈ ws, ∀ (a' : Array Value) (U : State), s.WarmedH U.vm → w.before a' U = true) ∧ Cond.codeWith y bytes maxL ret hh ∈ ws) ∧
  (Cond.codeWith y bytes maxL ret hh).before args s = true ∧ (Cond.initialized y.cls).before args s = true ∧ (y.cls ≠ "java/lang/invoke/MethodHandle" ∧ y.cls ≠ "java/lang/invoke/VarHandle") ∧
  (∀ sig, parseMethodDescriptor y.desc = some sig → n = sig.parameters.length) ∧ (Cond.methodLink own index y).before args s = true ∧ (Cond.instanceMethod y).before args s = true ∧ (Cond.selects C y y).before args s = true
theorem vx_cwVW {own C : String} {index maxL mc ms : Nat} {y : MethodName} {bytes : ByteArray} {ret : Option FieldType} {hh : List (Nat × Nat × Nat × Nat)} {Ts ws ws' : List Cond} {rm : Room} (n : Nat) (ht : ∀ w ∈ Ts, w.before args s = true) (hT : GoodIn Ts (wsV own index C y ws)) (hw : ws = Cond.codeWith y bytes maxL ret hh :: ws') (hrc : rm.cells = mc) (hrs : rm.slots = ms)
    (hd : y.cls = C ∧ y.cls ≠ "java/lang/invoke/MethodHandle" ∧ y.cls ≠ "java/lang/invoke/VarHandle" ∧ (parseMethodDescriptor y.desc).map (fun d => d.parameters.length) = some n) (hR : rm.frames + 1 ≤ R.frames ∧ 8 + (maxL + 11) + rm.locals ≤ R.locals) :
    vx_CVW R s args own C index y bytes maxL ret hh ws rm mc ms n := by
  obtain ⟨hC, hd⟩ := hd
  subst hC
  have ok : ∀ w ∈ wsV own index y.cls y ws, w.before args s = true := fun w h => ht w (hT w h).1
  have hG : GoodIn Ts ws := fun w h => hT w (by unfold wsV; exact List.mem_append_right _ h)
  have hc : Cond.codeWith y bytes maxL ret hh ∈ ws := by rw [hw]; exact List.mem_cons_self
  refine ⟨⟨hrc, hrs, hR.1, hR.2, pay_in ht hG, hc⟩, ht _ (hG _ hc).1, ok _ (by simp [wsV]), ⟨hd.1, hd.2.1⟩, fun sig h => ?_, ok _ (by simp [wsV]), ok _ (by simp [wsV]), ok _ (by simp [wsV])⟩
  have h2 := hd.2.2
  rw [h] at h2
  exact (Option.some.inj h2).symm
theorem vx_runVW {y : MethodName} {bytes cc : ByteArray} {maxL nL mc ms n index : Nat} {ret : Option FieldType} {hh : List (Nat × Nat × Nat × Nat)} {ws : List Cond} {rm : Room} {Pc : Array Value → State → Prop} {Qc : Array Value → State → Outcome → State → Prop} {free : Addr → Prop} {Ts : List Cond} {own C : String} {b : Addr} {As rest : List Value} {g : JFrame}
    (S : CallFix p m c cc nL s args Ts own) (hM : Met l y ws rm Pc Qc mc ms free) (cw : vx_CVW R s args own C index y bytes maxL ret hh ws rm mc ms n) (hp : PreV s H C b Pc As)
    (hg : g.method = m) (hn : As.length = n) (hsize : g.locals.size = nL) (hstack : g.stack = As.reverse ++ .ref b :: rest) (hW : 2 * g.monitorRoom + (rest.map fun v => v.category).sum ≤ 8) (hdg : decode cc g.pc = .ok (.invokevirtual index, 3)) (hf : cells + mc ≤ R.cells ∧ slots + ms ≤ R.slots) :
    va_Run p l e R s m args below meth c H locs cells slots mc ms g rest (Qc (Value.ref b :: As).toArray) free := by
  obtain ⟨⟨hrc, hrs, hfr, hlo, hws, hcw⟩, hcode, hini, hy, hlen, hl, hin, hse⟩ := cw
  have hK : Back l R p e below s args y 3 8 (PreOf R mc ms Pc) (PostOf Qc mc ms free) := va_backW (hh := hh) (bytes := bytes) (maxL := maxL) (ret := ret) hM hp.1 hrc hrs hfr hlo hws hcw (fun a' U hW => word_at hW (Or.inl (by first | rfl | simp [Cond.onTables, Cond.keeps, Cond.steady])) hini)
  obtain ⟨hx, hb, hml, ho, -⟩ := S
  obtain ⟨-, ⟨cellB, hcB, hoB, hclB⟩, hPc⟩ := hp
  intro T hT X
  obtain ⟨v, vm₁, ⟨U', l2, c2, s2⟩, hW₁, X', ⟨g', mk, t, L, e1, e2, hq, h1, hL, h2, h3⟩, st⟩ := vx_callVW X hx (C := C) (hh := hh) (bytes := bytes) (maxL := maxL) (ret := ret) ho hl hin hse hcode hy hK (by rw [hT]; exact hcB) hoB hclB hg (hsize.trans hml.symm) (argsL := As) (rest := rest) (fun sig h => hn.trans (hlen sig h)) hstack hW (by rw [hb]; exact hdg)
    (fun vm₁ hW₁ => ⟨hf.1, hf.2, hPc (T.setVm vm₁) hT hW₁⟩)
  dsimp only [Pt.U, Pt.locs, Pt.cells, Pt.slots] at X' e1 e2 h1 h2 h3 st
  subst h1; subst h2; subst h3
  exact ⟨v, (T.setVm vm₁).calling g' mk (Value.ref b :: As).toArray, t, U', L, hT, X', hL, e1, e2, hq, st⟩
section
variable {y : MethodName} {bytes cc : ByteArray} {maxL nL mc ms n index : Nat} {ret : Option FieldType} {ws : List Cond} {rm : Room} {Pc : Array Value → State → Prop} {Qc : Array Value → State → Outcome → State → Prop} {XC : String → State → State → Prop} {free : Addr → Prop} {Ts : List Cond} {own C : String} {b : Addr} {As rest : List Value} {g : JFrame}
theorem vx_runVX {hh : List (Nat × Nat × Nat × Nat)} (S : CallFix p m c cc nL s args Ts own) (hM : vx_Met l y ws rm Pc Qc XC mc ms free) (cw : vx_CVW R s args own C index y bytes maxL ret hh ws rm mc ms n) (hp : PreV s H C b Pc As)
    (hg : g.method = m) (hn : As.length = n) (hsize : g.locals.size = nL) (hstack : g.stack = As.reverse ++ .ref b :: rest) (hW : 2 * g.monitorRoom + (rest.map fun v => v.category).sum ≤ 8) (hdg : decode cc g.pc = .ok (.invokevirtual index, 3)) (hf : cells + mc ≤ R.cells ∧ slots + ms ≤ R.slots) :
    vx_Run p l e R s m args below meth c H locs cells slots mc ms g rest (Qc (Value.ref b :: As).toArray) XC free := by
  obtain ⟨⟨hrc, hrs, hfr, hlo, hws, hcw⟩, hcode, hini, hy, hlen, hl, hin, hse⟩ := cw
  have hK : vx_Back l R p e below s args y 3 8 (PreOf R mc ms Pc) (PostOf Qc mc ms free) (vx_Post XC mc ms free) := vx_backW (hh := hh) (bytes := bytes) (maxL := maxL) (ret := ret) hM hp.1 hrc hrs hfr hlo hws hcw (fun a' U hW => word_at hW (Or.inl (by first | rfl | simp [Cond.onTables, Cond.keeps, Cond.steady])) hini)
  obtain ⟨hx, hb, hml, ho, -⟩ := S
  obtain ⟨-, ⟨cellB, hcB, hoB, hclB⟩, hPc⟩ := hp
  intro T hT X
  rcases vx_callVX X hx (C := C) (hh := hh) (bytes := bytes) (maxL := maxL) (ret := ret) ho hl hin hse hcode hy hK (by rw [hT]; exact hcB) hoB hclB hg (hsize.trans hml.symm) (argsL := As) (rest := rest) (fun sig h => hn.trans (hlen sig h)) hstack hW (by rw [hb]; exact hdg)
    (fun vm₁ hW₁ => ⟨hf.1, hf.2, hPc (T.setVm vm₁) hT hW₁⟩) with ⟨v, vm₁, ⟨U', l2, c2, s2⟩, hW₁, X', ⟨g', mk, t, L, e1, e2, hq, h1, hL, h2, h3⟩, st⟩ | ⟨q, vm₁, ⟨U', l2, c2, s2⟩, hW₁, X', ⟨g', mk, t, L, E, ce, e1, e2, hq, hce, hcv, hcl, h1, hL, h2, h3⟩, st⟩
  · dsimp only [Pt.U, Pt.locs, Pt.cells, Pt.slots] at X' e1 e2 h1 h2 h3 st
    subst h1; subst h2; subst h3
    exact Or.inl ⟨v, (T.setVm vm₁).calling g' mk (Value.ref b :: As).toArray, t, U', L, hT, X', hL, e1, e2, hq, st⟩
  · dsimp only [Pt.U, Pt.locs, Pt.cells, Pt.slots] at X' e1 e2 h1 h2 h3 st hcl
    subst h1; subst h2; subst h3
    exact Or.inr ⟨q, (T.setVm vm₁).calling g' mk (Value.ref b :: As).toArray, t, U', L, E, ce, hT, X', hL, e1, e2, hq, hce, hcv, vx_cls hW₁ hcl, st⟩
theorem vx_runSX {hh : List (Nat × Nat × Nat × Nat)} (S : CallFix p m c cc nL s args Ts own) (hM : vx_Met l y ws rm Pc Qc XC mc ms free) (cw : vx_CSW R s args own index y bytes maxL ret hh ws rm mc ms n) (hp : PreS s H Pc As)
    (hg : g.method = m) (hn : As.length = n) (hsize : g.locals.size = nL) (hstack : g.stack = As.reverse ++ rest) (hW : 2 * g.monitorRoom + (rest.map fun v => v.category).sum ≤ 8) (hdg : decode cc g.pc = .ok (.invokestatic index, 3)) (hf : cells + mc ≤ R.cells ∧ slots + ms ≤ R.slots) :
    vx_Run p l e R s m args below meth c H locs cells slots mc ms g rest (Qc As.toArray) XC free := by
  obtain ⟨⟨hrc, hrs, hfr, hlo, hws, hcw⟩, hcode, hini, hy, hlen, hl, hstt⟩ := cw
  have hK : vx_Back l R p e below s args y 3 8 (PreOf R mc ms Pc) (PostOf Qc mc ms free) (vx_Post XC mc ms free) := vx_backW (hh := hh) (bytes := bytes) (maxL := maxL) (ret := ret) hM hp.1 hrc hrs hfr hlo hws hcw (fun a' U hW => word_at hW (Or.inl (by first | rfl | simp [Cond.onTables, Cond.keeps, Cond.steady])) hini)
  obtain ⟨hx, hb, hml, ho, -⟩ := S
  intro T hT X
  rcases vx_callSX X hx (hh := hh) (bytes := bytes) (maxL := maxL) (ret := ret) ho hl hstt hini hcode hy hK hg (hsize.trans hml.symm) (argsL := As) (rest := rest) (fun sig h => hn.trans (hlen sig h)) hstack hW (by rw [hb]; exact hdg)
    (fun vm₁ hW₁ => ⟨hf.1, hf.2, hp.2 (T.setVm vm₁) hT hW₁⟩) with ⟨v, vm₁, ⟨U', l2, c2, s2⟩, hW₁, X', ⟨g', mk, t, L, e1, e2, hq, h1, hL, h2, h3⟩, st⟩ | ⟨q, vm₁, ⟨U', l2, c2, s2⟩, hW₁, X', ⟨g', mk, t, L, E, ce, e1, e2, hq, hce, hcv, hcl, h1, hL, h2, h3⟩, st⟩
  · dsimp only [Pt.U, Pt.locs, Pt.cells, Pt.slots] at X' e1 e2 h1 h2 h3 st
    subst h1; subst h2; subst h3
    exact Or.inl ⟨v, (T.setVm vm₁).calling g' mk As.toArray, t, U', L, hT, X', hL, e1, e2, hq, st⟩
  · dsimp only [Pt.U, Pt.locs, Pt.cells, Pt.slots] at X' e1 e2 h1 h2 h3 st hcl
    subst h1; subst h2; subst h3
    exact Or.inr ⟨q, (T.setVm vm₁).calling g' mk As.toArray, t, U', L, E, ce, hT, X', hL, e1, e2, hq, hce, hcv, vx_cls hW₁ hcl, st⟩
end
end VXH
theorem vx_ofWH {l : Launch} {y : MethodName} {ws ws' : List Cond} {rm : Room} {Pc : Array Value → State → Prop} {Qc : Array Value → State → Outcome → State → Prop} {XC : String → State → State → Prop} {mc ms : Nat} {free : Addr → Prop} {cc : ByteArray} {maxL : Nat} {ret : Option FieldType} {hh : List (Nat × Nat × Nat × Nat)}
    (hy : plainName y.cls = true) (hw : ws = Cond.codeWith y cc maxL ret hh :: ws')
    (body : ∀ p e s m args below meth c s₁, BodyLoose p l y (headSpec ws rm) cc maxL ret e s m args below meth c s₁ → c.maxLocals = maxL → Pc args s →
      W p l e (headSpec ws rm).room s m args below meth c s.heap [] 0 0 (vx_MQ below Qc XC args s mc ms free) (entryFrame m args maxL)) : vx_Met l y ws rm Pc Qc XC mc ms free := by
  refine MetFree.of_bodyS (code := cc) (maxLocals := maxL) (ret := ret) hy ?_ ?_
  · intro args s m h hn
    obtain ⟨m9, meth, c, hn9, h1, h2, h3, h4, -, h5, h6, -⟩ := Cond.codeWith_spec (atoms_spec (ws := ws) h _ (by rw [hw]; exact List.mem_cons_self))
    cases hn.symm.trans hn9
    exact ⟨meth, c, h1, h2, h3, h4, h5, h6⟩
  · intro p e s m args below meth c s₁ B hml hP _
    have hh0 : s₁.heap = s.heap := by rw [B.state]; rfl
    obtain ⟨t, a1, o, b1, b2, b3⟩ := body p e s m args below meth c s₁ B hml hP s₁ hh0 (Stand.of_body B)
    exact ⟨t, o, a1, b1, b2, b3⟩
/-! ===== END ===== -/

def RX0 : String := "ArmDuel$Arm"
def TX0 : u_T := fun k => match k with
  | 0 => ("ArmDuel$Arm", "cylinder", "I", false)
  | 1 => ("ArmDuel$Arm", "up", "Z", false)
  | 2 => ("ArmDuel$Arm", "waits", "I", false)
  | 3 => ("ArmDuel$Arm", "wanted", "[I", true)
  | 4 => ("ArmDuel$Arm", "cameIn", "[I", true)
  | 5 => ("ArmDuel$Arm", "paid", "I", false)
  | 6 => ("ArmDuel$Arm", "gone", "I", false)
  | 7 => ("ArmDuel$Arm", "longestWait", "I", false)
  | 8 => ("ArmDuel$Arm", "servedCount", "I", false)
  | 9 => ("ArmDuel$Arm", "roundCost", "I", false)
  | 10 => ("ArmDuel$Arm", "roundServed", "I", false)
  | _ => ("ArmDuel$Arm", "roundCameIn", "I", false)
def tyX0 : Nat → FieldType := fun k => match k with
  | 0 => .int
  | 1 => .boolean
  | 2 => .int
  | 3 => .array .int
  | 4 => .array .int
  | 5 => .int
  | 6 => .int
  | 7 => .int
  | 8 => .int
  | 9 => .int
  | 10 => .int
  | _ => .int
abbrev wsX00 : List Cond := u_ws RX0 TX0 12
theorem nmX0 : ∀ a, a < 12 → ∀ b, b < 12 → a ≠ b → (TX0 a).2.1 ≠ (TX0 b).2.1 := by decide +kernel
theorem tyX0_ok : ∀ k, k < 12 → parseFieldDescriptor (TX0 k).2.2.1 = some (tyX0 k) := by decide +kernel
abbrev cX0_init : ByteArray := prog_2_method_1_code
def yX0_init : MethodName := ⟨RX0, "<init>", "()V"⟩
abbrev cX0_begin : ByteArray := prog_2_method_2_code
def yX0_begin : MethodName := ⟨RX0, "begin", "(I)V"⟩
abbrev cX0_copyFrom : ByteArray := prog_2_method_3_code
def yX0_copyFrom : MethodName := ⟨RX0, "copyFrom", "(LArmDuel$Arm;)V"⟩
abbrev cX0_receive : ByteArray := prog_2_method_4_code
def yX0_receive : MethodName := ⟨RX0, "receive", "(II)V"⟩
abbrev cX0_rankOf : ByteArray := prog_2_method_5_code
def yX0_rankOf : MethodName := ⟨RX0, "rankOf", "(III)I"⟩
abbrev cX0_choose : ByteArray := prog_2_method_6_code
def yX0_choose : MethodName := ⟨RX0, "choose", "(II)I"⟩
abbrev cX0_costBy : ByteArray := prog_2_method_7_code
def yX0_costBy : MethodName := ⟨RX0, "costBy", "(LArmDuel$Settings;I)I"⟩
abbrev cX0_serve : ByteArray := prog_2_method_8_code
def yX0_serve : MethodName := ⟨RX0, "serve", "(LArmDuel$Settings;II)V"⟩
abbrev cX0_remove : ByteArray := prog_2_method_9_code
def yX0_remove : MethodName := ⟨RX0, "remove", "(I)V"⟩
abbrev cX0_foresee : ByteArray := prog_2_method_10_code
def yX0_foresee : MethodName := ⟨RX0, "foresee", "(LArmDuel$Settings;I[I)V"⟩
def RX1 : String := "ArmDuel$Duel"
def TX1 : u_T := fun k => match k with
  | 0 => ("ArmDuel$Duel", "settings", "LArmDuel$Settings;", true)
  | 1 => ("ArmDuel$Duel", "itself", "LArmDuel$Arm;", true)
  | 2 => ("ArmDuel$Duel", "rivalArm", "LArmDuel$Arm;", true)
  | 3 => ("ArmDuel$Duel", "own", "[LArmDuel$Arm;", true)
  | 4 => ("ArmDuel$Duel", "weights", "[I", true)
  | 5 => ("ArmDuel$Duel", "hurts", "[I", true)
  | 6 => ("ArmDuel$Duel", "foreseen", "[I", true)
  | 7 => ("ArmDuel$Duel", "seed", "I", false)
  | 8 => ("ArmDuel$Duel", "rivalSeed", "I", false)
  | 9 => ("ArmDuel$Duel", "made", "I", false)
  | 10 => ("ArmDuel$Duel", "latestAsk", "I", false)
  | 11 => ("ArmDuel$Duel", "hurtsAsked", "I", false)
  | 12 => ("ArmDuel$Duel", "ruleTaken", "I", false)
  | _ => ("ArmDuel$Duel", "rivalTaken", "I", false)
def tyX1 : Nat → FieldType := fun k => match k with
  | 0 => .object "ArmDuel$Settings"
  | 1 => .object "ArmDuel$Arm"
  | 2 => .object "ArmDuel$Arm"
  | 3 => .array (.object "ArmDuel$Arm")
  | 4 => .array .int
  | 5 => .array .int
  | 6 => .array .int
  | 7 => .int
  | 8 => .int
  | 9 => .int
  | 10 => .int
  | 11 => .int
  | 12 => .int
  | _ => .int
abbrev wsX10 : List Cond := u_ws RX1 TX1 14
theorem nmX1 : ∀ a, a < 14 → ∀ b, b < 14 → a ≠ b → (TX1 a).2.1 ≠ (TX1 b).2.1 := by decide +kernel
theorem tyX1_ok : ∀ k, k < 14 → parseFieldDescriptor (TX1 k).2.2.1 = some (tyX1 k) := by decide +kernel
abbrev cX1_init : ByteArray := prog_3_method_1_code
def yX1_init : MethodName := ⟨RX1, "<init>", "()V"⟩
abbrev cX1_begin : ByteArray := prog_3_method_2_code
def yX1_begin : MethodName := ⟨RX1, "begin", "(LArmDuel$Settings;)V"⟩
abbrev cX1_copyFrom : ByteArray := prog_3_method_3_code
def yX1_copyFrom : MethodName := ⟨RX1, "copyFrom", "(LArmDuel$Duel;)V"⟩
abbrev cX1_resetWeights : ByteArray := prog_3_method_4_code
def yX1_resetWeights : MethodName := ⟨RX1, "resetWeights", "()V"⟩
abbrev cX1_takeBudget : ByteArray := prog_3_method_5_code
def yX1_takeBudget : MethodName := ⟨RX1, "takeBudget", "(I)V"⟩
abbrev cX1_armOf : ByteArray := prog_3_method_6_code
def yX1_armOf : MethodName := ⟨RX1, "armOf", "(I)LArmDuel$Arm;"⟩
abbrev cX1_isFull : ByteArray := prog_3_method_7_code
def yX1_isFull : MethodName := ⟨RX1, "isFull", "()Z"⟩
abbrev cX1_addForAll : ByteArray := prog_3_method_8_code
def yX1_addForAll : MethodName := ⟨RX1, "addForAll", "(I)V"⟩
abbrev cX1_letPass : ByteArray := prog_3_method_9_code
def yX1_letPass : MethodName := ⟨RX1, "letPass", "(I)V"⟩
abbrev cX1_moveFoe : ByteArray := prog_3_method_10_code
def yX1_moveFoe : MethodName := ⟨RX1, "moveFoe", "()V"⟩
abbrev cX1_foeNow : ByteArray := prog_3_method_11_code
def yX1_foeNow : MethodName := ⟨RX1, "foeNow", "()I"⟩
abbrev cX1_addNextAsk : ByteArray := prog_3_method_12_code
def yX1_addNextAsk : MethodName := ⟨RX1, "addNextAsk", "()V"⟩
abbrev cX1_foreseeHurts : ByteArray := prog_3_method_13_code
def yX1_foreseeHurts : MethodName := ⟨RX1, "foreseeHurts", "(I)V"⟩
abbrev cX1_mostHurtful : ByteArray := prog_3_method_14_code
def yX1_mostHurtful : MethodName := ⟨RX1, "mostHurtful", "()I"⟩
abbrev cX1_takeRules : ByteArray := prog_3_method_15_code
def yX1_takeRules : MethodName := ⟨RX1, "takeRules", "()V"⟩
abbrev cX1_comingRule : ByteArray := prog_3_method_16_code
def yX1_comingRule : MethodName := ⟨RX1, "comingRule", "()I"⟩
abbrev cX1_seedBehind : ByteArray := prog_3_method_17_code
def yX1_seedBehind : MethodName := ⟨RX1, "seedBehind", "(I)I"⟩
abbrev cX1_ruleBy : ByteArray := prog_3_method_18_code
def yX1_ruleBy : MethodName := ⟨RX1, "ruleBy", "(III)I"⟩
abbrev cX1_ruleDrawn : ByteArray := prog_3_method_19_code
def yX1_ruleDrawn : MethodName := ⟨RX1, "ruleDrawn", "(I)I"⟩
abbrev cX1_weightSum : ByteArray := prog_3_method_20_code
def yX1_weightSum : MethodName := ⟨RX1, "weightSum", "()I"⟩
abbrev cX1_cheapestRule : ByteArray := prog_3_method_21_code
def yX1_cheapestRule : MethodName := ⟨RX1, "cheapestRule", "()I"⟩
abbrev cX1_serveAll : ByteArray := prog_3_method_22_code
def yX1_serveAll : MethodName := ⟨RX1, "serveAll", "()V"⟩
abbrev cX1_loseWeights : ByteArray := prog_3_method_23_code
def yX1_loseWeights : MethodName := ⟨RX1, "loseWeights", "()V"⟩
abbrev cX1_regretNow : ByteArray := prog_3_method_24_code
def yX1_regretNow : MethodName := ⟨RX1, "regretNow", "()I"⟩
abbrev cX1_isBreach : ByteArray := prog_3_method_25_code
def yX1_isBreach : MethodName := ⟨RX1, "isBreach", "()Z"⟩
def RX2 : String := "ArmDuel$Game"
def TX2 : u_T := fun k => match k with
  | 0 => ("ArmDuel$Game", "duel", "LArmDuel$Duel;", true)
  | _ => ("ArmDuel$Game", "records", "LArmDuel$Records;", true)
def tyX2 : Nat → FieldType := fun k => match k with
  | 0 => .object "ArmDuel$Duel"
  | _ => .object "ArmDuel$Records"
abbrev wsX20 : List Cond := u_ws RX2 TX2 2
theorem nmX2 : ∀ a, a < 2 → ∀ b, b < 2 → a ≠ b → (TX2 a).2.1 ≠ (TX2 b).2.1 := by decide +kernel
theorem tyX2_ok : ∀ k, k < 2 → parseFieldDescriptor (TX2 k).2.2.1 = some (tyX2 k) := by decide +kernel
abbrev cX2_init : ByteArray := prog_4_method_1_code
def yX2_init : MethodName := ⟨RX2, "<init>", "()V"⟩
abbrev cX2_begin : ByteArray := prog_4_method_2_code
def yX2_begin : MethodName := ⟨RX2, "begin", "(LArmDuel$Settings;)V"⟩
abbrev cX2_copyFrom : ByteArray := prog_4_method_3_code
def yX2_copyFrom : MethodName := ⟨RX2, "copyFrom", "(LArmDuel$Game;)V"⟩
abbrev cX2_makeRound : ByteArray := prog_4_method_4_code
def yX2_makeRound : MethodName := ⟨RX2, "makeRound", "()V"⟩
def RX3 : String := "ArmDuel$Reader"
def TX3 : u_T := fun k => match k with
  | 0 => ("ArmDuel$Reader", "draft", "LArmDuel$Settings;", true)
  | 1 => ("ArmDuel$Reader", "text", "[B", false)
  | 2 => ("ArmDuel$Reader", "length", "I", false)
  | 3 => ("ArmDuel$Reader", "at", "I", false)
  | 4 => ("ArmDuel$Reader", "tokenAt", "I", false)
  | 5 => ("ArmDuel$Reader", "error", "I", false)
  | _ => ("ArmDuel$Reader", "errorAt", "I", false)
def tyX3 : Nat → FieldType := fun k => match k with
  | 0 => .object "ArmDuel$Settings"
  | 1 => .array .byte
  | 2 => .int
  | 3 => .int
  | 4 => .int
  | 5 => .int
  | _ => .int
abbrev wsX30 : List Cond := u_ws RX3 TX3 7
theorem nmX3 : ∀ a, a < 7 → ∀ b, b < 7 → a ≠ b → (TX3 a).2.1 ≠ (TX3 b).2.1 := by decide +kernel
theorem tyX3_ok : ∀ k, k < 7 → parseFieldDescriptor (TX3 k).2.2.1 = some (tyX3 k) := by decide +kernel
abbrev cX3_init : ByteArray := prog_5_method_1_code
def yX3_init : MethodName := ⟨RX3, "<init>", "()V"⟩
abbrev cX3_readText : ByteArray := prog_5_method_2_code
def yX3_readText : MethodName := ⟨RX3, "readText", "([BI)V"⟩
abbrev cX3_hasMore : ByteArray := prog_5_method_3_code
def yX3_hasMore : MethodName := ⟨RX3, "hasMore", "()Z"⟩
abbrev cX3_readDrive : ByteArray := prog_5_method_4_code
def yX3_readDrive : MethodName := ⟨RX3, "readDrive", "()V"⟩
abbrev cX3_readStatement : ByteArray := prog_5_method_5_code
def yX3_readStatement : MethodName := ⟨RX3, "readStatement", "()V"⟩
abbrev cX3_readRule : ByteArray := prog_5_method_6_code
def yX3_readRule : MethodName := ⟨RX3, "readRule", "()V"⟩
abbrev cX3_readAsk : ByteArray := prog_5_method_7_code
def yX3_readAsk : MethodName := ⟨RX3, "readAsk", "()V"⟩
abbrev cX3_readMaster : ByteArray := prog_5_method_8_code
def yX3_readMaster : MethodName := ⟨RX3, "readMaster", "()V"⟩
abbrev cX3_readRival : ByteArray := prog_5_method_9_code
def yX3_readRival : MethodName := ⟨RX3, "readRival", "()V"⟩
abbrev cX3_readWord : ByteArray := prog_5_method_10_code
def yX3_readWord : MethodName := ⟨RX3, "readWord", "(Ljava/lang/String;)I"⟩
abbrev cX3_placeIn : ByteArray := prog_5_method_11_code
def yX3_placeIn : MethodName := ⟨RX3, "placeIn", "(Ljava/lang/String;)I"⟩
abbrev cX3_isToken : ByteArray := prog_5_method_12_code
def yX3_isToken : MethodName := ⟨RX3, "isToken", "(Ljava/lang/String;II)Z"⟩
abbrev cX3_readNumber : ByteArray := prog_5_method_13_code
def yX3_readNumber : MethodName := ⟨RX3, "readNumber", "(II)I"⟩
abbrev cX3_skipSpaces : ByteArray := prog_5_method_14_code
def yX3_skipSpaces : MethodName := ⟨RX3, "skipSpaces", "()V"⟩
abbrev cX3_fail : ByteArray := prog_5_method_15_code
def yX3_fail : MethodName := ⟨RX3, "fail", "(II)V"⟩
def RX4 : String := "ArmDuel$Records"
def TX4 : u_T := fun k => match k with
  | 0 => ("ArmDuel$Records", "ruleCount", "I", false)
  | 1 => ("ArmDuel$Records", "made", "I", false)
  | 2 => ("ArmDuel$Records", "paidBefore", "[[I", true)
  | 3 => ("ArmDuel$Records", "takenIn", "[I", true)
  | 4 => ("ArmDuel$Records", "timesTaken", "[I", true)
  | 5 => ("ArmDuel$Records", "paidByTaking", "[I", true)
  | 6 => ("ArmDuel$Records", "timesBest", "[I", true)
  | 7 => ("ArmDuel$Records", "swaps", "[[I", true)
  | 8 => ("ArmDuel$Records", "latest", "[[I", true)
  | 9 => ("ArmDuel$Records", "servedCount", "I", false)
  | 10 => ("ArmDuel$Records", "breaches", "I", false)
  | 11 => ("ArmDuel$Records", "greatestRegret", "I", false)
  | 12 => ("ArmDuel$Records", "firstBreach", "I", false)
  | _ => ("ArmDuel$Records", "rivalWins", "I", false)
def tyX4 : Nat → FieldType := fun k => match k with
  | 0 => .int
  | 1 => .int
  | 2 => .array (.array .int)
  | 3 => .array .int
  | 4 => .array .int
  | 5 => .array .int
  | 6 => .array .int
  | 7 => .array (.array .int)
  | 8 => .array (.array .int)
  | 9 => .int
  | 10 => .int
  | 11 => .int
  | 12 => .int
  | _ => .int
abbrev wsX40 : List Cond := u_ws RX4 TX4 14
theorem nmX4 : ∀ a, a < 14 → ∀ b, b < 14 → a ≠ b → (TX4 a).2.1 ≠ (TX4 b).2.1 := by decide +kernel
theorem tyX4_ok : ∀ k, k < 14 → parseFieldDescriptor (TX4 k).2.2.1 = some (tyX4 k) := by decide +kernel
abbrev cX4_init : ByteArray := prog_6_method_1_code
def yX4_init : MethodName := ⟨RX4, "<init>", "()V"⟩
abbrev cX4_begin : ByteArray := prog_6_method_2_code
def yX4_begin : MethodName := ⟨RX4, "begin", "(I)V"⟩
abbrev cX4_copyFrom : ByteArray := prog_6_method_3_code
def yX4_copyFrom : MethodName := ⟨RX4, "copyFrom", "(LArmDuel$Records;)V"⟩
abbrev cX4_noteSwaps : ByteArray := prog_6_method_4_code
def yX4_noteSwaps : MethodName := ⟨RX4, "noteSwaps", "(LArmDuel$Duel;)V"⟩
abbrev cX4_noteRound : ByteArray := prog_6_method_5_code
def yX4_noteRound : MethodName := ⟨RX4, "noteRound", "(LArmDuel$Duel;)V"⟩
abbrev cX4_noteRegret : ByteArray := prog_6_method_6_code
def yX4_noteRegret : MethodName := ⟨RX4, "noteRegret", "(LArmDuel$Duel;)V"⟩
abbrev cX4_noteServed : ByteArray := prog_6_method_7_code
def yX4_noteServed : MethodName := ⟨RX4, "noteServed", "(LArmDuel$Arm;I)V"⟩
abbrev cX4_servedAt : ByteArray := prog_6_method_8_code
def yX4_servedAt : MethodName := ⟨RX4, "servedAt", "(II)I"⟩
abbrev cX4_hasRounds : ByteArray := prog_6_method_9_code
def yX4_hasRounds : MethodName := ⟨RX4, "hasRounds", "(II)Z"⟩
abbrev cX4_paidIn : ByteArray := prog_6_method_10_code
def yX4_paidIn : MethodName := ⟨RX4, "paidIn", "(III)I"⟩
abbrev cX4_cheapestIn : ByteArray := prog_6_method_11_code
def yX4_cheapestIn : MethodName := ⟨RX4, "cheapestIn", "(II)I"⟩
abbrev cX4_regretOver : ByteArray := prog_6_method_12_code
def yX4_regretOver : MethodName := ⟨RX4, "regretOver", "(II)I"⟩
abbrev cX4_splitCost : ByteArray := prog_6_method_13_code
def yX4_splitCost : MethodName := ⟨RX4, "splitCost", "(I)I"⟩
abbrev cX4_bestSplit : ByteArray := prog_6_method_14_code
def yX4_bestSplit : MethodName := ⟨RX4, "bestSplit", "()I"⟩
abbrev cX4_cheapestSwap : ByteArray := prog_6_method_15_code
def yX4_cheapestSwap : MethodName := ⟨RX4, "cheapestSwap", "(I)I"⟩
def RX5 : String := "ArmDuel$Settings"
def TX5 : u_T := fun k => match k with
  | 0 => ("ArmDuel$Settings", "cylinders", "I", false)
  | 1 => ("ArmDuel$Settings", "start", "I", false)
  | 2 => ("ArmDuel$Settings", "seek", "I", false)
  | 3 => ("ArmDuel$Settings", "per", "I", false)
  | 4 => ("ArmDuel$Settings", "ruleCount", "I", false)
  | 5 => ("ArmDuel$Settings", "kinds", "[I", true)
  | 6 => ("ArmDuel$Settings", "widths", "[I", true)
  | 7 => ("ArmDuel$Settings", "masterKind", "I", false)
  | 8 => ("ArmDuel$Settings", "masterRule", "I", false)
  | 9 => ("ArmDuel$Settings", "eta", "I", false)
  | 10 => ("ArmDuel$Settings", "firstSeed", "I", false)
  | 11 => ("ArmDuel$Settings", "foe", "I", false)
  | 12 => ("ArmDuel$Settings", "askCount", "I", false)
  | 13 => ("ArmDuel$Settings", "asks", "[I", true)
  | 14 => ("ArmDuel$Settings", "rivalKind", "I", false)
  | 15 => ("ArmDuel$Settings", "rivalRule", "I", false)
  | 16 => ("ArmDuel$Settings", "budget", "I", false)
  | 17 => ("ArmDuel$Settings", "base", "I", false)
  | _ => ("ArmDuel$Settings", "root", "I", false)
def tyX5 : Nat → FieldType := fun k => match k with
  | 0 => .int
  | 1 => .int
  | 2 => .int
  | 3 => .int
  | 4 => .int
  | 5 => .array .int
  | 6 => .array .int
  | 7 => .int
  | 8 => .int
  | 9 => .int
  | 10 => .int
  | 11 => .int
  | 12 => .int
  | 13 => .array .int
  | 14 => .int
  | 15 => .int
  | 16 => .int
  | 17 => .int
  | _ => .int
abbrev wsX50 : List Cond := u_ws RX5 TX5 19
theorem nmX5 : ∀ a, a < 19 → ∀ b, b < 19 → a ≠ b → (TX5 a).2.1 ≠ (TX5 b).2.1 := by decide +kernel
theorem tyX5_ok : ∀ k, k < 19 → parseFieldDescriptor (TX5 k).2.2.1 = some (tyX5 k) := by decide +kernel
abbrev cX5_init : ByteArray := prog_7_method_1_code
def yX5_init : MethodName := ⟨RX5, "<init>", "()V"⟩
abbrev cX5_becomeDefault : ByteArray := prog_7_method_2_code
def yX5_becomeDefault : MethodName := ⟨RX5, "becomeDefault", "()V"⟩
abbrev cX5_completeRules : ByteArray := prog_7_method_3_code
def yX5_completeRules : MethodName := ⟨RX5, "completeRules", "()V"⟩
abbrev cX5_copyFrom : ByteArray := prog_7_method_4_code
def yX5_copyFrom : MethodName := ⟨RX5, "copyFrom", "(LArmDuel$Settings;)V"⟩
abbrev cX5_putRule : ByteArray := prog_7_method_5_code
def yX5_putRule : MethodName := ⟨RX5, "putRule", "(II)V"⟩
abbrev cX5_putAsk : ByteArray := prog_7_method_6_code
def yX5_putAsk : MethodName := ⟨RX5, "putAsk", "(I)V"⟩
abbrev cX5_takeMaster : ByteArray := prog_7_method_7_code
def yX5_takeMaster : MethodName := ⟨RX5, "takeMaster", "(II)V"⟩
abbrev cX5_hasRival : ByteArray := prog_7_method_8_code
def yX5_hasRival : MethodName := ⟨RX5, "hasRival", "()Z"⟩
abbrev cX5_hasRule : ByteArray := prog_7_method_9_code
def yX5_hasRule : MethodName := ⟨RX5, "hasRule", "(I)Z"⟩
abbrev cX5_kindOf : ByteArray := prog_7_method_10_code
def yX5_kindOf : MethodName := ⟨RX5, "kindOf", "(I)I"⟩
abbrev cX5_widthOf : ByteArray := prog_7_method_11_code
def yX5_widthOf : MethodName := ⟨RX5, "widthOf", "(I)I"⟩
abbrev cX5_askAt : ByteArray := prog_7_method_12_code
def yX5_askAt : MethodName := ⟨RX5, "askAt", "(I)I"⟩
abbrev cX5_priceOf : ByteArray := prog_7_method_13_code
def yX5_priceOf : MethodName := ⟨RX5, "priceOf", "(II)I"⟩
abbrev cX5_boundBehind : ByteArray := prog_7_method_14_code
def yX5_boundBehind : MethodName := ⟨RX5, "boundBehind", "(I)I"⟩
def RX6 : String := "ArmDuel$Tour"
def TX6 : u_T := fun k => match k with
  | 0 => ("ArmDuel$Tour", "many", "I", false)
  | 1 => ("ArmDuel$Tour", "places", "[I", true)
  | _ => ("ArmDuel$Tour", "restCost", "[I", true)
def tyX6 : Nat → FieldType := fun k => match k with
  | 0 => .int
  | 1 => .array .int
  | _ => .array .int
abbrev wsX60 : List Cond := u_ws RX6 TX6 3
theorem nmX6 : ∀ a, a < 3 → ∀ b, b < 3 → a ≠ b → (TX6 a).2.1 ≠ (TX6 b).2.1 := by decide +kernel
theorem tyX6_ok : ∀ k, k < 3 → parseFieldDescriptor (TX6 k).2.2.1 = some (tyX6 k) := by decide +kernel
abbrev cX6_init : ByteArray := prog_8_method_1_code
def yX6_init : MethodName := ⟨RX6, "<init>", "()V"⟩
abbrev cX6_plan : ByteArray := prog_8_method_2_code
def yX6_plan : MethodName := ⟨RX6, "plan", "(LArmDuel$Settings;LArmDuel$Arm;I)V"⟩
abbrev cX6_leastCost : ByteArray := prog_8_method_3_code
def yX6_leastCost : MethodName := ⟨RX6, "leastCost", "()I"⟩
abbrev cX6_nextOf : ByteArray := prog_8_method_5_code
def yX6_nextOf : MethodName := ⟨RX6, "nextOf", "(LArmDuel$Settings;II)I"⟩
abbrev cX6_costOver : ByteArray := prog_8_method_6_code
def yX6_costOver : MethodName := ⟨RX6, "costOver", "(LArmDuel$Settings;III)I"⟩
def RX7 : String := "ArmDuel"
def TX7 : u_T := fun k => match k with
  | 0 => ("ArmDuel", "buffer", "[B", true)
  | 1 => ("ArmDuel", "buffered", "I", false)
  | 2 => ("ArmDuel", "latestError", "I", false)
  | 3 => ("ArmDuel", "reader", "LArmDuel$Reader;", true)
  | 4 => ("ArmDuel", "game", "LArmDuel$Game;", true)
  | 5 => ("ArmDuel", "trial", "LArmDuel$Duel;", true)
  | 6 => ("ArmDuel", "tour", "LArmDuel$Tour;", true)
  | _ => ("ArmDuel", "snapshots", "[LArmDuel$Game;", true)
def tyX7 : Nat → FieldType := fun k => match k with
  | 0 => .array .byte
  | 1 => .int
  | 2 => .int
  | 3 => .object "ArmDuel$Reader"
  | 4 => .object "ArmDuel$Game"
  | 5 => .object "ArmDuel$Duel"
  | 6 => .object "ArmDuel$Tour"
  | _ => .array (.object "ArmDuel$Game")
abbrev wsX70 : List Cond := u_ws RX7 TX7 8
theorem nmX7 : ∀ a, a < 8 → ∀ b, b < 8 → a ≠ b → (TX7 a).2.1 ≠ (TX7 b).2.1 := by decide +kernel
theorem tyX7_ok : ∀ k, k < 8 → parseFieldDescriptor (TX7 k).2.2.1 = some (tyX7 k) := by decide +kernel
abbrev cX7_init : ByteArray := prog_1_method_1_code
def yX7_init : MethodName := ⟨RX7, "<init>", "()V"⟩
abbrev cX7_append : ByteArray := prog_1_method_2_code
def yX7_append : MethodName := ⟨RX7, "append", "(J)I"⟩
abbrev cX7_load : ByteArray := prog_1_method_3_code
def yX7_load : MethodName := ⟨RX7, "load", "()I"⟩
abbrev cX7_setting : ByteArray := prog_1_method_5_code
def yX7_setting : MethodName := ⟨RX7, "setting", "(I)I"⟩
abbrev cX7_rule : ByteArray := prog_1_method_6_code
def yX7_rule : MethodName := ⟨RX7, "rule", "(II)I"⟩
abbrev cX7_request : ByteArray := prog_1_method_8_code
def yX7_request : MethodName := ⟨RX7, "request", "(I)I"⟩
abbrev cX7_setFoe : ByteArray := prog_1_method_9_code
def yX7_setFoe : MethodName := ⟨RX7, "setFoe", "(I)I"⟩
abbrev cX7_setMaster : ByteArray := prog_1_method_10_code
def yX7_setMaster : MethodName := ⟨RX7, "setMaster", "(II)I"⟩
abbrev cX7_setEta : ByteArray := prog_1_method_11_code
def yX7_setEta : MethodName := ⟨RX7, "setEta", "(I)I"⟩
abbrev cX7_setBudget : ByteArray := prog_1_method_12_code
def yX7_setBudget : MethodName := ⟨RX7, "setBudget", "(I)I"⟩
abbrev cX7_addAsk : ByteArray := prog_1_method_14_code
def yX7_addAsk : MethodName := ⟨RX7, "addAsk", "(I)I"⟩
abbrev cX7_arm : ByteArray := prog_1_method_16_code
def yX7_arm : MethodName := ⟨RX7, "arm", "(II)I"⟩
abbrev cX7_waiting : ByteArray := prog_1_method_17_code
def yX7_waiting : MethodName := ⟨RX7, "waiting", "(III)I"⟩
abbrev cX7_optimum : ByteArray := prog_1_method_19_code
def yX7_optimum : MethodName := ⟨RX7, "optimum", "(I)I"⟩
abbrev cX7_nextRule : ByteArray := prog_1_method_21_code
def yX7_nextRule : MethodName := ⟨RX7, "nextRule", "()I"⟩
abbrev cX7_served : ByteArray := prog_1_method_22_code
def yX7_served : MethodName := ⟨RX7, "served", "(II)I"⟩
abbrev cX7_rounds : ByteArray := prog_1_method_23_code
def yX7_rounds : MethodName := ⟨RX7, "rounds", "()I"⟩
abbrev cX7_regret : ByteArray := prog_1_method_24_code
def yX7_regret : MethodName := ⟨RX7, "regret", "(I)I"⟩
abbrev cX7_best : ByteArray := prog_1_method_25_code
def yX7_best : MethodName := ⟨RX7, "best", "()I"⟩
abbrev cX7_regretTo : ByteArray := prog_1_method_26_code
def yX7_regretTo : MethodName := ⟨RX7, "regretTo", "(I)I"⟩
abbrev cX7_swapCost : ByteArray := prog_1_method_27_code
def yX7_swapCost : MethodName := ⟨RX7, "swapCost", "(II)I"⟩
abbrev cX7_swapRegret : ByteArray := prog_1_method_28_code
def yX7_swapRegret : MethodName := ⟨RX7, "swapRegret", "()I"⟩
abbrev cX7_bestSwap : ByteArray := prog_1_method_29_code
def yX7_bestSwap : MethodName := ⟨RX7, "bestSwap", "(I)I"⟩
abbrev cX7_rival : ByteArray := prog_1_method_30_code
def yX7_rival : MethodName := ⟨RX7, "rival", "(I)I"⟩
abbrev cX7_cost : ByteArray := prog_1_method_31_code
def yX7_cost : MethodName := ⟨RX7, "cost", "(II)I"⟩
abbrev cX7_taken : ByteArray := prog_1_method_32_code
def yX7_taken : MethodName := ⟨RX7, "taken", "(I)I"⟩
abbrev cX7_bestPair : ByteArray := prog_1_method_33_code
def yX7_bestPair : MethodName := ⟨RX7, "bestPair", "(I)I"⟩
abbrev cX7_leads : ByteArray := prog_1_method_35_code
def yX7_leads : MethodName := ⟨RX7, "leads", "(I)I"⟩
abbrev cX7_switches : ByteArray := prog_1_method_36_code
def yX7_switches : MethodName := ⟨RX7, "switches", "()I"⟩
abbrev cX7_streak : ByteArray := prog_1_method_37_code
def yX7_streak : MethodName := ⟨RX7, "streak", "(I)I"⟩
abbrev cX7_windowRegret : ByteArray := prog_1_method_39_code
def yX7_windowRegret : MethodName := ⟨RX7, "windowRegret", "(II)I"⟩
abbrev cX7_windowBest : ByteArray := prog_1_method_40_code
def yX7_windowBest : MethodName := ⟨RX7, "windowBest", "(II)I"⟩
abbrev cX7_worstWindow : ByteArray := prog_1_method_41_code
def yX7_worstWindow : MethodName := ⟨RX7, "worstWindow", "(I)I"⟩
abbrev cX7_meanCost : ByteArray := prog_1_method_42_code
def yX7_meanCost : MethodName := ⟨RX7, "meanCost", "(I)D"⟩
abbrev cX7_share : ByteArray := prog_1_method_43_code
def yX7_share : MethodName := ⟨RX7, "share", "(I)F"⟩
abbrev cX7_run : ByteArray := prog_1_method_44_code
def yX7_run : MethodName := ⟨RX7, "run", "(I)I"⟩
abbrev cX7_hurtOf : ByteArray := prog_1_method_46_code
def yX7_hurtOf : MethodName := ⟨RX7, "hurtOf", "(I)I"⟩
abbrev cX7_worst : ByteArray := prog_1_method_47_code
def yX7_worst : MethodName := ⟨RX7, "worst", "()I"⟩
abbrev cX7_regretIn : ByteArray := prog_1_method_48_code
def yX7_regretIn : MethodName := ⟨RX7, "regretIn", "(I)I"⟩
abbrev cX7_costIn : ByteArray := prog_1_method_49_code
def yX7_costIn : MethodName := ⟨RX7, "costIn", "(II)I"⟩
abbrev cX7_breachIn : ByteArray := prog_1_method_50_code
def yX7_breachIn : MethodName := ⟨RX7, "breachIn", "()I"⟩
abbrev cX7_regretKeeping : ByteArray := prog_1_method_51_code
def yX7_regretKeeping : MethodName := ⟨RX7, "regretKeeping", "(II)I"⟩
abbrev cX7_regretAgainst : ByteArray := prog_1_method_52_code
def yX7_regretAgainst : MethodName := ⟨RX7, "regretAgainst", "(II)I"⟩
abbrev cX7_rivalIn : ByteArray := prog_1_method_53_code
def yX7_rivalIn : MethodName := ⟨RX7, "rivalIn", "(I)I"⟩
abbrev cX7_saveSnapshot : ByteArray := prog_1_method_55_code
def yX7_saveSnapshot : MethodName := ⟨RX7, "saveSnapshot", "(I)I"⟩
abbrev cX7_restoreSnapshot : ByteArray := prog_1_method_56_code
def yX7_restoreSnapshot : MethodName := ⟨RX7, "restoreSnapshot", "(I)I"⟩
abbrev cX7_requireRule : ByteArray := prog_1_method_57_code
def yX7_requireRule : MethodName := ⟨RX7, "requireRule", "(I)V"⟩
abbrev cX7_requireArm : ByteArray := prog_1_method_58_code
def yX7_requireArm : MethodName := ⟨RX7, "requireArm", "(I)V"⟩
abbrev cX7_requireCylinder : ByteArray := prog_1_method_59_code
def yX7_requireCylinder : MethodName := ⟨RX7, "requireCylinder", "(I)V"⟩
abbrev cX7_requireWindow : ByteArray := prog_1_method_60_code
def yX7_requireWindow : MethodName := ⟨RX7, "requireWindow", "(II)V"⟩
abbrev cX7_requireWithin : ByteArray := prog_1_method_61_code
def yX7_requireWithin : MethodName := ⟨RX7, "requireWithin", "(III)V"⟩
def RX8 : String := "ArmDuelModel"
def TX8 : u_T := fun k => match k with
  | _ => ("", "", "", false)
def tyX8 : Nat → FieldType := fun k => match k with
  | _ => .int
abbrev wsX80 : List Cond := u_ws RX8 TX8 0
theorem nmX8 : ∀ a, a < 0 → ∀ b, b < 0 → a ≠ b → (TX8 a).2.1 ≠ (TX8 b).2.1 := by decide +kernel
theorem tyX8_ok : ∀ k, k < 0 → parseFieldDescriptor (TX8 k).2.2.1 = some (tyX8 k) := by decide +kernel
def RJ5 : String := "java/lang/AbstractStringBuilder"
abbrev cJ5_init_d00df : ByteArray := prog_11_method_2_code
def yJ5_init_d00df : MethodName := ⟨RJ5, "<init>", "(I)V"⟩
abbrev cJ5_init_a7421 : ByteArray := prog_11_method_3_code
def yJ5_init_a7421 : MethodName := ⟨RJ5, "<init>", "(Ljava/lang/String;)V"⟩
abbrev cJ5_length_8abf5 : ByteArray := prog_11_method_6_code
def yJ5_length_8abf5 : MethodName := ⟨RJ5, "length", "()I"⟩
abbrev cJ5_ensureCapacityInternal_d00df : ByteArray := prog_11_method_9_code
def yJ5_ensureCapacityInternal_d00df : MethodName := ⟨RJ5, "ensureCapacityInternal", "(I)V"⟩
abbrev cJ5_newCapacity_0f7a4 : ByteArray := prog_11_method_10_code
def yJ5_newCapacity_0f7a4 : MethodName := ⟨RJ5, "newCapacity", "(I)I"⟩
abbrev cJ5_inflate_da8c8 : ByteArray := prog_11_method_11_code
def yJ5_inflate_da8c8 : MethodName := ⟨RJ5, "inflate", "()V"⟩
abbrev cJ5_append_cf1ce : ByteArray := prog_11_method_22_code
def yJ5_append_cf1ce : MethodName := ⟨RJ5, "append", "(Ljava/lang/String;)Ljava/lang/AbstractStringBuilder;"⟩
abbrev cJ5_appendNull_278bc : ByteArray := prog_11_method_26_code
def yJ5_appendNull_278bc : MethodName := ⟨RJ5, "appendNull", "()Ljava/lang/AbstractStringBuilder;"⟩
abbrev cJ5_append_3fe6f : ByteArray := prog_11_method_31_code
def yJ5_append_3fe6f : MethodName := ⟨RJ5, "append", "(C)Ljava/lang/AbstractStringBuilder;"⟩
abbrev cJ5_append_c97b9 : ByteArray := prog_11_method_32_code
def yJ5_append_c97b9 : MethodName := ⟨RJ5, "append", "(I)Ljava/lang/AbstractStringBuilder;"⟩
abbrev cJ5_getValue_6d5f1 : ByteArray := prog_11_method_64_code
def yJ5_getValue_6d5f1 : MethodName := ⟨RJ5, "getValue", "()[B"⟩
abbrev cJ5_isLatin1_aae02 : ByteArray := prog_11_method_68_code
def yJ5_isLatin1_aae02 : MethodName := ⟨RJ5, "isLatin1", "()Z"⟩
abbrev cJ5_inflateIfNeededFor_a7421 : ByteArray := prog_11_method_71_code
def yJ5_inflateIfNeededFor_a7421 : MethodName := ⟨RJ5, "inflateIfNeededFor", "(Ljava/lang/String;)V"⟩
abbrev cJ5_putStringAt_47b60 : ByteArray := prog_11_method_73_code
def yJ5_putStringAt_47b60 : MethodName := ⟨RJ5, "putStringAt", "(ILjava/lang/String;)V"⟩
def RJ6 : String := "java/lang/Integer"
abbrev cJ6_getChars_ba4f3 : ByteArray := prog_16_method_12_code
def yJ6_getChars_ba4f3 : MethodName := ⟨RJ6, "getChars", "(II[B)I"⟩
abbrev cJ6_stringSize_0f7a4 : ByteArray := prog_16_method_13_code
def yJ6_stringSize_0f7a4 : MethodName := ⟨RJ6, "stringSize", "(I)I"⟩
def RJ9 : String := "java/lang/Math"
abbrev cJ9_abs_0f7a4 : ByteArray := prog_17_method_59_code
def yJ9_abs_0f7a4 : MethodName := ⟨RJ9, "abs", "(I)I"⟩
abbrev cJ9_max_7cf53 : ByteArray := prog_17_method_65_code
def yJ9_max_7cf53 : MethodName := ⟨RJ9, "max", "(II)I"⟩
abbrev cJ9_max_f86c9 : ByteArray := prog_17_method_66_code
def yJ9_max_f86c9 : MethodName := ⟨RJ9, "max", "(JJ)J"⟩
abbrev cJ9_min_7cf53 : ByteArray := prog_17_method_69_code
def yJ9_min_7cf53 : MethodName := ⟨RJ9, "min", "(II)I"⟩
def RJ0 : String := "java/lang/String"
def TJ0 : u_T := fun k => match k with
  | 0 => ("java/lang/String", "value", "[B", true)
  | 1 => ("java/lang/String", "coder", "B", true)
  | 2 => ("java/lang/String", "hash", "I", false)
  | _ => ("java/lang/String", "hashIsZero", "Z", false)
def tyJ0 : Nat → FieldType := fun k => match k with
  | 0 => .array .byte
  | 1 => .byte
  | 2 => .int
  | _ => .boolean
theorem nmJ0 : ∀ a, a < 4 → ∀ b, b < 4 → a ≠ b → (TJ0 a).2.1 ≠ (TJ0 b).2.1 := by decide +kernel
theorem tyJ0_ok : ∀ k, k < 4 → parseFieldDescriptor (TJ0 k).2.2.1 = some (tyJ0 k) := by decide +kernel
abbrev cJ0_init_81219 : ByteArray := prog_19_method_53_code
def yJ0_init_81219 : MethodName := ⟨RJ0, "<init>", "(Ljava/lang/StringBuilder;)V"⟩
abbrev cJ0_length_8abf5 : ByteArray := prog_19_method_54_code
def yJ0_length_8abf5 : MethodName := ⟨RJ0, "length", "()I"⟩
abbrev cJ0_charAt_5068e : ByteArray := prog_19_method_56_code
def yJ0_charAt_5068e : MethodName := ⟨RJ0, "charAt", "(I)C"⟩
abbrev cJ0_getBytes_840e7 : ByteArray := prog_19_method_147_code
def yJ0_getBytes_840e7 : MethodName := ⟨RJ0, "getBytes", "([BIB)V"⟩
abbrev cJ0_init_db425 : ByteArray := prog_19_method_150_code
def yJ0_init_db425 : MethodName := ⟨RJ0, "<init>", "(Ljava/lang/AbstractStringBuilder;Ljava/lang/Void;)V"⟩
abbrev cJ0_coder_7d493 : ByteArray := prog_19_method_152_code
def yJ0_coder_7d493 : MethodName := ⟨RJ0, "coder", "()B"⟩
abbrev cJ0_isLatin1_aae02 : ByteArray := prog_19_method_154_code
def yJ0_isLatin1_aae02 : MethodName := ⟨RJ0, "isLatin1", "()Z"⟩
abbrev cJ0_checkIndex_df160 : ByteArray := prog_19_method_155_code
def yJ0_checkIndex_df160 : MethodName := ⟨RJ0, "checkIndex", "(II)V"⟩
abbrev cJ0_checkBoundsOffCount_cabcc : ByteArray := prog_19_method_157_code
def yJ0_checkBoundsOffCount_cabcc : MethodName := ⟨RJ0, "checkBoundsOffCount", "(III)I"⟩
abbrev cJ0_checkBoundsBeginEnd_23922 : ByteArray := prog_19_method_158_code
def yJ0_checkBoundsBeginEnd_23922 : MethodName := ⟨RJ0, "checkBoundsBeginEnd", "(III)V"⟩
def RJ4 : String := "java/lang/StringBuilder"
def TJ4 : u_T := fun k => match k with
  | 0 => ("java/lang/AbstractStringBuilder", "value", "[B", false)
  | 1 => ("java/lang/AbstractStringBuilder", "coder", "B", false)
  | 2 => ("java/lang/AbstractStringBuilder", "maybeLatin1", "Z", false)
  | _ => ("java/lang/AbstractStringBuilder", "count", "I", false)
def tyJ4 : Nat → FieldType := fun k => match k with
  | 0 => .array .byte
  | 1 => .byte
  | 2 => .boolean
  | _ => .int
theorem nmJ4 : ∀ a, a < 4 → ∀ b, b < 4 → a ≠ b → (TJ4 a).2.1 ≠ (TJ4 b).2.1 := by decide +kernel
theorem tyJ4_ok : ∀ k, k < 4 → parseFieldDescriptor (TJ4 k).2.2.1 = some (tyJ4 k) := by decide +kernel
abbrev cJ4_init_da8c8 : ByteArray := prog_20_method_1_code
def yJ4_init_da8c8 : MethodName := ⟨RJ4, "<init>", "()V"⟩
abbrev cJ4_init_a7421 : ByteArray := prog_20_method_3_code
def yJ4_init_a7421 : MethodName := ⟨RJ4, "<init>", "(Ljava/lang/String;)V"⟩
abbrev cJ4_append_15ec4 : ByteArray := prog_20_method_7_code
def yJ4_append_15ec4 : MethodName := ⟨RJ4, "append", "(Ljava/lang/String;)Ljava/lang/StringBuilder;"⟩
abbrev cJ4_append_cf468 : ByteArray := prog_20_method_14_code
def yJ4_append_cf468 : MethodName := ⟨RJ4, "append", "(C)Ljava/lang/StringBuilder;"⟩
abbrev cJ4_append_bf812 : ByteArray := prog_20_method_15_code
def yJ4_append_bf812 : MethodName := ⟨RJ4, "append", "(I)Ljava/lang/StringBuilder;"⟩
abbrev cJ4_toString_0e30d : ByteArray := prog_20_method_42_code
def yJ4_toString_0e30d : MethodName := ⟨RJ4, "toString", "()Ljava/lang/String;"⟩
abbrev cJ4_append_cf1ce : ByteArray := prog_20_method_80_code
def yJ4_append_cf1ce : MethodName := ⟨RJ4, "append", "(Ljava/lang/String;)Ljava/lang/AbstractStringBuilder;"⟩
abbrev cJ4_length_8abf5 : ByteArray := prog_20_method_93_code
def yJ4_length_8abf5 : MethodName := ⟨RJ4, "length", "()I"⟩
def RJ1 : String := "java/lang/StringLatin1"
abbrev cJ1_charAt_3b067 : ByteArray := prog_21_method_2_code
def yJ1_charAt_3b067 : MethodName := ⟨RJ1, "charAt", "([BI)C"⟩
abbrev cJ1_canEncode_fc78d : ByteArray := prog_21_method_3_code
def yJ1_canEncode_fc78d : MethodName := ⟨RJ1, "canEncode", "(C)Z"⟩
abbrev cJ1_inflate_0e8fd : ByteArray := prog_21_method_50_code
def yJ1_inflate_0e8fd : MethodName := ⟨RJ1, "inflate", "([BI[BII)V"⟩
def RJ2 : String := "java/lang/StringUTF16"
abbrev cJ2_newBytesFor_77867 : ByteArray := prog_22_method_2_code
def yJ2_newBytesFor_77867 : MethodName := ⟨RJ2, "newBytesFor", "(I)[B"⟩
abbrev cJ2_newBytesLength_0f7a4 : ByteArray := prog_22_method_3_code
def yJ2_newBytesLength_0f7a4 : MethodName := ⟨RJ2, "newBytesLength", "(I)I"⟩
abbrev cJ2_putChar_b72d1 : ByteArray := prog_22_method_4_code
def yJ2_putChar_b72d1 : MethodName := ⟨RJ2, "putChar", "([BII)V"⟩
abbrev cJ2_getChar_3b067 : ByteArray := prog_22_method_5_code
def yJ2_getChar_3b067 : MethodName := ⟨RJ2, "getChar", "([BI)C"⟩
abbrev cJ2_length_9d52b : ByteArray := prog_22_method_6_code
def yJ2_length_9d52b : MethodName := ⟨RJ2, "length", "([B)I"⟩
abbrev cJ2_coderFromArrayLen_85cad : ByteArray := prog_22_method_15_code
def yJ2_coderFromArrayLen_85cad : MethodName := ⟨RJ2, "coderFromArrayLen", "([BI)B"⟩
abbrev cJ2_compress_39247 : ByteArray := prog_22_method_17_code
def yJ2_compress_39247 : MethodName := ⟨RJ2, "compress", "([BII)[B"⟩
abbrev cJ2_compress_5af95 : ByteArray := prog_22_method_22_code
def yJ2_compress_5af95 : MethodName := ⟨RJ2, "compress", "([BI[BII)I"⟩
abbrev cJ2_putCharSB_b72d1 : ByteArray := prog_22_method_71_code
def yJ2_putCharSB_b72d1 : MethodName := ⟨RJ2, "putCharSB", "([BII)V"⟩
abbrev cJ2_getChars_46870 : ByteArray := prog_22_method_77_code
def yJ2_getChars_46870 : MethodName := ⟨RJ2, "getChars", "(III[B)I"⟩
abbrev cJ2_putCharsAt_cd4e5 : ByteArray := prog_22_method_81_code
def yJ2_putCharsAt_cd4e5 : MethodName := ⟨RJ2, "putCharsAt", "([BICCCC)I"⟩
abbrev cJ2_charAt_3b067 : ByteArray := prog_22_method_83_code
def yJ2_charAt_3b067 : MethodName := ⟨RJ2, "charAt", "([BI)C"⟩
abbrev cJ2_inflate_0e8fd : ByteArray := prog_22_method_86_code
def yJ2_inflate_0e8fd : MethodName := ⟨RJ2, "inflate", "([BI[BII)V"⟩
abbrev cJ2_getChars_ba4f3 : ByteArray := prog_22_method_89_code
def yJ2_getChars_ba4f3 : MethodName := ⟨RJ2, "getChars", "(II[B)I"⟩
abbrev cJ2_checkIndex_2214a : ByteArray := prog_22_method_91_code
def yJ2_checkIndex_2214a : MethodName := ⟨RJ2, "checkIndex", "(I[B)V"⟩
abbrev cJ2_checkBoundsBeginEnd_d044e : ByteArray := prog_22_method_93_code
def yJ2_checkBoundsBeginEnd_d044e : MethodName := ⟨RJ2, "checkBoundsBeginEnd", "(II[B)V"⟩
abbrev cJ2_checkBoundsOffCount_d044e : ByteArray := prog_22_method_94_code
def yJ2_checkBoundsOffCount_d044e : MethodName := ⟨RJ2, "checkBoundsOffCount", "(II[B)V"⟩
def RJ10 : String := "java/lang/System"
def RJ7 : String := "java/util/Arrays"
abbrev cJ7_copyOf_9075b : ByteArray := prog_25_method_121_code
def yJ7_copyOf_9075b : MethodName := ⟨RJ7, "copyOf", "([BI)[B"⟩
abbrev cJ7_checkLength_df160 : ByteArray := prog_25_method_131_code
def yJ7_checkLength_df160 : MethodName := ⟨RJ7, "checkLength", "(II)V"⟩
abbrev cJ7_copyOfRange_39247 : ByteArray := prog_25_method_132_code
def yJ7_copyOfRange_39247 : MethodName := ⟨RJ7, "copyOfRange", "([BII)[B"⟩
abbrev cJ7_copyOfRangeByte_39247 : ByteArray := prog_25_method_133_code
def yJ7_copyOfRangeByte_39247 : MethodName := ⟨RJ7, "copyOfRangeByte", "([BII)[B"⟩
def RJ8 : String := "jdk/internal/util/ArraysSupport"
abbrev cJ8_newLength_cabcc : ByteArray := prog_26_method_27_code
def yJ8_newLength_cabcc : MethodName := ⟨RJ8, "newLength", "(III)I"⟩
abbrev cJ8_hugeLength_7cf53 : ByteArray := prog_26_method_28_code
def yJ8_hugeLength_7cf53 : MethodName := ⟨RJ8, "hugeLength", "(II)I"⟩
def RJ3 : String := "jdk/internal/util/Preconditions"
abbrev cJ3_checkIndex_8e157 : ByteArray := prog_27_method_11_code
def yJ3_checkIndex_8e157 : MethodName := ⟨RJ3, "checkIndex", "(IILjava/util/function/BiFunction;)I"⟩
abbrev cJ3_checkFromToIndex_8c36e : ByteArray := prog_27_method_12_code
def yJ3_checkFromToIndex_8c36e : MethodName := ⟨RJ3, "checkFromToIndex", "(IIILjava/util/function/BiFunction;)I"⟩
abbrev cJ3_checkFromIndexSize_8c36e : ByteArray := prog_27_method_13_code
def yJ3_checkFromIndexSize_8c36e : MethodName := ⟨RJ3, "checkFromIndexSize", "(IIILjava/util/function/BiFunction;)I"⟩
def RL : String := "ArmDuelLaw"
abbrev cL_cell : ByteArray := method_2_code
def yL_cell : MethodName := ⟨RL, "cell", "([II)I"⟩
abbrev cL_load : ByteArray := method_3_code
def yL_load : MethodName := ⟨RL, "load", "(LArmDuel;Ljava/lang/String;)I"⟩
abbrev cL_kind : ByteArray := method_4_code
def yL_kind : MethodName := ⟨RL, "kind", "(II)Ljava/lang/String;"⟩
abbrev cL_text : ByteArray := method_5_code
def yL_text : MethodName := ⟨RL, "text", "([II)Ljava/lang/String;"⟩
abbrev cL_step : ByteArray := method_6_code
def yL_step : MethodName := ⟨RL, "step", "(LArmDuel;[III)V"⟩
abbrev cL_whole : ByteArray := method_7_code
def yL_whole : MethodName := ⟨RL, "whole", "(LArmDuel;I)J"⟩
abbrev cL_areCostsRight : ByteArray := method_8_code
def yL_areCostsRight : MethodName := ⟨RL, "areCostsRight", "(LArmDuel;I)Z"⟩
abbrev cL_areRoundsRight : ByteArray := method_9_code
def yL_areRoundsRight : MethodName := ⟨RL, "areRoundsRight", "(LArmDuel;I)Z"⟩
abbrev cL_foresees : ByteArray := method_10_code
def yL_foresees : MethodName := ⟨RL, "foresees", "(LArmDuel;III)Z"⟩
abbrev cL_law : ByteArray := code
def yL_law : MethodName := ⟨RL, "law", "([I)Z"⟩
abbrev vwCl : List vw_C := [(RX0, TX0, 12), (RX1, TX1, 14), (RX2, TX2, 2), (RX3, TX3, 7), (RX4, TX4, 14), (RX5, TX5, 19), (RX6, TX6, 3), (RX7, TX7, 8), (RJ0, TJ0, 4), (RJ4, TJ4, 4)]
end
section
/-! 'aw': the kit's W with the surroundings (program, state at the entry, frame, words) quantified away; blocks of pure instructions by evaluation -/
def uw_ : List Cond := lw_tbl.filter goodWord
theorem uw_mem {w : Cond} (i : Nat) (h : lw_tbl[i]? = some w) (hg : goodWord w = true) : w ∈ uw_ := List.mem_filter.mpr ⟨List.mem_of_getElem? h, hg⟩
theorem uw_good : ∀ w ∈ uw_, (w.onTables && w.keeps) = true ∨ ∃ ty, w = .arrayClass ty := fun w h => good_of_word (List.mem_filter.mp h).2
/-- class numbers and slots; the arrays' classes; the launch; the law's start -/
abbrev ev_ : Type := va_G × (Nat → ClassId) × Launch × State
abbrev ev_l (E : ev_) : Launch := E.2.2.1
abbrev ev_s (E : ev_) : State := E.2.2.2
def ev_tys (E : ev_) : List (ClassId × FieldType) := [(E.2.1 0, .int), (E.2.1 1, .byte), (E.2.1 2, .object "java/lang/String"), (E.2.1 3, .int), (E.2.1 4, .int), (E.2.1 5, .object "ArmDuel$Arm"), (E.2.1 6, .object "ArmDuel$Game"), (E.2.1 7, .array .int)]
def ev_base (E : ev_) (H : Heap) : Prop := (ev_s E).heap.size ≤ H.size ∧ ∀ q : Nat, q < (ev_s E).heap.size → H[q]? = (ev_s E).heap[q]?
def ev_fr (E : ev_) : Addr → Prop := fun q => (ev_s E).heap.size ≤ q
/-- the texts: their classes, places, bytes -/
def sx_ : List (String × Nat × String × List Int32) := [("ArmDuel$Reader", 67, "drive cost rule master mix foe ask rival budget bound", [100, 114, 105, 118, 101, 32, 99, 111, 115, 116, 32, 114, 117, 108, 101, 32, 109, 97, 115, 116, 101, 114, 32, 109, 105, 120, 32, 102, 111, 101, 32, 97, 115, 107, 32, 114, 105, 118, 97, 108, 32, 98, 117, 100, 103, 101, 116, 32, 98, 111, 117, 110, 100]),
  ("ArmDuel$Reader", 124, "fcfs near scan wrap band", [102, 99, 102, 115, 32, 110, 101, 97, 114, 32, 115, 99, 97, 110, 32, 119, 114, 97, 112, 32, 98, 97, 110, 100]),
  ("ArmDuel$Reader", 136, "draw lead keep", [100, 114, 97, 119, 32, 108, 101, 97, 100, 32, 107, 101, 101, 112]),
  ("ArmDuel$Reader", 100, "none far mirror ends list hurt", [110, 111, 110, 101, 32, 102, 97, 114, 32, 109, 105, 114, 114, 111, 114, 32, 101, 110, 100, 115, 32, 108, 105, 115, 116, 32, 104, 117, 114, 116]),
  ("ArmDuel", 133, "no such setting", [110, 111, 32, 115, 117, 99, 104, 32, 115, 101, 116, 116, 105, 110, 103]),
  ("ArmDuel", 387, "no such rule", [110, 111, 32, 115, 117, 99, 104, 32, 114, 117, 108, 101]),
  ("ArmDuel", 174, "no such number of a rule", [110, 111, 32, 115, 117, 99, 104, 32, 110, 117, 109, 98, 101, 114, 32, 111, 102, 32, 97, 32, 114, 117, 108, 101]),
  ("ArmDuel", 394, "out of range", [111, 117, 116, 32, 111, 102, 32, 114, 97, 110, 103, 101]),
  ("ArmDuel", 390, "no such arm", [110, 111, 32, 115, 117, 99, 104, 32, 97, 114, 109]),
  ("ArmDuel", 237, "no such number of an arm", [110, 111, 32, 115, 117, 99, 104, 32, 110, 117, 109, 98, 101, 114, 32, 111, 102, 32, 97, 110, 32, 97, 114, 109]),
  ("ArmDuel", 264, "a negative index", [97, 32, 110, 101, 103, 97, 116, 105, 118, 101, 32, 105, 110, 100, 101, 120]),
  ("ArmDuel", 287, "no such number of the regret", [110, 111, 32, 115, 117, 99, 104, 32, 110, 117, 109, 98, 101, 114, 32, 111, 102, 32, 116, 104, 101, 32, 114, 101, 103, 114, 101, 116]),
  ("ArmDuel", 392, "a negative round", [97, 32, 110, 101, 103, 97, 116, 105, 118, 101, 32, 114, 111, 117, 110, 100]),
  ("ArmDuelModel", 203, "drive", [100, 114, 105, 118, 101]),
  ("ArmDuelModel", 171, "cost", [99, 111, 115, 116]),
  ("ArmDuelModel", 173, "rule", [114, 117, 108, 101]),
  ("ArmDuelModel", 132, "fcfs", [102, 99, 102, 115]),
  ("ArmDuelModel", 138, "near", [110, 101, 97, 114]),
  ("ArmDuelModel", 140, "scan", [115, 99, 97, 110]),
  ("ArmDuelModel", 142, "wrap", [119, 114, 97, 112]),
  ("ArmDuelModel", 144, "band", [98, 97, 110, 100]),
  ("ArmDuelModel", 178, "master", [109, 97, 115, 116, 101, 114]),
  ("ArmDuelModel", 149, "draw", [100, 114, 97, 119]),
  ("ArmDuelModel", 155, "lead", [108, 101, 97, 100]),
  ("ArmDuelModel", 157, "keep", [107, 101, 101, 112]),
  ("ArmDuelModel", 183, "rival", [114, 105, 118, 97, 108]),
  ("ArmDuelModel", 185, "budget", [98, 117, 100, 103, 101, 116]),
  ("ArmDuelModel", 187, "mix", [109, 105, 120]),
  ("ArmDuelModel", 189, "foe", [102, 111, 101]),
  ("ArmDuelModel", 159, "none", [110, 111, 110, 101]),
  ("ArmDuelModel", 161, "far", [102, 97, 114]),
  ("ArmDuelModel", 163, "mirror", [109, 105, 114, 114, 111, 114]),
  ("ArmDuelModel", 165, "ends", [101, 110, 100, 115]),
  ("ArmDuelModel", 167, "list", [108, 105, 115, 116]),
  ("ArmDuelModel", 169, "hurt", [104, 117, 114, 116]),
  ("ArmDuelModel", 195, "ask", [97, 115, 107]),
  ("ArmDuelModel", 200, "bound", [98, 111, 117, 110, 100]),
  ("ArmDuelLaw", 58, "fcfs", [102, 99, 102, 115]),
  ("ArmDuelLaw", 60, "near", [110, 101, 97, 114]),
  ("ArmDuelLaw", 62, "scan", [115, 99, 97, 110]),
  ("ArmDuelLaw", 64, "wrap", [119, 114, 97, 112]),
  ("ArmDuelLaw", 66, "band ", [98, 97, 110, 100, 32]),
  ("ArmDuelLaw", 68, "none", [110, 111, 110, 101]),
  ("ArmDuelLaw", 70, "far", [102, 97, 114]),
  ("ArmDuelLaw", 72, "mirror", [109, 105, 114, 114, 111, 114]),
  ("ArmDuelLaw", 74, "ends", [101, 110, 100, 115]),
  ("ArmDuelLaw", 76, "list", [108, 105, 115, 116]),
  ("ArmDuelLaw", 78, "hurt", [104, 117, 114, 116]),
  ("ArmDuelLaw", 80, "drive ", [100, 114, 105, 118, 101, 32]),
  ("ArmDuelLaw", 88, ";cost ", [59, 99, 111, 115, 116, 32]),
  ("ArmDuelLaw", 90, ";rule ", [59, 114, 117, 108, 101, 32]),
  ("ArmDuelLaw", 92, ";master ", [59, 109, 97, 115, 116, 101, 114, 32]),
  ("ArmDuelLaw", 33, "draw", [100, 114, 97, 119]),
  ("ArmDuelLaw", 35, "lead", [108, 101, 97, 100]),
  ("ArmDuelLaw", 40, "keep ", [107, 101, 101, 112, 32]),
  ("ArmDuelLaw", 98, ";mix ", [59, 109, 105, 120, 32]),
  ("ArmDuelLaw", 101, ";foe ", [59, 102, 111, 101, 32]),
  ("ArmDuelLaw", 103, ";ask ", [59, 97, 115, 107, 32]),
  ("ArmDuelLaw", 105, ";rival ", [59, 114, 105, 118, 97, 108, 32]),
  ("ArmDuelLaw", 107, ";budget ", [59, 98, 117, 100, 103, 101, 116, 32]),
  ("ArmDuelLaw", 109, ";bound ", [59, 98, 111, 117, 110, 100, 32])]
def sx_n (w : Nat) : String × Nat × String × List Int32 := sx_.getD w ("", 0, "", [])
abbrev sb_y (w : Nat) : List Int32 := (sx_n w).2.2.2
/-- where a text lies -/
def sa_ (E : ev_) (w : Nat) : Nat := match (Term.string (sx_n w).1 (sx_n w).2.1).eval #[] (ev_s E) none [] (ev_s E) with
  | some (.ref a) => a
  | _ => 0
/-- a text lies there, and holds its bytes -/
def sc_ok (E : ev_) (w : Nat) : Prop := vk_R (sx_n w).1 (sx_n w).2.1 (sx_n w).2.2.1 (sa_ E w) (ev_s E) ∧ va_O "java/lang/String" (sa_ E w) (ev_fr E) (ev_s E) (ev_s E).heap ∧ va_OF "java/lang/String" "coder" "B" (.int 0) (sa_ E w) (ev_fr E) (ev_s E) (ev_s E).heap ∧ ∃ v : Nat, va_OF "java/lang/String" "value" "[B" (.ref v) (sa_ E w) (ev_fr E) (ev_s E) (ev_s E).heap ∧ va_T .byte v (sb_y w).length (fun j => .int ((sb_y w).getD j 0)) (ev_fr E) (ev_s E) (ev_s E).heap
/-- the texts that this claim has -/
def sxb_ (w : Nat) : Bool := Nat.blt w 13 || (Nat.ble 37 w && Nat.blt w sx_.length)
def es_ (E : ev_) : Prop := (∀ w, sxb_ w = true → sc_ok E w) ∧ va_Z "java/lang/String" "COMPACT_STRINGS" "Z" (.int 1) (ev_fr E) (ev_s E) (ev_s E).heap ∧ va_Zq "jdk/internal/util/Preconditions" "SIOOBE_FORMATTER" "Ljava/util/function/BiFunction;" (ev_fr E) (ev_s E) (ev_s E).heap
def ew_ (w : Cond) : Bool := match w with
  | .stringRef _ _ _ => true
  | w => w.onTables
/-- what the law's start gives to all methods -/
def ev_ok (E : ev_) : Prop := va_K E.1 vwCl (ev_tys E) (ev_s E) ∧ (ev_l E).flags = flags0 ∧ (∀ w ∈ lw_tbl, ew_ w = true → va_Nw w (ev_s E)) ∧ vx_Zq Bundle.tN "UNASSIGNED_STACK" Bundle.steD (ev_fr E) (ev_s E) (ev_s E).heap ∧ vx_Zq Bundle.tN "SUPPRESSED_SENTINEL" Bundle.listD (ev_fr E) (ev_s E) (ev_s E).heap ∧ es_ E
/-- a method: its name, code, locals, what it returns, its handlers, its room -/
abbrev mt_ : Type := MethodName × ByteArray × Nat × Option FieldType × List ExceptionTableEntry × Room
abbrev mt_R (M : mt_) : Room := M.2.2.2.2.2
def cx_ (E : ev_) (M : mt_) (p : Program) (s : State) (m : MethodId) (args : Array Value) (meth : Method) (c : Code) : Prop :=
  p.tables.exec = Jvm.exec ∧ c.code = M.2.1 ∧ meth.sig.returnType = M.2.2.2.1 ∧ c.maxLocals = M.2.2.1 ∧ s.vm.findClass M.1.cls = some m.cls ∧ (∀ w ∈ uw_, w.before args s = true) ∧ meth.locks = false ∧ c.exceptionTable.toList = M.2.2.2.2.1 ∧ (ev_s E).WarmedH s.vm ∧ ev_base E s.heap ∧ ev_ok E ∧ meth.name = M.1.name
def hp_ (E : ev_) (s : State) (H : Heap) (locs : List Loc) : Prop := s.heap.size ≤ H.size ∧ ev_base E H ∧ ∀ z ∈ locs, ev_fr E z.base
abbrev po_ : Type := Option Value ⊕ String → Heap → Prop
def aw_Q (E : ev_) (Q : po_) : Array Value → State → Outcome → State → Prop := fun _ st o t => ∃ v, o = .returned v ∧ Q (.inl v) t.heap ∧ st.heap.size ≤ t.heap.size ∧ ev_base E t.heap
def aw_X (E : ev_) (Q : po_) : String → State → State → Prop := fun X st t => Q (.inr X) t.heap ∧ st.heap.size ≤ t.heap.size ∧ ev_base E t.heap
def aw (E : ev_) (M : mt_) (Q : po_) (pc : Nat) (lv : List (Nat × Value)) (st : List Value) (H : Heap) (k n : Nat) : Prop :=
  ∀ (p : Program) (e : Env) (s : State) (m : MethodId) (args : Array Value) (below : List Frame) (meth : Method) (c : Code) (locs : List Loc) (ls : Array Slot),
    cx_ E M p s m args meth c → hp_ E s H locs → lv_has ls M.2.2.1 lv →
    W p (ev_l E) e (mt_R M) s m args below meth c H locs k n (vx_MQ below (aw_Q E Q) (aw_X E Q) args s (mt_R M).cells (mt_R M).slots (ev_fr E)) (F0 m pc ls st)
/-- a contract at one heap: from H with these arguments the method comes to an end with Q -/
def sp_ (E : ev_) (M : mt_) (av : List Value) (H : Heap) (Q : po_) : Prop := ev_ok E → ev_base E H →
  vx_Met (ev_l E) M.1 (.code M.1 M.2.1 M.2.2.1 M.2.2.2.1 :: uw_) (mt_R M) (fun v U => v = av.toArray ∧ (ev_s E).WarmedH U.vm ∧ U.heap = H) (aw_Q E Q) (aw_X E Q) (mt_R M).cells (mt_R M).slots (ev_fr E)
theorem sp_of {E : ev_} {M : mt_} {av : List Value} {H : Heap} {Q : po_} (hy : plainName M.1.cls = true) (ht : M.2.2.2.2.1 = []) (hn : Nat.ble (lg_sl av).length M.2.2.1 = true) (h : aw E M Q 0 (lv_args 0 av) [] H 0 0) : sp_ E M av H Q := by
  intro hok hbase
  refine vx_ofW (cc := M.2.1) (maxL := M.2.2.1) (ret := M.2.2.2.1) hy rfl ?_
  intro p e s m args below meth c s₁ B hml ht0 hv
  obtain ⟨rfl, hal, hH⟩ := hv
  have htab : c.exceptionTable.toList = M.2.2.2.2.1 := by
    rw [ht]
    exact List.eq_nil_iff_forall_not_mem.mpr (fun x hx => ht0 x hx)
  have hts := atoms_spec (ws := .code M.1 M.2.1 M.2.2.1 M.2.2.2.1 :: uw_) B.pre
  have hl := lv_entry av (n := M.2.2.1) (Nat.le_of_ble_eq_true hn)
  rw [lg_entry_eq]
  have hC : cx_ E M p s m av.toArray meth c := ⟨B.exec, B.bytes, B.returns, hml, findClass_of_methodNamed B.named, fun w hw => hts w (List.mem_cons_of_mem _ hw), B.notSynchronized, htab, hal, by rw [hH]; exact hbase, hok, (name_of_methodNamed B.named B.method).1⟩
  have h1 := h p e s m av.toArray below meth c [] _ hC ⟨by rw [hH]; exact Nat.le_refl _, hbase, fun z hz => absurd hz List.not_mem_nil⟩ hl
  rw [← hH] at h1
  exact h1
theorem aw_lv {E : ev_} {M : mt_} {Q : po_} {pc : Nat} {lv lv' : List (Nat × Value)} {st : List Value} {H : Heap} {k n : Nat} (ks : List Nat) (h : lv_pick lv ks = lv') (kk : aw E M Q pc lv' st H k n) : aw E M Q pc lv st H k n :=
  fun p e s m args below meth c locs ls C P L => kk p e s m args below meth c locs ls C P (lv_sub L ks h)
theorem aw_eq {E : ev_} {M : mt_} {Q : po_} {pc pc' : Nat} {lv lv' : List (Nat × Value)} {st st' : List Value} {H : Heap} {k n : Nat} (h1 : pc = pc') (h2 : lv = lv') (h3 : st = st') (kk : aw E M Q pc' lv' st' H k n) : aw E M Q pc lv st H k n := by
  subst h1; subst h2; subst h3; exact kk
theorem aw_post {E : ev_} {M : mt_} {Q Q' : po_} {pc : Nat} {lv : List (Nat × Value)} {st : List Value} {H : Heap} {k n : Nat} (h : ∀ r H, Q r H → Q' r H) (kk : aw E M Q pc lv st H k n) : aw E M Q' pc lv st H k n := by
  intro p e s m args below meth c locs ls C P L T hT X
  obtain ⟨t, h1, o, h2, h3, h4⟩ := kk p e s m args below meth c locs ls C P L T hT X
  refine ⟨t, h1, o, h2, h3, ?_⟩
  rcases h4 with ⟨⟨v, e1, e2, e3⟩, h5⟩ | ⟨q, e1, X0, ce, L0, ⟨e2, e3⟩, h5⟩
  · exact Or.inl ⟨⟨v, e1, h _ _ e2, e3⟩, h5⟩
  · exact Or.inr ⟨q, e1, X0, ce, L0, ⟨h _ _ e2, e3⟩, h5⟩
theorem aw_widen {E : ev_} {M : mt_} {Q : po_} {pc : Nat} {lv : List (Nat × Value)} {st : List Value} {H : Heap} {k n k' n' : Nat} (h1 : k ≤ k') (h2 : n ≤ n') (kk : aw E M Q pc lv st H k' n') : aw E M Q pc lv st H k n :=
  fun p e s m args below meth c locs ls C P L => W.widen h1 h2 (kk p e s m args below meth c locs ls C P L)
/-! blocks of pure instructions -/
abbrev in_ : Type := Nat × Instr × Nat × Value
def lv_gt (lv : List (Nat × Value)) (i : Nat) : Option Value := match lv with
  | [] => none
  | q :: r => match Nat.beq q.1 i with
    | true => some q.2
    | false => lv_gt r i
theorem lv_gt_ok {ls : Array Slot} {nL : Nat} {v : Value} {i : Nat} : ∀ {lv : List (Nat × Value)}, lv_has ls nL lv → lv_gt lv i = some v → ls[i]? = some (.val v)
  | [], _, h => by cases h
  | q :: r, L, h => by
    unfold lv_gt at h
    split at h
    · rename_i hb
      cases h
      have e : q.1 = i := Nat.eq_of_beq_eq_true hb
      have := L.2.2 q List.mem_cons_self
      rw [e] at this
      exact this
    · exact lv_gt_ok (lv := r) ⟨L.1, L.2.1, fun z hz => L.2.2 z (List.mem_cons_of_mem _ hz)⟩ h
def lv_s1 (lv : List (Nat × Value)) (i : Nat) (v : Value) : List (Nat × Value) := (i, v) :: lv.filter (fun q => !(q.1 == i) && !(q.1 + 1 == i && q.2.category == 2))
def lv_s2 (lv : List (Nat × Value)) (i : Nat) (v : Value) : List (Nat × Value) := (i, v) :: lv.filter (fun q => !(q.1 == i) && (!(q.1 == i + 1) && !(q.1 + 1 == i && q.2.category == 2)))
def pe1 (nL : Nat) (i : Instr) (len : Nat) (v : Value) (pc : Nat) (lv : List (Nat × Value)) (st : List Value) : Option (Nat × List (Nat × Value) × List Value) := match i, len with
  | .iconst a, 1 => match v with | .int x => (match decide (Int32.ofInt a = x) with | true => some (pc + 1, lv, .int x :: st) | false => none) | _ => none
  | .bipush a, 2 => match v with | .int x => (match decide ((Int8.ofInt a).toInt32 = x) with | true => some (pc + 2, lv, .int x :: st) | false => none) | _ => none
  | .sipush a, 3 => match v with | .int x => (match decide ((Int16.ofInt a).toInt32 = x) with | true => some (pc + 3, lv, .int x :: st) | false => none) | _ => none
  | .lconst a, 1 => match v with | .long x => (match decide (Int64.ofNat (a : Nat) = x) with | true => some (pc + 1, lv, .long x :: st) | false => none) | _ => none
  | .iload_n a, 1 => match lv_gt lv a with | some (.int x) => some (pc + 1, lv, .int x :: st) | _ => none
  | .iload a, 2 => match lv_gt lv a with | some (.int x) => some (pc + 2, lv, .int x :: st) | _ => none
  | .istore_n a, 1 => match st with | .int x :: r => (match Nat.ble (a + 1) nL with | true => some (pc + 1, lv_s1 lv a (.int x), r) | false => none) | _ => none
  | .istore a, 2 => match st with | .int x :: r => (match Nat.ble (a + 1) nL with | true => some (pc + 2, lv_s1 lv a (.int x), r) | false => none) | _ => none
  | .lload_n a, 1 => match lv_gt lv a with | some (.long x) => some (pc + 1, lv, .long x :: st) | _ => none
  | .lload a, 2 => match lv_gt lv a with | some (.long x) => some (pc + 2, lv, .long x :: st) | _ => none
  | .lstore_n a, 1 => match st with | .long x :: r => (match Nat.ble (a + 2) nL with | true => some (pc + 1, lv_s2 lv a (.long x), r) | false => none) | _ => none
  | .lstore a, 2 => match st with | .long x :: r => (match Nat.ble (a + 2) nL with | true => some (pc + 2, lv_s2 lv a (.long x), r) | false => none) | _ => none
  | .aload_n a, 1 => match lv_gt lv a with | some (.ref x) => some (pc + 1, lv, .ref x :: st) | _ => none
  | .aload a, 2 => match lv_gt lv a with | some (.ref x) => some (pc + 2, lv, .ref x :: st) | _ => none
  | .astore_n a, 1 => match st with | .ref x :: r => (match Nat.ble (a + 1) nL with | true => some (pc + 1, lv_s1 lv a (.ref x), r) | false => none) | _ => none
  | .astore a, 2 => match st with | .ref x :: r => (match Nat.ble (a + 1) nL with | true => some (pc + 2, lv_s1 lv a (.ref x), r) | false => none) | _ => none
  | .fload_n a, 1 => match lv_gt lv a with | some (.float x) => some (pc + 1, lv, .float x :: st) | _ => none
  | .fload a, 2 => match lv_gt lv a with | some (.float x) => some (pc + 2, lv, .float x :: st) | _ => none
  | .fstore_n a, 1 => match st with | .float x :: r => (match Nat.ble (a + 1) nL with | true => some (pc + 1, lv_s1 lv a (.float x), r) | false => none) | _ => none
  | .fstore a, 2 => match st with | .float x :: r => (match Nat.ble (a + 1) nL with | true => some (pc + 2, lv_s1 lv a (.float x), r) | false => none) | _ => none
  | .dload_n a, 1 => match lv_gt lv a with | some (.double x) => some (pc + 1, lv, .double x :: st) | _ => none
  | .dload a, 2 => match lv_gt lv a with | some (.double x) => some (pc + 2, lv, .double x :: st) | _ => none
  | .dstore_n a, 1 => match st with | .double x :: r => (match Nat.ble (a + 2) nL with | true => some (pc + 1, lv_s2 lv a (.double x), r) | false => none) | _ => none
  | .dstore a, 2 => match st with | .double x :: r => (match Nat.ble (a + 2) nL with | true => some (pc + 2, lv_s2 lv a (.double x), r) | false => none) | _ => none
  | .iinc a b, 3 => match lv_gt lv a with | some (.int x) => (match v with | .int z => (match decide (Int32.ofInt b = z), Nat.ble (a + 1) nL with | true, true => some (pc + 3, lv_s1 lv a (.int (x + z)), st) | _, _ => none) | _ => none) | _ => none
  | .iadd, 1 => match st with | .int y :: .int x :: r => some (pc + 1, lv, .int (x + y) :: r) | _ => none
  | .isub, 1 => match st with | .int y :: .int x :: r => some (pc + 1, lv, .int (x - y) :: r) | _ => none
  | .imul, 1 => match st with | .int y :: .int x :: r => some (pc + 1, lv, .int (x * y) :: r) | _ => none
  | .ishl, 1 => match st with | .int y :: .int x :: r => some (pc + 1, lv, .int (x <<< (y &&& 31)) :: r) | _ => none
  | .ishr, 1 => match st with | .int y :: .int x :: r => some (pc + 1, lv, .int (x >>> (y &&& 31)) :: r) | _ => none
  | .iand, 1 => match st with | .int y :: .int x :: r => some (pc + 1, lv, .int (x &&& y) :: r) | _ => none
  | .ior, 1 => match st with | .int y :: .int x :: r => some (pc + 1, lv, .int (x ||| y) :: r) | _ => none
  | .ineg, 1 => match st with | .int x :: r => some (pc + 1, lv, .int (-x) :: r) | _ => none
  | .ladd, 1 => match st with | .long y :: .long x :: r => some (pc + 1, lv, .long (x + y) :: r) | _ => none
  | .lsub, 1 => match st with | .long y :: .long x :: r => some (pc + 1, lv, .long (x - y) :: r) | _ => none
  | .lmul, 1 => match st with | .long y :: .long x :: r => some (pc + 1, lv, .long (x * y) :: r) | _ => none
  | .land, 1 => match st with | .long y :: .long x :: r => some (pc + 1, lv, .long (x &&& y) :: r) | _ => none
  | .lor, 1 => match st with | .long y :: .long x :: r => some (pc + 1, lv, .long (x ||| y) :: r) | _ => none
  | .lushr, 1 => match st with | .int y :: .long x :: r => some (pc + 1, lv, .long ((x.toUInt64 >>> (y.toInt64.toUInt64 &&& Int64.toUInt64 63)).toInt64) :: r) | _ => none
  | .lshl, 1 => match st with | .int y :: .long x :: r => some (pc + 1, lv, .long (x <<< (y.toInt64 &&& 63)) :: r) | _ => none
  | .lcmp, 1 => match st with | .long y :: .long x :: r => some (pc + 1, lv, .int (lg_cmp x y) :: r) | _ => none
  | .i2l, 1 => match st with | .int x :: r => some (pc + 1, lv, .long x.toInt64 :: r) | _ => none
  | .l2i, 1 => match st with | .long x :: r => some (pc + 1, lv, .int x.toInt32 :: r) | _ => none
  | .i2b, 1 => match st with | .int x :: r => some (pc + 1, lv, .int x.toInt8.toInt32 :: r) | _ => none
  | .i2d, 1 => match st with | .int x :: r => some (pc + 1, lv, .double (FP.i2d x) :: r) | _ => none
  | .i2f, 1 => match st with | .int x :: r => some (pc + 1, lv, .float (FP.i2f x) :: r) | _ => none
  | .dcmp o, 1 => match st with | .double y :: .double x :: r => some (pc + 1, lv, .int (Op.cmpValue (FP.dcmp x y) o) :: r) | _ => none
  | .fcmp o, 1 => match st with | .float y :: .float x :: r => some (pc + 1, lv, .int (Op.cmpValue (FP.fcmp x y) o) :: r) | _ => none
  | .dup, 1 => match st with | .int x :: r => some (pc + 1, lv, .int x :: .int x :: r) | .ref x :: r => some (pc + 1, lv, .ref x :: .ref x :: r) | _ => none
  | .pop, 1 => match st with | .int _ :: r => some (pc + 1, lv, r) | .ref _ :: r => some (pc + 1, lv, r) | _ => none
  | .dup2, 1 => match st with | .int y :: .ref x :: r => some (pc + 1, lv, .int y :: .ref x :: .int y :: .ref x :: r) | _ => none
  | .goto a, 3 => match Int.toNat (pc + a), decide ((pc : Int) + a = ((Int.toNat (pc + a) : Nat) : Int)) with | t, true => some (t, lv, st) | _, _ => none
  | _, _ => none
section II
variable {p : Program} {l : Launch} {e : Env} {R : Room} {s : State} {m : MethodId} {args : Array Value} {below : List Frame} {meth : Method} {c : Code} {H : Heap} {locs : List Loc} {cells slots : Nat} {Q : State → Prop} {cc : ByteArray} {pc : Nat} {ls : Array Slot} {rest : List Value}
theorem lv_iincG (hexec : p.tables.exec = Jvm.exec) (hb : c.code = cc) {i nL : Nat} {n : Int} {x z : Int32} {lv : List (Nat × Value)} (hdg : decode cc pc = .ok (.iinc i n, 3)) (h : lv_has ls nL lv) (hx : ls[i]? = some (.val (.int x))) (hn : i < nL) (hz : Int32.ofInt n = z) (kk : ∀ ls' : Array Slot, lv_has ls' nL (lv_s1 lv i (.int (x + z))) → W p l e R s m args below meth c H locs cells slots Q (F0 m (pc + 3) ls' rest)) : W p l e R s m args below meth c H locs cells slots Q (F0 m pc ls rest) := by
  subst hz
  have h' : lv_has ls nL ((i, .int x) :: lv) := ⟨h.1, h.2.1, fun q hq => by
    rcases List.mem_cons.mp hq with e | hq
    · rw [e]; exact hx
    · exact h.2.2 q hq⟩
  refine lv_iinc (k := 0) hexec hb hdg h' rfl rfl hn rfl (fun ls' L' => kk ls' ?_)
  refine ⟨L'.1, L'.2.1, fun q hq => L'.2.2 q ?_⟩
  unfold lv_s1 at hq
  rcases List.mem_cons.mp hq with e | hq
  · rw [e]; exact List.mem_cons_self
  · refine List.mem_cons_of_mem _ ?_
    rw [List.mem_filter] at hq ⊢
    exact ⟨List.mem_cons_of_mem _ hq.1, hq.2⟩
end II
section PE
variable {E : ev_} {M : mt_} {Q : po_} {pc : Nat} {lv : List (Nat × Value)} {st : List Value} {H : Heap} {k n : Nat} {i : Instr} {len : Nat} {v : Value} {z : Nat × List (Nat × Value) × List Value}
set_option maxHeartbeats 4000000 in
theorem pe1_ok (hd : decode M.2.1 pc = .ok (i, len)) (h : pe1 M.2.2.1 i len v pc lv st = some z) (kk : aw E M Q z.1 z.2.1 z.2.2 H k n) : aw E M Q pc lv st H k n := by
  intro p e s m args below meth c locs ls C P L
  unfold pe1 at h
  split at h
  · split at h
    · split at h
      · rename_i hx
        cases h
        exact lv_iconst C.1 C.2.1 hd (of_decide_eq_true hx) (kk p e s m args below meth c locs ls C P L)
      · cases h
    · cases h
  · split at h
    · split at h
      · rename_i hx
        cases h
        exact lv_bipush C.1 C.2.1 hd (of_decide_eq_true hx) (kk p e s m args below meth c locs ls C P L)
      · cases h
    · cases h
  · split at h
    · split at h
      · rename_i hx
        cases h
        exact lv_sipush C.1 C.2.1 hd (of_decide_eq_true hx) (kk p e s m args below meth c locs ls C P L)
      · cases h
    · cases h
  · split at h
    · split at h
      · rename_i hx
        cases h
        exact lv_lconst C.1 C.2.1 hd (of_decide_eq_true hx) (kk p e s m args below meth c locs ls C P L)
      · cases h
    · cases h
  · split at h
    · rename_i hx
      cases h
      exact lv_iload_n C.1 C.2.1 hd rfl (lv_gt_ok L hx) (kk p e s m args below meth c locs ls C P L)
    · cases h
  · split at h
    · rename_i hx
      cases h
      exact lv_iload C.1 C.2.1 hd (lv_gt_ok L hx) (kk p e s m args below meth c locs ls C P L)
    · cases h
  · split at h
    · split at h
      · rename_i hx
        cases h
        exact lv_istore_n C.1 C.2.1 hd rfl L (Nat.le_of_ble_eq_true hx) rfl (fun ls' L' => kk p e s m args below meth c locs ls' C P L')
      · cases h
    · cases h
  · split at h
    · split at h
      · rename_i hx
        cases h
        exact lv_istore C.1 C.2.1 hd L (Nat.le_of_ble_eq_true hx) rfl (fun ls' L' => kk p e s m args below meth c locs ls' C P L')
      · cases h
    · cases h
  · split at h
    · rename_i hx
      cases h
      exact lv_lload_n C.1 C.2.1 hd rfl (lv_gt_ok L hx) (kk p e s m args below meth c locs ls C P L)
    · cases h
  · split at h
    · rename_i hx
      cases h
      exact lv_lload C.1 C.2.1 hd (lv_gt_ok L hx) (kk p e s m args below meth c locs ls C P L)
    · cases h
  · split at h
    · split at h
      · rename_i hx
        cases h
        exact lv_lstore_n C.1 C.2.1 hd rfl L (Nat.le_of_ble_eq_true hx) rfl (fun ls' L' => kk p e s m args below meth c locs ls' C P L')
      · cases h
    · cases h
  · split at h
    · split at h
      · rename_i hx
        cases h
        exact lv_lstore C.1 C.2.1 hd L (Nat.le_of_ble_eq_true hx) rfl (fun ls' L' => kk p e s m args below meth c locs ls' C P L')
      · cases h
    · cases h
  · split at h
    · rename_i hx
      cases h
      exact lv_aload_n C.1 C.2.1 hd rfl (lv_gt_ok L hx) (kk p e s m args below meth c locs ls C P L)
    · cases h
  · split at h
    · rename_i hx
      cases h
      exact lv_aload C.1 C.2.1 hd (lv_gt_ok L hx) (kk p e s m args below meth c locs ls C P L)
    · cases h
  · split at h
    · split at h
      · rename_i hx
        cases h
        exact lv_astore_n C.1 C.2.1 hd rfl L (Nat.le_of_ble_eq_true hx) rfl (fun ls' L' => kk p e s m args below meth c locs ls' C P L')
      · cases h
    · cases h
  · split at h
    · split at h
      · rename_i hx
        cases h
        exact lv_astore C.1 C.2.1 hd L (Nat.le_of_ble_eq_true hx) rfl (fun ls' L' => kk p e s m args below meth c locs ls' C P L')
      · cases h
    · cases h
  · split at h
    · rename_i hx
      cases h
      exact lv_fload_n C.1 C.2.1 hd rfl (lv_gt_ok L hx) (kk p e s m args below meth c locs ls C P L)
    · cases h
  · split at h
    · rename_i hx
      cases h
      exact lv_fload C.1 C.2.1 hd (lv_gt_ok L hx) (kk p e s m args below meth c locs ls C P L)
    · cases h
  · split at h
    · split at h
      · rename_i hx
        cases h
        exact lv_fstore_n C.1 C.2.1 hd rfl L (Nat.le_of_ble_eq_true hx) rfl (fun ls' L' => kk p e s m args below meth c locs ls' C P L')
      · cases h
    · cases h
  · split at h
    · split at h
      · rename_i hx
        cases h
        exact lv_fstore C.1 C.2.1 hd L (Nat.le_of_ble_eq_true hx) rfl (fun ls' L' => kk p e s m args below meth c locs ls' C P L')
      · cases h
    · cases h
  · split at h
    · rename_i hx
      cases h
      exact lv_dload_n C.1 C.2.1 hd rfl (lv_gt_ok L hx) (kk p e s m args below meth c locs ls C P L)
    · cases h
  · split at h
    · rename_i hx
      cases h
      exact lv_dload C.1 C.2.1 hd (lv_gt_ok L hx) (kk p e s m args below meth c locs ls C P L)
    · cases h
  · split at h
    · split at h
      · rename_i hx
        cases h
        exact lv_dstore_n C.1 C.2.1 hd rfl L (Nat.le_of_ble_eq_true hx) rfl (fun ls' L' => kk p e s m args below meth c locs ls' C P L')
      · cases h
    · cases h
  · split at h
    · split at h
      · rename_i hx
        cases h
        exact lv_dstore C.1 C.2.1 hd L (Nat.le_of_ble_eq_true hx) rfl (fun ls' L' => kk p e s m args below meth c locs ls' C P L')
      · cases h
    · cases h
  · split at h
    · rename_i hx
      split at h
      · split at h
        · rename_i hz hb
          cases h
          have hz := of_decide_eq_true hz
          exact lv_iincG C.1 C.2.1 hd L (lv_gt_ok L hx) (Nat.le_of_ble_eq_true hb) hz (fun ls' L' => kk p e s m args below meth c locs ls' C P L')
        · cases h
      · cases h
    · cases h
  · split at h
    · cases h
      exact lv_iadd C.1 C.2.1 hd (kk p e s m args below meth c locs ls C P L)
    · cases h
  · split at h
    · cases h
      exact lv_isub C.1 C.2.1 hd (kk p e s m args below meth c locs ls C P L)
    · cases h
  · split at h
    · cases h
      exact lv_imul C.1 C.2.1 hd (kk p e s m args below meth c locs ls C P L)
    · cases h
  · split at h
    · cases h
      exact lv_ishl C.1 C.2.1 hd (kk p e s m args below meth c locs ls C P L)
    · cases h
  · split at h
    · cases h
      exact lv_ishr C.1 C.2.1 hd (kk p e s m args below meth c locs ls C P L)
    · cases h
  · split at h
    · cases h
      exact lv_iand C.1 C.2.1 hd (kk p e s m args below meth c locs ls C P L)
    · cases h
  · split at h
    · cases h
      exact lv_ior C.1 C.2.1 hd (kk p e s m args below meth c locs ls C P L)
    · cases h
  · split at h
    · cases h
      exact lv_ineg C.1 C.2.1 hd (kk p e s m args below meth c locs ls C P L)
    · cases h
  · split at h
    · cases h
      exact lv_ladd C.1 C.2.1 hd (kk p e s m args below meth c locs ls C P L)
    · cases h
  · split at h
    · cases h
      exact lv_lsub C.1 C.2.1 hd (kk p e s m args below meth c locs ls C P L)
    · cases h
  · split at h
    · cases h
      exact lv_lmul C.1 C.2.1 hd (kk p e s m args below meth c locs ls C P L)
    · cases h
  · split at h
    · cases h
      exact lv_land C.1 C.2.1 hd (kk p e s m args below meth c locs ls C P L)
    · cases h
  · split at h
    · cases h
      exact lv_lor C.1 C.2.1 hd (kk p e s m args below meth c locs ls C P L)
    · cases h
  · split at h
    · cases h
      exact lv_lushr C.1 C.2.1 hd rfl (kk p e s m args below meth c locs ls C P L)
    · cases h
  · split at h
    · cases h
      exact lv_lshl C.1 C.2.1 hd rfl (kk p e s m args below meth c locs ls C P L)
    · cases h
  · split at h
    · cases h
      exact W.lcmp C.1 C.2.1 hd (kk p e s m args below meth c locs ls C P L)
    · cases h
  · split at h
    · cases h
      exact lv_i2l C.1 C.2.1 hd rfl (kk p e s m args below meth c locs ls C P L)
    · cases h
  · split at h
    · cases h
      exact lv_l2i C.1 C.2.1 hd rfl (kk p e s m args below meth c locs ls C P L)
    · cases h
  · split at h
    · cases h
      exact lv_i2b C.1 C.2.1 hd rfl (kk p e s m args below meth c locs ls C P L)
    · cases h
  · split at h
    · cases h
      exact lv_i2d C.1 C.2.1 hd (kk p e s m args below meth c locs ls C P L)
    · cases h
  · split at h
    · cases h
      exact lv_i2f C.1 C.2.1 hd (kk p e s m args below meth c locs ls C P L)
    · cases h
  · split at h
    · cases h
      exact lv_dcmp C.1 C.2.1 hd (kk p e s m args below meth c locs ls C P L)
    · cases h
  · split at h
    · cases h
      exact lv_fcmp C.1 C.2.1 hd (kk p e s m args below meth c locs ls C P L)
    · cases h
  · split at h
    · cases h
      exact lv_dup C.1 C.2.1 hd rfl (kk p e s m args below meth c locs ls C P L)
    · cases h
      exact lv_dup C.1 C.2.1 hd rfl (kk p e s m args below meth c locs ls C P L)
    · cases h
  · split at h
    · cases h
      exact lv_pop C.1 C.2.1 hd rfl (kk p e s m args below meth c locs ls C P L)
    · cases h
      exact lv_pop C.1 C.2.1 hd rfl (kk p e s m args below meth c locs ls C P L)
    · cases h
  · split at h
    · cases h
      exact lv_dup2_11 C.1 C.2.1 hd rfl rfl (kk p e s m args below meth c locs ls C P L)
    · cases h
  · split at h
    · rename_i hx
      cases h
      exact lv_goto C.1 C.2.1 hd (of_decide_eq_true hx) (kk p e s m args below meth c locs ls C P L)
    · cases h
  · cases h
def pev (nL : Nat) : List in_ → Nat → List (Nat × Value) → List Value → Option (Nat × List (Nat × Value) × List Value)
  | [], pc, lv, st => some (pc, lv, st)
  | x :: r, pc, lv, st => match Nat.beq x.1 pc with
    | true => (match pe1 nL x.2.1 x.2.2.1 x.2.2.2 pc lv st with
      | some z => pev nL r z.1 z.2.1 z.2.2
      | none => none)
    | false => none
def pok (cc : ByteArray) (b : List in_) : Prop := ∀ x ∈ b, decode cc x.1 = .ok (x.2.1, x.2.2.1)
def pokb (cc : ByteArray) (b : List in_) : Bool := b.all (fun x => decide (decode cc x.1 = .ok (x.2.1, x.2.2.1)))
theorem pev_ok : ∀ {b : List in_} {pc : Nat} {lv : List (Nat × Value)} {st : List Value}, pok M.2.1 b → pev M.2.2.1 b pc lv st = some z → aw E M Q z.1 z.2.1 z.2.2 H k n → aw E M Q pc lv st H k n
  | [], pc, lv, st, _, h, kk => by cases h; exact kk
  | x :: r, pc, lv, st, hk, h, kk => by
    unfold pev at h
    split at h
    · rename_i hb
      split at h
      · rename_i z1 h1
        have e : x.1 = pc := Nat.eq_of_beq_eq_true hb
        have hd := hk x List.mem_cons_self
        rw [e] at hd
        exact pe1_ok hd h1 (pev_ok (fun y hy => hk y (List.mem_cons_of_mem _ hy)) h kk)
      · cases h
    · cases h
theorem aw_b {pc' : Nat} {lv' : List (Nat × Value)} {st' : List Value} (b : List in_) (hk : pokb M.2.1 b = true) (h : pev M.2.2.1 b pc lv st = some (pc', lv', st')) (kk : aw E M Q pc' lv' st' H k n) : aw E M Q pc lv st H k n := pev_ok (fun x hx => of_decide_eq_true (List.all_eq_true.mp hk x hx)) h kk
end PE
end
section
/-! rows of 'aw': what touches the heap; branches; ends -/
section AR
variable {E : ev_} {M : mt_} {Q : po_} {pc : Nat} {lv : List (Nat × Value)} {rest : List Value} {H : Heap} {k n : Nat} {a : Nat}
theorem cx_K {p : Program} {s : State} {m : MethodId} {args : Array Value} {meth : Method} {c : Code} (C : cx_ E M p s m args meth c) : va_K E.1 vwCl (ev_tys E) s := va_K.moved C.2.2.2.2.2.2.2.2.1.alike C.2.2.2.2.2.2.2.2.2.2.1.1
def sm1 (H H1 : Heap) (a : Nat) : Prop := H1.size = H.size ∧ ∀ q : Nat, q ≠ a → H1[q]? = H[q]?
theorem hp_.put {s : State} {H1 : Heap} {locs : List Loc} {j : Nat} (P : hp_ E s H locs) (hs : sm1 H H1 a) (hf : ev_fr E a) : hp_ E s H1 (locs ++ [⟨a, j⟩]) := by
  refine ⟨by rw [hs.1]; exact P.1, ⟨by rw [hs.1]; exact P.2.1.1, fun q hq => ?_⟩, fun z hz => ?_⟩
  · rw [hs.2 q (fun e => by subst e; exact absurd hf (Nat.not_le.mpr hq))]
    exact P.2.1.2 q hq
  · rcases List.mem_append.mp hz with h | h
    · exact P.2.2 z h
    · rw [List.mem_singleton.mp h]; exact hf
abbrev at_ (E : ev_) (H : Heap) (a : Nat) (e : va_E) : Prop := va_at E.1 vwCl (a, e) H
/-- a field link of the method's class: class number, slot -/
def fok_ (own : String) (idx ci j : Nat) : Prop := ∃ (C : String) (T : u_T) (N : Nat), vwCl[ci]? = some (C, T, N) ∧ j < N ∧ Cond.fieldLink own idx (T j).1 (T j).2.1 (T j).2.2.1 ∈ uw_ ∧ ∀ w ∈ u_ws C T N, w ∈ uw_
def fpk_ (own : String) (idx ci j : Nat) (ty : FieldType) : Prop := ∃ (C : String) (T : u_T) (N : Nat) (t0 : Nat → FieldType), vwCl[ci]? = some (C, T, N) ∧ j < N ∧ Cond.fieldLink own idx (T j).1 (T j).2.1 (T j).2.2.1 ∈ uw_ ∧ (∀ w ∈ u_ws C T N, w ∈ uw_) ∧ (∀ k, k < N → parseFieldDescriptor (T k).2.2.1 = some (t0 k)) ∧ (∀ a, a < N → ∀ b, b < N → a ≠ b → (T a).2.1 ≠ (T b).2.1) ∧ (T j).2.2.2 = false ∧ parseFieldDescriptor (T j).2.2.1 = some ty
theorem aw_get {ci j idx : Nat} {fs : List Value} {v : Value} (hf : fok_ M.1.cls idx ci j) (hA : at_ E H a (.inr (ci, fs))) (hv : fs[j]? = some v) (hd : decode M.2.1 pc = .ok (.getfield idx, 3)) (kk : aw E M Q (pc + 3) lv (v :: rest) H k n) : aw E M Q pc lv (.ref a :: rest) H k n := by
  intro p e s m args below meth c locs ls C P L
  obtain ⟨C0, T, N, h1, h2, h3, h4⟩ := hf
  exact va_get (ws := [(a, .inr (ci, fs))]) (Ts := uw_) C.1 C.2.1 C.2.2.2.2.2.1 h4 C.2.2.2.2.1 (cx_K C) (fun j q hq => by
    match j, hq with
    | 0, hq => cases hq; exact hA
    | j + 1, hq => cases hq) 0 rfl h1 j h2 (C.2.2.2.2.2.1 _ h3) (fun _ h => h) hv hd (kk p e s m args below meth c locs ls C P L)
theorem aw_put {ci j idx : Nat} {fs : List Value} {v : Value} {ty : FieldType} (hf : fpk_ M.1.cls idx ci j ty) (hA : at_ E H a (.inr (ci, fs))) (hfr : ev_fr E a) (hn : narrow ty v = v) (hfit : fits ty v = true) (hl : Nat.blt j fs.length = true) (hd : decode M.2.1 pc = .ok (.putfield idx, 3)) (kk : ∀ H1 : Heap, at_ E H1 a (.inr (ci, fs.set j v)) → sm1 H H1 a → aw E M Q (pc + 3) lv rest H1 k n) : aw E M Q pc lv (v :: .ref a :: rest) H k n := by
  intro p e s m args below meth c locs ls C P L
  obtain ⟨C0, T, N, t0, h1, h2, h3, hin, hty, hnm, hfin, hdd⟩ := hf
  have hts := C.2.2.2.2.2.1
  have hK := cx_K C
  have hap := va_apart (own := M.1.cls) hts hin t0 hty hnm hK h1
  obtain ⟨r, hr1, cell, q1, q2, q3, q4⟩ := hA
  have hr : r = (C0, T, N) := Option.some.inj (hr1.symm.trans h1)
  subst hr
  obtain ⟨hS, hfc, kC, hkC, hkind⟩ := hK.1 ci _ h1
  obtain ⟨cf, kf, fi, f, hi, hsl⟩ := hS j h2
  have hlay := hts _ (hin _ (u_in_lay h2))
  unfold u_lay at hlay
  rw [if_neg (by rw [hfin]; decide)] at hlay
  have hst := (u_facts hfc hkC (u_lays hts hin h2) hi).1
  have h6 := u_store hfc hkC hkind hlay hi hdd hn hfit
  refine W.putK C.1 C.2.1 (f := f) ⟨C.2.2.2.2.1, hts _ h3, ⟨_, _, _, hi⟩, hst⟩ (by rw [q2]; exact h6) q1 q3 (by rw [hsl]; exact k2_hasslot (q4 j h2)) rfl rfl hd fun H' e1 e2 e3 => ?_
  rw [hsl] at e1 ⊢
  have hl' : j < fs.length := Nat.lt_of_lt_of_le (Nat.lt_succ_self j) (Nat.le_of_ble_eq_true hl)
  exact kk H' ⟨_, h1, t_OB.to (V := updV (vp_V fs) j v) ⟨_, e1, q2, q3, t_set q4 hap h2 v⟩ (fun i _ => vp_updV_set hl' v i)⟩ ⟨e2, e3⟩ p e s m args below meth c _ ls C (P.put ⟨e2, e3⟩ hfr) L
theorem aw_iald {N : Nat} {f : Nat → Int32} {i : Int32} (hA : at_ E H a (.inl (E.2.1 0, N, .inl f))) (hin : vp_in i N) (hd : decode M.2.1 pc = .ok (.iaload, 1)) (kk : aw E M Q (pc + 1) lv (.int (f i.toNatClampNeg) :: rest) H k n) : aw E M Q pc lv (.int i :: .ref a :: rest) H k n := by
  intro p e s m args below meth c locs ls C P L
  exact va_iald (ws := [(a, .inl (E.2.1 0, N, .inl f))]) C.1 C.2.1 (cx_K C) (fun j q hq => by
    match j, hq with
    | 0, hq => cases hq; exact hA
    | j + 1, hq => cases hq) 0 0 rfl rfl hin hd (kk p e s m args below meth c locs ls C P L)
theorem aw_bald {N : Nat} {f : Nat → Int32} {i : Int32} (hA : at_ E H a (.inl (E.2.1 1, N, .inl f))) (hin : vp_in i N) (hd : decode M.2.1 pc = .ok (.baload, 1)) (kk : aw E M Q (pc + 1) lv (.int (f i.toNatClampNeg) :: rest) H k n) : aw E M Q pc lv (.int i :: .ref a :: rest) H k n := by
  intro p e s m args below meth c locs ls C P L
  exact va_bald (ws := [(a, .inl (E.2.1 1, N, .inl f))]) C.1 C.2.1 (cx_K C) (fun j q hq => by
    match j, hq with
    | 0, hq => cases hq; exact hA
    | j + 1, hq => cases hq) 0 1 rfl rfl hin hd (kk p e s m args below meth c locs ls C P L)
theorem aw_aaldA {N : Nat} {f : Nat → Option Nat} {i : Int32} (hA : at_ E H a (.inl (E.2.1 5, N, .inr (.inr (.inr (.inr f)))))) (hin : vp_in i N) (hd : decode M.2.1 pc = .ok (.aaload, 1)) (kk : aw E M Q (pc + 1) lv (va_rf (f i.toNatClampNeg) :: rest) H k n) : aw E M Q pc lv (.int i :: .ref a :: rest) H k n := by
  intro p e s m args below meth c locs ls C P L
  exact va_aldq (C := "ArmDuel$Arm") (ws := [(a, .inl (E.2.1 5, N, .inr (.inr (.inr (.inr f)))))]) C.1 C.2.1 (cx_K C) (fun j q hq => by
    match j, hq with
    | 0, hq => cases hq; exact hA
    | j + 1, hq => cases hq) 0 5 rfl rfl hin hd (kk p e s m args below meth c locs ls C P L)
theorem aw_aaldG {N : Nat} {f : Nat → Option Nat} {i : Int32} (hA : at_ E H a (.inl (E.2.1 6, N, .inr (.inr (.inr (.inr f)))))) (hin : vp_in i N) (hd : decode M.2.1 pc = .ok (.aaload, 1)) (kk : aw E M Q (pc + 1) lv (va_rf (f i.toNatClampNeg) :: rest) H k n) : aw E M Q pc lv (.int i :: .ref a :: rest) H k n := by
  intro p e s m args below meth c locs ls C P L
  exact va_aldq (C := "ArmDuel$Game") (ws := [(a, .inl (E.2.1 6, N, .inr (.inr (.inr (.inr f)))))]) C.1 C.2.1 (cx_K C) (fun j q hq => by
    match j, hq with
    | 0, hq => cases hq; exact hA
    | j + 1, hq => cases hq) 0 6 rfl rfl hin hd (kk p e s m args below meth c locs ls C P L)
theorem aw_aaldS {N : Nat} {f : Nat → Option Nat} {i : Int32} (hA : at_ E H a (.inl (E.2.1 2, N, .inr (.inr (.inr (.inr f)))))) (hin : vp_in i N) (hd : decode M.2.1 pc = .ok (.aaload, 1)) (kk : aw E M Q (pc + 1) lv (va_rf (f i.toNatClampNeg) :: rest) H k n) : aw E M Q pc lv (.int i :: .ref a :: rest) H k n := by
  intro p e s m args below meth c locs ls C P L
  exact va_aldq (C := "java/lang/String") (ws := [(a, .inl (E.2.1 2, N, .inr (.inr (.inr (.inr f)))))]) C.1 C.2.1 (cx_K C) (fun j q hq => by
    match j, hq with
    | 0, hq => cases hq; exact hA
    | j + 1, hq => cases hq) 0 2 rfl rfl hin hd (kk p e s m args below meth c locs ls C P L)
theorem aw_aaldI {N : Nat} {f : Nat → Option Nat} {i : Int32} (hA : at_ E H a (.inl (E.2.1 7, N, .inr (.inr (.inr (.inr f)))))) (hin : vp_in i N) (hd : decode M.2.1 pc = .ok (.aaload, 1)) (kk : aw E M Q (pc + 1) lv (va_rf (f i.toNatClampNeg) :: rest) H k n) : aw E M Q pc lv (.int i :: .ref a :: rest) H k n := by
  intro p e s m args below meth c locs ls C P L
  have hlt : i.toNatClampNeg < N := Nat.not_le.mp fun q => hin (Or.inr q)
  exact W.aald (v := va_rf (f i.toNatClampNeg)) (ty := .array .int) C.1 C.2.1 hA (((cx_K C).2 7 _ rfl).1 N (fun j => va_rf (f j))) rfl (fun q => by cases q) (by show ¬ (i < 0 ∨ (arrV _ _ _).slots.size ≤ _); rw [arrV_size]; exact hin) (by show (arrV _ _ _).slots[_]? = _; rw [arrV_read _ _ hlt]) rfl rfl hd (kk p e s m args below meth c locs ls C P L)
theorem aw_alen {N : Nat} {ci : Nat} {ty : FieldType} {x : va_E} {f : (Nat → Int32) ⊕ (Nat → Int64) ⊕ (Nat → UInt32) ⊕ (Nat → UInt64) ⊕ (Nat → Option Nat)} (ht : (ev_tys E)[ci]? = some (E.2.1 ci, ty)) (hA : at_ E H a (.inl (E.2.1 ci, N, f))) {v : Int32} (hv : Int32.ofNat N = v) (hd : decode M.2.1 pc = .ok (.arraylength, 1)) (kk : aw E M Q (pc + 1) lv (.int v :: rest) H k n) : aw E M Q pc lv (.ref a :: rest) H k n := by
  intro p e s m args below meth c locs ls C P L
  exact va_alen (ws := [(a, .inl (E.2.1 ci, N, f))]) C.1 C.2.1 (cx_K C) (fun j q hq => by
    match j, hq with
    | 0, hq => cases hq; exact hA
    | j + 1, hq => cases hq) 0 ci rfl ht hv hd (kk p e s m args below meth c locs ls C P L)
def up_ {α : Type} (f : Nat → α) (i : Nat) (v : α) : Nat → α := fun j => if j = i then v else f j
theorem aw_iast {N : Nat} {f : Nat → Int32} {i : Int32} {x : Int32} (hA : at_ E H a (.inl (E.2.1 0, N, .inl f))) (hfr : ev_fr E a) (hin : vp_in i N) (hd : decode M.2.1 pc = .ok (.iastore, 1)) (kk : ∀ H1 : Heap, at_ E H1 a (.inl (E.2.1 0, N, .inl (up_ f i.toNatClampNeg x))) → sm1 H H1 a → aw E M Q (pc + 1) lv rest H1 k n) : aw E M Q pc lv (.int x :: .int i :: .ref a :: rest) H k n := by
  intro p e s m args below meth c locs ls C P L
  refine W.iast C.1 C.2.1 hA (((cx_K C).2 0 _ rfl).1 N (fun j => .int (f j))) (fun q => by cases q) (by show ¬ (i < 0 ∨ (arrV _ _ _).slots.size ≤ _); rw [arrV_size]; exact hin) rfl rfl hd fun H1 e1 z oq => ?_
  refine kk H1 ?_ ⟨z, oq⟩ p e s m args below meth c _ ls C (P.put ⟨z, oq⟩ hfr) L
  show H1[a]? = some (vp_cell _ _)
  rw [e1]
  rw [vp_cell_i, vp_cell_i, arrV_store]
  congr 2
  funext q
  by_cases hq : q = i.toNatClampNeg
  · subst hq
    simp [updV, up_]
  · simp [updV, up_, hq]
theorem aw_bast {N : Nat} {f : Nat → Int32} {i : Int32} {x y : Int32} (hxy : vp_nar .byte x = y) (hA : at_ E H a (.inl (E.2.1 1, N, .inl f))) (hfr : ev_fr E a) (hin : vp_in i N) (hd : decode M.2.1 pc = .ok (.bastore, 1)) (kk : ∀ H1 : Heap, at_ E H1 a (.inl (E.2.1 1, N, .inl (up_ f i.toNatClampNeg y))) → sm1 H H1 a → aw E M Q (pc + 1) lv rest H1 k n) : aw E M Q pc lv (.int x :: .int i :: .ref a :: rest) H k n := by
  intro p e s m args below meth c locs ls C P L
  refine W.bast C.1 C.2.1 hA (((cx_K C).2 1 _ rfl).1 N (fun j => .int (f j))) (fun q => by cases q) (by show ¬ (i < 0 ∨ (arrV _ _ _).slots.size ≤ _); rw [arrV_size]; exact hin) rfl rfl hd fun H1 e1 z oq => ?_
  refine kk H1 ?_ ⟨z, oq⟩ p e s m args below meth c _ ls C (P.put ⟨z, oq⟩ hfr) L
  show H1[a]? = some (vp_cell _ _)
  rw [e1]
  rw [vp_cell_i, vp_cell_i, arrV_store]
  congr 2
  funext q
  subst hxy
  by_cases hq : q = i.toNatClampNeg
  · subst hq
    simp [updV, up_, vp_nar, narrow]
  · simp [updV, up_, hq]
theorem aw_if_eq {x : Int32} {off : Int} (tgt : Nat) (ht : (pc : Int) + off = (tgt : Int)) (hd : decode M.2.1 pc = .ok (.ifCond .eq off, 3)) (kt : x = 0 → aw E M Q tgt lv rest H k n) (kf : ¬ x = 0 → aw E M Q (pc + 3) lv rest H k n) : aw E M Q pc lv (.int x :: rest) H k n :=
  fun p e s m args below meth c locs ls C P L => lv_if_eq C.1 C.2.1 hd ht (fun h => kt h p e s m args below meth c locs ls C P L) (fun h => kf h p e s m args below meth c locs ls C P L)
theorem aw_ic_eq {x y : Int32} {off : Int} (tgt : Nat) (ht : (pc : Int) + off = (tgt : Int)) (hd : decode M.2.1 pc = .ok (.if_icmp .eq off, 3)) (kt : x = y → aw E M Q tgt lv rest H k n) (kf : ¬ x = y → aw E M Q (pc + 3) lv rest H k n) : aw E M Q pc lv (.int y :: .int x :: rest) H k n :=
  fun p e s m args below meth c locs ls C P L => lv_icmp_eq C.1 C.2.1 hd ht (fun h => kt h p e s m args below meth c locs ls C P L) (fun h => kf h p e s m args below meth c locs ls C P L)
theorem aw_if_ne {x : Int32} {off : Int} (tgt : Nat) (ht : (pc : Int) + off = (tgt : Int)) (hd : decode M.2.1 pc = .ok (.ifCond .ne off, 3)) (kt : ¬ x = 0 → aw E M Q tgt lv rest H k n) (kf : x = 0 → aw E M Q (pc + 3) lv rest H k n) : aw E M Q pc lv (.int x :: rest) H k n :=
  fun p e s m args below meth c locs ls C P L => lv_if_ne C.1 C.2.1 hd ht (fun h => kt h p e s m args below meth c locs ls C P L) (fun h => kf h p e s m args below meth c locs ls C P L)
theorem aw_ic_ne {x y : Int32} {off : Int} (tgt : Nat) (ht : (pc : Int) + off = (tgt : Int)) (hd : decode M.2.1 pc = .ok (.if_icmp .ne off, 3)) (kt : ¬ x = y → aw E M Q tgt lv rest H k n) (kf : x = y → aw E M Q (pc + 3) lv rest H k n) : aw E M Q pc lv (.int y :: .int x :: rest) H k n :=
  fun p e s m args below meth c locs ls C P L => lv_icmp_ne C.1 C.2.1 hd ht (fun h => kt h p e s m args below meth c locs ls C P L) (fun h => kf h p e s m args below meth c locs ls C P L)
theorem aw_if_lt {x : Int32} {off : Int} (tgt : Nat) (ht : (pc : Int) + off = (tgt : Int)) (hd : decode M.2.1 pc = .ok (.ifCond .lt off, 3)) (kt : x < 0 → aw E M Q tgt lv rest H k n) (kf : ¬ x < 0 → aw E M Q (pc + 3) lv rest H k n) : aw E M Q pc lv (.int x :: rest) H k n :=
  fun p e s m args below meth c locs ls C P L => lv_if_lt C.1 C.2.1 hd ht (fun h => kt h p e s m args below meth c locs ls C P L) (fun h => kf h p e s m args below meth c locs ls C P L)
theorem aw_ic_lt {x y : Int32} {off : Int} (tgt : Nat) (ht : (pc : Int) + off = (tgt : Int)) (hd : decode M.2.1 pc = .ok (.if_icmp .lt off, 3)) (kt : x < y → aw E M Q tgt lv rest H k n) (kf : ¬ x < y → aw E M Q (pc + 3) lv rest H k n) : aw E M Q pc lv (.int y :: .int x :: rest) H k n :=
  fun p e s m args below meth c locs ls C P L => lv_icmp_lt C.1 C.2.1 hd ht (fun h => kt h p e s m args below meth c locs ls C P L) (fun h => kf h p e s m args below meth c locs ls C P L)
theorem aw_if_ge {x : Int32} {off : Int} (tgt : Nat) (ht : (pc : Int) + off = (tgt : Int)) (hd : decode M.2.1 pc = .ok (.ifCond .ge off, 3)) (kt : 0 ≤ x → aw E M Q tgt lv rest H k n) (kf : ¬ 0 ≤ x → aw E M Q (pc + 3) lv rest H k n) : aw E M Q pc lv (.int x :: rest) H k n :=
  fun p e s m args below meth c locs ls C P L => lv_if_ge C.1 C.2.1 hd ht (fun h => kt h p e s m args below meth c locs ls C P L) (fun h => kf h p e s m args below meth c locs ls C P L)
theorem aw_ic_ge {x y : Int32} {off : Int} (tgt : Nat) (ht : (pc : Int) + off = (tgt : Int)) (hd : decode M.2.1 pc = .ok (.if_icmp .ge off, 3)) (kt : y ≤ x → aw E M Q tgt lv rest H k n) (kf : ¬ y ≤ x → aw E M Q (pc + 3) lv rest H k n) : aw E M Q pc lv (.int y :: .int x :: rest) H k n :=
  fun p e s m args below meth c locs ls C P L => lv_icmp_ge C.1 C.2.1 hd ht (fun h => kt h p e s m args below meth c locs ls C P L) (fun h => kf h p e s m args below meth c locs ls C P L)
theorem aw_if_gt {x : Int32} {off : Int} (tgt : Nat) (ht : (pc : Int) + off = (tgt : Int)) (hd : decode M.2.1 pc = .ok (.ifCond .gt off, 3)) (kt : 0 < x → aw E M Q tgt lv rest H k n) (kf : ¬ 0 < x → aw E M Q (pc + 3) lv rest H k n) : aw E M Q pc lv (.int x :: rest) H k n :=
  fun p e s m args below meth c locs ls C P L => lv_if_gt C.1 C.2.1 hd ht (fun h => kt h p e s m args below meth c locs ls C P L) (fun h => kf h p e s m args below meth c locs ls C P L)
theorem aw_ic_gt {x y : Int32} {off : Int} (tgt : Nat) (ht : (pc : Int) + off = (tgt : Int)) (hd : decode M.2.1 pc = .ok (.if_icmp .gt off, 3)) (kt : y < x → aw E M Q tgt lv rest H k n) (kf : ¬ y < x → aw E M Q (pc + 3) lv rest H k n) : aw E M Q pc lv (.int y :: .int x :: rest) H k n :=
  fun p e s m args below meth c locs ls C P L => lv_icmp_gt C.1 C.2.1 hd ht (fun h => kt h p e s m args below meth c locs ls C P L) (fun h => kf h p e s m args below meth c locs ls C P L)
theorem aw_if_le {x : Int32} {off : Int} (tgt : Nat) (ht : (pc : Int) + off = (tgt : Int)) (hd : decode M.2.1 pc = .ok (.ifCond .le off, 3)) (kt : x ≤ 0 → aw E M Q tgt lv rest H k n) (kf : ¬ x ≤ 0 → aw E M Q (pc + 3) lv rest H k n) : aw E M Q pc lv (.int x :: rest) H k n :=
  fun p e s m args below meth c locs ls C P L => lv_if_le C.1 C.2.1 hd ht (fun h => kt h p e s m args below meth c locs ls C P L) (fun h => kf h p e s m args below meth c locs ls C P L)
theorem aw_ic_le {x y : Int32} {off : Int} (tgt : Nat) (ht : (pc : Int) + off = (tgt : Int)) (hd : decode M.2.1 pc = .ok (.if_icmp .le off, 3)) (kt : x ≤ y → aw E M Q tgt lv rest H k n) (kf : ¬ x ≤ y → aw E M Q (pc + 3) lv rest H k n) : aw E M Q pc lv (.int y :: .int x :: rest) H k n :=
  fun p e s m args below meth c locs ls C P L => lv_icmp_le C.1 C.2.1 hd ht (fun h => kt h p e s m args below meth c locs ls C P L) (fun h => kf h p e s m args below meth c locs ls C P L)
theorem aw_ifnonnull {off : Int} {x : Nat} (tgt : Nat) (ht : (pc : Int) + off = (tgt : Int)) (hd : decode M.2.1 pc = .ok (.ifnonnull off, 3)) (kt : aw E M Q tgt lv rest H k n) : aw E M Q pc lv (.ref x :: rest) H k n :=
  fun p e s m args below meth c locs ls C P L => lv_ifnonnull C.1 C.2.1 hd ht (kt p e s m args below meth c locs ls C P L)
theorem aw_ifnonnullN {off : Int} (hd : decode M.2.1 pc = .ok (.ifnonnull off, 3)) (kt : aw E M Q (pc + 3) lv rest H k n) : aw E M Q pc lv (.null :: rest) H k n :=
  fun p e s m args below meth c locs ls C P L => lv_ifnonnullN C.1 C.2.1 hd (kt p e s m args below meth c locs ls C P L)
theorem aw_tsw {dflt lo hi : Int} {offs : Array Int} {len : Nat} {x : Int32} (hd : decode M.2.1 pc = .ok (.tableswitch dflt lo hi offs, len)) (tgt : Nat) (ht : (pc : Int) + dflt = (tgt : Int)) (ko : (x.toInt < lo ∨ hi < x.toInt) → aw E M Q tgt lv rest H k n) (ki : ¬ (x.toInt < lo ∨ hi < x.toInt) → ∃ (off : Int) (t : Nat), offs[(x.toInt - lo).toNat]? = some off ∧ (pc : Int) + off = (t : Int) ∧ aw E M Q t lv rest H k n) : aw E M Q pc lv (.int x :: rest) H k n := by
  intro p e s m args below meth c locs ls C P L
  by_cases h : x.toInt < lo ∨ hi < x.toInt
  · exact lv_tableOut C.1 C.2.1 hd h ht (ko h p e s m args below meth c locs ls C P L)
  · obtain ⟨off, t, h1, h2, h3⟩ := ki h
    exact lv_tableIn C.1 C.2.1 hd (fun q => h (Or.inl q)) (fun q => h (Or.inr q)) h1 h2 (h3 p e s m args below meth c locs ls C P L)
theorem aw_irem {x y : Int32} (hne : ¬ y = 0) (hd : decode M.2.1 pc = .ok (.irem, 1)) (kk : aw E M Q (pc + 1) lv (.int (x - x / y * y) :: rest) H k n) : aw E M Q pc lv (.int y :: .int x :: rest) H k n :=
  fun p e s m args below meth c locs ls C P L => lv_irem C.1 C.2.1 hd hne (kk p e s m args below meth c locs ls C P L)
theorem aw_ldiv {x y : Int64} (hne : ¬ y = 0) (hd : decode M.2.1 pc = .ok (.ldiv, 1)) (kk : aw E M Q (pc + 1) lv (.long (x / y) :: rest) H k n) : aw E M Q pc lv (.long y :: .long x :: rest) H k n :=
  fun p e s m args below meth c locs ls C P L => lv_ldiv C.1 C.2.1 hd hne (kk p e s m args below meth c locs ls C P L)
theorem aw_lrem {x y : Int64} (hne : ¬ y = 0) (hd : decode M.2.1 pc = .ok (.lrem, 1)) (kk : aw E M Q (pc + 1) lv (.long (x - x / y * y) :: rest) H k n) : aw E M Q pc lv (.long y :: .long x :: rest) H k n :=
  fun p e s m args below meth c locs ls C P L => lv_lrem C.1 C.2.1 hd hne (kk p e s m args below meth c locs ls C P L)
theorem aw_ddiv {x y : UInt64} (hne : vf_n64 (FP.ddiv x y)) (hd : decode M.2.1 pc = .ok (.ddiv, 1)) (kk : aw E M Q (pc + 1) lv (.double (FP.ddiv x y) :: rest) H k n) : aw E M Q pc lv (.double y :: .double x :: rest) H k n :=
  fun p e s m args below meth c locs ls C P L => lv_ddiv C.1 C.2.1 hd hne (kk p e s m args below meth c locs ls C P L)
theorem aw_fdiv {x y : UInt32} (hne : vf_n32 (FP.fdiv x y)) (hd : decode M.2.1 pc = .ok (.fdiv, 1)) (kk : aw E M Q (pc + 1) lv (.float (FP.fdiv x y) :: rest) H k n) : aw E M Q pc lv (.float y :: .float x :: rest) H k n :=
  fun p e s m args below meth c locs ls C P L => lv_fdiv C.1 C.2.1 hd hne (kk p e s m args below meth c locs ls C P L)
theorem aw_f2d {x : UInt32} (hne : vf_n64 (FP.f2d x)) (hd : decode M.2.1 pc = .ok (.f2d, 1)) (kk : aw E M Q (pc + 1) lv (.double (FP.f2d x) :: rest) H k n) : aw E M Q pc lv (.float x :: rest) H k n :=
  fun p e s m args below meth c locs ls C P L => lv_f2d C.1 C.2.1 hd hne (kk p e s m args below meth c locs ls C P L)
theorem aw_dc0 (hd : decode M.2.1 pc = .ok (.dconst 0, 1)) (kk : aw E M Q (pc + 1) lv (.double FP.dconst0 :: rest) H k n) : aw E M Q pc lv rest H k n :=
  fun p e s m args below meth c locs ls C P L => lv_dconst0 C.1 C.2.1 hd (kk p e s m args below meth c locs ls C P L)
theorem aw_fc0 (hd : decode M.2.1 pc = .ok (.fconst 0, 1)) (kk : aw E M Q (pc + 1) lv (.float FP.fconst0 :: rest) H k n) : aw E M Q pc lv rest H k n :=
  fun p e s m args below meth c locs ls C P L => lv_fconst0 C.1 C.2.1 hd (kk p e s m args below meth c locs ls C P L)
theorem aw_ldc {idx : Nat} {v : Int32} (hw : Cond.constant M.1.cls idx v ∈ uw_) (hd : decode M.2.1 pc = .ok (.ldc idx, 2)) (kk : aw E M Q (pc + 2) lv (.int v :: rest) H k n) : aw E M Q pc lv rest H k n :=
  fun p e s m args below meth c locs ls C P L => lv_ldc C.1 C.2.1 C.2.2.2.2.1 (C.2.2.2.2.2.1 _ hw) hd (kk p e s m args below meth c locs ls C P L)
theorem aw_ldcw {idx : Nat} {v : Int32} (hw : Cond.constant M.1.cls idx v ∈ uw_) (hd : decode M.2.1 pc = .ok (.ldc_w idx, 3)) (kk : aw E M Q (pc + 3) lv (.int v :: rest) H k n) : aw E M Q pc lv rest H k n :=
  fun p e s m args below meth c locs ls C P L => lv_ldcw C.1 C.2.1 C.2.2.2.2.1 (C.2.2.2.2.2.1 _ hw) hd (kk p e s m args below meth c locs ls C P L)
theorem aw_ldc2 {idx : Nat} {v : Int64} (hw : Cond.constantLong M.1.cls idx v ∈ uw_) (hd : decode M.2.1 pc = .ok (.ldc2_w idx, 3)) (kk : aw E M Q (pc + 3) lv (.long v :: rest) H k n) : aw E M Q pc lv rest H k n :=
  fun p e s m args below meth c locs ls C P L => lv_ldc2 C.1 C.2.1 C.2.2.2.2.1 (C.2.2.2.2.2.1 _ hw) hd (kk p e s m args below meth c locs ls C P L)
/-! ends -/
theorem aw_fin {s : State} {locs : List Loc} {r : Option Value} {t : State} (P : hp_ E s H locs) (hq : Q (.inl r) H) (ht : t.heap = H) {args : Array Value} : aw_Q E Q args s (.returned r) t := ⟨r, rfl, by rw [ht]; exact hq, by rw [ht]; exact P.1, by rw [ht]; exact P.2.1⟩
theorem aw_iret {x : Int32} (hr : M.2.2.2.1 = some .int) (hk : k ≤ (mt_R M).cells) (hn : n ≤ (mt_R M).slots) (hd : decode M.2.1 pc = .ok (.ireturn, 1)) (hq : Q (.inl (some (.int x))) H) : aw E M Q pc lv [.int x] H k n := by
  intro p e s m args below meth c locs ls C P L
  refine W.widen hk hn (vx_ret ?_)
  exact W.iret C.1 C.2.1 (C.2.2.1.trans hr) (fun t ht hW => aw_fin P hq ht) P.2.2 hd C.2.2.2.2.2.2.1
theorem aw_lret {x : Int64} (hr : M.2.2.2.1 = some .long) (hk : k ≤ (mt_R M).cells) (hn : n ≤ (mt_R M).slots) (hd : decode M.2.1 pc = .ok (.lreturn, 1)) (hq : Q (.inl (some (.long x))) H) : aw E M Q pc lv [.long x] H k n := by
  intro p e s m args below meth c locs ls C P L
  refine W.widen hk hn (vx_ret ?_)
  exact W.lret C.1 C.2.1 (C.2.2.1.trans hr) (fun t ht hW => aw_fin P hq ht) P.2.2 hd C.2.2.2.2.2.2.1
theorem aw_dret {x : UInt64} (hr : M.2.2.2.1 = some .double) (hk : k ≤ (mt_R M).cells) (hn : n ≤ (mt_R M).slots) (hd : decode M.2.1 pc = .ok (.dreturn, 1)) (hq : Q (.inl (some (.double x))) H) : aw E M Q pc lv [.double x] H k n := by
  intro p e s m args below meth c locs ls C P L
  refine W.widen hk hn (vx_ret ?_)
  exact W.dret C.1 C.2.1 (C.2.2.1.trans hr) (fun t ht hW => aw_fin P hq ht) P.2.2 hd C.2.2.2.2.2.2.1
theorem aw_fret {x : UInt32} (hr : M.2.2.2.1 = some .float) (hk : k ≤ (mt_R M).cells) (hn : n ≤ (mt_R M).slots) (hd : decode M.2.1 pc = .ok (.freturn, 1)) (hq : Q (.inl (some (.float x))) H) : aw E M Q pc lv [.float x] H k n := by
  intro p e s m args below meth c locs ls C P L
  refine W.widen hk hn (vx_ret ?_)
  exact W.fret C.1 C.2.1 (C.2.2.1.trans hr) (fun t ht hW => aw_fin P hq ht) P.2.2 hd C.2.2.2.2.2.2.1
theorem aw_zret {x : Int32} (hr : M.2.2.2.1 = some .boolean) (hz : narrow .boolean (.int x) = .int x) (hk : k ≤ (mt_R M).cells) (hn : n ≤ (mt_R M).slots) (hd : decode M.2.1 pc = .ok (.ireturn, 1)) (hq : Q (.inl (some (.int x))) H) : aw E M Q pc lv [.int x] H k n := by
  intro p e s m args below meth c locs ls C P L
  refine W.widen hk hn (vx_ret ?_)
  exact W.zret C.1 C.2.1 (C.2.2.1.trans hr) hz (fun t ht hW => aw_fin P hq ht) P.2.2 hd C.2.2.2.2.2.2.1
theorem aw_vret (hr : M.2.2.2.1 = none) (hk : k ≤ (mt_R M).cells) (hn : n ≤ (mt_R M).slots) (hd : decode M.2.1 pc = .ok (.return_, 1)) (hq : Q (.inl none) H) : aw E M Q pc lv [] H k n := by
  intro p e s m args below meth c locs ls C P L
  refine W.widen hk hn (vx_ret ?_)
  exact W.vret C.1 C.2.1 (C.2.2.1.trans hr) (fun t ht hW => aw_fin P hq ht) P.2.2 hd C.2.2.2.2.2.2.1
theorem aw_aret {x : Nat} {C0 : String} (hr : M.2.2.2.1 = some (.object C0)) (hk : k ≤ (mt_R M).cells) (hn : n ≤ (mt_R M).slots) (hd : decode M.2.1 pc = .ok (.areturn, 1)) (hq : Q (.inl (some (.ref x))) H) : aw E M Q pc lv [.ref x] H k n := by
  intro p e s m args below meth c locs ls C P L
  refine W.widen hk hn (vx_ret ?_)
  exact W.aret C.1 C.2.1 (C.2.2.1.trans hr) (Or.inl ⟨_, rfl⟩) (Or.inr ⟨_, rfl⟩) (fun t ht hW => aw_fin P hq ht) P.2.2 hd C.2.2.2.2.2.2.1
end AR
end
section
/-! rows of 'aw': calls of own methods (returning or throwing), Math, throws -/
section AC
variable {E : ev_} {M : mt_} {Q : po_} {pc : Nat} {lv : List (Nat × Value)} {rest : List Value} {H : Heap} {k n : Nat} {a : Nat}
theorem uw_ws {y : MethodName} {cc : ByteArray} {nL : Nat} {ret : Option FieldType} (hc : Cond.code y cc nL ret ∈ uw_) : GoodIn uw_ (.code y cc nL ret :: uw_) := fun w hw => by
  rcases List.mem_cons.mp hw with e | h
  · rw [e]; exact ⟨hc, uw_good _ hc⟩
  · exact ⟨h, uw_good _ h⟩
/-- a method that can be called: its words -/
def cok_ (M' : mt_) : Prop := Cond.code M'.1 M'.2.1 M'.2.2.1 M'.2.2.2.1 ∈ uw_ ∧ Cond.initialized M'.1.cls ∈ uw_ ∧ (M'.1.cls ≠ "java/lang/invoke/MethodHandle" ∧ M'.1.cls ≠ "java/lang/invoke/VarHandle")
def cokV_ (M' : mt_) : Prop := cok_ M' ∧ Cond.instanceMethod M'.1 ∈ uw_ ∧ Cond.selects M'.1.cls M'.1 M'.1 ∈ uw_
def cokS_ (M' : mt_) : Prop := cok_ M' ∧ Cond.static M'.1 ∈ uw_
def cokI_ (M' : mt_) : Prop := cok_ M' ∧ Cond.instanceMethod M'.1 ∈ uw_ ∧ M'.1.name = "<init>"
/-- the callee's room fits into ours -/
def rok_ (M M' : mt_) : Bool := Nat.ble ((mt_R M').frames + 1) (mt_R M).frames && Nat.ble (8 + (M'.2.2.1 + 11) + (mt_R M').locals) (mt_R M).locals
abbrev nok_ (M' : mt_) (j : Nat) : Prop := (parseMethodDescriptor M'.1.desc).map (fun d => d.parameters.length) = some j
theorem callB_aw {M' : mt_} {idx j : Nat} (hc : cok_ M') (hR : rok_ M M' = true) (hn : nok_ M' j) (hl : Cond.methodLink M.1.cls idx M'.1 ∈ uw_) {p : Program} {s : State} {m : MethodId} {args : Array Value} {meth : Method} {c : Code} (C : cx_ E M p s m args meth c) :
    CallB (mt_R M) s args M.1.cls idx M'.1 M'.2.1 M'.2.2.1 M'.2.2.2.1 (.code M'.1 M'.2.1 M'.2.2.1 M'.2.2.2.1 :: uw_) (mt_R M') (mt_R M').cells (mt_R M').slots j := by
  have hts := C.2.2.2.2.2.1
  unfold rok_ at hR
  rw [Bool.and_eq_true] at hR
  exact callB_of j hts (uw_ws hc.1) rfl rfl rfl (hts _ hc.2.1) (hts _ hl) ⟨hc.2.2.1, hc.2.2.2, hn⟩ ⟨Nat.le_of_ble_eq_true hR.1, Nat.le_of_ble_eq_true hR.2⟩
theorem pre_aw {p : Program} {s : State} {m : MethodId} {args : Array Value} {meth : Method} {c : Code} (C : cx_ E M p s m args meth c) {av : List Value} : FrameBlind (fun v U => v = av.toArray ∧ (ev_s E).WarmedH U.vm ∧ U.heap = H) ∧ ∀ U : State, U.heap = H → s.WarmedH U.vm → (fun (v : Array Value) (U : State) => v = av.toArray ∧ (ev_s E).WarmedH U.vm ∧ U.heap = H) av.toArray U :=
  ⟨fun a U g mk q => q, fun U hU hW => ⟨rfl, State.WarmedH.trans C.2.2.2.2.2.2.2.2.1 hW, hU⟩⟩
theorem hp_.call {s : State} {locs L : List Loc} {H1 : Heap} (P : hp_ E s H locs) (h1 : H.size ≤ H1.size) (h2 : ev_base E H1) (h3 : ∀ z ∈ L, ev_fr E z.base) : hp_ E s H1 (locs ++ L) :=
  ⟨Nat.le_trans P.1 h1, h2, fun z hz => (List.mem_append.mp hz).elim (P.2.2 z) (h3 z)⟩
/-- behind a call: it goes on, or the throw leaves this method too -/
theorem run_aw {M' : mt_} {Q' : po_} {av : List Value} {st0 : List Value} (htab : M.2.2.2.2.1 = []) {p : Program} {e : Env} {s : State} {m : MethodId} {args : Array Value} {below : List Frame} {meth : Method} {c : Code} {locs : List Loc} {ls : Array Slot}
    (C : cx_ E M p s m args meth c) (P : hp_ E s H locs) (L : lv_has ls M.2.2.1 lv) (hkk : k + (mt_R M').cells ≤ (mt_R M).cells) (hnn : n + (mt_R M').slots ≤ (mt_R M).slots)
    (hr : vx_Run p (ev_l E) e (mt_R M) s m args below meth c H locs k n (mt_R M').cells (mt_R M').slots (F0 m pc ls st0) rest (aw_Q E Q' av.toArray) (aw_X E Q') (ev_fr E))
    (kk : ∀ (r : Option Value) (H1 : Heap), H.size ≤ H1.size → Q' (.inl r) H1 → aw E M Q (pc + 3) lv (r.toList ++ rest) H1 (k + (mt_R M').cells) (n + (mt_R M').slots)) (kx : ∀ (X : String) (H1 : Heap), H.size ≤ H1.size → Q' (.inr X) H1 → Q (.inr X) H1) :
    W p (ev_l E) e (mt_R M) s m args below meth c H locs k n (vx_MQ below (aw_Q E Q) (aw_X E Q) args s (mt_R M).cells (mt_R M).slots (ev_fr E)) (F0 m pc ls st0) := by
  intro T hT X
  rcases hr T hT X with ⟨v, st₀, t, T', L9, h0, X', hL, e1, e2, ⟨r, er, hq, hz, hb⟩, st⟩ | ⟨q, st₀, t, T', L9, E9, ce, h0, X', hL, e1, e2, ⟨hq, hz, hb⟩, hc9, hv9, hcl9, st⟩
  · cases er
    rw [← e1] at hq hb hz
    rw [h0] at hz
    obtain ⟨t2, a1, b1⟩ := kk v T'.heap hz hq p e s m args below meth c (locs ++ L9) ls C (P.call hz hb hL) L T' rfl X'
    exact ⟨t2, st t2 a1, b1⟩
  · rw [← e1] at hq hb hz
    rw [h0] at hz
    have hP1 := P.call hz hb hL
    have hx := vx_out (p := p) (l := ev_l E) (e := e) (R := mt_R M) (s := s) (m := m) (args := args) (below := below) (meth := meth) (c := c) (H := T'.heap) (locs := locs ++ L9) (cells := k + (mt_R M').cells) (slots := n + (mt_R M').slots) (ls := ls) (rest := rest) (pc := pc) (Qc := aw_Q E Q) (XC := aw_X E Q) (free := ev_fr E) (E := E9) (ce := ce) (q := q) (mc := (mt_R M).cells) (ms := (mt_R M).slots)
      (by rw [C.2.2.2.2.2.2.2.1, htab]; exact fun x hx => absurd hx List.not_mem_nil) C.2.2.2.2.2.2.1 (by rw [e1]; exact hc9) hv9 hcl9 (fun t9 ht9 _ => ⟨by rw [ht9]; exact kx E9 _ hz hq, by rw [ht9]; exact hP1.1, by rw [ht9]; exact hP1.2.1⟩) hP1.2.2 hkk hnn
    obtain ⟨t2, a1, b1⟩ := hx T' rfl X'
    exact ⟨t2, st.trans a1, b1⟩
theorem recv_aw {p : Program} {s : State} {m : MethodId} {args : Array Value} {meth : Method} {c : Code} (C : cx_ E M p s m args meth c) {ci : Nat} {fs : List Value} {C0 : String} {T : u_T} {N : Nat} (hA : at_ E H a (.inr (ci, fs))) (hc : vwCl[ci]? = some (C0, T, N)) : ∃ cellB : Cell, H[a]? = some cellB ∧ cellB.vm.isStatics = false ∧ s.vm.findClass C0 = some cellB.cls := by
  obtain ⟨r, hr1, cell, q1, q2, q3, q4⟩ := hA
  have hr : r = (C0, T, N) := Option.some.inj (hr1.symm.trans hc)
  subst hr
  obtain ⟨hS, hfc, kC, hkC, hkind⟩ := (cx_K C).1 ci _ hc
  exact ⟨cell, q1, by rw [q3]; rfl, by rw [q2]; exact hfc⟩
theorem aw_callV {M' : mt_} {Q' : po_} {As : List Value} {idx ci j : Nat} {fs : List Value} {st0 : List Value} (hs : sp_ E M' (.ref a :: As) H Q') (hst : st0 = As.reverse ++ .ref a :: rest) (hc : cokV_ M') (hl : Cond.methodLink M.1.cls idx M'.1 ∈ uw_) (hA : at_ E H a (.inr (ci, fs))) (hci : ∃ T N, vwCl[ci]? = some (M'.1.cls, T, N)) (hn : nok_ M' j) (hj : As.length = j) (hR : rok_ M M' = true) (htab : M.2.2.2.2.1 = []) (hroom : (rest.map fun v => v.category).sum ≤ 8) (hkk : k + (mt_R M').cells ≤ (mt_R M).cells) (hnn : n + (mt_R M').slots ≤ (mt_R M).slots) (hd : decode M.2.1 pc = .ok (.invokevirtual idx, 3))
    (kk : ∀ (r : Option Value) (H1 : Heap), H.size ≤ H1.size → Q' (.inl r) H1 → aw E M Q (pc + 3) lv (r.toList ++ rest) H1 (k + (mt_R M').cells) (n + (mt_R M').slots)) (kx : ∀ (X : String) (H1 : Heap), H.size ≤ H1.size → Q' (.inr X) H1 → Q (.inr X) H1) : aw E M Q pc lv st0 H k n := by
  intro p e s m args below meth c locs ls C P L
  obtain ⟨T, N, hci⟩ := hci
  subst hst
  have hts := C.2.2.2.2.2.1
  refine run_aw (M' := M') (Q' := Q') (av := .ref a :: As) htab C P L hkk hnn ?_ kk kx
  exact vx_runV (C := M'.1.cls) (n := j) (Ts := uw_) ⟨C.1, C.2.1, C.2.2.2.1, C.2.2.2.2.1, hts⟩ (hs C.2.2.2.2.2.2.2.2.2.2.1 P.2.1) ⟨callB_aw hc.1 hR hn hl C, hts _ hc.2.1, hts _ hc.2.2⟩ ⟨(pre_aw C (av := .ref a :: As)).1, recv_aw C hA hci, (pre_aw C (av := .ref a :: As)).2⟩ rfl hj L.1 rfl (lv_room hroom) hd ⟨hkk, hnn⟩
theorem aw_callS {M' : mt_} {Q' : po_} {As : List Value} {idx j : Nat} {st0 : List Value} (hs : sp_ E M' As H Q') (hst : st0 = As.reverse ++ rest) (hc : cokS_ M') (hl : Cond.methodLink M.1.cls idx M'.1 ∈ uw_) (hn : nok_ M' j) (hj : As.length = j) (hR : rok_ M M' = true) (htab : M.2.2.2.2.1 = []) (hroom : (rest.map fun v => v.category).sum ≤ 8) (hkk : k + (mt_R M').cells ≤ (mt_R M).cells) (hnn : n + (mt_R M').slots ≤ (mt_R M).slots) (hd : decode M.2.1 pc = .ok (.invokestatic idx, 3))
    (kk : ∀ (r : Option Value) (H1 : Heap), H.size ≤ H1.size → Q' (.inl r) H1 → aw E M Q (pc + 3) lv (r.toList ++ rest) H1 (k + (mt_R M').cells) (n + (mt_R M').slots)) (kx : ∀ (X : String) (H1 : Heap), H.size ≤ H1.size → Q' (.inr X) H1 → Q (.inr X) H1) : aw E M Q pc lv st0 H k n := by
  intro p e s m args below meth c locs ls C P L
  subst hst
  have hts := C.2.2.2.2.2.1
  refine run_aw (M' := M') (Q' := Q') (av := As) htab C P L hkk hnn ?_ kk kx
  exact vx_runS (n := j) (Ts := uw_) ⟨C.1, C.2.1, C.2.2.2.1, C.2.2.2.2.1, hts⟩ (hs C.2.2.2.2.2.2.2.2.2.2.1 P.2.1) ⟨callB_aw hc.1 hR hn hl C, hts _ hc.2⟩ (pre_aw C) rfl hj L.1 rfl (lv_room hroom) hd ⟨hkk, hnn⟩
theorem aw_mmax {x y : Int32} {idx : Nat} (hw : [Cond.methodLink M.1.cls idx Lib.Math.max.name, Cond.static Lib.Math.max.name, Cond.initialized "java/lang/Math", Cond.code Lib.Math.max.name Lib.Math.max.code 2 (some .int)].all (fun w => decide (w ∈ uw_)) = true) (hf : Nat.ble 1 (mt_R M).frames = true) (hlo : (rest.map fun v => v.category).sum + 13 ≤ (mt_R M).locals) (hk : k ≤ (mt_R M).cells) (hn : n ≤ (mt_R M).slots) (hd : decode M.2.1 pc = .ok (.invokestatic idx, 3)) (kk : aw E M Q (pc + 3) lv (.int (if x < y then y else x) :: rest) H k n) : aw E M Q pc lv (.int y :: .int x :: rest) H k n := by
  intro p e s m args below meth c locs ls C P L
  have hts : ∀ w ∈ _, w ∈ uw_ := fun w h => of_decide_eq_true (List.all_eq_true.mp hw w h)
  have ht := C.2.2.2.2.2.1
  exact va_mmax C.1 C.2.1 (C.2.2.2.1.trans L.1.symm) C.2.2.2.2.1 (ht _ (hts _ List.mem_cons_self)) (ht _ (hts _ (List.mem_cons_of_mem _ List.mem_cons_self))) (ht _ (hts _ (List.mem_cons_of_mem _ (List.mem_cons_of_mem _ List.mem_cons_self)))) (ht _ (hts _ (List.mem_cons_of_mem _ (List.mem_cons_of_mem _ (List.mem_cons_of_mem _ List.mem_cons_self))))) (Nat.le_of_ble_eq_true hf) hlo hk hn hd (kk p e s m args below meth c locs ls C P L)
theorem aw_mmin {x y : Int32} {idx : Nat} (hw : [Cond.methodLink M.1.cls idx Lib.Math.min.name, Cond.static Lib.Math.min.name, Cond.initialized "java/lang/Math", Cond.code Lib.Math.min.name Lib.Math.min.code 2 (some .int)].all (fun w => decide (w ∈ uw_)) = true) (hf : Nat.ble 1 (mt_R M).frames = true) (hlo : (rest.map fun v => v.category).sum + 13 ≤ (mt_R M).locals) (hk : k ≤ (mt_R M).cells) (hn : n ≤ (mt_R M).slots) (hd : decode M.2.1 pc = .ok (.invokestatic idx, 3)) (kk : aw E M Q (pc + 3) lv (.int (if y < x then y else x) :: rest) H k n) : aw E M Q pc lv (.int y :: .int x :: rest) H k n := by
  intro p e s m args below meth c locs ls C P L
  have hts : ∀ w ∈ _, w ∈ uw_ := fun w h => of_decide_eq_true (List.all_eq_true.mp hw w h)
  have ht := C.2.2.2.2.2.1
  exact va_mmin C.1 C.2.1 (C.2.2.2.1.trans L.1.symm) C.2.2.2.2.1 (ht _ (hts _ List.mem_cons_self)) (ht _ (hts _ (List.mem_cons_of_mem _ List.mem_cons_self))) (ht _ (hts _ (List.mem_cons_of_mem _ (List.mem_cons_of_mem _ List.mem_cons_self)))) (ht _ (hts _ (List.mem_cons_of_mem _ (List.mem_cons_of_mem _ (List.mem_cons_of_mem _ List.mem_cons_self))))) (Nat.le_of_ble_eq_true hf) hlo hk hn hd (kk p e s m args below meth c locs ls C P L)
end AC
end
section
/-! states: what the cells of an object hold, ints all; layouts of cells that lie one behind the other -/
abbrev st_ : Type := Nat → Nat → Int32
abbrev ix_ (i : Int32) : Nat := i.toNatClampNeg
def pt_ (s : st_) (o j : Nat) (v : Int32) : st_ := fun q => if q = o then up_ (s o) j v else s q
def sb_ (s : st_) (o : Nat) : st_ := fun q => s (o + q)
def mg_ (s : st_) (o n : Nat) (t : st_) : st_ := fun q => if o ≤ q ∧ q < o + n then t (q - o) else s q
/-- a whole row anew -/
def rw_ (s : st_) (o : Nat) (f : Nat → Int32) : st_ := fun q => if q = o then f else s q
abbrev le_ : Type := ev_ → Nat → (Nat → Int32) → va_E
abbrev ly_ : Type := List le_
def sh_ (k : Nat) (L : ly_) : ly_ := L.map (fun f E a c => f E (a + k) c)
abbrev fs_ : Type := Nat → (Nat → Int32) → List Value
def ob_ (ci : Nat) (fs : fs_) : le_ := fun _ a c => .inr (ci, fs a c)
def ia_ (N : Nat) : le_ := fun E _ c => .inl (E.2.1 0, N, .inl c)
def ba_ (N : Nat) : le_ := fun E _ c => .inl (E.2.1 1, N, .inl c)
def za_ (N : Nat) : le_ := fun E _ c => .inl (E.2.1 2, N, .inl c)
def ra_ (t N st ob : Nat) : le_ := fun E a _ => .inl (E.2.1 t, N, .inr (.inr (.inr (.inr fun k => if k < N then some (a + (st * k + ob)) else none))))
def has_ (E : ev_) (H : Heap) (a : Nat) (L : ly_) (s : st_) : Prop := ∀ (o : Nat) (f : le_), L[o]? = some f → at_ E H (a + o) (f E a (s o))
/-- outside of n cells from a nothing has changed -/
def sm_ (H H1 : Heap) (a n : Nat) : Prop := H.size ≤ H1.size ∧ ∀ q : Nat, q < H.size → (q < a ∨ a + n ≤ q) → H1[q]? = H[q]?
def sub_ (L : ly_) (o : Nat) (L' : ly_) : Prop := ∀ (i : Nat) (f : le_), L'[i]? = some f → L[o + i]? = some (fun E a c => f E (a + o) c)
section SH
variable {E : ev_} {H H1 H2 : Heap} {a b o n m : Nat} {L L' : ly_} {s s' t : st_} {e : va_E}
theorem at_same (h : at_ E H a e) (h1 : H1[a]? = H[a]?) : at_ E H1 a e := by
  unfold at_ va_at at h ⊢
  split at h
  · rw [h1]; exact h
  · obtain ⟨r, q1, q2⟩ := h
    exact ⟨r, q1, q2.kept h1⟩
theorem at_lt (h : at_ E H a e) : a < H.size := by
  have key : ∀ c : Cell, H[a]? = some c → a < H.size := fun c hc => (Array.getElem?_eq_some_iff.mp hc).1
  unfold at_ va_at at h
  split at h
  · exact key _ h
  · obtain ⟨r, q1, c, q2, q3⟩ := h
    exact key _ q2
theorem sm_.rfl' : sm_ H H a n := ⟨Nat.le_refl _, fun _ _ _ => rfl⟩
theorem sm_.step (h : sm_ H H1 a n) (h2 : sm_ H1 H2 b m) (h3 : a ≤ b) (h4 : b + m ≤ a + n) : sm_ H H2 a n :=
  ⟨Nat.le_trans h.1 h2.1, fun q hq ho => (h2.2 q (Nat.lt_of_lt_of_le hq h.1) (ho.elim (fun h5 => Or.inl (Nat.lt_of_lt_of_le h5 h3)) (fun h5 => Or.inr (Nat.le_trans h4 h5)))).trans (h.2 q hq ho)⟩
theorem sm_.step0 (h : sm_ H H1 a n) (h2 : sm_ H1 H2 b 0) : sm_ H H2 a n :=
  ⟨Nat.le_trans h.1 h2.1, fun q hq ho => (h2.2 q (Nat.lt_of_lt_of_le hq h.1) (Nat.lt_or_ge q b)).trans (h.2 q hq ho)⟩
theorem sm_.of1 (h : sm1 H H1 a) : sm_ H H1 a 1 := ⟨Nat.le_of_eq h.1.symm, fun q _ ho => h.2 q (by omega)⟩
theorem has_.kept0 (h : has_ E H a L s) (h2 : sm_ H H1 b 0) : has_ E H1 a L s := fun o f hf => by
  have h3 := h o f hf
  exact at_same h3 (h2.2 _ (at_lt h3) (Nat.lt_or_ge _ b))
theorem has_.kept (h : has_ E H a L s) (h2 : sm_ H H1 b m) (hn : L.length = n) (h3 : a + n ≤ b ∨ b + m ≤ a) : has_ E H1 a L s := fun o f hf => by
  have h4 := h o f hf
  have h5 : o < L.length := (List.getElem?_eq_some_iff.mp hf).1
  exact at_same h4 (h2.2 _ (at_lt h4) (by omega))
theorem sub_of (h : (L.drop o).take L'.length = sh_ o L') : sub_ L o L' := by
  intro i f hf
  have h1 : (sh_ o L')[i]? = some (fun E a c => f E (a + o) c) := by
    unfold sh_
    rw [List.getElem?_map, hf]
    rfl
  rw [← h, List.getElem?_take] at h1
  split at h1
  · rw [List.getElem?_drop] at h1
    exact h1
  · cases h1
theorem has_.sub (h : has_ E H a L s) (hs : sub_ L o L') : has_ E H (a + o) L' (sb_ s o) := by
  intro i f hf
  have := h _ _ (hs i f hf)
  rw [Nat.add_assoc]
  exact this
/-- a part of the cells made anew -/
theorem has_.mg (h : has_ E H a L s) (hs : sub_ L o L') (h1 : has_ E H1 (a + o) L' t) (h2 : sm_ H H1 (a + o) n) (hn : L'.length = n) (he : s' = mg_ s o n t) : has_ E H1 a L s' := by
  subst he
  intro q f hf
  by_cases hq : o ≤ q ∧ q < o + n
  · obtain ⟨i, rfl⟩ : ∃ i, q = o + i := ⟨q - o, by omega⟩
    have hi : i < L'.length := by omega
    have hg : L'[i]? = some L'[i] := List.getElem?_eq_getElem hi
    have h3 := h1 i _ hg
    have h4 := hs i _ hg
    rw [hf] at h4
    have h5 := Option.some.inj h4
    rw [h5]
    show at_ E H1 (a + (o + i)) (L'[i] E (a + o) (mg_ s o n t (o + i)))
    have h6 : mg_ s o n t (o + i) = t i := by
      unfold mg_
      rw [if_pos hq, Nat.add_sub_cancel_left]
    rw [h6, ← Nat.add_assoc]
    exact h3
  · have h3 := h q f hf
    have h6 : mg_ s o n t q = s q := by
      unfold mg_
      rw [if_neg hq]
    rw [h6]
    exact at_same h3 (h2.2 _ (at_lt h3) (by omega))
/-- one cell made anew -/
theorem has_.put {f : le_} {c : Nat → Int32} (h : has_ E H a L s) (hf : L[o]? = some f) (h1 : at_ E H1 (a + o) (f E a c)) (h2 : sm_ H H1 (a + o) 1) (he : s' = rw_ s o c) : has_ E H1 a L s' := by
  subst he
  intro q g hg
  by_cases hq : q = o
  · subst hq
    rw [hf] at hg
    have h5 := Option.some.inj hg
    rw [← h5]
    have h6 : rw_ s q c q = c := by
      unfold rw_
      rw [if_pos rfl]
    rw [h6]
    exact h1
  · have h3 := h q g hg
    have h6 : rw_ s o c q = s q := by
      unfold rw_
      rw [if_neg hq]
    rw [h6]
    exact at_same h3 (h2.2 _ (at_lt h3) (by omega))
theorem pt_rw (s : st_) (o j : Nat) (v : Int32) : pt_ s o j v = rw_ s o (up_ (s o) j v) := rfl
end SH
/-! the rows by layouts -/
/-- at offset o lies an object of class ci -/
abbrev eo_ (L : ly_) (o ci : Nat) (fs : fs_) : Prop := L[o]? = some (fun E a c => ob_ ci fs E (a + o) c)
/-- at offset oa lies an array of references to what lies at st * k + ob -/
def ral_ (L : ly_) (oa t N st ob : Nat) : Prop := ∃ g : Nat → Nat → Option Nat, L[oa]? = some (fun E a _ => .inl (E.2.1 t, N, .inr (.inr (.inr (.inr (g a)))))) ∧ ∀ a k, k < N → g a k = some (a + (st * k + ob))
def ib_ (i : Int32) (N : Nat) : Bool := decide (0 ≤ i) && Nat.blt i.toNatClampNeg N
theorem ib_in {i : Int32} {N : Nat} (h : ib_ i N = true) : vp_in i N := by
  unfold ib_ at h
  rw [Bool.and_eq_true] at h
  have h1 : 0 ≤ i := of_decide_eq_true h.1
  have h2 : i.toNatClampNeg < N := Nat.le_of_ble_eq_true h.2
  intro q
  rcases q with q | q
  · exact absurd q (Int32.not_lt.mpr h1)
  · exact absurd h2 (Nat.not_lt.mpr q)
theorem ib_lt {i : Int32} {N : Nat} (h : ib_ i N = true) : ix_ i < N := by
  unfold ib_ at h
  rw [Bool.and_eq_true] at h
  exact Nat.le_of_ble_eq_true h.2
/-- fields of ints: an assignment -/
def fsp_ (fs : fs_) (j : Nat) : Prop := (∀ a c, Nat.blt j (fs a c).length = true) ∧ ∀ a c v, (fs a c).set j (.int v) = fs a (up_ c j v)
def bd_ {α β : Type} (x : α) (f : α → β) : β := f x
theorem bd_x {α β : Type} {x : α} {f : α → Option β} {y : β} (h : bd_ x f = some y) : ∃ z, z = x ∧ f z = some y := ⟨x, rfl, h⟩
def gd_ {α : Type} (b : Bool) (x : Option α) : Option α := match b with
  | true => x
  | false => none
theorem gd_x {α : Type} {b : Bool} {x : Option α} {y : α} (h : gd_ b x = some y) : b = true ∧ x = some y := by
  cases b with
  | true => exact ⟨rfl, h⟩
  | false => cases h
def bn_ {α β : Type} (x : Option α) (f : α → Option β) : Option β := match x with
  | some a => f a
  | none => none
theorem bn_x {α β : Type} {x : Option α} {f : α → Option β} {y : β} (h : bn_ x f = some y) : ∃ z, x = some z ∧ f z = some y := by
  cases x with
  | some a => exact ⟨a, rfl, h⟩
  | none => cases h
def it_ {α β : Type} (f : α → Option (α ⊕ β)) : Nat → α → Option β
  | 0, _ => none
  | n + 1, v => match f v with
    | none => none
    | some (.inl w) => it_ f n w
    | some (.inr x) => some x
theorem it_0 {α β : Type} {f : α → Option (α ⊕ β)} {v : α} {x : β} (h : it_ f 0 v = some x) : False := by cases h
theorem it_s {α β : Type} {f : α → Option (α ⊕ β)} {n : Nat} {v : α} {x : β} (h : it_ f (n + 1) v = some x) : ∃ y, f v = some y ∧ Sum.elim (fun w => it_ f n w = some x) (fun z => z = x) y := by
  unfold it_ at h
  split at h
  · cases h
  · rename_i w hw
    exact ⟨.inl w, hw, h⟩
  · rename_i z hz
    exact ⟨.inr z, hz, Option.some.inj h⟩
/-- how often a loop may go round -/
def FU_ : Nat := 4294967296
def bz_ (v : Int32) : Bool := decide (v = 0) || decide (v = 1)
theorem bz_n {v : Int32} (h : bz_ v = true) : narrow .boolean (.int v) = .int v := by
  unfold bz_ at h
  rw [Bool.or_eq_true] at h
  rcases h with h | h
  · rw [of_decide_eq_true h]; decide +kernel
  · rw [of_decide_eq_true h]; decide +kernel
def nb_ (x : Int32) : Int32 := vp_nar .byte x
/-- a post: what comes back, and the heap -/
def po1 (rv : Option Value ⊕ String) (P : Heap → Prop) : po_ := fun x H => x = rv ∧ P H
section AL
variable {E : ev_} {M : mt_} {Q : po_} {pc : Nat} {lv : List (Nat × Value)} {rest : List Value} {H : Heap} {k n : Nat} {a o : Nat} {L : ly_} {s s' : st_}
theorem aw_gl (a o : Nat) {L : ly_} {s : st_} {ci j idx : Nat} {fs : fs_} {v : Value} (h : has_ E H a L s) (hL : eo_ L o ci fs) (hf : fok_ M.1.cls idx ci j) (hv : (fs (a + o) (s o))[j]? = some v) (hd : decode M.2.1 pc = .ok (.getfield idx, 3)) (kk : aw E M Q (pc + 3) lv (v :: rest) H k n) : aw E M Q pc lv (.ref (a + o) :: rest) H k n :=
  aw_get hf (h o _ hL) hv hd kk
theorem aw_pl (a o : Nat) {L : ly_} {s s' : st_} {ci j idx : Nat} {fs : fs_} {v : Int32} {ty : FieldType} (h : has_ E H a L s) (hL : eo_ L o ci fs) (hp : fsp_ fs j) (hf : fpk_ M.1.cls idx ci j ty) (hfr : ev_fr E a) (hn : narrow ty (.int v) = .int v) (hfit : fits ty (.int v) = true) (he : s' = pt_ s o j v) (hd : decode M.2.1 pc = .ok (.putfield idx, 3)) (kk : ∀ H1 : Heap, has_ E H1 a L s' → sm_ H H1 (a + o) 1 → aw E M Q (pc + 3) lv rest H1 k n) : aw E M Q pc lv (.int v :: .ref (a + o) :: rest) H k n := by
  refine aw_put hf (h o _ hL) (Nat.le_trans hfr (Nat.le_add_right a o)) hn hfit (hp.1 _ _) hd (fun H1 h1 h2 => kk H1 ?_ (sm_.of1 h2))
  have h1' : at_ E H1 (a + o) (ob_ ci fs E (a + o) (up_ (s o) j v)) := by
    unfold ob_
    rw [← hp.2]
    exact h1
  exact h.put hL h1' (sm_.of1 h2) he
theorem aw_ial (a o : Nat) {L : ly_} {s : st_} {N : Nat} {i : Int32} (h : has_ E H a L s) (hL : L[o]? = some (ia_ N)) (hin : ib_ i N = true) (hd : decode M.2.1 pc = .ok (.iaload, 1)) (kk : aw E M Q (pc + 1) lv (.int (s o (ix_ i)) :: rest) H k n) : aw E M Q pc lv (.int i :: .ref (a + o) :: rest) H k n :=
  aw_iald (h o _ hL) (ib_in hin) hd kk
theorem aw_bal (a o : Nat) {L : ly_} {s : st_} {N : Nat} {i : Int32} (h : has_ E H a L s) (hL : L[o]? = some (ba_ N)) (hin : ib_ i N = true) (hd : decode M.2.1 pc = .ok (.baload, 1)) (kk : aw E M Q (pc + 1) lv (.int (s o (ix_ i)) :: rest) H k n) : aw E M Q pc lv (.int i :: .ref (a + o) :: rest) H k n :=
  aw_bald (h o _ hL) (ib_in hin) hd kk
theorem aw_isl (a o : Nat) {L : ly_} {s s' : st_} {N : Nat} {i x : Int32} (h : has_ E H a L s) (hL : L[o]? = some (ia_ N)) (hfr : ev_fr E a) (hin : ib_ i N = true) (he : s' = pt_ s o (ix_ i) x) (hd : decode M.2.1 pc = .ok (.iastore, 1)) (kk : ∀ H1 : Heap, has_ E H1 a L s' → sm_ H H1 (a + o) 1 → aw E M Q (pc + 1) lv rest H1 k n) : aw E M Q pc lv (.int x :: .int i :: .ref (a + o) :: rest) H k n :=
  aw_iast (h o _ hL) (Nat.le_trans hfr (Nat.le_add_right a o)) (ib_in hin) hd (fun H1 h1 h2 => kk H1 (h.put hL h1 (sm_.of1 h2) he) (sm_.of1 h2))
theorem aw_bsl (a o : Nat) {L : ly_} {s s' : st_} {N : Nat} {i x : Int32} (h : has_ E H a L s) (hL : L[o]? = some (ba_ N)) (hfr : ev_fr E a) (hin : ib_ i N = true) (he : s' = pt_ s o (ix_ i) (nb_ x)) (hd : decode M.2.1 pc = .ok (.bastore, 1)) (kk : ∀ H1 : Heap, has_ E H1 a L s' → sm_ H H1 (a + o) 1 → aw E M Q (pc + 1) lv rest H1 k n) : aw E M Q pc lv (.int x :: .int i :: .ref (a + o) :: rest) H k n :=
  aw_bast rfl (h o _ hL) (Nat.le_trans hfr (Nat.le_add_right a o)) (ib_in hin) hd (fun H1 h1 h2 => kk H1 (h.put hL h1 (sm_.of1 h2) he) (sm_.of1 h2))
theorem aw_rall (a o : Nat) {L : ly_} {s : st_} {N st ob : Nat} {i : Int32} (h : has_ E H a L s) (hL : ral_ L o 5 N st ob) (hin : ib_ i N = true) (hd : decode M.2.1 pc = .ok (.aaload, 1)) (kk : aw E M Q (pc + 1) lv (.ref (a + (st * ix_ i + ob)) :: rest) H k n) : aw E M Q pc lv (.int i :: .ref (a + o) :: rest) H k n := by
  obtain ⟨g, h1, h2⟩ := hL
  refine aw_aaldA (h o _ h1) (ib_in hin) hd ?_
  show aw E M Q (pc + 1) lv (va_rf (g a (ix_ i)) :: rest) H k n
  rw [h2 a _ (ib_lt hin)]
  exact kk
theorem aw_iall (a o : Nat) {L : ly_} {s : st_} {N st ob : Nat} {i : Int32} (h : has_ E H a L s) (hL : ral_ L o 7 N st ob) (hin : ib_ i N = true) (hd : decode M.2.1 pc = .ok (.aaload, 1)) (kk : aw E M Q (pc + 1) lv (.ref (a + (st * ix_ i + ob)) :: rest) H k n) : aw E M Q pc lv (.int i :: .ref (a + o) :: rest) H k n := by
  obtain ⟨g, h1, h2⟩ := hL
  refine aw_aaldI (h o _ h1) (ib_in hin) hd ?_
  show aw E M Q (pc + 1) lv (va_rf (g a (ix_ i)) :: rest) H k n
  rw [h2 a _ (ib_lt hin)]
  exact kk
theorem aw_all (a o : Nat) {L : ly_} {s : st_} {ci N : Nat} {ty : FieldType} {v : Int32} {f : le_} {x : Nat → Nat → (Nat → Int32) → (Nat → Int32) ⊕ (Nat → Int64) ⊕ (Nat → UInt32) ⊕ (Nat → UInt64) ⊕ (Nat → Option Nat)} (h : has_ E H a L s) (hL : L[o]? = some f) (hx : ∀ a c, f E a c = .inl (E.2.1 ci, N, x ci a c)) (ht : (ev_tys E)[ci]? = some (E.2.1 ci, ty)) (hv : Int32.ofNat N = v) (hd : decode M.2.1 pc = .ok (.arraylength, 1)) (kk : aw E M Q (pc + 1) lv (.int v :: rest) H k n) : aw E M Q pc lv (.ref (a + o) :: rest) H k n := by
  have h1 := h o f hL
  rw [hx] at h1
  exact aw_alen (x := f E a (s o)) ht h1 hv hd kk
/-! calls: what comes back is known -/
def c0_ (M' : mt_) : Bool := Nat.beq (mt_R M').cells 0 && Nat.beq (mt_R M').slots 0
theorem c0_x {M' : mt_} (h : c0_ M' = true) : (mt_R M').cells = 0 ∧ (mt_R M').slots = 0 := by
  unfold c0_ at h
  rw [Bool.and_eq_true] at h
  exact ⟨Nat.eq_of_beq_eq_true h.1, Nat.eq_of_beq_eq_true h.2⟩
theorem aw_cv (a o : Nat) {L : ly_} {s : st_} {M' : mt_} {rv : Option Value} {P : Heap → Prop} {As : List Value} {idx ci j : Nat} {fs : fs_} {st0 st1 : List Value} (hs : sp_ E M' (.ref (a + o) :: As) H (po1 (.inl rv) P)) (hst : st0 = As.reverse ++ .ref (a + o) :: rest) (hst1 : rv.toList ++ rest = st1) (hc : cokV_ M') (hl : Cond.methodLink M.1.cls idx M'.1 ∈ uw_) (h : has_ E H a L s) (hL : eo_ L o ci fs) (hci : ∃ T N, vwCl[ci]? = some (M'.1.cls, T, N)) (hn : nok_ M' j) (hj : As.length = j) (hR : (rok_ M M' && c0_ M') = true) (htab : M.2.2.2.2.1 = []) (hroom : (rest.map fun v => v.category).sum ≤ 8) (hkk : k ≤ (mt_R M).cells) (hnn : n ≤ (mt_R M).slots) (hd : decode M.2.1 pc = .ok (.invokevirtual idx, 3))
    (kk : ∀ H1 : Heap, P H1 → aw E M Q (pc + 3) lv st1 H1 k n) : aw E M Q pc lv st0 H k n := by
  rw [Bool.and_eq_true] at hR
  obtain ⟨z1, z2⟩ := c0_x hR.2
  refine aw_callV hs hst hc hl (h o _ hL) hci hn hj hR.1 htab hroom (by rw [z1]; exact hkk) (by rw [z2]; exact hnn) hd (fun r H1 _ hq => ?_) (fun X H1 _ hq => ?_)
  · have e := Sum.inl.inj hq.1
    rw [z1, z2, e, hst1]
    exact kk H1 hq.2
  · cases hq.1
theorem aw_cs {M' : mt_} {rv : Option Value} {P : Heap → Prop} {As : List Value} {idx j : Nat} {st0 st1 : List Value} (hs : sp_ E M' As H (po1 (.inl rv) P)) (hst : st0 = As.reverse ++ rest) (hst1 : rv.toList ++ rest = st1) (hc : cokS_ M') (hl : Cond.methodLink M.1.cls idx M'.1 ∈ uw_) (hn : nok_ M' j) (hj : As.length = j) (hR : (rok_ M M' && c0_ M') = true) (htab : M.2.2.2.2.1 = []) (hroom : (rest.map fun v => v.category).sum ≤ 8) (hkk : k ≤ (mt_R M).cells) (hnn : n ≤ (mt_R M).slots) (hd : decode M.2.1 pc = .ok (.invokestatic idx, 3))
    (kk : ∀ H1 : Heap, P H1 → aw E M Q (pc + 3) lv st1 H1 k n) : aw E M Q pc lv st0 H k n := by
  rw [Bool.and_eq_true] at hR
  obtain ⟨z1, z2⟩ := c0_x hR.2
  refine aw_callS hs hst hc hl hn hj hR.1 htab hroom (by rw [z1]; exact hkk) (by rw [z2]; exact hnn) hd (fun r H1 _ hq => ?_) (fun X H1 _ hq => ?_)
  · have e := Sum.inl.inj hq.1
    rw [z1, z2, e, hst1]
    exact kk H1 hq.2
  · cases hq.1
end AL
end
section
/-! more rows: Math, copies of arrays -/
def ml_ (own : String) (idx : Nat) (y : MethodName) (cc : ByteArray) (nL : Nat) (ret : FieldType) : Prop := Cond.methodLink own idx y ∈ uw_ ∧ Cond.static y ∈ uw_ ∧ Cond.initialized "java/lang/Math" ∈ uw_ ∧ Cond.code y cc nL (some ret) ∈ uw_
section AM
variable {E : ev_} {M : mt_} {Q : po_} {pc : Nat} {lv : List (Nat × Value)} {rest : List Value} {H : Heap} {k n : Nat} {a a0 : Nat}
theorem aw_mx {x y : Int32} {idx : Nat} (hw : ml_ M.1.cls idx Lib.Math.max.name Lib.Math.max.code 2 .int) (hf : Nat.ble 1 (mt_R M).frames = true) (hlo : (rest.map fun v => v.category).sum + 13 ≤ (mt_R M).locals) (hk : k ≤ (mt_R M).cells) (hn : n ≤ (mt_R M).slots) (hd : decode M.2.1 pc = .ok (.invokestatic idx, 3)) (kk : aw E M Q (pc + 3) lv (.int (if x < y then y else x) :: rest) H k n) : aw E M Q pc lv (.int y :: .int x :: rest) H k n := by
  intro p e s m args below meth c locs ls C P L
  have ht := C.2.2.2.2.2.1
  exact va_mmax C.1 C.2.1 (C.2.2.2.1.trans L.1.symm) C.2.2.2.2.1 (ht _ hw.1) (ht _ hw.2.1) (ht _ hw.2.2.1) (ht _ hw.2.2.2) (Nat.le_of_ble_eq_true hf) hlo hk hn hd (kk p e s m args below meth c locs ls C P L)
theorem aw_mn {x y : Int32} {idx : Nat} (hw : ml_ M.1.cls idx Lib.Math.min.name Lib.Math.min.code 2 .int) (hf : Nat.ble 1 (mt_R M).frames = true) (hlo : (rest.map fun v => v.category).sum + 13 ≤ (mt_R M).locals) (hk : k ≤ (mt_R M).cells) (hn : n ≤ (mt_R M).slots) (hd : decode M.2.1 pc = .ok (.invokestatic idx, 3)) (kk : aw E M Q (pc + 3) lv (.int (if y < x then y else x) :: rest) H k n) : aw E M Q pc lv (.int y :: .int x :: rest) H k n := by
  intro p e s m args below meth c locs ls C P L
  have ht := C.2.2.2.2.2.1
  exact va_mmin C.1 C.2.1 (C.2.2.2.1.trans L.1.symm) C.2.2.2.2.1 (ht _ hw.1) (ht _ hw.2.1) (ht _ hw.2.2.1) (ht _ hw.2.2.2) (Nat.le_of_ble_eq_true hf) hlo hk hn hd (kk p e s m args below meth c locs ls C P L)
theorem aw_mab {x : Int32} {idx : Nat} (hw : ml_ M.1.cls idx Lib.Math.abs.name Lib.Math.abs.code 1 .int) (hf : Nat.ble 1 (mt_R M).frames = true) (hlo : (rest.map fun v => v.category).sum + 13 ≤ (mt_R M).locals) (hk : k ≤ (mt_R M).cells) (hn : n ≤ (mt_R M).slots) (hd : decode M.2.1 pc = .ok (.invokestatic idx, 3)) (kk : aw E M Q (pc + 3) lv (.int (if 0 ≤ x then x else 0 - x) :: rest) H k n) : aw E M Q pc lv (.int x :: rest) H k n := by
  intro p e s m args below meth c locs ls C P L
  have ht := C.2.2.2.2.2.1
  exact va_mabs C.1 C.2.1 (C.2.2.2.1.trans L.1.symm) C.2.2.2.2.1 (ht _ hw.1) (ht _ hw.2.1) (ht _ hw.2.2.1) (ht _ hw.2.2.2) (Nat.le_of_ble_eq_true hf) hlo hk hn hd (kk p e s m args below meth c locs ls C P L)
theorem aw_mxl {x y : Int64} {idx : Nat} (hw : ml_ M.1.cls idx Lib.MathLoose.max_long.x Lib.MathLoose.max_long.code 4 .long) (hf : Nat.ble 1 (mt_R M).frames = true) (hlo : (rest.map fun v => v.category).sum + 15 ≤ (mt_R M).locals) (hk : k ≤ (mt_R M).cells) (hn : n ≤ (mt_R M).slots) (hd : decode M.2.1 pc = .ok (.invokestatic idx, 3)) (kk : aw E M Q (pc + 3) lv (.long (if y < x then x else y) :: rest) H k n) : aw E M Q pc lv (.long y :: .long x :: rest) H k n := by
  intro p e s m args below meth c locs ls C P L
  have ht := C.2.2.2.2.2.1
  exact va_mmax_long C.1 C.2.1 (C.2.2.2.1.trans L.1.symm) C.2.2.2.2.1 (ht _ hw.1) (ht _ hw.2.1) (ht _ hw.2.2.1) (ht _ hw.2.2.2) (Nat.le_of_ble_eq_true hf) hlo hk hn hd (kk p e s m args below meth c locs ls C P L)
theorem aw_mnl {x y : Int64} {idx : Nat} (hw : ml_ M.1.cls idx Lib.MathLoose.min_long.x Lib.MathLoose.min_long.code 4 .long) (hf : Nat.ble 1 (mt_R M).frames = true) (hlo : (rest.map fun v => v.category).sum + 15 ≤ (mt_R M).locals) (hk : k ≤ (mt_R M).cells) (hn : n ≤ (mt_R M).slots) (hd : decode M.2.1 pc = .ok (.invokestatic idx, 3)) (kk : aw E M Q (pc + 3) lv (.long (if y < x then y else x) :: rest) H k n) : aw E M Q pc lv (.long y :: .long x :: rest) H k n := by
  intro p e s m args below meth c locs ls C P L
  have ht := C.2.2.2.2.2.1
  exact va_mmin_long C.1 C.2.1 (C.2.2.2.1.trans L.1.symm) C.2.2.2.2.1 (ht _ hw.1) (ht _ hw.2.1) (ht _ hw.2.2.1) (ht _ hw.2.2.2) (Nat.le_of_ble_eq_true hf) hlo hk hn hd (kk p e s m args below meth c locs ls C P L)
/-- System.arraycopy between rows of ints -/
def al_ (own : String) (idx : Nat) : Prop := Cond.methodLink own idx arraycopyName ∈ uw_ ∧ Cond.native arraycopyName ∈ uw_ ∧ Cond.static arraycopyName ∈ uw_ ∧ Cond.initialized "java/lang/System" ∈ uw_
theorem aw_cpi {idx : Nat} {N0 N1 : Nat} {f g : Nat → Int32} {sp dp nn : Int32} (hw : al_ M.1.cls idx) (hA0 : at_ E H a0 (.inl (E.2.1 0, N0, .inl f))) (hA : at_ E H a (.inl (E.2.1 0, N1, .inl g))) (hfr : ev_fr E a) (h1 : ¬ sp < 0) (h2 : ¬ dp < 0) (h3 : ¬ nn < 0) (h4 : sp.toNatClampNeg + nn.toNatClampNeg ≤ N0) (h5 : dp.toNatClampNeg + nn.toNatClampNeg ≤ N1) (hframes : Nat.ble 1 (mt_R M).frames = true) (hlocals : (rest.map fun v => v.category).sum + (nativeFrameWords "java/lang/System" "arraycopy" 5 + 11) ≤ (mt_R M).locals) (hd : decode M.2.1 pc = .ok (.invokestatic idx, 3))
    (kk : ∀ H1 : Heap, at_ E H1 a (.inl (E.2.1 0, N1, .inl (va_cpy f g sp.toNatClampNeg dp.toNatClampNeg nn.toNatClampNeg))) → sm1 H H1 a → aw E M Q (pc + 3) lv rest H1 k n) : aw E M Q pc lv (.int nn :: .int dp :: .ref a :: .int sp :: .ref a0 :: rest) H k n := by
  intro p e s m args below meth c locs ls C P L
  have zz : ∀ z : Int32, ¬ z < 0 → z.toInt = (z.toNatClampNeg : Int) := by
    intro z hz
    have hz0 : (0 : Int) ≤ z.toInt := by
      have := Int32.not_lt.mp hz
      simpa using Int32.le_iff_toInt_le.mp this
    show z.toInt = ((z.toInt.toNat : Nat) : Int)
    omega
  intro T hT X
  have ht := C.2.2.2.2.2.1
  have hc0 : H[a0]? = some (vp_cell (E.2.1 0) (N0, .inl f)) := hA0
  have hc1 : H[a]? = some (vp_cell (E.2.1 0) (N1, .inl g)) := hA
  obtain ⟨-, k0, hk0, cm0, hkk0⟩ := ((cx_K C).2 0 _ rfl).1 N0 (fun j => .int (f j))
  obtain ⟨-, k1, hk1, cm1, hkk1⟩ := ((cx_K C).2 0 _ rfl).1 N1 (fun j => .int (g j))
  obtain ⟨vm', X', step⟩ := X.arraycopy C.1 C.2.2.2.2.1 (ht _ hw.1) (ht _ hw.2.1) (ht _ hw.2.2.1) (ht _ hw.2.2.2) (src := a0) (dst := a) (cs := vp_cell (E.2.1 0) (N0, .inl f)) (cd := vp_cell (E.2.1 0) (N1, .inl g)) (srcPos := sp) (destPos := dp) (n := nn) (by rw [hT]; exact hc0) (by rw [hT]; exact hc1)
    (fun _ h => by cases h) (fun _ h => by cases h) (fun h => by cases h) (fun h => by cases h) hk0 hk1 hkk0 hkk1 rfl h1 h2 h3
    (by rw [zz sp h1, zz nn h3]; show ¬ _ > ((arrV _ N0 (fun j => .int (f j))).slots.size : Int); rw [arrV_size]; omega)
    (by rw [zz dp h2, zz nn h3]; show ¬ _ > ((arrV _ N1 (fun j => .int (g j))).slots.size : Int); rw [arrV_size]; omega)
    (fun vm₁ _ i hi => by
      have e : (vp_cell (E.2.1 0) (N0, .inl f)).slots.getD (sp.toNatClampNeg + i) .null = .int (f (sp.toNatClampNeg + i)) := by
        show (arrV _ N0 (fun j => .int (f j))).slots.getD _ _ = _
        rw [Array.getD_eq_getD_getElem?, arrV_read _ _ (by omega)]
        rfl
      refine ⟨?_, ?_⟩
      · rw [e]
        rfl
      · rw [e]
        exact trivial)
    (g := F0 m pc ls (.int nn :: .int dp :: .ref a :: .int sp :: .ref a0 :: rest)) rfl (by rw [C.2.2.2.1, ← L.1]) (rest := rest) rfl (by rw [C.2.1]; exact hd) (Nat.le_of_ble_eq_true hframes) (by show 2 * 0 + _ + _ ≤ _; omega)
  have e1 : copied (vp_cell (E.2.1 0) (N0, .inl f)) (vp_cell (E.2.1 0) (N1, .inl g)) sp dp nn = vp_cell (E.2.1 0) (N1, .inl (va_cpy f g sp.toNatClampNeg dp.toNatClampNeg nn.toNatClampNeg)) := va_copied (fun z => .int z) (E.2.1 0) (E.2.1 0) f g h4
  rw [e1] at X' step
  have hl : a < H.size := (Array.getElem?_eq_some_iff.mp hc1).1
  have hheap : ((T.setVm vm').setCell a (vp_cell (E.2.1 0) (N1, .inl (va_cpy f g sp.toNatClampNeg dp.toNatClampNeg nn.toNatClampNeg)))).heap = H.setIfInBounds a (vp_cell (E.2.1 0) (N1, .inl (va_cpy f g sp.toNatClampNeg dp.toNatClampNeg nn.toNatClampNeg))) := by rw [← hT]; rfl
  have oq : ∀ q : Nat, q ≠ a → (H.setIfInBounds a (vp_cell (E.2.1 0) (N1, .inl (va_cpy f g sp.toNatClampNeg dp.toNatClampNeg nn.toNatClampNeg))))[q]? = H[q]? := fun q hq => by simp [Array.getElem?_setIfInBounds, Ne.symm hq]
  have hsm : sm1 H (H.setIfInBounds a (vp_cell (E.2.1 0) (N1, .inl (va_cpy f g sp.toNatClampNeg dp.toNatClampNeg nn.toNatClampNeg)))) a := ⟨by simp, oq⟩
  have hP1 : ∀ Lx : List Loc, (∀ z ∈ Lx, z.base = a) → hp_ E s (H.setIfInBounds a (vp_cell (E.2.1 0) (N1, .inl (va_cpy f g sp.toNatClampNeg dp.toNatClampNeg nn.toNatClampNeg)))) (locs ++ Lx) := by
    intro Lx hLx
    refine ⟨by rw [hsm.1]; exact P.1, ⟨by rw [hsm.1]; exact P.2.1.1, fun q hq => ?_⟩, fun z hz => ?_⟩
    · rw [oq q (fun e => by subst e; exact absurd hfr (Nat.not_le.mpr hq))]
      exact P.2.1.2 q hq
    · rcases List.mem_append.mp hz with h | h
      · exact P.2.2 z h
      · rw [hLx z h]
        exact hfr
  obtain ⟨t, a1, b1⟩ := kk _ (show (H.setIfInBounds a _)[a]? = some _ by simp [Array.getElem?_setIfInBounds, hl]) hsm p e s m args below meth c _ ls C (hP1 _ (fun z hz => by obtain ⟨z', -, hz'⟩ := List.mem_map.mp hz; rw [← hz'])) L _ hheap X'
  exact ⟨t, step t a1, b1⟩
/-- by layouts: a whole copy from the start -/
theorem aw_cpl (b ob a oa : Nat) {L L' : ly_} {s s' t : st_} {idx N : Nat} {nn : Int32} (h : has_ E H a L s) (hL : L[oa]? = some (ia_ N)) (h' : has_ E H b L' t) (hL' : L'[ob]? = some (ia_ N)) (hw : al_ M.1.cls idx) (hfr : ev_fr E a) (h3 : ¬ nn < 0) (h4 : nn.toNatClampNeg = N) (he : s' = rw_ s oa (va_cpy (t ob) (s oa) 0 0 N)) (hframes : Nat.ble 1 (mt_R M).frames = true) (hlocals : (rest.map fun v => v.category).sum + (nativeFrameWords "java/lang/System" "arraycopy" 5 + 11) ≤ (mt_R M).locals) (hd : decode M.2.1 pc = .ok (.invokestatic idx, 3))
    (kk : ∀ H1 : Heap, has_ E H1 a L s' → sm_ H H1 (a + oa) 1 → aw E M Q (pc + 3) lv rest H1 k n) : aw E M Q pc lv (.int nn :: .int 0 :: .ref (a + oa) :: .int 0 :: .ref (b + ob) :: rest) H k n := by
  have z : (0 : Int32).toNatClampNeg = 0 := by decide
  have z0 : ¬ (0 : Int32) < 0 := by decide
  refine aw_cpi hw (h' ob _ hL') (h oa _ hL) (Nat.le_trans hfr (Nat.le_add_right a oa)) z0 z0 h3 (by rw [z, h4]; omega) (by rw [z, h4]; omega) hframes hlocals hd (fun H1 h1 h2 => kk H1 (h.put hL ?_ (sm_.of1 h2) he) (sm_.of1 h2))
  rw [z, h4] at h1
  exact h1
end AM
end
section
/-! fields and layouts of the classes; helper rows of 'aw' -/
def fsX0 : fs_ := fun a c => [.int (c 0), .int (c 1), .int (c 2), .ref (a + 1), .ref (a + 2), .int (c 5), .int (c 6), .int (c 7), .int (c 8), .int (c 9), .int (c 10), .int (c 11)]
def fsX1 : fs_ := fun a c => [.ref (a + 1), .ref (a + 5), .ref (a + 8), .ref (a + 11), .ref (a + 12), .ref (a + 13), .ref (a + 14), .int (c 7), .int (c 8), .int (c 9), .int (c 10), .int (c 11), .int (c 12), .int (c 13)]
def fsX2 : fs_ := fun a c => [.ref (a + 1), .ref (a + 34)]
def fsX3 : fs_ := fun a c => [.ref (a + 1), (if c 1 = 1 then .ref (a - 1) else .ref (a + 5)), .int (c 2), .int (c 3), .int (c 4), .int (c 5), .int (c 6)]
def fsX4 : fs_ := fun a c => [.int (c 0), .int (c 1), .ref (a + 1), .ref (a + 9), .ref (a + 10), .ref (a + 11), .ref (a + 12), .ref (a + 13), .ref (a + 20), .int (c 9), .int (c 10), .int (c 11), .int (c 12), .int (c 13)]
def fsX5 : fs_ := fun a c => [.int (c 0), .int (c 1), .int (c 2), .int (c 3), .int (c 4), .ref (a + 1), .ref (a + 2), .int (c 7), .int (c 8), .int (c 9), .int (c 10), .int (c 11), .int (c 12), .ref (a + 3), .int (c 14), .int (c 15), .int (c 16), .int (c 17), .int (c 18)]
def fsX6 : fs_ := fun a c => [.int (c 0), .ref (a + 1), .ref (a + 2)]
def fsX7 : fs_ := fun a c => [.ref (a + 1), .int (c 1), .int (c 2), .ref (a + 2), .ref (a + 8), .ref (a + 83), .ref (a + 116), .ref (a + 119)]
def ly_S : ly_ := [ob_ 5 fsX5, ia_ 6, ia_ 6, ia_ 16]
def ly_A : ly_ := [ob_ 0 fsX0, ia_ 20, ia_ 20]
def ly_D : ly_ := [ob_ 1 fsX1] ++ (sh_ 1 ly_S ++ (sh_ 5 ly_A ++ (sh_ 8 ly_A ++ ([ra_ 5 6 3 15, ia_ 6, ia_ 100, ia_ 100] ++ (sh_ 15 ly_A ++ (sh_ 18 ly_A ++ (sh_ 21 ly_A ++ (sh_ 24 ly_A ++ (sh_ 27 ly_A ++ sh_ 30 ly_A)))))))))
def ly_R : ly_ := [ob_ 4 fsX4, ra_ 7 7 1 2, ia_ 1001, ia_ 1001, ia_ 1001, ia_ 1001, ia_ 1001, ia_ 1001, ia_ 1001, ia_ 1000, ia_ 6, ia_ 6, ia_ 6, ra_ 7 6 1 14, ia_ 6, ia_ 6, ia_ 6, ia_ 6, ia_ 6, ia_ 6, ra_ 7 20 1 21, ia_ 5, ia_ 5, ia_ 5, ia_ 5, ia_ 5, ia_ 5, ia_ 5, ia_ 5, ia_ 5, ia_ 5, ia_ 5, ia_ 5, ia_ 5, ia_ 5, ia_ 5, ia_ 5, ia_ 5, ia_ 5, ia_ 5, ia_ 5]
def ly_G : ly_ := [ob_ 2 fsX2] ++ (sh_ 1 ly_D ++ sh_ 34 ly_R)
def ly_E : ly_ := [ob_ 3 fsX3] ++ (sh_ 1 ly_S ++ [ba_ 0])
def ly_B : ly_ := [ba_ 500] ++ sh_ 1 ly_E
def ly_T : ly_ := [ob_ 6 fsX6, ia_ 9, ia_ 2304]
def ly_M : ly_ := [ob_ 7 fsX7, ba_ 500] ++ (sh_ 2 ly_E ++ (sh_ 8 ly_G ++ (sh_ 83 ly_D ++ sh_ 116 ly_T)))
def ly_I100 : ly_ := [ia_ 100]
theorem wk_of {ws : List Cond} (ps : List Nat) (hp : ws = ps.filterMap (fun i => lw_tbl[i]?)) (hg : ws.all goodWord = true) : ∀ w ∈ ws, w ∈ uw_ := by
  intro w hw
  refine List.mem_filter.mpr ⟨?_, List.all_eq_true.mp hg w hw⟩
  rw [hp] at hw
  obtain ⟨i, _, hi⟩ := List.mem_filterMap.mp hw
  exact List.mem_of_getElem? hi
theorem wkX0 : ∀ w ∈ u_ws RX0 TX0 12, w ∈ uw_ := wk_of [253, 255, 257, 259, 261, 263, 265, 267, 269, 271, 273, 275] (by decide +kernel) (by decide +kernel)
theorem wkX1 : ∀ w ∈ u_ws RX1 TX1 14, w ∈ uw_ := wk_of [307, 309, 311, 313, 315, 317, 319, 321, 323, 325, 327, 329, 331, 333] (by decide +kernel) (by decide +kernel)
theorem wkX2 : ∀ w ∈ u_ws RX2 TX2 2, w ∈ uw_ := wk_of [401, 403] (by decide +kernel) (by decide +kernel)
theorem wkX3 : ∀ w ∈ u_ws RX3 TX3 7, w ∈ uw_ := wk_of [186, 188, 190, 192, 194, 196, 198] (by decide +kernel) (by decide +kernel)
theorem wkX4 : ∀ w ∈ u_ws RX4 TX4 14, w ∈ uw_ := wk_of [368, 370, 372, 374, 376, 378, 380, 382, 384, 386, 388, 390, 392, 394] (by decide +kernel) (by decide +kernel)
theorem wkX5 : ∀ w ∈ u_ws RX5 TX5 19, w ∈ uw_ := wk_of [135, 137, 139, 141, 143, 145, 147, 149, 151, 153, 155, 157, 159, 161, 163, 165, 167, 169, 171] (by decide +kernel) (by decide +kernel)
theorem wkX6 : ∀ w ∈ u_ws RX6 TX6 3, w ∈ uw_ := wk_of [417, 419, 421] (by decide +kernel) (by decide +kernel)
theorem wkX7 : ∀ w ∈ u_ws RX7 TX7 8, w ∈ uw_ := wk_of [473, 475, 477, 479, 481, 483, 485, 487] (by decide +kernel) (by decide +kernel)
def aro_ (r : Nat) : Prop := r = 5 ∨ ∃ k, k < 6 ∧ r = 3 * k + 15
theorem aro_lt {r : Nat} (h : aro_ r) : r + 3 ≤ 33 := by
  rcases h with h | ⟨k, h1, h2⟩ <;> omega
def tx_ (v : Int32) : Bool := decide (v = 1)
theorem tx_ok {a : Nat} {c : Nat → Int32} (h : tx_ (c 1) = true) : (fsX3 (a + 1) c)[1]? = some (.ref a) := by
  have h1 : c 1 = 1 := of_decide_eq_true h
  show some (if c 1 = 1 then Value.ref (a + 1 - 1) else Value.ref (a + 1 + 5)) = _
  rw [if_pos h1]
  rfl
theorem bz_f {v : Int32} (h : bz_ v = true) : fits .boolean (.int v) = true := by
  unfold bz_ at h
  rw [Bool.or_eq_true] at h
  rcases h with h | h
  · rw [of_decide_eq_true h]; decide +kernel
  · rw [of_decide_eq_true h]; decide +kernel
def nz_ (v : Int32) : Bool := decide (¬ v = 0)
theorem nz_x {v : Int32} (h : nz_ v = true) : ¬ v = 0 := of_decide_eq_true h
def nzl_ (v : Int64) : Bool := decide (¬ v = 0)
theorem nzl_x {v : Int64} (h : nzl_ v = true) : ¬ v = 0 := of_decide_eq_true h
section AT
variable {E : ev_} {M : mt_} {Q : po_} {pc : Nat} {lv : List (Nat × Value)} {rest : List Value} {H : Heap} {k n : Nat}
theorem aw_plt (a o : Nat) {L : ly_} {s s' : st_} {idx : Nat} (h : has_ E H a L s) (hL : eo_ L o 3 fsX3) (hf : fpk_ M.1.cls idx 3 1 (.array .byte)) (hfr : ev_fr E a) (ho : o = 1) (he : s' = pt_ s o 1 1) (hd : decode M.2.1 pc = .ok (.putfield idx, 3)) (kk : ∀ H1 : Heap, has_ E H1 a L s' → sm_ H H1 (a + o) 1 → aw E M Q (pc + 3) lv rest H1 k n) : aw E M Q pc lv (.ref a :: .ref (a + o) :: rest) H k n := by
  subst ho
  refine aw_put hf (h 1 _ hL) (Nat.le_trans hfr (Nat.le_add_right a 1)) rfl rfl rfl hd (fun H1 h1 h2 => kk H1 ?_ (sm_.of1 h2))
  have e : (fsX3 (a + 1) (s 1)).set 1 (.ref a) = fsX3 (a + 1) (up_ (s 1) 1 1) := by simp [fsX3, up_]
  have h1' : at_ E H1 (a + 1) (ob_ 3 fsX3 E (a + 1) (up_ (s 1) 1 1)) := by
    unfold ob_
    rw [← e]
    exact h1
  exact h.put hL h1' (sm_.of1 h2) he
/-- a switch: what follows by the values, one behind another -/
def tg_ (E : ev_) (M : mt_) (Q : po_) (x : Int32) (lv : List (Nat × Value)) (rest : List Value) (H : Heap) (k n : Nat) : List (Int32 × Nat) → Nat → Prop
  | [], d => aw E M Q d lv rest H k n
  | q :: r, d => (x = q.1 → aw E M Q q.2 lv rest H k n) ∧ (¬ x = q.1 → tg_ E M Q x lv rest H k n r d)
theorem aw_tg {x v : Int32} {t d : Nat} {r : List (Int32 × Nat)} (h1 : x = v → aw E M Q t lv rest H k n) (h2 : ¬ x = v → tg_ E M Q x lv rest H k n r d) : tg_ E M Q x lv rest H k n ((v, t) :: r) d := ⟨h1, h2⟩
theorem tg_x {x : Int32} {d : Nat} : ∀ {l : List (Int32 × Nat)}, tg_ E M Q x lv rest H k n l d → (∃ q ∈ l, q.1 = x ∧ aw E M Q q.2 lv rest H k n) ∨ ((∀ q ∈ l, ¬ q.1 = x) ∧ aw E M Q d lv rest H k n)
  | [], h => Or.inr ⟨fun q hq => absurd hq List.not_mem_nil, h⟩
  | q :: r, h => by
    by_cases hx : x = q.1
    · exact Or.inl ⟨q, List.mem_cons_self, hx.symm, h.1 hx⟩
    · rcases tg_x (l := r) (h.2 hx) with ⟨z, h1, h2⟩ | ⟨h1, h2⟩
      · exact Or.inl ⟨z, List.mem_cons_of_mem _ h1, h2⟩
      · refine Or.inr ⟨fun z hz => ?_, h2⟩
        rcases List.mem_cons.mp hz with e | hz
        · rw [e]; exact fun e => hx e.symm
        · exact h1 z hz
def tsc_ (pc : Nat) (dflt lo hi : Int) (offs : Array Int) (l : List (Int32 × Nat)) (d : Nat) : Bool :=
  decide ((pc : Int) + dflt = (d : Int)) && decide (hi + 1 = lo + (l.length : Int)) && decide (l.map (fun q => (q.1.toInt, (q.2 : Int))) = (List.range l.length).map (fun (j : Nat) => (lo + (j : Int), (pc : Int) + offs.getD j 0))) && decide (offs.size = l.length)
def tsd_ (cc : ByteArray) (pc : Nat) (l : List (Int32 × Nat)) (d : Nat) : Bool := match decode cc pc with
  | .ok (.tableswitch dflt lo hi offs, _) => tsc_ pc dflt lo hi offs l d
  | _ => false
theorem aw_ts {x : Int32} (l : List (Int32 × Nat)) (d : Nat) (hd : tsd_ M.2.1 pc l d = true) (kk : tg_ E M Q x lv rest H k n l d) : aw E M Q pc lv (.int x :: rest) H k n := by
  unfold tsd_ at hd
  split at hd
  · rename_i dflt lo hi offs len hdec
    unfold tsc_ at hd
    rw [Bool.and_eq_true, Bool.and_eq_true, Bool.and_eq_true] at hd
    obtain ⟨⟨⟨c1, c2⟩, c3⟩, c4⟩ := hd
    have c1 := of_decide_eq_true c1
    have c2 := of_decide_eq_true c2
    have c3 := of_decide_eq_true c3
    have c4 := of_decide_eq_true c4
    have key : ∀ (j : Nat) (q : Int32 × Nat), l[j]? = some q → q.1.toInt = lo + (j : Int) ∧ (q.2 : Int) = (pc : Int) + offs.getD j 0 := by
      intro j q hq
      have hj : j < l.length := (List.getElem?_eq_some_iff.mp hq).1
      have h1 : (l.map (fun q => (q.1.toInt, (q.2 : Int))))[j]? = some (q.1.toInt, (q.2 : Int)) := by rw [List.getElem?_map, hq]; rfl
      rw [c3, List.getElem?_map, List.getElem?_range hj] at h1
      have h2 := Option.some.inj h1
      exact ⟨(congrArg Prod.fst h2).symm, (congrArg Prod.snd h2).symm⟩
    refine aw_tsw hdec d c1 (fun ho => ?_) (fun hin => ?_)
    · rcases tg_x kk with ⟨q, hq, hqx, _⟩ | ⟨_, h2⟩
      · obtain ⟨j, hj, hjq⟩ := List.mem_iff_getElem.mp hq
        have h3 := key j q (by rw [List.getElem?_eq_getElem hj, hjq])
        rw [hqx] at h3
        omega
      · exact h2
    · have hlo : lo ≤ x.toInt := by omega
      have hhi : x.toInt ≤ hi := by omega
      obtain ⟨j, hj⟩ : ∃ j : Nat, x.toInt = lo + (j : Int) := ⟨(x.toInt - lo).toNat, by omega⟩
      have hjl : j < l.length := by omega
      have hoff : offs[(x.toInt - lo).toNat]? = some (offs.getD j 0) := by
        have e : (x.toInt - lo).toNat = j := by omega
        have hjs : j < offs.size := by omega
        rw [e, Array.getElem?_eq_getElem hjs, Array.getD_eq_getD_getElem?, Array.getElem?_eq_getElem hjs]
        rfl
      have hlj := key j _ (List.getElem?_eq_getElem hjl)
      rcases tg_x kk with ⟨q, hq, hqx, h2⟩ | ⟨h1, _⟩
      · obtain ⟨i, hi2, hiq⟩ := List.mem_iff_getElem.mp hq
        have h3 := key i q (by rw [List.getElem?_eq_getElem hi2, hiq])
        have eij : i = j := by rw [hqx] at h3; omega
        subst eij
        exact ⟨_, q.2, hoff, h3.2.symm, h2⟩
      · exact absurd (Int32.toInt_inj.mp (hlj.1.trans hj.symm)) (h1 _ (List.getElem_mem hjl))
  · cases hd
end AT
end
section
/-! answers of methods that may throw: for the mirrors alone -/
def xn_ (c : Nat) : String := match c with
  | 0 => "java/lang/IndexOutOfBoundsException"
  | _ => "java/lang/IllegalArgumentException"
def tb_ {α β : Type} (v : α ⊕ Nat) (f : α → Option β) (g : Nat → Option β) : Option β := match v with
  | .inl x => f x
  | .inr c => g c
theorem tb_i {α β : Type} {v : α ⊕ Nat} {f : α → Option β} {g : Nat → Option β} {x : α} {y : β} (h : v = .inl x) (hm : tb_ v f g = some y) : f x = some y := by subst h; exact hm
theorem tb_e {α β : Type} {v : α ⊕ Nat} {f : α → Option β} {g : Nat → Option β} {x : Nat} {y : β} (h : v = .inr x) (hm : tb_ v f g = some y) : g x = some y := by subst h; exact hm
def sw_ (w : Nat) : Bool := Nat.blt w 37
def sl_ (w : Nat) : Int32 := Int32.ofNat (sb_y w).length
def sch_ (w : Nat) (i : Int32) : Int32 := (sb_y w).getD (ix_ i) 0
def n64_ (r : UInt64) : Bool := decide (r &&& 0x7fffffffffffffff ≤ 0x7ff0000000000000)
theorem n64_x {r : UInt64} (h : n64_ r = true) : vf_n64 r := by
  unfold vf_n64
  exact of_decide_eq_true h
def n32_ (r : UInt32) : Bool := decide (r &&& 0x7fffffff ≤ 0x7f800000)
theorem n32_x {r : UInt32} (h : n32_ r = true) : vf_n32 r := by
  unfold vf_n32
  exact of_decide_eq_true h
end
section
/-! the mirrors of the class: as in the proof of the whole -/
def fX5_becomeDefault (s : st_) : Option (st_) :=
  bd_ (pt_ s 0 0 (10 : Int32)) fun s1 =>
  bd_ (pt_ s1 0 1 (0 : Int32)) fun s5 =>
  bd_ (pt_ s5 0 2 (0 : Int32)) fun s9 =>
  bd_ (pt_ s9 0 3 (1 : Int32)) fun s13 =>
  bd_ (pt_ s13 0 4 (0 : Int32)) fun s17 =>
  bd_ (pt_ s17 0 7 (2 : Int32)) fun s21 =>
  bd_ (pt_ s21 0 8 (0 : Int32)) fun s25 =>
  bd_ (pt_ s25 0 9 (100 : Int32)) fun s29 =>
  bd_ (pt_ s29 0 10 (1 : Int32)) fun s33 =>
  bd_ (pt_ s33 0 11 (0 : Int32)) fun s37 =>
  bd_ (pt_ s37 0 12 (0 : Int32)) fun s41 =>
  bd_ (pt_ s41 0 14 (-1 : Int32)) fun s45 =>
  bd_ (pt_ s45 0 15 (-1 : Int32)) fun s49 =>
  bd_ (pt_ s49 0 16 (-1 : Int32)) fun s53 =>
  bd_ (pt_ s53 0 17 (-1 : Int32)) fun s57 =>
  bd_ (pt_ s57 0 18 (-1 : Int32)) fun s61 =>
  some s61
def fX5_putRule (s : st_) (i0 : Int32) (i1 : Int32) : Option (st_) :=
  if (6 : Int32) ≤ (s 0 4) then (some s)
  else (gd_ (ib_ (s 0 4) 6) <|
  bd_ (pt_ s 1 (ix_ (s 0 4)) i0) fun s2 =>
  gd_ (ib_ (s2 0 4) 6) <|
  bd_ (pt_ s2 2 (ix_ (s2 0 4)) i1) fun s7 =>
  bd_ (pt_ s7 0 4 ((s7 0 4) + (1 : Int32))) fun s11 =>
  some s11)
def fX5_completeRules (s : st_) : Option (st_) :=
  if (s 0 4) = (0 : Int32) then (bn_ (fX5_putRule s (0 : Int32) (-1 : Int32)) fun r1 =>
  some r1)
  else (some s)
def fX5_copyFrom (s : st_) (t : st_) : Option (st_) :=
  bd_ (pt_ s 0 0 (t 0 0)) fun s1 =>
  bd_ (pt_ s1 0 1 (t 0 1)) fun s5 =>
  bd_ (pt_ s5 0 2 (t 0 2)) fun s9 =>
  bd_ (pt_ s9 0 3 (t 0 3)) fun s13 =>
  bd_ (pt_ s13 0 4 (t 0 4)) fun s17 =>
  bd_ (rw_ s17 1 (va_cpy (t 1) (s17 1) 0 0 6)) fun s21 =>
  bd_ (rw_ s21 2 (va_cpy (t 2) (s21 2) 0 0 6)) fun s25 =>
  bd_ (pt_ s25 0 7 (t 0 7)) fun s29 =>
  bd_ (pt_ s29 0 8 (t 0 8)) fun s33 =>
  bd_ (pt_ s33 0 9 (t 0 9)) fun s37 =>
  bd_ (pt_ s37 0 10 (t 0 10)) fun s41 =>
  bd_ (pt_ s41 0 11 (t 0 11)) fun s45 =>
  bd_ (pt_ s45 0 12 (t 0 12)) fun s49 =>
  bd_ (rw_ s49 3 (va_cpy (t 3) (s49 3) 0 0 16)) fun s53 =>
  bd_ (pt_ s53 0 14 (t 0 14)) fun s57 =>
  bd_ (pt_ s57 0 15 (t 0 15)) fun s61 =>
  bd_ (pt_ s61 0 16 (t 0 16)) fun s65 =>
  bd_ (pt_ s65 0 17 (t 0 17)) fun s69 =>
  bd_ (pt_ s69 0 18 (t 0 18)) fun s73 =>
  some s73
def fX5_putAsk (s : st_) (i0 : Int32) : Option (st_) :=
  if (16 : Int32) ≤ (s 0 12) then (some s)
  else (gd_ (ib_ (s 0 12) 16) <|
  bd_ (pt_ s 3 (ix_ (s 0 12)) i0) fun s2 =>
  bd_ (pt_ s2 0 12 ((s2 0 12) + (1 : Int32))) fun s6 =>
  some s6)
def fX5_takeMaster_j16 (s1 : st_) (z1_j16 : Int32) : Option (st_) :=
  bd_ (pt_ s1 0 8 z1_j16) fun s5 =>
  some s5
def fX5_takeMaster (s : st_) (i0 : Int32) (i1 : Int32) : Option (st_) :=
  bd_ (pt_ s 0 7 i0) fun s1 =>
  if i0 = (2 : Int32) then (fX5_takeMaster_j16 s1 i1)
  else (fX5_takeMaster_j16 s1 (-1 : Int32))
def fX5_hasRival (s : st_) : Option (Int32) :=
  if (s 0 14) = (-1 : Int32) then (some (0 : Int32))
  else (some (1 : Int32))
def fX5_hasRule_j16 : Option (Int32) :=
  some (0 : Int32)
def fX5_hasRule (s : st_) (i0 : Int32) : Option (Int32) :=
  if i0 < (0 : Int32) then (fX5_hasRule_j16)
  else (if (s 0 4) ≤ i0 then (fX5_hasRule_j16)
  else (some (1 : Int32)))
def fX5_kindOf (s : st_) (i0 : Int32) : Option (Int32) :=
  bn_ (fX5_hasRule s i0) fun r1 =>
  if r1 = (0 : Int32) then (some (0 : Int32))
  else (gd_ (ib_ i0 6) <|
  some (s 1 (ix_ i0)))
def fX5_widthOf (s : st_) (i0 : Int32) : Option (Int32) :=
  bn_ (fX5_hasRule s i0) fun r1 =>
  if r1 = (0 : Int32) then (some (-1 : Int32))
  else (gd_ (ib_ i0 6) <|
  some (s 2 (ix_ i0)))
def fX5_askAt_j21 : Option (Int32) :=
  some (-1 : Int32)
def fX5_askAt (s : st_) (i0 : Int32) : Option (Int32) :=
  if i0 < (0 : Int32) then (fX5_askAt_j21)
  else (if (s 0 12) ≤ i0 then (fX5_askAt_j21)
  else (gd_ (ib_ i0 16) <|
  some (s 3 (ix_ i0))))
def fX5_priceOf_j31 (s : st_) (z2_j31 : Int32) : Option (Int32) :=
  some ((s 0 2) + ((s 0 3) * z2_j31))
def fX5_priceOf (s : st_) (i0 : Int32) (i1 : Int32) : Option (Int32) :=
  if i0 = i1 then (some (0 : Int32))
  else (if i1 ≤ i0 then (fX5_priceOf_j31 s (i0 - i1))
  else (fX5_priceOf_j31 s (i1 - i0)))
def fX5_boundBehind_x13_37 (s : st_) (v2_x13_37 : Int32) : Option (Int32) :=
  some ((s 0 17) + ((s 0 18) * v2_x13_37))
def fX5_boundBehind_k13 (s : st_) (x : Int32) : Option (Int32) :=
  fX5_boundBehind_x13_37 s x
def fX5_boundBehind_b13 (i0 : Int32) (v2_b13 : Int32) : Option ((Int32) ⊕ (Int32)) :=
  if (1000 : Int32) ≤ v2_b13 then (some (.inr v2_b13))
  else (if i0 < ((v2_b13 + (1 : Int32)) * (v2_b13 + (1 : Int32))) then (some (.inr v2_b13))
  else (some (.inl (v2_b13 + (1 : Int32)))))
def fX5_boundBehind_l13 (i0 : Int32) : Nat → Int32 → Option (Int32) :=
  it_ (fun v => fX5_boundBehind_b13 i0 v)
def fX5_boundBehind (s : st_) (i0 : Int32) : Option (Int32) :=
  if (s 0 17) = (-1 : Int32) then (some (-2000000000 : Int32))
  else (bn_ (fX5_boundBehind_l13 i0 FU_ (0 : Int32)) (fX5_boundBehind_k13 s))
def fX0_begin (s : st_) (i0 : Int32) : Option (st_) :=
  bd_ (pt_ s 0 0 i0) fun s1 =>
  bd_ (pt_ s1 0 1 (1 : Int32)) fun s5 =>
  bd_ (pt_ s5 0 2 (0 : Int32)) fun s9 =>
  bd_ (pt_ s9 0 5 (0 : Int32)) fun s13 =>
  bd_ (pt_ s13 0 6 (0 : Int32)) fun s17 =>
  bd_ (pt_ s17 0 7 (0 : Int32)) fun s21 =>
  bd_ (pt_ s21 0 8 (0 : Int32)) fun s25 =>
  bd_ (pt_ s25 0 9 (0 : Int32)) fun s29 =>
  bd_ (pt_ s29 0 10 (-1 : Int32)) fun s33 =>
  bd_ (pt_ s33 0 11 (-1 : Int32)) fun s37 =>
  some s37
def fX0_copyFrom (s : st_) (t : st_) : Option (st_) :=
  bd_ (pt_ s 0 0 (t 0 0)) fun s1 =>
  gd_ (bz_ (t 0 1)) <|
  bd_ (pt_ s1 0 1 (t 0 1)) fun s5 =>
  bd_ (pt_ s5 0 2 (t 0 2)) fun s10 =>
  bd_ (rw_ s10 1 (va_cpy (t 1) (s10 1) 0 0 20)) fun s14 =>
  bd_ (rw_ s14 2 (va_cpy (t 2) (s14 2) 0 0 20)) fun s18 =>
  bd_ (pt_ s18 0 5 (t 0 5)) fun s22 =>
  bd_ (pt_ s22 0 6 (t 0 6)) fun s26 =>
  bd_ (pt_ s26 0 7 (t 0 7)) fun s30 =>
  bd_ (pt_ s30 0 8 (t 0 8)) fun s34 =>
  bd_ (pt_ s34 0 9 (t 0 9)) fun s38 =>
  bd_ (pt_ s38 0 10 (t 0 10)) fun s42 =>
  bd_ (pt_ s42 0 11 (t 0 11)) fun s46 =>
  some s46
def fX0_receive (s : st_) (i0 : Int32) (i1 : Int32) : Option (st_) :=
  if (20 : Int32) ≤ (s 0 2) then (some s)
  else (gd_ (ib_ (s 0 2) 20) <|
  bd_ (pt_ s 1 (ix_ (s 0 2)) i0) fun s2 =>
  gd_ (ib_ (s2 0 2) 20) <|
  bd_ (pt_ s2 2 (ix_ (s2 0 2)) i1) fun s7 =>
  bd_ (pt_ s7 0 2 ((s7 0 2) + (1 : Int32))) fun s11 =>
  some s11)
def fX0_rankOf_j98 (z0_j21 : Int32) : Option (Int32) :=
  some (z0_j21 + (1000 : Int32))
def fX0_rankOf_j94 (z0_j21 : Int32) : Option (Int32) :=
  some (z0_j21 + (0 : Int32))
def fX0_rankOf_j21 (s : st_) (i0 : Int32) (i1 : Int32) (i2 : Int32) (z0_j21 : Int32) : Option (Int32) :=
  if i0 = (1 : Int32) then (if (i2 - (s 0 0)) ≤ (0 : Int32) then (some (((2 : Int32) * z0_j21) + (0 : Int32)))
  else (some (((2 : Int32) * z0_j21) + (1 : Int32))))
  else (if i0 = (2 : Int32) then (if (s 0 1) = (0 : Int32) then (if (0 : Int32) < (i2 - (s 0 0)) then (fX0_rankOf_j98 z0_j21)
  else (fX0_rankOf_j94 z0_j21))
  else (if (i2 - (s 0 0)) < (0 : Int32) then (fX0_rankOf_j98 z0_j21)
  else (fX0_rankOf_j94 z0_j21)))
  else (if i0 = (3 : Int32) then (if (i2 - (s 0 0)) < (0 : Int32) then (some ((1000 : Int32) + i2))
  else (some (i2 - (s 0 0))))
  else (if i0 = (4 : Int32) then (if i1 < z0_j21 then (some (1000 : Int32))
  else (some (0 : Int32)))
  else (some (0 : Int32)))))
def fX0_rankOf (s : st_) (i0 : Int32) (i1 : Int32) (i2 : Int32) : Option (Int32) :=
  if (0 : Int32) ≤ (i2 - (s 0 0)) then (fX0_rankOf_j21 s i0 i1 i2 (i2 - (s 0 0)))
  else (fX0_rankOf_j21 s i0 i1 i2 (-(i2 - (s 0 0))))
def fX0_choose_x8_57 (v3_x8_57 : Int32) : Option (Int32) :=
  some v3_x8_57
def fX0_choose_k8 (x : Int32) : Option (Int32) :=
  fX0_choose_x8_57 x
def fX0_choose_j51 (v5_b8 : Int32) (v3_j51 : Int32) (v4_j51 : Int32) : Option ((Int32 × Int32 × Int32) ⊕ (Int32)) :=
  some (.inl (v3_j51, v4_j51, (v5_b8 + (1 : Int32))))
def fX0_choose_j44 (v5_b8 : Int32) (r2 : Int32) : Option ((Int32 × Int32 × Int32) ⊕ (Int32)) :=
  fX0_choose_j51 v5_b8 v5_b8 r2
def fX0_choose_b8 (s : st_) (i0 : Int32) (i1 : Int32) (v3_b8 : Int32) (v4_b8 : Int32) (v5_b8 : Int32) : Option ((Int32 × Int32 × Int32) ⊕ (Int32)) :=
  if (s 0 2) ≤ v5_b8 then (some (.inr v3_b8))
  else (gd_ (ib_ v5_b8 20) <|
  bn_ (fX0_rankOf s i0 i1 (s 1 (ix_ v5_b8))) fun r2 =>
  if v3_b8 = (-1 : Int32) then (fX0_choose_j44 v5_b8 r2)
  else (if v4_b8 ≤ r2 then (fX0_choose_j51 v5_b8 v3_b8 v4_b8)
  else (fX0_choose_j44 v5_b8 r2)))
def fX0_choose_l8 (s : st_) (i0 : Int32) (i1 : Int32) : Nat → (Int32 × Int32 × Int32) → Option (Int32) :=
  it_ (fun v => fX0_choose_b8 s i0 i1 v.1 v.2.1 v.2.2)
def fX0_choose (s : st_) (i0 : Int32) (i1 : Int32) : Option (Int32) :=
  bn_ (fX0_choose_l8 s i0 i1 FU_ ((-1 : Int32), (0 : Int32), (0 : Int32))) (fX0_choose_k8)
def fX0_costBy (s : st_) (t : st_) (i0 : Int32) : Option (Int32) :=
  bn_ (fX5_kindOf t i0) fun r1 =>
  bn_ (fX5_widthOf t i0) fun r5 =>
  bn_ (fX0_choose s r1 r5) fun r9 =>
  if r9 = (-1 : Int32) then (some (0 : Int32))
  else (gd_ (ib_ r9 20) <|
  bn_ (fX5_priceOf t (s 0 0) (s 1 (ix_ r9))) fun r14 =>
  some r14)
def fX0_remove_x2_46 (s_x2_46 : st_) : Option (st_) :=
  bd_ (pt_ s_x2_46 0 2 ((s_x2_46 0 2) - (1 : Int32))) fun s1 =>
  some s1
def fX0_remove_k2 (x : st_) : Option (st_) :=
  fX0_remove_x2_46 x
def fX0_remove_b2 (v2_b2 : Int32) (s_b2 : st_) : Option ((Int32 × st_) ⊕ (st_)) :=
  if (s_b2 0 2) ≤ (v2_b2 + (1 : Int32)) then (some (.inr s_b2))
  else (gd_ (ib_ (v2_b2 + (1 : Int32)) 20) <|
  gd_ (ib_ v2_b2 20) <|
  bd_ (pt_ s_b2 1 (ix_ v2_b2) (s_b2 1 (ix_ (v2_b2 + (1 : Int32))))) fun s7 =>
  gd_ (ib_ (v2_b2 + (1 : Int32)) 20) <|
  gd_ (ib_ v2_b2 20) <|
  bd_ (pt_ s7 2 (ix_ v2_b2) (s7 2 (ix_ (v2_b2 + (1 : Int32))))) fun s13 =>
  some (.inl ((v2_b2 + (1 : Int32)), s13)))
def fX0_remove_l2 : Nat → (Int32 × st_) → Option (st_) :=
  it_ (fun v => fX0_remove_b2 v.1 v.2)
def fX0_remove (s : st_) (i0 : Int32) : Option (st_) :=
  bn_ (fX0_remove_l2 FU_ (i0, s)) (fX0_remove_k2)
def fX0_serve_j108 (t : st_) (i1 : Int32) (r9 : Int32) (s_j108 : st_) : Option (st_) :=
  bn_ (fX5_priceOf t (s_j108 0 0) (s_j108 0 10)) fun r35 =>
  bd_ (pt_ s_j108 0 9 r35) fun s39 =>
  bd_ (pt_ s39 0 5 ((s39 0 5) + (s39 0 9))) fun s43 =>
  bd_ (pt_ s43 0 6 ((s43 0 6) + (if (0 : Int32) ≤ ((s43 0 10) - (s43 0 0)) then ((s43 0 10) - (s43 0 0)) else (0 : Int32) - ((s43 0 10) - (s43 0 0))))) fun s47 =>
  bd_ (pt_ s47 0 7 (if (s47 0 7) < (i1 - (s47 0 11)) then (i1 - (s47 0 11)) else (s47 0 7))) fun s51 =>
  bd_ (pt_ s51 0 8 ((s51 0 8) + (1 : Int32))) fun s55 =>
  bd_ (pt_ s55 0 0 (s55 0 10)) fun s59 =>
  bn_ (fX0_remove s59 r9) fun r63 =>
  some r63
def fX0_serve_j105 (t : st_) (i1 : Int32) (r9 : Int32) (s31 : st_) (z1_j105 : Int32) : Option (st_) :=
  gd_ (bz_ z1_j105) <|
  bd_ (pt_ s31 0 1 z1_j105) fun s71 =>
  fX0_serve_j108 t i1 r9 s71
def fX0_serve (s : st_) (t : st_) (i0 : Int32) (i1 : Int32) : Option (st_) :=
  bn_ (fX5_kindOf t i0) fun r1 =>
  bn_ (fX5_widthOf t i0) fun r5 =>
  bn_ (fX0_choose s r1 r5) fun r9 =>
  bd_ (pt_ s 0 9 (0 : Int32)) fun s13 =>
  bd_ (pt_ s13 0 10 (-1 : Int32)) fun s17 =>
  bd_ (pt_ s17 0 11 (-1 : Int32)) fun s21 =>
  if r9 = (-1 : Int32) then (some s21)
  else (gd_ (ib_ r9 20) <|
  bd_ (pt_ s21 0 10 (s21 1 (ix_ r9))) fun s26 =>
  gd_ (ib_ r9 20) <|
  bd_ (pt_ s26 0 11 (s26 2 (ix_ r9))) fun s31 =>
  if r1 = (2 : Int32) then (bn_ (fX0_rankOf s31 r1 r5 (s31 0 10)) fun r67 =>
  if r67 < (1000 : Int32) then (fX0_serve_j108 t i1 r9 s31)
  else (if (s31 0 1) = (0 : Int32) then (fX0_serve_j105 t i1 r9 s31 (1 : Int32))
  else (fX0_serve_j105 t i1 r9 s31 (0 : Int32))))
  else (fX0_serve_j108 t i1 r9 s31))
def fX0_foresee_x83_156 (u_x83_156 : st_) : Option (st_) :=
  some u_x83_156
def fX0_foresee_k83 (x : st_) : Option (st_) :=
  fX0_foresee_x83_156 x
def fX0_foresee_j148 (s : st_) (v9_b83 : Int32) (u_b83 : st_) (z3_j148 : Int32) : Option ((Int32 × st_) ⊕ (st_)) :=
  gd_ (ib_ v9_b83 100) <|
  bd_ (pt_ u_b83 0 (ix_ v9_b83) ((s 0 5) + z3_j148)) fun u18 =>
  some (.inl ((v9_b83 + (1 : Int32)), u18))
def fX0_foresee_j119 (s : st_) (t : st_) (z0_j78 : Int32) (v9_b83 : Int32) (u_b83 : st_) (z0_j119 : Int32) : Option ((Int32 × st_) ⊕ (st_)) :=
  if z0_j119 = (0 : Int32) then (fX0_foresee_j148 s v9_b83 u_b83 z0_j78)
  else (bn_ (fX5_priceOf t (s 0 0) v9_b83) fun r22 =>
  fX0_foresee_j148 s v9_b83 u_b83 r22)
def fX0_foresee_b83 (s : st_) (t : st_) (r1 : Int32) (r5 : Int32) (z0_j51 : Int32) (z0_j78 : Int32) (v9_b83 : Int32) (u_b83 : st_) : Option ((Int32 × st_) ⊕ (st_)) :=
  if (t 0 0) ≤ v9_b83 then (some (.inr u_b83))
  else (if (100 : Int32) ≤ v9_b83 then (some (.inr u_b83))
  else (bn_ (fX0_rankOf s r1 r5 v9_b83) fun r13 =>
  if z0_j51 ≤ r13 then (fX0_foresee_j119 s t z0_j78 v9_b83 u_b83 (0 : Int32))
  else (fX0_foresee_j119 s t z0_j78 v9_b83 u_b83 (1 : Int32))))
def fX0_foresee_l83 (s : st_) (t : st_) (r1 : Int32) (r5 : Int32) (z0_j51 : Int32) (z0_j78 : Int32) : Nat → (Int32 × st_) → Option (st_) :=
  it_ (fun v => fX0_foresee_b83 s t r1 r5 z0_j51 z0_j78 v.1 v.2)
def fX0_foresee_j78 (s : st_) (t : st_) (u : st_) (r1 : Int32) (r5 : Int32) (z0_j51 : Int32) (z0_j78 : Int32) : Option (st_) :=
  bn_ (fX0_foresee_l83 s t r1 r5 z0_j51 z0_j78 FU_ ((0 : Int32), u)) (fX0_foresee_k83)
def fX0_foresee_j51 (s : st_) (t : st_) (u : st_) (r1 : Int32) (r5 : Int32) (r9 : Int32) (z0_j51 : Int32) : Option (st_) :=
  if r9 = (-1 : Int32) then (fX0_foresee_j78 s t u r1 r5 z0_j51 (0 : Int32))
  else (gd_ (ib_ r9 20) <|
  bn_ (fX5_priceOf t (s 0 0) (s 1 (ix_ r9))) fun r27 =>
  fX0_foresee_j78 s t u r1 r5 z0_j51 r27)
def fX0_foresee (s : st_) (t : st_) (u : st_) (i0 : Int32) : Option (st_) :=
  bn_ (fX5_kindOf t i0) fun r1 =>
  bn_ (fX5_widthOf t i0) fun r5 =>
  bn_ (fX0_choose s r1 r5) fun r9 =>
  if r9 = (-1 : Int32) then (fX0_foresee_j51 s t u r1 r5 r9 (10000 : Int32))
  else (gd_ (ib_ r9 20) <|
  bn_ (fX0_rankOf s r1 r5 (s 1 (ix_ r9))) fun r32 =>
  fX0_foresee_j51 s t u r1 r5 r9 r32)
def fX1_resetWeights_x2_25 (s_x2_25 : st_) : Option (st_) :=
  some s_x2_25
def fX1_resetWeights_k2 (x : st_) : Option (st_) :=
  fX1_resetWeights_x2_25 x
def fX1_resetWeights_b2 (v1_b2 : Int32) (s_b2 : st_) : Option ((Int32 × st_) ⊕ (st_)) :=
  if (6 : Int32) ≤ v1_b2 then (some (.inr s_b2))
  else (gd_ (ib_ v1_b2 6) <|
  bd_ (pt_ s_b2 12 (ix_ v1_b2) (1000000 : Int32)) fun s2 =>
  some (.inl ((v1_b2 + (1 : Int32)), s2)))
def fX1_resetWeights_l2 : Nat → (Int32 × st_) → Option (st_) :=
  it_ (fun v => fX1_resetWeights_b2 v.1 v.2)
def fX1_resetWeights (s : st_) : Option (st_) :=
  bn_ (fX1_resetWeights_l2 FU_ ((0 : Int32), s)) (fX1_resetWeights_k2)
def fX1_begin_x38_69 (s_x38_69 : st_) : Option (st_) :=
  bn_ (fX1_resetWeights s_x38_69) fun r19 =>
  bd_ (pt_ r19 0 7 (r19 1 10)) fun s23 =>
  bd_ (pt_ s23 0 8 (s23 1 10)) fun s27 =>
  bd_ (pt_ s27 0 9 (0 : Int32)) fun s31 =>
  bd_ (pt_ s31 0 10 (-1 : Int32)) fun s35 =>
  bd_ (pt_ s35 0 11 (0 : Int32)) fun s39 =>
  bd_ (pt_ s39 0 12 (-1 : Int32)) fun s43 =>
  bd_ (pt_ s43 0 13 (-1 : Int32)) fun s47 =>
  some s47
def fX1_begin_k38 (x : st_) : Option (st_) :=
  fX1_begin_x38_69 x
def fX1_begin_b38 (v2_b38 : Int32) (s_b38 : st_) : Option ((Int32 × st_) ⊕ (st_)) :=
  if (6 : Int32) ≤ v2_b38 then (some (.inr s_b38))
  else (gd_ (ib_ v2_b38 6) <|
  bn_ (fX0_begin (sb_ s_b38 (3 * ix_ v2_b38 + 15)) (s_b38 1 1)) fun r52 =>
  bd_ (mg_ s_b38 (3 * ix_ v2_b38 + 15) 3 r52) fun s57 =>
  some (.inl ((v2_b38 + (1 : Int32)), s57)))
def fX1_begin_l38 : Nat → (Int32 × st_) → Option (st_) :=
  it_ (fun v => fX1_begin_b38 v.1 v.2)
def fX1_begin (s : st_) (t : st_) : Option (st_) :=
  bn_ (fX5_copyFrom (sb_ s 1) t) fun r1 =>
  bd_ (mg_ s 1 4 r1) fun s5 =>
  bn_ (fX0_begin (sb_ s5 5) (s5 1 1)) fun r7 =>
  bd_ (mg_ s5 5 3 r7) fun s11 =>
  bn_ (fX0_begin (sb_ s11 8) (s11 1 1)) fun r13 =>
  bd_ (mg_ s11 8 3 r13) fun s17 =>
  bn_ (fX1_begin_l38 FU_ ((0 : Int32), s17)) (fX1_begin_k38)
def fX1_copyFrom_x35_65 (t : st_) (s_x35_65 : st_) : Option (st_) :=
  bd_ (rw_ s_x35_65 12 (va_cpy (t 12) (s_x35_65 12) 0 0 6)) fun s19 =>
  bd_ (pt_ s19 0 7 (t 0 7)) fun s23 =>
  bd_ (pt_ s23 0 8 (t 0 8)) fun s27 =>
  bd_ (pt_ s27 0 9 (t 0 9)) fun s31 =>
  bd_ (pt_ s31 0 10 (t 0 10)) fun s35 =>
  bd_ (pt_ s35 0 11 (t 0 11)) fun s39 =>
  bd_ (pt_ s39 0 12 (t 0 12)) fun s43 =>
  bd_ (pt_ s43 0 13 (t 0 13)) fun s47 =>
  some s47
def fX1_copyFrom_k35 (t : st_) (x : st_) : Option (st_) :=
  fX1_copyFrom_x35_65 t x
def fX1_copyFrom_b35 (t : st_) (v2_b35 : Int32) (s_b35 : st_) : Option ((Int32 × st_) ⊕ (st_)) :=
  if (6 : Int32) ≤ v2_b35 then (some (.inr s_b35))
  else (gd_ (ib_ v2_b35 6) <|
  gd_ (ib_ v2_b35 6) <|
  bn_ (fX0_copyFrom (sb_ s_b35 (3 * ix_ v2_b35 + 15)) (sb_ t (3 * ix_ v2_b35 + 15))) fun r53 =>
  bd_ (mg_ s_b35 (3 * ix_ v2_b35 + 15) 3 r53) fun s59 =>
  some (.inl ((v2_b35 + (1 : Int32)), s59)))
def fX1_copyFrom_l35 (t : st_) : Nat → (Int32 × st_) → Option (st_) :=
  it_ (fun v => fX1_copyFrom_b35 t v.1 v.2)
def fX1_copyFrom (s : st_) (t : st_) : Option (st_) :=
  bn_ (fX5_copyFrom (sb_ s 1) (sb_ t 1)) fun r1 =>
  bd_ (mg_ s 1 4 r1) fun s5 =>
  bn_ (fX0_copyFrom (sb_ s5 5) (sb_ t 5)) fun r7 =>
  bd_ (mg_ s5 5 3 r7) fun s11 =>
  bn_ (fX0_copyFrom (sb_ s11 8) (sb_ t 8)) fun r13 =>
  bd_ (mg_ s11 8 3 r13) fun s17 =>
  bn_ (fX1_copyFrom_l35 t FU_ ((0 : Int32), s17)) (fX1_copyFrom_k35 t)
def fX1_takeBudget (s : st_) (i0 : Int32) : Option (st_) :=
  bd_ (pt_ s 1 16 i0) fun s1 =>
  bd_ (pt_ s1 0 11 (0 : Int32)) fun s5 =>
  some s5
def fX1_armOf (s : st_) (i0 : Int32) : Option (Nat) :=
  bn_ (fX5_hasRule (sb_ s 1) i0) fun r1 =>
  if r1 = (0 : Int32) then (some 5)
  else (gd_ (ib_ i0 6) <|
  some (3 * ix_ i0 + 15))
def fX1_isFull (s : st_) : Option (Int32) :=
  if (s 5 2) < (20 : Int32) then (some (0 : Int32))
  else (some (1 : Int32))
def fX1_addForAll_x14_45 (i0 : Int32) (s_x14_45 : st_) : Option (st_) :=
  bn_ (fX5_hasRival (sb_ s_x14_45 1)) fun r7 =>
  if r7 = (0 : Int32) then (some s_x14_45)
  else (bn_ (fX0_receive (sb_ s_x14_45 8) i0 (s_x14_45 0 9)) fun r11 =>
  bd_ (mg_ s_x14_45 8 3 r11) fun s15 =>
  some s15)
def fX1_addForAll_k14 (i0 : Int32) (x : st_) : Option (st_) :=
  fX1_addForAll_x14_45 i0 x
def fX1_addForAll_b14 (i0 : Int32) (v2_b14 : Int32) (s_b14 : st_) : Option ((Int32 × st_) ⊕ (st_)) :=
  if (s_b14 1 4) ≤ v2_b14 then (some (.inr s_b14))
  else (gd_ (ib_ v2_b14 6) <|
  bn_ (fX0_receive (sb_ s_b14 (3 * ix_ v2_b14 + 15)) i0 (s_b14 0 9)) fun r18 =>
  bd_ (mg_ s_b14 (3 * ix_ v2_b14 + 15) 3 r18) fun s23 =>
  some (.inl ((v2_b14 + (1 : Int32)), s23)))
def fX1_addForAll_l14 (i0 : Int32) : Nat → (Int32 × st_) → Option (st_) :=
  it_ (fun v => fX1_addForAll_b14 i0 v.1 v.2)
def fX1_addForAll (s : st_) (i0 : Int32) : Option (st_) :=
  bn_ (fX0_receive (sb_ s 5) i0 (s 0 9)) fun r1 =>
  bd_ (mg_ s 5 3 r1) fun s5 =>
  bn_ (fX1_addForAll_l14 i0 FU_ ((0 : Int32), s5)) (fX1_addForAll_k14 i0)
def fX1_foeNow_j50 (s : st_) : Option (Int32) :=
  some (s 1 11)
def fX1_foeNow_j30 (s : st_) (z0_j30 : Int32) : Option (Int32) :=
  if (s 1 11) = (5 : Int32) then (if z0_j30 = (0 : Int32) then (fX1_foeNow_j50 s)
  else (some (4 : Int32)))
  else (fX1_foeNow_j50 s)
def fX1_foeNow_j29 (s : st_) : Option (Int32) :=
  fX1_foeNow_j30 s (0 : Int32)
def fX1_foeNow (s : st_) : Option (Int32) :=
  if (s 1 16) = (-1 : Int32) then (fX1_foeNow_j29 s)
  else (if (s 0 11) < (s 1 16) then (fX1_foeNow_j29 s)
  else (fX1_foeNow_j30 s (1 : Int32)))
def fX1_addNextAsk_j37 (s : st_) (z1_j37 : Int32) : Option (st_) :=
  bd_ (pt_ s 0 10 z1_j37) fun s1 =>
  bn_ (fX5_askAt (sb_ s1 1) (s1 0 10)) fun r5 =>
  bn_ (fX1_addForAll s1 r5) fun r9 =>
  some r9
def fX1_addNextAsk (s : st_) : Option (st_) :=
  if (s 1 12) ≤ (0 : Int32) then (some s)
  else (if (s 1 12) ≤ ((s 0 10) + (1 : Int32)) then (fX1_addNextAsk_j37 s (0 : Int32))
  else (fX1_addNextAsk_j37 s ((s 0 10) + (1 : Int32))))
def fX1_seedBehind (i0 : Int32) : Option (Int32) :=
  some ((((1103 : Int32) * i0) + (12345 : Int32)) - (((1103 : Int32) * i0) + (12345 : Int32)) / (32768 : Int32) * (32768 : Int32))
def fX1_weightSum_x4_30 (v1_x4_30 : Int32) : Option (Int32) :=
  some v1_x4_30
def fX1_weightSum_k4 (x : Int32) : Option (Int32) :=
  fX1_weightSum_x4_30 x
def fX1_weightSum_b4 (s : st_) (v1_b4 : Int32) (v2_b4 : Int32) : Option ((Int32 × Int32) ⊕ (Int32)) :=
  if (s 1 4) ≤ v2_b4 then (some (.inr v1_b4))
  else (gd_ (ib_ v2_b4 6) <|
  some (.inl ((v1_b4 + (s 12 (ix_ v2_b4))), (v2_b4 + (1 : Int32)))))
def fX1_weightSum_l4 (s : st_) : Nat → (Int32 × Int32) → Option (Int32) :=
  it_ (fun v => fX1_weightSum_b4 s v.1 v.2)
def fX1_weightSum (s : st_) : Option (Int32) :=
  bn_ (fX1_weightSum_l4 s FU_ ((0 : Int32), (0 : Int32))) (fX1_weightSum_k4)
def fX1_ruleDrawn_x20_62 : Option (Int32) :=
  some (0 : Int32)
def fX1_ruleDrawn_x20_43 (v4_x20_43 : Int32) : Option (Int32) :=
  some v4_x20_43
def fX1_ruleDrawn_k20 (x : (Int32) ⊕ (Unit)) : Option (Int32) :=
  Sum.elim (fun z => fX1_ruleDrawn_x20_43 z) (fun z => fX1_ruleDrawn_x20_62) x
def fX1_ruleDrawn_b20 (s : st_) (v3_b20 : Int32) (v4_b20 : Int32) : Option ((Int32 × Int32) ⊕ ((Int32) ⊕ (Unit))) :=
  if (s 1 4) ≤ v4_b20 then (some (.inr (.inr ())))
  else (gd_ (ib_ v4_b20 6) <|
  if (s 12 (ix_ v4_b20)) ≤ v3_b20 then (gd_ (ib_ v4_b20 6) <|
  some (.inl ((v3_b20 - (s 12 (ix_ v4_b20))), (v4_b20 + (1 : Int32)))))
  else (some (.inr (.inl v4_b20))))
def fX1_ruleDrawn_l20 (s : st_) : Nat → (Int32 × Int32) → Option ((Int32) ⊕ (Unit)) :=
  it_ (fun v => fX1_ruleDrawn_b20 s v.1 v.2)
def fX1_ruleDrawn_j16 (s : st_) (z0_j16 : Int32) : Option (Int32) :=
  bn_ (fX1_ruleDrawn_l20 s FU_ (z0_j16, (0 : Int32))) (fX1_ruleDrawn_k20)
def fX1_ruleDrawn (s : st_) (i0 : Int32) : Option (Int32) :=
  bn_ (fX1_weightSum s) fun r1 =>
  if r1 ≤ (0 : Int32) then (fX1_ruleDrawn_j16 s (0 : Int32))
  else (gd_ (nz_ r1) <|
  fX1_ruleDrawn_j16 s (i0 - i0 / r1 * r1))
def fX1_cheapestRule_x4_44 (v1_x4_44 : Int32) : Option (Int32) :=
  some v1_x4_44
def fX1_cheapestRule_k4 (x : Int32) : Option (Int32) :=
  fX1_cheapestRule_x4_44 x
def fX1_cheapestRule_j38 (v2_b4 : Int32) (v1_j38 : Int32) : Option ((Int32 × Int32) ⊕ (Int32)) :=
  some (.inl (v1_j38, (v2_b4 + (1 : Int32))))
def fX1_cheapestRule_b4 (s : st_) (v1_b4 : Int32) (v2_b4 : Int32) : Option ((Int32 × Int32) ⊕ (Int32)) :=
  if (s 1 4) ≤ v2_b4 then (some (.inr v1_b4))
  else (gd_ (ib_ v2_b4 6) <|
  gd_ (ib_ v1_b4 6) <|
  if (s (3 * ix_ v1_b4 + 15) 5) ≤ (s (3 * ix_ v2_b4 + 15) 5) then (fX1_cheapestRule_j38 v2_b4 v1_b4)
  else (fX1_cheapestRule_j38 v2_b4 v2_b4))
def fX1_cheapestRule_l4 (s : st_) : Nat → (Int32 × Int32) → Option (Int32) :=
  it_ (fun v => fX1_cheapestRule_b4 s v.1 v.2)
def fX1_cheapestRule (s : st_) : Option (Int32) :=
  bn_ (fX1_cheapestRule_l4 s FU_ ((0 : Int32), (1 : Int32))) (fX1_cheapestRule_k4)
def fX1_ruleBy (s : st_) (i0 : Int32) (i1 : Int32) (i2 : Int32) : Option (Int32) :=
  if i0 = (0 : Int32) then (bn_ (fX1_ruleDrawn s i2) fun r9 =>
  some r9)
  else (if i0 = (1 : Int32) then (bn_ (fX1_cheapestRule s) fun r5 =>
  some r5)
  else (bn_ (fX5_hasRule (sb_ s 1) i1) fun r1 =>
  if r1 = (0 : Int32) then (some (0 : Int32))
  else (some i1)))
def fX1_comingRule (s : st_) : Option (Int32) :=
  bn_ (fX1_seedBehind (s 0 7)) fun r1 =>
  bn_ (fX1_ruleBy s (s 1 7) (s 1 8) r1) fun r5 =>
  some r5
def fX1_foreseeHurts_x108_144 (s_x108_144 : st_) : Option (st_) :=
  some s_x108_144
def fX1_foreseeHurts_k108 (x : st_) : Option (st_) :=
  fX1_foreseeHurts_x108_144 x
def fX1_foreseeHurts_b108 (v2_b108 : Int32) (s_b108 : st_) : Option ((Int32 × st_) ⊕ (st_)) :=
  if (s_b108 1 0) ≤ v2_b108 then (some (.inr s_b108))
  else (gd_ (ib_ v2_b108 100) <|
  gd_ (ib_ v2_b108 100) <|
  gd_ (ib_ v2_b108 100) <|
  bd_ (pt_ s_b108 13 (ix_ v2_b108) ((s_b108 14 (ix_ v2_b108)) - (s_b108 13 (ix_ v2_b108)))) fun s10 =>
  some (.inl ((v2_b108 + (1 : Int32)), s10)))
def fX1_foreseeHurts_l108 : Nat → (Int32 × st_) → Option (st_) :=
  it_ (fun v => fX1_foreseeHurts_b108 v.1 v.2)
def fX1_foreseeHurts_x2_90 (i0 : Int32) (s_x2_90 : st_) : Option (st_) :=
  bn_ (fX0_foresee (sb_ s_x2_90 5) (sb_ s_x2_90 1) (sb_ s_x2_90 14) i0) fun r1 =>
  bd_ (mg_ s_x2_90 14 1 r1) fun s5 =>
  bn_ (fX1_foreseeHurts_l108 FU_ ((0 : Int32), s5)) (fX1_foreseeHurts_k108)
def fX1_foreseeHurts_k2 (i0 : Int32) (x : st_) : Option (st_) :=
  fX1_foreseeHurts_x2_90 i0 x
def fX1_foreseeHurts_x33_84 (v2_b2 : Int32) (s_x33_84 : st_) : Option ((Int32 × st_) ⊕ (st_)) :=
  some (.inl ((v2_b2 + (1 : Int32)), s_x33_84))
def fX1_foreseeHurts_k33 (v2_b2 : Int32) (x : st_) : Option ((Int32 × st_) ⊕ (st_)) :=
  fX1_foreseeHurts_x33_84 v2_b2 x
def fX1_foreseeHurts_j77 (v3_b33 : Int32) (s_b33 : st_) (z2_j77 : Int32) : Option ((Int32 × st_) ⊕ (st_)) :=
  gd_ (ib_ v3_b33 100) <|
  bd_ (pt_ s_b33 13 (ix_ v3_b33) z2_j77) fun s23 =>
  some (.inl ((v3_b33 + (1 : Int32)), s23))
def fX1_foreseeHurts_b33 (v2_b2 : Int32) (v3_b33 : Int32) (s_b33 : st_) : Option ((Int32 × st_) ⊕ (st_)) :=
  if (s_b33 1 0) ≤ v3_b33 then (some (.inr s_b33))
  else (if v2_b2 = (0 : Int32) then (gd_ (ib_ v3_b33 100) <|
  fX1_foreseeHurts_j77 v3_b33 s_b33 (s_b33 14 (ix_ v3_b33)))
  else (gd_ (ib_ v3_b33 100) <|
  gd_ (ib_ v3_b33 100) <|
  fX1_foreseeHurts_j77 v3_b33 s_b33 (if (s_b33 14 (ix_ v3_b33)) < (s_b33 13 (ix_ v3_b33)) then (s_b33 14 (ix_ v3_b33)) else (s_b33 13 (ix_ v3_b33)))))
def fX1_foreseeHurts_l33 (v2_b2 : Int32) : Nat → (Int32 × st_) → Option (st_) :=
  it_ (fun v => fX1_foreseeHurts_b33 v2_b2 v.1 v.2)
def fX1_foreseeHurts_b2 (v2_b2 : Int32) (s_b2 : st_) : Option ((Int32 × st_) ⊕ (st_)) :=
  if (s_b2 1 4) ≤ v2_b2 then (some (.inr s_b2))
  else (gd_ (ib_ v2_b2 6) <|
  bn_ (fX0_foresee (sb_ s_b2 (3 * ix_ v2_b2 + 15)) (sb_ s_b2 1) (sb_ s_b2 14) v2_b2) fun r15 =>
  bd_ (mg_ s_b2 14 1 r15) fun s20 =>
  bn_ (fX1_foreseeHurts_l33 v2_b2 FU_ ((0 : Int32), s20)) (fX1_foreseeHurts_k33 v2_b2))
def fX1_foreseeHurts_l2 : Nat → (Int32 × st_) → Option (st_) :=
  it_ (fun v => fX1_foreseeHurts_b2 v.1 v.2)
def fX1_foreseeHurts (s : st_) (i0 : Int32) : Option (st_) :=
  bn_ (fX1_foreseeHurts_l2 FU_ ((0 : Int32), s)) (fX1_foreseeHurts_k2 i0)
def fX1_mostHurtful_x4_38 (v1_x4_38 : Int32) : Option (Int32) :=
  some v1_x4_38
def fX1_mostHurtful_k4 (x : Int32) : Option (Int32) :=
  fX1_mostHurtful_x4_38 x
def fX1_mostHurtful_j32 (v2_b4 : Int32) (v1_j32 : Int32) : Option ((Int32 × Int32) ⊕ (Int32)) :=
  some (.inl (v1_j32, (v2_b4 + (1 : Int32))))
def fX1_mostHurtful_b4 (s : st_) (v1_b4 : Int32) (v2_b4 : Int32) : Option ((Int32 × Int32) ⊕ (Int32)) :=
  if (s 1 0) ≤ v2_b4 then (some (.inr v1_b4))
  else (gd_ (ib_ v2_b4 100) <|
  gd_ (ib_ v1_b4 100) <|
  if (s 13 (ix_ v2_b4)) ≤ (s 13 (ix_ v1_b4)) then (fX1_mostHurtful_j32 v2_b4 v1_b4)
  else (fX1_mostHurtful_j32 v2_b4 v2_b4))
def fX1_mostHurtful_l4 (s : st_) : Nat → (Int32 × Int32) → Option (Int32) :=
  it_ (fun v => fX1_mostHurtful_b4 s v.1 v.2)
def fX1_mostHurtful (s : st_) : Option (Int32) :=
  bn_ (fX1_mostHurtful_l4 s FU_ ((0 : Int32), (1 : Int32))) (fX1_mostHurtful_k4)
def fX1_moveFoe_j81 (s : st_) (z1_j81 : Int32) : Option (st_) :=
  bn_ (fX1_addForAll s z1_j81) fun r9 =>
  some r9
def fX1_moveFoe_j118 (s : st_) (z1_j118 : Int32) : Option (st_) :=
  bn_ (fX1_addForAll s z1_j118) fun r17 =>
  some r17
def fX1_moveFoe (s : st_) : Option (st_) :=
  bn_ (fX1_isFull s) fun r1 =>
  if r1 = (0 : Int32) then (bn_ (fX1_foeNow s) fun r5 =>
  if r5 = (1 : Int32) then (if (s 5 0) < (((s 1 0) - (1 : Int32)) - (s 5 0)) then (fX1_moveFoe_j81 s ((s 1 0) - (1 : Int32)))
  else (fX1_moveFoe_j81 s (0 : Int32)))
  else (if r5 = (2 : Int32) then (bn_ (fX1_addForAll s (((s 1 0) - (1 : Int32)) - (s 5 0))) fun r13 =>
  some r13)
  else (if r5 = (3 : Int32) then (if ((s 0 9) - (s 0 9) / (2 : Int32) * (2 : Int32)) = (0 : Int32) then (fX1_moveFoe_j118 s ((s 1 0) - (1 : Int32)))
  else (fX1_moveFoe_j118 s (0 : Int32)))
  else (if r5 = (4 : Int32) then (bn_ (fX1_addNextAsk s) fun r21 =>
  some r21)
  else (if r5 = (5 : Int32) then (bn_ (fX1_comingRule s) fun r25 =>
  bn_ (fX1_foreseeHurts s r25) fun r29 =>
  bn_ (fX1_mostHurtful r29) fun r33 =>
  bn_ (fX1_addForAll r29 r33) fun r37 =>
  bd_ (pt_ r37 0 11 ((r37 0 11) + (1 : Int32))) fun s41 =>
  some s41)
  else (some s))))))
  else (some s)
def fX1_takeRules_j68 (s_j68 : st_) : Option (st_) :=
  bn_ (fX5_hasRival (sb_ s_j68 1)) fun r9 =>
  if r9 = (0 : Int32) then (some s_j68)
  else (bn_ (fX1_ruleBy s_j68 (s_j68 1 14) (s_j68 1 15) (s_j68 0 8)) fun r13 =>
  bd_ (pt_ s_j68 0 13 r13) fun s17 =>
  some s17)
def fX1_takeRules_j21 (s_j21 : st_) : Option (st_) :=
  bn_ (fX1_ruleBy s_j21 (s_j21 1 7) (s_j21 1 8) (s_j21 0 7)) fun r1 =>
  bd_ (pt_ s_j21 0 12 r1) fun s5 =>
  if (s5 1 14) = (0 : Int32) then (bn_ (fX1_seedBehind (s5 0 8)) fun r21 =>
  bd_ (pt_ s5 0 8 r21) fun s25 =>
  fX1_takeRules_j68 s25)
  else (fX1_takeRules_j68 s5)
def fX1_takeRules (s : st_) : Option (st_) :=
  if (s 1 7) = (0 : Int32) then (bn_ (fX1_seedBehind (s 0 7)) fun r29 =>
  bd_ (pt_ s 0 7 r29) fun s33 =>
  fX1_takeRules_j21 s33)
  else (fX1_takeRules_j21 s)
def fX1_loseWeights_x124_162 (s_x124_162 : st_) : Option (st_) :=
  some s_x124_162
def fX1_loseWeights_k124 (x : st_) : Option (st_) :=
  fX1_loseWeights_x124_162 x
def fX1_loseWeights_b124 (v3_x35_121 : Int32) (v4_b124 : Int32) (s_b124 : st_) : Option ((Int32 × st_) ⊕ (st_)) :=
  if (s_b124 1 4) ≤ v4_b124 then (some (.inr s_b124))
  else (if (1000 : Int32) ≤ v3_x35_121 then (some (.inr s_b124))
  else (gd_ (ib_ v4_b124 6) <|
  gd_ (ib_ v4_b124 6) <|
  bd_ (pt_ s_b124 12 (ix_ v4_b124) ((s_b124 12 (ix_ v4_b124)) * (1000 : Int32))) fun s7 =>
  some (.inl ((v4_b124 + (1 : Int32)), s7))))
def fX1_loseWeights_l124 (v3_x35_121 : Int32) : Nat → (Int32 × st_) → Option (st_) :=
  it_ (fun v => fX1_loseWeights_b124 v3_x35_121 v.1 v.2)
def fX1_loseWeights_x35_121 (v3_x35_121 : Int32) (s_x35_121 : st_) : Option (st_) :=
  bn_ (fX1_loseWeights_l124 v3_x35_121 FU_ ((0 : Int32), s_x35_121)) (fX1_loseWeights_k124)
def fX1_loseWeights_k35 (x : Int32 × st_) : Option (st_) :=
  fX1_loseWeights_x35_121 x.1 x.2
def fX1_loseWeights_b35 (r1 : Int32) (v3_b35 : Int32) (v4_b35 : Int32) (s_b35 : st_) : Option ((Int32 × Int32 × st_) ⊕ (Int32 × st_)) :=
  if (s_b35 1 4) ≤ v4_b35 then (some (.inr (v3_b35, s_b35)))
  else (gd_ (ib_ v4_b35 6) <|
  gd_ (ib_ v4_b35 6) <|
  gd_ (nzl_ ((1000 : Int64) * (Int32.toInt64 r1))) <|
  gd_ (ib_ v4_b35 6) <|
  gd_ (ib_ v4_b35 6) <|
  bd_ (pt_ s_b35 12 (ix_ v4_b35) (Int64.toInt32 (if ((Int32.toInt64 (s_b35 12 (ix_ v4_b35))) - ((((Int32.toInt64 (s_b35 12 (ix_ v4_b35))) * (Int32.toInt64 (s_b35 1 9))) * (Int32.toInt64 (s_b35 (3 * ix_ v4_b35 + 15) 9))) / ((1000 : Int64) * (Int32.toInt64 r1)))) < (1 : Int64) then (1 : Int64) else ((Int32.toInt64 (s_b35 12 (ix_ v4_b35))) - ((((Int32.toInt64 (s_b35 12 (ix_ v4_b35))) * (Int32.toInt64 (s_b35 1 9))) * (Int32.toInt64 (s_b35 (3 * ix_ v4_b35 + 15) 9))) / ((1000 : Int64) * (Int32.toInt64 r1))))))) fun s16 =>
  gd_ (ib_ v4_b35 6) <|
  some (.inl ((if v3_b35 < (s16 12 (ix_ v4_b35)) then (s16 12 (ix_ v4_b35)) else v3_b35), (v4_b35 + (1 : Int32)), s16)))
def fX1_loseWeights_l35 (r1 : Int32) : Nat → (Int32 × Int32 × st_) → Option (Int32 × st_) :=
  it_ (fun v => fX1_loseWeights_b35 r1 v.1 v.2.1 v.2.2)
def fX1_loseWeights (s : st_) : Option (st_) :=
  bn_ (fX5_priceOf (sb_ s 1) (0 : Int32) ((s 1 0) - (1 : Int32))) fun r1 =>
  if (0 : Int32) < (lg_cmp ((1000 : Int64) * (Int32.toInt64 r1)) (0 : Int64)) then (bn_ (fX1_loseWeights_l35 r1 FU_ ((0 : Int32), (0 : Int32), s)) (fX1_loseWeights_k35))
  else (some s)
def fX1_serveAll_j85 (s_j85 : st_) : Option (st_) :=
  bn_ (fX1_loseWeights s_j85) fun r11 =>
  bd_ (pt_ r11 0 9 ((r11 0 9) + (1 : Int32))) fun s15 =>
  some s15
def fX1_serveAll_x21_56 (s_x21_56 : st_) : Option (st_) :=
  bn_ (fX5_hasRival (sb_ s_x21_56 1)) fun r7 =>
  if r7 = (0 : Int32) then (fX1_serveAll_j85 s_x21_56)
  else (bn_ (fX0_serve (sb_ s_x21_56 8) (sb_ s_x21_56 1) (s_x21_56 0 13) (s_x21_56 0 9)) fun r19 =>
  bd_ (mg_ s_x21_56 8 3 r19) fun s23 =>
  fX1_serveAll_j85 s23)
def fX1_serveAll_k21 (x : st_) : Option (st_) :=
  fX1_serveAll_x21_56 x
def fX1_serveAll_b21 (v1_b21 : Int32) (s_b21 : st_) : Option ((Int32 × st_) ⊕ (st_)) :=
  if (s_b21 1 4) ≤ v1_b21 then (some (.inr s_b21))
  else (gd_ (ib_ v1_b21 6) <|
  bn_ (fX0_serve (sb_ s_b21 (3 * ix_ v1_b21 + 15)) (sb_ s_b21 1) v1_b21 (s_b21 0 9)) fun r26 =>
  bd_ (mg_ s_b21 (3 * ix_ v1_b21 + 15) 3 r26) fun s31 =>
  some (.inl ((v1_b21 + (1 : Int32)), s31)))
def fX1_serveAll_l21 : Nat → (Int32 × st_) → Option (st_) :=
  it_ (fun v => fX1_serveAll_b21 v.1 v.2)
def fX1_serveAll (s : st_) : Option (st_) :=
  bn_ (fX0_serve (sb_ s 5) (sb_ s 1) (s 0 12) (s 0 9)) fun r1 =>
  bd_ (mg_ s 5 3 r1) fun s5 =>
  bn_ (fX1_serveAll_l21 FU_ ((0 : Int32), s5)) (fX1_serveAll_k21)
def fX1_letPass_x2_25 (s_x2_25 : st_) : Option (st_) :=
  some s_x2_25
def fX1_letPass_k2 (x : st_) : Option (st_) :=
  fX1_letPass_x2_25 x
def fX1_letPass_b2 (i0 : Int32) (v2_b2 : Int32) (s_b2 : st_) : Option ((Int32 × st_) ⊕ (st_)) :=
  if i0 ≤ v2_b2 then (some (.inr s_b2))
  else (bn_ (fX1_moveFoe s_b2) fun r1 =>
  bn_ (fX1_takeRules r1) fun r5 =>
  bn_ (fX1_serveAll r5) fun r9 =>
  some (.inl ((v2_b2 + (1 : Int32)), r9)))
def fX1_letPass_l2 (i0 : Int32) : Nat → (Int32 × st_) → Option (st_) :=
  it_ (fun v => fX1_letPass_b2 i0 v.1 v.2)
def fX1_letPass (s : st_) (i0 : Int32) : Option (st_) :=
  bn_ (fX1_letPass_l2 i0 FU_ ((0 : Int32), s)) (fX1_letPass_k2)
def fX1_regretNow (s : st_) : Option (Int32) :=
  bn_ (fX1_cheapestRule s) fun r1 =>
  gd_ (ib_ r1 6) <|
  some ((s 5 5) - (s (3 * ix_ r1 + 15) 5))
def fX1_isBreach_j33 : Option (Int32) :=
  some (0 : Int32)
def fX1_isBreach (s : st_) : Option (Int32) :=
  if (s 1 17) = (-1 : Int32) then (fX1_isBreach_j33)
  else (bn_ (fX1_regretNow s) fun r1 =>
  bn_ (fX5_boundBehind (sb_ s 1) (s 0 9)) fun r5 =>
  if r1 ≤ r5 then (fX1_isBreach_j33)
  else (some (1 : Int32)))
def fX4_begin_x37_93 (s_x37_93 : st_) : Option (st_) :=
  some s_x37_93
def fX4_begin_k37 (x : st_) : Option (st_) :=
  fX4_begin_x37_93 x
def fX4_begin_x66_87 (v2_b37 : Int32) (s_x66_87 : st_) : Option ((Int32 × st_) ⊕ (st_)) :=
  some (.inl ((v2_b37 + (1 : Int32)), s_x66_87))
def fX4_begin_k66 (v2_b37 : Int32) (x : st_) : Option ((Int32 × st_) ⊕ (st_)) :=
  fX4_begin_x66_87 v2_b37 x
def fX4_begin_b66 (v2_b37 : Int32) (v3_b66 : Int32) (s_b66 : st_) : Option ((Int32 × st_) ⊕ (st_)) :=
  if (6 : Int32) ≤ v3_b66 then (some (.inr s_b66))
  else (gd_ (ib_ v2_b37 6) <|
  gd_ (ib_ v3_b66 6) <|
  bd_ (pt_ s_b66 (1 * ix_ v2_b37 + 14) (ix_ v3_b66) (0 : Int32)) fun s46 =>
  some (.inl ((v3_b66 + (1 : Int32)), s46)))
def fX4_begin_l66 (v2_b37 : Int32) : Nat → (Int32 × st_) → Option (st_) :=
  it_ (fun v => fX4_begin_b66 v2_b37 v.1 v.2)
def fX4_begin_b37 (v2_b37 : Int32) (s_b37 : st_) : Option ((Int32 × st_) ⊕ (st_)) :=
  if (6 : Int32) ≤ v2_b37 then (some (.inr s_b37))
  else (gd_ (ib_ v2_b37 6) <|
  bd_ (pt_ s_b37 10 (ix_ v2_b37) (0 : Int32)) fun s30 =>
  gd_ (ib_ v2_b37 6) <|
  bd_ (pt_ s30 11 (ix_ v2_b37) (0 : Int32)) fun s35 =>
  gd_ (ib_ v2_b37 6) <|
  bd_ (pt_ s35 12 (ix_ v2_b37) (0 : Int32)) fun s40 =>
  bn_ (fX4_begin_l66 v2_b37 FU_ ((0 : Int32), s40)) (fX4_begin_k66 v2_b37))
def fX4_begin_l37 : Nat → (Int32 × st_) → Option (st_) :=
  it_ (fun v => fX4_begin_b37 v.1 v.2)
def fX4_begin (s : st_) (i0 : Int32) : Option (st_) :=
  bd_ (pt_ s 0 0 i0) fun s1 =>
  bd_ (pt_ s1 0 1 (0 : Int32)) fun s5 =>
  bd_ (pt_ s5 0 9 (0 : Int32)) fun s9 =>
  bd_ (pt_ s9 0 10 (0 : Int32)) fun s13 =>
  bd_ (pt_ s13 0 11 (0 : Int32)) fun s17 =>
  bd_ (pt_ s17 0 12 (-1 : Int32)) fun s21 =>
  bd_ (pt_ s21 0 13 (0 : Int32)) fun s25 =>
  bn_ (fX4_begin_l37 FU_ ((0 : Int32), s25)) (fX4_begin_k37)
def fX4_copyFrom_x212_251 (s_x212_251 : st_) : Option (st_) :=
  some s_x212_251
def fX4_copyFrom_k212 (x : st_) : Option (st_) :=
  fX4_copyFrom_x212_251 x
def fX4_copyFrom_b212 (t : st_) (v2_b212 : Int32) (s_b212 : st_) : Option ((Int32 × st_) ⊕ (st_)) :=
  if (20 : Int32) ≤ v2_b212 then (some (.inr s_b212))
  else (gd_ (ib_ v2_b212 20) <|
  gd_ (ib_ v2_b212 20) <|
  gd_ (ib_ v2_b212 20) <|
  bd_ (rw_ s_b212 (1 * ix_ v2_b212 + 21) (va_cpy (t (1 * ix_ v2_b212 + 21)) (s_b212 (1 * ix_ v2_b212 + 21)) 0 0 5)) fun s48 =>
  some (.inl ((v2_b212 + (1 : Int32)), s48)))
def fX4_copyFrom_l212 (t : st_) : Nat → (Int32 × st_) → Option (st_) :=
  it_ (fun v => fX4_copyFrom_b212 t v.1 v.2)
def fX4_copyFrom_x171_210 (t : st_) (s_x171_210 : st_) : Option (st_) :=
  bn_ (fX4_copyFrom_l212 t FU_ ((0 : Int32), s_x171_210)) (fX4_copyFrom_k212)
def fX4_copyFrom_k171 (t : st_) (x : st_) : Option (st_) :=
  fX4_copyFrom_x171_210 t x
def fX4_copyFrom_b171 (t : st_) (v2_b171 : Int32) (s_b171 : st_) : Option ((Int32 × st_) ⊕ (st_)) :=
  if (6 : Int32) ≤ v2_b171 then (some (.inr s_b171))
  else (gd_ (ib_ v2_b171 6) <|
  gd_ (ib_ v2_b171 6) <|
  gd_ (ib_ v2_b171 6) <|
  bd_ (rw_ s_b171 (1 * ix_ v2_b171 + 14) (va_cpy (t (1 * ix_ v2_b171 + 14)) (s_b171 (1 * ix_ v2_b171 + 14)) 0 0 6)) fun s55 =>
  some (.inl ((v2_b171 + (1 : Int32)), s55)))
def fX4_copyFrom_l171 (t : st_) : Nat → (Int32 × st_) → Option (st_) :=
  it_ (fun v => fX4_copyFrom_b171 t v.1 v.2)
def fX4_copyFrom_x58_97 (t : st_) (s_x58_97 : st_) : Option (st_) :=
  bd_ (rw_ s_x58_97 9 (va_cpy (t 9) (s_x58_97 9) 0 0 1000)) fun s29 =>
  bd_ (rw_ s29 10 (va_cpy (t 10) (s29 10) 0 0 6)) fun s33 =>
  bd_ (rw_ s33 11 (va_cpy (t 11) (s33 11) 0 0 6)) fun s37 =>
  bd_ (rw_ s37 12 (va_cpy (t 12) (s37 12) 0 0 6)) fun s41 =>
  bn_ (fX4_copyFrom_l171 t FU_ ((0 : Int32), s41)) (fX4_copyFrom_k171 t)
def fX4_copyFrom_k58 (t : st_) (x : st_) : Option (st_) :=
  fX4_copyFrom_x58_97 t x
def fX4_copyFrom_b58 (t : st_) (v2_b58 : Int32) (s_b58 : st_) : Option ((Int32 × st_) ⊕ (st_)) :=
  if (7 : Int32) ≤ v2_b58 then (some (.inr s_b58))
  else (gd_ (ib_ v2_b58 7) <|
  gd_ (ib_ v2_b58 7) <|
  gd_ (ib_ v2_b58 7) <|
  bd_ (rw_ s_b58 (1 * ix_ v2_b58 + 2) (va_cpy (t (1 * ix_ v2_b58 + 2)) (s_b58 (1 * ix_ v2_b58 + 2)) 0 0 1001)) fun s62 =>
  some (.inl ((v2_b58 + (1 : Int32)), s62)))
def fX4_copyFrom_l58 (t : st_) : Nat → (Int32 × st_) → Option (st_) :=
  it_ (fun v => fX4_copyFrom_b58 t v.1 v.2)
def fX4_copyFrom (s : st_) (t : st_) : Option (st_) :=
  bd_ (pt_ s 0 0 (t 0 0)) fun s1 =>
  bd_ (pt_ s1 0 1 (t 0 1)) fun s5 =>
  bd_ (pt_ s5 0 9 (t 0 9)) fun s9 =>
  bd_ (pt_ s9 0 10 (t 0 10)) fun s13 =>
  bd_ (pt_ s13 0 11 (t 0 11)) fun s17 =>
  bd_ (pt_ s17 0 12 (t 0 12)) fun s21 =>
  bd_ (pt_ s21 0 13 (t 0 13)) fun s25 =>
  bn_ (fX4_copyFrom_l58 t FU_ ((0 : Int32), s25)) (fX4_copyFrom_k58 t)
def fX4_noteSwaps_x17_57 (s_x17_57 : st_) : Option (st_) :=
  some s_x17_57
def fX4_noteSwaps_k17 (x : st_) : Option (st_) :=
  fX4_noteSwaps_x17_57 x
def fX4_noteSwaps_b17 (t : st_) (v2_b17 : Int32) (s_b17 : st_) : Option ((Int32 × st_) ⊕ (st_)) :=
  if (s_b17 0 0) ≤ v2_b17 then (some (.inr s_b17))
  else (gd_ (ib_ (t 0 12) 6) <|
  gd_ (ib_ v2_b17 6) <|
  bn_ (fX0_costBy (sb_ t 5) (sb_ t 1) v2_b17) fun r7 =>
  gd_ (ib_ v2_b17 6) <|
  bd_ (pt_ s_b17 (1 * ix_ (t 0 12) + 14) (ix_ v2_b17) ((s_b17 (1 * ix_ (t 0 12) + 14) (ix_ v2_b17)) + r7)) fun s12 =>
  some (.inl ((v2_b17 + (1 : Int32)), s12)))
def fX4_noteSwaps_l17 (t : st_) : Nat → (Int32 × st_) → Option (st_) :=
  it_ (fun v => fX4_noteSwaps_b17 t v.1 v.2)
def fX4_noteSwaps (s : st_) (t : st_) : Option (st_) :=
  bn_ (fX5_hasRule (sb_ t 1) (t 0 12)) fun r1 =>
  if r1 = (0 : Int32) then (some s)
  else (bn_ (fX4_noteSwaps_l17 t FU_ ((0 : Int32), s)) (fX4_noteSwaps_k17))
def fX4_noteRegret_j51 (s_j25 : st_) (z1_j51 : Int32) : Option (st_) :=
  bd_ (pt_ s_j25 0 12 z1_j51) fun s9 =>
  bd_ (pt_ s9 0 10 ((s9 0 10) + (1 : Int32))) fun s13 =>
  some s13
def fX4_noteRegret_j25 (t : st_) (s_j25 : st_) : Option (st_) :=
  bn_ (fX1_isBreach t) fun r5 =>
  if r5 = (0 : Int32) then (some s_j25)
  else (if (s_j25 0 10) = (0 : Int32) then (fX4_noteRegret_j51 s_j25 (s_j25 0 1))
  else (fX4_noteRegret_j51 s_j25 (s_j25 0 12)))
def fX4_noteRegret_j20 (s : st_) (t : st_) (r1 : Int32) : Option (st_) :=
  bd_ (pt_ s 0 11 r1) fun s17 =>
  fX4_noteRegret_j25 t s17
def fX4_noteRegret (s : st_) (t : st_) : Option (st_) :=
  bn_ (fX1_regretNow t) fun r1 =>
  if (s 0 1) = (0 : Int32) then (fX4_noteRegret_j20 s t r1)
  else (if r1 ≤ (s 0 11) then (fX4_noteRegret_j25 t s)
  else (fX4_noteRegret_j20 s t r1))
def fX4_noteServed (s : st_) (t : st_) (i0 : Int32) : Option (st_) :=
  if (t 0 10) = (-1 : Int32) then (some s)
  else (gd_ (ib_ ((s 0 9) - (s 0 9) / (20 : Int32) * (20 : Int32)) 20) <|
  gd_ (ib_ (0 : Int32) 5) <|
  bd_ (pt_ s (1 * ix_ ((s 0 9) - (s 0 9) / (20 : Int32) * (20 : Int32)) + 21) (ix_ (0 : Int32)) (s 0 1)) fun s3 =>
  gd_ (ib_ (1 : Int32) 5) <|
  bd_ (pt_ s3 (1 * ix_ ((s 0 9) - (s 0 9) / (20 : Int32) * (20 : Int32)) + 21) (ix_ (1 : Int32)) (t 0 10)) fun s8 =>
  gd_ (ib_ (2 : Int32) 5) <|
  bd_ (pt_ s8 (1 * ix_ ((s 0 9) - (s 0 9) / (20 : Int32) * (20 : Int32)) + 21) (ix_ (2 : Int32)) (t 0 11)) fun s13 =>
  gd_ (ib_ (3 : Int32) 5) <|
  bd_ (pt_ s13 (1 * ix_ ((s 0 9) - (s 0 9) / (20 : Int32) * (20 : Int32)) + 21) (ix_ (3 : Int32)) (t 0 9)) fun s18 =>
  gd_ (ib_ (4 : Int32) 5) <|
  bd_ (pt_ s18 (1 * ix_ ((s 0 9) - (s 0 9) / (20 : Int32) * (20 : Int32)) + 21) (ix_ (4 : Int32)) i0) fun s23 =>
  bd_ (pt_ s23 0 9 ((s23 0 9) + (1 : Int32))) fun s27 =>
  some s27)
def fX4_noteRound_x139_174 (s_x139_174 : st_) : Option (st_) :=
  some s_x139_174
def fX4_noteRound_k139 (x : st_) : Option (st_) :=
  fX4_noteRound_x139_174 x
def fX4_noteRound_b139 (t : st_) (v3_b139 : Int32) (s_b139 : st_) : Option ((Int32 × st_) ⊕ (st_)) :=
  if (s_b139 0 0) < v3_b139 then (some (.inr s_b139))
  else (gd_ (ib_ v3_b139 7) <|
  bn_ (fX1_armOf t (v3_b139 - (1 : Int32))) fun r49 =>
  gd_ (ib_ (s_b139 0 1) 1001) <|
  bd_ (pt_ s_b139 (1 * ix_ v3_b139 + 2) (ix_ (s_b139 0 1)) (t (r49) 5)) fun s54 =>
  some (.inl ((v3_b139 + (1 : Int32)), s54)))
def fX4_noteRound_l139 (t : st_) : Nat → (Int32 × st_) → Option (st_) :=
  it_ (fun v => fX4_noteRound_b139 t v.1 v.2)
def fX4_noteRound_j113 (t : st_) (s_j113 : st_) : Option (st_) :=
  bn_ (fX4_noteRegret s_j113 t) fun r36 =>
  bn_ (fX4_noteServed r36 (sb_ t 5) (t 0 12)) fun r40 =>
  bd_ (pt_ r40 0 1 ((r40 0 1) + (1 : Int32))) fun s44 =>
  bn_ (fX4_noteRound_l139 t FU_ ((0 : Int32), s44)) (fX4_noteRound_k139)
def fX4_noteRound (s : st_) (t : st_) : Option (st_) :=
  if (1000 : Int32) ≤ (s 0 1) then (some s)
  else (bn_ (fX5_hasRule (sb_ t 1) (t 0 12)) fun r1 =>
  if r1 = (0 : Int32) then (some s)
  else (gd_ (ib_ (s 0 1) 1000) <|
  bd_ (pt_ s 9 (ix_ (s 0 1)) (t 0 12)) fun s6 =>
  gd_ (ib_ (t 0 12) 6) <|
  gd_ (ib_ (t 0 12) 6) <|
  bd_ (pt_ s6 10 (ix_ (t 0 12)) ((s6 10 (ix_ (t 0 12))) + (1 : Int32))) fun s12 =>
  gd_ (ib_ (t 0 12) 6) <|
  gd_ (ib_ (t 0 12) 6) <|
  bd_ (pt_ s12 11 (ix_ (t 0 12)) ((s12 11 (ix_ (t 0 12))) + (t 5 9))) fun s18 =>
  bn_ (fX1_cheapestRule t) fun r22 =>
  gd_ (ib_ r22 6) <|
  gd_ (ib_ r22 6) <|
  bd_ (pt_ s18 12 (ix_ r22) ((s18 12 (ix_ r22)) + (1 : Int32))) fun s28 =>
  bn_ (fX5_hasRival (sb_ t 1)) fun r32 =>
  if r32 = (0 : Int32) then (fX4_noteRound_j113 t s28)
  else (if (t 5 9) ≤ (t 8 9) then (fX4_noteRound_j113 t s28)
  else (bd_ (pt_ s28 0 13 ((s28 0 13) + (1 : Int32))) fun s58 =>
  fX4_noteRound_j113 t s58))))
def fX4_servedAt (s : st_) (i0 : Int32) (i1 : Int32) : Option (Int32) :=
  if i0 < (0 : Int32) then (some (-1 : Int32))
  else (if (s 0 9) ≤ i0 then (some (-1 : Int32))
  else (if (20 : Int32) ≤ i0 then (some (-1 : Int32))
  else (if i1 < (0 : Int32) then (some (-1 : Int32))
  else (if i1 < (5 : Int32) then (gd_ (ib_ ((((s 0 9) - (1 : Int32)) - i0) - (((s 0 9) - (1 : Int32)) - i0) / (20 : Int32) * (20 : Int32)) 20) <|
  gd_ (ib_ i1 5) <|
  some (s (1 * ix_ ((((s 0 9) - (1 : Int32)) - i0) - (((s 0 9) - (1 : Int32)) - i0) / (20 : Int32) * (20 : Int32)) + 21) (ix_ i1)))
  else (some (-1 : Int32))))))
def fX4_hasRounds_j30 : Option (Int32) :=
  some (0 : Int32)
def fX4_hasRounds (s : st_) (i0 : Int32) (i1 : Int32) : Option (Int32) :=
  if i0 < (0 : Int32) then (fX4_hasRounds_j30)
  else (if i1 < (0 : Int32) then (fX4_hasRounds_j30)
  else (if (s 0 1) < i1 then (fX4_hasRounds_j30)
  else (if ((s 0 1) - i1) < i0 then (fX4_hasRounds_j30)
  else (some (1 : Int32)))))
def fX4_paidIn (s : st_) (i0 : Int32) (i1 : Int32) (i2 : Int32) : Option (Int32) :=
  if (i0 + (1 : Int32)) < (0 : Int32) then (some (0 : Int32))
  else (if (s 0 0) < (i0 + (1 : Int32)) then (some (0 : Int32))
  else (if i1 < (0 : Int32) then (some (0 : Int32))
  else (if (s 0 1) < i2 then (some (0 : Int32))
  else (if i1 ≤ i2 then (gd_ (ib_ (i0 + (1 : Int32)) 7) <|
  gd_ (ib_ i2 1001) <|
  gd_ (ib_ (i0 + (1 : Int32)) 7) <|
  gd_ (ib_ i1 1001) <|
  some ((s (1 * ix_ (i0 + (1 : Int32)) + 2) (ix_ i2)) - (s (1 * ix_ (i0 + (1 : Int32)) + 2) (ix_ i1))))
  else (some (0 : Int32))))))
def fX4_cheapestIn_x5_41 (v3_x5_41 : Int32) : Option (Int32) :=
  some v3_x5_41
def fX4_cheapestIn_k5 (x : Int32) : Option (Int32) :=
  fX4_cheapestIn_x5_41 x
def fX4_cheapestIn_j35 (v4_b5 : Int32) (v3_j35 : Int32) : Option ((Int32 × Int32) ⊕ (Int32)) :=
  some (.inl (v3_j35, (v4_b5 + (1 : Int32))))
def fX4_cheapestIn_b5 (s : st_) (i0 : Int32) (i1 : Int32) (v3_b5 : Int32) (v4_b5 : Int32) : Option ((Int32 × Int32) ⊕ (Int32)) :=
  if (s 0 0) ≤ v4_b5 then (some (.inr v3_b5))
  else (bn_ (fX4_paidIn s v4_b5 i0 i1) fun r1 =>
  bn_ (fX4_paidIn s v3_b5 i0 i1) fun r5 =>
  if r5 ≤ r1 then (fX4_cheapestIn_j35 v4_b5 v3_b5)
  else (fX4_cheapestIn_j35 v4_b5 v4_b5))
def fX4_cheapestIn_l5 (s : st_) (i0 : Int32) (i1 : Int32) : Nat → (Int32 × Int32) → Option (Int32) :=
  it_ (fun v => fX4_cheapestIn_b5 s i0 i1 v.1 v.2)
def fX4_cheapestIn (s : st_) (i0 : Int32) (i1 : Int32) : Option (Int32) :=
  bn_ (fX4_cheapestIn_l5 s i0 i1 FU_ ((0 : Int32), (1 : Int32))) (fX4_cheapestIn_k5)
def fX4_regretOver (s : st_) (i0 : Int32) (i1 : Int32) : Option (Int32) :=
  bn_ (fX4_paidIn s (-1 : Int32) i0 i1) fun r1 =>
  bn_ (fX4_cheapestIn s i0 i1) fun r5 =>
  bn_ (fX4_paidIn s r5 i0 i1) fun r9 =>
  some (r1 - r9)
def fX4_splitCost (s : st_) (i0 : Int32) : Option (Int32) :=
  bn_ (fX4_cheapestIn s (0 : Int32) i0) fun r1 =>
  bn_ (fX4_paidIn s r1 (0 : Int32) i0) fun r5 =>
  bn_ (fX4_cheapestIn s i0 (s 0 1)) fun r9 =>
  bn_ (fX4_paidIn s r9 i0 (s 0 1)) fun r13 =>
  some (r5 + r13)
def fX4_bestSplit_x10_42 (v1_x10_42 : Int32) : Option (Int32) :=
  some v1_x10_42
def fX4_bestSplit_k10 (x : Int32) : Option (Int32) :=
  fX4_bestSplit_x10_42 x
def fX4_bestSplit_j36 (v3_b10 : Int32) (v1_j36 : Int32) (v2_j36 : Int32) : Option ((Int32 × Int32 × Int32) ⊕ (Int32)) :=
  some (.inl (v1_j36, v2_j36, (v3_b10 + (1 : Int32))))
def fX4_bestSplit_b10 (s : st_) (v1_b10 : Int32) (v2_b10 : Int32) (v3_b10 : Int32) : Option ((Int32 × Int32 × Int32) ⊕ (Int32)) :=
  if (s 0 1) < v3_b10 then (some (.inr v1_b10))
  else (bn_ (fX4_splitCost s v3_b10) fun r5 =>
  if v2_b10 ≤ r5 then (fX4_bestSplit_j36 v3_b10 v1_b10 v2_b10)
  else (fX4_bestSplit_j36 v3_b10 v3_b10 r5))
def fX4_bestSplit_l10 (s : st_) : Nat → (Int32 × Int32 × Int32) → Option (Int32) :=
  it_ (fun v => fX4_bestSplit_b10 s v.1 v.2.1 v.2.2)
def fX4_bestSplit (s : st_) : Option (Int32) :=
  bn_ (fX4_splitCost s (0 : Int32)) fun r1 =>
  bn_ (fX4_bestSplit_l10 s FU_ ((0 : Int32), r1, (1 : Int32))) (fX4_bestSplit_k10)
def fX4_cheapestSwap_x4_39 (v2_x4_39 : Int32) : Option (Int32) :=
  some v2_x4_39
def fX4_cheapestSwap_k4 (x : Int32) : Option (Int32) :=
  fX4_cheapestSwap_x4_39 x
def fX4_cheapestSwap_j33 (v3_b4 : Int32) (v2_j33 : Int32) : Option ((Int32 × Int32) ⊕ (Int32)) :=
  some (.inl (v2_j33, (v3_b4 + (1 : Int32))))
def fX4_cheapestSwap_b4 (s : st_) (i0 : Int32) (v2_b4 : Int32) (v3_b4 : Int32) : Option ((Int32 × Int32) ⊕ (Int32)) :=
  if (s 0 0) ≤ v3_b4 then (some (.inr v2_b4))
  else (gd_ (ib_ i0 6) <|
  gd_ (ib_ v3_b4 6) <|
  gd_ (ib_ i0 6) <|
  gd_ (ib_ v2_b4 6) <|
  if (s (1 * ix_ i0 + 14) (ix_ v2_b4)) ≤ (s (1 * ix_ i0 + 14) (ix_ v3_b4)) then (fX4_cheapestSwap_j33 v3_b4 v2_b4)
  else (fX4_cheapestSwap_j33 v3_b4 v3_b4))
def fX4_cheapestSwap_l4 (s : st_) (i0 : Int32) : Nat → (Int32 × Int32) → Option (Int32) :=
  it_ (fun v => fX4_cheapestSwap_b4 s i0 v.1 v.2)
def fX4_cheapestSwap (s : st_) (i0 : Int32) : Option (Int32) :=
  bn_ (fX4_cheapestSwap_l4 s i0 FU_ ((0 : Int32), (1 : Int32))) (fX4_cheapestSwap_k4)
def fX2_begin (s : st_) (t : st_) : Option (st_) :=
  bn_ (fX1_begin (sb_ s 1) t) fun r1 =>
  bd_ (mg_ s 1 33 r1) fun s5 =>
  bn_ (fX4_begin (sb_ s5 34) (t 0 4)) fun r7 =>
  bd_ (mg_ s5 34 41 r7) fun s11 =>
  some s11
def fX2_copyFrom (s : st_) (t : st_) : Option (st_) :=
  bn_ (fX1_copyFrom (sb_ s 1) (sb_ t 1)) fun r1 =>
  bd_ (mg_ s 1 33 r1) fun s5 =>
  bn_ (fX4_copyFrom (sb_ s5 34) (sb_ t 34)) fun r7 =>
  bd_ (mg_ s5 34 41 r7) fun s11 =>
  some s11
def fX2_makeRound (s : st_) : Option (st_) :=
  bn_ (fX1_moveFoe (sb_ s 1)) fun r1 =>
  bd_ (mg_ s 1 33 r1) fun s5 =>
  bn_ (fX1_takeRules (sb_ s5 1)) fun r7 =>
  bd_ (mg_ s5 1 33 r7) fun s11 =>
  bn_ (fX4_noteSwaps (sb_ s11 34) (sb_ s11 1)) fun r13 =>
  bd_ (mg_ s11 34 41 r13) fun s17 =>
  bn_ (fX1_serveAll (sb_ s17 1)) fun r19 =>
  bd_ (mg_ s17 1 33 r19) fun s23 =>
  bn_ (fX4_noteRound (sb_ s23 34) (sb_ s23 1)) fun r25 =>
  bd_ (mg_ s23 34 41 r25) fun s29 =>
  some s29
def fX6_costOver (s : st_) (t : st_) (i0 : Int32) (i1 : Int32) (i2 : Int32) : Option (Int32) :=
  gd_ (ib_ i1 9) <|
  gd_ (ib_ i2 9) <|
  bn_ (fX5_priceOf t (s 1 (ix_ i1)) (s 1 (ix_ i2))) fun r3 =>
  gd_ (ib_ (((i0 ||| ((1 : Int32) <<< (i2 &&& 31))) * (9 : Int32)) + i2) 2304) <|
  some (r3 + (s 2 (ix_ (((i0 ||| ((1 : Int32) <<< (i2 &&& 31))) * (9 : Int32)) + i2))))
def fX6_nextOf_x9_65 (v4_x9_65 : Int32) : Option (Int32) :=
  some v4_x9_65
def fX6_nextOf_k9 (x : Int32) : Option (Int32) :=
  fX6_nextOf_x9_65 x
def fX6_nextOf_j59 (v6_b9 : Int32) (v4_j59 : Int32) (v5_j59 : Int32) : Option ((Int32 × Int32 × Int32) ⊕ (Int32)) :=
  some (.inl (v4_j59, v5_j59, (v6_b9 + (1 : Int32))))
def fX6_nextOf_j51 (v6_b9 : Int32) (r1 : Int32) : Option ((Int32 × Int32 × Int32) ⊕ (Int32)) :=
  fX6_nextOf_j59 v6_b9 v6_b9 r1
def fX6_nextOf_b9 (s : st_) (t : st_) (i0 : Int32) (i1 : Int32) (v4_b9 : Int32) (v5_b9 : Int32) (v6_b9 : Int32) : Option ((Int32 × Int32 × Int32) ⊕ (Int32)) :=
  if (s 0 0) ≤ v6_b9 then (some (.inr v4_b9))
  else (if (i0 &&& ((1 : Int32) <<< (v6_b9 &&& 31))) = (0 : Int32) then (bn_ (fX6_costOver s t i0 i1 v6_b9) fun r1 =>
  if v4_b9 = (-1 : Int32) then (fX6_nextOf_j51 v6_b9 r1)
  else (if v5_b9 ≤ r1 then (fX6_nextOf_j59 v6_b9 v4_b9 v5_b9)
  else (fX6_nextOf_j51 v6_b9 r1)))
  else (fX6_nextOf_j59 v6_b9 v4_b9 v5_b9))
def fX6_nextOf_l9 (s : st_) (t : st_) (i0 : Int32) (i1 : Int32) : Nat → (Int32 × Int32 × Int32) → Option (Int32) :=
  it_ (fun v => fX6_nextOf_b9 s t i0 i1 v.1 v.2.1 v.2.2)
def fX6_nextOf (s : st_) (t : st_) (i0 : Int32) (i1 : Int32) : Option (Int32) :=
  bn_ (fX6_nextOf_l9 s t i0 i1 FU_ ((-1 : Int32), (0 : Int32), (0 : Int32))) (fX6_nextOf_k9)
def fX6_plan_x80_154 (s_x80_154 : st_) : Option (st_) :=
  some s_x80_154
def fX6_plan_k80 (x : st_) : Option (st_) :=
  fX6_plan_x80_154 x
def fX6_plan_x88_148 (v5_b80 : Int32) (s_x88_148 : st_) : Option ((Int32 × st_) ⊕ (st_)) :=
  some (.inl ((v5_b80 + (-1 : Int32)), s_x88_148))
def fX6_plan_k88 (v5_b80 : Int32) (x : st_) : Option ((Int32 × st_) ⊕ (st_)) :=
  fX6_plan_x88_148 v5_b80 x
def fX6_plan_j141 (v5_b80 : Int32) (v6_b88 : Int32) (s_b88 : st_) (z2_j141 : Int32) : Option ((Int32 × st_) ⊕ (st_)) :=
  gd_ (ib_ ((v5_b80 * (9 : Int32)) + v6_b88) 2304) <|
  bd_ (pt_ s_b88 2 (ix_ ((v5_b80 * (9 : Int32)) + v6_b88)) z2_j141) fun s15 =>
  some (.inl ((v6_b88 + (1 : Int32)), s15))
def fX6_plan_b88 (t : st_) (v5_b80 : Int32) (v6_b88 : Int32) (s_b88 : st_) : Option ((Int32 × st_) ⊕ (st_)) :=
  if (s_b88 0 0) < v6_b88 then (some (.inr s_b88))
  else (bn_ (fX6_nextOf s_b88 t v5_b80 v6_b88) fun r10 =>
  if r10 = (-1 : Int32) then (fX6_plan_j141 v5_b80 v6_b88 s_b88 (0 : Int32))
  else (bn_ (fX6_costOver s_b88 t v5_b80 v6_b88 r10) fun r19 =>
  fX6_plan_j141 v5_b80 v6_b88 s_b88 r19))
def fX6_plan_l88 (t : st_) (v5_b80 : Int32) : Nat → (Int32 × st_) → Option (st_) :=
  it_ (fun v => fX6_plan_b88 t v5_b80 v.1 v.2)
def fX6_plan_b80 (t : st_) (v5_b80 : Int32) (s_b80 : st_) : Option ((Int32 × st_) ⊕ (st_)) :=
  if v5_b80 < (0 : Int32) then (some (.inr s_b80))
  else (bn_ (fX6_plan_l88 t v5_b80 FU_ ((0 : Int32), s_b80)) (fX6_plan_k88 v5_b80))
def fX6_plan_l80 (t : st_) : Nat → (Int32 × st_) → Option (st_) :=
  it_ (fun v => fX6_plan_b80 t v.1 v.2)
def fX6_plan_x24_53 (t : st_) (u : st_) (s_x24_53 : st_) : Option (st_) :=
  gd_ (ib_ (s_x24_53 0 0) 9) <|
  bd_ (pt_ s_x24_53 1 (ix_ (s_x24_53 0 0)) (u 0 0)) fun s6 =>
  bn_ (fX6_plan_l80 t FU_ ((((1 : Int32) <<< ((s6 0 0) &&& 31)) - (1 : Int32)), s6)) (fX6_plan_k80)
def fX6_plan_k24 (t : st_) (u : st_) (x : st_) : Option (st_) :=
  fX6_plan_x24_53 t u x
def fX6_plan_b24 (u : st_) (v4_b24 : Int32) (s_b24 : st_) : Option ((Int32 × st_) ⊕ (st_)) :=
  if (s_b24 0 0) ≤ v4_b24 then (some (.inr s_b24))
  else (gd_ (ib_ v4_b24 20) <|
  gd_ (ib_ v4_b24 9) <|
  bd_ (pt_ s_b24 1 (ix_ v4_b24) (u 1 (ix_ v4_b24))) fun s25 =>
  some (.inl ((v4_b24 + (1 : Int32)), s25)))
def fX6_plan_l24 (u : st_) : Nat → (Int32 × st_) → Option (st_) :=
  it_ (fun v => fX6_plan_b24 u v.1 v.2)
def fX6_plan (s : st_) (t : st_) (u : st_) (i0 : Int32) : Option (st_) :=
  bd_ (pt_ s 0 0 (if (0 : Int32) < (if (if (8 : Int32) < (u 0 2) then (8 : Int32) else (u 0 2)) < i0 then (if (8 : Int32) < (u 0 2) then (8 : Int32) else (u 0 2)) else i0) then (if (if (8 : Int32) < (u 0 2) then (8 : Int32) else (u 0 2)) < i0 then (if (8 : Int32) < (u 0 2) then (8 : Int32) else (u 0 2)) else i0) else (0 : Int32))) fun s1 =>
  bn_ (fX6_plan_l24 u FU_ ((0 : Int32), s1)) (fX6_plan_k24 t u)
def fX6_leastCost (s : st_) : Option (Int32) :=
  gd_ (ib_ (s 0 0) 2304) <|
  some (s 2 (ix_ (s 0 0)))
def fX6_requestAt_x11_61 (v4_x11_61 : Int32) : Option (Int32) :=
  some v4_x11_61
def fX6_requestAt_x11_42 : Option (Int32) :=
  some (-1 : Int32)
def fX6_requestAt_k11 (x : (Unit) ⊕ (Int32)) : Option (Int32) :=
  Sum.elim (fun z => fX6_requestAt_x11_42) (fun z => fX6_requestAt_x11_61 z) x
def fX6_requestAt_b11 (s : st_) (t : st_) (i0 : Int32) (v3_b11 : Int32) (v4_b11 : Int32) (v5_b11 : Int32) : Option ((Int32 × Int32 × Int32) ⊕ ((Unit) ⊕ (Int32))) :=
  if i0 < v5_b11 then (some (.inr (.inr v4_b11)))
  else (if (s 0 0) ≤ v5_b11 then (some (.inr (.inr v4_b11)))
  else (bn_ (fX6_nextOf s t v3_b11 v4_b11) fun r1 =>
  if r1 = (-1 : Int32) then (some (.inr (.inl ())))
  else (some (.inl ((v3_b11 ||| ((1 : Int32) <<< (r1 &&& 31))), r1, (v5_b11 + (1 : Int32)))))))
def fX6_requestAt_l11 (s : st_) (t : st_) (i0 : Int32) : Nat → (Int32 × Int32 × Int32) → Option ((Unit) ⊕ (Int32)) :=
  it_ (fun v => fX6_requestAt_b11 s t i0 v.1 v.2.1 v.2.2)
def fX6_requestAt (s : st_) (t : st_) (i0 : Int32) : Option (Int32) :=
  bn_ (fX6_requestAt_l11 s t i0 FU_ ((0 : Int32), (s 0 0), (0 : Int32))) (fX6_requestAt_k11)
def fX3_skipSpaces_x0_38 (s_x0_38 : st_) : Option (st_) :=
  some s_x0_38
def fX3_skipSpaces_k0 (x : st_) : Option (st_) :=
  fX3_skipSpaces_x0_38 x
def fX3_skipSpaces_b0 (s_b0 : st_) : Option ((st_) ⊕ (st_)) :=
  if (s_b0 1 2) ≤ (s_b0 1 3) then (some (.inr s_b0))
  else (gd_ (tx_ (s_b0 1 1)) <|
  gd_ (ib_ (s_b0 1 3) 500) <|
  if (s_b0 0 (ix_ (s_b0 1 3))) = (32 : Int32) then (bd_ (pt_ s_b0 1 3 ((s_b0 1 3) + (1 : Int32))) fun s3 =>
  some (.inl s3))
  else (some (.inr s_b0)))
def fX3_skipSpaces_l0 : Nat → st_ → Option (st_) :=
  it_ (fun v => fX3_skipSpaces_b0 v)
def fX3_skipSpaces (s : st_) : Option (st_) :=
  bn_ (fX3_skipSpaces_l0 FU_ s) (fX3_skipSpaces_k0)
def fX3_isToken_x32_71 : Option (Int32) :=
  some (1 : Int32)
def fX3_isToken_x32_63 : Option (Int32) :=
  some (0 : Int32)
def fX3_isToken_k32 (x : (Unit) ⊕ (Unit)) : Option (Int32) :=
  Sum.elim (fun z => fX3_isToken_x32_63) (fun z => fX3_isToken_x32_71) x
def fX3_isToken_b32 (s : st_) (w0 : Nat) (i1 : Int32) (i2 : Int32) (v4_b32 : Int32) : Option ((Int32) ⊕ ((Unit) ⊕ (Unit))) :=
  if (i2 - i1) ≤ v4_b32 then (some (.inr (.inr ())))
  else (gd_ (sw_ w0) <|
  gd_ (ib_ (i1 + v4_b32) (sb_y w0).length) <|
  gd_ (tx_ (s 1 1)) <|
  gd_ (ib_ ((s 1 4) + v4_b32) 500) <|
  if (sch_ w0 (i1 + v4_b32)) = (s 0 (ix_ ((s 1 4) + v4_b32))) then (some (.inl (v4_b32 + (1 : Int32))))
  else (some (.inr (.inl ()))))
def fX3_isToken_l32 (s : st_) (w0 : Nat) (i1 : Int32) (i2 : Int32) : Nat → Int32 → Option ((Unit) ⊕ (Unit)) :=
  it_ (fun v => fX3_isToken_b32 s w0 i1 i2 v)
def fX3_isToken (s : st_) (w0 : Nat) (i1 : Int32) (i2 : Int32) : Option (Int32) :=
  if i1 < (0 : Int32) then (some (0 : Int32))
  else (gd_ (sw_ w0) <|
  if (sl_ w0) < i2 then (some (0 : Int32))
  else (if (i2 - i1) = ((s 1 3) - (s 1 4)) then (bn_ (fX3_isToken_l32 s w0 i1 i2 FU_ (0 : Int32)) (fX3_isToken_k32))
  else (some (0 : Int32))))
def fX3_placeIn_x7_63 : Option (Int32) :=
  some (-1 : Int32)
def fX3_placeIn_x7_47 (v2_x7_47 : Int32) : Option (Int32) :=
  some v2_x7_47
def fX3_placeIn_k7 (x : (Int32) ⊕ (Unit)) : Option (Int32) :=
  Sum.elim (fun z => fX3_placeIn_x7_47 z) (fun z => fX3_placeIn_x7_63) x
def fX3_placeIn_j57 (v4_b7 : Int32) (v2_j57 : Int32) (v3_j57 : Int32) : Option ((Int32 × Int32 × Int32) ⊕ ((Int32) ⊕ (Unit))) :=
  some (.inl (v2_j57, v3_j57, (v4_b7 + (1 : Int32))))
def fX3_placeIn_j36 (s : st_) (w0 : Nat) (v2_b7 : Int32) (v3_b7 : Int32) (v4_b7 : Int32) : Option ((Int32 × Int32 × Int32) ⊕ ((Int32) ⊕ (Unit))) :=
  bn_ (fX3_isToken s w0 v3_b7 v4_b7) fun r7 =>
  if r7 = (0 : Int32) then (fX3_placeIn_j57 v4_b7 (v2_b7 + (1 : Int32)) (v4_b7 + (1 : Int32)))
  else (some (.inr (.inl v2_b7)))
def fX3_placeIn_b7 (s : st_) (w0 : Nat) (v2_b7 : Int32) (v3_b7 : Int32) (v4_b7 : Int32) : Option ((Int32 × Int32 × Int32) ⊕ ((Int32) ⊕ (Unit))) :=
  gd_ (sw_ w0) <|
  if (sl_ w0) < v4_b7 then (some (.inr (.inr ())))
  else (gd_ (sw_ w0) <|
  if v4_b7 = (sl_ w0) then (fX3_placeIn_j36 s w0 v2_b7 v3_b7 v4_b7)
  else (gd_ (sw_ w0) <|
  gd_ (ib_ v4_b7 (sb_y w0).length) <|
  if (sch_ w0 v4_b7) = (32 : Int32) then (fX3_placeIn_j36 s w0 v2_b7 v3_b7 v4_b7)
  else (fX3_placeIn_j57 v4_b7 v2_b7 v3_b7)))
def fX3_placeIn_l7 (s : st_) (w0 : Nat) : Nat → (Int32 × Int32 × Int32) → Option ((Int32) ⊕ (Unit)) :=
  it_ (fun v => fX3_placeIn_b7 s w0 v.1 v.2.1 v.2.2)
def fX3_placeIn (s : st_) (w0 : Nat) : Option (Int32) :=
  bn_ (fX3_placeIn_l7 s w0 FU_ ((0 : Int32), (0 : Int32), (0 : Int32))) (fX3_placeIn_k7)
def fX3_fail (s : st_) (i0 : Int32) (i1 : Int32) : Option (st_) :=
  if (s 1 5) = (0 : Int32) then (bd_ (pt_ s 1 5 i0) fun s1 =>
  bd_ (pt_ s1 1 6 i1) fun s5 =>
  some s5)
  else (some s)
def fX3_readWord_x21_73 (w0 : Nat) (s_x21_73 : st_) : Option (st_ × Int32) :=
  bn_ (fX3_placeIn s_x21_73 w0) fun r9 =>
  if r9 = (-1 : Int32) then (bn_ (fX3_fail s_x21_73 (1 : Int32) (s_x21_73 1 4)) fun r13 =>
  some (r13, r9))
  else (some (s_x21_73, r9))
def fX3_readWord_k21 (w0 : Nat) (x : st_) : Option (st_ × Int32) :=
  fX3_readWord_x21_73 w0 x
def fX3_readWord_b21 (s_b21 : st_) : Option ((st_) ⊕ (st_)) :=
  if (s_b21 1 2) ≤ (s_b21 1 3) then (some (.inr s_b21))
  else (gd_ (tx_ (s_b21 1 1)) <|
  gd_ (ib_ (s_b21 1 3) 500) <|
  if (s_b21 0 (ix_ (s_b21 1 3))) < (97 : Int32) then (some (.inr s_b21))
  else (gd_ (tx_ (s_b21 1 1)) <|
  gd_ (ib_ (s_b21 1 3) 500) <|
  if (122 : Int32) < (s_b21 0 (ix_ (s_b21 1 3))) then (some (.inr s_b21))
  else (bd_ (pt_ s_b21 1 3 ((s_b21 1 3) + (1 : Int32))) fun s21 =>
  some (.inl s21))))
def fX3_readWord_l21 : Nat → st_ → Option (st_) :=
  it_ (fun v => fX3_readWord_b21 v)
def fX3_readWord (s : st_) (w0 : Nat) : Option (st_ × Int32) :=
  if (s 1 5) = (0 : Int32) then (bn_ (fX3_skipSpaces s) fun r1 =>
  bd_ (pt_ r1 1 4 (r1 1 3)) fun s5 =>
  bn_ (fX3_readWord_l21 FU_ s5) (fX3_readWord_k21 w0))
  else (some (s, (-1 : Int32)))
def fX3_readNumber_j131 (v3_x23_98 : Int32) (s_x23_98 : st_) : Option (st_ × Int32) :=
  bn_ (fX3_fail s_x23_98 (2 : Int32) (s_x23_98 1 4)) fun r9 =>
  some (r9, v3_x23_98)
def fX3_readNumber_x23_98 (i0 : Int32) (i1 : Int32) (v3_x23_98 : Int32) (s_x23_98 : st_) : Option (st_ × Int32) :=
  if (s_x23_98 1 3) = (s_x23_98 1 4) then (bn_ (fX3_fail s_x23_98 (1 : Int32) (s_x23_98 1 3)) fun r13 =>
  some (r13, v3_x23_98))
  else (if v3_x23_98 < i0 then (fX3_readNumber_j131 v3_x23_98 s_x23_98)
  else (if v3_x23_98 ≤ i1 then (some (s_x23_98, v3_x23_98))
  else (fX3_readNumber_j131 v3_x23_98 s_x23_98)))
def fX3_readNumber_k23 (i0 : Int32) (i1 : Int32) (x : Int32 × st_) : Option (st_ × Int32) :=
  fX3_readNumber_x23_98 i0 i1 x.1 x.2
def fX3_readNumber_b23 (v3_b23 : Int32) (s_b23 : st_) : Option ((Int32 × st_) ⊕ (Int32 × st_)) :=
  if (s_b23 1 2) ≤ (s_b23 1 3) then (some (.inr (v3_b23, s_b23)))
  else (gd_ (tx_ (s_b23 1 1)) <|
  gd_ (ib_ (s_b23 1 3) 500) <|
  if (s_b23 0 (ix_ (s_b23 1 3))) < (48 : Int32) then (some (.inr (v3_b23, s_b23)))
  else (gd_ (tx_ (s_b23 1 1)) <|
  gd_ (ib_ (s_b23 1 3) 500) <|
  if (57 : Int32) < (s_b23 0 (ix_ (s_b23 1 3))) then (some (.inr (v3_b23, s_b23)))
  else (gd_ (tx_ (s_b23 1 1)) <|
  gd_ (ib_ (s_b23 1 3) 500) <|
  bd_ (pt_ s_b23 1 3 ((s_b23 1 3) + (1 : Int32))) fun s23 =>
  some (.inl ((if (1000000 : Int32) < (((10 : Int32) * v3_b23) + ((s_b23 0 (ix_ (s_b23 1 3))) - (48 : Int32))) then (1000000 : Int32) else (((10 : Int32) * v3_b23) + ((s_b23 0 (ix_ (s_b23 1 3))) - (48 : Int32)))), s23)))))
def fX3_readNumber_l23 : Nat → (Int32 × st_) → Option (Int32 × st_) :=
  it_ (fun v => fX3_readNumber_b23 v.1 v.2)
def fX3_readNumber (s : st_) (i0 : Int32) (i1 : Int32) : Option (st_ × Int32) :=
  if (s 1 5) = (0 : Int32) then (bn_ (fX3_skipSpaces s) fun r1 =>
  bd_ (pt_ r1 1 4 (r1 1 3)) fun s5 =>
  bn_ (fX3_readNumber_l23 FU_ ((0 : Int32), s5)) (fX3_readNumber_k23 i0 i1))
  else (some (s, (0 : Int32)))
def fX3_readDrive_j18 (s_j18 : st_) : Option (st_) :=
  bn_ (fX3_readNumber s_j18 (2 : Int32) (100 : Int32)) fun r5 =>
  bd_ (pt_ r5.1 2 0 r5.2) fun s9 =>
  bn_ (fX3_readNumber s9 (0 : Int32) ((s9 2 0) - (1 : Int32))) fun r13 =>
  bd_ (pt_ r13.1 2 1 r13.2) fun s17 =>
  some s17
def fX3_readDrive (s : st_) : Option (st_) :=
  bn_ (fX3_readWord s 0) fun r1 =>
  if r1.2 = (0 : Int32) then (fX3_readDrive_j18 r1.1)
  else (bn_ (fX3_fail r1.1 (1 : Int32) (r1.1 1 4)) fun r21 =>
  fX3_readDrive_j18 r21)
def fX3_hasMore (s : st_) : Option (st_ × Int32) :=
  bn_ (fX3_skipSpaces s) fun r1 =>
  if (r1 1 5) = (0 : Int32) then (if (r1 1 3) < (r1 1 2) then (gd_ (tx_ (r1 1 1)) <|
  gd_ (ib_ (r1 1 3) 500) <|
  if (r1 0 (ix_ (r1 1 3))) = (59 : Int32) then (bd_ (pt_ r1 1 3 ((r1 1 3) + (1 : Int32))) fun s7 =>
  some (s7, (1 : Int32)))
  else (bn_ (fX3_fail r1 (1 : Int32) (r1 1 3)) fun r11 =>
  some (r11, (0 : Int32))))
  else (some (r1, (0 : Int32))))
  else (some (r1, (0 : Int32)))
def fX3_readRule_j44 (r1 : st_ × Int32) (z0_j44 : Int32) (s_j44 : st_) : Option (st_) :=
  if (s_j44 1 5) = (0 : Int32) then (bn_ (fX5_putRule (sb_ s_j44 2) r1.2 z0_j44) fun r5 =>
  bd_ (mg_ s_j44 2 4 r5) fun s9 =>
  some s9)
  else (some s_j44)
def fX3_readRule_j21 (s_j21 : st_) : Option (st_) :=
  bn_ (fX3_readWord s_j21 1) fun r1 =>
  if r1.2 = (4 : Int32) then (bn_ (fX3_readNumber r1.1 (0 : Int32) (99 : Int32)) fun r11 =>
  fX3_readRule_j44 r1 r11.2 r11.1)
  else (fX3_readRule_j44 r1 (-1 : Int32) r1.1)
def fX3_readRule (s : st_) : Option (st_) :=
  if (s 2 4) < (6 : Int32) then (fX3_readRule_j21 s)
  else (bn_ (fX3_fail s (3 : Int32) (s 1 4)) fun r15 =>
  fX3_readRule_j21 r15)
def fX3_readMaster_j30 (r1 : st_ × Int32) (z0_j30 : Int32) (s_j30 : st_) : Option (st_) :=
  bn_ (fX5_takeMaster (sb_ s_j30 2) r1.2 z0_j30) fun r5 =>
  bd_ (mg_ s_j30 2 4 r5) fun s9 =>
  some s9
def fX3_readMaster (s : st_) : Option (st_) :=
  bn_ (fX3_readWord s 2) fun r1 =>
  if r1.2 = (2 : Int32) then (bn_ (fX3_readNumber r1.1 (0 : Int32) ((r1.1 2 4) - (1 : Int32))) fun r11 =>
  fX3_readMaster_j30 r1 r11.2 r11.1)
  else (fX3_readMaster_j30 r1 (-1 : Int32) r1.1)
def fX3_readAsk_j21 (s_j21 : st_) : Option (st_) :=
  bn_ (fX3_readNumber s_j21 (0 : Int32) ((s_j21 2 0) - (1 : Int32))) fun r1 =>
  if (r1.1 1 5) = (0 : Int32) then (bn_ (fX5_putAsk (sb_ r1.1 2) r1.2) fun r5 =>
  bd_ (mg_ r1.1 2 4 r5) fun s9 =>
  some s9)
  else (some r1.1)
def fX3_readAsk (s : st_) : Option (st_) :=
  if (s 2 12) < (16 : Int32) then (fX3_readAsk_j21 s)
  else (bn_ (fX3_fail s (3 : Int32) (s 1 4)) fun r11 =>
  fX3_readAsk_j21 r11)
def fX3_readRival_j34 (r1 : st_ × Int32) (z1_j34 : Int32) (s_j34 : st_) : Option (st_) :=
  bd_ (pt_ s_j34 2 15 z1_j34) fun s5 =>
  bd_ (pt_ s5 2 14 r1.2) fun s9 =>
  some s9
def fX3_readRival (s : st_) : Option (st_) :=
  bn_ (fX3_readWord s 2) fun r1 =>
  if r1.2 = (2 : Int32) then (bn_ (fX3_readNumber r1.1 (0 : Int32) ((r1.1 2 4) - (1 : Int32))) fun r13 =>
  fX3_readRival_j34 r1 r13.2 r13.1)
  else (fX3_readRival_j34 r1 (-1 : Int32) r1.1)
def fX3_readStatement (s : st_) : Option (st_) :=
  bn_ (fX3_readWord s 0) fun r1 =>
  if r1.2 = (1 : Int32) then (bn_ (fX3_readNumber r1.1 (0 : Int32) (99 : Int32)) fun r5 =>
  bd_ (pt_ r5.1 2 2 r5.2) fun s9 =>
  bn_ (fX3_readNumber s9 (1 : Int32) (99 : Int32)) fun r13 =>
  bd_ (pt_ r13.1 2 3 r13.2) fun s17 =>
  some s17)
  else (if r1.2 = (2 : Int32) then (bn_ (fX3_readRule r1.1) fun r21 =>
  some r21)
  else (if r1.2 = (3 : Int32) then (bn_ (fX3_readMaster r1.1) fun r25 =>
  some r25)
  else (if r1.2 = (4 : Int32) then (bn_ (fX3_readNumber r1.1 (1 : Int32) (500 : Int32)) fun r29 =>
  bd_ (pt_ r29.1 2 9 r29.2) fun s33 =>
  bn_ (fX3_readNumber s33 (0 : Int32) (32767 : Int32)) fun r37 =>
  bd_ (pt_ r37.1 2 10 r37.2) fun s41 =>
  some s41)
  else (if r1.2 = (5 : Int32) then (bn_ (fX3_readWord r1.1 3) fun r45 =>
  bd_ (pt_ r45.1 2 11 r45.2) fun s49 =>
  some s49)
  else (if r1.2 = (6 : Int32) then (bn_ (fX3_readAsk r1.1) fun r53 =>
  some r53)
  else (if r1.2 = (7 : Int32) then (bn_ (fX3_readRival r1.1) fun r57 =>
  some r57)
  else (if r1.2 = (8 : Int32) then (bn_ (fX3_readNumber r1.1 (0 : Int32) (999 : Int32)) fun r61 =>
  bd_ (pt_ r61.1 2 16 r61.2) fun s65 =>
  some s65)
  else (if r1.2 = (9 : Int32) then (bn_ (fX3_readNumber r1.1 (0 : Int32) (99999 : Int32)) fun r69 =>
  bd_ (pt_ r69.1 2 17 r69.2) fun s73 =>
  bn_ (fX3_readNumber s73 (0 : Int32) (9999 : Int32)) fun r77 =>
  bd_ (pt_ r77.1 2 18 r77.2) fun s81 =>
  some s81)
  else (bn_ (fX3_fail r1.1 (1 : Int32) (r1.1 1 4)) fun r85 =>
  some r85)))))))))
def fX3_readText_x48_72 (s_x48_72 : st_) : Option (st_) :=
  bn_ (fX5_completeRules (sb_ s_x48_72 2)) fun r35 =>
  bd_ (mg_ s_x48_72 2 4 r35) fun s39 =>
  some s39
def fX3_readText_k48 (x : st_) : Option (st_) :=
  fX3_readText_x48_72 x
def fX3_readText_b48 (v3_b48 : Int32) (s_b48 : st_) : Option ((Int32 × st_) ⊕ (st_)) :=
  if (500 : Int32) ≤ v3_b48 then (some (.inr s_b48))
  else (bn_ (fX3_hasMore s_b48) fun r41 =>
  if r41.2 = (0 : Int32) then (some (.inr r41.1))
  else (bn_ (fX3_readStatement r41.1) fun r45 =>
  some (.inl ((v3_b48 + (1 : Int32)), r45))))
def fX3_readText_l48 : Nat → (Int32 × st_) → Option (st_) :=
  it_ (fun v => fX3_readText_b48 v.1 v.2)
def fX3_readText (s : st_) (i0 : Int32) : Option (st_) :=
  bd_ (pt_ s 1 1 (1 : Int32)) fun s1 =>
  bd_ (pt_ s1 1 2 (if (500 : Int32) < i0 then (500 : Int32) else i0)) fun s5 =>
  bd_ (pt_ s5 1 3 (0 : Int32)) fun s9 =>
  bd_ (pt_ s9 1 4 (0 : Int32)) fun s13 =>
  bd_ (pt_ s13 1 5 (0 : Int32)) fun s17 =>
  bd_ (pt_ s17 1 6 (0 : Int32)) fun s21 =>
  bn_ (fX5_becomeDefault (sb_ s21 2)) fun r25 =>
  bd_ (mg_ s21 2 4 r25) fun s29 =>
  bn_ (fX3_readDrive s29) fun r31 =>
  bn_ (fX3_readText_l48 FU_ ((0 : Int32), r31)) (fX3_readText_k48)
def fX7_append_x52_109 (s_x52_109 : st_) : Option (st_ × Int32) :=
  some (s_x52_109, (s_x52_109 0 1))
def fX7_append_k52 (x : st_) : Option (st_ × Int32) :=
  fX7_append_x52_109 x
def fX7_append_j103 (v4_b52 : Int32) (s_j103 : st_) : Option ((Int32 × st_) ⊕ (st_)) :=
  some (.inl ((v4_b52 + (-8 : Int32)), s_j103))
def fX7_append_b52 (i0 : Int64) (v4_b52 : Int32) (s_b52 : st_) : Option ((Int32 × st_) ⊕ (st_)) :=
  if v4_b52 < (0 : Int32) then (some (.inr s_b52))
  else (if (Int8.toInt32 (Int32.toInt8 (Int64.toInt32 (((Int64.toUInt64 i0) >>> ((Int64.toUInt64 (Int32.toInt64 v4_b52)) &&& Int64.toUInt64 63)).toInt64)))) = (0 : Int32) then (fX7_append_j103 v4_b52 s_b52)
  else (if (500 : Int32) ≤ (s_b52 0 1) then (fX7_append_j103 v4_b52 s_b52)
  else (gd_ (ib_ (s_b52 0 1) 500) <|
  bd_ (pt_ s_b52 1 (ix_ (s_b52 0 1)) (nb_ (Int8.toInt32 (Int32.toInt8 (Int64.toInt32 (((Int64.toUInt64 i0) >>> ((Int64.toUInt64 (Int32.toInt64 v4_b52)) &&& Int64.toUInt64 63)).toInt64)))))) fun s2 =>
  bd_ (pt_ s2 0 1 ((s2 0 1) + (1 : Int32))) fun s6 =>
  fX7_append_j103 v4_b52 s6)))
def fX7_append_l52 (i0 : Int64) : Nat → (Int32 × st_) → Option (st_) :=
  it_ (fun v => fX7_append_b52 i0 v.1 v.2)
def fX7_append_x6_33 (s : st_) (i0 : Int64) (v3_x6_33 : Int32) : Option (st_ × Int32) :=
  if ((s 0 1) + v3_x6_33) ≤ (500 : Int32) then (bn_ (fX7_append_l52 i0 FU_ ((56 : Int32), s)) (fX7_append_k52))
  else (some (s, (-2 : Int32)))
def fX7_append_k6 (s : st_) (i0 : Int64) (x : Int32) : Option (st_ × Int32) :=
  fX7_append_x6_33 s i0 x
def fX7_append_j27 (v4_b6 : Int32) (v3_j27 : Int32) : Option ((Int32 × Int32) ⊕ (Int32)) :=
  some (.inl (v3_j27, (v4_b6 + (-8 : Int32))))
def fX7_append_b6 (i0 : Int64) (v3_b6 : Int32) (v4_b6 : Int32) : Option ((Int32 × Int32) ⊕ (Int32)) :=
  if v4_b6 < (0 : Int32) then (some (.inr v3_b6))
  else (if (lg_cmp ((((Int64.toUInt64 i0) >>> ((Int64.toUInt64 (Int32.toInt64 v4_b6)) &&& Int64.toUInt64 63)).toInt64) &&& (255 : Int64)) (0 : Int64)) = (0 : Int32) then (fX7_append_j27 v4_b6 v3_b6)
  else (fX7_append_j27 v4_b6 (v3_b6 + (1 : Int32))))
def fX7_append_l6 (i0 : Int64) : Nat → (Int32 × Int32) → Option (Int32) :=
  it_ (fun v => fX7_append_b6 i0 v.1 v.2)
def fX7_append (s : st_) (i0 : Int64) : Option (st_ × Int32) :=
  bn_ (fX7_append_l6 i0 FU_ ((0 : Int32), (56 : Int32))) (fX7_append_k6 s i0)
def fX7_load (s : st_) : Option (st_ × Int32) :=
  bn_ (fX3_readText (sb_ s 1) (s 0 1)) fun r1 =>
  bd_ (mg_ s 1 7 r1) fun s5 =>
  bd_ (pt_ s5 0 1 (0 : Int32)) fun s7 =>
  bd_ (pt_ s7 0 2 (s7 2 5)) fun s11 =>
  if (s11 2 5) = (0 : Int32) then (bn_ (fX2_begin (sb_ s11 8) (sb_ s11 3)) fun r15 =>
  bd_ (mg_ s11 8 75 r15) fun s19 =>
  some (s19, (s19 10 4)))
  else (some (s11, ((-100 : Int32) - (s11 2 6))))
def fX7_loadError (s : st_) : Option (Int32) :=
  some (s 0 2)
def fX7_setting (s : st_) (i0 : Int32) : Option ((Int32 ⊕ Nat)) :=
  if i0 = (0 : Int32) then (some (.inl (s 10 0)))
  else (if i0 = (1 : Int32) then (some (.inl (s 10 1)))
  else (if i0 = (2 : Int32) then (some (.inl (s 10 2)))
  else (if i0 = (3 : Int32) then (some (.inl (s 10 3)))
  else (if i0 = (4 : Int32) then (some (.inl (s 10 4)))
  else (if i0 = (5 : Int32) then (some (.inl (s 10 7)))
  else (if i0 = (6 : Int32) then (some (.inl (s 10 8)))
  else (if i0 = (7 : Int32) then (some (.inl (s 10 9)))
  else (if i0 = (8 : Int32) then (some (.inl (s 9 7)))
  else (if i0 = (9 : Int32) then (some (.inl (s 10 11)))
  else (if i0 = (10 : Int32) then (some (.inl (s 10 12)))
  else (if i0 = (11 : Int32) then (some (.inl (s 10 17)))
  else (if i0 = (12 : Int32) then (some (.inl (s 10 18)))
  else (if i0 = (13 : Int32) then (some (.inl (s 10 16)))
  else (if i0 = (14 : Int32) then (some (.inl (s 9 11)))
  else (some (.inr 1))))))))))))))))
def fX7_requireRule (s : st_) (i0 : Int32) : Option ((Unit ⊕ Nat)) :=
  bn_ (fX5_hasRule (sb_ s 10) i0) fun r1 =>
  if r1 = (0 : Int32) then (some (.inr 0))
  else (some (.inl ()))
def fX7_rule (s : st_) (i0 : Int32) (i1 : Int32) : Option ((Int32 ⊕ Nat)) :=
  bn_ (fX7_requireRule s i0) fun r1 =>
  tb_ r1 (fun x5 =>
  if i1 = (0 : Int32) then (bn_ (fX5_kindOf (sb_ s 10) i0) fun r7 =>
  some (.inl r7))
  else (if i1 = (1 : Int32) then (bn_ (fX5_widthOf (sb_ s 10) i0) fun r11 =>
  some (.inl r11))
  else (if i1 = (2 : Int32) then (gd_ (ib_ i0 6) <|
  some (.inl (s 21 (ix_ i0))))
  else (if i1 = (3 : Int32) then (gd_ (ib_ i0 6) <|
  some (.inl (s 52 (ix_ i0))))
  else (if i1 = (4 : Int32) then (gd_ (ib_ i0 6) <|
  some (.inl (s (3 * ix_ i0 + 24) 5)))
  else (if i1 = (5 : Int32) then (gd_ (ib_ i0 6) <|
  some (.inl (s 53 (ix_ i0))))
  else (some (.inr 1))))))))
  (fun c6 => some (.inr c6))
def fX7_ask (s : st_) (i0 : Int32) : Option (Int32) :=
  bn_ (fX5_askAt (sb_ s 10) i0) fun r1 =>
  some r1
def fX7_requireWithin_j10 : Option ((Unit ⊕ Nat)) :=
  some (.inr 1)
def fX7_requireWithin (i0 : Int32) (i1 : Int32) (i2 : Int32) : Option ((Unit ⊕ Nat)) :=
  if i0 < i1 then (fX7_requireWithin_j10)
  else (if i0 ≤ i2 then (some (.inl ()))
  else (fX7_requireWithin_j10))
def fX7_requireCylinder (s : st_) (i0 : Int32) : Option ((Unit ⊕ Nat)) :=
  bn_ (fX7_requireWithin i0 (0 : Int32) ((s 10 0) - (1 : Int32))) fun r1 =>
  tb_ r1 (fun x5 =>
  some (.inl ()))
  (fun c6 => some (.inr c6))
def fX7_request (s : st_) (i0 : Int32) : Option (st_ × (Int32 ⊕ Nat)) :=
  bn_ (fX7_requireCylinder s i0) fun r1 =>
  tb_ r1 (fun x5 =>
  bn_ (fX1_isFull (sb_ s 9)) fun r7 =>
  if r7 = (0 : Int32) then (bn_ (fX1_addForAll (sb_ s 9) i0) fun r11 =>
  bd_ (mg_ s 9 33 r11) fun s15 =>
  some (s15, (.inl (s15 14 2))))
  else (some (s, (.inl (-2 : Int32)))))
  (fun c6 => some (s, (.inr c6)))
def fX7_setFoe (s : st_) (i0 : Int32) : Option (st_ × (Int32 ⊕ Nat)) :=
  bn_ (fX7_requireWithin i0 (0 : Int32) (5 : Int32)) fun r1 =>
  tb_ r1 (fun x5 =>
  bd_ (pt_ s 10 11 i0) fun s7 =>
  some (s7, (.inl (s 10 11))))
  (fun c6 => some (s, (.inr c6)))
def fX7_setMaster_j16 (s : st_) (i0 : Int32) (i1 : Int32) : Option (st_ × (Int32 ⊕ Nat)) :=
  bn_ (fX5_takeMaster (sb_ s 10) i0 i1) fun r7 =>
  bd_ (mg_ s 10 4 r7) fun s11 =>
  some (s11, (.inl (s 10 7)))
def fX7_setMaster (s : st_) (i0 : Int32) (i1 : Int32) : Option (st_ × (Int32 ⊕ Nat)) :=
  bn_ (fX7_requireWithin i0 (0 : Int32) (2 : Int32)) fun r1 =>
  tb_ r1 (fun x5 =>
  if i0 = (2 : Int32) then (bn_ (fX7_requireRule s i1) fun r13 =>
  tb_ r13 (fun x17 =>
  fX7_setMaster_j16 s i0 i1)
  (fun c18 => some (s, (.inr c18))))
  else (fX7_setMaster_j16 s i0 i1))
  (fun c6 => some (s, (.inr c6)))
def fX7_setEta (s : st_) (i0 : Int32) : Option (st_ × (Int32 ⊕ Nat)) :=
  bn_ (fX7_requireWithin i0 (1 : Int32) (500 : Int32)) fun r1 =>
  tb_ r1 (fun x5 =>
  bd_ (pt_ s 10 9 i0) fun s7 =>
  some (s7, (.inl (s 10 9))))
  (fun c6 => some (s, (.inr c6)))
def fX7_setBudget (s : st_) (i0 : Int32) : Option (st_ × (Int32 ⊕ Nat)) :=
  bn_ (fX7_requireWithin i0 (-1 : Int32) (999 : Int32)) fun r1 =>
  tb_ r1 (fun x5 =>
  bn_ (fX1_takeBudget (sb_ s 9) i0) fun r7 =>
  bd_ (mg_ s 9 33 r7) fun s11 =>
  some (s11, (.inl (s 10 16))))
  (fun c6 => some (s, (.inr c6)))
def fX7_setBound (s : st_) (i0 : Int32) (i1 : Int32) : Option (st_ × (Int32 ⊕ Nat)) :=
  bn_ (fX7_requireWithin i0 (0 : Int32) (99999 : Int32)) fun r1 =>
  tb_ r1 (fun x5 =>
  bn_ (fX7_requireWithin i1 (0 : Int32) (9999 : Int32)) fun r7 =>
  tb_ r7 (fun x11 =>
  bd_ (pt_ s 10 17 i0) fun s13 =>
  bd_ (pt_ s13 10 18 i1) fun s17 =>
  some (s17, (.inl (s 10 17))))
  (fun c12 => some (s, (.inr c12))))
  (fun c6 => some (s, (.inr c6)))
def fX7_addAsk (s : st_) (i0 : Int32) : Option (st_ × (Int32 ⊕ Nat)) :=
  bn_ (fX7_requireCylinder s i0) fun r1 =>
  tb_ r1 (fun x5 =>
  if (s 10 12) < (16 : Int32) then (bn_ (fX5_putAsk (sb_ s 10) i0) fun r7 =>
  bd_ (mg_ s 10 4 r7) fun s11 =>
  some (s11, (.inl ((s11 10 12) - (1 : Int32)))))
  else (some (s, (.inl (-2 : Int32)))))
  (fun c6 => some (s, (.inr c6)))
def fX7_evenWeights (s : st_) : Option (st_ × Int32) :=
  gd_ (ib_ (0 : Int32) 6) <|
  bn_ (fX1_resetWeights (sb_ s 9)) fun r2 =>
  bd_ (mg_ s 9 33 r2) fun s6 =>
  some (s6, (s 21 (ix_ (0 : Int32))))
def fX7_requireArm (s : st_) (i0 : Int32) : Option ((Unit ⊕ Nat)) :=
  if i0 = (-1 : Int32) then (some (.inl ()))
  else (bn_ (fX5_hasRule (sb_ s 10) i0) fun r1 =>
  if r1 = (0 : Int32) then (some (.inr 0))
  else (some (.inl ())))
def fX7_arm (s : st_) (i0 : Int32) (i1 : Int32) : Option ((Int32 ⊕ Nat)) :=
  bn_ (fX7_requireArm s i0) fun r1 =>
  tb_ r1 (fun x5 =>
  bn_ (fX1_armOf (sb_ s 9) i0) fun r7 =>
  if i1 = (0 : Int32) then (some (.inl (s (9 + r7) 0)))
  else (if i1 = (1 : Int32) then (if (s (9 + r7) 1) = (0 : Int32) then (some (.inl (0 : Int32)))
  else (some (.inl (1 : Int32))))
  else (if i1 = (2 : Int32) then (some (.inl (s (9 + r7) 2)))
  else (if i1 = (3 : Int32) then (some (.inl (s (9 + r7) 5)))
  else (if i1 = (4 : Int32) then (some (.inl (s (9 + r7) 6)))
  else (if i1 = (5 : Int32) then (some (.inl (s (9 + r7) 7)))
  else (if i1 = (6 : Int32) then (some (.inl (s (9 + r7) 8)))
  else (some (.inr 1)))))))))
  (fun c6 => some (.inr c6))
def fX7_waiting (s : st_) (i0 : Int32) (i1 : Int32) (i2 : Int32) : Option ((Int32 ⊕ Nat)) :=
  bn_ (fX7_requireArm s i0) fun r1 =>
  tb_ r1 (fun x5 =>
  bn_ (fX7_requireWithin i2 (0 : Int32) (1 : Int32)) fun r7 =>
  tb_ r7 (fun x11 =>
  bn_ (fX1_armOf (sb_ s 9) i0) fun r13 =>
  if i1 < (0 : Int32) then (some (.inl (-1 : Int32)))
  else (if i1 < (s (9 + r13) 2) then (if i2 = (0 : Int32) then (gd_ (ib_ i1 20) <|
  some (.inl (s (9 + r13 + 1) (ix_ i1))))
  else (gd_ (ib_ i1 20) <|
  some (.inl (s (9 + r13 + 2) (ix_ i1)))))
  else (some (.inl (-1 : Int32)))))
  (fun c12 => some (.inr c12)))
  (fun c6 => some (.inr c6))
def fX7_wouldServe (s : st_) (i0 : Int32) (i1 : Int32) : Option ((Int32 ⊕ Nat)) :=
  bn_ (fX7_requireArm s i0) fun r1 =>
  tb_ r1 (fun x5 =>
  bn_ (fX7_requireRule s i1) fun r7 =>
  tb_ r7 (fun x11 =>
  bn_ (fX1_armOf (sb_ s 9) i0) fun r13 =>
  bn_ (fX5_kindOf (sb_ s 10) i1) fun r17 =>
  bn_ (fX5_widthOf (sb_ s 10) i1) fun r21 =>
  bn_ (fX0_choose (sb_ s (9 + r13)) r17 r21) fun r25 =>
  if r25 = (-1 : Int32) then (some (.inl (-1 : Int32)))
  else (gd_ (ib_ r25 20) <|
  some (.inl (s (9 + r13 + 1) (ix_ r25)))))
  (fun c12 => some (.inr c12)))
  (fun c6 => some (.inr c6))
def fX7_optimum (s : st_) (i0 : Int32) : Option (st_ × (Int32 ⊕ Nat)) :=
  bn_ (fX7_requireWithin i0 (0 : Int32) (8 : Int32)) fun r1 =>
  tb_ r1 (fun x5 =>
  if i0 ≤ (s 14 2) then (bn_ (fX6_plan (sb_ s 116) (sb_ s 10) (sb_ s 14) i0) fun r7 =>
  bd_ (mg_ s 116 3 r7) fun s11 =>
  bn_ (fX6_leastCost (sb_ s11 116)) fun r13 =>
  some (s11, (.inl r13)))
  else (some (s, (.inl (-1 : Int32)))))
  (fun c6 => some (s, (.inr c6)))
def fX7_optimumAt (s : st_) (i0 : Int32) (i1 : Int32) : Option (st_ × (Int32 ⊕ Nat)) :=
  bn_ (fX7_requireWithin i0 (1 : Int32) (8 : Int32)) fun r1 =>
  tb_ r1 (fun x5 =>
  if (s 14 2) < i0 then (some (s, (.inl (-1 : Int32))))
  else (if i1 < (0 : Int32) then (some (s, (.inl (-1 : Int32))))
  else (if i1 < i0 then (bn_ (fX6_plan (sb_ s 116) (sb_ s 10) (sb_ s 14) i0) fun r7 =>
  bd_ (mg_ s 116 3 r7) fun s11 =>
  bn_ (fX6_requestAt (sb_ s11 116) (sb_ s11 10) i1) fun r13 =>
  some (s11, (.inl r13)))
  else (some (s, (.inl (-1 : Int32)))))))
  (fun c6 => some (s, (.inr c6)))
def fX7_nextRule (s : st_) : Option (Int32) :=
  bn_ (fX1_comingRule (sb_ s 9)) fun r1 =>
  some r1
def fX7_served (s : st_) (i0 : Int32) (i1 : Int32) : Option ((Int32 ⊕ Nat)) :=
  if (0 : Int32) ≤ i0 then (bn_ (fX7_requireWithin i1 (0 : Int32) (4 : Int32)) fun r1 =>
  tb_ r1 (fun x5 =>
  bn_ (fX4_servedAt (sb_ s 42) i0 i1) fun r7 =>
  some (.inl r7))
  (fun c6 => some (.inr c6)))
  else (some (.inr 1))
def fX7_rounds (s : st_) : Option (Int32) :=
  some (s 9 9)
def fX7_regret (s : st_) (i0 : Int32) : Option ((Int32 ⊕ Nat)) :=
  if i0 = (0 : Int32) then (bn_ (fX1_regretNow (sb_ s 9)) fun r1 =>
  some (.inl r1))
  else (if i0 = (1 : Int32) then (bn_ (fX5_boundBehind (sb_ s 10) (s 9 9)) fun r5 =>
  some (.inl r5))
  else (if i0 = (2 : Int32) then (some (.inl (s 42 10)))
  else (if i0 = (3 : Int32) then (some (.inl (s 42 11)))
  else (if i0 = (4 : Int32) then (some (.inl (s 42 12)))
  else (some (.inr 1))))))
def fX7_best (s : st_) : Option (Int32) :=
  bn_ (fX1_cheapestRule (sb_ s 9)) fun r1 =>
  some r1
def fX7_regretTo (s : st_) (i0 : Int32) : Option ((Int32 ⊕ Nat)) :=
  bn_ (fX7_requireRule s i0) fun r1 =>
  tb_ r1 (fun x5 =>
  gd_ (ib_ i0 6) <|
  some (.inl ((s 14 5) - (s (3 * ix_ i0 + 24) 5))))
  (fun c6 => some (.inr c6))
def fX7_swapCost (s : st_) (i0 : Int32) (i1 : Int32) : Option ((Int32 ⊕ Nat)) :=
  bn_ (fX7_requireRule s i0) fun r1 =>
  tb_ r1 (fun x5 =>
  bn_ (fX7_requireRule s i1) fun r7 =>
  tb_ r7 (fun x11 =>
  gd_ (ib_ i0 6) <|
  gd_ (ib_ i1 6) <|
  some (.inl (s (1 * ix_ i0 + 56) (ix_ i1))))
  (fun c12 => some (.inr c12)))
  (fun c6 => some (.inr c6))
def fX7_swapRegret_x4_60 (v1_x4_60 : Int32) : Option (Int32) :=
  some v1_x4_60
def fX7_swapRegret_k4 (x : Int32) : Option (Int32) :=
  fX7_swapRegret_x4_60 x
def fX7_swapRegret_b4 (s : st_) (v1_b4 : Int32) (v2_b4 : Int32) : Option ((Int32 × Int32) ⊕ (Int32)) :=
  if (s 10 4) ≤ v2_b4 then (some (.inr v1_b4))
  else (gd_ (ib_ v2_b4 6) <|
  gd_ (ib_ v2_b4 6) <|
  bn_ (fX4_cheapestSwap (sb_ s 42) v2_b4) fun r3 =>
  gd_ (ib_ r3 6) <|
  some (.inl ((v1_b4 + ((s (1 * ix_ v2_b4 + 56) (ix_ v2_b4)) - (s (1 * ix_ v2_b4 + 56) (ix_ r3)))), (v2_b4 + (1 : Int32)))))
def fX7_swapRegret_l4 (s : st_) : Nat → (Int32 × Int32) → Option (Int32) :=
  it_ (fun v => fX7_swapRegret_b4 s v.1 v.2)
def fX7_swapRegret (s : st_) : Option (Int32) :=
  bn_ (fX7_swapRegret_l4 s FU_ ((0 : Int32), (0 : Int32))) (fX7_swapRegret_k4)
def fX7_bestSwap (s : st_) (i0 : Int32) : Option ((Int32 ⊕ Nat)) :=
  bn_ (fX7_requireRule s i0) fun r1 =>
  tb_ r1 (fun x5 =>
  bn_ (fX4_cheapestSwap (sb_ s 42) i0) fun r7 =>
  some (.inl r7))
  (fun c6 => some (.inr c6))
def fX7_rival (s : st_) (i0 : Int32) : Option ((Int32 ⊕ Nat)) :=
  bn_ (fX7_requireWithin i0 (0 : Int32) (5 : Int32)) fun r1 =>
  tb_ r1 (fun x5 =>
  bn_ (fX5_hasRival (sb_ s 10)) fun r7 =>
  if r7 = (0 : Int32) then (some (.inl (-2000000000 : Int32)))
  else (if i0 = (0 : Int32) then (some (.inl (s 10 14)))
  else (if i0 = (1 : Int32) then (some (.inl (s 17 0)))
  else (if i0 = (2 : Int32) then (some (.inl (s 17 5)))
  else (if i0 = (3 : Int32) then (bn_ (fX1_cheapestRule (sb_ s 9)) fun r11 =>
  gd_ (ib_ r11 6) <|
  some (.inl ((s 17 5) - (s (3 * ix_ r11 + 24) 5))))
  else (if i0 = (4 : Int32) then (some (.inl (s 42 13)))
  else (some (.inl (s 9 13)))))))))
  (fun c6 => some (.inr c6))
def fX7_cost (s : st_) (i0 : Int32) (i1 : Int32) : Option ((Int32 ⊕ Nat)) :=
  bn_ (fX7_requireArm s i0) fun r1 =>
  tb_ r1 (fun x5 =>
  bn_ (fX4_hasRounds (sb_ s 42) i1 (1 : Int32)) fun r7 =>
  if r7 = (0 : Int32) then (some (.inl (-2000000000 : Int32)))
  else (bn_ (fX4_paidIn (sb_ s 42) i0 i1 (i1 + (1 : Int32))) fun r11 =>
  some (.inl r11)))
  (fun c6 => some (.inr c6))
def fX7_taken (s : st_) (i0 : Int32) : Option (Int32) :=
  bn_ (fX4_hasRounds (sb_ s 42) i0 (1 : Int32)) fun r1 =>
  if r1 = (0 : Int32) then (some (-1 : Int32))
  else (gd_ (ib_ i0 1000) <|
  some (s 51 (ix_ i0)))
def fX7_bestPair (s : st_) (i0 : Int32) : Option ((Int32 ⊕ Nat)) :=
  bn_ (fX7_requireWithin i0 (0 : Int32) (3 : Int32)) fun r1 =>
  tb_ r1 (fun x5 =>
  bn_ (fX4_bestSplit (sb_ s 42)) fun r7 =>
  if i0 = (0 : Int32) then (bn_ (fX4_splitCost (sb_ s 42) r7) fun r11 =>
  some (.inl r11))
  else (if i0 = (1 : Int32) then (bn_ (fX4_cheapestIn (sb_ s 42) (0 : Int32) r7) fun r15 =>
  some (.inl r15))
  else (if i0 = (2 : Int32) then (bn_ (fX4_cheapestIn (sb_ s 42) r7 (s 42 1)) fun r19 =>
  some (.inl r19))
  else (some (.inl r7)))))
  (fun c6 => some (.inr c6))
def fX7_cheaper_x24_67 (v4_x24_67 : Int32) : Option ((Int32 ⊕ Nat)) :=
  some (.inl v4_x24_67)
def fX7_cheaper_k24 (x : Int32) : Option ((Int32 ⊕ Nat)) :=
  fX7_cheaper_x24_67 x
def fX7_cheaper_j61 (v5_b24 : Int32) (v4_j61 : Int32) : Option ((Int32 × Int32) ⊕ (Int32)) :=
  some (.inl (v4_j61, (v5_b24 + (1 : Int32))))
def fX7_cheaper_b24 (s : st_) (i0 : Int32) (i1 : Int32) (v4_b24 : Int32) (v5_b24 : Int32) : Option ((Int32 × Int32) ⊕ (Int32)) :=
  if (s 42 1) ≤ v5_b24 then (some (.inr v4_b24))
  else (bn_ (fX4_paidIn (sb_ s 42) i0 v5_b24 (v5_b24 + (1 : Int32))) fun r13 =>
  bn_ (fX4_paidIn (sb_ s 42) i1 v5_b24 (v5_b24 + (1 : Int32))) fun r17 =>
  if r17 ≤ r13 then (fX7_cheaper_j61 v5_b24 v4_b24)
  else (fX7_cheaper_j61 v5_b24 (v4_b24 + (1 : Int32))))
def fX7_cheaper_l24 (s : st_) (i0 : Int32) (i1 : Int32) : Nat → (Int32 × Int32) → Option (Int32) :=
  it_ (fun v => fX7_cheaper_b24 s i0 i1 v.1 v.2)
def fX7_cheaper (s : st_) (i0 : Int32) (i1 : Int32) : Option ((Int32 ⊕ Nat)) :=
  bn_ (fX7_requireRule s i0) fun r1 =>
  tb_ r1 (fun x5 =>
  bn_ (fX7_requireRule s i1) fun r7 =>
  tb_ r7 (fun x11 =>
  bn_ (fX7_cheaper_l24 s i0 i1 FU_ ((0 : Int32), (0 : Int32))) (fX7_cheaper_k24))
  (fun c12 => some (.inr c12)))
  (fun c6 => some (.inr c6))
def fX7_leads (s : st_) (i0 : Int32) : Option ((Int32 ⊕ Nat)) :=
  bn_ (fX7_requireRule s i0) fun r1 =>
  tb_ r1 (fun x5 =>
  gd_ (ib_ i0 6) <|
  some (.inl (s 54 (ix_ i0))))
  (fun c6 => some (.inr c6))
def fX7_switches_x12_46 (v2_x12_46 : Int32) : Option (Int32) :=
  some v2_x12_46
def fX7_switches_k12 (x : Int32) : Option (Int32) :=
  fX7_switches_x12_46 x
def fX7_switches_j40 (v3_b12 : Int32) (v2_j40 : Int32) : Option ((Int32 × Int32) ⊕ (Int32)) :=
  some (.inl (v2_j40, (v3_b12 + (1 : Int32))))
def fX7_switches_b12 (s : st_) (v2_b12 : Int32) (v3_b12 : Int32) : Option ((Int32 × Int32) ⊕ (Int32)) :=
  if (s 42 1) ≤ v3_b12 then (some (.inr v2_b12))
  else (gd_ (ib_ v3_b12 1000) <|
  gd_ (ib_ (v3_b12 - (1 : Int32)) 1000) <|
  if (s 51 (ix_ v3_b12)) = (s 51 (ix_ (v3_b12 - (1 : Int32)))) then (fX7_switches_j40 v3_b12 v2_b12)
  else (fX7_switches_j40 v3_b12 (v2_b12 + (1 : Int32))))
def fX7_switches_l12 (s : st_) : Nat → (Int32 × Int32) → Option (Int32) :=
  it_ (fun v => fX7_switches_b12 s v.1 v.2)
def fX7_switches (s : st_) : Option (Int32) :=
  bn_ (fX7_switches_l12 s FU_ ((0 : Int32), (1 : Int32))) (fX7_switches_k12)
def fX7_streak_x21_64 (v3_x21_64 : Int32) : Option ((Int32 ⊕ Nat)) :=
  some (.inl v3_x21_64)
def fX7_streak_k21 (x : Int32) : Option ((Int32 ⊕ Nat)) :=
  fX7_streak_x21_64 x
def fX7_streak_j49 (v3_b21 : Int32) (v5_b21 : Int32) (z0_j49 : Int32) : Option ((Int32 × Int32 × Int32) ⊕ (Int32)) :=
  some (.inl ((if v3_b21 < z0_j49 then z0_j49 else v3_b21), z0_j49, (v5_b21 + (1 : Int32))))
def fX7_streak_b21 (s : st_) (i0 : Int32) (v3_b21 : Int32) (v4_b21 : Int32) (v5_b21 : Int32) : Option ((Int32 × Int32 × Int32) ⊕ (Int32)) :=
  if (s 42 1) ≤ v5_b21 then (some (.inr v3_b21))
  else (gd_ (ib_ v5_b21 1000) <|
  if (s 51 (ix_ v5_b21)) = i0 then (fX7_streak_j49 v3_b21 v5_b21 (v4_b21 + (1 : Int32)))
  else (fX7_streak_j49 v3_b21 v5_b21 (0 : Int32)))
def fX7_streak_l21 (s : st_) (i0 : Int32) : Nat → (Int32 × Int32 × Int32) → Option (Int32) :=
  it_ (fun v => fX7_streak_b21 s i0 v.1 v.2.1 v.2.2)
def fX7_streak (s : st_) (i0 : Int32) : Option ((Int32 ⊕ Nat)) :=
  bn_ (fX7_requireRule s i0) fun r1 =>
  tb_ r1 (fun x5 =>
  bn_ (fX7_streak_l21 s i0 FU_ ((0 : Int32), (0 : Int32), (0 : Int32))) (fX7_streak_k21))
  (fun c6 => some (.inr c6))
def fX7_dearest_x30_81 (v4_x30_81 : Int32) : Option ((Int32 ⊕ Nat)) :=
  some (.inl v4_x30_81)
def fX7_dearest_k30 (x : Int32) : Option ((Int32 ⊕ Nat)) :=
  fX7_dearest_x30_81 x
def fX7_dearest_j75 (v6_b30 : Int32) (v4_j75 : Int32) (v5_j75 : Int32) : Option ((Int32 × Int32 × Int32) ⊕ (Int32)) :=
  some (.inl (v4_j75, v5_j75, (v6_b30 + (1 : Int32))))
def fX7_dearest_j67 (v6_b30 : Int32) (r13 : Int32) : Option ((Int32 × Int32 × Int32) ⊕ (Int32)) :=
  fX7_dearest_j75 v6_b30 v6_b30 r13
def fX7_dearest_b30 (s : st_) (i0 : Int32) (i1 : Int32) (v4_b30 : Int32) (v5_b30 : Int32) (v6_b30 : Int32) : Option ((Int32 × Int32 × Int32) ⊕ (Int32)) :=
  if (s 42 1) < (v6_b30 + i1) then (some (.inr v4_b30))
  else (bn_ (fX4_paidIn (sb_ s 42) i0 v6_b30 (v6_b30 + i1)) fun r13 =>
  if v4_b30 = (-1 : Int32) then (fX7_dearest_j67 v6_b30 r13)
  else (if r13 ≤ v5_b30 then (fX7_dearest_j75 v6_b30 v4_b30 v5_b30)
  else (fX7_dearest_j67 v6_b30 r13)))
def fX7_dearest_l30 (s : st_) (i0 : Int32) (i1 : Int32) : Nat → (Int32 × Int32 × Int32) → Option (Int32) :=
  it_ (fun v => fX7_dearest_b30 s i0 i1 v.1 v.2.1 v.2.2)
def fX7_dearest (s : st_) (i0 : Int32) (i1 : Int32) : Option ((Int32 ⊕ Nat)) :=
  bn_ (fX7_requireRule s i0) fun r1 =>
  tb_ r1 (fun x5 =>
  bn_ (fX7_requireWithin i1 (1 : Int32) (1000 : Int32)) fun r7 =>
  tb_ r7 (fun x11 =>
  bn_ (fX7_dearest_l30 s i0 i1 FU_ ((-1 : Int32), (0 : Int32), (0 : Int32))) (fX7_dearest_k30))
  (fun c12 => some (.inr c12)))
  (fun c6 => some (.inr c6))
def fX7_requireWindow (s : st_) (i0 : Int32) (i1 : Int32) : Option ((Unit ⊕ Nat)) :=
  if (0 : Int32) ≤ i0 then (bn_ (fX7_requireWithin i1 (1 : Int32) (1000 : Int32)) fun r1 =>
  tb_ r1 (fun x5 =>
  some (.inl ()))
  (fun c6 => some (.inr c6)))
  else (some (.inr 1))
def fX7_windowRegret (s : st_) (i0 : Int32) (i1 : Int32) : Option ((Int32 ⊕ Nat)) :=
  bn_ (fX7_requireWindow s i0 i1) fun r1 =>
  tb_ r1 (fun x5 =>
  bn_ (fX4_hasRounds (sb_ s 42) i0 i1) fun r7 =>
  if r7 = (0 : Int32) then (some (.inl (-2000000000 : Int32)))
  else (bn_ (fX4_regretOver (sb_ s 42) i0 (i0 + i1)) fun r11 =>
  some (.inl r11)))
  (fun c6 => some (.inr c6))
def fX7_windowBest (s : st_) (i0 : Int32) (i1 : Int32) : Option ((Int32 ⊕ Nat)) :=
  bn_ (fX7_requireWindow s i0 i1) fun r1 =>
  tb_ r1 (fun x5 =>
  bn_ (fX4_hasRounds (sb_ s 42) i0 i1) fun r7 =>
  if r7 = (0 : Int32) then (some (.inl (-1 : Int32)))
  else (bn_ (fX4_cheapestIn (sb_ s 42) i0 (i0 + i1)) fun r11 =>
  some (.inl r11)))
  (fun c6 => some (.inr c6))
def fX7_worstWindow_x24_72 (v3_x24_72 : Int32) : Option ((Int32 ⊕ Nat)) :=
  some (.inl v3_x24_72)
def fX7_worstWindow_k24 (x : Int32) : Option ((Int32 ⊕ Nat)) :=
  fX7_worstWindow_x24_72 x
def fX7_worstWindow_j66 (v5_b24 : Int32) (v3_j66 : Int32) (v4_j66 : Int32) : Option ((Int32 × Int32 × Int32) ⊕ (Int32)) :=
  some (.inl (v3_j66, v4_j66, (v5_b24 + (1 : Int32))))
def fX7_worstWindow_j59 (v5_b24 : Int32) (r7 : Int32) : Option ((Int32 × Int32 × Int32) ⊕ (Int32)) :=
  fX7_worstWindow_j66 v5_b24 v5_b24 r7
def fX7_worstWindow_b24 (s : st_) (i0 : Int32) (v3_b24 : Int32) (v4_b24 : Int32) (v5_b24 : Int32) : Option ((Int32 × Int32 × Int32) ⊕ (Int32)) :=
  if (s 42 1) < (v5_b24 + i0) then (some (.inr v3_b24))
  else (bn_ (fX4_regretOver (sb_ s 42) v5_b24 (v5_b24 + i0)) fun r7 =>
  if v3_b24 = (-1 : Int32) then (fX7_worstWindow_j59 v5_b24 r7)
  else (if r7 ≤ v4_b24 then (fX7_worstWindow_j66 v5_b24 v3_b24 v4_b24)
  else (fX7_worstWindow_j59 v5_b24 r7)))
def fX7_worstWindow_l24 (s : st_) (i0 : Int32) : Nat → (Int32 × Int32 × Int32) → Option (Int32) :=
  it_ (fun v => fX7_worstWindow_b24 s i0 v.1 v.2.1 v.2.2)
def fX7_worstWindow (s : st_) (i0 : Int32) : Option ((Int32 ⊕ Nat)) :=
  bn_ (fX7_requireWithin i0 (1 : Int32) (1000 : Int32)) fun r1 =>
  tb_ r1 (fun x5 =>
  bn_ (fX7_worstWindow_l24 s i0 FU_ ((-1 : Int32), (0 : Int32), (0 : Int32))) (fX7_worstWindow_k24))
  (fun c6 => some (.inr c6))
def fX7_meanCost (s : st_) (i0 : Int32) : Option ((UInt64 ⊕ Nat)) :=
  bn_ (fX7_requireArm s i0) fun r1 =>
  tb_ r1 (fun x5 =>
  if (s 9 9) = (0 : Int32) then (some (.inl FP.dconst0))
  else (bn_ (fX1_armOf (sb_ s 9) i0) fun r7 =>
  gd_ (n64_ (FP.ddiv (FP.i2d (s (9 + r7) 5)) (FP.i2d (s 9 9)))) <|
  some (.inl (FP.ddiv (FP.i2d (s (9 + r7) 5)) (FP.i2d (s 9 9))))))
  (fun c6 => some (.inr c6))
def fX7_share (s : st_) (i0 : Int32) : Option ((UInt32 ⊕ Nat)) :=
  bn_ (fX7_requireRule s i0) fun r1 =>
  tb_ r1 (fun x5 =>
  bn_ (fX1_weightSum (sb_ s 9)) fun r7 =>
  if r7 = (0 : Int32) then (some (.inl FP.fconst0))
  else (gd_ (ib_ i0 6) <|
  gd_ (n32_ (FP.fdiv (FP.i2f (s 21 (ix_ i0))) (FP.i2f r7))) <|
  some (.inl (FP.fdiv (FP.i2f (s 21 (ix_ i0))) (FP.i2f r7)))))
  (fun c6 => some (.inr c6))
def fX7_run_x27_45 (s_x27_45 : st_) : Option (st_ × (Int32 ⊕ Nat)) :=
  some (s_x27_45, (.inl (s_x27_45 9 9)))
def fX7_run_k27 (x : st_) : Option (st_ × (Int32 ⊕ Nat)) :=
  fX7_run_x27_45 x
def fX7_run_b27 (i0 : Int32) (v2_b27 : Int32) (s_b27 : st_) : Option ((Int32 × st_) ⊕ (st_)) :=
  if i0 ≤ v2_b27 then (some (.inr s_b27))
  else (bn_ (fX2_makeRound (sb_ s_b27 8)) fun r7 =>
  bd_ (mg_ s_b27 8 75 r7) fun s11 =>
  some (.inl ((v2_b27 + (1 : Int32)), s11)))
def fX7_run_l27 (i0 : Int32) : Nat → (Int32 × st_) → Option (st_) :=
  it_ (fun v => fX7_run_b27 i0 v.1 v.2)
def fX7_run (s : st_) (i0 : Int32) : Option (st_ × (Int32 ⊕ Nat)) :=
  bn_ (fX7_requireWithin i0 (1 : Int32) (if ((1000 : Int32) - (s 9 9)) < (200 : Int32) then ((1000 : Int32) - (s 9 9)) else (200 : Int32))) fun r1 =>
  tb_ r1 (fun x5 =>
  bn_ (fX7_run_l27 i0 FU_ ((0 : Int32), s)) (fX7_run_k27))
  (fun c6 => some (s, (.inr c6)))
def fX7_runToBreach_x29_64 (s_x29_64 : st_) : Option (st_ × (Int32 ⊕ Nat)) :=
  some (s_x29_64, (.inl (-1 : Int32)))
def fX7_runToBreach_x29_54 (v3_x29_54 : Int32) (s_x29_54 : st_) : Option (st_ × (Int32 ⊕ Nat)) :=
  some (s_x29_54, (.inl (v3_x29_54 + (1 : Int32))))
def fX7_runToBreach_k29 (x : (Int32 × st_) ⊕ (st_)) : Option (st_ × (Int32 ⊕ Nat)) :=
  Sum.elim (fun z => fX7_runToBreach_x29_54 z.1 z.2) (fun z => fX7_runToBreach_x29_64 z) x
def fX7_runToBreach_b29 (s : st_) (i0 : Int32) (v3_b29 : Int32) (s_b29 : st_) : Option ((Int32 × st_) ⊕ ((Int32 × st_) ⊕ (st_))) :=
  if (if ((1000 : Int32) - (s 9 9)) < i0 then ((1000 : Int32) - (s 9 9)) else i0) ≤ v3_b29 then (some (.inr (.inr s_b29)))
  else (bn_ (fX2_makeRound (sb_ s_b29 8)) fun r7 =>
  bd_ (mg_ s_b29 8 75 r7) fun s11 =>
  bn_ (fX1_isBreach (sb_ s11 9)) fun r13 =>
  if r13 = (0 : Int32) then (some (.inl ((v3_b29 + (1 : Int32)), s11)))
  else (some (.inr (.inl (v3_b29, s11)))))
def fX7_runToBreach_l29 (s : st_) (i0 : Int32) : Nat → (Int32 × st_) → Option ((Int32 × st_) ⊕ (st_)) :=
  it_ (fun v => fX7_runToBreach_b29 s i0 v.1 v.2)
def fX7_runToBreach (s : st_) (i0 : Int32) : Option (st_ × (Int32 ⊕ Nat)) :=
  bn_ (fX7_requireWithin i0 (1 : Int32) (200 : Int32)) fun r1 =>
  tb_ r1 (fun x5 =>
  bn_ (fX7_runToBreach_l29 s i0 FU_ ((0 : Int32), s)) (fX7_runToBreach_k29))
  (fun c6 => some (s, (.inr c6)))
def fX7_hurtOf (s : st_) (i0 : Int32) : Option (st_ × (Int32 ⊕ Nat)) :=
  bn_ (fX7_requireCylinder s i0) fun r1 =>
  tb_ r1 (fun x5 =>
  bn_ (fX1_isFull (sb_ s 9)) fun r7 =>
  if r7 = (0 : Int32) then (bn_ (fX1_comingRule (sb_ s 9)) fun r11 =>
  bn_ (fX1_foreseeHurts (sb_ s 9) r11) fun r15 =>
  bd_ (mg_ s 9 33 r15) fun s19 =>
  gd_ (ib_ i0 100) <|
  some (s19, (.inl (s19 22 (ix_ i0)))))
  else (some (s, (.inl (-2000000000 : Int32)))))
  (fun c6 => some (s, (.inr c6)))
def fX7_worst (s : st_) : Option (st_ × Int32) :=
  bn_ (fX1_isFull (sb_ s 9)) fun r1 =>
  if r1 = (0 : Int32) then (bn_ (fX1_comingRule (sb_ s 9)) fun r5 =>
  bn_ (fX1_foreseeHurts (sb_ s 9) r5) fun r9 =>
  bd_ (mg_ s 9 33 r9) fun s13 =>
  bn_ (fX1_mostHurtful (sb_ s13 9)) fun r15 =>
  some (s13, r15))
  else (some (s, (-1 : Int32)))
def fX7_regretIn (s : st_) (i0 : Int32) : Option (st_ × (Int32 ⊕ Nat)) :=
  bn_ (fX7_requireWithin i0 (1 : Int32) (200 : Int32)) fun r1 =>
  tb_ r1 (fun x5 =>
  bn_ (fX1_copyFrom (sb_ s 83) (sb_ s 9)) fun r7 =>
  bd_ (mg_ s 83 33 r7) fun s11 =>
  bn_ (fX1_letPass (sb_ s11 83) i0) fun r13 =>
  bd_ (mg_ s11 83 33 r13) fun s17 =>
  bn_ (fX1_regretNow (sb_ s17 83)) fun r19 =>
  some (s17, (.inl r19)))
  (fun c6 => some (s, (.inr c6)))
def fX7_costIn (s : st_) (i0 : Int32) (i1 : Int32) : Option (st_ × (Int32 ⊕ Nat)) :=
  bn_ (fX7_requireArm s i0) fun r1 =>
  tb_ r1 (fun x5 =>
  bn_ (fX7_requireWithin i1 (1 : Int32) (200 : Int32)) fun r7 =>
  tb_ r7 (fun x11 =>
  bn_ (fX1_copyFrom (sb_ s 83) (sb_ s 9)) fun r13 =>
  bd_ (mg_ s 83 33 r13) fun s17 =>
  bn_ (fX1_letPass (sb_ s17 83) i1) fun r19 =>
  bd_ (mg_ s17 83 33 r19) fun s23 =>
  bn_ (fX1_armOf (sb_ s23 83) i0) fun r25 =>
  bn_ (fX1_armOf (sb_ s23 9) i0) fun r29 =>
  some (s23, (.inl ((s23 (83 + r25) 5) - (s23 (9 + r29) 5)))))
  (fun c12 => some (s, (.inr c12))))
  (fun c6 => some (s, (.inr c6)))
def fX7_breachIn_x35_68 (s_x35_68 : st_) : Option (st_ × Int32) :=
  some (s_x35_68, (-1 : Int32))
def fX7_breachIn_x35_60 (v1_x35_60 : Int32) (s_x35_60 : st_) : Option (st_ × Int32) :=
  some (s_x35_60, v1_x35_60)
def fX7_breachIn_k35 (x : (Int32 × st_) ⊕ (st_)) : Option (st_ × Int32) :=
  Sum.elim (fun z => fX7_breachIn_x35_60 z.1 z.2) (fun z => fX7_breachIn_x35_68 z) x
def fX7_breachIn_b35 (v1_b35 : Int32) (s_b35 : st_) : Option ((Int32 × st_) ⊕ ((Int32 × st_) ⊕ (st_))) :=
  if (200 : Int32) < v1_b35 then (some (.inr (.inr s_b35)))
  else (bn_ (fX1_letPass (sb_ s_b35 83) (1 : Int32)) fun r7 =>
  bd_ (mg_ s_b35 83 33 r7) fun s11 =>
  bn_ (fX1_isBreach (sb_ s11 83)) fun r13 =>
  if r13 = (0 : Int32) then (some (.inl ((v1_b35 + (1 : Int32)), s11)))
  else (some (.inr (.inl (v1_b35, s11)))))
def fX7_breachIn_l35 : Nat → (Int32 × st_) → Option ((Int32 × st_) ⊕ (st_)) :=
  it_ (fun v => fX7_breachIn_b35 v.1 v.2)
def fX7_breachIn (s : st_) : Option (st_ × Int32) :=
  if (s 10 17) = (-1 : Int32) then (some (s, (-1 : Int32)))
  else (bn_ (fX1_copyFrom (sb_ s 83) (sb_ s 9)) fun r1 =>
  bd_ (mg_ s 83 33 r1) fun s5 =>
  bn_ (fX7_breachIn_l35 FU_ ((1 : Int32), s5)) (fX7_breachIn_k35))
def fX7_regretKeeping (s : st_) (i0 : Int32) (i1 : Int32) : Option (st_ × (Int32 ⊕ Nat)) :=
  bn_ (fX7_requireRule s i0) fun r1 =>
  tb_ r1 (fun x5 =>
  bn_ (fX7_requireWithin i1 (1 : Int32) (200 : Int32)) fun r7 =>
  tb_ r7 (fun x11 =>
  bn_ (fX1_copyFrom (sb_ s 83) (sb_ s 9)) fun r13 =>
  bd_ (mg_ s 83 33 r13) fun s17 =>
  bn_ (fX5_takeMaster (sb_ s17 84) (2 : Int32) i0) fun r19 =>
  bd_ (mg_ s17 84 4 r19) fun s23 =>
  bn_ (fX1_letPass (sb_ s23 83) i1) fun r25 =>
  bd_ (mg_ s23 83 33 r25) fun s29 =>
  bn_ (fX1_regretNow (sb_ s29 83)) fun r31 =>
  some (s29, (.inl r31)))
  (fun c12 => some (s, (.inr c12))))
  (fun c6 => some (s, (.inr c6)))
def fX7_regretAgainst (s : st_) (i0 : Int32) (i1 : Int32) : Option (st_ × (Int32 ⊕ Nat)) :=
  bn_ (fX7_requireWithin i0 (0 : Int32) (5 : Int32)) fun r1 =>
  tb_ r1 (fun x5 =>
  bn_ (fX7_requireWithin i1 (1 : Int32) (200 : Int32)) fun r7 =>
  tb_ r7 (fun x11 =>
  bn_ (fX1_copyFrom (sb_ s 83) (sb_ s 9)) fun r13 =>
  bd_ (mg_ s 83 33 r13) fun s17 =>
  bd_ (pt_ s17 84 11 i0) fun s19 =>
  bn_ (fX1_letPass (sb_ s19 83) i1) fun r23 =>
  bd_ (mg_ s19 83 33 r23) fun s27 =>
  bn_ (fX1_regretNow (sb_ s27 83)) fun r29 =>
  some (s27, (.inl r29)))
  (fun c12 => some (s, (.inr c12))))
  (fun c6 => some (s, (.inr c6)))
def fX7_rivalIn (s : st_) (i0 : Int32) : Option (st_ × (Int32 ⊕ Nat)) :=
  bn_ (fX7_requireWithin i0 (1 : Int32) (200 : Int32)) fun r1 =>
  tb_ r1 (fun x5 =>
  bn_ (fX5_hasRival (sb_ s 10)) fun r7 =>
  if r7 = (0 : Int32) then (some (s, (.inl (-2000000000 : Int32))))
  else (bn_ (fX1_copyFrom (sb_ s 83) (sb_ s 9)) fun r11 =>
  bd_ (mg_ s 83 33 r11) fun s15 =>
  bn_ (fX1_letPass (sb_ s15 83) i0) fun r17 =>
  bd_ (mg_ s15 83 33 r17) fun s21 =>
  some (s21, (.inl ((s21 88 5) - (s21 91 5))))))
  (fun c6 => some (s, (.inr c6)))
def fX7_budgetFor_x2_69 (s_x2_69 : st_) : Option (st_ × Int32) :=
  some (s_x2_69, (-1 : Int32))
def fX7_budgetFor_x2_61 (v2_x2_61 : Int32) (s_x2_61 : st_) : Option (st_ × Int32) :=
  some (s_x2_61, v2_x2_61)
def fX7_budgetFor_k2 (x : (Int32 × st_) ⊕ (st_)) : Option (st_ × Int32) :=
  Sum.elim (fun z => fX7_budgetFor_x2_61 z.1 z.2) (fun z => fX7_budgetFor_x2_69 z) x
def fX7_budgetFor_b2 (i0 : Int32) (v2_b2 : Int32) (s_b2 : st_) : Option ((Int32 × st_) ⊕ ((Int32 × st_) ⊕ (st_))) :=
  if (20 : Int32) < v2_b2 then (some (.inr (.inr s_b2)))
  else (bn_ (fX1_copyFrom (sb_ s_b2 83) (sb_ s_b2 9)) fun r1 =>
  bd_ (mg_ s_b2 83 33 r1) fun s5 =>
  bd_ (pt_ s5 84 11 (5 : Int32)) fun s7 =>
  bn_ (fX1_takeBudget (sb_ s7 83) v2_b2) fun r11 =>
  bd_ (mg_ s7 83 33 r11) fun s15 =>
  bn_ (fX1_letPass (sb_ s15 83) (20 : Int32)) fun r17 =>
  bd_ (mg_ s15 83 33 r17) fun s21 =>
  bn_ (fX1_regretNow (sb_ s21 83)) fun r23 =>
  if r23 < i0 then (some (.inl ((v2_b2 + (1 : Int32)), s21)))
  else (some (.inr (.inl (v2_b2, s21)))))
def fX7_budgetFor_l2 (i0 : Int32) : Nat → (Int32 × st_) → Option ((Int32 × st_) ⊕ (st_)) :=
  it_ (fun v => fX7_budgetFor_b2 i0 v.1 v.2)
def fX7_budgetFor (s : st_) (i0 : Int32) : Option (st_ × Int32) :=
  bn_ (fX7_budgetFor_l2 i0 FU_ ((0 : Int32), s)) (fX7_budgetFor_k2)
end
section
/-! a plain model, as pure functions: the mirrors of the reference in the proof of the whole, here no more than definitions -/
def fX8_begins_x2_19 (s_x2_19 : st_) : Option (st_) :=
  gd_ (ib_ (3 : Int32) 12584) <|
  bd_ (pt_ s_x2_19 0 (ix_ (3 : Int32)) (1 : Int32)) fun s2 =>
  gd_ (ib_ (5 : Int32) 12584) <|
  bd_ (pt_ s2 0 (ix_ (5 : Int32)) (2 : Int32)) fun s7 =>
  gd_ (ib_ (7 : Int32) 12584) <|
  bd_ (pt_ s7 0 (ix_ (7 : Int32)) (100 : Int32)) fun s12 =>
  gd_ (ib_ (8 : Int32) 12584) <|
  bd_ (pt_ s12 0 (ix_ (8 : Int32)) (1 : Int32)) fun s17 =>
  gd_ (ib_ (11 : Int32) 12584) <|
  bd_ (pt_ s17 0 (ix_ (11 : Int32)) (-1 : Int32)) fun s22 =>
  gd_ (ib_ (12 : Int32) 12584) <|
  bd_ (pt_ s22 0 (ix_ (12 : Int32)) (-1 : Int32)) fun s27 =>
  gd_ (ib_ (19 : Int32) 12584) <|
  bd_ (pt_ s27 0 (ix_ (19 : Int32)) (-1 : Int32)) fun s32 =>
  gd_ (ib_ (13 : Int32) 12584) <|
  bd_ (pt_ s32 0 (ix_ (13 : Int32)) (-1 : Int32)) fun s37 =>
  gd_ (ib_ (21 : Int32) 12584) <|
  bd_ (pt_ s37 0 (ix_ (21 : Int32)) (-1 : Int32)) fun s42 =>
  gd_ (ib_ (25 : Int32) 12584) <|
  bd_ (pt_ s42 0 (ix_ (25 : Int32)) (-1 : Int32)) fun s47 =>
  some s47
def fX8_begins_k2 (x : st_) : Option (st_) :=
  fX8_begins_x2_19 x
def fX8_begins_b2 (v1_b2 : Int32) (s_b2 : st_) : Option ((Int32 × st_) ⊕ (st_)) :=
  if (12584 : Int32) ≤ v1_b2 then (some (.inr s_b2))
  else (gd_ (ib_ v1_b2 12584) <|
  bd_ (pt_ s_b2 0 (ix_ v1_b2) (0 : Int32)) fun s52 =>
  some (.inl ((v1_b2 + (1 : Int32)), s52)))
def fX8_begins_l2 : Nat → (Int32 × st_) → Option (st_) :=
  it_ (fun v => fX8_begins_b2 v.1 v.2)
def fX8_begins (s : st_) : Option (st_) :=
  bn_ (fX8_begins_l2 FU_ ((0 : Int32), s)) (fX8_begins_k2)
def fX8_completes_x52_90 (s_x52_90 : st_) : Option (st_) :=
  some s_x52_90
def fX8_completes_k52 (x : st_) : Option (st_) :=
  fX8_completes_x52_90 x
def fX8_completes_b52 (v1_b52 : Int32) (s_b52 : st_) : Option ((Int32 × st_) ⊕ (st_)) :=
  if (8 : Int32) ≤ v1_b52 then (some (.inr s_b52))
  else (gd_ (ib_ (1 : Int32) 12584) <|
  gd_ (ib_ (((72 : Int32) + ((47 : Int32) * v1_b52)) + (0 : Int32)) 12584) <|
  bd_ (pt_ s_b52 0 (ix_ (((72 : Int32) + ((47 : Int32) * v1_b52)) + (0 : Int32))) (s_b52 0 (ix_ (1 : Int32)))) fun s10 =>
  gd_ (ib_ (((72 : Int32) + ((47 : Int32) * v1_b52)) + (1 : Int32)) 12584) <|
  bd_ (pt_ s10 0 (ix_ (((72 : Int32) + ((47 : Int32) * v1_b52)) + (1 : Int32))) (1 : Int32)) fun s15 =>
  some (.inl ((v1_b52 + (1 : Int32)), s15)))
def fX8_completes_l52 : Nat → (Int32 × st_) → Option (st_) :=
  it_ (fun v => fX8_completes_b52 v.1 v.2)
def fX8_completes_x17_42 (s_x17_42 : st_) : Option (st_) :=
  gd_ (ib_ (8 : Int32) 12584) <|
  gd_ (ib_ (23 : Int32) 12584) <|
  bd_ (pt_ s_x17_42 0 (ix_ (23 : Int32)) (s_x17_42 0 (ix_ (8 : Int32)))) fun s4 =>
  bn_ (fX8_completes_l52 FU_ ((0 : Int32), s4)) (fX8_completes_k52)
def fX8_completes_k17 (x : st_) : Option (st_) :=
  fX8_completes_x17_42 x
def fX8_completes_b17 (v1_b17 : Int32) (s_b17 : st_) : Option ((Int32 × st_) ⊕ (st_)) :=
  gd_ (ib_ (4 : Int32) 12584) <|
  if (s_b17 0 (ix_ (4 : Int32))) ≤ v1_b17 then (some (.inr s_b17))
  else (gd_ (ib_ (((26 : Int32) + ((5 : Int32) * v1_b17)) + (2 : Int32)) 12584) <|
  bd_ (pt_ s_b17 0 (ix_ (((26 : Int32) + ((5 : Int32) * v1_b17)) + (2 : Int32))) (1000000 : Int32)) fun s21 =>
  some (.inl ((v1_b17 + (1 : Int32)), s21)))
def fX8_completes_l17 : Nat → (Int32 × st_) → Option (st_) :=
  it_ (fun v => fX8_completes_b17 v.1 v.2)
def fX8_completes_j15 (s_j15 : st_) : Option (st_) :=
  bn_ (fX8_completes_l17 FU_ ((0 : Int32), s_j15)) (fX8_completes_k17)
def fX8_completes (s : st_) : Option (st_) :=
  gd_ (ib_ (4 : Int32) 12584) <|
  if (s 0 (ix_ (4 : Int32))) = (0 : Int32) then (gd_ (ib_ (4 : Int32) 12584) <|
  bd_ (pt_ s 0 (ix_ (4 : Int32)) (1 : Int32)) fun s26 =>
  gd_ (ib_ (27 : Int32) 12584) <|
  bd_ (pt_ s26 0 (ix_ (27 : Int32)) (-1 : Int32)) fun s31 =>
  fX8_completes_j15 s31)
  else (fX8_completes_j15 s)
def fX8_thrown (s : st_) : Option (Int32) :=
  some (s 0 6)
def fX8_in_j17 : Option (Int32) :=
  some (0 : Int32)
def fX8_in (i0 : Int64) (i1 : Int64) (i2 : Int64) : Option (Int32) :=
  if (lg_cmp i0 i1) < (0 : Int32) then (fX8_in_j17)
  else (if (0 : Int32) < (lg_cmp i0 i2) then (fX8_in_j17)
  else (some (1 : Int32)))
def fX8_throwsIf_j16 (s_j16 : st_) : Option (st_ × Int32) :=
  if (s_j16 0 6) = (0 : Int32) then (some (s_j16, (0 : Int32)))
  else (some (s_j16, (1 : Int32)))
def fX8_throwsIf (s : st_) (i0 : Int32) (i1 : Int32) : Option (st_ × Int32) :=
  if (s 0 6) = (0 : Int32) then (if i0 = (0 : Int32) then (fX8_throwsIf_j16 s)
  else (bd_ (pt_ s 0 6 i1) fun s1 =>
  fX8_throwsIf_j16 s1))
  else (fX8_throwsIf_j16 s)
def fX8_wrong (s : st_) (i0 : Int32) : Option (st_ × Int32) :=
  bd_ (pt_ s 0 6 (0 : Int32)) fun s1 =>
  bn_ (fX8_throwsIf s1 i0 (1 : Int32)) fun r5 =>
  gd_ (bz_ r5.2) <|
  some (r5.1, r5.2)
def fX8_copies_x2_21 (t_x2_21 : st_) : Option (st_) :=
  some t_x2_21
def fX8_copies_k2 (x : st_) : Option (st_) :=
  fX8_copies_x2_21 x
def fX8_copies_b2 (s : st_) (v2_b2 : Int32) (t_b2 : st_) : Option ((Int32 × st_) ⊕ (st_)) :=
  if (12584 : Int32) ≤ v2_b2 then (some (.inr t_b2))
  else (gd_ (ib_ v2_b2 12584) <|
  gd_ (ib_ v2_b2 12584) <|
  bd_ (pt_ t_b2 0 (ix_ v2_b2) (s 0 (ix_ v2_b2))) fun t3 =>
  some (.inl ((v2_b2 + (1 : Int32)), t3)))
def fX8_copies_l2 (s : st_) : Nat → (Int32 × st_) → Option (st_) :=
  it_ (fun v => fX8_copies_b2 s v.1 v.2)
def fX8_copies (s : st_) (t : st_) : Option (st_) :=
  bn_ (fX8_copies_l2 s FU_ ((0 : Int32), t)) (fX8_copies_k2)
def fX8_append_x62_113 (s_x62_113 : st_) : Option (st_ × Int32) :=
  some (s_x62_113, (s_x62_113 0 8))
def fX8_append_k62 (x : st_) : Option (st_ × Int32) :=
  fX8_append_x62_113 x
def fX8_append_j107 (v4_b62 : Int32) (s_j107 : st_) : Option ((Int32 × st_) ⊕ (st_)) :=
  some (.inl ((v4_b62 + (-8 : Int32)), s_j107))
def fX8_append_b62 (i0 : Int64) (v4_b62 : Int32) (s_b62 : st_) : Option ((Int32 × st_) ⊕ (st_)) :=
  if v4_b62 < (0 : Int32) then (some (.inr s_b62))
  else (if (Int64.toInt32 ((((Int64.toUInt64 i0) >>> ((Int64.toUInt64 (Int32.toInt64 v4_b62)) &&& Int64.toUInt64 63)).toInt64) &&& (255 : Int64))) = (0 : Int32) then (fX8_append_j107 v4_b62 s_b62)
  else (gd_ (ib_ (s_b62 0 8) 500) <|
  bd_ (pt_ s_b62 7 (ix_ (s_b62 0 8)) (Int64.toInt32 ((((Int64.toUInt64 i0) >>> ((Int64.toUInt64 (Int32.toInt64 v4_b62)) &&& Int64.toUInt64 63)).toInt64) &&& (255 : Int64)))) fun s6 =>
  bd_ (pt_ s6 0 8 ((s6 0 8) + (1 : Int32))) fun s10 =>
  fX8_append_j107 v4_b62 s10))
def fX8_append_l62 (i0 : Int64) : Nat → (Int32 × st_) → Option (st_) :=
  it_ (fun v => fX8_append_b62 i0 v.1 v.2)
def fX8_append_x11_43 (i0 : Int64) (s1 : st_) (v3_x11_43 : Int32) : Option (st_ × Int32) :=
  if ((s1 0 8) + v3_x11_43) ≤ (500 : Int32) then (bn_ (fX8_append_l62 i0 FU_ ((56 : Int32), s1)) (fX8_append_k62))
  else (some (s1, (-2 : Int32)))
def fX8_append_k11 (i0 : Int64) (s1 : st_) (x : Int32) : Option (st_ × Int32) :=
  fX8_append_x11_43 i0 s1 x
def fX8_append_j35 (v3_b11 : Int32) (v4_b11 : Int32) (z1_j35 : Int32) : Option ((Int32 × Int32) ⊕ (Int32)) :=
  some (.inl ((v3_b11 + z1_j35), (v4_b11 + (-8 : Int32))))
def fX8_append_b11 (i0 : Int64) (v3_b11 : Int32) (v4_b11 : Int32) : Option ((Int32 × Int32) ⊕ (Int32)) :=
  if v4_b11 < (0 : Int32) then (some (.inr v3_b11))
  else (if (lg_cmp ((((Int64.toUInt64 i0) >>> ((Int64.toUInt64 (Int32.toInt64 v4_b11)) &&& Int64.toUInt64 63)).toInt64) &&& (255 : Int64)) (0 : Int64)) = (0 : Int32) then (fX8_append_j35 v3_b11 v4_b11 (0 : Int32))
  else (fX8_append_j35 v3_b11 v4_b11 (1 : Int32)))
def fX8_append_l11 (i0 : Int64) : Nat → (Int32 × Int32) → Option (Int32) :=
  it_ (fun v => fX8_append_b11 i0 v.1 v.2)
def fX8_append (s : st_) (i0 : Int64) : Option (st_ × Int32) :=
  bd_ (pt_ s 0 6 (0 : Int32)) fun s1 =>
  bn_ (fX8_append_l11 i0 FU_ ((0 : Int32), (56 : Int32))) (fX8_append_k11 i0 s1)
def fX8_loadError (s : st_) : Option (st_ × Int32) :=
  bd_ (pt_ s 0 6 (0 : Int32)) fun s1 =>
  some (s1, (s1 0 13))
def fX8_byteAt (s : st_) (i0 : Int32) : Option (Int32) :=
  if (s 0 8) ≤ i0 then (some (-1 : Int32))
  else (gd_ (ib_ i0 500) <|
  some (s 7 (ix_ i0)))
def fX8_isLetter (s : st_) (i0 : Int32) : Option (Int32) :=
  bn_ (fX8_byteAt s i0) fun r1 =>
  bn_ (fX8_in (Int32.toInt64 r1) (97 : Int64) (122 : Int64)) fun r5 =>
  gd_ (bz_ r5) <|
  some r5
def fX8_isDigit (s : st_) (i0 : Int32) : Option (Int32) :=
  bn_ (fX8_byteAt s i0) fun r1 =>
  bn_ (fX8_in (Int32.toInt64 r1) (48 : Int64) (57 : Int64)) fun r5 =>
  gd_ (bz_ r5) <|
  some r5
def fX8_see_x0_26 (s_x0_26 : st_) : Option (st_ × Int32) :=
  bd_ (pt_ s_x0_26 0 10 (s_x0_26 0 9)) fun s1 =>
  bn_ (fX8_byteAt s1 (s1 0 9)) fun r5 =>
  some (s1, r5)
def fX8_see_k0 (x : st_) : Option (st_ × Int32) :=
  fX8_see_x0_26 x
def fX8_see_b0 (s_b0 : st_) : Option ((st_) ⊕ (st_)) :=
  bn_ (fX8_byteAt s_b0 (s_b0 0 9)) fun r9 =>
  if r9 = (32 : Int32) then (bd_ (pt_ s_b0 0 9 ((s_b0 0 9) + (1 : Int32))) fun s13 =>
  some (.inl s13))
  else (some (.inr s_b0))
def fX8_see_l0 : Nat → st_ → Option (st_) :=
  it_ (fun v => fX8_see_b0 v)
def fX8_see (s : st_) : Option (st_ × Int32) :=
  bn_ (fX8_see_l0 FU_ s) (fX8_see_k0)
def fX8_fails (s : st_) (i0 : Int32) : Option (st_ × Int32) :=
  if (s 0 12) = (0 : Int32) then (bd_ (pt_ s 0 12 i0) fun s1 =>
  bd_ (pt_ s1 0 11 (s1 0 10)) fun s5 =>
  some (s5, (0 : Int32)))
  else (some (s, (0 : Int32)))
def fX8_takes_j106 (r1 : st_ × Int32) (v3_x46_93 : Int32) (z1_j106 : Int32) : Option (st_ × Int32) :=
  bd_ (pt_ r1.1 0 9 z1_j106) fun s8 =>
  gd_ (bz_ v3_x46_93) <|
  some (s8, v3_x46_93)
def fX8_takes_x46_93 (r1 : st_ × Int32) (v2_x10_24 : Int32) (v3_x46_93 : Int32) : Option (st_ × Int32) :=
  if v3_x46_93 = (0 : Int32) then (fX8_takes_j106 r1 v3_x46_93 (r1.1 0 9))
  else (fX8_takes_j106 r1 v3_x46_93 v2_x10_24)
def fX8_takes_k46 (r1 : st_ × Int32) (v2_x10_24 : Int32) (x : Int32) : Option (st_ × Int32) :=
  fX8_takes_x46_93 r1 v2_x10_24 x
def fX8_takes_j86 (v4_b46 : Int32) (z0_j86 : Int32) : Option ((Int32 × Int32) ⊕ (Int32)) :=
  some (.inl (z0_j86, (v4_b46 + (1 : Int32))))
def fX8_takes_b46 (w0 : Nat) (r1 : st_ × Int32) (v2_x10_24 : Int32) (v3_b46 : Int32) (v4_b46 : Int32) : Option ((Int32 × Int32) ⊕ (Int32)) :=
  if v3_b46 = (0 : Int32) then (some (.inr v3_b46))
  else (if v2_x10_24 ≤ ((r1.1 0 10) + v4_b46) then (some (.inr v3_b46))
  else (bn_ (fX8_byteAt r1.1 ((r1.1 0 10) + v4_b46)) fun r13 =>
  gd_ (sw_ w0) <|
  gd_ (ib_ v4_b46 (sb_y w0).length) <|
  if r13 = (sch_ w0 v4_b46) then (fX8_takes_j86 v4_b46 (1 : Int32))
  else (fX8_takes_j86 v4_b46 (0 : Int32))))
def fX8_takes_l46 (w0 : Nat) (r1 : st_ × Int32) (v2_x10_24 : Int32) : Nat → (Int32 × Int32) → Option (Int32) :=
  it_ (fun v => fX8_takes_b46 w0 r1 v2_x10_24 v.1 v.2)
def fX8_takes_j42 (w0 : Nat) (r1 : st_ × Int32) (v2_x10_24 : Int32) (z0_j42 : Int32) : Option (st_ × Int32) :=
  bn_ (fX8_takes_l46 w0 r1 v2_x10_24 FU_ (z0_j42, (0 : Int32))) (fX8_takes_k46 r1 v2_x10_24)
def fX8_takes_x10_24 (w0 : Nat) (r1 : st_ × Int32) (v2_x10_24 : Int32) : Option (st_ × Int32) :=
  gd_ (sw_ w0) <|
  if (v2_x10_24 - (r1.1 0 10)) = (sl_ w0) then (fX8_takes_j42 w0 r1 v2_x10_24 (1 : Int32))
  else (fX8_takes_j42 w0 r1 v2_x10_24 (0 : Int32))
def fX8_takes_k10 (w0 : Nat) (r1 : st_ × Int32) (x : Int32) : Option (st_ × Int32) :=
  fX8_takes_x10_24 w0 r1 x
def fX8_takes_b10 (r1 : st_ × Int32) (v2_b10 : Int32) : Option ((Int32) ⊕ (Int32)) :=
  bn_ (fX8_isLetter r1.1 v2_b10) fun r21 =>
  if r21 = (0 : Int32) then (some (.inr v2_b10))
  else (some (.inl (v2_b10 + (1 : Int32))))
def fX8_takes_l10 (r1 : st_ × Int32) : Nat → Int32 → Option (Int32) :=
  it_ (fun v => fX8_takes_b10 r1 v)
def fX8_takes (s : st_) (w0 : Nat) : Option (st_ × Int32) :=
  bn_ (fX8_see s) fun r1 =>
  bn_ (fX8_takes_l10 r1 FU_ (r1.1 0 10)) (fX8_takes_k10 w0 r1)
def fX8_digits_x2_52 (v1_x2_52 : Int64) (s_x2_52 : st_) : Option (st_ × Int32) :=
  some (s_x2_52, (Int64.toInt32 v1_x2_52))
def fX8_digits_k2 (x : Int64 × st_) : Option (st_ × Int32) :=
  fX8_digits_x2_52 x.1 x.2
def fX8_digits_b2 (v1_b2 : Int64) (s_b2 : st_) : Option ((Int64 × st_) ⊕ (Int64 × st_)) :=
  bn_ (fX8_isDigit s_b2 (s_b2 0 9)) fun r1 =>
  if r1 = (0 : Int32) then (some (.inr (v1_b2, s_b2)))
  else (bn_ (fX8_byteAt s_b2 (s_b2 0 9)) fun r5 =>
  bd_ (pt_ s_b2 0 9 ((s_b2 0 9) + (1 : Int32))) fun s9 =>
  some (.inl ((if ((((10 : Int64) * v1_b2) + (Int32.toInt64 r5)) - (48 : Int64)) < (100000000 : Int64) then ((((10 : Int64) * v1_b2) + (Int32.toInt64 r5)) - (48 : Int64)) else (100000000 : Int64)), s9)))
def fX8_digits_l2 : Nat → (Int64 × st_) → Option (Int64 × st_) :=
  it_ (fun v => fX8_digits_b2 v.1 v.2)
def fX8_digits (s : st_) : Option (st_ × Int32) :=
  bn_ (fX8_digits_l2 FU_ ((0 : Int64), s)) (fX8_digits_k2)
def fX8_into_j63 (s_j63 : st_) : Option (st_ × Int32) :=
  some (s_j63, (1 : Int32))
def fX8_into (s : st_) (i0 : Int32) (i1 : Int32) (i2 : Int32) : Option (st_ × Int32) :=
  bn_ (fX8_see s) fun r1 =>
  bn_ (fX8_isDigit r1.1 (r1.1 0 9)) fun r5 =>
  if r5 = (0 : Int32) then (bn_ (fX8_fails r1.1 (1 : Int32)) fun r30 =>
  gd_ (bz_ r30.2) <|
  some (r30.1, r30.2))
  else (bn_ (fX8_digits r1.1) fun r9 =>
  bd_ (pt_ r9.1 0 14 r9.2) fun s13 =>
  gd_ (ib_ i0 12584) <|
  bd_ (pt_ s13 3 (ix_ i0) (s13 0 14)) fun s18 =>
  bn_ (fX8_in (Int32.toInt64 (s18 0 14)) (Int32.toInt64 i1) (Int32.toInt64 i2)) fun r22 =>
  if r22 = (0 : Int32) then (bn_ (fX8_fails s18 (2 : Int32)) fun r26 =>
  if r26.2 = (0 : Int32) then (some (r26.1, (0 : Int32)))
  else (fX8_into_j63 r26.1))
  else (fX8_into_j63 s18))
def fX8_isRoom_j23 (s_j23 : st_) : Option (st_ × Int32) :=
  some (s_j23, (1 : Int32))
def fX8_isRoom (s : st_) (i0 : Int32) (i1 : Int32) (i2 : Int32) : Option (st_ × Int32) :=
  bd_ (pt_ s 0 10 i0) fun s1 =>
  gd_ (ib_ i1 12584) <|
  if (s1 3 (ix_ i1)) < i2 then (fX8_isRoom_j23 s1)
  else (bn_ (fX8_fails s1 (3 : Int32)) fun r6 =>
  if r6.2 = (0 : Int32) then (some (r6.1, (0 : Int32)))
  else (fX8_isRoom_j23 r6.1))
def fX8_is (s : st_) (i0 : Int32) (i1 : Int32) : Option (st_ × Int32) :=
  gd_ (ib_ i0 12584) <|
  bd_ (pt_ s 3 (ix_ i0) i1) fun s2 =>
  some (s2, (1 : Int32))
def fX8_readRule_j141 (s_j141 : st_) : Option (st_ × Int32) :=
  gd_ (ib_ (4 : Int32) 12584) <|
  gd_ (ib_ (4 : Int32) 12584) <|
  bd_ (pt_ s_j141 3 (ix_ (4 : Int32)) ((s_j141 3 (ix_ (4 : Int32))) + (1 : Int32))) fun s22 =>
  some (s22, (1 : Int32))
def fX8_readRule_j91 (r1 : st_ × Int32) (z0_j91 : Int32) (s_j91 : st_) : Option (st_ × Int32) :=
  if z0_j91 = (-1 : Int32) then (bn_ (fX8_fails s_j91 (1 : Int32)) fun r30 =>
  gd_ (bz_ r30.2) <|
  some (r30.1, r30.2))
  else (gd_ (ib_ (((26 : Int32) + ((5 : Int32) * (r1.1 3 (ix_ (4 : Int32))))) + (0 : Int32)) 12584) <|
  bd_ (pt_ s_j91 3 (ix_ (((26 : Int32) + ((5 : Int32) * (r1.1 3 (ix_ (4 : Int32))))) + (0 : Int32))) z0_j91) fun s11 =>
  gd_ (ib_ (((26 : Int32) + ((5 : Int32) * (r1.1 3 (ix_ (4 : Int32))))) + (1 : Int32)) 12584) <|
  bd_ (pt_ s11 3 (ix_ (((26 : Int32) + ((5 : Int32) * (r1.1 3 (ix_ (4 : Int32))))) + (1 : Int32))) (-1 : Int32)) fun s16 =>
  if z0_j91 = (4 : Int32) then (bn_ (fX8_into s16 (((26 : Int32) + ((5 : Int32) * (r1.1 3 (ix_ (4 : Int32))))) + (1 : Int32)) (0 : Int32) (99 : Int32)) fun r26 =>
  if r26.2 = (0 : Int32) then (some (r26.1, (0 : Int32)))
  else (fX8_readRule_j141 r26.1))
  else (fX8_readRule_j141 s16))
def fX8_readRule (s : st_) (i0 : Int32) : Option (st_ × Int32) :=
  bn_ (fX8_isRoom s i0 (4 : Int32) (6 : Int32)) fun r1 =>
  if r1.2 = (0 : Int32) then (some (r1.1, (0 : Int32)))
  else (gd_ (ib_ (4 : Int32) 12584) <|
  bn_ (fX8_takes r1.1 16) fun r6 =>
  if r6.2 = (0 : Int32) then (bn_ (fX8_takes r6.1 17) fun r35 =>
  if r35.2 = (0 : Int32) then (bn_ (fX8_takes r35.1 18) fun r39 =>
  if r39.2 = (0 : Int32) then (bn_ (fX8_takes r39.1 19) fun r43 =>
  if r43.2 = (0 : Int32) then (bn_ (fX8_takes r43.1 20) fun r47 =>
  if r47.2 = (0 : Int32) then (fX8_readRule_j91 r1 (-1 : Int32) r47.1)
  else (fX8_readRule_j91 r1 (4 : Int32) r47.1))
  else (fX8_readRule_j91 r1 (3 : Int32) r43.1))
  else (fX8_readRule_j91 r1 (2 : Int32) r39.1))
  else (fX8_readRule_j91 r1 (1 : Int32) r35.1))
  else (fX8_readRule_j91 r1 (0 : Int32) r6.1))
def fX8_readMaster_j77 (s_j77 : st_) : Option (st_ × Int32) :=
  some (s_j77, (0 : Int32))
def fX8_readMaster (s : st_) (i0 : Int32) (i1 : Int32) : Option (st_ × Int32) :=
  bn_ (fX8_takes s 22) fun r1 =>
  if r1.2 = (0 : Int32) then (bn_ (fX8_takes r1.1 23) fun r5 =>
  if r5.2 = (0 : Int32) then (bn_ (fX8_takes r5.1 24) fun r9 =>
  if r9.2 = (0 : Int32) then (bn_ (fX8_fails r9.1 (1 : Int32)) fun r22 =>
  gd_ (bz_ r22.2) <|
  some (r22.1, r22.2))
  else (gd_ (ib_ (4 : Int32) 12584) <|
  bn_ (fX8_into r9.1 i1 (0 : Int32) ((r9.1 3 (ix_ (4 : Int32))) - (1 : Int32))) fun r14 =>
  if r14.2 = (0 : Int32) then (fX8_readMaster_j77 r14.1)
  else (bn_ (fX8_is r14.1 i0 (2 : Int32)) fun r18 =>
  if r18.2 = (0 : Int32) then (fX8_readMaster_j77 r18.1)
  else (some (r18.1, (1 : Int32))))))
  else (bn_ (fX8_is r5.1 i0 (1 : Int32)) fun r27 =>
  gd_ (bz_ r27.2) <|
  some (r27.1, r27.2)))
  else (bn_ (fX8_is r1.1 i0 (0 : Int32)) fun r32 =>
  gd_ (bz_ r32.2) <|
  some (r32.1, r32.2))
def fX8_readFoe (s : st_) : Option (st_ × Int32) :=
  bn_ (fX8_takes s 29) fun r1 =>
  if r1.2 = (0 : Int32) then (bn_ (fX8_takes r1.1 30) fun r5 =>
  if r5.2 = (0 : Int32) then (bn_ (fX8_takes r5.1 31) fun r9 =>
  if r9.2 = (0 : Int32) then (bn_ (fX8_takes r9.1 32) fun r13 =>
  if r13.2 = (0 : Int32) then (bn_ (fX8_takes r13.1 33) fun r17 =>
  if r17.2 = (0 : Int32) then (bn_ (fX8_takes r17.1 34) fun r21 =>
  if r21.2 = (0 : Int32) then (bn_ (fX8_fails r21.1 (1 : Int32)) fun r25 =>
  gd_ (bz_ r25.2) <|
  some (r25.1, r25.2))
  else (bn_ (fX8_is r21.1 (9 : Int32) (5 : Int32)) fun r30 =>
  gd_ (bz_ r30.2) <|
  some (r30.1, r30.2)))
  else (bn_ (fX8_is r17.1 (9 : Int32) (4 : Int32)) fun r35 =>
  gd_ (bz_ r35.2) <|
  some (r35.1, r35.2)))
  else (bn_ (fX8_is r13.1 (9 : Int32) (3 : Int32)) fun r40 =>
  gd_ (bz_ r40.2) <|
  some (r40.1, r40.2)))
  else (bn_ (fX8_is r9.1 (9 : Int32) (2 : Int32)) fun r45 =>
  gd_ (bz_ r45.2) <|
  some (r45.1, r45.2)))
  else (bn_ (fX8_is r5.1 (9 : Int32) (1 : Int32)) fun r50 =>
  gd_ (bz_ r50.2) <|
  some (r50.1, r50.2)))
  else (bn_ (fX8_is r1.1 (9 : Int32) (0 : Int32)) fun r55 =>
  gd_ (bz_ r55.2) <|
  some (r55.1, r55.2))
def fX8_readAsk (s : st_) (i0 : Int32) : Option (st_ × Int32) :=
  bn_ (fX8_isRoom s i0 (10 : Int32) (16 : Int32)) fun r1 =>
  if r1.2 = (0 : Int32) then (some (r1.1, (0 : Int32)))
  else (gd_ (ib_ (10 : Int32) 12584) <|
  gd_ (ib_ (0 : Int32) 12584) <|
  bn_ (fX8_into r1.1 ((56 : Int32) + (r1.1 3 (ix_ (10 : Int32)))) (0 : Int32) ((r1.1 3 (ix_ (0 : Int32))) - (1 : Int32))) fun r7 =>
  if r7.2 = (0 : Int32) then (some (r7.1, (0 : Int32)))
  else (gd_ (ib_ (10 : Int32) 12584) <|
  gd_ (ib_ (10 : Int32) 12584) <|
  bd_ (pt_ r7.1 3 (ix_ (10 : Int32)) ((r7.1 3 (ix_ (10 : Int32))) + (1 : Int32))) fun s13 =>
  some (s13, (1 : Int32))))
def fX8_readStatement_j225 (s_j225 : st_) : Option (st_ × Int32) :=
  some (s_j225, (0 : Int32))
def fX8_readStatement_j156 (s_j156 : st_) : Option (st_ × Int32) :=
  some (s_j156, (0 : Int32))
def fX8_readStatement_j45 (s_j45 : st_) : Option (st_ × Int32) :=
  some (s_j45, (0 : Int32))
def fX8_readStatement (s : st_) : Option (st_ × Int32) :=
  bn_ (fX8_see s) fun r1 =>
  bn_ (fX8_takes r1.1 14) fun r5 =>
  if r5.2 = (0 : Int32) then (bn_ (fX8_takes r5.1 15) fun r9 =>
  if r9.2 = (0 : Int32) then (bn_ (fX8_takes r9.1 21) fun r13 =>
  if r13.2 = (0 : Int32) then (bn_ (fX8_takes r13.1 25) fun r17 =>
  if r17.2 = (0 : Int32) then (bn_ (fX8_takes r17.1 26) fun r21 =>
  if r21.2 = (0 : Int32) then (bn_ (fX8_takes r21.1 27) fun r25 =>
  if r25.2 = (0 : Int32) then (bn_ (fX8_takes r25.1 28) fun r29 =>
  if r29.2 = (0 : Int32) then (bn_ (fX8_takes r29.1 35) fun r33 =>
  if r33.2 = (0 : Int32) then (bn_ (fX8_takes r33.1 36) fun r37 =>
  if r37.2 = (0 : Int32) then (bn_ (fX8_fails r37.1 (1 : Int32)) fun r41 =>
  gd_ (bz_ r41.2) <|
  some (r41.1, r41.2))
  else (bn_ (fX8_into r37.1 (11 : Int32) (0 : Int32) (99999 : Int32)) fun r46 =>
  if r46.2 = (0 : Int32) then (fX8_readStatement_j225 r46.1)
  else (bn_ (fX8_into r46.1 (12 : Int32) (0 : Int32) (9999 : Int32)) fun r50 =>
  if r50.2 = (0 : Int32) then (fX8_readStatement_j225 r50.1)
  else (some (r50.1, (1 : Int32))))))
  else (bn_ (fX8_readAsk r33.1 (r1.1 0 10)) fun r54 =>
  gd_ (bz_ r54.2) <|
  some (r54.1, r54.2)))
  else (bn_ (fX8_readFoe r29.1) fun r59 =>
  gd_ (bz_ r59.2) <|
  some (r59.1, r59.2)))
  else (bn_ (fX8_into r25.1 (7 : Int32) (1 : Int32) (500 : Int32)) fun r64 =>
  if r64.2 = (0 : Int32) then (fX8_readStatement_j156 r64.1)
  else (bn_ (fX8_into r64.1 (8 : Int32) (0 : Int32) (32767 : Int32)) fun r68 =>
  if r68.2 = (0 : Int32) then (fX8_readStatement_j156 r68.1)
  else (some (r68.1, (1 : Int32))))))
  else (bn_ (fX8_into r21.1 (13 : Int32) (0 : Int32) (999 : Int32)) fun r72 =>
  gd_ (bz_ r72.2) <|
  some (r72.1, r72.2)))
  else (bn_ (fX8_readMaster r17.1 (21 : Int32) (22 : Int32)) fun r77 =>
  gd_ (bz_ r77.2) <|
  some (r77.1, r77.2)))
  else (bn_ (fX8_readMaster r13.1 (5 : Int32) (6 : Int32)) fun r82 =>
  gd_ (bz_ r82.2) <|
  some (r82.1, r82.2)))
  else (bn_ (fX8_readRule r9.1 (r1.1 0 10)) fun r87 =>
  gd_ (bz_ r87.2) <|
  some (r87.1, r87.2)))
  else (bn_ (fX8_into r5.1 (2 : Int32) (0 : Int32) (99 : Int32)) fun r92 =>
  if r92.2 = (0 : Int32) then (fX8_readStatement_j45 r92.1)
  else (bn_ (fX8_into r92.1 (3 : Int32) (1 : Int32) (99 : Int32)) fun r96 =>
  if r96.2 = (0 : Int32) then (fX8_readStatement_j45 r96.1)
  else (some (r96.1, (1 : Int32)))))
def fX8_readsAll_j89 (s_j89 : st_) : Option (st_ × Int32) :=
  some (s_j89, (1 : Int32))
def fX8_readsAll_x45_73 (s_x45_73 : st_) : Option (st_ × Int32) :=
  bn_ (fX8_see s_x45_73) fun r14 =>
  if r14.2 = (-1 : Int32) then (fX8_readsAll_j89 r14.1)
  else (bn_ (fX8_fails r14.1 (1 : Int32)) fun r18 =>
  if r18.2 = (0 : Int32) then (some (r18.1, (0 : Int32)))
  else (fX8_readsAll_j89 r18.1))
def fX8_readsAll_x45_71 (s_x45_71 : st_) : Option (st_ × Int32) :=
  some (s_x45_71, (0 : Int32))
def fX8_readsAll_k45 (x : (st_) ⊕ (st_)) : Option (st_ × Int32) :=
  Sum.elim (fun z => fX8_readsAll_x45_71 z) (fun z => fX8_readsAll_x45_73 z) x
def fX8_readsAll_b45 (s_b45 : st_) : Option ((st_) ⊕ ((st_) ⊕ (st_))) :=
  bn_ (fX8_see s_b45) fun r22 =>
  if r22.2 = (59 : Int32) then (bd_ (pt_ r22.1 0 9 ((r22.1 0 9) + (1 : Int32))) fun s26 =>
  bn_ (fX8_readStatement s26) fun r30 =>
  if r30.2 = (0 : Int32) then (some (.inr (.inl r30.1)))
  else (some (.inl r30.1)))
  else (some (.inr (.inr r22.1)))
def fX8_readsAll_l45 : Nat → st_ → Option ((st_) ⊕ (st_)) :=
  it_ (fun v => fX8_readsAll_b45 v)
def fX8_readsAll (s : st_) : Option (st_ × Int32) :=
  bn_ (fX8_takes s 13) fun r1 =>
  if r1.2 = (0 : Int32) then (bn_ (fX8_fails r1.1 (1 : Int32)) fun r34 =>
  gd_ (bz_ r34.2) <|
  some (r34.1, r34.2))
  else (bn_ (fX8_into r1.1 (0 : Int32) (2 : Int32) (100 : Int32)) fun r5 =>
  if r5.2 = (0 : Int32) then (some (r5.1, (0 : Int32)))
  else (gd_ (ib_ (0 : Int32) 12584) <|
  bn_ (fX8_into r5.1 (1 : Int32) (0 : Int32) ((r5.1 3 (ix_ (0 : Int32))) - (1 : Int32))) fun r10 =>
  if r10.2 = (0 : Int32) then (some (r10.1, (0 : Int32)))
  else (bn_ (fX8_readsAll_l45 FU_ r10.1) (fX8_readsAll_k45))))
def fX8_load (s : st_) : Option (st_ × Int32) :=
  bd_ (pt_ s 0 6 (0 : Int32)) fun s1 =>
  bn_ (fX8_begins (sb_ s1 3)) fun r5 =>
  bd_ (mg_ s1 3 1 r5) fun s9 =>
  bd_ (pt_ s9 0 9 (0 : Int32)) fun s11 =>
  bd_ (pt_ s11 0 12 (0 : Int32)) fun s15 =>
  bn_ (fX8_readsAll s15) fun r19 =>
  bd_ (pt_ r19.1 0 8 (0 : Int32)) fun s23 =>
  bd_ (pt_ s23 0 13 (s23 0 12)) fun s27 =>
  if r19.2 = (0 : Int32) then (some (s27, ((-100 : Int32) - (s27 0 11))))
  else (bn_ (fX8_copies (sb_ s27 3) (sb_ s27 1)) fun r31 =>
  bd_ (mg_ s27 1 1 r31) fun s35 =>
  bn_ (fX8_completes (sb_ s35 1)) fun r37 =>
  bd_ (mg_ s35 1 1 r37) fun s41 =>
  gd_ (ib_ (4 : Int32) 12584) <|
  some (s41, (s41 1 (ix_ (4 : Int32)))))
def fX8_of (s : st_) (i0 : Int32) (i1 : Int32) : Option (Int32) :=
  gd_ (ib_ (((26 : Int32) + ((5 : Int32) * i0)) + i1) 12584) <|
  some (s 1 (ix_ (((26 : Int32) + ((5 : Int32) * i0)) + i1)))
def fX8_adds (s : st_) (i0 : Int32) (i1 : Int32) (i2 : Int32) : Option (st_) :=
  gd_ (ib_ (((26 : Int32) + ((5 : Int32) * i0)) + i1) 12584) <|
  gd_ (ib_ (((26 : Int32) + ((5 : Int32) * i0)) + i1) 12584) <|
  bd_ (pt_ s 1 (ix_ (((26 : Int32) + ((5 : Int32) * i0)) + i1)) ((s 1 (ix_ (((26 : Int32) + ((5 : Int32) * i0)) + i1))) + i2)) fun s3 =>
  some s3
def fX8_armAt (i0 : Int32) : Option (Int32) :=
  some ((72 : Int32) + ((47 : Int32) * i0))
def fX8_armOf (s : st_) (i0 : Int32) (i1 : Int32) : Option (Int32) :=
  bn_ (fX8_armAt i0) fun r1 =>
  gd_ (ib_ (r1 + i1) 12584) <|
  some (s 1 (ix_ (r1 + i1)))
def fX8_isRule (s : st_) (i0 : Int32) : Option (Int32) :=
  gd_ (ib_ (4 : Int32) 12584) <|
  bn_ (fX8_in (Int32.toInt64 i0) (0 : Int64) (Int32.toInt64 ((s 1 (ix_ (4 : Int32))) - (1 : Int32)))) fun r2 =>
  gd_ (bz_ r2) <|
  some r2
def fX8_noRule_j14 (s : st_) (z1_j14 : Int32) : Option (st_ × Int32) :=
  bn_ (fX8_wrong s z1_j14) fun r5 =>
  gd_ (bz_ r5.2) <|
  some (r5.1, r5.2)
def fX8_noRule (s : st_) (i0 : Int32) : Option (st_ × Int32) :=
  bn_ (fX8_isRule s i0) fun r1 =>
  if r1 = (0 : Int32) then (fX8_noRule_j14 s (1 : Int32))
  else (fX8_noRule_j14 s (0 : Int32))
def fX8_noArm_j19 (s : st_) (z1_j19 : Int32) : Option (st_ × Int32) :=
  bn_ (fX8_wrong s z1_j19) fun r1 =>
  gd_ (bz_ r1.2) <|
  some (r1.1, r1.2)
def fX8_noArm_j18 (s : st_) : Option (st_ × Int32) :=
  fX8_noArm_j19 s (0 : Int32)
def fX8_noArm (s : st_) (i0 : Int32) : Option (st_ × Int32) :=
  if i0 = (-1 : Int32) then (fX8_noArm_j18 s)
  else (bn_ (fX8_isRule s i0) fun r6 =>
  if r6 = (0 : Int32) then (fX8_noArm_j19 s (1 : Int32))
  else (fX8_noArm_j18 s))
def fX8_told (i0 : Int32) : Option (Int32) :=
  if i0 = (-1 : Int32) then (some (6 : Int32))
  else (some i0)
def fX8_noCylinder_j24 (s : st_) (z1_j24 : Int32) : Option (st_ × Int32) :=
  bn_ (fX8_wrong s z1_j24) fun r6 =>
  gd_ (bz_ r6.2) <|
  some (r6.1, r6.2)
def fX8_noCylinder (s : st_) (i0 : Int32) : Option (st_ × Int32) :=
  gd_ (ib_ (0 : Int32) 12584) <|
  bn_ (fX8_in (Int32.toInt64 i0) (0 : Int64) (Int32.toInt64 ((s 1 (ix_ (0 : Int32))) - (1 : Int32)))) fun r2 =>
  if r2 = (0 : Int32) then (fX8_noCylinder_j24 s (1 : Int32))
  else (fX8_noCylinder_j24 s (0 : Int32))
def fX8_setting_j46 (i0 : Int32) (r5 : st_ × Int32) : Option (st_ × Int32) :=
  gd_ (ib_ i0 12584) <|
  some (r5.1, (r5.1 1 (ix_ i0)))
def fX8_setting_j18 (s : st_) (i0 : Int32) (z1_j18 : Int32) : Option (st_ × Int32) :=
  bn_ (fX8_wrong s z1_j18) fun r5 =>
  if r5.2 = (0 : Int32) then (if i0 = (6 : Int32) then (gd_ (ib_ (5 : Int32) 12584) <|
  if (r5.1 1 (ix_ (5 : Int32))) = (2 : Int32) then (fX8_setting_j46 i0 r5)
  else (some (r5.1, (-1 : Int32))))
  else (fX8_setting_j46 i0 r5))
  else (some (r5.1, (0 : Int32)))
def fX8_setting (s : st_) (i0 : Int32) : Option (st_ × Int32) :=
  bn_ (fX8_in (Int32.toInt64 i0) (0 : Int64) (14 : Int64)) fun r1 =>
  if r1 = (0 : Int32) then (fX8_setting_j18 s i0 (1 : Int32))
  else (fX8_setting_j18 s i0 (0 : Int32))
def fX8_rule_j59 (i0 : Int32) (r9 : st_ × Int32) (z2_j59 : Int32) : Option (st_ × Int32) :=
  bn_ (fX8_of r9.1 i0 z2_j59) fun r13 =>
  some (r9.1, r13)
def fX8_rule_j26 (i0 : Int32) (i1 : Int32) (r1 : st_ × Int32) (z1_j26 : Int32) : Option (st_ × Int32) :=
  bn_ (fX8_throwsIf r1.1 z1_j26 (2 : Int32)) fun r9 =>
  if r9.2 = (0 : Int32) then (if i1 = (4 : Int32) then (bn_ (fX8_armOf r9.1 i0 (3 : Int32)) fun r17 =>
  some (r9.1, r17))
  else (if i1 = (5 : Int32) then (fX8_rule_j59 i0 r9 (4 : Int32))
  else (fX8_rule_j59 i0 r9 i1)))
  else (some (r9.1, (0 : Int32)))
def fX8_rule (s : st_) (i0 : Int32) (i1 : Int32) : Option (st_ × Int32) :=
  bn_ (fX8_noRule s i0) fun r1 =>
  if r1.2 = (0 : Int32) then (bn_ (fX8_in (Int32.toInt64 i1) (0 : Int64) (5 : Int64)) fun r5 =>
  if r5 = (0 : Int32) then (fX8_rule_j26 i0 i1 r1 (1 : Int32))
  else (fX8_rule_j26 i0 i1 r1 (0 : Int32)))
  else (some (r1.1, (0 : Int32)))
def fX8_ask (s : st_) (i0 : Int32) : Option (st_ × Int32) :=
  bd_ (pt_ s 0 6 (0 : Int32)) fun s1 =>
  gd_ (ib_ (10 : Int32) 12584) <|
  bn_ (fX8_in (Int32.toInt64 i0) (0 : Int64) (Int32.toInt64 ((s1 1 (ix_ (10 : Int32))) - (1 : Int32)))) fun r6 =>
  if r6 = (0 : Int32) then (some (s1, (-1 : Int32)))
  else (gd_ (ib_ ((56 : Int32) + i0) 12584) <|
  some (s1, (s1 1 (ix_ ((56 : Int32) + i0)))))
def fX8_sets (s : st_) (i0 : Int32) (i1 : Int32) : Option (st_ × Int32) :=
  gd_ (ib_ i0 12584) <|
  gd_ (ib_ i0 12584) <|
  bd_ (pt_ s 1 (ix_ i0) i1) fun s3 =>
  some (s3, (s 1 (ix_ i0)))
def fX8_isFull (s : st_) : Option (Int32) :=
  bn_ (fX8_armOf s (6 : Int32) (2 : Int32)) fun r1 =>
  if r1 = (20 : Int32) then (some (1 : Int32))
  else (some (0 : Int32))
def fX8_isThere_j33 : Option (Int32) :=
  some (1 : Int32)
def fX8_isThere_j37 : Option (Int32) :=
  some (0 : Int32)
def fX8_isThere (s : st_) (i0 : Int32) : Option (Int32) :=
  gd_ (ib_ (4 : Int32) 12584) <|
  if i0 < (s 1 (ix_ (4 : Int32))) then (fX8_isThere_j33)
  else (if i0 = (6 : Int32) then (fX8_isThere_j33)
  else (if i0 = (7 : Int32) then (gd_ (ib_ (21 : Int32) 12584) <|
  if (s 1 (ix_ (21 : Int32))) = (-1 : Int32) then (fX8_isThere_j37)
  else (fX8_isThere_j33))
  else (fX8_isThere_j37)))
def fX8_comes_x2_79 (s_x2_79 : st_) : Option (st_) :=
  some s_x2_79
def fX8_comes_k2 (x : st_) : Option (st_) :=
  fX8_comes_x2_79 x
def fX8_comes_j73 (v2_b2 : Int32) (s_j73 : st_) : Option ((Int32 × st_) ⊕ (st_)) :=
  some (.inl ((v2_b2 + (1 : Int32)), s_j73))
def fX8_comes_b2 (i0 : Int32) (v2_b2 : Int32) (s_b2 : st_) : Option ((Int32 × st_) ⊕ (st_)) :=
  if (8 : Int32) ≤ v2_b2 then (some (.inr s_b2))
  else (bn_ (fX8_isThere s_b2 v2_b2) fun r1 =>
  if r1 = (0 : Int32) then (fX8_comes_j73 v2_b2 s_b2)
  else (bn_ (fX8_armAt v2_b2) fun r5 =>
  bn_ (fX8_armOf s_b2 v2_b2 (2 : Int32)) fun r9 =>
  gd_ (ib_ ((r5 + (7 : Int32)) + ((2 : Int32) * r9)) 12584) <|
  bd_ (pt_ s_b2 1 (ix_ ((r5 + (7 : Int32)) + ((2 : Int32) * r9))) i0) fun s14 =>
  gd_ (ib_ (16 : Int32) 12584) <|
  gd_ (ib_ (((r5 + (7 : Int32)) + ((2 : Int32) * r9)) + (1 : Int32)) 12584) <|
  bd_ (pt_ s14 1 (ix_ (((r5 + (7 : Int32)) + ((2 : Int32) * r9)) + (1 : Int32))) (s14 1 (ix_ (16 : Int32)))) fun s20 =>
  bn_ (fX8_armAt v2_b2) fun r24 =>
  gd_ (ib_ (r24 + (2 : Int32)) 12584) <|
  gd_ (ib_ (r24 + (2 : Int32)) 12584) <|
  bd_ (pt_ s20 1 (ix_ (r24 + (2 : Int32))) ((s20 1 (ix_ (r24 + (2 : Int32)))) + (1 : Int32))) fun s30 =>
  fX8_comes_j73 v2_b2 s30))
def fX8_comes_l2 (i0 : Int32) : Nat → (Int32 × st_) → Option (st_) :=
  it_ (fun v => fX8_comes_b2 i0 v.1 v.2)
def fX8_comes (s : st_) (i0 : Int32) : Option (st_) :=
  bn_ (fX8_comes_l2 i0 FU_ ((0 : Int32), s)) (fX8_comes_k2)
def fX8_request (s : st_) (i0 : Int32) : Option (st_ × Int32) :=
  bn_ (fX8_noCylinder s i0) fun r1 =>
  if r1.2 = (0 : Int32) then (bn_ (fX8_isFull r1.1) fun r5 =>
  if r5 = (0 : Int32) then (bn_ (fX8_comes r1.1 i0) fun r9 =>
  bn_ (fX8_armOf r9 (6 : Int32) (2 : Int32)) fun r13 =>
  some (r9, r13))
  else (some (r1.1, (-2 : Int32))))
  else (some (r1.1, (0 : Int32)))
def fX8_setFoe_j18 (s : st_) (i0 : Int32) (z1_j18 : Int32) : Option (st_ × Int32) :=
  bn_ (fX8_wrong s z1_j18) fun r5 =>
  if r5.2 = (0 : Int32) then (bn_ (fX8_sets r5.1 (9 : Int32) i0) fun r9 =>
  some (r9.1, r9.2))
  else (some (r5.1, (0 : Int32)))
def fX8_setFoe (s : st_) (i0 : Int32) : Option (st_ × Int32) :=
  bn_ (fX8_in (Int32.toInt64 i0) (0 : Int64) (5 : Int64)) fun r1 =>
  if r1 = (0 : Int32) then (fX8_setFoe_j18 s i0 (1 : Int32))
  else (fX8_setFoe_j18 s i0 (0 : Int32))
def fX8_setMaster_j68 (i0 : Int32) (r9 : st_ × Int32) (z2_j68 : Int32) : Option (st_ × Int32) :=
  gd_ (ib_ (6 : Int32) 12584) <|
  bd_ (pt_ r9.1 1 (ix_ (6 : Int32)) z2_j68) fun s14 =>
  bn_ (fX8_sets s14 (5 : Int32) i0) fun r18 =>
  some (r18.1, r18.2)
def fX8_setMaster_j43 (i0 : Int32) (i1 : Int32) (r5 : st_ × Int32) (z1_j43 : Int32) : Option (st_ × Int32) :=
  bn_ (fX8_throwsIf r5.1 z1_j43 (2 : Int32)) fun r9 =>
  if r9.2 = (0 : Int32) then (if i0 = (2 : Int32) then (fX8_setMaster_j68 i0 r9 i1)
  else (fX8_setMaster_j68 i0 r9 (0 : Int32)))
  else (some (r9.1, (0 : Int32)))
def fX8_setMaster_j42 (i0 : Int32) (i1 : Int32) (r5 : st_ × Int32) : Option (st_ × Int32) :=
  fX8_setMaster_j43 i0 i1 r5 (0 : Int32)
def fX8_setMaster_j18 (s : st_) (i0 : Int32) (i1 : Int32) (z1_j18 : Int32) : Option (st_ × Int32) :=
  bn_ (fX8_wrong s z1_j18) fun r5 =>
  if r5.2 = (0 : Int32) then (if i0 = (2 : Int32) then (bn_ (fX8_isRule r5.1 i1) fun r22 =>
  if r22 = (0 : Int32) then (fX8_setMaster_j43 i0 i1 r5 (1 : Int32))
  else (fX8_setMaster_j42 i0 i1 r5))
  else (fX8_setMaster_j42 i0 i1 r5))
  else (some (r5.1, (0 : Int32)))
def fX8_setMaster (s : st_) (i0 : Int32) (i1 : Int32) : Option (st_ × Int32) :=
  bn_ (fX8_in (Int32.toInt64 i0) (0 : Int64) (2 : Int64)) fun r1 =>
  if r1 = (0 : Int32) then (fX8_setMaster_j18 s i0 i1 (1 : Int32))
  else (fX8_setMaster_j18 s i0 i1 (0 : Int32))
def fX8_setEta_j18 (s : st_) (i0 : Int32) (z1_j18 : Int32) : Option (st_ × Int32) :=
  bn_ (fX8_wrong s z1_j18) fun r5 =>
  if r5.2 = (0 : Int32) then (bn_ (fX8_sets r5.1 (7 : Int32) i0) fun r9 =>
  some (r9.1, r9.2))
  else (some (r5.1, (0 : Int32)))
def fX8_setEta (s : st_) (i0 : Int32) : Option (st_ × Int32) :=
  bn_ (fX8_in (Int32.toInt64 i0) (1 : Int64) (500 : Int64)) fun r1 =>
  if r1 = (0 : Int32) then (fX8_setEta_j18 s i0 (1 : Int32))
  else (fX8_setEta_j18 s i0 (0 : Int32))
def fX8_setBound_j30 (s : st_) (i0 : Int32) (i1 : Int32) (z1_j30 : Int32) : Option (st_ × Int32) :=
  bn_ (fX8_wrong s z1_j30) fun r5 =>
  if r5.2 = (0 : Int32) then (gd_ (ib_ (12 : Int32) 12584) <|
  bd_ (pt_ r5.1 1 (ix_ (12 : Int32)) i1) fun s10 =>
  bn_ (fX8_sets s10 (11 : Int32) i0) fun r14 =>
  some (r14.1, r14.2))
  else (some (r5.1, (0 : Int32)))
def fX8_setBound_j25 (s : st_) (i0 : Int32) (i1 : Int32) : Option (st_ × Int32) :=
  fX8_setBound_j30 s i0 i1 (1 : Int32)
def fX8_setBound (s : st_) (i0 : Int32) (i1 : Int32) : Option (st_ × Int32) :=
  bn_ (fX8_in (Int32.toInt64 i0) (0 : Int64) (99999 : Int64)) fun r1 =>
  if r1 = (0 : Int32) then (fX8_setBound_j25 s i0 i1)
  else (bn_ (fX8_in (Int32.toInt64 i1) (0 : Int64) (9999 : Int64)) fun r18 =>
  if r18 = (0 : Int32) then (fX8_setBound_j25 s i0 i1)
  else (fX8_setBound_j30 s i0 i1 (0 : Int32)))
def fX8_addAsk (s : st_) (i0 : Int32) : Option (st_ × Int32) :=
  bn_ (fX8_noCylinder s i0) fun r1 =>
  if r1.2 = (0 : Int32) then (gd_ (ib_ (10 : Int32) 12584) <|
  if (r1.1 1 (ix_ (10 : Int32))) = (16 : Int32) then (some (r1.1, (-2 : Int32)))
  else (gd_ (ib_ (10 : Int32) 12584) <|
  gd_ (ib_ ((56 : Int32) + (r1.1 1 (ix_ (10 : Int32)))) 12584) <|
  bd_ (pt_ r1.1 1 (ix_ ((56 : Int32) + (r1.1 1 (ix_ (10 : Int32))))) i0) fun s8 =>
  gd_ (ib_ (10 : Int32) 12584) <|
  gd_ (ib_ (10 : Int32) 12584) <|
  bd_ (pt_ s8 1 (ix_ (10 : Int32)) ((s8 1 (ix_ (10 : Int32))) + (1 : Int32))) fun s14 =>
  gd_ (ib_ (10 : Int32) 12584) <|
  some (s14, ((s14 1 (ix_ (10 : Int32))) - (1 : Int32)))))
  else (some (r1.1, (0 : Int32)))
def fX8_setBudget_j20 (s : st_) (i0 : Int32) (z1_j20 : Int32) : Option (st_ × Int32) :=
  bn_ (fX8_wrong s z1_j20) fun r5 =>
  if r5.2 = (0 : Int32) then (gd_ (ib_ (14 : Int32) 12584) <|
  bd_ (pt_ r5.1 1 (ix_ (14 : Int32)) (0 : Int32)) fun s10 =>
  bn_ (fX8_sets s10 (13 : Int32) i0) fun r14 =>
  some (r14.1, r14.2))
  else (some (r5.1, (0 : Int32)))
def fX8_setBudget (s : st_) (i0 : Int32) : Option (st_ × Int32) :=
  bn_ (fX8_in (Int32.toInt64 i0) (-1 : Int64) (999 : Int64)) fun r1 =>
  if r1 = (0 : Int32) then (fX8_setBudget_j20 s i0 (1 : Int32))
  else (fX8_setBudget_j20 s i0 (0 : Int32))
def fX8_evenWeights_x14_45 (r5 : Int32) (s_x14_45 : st_) : Option (st_ × Int32) :=
  some (s_x14_45, r5)
def fX8_evenWeights_k14 (r5 : Int32) (x : st_) : Option (st_ × Int32) :=
  fX8_evenWeights_x14_45 r5 x
def fX8_evenWeights_b14 (v2_b14 : Int32) (s_b14 : st_) : Option ((Int32 × st_) ⊕ (st_)) :=
  gd_ (ib_ (4 : Int32) 12584) <|
  if (s_b14 1 (ix_ (4 : Int32))) ≤ v2_b14 then (some (.inr s_b14))
  else (gd_ (ib_ (((26 : Int32) + ((5 : Int32) * v2_b14)) + (2 : Int32)) 12584) <|
  bd_ (pt_ s_b14 1 (ix_ (((26 : Int32) + ((5 : Int32) * v2_b14)) + (2 : Int32))) (1000000 : Int32)) fun s11 =>
  some (.inl ((v2_b14 + (1 : Int32)), s11)))
def fX8_evenWeights_l14 : Nat → (Int32 × st_) → Option (st_) :=
  it_ (fun v => fX8_evenWeights_b14 v.1 v.2)
def fX8_evenWeights (s : st_) : Option (st_ × Int32) :=
  bd_ (pt_ s 0 6 (0 : Int32)) fun s1 =>
  bn_ (fX8_of s1 (0 : Int32) (2 : Int32)) fun r5 =>
  bn_ (fX8_evenWeights_l14 FU_ ((0 : Int32), s1)) (fX8_evenWeights_k14 r5)
def fX8_cylinderOf (s : st_) (i0 : Int32) (i1 : Int32) : Option (Int32) :=
  bn_ (fX8_armAt i0) fun r1 =>
  gd_ (ib_ ((r1 + (7 : Int32)) + ((2 : Int32) * i1)) 12584) <|
  some (s 1 (ix_ ((r1 + (7 : Int32)) + ((2 : Int32) * i1))))
def fX8_farOf (s : st_) (i0 : Int32) (i1 : Int32) : Option (Int32) :=
  bn_ (fX8_cylinderOf s i0 i1) fun r1 =>
  bn_ (fX8_armOf s i0 (0 : Int32)) fun r5 =>
  some (if (0 : Int32) ≤ (r1 - r5) then (r1 - r5) else (0 : Int32) - (r1 - r5))
def fX8_nearestOn_x5_120 (v3_x5_120 : Int32) : Option (Int32) :=
  some v3_x5_120
def fX8_nearestOn_k5 (x : Int32) : Option (Int32) :=
  fX8_nearestOn_x5_120 x
def fX8_nearestOn_j114 (v4_b5 : Int32) (v3_j114 : Int32) : Option ((Int32 × Int32) ⊕ (Int32)) :=
  some (.inl (v3_j114, (v4_b5 + (1 : Int32))))
def fX8_nearestOn_j113 (v4_b5 : Int32) (z0_j113 : Int32) : Option ((Int32 × Int32) ⊕ (Int32)) :=
  fX8_nearestOn_j114 v4_b5 z0_j113
def fX8_nearestOn_j100 (v3_b5 : Int32) (v4_b5 : Int32) (z0_j100 : Int32) : Option ((Int32 × Int32) ⊕ (Int32)) :=
  if z0_j100 = (0 : Int32) then (fX8_nearestOn_j113 v4_b5 v3_b5)
  else (fX8_nearestOn_j113 v4_b5 v4_b5)
def fX8_nearestOn_j95 (v3_b5 : Int32) (v4_b5 : Int32) : Option ((Int32 × Int32) ⊕ (Int32)) :=
  fX8_nearestOn_j100 v3_b5 v4_b5 (1 : Int32)
def fX8_nearestOn_j99 (v3_b5 : Int32) (v4_b5 : Int32) : Option ((Int32 × Int32) ⊕ (Int32)) :=
  fX8_nearestOn_j100 v3_b5 v4_b5 (0 : Int32)
def fX8_nearestOn_b5 (s : st_) (i0 : Int32) (i1 : Int32) (v3_b5 : Int32) (v4_b5 : Int32) : Option ((Int32 × Int32) ⊕ (Int32)) :=
  bn_ (fX8_armOf s i0 (2 : Int32)) fun r1 =>
  if r1 ≤ v4_b5 then (some (.inr v3_b5))
  else (bn_ (fX8_cylinderOf s i0 v4_b5) fun r5 =>
  bn_ (fX8_armOf s i0 (0 : Int32)) fun r9 =>
  if (0 : Int32) ≤ ((r5 - r9) * i1) then (if v3_b5 = (-1 : Int32) then (fX8_nearestOn_j95 v3_b5 v4_b5)
  else (bn_ (fX8_farOf s i0 v4_b5) fun r13 =>
  bn_ (fX8_farOf s i0 v3_b5) fun r17 =>
  if r13 < r17 then (fX8_nearestOn_j95 v3_b5 v4_b5)
  else (bn_ (fX8_farOf s i0 v4_b5) fun r21 =>
  bn_ (fX8_farOf s i0 v3_b5) fun r25 =>
  if r21 = r25 then (bn_ (fX8_cylinderOf s i0 v4_b5) fun r29 =>
  bn_ (fX8_cylinderOf s i0 v3_b5) fun r33 =>
  if r33 ≤ r29 then (fX8_nearestOn_j99 v3_b5 v4_b5)
  else (fX8_nearestOn_j95 v3_b5 v4_b5))
  else (fX8_nearestOn_j99 v3_b5 v4_b5))))
  else (fX8_nearestOn_j114 v4_b5 v3_b5))
def fX8_nearestOn_l5 (s : st_) (i0 : Int32) (i1 : Int32) : Nat → (Int32 × Int32) → Option (Int32) :=
  it_ (fun v => fX8_nearestOn_b5 s i0 i1 v.1 v.2)
def fX8_nearestOn (s : st_) (i0 : Int32) (i1 : Int32) : Option (Int32) :=
  bn_ (fX8_nearestOn_l5 s i0 i1 FU_ ((-1 : Int32), (0 : Int32))) (fX8_nearestOn_k5)
def fX8_lowestOf_x4_41 (v2_x4_41 : Int32) : Option (Int32) :=
  some v2_x4_41
def fX8_lowestOf_k4 (x : Int32) : Option (Int32) :=
  fX8_lowestOf_x4_41 x
def fX8_lowestOf_j34 (v3_b4 : Int32) (z0_j34 : Int32) : Option ((Int32 × Int32) ⊕ (Int32)) :=
  some (.inl (z0_j34, (v3_b4 + (1 : Int32))))
def fX8_lowestOf_b4 (s : st_) (i0 : Int32) (v2_b4 : Int32) (v3_b4 : Int32) : Option ((Int32 × Int32) ⊕ (Int32)) :=
  bn_ (fX8_armOf s i0 (2 : Int32)) fun r1 =>
  if r1 ≤ v3_b4 then (some (.inr v2_b4))
  else (bn_ (fX8_cylinderOf s i0 v3_b4) fun r5 =>
  bn_ (fX8_cylinderOf s i0 v2_b4) fun r9 =>
  if r9 ≤ r5 then (fX8_lowestOf_j34 v3_b4 v2_b4)
  else (fX8_lowestOf_j34 v3_b4 v3_b4))
def fX8_lowestOf_l4 (s : st_) (i0 : Int32) : Nat → (Int32 × Int32) → Option (Int32) :=
  it_ (fun v => fX8_lowestOf_b4 s i0 v.1 v.2)
def fX8_lowestOf (s : st_) (i0 : Int32) : Option (Int32) :=
  bn_ (fX8_lowestOf_l4 s i0 FU_ ((0 : Int32), (1 : Int32))) (fX8_lowestOf_k4)
def fX8_within_x2_28 (s : st_) (i0 : Int32) (v3_x2_28 : Int32) : Option (Int32) :=
  bn_ (fX8_armOf s i0 (2 : Int32)) fun r1 =>
  if r1 ≤ v3_x2_28 then (some (0 : Int32))
  else (some v3_x2_28)
def fX8_within_k2 (s : st_) (i0 : Int32) (x : Int32) : Option (Int32) :=
  fX8_within_x2_28 s i0 x
def fX8_within_b2 (s : st_) (i0 : Int32) (i1 : Int32) (v3_b2 : Int32) : Option ((Int32) ⊕ (Int32)) :=
  bn_ (fX8_armOf s i0 (2 : Int32)) fun r5 =>
  if r5 ≤ v3_b2 then (some (.inr v3_b2))
  else (bn_ (fX8_farOf s i0 v3_b2) fun r9 =>
  if r9 ≤ i1 then (some (.inr v3_b2))
  else (some (.inl (v3_b2 + (1 : Int32)))))
def fX8_within_l2 (s : st_) (i0 : Int32) (i1 : Int32) : Nat → Int32 → Option (Int32) :=
  it_ (fun v => fX8_within_b2 s i0 i1 v)
def fX8_within (s : st_) (i0 : Int32) (i1 : Int32) : Option (Int32) :=
  bn_ (fX8_within_l2 s i0 i1 FU_ (0 : Int32)) (fX8_within_k2 s i0)
def fX8_scanned_j34 (s : st_) (i0 : Int32) (z0_j15 : Int32) (r5 : Int32) (z1_j34 : Int32) : Option (st_ × Int32) :=
  gd_ (bz_ z1_j34) <|
  bd_ (pt_ s 0 15 z1_j34) fun s9 =>
  if (s9 0 15) = (0 : Int32) then (some (s9, r5))
  else (bn_ (fX8_nearestOn s9 i0 (-z0_j15)) fun r14 =>
  some (s9, r14))
def fX8_scanned_j15 (s : st_) (i0 : Int32) (z0_j15 : Int32) : Option (st_ × Int32) :=
  bn_ (fX8_nearestOn s i0 z0_j15) fun r5 =>
  if r5 = (-1 : Int32) then (fX8_scanned_j34 s i0 z0_j15 r5 (1 : Int32))
  else (fX8_scanned_j34 s i0 z0_j15 r5 (0 : Int32))
def fX8_scanned (s : st_) (i0 : Int32) : Option (st_ × Int32) :=
  bn_ (fX8_armOf s i0 (1 : Int32)) fun r1 =>
  if r1 = (1 : Int32) then (fX8_scanned_j15 s i0 (1 : Int32))
  else (fX8_scanned_j15 s i0 (-1 : Int32))
def fX8_picks (s : st_) (i0 : Int32) (i1 : Int32) : Option (st_ × Int32) :=
  bd_ (pt_ s 0 15 (0 : Int32)) fun s1 =>
  bn_ (fX8_armOf s1 i0 (2 : Int32)) fun r5 =>
  if r5 = (0 : Int32) then (some (s1, (-1 : Int32)))
  else (bn_ (fX8_of s1 i1 (0 : Int32)) fun r9 =>
  if r9 = (0 : Int32) then (some (s1, (0 : Int32)))
  else (if r9 = (1 : Int32) then (bn_ (fX8_nearestOn s1 i0 (0 : Int32)) fun r13 =>
  some (s1, r13))
  else (if r9 = (2 : Int32) then (bn_ (fX8_scanned s1 i0) fun r17 =>
  some (r17.1, r17.2))
  else (if r9 = (3 : Int32) then (bn_ (fX8_nearestOn s1 i0 (1 : Int32)) fun r21 =>
  if r21 = (-1 : Int32) then (bn_ (fX8_lowestOf s1 i0) fun r25 =>
  some (s1, r25))
  else (some (s1, r21)))
  else (bn_ (fX8_of s1 i1 (1 : Int32)) fun r29 =>
  bn_ (fX8_within s1 i0 r29) fun r33 =>
  some (s1, r33))))))
def fX8_costOf (s : st_) (i0 : Int32) : Option (Int32) :=
  if i0 = (0 : Int32) then (some (0 : Int32))
  else (gd_ (ib_ (2 : Int32) 12584) <|
  gd_ (ib_ (3 : Int32) 12584) <|
  some ((s 1 (ix_ (2 : Int32))) + ((s 1 (ix_ (3 : Int32))) * i0)))
def fX8_wouldCost (s : st_) (i0 : Int32) (i1 : Int32) : Option (st_ × Int32) :=
  bn_ (fX8_picks s i0 i1) fun r1 =>
  if r1.2 = (-1 : Int32) then (some (r1.1, (0 : Int32)))
  else (bn_ (fX8_farOf r1.1 i0 r1.2) fun r5 =>
  bn_ (fX8_costOf r1.1 r5) fun r9 =>
  some (r1.1, r9))
def fX8_served1 (s : st_) (i0 : Int32) (i1 : Int32) : Option (st_ × Int32) :=
  bn_ (fX8_picks s i0 i1) fun r1 =>
  if r1.2 = (-1 : Int32) then (some (r1.1, (-1 : Int32)))
  else (if (r1.1 0 15) = (0 : Int32) then (some (r1.1, r1.2))
  else (bn_ (fX8_armAt i0) fun r5 =>
  bn_ (fX8_armOf r1.1 i0 (1 : Int32)) fun r9 =>
  gd_ (ib_ (r5 + (1 : Int32)) 12584) <|
  bd_ (pt_ r1.1 1 (ix_ (r5 + (1 : Int32))) ((1 : Int32) - r9)) fun s14 =>
  some (s14, r1.2)))
def fX8_notes_x26_56 (i0 : Int32) (i1 : Int32) (i2 : Int32) (i3 : Int32) (s_x26_56 : st_) : Option (st_) :=
  gd_ (ib_ (16 : Int32) 12584) <|
  gd_ (ib_ (448 : Int32) 12584) <|
  bd_ (pt_ s_x26_56 1 (ix_ (448 : Int32)) (s_x26_56 1 (ix_ (16 : Int32)))) fun s9 =>
  gd_ (ib_ (449 : Int32) 12584) <|
  bd_ (pt_ s9 1 (ix_ (449 : Int32)) i0) fun s14 =>
  gd_ (ib_ (450 : Int32) 12584) <|
  bd_ (pt_ s14 1 (ix_ (450 : Int32)) i1) fun s19 =>
  gd_ (ib_ (451 : Int32) 12584) <|
  bd_ (pt_ s19 1 (ix_ (451 : Int32)) i2) fun s24 =>
  gd_ (ib_ (452 : Int32) 12584) <|
  bd_ (pt_ s24 1 (ix_ (452 : Int32)) i3) fun s29 =>
  some s29
def fX8_notes_k26 (i0 : Int32) (i1 : Int32) (i2 : Int32) (i3 : Int32) (x : st_) : Option (st_) :=
  fX8_notes_x26_56 i0 i1 i2 i3 x
def fX8_notes_b26 (v5_b26 : Int32) (s_b26 : st_) : Option ((Int32 × st_) ⊕ (st_)) :=
  if v5_b26 < (453 : Int32) then (some (.inr s_b26))
  else (gd_ (ib_ (v5_b26 - (5 : Int32)) 12584) <|
  gd_ (ib_ v5_b26 12584) <|
  bd_ (pt_ s_b26 1 (ix_ v5_b26) (s_b26 1 (ix_ (v5_b26 - (5 : Int32))))) fun s35 =>
  some (.inl ((v5_b26 + (-1 : Int32)), s35)))
def fX8_notes_l26 : Nat → (Int32 × st_) → Option (st_) :=
  it_ (fun v => fX8_notes_b26 v.1 v.2)
def fX8_notes (s : st_) (i0 : Int32) (i1 : Int32) (i2 : Int32) (i3 : Int32) : Option (st_) :=
  gd_ (ib_ (20 : Int32) 12584) <|
  gd_ (ib_ (20 : Int32) 12584) <|
  bd_ (pt_ s 1 (ix_ (20 : Int32)) (if ((s 1 (ix_ (20 : Int32))) + (1 : Int32)) < (20 : Int32) then ((s 1 (ix_ (20 : Int32))) + (1 : Int32)) else (20 : Int32))) fun s3 =>
  bn_ (fX8_notes_l26 FU_ ((547 : Int32), s3)) (fX8_notes_k26 i0 i1 i2 i3)
def fX8_serves_x187_231 (r9 : Int32) (s_x187_231 : st_) : Option (st_ × Int32) :=
  bn_ (fX8_costOf s_x187_231 r9) fun r58 =>
  some (s_x187_231, r58)
def fX8_serves_k187 (r9 : Int32) (x : st_) : Option (st_ × Int32) :=
  fX8_serves_x187_231 r9 x
def fX8_serves_b187 (r5 : Int32) (v7_b187 : Int32) (s_b187 : st_) : Option ((Int32 × st_) ⊕ (st_)) :=
  gd_ (ib_ (r5 + (2 : Int32)) 12584) <|
  if ((r5 + (7 : Int32)) + ((2 : Int32) * (s_b187 1 (ix_ (r5 + (2 : Int32)))))) ≤ v7_b187 then (some (.inr s_b187))
  else (gd_ (ib_ (v7_b187 + (2 : Int32)) 12584) <|
  gd_ (ib_ v7_b187 12584) <|
  bd_ (pt_ s_b187 1 (ix_ v7_b187) (s_b187 1 (ix_ (v7_b187 + (2 : Int32))))) fun s65 =>
  some (.inl ((v7_b187 + (1 : Int32)), s65)))
def fX8_serves_l187 (r5 : Int32) : Nat → (Int32 × st_) → Option (st_) :=
  it_ (fun v => fX8_serves_b187 r5 v.1 v.2)
def fX8_serves_j71 (i0 : Int32) (r1 : st_ × Int32) (r5 : Int32) (r9 : Int32) (s_j71 : st_) : Option (st_ × Int32) :=
  bn_ (fX8_cylinderOf s_j71 i0 r1.2) fun r14 =>
  gd_ (ib_ (r5 + (0 : Int32)) 12584) <|
  bd_ (pt_ s_j71 1 (ix_ (r5 + (0 : Int32))) r14) fun s19 =>
  gd_ (ib_ (r5 + (3 : Int32)) 12584) <|
  bn_ (fX8_costOf s19 r9) fun r24 =>
  gd_ (ib_ (r5 + (3 : Int32)) 12584) <|
  bd_ (pt_ s19 1 (ix_ (r5 + (3 : Int32))) ((s19 1 (ix_ (r5 + (3 : Int32)))) + r24)) fun s29 =>
  gd_ (ib_ (r5 + (4 : Int32)) 12584) <|
  gd_ (ib_ (r5 + (4 : Int32)) 12584) <|
  bd_ (pt_ s29 1 (ix_ (r5 + (4 : Int32))) ((s29 1 (ix_ (r5 + (4 : Int32)))) + r9)) fun s35 =>
  gd_ (ib_ (r5 + (5 : Int32)) 12584) <|
  gd_ (ib_ (16 : Int32) 12584) <|
  gd_ (ib_ (r5 + (5 : Int32)) 12584) <|
  bd_ (pt_ s35 1 (ix_ (r5 + (5 : Int32))) (if (s35 1 (ix_ (r5 + (5 : Int32)))) < ((s35 1 (ix_ (16 : Int32))) - (r1.1 1 (ix_ (((r5 + (7 : Int32)) + ((2 : Int32) * r1.2)) + (1 : Int32))))) then ((s35 1 (ix_ (16 : Int32))) - (r1.1 1 (ix_ (((r5 + (7 : Int32)) + ((2 : Int32) * r1.2)) + (1 : Int32))))) else (s35 1 (ix_ (r5 + (5 : Int32)))))) fun s42 =>
  gd_ (ib_ (r5 + (6 : Int32)) 12584) <|
  gd_ (ib_ (r5 + (6 : Int32)) 12584) <|
  bd_ (pt_ s42 1 (ix_ (r5 + (6 : Int32))) ((s42 1 (ix_ (r5 + (6 : Int32)))) + (1 : Int32))) fun s48 =>
  gd_ (ib_ (r5 + (2 : Int32)) 12584) <|
  gd_ (ib_ (r5 + (2 : Int32)) 12584) <|
  bd_ (pt_ s48 1 (ix_ (r5 + (2 : Int32))) ((s48 1 (ix_ (r5 + (2 : Int32)))) - (1 : Int32))) fun s54 =>
  bn_ (fX8_serves_l187 r5 FU_ (((r5 + (7 : Int32)) + ((2 : Int32) * r1.2)), s54)) (fX8_serves_k187 r9)
def fX8_serves (s : st_) (i0 : Int32) (i1 : Int32) : Option (st_ × Int32) :=
  bn_ (fX8_served1 s i0 i1) fun r1 =>
  if r1.2 = (-1 : Int32) then (some (r1.1, (0 : Int32)))
  else (bn_ (fX8_armAt i0) fun r5 =>
  bn_ (fX8_farOf r1.1 i0 r1.2) fun r9 =>
  gd_ (ib_ (((r5 + (7 : Int32)) + ((2 : Int32) * r1.2)) + (1 : Int32)) 12584) <|
  if i0 = (6 : Int32) then (bn_ (fX8_cylinderOf r1.1 i0 r1.2) fun r69 =>
  bn_ (fX8_costOf r1.1 r9) fun r73 =>
  bn_ (fX8_notes r1.1 r69 (r1.1 1 (ix_ (((r5 + (7 : Int32)) + ((2 : Int32) * r1.2)) + (1 : Int32)))) r73 i1) fun r77 =>
  fX8_serves_j71 i0 r1 r5 r9 r77)
  else (fX8_serves_j71 i0 r1 r5 r9 r1.1))
def fX8_bestRule_x4_41 (v1_x4_41 : Int32) : Option (Int32) :=
  some v1_x4_41
def fX8_bestRule_k4 (x : Int32) : Option (Int32) :=
  fX8_bestRule_x4_41 x
def fX8_bestRule_j34 (v2_b4 : Int32) (z0_j34 : Int32) : Option ((Int32 × Int32) ⊕ (Int32)) :=
  some (.inl (z0_j34, (v2_b4 + (1 : Int32))))
def fX8_bestRule_b4 (s : st_) (v1_b4 : Int32) (v2_b4 : Int32) : Option ((Int32 × Int32) ⊕ (Int32)) :=
  gd_ (ib_ (4 : Int32) 12584) <|
  if (s 1 (ix_ (4 : Int32))) ≤ v2_b4 then (some (.inr v1_b4))
  else (bn_ (fX8_armOf s v2_b4 (3 : Int32)) fun r2 =>
  bn_ (fX8_armOf s v1_b4 (3 : Int32)) fun r6 =>
  if r6 ≤ r2 then (fX8_bestRule_j34 v2_b4 v1_b4)
  else (fX8_bestRule_j34 v2_b4 v2_b4))
def fX8_bestRule_l4 (s : st_) : Nat → (Int32 × Int32) → Option (Int32) :=
  it_ (fun v => fX8_bestRule_b4 s v.1 v.2)
def fX8_bestRule (s : st_) : Option (Int32) :=
  bn_ (fX8_bestRule_l4 s FU_ ((0 : Int32), (1 : Int32))) (fX8_bestRule_k4)
def fX8_regretNow (s : st_) : Option (Int32) :=
  bn_ (fX8_armOf s (6 : Int32) (3 : Int32)) fun r1 =>
  bn_ (fX8_bestRule s) fun r5 =>
  bn_ (fX8_armOf s r5 (3 : Int32)) fun r9 =>
  some (r1 - r9)
def fX8_drawn (s : st_) (i0 : Int32) : Option (Int32) :=
  some (Int64.toInt32 ((((1103 : Int64) * (Int32.toInt64 i0)) + (12345 : Int64)) - (((1103 : Int64) * (Int32.toInt64 i0)) + (12345 : Int64)) / (32768 : Int64) * (32768 : Int64)))
def fX8_weights_x4_29 (v1_x4_29 : Int32) : Option (Int32) :=
  some v1_x4_29
def fX8_weights_k4 (x : Int32) : Option (Int32) :=
  fX8_weights_x4_29 x
def fX8_weights_b4 (s : st_) (v1_b4 : Int32) (v2_b4 : Int32) : Option ((Int32 × Int32) ⊕ (Int32)) :=
  gd_ (ib_ (4 : Int32) 12584) <|
  if (s 1 (ix_ (4 : Int32))) ≤ v2_b4 then (some (.inr v1_b4))
  else (bn_ (fX8_of s v2_b4 (2 : Int32)) fun r2 =>
  some (.inl ((v1_b4 + r2), (v2_b4 + (1 : Int32)))))
def fX8_weights_l4 (s : st_) : Nat → (Int32 × Int32) → Option (Int32) :=
  it_ (fun v => fX8_weights_b4 s v.1 v.2)
def fX8_weights (s : st_) : Option (Int32) :=
  bn_ (fX8_weights_l4 s FU_ ((0 : Int32), (0 : Int32))) (fX8_weights_k4)
def fX8_takenBy_x28_58 (v5_x28_58 : Int32) : Option (Int32) :=
  some v5_x28_58
def fX8_takenBy_k28 (x : Int32) : Option (Int32) :=
  fX8_takenBy_x28_58 x
def fX8_takenBy_b28 (s : st_) (v4_b28 : Int32) (v5_b28 : Int32) : Option ((Int32 × Int32) ⊕ (Int32)) :=
  bn_ (fX8_of s v5_b28 (2 : Int32)) fun r6 =>
  if v4_b28 < r6 then (some (.inr v5_b28))
  else (bn_ (fX8_of s v5_b28 (2 : Int32)) fun r10 =>
  some (.inl ((v4_b28 - r10), (v5_b28 + (1 : Int32)))))
def fX8_takenBy_l28 (s : st_) : Nat → (Int32 × Int32) → Option (Int32) :=
  it_ (fun v => fX8_takenBy_b28 s v.1 v.2)
def fX8_takenBy (s : st_) (i0 : Int32) (i1 : Int32) (i2 : Int32) : Option (Int32) :=
  if i0 = (2 : Int32) then (some i1)
  else (if i0 = (1 : Int32) then (bn_ (fX8_bestRule s) fun r14 =>
  some r14)
  else (bn_ (fX8_weights s) fun r1 =>
  gd_ (nz_ r1) <|
  bn_ (fX8_takenBy_l28 s FU_ ((i2 - i2 / r1 * r1), (0 : Int32))) (fX8_takenBy_k28)))
def fX8_ruleNext (s : st_) : Option (Int32) :=
  gd_ (ib_ (5 : Int32) 12584) <|
  gd_ (ib_ (6 : Int32) 12584) <|
  gd_ (ib_ (8 : Int32) 12584) <|
  bn_ (fX8_drawn s (s 1 (ix_ (8 : Int32)))) fun r4 =>
  bn_ (fX8_takenBy s (s 1 (ix_ (5 : Int32))) (s 1 (ix_ (6 : Int32))) r4) fun r8 =>
  some r8
def fX8_regretThen_x25_59 (r1 : Int32) (r9 : st_ × Int32) (v2_x25_59 : Int32) (s_x25_59 : st_) : Option (st_ × Int32) :=
  some (s_x25_59, ((r1 + r9.2) - v2_x25_59))
def fX8_regretThen_k25 (r1 : Int32) (r9 : st_ × Int32) (x : Int32 × st_) : Option (st_ × Int32) :=
  fX8_regretThen_x25_59 r1 r9 x.1 x.2
def fX8_regretThen_b25 (v2_b25 : Int32) (v3_b25 : Int32) (s_b25 : st_) : Option ((Int32 × Int32 × st_) ⊕ (Int32 × st_)) :=
  gd_ (ib_ (4 : Int32) 12584) <|
  if (s_b25 1 (ix_ (4 : Int32))) ≤ v3_b25 then (some (.inr (v2_b25, s_b25)))
  else (bn_ (fX8_armOf s_b25 v3_b25 (3 : Int32)) fun r14 =>
  bn_ (fX8_wouldCost s_b25 v3_b25 v3_b25) fun r18 =>
  some (.inl ((if (r14 + r18.2) < v2_b25 then (r14 + r18.2) else v2_b25), (v3_b25 + (1 : Int32)), r18.1)))
def fX8_regretThen_l25 : Nat → (Int32 × Int32 × st_) → Option (Int32 × st_) :=
  it_ (fun v => fX8_regretThen_b25 v.1 v.2.1 v.2.2)
def fX8_regretThen (s : st_) : Option (st_ × Int32) :=
  bn_ (fX8_armOf s (6 : Int32) (3 : Int32)) fun r1 =>
  bn_ (fX8_ruleNext s) fun r5 =>
  bn_ (fX8_wouldCost s (6 : Int32) r5) fun r9 =>
  bn_ (fX8_regretThen_l25 FU_ ((2147483647 : Int32), (0 : Int32), r9.1)) (fX8_regretThen_k25 r1 r9)
def fX8_hurts_x12_47 (r5 : st_ × Int32) (s_x12_47 : st_) : Option (st_ × Int32) :=
  some (s_x12_47, r5.2)
def fX8_hurts_k12 (r5 : st_ × Int32) (x : st_) : Option (st_ × Int32) :=
  fX8_hurts_x12_47 r5 x
def fX8_hurts_j41 (v3_b12 : Int32) (s_j41 : st_) : Option ((Int32 × st_) ⊕ (st_)) :=
  some (.inl ((v3_b12 + (1 : Int32)), s_j41))
def fX8_hurts_b12 (v3_b12 : Int32) (s_b12 : st_) : Option ((Int32 × st_) ⊕ (st_)) :=
  if (8 : Int32) ≤ v3_b12 then (some (.inr s_b12))
  else (bn_ (fX8_isThere s_b12 v3_b12) fun r9 =>
  if r9 = (0 : Int32) then (fX8_hurts_j41 v3_b12 s_b12)
  else (bn_ (fX8_armAt v3_b12) fun r13 =>
  gd_ (ib_ (r13 + (2 : Int32)) 12584) <|
  gd_ (ib_ (r13 + (2 : Int32)) 12584) <|
  bd_ (pt_ s_b12 1 (ix_ (r13 + (2 : Int32))) ((s_b12 1 (ix_ (r13 + (2 : Int32)))) - (1 : Int32))) fun s19 =>
  fX8_hurts_j41 v3_b12 s19))
def fX8_hurts_l12 : Nat → (Int32 × st_) → Option (st_) :=
  it_ (fun v => fX8_hurts_b12 v.1 v.2)
def fX8_hurts (s : st_) (i0 : Int32) : Option (st_ × Int32) :=
  bn_ (fX8_comes s i0) fun r1 =>
  bn_ (fX8_regretThen r1) fun r5 =>
  bn_ (fX8_hurts_l12 FU_ ((0 : Int32), r5.1)) (fX8_hurts_k12 r5)
def fX8_worstOf_x6_48 (v1_x6_48 : Int32) (s_x6_48 : st_) : Option (st_ × Int32) :=
  some (s_x6_48, v1_x6_48)
def fX8_worstOf_k6 (x : Int32 × st_) : Option (st_ × Int32) :=
  fX8_worstOf_x6_48 x.1 x.2
def fX8_worstOf_j42 (v3_b6 : Int32) (r2 : st_ × Int32) (v1_j42 : Int32) (v2_j42 : Int32) : Option ((Int32 × Int32 × Int32 × st_) ⊕ (Int32 × st_)) :=
  some (.inl (v1_j42, v2_j42, (v3_b6 + (1 : Int32)), r2.1))
def fX8_worstOf_j37 (v3_b6 : Int32) (r2 : st_ × Int32) : Option ((Int32 × Int32 × Int32 × st_) ⊕ (Int32 × st_)) :=
  fX8_worstOf_j42 v3_b6 r2 v3_b6 r2.2
def fX8_worstOf_b6 (v1_b6 : Int32) (v2_b6 : Int32) (v3_b6 : Int32) (s_b6 : st_) : Option ((Int32 × Int32 × Int32 × st_) ⊕ (Int32 × st_)) :=
  gd_ (ib_ (0 : Int32) 12584) <|
  if (s_b6 1 (ix_ (0 : Int32))) ≤ v3_b6 then (some (.inr (v1_b6, s_b6)))
  else (bn_ (fX8_hurts s_b6 v3_b6) fun r2 =>
  if v1_b6 = (-1 : Int32) then (fX8_worstOf_j37 v3_b6 r2)
  else (if v2_b6 < r2.2 then (fX8_worstOf_j37 v3_b6 r2)
  else (fX8_worstOf_j42 v3_b6 r2 v1_b6 v2_b6)))
def fX8_worstOf_l6 : Nat → (Int32 × Int32 × Int32 × st_) → Option (Int32 × st_) :=
  it_ (fun v => fX8_worstOf_b6 v.1 v.2.1 v.2.2.1 v.2.2.2)
def fX8_worstOf (s : st_) : Option (st_ × Int32) :=
  bn_ (fX8_worstOf_l6 FU_ ((-1 : Int32), (0 : Int32), (0 : Int32), s)) (fX8_worstOf_k6)
def fX8_lists (s : st_) : Option (st_) :=
  gd_ (ib_ (10 : Int32) 12584) <|
  if (s 1 (ix_ (10 : Int32))) = (0 : Int32) then (some s)
  else (gd_ (ib_ (15 : Int32) 12584) <|
  gd_ (ib_ (10 : Int32) 12584) <|
  gd_ (nz_ (s 1 (ix_ (10 : Int32)))) <|
  gd_ (ib_ ((56 : Int32) + ((s 1 (ix_ (15 : Int32))) - (s 1 (ix_ (15 : Int32))) / (s 1 (ix_ (10 : Int32))) * (s 1 (ix_ (10 : Int32))))) 12584) <|
  bn_ (fX8_comes s (s 1 (ix_ ((56 : Int32) + ((s 1 (ix_ (15 : Int32))) - (s 1 (ix_ (15 : Int32))) / (s 1 (ix_ (10 : Int32))) * (s 1 (ix_ (10 : Int32)))))))) fun r6 =>
  gd_ (ib_ (15 : Int32) 12584) <|
  gd_ (ib_ (10 : Int32) 12584) <|
  gd_ (nz_ (r6 1 (ix_ (10 : Int32)))) <|
  gd_ (ib_ (15 : Int32) 12584) <|
  bd_ (pt_ r6 1 (ix_ (15 : Int32)) (((r6 1 (ix_ (15 : Int32))) - (r6 1 (ix_ (15 : Int32))) / (r6 1 (ix_ (10 : Int32))) * (r6 1 (ix_ (10 : Int32)))) + (1 : Int32))) fun s14 =>
  some s14)
def fX8_foe_j73 (s : st_) (z1_j73 : Int32) : Option (st_) :=
  bn_ (fX8_comes s z1_j73) fun r7 =>
  some r7
def fX8_foe_j107 (s : st_) (z1_j107 : Int32) : Option (st_) :=
  bn_ (fX8_comes s z1_j107) fun r16 =>
  some r16
def fX8_foe_j155 (s : st_) : Option (st_) :=
  gd_ (ib_ (14 : Int32) 12584) <|
  gd_ (ib_ (14 : Int32) 12584) <|
  bd_ (pt_ s 1 (ix_ (14 : Int32)) ((s 1 (ix_ (14 : Int32))) + (1 : Int32))) fun s27 =>
  bn_ (fX8_worstOf s27) fun r31 =>
  bn_ (fX8_comes r31.1 r31.2) fun r35 =>
  some r35
def fX8_foe (s : st_) : Option (st_) :=
  gd_ (ib_ (0 : Int32) 12584) <|
  bn_ (fX8_armOf s (6 : Int32) (0 : Int32)) fun r2 =>
  gd_ (ib_ (9 : Int32) 12584) <|
  if (s 1 (ix_ (9 : Int32))) = (1 : Int32) then (if (((s 1 (ix_ (0 : Int32))) - (1 : Int32)) - r2) ≤ r2 then (fX8_foe_j73 s (0 : Int32))
  else (fX8_foe_j73 s ((s 1 (ix_ (0 : Int32))) - (1 : Int32))))
  else (if (s 1 (ix_ (9 : Int32))) = (2 : Int32) then (bn_ (fX8_comes s (((s 1 (ix_ (0 : Int32))) - (1 : Int32)) - r2)) fun r11 =>
  some r11)
  else (if (s 1 (ix_ (9 : Int32))) = (3 : Int32) then (gd_ (ib_ (16 : Int32) 12584) <|
  if ((s 1 (ix_ (16 : Int32))) - (s 1 (ix_ (16 : Int32))) / (2 : Int32) * (2 : Int32)) = (0 : Int32) then (fX8_foe_j107 s ((s 1 (ix_ (0 : Int32))) - (1 : Int32)))
  else (fX8_foe_j107 s (0 : Int32)))
  else (if (s 1 (ix_ (9 : Int32))) = (4 : Int32) then (bn_ (fX8_lists s) fun r20 =>
  some r20)
  else (if (s 1 (ix_ (9 : Int32))) = (5 : Int32) then (gd_ (ib_ (13 : Int32) 12584) <|
  if (s 1 (ix_ (13 : Int32))) = (-1 : Int32) then (fX8_foe_j155 s)
  else (gd_ (ib_ (14 : Int32) 12584) <|
  gd_ (ib_ (13 : Int32) 12584) <|
  if (s 1 (ix_ (14 : Int32))) < (s 1 (ix_ (13 : Int32))) then (fX8_foe_j155 s)
  else (bn_ (fX8_lists s) fun r41 =>
  some r41)))
  else (some s)))))
def fX8_weighs_x139_183 (s_x139_183 : st_) : Option (st_) :=
  some s_x139_183
def fX8_weighs_k139 (x : st_) : Option (st_) :=
  fX8_weighs_x139_183 x
def fX8_weighs_b139 (v3_x29_136 : Int32) (v4_b139 : Int32) (s_b139 : st_) : Option ((Int32 × st_) ⊕ (st_)) :=
  gd_ (ib_ (4 : Int32) 12584) <|
  if (s_b139 1 (ix_ (4 : Int32))) ≤ v4_b139 then (some (.inr s_b139))
  else (if (1000 : Int32) ≤ v3_x29_136 then (some (.inr s_b139))
  else (gd_ (ib_ (((26 : Int32) + ((5 : Int32) * v4_b139)) + (2 : Int32)) 12584) <|
  gd_ (ib_ (((26 : Int32) + ((5 : Int32) * v4_b139)) + (2 : Int32)) 12584) <|
  bd_ (pt_ s_b139 1 (ix_ (((26 : Int32) + ((5 : Int32) * v4_b139)) + (2 : Int32))) ((s_b139 1 (ix_ (((26 : Int32) + ((5 : Int32) * v4_b139)) + (2 : Int32)))) * (1000 : Int32))) fun s7 =>
  some (.inl ((v4_b139 + (1 : Int32)), s7))))
def fX8_weighs_l139 (v3_x29_136 : Int32) : Nat → (Int32 × st_) → Option (st_) :=
  it_ (fun v => fX8_weighs_b139 v3_x29_136 v.1 v.2)
def fX8_weighs_x29_136 (v3_x29_136 : Int32) (s_x29_136 : st_) : Option (st_) :=
  bn_ (fX8_weighs_l139 v3_x29_136 FU_ ((0 : Int32), s_x29_136)) (fX8_weighs_k139)
def fX8_weighs_k29 (x : Int32 × st_) : Option (st_) :=
  fX8_weighs_x29_136 x.1 x.2
def fX8_weighs_b29 (s : st_) (v3_b29 : Int32) (v4_b29 : Int32) (s_b29 : st_) : Option ((Int32 × Int32 × st_) ⊕ (Int32 × st_)) :=
  gd_ (ib_ (4 : Int32) 12584) <|
  if (s_b29 1 (ix_ (4 : Int32))) ≤ v4_b29 then (some (.inr (v3_b29, s_b29)))
  else (bn_ (fX8_of s_b29 v4_b29 (2 : Int32)) fun r12 =>
  gd_ (ib_ (7 : Int32) 12584) <|
  gd_ (ib_ (16 : Int32) 12584) <|
  gd_ (ib_ (((2948 : Int32) + ((1200 : Int32) * v4_b29)) + (s_b29 1 (ix_ (16 : Int32)))) 12584) <|
  gd_ (nzl_ ((1000 : Int64) * (Int32.toInt64 ((s 1 (ix_ (2 : Int32))) + ((s 1 (ix_ (3 : Int32))) * ((s 1 (ix_ (0 : Int32))) - (1 : Int32))))))) <|
  gd_ (ib_ (((26 : Int32) + ((5 : Int32) * v4_b29)) + (2 : Int32)) 12584) <|
  bd_ (pt_ s_b29 1 (ix_ (((26 : Int32) + ((5 : Int32) * v4_b29)) + (2 : Int32))) (Int64.toInt32 (if ((Int32.toInt64 r12) - ((((Int32.toInt64 r12) * (Int32.toInt64 (s_b29 1 (ix_ (7 : Int32))))) * (Int32.toInt64 (s_b29 1 (ix_ (((2948 : Int32) + ((1200 : Int32) * v4_b29)) + (s_b29 1 (ix_ (16 : Int32)))))))) / ((1000 : Int64) * (Int32.toInt64 ((s 1 (ix_ (2 : Int32))) + ((s 1 (ix_ (3 : Int32))) * ((s 1 (ix_ (0 : Int32))) - (1 : Int32)))))))) < (1 : Int64) then (1 : Int64) else ((Int32.toInt64 r12) - ((((Int32.toInt64 r12) * (Int32.toInt64 (s_b29 1 (ix_ (7 : Int32))))) * (Int32.toInt64 (s_b29 1 (ix_ (((2948 : Int32) + ((1200 : Int32) * v4_b29)) + (s_b29 1 (ix_ (16 : Int32)))))))) / ((1000 : Int64) * (Int32.toInt64 ((s 1 (ix_ (2 : Int32))) + ((s 1 (ix_ (3 : Int32))) * ((s 1 (ix_ (0 : Int32))) - (1 : Int32))))))))))) fun s21 =>
  bn_ (fX8_of s21 v4_b29 (2 : Int32)) fun r25 =>
  some (.inl ((if v3_b29 < r25 then r25 else v3_b29), (v4_b29 + (1 : Int32)), s21)))
def fX8_weighs_l29 (s : st_) : Nat → (Int32 × Int32 × st_) → Option (Int32 × st_) :=
  it_ (fun v => fX8_weighs_b29 s v.1 v.2.1 v.2.2)
def fX8_weighs (s : st_) : Option (st_) :=
  gd_ (ib_ (2 : Int32) 12584) <|
  gd_ (ib_ (3 : Int32) 12584) <|
  gd_ (ib_ (0 : Int32) 12584) <|
  bn_ (fX8_weighs_l29 s FU_ ((0 : Int32), (0 : Int32), s)) (fX8_weighs_k29)
def fX8_rootOf_x2_19 (v1_x2_19 : Int32) : Option (Int32) :=
  some v1_x2_19
def fX8_rootOf_k2 (x : Int32) : Option (Int32) :=
  fX8_rootOf_x2_19 x
def fX8_rootOf_b2 (i0 : Int32) (v1_b2 : Int32) : Option ((Int32) ⊕ (Int32)) :=
  if i0 < ((v1_b2 + (1 : Int32)) * (v1_b2 + (1 : Int32))) then (some (.inr v1_b2))
  else (some (.inl (v1_b2 + (1 : Int32))))
def fX8_rootOf_l2 (i0 : Int32) : Nat → Int32 → Option (Int32) :=
  it_ (fun v => fX8_rootOf_b2 i0 v)
def fX8_rootOf (i0 : Int32) : Option (Int32) :=
  bn_ (fX8_rootOf_l2 i0 FU_ (0 : Int32)) (fX8_rootOf_k2)
def fX8_boundOf (s : st_) (i0 : Int32) : Option (Int32) :=
  gd_ (ib_ (11 : Int32) 12584) <|
  gd_ (ib_ (12 : Int32) 12584) <|
  bn_ (fX8_rootOf i0) fun r3 =>
  some ((s 1 (ix_ (11 : Int32))) + ((s 1 (ix_ (12 : Int32))) * r3))
def fX8_judges_j91 (s_j91 : st_) : Option (st_) :=
  gd_ (ib_ (17 : Int32) 12584) <|
  gd_ (ib_ (17 : Int32) 12584) <|
  bd_ (pt_ s_j91 1 (ix_ (17 : Int32)) ((s_j91 1 (ix_ (17 : Int32))) + (1 : Int32))) fun s20 =>
  some s20
def fX8_judges_j37 (s : st_) (r1 : Int32) (z2_j37 : Int32) : Option (st_) :=
  gd_ (ib_ (18 : Int32) 12584) <|
  bd_ (pt_ s 1 (ix_ (18 : Int32)) z2_j37) fun s7 =>
  gd_ (ib_ (11 : Int32) 12584) <|
  if (s7 1 (ix_ (11 : Int32))) = (-1 : Int32) then (some s7)
  else (gd_ (ib_ (16 : Int32) 12584) <|
  bn_ (fX8_boundOf s7 (s7 1 (ix_ (16 : Int32)))) fun r13 =>
  if r13 < r1 then (gd_ (ib_ (17 : Int32) 12584) <|
  if (s7 1 (ix_ (17 : Int32))) = (0 : Int32) then (gd_ (ib_ (16 : Int32) 12584) <|
  gd_ (ib_ (19 : Int32) 12584) <|
  bd_ (pt_ s7 1 (ix_ (19 : Int32)) ((s7 1 (ix_ (16 : Int32))) - (1 : Int32))) fun s26 =>
  fX8_judges_j91 s26)
  else (fX8_judges_j91 s7))
  else (some s7))
def fX8_judges (s : st_) : Option (st_) :=
  bn_ (fX8_regretNow s) fun r1 =>
  gd_ (ib_ (16 : Int32) 12584) <|
  if (s 1 (ix_ (16 : Int32))) = (1 : Int32) then (fX8_judges_j37 s r1 r1)
  else (gd_ (ib_ (18 : Int32) 12584) <|
  fX8_judges_j37 s r1 (if (s 1 (ix_ (18 : Int32))) < r1 then r1 else (s 1 (ix_ (18 : Int32)))))
def fX8_swapAt (i0 : Int32) (i1 : Int32) : Option (Int32) :=
  some (((12548 : Int32) + ((6 : Int32) * i0)) + i1)
def fX8_rivalTakes_j41 (s_j41 : st_) : Option (st_ × Int32) :=
  gd_ (ib_ (21 : Int32) 12584) <|
  gd_ (ib_ (22 : Int32) 12584) <|
  gd_ (ib_ (23 : Int32) 12584) <|
  bn_ (fX8_takenBy s_j41 (s_j41 1 (ix_ (21 : Int32))) (s_j41 1 (ix_ (22 : Int32))) (s_j41 1 (ix_ (23 : Int32)))) fun r6 =>
  gd_ (ib_ (25 : Int32) 12584) <|
  bd_ (pt_ s_j41 1 (ix_ (25 : Int32)) r6) fun s11 =>
  gd_ (ib_ (25 : Int32) 12584) <|
  some (s11, (s11 1 (ix_ (25 : Int32))))
def fX8_rivalTakes (s : st_) : Option (st_ × Int32) :=
  gd_ (ib_ (21 : Int32) 12584) <|
  if (s 1 (ix_ (21 : Int32))) = (-1 : Int32) then (some (s, (-1 : Int32)))
  else (gd_ (ib_ (21 : Int32) 12584) <|
  if (s 1 (ix_ (21 : Int32))) = (0 : Int32) then (gd_ (ib_ (23 : Int32) 12584) <|
  bn_ (fX8_drawn s (s 1 (ix_ (23 : Int32)))) fun r17 =>
  gd_ (ib_ (23 : Int32) 12584) <|
  bd_ (pt_ s 1 (ix_ (23 : Int32)) r17) fun s22 =>
  fX8_rivalTakes_j41 s22)
  else (fX8_rivalTakes_j41 s))
def fX8_round_x200_242 (r13 : st_ × Int32) (s_x200_242 : st_) : Option (st_) :=
  bn_ (fX8_weighs s_x200_242) fun r40 =>
  bn_ (fX8_bestRule r40) fun r44 =>
  gd_ (ib_ ((1748 : Int32) + (r13.1 1 (ix_ (16 : Int32)))) 12584) <|
  bd_ (pt_ r40 1 (ix_ ((1748 : Int32) + (r13.1 1 (ix_ (16 : Int32))))) r44) fun s49 =>
  gd_ (ib_ (16 : Int32) 12584) <|
  gd_ (ib_ (16 : Int32) 12584) <|
  bd_ (pt_ s49 1 (ix_ (16 : Int32)) ((s49 1 (ix_ (16 : Int32))) + (1 : Int32))) fun s55 =>
  bn_ (fX8_judges s55) fun r59 =>
  some r59
def fX8_round_k200 (r13 : st_ × Int32) (x : st_) : Option (st_) :=
  fX8_round_x200_242 r13 x
def fX8_round_b200 (r13 : st_ × Int32) (v5_b200 : Int32) (s_b200 : st_) : Option ((Int32 × st_) ⊕ (st_)) :=
  gd_ (ib_ (4 : Int32) 12584) <|
  if (s_b200 1 (ix_ (4 : Int32))) ≤ v5_b200 then (some (.inr s_b200))
  else (bn_ (fX8_serves s_b200 v5_b200 v5_b200) fun r64 =>
  gd_ (ib_ (((2948 : Int32) + ((1200 : Int32) * v5_b200)) + (r13.1 1 (ix_ (16 : Int32)))) 12584) <|
  bd_ (pt_ r64.1 1 (ix_ (((2948 : Int32) + ((1200 : Int32) * v5_b200)) + (r13.1 1 (ix_ (16 : Int32))))) r64.2) fun s69 =>
  some (.inl ((v5_b200 + (1 : Int32)), s69)))
def fX8_round_l200 (r13 : st_ × Int32) : Nat → (Int32 × st_) → Option (st_) :=
  it_ (fun v => fX8_round_b200 r13 v.1 v.2)
def fX8_round_j197 (r13 : st_ × Int32) (s_j197 : st_) : Option (st_) :=
  bn_ (fX8_round_l200 r13 FU_ ((0 : Int32), s_j197)) (fX8_round_k200 r13)
def fX8_round_j195 (r13 : st_ × Int32) (s36 : st_) (r74 : st_ × Int32) (z3_j195 : Int32) : Option (st_) :=
  gd_ (ib_ (24 : Int32) 12584) <|
  bd_ (pt_ r74.1 1 (ix_ (24 : Int32)) ((s36 1 (ix_ (24 : Int32))) + z3_j195)) fun s79 =>
  fX8_round_j197 r13 s79
def fX8_round_x79_118 (r9 : Int32) (r13 : st_ × Int32) (s_x79_118 : st_) : Option (st_) :=
  gd_ (ib_ ((548 : Int32) + (r13.1 1 (ix_ (16 : Int32)))) 12584) <|
  bd_ (pt_ s_x79_118 1 (ix_ ((548 : Int32) + (r13.1 1 (ix_ (16 : Int32))))) r9) fun s19 =>
  bn_ (fX8_adds s19 r9 (3 : Int32) (1 : Int32)) fun r23 =>
  bn_ (fX8_serves r23 (6 : Int32) r9) fun r27 =>
  bn_ (fX8_adds r27.1 r9 (4 : Int32) r27.2) fun r31 =>
  gd_ (ib_ ((10148 : Int32) + (r13.1 1 (ix_ (16 : Int32)))) 12584) <|
  bd_ (pt_ r31 1 (ix_ ((10148 : Int32) + (r13.1 1 (ix_ (16 : Int32))))) r27.2) fun s36 =>
  if r13.2 = (-1 : Int32) then (fX8_round_j197 r13 s36)
  else (gd_ (ib_ (24 : Int32) 12584) <|
  bn_ (fX8_serves s36 (7 : Int32) r13.2) fun r74 =>
  if r27.2 ≤ r74.2 then (fX8_round_j195 r13 s36 r74 (0 : Int32))
  else (fX8_round_j195 r13 s36 r74 (1 : Int32)))
def fX8_round_k79 (r9 : Int32) (r13 : st_ × Int32) (x : st_) : Option (st_) :=
  fX8_round_x79_118 r9 r13 x
def fX8_round_b79 (r9 : Int32) (v4_b79 : Int32) (s_b79 : st_) : Option ((Int32 × st_) ⊕ (st_)) :=
  gd_ (ib_ (4 : Int32) 12584) <|
  if (s_b79 1 (ix_ (4 : Int32))) ≤ v4_b79 then (some (.inr s_b79))
  else (bn_ (fX8_swapAt r9 v4_b79) fun r84 =>
  gd_ (ib_ r84 12584) <|
  bn_ (fX8_wouldCost s_b79 (6 : Int32) v4_b79) fun r89 =>
  gd_ (ib_ r84 12584) <|
  bd_ (pt_ r89.1 1 (ix_ r84) ((s_b79 1 (ix_ r84)) + r89.2)) fun s94 =>
  some (.inl ((v4_b79 + (1 : Int32)), s94)))
def fX8_round_l79 (r9 : Int32) : Nat → (Int32 × st_) → Option (st_) :=
  it_ (fun v => fX8_round_b79 r9 v.1 v.2)
def fX8_round_j38 (s_j38 : st_) : Option (st_) :=
  gd_ (ib_ (5 : Int32) 12584) <|
  gd_ (ib_ (6 : Int32) 12584) <|
  gd_ (ib_ (8 : Int32) 12584) <|
  bn_ (fX8_takenBy s_j38 (s_j38 1 (ix_ (5 : Int32))) (s_j38 1 (ix_ (6 : Int32))) (s_j38 1 (ix_ (8 : Int32)))) fun r9 =>
  bn_ (fX8_rivalTakes s_j38) fun r13 =>
  gd_ (ib_ (16 : Int32) 12584) <|
  bn_ (fX8_round_l79 r9 FU_ ((0 : Int32), r13.1)) (fX8_round_k79 r9 r13)
def fX8_round_j11 (s_j11 : st_) : Option (st_) :=
  gd_ (ib_ (5 : Int32) 12584) <|
  if (s_j11 1 (ix_ (5 : Int32))) = (0 : Int32) then (gd_ (ib_ (8 : Int32) 12584) <|
  bn_ (fX8_drawn s_j11 (s_j11 1 (ix_ (8 : Int32)))) fun r99 =>
  gd_ (ib_ (8 : Int32) 12584) <|
  bd_ (pt_ s_j11 1 (ix_ (8 : Int32)) r99) fun s104 =>
  fX8_round_j38 s104)
  else (fX8_round_j38 s_j11)
def fX8_round (s : st_) : Option (st_) :=
  bn_ (fX8_isFull s) fun r1 =>
  if r1 = (0 : Int32) then (bn_ (fX8_foe s) fun r108 =>
  fX8_round_j11 r108)
  else (fX8_round_j11 s)
def fX8_rounds_x2_17 (s_x2_17 : st_) : Option (st_) :=
  some s_x2_17
def fX8_rounds_k2 (x : st_) : Option (st_) :=
  fX8_rounds_x2_17 x
def fX8_rounds_b2 (i0 : Int32) (v2_b2 : Int32) (s_b2 : st_) : Option ((Int32 × st_) ⊕ (st_)) :=
  if i0 ≤ v2_b2 then (some (.inr s_b2))
  else (bn_ (fX8_round s_b2) fun r1 =>
  some (.inl ((v2_b2 + (1 : Int32)), r1)))
def fX8_rounds_l2 (i0 : Int32) : Nat → (Int32 × st_) → Option (st_) :=
  it_ (fun v => fX8_rounds_b2 i0 v.1 v.2)
def fX8_rounds (s : st_) (i0 : Int32) : Option (st_) :=
  bn_ (fX8_rounds_l2 i0 FU_ ((0 : Int32), s)) (fX8_rounds_k2)
def fX8_arm_j33 (s_j33 : st_) : Option (st_ × Int32) :=
  some (s_j33, (0 : Int32))
def fX8_arm_j26 (i0 : Int32) (i1 : Int32) (r1 : st_ × Int32) (z1_j26 : Int32) : Option (st_ × Int32) :=
  bn_ (fX8_throwsIf r1.1 z1_j26 (2 : Int32)) fun r9 =>
  if r9.2 = (0 : Int32) then (bn_ (fX8_told i0) fun r13 =>
  bn_ (fX8_armOf r9.1 r13 i1) fun r17 =>
  some (r9.1, r17))
  else (fX8_arm_j33 r9.1)
def fX8_arm (s : st_) (i0 : Int32) (i1 : Int32) : Option (st_ × Int32) :=
  bn_ (fX8_noArm s i0) fun r1 =>
  if r1.2 = (0 : Int32) then (bn_ (fX8_in (Int32.toInt64 i1) (0 : Int64) (6 : Int64)) fun r5 =>
  if r5 = (0 : Int32) then (fX8_arm_j26 i0 i1 r1 (1 : Int32))
  else (fX8_arm_j26 i0 i1 r1 (0 : Int32)))
  else (fX8_arm_j33 r1.1)
def fX8_waiting_j24 (i0 : Int32) (i1 : Int32) (i2 : Int32) (r1 : st_ × Int32) (z1_j24 : Int32) : Option (st_ × Int32) :=
  bn_ (fX8_throwsIf r1.1 z1_j24 (2 : Int32)) fun r9 =>
  if r9.2 = (0 : Int32) then (bn_ (fX8_told i0) fun r13 =>
  bn_ (fX8_armOf r9.1 r13 (2 : Int32)) fun r17 =>
  bn_ (fX8_in (Int32.toInt64 i1) (0 : Int64) (Int32.toInt64 (r17 - (1 : Int32)))) fun r21 =>
  if r21 = (0 : Int32) then (some (r9.1, (-1 : Int32)))
  else (bn_ (fX8_told i0) fun r25 =>
  bn_ (fX8_armAt r25) fun r29 =>
  gd_ (ib_ (((r29 + (7 : Int32)) + ((2 : Int32) * i1)) + i2) 12584) <|
  some (r9.1, (r9.1 1 (ix_ (((r29 + (7 : Int32)) + ((2 : Int32) * i1)) + i2))))))
  else (some (r9.1, (0 : Int32)))
def fX8_waiting (s : st_) (i0 : Int32) (i1 : Int32) (i2 : Int32) : Option (st_ × Int32) :=
  bn_ (fX8_noArm s i0) fun r1 =>
  if r1.2 = (0 : Int32) then (bn_ (fX8_in (Int32.toInt64 i2) (0 : Int64) (1 : Int64)) fun r5 =>
  if r5 = (0 : Int32) then (fX8_waiting_j24 i0 i1 i2 r1 (1 : Int32))
  else (fX8_waiting_j24 i0 i1 i2 r1 (0 : Int32)))
  else (some (r1.1, (0 : Int32)))
def fX8_wouldServe_j22 (i0 : Int32) (i1 : Int32) (r1 : st_ × Int32) (z1_j22 : Int32) : Option (st_ × Int32) :=
  bn_ (fX8_throwsIf r1.1 z1_j22 (1 : Int32)) fun r9 =>
  if r9.2 = (0 : Int32) then (bn_ (fX8_told i0) fun r13 =>
  bn_ (fX8_picks r9.1 r13 i1) fun r17 =>
  if r17.2 = (-1 : Int32) then (some (r17.1, (-1 : Int32)))
  else (bn_ (fX8_told i0) fun r21 =>
  bn_ (fX8_cylinderOf r17.1 r21 r17.2) fun r25 =>
  some (r17.1, r25)))
  else (some (r9.1, (0 : Int32)))
def fX8_wouldServe (s : st_) (i0 : Int32) (i1 : Int32) : Option (st_ × Int32) :=
  bn_ (fX8_noArm s i0) fun r1 =>
  if r1.2 = (0 : Int32) then (bn_ (fX8_isRule r1.1 i1) fun r5 =>
  if r5 = (0 : Int32) then (fX8_wouldServe_j22 i0 i1 r1 (1 : Int32))
  else (fX8_wouldServe_j22 i0 i1 r1 (0 : Int32)))
  else (some (r1.1, (0 : Int32)))
def fX8_nextRule (s : st_) : Option (st_ × Int32) :=
  bd_ (pt_ s 0 6 (0 : Int32)) fun s1 =>
  bn_ (fX8_ruleNext s1) fun r5 =>
  some (s1, r5)
def fX8_served_j22 (s : st_) (i0 : Int32) (i1 : Int32) (z1_j22 : Int32) : Option (st_ × Int32) :=
  bn_ (fX8_wrong s z1_j22) fun r1 =>
  if r1.2 = (0 : Int32) then (gd_ (ib_ (20 : Int32) 12584) <|
  if (r1.1 1 (ix_ (20 : Int32))) ≤ i0 then (some (r1.1, (-1 : Int32)))
  else (gd_ (ib_ (((448 : Int32) + ((5 : Int32) * i0)) + i1) 12584) <|
  some (r1.1, (r1.1 1 (ix_ (((448 : Int32) + ((5 : Int32) * i0)) + i1))))))
  else (some (r1.1, (0 : Int32)))
def fX8_served_j17 (s : st_) (i0 : Int32) (i1 : Int32) : Option (st_ × Int32) :=
  fX8_served_j22 s i0 i1 (1 : Int32)
def fX8_served (s : st_) (i0 : Int32) (i1 : Int32) : Option (st_ × Int32) :=
  if i0 < (0 : Int32) then (fX8_served_j17 s i0 i1)
  else (bn_ (fX8_in (Int32.toInt64 i1) (0 : Int64) (4 : Int64)) fun r7 =>
  if r7 = (0 : Int32) then (fX8_served_j17 s i0 i1)
  else (fX8_served_j22 s i0 i1 (0 : Int32)))
def fX8_rounds_ (s : st_) : Option (st_ × Int32) :=
  bd_ (pt_ s 0 6 (0 : Int32)) fun s1 =>
  gd_ (ib_ (16 : Int32) 12584) <|
  some (s1, (s1 1 (ix_ (16 : Int32))))
def fX8_regret_j18 (s : st_) (i0 : Int32) (z1_j18 : Int32) : Option (st_ × Int32) :=
  bn_ (fX8_wrong s z1_j18) fun r5 =>
  if r5.2 = (0 : Int32) then (if i0 = (0 : Int32) then (bn_ (fX8_regretNow r5.1) fun r9 =>
  some (r5.1, r9))
  else (if i0 = (1 : Int32) then (gd_ (ib_ (11 : Int32) 12584) <|
  if (r5.1 1 (ix_ (11 : Int32))) = (-1 : Int32) then (some (r5.1, (-2000000000 : Int32)))
  else (gd_ (ib_ (16 : Int32) 12584) <|
  bn_ (fX8_boundOf r5.1 (r5.1 1 (ix_ (16 : Int32)))) fun r15 =>
  some (r5.1, r15)))
  else (if i0 = (2 : Int32) then (gd_ (ib_ (17 : Int32) 12584) <|
  some (r5.1, (r5.1 1 (ix_ (17 : Int32)))))
  else (if i0 = (3 : Int32) then (gd_ (ib_ (18 : Int32) 12584) <|
  some (r5.1, (r5.1 1 (ix_ (18 : Int32)))))
  else (gd_ (ib_ (19 : Int32) 12584) <|
  some (r5.1, (r5.1 1 (ix_ (19 : Int32)))))))))
  else (some (r5.1, (0 : Int32)))
def fX8_regret (s : st_) (i0 : Int32) : Option (st_ × Int32) :=
  bn_ (fX8_in (Int32.toInt64 i0) (0 : Int64) (4 : Int64)) fun r1 =>
  if r1 = (0 : Int32) then (fX8_regret_j18 s i0 (1 : Int32))
  else (fX8_regret_j18 s i0 (0 : Int32))
def fX8_best (s : st_) : Option (st_ × Int32) :=
  bd_ (pt_ s 0 6 (0 : Int32)) fun s1 =>
  bn_ (fX8_bestRule s1) fun r5 =>
  some (s1, r5)
def fX8_regretTo (s : st_) (i0 : Int32) : Option (st_ × Int32) :=
  bn_ (fX8_noRule s i0) fun r1 =>
  if r1.2 = (0 : Int32) then (bn_ (fX8_armOf r1.1 (6 : Int32) (3 : Int32)) fun r5 =>
  bn_ (fX8_armOf r1.1 i0 (3 : Int32)) fun r9 =>
  some (r1.1, (r5 - r9)))
  else (some (r1.1, (0 : Int32)))
def fX8_isMade (s : st_) (i0 : Int32) : Option (Int32) :=
  gd_ (ib_ (16 : Int32) 12584) <|
  bn_ (fX8_in (Int32.toInt64 i0) (0 : Int64) (Int32.toInt64 ((s 1 (ix_ (16 : Int32))) - (1 : Int32)))) fun r2 =>
  gd_ (bz_ r2) <|
  some r2
def fX8_costIn1 (s : st_) (i0 : Int32) (i1 : Int32) : Option (Int32) :=
  gd_ (ib_ (((2948 : Int32) + ((1200 : Int32) * i0)) + i1) 12584) <|
  some (s 1 (ix_ (((2948 : Int32) + ((1200 : Int32) * i0)) + i1)))
def fX8_cost (s : st_) (i0 : Int32) (i1 : Int32) : Option (st_ × Int32) :=
  bn_ (fX8_noArm s i0) fun r1 =>
  if r1.2 = (0 : Int32) then (bn_ (fX8_isMade r1.1 i1) fun r5 =>
  if r5 = (0 : Int32) then (some (r1.1, (-2000000000 : Int32)))
  else (bn_ (fX8_told i0) fun r9 =>
  bn_ (fX8_costIn1 r1.1 r9 i1) fun r13 =>
  some (r1.1, r13)))
  else (some (r1.1, (0 : Int32)))
def fX8_taken (s : st_) (i0 : Int32) : Option (st_ × Int32) :=
  bd_ (pt_ s 0 6 (0 : Int32)) fun s1 =>
  bn_ (fX8_isMade s1 i0) fun r5 =>
  if r5 = (0 : Int32) then (some (s1, (-1 : Int32)))
  else (gd_ (ib_ ((548 : Int32) + i0) 12584) <|
  some (s1, (s1 1 (ix_ ((548 : Int32) + i0)))))
def fX8_bestOf_x4_73 (v2_x4_73 : Int32) : Option (Int32) :=
  some v2_x4_73
def fX8_bestOf_k4 (x : Int32) : Option (Int32) :=
  fX8_bestOf_x4_73 x
def fX8_bestOf_j66 (v3_b4 : Int32) (z0_j66 : Int32) : Option ((Int32 × Int32) ⊕ (Int32)) :=
  some (.inl (z0_j66, (v3_b4 + (1 : Int32))))
def fX8_bestOf_j58 (v2_b4 : Int32) (v3_b4 : Int32) (z0_j58 : Int32) : Option ((Int32 × Int32) ⊕ (Int32)) :=
  if (0 : Int32) ≤ z0_j58 then (fX8_bestOf_j66 v3_b4 v2_b4)
  else (fX8_bestOf_j66 v3_b4 v3_b4)
def fX8_bestOf_b4 (s : st_) (i0 : Int32) (v2_b4 : Int32) (v3_b4 : Int32) : Option ((Int32 × Int32) ⊕ (Int32)) :=
  gd_ (ib_ (4 : Int32) 12584) <|
  if (s 1 (ix_ (4 : Int32))) ≤ v3_b4 then (some (.inr v2_b4))
  else (gd_ (ib_ v3_b4 6) <|
  gd_ (ib_ v2_b4 6) <|
  bn_ (fX8_armOf s v3_b4 (3 : Int32)) fun r4 =>
  bn_ (fX8_armOf s v2_b4 (3 : Int32)) fun r8 =>
  if i0 = (0 : Int32) then (fX8_bestOf_j58 v2_b4 v3_b4 ((r4 - r8) - ((s 8 (ix_ v3_b4)) - (s 8 (ix_ v2_b4)))))
  else (fX8_bestOf_j58 v2_b4 v3_b4 ((s 8 (ix_ v3_b4)) - (s 8 (ix_ v2_b4)))))
def fX8_bestOf_l4 (s : st_) (i0 : Int32) : Nat → (Int32 × Int32) → Option (Int32) :=
  it_ (fun v => fX8_bestOf_b4 s i0 v.1 v.2)
def fX8_bestOf (s : st_) (i0 : Int32) : Option (Int32) :=
  bn_ (fX8_bestOf_l4 s i0 FU_ ((0 : Int32), (1 : Int32))) (fX8_bestOf_k4)
def fX8_bestPair_x60_193 (i0 : Int32) (v2_x60_193 : Int32) (v3_x60_193 : Int32) (v4_x60_193 : Int32) (v5_x60_193 : Int32) (s_x60_193 : st_) : Option (st_ × Int32) :=
  if i0 = (0 : Int32) then (some (s_x60_193, v2_x60_193))
  else (if i0 = (1 : Int32) then (some (s_x60_193, v3_x60_193))
  else (if i0 = (2 : Int32) then (some (s_x60_193, v4_x60_193))
  else (some (s_x60_193, v5_x60_193))))
def fX8_bestPair_k60 (i0 : Int32) (x : Int32 × Int32 × Int32 × Int32 × st_) : Option (st_ × Int32) :=
  fX8_bestPair_x60_193 i0 x.1 x.2.1 x.2.2.1 x.2.2.2.1 x.2.2.2.2
def fX8_bestPair_x140_187 (v6_b60 : Int32) (v2_j137 : Int32) (v3_j137 : Int32) (v4_j137 : Int32) (v5_j137 : Int32) (s_x140_187 : st_) : Option ((Int32 × Int32 × Int32 × Int32 × Int32 × st_) ⊕ (Int32 × Int32 × Int32 × Int32 × st_)) :=
  some (.inl (v2_j137, v3_j137, v4_j137, v5_j137, (v6_b60 + (1 : Int32)), s_x140_187))
def fX8_bestPair_k140 (v6_b60 : Int32) (v2_j137 : Int32) (v3_j137 : Int32) (v4_j137 : Int32) (v5_j137 : Int32) (x : st_) : Option ((Int32 × Int32 × Int32 × Int32 × Int32 × st_) ⊕ (Int32 × Int32 × Int32 × Int32 × st_)) :=
  fX8_bestPair_x140_187 v6_b60 v2_j137 v3_j137 v4_j137 v5_j137 x
def fX8_bestPair_b140 (v6_b60 : Int32) (v10_b140 : Int32) (s_b140 : st_) : Option ((Int32 × st_) ⊕ (st_)) :=
  gd_ (ib_ (4 : Int32) 12584) <|
  if (s_b140 1 (ix_ (4 : Int32))) ≤ v10_b140 then (some (.inr s_b140))
  else (gd_ (ib_ (16 : Int32) 12584) <|
  if (s_b140 1 (ix_ (16 : Int32))) ≤ v6_b60 then (some (.inr s_b140))
  else (gd_ (ib_ v10_b140 6) <|
  bn_ (fX8_costIn1 s_b140 v10_b140 v6_b60) fun r27 =>
  gd_ (ib_ v10_b140 6) <|
  bd_ (pt_ s_b140 8 (ix_ v10_b140) ((s_b140 8 (ix_ v10_b140)) + r27)) fun s32 =>
  some (.inl ((v10_b140 + (1 : Int32)), s32))))
def fX8_bestPair_l140 (v6_b60 : Int32) : Nat → (Int32 × st_) → Option (st_) :=
  it_ (fun v => fX8_bestPair_b140 v6_b60 v.1 v.2)
def fX8_bestPair_j137 (v6_b60 : Int32) (s_b60 : st_) (v2_j137 : Int32) (v3_j137 : Int32) (v4_j137 : Int32) (v5_j137 : Int32) : Option ((Int32 × Int32 × Int32 × Int32 × Int32 × st_) ⊕ (Int32 × Int32 × Int32 × Int32 × st_)) :=
  bn_ (fX8_bestPair_l140 v6_b60 FU_ ((0 : Int32), s_b60)) (fX8_bestPair_k140 v6_b60 v2_j137 v3_j137 v4_j137 v5_j137)
def fX8_bestPair_j123 (v6_b60 : Int32) (s_b60 : st_) (r10 : Int32) (r14 : Int32) (r19 : Int32) : Option ((Int32 × Int32 × Int32 × Int32 × Int32 × st_) ⊕ (Int32 × Int32 × Int32 × Int32 × st_)) :=
  fX8_bestPair_j137 v6_b60 s_b60 (((s_b60 8 (ix_ r10)) + r19) - (s_b60 8 (ix_ r14))) r10 r14 v6_b60
def fX8_bestPair_b60 (v2_b60 : Int32) (v3_b60 : Int32) (v4_b60 : Int32) (v5_b60 : Int32) (v6_b60 : Int32) (s_b60 : st_) : Option ((Int32 × Int32 × Int32 × Int32 × Int32 × st_) ⊕ (Int32 × Int32 × Int32 × Int32 × st_)) :=
  gd_ (ib_ (16 : Int32) 12584) <|
  if (s_b60 1 (ix_ (16 : Int32))) < v6_b60 then (some (.inr (v2_b60, v3_b60, v4_b60, v5_b60, s_b60)))
  else (bn_ (fX8_bestOf s_b60 (1 : Int32)) fun r10 =>
  bn_ (fX8_bestOf s_b60 (0 : Int32)) fun r14 =>
  gd_ (ib_ r10 6) <|
  bn_ (fX8_armOf s_b60 r14 (3 : Int32)) fun r19 =>
  gd_ (ib_ r14 6) <|
  if v5_b60 = (-1 : Int32) then (fX8_bestPair_j123 v6_b60 s_b60 r10 r14 r19)
  else (if v2_b60 ≤ (((s_b60 8 (ix_ r10)) + r19) - (s_b60 8 (ix_ r14))) then (fX8_bestPair_j137 v6_b60 s_b60 v2_b60 v3_b60 v4_b60 v5_b60)
  else (fX8_bestPair_j123 v6_b60 s_b60 r10 r14 r19)))
def fX8_bestPair_l60 : Nat → (Int32 × Int32 × Int32 × Int32 × Int32 × st_) → Option (Int32 × Int32 × Int32 × Int32 × st_) :=
  it_ (fun v => fX8_bestPair_b60 v.1 v.2.1 v.2.2.1 v.2.2.2.1 v.2.2.2.2.1 v.2.2.2.2.2)
def fX8_bestPair_x28_47 (i0 : Int32) (s_x28_47 : st_) : Option (st_ × Int32) :=
  bn_ (fX8_bestPair_l60 FU_ ((0 : Int32), (-1 : Int32), (-1 : Int32), (-1 : Int32), (0 : Int32), s_x28_47)) (fX8_bestPair_k60 i0)
def fX8_bestPair_k28 (i0 : Int32) (x : st_) : Option (st_ × Int32) :=
  fX8_bestPair_x28_47 i0 x
def fX8_bestPair_b28 (v2_b28 : Int32) (s_b28 : st_) : Option ((Int32 × st_) ⊕ (st_)) :=
  if (6 : Int32) ≤ v2_b28 then (some (.inr s_b28))
  else (gd_ (ib_ v2_b28 6) <|
  bd_ (pt_ s_b28 8 (ix_ v2_b28) (0 : Int32)) fun s37 =>
  some (.inl ((v2_b28 + (1 : Int32)), s37)))
def fX8_bestPair_l28 : Nat → (Int32 × st_) → Option (st_) :=
  it_ (fun v => fX8_bestPair_b28 v.1 v.2)
def fX8_bestPair_j18 (s : st_) (i0 : Int32) (z1_j18 : Int32) : Option (st_ × Int32) :=
  bn_ (fX8_wrong s z1_j18) fun r5 =>
  if r5.2 = (0 : Int32) then (bn_ (fX8_bestPair_l28 FU_ ((0 : Int32), r5.1)) (fX8_bestPair_k28 i0))
  else (some (r5.1, (0 : Int32)))
def fX8_bestPair (s : st_) (i0 : Int32) : Option (st_ × Int32) :=
  bn_ (fX8_in (Int32.toInt64 i0) (0 : Int64) (3 : Int64)) fun r1 =>
  if r1 = (0 : Int32) then (fX8_bestPair_j18 s i0 (1 : Int32))
  else (fX8_bestPair_j18 s i0 (0 : Int32))
def fX8_cheaper_x36_79 (r9 : st_ × Int32) (v3_x36_79 : Int32) : Option (st_ × Int32) :=
  some (r9.1, v3_x36_79)
def fX8_cheaper_k36 (r9 : st_ × Int32) (x : Int32) : Option (st_ × Int32) :=
  fX8_cheaper_x36_79 r9 x
def fX8_cheaper_j71 (v3_b36 : Int32) (v4_b36 : Int32) (z1_j71 : Int32) : Option ((Int32 × Int32) ⊕ (Int32)) :=
  some (.inl ((v3_b36 + z1_j71), (v4_b36 + (1 : Int32))))
def fX8_cheaper_b36 (i0 : Int32) (i1 : Int32) (r9 : st_ × Int32) (v3_b36 : Int32) (v4_b36 : Int32) : Option ((Int32 × Int32) ⊕ (Int32)) :=
  gd_ (ib_ (16 : Int32) 12584) <|
  if (r9.1 1 (ix_ (16 : Int32))) ≤ v4_b36 then (some (.inr v3_b36))
  else (bn_ (fX8_costIn1 r9.1 i0 v4_b36) fun r14 =>
  bn_ (fX8_costIn1 r9.1 i1 v4_b36) fun r18 =>
  if r18 ≤ r14 then (fX8_cheaper_j71 v3_b36 v4_b36 (0 : Int32))
  else (fX8_cheaper_j71 v3_b36 v4_b36 (1 : Int32)))
def fX8_cheaper_l36 (i0 : Int32) (i1 : Int32) (r9 : st_ × Int32) : Nat → (Int32 × Int32) → Option (Int32) :=
  it_ (fun v => fX8_cheaper_b36 i0 i1 r9 v.1 v.2)
def fX8_cheaper_j22 (i0 : Int32) (i1 : Int32) (r1 : st_ × Int32) (z1_j22 : Int32) : Option (st_ × Int32) :=
  bn_ (fX8_throwsIf r1.1 z1_j22 (1 : Int32)) fun r9 =>
  if r9.2 = (0 : Int32) then (bn_ (fX8_cheaper_l36 i0 i1 r9 FU_ ((0 : Int32), (0 : Int32))) (fX8_cheaper_k36 r9))
  else (some (r9.1, (0 : Int32)))
def fX8_cheaper (s : st_) (i0 : Int32) (i1 : Int32) : Option (st_ × Int32) :=
  bn_ (fX8_noRule s i0) fun r1 =>
  if r1.2 = (0 : Int32) then (bn_ (fX8_isRule r1.1 i1) fun r5 =>
  if r5 = (0 : Int32) then (fX8_cheaper_j22 i0 i1 r1 (1 : Int32))
  else (fX8_cheaper_j22 i0 i1 r1 (0 : Int32)))
  else (some (r1.1, (0 : Int32)))
def fX8_leads_x14_53 (r1 : st_ × Int32) (v2_x14_53 : Int32) : Option (st_ × Int32) :=
  some (r1.1, v2_x14_53)
def fX8_leads_k14 (r1 : st_ × Int32) (x : Int32) : Option (st_ × Int32) :=
  fX8_leads_x14_53 r1 x
def fX8_leads_j45 (v2_b14 : Int32) (v3_b14 : Int32) (z1_j45 : Int32) : Option ((Int32 × Int32) ⊕ (Int32)) :=
  some (.inl ((v2_b14 + z1_j45), (v3_b14 + (1 : Int32))))
def fX8_leads_b14 (i0 : Int32) (r1 : st_ × Int32) (v2_b14 : Int32) (v3_b14 : Int32) : Option ((Int32 × Int32) ⊕ (Int32)) :=
  gd_ (ib_ (16 : Int32) 12584) <|
  if (r1.1 1 (ix_ (16 : Int32))) ≤ v3_b14 then (some (.inr v2_b14))
  else (gd_ (ib_ ((1748 : Int32) + v3_b14) 12584) <|
  if (r1.1 1 (ix_ ((1748 : Int32) + v3_b14))) = i0 then (fX8_leads_j45 v2_b14 v3_b14 (1 : Int32))
  else (fX8_leads_j45 v2_b14 v3_b14 (0 : Int32)))
def fX8_leads_l14 (i0 : Int32) (r1 : st_ × Int32) : Nat → (Int32 × Int32) → Option (Int32) :=
  it_ (fun v => fX8_leads_b14 i0 r1 v.1 v.2)
def fX8_leads (s : st_) (i0 : Int32) : Option (st_ × Int32) :=
  bn_ (fX8_noRule s i0) fun r1 =>
  if r1.2 = (0 : Int32) then (bn_ (fX8_leads_l14 i0 r1 FU_ ((0 : Int32), (0 : Int32))) (fX8_leads_k14 r1))
  else (some (r1.1, (0 : Int32)))
def fX8_switches_x9_59 (s1 : st_) (v1_x9_59 : Int32) : Option (st_ × Int32) :=
  some (s1, v1_x9_59)
def fX8_switches_k9 (s1 : st_) (x : Int32) : Option (st_ × Int32) :=
  fX8_switches_x9_59 s1 x
def fX8_switches_j51 (v1_b9 : Int32) (v2_b9 : Int32) (z1_j51 : Int32) : Option ((Int32 × Int32) ⊕ (Int32)) :=
  some (.inl ((v1_b9 + z1_j51), (v2_b9 + (1 : Int32))))
def fX8_switches_b9 (s1 : st_) (v1_b9 : Int32) (v2_b9 : Int32) : Option ((Int32 × Int32) ⊕ (Int32)) :=
  gd_ (ib_ (16 : Int32) 12584) <|
  if (s1 1 (ix_ (16 : Int32))) ≤ v2_b9 then (some (.inr v1_b9))
  else (gd_ (ib_ ((548 : Int32) + v2_b9) 12584) <|
  gd_ (ib_ (((548 : Int32) + v2_b9) - (1 : Int32)) 12584) <|
  if (s1 1 (ix_ ((548 : Int32) + v2_b9))) = (s1 1 (ix_ (((548 : Int32) + v2_b9) - (1 : Int32)))) then (fX8_switches_j51 v1_b9 v2_b9 (0 : Int32))
  else (fX8_switches_j51 v1_b9 v2_b9 (1 : Int32)))
def fX8_switches_l9 (s1 : st_) : Nat → (Int32 × Int32) → Option (Int32) :=
  it_ (fun v => fX8_switches_b9 s1 v.1 v.2)
def fX8_switches (s : st_) : Option (st_ × Int32) :=
  bd_ (pt_ s 0 6 (0 : Int32)) fun s1 =>
  bn_ (fX8_switches_l9 s1 FU_ ((0 : Int32), (1 : Int32))) (fX8_switches_k9 s1)
def fX8_streak_x17_64 (r1 : st_ × Int32) (v2_x17_64 : Int32) : Option (st_ × Int32) :=
  some (r1.1, v2_x17_64)
def fX8_streak_k17 (r1 : st_ × Int32) (x : Int32) : Option (st_ × Int32) :=
  fX8_streak_x17_64 r1 x
def fX8_streak_j51 (v2_b17 : Int32) (v4_b17 : Int32) (z0_j51 : Int32) : Option ((Int32 × Int32 × Int32) ⊕ (Int32)) :=
  some (.inl ((if v2_b17 < z0_j51 then z0_j51 else v2_b17), z0_j51, (v4_b17 + (1 : Int32))))
def fX8_streak_b17 (i0 : Int32) (r1 : st_ × Int32) (v2_b17 : Int32) (v3_b17 : Int32) (v4_b17 : Int32) : Option ((Int32 × Int32 × Int32) ⊕ (Int32)) :=
  gd_ (ib_ (16 : Int32) 12584) <|
  if (r1.1 1 (ix_ (16 : Int32))) ≤ v4_b17 then (some (.inr v2_b17))
  else (gd_ (ib_ ((548 : Int32) + v4_b17) 12584) <|
  if (r1.1 1 (ix_ ((548 : Int32) + v4_b17))) = i0 then (fX8_streak_j51 v2_b17 v4_b17 (v3_b17 + (1 : Int32)))
  else (fX8_streak_j51 v2_b17 v4_b17 (0 : Int32)))
def fX8_streak_l17 (i0 : Int32) (r1 : st_ × Int32) : Nat → (Int32 × Int32 × Int32) → Option (Int32) :=
  it_ (fun v => fX8_streak_b17 i0 r1 v.1 v.2.1 v.2.2)
def fX8_streak (s : st_) (i0 : Int32) : Option (st_ × Int32) :=
  bn_ (fX8_noRule s i0) fun r1 =>
  if r1.2 = (0 : Int32) then (bn_ (fX8_streak_l17 i0 r1 FU_ ((0 : Int32), (0 : Int32), (0 : Int32))) (fX8_streak_k17 r1))
  else (some (r1.1, (0 : Int32)))
def fX8_dearest_x46_130 (r9 : st_ × Int32) (v3_x46_130 : Int32) : Option (st_ × Int32) :=
  some (r9.1, v3_x46_130)
def fX8_dearest_k46 (r9 : st_ × Int32) (x : Int32) : Option (st_ × Int32) :=
  fX8_dearest_x46_130 r9 x
def fX8_dearest_j124 (v5_b46 : Int32) (v6_b46 : Int32) (r14 : Int32) (z2_j86 : Int32) (v3_j124 : Int32) (v4_j124 : Int32) : Option ((Int32 × Int32 × Int32 × Int32) ⊕ (Int32)) :=
  some (.inl (v3_j124, v4_j124, (v5_b46 + (r14 - z2_j86)), (v6_b46 + (1 : Int32))))
def fX8_dearest_j113 (i1 : Int32) (v5_b46 : Int32) (v6_b46 : Int32) (r14 : Int32) (z2_j86 : Int32) : Option ((Int32 × Int32 × Int32 × Int32) ⊕ (Int32)) :=
  fX8_dearest_j124 v5_b46 v6_b46 r14 z2_j86 ((v6_b46 + (1 : Int32)) - i1) (v5_b46 + (r14 - z2_j86))
def fX8_dearest_j86 (i1 : Int32) (v3_b46 : Int32) (v4_b46 : Int32) (v5_b46 : Int32) (v6_b46 : Int32) (r14 : Int32) (z2_j86 : Int32) : Option ((Int32 × Int32 × Int32 × Int32) ⊕ (Int32)) :=
  if (v6_b46 + (1 : Int32)) < i1 then (fX8_dearest_j124 v5_b46 v6_b46 r14 z2_j86 v3_b46 v4_b46)
  else (if v3_b46 = (-1 : Int32) then (fX8_dearest_j113 i1 v5_b46 v6_b46 r14 z2_j86)
  else (if v4_b46 < (v5_b46 + (r14 - z2_j86)) then (fX8_dearest_j113 i1 v5_b46 v6_b46 r14 z2_j86)
  else (fX8_dearest_j124 v5_b46 v6_b46 r14 z2_j86 v3_b46 v4_b46)))
def fX8_dearest_b46 (i0 : Int32) (i1 : Int32) (r9 : st_ × Int32) (v3_b46 : Int32) (v4_b46 : Int32) (v5_b46 : Int32) (v6_b46 : Int32) : Option ((Int32 × Int32 × Int32 × Int32) ⊕ (Int32)) :=
  gd_ (ib_ (16 : Int32) 12584) <|
  if (r9.1 1 (ix_ (16 : Int32))) ≤ v6_b46 then (some (.inr v3_b46))
  else (bn_ (fX8_costIn1 r9.1 i0 v6_b46) fun r14 =>
  if v6_b46 < i1 then (fX8_dearest_j86 i1 v3_b46 v4_b46 v5_b46 v6_b46 r14 (0 : Int32))
  else (bn_ (fX8_costIn1 r9.1 i0 (v6_b46 - i1)) fun r18 =>
  fX8_dearest_j86 i1 v3_b46 v4_b46 v5_b46 v6_b46 r14 r18))
def fX8_dearest_l46 (i0 : Int32) (i1 : Int32) (r9 : st_ × Int32) : Nat → (Int32 × Int32 × Int32 × Int32) → Option (Int32) :=
  it_ (fun v => fX8_dearest_b46 i0 i1 r9 v.1 v.2.1 v.2.2.1 v.2.2.2)
def fX8_dearest_j26 (i0 : Int32) (i1 : Int32) (r1 : st_ × Int32) (z1_j26 : Int32) : Option (st_ × Int32) :=
  bn_ (fX8_throwsIf r1.1 z1_j26 (2 : Int32)) fun r9 =>
  if r9.2 = (0 : Int32) then (bn_ (fX8_dearest_l46 i0 i1 r9 FU_ ((-1 : Int32), (0 : Int32), (0 : Int32), (0 : Int32))) (fX8_dearest_k46 r9))
  else (some (r9.1, (0 : Int32)))
def fX8_dearest (s : st_) (i0 : Int32) (i1 : Int32) : Option (st_ × Int32) :=
  bn_ (fX8_noRule s i0) fun r1 =>
  if r1.2 = (0 : Int32) then (bn_ (fX8_in (Int32.toInt64 i1) (1 : Int64) (1000 : Int64)) fun r5 =>
  if r5 = (0 : Int32) then (fX8_dearest_j26 i0 i1 r1 (1 : Int32))
  else (fX8_dearest_j26 i0 i1 r1 (0 : Int32)))
  else (some (r1.1, (0 : Int32)))
def fX8_isWindow (s : st_) (i0 : Int32) (i1 : Int32) : Option (Int32) :=
  gd_ (ib_ (16 : Int32) 12584) <|
  if ((s 1 (ix_ (16 : Int32))) - i1) < i0 then (some (0 : Int32))
  else (some (1 : Int32))
def fX8_noWindow_j22 (s : st_) (z1_j22 : Int32) : Option (st_ × Int32) :=
  bn_ (fX8_wrong s z1_j22) fun r1 =>
  gd_ (bz_ r1.2) <|
  some (r1.1, r1.2)
def fX8_noWindow_j17 (s : st_) : Option (st_ × Int32) :=
  fX8_noWindow_j22 s (1 : Int32)
def fX8_noWindow (s : st_) (i0 : Int32) (i1 : Int32) : Option (st_ × Int32) :=
  if i0 < (0 : Int32) then (fX8_noWindow_j17 s)
  else (bn_ (fX8_in (Int32.toInt64 i1) (1 : Int64) (1000 : Int64)) fun r6 =>
  if r6 = (0 : Int32) then (fX8_noWindow_j17 s)
  else (fX8_noWindow_j22 s (0 : Int32)))
def fX8_sumIn_x6_32 (v4_x6_32 : Int32) : Option (Int32) :=
  some v4_x6_32
def fX8_sumIn_k6 (x : Int32) : Option (Int32) :=
  fX8_sumIn_x6_32 x
def fX8_sumIn_b6 (s : st_) (i0 : Int32) (i1 : Int32) (i2 : Int32) (v4_b6 : Int32) (v5_b6 : Int32) : Option ((Int32 × Int32) ⊕ (Int32)) :=
  if (i1 + i2) ≤ v5_b6 then (some (.inr v4_b6))
  else (bn_ (fX8_costIn1 s i0 v5_b6) fun r1 =>
  some (.inl ((v4_b6 + r1), (v5_b6 + (1 : Int32)))))
def fX8_sumIn_l6 (s : st_) (i0 : Int32) (i1 : Int32) (i2 : Int32) : Nat → (Int32 × Int32) → Option (Int32) :=
  it_ (fun v => fX8_sumIn_b6 s i0 i1 i2 v.1 v.2)
def fX8_sumIn (s : st_) (i0 : Int32) (i1 : Int32) (i2 : Int32) : Option (Int32) :=
  bn_ (fX8_sumIn_l6 s i0 i1 i2 FU_ ((0 : Int32), i1)) (fX8_sumIn_k6)
def fX8_bestIn_x5_58 (v3_x5_58 : Int32) (s_x5_58 : st_) : Option (st_ × Int32) :=
  some (s_x5_58, v3_x5_58)
def fX8_bestIn_k5 (x : Int32 × st_) : Option (st_ × Int32) :=
  fX8_bestIn_x5_58 x.1 x.2
def fX8_bestIn_j52 (v4_b5 : Int32) (v3_j52 : Int32) (s_j52 : st_) : Option ((Int32 × Int32 × st_) ⊕ (Int32 × st_)) :=
  some (.inl (v3_j52, (v4_b5 + (1 : Int32)), s_j52))
def fX8_bestIn_j43 (v4_b5 : Int32) (s_b5 : st_) (r2 : Int32) : Option ((Int32 × Int32 × st_) ⊕ (Int32 × st_)) :=
  bd_ (pt_ s_b5 0 17 r2) fun s6 =>
  fX8_bestIn_j52 v4_b5 v4_b5 s6
def fX8_bestIn_b5 (i0 : Int32) (i1 : Int32) (v3_b5 : Int32) (v4_b5 : Int32) (s_b5 : st_) : Option ((Int32 × Int32 × st_) ⊕ (Int32 × st_)) :=
  gd_ (ib_ (4 : Int32) 12584) <|
  if (s_b5 1 (ix_ (4 : Int32))) ≤ v4_b5 then (some (.inr (v3_b5, s_b5)))
  else (bn_ (fX8_sumIn s_b5 v4_b5 i0 i1) fun r2 =>
  if v3_b5 = (-1 : Int32) then (fX8_bestIn_j43 v4_b5 s_b5 r2)
  else (if r2 < (s_b5 0 17) then (fX8_bestIn_j43 v4_b5 s_b5 r2)
  else (fX8_bestIn_j52 v4_b5 v3_b5 s_b5)))
def fX8_bestIn_l5 (i0 : Int32) (i1 : Int32) : Nat → (Int32 × Int32 × st_) → Option (Int32 × st_) :=
  it_ (fun v => fX8_bestIn_b5 i0 i1 v.1 v.2.1 v.2.2)
def fX8_bestIn (s : st_) (i0 : Int32) (i1 : Int32) : Option (st_ × Int32) :=
  bn_ (fX8_bestIn_l5 i0 i1 FU_ ((-1 : Int32), (0 : Int32), s)) (fX8_bestIn_k5)
def fX8_regretIn1 (s : st_) (i0 : Int32) (i1 : Int32) : Option (st_ × Int32) :=
  bn_ (fX8_bestIn s i0 i1) fun r1 =>
  bn_ (fX8_sumIn r1.1 (6 : Int32) i0 i1) fun r5 =>
  some (r1.1, (r5 - (r1.1 0 17)))
def fX8_windowRegret (s : st_) (i0 : Int32) (i1 : Int32) : Option (st_ × Int32) :=
  bn_ (fX8_noWindow s i0 i1) fun r1 =>
  if r1.2 = (0 : Int32) then (bn_ (fX8_isWindow r1.1 i0 i1) fun r5 =>
  if r5 = (0 : Int32) then (some (r1.1, (-2000000000 : Int32)))
  else (bn_ (fX8_regretIn1 r1.1 i0 i1) fun r9 =>
  some (r9.1, r9.2)))
  else (some (r1.1, (0 : Int32)))
def fX8_windowBest (s : st_) (i0 : Int32) (i1 : Int32) : Option (st_ × Int32) :=
  bn_ (fX8_noWindow s i0 i1) fun r1 =>
  if r1.2 = (0 : Int32) then (bn_ (fX8_isWindow r1.1 i0 i1) fun r5 =>
  if r5 = (0 : Int32) then (some (r1.1, (-1 : Int32)))
  else (bn_ (fX8_bestIn r1.1 i0 i1) fun r9 =>
  some (r9.1, r9.2)))
  else (some (r1.1, (0 : Int32)))
def fX8_worstWindow_x18_63 (v2_x18_63 : Int32) (s_x18_63 : st_) : Option (st_ × Int32) :=
  some (s_x18_63, v2_x18_63)
def fX8_worstWindow_k18 (x : Int32 × st_) : Option (st_ × Int32) :=
  fX8_worstWindow_x18_63 x.1 x.2
def fX8_worstWindow_j57 (v4_b18 : Int32) (r9 : st_ × Int32) (v2_j57 : Int32) (v3_j57 : Int32) : Option ((Int32 × Int32 × Int32 × st_) ⊕ (Int32 × st_)) :=
  some (.inl (v2_j57, v3_j57, (v4_b18 + (1 : Int32)), r9.1))
def fX8_worstWindow_j51 (v4_b18 : Int32) (r9 : st_ × Int32) : Option ((Int32 × Int32 × Int32 × st_) ⊕ (Int32 × st_)) :=
  fX8_worstWindow_j57 v4_b18 r9 v4_b18 r9.2
def fX8_worstWindow_b18 (i0 : Int32) (v2_b18 : Int32) (v3_b18 : Int32) (v4_b18 : Int32) (s_b18 : st_) : Option ((Int32 × Int32 × Int32 × st_) ⊕ (Int32 × st_)) :=
  bn_ (fX8_isWindow s_b18 v4_b18 i0) fun r5 =>
  if r5 = (0 : Int32) then (some (.inr (v2_b18, s_b18)))
  else (bn_ (fX8_regretIn1 s_b18 v4_b18 i0) fun r9 =>
  if v2_b18 = (-1 : Int32) then (fX8_worstWindow_j51 v4_b18 r9)
  else (if v3_b18 < r9.2 then (fX8_worstWindow_j51 v4_b18 r9)
  else (fX8_worstWindow_j57 v4_b18 r9 v2_b18 v3_b18)))
def fX8_worstWindow_l18 (i0 : Int32) : Nat → (Int32 × Int32 × Int32 × st_) → Option (Int32 × st_) :=
  it_ (fun v => fX8_worstWindow_b18 i0 v.1 v.2.1 v.2.2.1 v.2.2.2)
def fX8_worstWindow (s : st_) (i0 : Int32) : Option (st_ × Int32) :=
  bn_ (fX8_noWindow s (0 : Int32) i0) fun r1 =>
  if r1.2 = (0 : Int32) then (bn_ (fX8_worstWindow_l18 i0 FU_ ((-1 : Int32), (0 : Int32), (0 : Int32), r1.1)) (fX8_worstWindow_k18))
  else (some (r1.1, (0 : Int32)))
def fX8_meanCost_j18 (r1 : st_ × Int32) : Option (st_ × UInt64) :=
  some (r1.1, FP.dconst0)
def fX8_meanCost (s : st_) (i0 : Int32) : Option (st_ × UInt64) :=
  bn_ (fX8_noArm s i0) fun r1 =>
  if r1.2 = (0 : Int32) then (gd_ (ib_ (16 : Int32) 12584) <|
  if (r1.1 1 (ix_ (16 : Int32))) = (0 : Int32) then (fX8_meanCost_j18 r1)
  else (bn_ (fX8_told i0) fun r6 =>
  bn_ (fX8_armOf r1.1 r6 (3 : Int32)) fun r10 =>
  gd_ (ib_ (16 : Int32) 12584) <|
  gd_ (n64_ (FP.ddiv (FP.i2d r10) (FP.i2d (r1.1 1 (ix_ (16 : Int32)))))) <|
  some (r1.1, (FP.ddiv (FP.i2d r10) (FP.i2d (r1.1 1 (ix_ (16 : Int32))))))))
  else (fX8_meanCost_j18 r1)
def fX8_share (s : st_) (i0 : Int32) : Option (st_ × UInt32) :=
  bn_ (fX8_noRule s i0) fun r1 =>
  if r1.2 = (0 : Int32) then (bn_ (fX8_of r1.1 i0 (2 : Int32)) fun r5 =>
  bn_ (fX8_weights r1.1) fun r9 =>
  gd_ (n32_ (FP.fdiv (FP.i2f r5) (FP.i2f r9))) <|
  some (r1.1, (FP.fdiv (FP.i2f r5) (FP.i2f r9))))
  else (some (r1.1, FP.fconst0))
def fX8_restAt (i0 : Int32) (i1 : Int32) : Option (Int32) :=
  some (((9 : Int32) * i0) + i1)
def fX8_wayTo_j23 (s : st_) (i1 : Int32) (z0_j23 : Int32) : Option (Int32) :=
  bn_ (fX8_cylinderOf s (6 : Int32) i1) fun r1 =>
  bn_ (fX8_costOf s (if (0 : Int32) ≤ (r1 - z0_j23) then (r1 - z0_j23) else (0 : Int32) - (r1 - z0_j23))) fun r5 =>
  some r5
def fX8_wayTo (s : st_) (i0 : Int32) (i1 : Int32) : Option (Int32) :=
  if i0 = (8 : Int32) then (bn_ (fX8_armOf s (6 : Int32) (0 : Int32)) fun r13 =>
  fX8_wayTo_j23 s i1 r13)
  else (bn_ (fX8_cylinderOf s (6 : Int32) i0) fun r9 =>
  fX8_wayTo_j23 s i1 r9)
def fX8_through (s : st_) (i0 : Int32) (i1 : Int32) (i2 : Int32) : Option (Int32) :=
  bn_ (fX8_wayTo s i1 i2) fun r1 =>
  bn_ (fX8_restAt (i0 ||| ((1 : Int32) <<< (i2 &&& 31))) i2) fun r5 =>
  gd_ (ib_ r5 2304) <|
  some (r1 + (s 9 (ix_ r5)))
def fX8_laysRest_x35_138 (s_x35_138 : st_) : Option (st_) :=
  some s_x35_138
def fX8_laysRest_k35 (x : st_) : Option (st_) :=
  fX8_laysRest_x35_138 x
def fX8_laysRest_x42_132 (v3_b35 : Int32) (s_x42_132 : st_) : Option ((Int32 × st_) ⊕ (st_)) :=
  some (.inl ((v3_b35 + (-1 : Int32)), s_x42_132))
def fX8_laysRest_k42 (v3_b35 : Int32) (x : st_) : Option ((Int32 × st_) ⊕ (st_)) :=
  fX8_laysRest_x42_132 v3_b35 x
def fX8_laysRest_j126 (v4_b42 : Int32) (s_j126 : st_) : Option ((Int32 × st_) ⊕ (st_)) :=
  some (.inl ((v4_b42 + (1 : Int32)), s_j126))
def fX8_laysRest_x76_113 (v3_b35 : Int32) (v4_b42 : Int32) (s_b42 : st_) (v5_x76_113 : Int32) : Option ((Int32 × st_) ⊕ (st_)) :=
  bn_ (fX8_restAt v3_b35 v4_b42) fun r1 =>
  gd_ (ib_ r1 2304) <|
  bd_ (pt_ s_b42 9 (ix_ r1) v5_x76_113) fun s6 =>
  fX8_laysRest_j126 v4_b42 s6
def fX8_laysRest_k76 (v3_b35 : Int32) (v4_b42 : Int32) (s_b42 : st_) (x : Int32) : Option ((Int32 × st_) ⊕ (st_)) :=
  fX8_laysRest_x76_113 v3_b35 v4_b42 s_b42 x
def fX8_laysRest_j107 (v6_b76 : Int32) (v5_j107 : Int32) : Option ((Int32 × Int32) ⊕ (Int32)) :=
  some (.inl (v5_j107, (v6_b76 + (1 : Int32))))
def fX8_laysRest_b76 (i0 : Int32) (v3_b35 : Int32) (v4_b42 : Int32) (s_b42 : st_) (v5_b76 : Int32) (v6_b76 : Int32) : Option ((Int32 × Int32) ⊕ (Int32)) :=
  if i0 ≤ v6_b76 then (some (.inr v5_b76))
  else (if ((v3_b35 >>> (v6_b76 &&& 31)) &&& (1 : Int32)) = (0 : Int32) then (bn_ (fX8_through s_b42 v3_b35 v4_b42 v6_b76) fun r10 =>
  fX8_laysRest_j107 v6_b76 (if r10 < v5_b76 then r10 else v5_b76))
  else (fX8_laysRest_j107 v6_b76 v5_b76))
def fX8_laysRest_l76 (i0 : Int32) (v3_b35 : Int32) (v4_b42 : Int32) (s_b42 : st_) : Nat → (Int32 × Int32) → Option (Int32) :=
  it_ (fun v => fX8_laysRest_b76 i0 v3_b35 v4_b42 s_b42 v.1 v.2)
def fX8_laysRest_j68 (i0 : Int32) (v3_b35 : Int32) (v4_b42 : Int32) (s_b42 : st_) : Option ((Int32 × st_) ⊕ (st_)) :=
  bn_ (fX8_laysRest_l76 i0 v3_b35 v4_b42 s_b42 FU_ ((2147483647 : Int32), (0 : Int32))) (fX8_laysRest_k76 v3_b35 v4_b42 s_b42)
def fX8_laysRest_b42 (i0 : Int32) (v3_b35 : Int32) (v4_b42 : Int32) (s_b42 : st_) : Option ((Int32 × st_) ⊕ (st_)) :=
  if (8 : Int32) < v4_b42 then (some (.inr s_b42))
  else (if (8 : Int32) ≤ v4_b42 then (fX8_laysRest_j68 i0 v3_b35 v4_b42 s_b42)
  else (if ((v3_b35 >>> (v4_b42 &&& 31)) &&& (1 : Int32)) = (0 : Int32) then (fX8_laysRest_j126 v4_b42 s_b42)
  else (fX8_laysRest_j68 i0 v3_b35 v4_b42 s_b42)))
def fX8_laysRest_l42 (i0 : Int32) (v3_b35 : Int32) : Nat → (Int32 × st_) → Option (st_) :=
  it_ (fun v => fX8_laysRest_b42 i0 v3_b35 v.1 v.2)
def fX8_laysRest_b35 (i0 : Int32) (v3_b35 : Int32) (s_b35 : st_) : Option ((Int32 × st_) ⊕ (st_)) :=
  if v3_b35 < (0 : Int32) then (some (.inr s_b35))
  else (bn_ (fX8_laysRest_l42 i0 v3_b35 FU_ ((0 : Int32), s_b35)) (fX8_laysRest_k42 v3_b35))
def fX8_laysRest_l35 (i0 : Int32) : Nat → (Int32 × st_) → Option (st_) :=
  it_ (fun v => fX8_laysRest_b35 i0 v.1 v.2)
def fX8_laysRest_x8_31 (i0 : Int32) (s_x8_31 : st_) : Option (st_) :=
  bn_ (fX8_laysRest_l35 i0 FU_ (((((1 : Int32) <<< (i0 &&& 31)) - (1 : Int32)) - (1 : Int32)), s_x8_31)) (fX8_laysRest_k35)
def fX8_laysRest_k8 (i0 : Int32) (x : st_) : Option (st_) :=
  fX8_laysRest_x8_31 i0 x
def fX8_laysRest_b8 (i0 : Int32) (v3_b8 : Int32) (s_b8 : st_) : Option ((Int32 × st_) ⊕ (st_)) :=
  if (8 : Int32) < v3_b8 then (some (.inr s_b8))
  else (bn_ (fX8_restAt (((1 : Int32) <<< (i0 &&& 31)) - (1 : Int32)) v3_b8) fun r14 =>
  gd_ (ib_ r14 2304) <|
  bd_ (pt_ s_b8 9 (ix_ r14) (0 : Int32)) fun s19 =>
  some (.inl ((v3_b8 + (1 : Int32)), s19)))
def fX8_laysRest_l8 (i0 : Int32) : Nat → (Int32 × st_) → Option (st_) :=
  it_ (fun v => fX8_laysRest_b8 i0 v.1 v.2)
def fX8_laysRest (s : st_) (i0 : Int32) : Option (st_) :=
  bn_ (fX8_laysRest_l8 i0 FU_ ((0 : Int32), s)) (fX8_laysRest_k8 i0)
def fX8_optimum_j18 (s : st_) (i0 : Int32) (z1_j18 : Int32) : Option (st_ × Int32) :=
  bn_ (fX8_wrong s z1_j18) fun r5 =>
  if r5.2 = (0 : Int32) then (bn_ (fX8_armOf r5.1 (6 : Int32) (2 : Int32)) fun r9 =>
  if i0 ≤ r9 then (bn_ (fX8_laysRest r5.1 i0) fun r13 =>
  bn_ (fX8_restAt (0 : Int32) (8 : Int32)) fun r17 =>
  gd_ (ib_ r17 2304) <|
  some (r13, (r13 9 (ix_ r17))))
  else (some (r5.1, (-1 : Int32))))
  else (some (r5.1, (0 : Int32)))
def fX8_optimum (s : st_) (i0 : Int32) : Option (st_ × Int32) :=
  bn_ (fX8_in (Int32.toInt64 i0) (0 : Int64) (8 : Int64)) fun r1 =>
  if r1 = (0 : Int32) then (fX8_optimum_j18 s i0 (1 : Int32))
  else (fX8_optimum_j18 s i0 (0 : Int32))
def fX8_optimumAt_x66_131 (r17 : st_) (v4_x66_131 : Int32) : Option (st_ × Int32) :=
  some (r17, v4_x66_131)
def fX8_optimumAt_k66 (r17 : st_) (x : Int32) : Option (st_ × Int32) :=
  fX8_optimumAt_x66_131 r17 x
def fX8_optimumAt_x75_114 (v3_b66 : Int32) (v5_b66 : Int32) (v6_x75_114 : Int32) : Option ((Int32 × Int32 × Int32) ⊕ (Int32)) :=
  some (.inl ((v3_b66 ||| ((1 : Int32) <<< (v6_x75_114 &&& 31))), v6_x75_114, (v5_b66 + (1 : Int32))))
def fX8_optimumAt_k75 (v3_b66 : Int32) (v5_b66 : Int32) (x : Int32) : Option ((Int32 × Int32 × Int32) ⊕ (Int32)) :=
  fX8_optimumAt_x75_114 v3_b66 v5_b66 x
def fX8_optimumAt_j108 (v6_b75 : Int32) : Option ((Int32) ⊕ (Int32)) :=
  some (.inl (v6_b75 + (1 : Int32)))
def fX8_optimumAt_b75 (r17 : st_) (v3_b66 : Int32) (v4_b66 : Int32) (v6_b75 : Int32) : Option ((Int32) ⊕ (Int32)) :=
  if ((v3_b66 >>> (v6_b75 &&& 31)) &&& (1 : Int32)) = (1 : Int32) then (fX8_optimumAt_j108 v6_b75)
  else (bn_ (fX8_through r17 v3_b66 v4_b66 v6_b75) fun r21 =>
  bn_ (fX8_restAt v3_b66 v4_b66) fun r25 =>
  gd_ (ib_ r25 2304) <|
  if r21 = (r17 9 (ix_ r25)) then (some (.inr v6_b75))
  else (fX8_optimumAt_j108 v6_b75))
def fX8_optimumAt_l75 (r17 : st_) (v3_b66 : Int32) (v4_b66 : Int32) : Nat → Int32 → Option (Int32) :=
  it_ (fun v => fX8_optimumAt_b75 r17 v3_b66 v4_b66 v)
def fX8_optimumAt_b66 (i1 : Int32) (r17 : st_) (v3_b66 : Int32) (v4_b66 : Int32) (v5_b66 : Int32) : Option ((Int32 × Int32 × Int32) ⊕ (Int32)) :=
  if i1 < v5_b66 then (some (.inr v4_b66))
  else (bn_ (fX8_optimumAt_l75 r17 v3_b66 v4_b66 FU_ (0 : Int32)) (fX8_optimumAt_k75 v3_b66 v5_b66))
def fX8_optimumAt_l66 (i1 : Int32) (r17 : st_) : Nat → (Int32 × Int32 × Int32) → Option (Int32) :=
  it_ (fun v => fX8_optimumAt_b66 i1 r17 v.1 v.2.1 v.2.2)
def fX8_optimumAt_j18 (s : st_) (i0 : Int32) (i1 : Int32) (z1_j18 : Int32) : Option (st_ × Int32) :=
  bn_ (fX8_wrong s z1_j18) fun r5 =>
  if r5.2 = (0 : Int32) then (bn_ (fX8_armOf r5.1 (6 : Int32) (2 : Int32)) fun r9 =>
  if r9 < i0 then (some (r5.1, (-1 : Int32)))
  else (bn_ (fX8_in (Int32.toInt64 i1) (0 : Int64) (Int32.toInt64 (i0 - (1 : Int32)))) fun r13 =>
  if r13 = (0 : Int32) then (some (r5.1, (-1 : Int32)))
  else (bn_ (fX8_laysRest r5.1 i0) fun r17 =>
  bn_ (fX8_optimumAt_l66 i1 r17 FU_ ((0 : Int32), (8 : Int32), (0 : Int32))) (fX8_optimumAt_k66 r17))))
  else (some (r5.1, (0 : Int32)))
def fX8_optimumAt (s : st_) (i0 : Int32) (i1 : Int32) : Option (st_ × Int32) :=
  bn_ (fX8_in (Int32.toInt64 i0) (1 : Int64) (8 : Int64)) fun r1 =>
  if r1 = (0 : Int32) then (fX8_optimumAt_j18 s i0 i1 (1 : Int32))
  else (fX8_optimumAt_j18 s i0 i1 (0 : Int32))
def fX8_swapCost_j29 (s_j29 : st_) : Option (st_ × Int32) :=
  some (s_j29, (0 : Int32))
def fX8_swapCost_j22 (i0 : Int32) (i1 : Int32) (r1 : st_ × Int32) (z1_j22 : Int32) : Option (st_ × Int32) :=
  bn_ (fX8_throwsIf r1.1 z1_j22 (1 : Int32)) fun r9 =>
  if r9.2 = (0 : Int32) then (bn_ (fX8_swapAt i0 i1) fun r13 =>
  gd_ (ib_ r13 12584) <|
  some (r9.1, (r9.1 1 (ix_ r13))))
  else (fX8_swapCost_j29 r9.1)
def fX8_swapCost (s : st_) (i0 : Int32) (i1 : Int32) : Option (st_ × Int32) :=
  bn_ (fX8_noRule s i0) fun r1 =>
  if r1.2 = (0 : Int32) then (bn_ (fX8_isRule r1.1 i1) fun r5 =>
  if r5 = (0 : Int32) then (fX8_swapCost_j22 i0 i1 r1 (1 : Int32))
  else (fX8_swapCost_j22 i0 i1 r1 (0 : Int32)))
  else (fX8_swapCost_j29 r1.1)
def fX8_bestSwapOf_x4_49 (v2_x4_49 : Int32) : Option (Int32) :=
  some v2_x4_49
def fX8_bestSwapOf_k4 (x : Int32) : Option (Int32) :=
  fX8_bestSwapOf_x4_49 x
def fX8_bestSwapOf_j42 (v3_b4 : Int32) (z0_j42 : Int32) : Option ((Int32 × Int32) ⊕ (Int32)) :=
  some (.inl (z0_j42, (v3_b4 + (1 : Int32))))
def fX8_bestSwapOf_b4 (s : st_) (i0 : Int32) (v2_b4 : Int32) (v3_b4 : Int32) : Option ((Int32 × Int32) ⊕ (Int32)) :=
  gd_ (ib_ (4 : Int32) 12584) <|
  if (s 1 (ix_ (4 : Int32))) ≤ v3_b4 then (some (.inr v2_b4))
  else (bn_ (fX8_swapAt i0 v3_b4) fun r2 =>
  gd_ (ib_ r2 12584) <|
  bn_ (fX8_swapAt i0 v2_b4) fun r7 =>
  gd_ (ib_ r7 12584) <|
  if (s 1 (ix_ r7)) ≤ (s 1 (ix_ r2)) then (fX8_bestSwapOf_j42 v3_b4 v2_b4)
  else (fX8_bestSwapOf_j42 v3_b4 v3_b4))
def fX8_bestSwapOf_l4 (s : st_) (i0 : Int32) : Nat → (Int32 × Int32) → Option (Int32) :=
  it_ (fun v => fX8_bestSwapOf_b4 s i0 v.1 v.2)
def fX8_bestSwapOf (s : st_) (i0 : Int32) : Option (Int32) :=
  bn_ (fX8_bestSwapOf_l4 s i0 FU_ ((0 : Int32), (1 : Int32))) (fX8_bestSwapOf_k4)
def fX8_bestSwap (s : st_) (i0 : Int32) : Option (st_ × Int32) :=
  bn_ (fX8_noRule s i0) fun r1 =>
  if r1.2 = (0 : Int32) then (bn_ (fX8_bestSwapOf r1.1 i0) fun r5 =>
  some (r1.1, r5))
  else (some (r1.1, (0 : Int32)))
def fX8_swapRegret_x9_53 (s1 : st_) (v1_x9_53 : Int32) : Option (st_ × Int32) :=
  some (s1, v1_x9_53)
def fX8_swapRegret_k9 (s1 : st_) (x : Int32) : Option (st_ × Int32) :=
  fX8_swapRegret_x9_53 s1 x
def fX8_swapRegret_b9 (s1 : st_) (v1_b9 : Int32) (v2_b9 : Int32) : Option ((Int32 × Int32) ⊕ (Int32)) :=
  gd_ (ib_ (4 : Int32) 12584) <|
  if (s1 1 (ix_ (4 : Int32))) ≤ v2_b9 then (some (.inr v1_b9))
  else (bn_ (fX8_swapAt v2_b9 v2_b9) fun r6 =>
  gd_ (ib_ r6 12584) <|
  bn_ (fX8_bestSwapOf s1 v2_b9) fun r11 =>
  bn_ (fX8_swapAt v2_b9 r11) fun r15 =>
  gd_ (ib_ r15 12584) <|
  some (.inl ((v1_b9 + ((s1 1 (ix_ r6)) - (s1 1 (ix_ r15)))), (v2_b9 + (1 : Int32)))))
def fX8_swapRegret_l9 (s1 : st_) : Nat → (Int32 × Int32) → Option (Int32) :=
  it_ (fun v => fX8_swapRegret_b9 s1 v.1 v.2)
def fX8_swapRegret (s : st_) : Option (st_ × Int32) :=
  bd_ (pt_ s 0 6 (0 : Int32)) fun s1 =>
  bn_ (fX8_swapRegret_l9 s1 FU_ ((0 : Int32), (0 : Int32))) (fX8_swapRegret_k9 s1)
def fX8_rival_j18 (s : st_) (i0 : Int32) (z1_j18 : Int32) : Option (st_ × Int32) :=
  bn_ (fX8_wrong s z1_j18) fun r5 =>
  if r5.2 = (0 : Int32) then (gd_ (ib_ (21 : Int32) 12584) <|
  if (r5.1 1 (ix_ (21 : Int32))) = (-1 : Int32) then (some (r5.1, (-2000000000 : Int32)))
  else (if i0 = (0 : Int32) then (gd_ (ib_ (21 : Int32) 12584) <|
  some (r5.1, (r5.1 1 (ix_ (21 : Int32)))))
  else (if i0 = (1 : Int32) then (bn_ (fX8_armOf r5.1 (7 : Int32) (0 : Int32)) fun r11 =>
  some (r5.1, r11))
  else (if i0 = (2 : Int32) then (bn_ (fX8_armOf r5.1 (7 : Int32) (3 : Int32)) fun r15 =>
  some (r5.1, r15))
  else (if i0 = (3 : Int32) then (bn_ (fX8_armOf r5.1 (7 : Int32) (3 : Int32)) fun r19 =>
  bn_ (fX8_bestRule r5.1) fun r23 =>
  bn_ (fX8_armOf r5.1 r23 (3 : Int32)) fun r27 =>
  some (r5.1, (r19 - r27)))
  else (if i0 = (4 : Int32) then (gd_ (ib_ (24 : Int32) 12584) <|
  some (r5.1, (r5.1 1 (ix_ (24 : Int32)))))
  else (gd_ (ib_ (25 : Int32) 12584) <|
  some (r5.1, (r5.1 1 (ix_ (25 : Int32)))))))))))
  else (some (r5.1, (0 : Int32)))
def fX8_rival (s : st_) (i0 : Int32) : Option (st_ × Int32) :=
  bn_ (fX8_in (Int32.toInt64 i0) (0 : Int64) (5 : Int64)) fun r1 =>
  if r1 = (0 : Int32) then (fX8_rival_j18 s i0 (1 : Int32))
  else (fX8_rival_j18 s i0 (0 : Int32))
def fX8_noRounds_j18 (s : st_) (i1 : Int32) (z1_j18 : Int32) : Option (st_ × Int32) :=
  bn_ (fX8_throwsIf s z1_j18 i1) fun r5 =>
  gd_ (bz_ r5.2) <|
  some (r5.1, r5.2)
def fX8_noRounds (s : st_) (i0 : Int32) (i1 : Int32) : Option (st_ × Int32) :=
  bn_ (fX8_in (Int32.toInt64 i0) (1 : Int64) (200 : Int64)) fun r1 =>
  if r1 = (0 : Int32) then (fX8_noRounds_j18 s i1 (1 : Int32))
  else (fX8_noRounds_j18 s i1 (0 : Int32))
def fX8_goesAside (s : st_) : Option (st_) :=
  bn_ (fX8_copies (sb_ s 1) (sb_ s 2)) fun r1 =>
  bd_ (mg_ s 2 1 r1) fun s5 =>
  some s5
def fX8_comesBack (s : st_) : Option (st_) :=
  bn_ (fX8_copies (sb_ s 2) (sb_ s 1)) fun r1 =>
  bd_ (mg_ s 1 1 r1) fun s5 =>
  some s5
def fX8_rivalIn (s : st_) (i0 : Int32) : Option (st_ × Int32) :=
  bd_ (pt_ s 0 6 (0 : Int32)) fun s1 =>
  bn_ (fX8_noRounds s1 i0 (1 : Int32)) fun r5 =>
  if r5.2 = (0 : Int32) then (gd_ (ib_ (21 : Int32) 12584) <|
  if (r5.1 1 (ix_ (21 : Int32))) = (-1 : Int32) then (some (r5.1, (-2000000000 : Int32)))
  else (bn_ (fX8_goesAside r5.1) fun r10 =>
  bn_ (fX8_rounds r10 i0) fun r14 =>
  bn_ (fX8_armOf r14 (6 : Int32) (3 : Int32)) fun r18 =>
  bn_ (fX8_armOf r14 (7 : Int32) (3 : Int32)) fun r22 =>
  bn_ (fX8_comesBack r14) fun r26 =>
  some (r26, (r18 - r22))))
  else (some (r5.1, (0 : Int32)))
def fX8_regretBehind (s : st_) (i0 : Int32) : Option (st_ × Int32) :=
  bn_ (fX8_rounds s i0) fun r1 =>
  bn_ (fX8_regretNow r1) fun r5 =>
  bn_ (fX8_comesBack r1) fun r9 =>
  some (r9, r5)
def fX8_budgetFor_x7_59 (s_x7_59 : st_) : Option (st_ × Int32) :=
  some (s_x7_59, (-1 : Int32))
def fX8_budgetFor_x7_51 (v2_x7_51 : Int32) (s_x7_51 : st_) : Option (st_ × Int32) :=
  some (s_x7_51, v2_x7_51)
def fX8_budgetFor_k7 (x : (Int32 × st_) ⊕ (st_)) : Option (st_ × Int32) :=
  Sum.elim (fun z => fX8_budgetFor_x7_51 z.1 z.2) (fun z => fX8_budgetFor_x7_59 z) x
def fX8_budgetFor_b7 (i0 : Int32) (v2_b7 : Int32) (s_b7 : st_) : Option ((Int32 × st_) ⊕ ((Int32 × st_) ⊕ (st_))) :=
  if (20 : Int32) < v2_b7 then (some (.inr (.inr s_b7)))
  else (bn_ (fX8_goesAside s_b7) fun r5 =>
  gd_ (ib_ (9 : Int32) 12584) <|
  bd_ (pt_ r5 1 (ix_ (9 : Int32)) (5 : Int32)) fun s10 =>
  gd_ (ib_ (13 : Int32) 12584) <|
  bd_ (pt_ s10 1 (ix_ (13 : Int32)) v2_b7) fun s15 =>
  gd_ (ib_ (14 : Int32) 12584) <|
  bd_ (pt_ s15 1 (ix_ (14 : Int32)) (0 : Int32)) fun s20 =>
  bn_ (fX8_regretBehind s20 (20 : Int32)) fun r24 =>
  if r24.2 < i0 then (some (.inl ((v2_b7 + (1 : Int32)), r24.1)))
  else (some (.inr (.inl (v2_b7, r24.1)))))
def fX8_budgetFor_l7 (i0 : Int32) : Nat → (Int32 × st_) → Option ((Int32 × st_) ⊕ (st_)) :=
  it_ (fun v => fX8_budgetFor_b7 i0 v.1 v.2)
def fX8_budgetFor (s : st_) (i0 : Int32) : Option (st_ × Int32) :=
  bd_ (pt_ s 0 6 (0 : Int32)) fun s1 =>
  bn_ (fX8_budgetFor_l7 i0 FU_ ((0 : Int32), s1)) (fX8_budgetFor_k7)
def fX8_run_j35 (i0 : Int32) (r5 : st_ × Int32) (z1_j35 : Int32) : Option (st_ × Int32) :=
  bn_ (fX8_throwsIf r5.1 z1_j35 (1 : Int32)) fun r10 =>
  if r10.2 = (0 : Int32) then (bn_ (fX8_rounds r10.1 i0) fun r14 =>
  gd_ (ib_ (16 : Int32) 12584) <|
  some (r14, (r14 1 (ix_ (16 : Int32)))))
  else (some (r10.1, (0 : Int32)))
def fX8_run (s : st_) (i0 : Int32) : Option (st_ × Int32) :=
  bd_ (pt_ s 0 6 (0 : Int32)) fun s1 =>
  bn_ (fX8_noRounds s1 i0 (1 : Int32)) fun r5 =>
  if r5.2 = (0 : Int32) then (gd_ (ib_ (16 : Int32) 12584) <|
  if ((r5.1 1 (ix_ (16 : Int32))) + i0) ≤ (1000 : Int32) then (fX8_run_j35 i0 r5 (0 : Int32))
  else (fX8_run_j35 i0 r5 (1 : Int32)))
  else (some (r5.1, (0 : Int32)))
def fX8_runToBreach_x26_65 (r5 : st_ × Int32) (v3_x26_65 : Int32) (s_x26_65 : st_) : Option (st_ × Int32) :=
  gd_ (ib_ (17 : Int32) 12584) <|
  if (s_x26_65 1 (ix_ (17 : Int32))) ≤ (r5.1 1 (ix_ (17 : Int32))) then (some (s_x26_65, (-1 : Int32)))
  else (some (s_x26_65, v3_x26_65))
def fX8_runToBreach_k26 (r5 : st_ × Int32) (x : Int32 × st_) : Option (st_ × Int32) :=
  fX8_runToBreach_x26_65 r5 x.1 x.2
def fX8_runToBreach_b26 (i0 : Int32) (r5 : st_ × Int32) (v3_b26 : Int32) (s_b26 : st_) : Option ((Int32 × st_) ⊕ (Int32 × st_)) :=
  gd_ (ib_ (17 : Int32) 12584) <|
  if (s_b26 1 (ix_ (17 : Int32))) = (r5.1 1 (ix_ (17 : Int32))) then (if i0 ≤ v3_b26 then (some (.inr (v3_b26, s_b26)))
  else (gd_ (ib_ (16 : Int32) 12584) <|
  if (1000 : Int32) ≤ (s_b26 1 (ix_ (16 : Int32))) then (some (.inr (v3_b26, s_b26)))
  else (bn_ (fX8_round s_b26) fun r13 =>
  some (.inl ((v3_b26 + (1 : Int32)), r13)))))
  else (some (.inr (v3_b26, s_b26)))
def fX8_runToBreach_l26 (i0 : Int32) (r5 : st_ × Int32) : Nat → (Int32 × st_) → Option (Int32 × st_) :=
  it_ (fun v => fX8_runToBreach_b26 i0 r5 v.1 v.2)
def fX8_runToBreach (s : st_) (i0 : Int32) : Option (st_ × Int32) :=
  bd_ (pt_ s 0 6 (0 : Int32)) fun s1 =>
  bn_ (fX8_noRounds s1 i0 (1 : Int32)) fun r5 =>
  if r5.2 = (0 : Int32) then (gd_ (ib_ (17 : Int32) 12584) <|
  bn_ (fX8_runToBreach_l26 i0 r5 FU_ ((0 : Int32), r5.1)) (fX8_runToBreach_k26 r5))
  else (some (r5.1, (0 : Int32)))
def fX8_hurtOf (s : st_) (i0 : Int32) : Option (st_ × Int32) :=
  bn_ (fX8_noCylinder s i0) fun r1 =>
  if r1.2 = (0 : Int32) then (bn_ (fX8_isFull r1.1) fun r5 =>
  if r5 = (0 : Int32) then (bn_ (fX8_hurts r1.1 i0) fun r9 =>
  some (r9.1, r9.2))
  else (some (r1.1, (-2000000000 : Int32))))
  else (some (r1.1, (0 : Int32)))
def fX8_worst (s : st_) : Option (st_ × Int32) :=
  bd_ (pt_ s 0 6 (0 : Int32)) fun s1 =>
  bn_ (fX8_isFull s1) fun r5 =>
  if r5 = (0 : Int32) then (bn_ (fX8_worstOf s1) fun r9 =>
  some (r9.1, r9.2))
  else (some (s1, (-1 : Int32)))
def fX8_regretIn (s : st_) (i0 : Int32) : Option (st_ × Int32) :=
  bd_ (pt_ s 0 6 (0 : Int32)) fun s1 =>
  bn_ (fX8_noRounds s1 i0 (1 : Int32)) fun r5 =>
  if r5.2 = (0 : Int32) then (bn_ (fX8_goesAside r5.1) fun r9 =>
  bn_ (fX8_regretBehind r9 i0) fun r13 =>
  some (r13.1, r13.2))
  else (some (r5.1, (0 : Int32)))
def fX8_costIn (s : st_) (i0 : Int32) (i1 : Int32) : Option (st_ × Int32) :=
  bn_ (fX8_noArm s i0) fun r1 =>
  if r1.2 = (0 : Int32) then (bn_ (fX8_noRounds r1.1 i1 (2 : Int32)) fun r5 =>
  if r5.2 = (0 : Int32) then (bn_ (fX8_told i0) fun r9 =>
  bn_ (fX8_armOf r5.1 r9 (3 : Int32)) fun r13 =>
  bn_ (fX8_goesAside r5.1) fun r17 =>
  bn_ (fX8_rounds r17 i1) fun r21 =>
  bn_ (fX8_told i0) fun r25 =>
  bn_ (fX8_armOf r21 r25 (3 : Int32)) fun r29 =>
  bn_ (fX8_comesBack r21) fun r33 =>
  some (r33, (r29 - r13)))
  else (some (r5.1, (0 : Int32))))
  else (some (r1.1, (0 : Int32)))
def fX8_breachIn_j76 (v2_x32_60 : Int32) (s_x32_60 : st_) (z0_j76 : Int32) : Option (st_ × Int32) :=
  bn_ (fX8_comesBack s_x32_60) fun r12 =>
  if z0_j76 = (0 : Int32) then (some (r12, (-1 : Int32)))
  else (some (r12, v2_x32_60))
def fX8_breachIn_x32_60 (r6 : st_) (v2_x32_60 : Int32) (s_x32_60 : st_) : Option (st_ × Int32) :=
  gd_ (ib_ (17 : Int32) 12584) <|
  if (s_x32_60 1 (ix_ (17 : Int32))) ≤ (r6 1 (ix_ (17 : Int32))) then (fX8_breachIn_j76 v2_x32_60 s_x32_60 (0 : Int32))
  else (fX8_breachIn_j76 v2_x32_60 s_x32_60 (1 : Int32))
def fX8_breachIn_k32 (r6 : st_) (x : Int32 × st_) : Option (st_ × Int32) :=
  fX8_breachIn_x32_60 r6 x.1 x.2
def fX8_breachIn_b32 (r6 : st_) (v2_b32 : Int32) (s_b32 : st_) : Option ((Int32 × st_) ⊕ (Int32 × st_)) :=
  gd_ (ib_ (17 : Int32) 12584) <|
  if (s_b32 1 (ix_ (17 : Int32))) = (r6 1 (ix_ (17 : Int32))) then (if (200 : Int32) ≤ v2_b32 then (some (.inr (v2_b32, s_b32)))
  else (bn_ (fX8_round s_b32) fun r17 =>
  some (.inl ((v2_b32 + (1 : Int32)), r17))))
  else (some (.inr (v2_b32, s_b32)))
def fX8_breachIn_l32 (r6 : st_) : Nat → (Int32 × st_) → Option (Int32 × st_) :=
  it_ (fun v => fX8_breachIn_b32 r6 v.1 v.2)
def fX8_breachIn (s : st_) : Option (st_ × Int32) :=
  bd_ (pt_ s 0 6 (0 : Int32)) fun s1 =>
  gd_ (ib_ (11 : Int32) 12584) <|
  if (s1 1 (ix_ (11 : Int32))) = (-1 : Int32) then (some (s1, (-1 : Int32)))
  else (bn_ (fX8_goesAside s1) fun r6 =>
  gd_ (ib_ (17 : Int32) 12584) <|
  bn_ (fX8_breachIn_l32 r6 FU_ ((0 : Int32), r6)) (fX8_breachIn_k32 r6))
def fX8_regretKeeping (s : st_) (i0 : Int32) (i1 : Int32) : Option (st_ × Int32) :=
  bn_ (fX8_noRule s i0) fun r1 =>
  if r1.2 = (0 : Int32) then (bn_ (fX8_noRounds r1.1 i1 (2 : Int32)) fun r5 =>
  if r5.2 = (0 : Int32) then (bn_ (fX8_goesAside r5.1) fun r9 =>
  gd_ (ib_ (5 : Int32) 12584) <|
  bd_ (pt_ r9 1 (ix_ (5 : Int32)) (2 : Int32)) fun s14 =>
  gd_ (ib_ (6 : Int32) 12584) <|
  bd_ (pt_ s14 1 (ix_ (6 : Int32)) i0) fun s19 =>
  bn_ (fX8_regretBehind s19 i1) fun r23 =>
  some (r23.1, r23.2))
  else (some (r5.1, (0 : Int32))))
  else (some (r1.1, (0 : Int32)))
def fX8_regretAgainst_j18 (s : st_) (i0 : Int32) (i1 : Int32) (z1_j18 : Int32) : Option (st_ × Int32) :=
  bn_ (fX8_wrong s z1_j18) fun r5 =>
  if r5.2 = (0 : Int32) then (bn_ (fX8_noRounds r5.1 i1 (1 : Int32)) fun r9 =>
  if r9.2 = (0 : Int32) then (bn_ (fX8_goesAside r9.1) fun r13 =>
  gd_ (ib_ (9 : Int32) 12584) <|
  bd_ (pt_ r13 1 (ix_ (9 : Int32)) i0) fun s18 =>
  bn_ (fX8_regretBehind s18 i1) fun r22 =>
  some (r22.1, r22.2))
  else (some (r9.1, (0 : Int32))))
  else (some (r5.1, (0 : Int32)))
def fX8_regretAgainst (s : st_) (i0 : Int32) (i1 : Int32) : Option (st_ × Int32) :=
  bn_ (fX8_in (Int32.toInt64 i0) (0 : Int64) (5 : Int64)) fun r1 =>
  if r1 = (0 : Int32) then (fX8_regretAgainst_j18 s i0 i1 (1 : Int32))
  else (fX8_regretAgainst_j18 s i0 i1 (0 : Int32))
def fX8_saveSnapshot (s : st_) (i0 : Int32) : Option (st_ × Int32) :=
  bn_ (fX8_in (Int32.toInt64 i0) (0 : Int64) (1 : Int64)) fun r1 =>
  if r1 = (0 : Int32) then (bn_ (fX8_wrong s (1 : Int32)) fun r33 =>
  if r33.2 = (0 : Int32) then (if i0 = (0 : Int32) then (bn_ (fX8_copies (sb_ r33.1 1) (sb_ r33.1 4)) fun r49 =>
  bd_ (mg_ r33.1 4 1 r49) fun s53 =>
  gd_ (ib_ i0 2) <|
  bd_ (pt_ s53 6 (ix_ i0) (vp_nar .boolean (1 : Int32))) fun s56 =>
  gd_ (ib_ (16 : Int32) 12584) <|
  some (s56, (s56 1 (ix_ (16 : Int32)))))
  else (bn_ (fX8_copies (sb_ r33.1 1) (sb_ r33.1 5)) fun r37 =>
  bd_ (mg_ r33.1 5 1 r37) fun s41 =>
  gd_ (ib_ i0 2) <|
  bd_ (pt_ s41 6 (ix_ i0) (vp_nar .boolean (1 : Int32))) fun s44 =>
  gd_ (ib_ (16 : Int32) 12584) <|
  some (s44, (s44 1 (ix_ (16 : Int32))))))
  else (some (r33.1, (0 : Int32))))
  else (bn_ (fX8_wrong s (0 : Int32)) fun r5 =>
  if r5.2 = (0 : Int32) then (if i0 = (0 : Int32) then (bn_ (fX8_copies (sb_ r5.1 1) (sb_ r5.1 4)) fun r21 =>
  bd_ (mg_ r5.1 4 1 r21) fun s25 =>
  gd_ (ib_ i0 2) <|
  bd_ (pt_ s25 6 (ix_ i0) (vp_nar .boolean (1 : Int32))) fun s28 =>
  gd_ (ib_ (16 : Int32) 12584) <|
  some (s28, (s28 1 (ix_ (16 : Int32)))))
  else (bn_ (fX8_copies (sb_ r5.1 1) (sb_ r5.1 5)) fun r9 =>
  bd_ (mg_ r5.1 5 1 r9) fun s13 =>
  gd_ (ib_ i0 2) <|
  bd_ (pt_ s13 6 (ix_ i0) (vp_nar .boolean (1 : Int32))) fun s16 =>
  gd_ (ib_ (16 : Int32) 12584) <|
  some (s16, (s16 1 (ix_ (16 : Int32))))))
  else (some (r5.1, (0 : Int32))))
def fX8_restoreSnapshot (s : st_) (i0 : Int32) : Option (st_ × Int32) :=
  bn_ (fX8_in (Int32.toInt64 i0) (0 : Int64) (1 : Int64)) fun r1 =>
  if r1 = (0 : Int32) then (bn_ (fX8_wrong s (1 : Int32)) fun r24 =>
  if r24.2 = (0 : Int32) then (gd_ (ib_ i0 2) <|
  if (r24.1 6 (ix_ i0)) = (0 : Int32) then (some (r24.1, (-1 : Int32)))
  else (if i0 = (0 : Int32) then (bn_ (fX8_copies (sb_ r24.1 4) (sb_ r24.1 1)) fun r36 =>
  bd_ (mg_ r24.1 1 1 r36) fun s40 =>
  gd_ (ib_ (16 : Int32) 12584) <|
  some (s40, (s40 1 (ix_ (16 : Int32)))))
  else (bn_ (fX8_copies (sb_ r24.1 5) (sb_ r24.1 1)) fun r29 =>
  bd_ (mg_ r24.1 1 1 r29) fun s33 =>
  gd_ (ib_ (16 : Int32) 12584) <|
  some (s33, (s33 1 (ix_ (16 : Int32)))))))
  else (some (r24.1, (0 : Int32))))
  else (bn_ (fX8_wrong s (0 : Int32)) fun r5 =>
  if r5.2 = (0 : Int32) then (gd_ (ib_ i0 2) <|
  if (r5.1 6 (ix_ i0)) = (0 : Int32) then (some (r5.1, (-1 : Int32)))
  else (if i0 = (0 : Int32) then (bn_ (fX8_copies (sb_ r5.1 4) (sb_ r5.1 1)) fun r17 =>
  bd_ (mg_ r5.1 1 1 r17) fun s21 =>
  gd_ (ib_ (16 : Int32) 12584) <|
  some (s21, (s21 1 (ix_ (16 : Int32)))))
  else (bn_ (fX8_copies (sb_ r5.1 5) (sb_ r5.1 1)) fun r10 =>
  bd_ (mg_ r5.1 1 1 r10) fun s14 =>
  gd_ (ib_ (16 : Int32) 12584) <|
  some (s14, (s14 1 (ix_ (16 : Int32)))))))
  else (some (r5.1, (0 : Int32))))
end
section
/-! mirrors of methods, and that the methods do as they say: printed by wip/whole/gen_parts.py out of the listing -/
def mX5_becomeDefault : mt_ := (yX5_becomeDefault, cX5_becomeDefault, 1, none, [], { frames := 0, locals := 0, cells := 0, slots := 0 })
theorem ckX5_becomeDefault : cokV_ mX5_becomeDefault := ⟨⟨(uw_mem 428 (by decide +kernel) (by decide +kernel)), (uw_mem 31 (by decide +kernel) (by decide +kernel)), by decide +kernel, by decide +kernel⟩, (uw_mem 426 (by decide +kernel) (by decide +kernel)), (uw_mem 427 (by decide +kernel) (by decide +kernel))⟩
theorem nkX5_becomeDefault : nok_ mX5_becomeDefault 0 := by decide +kernel
theorem fpX5_21 : fpk_ RX5 21 5 0 .int := ⟨_, _, _, tyX5, rfl, by decide, (uw_mem 73 (by decide +kernel) (by decide +kernel)), wkX5, tyX5_ok, nmX5, rfl, by decide +kernel⟩
theorem eo_S_0 : eo_ ly_S 0 5 fsX5 := rfl
theorem fsq_5_0 : fsp_ fsX5 0 := ⟨fun _ _ => rfl, fun _ _ _ => rfl⟩
theorem fpX5_25 : fpk_ RX5 25 5 1 .int := ⟨_, _, _, tyX5, rfl, by decide, (uw_mem 78 (by decide +kernel) (by decide +kernel)), wkX5, tyX5_ok, nmX5, rfl, by decide +kernel⟩
theorem fsq_5_1 : fsp_ fsX5 1 := ⟨fun _ _ => rfl, fun _ _ _ => rfl⟩
theorem fpX5_28 : fpk_ RX5 28 5 2 .int := ⟨_, _, _, tyX5, rfl, by decide, (uw_mem 82 (by decide +kernel) (by decide +kernel)), wkX5, tyX5_ok, nmX5, rfl, by decide +kernel⟩
theorem fsq_5_2 : fsp_ fsX5 2 := ⟨fun _ _ => rfl, fun _ _ _ => rfl⟩
theorem fpX5_31 : fpk_ RX5 31 5 3 .int := ⟨_, _, _, tyX5, rfl, by decide, (uw_mem 85 (by decide +kernel) (by decide +kernel)), wkX5, tyX5_ok, nmX5, rfl, by decide +kernel⟩
theorem fsq_5_3 : fsp_ fsX5 3 := ⟨fun _ _ => rfl, fun _ _ _ => rfl⟩
theorem fpX5_34 : fpk_ RX5 34 5 4 .int := ⟨_, _, _, tyX5, rfl, by decide, (uw_mem 89 (by decide +kernel) (by decide +kernel)), wkX5, tyX5_ok, nmX5, rfl, by decide +kernel⟩
theorem fsq_5_4 : fsp_ fsX5 4 := ⟨fun _ _ => rfl, fun _ _ _ => rfl⟩
theorem fpX5_37 : fpk_ RX5 37 5 7 .int := ⟨_, _, _, tyX5, rfl, by decide, (uw_mem 95 (by decide +kernel) (by decide +kernel)), wkX5, tyX5_ok, nmX5, rfl, by decide +kernel⟩
theorem fsq_5_7 : fsp_ fsX5 7 := ⟨fun _ _ => rfl, fun _ _ _ => rfl⟩
theorem fpX5_40 : fpk_ RX5 40 5 8 .int := ⟨_, _, _, tyX5, rfl, by decide, (uw_mem 98 (by decide +kernel) (by decide +kernel)), wkX5, tyX5_ok, nmX5, rfl, by decide +kernel⟩
theorem fsq_5_8 : fsp_ fsX5 8 := ⟨fun _ _ => rfl, fun _ _ _ => rfl⟩
theorem fpX5_43 : fpk_ RX5 43 5 9 .int := ⟨_, _, _, tyX5, rfl, by decide, (uw_mem 101 (by decide +kernel) (by decide +kernel)), wkX5, tyX5_ok, nmX5, rfl, by decide +kernel⟩
theorem fsq_5_9 : fsp_ fsX5 9 := ⟨fun _ _ => rfl, fun _ _ _ => rfl⟩
theorem fpX5_46 : fpk_ RX5 46 5 10 .int := ⟨_, _, _, tyX5, rfl, by decide, (uw_mem 105 (by decide +kernel) (by decide +kernel)), wkX5, tyX5_ok, nmX5, rfl, by decide +kernel⟩
theorem fsq_5_10 : fsp_ fsX5 10 := ⟨fun _ _ => rfl, fun _ _ _ => rfl⟩
theorem fpX5_49 : fpk_ RX5 49 5 11 .int := ⟨_, _, _, tyX5, rfl, by decide, (uw_mem 108 (by decide +kernel) (by decide +kernel)), wkX5, tyX5_ok, nmX5, rfl, by decide +kernel⟩
theorem fsq_5_11 : fsp_ fsX5 11 := ⟨fun _ _ => rfl, fun _ _ _ => rfl⟩
theorem fpX5_52 : fpk_ RX5 52 5 12 .int := ⟨_, _, _, tyX5, rfl, by decide, (uw_mem 112 (by decide +kernel) (by decide +kernel)), wkX5, tyX5_ok, nmX5, rfl, by decide +kernel⟩
theorem fsq_5_12 : fsp_ fsX5 12 := ⟨fun _ _ => rfl, fun _ _ _ => rfl⟩
theorem fpX5_55 : fpk_ RX5 55 5 14 .int := ⟨_, _, _, tyX5, rfl, by decide, (uw_mem 117 (by decide +kernel) (by decide +kernel)), wkX5, tyX5_ok, nmX5, rfl, by decide +kernel⟩
theorem fsq_5_14 : fsp_ fsX5 14 := ⟨fun _ _ => rfl, fun _ _ _ => rfl⟩
theorem fpX5_58 : fpk_ RX5 58 5 15 .int := ⟨_, _, _, tyX5, rfl, by decide, (uw_mem 121 (by decide +kernel) (by decide +kernel)), wkX5, tyX5_ok, nmX5, rfl, by decide +kernel⟩
theorem fsq_5_15 : fsp_ fsX5 15 := ⟨fun _ _ => rfl, fun _ _ _ => rfl⟩
theorem fpX5_61 : fpk_ RX5 61 5 16 .int := ⟨_, _, _, tyX5, rfl, by decide, (uw_mem 124 (by decide +kernel) (by decide +kernel)), wkX5, tyX5_ok, nmX5, rfl, by decide +kernel⟩
theorem fsq_5_16 : fsp_ fsX5 16 := ⟨fun _ _ => rfl, fun _ _ _ => rfl⟩
theorem fpX5_64 : fpk_ RX5 64 5 17 .int := ⟨_, _, _, tyX5, rfl, by decide, (uw_mem 128 (by decide +kernel) (by decide +kernel)), wkX5, tyX5_ok, nmX5, rfl, by decide +kernel⟩
theorem fsq_5_17 : fsp_ fsX5 17 := ⟨fun _ _ => rfl, fun _ _ _ => rfl⟩
theorem fpX5_67 : fpk_ RX5 67 5 18 .int := ⟨_, _, _, tyX5, rfl, by decide, (uw_mem 132 (by decide +kernel) (by decide +kernel)), wkX5, tyX5_ok, nmX5, rfl, by decide +kernel⟩
theorem fsq_5_18 : fsp_ fsX5 18 := ⟨fun _ _ => rfl, fun _ _ _ => rfl⟩
theorem kX5_becomeDefault {E : ev_} {H : Heap} {a : Nat} {s : st_} {r : st_} (hm : fX5_becomeDefault s = some r) (h0 : has_ E H a ly_S s) (hf : ev_fr E a) : sp_ E mX5_becomeDefault [.ref a] H (po1 (.inl (none)) (fun Hn => sm_ H Hn a 4 ∧ has_ E Hn a ly_S r)) := by
  refine sp_of (by decide +kernel) rfl rfl ?_
  generalize hQ : po1 _ _ = Q
  have hs : sm_ H H a 4 := sm_.rfl'
  unfold fX5_becomeDefault at hm
  refine aw_lv (lv' := [(0, .ref a)]) [0] rfl ?_
  refine aw_b (pc' := 3) (lv' := [(0, .ref a)]) (st' := [.int (10 : Int32), .ref a]) [(0, .aload_n 0, 1, .null), (1, .bipush 10, 2, .int (10 : Int32))] (by decide +kernel) rfl ?_
  obtain ⟨s1, e2, hm⟩ := bd_x hm
  refine aw_pl a 0 h0 eo_S_0 fsq_5_0 fpX5_21 hf rfl rfl e2 (by decide +kernel) (fun H3 h0 z4 => ?_)
  have hs := hs.step z4 (by omega) (by omega)
  refine aw_b (pc' := 8) (lv' := [(0, .ref a)]) (st' := [.int (0 : Int32), .ref a]) [(6, .aload_n 0, 1, .null), (7, .iconst 0, 1, .int (0 : Int32))] (by decide +kernel) rfl ?_
  obtain ⟨s5, e6, hm⟩ := bd_x hm
  refine aw_pl a 0 h0 eo_S_0 fsq_5_1 fpX5_25 hf rfl rfl e6 (by decide +kernel) (fun H7 h0 z8 => ?_)
  have hs := hs.step z8 (by omega) (by omega)
  refine aw_b (pc' := 13) (lv' := [(0, .ref a)]) (st' := [.int (0 : Int32), .ref a]) [(11, .aload_n 0, 1, .null), (12, .iconst 0, 1, .int (0 : Int32))] (by decide +kernel) rfl ?_
  obtain ⟨s9, e10, hm⟩ := bd_x hm
  refine aw_pl a 0 h0 eo_S_0 fsq_5_2 fpX5_28 hf rfl rfl e10 (by decide +kernel) (fun H11 h0 z12 => ?_)
  have hs := hs.step z12 (by omega) (by omega)
  refine aw_b (pc' := 18) (lv' := [(0, .ref a)]) (st' := [.int (1 : Int32), .ref a]) [(16, .aload_n 0, 1, .null), (17, .iconst 1, 1, .int (1 : Int32))] (by decide +kernel) rfl ?_
  obtain ⟨s13, e14, hm⟩ := bd_x hm
  refine aw_pl a 0 h0 eo_S_0 fsq_5_3 fpX5_31 hf rfl rfl e14 (by decide +kernel) (fun H15 h0 z16 => ?_)
  have hs := hs.step z16 (by omega) (by omega)
  refine aw_b (pc' := 23) (lv' := [(0, .ref a)]) (st' := [.int (0 : Int32), .ref a]) [(21, .aload_n 0, 1, .null), (22, .iconst 0, 1, .int (0 : Int32))] (by decide +kernel) rfl ?_
  obtain ⟨s17, e18, hm⟩ := bd_x hm
  refine aw_pl a 0 h0 eo_S_0 fsq_5_4 fpX5_34 hf rfl rfl e18 (by decide +kernel) (fun H19 h0 z20 => ?_)
  have hs := hs.step z20 (by omega) (by omega)
  refine aw_b (pc' := 28) (lv' := [(0, .ref a)]) (st' := [.int (2 : Int32), .ref a]) [(26, .aload_n 0, 1, .null), (27, .iconst 2, 1, .int (2 : Int32))] (by decide +kernel) rfl ?_
  obtain ⟨s21, e22, hm⟩ := bd_x hm
  refine aw_pl a 0 h0 eo_S_0 fsq_5_7 fpX5_37 hf rfl rfl e22 (by decide +kernel) (fun H23 h0 z24 => ?_)
  have hs := hs.step z24 (by omega) (by omega)
  refine aw_b (pc' := 33) (lv' := [(0, .ref a)]) (st' := [.int (0 : Int32), .ref a]) [(31, .aload_n 0, 1, .null), (32, .iconst 0, 1, .int (0 : Int32))] (by decide +kernel) rfl ?_
  obtain ⟨s25, e26, hm⟩ := bd_x hm
  refine aw_pl a 0 h0 eo_S_0 fsq_5_8 fpX5_40 hf rfl rfl e26 (by decide +kernel) (fun H27 h0 z28 => ?_)
  have hs := hs.step z28 (by omega) (by omega)
  refine aw_b (pc' := 39) (lv' := [(0, .ref a)]) (st' := [.int (100 : Int32), .ref a]) [(36, .aload_n 0, 1, .null), (37, .bipush 100, 2, .int (100 : Int32))] (by decide +kernel) rfl ?_
  obtain ⟨s29, e30, hm⟩ := bd_x hm
  refine aw_pl a 0 h0 eo_S_0 fsq_5_9 fpX5_43 hf rfl rfl e30 (by decide +kernel) (fun H31 h0 z32 => ?_)
  have hs := hs.step z32 (by omega) (by omega)
  refine aw_b (pc' := 44) (lv' := [(0, .ref a)]) (st' := [.int (1 : Int32), .ref a]) [(42, .aload_n 0, 1, .null), (43, .iconst 1, 1, .int (1 : Int32))] (by decide +kernel) rfl ?_
  obtain ⟨s33, e34, hm⟩ := bd_x hm
  refine aw_pl a 0 h0 eo_S_0 fsq_5_10 fpX5_46 hf rfl rfl e34 (by decide +kernel) (fun H35 h0 z36 => ?_)
  have hs := hs.step z36 (by omega) (by omega)
  refine aw_b (pc' := 49) (lv' := [(0, .ref a)]) (st' := [.int (0 : Int32), .ref a]) [(47, .aload_n 0, 1, .null), (48, .iconst 0, 1, .int (0 : Int32))] (by decide +kernel) rfl ?_
  obtain ⟨s37, e38, hm⟩ := bd_x hm
  refine aw_pl a 0 h0 eo_S_0 fsq_5_11 fpX5_49 hf rfl rfl e38 (by decide +kernel) (fun H39 h0 z40 => ?_)
  have hs := hs.step z40 (by omega) (by omega)
  refine aw_b (pc' := 54) (lv' := [(0, .ref a)]) (st' := [.int (0 : Int32), .ref a]) [(52, .aload_n 0, 1, .null), (53, .iconst 0, 1, .int (0 : Int32))] (by decide +kernel) rfl ?_
  obtain ⟨s41, e42, hm⟩ := bd_x hm
  refine aw_pl a 0 h0 eo_S_0 fsq_5_12 fpX5_52 hf rfl rfl e42 (by decide +kernel) (fun H43 h0 z44 => ?_)
  have hs := hs.step z44 (by omega) (by omega)
  refine aw_b (pc' := 59) (lv' := [(0, .ref a)]) (st' := [.int (-1 : Int32), .ref a]) [(57, .aload_n 0, 1, .null), (58, .iconst (-1), 1, .int (-1 : Int32))] (by decide +kernel) rfl ?_
  obtain ⟨s45, e46, hm⟩ := bd_x hm
  refine aw_pl a 0 h0 eo_S_0 fsq_5_14 fpX5_55 hf rfl rfl e46 (by decide +kernel) (fun H47 h0 z48 => ?_)
  have hs := hs.step z48 (by omega) (by omega)
  refine aw_b (pc' := 64) (lv' := [(0, .ref a)]) (st' := [.int (-1 : Int32), .ref a]) [(62, .aload_n 0, 1, .null), (63, .iconst (-1), 1, .int (-1 : Int32))] (by decide +kernel) rfl ?_
  obtain ⟨s49, e50, hm⟩ := bd_x hm
  refine aw_pl a 0 h0 eo_S_0 fsq_5_15 fpX5_58 hf rfl rfl e50 (by decide +kernel) (fun H51 h0 z52 => ?_)
  have hs := hs.step z52 (by omega) (by omega)
  refine aw_b (pc' := 69) (lv' := [(0, .ref a)]) (st' := [.int (-1 : Int32), .ref a]) [(67, .aload_n 0, 1, .null), (68, .iconst (-1), 1, .int (-1 : Int32))] (by decide +kernel) rfl ?_
  obtain ⟨s53, e54, hm⟩ := bd_x hm
  refine aw_pl a 0 h0 eo_S_0 fsq_5_16 fpX5_61 hf rfl rfl e54 (by decide +kernel) (fun H55 h0 z56 => ?_)
  have hs := hs.step z56 (by omega) (by omega)
  refine aw_b (pc' := 74) (lv' := [(0, .ref a)]) (st' := [.int (-1 : Int32), .ref a]) [(72, .aload_n 0, 1, .null), (73, .iconst (-1), 1, .int (-1 : Int32))] (by decide +kernel) rfl ?_
  obtain ⟨s57, e58, hm⟩ := bd_x hm
  refine aw_pl a 0 h0 eo_S_0 fsq_5_17 fpX5_64 hf rfl rfl e58 (by decide +kernel) (fun H59 h0 z60 => ?_)
  have hs := hs.step z60 (by omega) (by omega)
  refine aw_b (pc' := 79) (lv' := [(0, .ref a)]) (st' := [.int (-1 : Int32), .ref a]) [(77, .aload_n 0, 1, .null), (78, .iconst (-1), 1, .int (-1 : Int32))] (by decide +kernel) rfl ?_
  obtain ⟨s61, e62, hm⟩ := bd_x hm
  refine aw_pl a 0 h0 eo_S_0 fsq_5_18 fpX5_67 hf rfl rfl e62 (by decide +kernel) (fun H63 h0 z64 => ?_)
  have hs := hs.step z64 (by omega) (by omega)
  obtain rfl := Option.some.inj hm
  subst hQ
  exact aw_vret rfl (Nat.zero_le _) (Nat.zero_le _) (by decide +kernel) ⟨rfl, hs, h0⟩
def mX5_putRule : mt_ := (yX5_putRule, cX5_putRule, 3, none, [], { frames := 0, locals := 0, cells := 0, slots := 0 })
theorem ckX5_putRule : cokV_ mX5_putRule := ⟨⟨(uw_mem 436 (by decide +kernel) (by decide +kernel)), (uw_mem 31 (by decide +kernel) (by decide +kernel)), by decide +kernel, by decide +kernel⟩, (uw_mem 434 (by decide +kernel) (by decide +kernel)), (uw_mem 435 (by decide +kernel) (by decide +kernel))⟩
theorem nkX5_putRule : nok_ mX5_putRule 2 := by decide +kernel
theorem fgX5_34 : fok_ RX5 34 5 4 := ⟨_, _, _, rfl, by decide, (uw_mem 89 (by decide +kernel) (by decide +kernel)), wkX5⟩
theorem fgX5_9 : fok_ RX5 9 5 5 := ⟨_, _, _, rfl, by decide, (uw_mem 93 (by decide +kernel) (by decide +kernel)), wkX5⟩
theorem fgX5_15 : fok_ RX5 15 5 6 := ⟨_, _, _, rfl, by decide, (uw_mem 94 (by decide +kernel) (by decide +kernel)), wkX5⟩
theorem kX5_putRule {E : ev_} {H : Heap} {a : Nat} {s : st_} {i0 : Int32} {i1 : Int32} {r : st_} (hm : fX5_putRule s i0 i1 = some r) (h0 : has_ E H a ly_S s) (hf : ev_fr E a) : sp_ E mX5_putRule [.ref a, .int i0, .int i1] H (po1 (.inl (none)) (fun Hn => sm_ H Hn a 4 ∧ has_ E Hn a ly_S r)) := by
  refine sp_of (by decide +kernel) rfl rfl ?_
  generalize hQ : po1 _ _ = Q
  have hs : sm_ H H a 4 := sm_.rfl'
  unfold fX5_putRule at hm
  refine aw_lv (lv' := [(0, .ref a), (1, .int i0), (2, .int i1)]) [0, 1, 2] rfl ?_
  refine aw_b (pc' := 1) (lv' := [(0, .ref a), (1, .int i0), (2, .int i1)]) (st' := [.ref a]) [(0, .aload_n 0, 1, .null)] (by decide +kernel) rfl ?_
  refine aw_gl (v := .int (s 0 4)) a 0 h0 eo_S_0 fgX5_34 rfl (by decide +kernel) ?_
  refine aw_b (pc' := 6) (lv' := [(0, .ref a), (1, .int i0), (2, .int i1)]) (st' := [.int (6 : Int32), .int (s 0 4)]) [(4, .bipush 6, 2, .int (6 : Int32))] (by decide +kernel) rfl ?_
  refine aw_ic_ge (off := 33) 39 (by decide) (by decide +kernel) (fun hc => ?_) (fun hc => ?_)
  · have hm := (if_pos hc).symm.trans hm
    obtain rfl := Option.some.inj hm
    subst hQ
    exact aw_vret rfl (Nat.zero_le _) (Nat.zero_le _) (by decide +kernel) ⟨rfl, hs, h0⟩
  · have hm := (if_neg hc).symm.trans hm
    refine aw_b (pc' := 10) (lv' := [(0, .ref a), (1, .int i0), (2, .int i1)]) (st' := [.ref a]) [(9, .aload_n 0, 1, .null)] (by decide +kernel) rfl ?_
    refine aw_gl (v := .ref (a + 1)) a 0 h0 eo_S_0 fgX5_9 rfl (by decide +kernel) ?_
    refine aw_b (pc' := 14) (lv' := [(0, .ref a), (1, .int i0), (2, .int i1)]) (st' := [.ref a, .ref (a + 1)]) [(13, .aload_n 0, 1, .null)] (by decide +kernel) rfl ?_
    refine aw_gl (v := .int (s 0 4)) a 0 h0 eo_S_0 fgX5_34 rfl (by decide +kernel) ?_
    refine aw_b (pc' := 18) (lv' := [(0, .ref a), (1, .int i0), (2, .int i1)]) (st' := [.int i0, .int (s 0 4), .ref (a + 1)]) [(17, .iload_n 1, 1, .null)] (by decide +kernel) rfl ?_
    obtain ⟨g1, hm⟩ := gd_x hm
    obtain ⟨s2, e3, hm⟩ := bd_x hm
    refine aw_isl a 1 h0 rfl hf g1 e3 (by decide +kernel) (fun H4 h0 z5 => ?_)
    have hs := hs.step z5 (by omega) (by omega)
    refine aw_b (pc' := 20) (lv' := [(0, .ref a), (1, .int i0), (2, .int i1)]) (st' := [.ref a]) [(19, .aload_n 0, 1, .null)] (by decide +kernel) rfl ?_
    refine aw_gl (v := .ref (a + 2)) a 0 h0 eo_S_0 fgX5_15 rfl (by decide +kernel) ?_
    refine aw_b (pc' := 24) (lv' := [(0, .ref a), (1, .int i0), (2, .int i1)]) (st' := [.ref a, .ref (a + 2)]) [(23, .aload_n 0, 1, .null)] (by decide +kernel) rfl ?_
    refine aw_gl (v := .int (s2 0 4)) a 0 h0 eo_S_0 fgX5_34 rfl (by decide +kernel) ?_
    refine aw_b (pc' := 28) (lv' := [(0, .ref a), (1, .int i0), (2, .int i1)]) (st' := [.int i1, .int (s2 0 4), .ref (a + 2)]) [(27, .iload_n 2, 1, .null)] (by decide +kernel) rfl ?_
    obtain ⟨g6, hm⟩ := gd_x hm
    obtain ⟨s7, e8, hm⟩ := bd_x hm
    refine aw_isl a 2 h0 rfl hf g6 e8 (by decide +kernel) (fun H9 h0 z10 => ?_)
    have hs := hs.step z10 (by omega) (by omega)
    refine aw_b (pc' := 31) (lv' := [(0, .ref a), (1, .int i0), (2, .int i1)]) (st' := [.ref a, .ref a]) [(29, .aload_n 0, 1, .null), (30, .dup, 1, .null)] (by decide +kernel) rfl ?_
    refine aw_gl (v := .int (s7 0 4)) a 0 h0 eo_S_0 fgX5_34 rfl (by decide +kernel) ?_
    refine aw_b (pc' := 36) (lv' := [(0, .ref a), (1, .int i0), (2, .int i1)]) (st' := [.int ((s7 0 4) + (1 : Int32)), .ref a]) [(34, .iconst 1, 1, .int (1 : Int32)), (35, .iadd, 1, .null)] (by decide +kernel) rfl ?_
    obtain ⟨s11, e12, hm⟩ := bd_x hm
    refine aw_pl a 0 h0 eo_S_0 fsq_5_4 fpX5_34 hf rfl rfl e12 (by decide +kernel) (fun H13 h0 z14 => ?_)
    have hs := hs.step z14 (by omega) (by omega)
    obtain rfl := Option.some.inj hm
    subst hQ
    exact aw_vret rfl (Nat.zero_le _) (Nat.zero_le _) (by decide +kernel) ⟨rfl, hs, h0⟩
def mX5_completeRules : mt_ := (yX5_completeRules, cX5_completeRules, 1, none, [], { frames := 1, locals := 22, cells := 0, slots := 0 })
theorem ckX5_completeRules : cokV_ mX5_completeRules := ⟨⟨(uw_mem 432 (by decide +kernel) (by decide +kernel)), (uw_mem 31 (by decide +kernel) (by decide +kernel)), by decide +kernel, by decide +kernel⟩, (uw_mem 430 (by decide +kernel) (by decide +kernel)), (uw_mem 431 (by decide +kernel) (by decide +kernel))⟩
theorem nkX5_completeRules : nok_ mX5_completeRules 0 := by decide +kernel
theorem lkX5_70 : Cond.methodLink RX5 70 yX5_putRule ∈ uw_ := (uw_mem 433 (by decide +kernel) (by decide +kernel))
theorem kX5_completeRules {E : ev_} {H : Heap} {a : Nat} {s : st_} {r : st_} (hm : fX5_completeRules s = some r) (h0 : has_ E H a ly_S s) (hf : ev_fr E a) : sp_ E mX5_completeRules [.ref a] H (po1 (.inl (none)) (fun Hn => sm_ H Hn a 4 ∧ has_ E Hn a ly_S r)) := by
  refine sp_of (by decide +kernel) rfl rfl ?_
  generalize hQ : po1 _ _ = Q
  have hs : sm_ H H a 4 := sm_.rfl'
  unfold fX5_completeRules at hm
  refine aw_lv (lv' := [(0, .ref a)]) [0] rfl ?_
  refine aw_b (pc' := 1) (lv' := [(0, .ref a)]) (st' := [.ref a]) [(0, .aload_n 0, 1, .null)] (by decide +kernel) rfl ?_
  refine aw_gl (v := .int (s 0 4)) a 0 h0 eo_S_0 fgX5_34 rfl (by decide +kernel) ?_
  refine aw_if_ne (off := 9) 13 (by decide) (by decide +kernel) (fun hc => ?_) (fun hc => ?_)
  · have hm := (if_neg hc).symm.trans hm
    obtain rfl := Option.some.inj hm
    subst hQ
    exact aw_vret rfl (Nat.zero_le _) (Nat.zero_le _) (by decide +kernel) ⟨rfl, hs, h0⟩
  · have hm := (if_pos hc).symm.trans hm
    refine aw_b (pc' := 10) (lv' := [(0, .ref a)]) (st' := [.int (-1 : Int32), .int (0 : Int32), .ref a]) [(7, .aload_n 0, 1, .null), (8, .iconst 0, 1, .int (0 : Int32)), (9, .iconst (-1), 1, .int (-1 : Int32))] (by decide +kernel) rfl ?_
    obtain ⟨r1, e2, hm⟩ := bn_x hm
    refine aw_cv (rest := []) (st1 := []) a 0 (kX5_putRule e2 h0 hf) rfl rfl ckX5_putRule lkX5_70 h0 eo_S_0 ⟨_, _, rfl⟩ nkX5_putRule rfl rfl rfl (Nat.le_of_ble_eq_true rfl) (Nat.zero_le _) (Nat.zero_le _) (by decide +kernel) (fun H3 z4 => ?_)
    obtain ⟨z4, hn⟩ := z4
    have h0 := hn
    have hs := hs.step z4 (by omega) (by omega)
    obtain rfl := Option.some.inj hm
    subst hQ
    exact aw_vret rfl (Nat.zero_le _) (Nat.zero_le _) (by decide +kernel) ⟨rfl, hs, h0⟩
def mX5_copyFrom : mt_ := (yX5_copyFrom, cX5_copyFrom, 2, none, [], { frames := 1, locals := 48, cells := 0, slots := 0 })
theorem ckX5_copyFrom : cokV_ mX5_copyFrom := ⟨⟨(uw_mem 448 (by decide +kernel) (by decide +kernel)), (uw_mem 31 (by decide +kernel) (by decide +kernel)), by decide +kernel, by decide +kernel⟩, (uw_mem 446 (by decide +kernel) (by decide +kernel)), (uw_mem 447 (by decide +kernel) (by decide +kernel))⟩
theorem nkX5_copyFrom : nok_ mX5_copyFrom 1 := by decide +kernel
theorem fgX5_21 : fok_ RX5 21 5 0 := ⟨_, _, _, rfl, by decide, (uw_mem 73 (by decide +kernel) (by decide +kernel)), wkX5⟩
theorem fgX5_25 : fok_ RX5 25 5 1 := ⟨_, _, _, rfl, by decide, (uw_mem 78 (by decide +kernel) (by decide +kernel)), wkX5⟩
theorem fgX5_28 : fok_ RX5 28 5 2 := ⟨_, _, _, rfl, by decide, (uw_mem 82 (by decide +kernel) (by decide +kernel)), wkX5⟩
theorem fgX5_31 : fok_ RX5 31 5 3 := ⟨_, _, _, rfl, by decide, (uw_mem 85 (by decide +kernel) (by decide +kernel)), wkX5⟩
theorem cpX5_74 : al_ RX5 74 := ⟨(uw_mem 449 (by decide +kernel) (by decide +kernel)), (uw_mem 451 (by decide +kernel) (by decide +kernel)), (uw_mem 450 (by decide +kernel) (by decide +kernel)), (uw_mem 37 (by decide +kernel) (by decide +kernel))⟩
theorem fgX5_37 : fok_ RX5 37 5 7 := ⟨_, _, _, rfl, by decide, (uw_mem 95 (by decide +kernel) (by decide +kernel)), wkX5⟩
theorem fgX5_40 : fok_ RX5 40 5 8 := ⟨_, _, _, rfl, by decide, (uw_mem 98 (by decide +kernel) (by decide +kernel)), wkX5⟩
theorem fgX5_43 : fok_ RX5 43 5 9 := ⟨_, _, _, rfl, by decide, (uw_mem 101 (by decide +kernel) (by decide +kernel)), wkX5⟩
theorem fgX5_46 : fok_ RX5 46 5 10 := ⟨_, _, _, rfl, by decide, (uw_mem 105 (by decide +kernel) (by decide +kernel)), wkX5⟩
theorem fgX5_49 : fok_ RX5 49 5 11 := ⟨_, _, _, rfl, by decide, (uw_mem 108 (by decide +kernel) (by decide +kernel)), wkX5⟩
theorem fgX5_52 : fok_ RX5 52 5 12 := ⟨_, _, _, rfl, by decide, (uw_mem 112 (by decide +kernel) (by decide +kernel)), wkX5⟩
theorem fgX5_18 : fok_ RX5 18 5 13 := ⟨_, _, _, rfl, by decide, (uw_mem 116 (by decide +kernel) (by decide +kernel)), wkX5⟩
theorem fgX5_55 : fok_ RX5 55 5 14 := ⟨_, _, _, rfl, by decide, (uw_mem 117 (by decide +kernel) (by decide +kernel)), wkX5⟩
theorem fgX5_58 : fok_ RX5 58 5 15 := ⟨_, _, _, rfl, by decide, (uw_mem 121 (by decide +kernel) (by decide +kernel)), wkX5⟩
theorem fgX5_61 : fok_ RX5 61 5 16 := ⟨_, _, _, rfl, by decide, (uw_mem 124 (by decide +kernel) (by decide +kernel)), wkX5⟩
theorem fgX5_64 : fok_ RX5 64 5 17 := ⟨_, _, _, rfl, by decide, (uw_mem 128 (by decide +kernel) (by decide +kernel)), wkX5⟩
theorem fgX5_67 : fok_ RX5 67 5 18 := ⟨_, _, _, rfl, by decide, (uw_mem 132 (by decide +kernel) (by decide +kernel)), wkX5⟩
theorem kX5_copyFrom {E : ev_} {H : Heap} {a b : Nat} {s : st_} {t : st_} {r : st_} (hm : fX5_copyFrom s t = some r) (h0 : has_ E H a ly_S s) (h1 : has_ E H b ly_S t) (hf : ev_fr E a) (d1 : a + 4 ≤ b ∨ b + 4 ≤ a) : sp_ E mX5_copyFrom [.ref a, .ref b] H (po1 (.inl (none)) (fun Hn => sm_ H Hn a 4 ∧ has_ E Hn a ly_S r)) := by
  refine sp_of (by decide +kernel) rfl rfl ?_
  generalize hQ : po1 _ _ = Q
  have hs : sm_ H H a 4 := sm_.rfl'
  unfold fX5_copyFrom at hm
  refine aw_lv (lv' := [(0, .ref a), (1, .ref b)]) [0, 1] rfl ?_
  refine aw_b (pc' := 2) (lv' := [(0, .ref a), (1, .ref b)]) (st' := [.ref b, .ref a]) [(0, .aload_n 0, 1, .null), (1, .aload_n 1, 1, .null)] (by decide +kernel) rfl ?_
  refine aw_gl (v := .int (t 0 0)) b 0 h1 eo_S_0 fgX5_21 rfl (by decide +kernel) ?_
  obtain ⟨s1, e2, hm⟩ := bd_x hm
  refine aw_pl a 0 h0 eo_S_0 fsq_5_0 fpX5_21 hf rfl rfl e2 (by decide +kernel) (fun H3 h0 z4 => ?_)
  have h1 := h1.kept (n := 4) z4 rfl (by omega)
  have hs := hs.step z4 (by omega) (by omega)
  refine aw_b (pc' := 10) (lv' := [(0, .ref a), (1, .ref b)]) (st' := [.ref b, .ref a]) [(8, .aload_n 0, 1, .null), (9, .aload_n 1, 1, .null)] (by decide +kernel) rfl ?_
  refine aw_gl (v := .int (t 0 1)) b 0 h1 eo_S_0 fgX5_25 rfl (by decide +kernel) ?_
  obtain ⟨s5, e6, hm⟩ := bd_x hm
  refine aw_pl a 0 h0 eo_S_0 fsq_5_1 fpX5_25 hf rfl rfl e6 (by decide +kernel) (fun H7 h0 z8 => ?_)
  have h1 := h1.kept (n := 4) z8 rfl (by omega)
  have hs := hs.step z8 (by omega) (by omega)
  refine aw_b (pc' := 18) (lv' := [(0, .ref a), (1, .ref b)]) (st' := [.ref b, .ref a]) [(16, .aload_n 0, 1, .null), (17, .aload_n 1, 1, .null)] (by decide +kernel) rfl ?_
  refine aw_gl (v := .int (t 0 2)) b 0 h1 eo_S_0 fgX5_28 rfl (by decide +kernel) ?_
  obtain ⟨s9, e10, hm⟩ := bd_x hm
  refine aw_pl a 0 h0 eo_S_0 fsq_5_2 fpX5_28 hf rfl rfl e10 (by decide +kernel) (fun H11 h0 z12 => ?_)
  have h1 := h1.kept (n := 4) z12 rfl (by omega)
  have hs := hs.step z12 (by omega) (by omega)
  refine aw_b (pc' := 26) (lv' := [(0, .ref a), (1, .ref b)]) (st' := [.ref b, .ref a]) [(24, .aload_n 0, 1, .null), (25, .aload_n 1, 1, .null)] (by decide +kernel) rfl ?_
  refine aw_gl (v := .int (t 0 3)) b 0 h1 eo_S_0 fgX5_31 rfl (by decide +kernel) ?_
  obtain ⟨s13, e14, hm⟩ := bd_x hm
  refine aw_pl a 0 h0 eo_S_0 fsq_5_3 fpX5_31 hf rfl rfl e14 (by decide +kernel) (fun H15 h0 z16 => ?_)
  have h1 := h1.kept (n := 4) z16 rfl (by omega)
  have hs := hs.step z16 (by omega) (by omega)
  refine aw_b (pc' := 34) (lv' := [(0, .ref a), (1, .ref b)]) (st' := [.ref b, .ref a]) [(32, .aload_n 0, 1, .null), (33, .aload_n 1, 1, .null)] (by decide +kernel) rfl ?_
  refine aw_gl (v := .int (t 0 4)) b 0 h1 eo_S_0 fgX5_34 rfl (by decide +kernel) ?_
  obtain ⟨s17, e18, hm⟩ := bd_x hm
  refine aw_pl a 0 h0 eo_S_0 fsq_5_4 fpX5_34 hf rfl rfl e18 (by decide +kernel) (fun H19 h0 z20 => ?_)
  have h1 := h1.kept (n := 4) z20 rfl (by omega)
  have hs := hs.step z20 (by omega) (by omega)
  refine aw_b (pc' := 41) (lv' := [(0, .ref a), (1, .ref b)]) (st' := [.ref b]) [(40, .aload_n 1, 1, .null)] (by decide +kernel) rfl ?_
  refine aw_gl (v := .ref (b + 1)) b 0 h1 eo_S_0 fgX5_9 rfl (by decide +kernel) ?_
  refine aw_b (pc' := 46) (lv' := [(0, .ref a), (1, .ref b)]) (st' := [.ref a, .int (0 : Int32), .ref (b + 1)]) [(44, .iconst 0, 1, .int (0 : Int32)), (45, .aload_n 0, 1, .null)] (by decide +kernel) rfl ?_
  refine aw_gl (v := .ref (a + 1)) a 0 h0 eo_S_0 fgX5_9 rfl (by decide +kernel) ?_
  refine aw_b (pc' := 51) (lv' := [(0, .ref a), (1, .ref b)]) (st' := [.ref a, .int (0 : Int32), .ref (a + 1), .int (0 : Int32), .ref (b + 1)]) [(49, .iconst 0, 1, .int (0 : Int32)), (50, .aload_n 0, 1, .null)] (by decide +kernel) rfl ?_
  refine aw_gl (v := .ref (a + 1)) a 0 h0 eo_S_0 fgX5_9 rfl (by decide +kernel) ?_
  refine aw_all (ci := 0) (N := 6) (v := (6 : Int32)) a 1 h0 rfl (x := fun _ _ c => .inl c) (fun _ _ => rfl) rfl (by decide +kernel) (by decide +kernel) ?_
  obtain ⟨s21, e22, hm⟩ := bd_x hm
  refine aw_cpl (rest := []) b 1 a 1 h0 rfl h1 rfl cpX5_74 hf (by decide) (by decide +kernel) e22 rfl (Nat.le_of_ble_eq_true rfl) (by decide +kernel) (fun H23 h0 z24 => ?_)
  have h1 := h1.kept (n := 4) z24 rfl (by omega)
  have hs := hs.step z24 (by omega) (by omega)
  refine aw_b (pc' := 59) (lv' := [(0, .ref a), (1, .ref b)]) (st' := [.ref b]) [(58, .aload_n 1, 1, .null)] (by decide +kernel) rfl ?_
  refine aw_gl (v := .ref (b + 2)) b 0 h1 eo_S_0 fgX5_15 rfl (by decide +kernel) ?_
  refine aw_b (pc' := 64) (lv' := [(0, .ref a), (1, .ref b)]) (st' := [.ref a, .int (0 : Int32), .ref (b + 2)]) [(62, .iconst 0, 1, .int (0 : Int32)), (63, .aload_n 0, 1, .null)] (by decide +kernel) rfl ?_
  refine aw_gl (v := .ref (a + 2)) a 0 h0 eo_S_0 fgX5_15 rfl (by decide +kernel) ?_
  refine aw_b (pc' := 69) (lv' := [(0, .ref a), (1, .ref b)]) (st' := [.ref a, .int (0 : Int32), .ref (a + 2), .int (0 : Int32), .ref (b + 2)]) [(67, .iconst 0, 1, .int (0 : Int32)), (68, .aload_n 0, 1, .null)] (by decide +kernel) rfl ?_
  refine aw_gl (v := .ref (a + 2)) a 0 h0 eo_S_0 fgX5_15 rfl (by decide +kernel) ?_
  refine aw_all (ci := 0) (N := 6) (v := (6 : Int32)) a 2 h0 rfl (x := fun _ _ c => .inl c) (fun _ _ => rfl) rfl (by decide +kernel) (by decide +kernel) ?_
  obtain ⟨s25, e26, hm⟩ := bd_x hm
  refine aw_cpl (rest := []) b 2 a 2 h0 rfl h1 rfl cpX5_74 hf (by decide) (by decide +kernel) e26 rfl (Nat.le_of_ble_eq_true rfl) (by decide +kernel) (fun H27 h0 z28 => ?_)
  have h1 := h1.kept (n := 4) z28 rfl (by omega)
  have hs := hs.step z28 (by omega) (by omega)
  refine aw_b (pc' := 78) (lv' := [(0, .ref a), (1, .ref b)]) (st' := [.ref b, .ref a]) [(76, .aload_n 0, 1, .null), (77, .aload_n 1, 1, .null)] (by decide +kernel) rfl ?_
  refine aw_gl (v := .int (t 0 7)) b 0 h1 eo_S_0 fgX5_37 rfl (by decide +kernel) ?_
  obtain ⟨s29, e30, hm⟩ := bd_x hm
  refine aw_pl a 0 h0 eo_S_0 fsq_5_7 fpX5_37 hf rfl rfl e30 (by decide +kernel) (fun H31 h0 z32 => ?_)
  have h1 := h1.kept (n := 4) z32 rfl (by omega)
  have hs := hs.step z32 (by omega) (by omega)
  refine aw_b (pc' := 86) (lv' := [(0, .ref a), (1, .ref b)]) (st' := [.ref b, .ref a]) [(84, .aload_n 0, 1, .null), (85, .aload_n 1, 1, .null)] (by decide +kernel) rfl ?_
  refine aw_gl (v := .int (t 0 8)) b 0 h1 eo_S_0 fgX5_40 rfl (by decide +kernel) ?_
  obtain ⟨s33, e34, hm⟩ := bd_x hm
  refine aw_pl a 0 h0 eo_S_0 fsq_5_8 fpX5_40 hf rfl rfl e34 (by decide +kernel) (fun H35 h0 z36 => ?_)
  have h1 := h1.kept (n := 4) z36 rfl (by omega)
  have hs := hs.step z36 (by omega) (by omega)
  refine aw_b (pc' := 94) (lv' := [(0, .ref a), (1, .ref b)]) (st' := [.ref b, .ref a]) [(92, .aload_n 0, 1, .null), (93, .aload_n 1, 1, .null)] (by decide +kernel) rfl ?_
  refine aw_gl (v := .int (t 0 9)) b 0 h1 eo_S_0 fgX5_43 rfl (by decide +kernel) ?_
  obtain ⟨s37, e38, hm⟩ := bd_x hm
  refine aw_pl a 0 h0 eo_S_0 fsq_5_9 fpX5_43 hf rfl rfl e38 (by decide +kernel) (fun H39 h0 z40 => ?_)
  have h1 := h1.kept (n := 4) z40 rfl (by omega)
  have hs := hs.step z40 (by omega) (by omega)
  refine aw_b (pc' := 102) (lv' := [(0, .ref a), (1, .ref b)]) (st' := [.ref b, .ref a]) [(100, .aload_n 0, 1, .null), (101, .aload_n 1, 1, .null)] (by decide +kernel) rfl ?_
  refine aw_gl (v := .int (t 0 10)) b 0 h1 eo_S_0 fgX5_46 rfl (by decide +kernel) ?_
  obtain ⟨s41, e42, hm⟩ := bd_x hm
  refine aw_pl a 0 h0 eo_S_0 fsq_5_10 fpX5_46 hf rfl rfl e42 (by decide +kernel) (fun H43 h0 z44 => ?_)
  have h1 := h1.kept (n := 4) z44 rfl (by omega)
  have hs := hs.step z44 (by omega) (by omega)
  refine aw_b (pc' := 110) (lv' := [(0, .ref a), (1, .ref b)]) (st' := [.ref b, .ref a]) [(108, .aload_n 0, 1, .null), (109, .aload_n 1, 1, .null)] (by decide +kernel) rfl ?_
  refine aw_gl (v := .int (t 0 11)) b 0 h1 eo_S_0 fgX5_49 rfl (by decide +kernel) ?_
  obtain ⟨s45, e46, hm⟩ := bd_x hm
  refine aw_pl a 0 h0 eo_S_0 fsq_5_11 fpX5_49 hf rfl rfl e46 (by decide +kernel) (fun H47 h0 z48 => ?_)
  have h1 := h1.kept (n := 4) z48 rfl (by omega)
  have hs := hs.step z48 (by omega) (by omega)
  refine aw_b (pc' := 118) (lv' := [(0, .ref a), (1, .ref b)]) (st' := [.ref b, .ref a]) [(116, .aload_n 0, 1, .null), (117, .aload_n 1, 1, .null)] (by decide +kernel) rfl ?_
  refine aw_gl (v := .int (t 0 12)) b 0 h1 eo_S_0 fgX5_52 rfl (by decide +kernel) ?_
  obtain ⟨s49, e50, hm⟩ := bd_x hm
  refine aw_pl a 0 h0 eo_S_0 fsq_5_12 fpX5_52 hf rfl rfl e50 (by decide +kernel) (fun H51 h0 z52 => ?_)
  have h1 := h1.kept (n := 4) z52 rfl (by omega)
  have hs := hs.step z52 (by omega) (by omega)
  refine aw_b (pc' := 125) (lv' := [(0, .ref a), (1, .ref b)]) (st' := [.ref b]) [(124, .aload_n 1, 1, .null)] (by decide +kernel) rfl ?_
  refine aw_gl (v := .ref (b + 3)) b 0 h1 eo_S_0 fgX5_18 rfl (by decide +kernel) ?_
  refine aw_b (pc' := 130) (lv' := [(0, .ref a), (1, .ref b)]) (st' := [.ref a, .int (0 : Int32), .ref (b + 3)]) [(128, .iconst 0, 1, .int (0 : Int32)), (129, .aload_n 0, 1, .null)] (by decide +kernel) rfl ?_
  refine aw_gl (v := .ref (a + 3)) a 0 h0 eo_S_0 fgX5_18 rfl (by decide +kernel) ?_
  refine aw_b (pc' := 135) (lv' := [(0, .ref a), (1, .ref b)]) (st' := [.ref a, .int (0 : Int32), .ref (a + 3), .int (0 : Int32), .ref (b + 3)]) [(133, .iconst 0, 1, .int (0 : Int32)), (134, .aload_n 0, 1, .null)] (by decide +kernel) rfl ?_
  refine aw_gl (v := .ref (a + 3)) a 0 h0 eo_S_0 fgX5_18 rfl (by decide +kernel) ?_
  refine aw_all (ci := 0) (N := 16) (v := (16 : Int32)) a 3 h0 rfl (x := fun _ _ c => .inl c) (fun _ _ => rfl) rfl (by decide +kernel) (by decide +kernel) ?_
  obtain ⟨s53, e54, hm⟩ := bd_x hm
  refine aw_cpl (rest := []) b 3 a 3 h0 rfl h1 rfl cpX5_74 hf (by decide) (by decide +kernel) e54 rfl (Nat.le_of_ble_eq_true rfl) (by decide +kernel) (fun H55 h0 z56 => ?_)
  have h1 := h1.kept (n := 4) z56 rfl (by omega)
  have hs := hs.step z56 (by omega) (by omega)
  refine aw_b (pc' := 144) (lv' := [(0, .ref a), (1, .ref b)]) (st' := [.ref b, .ref a]) [(142, .aload_n 0, 1, .null), (143, .aload_n 1, 1, .null)] (by decide +kernel) rfl ?_
  refine aw_gl (v := .int (t 0 14)) b 0 h1 eo_S_0 fgX5_55 rfl (by decide +kernel) ?_
  obtain ⟨s57, e58, hm⟩ := bd_x hm
  refine aw_pl a 0 h0 eo_S_0 fsq_5_14 fpX5_55 hf rfl rfl e58 (by decide +kernel) (fun H59 h0 z60 => ?_)
  have h1 := h1.kept (n := 4) z60 rfl (by omega)
  have hs := hs.step z60 (by omega) (by omega)
  refine aw_b (pc' := 152) (lv' := [(0, .ref a), (1, .ref b)]) (st' := [.ref b, .ref a]) [(150, .aload_n 0, 1, .null), (151, .aload_n 1, 1, .null)] (by decide +kernel) rfl ?_
  refine aw_gl (v := .int (t 0 15)) b 0 h1 eo_S_0 fgX5_58 rfl (by decide +kernel) ?_
  obtain ⟨s61, e62, hm⟩ := bd_x hm
  refine aw_pl a 0 h0 eo_S_0 fsq_5_15 fpX5_58 hf rfl rfl e62 (by decide +kernel) (fun H63 h0 z64 => ?_)
  have h1 := h1.kept (n := 4) z64 rfl (by omega)
  have hs := hs.step z64 (by omega) (by omega)
  refine aw_b (pc' := 160) (lv' := [(0, .ref a), (1, .ref b)]) (st' := [.ref b, .ref a]) [(158, .aload_n 0, 1, .null), (159, .aload_n 1, 1, .null)] (by decide +kernel) rfl ?_
  refine aw_gl (v := .int (t 0 16)) b 0 h1 eo_S_0 fgX5_61 rfl (by decide +kernel) ?_
  obtain ⟨s65, e66, hm⟩ := bd_x hm
  refine aw_pl a 0 h0 eo_S_0 fsq_5_16 fpX5_61 hf rfl rfl e66 (by decide +kernel) (fun H67 h0 z68 => ?_)
  have h1 := h1.kept (n := 4) z68 rfl (by omega)
  have hs := hs.step z68 (by omega) (by omega)
  refine aw_b (pc' := 168) (lv' := [(0, .ref a), (1, .ref b)]) (st' := [.ref b, .ref a]) [(166, .aload_n 0, 1, .null), (167, .aload_n 1, 1, .null)] (by decide +kernel) rfl ?_
  refine aw_gl (v := .int (t 0 17)) b 0 h1 eo_S_0 fgX5_64 rfl (by decide +kernel) ?_
  obtain ⟨s69, e70, hm⟩ := bd_x hm
  refine aw_pl a 0 h0 eo_S_0 fsq_5_17 fpX5_64 hf rfl rfl e70 (by decide +kernel) (fun H71 h0 z72 => ?_)
  have h1 := h1.kept (n := 4) z72 rfl (by omega)
  have hs := hs.step z72 (by omega) (by omega)
  refine aw_b (pc' := 176) (lv' := [(0, .ref a), (1, .ref b)]) (st' := [.ref b, .ref a]) [(174, .aload_n 0, 1, .null), (175, .aload_n 1, 1, .null)] (by decide +kernel) rfl ?_
  refine aw_gl (v := .int (t 0 18)) b 0 h1 eo_S_0 fgX5_67 rfl (by decide +kernel) ?_
  obtain ⟨s73, e74, hm⟩ := bd_x hm
  refine aw_pl a 0 h0 eo_S_0 fsq_5_18 fpX5_67 hf rfl rfl e74 (by decide +kernel) (fun H75 h0 z76 => ?_)
  have h1 := h1.kept (n := 4) z76 rfl (by omega)
  have hs := hs.step z76 (by omega) (by omega)
  obtain rfl := Option.some.inj hm
  subst hQ
  exact aw_vret rfl (Nat.zero_le _) (Nat.zero_le _) (by decide +kernel) ⟨rfl, hs, h0⟩
def mX5_putAsk : mt_ := (yX5_putAsk, cX5_putAsk, 2, none, [], { frames := 0, locals := 0, cells := 0, slots := 0 })
theorem ckX5_putAsk : cokV_ mX5_putAsk := ⟨⟨(uw_mem 698 (by decide +kernel) (by decide +kernel)), (uw_mem 31 (by decide +kernel) (by decide +kernel)), by decide +kernel, by decide +kernel⟩, (uw_mem 696 (by decide +kernel) (by decide +kernel)), (uw_mem 697 (by decide +kernel) (by decide +kernel))⟩
theorem nkX5_putAsk : nok_ mX5_putAsk 1 := by decide +kernel
theorem kX5_putAsk {E : ev_} {H : Heap} {a : Nat} {s : st_} {i0 : Int32} {r : st_} (hm : fX5_putAsk s i0 = some r) (h0 : has_ E H a ly_S s) (hf : ev_fr E a) : sp_ E mX5_putAsk [.ref a, .int i0] H (po1 (.inl (none)) (fun Hn => sm_ H Hn a 4 ∧ has_ E Hn a ly_S r)) := by
  refine sp_of (by decide +kernel) rfl rfl ?_
  generalize hQ : po1 _ _ = Q
  have hs : sm_ H H a 4 := sm_.rfl'
  unfold fX5_putAsk at hm
  refine aw_lv (lv' := [(0, .ref a), (1, .int i0)]) [0, 1] rfl ?_
  refine aw_b (pc' := 1) (lv' := [(0, .ref a), (1, .int i0)]) (st' := [.ref a]) [(0, .aload_n 0, 1, .null)] (by decide +kernel) rfl ?_
  refine aw_gl (v := .int (s 0 12)) a 0 h0 eo_S_0 fgX5_52 rfl (by decide +kernel) ?_
  refine aw_b (pc' := 6) (lv' := [(0, .ref a), (1, .int i0)]) (st' := [.int (16 : Int32), .int (s 0 12)]) [(4, .bipush 16, 2, .int (16 : Int32))] (by decide +kernel) rfl ?_
  refine aw_ic_ge (off := 23) 29 (by decide) (by decide +kernel) (fun hc => ?_) (fun hc => ?_)
  · have hm := (if_pos hc).symm.trans hm
    obtain rfl := Option.some.inj hm
    subst hQ
    exact aw_vret rfl (Nat.zero_le _) (Nat.zero_le _) (by decide +kernel) ⟨rfl, hs, h0⟩
  · have hm := (if_neg hc).symm.trans hm
    refine aw_b (pc' := 10) (lv' := [(0, .ref a), (1, .int i0)]) (st' := [.ref a]) [(9, .aload_n 0, 1, .null)] (by decide +kernel) rfl ?_
    refine aw_gl (v := .ref (a + 3)) a 0 h0 eo_S_0 fgX5_18 rfl (by decide +kernel) ?_
    refine aw_b (pc' := 14) (lv' := [(0, .ref a), (1, .int i0)]) (st' := [.ref a, .ref (a + 3)]) [(13, .aload_n 0, 1, .null)] (by decide +kernel) rfl ?_
    refine aw_gl (v := .int (s 0 12)) a 0 h0 eo_S_0 fgX5_52 rfl (by decide +kernel) ?_
    refine aw_b (pc' := 18) (lv' := [(0, .ref a), (1, .int i0)]) (st' := [.int i0, .int (s 0 12), .ref (a + 3)]) [(17, .iload_n 1, 1, .null)] (by decide +kernel) rfl ?_
    obtain ⟨g1, hm⟩ := gd_x hm
    obtain ⟨s2, e3, hm⟩ := bd_x hm
    refine aw_isl a 3 h0 rfl hf g1 e3 (by decide +kernel) (fun H4 h0 z5 => ?_)
    have hs := hs.step z5 (by omega) (by omega)
    refine aw_b (pc' := 21) (lv' := [(0, .ref a), (1, .int i0)]) (st' := [.ref a, .ref a]) [(19, .aload_n 0, 1, .null), (20, .dup, 1, .null)] (by decide +kernel) rfl ?_
    refine aw_gl (v := .int (s2 0 12)) a 0 h0 eo_S_0 fgX5_52 rfl (by decide +kernel) ?_
    refine aw_b (pc' := 26) (lv' := [(0, .ref a), (1, .int i0)]) (st' := [.int ((s2 0 12) + (1 : Int32)), .ref a]) [(24, .iconst 1, 1, .int (1 : Int32)), (25, .iadd, 1, .null)] (by decide +kernel) rfl ?_
    obtain ⟨s6, e7, hm⟩ := bd_x hm
    refine aw_pl a 0 h0 eo_S_0 fsq_5_12 fpX5_52 hf rfl rfl e7 (by decide +kernel) (fun H8 h0 z9 => ?_)
    have hs := hs.step z9 (by omega) (by omega)
    obtain rfl := Option.some.inj hm
    subst hQ
    exact aw_vret rfl (Nat.zero_le _) (Nat.zero_le _) (by decide +kernel) ⟨rfl, hs, h0⟩
def mX5_takeMaster : mt_ := (yX5_takeMaster, cX5_takeMaster, 3, none, [], { frames := 0, locals := 0, cells := 0, slots := 0 })
theorem ckX5_takeMaster : cokV_ mX5_takeMaster := ⟨⟨(uw_mem 689 (by decide +kernel) (by decide +kernel)), (uw_mem 31 (by decide +kernel) (by decide +kernel)), by decide +kernel, by decide +kernel⟩, (uw_mem 687 (by decide +kernel) (by decide +kernel)), (uw_mem 688 (by decide +kernel) (by decide +kernel))⟩
theorem nkX5_takeMaster : nok_ mX5_takeMaster 2 := by decide +kernel
theorem kX5_takeMaster {E : ev_} {H : Heap} {a : Nat} {s : st_} {i0 : Int32} {i1 : Int32} {r : st_} (hm : fX5_takeMaster s i0 i1 = some r) (h0 : has_ E H a ly_S s) (hf : ev_fr E a) : sp_ E mX5_takeMaster [.ref a, .int i0, .int i1] H (po1 (.inl (none)) (fun Hn => sm_ H Hn a 4 ∧ has_ E Hn a ly_S r)) := by
  refine sp_of (by decide +kernel) rfl rfl ?_
  generalize hQ : po1 _ _ = Q
  have hs : sm_ H H a 4 := sm_.rfl'
  unfold fX5_takeMaster at hm
  refine aw_lv (lv' := [(0, .ref a), (1, .int i0), (2, .int i1)]) [0, 1, 2] rfl ?_
  refine aw_b (pc' := 2) (lv' := [(0, .ref a), (1, .int i0), (2, .int i1)]) (st' := [.int i0, .ref a]) [(0, .aload_n 0, 1, .null), (1, .iload_n 1, 1, .null)] (by decide +kernel) rfl ?_
  obtain ⟨s1, e2, hm⟩ := bd_x hm
  refine aw_pl a 0 h0 eo_S_0 fsq_5_7 fpX5_37 hf rfl rfl e2 (by decide +kernel) (fun H3 h0 z4 => ?_)
  have hs := hs.step z4 (by omega) (by omega)
  refine aw_b (pc' := 8) (lv' := [(0, .ref a), (1, .int i0), (2, .int i1)]) (st' := [.int (2 : Int32), .int i0, .ref a]) [(5, .aload_n 0, 1, .null), (6, .iload_n 1, 1, .null), (7, .iconst 2, 1, .int (2 : Int32))] (by decide +kernel) rfl ?_
  have J16 : ∀ (z1_j16 : Int32) (H_j16 : Heap), has_ E H_j16 a ly_S s1 → sm_ H H_j16 a 4 → fX5_takeMaster_j16 s1 z1_j16 = some r → aw E mX5_takeMaster Q 16 [] [.int z1_j16, .ref a] H_j16 0 0 := by
    intro z1_j16 H_j16 h0 hs hm
    unfold fX5_takeMaster_j16 at hm
    obtain ⟨s5, e6, hm⟩ := bd_x hm
    refine aw_pl a 0 h0 eo_S_0 fsq_5_8 fpX5_40 hf rfl rfl e6 (by decide +kernel) (fun H7 h0 z8 => ?_)
    have hs := hs.step z8 (by omega) (by omega)
    obtain rfl := Option.some.inj hm
    subst hQ
    exact aw_vret rfl (Nat.zero_le _) (Nat.zero_le _) (by decide +kernel) ⟨rfl, hs, h0⟩
  refine aw_ic_ne (off := 7) 15 (by decide) (by decide +kernel) (fun hc => ?_) (fun hc => ?_)
  · have hm := (if_neg hc).symm.trans hm
    refine aw_b (pc' := 16) (lv' := [(0, .ref a), (1, .int i0), (2, .int i1)]) (st' := [.int (-1 : Int32), .ref a]) [(15, .iconst (-1), 1, .int (-1 : Int32))] (by decide +kernel) rfl ?_
    refine aw_lv (lv' := []) [] rfl ?_
    exact J16 (-1 : Int32) H3 h0 hs hm
  · have hm := (if_pos hc).symm.trans hm
    refine aw_b (pc' := 16) (lv' := [(0, .ref a), (1, .int i0), (2, .int i1)]) (st' := [.int i1, .ref a]) [(11, .iload_n 2, 1, .null), (12, .goto 4, 3, .null)] (by decide +kernel) rfl ?_
    refine aw_lv (lv' := []) [] rfl ?_
    exact J16 i1 H3 h0 hs hm
def mX5_hasRival : mt_ := (yX5_hasRival, cX5_hasRival, 1, some .boolean, [], { frames := 0, locals := 0, cells := 0, slots := 0 })
theorem ckX5_hasRival : cokV_ mX5_hasRival := ⟨⟨(uw_mem 1001 (by decide +kernel) (by decide +kernel)), (uw_mem 31 (by decide +kernel) (by decide +kernel)), by decide +kernel, by decide +kernel⟩, (uw_mem 999 (by decide +kernel) (by decide +kernel)), (uw_mem 1000 (by decide +kernel) (by decide +kernel))⟩
theorem nkX5_hasRival : nok_ mX5_hasRival 0 := by decide +kernel
theorem kX5_hasRival {E : ev_} {H : Heap} {a : Nat} {s : st_} {r : Int32} (hm : fX5_hasRival s = some r) (h0 : has_ E H a ly_S s) : sp_ E mX5_hasRival [.ref a] H (po1 (.inl (some (.int r))) (fun Hn => sm_ H Hn 0 0)) := by
  refine sp_of (by decide +kernel) rfl rfl ?_
  generalize hQ : po1 _ _ = Q
  have hs : sm_ H H 0 0 := sm_.rfl'
  unfold fX5_hasRival at hm
  refine aw_lv (lv' := [(0, .ref a)]) [0] rfl ?_
  refine aw_b (pc' := 1) (lv' := [(0, .ref a)]) (st' := [.ref a]) [(0, .aload_n 0, 1, .null)] (by decide +kernel) rfl ?_
  refine aw_gl (v := .int (s 0 14)) a 0 h0 eo_S_0 fgX5_55 rfl (by decide +kernel) ?_
  refine aw_b (pc' := 5) (lv' := [(0, .ref a)]) (st' := [.int (-1 : Int32), .int (s 0 14)]) [(4, .iconst (-1), 1, .int (-1 : Int32))] (by decide +kernel) rfl ?_
  refine aw_ic_eq (off := 7) 12 (by decide) (by decide +kernel) (fun hc => ?_) (fun hc => ?_)
  · have hm := (if_pos hc).symm.trans hm
    refine aw_b (pc' := 13) (lv' := [(0, .ref a)]) (st' := [.int (0 : Int32)]) [(12, .iconst 0, 1, .int (0 : Int32))] (by decide +kernel) rfl ?_
    obtain rfl := Option.some.inj hm
    subst hQ
    exact aw_zret rfl (by decide +kernel) (Nat.zero_le _) (Nat.zero_le _) (by decide +kernel) ⟨rfl, hs⟩
  · have hm := (if_neg hc).symm.trans hm
    refine aw_b (pc' := 13) (lv' := [(0, .ref a)]) (st' := [.int (1 : Int32)]) [(8, .iconst 1, 1, .int (1 : Int32)), (9, .goto 4, 3, .null)] (by decide +kernel) rfl ?_
    obtain rfl := Option.some.inj hm
    subst hQ
    exact aw_zret rfl (by decide +kernel) (Nat.zero_le _) (Nat.zero_le _) (by decide +kernel) ⟨rfl, hs⟩
def mX5_hasRule : mt_ := (yX5_hasRule, cX5_hasRule, 2, some .boolean, [], { frames := 0, locals := 0, cells := 0, slots := 0 })
theorem ckX5_hasRule : cokV_ mX5_hasRule := ⟨⟨(uw_mem 1017 (by decide +kernel) (by decide +kernel)), (uw_mem 31 (by decide +kernel) (by decide +kernel)), by decide +kernel, by decide +kernel⟩, (uw_mem 1015 (by decide +kernel) (by decide +kernel)), (uw_mem 1016 (by decide +kernel) (by decide +kernel))⟩
theorem nkX5_hasRule : nok_ mX5_hasRule 1 := by decide +kernel
theorem kX5_hasRule {E : ev_} {H : Heap} {a : Nat} {s : st_} {i0 : Int32} {r : Int32} (hm : fX5_hasRule s i0 = some r) (h0 : has_ E H a ly_S s) : sp_ E mX5_hasRule [.ref a, .int i0] H (po1 (.inl (some (.int r))) (fun Hn => sm_ H Hn 0 0)) := by
  refine sp_of (by decide +kernel) rfl rfl ?_
  generalize hQ : po1 _ _ = Q
  have hs : sm_ H H 0 0 := sm_.rfl'
  unfold fX5_hasRule at hm
  refine aw_lv (lv' := [(0, .ref a), (1, .int i0)]) [0, 1] rfl ?_
  refine aw_b (pc' := 1) (lv' := [(0, .ref a), (1, .int i0)]) (st' := [.int i0]) [(0, .iload_n 1, 1, .null)] (by decide +kernel) rfl ?_
  have J16 : ∀ (H_j16 : Heap), has_ E H_j16 a ly_S s → sm_ H H_j16 0 0 → fX5_hasRule_j16 = some r → aw E mX5_hasRule Q 16 [] [] H_j16 0 0 := by
    intro H_j16 h0 hs hm
    unfold fX5_hasRule_j16 at hm
    refine aw_b (pc' := 17) (lv' := []) (st' := [.int (0 : Int32)]) [(16, .iconst 0, 1, .int (0 : Int32))] (by decide +kernel) rfl ?_
    obtain rfl := Option.some.inj hm
    subst hQ
    exact aw_zret rfl (by decide +kernel) (Nat.zero_le _) (Nat.zero_le _) (by decide +kernel) ⟨rfl, hs⟩
  refine aw_if_lt (off := 15) 16 (by decide) (by decide +kernel) (fun hc => ?_) (fun hc => ?_)
  · have hm := (if_pos hc).symm.trans hm
    refine aw_lv (lv' := []) [] rfl ?_
    exact J16 H h0 hs hm
  · have hm := (if_neg hc).symm.trans hm
    refine aw_b (pc' := 6) (lv' := [(0, .ref a), (1, .int i0)]) (st' := [.ref a, .int i0]) [(4, .iload_n 1, 1, .null), (5, .aload_n 0, 1, .null)] (by decide +kernel) rfl ?_
    refine aw_gl (v := .int (s 0 4)) a 0 h0 eo_S_0 fgX5_34 rfl (by decide +kernel) ?_
    refine aw_ic_ge (off := 7) 16 (by decide) (by decide +kernel) (fun hc => ?_) (fun hc => ?_)
    · have hm := (if_pos hc).symm.trans hm
      refine aw_lv (lv' := []) [] rfl ?_
      exact J16 H h0 hs hm
    · have hm := (if_neg hc).symm.trans hm
      refine aw_b (pc' := 17) (lv' := [(0, .ref a), (1, .int i0)]) (st' := [.int (1 : Int32)]) [(12, .iconst 1, 1, .int (1 : Int32)), (13, .goto 4, 3, .null)] (by decide +kernel) rfl ?_
      obtain rfl := Option.some.inj hm
      subst hQ
      exact aw_zret rfl (by decide +kernel) (Nat.zero_le _) (Nat.zero_le _) (by decide +kernel) ⟨rfl, hs⟩
def mX5_kindOf : mt_ := (yX5_kindOf, cX5_kindOf, 2, some .int, [], { frames := 1, locals := 21, cells := 0, slots := 0 })
theorem ckX5_kindOf : cokV_ mX5_kindOf := ⟨⟨(uw_mem 1115 (by decide +kernel) (by decide +kernel)), (uw_mem 31 (by decide +kernel) (by decide +kernel)), by decide +kernel, by decide +kernel⟩, (uw_mem 1113 (by decide +kernel) (by decide +kernel)), (uw_mem 1114 (by decide +kernel) (by decide +kernel))⟩
theorem nkX5_kindOf : nok_ mX5_kindOf 1 := by decide +kernel
theorem lkX5_80 : Cond.methodLink RX5 80 yX5_hasRule ∈ uw_ := (uw_mem 1116 (by decide +kernel) (by decide +kernel))
theorem kX5_kindOf {E : ev_} {H : Heap} {a : Nat} {s : st_} {i0 : Int32} {r : Int32} (hm : fX5_kindOf s i0 = some r) (h0 : has_ E H a ly_S s) : sp_ E mX5_kindOf [.ref a, .int i0] H (po1 (.inl (some (.int r))) (fun Hn => sm_ H Hn 0 0)) := by
  refine sp_of (by decide +kernel) rfl rfl ?_
  generalize hQ : po1 _ _ = Q
  have hs : sm_ H H 0 0 := sm_.rfl'
  unfold fX5_kindOf at hm
  refine aw_lv (lv' := [(0, .ref a), (1, .int i0)]) [0, 1] rfl ?_
  refine aw_b (pc' := 2) (lv' := [(0, .ref a), (1, .int i0)]) (st' := [.int i0, .ref a]) [(0, .aload_n 0, 1, .null), (1, .iload_n 1, 1, .null)] (by decide +kernel) rfl ?_
  obtain ⟨r1, e2, hm⟩ := bn_x hm
  refine aw_cv (rest := []) (st1 := [.int r1]) a 0 (kX5_hasRule e2 h0) rfl rfl ckX5_hasRule lkX5_80 h0 eo_S_0 ⟨_, _, rfl⟩ nkX5_hasRule rfl rfl rfl (Nat.le_of_ble_eq_true rfl) (Nat.zero_le _) (Nat.zero_le _) (by decide +kernel) (fun H3 z4 => ?_)
  have h0 := h0.kept0 z4
  have hs := hs.step0 z4
  refine aw_if_eq (off := 12) 17 (by decide) (by decide +kernel) (fun hc => ?_) (fun hc => ?_)
  · have hm := (if_pos hc).symm.trans hm
    refine aw_b (pc' := 18) (lv' := [(0, .ref a), (1, .int i0)]) (st' := [.int (0 : Int32)]) [(17, .iconst 0, 1, .int (0 : Int32))] (by decide +kernel) rfl ?_
    obtain rfl := Option.some.inj hm
    subst hQ
    exact aw_iret rfl (Nat.zero_le _) (Nat.zero_le _) (by decide +kernel) ⟨rfl, hs⟩
  · have hm := (if_neg hc).symm.trans hm
    refine aw_b (pc' := 9) (lv' := [(0, .ref a), (1, .int i0)]) (st' := [.ref a]) [(8, .aload_n 0, 1, .null)] (by decide +kernel) rfl ?_
    refine aw_gl (v := .ref (a + 1)) a 0 h0 eo_S_0 fgX5_9 rfl (by decide +kernel) ?_
    refine aw_b (pc' := 13) (lv' := [(0, .ref a), (1, .int i0)]) (st' := [.int i0, .ref (a + 1)]) [(12, .iload_n 1, 1, .null)] (by decide +kernel) rfl ?_
    obtain ⟨g5, hm⟩ := gd_x hm
    refine aw_ial a 1 h0 rfl g5 (by decide +kernel) ?_
    refine aw_b (pc' := 18) (lv' := [(0, .ref a), (1, .int i0)]) (st' := [.int (s 1 (ix_ i0))]) [(14, .goto 4, 3, .null)] (by decide +kernel) rfl ?_
    obtain rfl := Option.some.inj hm
    subst hQ
    exact aw_iret rfl (Nat.zero_le _) (Nat.zero_le _) (by decide +kernel) ⟨rfl, hs⟩
def mX5_widthOf : mt_ := (yX5_widthOf, cX5_widthOf, 2, some .int, [], { frames := 1, locals := 21, cells := 0, slots := 0 })
theorem ckX5_widthOf : cokV_ mX5_widthOf := ⟨⟨(uw_mem 1120 (by decide +kernel) (by decide +kernel)), (uw_mem 31 (by decide +kernel) (by decide +kernel)), by decide +kernel, by decide +kernel⟩, (uw_mem 1118 (by decide +kernel) (by decide +kernel)), (uw_mem 1119 (by decide +kernel) (by decide +kernel))⟩
theorem nkX5_widthOf : nok_ mX5_widthOf 1 := by decide +kernel
theorem kX5_widthOf {E : ev_} {H : Heap} {a : Nat} {s : st_} {i0 : Int32} {r : Int32} (hm : fX5_widthOf s i0 = some r) (h0 : has_ E H a ly_S s) : sp_ E mX5_widthOf [.ref a, .int i0] H (po1 (.inl (some (.int r))) (fun Hn => sm_ H Hn 0 0)) := by
  refine sp_of (by decide +kernel) rfl rfl ?_
  generalize hQ : po1 _ _ = Q
  have hs : sm_ H H 0 0 := sm_.rfl'
  unfold fX5_widthOf at hm
  refine aw_lv (lv' := [(0, .ref a), (1, .int i0)]) [0, 1] rfl ?_
  refine aw_b (pc' := 2) (lv' := [(0, .ref a), (1, .int i0)]) (st' := [.int i0, .ref a]) [(0, .aload_n 0, 1, .null), (1, .iload_n 1, 1, .null)] (by decide +kernel) rfl ?_
  obtain ⟨r1, e2, hm⟩ := bn_x hm
  refine aw_cv (rest := []) (st1 := [.int r1]) a 0 (kX5_hasRule e2 h0) rfl rfl ckX5_hasRule lkX5_80 h0 eo_S_0 ⟨_, _, rfl⟩ nkX5_hasRule rfl rfl rfl (Nat.le_of_ble_eq_true rfl) (Nat.zero_le _) (Nat.zero_le _) (by decide +kernel) (fun H3 z4 => ?_)
  have h0 := h0.kept0 z4
  have hs := hs.step0 z4
  refine aw_if_eq (off := 12) 17 (by decide) (by decide +kernel) (fun hc => ?_) (fun hc => ?_)
  · have hm := (if_pos hc).symm.trans hm
    refine aw_b (pc' := 18) (lv' := [(0, .ref a), (1, .int i0)]) (st' := [.int (-1 : Int32)]) [(17, .iconst (-1), 1, .int (-1 : Int32))] (by decide +kernel) rfl ?_
    obtain rfl := Option.some.inj hm
    subst hQ
    exact aw_iret rfl (Nat.zero_le _) (Nat.zero_le _) (by decide +kernel) ⟨rfl, hs⟩
  · have hm := (if_neg hc).symm.trans hm
    refine aw_b (pc' := 9) (lv' := [(0, .ref a), (1, .int i0)]) (st' := [.ref a]) [(8, .aload_n 0, 1, .null)] (by decide +kernel) rfl ?_
    refine aw_gl (v := .ref (a + 2)) a 0 h0 eo_S_0 fgX5_15 rfl (by decide +kernel) ?_
    refine aw_b (pc' := 13) (lv' := [(0, .ref a), (1, .int i0)]) (st' := [.int i0, .ref (a + 2)]) [(12, .iload_n 1, 1, .null)] (by decide +kernel) rfl ?_
    obtain ⟨g5, hm⟩ := gd_x hm
    refine aw_ial a 2 h0 rfl g5 (by decide +kernel) ?_
    refine aw_b (pc' := 18) (lv' := [(0, .ref a), (1, .int i0)]) (st' := [.int (s 2 (ix_ i0))]) [(14, .goto 4, 3, .null)] (by decide +kernel) rfl ?_
    obtain rfl := Option.some.inj hm
    subst hQ
    exact aw_iret rfl (Nat.zero_le _) (Nat.zero_le _) (by decide +kernel) ⟨rfl, hs⟩
def mX5_askAt : mt_ := (yX5_askAt, cX5_askAt, 2, some .int, [], { frames := 0, locals := 0, cells := 0, slots := 0 })
theorem ckX5_askAt : cokV_ mX5_askAt := ⟨⟨(uw_mem 1078 (by decide +kernel) (by decide +kernel)), (uw_mem 31 (by decide +kernel) (by decide +kernel)), by decide +kernel, by decide +kernel⟩, (uw_mem 1076 (by decide +kernel) (by decide +kernel)), (uw_mem 1077 (by decide +kernel) (by decide +kernel))⟩
theorem nkX5_askAt : nok_ mX5_askAt 1 := by decide +kernel
theorem kX5_askAt {E : ev_} {H : Heap} {a : Nat} {s : st_} {i0 : Int32} {r : Int32} (hm : fX5_askAt s i0 = some r) (h0 : has_ E H a ly_S s) : sp_ E mX5_askAt [.ref a, .int i0] H (po1 (.inl (some (.int r))) (fun Hn => sm_ H Hn 0 0)) := by
  refine sp_of (by decide +kernel) rfl rfl ?_
  generalize hQ : po1 _ _ = Q
  have hs : sm_ H H 0 0 := sm_.rfl'
  unfold fX5_askAt at hm
  refine aw_lv (lv' := [(0, .ref a), (1, .int i0)]) [0, 1] rfl ?_
  refine aw_b (pc' := 1) (lv' := [(0, .ref a), (1, .int i0)]) (st' := [.int i0]) [(0, .iload_n 1, 1, .null)] (by decide +kernel) rfl ?_
  have J21 : ∀ (H_j21 : Heap), has_ E H_j21 a ly_S s → sm_ H H_j21 0 0 → fX5_askAt_j21 = some r → aw E mX5_askAt Q 21 [] [] H_j21 0 0 := by
    intro H_j21 h0 hs hm
    unfold fX5_askAt_j21 at hm
    refine aw_b (pc' := 22) (lv' := []) (st' := [.int (-1 : Int32)]) [(21, .iconst (-1), 1, .int (-1 : Int32))] (by decide +kernel) rfl ?_
    obtain rfl := Option.some.inj hm
    subst hQ
    exact aw_iret rfl (Nat.zero_le _) (Nat.zero_le _) (by decide +kernel) ⟨rfl, hs⟩
  refine aw_if_lt (off := 20) 21 (by decide) (by decide +kernel) (fun hc => ?_) (fun hc => ?_)
  · have hm := (if_pos hc).symm.trans hm
    refine aw_lv (lv' := []) [] rfl ?_
    exact J21 H h0 hs hm
  · have hm := (if_neg hc).symm.trans hm
    refine aw_b (pc' := 6) (lv' := [(0, .ref a), (1, .int i0)]) (st' := [.ref a, .int i0]) [(4, .iload_n 1, 1, .null), (5, .aload_n 0, 1, .null)] (by decide +kernel) rfl ?_
    refine aw_gl (v := .int (s 0 12)) a 0 h0 eo_S_0 fgX5_52 rfl (by decide +kernel) ?_
    refine aw_ic_ge (off := 12) 21 (by decide) (by decide +kernel) (fun hc => ?_) (fun hc => ?_)
    · have hm := (if_pos hc).symm.trans hm
      refine aw_lv (lv' := []) [] rfl ?_
      exact J21 H h0 hs hm
    · have hm := (if_neg hc).symm.trans hm
      refine aw_b (pc' := 13) (lv' := [(0, .ref a), (1, .int i0)]) (st' := [.ref a]) [(12, .aload_n 0, 1, .null)] (by decide +kernel) rfl ?_
      refine aw_gl (v := .ref (a + 3)) a 0 h0 eo_S_0 fgX5_18 rfl (by decide +kernel) ?_
      refine aw_b (pc' := 17) (lv' := [(0, .ref a), (1, .int i0)]) (st' := [.int i0, .ref (a + 3)]) [(16, .iload_n 1, 1, .null)] (by decide +kernel) rfl ?_
      obtain ⟨g1, hm⟩ := gd_x hm
      refine aw_ial a 3 h0 rfl g1 (by decide +kernel) ?_
      refine aw_b (pc' := 22) (lv' := [(0, .ref a), (1, .int i0)]) (st' := [.int (s 3 (ix_ i0))]) [(18, .goto 4, 3, .null)] (by decide +kernel) rfl ?_
      obtain rfl := Option.some.inj hm
      subst hQ
      exact aw_iret rfl (Nat.zero_le _) (Nat.zero_le _) (by decide +kernel) ⟨rfl, hs⟩
def mX5_priceOf : mt_ := (yX5_priceOf, cX5_priceOf, 3, some .int, [], { frames := 0, locals := 0, cells := 0, slots := 0 })
theorem ckX5_priceOf : cokV_ mX5_priceOf := ⟨⟨(uw_mem 1132 (by decide +kernel) (by decide +kernel)), (uw_mem 31 (by decide +kernel) (by decide +kernel)), by decide +kernel, by decide +kernel⟩, (uw_mem 1130 (by decide +kernel) (by decide +kernel)), (uw_mem 1131 (by decide +kernel) (by decide +kernel))⟩
theorem nkX5_priceOf : nok_ mX5_priceOf 2 := by decide +kernel
theorem kX5_priceOf {E : ev_} {H : Heap} {a : Nat} {s : st_} {i0 : Int32} {i1 : Int32} {r : Int32} (hm : fX5_priceOf s i0 i1 = some r) (h0 : has_ E H a ly_S s) : sp_ E mX5_priceOf [.ref a, .int i0, .int i1] H (po1 (.inl (some (.int r))) (fun Hn => sm_ H Hn 0 0)) := by
  refine sp_of (by decide +kernel) rfl rfl ?_
  generalize hQ : po1 _ _ = Q
  have hs : sm_ H H 0 0 := sm_.rfl'
  unfold fX5_priceOf at hm
  refine aw_lv (lv' := [(0, .ref a), (1, .int i0), (2, .int i1)]) [0, 1, 2] rfl ?_
  refine aw_b (pc' := 2) (lv' := [(0, .ref a), (1, .int i0), (2, .int i1)]) (st' := [.int i1, .int i0]) [(0, .iload_n 1, 1, .null), (1, .iload_n 2, 1, .null)] (by decide +kernel) rfl ?_
  refine aw_ic_ne (off := 7) 9 (by decide) (by decide +kernel) (fun hc => ?_) (fun hc => ?_)
  · have hm := (if_neg hc).symm.trans hm
    refine aw_b (pc' := 10) (lv' := [(0, .ref a), (1, .int i0), (2, .int i1)]) (st' := [.ref a]) [(9, .aload_n 0, 1, .null)] (by decide +kernel) rfl ?_
    refine aw_gl (v := .int (s 0 2)) a 0 h0 eo_S_0 fgX5_28 rfl (by decide +kernel) ?_
    refine aw_b (pc' := 14) (lv' := [(0, .ref a), (1, .int i0), (2, .int i1)]) (st' := [.ref a, .int (s 0 2)]) [(13, .aload_n 0, 1, .null)] (by decide +kernel) rfl ?_
    refine aw_gl (v := .int (s 0 3)) a 0 h0 eo_S_0 fgX5_31 rfl (by decide +kernel) ?_
    refine aw_b (pc' := 19) (lv' := [(0, .ref a), (1, .int i0), (2, .int i1)]) (st' := [.int i1, .int i0, .int (s 0 3), .int (s 0 2)]) [(17, .iload_n 1, 1, .null), (18, .iload_n 2, 1, .null)] (by decide +kernel) rfl ?_
    have J31 : ∀ (z2_j31 : Int32) (H_j31 : Heap), has_ E H_j31 a ly_S s → sm_ H H_j31 0 0 → fX5_priceOf_j31 s z2_j31 = some r → aw E mX5_priceOf Q 31 [] [.int z2_j31, .int (s 0 3), .int (s 0 2)] H_j31 0 0 := by
      intro z2_j31 H_j31 h0 hs hm
      unfold fX5_priceOf_j31 at hm
      refine aw_b (pc' := 33) (lv' := []) (st' := [.int ((s 0 2) + ((s 0 3) * z2_j31))]) [(31, .imul, 1, .null), (32, .iadd, 1, .null)] (by decide +kernel) rfl ?_
      obtain rfl := Option.some.inj hm
      subst hQ
      exact aw_iret rfl (Nat.zero_le _) (Nat.zero_le _) (by decide +kernel) ⟨rfl, hs⟩
    refine aw_ic_ge (off := 9) 28 (by decide) (by decide +kernel) (fun hc => ?_) (fun hc => ?_)
    · have hm := (if_pos hc).symm.trans hm
      refine aw_b (pc' := 31) (lv' := [(0, .ref a), (1, .int i0), (2, .int i1)]) (st' := [.int (i0 - i1), .int (s 0 3), .int (s 0 2)]) [(28, .iload_n 1, 1, .null), (29, .iload_n 2, 1, .null), (30, .isub, 1, .null)] (by decide +kernel) rfl ?_
      refine aw_lv (lv' := []) [] rfl ?_
      exact J31 (i0 - i1) H h0 hs hm
    · have hm := (if_neg hc).symm.trans hm
      refine aw_b (pc' := 31) (lv' := [(0, .ref a), (1, .int i0), (2, .int i1)]) (st' := [.int (i1 - i0), .int (s 0 3), .int (s 0 2)]) [(22, .iload_n 2, 1, .null), (23, .iload_n 1, 1, .null), (24, .isub, 1, .null), (25, .goto 6, 3, .null)] (by decide +kernel) rfl ?_
      refine aw_lv (lv' := []) [] rfl ?_
      exact J31 (i1 - i0) H h0 hs hm
  · have hm := (if_pos hc).symm.trans hm
    refine aw_b (pc' := 33) (lv' := [(0, .ref a), (1, .int i0), (2, .int i1)]) (st' := [.int (0 : Int32)]) [(5, .iconst 0, 1, .int (0 : Int32)), (6, .goto 27, 3, .null)] (by decide +kernel) rfl ?_
    obtain rfl := Option.some.inj hm
    subst hQ
    exact aw_iret rfl (Nat.zero_le _) (Nat.zero_le _) (by decide +kernel) ⟨rfl, hs⟩
def mX5_boundBehind : mt_ := (yX5_boundBehind, cX5_boundBehind, 3, some .int, [], { frames := 0, locals := 0, cells := 0, slots := 0 })
theorem ckX5_boundBehind : cokV_ mX5_boundBehind := ⟨⟨(uw_mem 1197 (by decide +kernel) (by decide +kernel)), (uw_mem 31 (by decide +kernel) (by decide +kernel)), by decide +kernel, by decide +kernel⟩, (uw_mem 1195 (by decide +kernel) (by decide +kernel)), (uw_mem 1196 (by decide +kernel) (by decide +kernel))⟩
theorem nkX5_boundBehind : nok_ mX5_boundBehind 1 := by decide +kernel
theorem kwX5_84 : Cond.constant RX5 84 (-2000000000 : Int32) ∈ uw_ := (uw_mem 1198 (by decide +kernel) (by decide +kernel))
theorem kX5_boundBehind {E : ev_} {H : Heap} {a : Nat} {s : st_} {i0 : Int32} {r : Int32} (hm : fX5_boundBehind s i0 = some r) (h0 : has_ E H a ly_S s) : sp_ E mX5_boundBehind [.ref a, .int i0] H (po1 (.inl (some (.int r))) (fun Hn => sm_ H Hn 0 0)) := by
  refine sp_of (by decide +kernel) rfl rfl ?_
  generalize hQ : po1 _ _ = Q
  have hs : sm_ H H 0 0 := sm_.rfl'
  unfold fX5_boundBehind at hm
  refine aw_lv (lv' := [(0, .ref a), (1, .int i0)]) [0, 1] rfl ?_
  refine aw_b (pc' := 1) (lv' := [(0, .ref a), (1, .int i0)]) (st' := [.ref a]) [(0, .aload_n 0, 1, .null)] (by decide +kernel) rfl ?_
  refine aw_gl (v := .int (s 0 17)) a 0 h0 eo_S_0 fgX5_64 rfl (by decide +kernel) ?_
  refine aw_b (pc' := 5) (lv' := [(0, .ref a), (1, .int i0)]) (st' := [.int (-1 : Int32), .int (s 0 17)]) [(4, .iconst (-1), 1, .int (-1 : Int32))] (by decide +kernel) rfl ?_
  refine aw_ic_ne (off := 6) 11 (by decide) (by decide +kernel) (fun hc => ?_) (fun hc => ?_)
  · have hm := (if_neg hc).symm.trans hm
    refine aw_b (pc' := 13) (lv' := [(2, .int (0 : Int32)), (0, .ref a), (1, .int i0)]) (st' := []) [(11, .iconst 0, 1, .int (0 : Int32)), (12, .istore_n 2, 1, .null)] (by decide +kernel) rfl ?_
    obtain ⟨x13, hx13, hr13⟩ := bn_x hm
    have X13_37 : ∀ (v2_x13_37 : Int32) (H_x13_37 : Heap), has_ E H_x13_37 a ly_S s → sm_ H H_x13_37 0 0 → fX5_boundBehind_x13_37 s v2_x13_37 = some r → aw E mX5_boundBehind Q 37 [(0, .ref a), (2, .int v2_x13_37)] [] H_x13_37 0 0 := by
      intro v2_x13_37 H_x13_37 h0 hs hm
      unfold fX5_boundBehind_x13_37 at hm
      refine aw_b (pc' := 38) (lv' := [(0, .ref a), (2, .int v2_x13_37)]) (st' := [.ref a]) [(37, .aload_n 0, 1, .null)] (by decide +kernel) rfl ?_
      refine aw_gl (v := .int (s 0 17)) a 0 h0 eo_S_0 fgX5_64 rfl (by decide +kernel) ?_
      refine aw_b (pc' := 42) (lv' := [(0, .ref a), (2, .int v2_x13_37)]) (st' := [.ref a, .int (s 0 17)]) [(41, .aload_n 0, 1, .null)] (by decide +kernel) rfl ?_
      refine aw_gl (v := .int (s 0 18)) a 0 h0 eo_S_0 fgX5_67 rfl (by decide +kernel) ?_
      refine aw_b (pc' := 48) (lv' := [(0, .ref a), (2, .int v2_x13_37)]) (st' := [.int ((s 0 17) + ((s 0 18) * v2_x13_37))]) [(45, .iload_n 2, 1, .null), (46, .imul, 1, .null), (47, .iadd, 1, .null)] (by decide +kernel) rfl ?_
      obtain rfl := Option.some.inj hm
      subst hQ
      exact aw_iret rfl (Nat.zero_le _) (Nat.zero_le _) (by decide +kernel) ⟨rfl, hs⟩
    have L13 : ∀ (fu : Nat) (v2_b13 : Int32) (H_b13 : Heap), has_ E H_b13 a ly_S s → sm_ H H_b13 0 0 → fX5_boundBehind_l13 i0 fu v2_b13 = some x13 → aw E mX5_boundBehind Q 13 [(0, .ref a), (1, .int i0), (2, .int v2_b13)] [] H_b13 0 0 := by
      intro fu
      induction fu with
      | zero =>
        intro v2_b13 H_b13 h0 hs hm
        exact (it_0 hm).elim
      | succ fu ih13 =>
        intro v2_b13 H_b13 h0 hs hm
        obtain ⟨y13, hm, hk13⟩ := it_s hm
        have hm : fX5_boundBehind_b13 i0 v2_b13 = some y13 := hm
        unfold fX5_boundBehind_b13 at hm
        refine aw_b (pc' := 17) (lv' := [(0, .ref a), (1, .int i0), (2, .int v2_b13)]) (st' := [.int (1000 : Int32), .int v2_b13]) [(13, .iload_n 2, 1, .null), (14, .sipush 1000, 3, .int (1000 : Int32))] (by decide +kernel) rfl ?_
        refine aw_ic_ge (off := 20) 37 (by decide) (by decide +kernel) (fun hc => ?_) (fun hc => ?_)
        · have hm := (if_pos hc).symm.trans hm
          cases hm
          refine aw_lv (lv' := [(0, .ref a), (2, .int v2_b13)]) [0, 2] rfl ?_
          exact X13_37 v2_b13 H_b13 h0 hs ((congrArg (fX5_boundBehind_k13 s) (show (v2_b13) = x13 from hk13)).trans hr13)
        · have hm := (if_neg hc).symm.trans hm
          refine aw_b (pc' := 28) (lv' := [(0, .ref a), (1, .int i0), (2, .int v2_b13)]) (st' := [.int i0, .int ((v2_b13 + (1 : Int32)) * (v2_b13 + (1 : Int32)))]) [(20, .iload_n 2, 1, .null), (21, .iconst 1, 1, .int (1 : Int32)), (22, .iadd, 1, .null), (23, .iload_n 2, 1, .null), (24, .iconst 1, 1, .int (1 : Int32)), (25, .iadd, 1, .null), (26, .imul, 1, .null), (27, .iload_n 1, 1, .null)] (by decide +kernel) rfl ?_
          refine aw_ic_gt (off := 9) 37 (by decide) (by decide +kernel) (fun hc => ?_) (fun hc => ?_)
          · have hm := (if_pos hc).symm.trans hm
            cases hm
            refine aw_lv (lv' := [(0, .ref a), (2, .int v2_b13)]) [0, 2] rfl ?_
            exact X13_37 v2_b13 H_b13 h0 hs ((congrArg (fX5_boundBehind_k13 s) (show (v2_b13) = x13 from hk13)).trans hr13)
          · have hm := (if_neg hc).symm.trans hm
            refine aw_b (pc' := 13) (lv' := [(2, .int (v2_b13 + (1 : Int32))), (0, .ref a), (1, .int i0)]) (st' := []) [(31, .iinc 2 1, 3, .int (1 : Int32)), (34, .goto (-21), 3, .null)] (by decide +kernel) rfl ?_
            cases hm
            refine aw_lv (lv' := [(0, .ref a), (1, .int i0), (2, .int (v2_b13 + (1 : Int32)))]) [1, 2, 0] rfl ?_
            exact ih13 (v2_b13 + (1 : Int32)) H_b13 h0 hs hk13
    refine aw_lv (lv' := [(0, .ref a), (1, .int i0), (2, .int (0 : Int32))]) [1, 2, 0] rfl ?_
    exact L13 FU_ (0 : Int32) H h0 hs hx13
  · have hm := (if_pos hc).symm.trans hm
    refine aw_ldc (v := (-2000000000 : Int32)) kwX5_84 (by decide +kernel) ?_
    obtain rfl := Option.some.inj hm
    subst hQ
    exact aw_iret rfl (Nat.zero_le _) (Nat.zero_le _) (by decide +kernel) ⟨rfl, hs⟩
end
section
/-! mirrors of methods, and that the methods do as they say: printed by wip/whole/gen_parts.py out of the listing -/
def mX0_begin : mt_ := (yX0_begin, cX0_begin, 2, none, [], { frames := 0, locals := 0, cells := 0, slots := 0 })
theorem ckX0_begin : cokV_ mX0_begin := ⟨⟨(uw_mem 455 (by decide +kernel) (by decide +kernel)), (uw_mem 34 (by decide +kernel) (by decide +kernel)), by decide +kernel, by decide +kernel⟩, (uw_mem 453 (by decide +kernel) (by decide +kernel)), (uw_mem 454 (by decide +kernel) (by decide +kernel))⟩
theorem nkX0_begin : nok_ mX0_begin 1 := by decide +kernel
theorem fpX0_18 : fpk_ RX0 18 0 0 .int := ⟨_, _, _, tyX0, rfl, by decide, (uw_mem 221 (by decide +kernel) (by decide +kernel)), wkX0, tyX0_ok, nmX0, rfl, by decide +kernel⟩
theorem eo_A_0 : eo_ ly_A 0 0 fsX0 := rfl
theorem fsq_0_0 : fsp_ fsX0 0 := ⟨fun _ _ => rfl, fun _ _ _ => rfl⟩
theorem fpX0_22 : fpk_ RX0 22 0 1 .boolean := ⟨_, _, _, tyX0, rfl, by decide, (uw_mem 225 (by decide +kernel) (by decide +kernel)), wkX0, tyX0_ok, nmX0, rfl, by decide +kernel⟩
theorem fsq_0_1 : fsp_ fsX0 1 := ⟨fun _ _ => rfl, fun _ _ _ => rfl⟩
theorem fpX0_26 : fpk_ RX0 26 0 2 .int := ⟨_, _, _, tyX0, rfl, by decide, (uw_mem 228 (by decide +kernel) (by decide +kernel)), wkX0, tyX0_ok, nmX0, rfl, by decide +kernel⟩
theorem fsq_0_2 : fsp_ fsX0 2 := ⟨fun _ _ => rfl, fun _ _ _ => rfl⟩
theorem fpX0_29 : fpk_ RX0 29 0 5 .int := ⟨_, _, _, tyX0, rfl, by decide, (uw_mem 236 (by decide +kernel) (by decide +kernel)), wkX0, tyX0_ok, nmX0, rfl, by decide +kernel⟩
theorem fsq_0_5 : fsp_ fsX0 5 := ⟨fun _ _ => rfl, fun _ _ _ => rfl⟩
theorem fpX0_32 : fpk_ RX0 32 0 6 .int := ⟨_, _, _, tyX0, rfl, by decide, (uw_mem 240 (by decide +kernel) (by decide +kernel)), wkX0, tyX0_ok, nmX0, rfl, by decide +kernel⟩
theorem fsq_0_6 : fsp_ fsX0 6 := ⟨fun _ _ => rfl, fun _ _ _ => rfl⟩
theorem fpX0_35 : fpk_ RX0 35 0 7 .int := ⟨_, _, _, tyX0, rfl, by decide, (uw_mem 242 (by decide +kernel) (by decide +kernel)), wkX0, tyX0_ok, nmX0, rfl, by decide +kernel⟩
theorem fsq_0_7 : fsp_ fsX0 7 := ⟨fun _ _ => rfl, fun _ _ _ => rfl⟩
theorem fpX0_38 : fpk_ RX0 38 0 8 .int := ⟨_, _, _, tyX0, rfl, by decide, (uw_mem 244 (by decide +kernel) (by decide +kernel)), wkX0, tyX0_ok, nmX0, rfl, by decide +kernel⟩
theorem fsq_0_8 : fsp_ fsX0 8 := ⟨fun _ _ => rfl, fun _ _ _ => rfl⟩
theorem fpX0_41 : fpk_ RX0 41 0 9 .int := ⟨_, _, _, tyX0, rfl, by decide, (uw_mem 246 (by decide +kernel) (by decide +kernel)), wkX0, tyX0_ok, nmX0, rfl, by decide +kernel⟩
theorem fsq_0_9 : fsp_ fsX0 9 := ⟨fun _ _ => rfl, fun _ _ _ => rfl⟩
theorem fpX0_44 : fpk_ RX0 44 0 10 .int := ⟨_, _, _, tyX0, rfl, by decide, (uw_mem 249 (by decide +kernel) (by decide +kernel)), wkX0, tyX0_ok, nmX0, rfl, by decide +kernel⟩
theorem fsq_0_10 : fsp_ fsX0 10 := ⟨fun _ _ => rfl, fun _ _ _ => rfl⟩
theorem fpX0_47 : fpk_ RX0 47 0 11 .int := ⟨_, _, _, tyX0, rfl, by decide, (uw_mem 251 (by decide +kernel) (by decide +kernel)), wkX0, tyX0_ok, nmX0, rfl, by decide +kernel⟩
theorem fsq_0_11 : fsp_ fsX0 11 := ⟨fun _ _ => rfl, fun _ _ _ => rfl⟩
theorem kX0_begin {E : ev_} {H : Heap} {a : Nat} {s : st_} {i0 : Int32} {r : st_} (hm : fX0_begin s i0 = some r) (h0 : has_ E H a ly_A s) (hf : ev_fr E a) : sp_ E mX0_begin [.ref a, .int i0] H (po1 (.inl (none)) (fun Hn => sm_ H Hn a 3 ∧ has_ E Hn a ly_A r)) := by
  refine sp_of (by decide +kernel) rfl rfl ?_
  generalize hQ : po1 _ _ = Q
  have hs : sm_ H H a 3 := sm_.rfl'
  unfold fX0_begin at hm
  refine aw_lv (lv' := [(0, .ref a), (1, .int i0)]) [0, 1] rfl ?_
  refine aw_b (pc' := 2) (lv' := [(0, .ref a), (1, .int i0)]) (st' := [.int i0, .ref a]) [(0, .aload_n 0, 1, .null), (1, .iload_n 1, 1, .null)] (by decide +kernel) rfl ?_
  obtain ⟨s1, e2, hm⟩ := bd_x hm
  refine aw_pl a 0 h0 eo_A_0 fsq_0_0 fpX0_18 hf rfl rfl e2 (by decide +kernel) (fun H3 h0 z4 => ?_)
  have hs := hs.step z4 (by omega) (by omega)
  refine aw_b (pc' := 7) (lv' := [(0, .ref a), (1, .int i0)]) (st' := [.int (1 : Int32), .ref a]) [(5, .aload_n 0, 1, .null), (6, .iconst 1, 1, .int (1 : Int32))] (by decide +kernel) rfl ?_
  obtain ⟨s5, e6, hm⟩ := bd_x hm
  refine aw_pl a 0 h0 eo_A_0 fsq_0_1 fpX0_22 hf (by decide +kernel) (by decide +kernel) e6 (by decide +kernel) (fun H7 h0 z8 => ?_)
  have hs := hs.step z8 (by omega) (by omega)
  refine aw_b (pc' := 12) (lv' := [(0, .ref a), (1, .int i0)]) (st' := [.int (0 : Int32), .ref a]) [(10, .aload_n 0, 1, .null), (11, .iconst 0, 1, .int (0 : Int32))] (by decide +kernel) rfl ?_
  obtain ⟨s9, e10, hm⟩ := bd_x hm
  refine aw_pl a 0 h0 eo_A_0 fsq_0_2 fpX0_26 hf rfl rfl e10 (by decide +kernel) (fun H11 h0 z12 => ?_)
  have hs := hs.step z12 (by omega) (by omega)
  refine aw_b (pc' := 17) (lv' := [(0, .ref a), (1, .int i0)]) (st' := [.int (0 : Int32), .ref a]) [(15, .aload_n 0, 1, .null), (16, .iconst 0, 1, .int (0 : Int32))] (by decide +kernel) rfl ?_
  obtain ⟨s13, e14, hm⟩ := bd_x hm
  refine aw_pl a 0 h0 eo_A_0 fsq_0_5 fpX0_29 hf rfl rfl e14 (by decide +kernel) (fun H15 h0 z16 => ?_)
  have hs := hs.step z16 (by omega) (by omega)
  refine aw_b (pc' := 22) (lv' := [(0, .ref a), (1, .int i0)]) (st' := [.int (0 : Int32), .ref a]) [(20, .aload_n 0, 1, .null), (21, .iconst 0, 1, .int (0 : Int32))] (by decide +kernel) rfl ?_
  obtain ⟨s17, e18, hm⟩ := bd_x hm
  refine aw_pl a 0 h0 eo_A_0 fsq_0_6 fpX0_32 hf rfl rfl e18 (by decide +kernel) (fun H19 h0 z20 => ?_)
  have hs := hs.step z20 (by omega) (by omega)
  refine aw_b (pc' := 27) (lv' := [(0, .ref a), (1, .int i0)]) (st' := [.int (0 : Int32), .ref a]) [(25, .aload_n 0, 1, .null), (26, .iconst 0, 1, .int (0 : Int32))] (by decide +kernel) rfl ?_
  obtain ⟨s21, e22, hm⟩ := bd_x hm
  refine aw_pl a 0 h0 eo_A_0 fsq_0_7 fpX0_35 hf rfl rfl e22 (by decide +kernel) (fun H23 h0 z24 => ?_)
  have hs := hs.step z24 (by omega) (by omega)
  refine aw_b (pc' := 32) (lv' := [(0, .ref a), (1, .int i0)]) (st' := [.int (0 : Int32), .ref a]) [(30, .aload_n 0, 1, .null), (31, .iconst 0, 1, .int (0 : Int32))] (by decide +kernel) rfl ?_
  obtain ⟨s25, e26, hm⟩ := bd_x hm
  refine aw_pl a 0 h0 eo_A_0 fsq_0_8 fpX0_38 hf rfl rfl e26 (by decide +kernel) (fun H27 h0 z28 => ?_)
  have hs := hs.step z28 (by omega) (by omega)
  refine aw_b (pc' := 37) (lv' := [(0, .ref a), (1, .int i0)]) (st' := [.int (0 : Int32), .ref a]) [(35, .aload_n 0, 1, .null), (36, .iconst 0, 1, .int (0 : Int32))] (by decide +kernel) rfl ?_
  obtain ⟨s29, e30, hm⟩ := bd_x hm
  refine aw_pl a 0 h0 eo_A_0 fsq_0_9 fpX0_41 hf rfl rfl e30 (by decide +kernel) (fun H31 h0 z32 => ?_)
  have hs := hs.step z32 (by omega) (by omega)
  refine aw_b (pc' := 42) (lv' := [(0, .ref a), (1, .int i0)]) (st' := [.int (-1 : Int32), .ref a]) [(40, .aload_n 0, 1, .null), (41, .iconst (-1), 1, .int (-1 : Int32))] (by decide +kernel) rfl ?_
  obtain ⟨s33, e34, hm⟩ := bd_x hm
  refine aw_pl a 0 h0 eo_A_0 fsq_0_10 fpX0_44 hf rfl rfl e34 (by decide +kernel) (fun H35 h0 z36 => ?_)
  have hs := hs.step z36 (by omega) (by omega)
  refine aw_b (pc' := 47) (lv' := [(0, .ref a), (1, .int i0)]) (st' := [.int (-1 : Int32), .ref a]) [(45, .aload_n 0, 1, .null), (46, .iconst (-1), 1, .int (-1 : Int32))] (by decide +kernel) rfl ?_
  obtain ⟨s37, e38, hm⟩ := bd_x hm
  refine aw_pl a 0 h0 eo_A_0 fsq_0_11 fpX0_47 hf rfl rfl e38 (by decide +kernel) (fun H39 h0 z40 => ?_)
  have hs := hs.step z40 (by omega) (by omega)
  obtain rfl := Option.some.inj hm
  subst hQ
  exact aw_vret rfl (Nat.zero_le _) (Nat.zero_le _) (by decide +kernel) ⟨rfl, hs, h0⟩
def mX0_copyFrom : mt_ := (yX0_copyFrom, cX0_copyFrom, 2, none, [], { frames := 1, locals := 48, cells := 0, slots := 0 })
theorem ckX0_copyFrom : cokV_ mX0_copyFrom := ⟨⟨(uw_mem 1387 (by decide +kernel) (by decide +kernel)), (uw_mem 34 (by decide +kernel) (by decide +kernel)), by decide +kernel, by decide +kernel⟩, (uw_mem 1385 (by decide +kernel) (by decide +kernel)), (uw_mem 1386 (by decide +kernel) (by decide +kernel))⟩
theorem nkX0_copyFrom : nok_ mX0_copyFrom 1 := by decide +kernel
theorem fgX0_18 : fok_ RX0 18 0 0 := ⟨_, _, _, rfl, by decide, (uw_mem 221 (by decide +kernel) (by decide +kernel)), wkX0⟩
theorem fgX0_22 : fok_ RX0 22 0 1 := ⟨_, _, _, rfl, by decide, (uw_mem 225 (by decide +kernel) (by decide +kernel)), wkX0⟩
theorem fgX0_26 : fok_ RX0 26 0 2 := ⟨_, _, _, rfl, by decide, (uw_mem 228 (by decide +kernel) (by decide +kernel)), wkX0⟩
theorem fgX0_9 : fok_ RX0 9 0 3 := ⟨_, _, _, rfl, by decide, (uw_mem 231 (by decide +kernel) (by decide +kernel)), wkX0⟩
theorem cpX0_50 : al_ RX0 50 := ⟨(uw_mem 1388 (by decide +kernel) (by decide +kernel)), (uw_mem 451 (by decide +kernel) (by decide +kernel)), (uw_mem 450 (by decide +kernel) (by decide +kernel)), (uw_mem 37 (by decide +kernel) (by decide +kernel))⟩
theorem fgX0_15 : fok_ RX0 15 0 4 := ⟨_, _, _, rfl, by decide, (uw_mem 234 (by decide +kernel) (by decide +kernel)), wkX0⟩
theorem fgX0_29 : fok_ RX0 29 0 5 := ⟨_, _, _, rfl, by decide, (uw_mem 236 (by decide +kernel) (by decide +kernel)), wkX0⟩
theorem fgX0_32 : fok_ RX0 32 0 6 := ⟨_, _, _, rfl, by decide, (uw_mem 240 (by decide +kernel) (by decide +kernel)), wkX0⟩
theorem fgX0_35 : fok_ RX0 35 0 7 := ⟨_, _, _, rfl, by decide, (uw_mem 242 (by decide +kernel) (by decide +kernel)), wkX0⟩
theorem fgX0_38 : fok_ RX0 38 0 8 := ⟨_, _, _, rfl, by decide, (uw_mem 244 (by decide +kernel) (by decide +kernel)), wkX0⟩
theorem fgX0_41 : fok_ RX0 41 0 9 := ⟨_, _, _, rfl, by decide, (uw_mem 246 (by decide +kernel) (by decide +kernel)), wkX0⟩
theorem fgX0_44 : fok_ RX0 44 0 10 := ⟨_, _, _, rfl, by decide, (uw_mem 249 (by decide +kernel) (by decide +kernel)), wkX0⟩
theorem fgX0_47 : fok_ RX0 47 0 11 := ⟨_, _, _, rfl, by decide, (uw_mem 251 (by decide +kernel) (by decide +kernel)), wkX0⟩
theorem kX0_copyFrom {E : ev_} {H : Heap} {a b : Nat} {s : st_} {t : st_} {r : st_} (hm : fX0_copyFrom s t = some r) (h0 : has_ E H a ly_A s) (h1 : has_ E H b ly_A t) (hf : ev_fr E a) (d1 : a + 3 ≤ b ∨ b + 3 ≤ a) : sp_ E mX0_copyFrom [.ref a, .ref b] H (po1 (.inl (none)) (fun Hn => sm_ H Hn a 3 ∧ has_ E Hn a ly_A r)) := by
  refine sp_of (by decide +kernel) rfl rfl ?_
  generalize hQ : po1 _ _ = Q
  have hs : sm_ H H a 3 := sm_.rfl'
  unfold fX0_copyFrom at hm
  refine aw_lv (lv' := [(0, .ref a), (1, .ref b)]) [0, 1] rfl ?_
  refine aw_b (pc' := 2) (lv' := [(0, .ref a), (1, .ref b)]) (st' := [.ref b, .ref a]) [(0, .aload_n 0, 1, .null), (1, .aload_n 1, 1, .null)] (by decide +kernel) rfl ?_
  refine aw_gl (v := .int (t 0 0)) b 0 h1 eo_A_0 fgX0_18 rfl (by decide +kernel) ?_
  obtain ⟨s1, e2, hm⟩ := bd_x hm
  refine aw_pl a 0 h0 eo_A_0 fsq_0_0 fpX0_18 hf rfl rfl e2 (by decide +kernel) (fun H3 h0 z4 => ?_)
  have h1 := h1.kept (n := 3) z4 rfl (by omega)
  have hs := hs.step z4 (by omega) (by omega)
  refine aw_b (pc' := 10) (lv' := [(0, .ref a), (1, .ref b)]) (st' := [.ref b, .ref a]) [(8, .aload_n 0, 1, .null), (9, .aload_n 1, 1, .null)] (by decide +kernel) rfl ?_
  refine aw_gl (v := .int (t 0 1)) b 0 h1 eo_A_0 fgX0_22 rfl (by decide +kernel) ?_
  obtain ⟨g8, hm⟩ := gd_x hm
  obtain ⟨s5, e6, hm⟩ := bd_x hm
  refine aw_pl a 0 h0 eo_A_0 fsq_0_1 fpX0_22 hf (bz_n g8) (bz_f g8) e6 (by decide +kernel) (fun H7 h0 z9 => ?_)
  have h1 := h1.kept (n := 3) z9 rfl (by omega)
  have hs := hs.step z9 (by omega) (by omega)
  refine aw_b (pc' := 18) (lv' := [(0, .ref a), (1, .ref b)]) (st' := [.ref b, .ref a]) [(16, .aload_n 0, 1, .null), (17, .aload_n 1, 1, .null)] (by decide +kernel) rfl ?_
  refine aw_gl (v := .int (t 0 2)) b 0 h1 eo_A_0 fgX0_26 rfl (by decide +kernel) ?_
  obtain ⟨s10, e11, hm⟩ := bd_x hm
  refine aw_pl a 0 h0 eo_A_0 fsq_0_2 fpX0_26 hf rfl rfl e11 (by decide +kernel) (fun H12 h0 z13 => ?_)
  have h1 := h1.kept (n := 3) z13 rfl (by omega)
  have hs := hs.step z13 (by omega) (by omega)
  refine aw_b (pc' := 25) (lv' := [(0, .ref a), (1, .ref b)]) (st' := [.ref b]) [(24, .aload_n 1, 1, .null)] (by decide +kernel) rfl ?_
  refine aw_gl (v := .ref (b + 1)) b 0 h1 eo_A_0 fgX0_9 rfl (by decide +kernel) ?_
  refine aw_b (pc' := 30) (lv' := [(0, .ref a), (1, .ref b)]) (st' := [.ref a, .int (0 : Int32), .ref (b + 1)]) [(28, .iconst 0, 1, .int (0 : Int32)), (29, .aload_n 0, 1, .null)] (by decide +kernel) rfl ?_
  refine aw_gl (v := .ref (a + 1)) a 0 h0 eo_A_0 fgX0_9 rfl (by decide +kernel) ?_
  refine aw_b (pc' := 35) (lv' := [(0, .ref a), (1, .ref b)]) (st' := [.ref a, .int (0 : Int32), .ref (a + 1), .int (0 : Int32), .ref (b + 1)]) [(33, .iconst 0, 1, .int (0 : Int32)), (34, .aload_n 0, 1, .null)] (by decide +kernel) rfl ?_
  refine aw_gl (v := .ref (a + 1)) a 0 h0 eo_A_0 fgX0_9 rfl (by decide +kernel) ?_
  refine aw_all (ci := 0) (N := 20) (v := (20 : Int32)) a 1 h0 rfl (x := fun _ _ c => .inl c) (fun _ _ => rfl) rfl (by decide +kernel) (by decide +kernel) ?_
  obtain ⟨s14, e15, hm⟩ := bd_x hm
  refine aw_cpl (rest := []) b 1 a 1 h0 rfl h1 rfl cpX0_50 hf (by decide) (by decide +kernel) e15 rfl (Nat.le_of_ble_eq_true rfl) (by decide +kernel) (fun H16 h0 z17 => ?_)
  have h1 := h1.kept (n := 3) z17 rfl (by omega)
  have hs := hs.step z17 (by omega) (by omega)
  refine aw_b (pc' := 43) (lv' := [(0, .ref a), (1, .ref b)]) (st' := [.ref b]) [(42, .aload_n 1, 1, .null)] (by decide +kernel) rfl ?_
  refine aw_gl (v := .ref (b + 2)) b 0 h1 eo_A_0 fgX0_15 rfl (by decide +kernel) ?_
  refine aw_b (pc' := 48) (lv' := [(0, .ref a), (1, .ref b)]) (st' := [.ref a, .int (0 : Int32), .ref (b + 2)]) [(46, .iconst 0, 1, .int (0 : Int32)), (47, .aload_n 0, 1, .null)] (by decide +kernel) rfl ?_
  refine aw_gl (v := .ref (a + 2)) a 0 h0 eo_A_0 fgX0_15 rfl (by decide +kernel) ?_
  refine aw_b (pc' := 53) (lv' := [(0, .ref a), (1, .ref b)]) (st' := [.ref a, .int (0 : Int32), .ref (a + 2), .int (0 : Int32), .ref (b + 2)]) [(51, .iconst 0, 1, .int (0 : Int32)), (52, .aload_n 0, 1, .null)] (by decide +kernel) rfl ?_
  refine aw_gl (v := .ref (a + 2)) a 0 h0 eo_A_0 fgX0_15 rfl (by decide +kernel) ?_
  refine aw_all (ci := 0) (N := 20) (v := (20 : Int32)) a 2 h0 rfl (x := fun _ _ c => .inl c) (fun _ _ => rfl) rfl (by decide +kernel) (by decide +kernel) ?_
  obtain ⟨s18, e19, hm⟩ := bd_x hm
  refine aw_cpl (rest := []) b 2 a 2 h0 rfl h1 rfl cpX0_50 hf (by decide) (by decide +kernel) e19 rfl (Nat.le_of_ble_eq_true rfl) (by decide +kernel) (fun H20 h0 z21 => ?_)
  have h1 := h1.kept (n := 3) z21 rfl (by omega)
  have hs := hs.step z21 (by omega) (by omega)
  refine aw_b (pc' := 62) (lv' := [(0, .ref a), (1, .ref b)]) (st' := [.ref b, .ref a]) [(60, .aload_n 0, 1, .null), (61, .aload_n 1, 1, .null)] (by decide +kernel) rfl ?_
  refine aw_gl (v := .int (t 0 5)) b 0 h1 eo_A_0 fgX0_29 rfl (by decide +kernel) ?_
  obtain ⟨s22, e23, hm⟩ := bd_x hm
  refine aw_pl a 0 h0 eo_A_0 fsq_0_5 fpX0_29 hf rfl rfl e23 (by decide +kernel) (fun H24 h0 z25 => ?_)
  have h1 := h1.kept (n := 3) z25 rfl (by omega)
  have hs := hs.step z25 (by omega) (by omega)
  refine aw_b (pc' := 70) (lv' := [(0, .ref a), (1, .ref b)]) (st' := [.ref b, .ref a]) [(68, .aload_n 0, 1, .null), (69, .aload_n 1, 1, .null)] (by decide +kernel) rfl ?_
  refine aw_gl (v := .int (t 0 6)) b 0 h1 eo_A_0 fgX0_32 rfl (by decide +kernel) ?_
  obtain ⟨s26, e27, hm⟩ := bd_x hm
  refine aw_pl a 0 h0 eo_A_0 fsq_0_6 fpX0_32 hf rfl rfl e27 (by decide +kernel) (fun H28 h0 z29 => ?_)
  have h1 := h1.kept (n := 3) z29 rfl (by omega)
  have hs := hs.step z29 (by omega) (by omega)
  refine aw_b (pc' := 78) (lv' := [(0, .ref a), (1, .ref b)]) (st' := [.ref b, .ref a]) [(76, .aload_n 0, 1, .null), (77, .aload_n 1, 1, .null)] (by decide +kernel) rfl ?_
  refine aw_gl (v := .int (t 0 7)) b 0 h1 eo_A_0 fgX0_35 rfl (by decide +kernel) ?_
  obtain ⟨s30, e31, hm⟩ := bd_x hm
  refine aw_pl a 0 h0 eo_A_0 fsq_0_7 fpX0_35 hf rfl rfl e31 (by decide +kernel) (fun H32 h0 z33 => ?_)
  have h1 := h1.kept (n := 3) z33 rfl (by omega)
  have hs := hs.step z33 (by omega) (by omega)
  refine aw_b (pc' := 86) (lv' := [(0, .ref a), (1, .ref b)]) (st' := [.ref b, .ref a]) [(84, .aload_n 0, 1, .null), (85, .aload_n 1, 1, .null)] (by decide +kernel) rfl ?_
  refine aw_gl (v := .int (t 0 8)) b 0 h1 eo_A_0 fgX0_38 rfl (by decide +kernel) ?_
  obtain ⟨s34, e35, hm⟩ := bd_x hm
  refine aw_pl a 0 h0 eo_A_0 fsq_0_8 fpX0_38 hf rfl rfl e35 (by decide +kernel) (fun H36 h0 z37 => ?_)
  have h1 := h1.kept (n := 3) z37 rfl (by omega)
  have hs := hs.step z37 (by omega) (by omega)
  refine aw_b (pc' := 94) (lv' := [(0, .ref a), (1, .ref b)]) (st' := [.ref b, .ref a]) [(92, .aload_n 0, 1, .null), (93, .aload_n 1, 1, .null)] (by decide +kernel) rfl ?_
  refine aw_gl (v := .int (t 0 9)) b 0 h1 eo_A_0 fgX0_41 rfl (by decide +kernel) ?_
  obtain ⟨s38, e39, hm⟩ := bd_x hm
  refine aw_pl a 0 h0 eo_A_0 fsq_0_9 fpX0_41 hf rfl rfl e39 (by decide +kernel) (fun H40 h0 z41 => ?_)
  have h1 := h1.kept (n := 3) z41 rfl (by omega)
  have hs := hs.step z41 (by omega) (by omega)
  refine aw_b (pc' := 102) (lv' := [(0, .ref a), (1, .ref b)]) (st' := [.ref b, .ref a]) [(100, .aload_n 0, 1, .null), (101, .aload_n 1, 1, .null)] (by decide +kernel) rfl ?_
  refine aw_gl (v := .int (t 0 10)) b 0 h1 eo_A_0 fgX0_44 rfl (by decide +kernel) ?_
  obtain ⟨s42, e43, hm⟩ := bd_x hm
  refine aw_pl a 0 h0 eo_A_0 fsq_0_10 fpX0_44 hf rfl rfl e43 (by decide +kernel) (fun H44 h0 z45 => ?_)
  have h1 := h1.kept (n := 3) z45 rfl (by omega)
  have hs := hs.step z45 (by omega) (by omega)
  refine aw_b (pc' := 110) (lv' := [(0, .ref a), (1, .ref b)]) (st' := [.ref b, .ref a]) [(108, .aload_n 0, 1, .null), (109, .aload_n 1, 1, .null)] (by decide +kernel) rfl ?_
  refine aw_gl (v := .int (t 0 11)) b 0 h1 eo_A_0 fgX0_47 rfl (by decide +kernel) ?_
  obtain ⟨s46, e47, hm⟩ := bd_x hm
  refine aw_pl a 0 h0 eo_A_0 fsq_0_11 fpX0_47 hf rfl rfl e47 (by decide +kernel) (fun H48 h0 z49 => ?_)
  have h1 := h1.kept (n := 3) z49 rfl (by omega)
  have hs := hs.step z49 (by omega) (by omega)
  obtain rfl := Option.some.inj hm
  subst hQ
  exact aw_vret rfl (Nat.zero_le _) (Nat.zero_le _) (by decide +kernel) ⟨rfl, hs, h0⟩
def mX0_receive : mt_ := (yX0_receive, cX0_receive, 3, none, [], { frames := 0, locals := 0, cells := 0, slots := 0 })
theorem ckX0_receive : cokV_ mX0_receive := ⟨⟨(uw_mem 997 (by decide +kernel) (by decide +kernel)), (uw_mem 34 (by decide +kernel) (by decide +kernel)), by decide +kernel, by decide +kernel⟩, (uw_mem 995 (by decide +kernel) (by decide +kernel)), (uw_mem 996 (by decide +kernel) (by decide +kernel))⟩
theorem nkX0_receive : nok_ mX0_receive 2 := by decide +kernel
theorem kX0_receive {E : ev_} {H : Heap} {a : Nat} {s : st_} {i0 : Int32} {i1 : Int32} {r : st_} (hm : fX0_receive s i0 i1 = some r) (h0 : has_ E H a ly_A s) (hf : ev_fr E a) : sp_ E mX0_receive [.ref a, .int i0, .int i1] H (po1 (.inl (none)) (fun Hn => sm_ H Hn a 3 ∧ has_ E Hn a ly_A r)) := by
  refine sp_of (by decide +kernel) rfl rfl ?_
  generalize hQ : po1 _ _ = Q
  have hs : sm_ H H a 3 := sm_.rfl'
  unfold fX0_receive at hm
  refine aw_lv (lv' := [(0, .ref a), (1, .int i0), (2, .int i1)]) [0, 1, 2] rfl ?_
  refine aw_b (pc' := 1) (lv' := [(0, .ref a), (1, .int i0), (2, .int i1)]) (st' := [.ref a]) [(0, .aload_n 0, 1, .null)] (by decide +kernel) rfl ?_
  refine aw_gl (v := .int (s 0 2)) a 0 h0 eo_A_0 fgX0_26 rfl (by decide +kernel) ?_
  refine aw_b (pc' := 6) (lv' := [(0, .ref a), (1, .int i0), (2, .int i1)]) (st' := [.int (20 : Int32), .int (s 0 2)]) [(4, .bipush 20, 2, .int (20 : Int32))] (by decide +kernel) rfl ?_
  refine aw_ic_ge (off := 33) 39 (by decide) (by decide +kernel) (fun hc => ?_) (fun hc => ?_)
  · have hm := (if_pos hc).symm.trans hm
    obtain rfl := Option.some.inj hm
    subst hQ
    exact aw_vret rfl (Nat.zero_le _) (Nat.zero_le _) (by decide +kernel) ⟨rfl, hs, h0⟩
  · have hm := (if_neg hc).symm.trans hm
    refine aw_b (pc' := 10) (lv' := [(0, .ref a), (1, .int i0), (2, .int i1)]) (st' := [.ref a]) [(9, .aload_n 0, 1, .null)] (by decide +kernel) rfl ?_
    refine aw_gl (v := .ref (a + 1)) a 0 h0 eo_A_0 fgX0_9 rfl (by decide +kernel) ?_
    refine aw_b (pc' := 14) (lv' := [(0, .ref a), (1, .int i0), (2, .int i1)]) (st' := [.ref a, .ref (a + 1)]) [(13, .aload_n 0, 1, .null)] (by decide +kernel) rfl ?_
    refine aw_gl (v := .int (s 0 2)) a 0 h0 eo_A_0 fgX0_26 rfl (by decide +kernel) ?_
    refine aw_b (pc' := 18) (lv' := [(0, .ref a), (1, .int i0), (2, .int i1)]) (st' := [.int i0, .int (s 0 2), .ref (a + 1)]) [(17, .iload_n 1, 1, .null)] (by decide +kernel) rfl ?_
    obtain ⟨g1, hm⟩ := gd_x hm
    obtain ⟨s2, e3, hm⟩ := bd_x hm
    refine aw_isl a 1 h0 rfl hf g1 e3 (by decide +kernel) (fun H4 h0 z5 => ?_)
    have hs := hs.step z5 (by omega) (by omega)
    refine aw_b (pc' := 20) (lv' := [(0, .ref a), (1, .int i0), (2, .int i1)]) (st' := [.ref a]) [(19, .aload_n 0, 1, .null)] (by decide +kernel) rfl ?_
    refine aw_gl (v := .ref (a + 2)) a 0 h0 eo_A_0 fgX0_15 rfl (by decide +kernel) ?_
    refine aw_b (pc' := 24) (lv' := [(0, .ref a), (1, .int i0), (2, .int i1)]) (st' := [.ref a, .ref (a + 2)]) [(23, .aload_n 0, 1, .null)] (by decide +kernel) rfl ?_
    refine aw_gl (v := .int (s2 0 2)) a 0 h0 eo_A_0 fgX0_26 rfl (by decide +kernel) ?_
    refine aw_b (pc' := 28) (lv' := [(0, .ref a), (1, .int i0), (2, .int i1)]) (st' := [.int i1, .int (s2 0 2), .ref (a + 2)]) [(27, .iload_n 2, 1, .null)] (by decide +kernel) rfl ?_
    obtain ⟨g6, hm⟩ := gd_x hm
    obtain ⟨s7, e8, hm⟩ := bd_x hm
    refine aw_isl a 2 h0 rfl hf g6 e8 (by decide +kernel) (fun H9 h0 z10 => ?_)
    have hs := hs.step z10 (by omega) (by omega)
    refine aw_b (pc' := 31) (lv' := [(0, .ref a), (1, .int i0), (2, .int i1)]) (st' := [.ref a, .ref a]) [(29, .aload_n 0, 1, .null), (30, .dup, 1, .null)] (by decide +kernel) rfl ?_
    refine aw_gl (v := .int (s7 0 2)) a 0 h0 eo_A_0 fgX0_26 rfl (by decide +kernel) ?_
    refine aw_b (pc' := 36) (lv' := [(0, .ref a), (1, .int i0), (2, .int i1)]) (st' := [.int ((s7 0 2) + (1 : Int32)), .ref a]) [(34, .iconst 1, 1, .int (1 : Int32)), (35, .iadd, 1, .null)] (by decide +kernel) rfl ?_
    obtain ⟨s11, e12, hm⟩ := bd_x hm
    refine aw_pl a 0 h0 eo_A_0 fsq_0_2 fpX0_26 hf rfl rfl e12 (by decide +kernel) (fun H13 h0 z14 => ?_)
    have hs := hs.step z14 (by omega) (by omega)
    obtain rfl := Option.some.inj hm
    subst hQ
    exact aw_vret rfl (Nat.zero_le _) (Nat.zero_le _) (by decide +kernel) ⟨rfl, hs, h0⟩
def mX0_rankOf : mt_ := (yX0_rankOf, cX0_rankOf, 6, some .int, [], { frames := 0, locals := 0, cells := 0, slots := 0 })
theorem ckX0_rankOf : cokV_ mX0_rankOf := ⟨⟨(uw_mem 1128 (by decide +kernel) (by decide +kernel)), (uw_mem 34 (by decide +kernel) (by decide +kernel)), by decide +kernel, by decide +kernel⟩, (uw_mem 1126 (by decide +kernel) (by decide +kernel)), (uw_mem 1127 (by decide +kernel) (by decide +kernel))⟩
theorem nkX0_rankOf : nok_ mX0_rankOf 3 := by decide +kernel
theorem kX0_rankOf {E : ev_} {H : Heap} {a : Nat} {s : st_} {i0 : Int32} {i1 : Int32} {i2 : Int32} {r : Int32} (hm : fX0_rankOf s i0 i1 i2 = some r) (h0 : has_ E H a ly_A s) : sp_ E mX0_rankOf [.ref a, .int i0, .int i1, .int i2] H (po1 (.inl (some (.int r))) (fun Hn => sm_ H Hn 0 0)) := by
  refine sp_of (by decide +kernel) rfl rfl ?_
  generalize hQ : po1 _ _ = Q
  have hs : sm_ H H 0 0 := sm_.rfl'
  unfold fX0_rankOf at hm
  refine aw_lv (lv' := [(0, .ref a), (1, .int i0), (2, .int i1), (3, .int i2)]) [0, 1, 2, 3] rfl ?_
  refine aw_b (pc' := 2) (lv' := [(0, .ref a), (1, .int i0), (2, .int i1), (3, .int i2)]) (st' := [.ref a, .int i2]) [(0, .iload_n 3, 1, .null), (1, .aload_n 0, 1, .null)] (by decide +kernel) rfl ?_
  refine aw_gl (v := .int (s 0 0)) a 0 h0 eo_A_0 fgX0_18 rfl (by decide +kernel) ?_
  refine aw_b (pc' := 10) (lv' := [(4, .int (i2 - (s 0 0))), (0, .ref a), (1, .int i0), (2, .int i1), (3, .int i2)]) (st' := [.int (i2 - (s 0 0))]) [(5, .isub, 1, .null), (6, .istore 4, 2, .null), (8, .iload 4, 2, .null)] (by decide +kernel) rfl ?_
  have J21 : ∀ (z0_j21 : Int32) (H_j21 : Heap), has_ E H_j21 a ly_A s → sm_ H H_j21 0 0 → fX0_rankOf_j21 s i0 i1 i2 z0_j21 = some r → aw E mX0_rankOf Q 21 [(0, .ref a), (1, .int i0), (2, .int i1), (3, .int i2), (4, .int (i2 - (s 0 0)))] [.int z0_j21] H_j21 0 0 := by
    intro z0_j21 H_j21 h0 hs hm
    unfold fX0_rankOf_j21 at hm
    refine aw_b (pc' := 24) (lv' := [(5, .int z0_j21), (0, .ref a), (1, .int i0), (2, .int i1), (3, .int i2), (4, .int (i2 - (s 0 0)))]) (st' := [.int i0]) [(21, .istore 5, 2, .null), (23, .iload_n 1, 1, .null)] (by decide +kernel) rfl ?_
    refine aw_ts [((1 : Int32), 56), ((2 : Int32), 72), ((3 : Int32), 103), ((4 : Int32), 119)] 133 (by decide +kernel) ?_
    refine aw_tg (fun hc => ?_) (fun hc => ?_)
    · have hm := (if_pos hc).symm.trans hm
      refine aw_b (pc' := 62) (lv' := [(5, .int z0_j21), (0, .ref a), (1, .int i0), (2, .int i1), (3, .int i2), (4, .int (i2 - (s 0 0)))]) (st' := [.int (i2 - (s 0 0)), .int ((2 : Int32) * z0_j21)]) [(56, .iconst 2, 1, .int (2 : Int32)), (57, .iload 5, 2, .null), (59, .imul, 1, .null), (60, .iload 4, 2, .null)] (by decide +kernel) rfl ?_
      refine aw_if_le (off := 7) 69 (by decide) (by decide +kernel) (fun hc => ?_) (fun hc => ?_)
      · have hm := (if_pos hc).symm.trans hm
        refine aw_b (pc' := 71) (lv' := [(5, .int z0_j21), (0, .ref a), (1, .int i0), (2, .int i1), (3, .int i2), (4, .int (i2 - (s 0 0)))]) (st' := [.int (((2 : Int32) * z0_j21) + (0 : Int32))]) [(69, .iconst 0, 1, .int (0 : Int32)), (70, .iadd, 1, .null)] (by decide +kernel) rfl ?_
        obtain rfl := Option.some.inj hm
        subst hQ
        exact aw_iret rfl (Nat.zero_le _) (Nat.zero_le _) (by decide +kernel) ⟨rfl, hs⟩
      · have hm := (if_neg hc).symm.trans hm
        refine aw_b (pc' := 70) (lv' := [(5, .int z0_j21), (0, .ref a), (1, .int i0), (2, .int i1), (3, .int i2), (4, .int (i2 - (s 0 0)))]) (st' := [.int (1 : Int32), .int ((2 : Int32) * z0_j21)]) [(65, .iconst 1, 1, .int (1 : Int32)), (66, .goto 4, 3, .null)] (by decide +kernel) rfl ?_
        refine aw_b (pc' := 71) (lv' := [(5, .int z0_j21), (0, .ref a), (1, .int i0), (2, .int i1), (3, .int i2), (4, .int (i2 - (s 0 0)))]) (st' := [.int (((2 : Int32) * z0_j21) + (1 : Int32))]) [(70, .iadd, 1, .null)] (by decide +kernel) rfl ?_
        obtain rfl := Option.some.inj hm
        subst hQ
        exact aw_iret rfl (Nat.zero_le _) (Nat.zero_le _) (by decide +kernel) ⟨rfl, hs⟩
    · have hm := (if_neg hc).symm.trans hm
      refine aw_tg (fun hc => ?_) (fun hc => ?_)
      · have hm := (if_pos hc).symm.trans hm
        refine aw_b (pc' := 75) (lv' := [(5, .int z0_j21), (0, .ref a), (1, .int i0), (2, .int i1), (3, .int i2), (4, .int (i2 - (s 0 0)))]) (st' := [.ref a, .int z0_j21]) [(72, .iload 5, 2, .null), (74, .aload_n 0, 1, .null)] (by decide +kernel) rfl ?_
        refine aw_gl (v := .int (s 0 1)) a 0 h0 eo_A_0 fgX0_22 rfl (by decide +kernel) ?_
        have J98 : ∀ (H_j98 : Heap), has_ E H_j98 a ly_A s → sm_ H H_j98 0 0 → fX0_rankOf_j98 z0_j21 = some r → aw E mX0_rankOf Q 98 [] [.int z0_j21] H_j98 0 0 := by
          intro H_j98 h0 hs hm
          unfold fX0_rankOf_j98 at hm
          refine aw_b (pc' := 102) (lv' := []) (st' := [.int (z0_j21 + (1000 : Int32))]) [(98, .sipush 1000, 3, .int (1000 : Int32)), (101, .iadd, 1, .null)] (by decide +kernel) rfl ?_
          obtain rfl := Option.some.inj hm
          subst hQ
          exact aw_iret rfl (Nat.zero_le _) (Nat.zero_le _) (by decide +kernel) ⟨rfl, hs⟩
        have J94 : ∀ (H_j94 : Heap), has_ E H_j94 a ly_A s → sm_ H H_j94 0 0 → fX0_rankOf_j94 z0_j21 = some r → aw E mX0_rankOf Q 94 [] [.int z0_j21] H_j94 0 0 := by
          intro H_j94 h0 hs hm
          unfold fX0_rankOf_j94 at hm
          refine aw_b (pc' := 101) (lv' := []) (st' := [.int (0 : Int32), .int z0_j21]) [(94, .iconst 0, 1, .int (0 : Int32)), (95, .goto 6, 3, .null)] (by decide +kernel) rfl ?_
          refine aw_b (pc' := 102) (lv' := []) (st' := [.int (z0_j21 + (0 : Int32))]) [(101, .iadd, 1, .null)] (by decide +kernel) rfl ?_
          obtain rfl := Option.some.inj hm
          subst hQ
          exact aw_iret rfl (Nat.zero_le _) (Nat.zero_le _) (by decide +kernel) ⟨rfl, hs⟩
        refine aw_if_eq (off := 11) 89 (by decide) (by decide +kernel) (fun hc => ?_) (fun hc => ?_)
        · have hm := (if_pos hc).symm.trans hm
          refine aw_b (pc' := 91) (lv' := [(5, .int z0_j21), (0, .ref a), (1, .int i0), (2, .int i1), (3, .int i2), (4, .int (i2 - (s 0 0)))]) (st' := [.int (i2 - (s 0 0)), .int z0_j21]) [(89, .iload 4, 2, .null)] (by decide +kernel) rfl ?_
          refine aw_if_gt (off := 7) 98 (by decide) (by decide +kernel) (fun hc => ?_) (fun hc => ?_)
          · have hm := (if_pos hc).symm.trans hm
            refine aw_lv (lv' := []) [] rfl ?_
            exact J98 H_j21 h0 hs hm
          · have hm := (if_neg hc).symm.trans hm
            refine aw_lv (lv' := []) [] rfl ?_
            exact J94 H_j21 h0 hs hm
        · have hm := (if_neg hc).symm.trans hm
          refine aw_b (pc' := 83) (lv' := [(5, .int z0_j21), (0, .ref a), (1, .int i0), (2, .int i1), (3, .int i2), (4, .int (i2 - (s 0 0)))]) (st' := [.int (i2 - (s 0 0)), .int z0_j21]) [(81, .iload 4, 2, .null)] (by decide +kernel) rfl ?_
          refine aw_if_lt (off := 15) 98 (by decide) (by decide +kernel) (fun hc => ?_) (fun hc => ?_)
          · have hm := (if_pos hc).symm.trans hm
            refine aw_lv (lv' := []) [] rfl ?_
            exact J98 H_j21 h0 hs hm
          · have hm := (if_neg hc).symm.trans hm
            refine aw_b (pc' := 94) (lv' := [(5, .int z0_j21), (0, .ref a), (1, .int i0), (2, .int i1), (3, .int i2), (4, .int (i2 - (s 0 0)))]) (st' := [.int z0_j21]) [(86, .goto 8, 3, .null)] (by decide +kernel) rfl ?_
            refine aw_lv (lv' := []) [] rfl ?_
            exact J94 H_j21 h0 hs hm
      · have hm := (if_neg hc).symm.trans hm
        refine aw_tg (fun hc => ?_) (fun hc => ?_)
        · have hm := (if_pos hc).symm.trans hm
          refine aw_b (pc' := 105) (lv' := [(5, .int z0_j21), (0, .ref a), (1, .int i0), (2, .int i1), (3, .int i2), (4, .int (i2 - (s 0 0)))]) (st' := [.int (i2 - (s 0 0))]) [(103, .iload 4, 2, .null)] (by decide +kernel) rfl ?_
          refine aw_if_lt (off := 8) 113 (by decide) (by decide +kernel) (fun hc => ?_) (fun hc => ?_)
          · have hm := (if_pos hc).symm.trans hm
            refine aw_b (pc' := 118) (lv' := [(5, .int z0_j21), (0, .ref a), (1, .int i0), (2, .int i1), (3, .int i2), (4, .int (i2 - (s 0 0)))]) (st' := [.int ((1000 : Int32) + i2)]) [(113, .sipush 1000, 3, .int (1000 : Int32)), (116, .iload_n 3, 1, .null), (117, .iadd, 1, .null)] (by decide +kernel) rfl ?_
            obtain rfl := Option.some.inj hm
            subst hQ
            exact aw_iret rfl (Nat.zero_le _) (Nat.zero_le _) (by decide +kernel) ⟨rfl, hs⟩
          · have hm := (if_neg hc).symm.trans hm
            refine aw_b (pc' := 118) (lv' := [(5, .int z0_j21), (0, .ref a), (1, .int i0), (2, .int i1), (3, .int i2), (4, .int (i2 - (s 0 0)))]) (st' := [.int (i2 - (s 0 0))]) [(108, .iload 4, 2, .null), (110, .goto 8, 3, .null)] (by decide +kernel) rfl ?_
            obtain rfl := Option.some.inj hm
            subst hQ
            exact aw_iret rfl (Nat.zero_le _) (Nat.zero_le _) (by decide +kernel) ⟨rfl, hs⟩
        · have hm := (if_neg hc).symm.trans hm
          refine aw_tg (fun hc => ?_) (fun hc => ?_)
          · have hm := (if_pos hc).symm.trans hm
            refine aw_b (pc' := 122) (lv' := [(5, .int z0_j21), (0, .ref a), (1, .int i0), (2, .int i1), (3, .int i2), (4, .int (i2 - (s 0 0)))]) (st' := [.int i1, .int z0_j21]) [(119, .iload 5, 2, .null), (121, .iload_n 2, 1, .null)] (by decide +kernel) rfl ?_
            refine aw_ic_gt (off := 7) 129 (by decide) (by decide +kernel) (fun hc => ?_) (fun hc => ?_)
            · have hm := (if_pos hc).symm.trans hm
              refine aw_b (pc' := 132) (lv' := [(5, .int z0_j21), (0, .ref a), (1, .int i0), (2, .int i1), (3, .int i2), (4, .int (i2 - (s 0 0)))]) (st' := [.int (1000 : Int32)]) [(129, .sipush 1000, 3, .int (1000 : Int32))] (by decide +kernel) rfl ?_
              obtain rfl := Option.some.inj hm
              subst hQ
              exact aw_iret rfl (Nat.zero_le _) (Nat.zero_le _) (by decide +kernel) ⟨rfl, hs⟩
            · have hm := (if_neg hc).symm.trans hm
              refine aw_b (pc' := 132) (lv' := [(5, .int z0_j21), (0, .ref a), (1, .int i0), (2, .int i1), (3, .int i2), (4, .int (i2 - (s 0 0)))]) (st' := [.int (0 : Int32)]) [(125, .iconst 0, 1, .int (0 : Int32)), (126, .goto 6, 3, .null)] (by decide +kernel) rfl ?_
              obtain rfl := Option.some.inj hm
              subst hQ
              exact aw_iret rfl (Nat.zero_le _) (Nat.zero_le _) (by decide +kernel) ⟨rfl, hs⟩
          · have hm := (if_neg hc).symm.trans hm
            show aw E _ Q 133 _ _ _ _ _
            refine aw_b (pc' := 134) (lv' := [(5, .int z0_j21), (0, .ref a), (1, .int i0), (2, .int i1), (3, .int i2), (4, .int (i2 - (s 0 0)))]) (st' := [.int (0 : Int32)]) [(133, .iconst 0, 1, .int (0 : Int32))] (by decide +kernel) rfl ?_
            obtain rfl := Option.some.inj hm
            subst hQ
            exact aw_iret rfl (Nat.zero_le _) (Nat.zero_le _) (by decide +kernel) ⟨rfl, hs⟩
  refine aw_if_ge (off := 9) 19 (by decide) (by decide +kernel) (fun hc => ?_) (fun hc => ?_)
  · have hm := (if_pos hc).symm.trans hm
    refine aw_b (pc' := 21) (lv' := [(4, .int (i2 - (s 0 0))), (0, .ref a), (1, .int i0), (2, .int i1), (3, .int i2)]) (st' := [.int (i2 - (s 0 0))]) [(19, .iload 4, 2, .null)] (by decide +kernel) rfl ?_
    refine aw_lv (lv' := [(0, .ref a), (1, .int i0), (2, .int i1), (3, .int i2), (4, .int (i2 - (s 0 0)))]) [1, 2, 3, 4, 0] rfl ?_
    exact J21 (i2 - (s 0 0)) H h0 hs hm
  · have hm := (if_neg hc).symm.trans hm
    refine aw_b (pc' := 21) (lv' := [(4, .int (i2 - (s 0 0))), (0, .ref a), (1, .int i0), (2, .int i1), (3, .int i2)]) (st' := [.int (-(i2 - (s 0 0)))]) [(13, .iload 4, 2, .null), (15, .ineg, 1, .null), (16, .goto 5, 3, .null)] (by decide +kernel) rfl ?_
    refine aw_lv (lv' := [(0, .ref a), (1, .int i0), (2, .int i1), (3, .int i2), (4, .int (i2 - (s 0 0)))]) [1, 2, 3, 4, 0] rfl ?_
    exact J21 (-(i2 - (s 0 0))) H h0 hs hm
def mX0_choose : mt_ := (yX0_choose, cX0_choose, 7, some .int, [], { frames := 1, locals := 25, cells := 0, slots := 0 })
theorem ckX0_choose : cokV_ mX0_choose := ⟨⟨(uw_mem 1124 (by decide +kernel) (by decide +kernel)), (uw_mem 34 (by decide +kernel) (by decide +kernel)), by decide +kernel, by decide +kernel⟩, (uw_mem 1122 (by decide +kernel) (by decide +kernel)), (uw_mem 1123 (by decide +kernel) (by decide +kernel))⟩
theorem nkX0_choose : nok_ mX0_choose 2 := by decide +kernel
theorem lkX0_56 : Cond.methodLink RX0 56 yX0_rankOf ∈ uw_ := (uw_mem 1125 (by decide +kernel) (by decide +kernel))
theorem kX0_choose {E : ev_} {H : Heap} {a : Nat} {s : st_} {i0 : Int32} {i1 : Int32} {r : Int32} (hm : fX0_choose s i0 i1 = some r) (h0 : has_ E H a ly_A s) : sp_ E mX0_choose [.ref a, .int i0, .int i1] H (po1 (.inl (some (.int r))) (fun Hn => sm_ H Hn 0 0)) := by
  refine sp_of (by decide +kernel) rfl rfl ?_
  generalize hQ : po1 _ _ = Q
  have hs : sm_ H H 0 0 := sm_.rfl'
  unfold fX0_choose at hm
  refine aw_lv (lv' := [(0, .ref a), (1, .int i0), (2, .int i1)]) [0, 1, 2] rfl ?_
  refine aw_b (pc' := 8) (lv' := [(5, .int (0 : Int32)), (4, .int (0 : Int32)), (3, .int (-1 : Int32)), (0, .ref a), (1, .int i0), (2, .int i1)]) (st' := []) [(0, .iconst (-1), 1, .int (-1 : Int32)), (1, .istore_n 3, 1, .null), (2, .iconst 0, 1, .int (0 : Int32)), (3, .istore 4, 2, .null), (5, .iconst 0, 1, .int (0 : Int32)), (6, .istore 5, 2, .null)] (by decide +kernel) rfl ?_
  obtain ⟨x8, hx8, hr8⟩ := bn_x hm
  have X8_57 : ∀ (v3_x8_57 : Int32) (H_x8_57 : Heap), has_ E H_x8_57 a ly_A s → sm_ H H_x8_57 0 0 → fX0_choose_x8_57 v3_x8_57 = some r → aw E mX0_choose Q 57 [(3, .int v3_x8_57)] [] H_x8_57 0 0 := by
    intro v3_x8_57 H_x8_57 h0 hs hm
    unfold fX0_choose_x8_57 at hm
    refine aw_b (pc' := 58) (lv' := [(3, .int v3_x8_57)]) (st' := [.int v3_x8_57]) [(57, .iload_n 3, 1, .null)] (by decide +kernel) rfl ?_
    obtain rfl := Option.some.inj hm
    subst hQ
    exact aw_iret rfl (Nat.zero_le _) (Nat.zero_le _) (by decide +kernel) ⟨rfl, hs⟩
  have L8 : ∀ (fu : Nat) (v3_b8 : Int32) (v4_b8 : Int32) (v5_b8 : Int32) (H_b8 : Heap), has_ E H_b8 a ly_A s → sm_ H H_b8 0 0 → fX0_choose_l8 s i0 i1 fu (v3_b8, v4_b8, v5_b8) = some x8 → aw E mX0_choose Q 8 [(0, .ref a), (1, .int i0), (2, .int i1), (3, .int v3_b8), (4, .int v4_b8), (5, .int v5_b8)] [] H_b8 0 0 := by
    intro fu
    induction fu with
    | zero =>
      intro v3_b8 v4_b8 v5_b8 H_b8 h0 hs hm
      exact (it_0 hm).elim
    | succ fu ih8 =>
      intro v3_b8 v4_b8 v5_b8 H_b8 h0 hs hm
      obtain ⟨y8, hm, hk8⟩ := it_s hm
      have hm : fX0_choose_b8 s i0 i1 v3_b8 v4_b8 v5_b8 = some y8 := hm
      unfold fX0_choose_b8 at hm
      refine aw_b (pc' := 11) (lv' := [(0, .ref a), (1, .int i0), (2, .int i1), (3, .int v3_b8), (4, .int v4_b8), (5, .int v5_b8)]) (st' := [.ref a, .int v5_b8]) [(8, .iload 5, 2, .null), (10, .aload_n 0, 1, .null)] (by decide +kernel) rfl ?_
      refine aw_gl (v := .int (s 0 2)) a 0 h0 eo_A_0 fgX0_26 rfl (by decide +kernel) ?_
      refine aw_ic_ge (off := 43) 57 (by decide) (by decide +kernel) (fun hc => ?_) (fun hc => ?_)
      · have hm := (if_pos hc).symm.trans hm
        cases hm
        refine aw_lv (lv' := [(3, .int v3_b8)]) [3] rfl ?_
        exact X8_57 v3_b8 H_b8 h0 hs ((congrArg fX0_choose_k8 (show (v3_b8) = x8 from hk8)).trans hr8)
      · have hm := (if_neg hc).symm.trans hm
        refine aw_b (pc' := 21) (lv' := [(0, .ref a), (1, .int i0), (2, .int i1), (3, .int v3_b8), (4, .int v4_b8), (5, .int v5_b8)]) (st' := [.ref a, .int i1, .int i0, .ref a]) [(17, .aload_n 0, 1, .null), (18, .iload_n 1, 1, .null), (19, .iload_n 2, 1, .null), (20, .aload_n 0, 1, .null)] (by decide +kernel) rfl ?_
        refine aw_gl (v := .ref (a + 1)) a 0 h0 eo_A_0 fgX0_9 rfl (by decide +kernel) ?_
        refine aw_b (pc' := 26) (lv' := [(0, .ref a), (1, .int i0), (2, .int i1), (3, .int v3_b8), (4, .int v4_b8), (5, .int v5_b8)]) (st' := [.int v5_b8, .ref (a + 1), .int i1, .int i0, .ref a]) [(24, .iload 5, 2, .null)] (by decide +kernel) rfl ?_
        obtain ⟨g1, hm⟩ := gd_x hm
        refine aw_ial a 1 h0 rfl g1 (by decide +kernel) ?_
        obtain ⟨r2, e3, hm⟩ := bn_x hm
        refine aw_cv (rest := []) (st1 := [.int r2]) a 0 (kX0_rankOf e3 h0) rfl rfl ckX0_rankOf lkX0_56 h0 eo_A_0 ⟨_, _, rfl⟩ nkX0_rankOf rfl rfl rfl (Nat.le_of_ble_eq_true rfl) (Nat.zero_le _) (Nat.zero_le _) (by decide +kernel) (fun H4 z5 => ?_)
        have h0 := h0.kept0 z5
        have hs := hs.step0 z5
        refine aw_b (pc' := 34) (lv' := [(6, .int r2), (0, .ref a), (1, .int i0), (2, .int i1), (3, .int v3_b8), (4, .int v4_b8), (5, .int v5_b8)]) (st' := [.int (-1 : Int32), .int v3_b8]) [(30, .istore 6, 2, .null), (32, .iload_n 3, 1, .null), (33, .iconst (-1), 1, .int (-1 : Int32))] (by decide +kernel) rfl ?_
        have J51 : ∀ (v3_j51 : Int32) (v4_j51 : Int32) (H_j51 : Heap), has_ E H_j51 a ly_A s → sm_ H H_j51 0 0 → fX0_choose_j51 v5_b8 v3_j51 v4_j51 = some y8 → aw E mX0_choose Q 51 [(0, .ref a), (1, .int i0), (2, .int i1), (3, .int v3_j51), (4, .int v4_j51), (5, .int v5_b8)] [] H_j51 0 0 := by
          intro v3_j51 v4_j51 H_j51 h0 hs hm
          unfold fX0_choose_j51 at hm
          refine aw_b (pc' := 8) (lv' := [(5, .int (v5_b8 + (1 : Int32))), (0, .ref a), (1, .int i0), (2, .int i1), (3, .int v3_j51), (4, .int v4_j51)]) (st' := []) [(51, .iinc 5 1, 3, .int (1 : Int32)), (54, .goto (-46), 3, .null)] (by decide +kernel) rfl ?_
          cases hm
          refine aw_lv (lv' := [(0, .ref a), (1, .int i0), (2, .int i1), (3, .int v3_j51), (4, .int v4_j51), (5, .int (v5_b8 + (1 : Int32)))]) [1, 2, 3, 4, 5, 0] rfl ?_
          exact ih8 v3_j51 v4_j51 (v5_b8 + (1 : Int32)) H_j51 h0 hs hk8
        have J44 : ∀ (H_j44 : Heap), has_ E H_j44 a ly_A s → sm_ H H_j44 0 0 → fX0_choose_j44 v5_b8 r2 = some y8 → aw E mX0_choose Q 44 [(0, .ref a), (1, .int i0), (2, .int i1), (5, .int v5_b8), (6, .int r2)] [] H_j44 0 0 := by
          intro H_j44 h0 hs hm
          unfold fX0_choose_j44 at hm
          refine aw_b (pc' := 51) (lv' := [(4, .int r2), (3, .int v5_b8), (0, .ref a), (1, .int i0), (2, .int i1), (5, .int v5_b8), (6, .int r2)]) (st' := []) [(44, .iload 5, 2, .null), (46, .istore_n 3, 1, .null), (47, .iload 6, 2, .null), (49, .istore 4, 2, .null)] (by decide +kernel) rfl ?_
          refine aw_lv (lv' := [(0, .ref a), (1, .int i0), (2, .int i1), (3, .int v5_b8), (4, .int r2), (5, .int v5_b8)]) [2, 3, 4, 1, 0, 5] rfl ?_
          exact J51 v5_b8 r2 H_j44 h0 hs hm
        refine aw_ic_eq (off := 10) 44 (by decide) (by decide +kernel) (fun hc => ?_) (fun hc => ?_)
        · have hm := (if_pos hc).symm.trans hm
          refine aw_lv (lv' := [(0, .ref a), (1, .int i0), (2, .int i1), (5, .int v5_b8), (6, .int r2)]) [1, 2, 3, 6, 0] rfl ?_
          exact J44 H4 h0 hs hm
        · have hm := (if_neg hc).symm.trans hm
          refine aw_b (pc' := 41) (lv' := [(6, .int r2), (0, .ref a), (1, .int i0), (2, .int i1), (3, .int v3_b8), (4, .int v4_b8), (5, .int v5_b8)]) (st' := [.int v4_b8, .int r2]) [(37, .iload 6, 2, .null), (39, .iload 4, 2, .null)] (by decide +kernel) rfl ?_
          refine aw_ic_ge (off := 10) 51 (by decide) (by decide +kernel) (fun hc => ?_) (fun hc => ?_)
          · have hm := (if_pos hc).symm.trans hm
            refine aw_lv (lv' := [(0, .ref a), (1, .int i0), (2, .int i1), (3, .int v3_b8), (4, .int v4_b8), (5, .int v5_b8)]) [1, 2, 3, 4, 5, 6] rfl ?_
            exact J51 v3_b8 v4_b8 H4 h0 hs hm
          · have hm := (if_neg hc).symm.trans hm
            refine aw_lv (lv' := [(0, .ref a), (1, .int i0), (2, .int i1), (5, .int v5_b8), (6, .int r2)]) [1, 2, 3, 6, 0] rfl ?_
            exact J44 H4 h0 hs hm
  refine aw_lv (lv' := [(0, .ref a), (1, .int i0), (2, .int i1), (3, .int (-1 : Int32)), (4, .int (0 : Int32)), (5, .int (0 : Int32))]) [3, 4, 5, 2, 1, 0] rfl ?_
  exact L8 FU_ (-1 : Int32) (0 : Int32) (0 : Int32) H h0 hs hx8
def mX0_costBy : mt_ := (yX0_costBy, cX0_costBy, 4, some .int, [], { frames := 2, locals := 51, cells := 0, slots := 0 })
theorem ckX0_costBy : cokV_ mX0_costBy := ⟨⟨(uw_mem 1150 (by decide +kernel) (by decide +kernel)), (uw_mem 34 (by decide +kernel) (by decide +kernel)), by decide +kernel, by decide +kernel⟩, (uw_mem 1148 (by decide +kernel) (by decide +kernel)), (uw_mem 1149 (by decide +kernel) (by decide +kernel))⟩
theorem nkX0_costBy : nok_ mX0_costBy 2 := by decide +kernel
theorem lkX0_60 : Cond.methodLink RX0 60 yX5_kindOf ∈ uw_ := (uw_mem 1112 (by decide +kernel) (by decide +kernel))
theorem lkX0_66 : Cond.methodLink RX0 66 yX5_widthOf ∈ uw_ := (uw_mem 1117 (by decide +kernel) (by decide +kernel))
theorem lkX0_69 : Cond.methodLink RX0 69 yX0_choose ∈ uw_ := (uw_mem 1121 (by decide +kernel) (by decide +kernel))
theorem lkX0_73 : Cond.methodLink RX0 73 yX5_priceOf ∈ uw_ := (uw_mem 1129 (by decide +kernel) (by decide +kernel))
theorem kX0_costBy {E : ev_} {H : Heap} {a b : Nat} {s : st_} {t : st_} {i0 : Int32} {r : Int32} (hm : fX0_costBy s t i0 = some r) (h0 : has_ E H a ly_A s) (h1 : has_ E H b ly_S t) : sp_ E mX0_costBy [.ref a, .ref b, .int i0] H (po1 (.inl (some (.int r))) (fun Hn => sm_ H Hn 0 0)) := by
  refine sp_of (by decide +kernel) rfl rfl ?_
  generalize hQ : po1 _ _ = Q
  have hs : sm_ H H 0 0 := sm_.rfl'
  unfold fX0_costBy at hm
  refine aw_lv (lv' := [(0, .ref a), (1, .ref b), (2, .int i0)]) [0, 1, 2] rfl ?_
  refine aw_b (pc' := 3) (lv' := [(0, .ref a), (1, .ref b), (2, .int i0)]) (st' := [.int i0, .ref b, .ref a]) [(0, .aload_n 0, 1, .null), (1, .aload_n 1, 1, .null), (2, .iload_n 2, 1, .null)] (by decide +kernel) rfl ?_
  obtain ⟨r1, e2, hm⟩ := bn_x hm
  refine aw_cv (rest := [.ref a]) (st1 := [.int r1, .ref a]) b 0 (kX5_kindOf e2 h1) rfl rfl ckX5_kindOf lkX0_60 h1 eo_S_0 ⟨_, _, rfl⟩ nkX5_kindOf rfl rfl rfl (Nat.le_of_ble_eq_true rfl) (Nat.zero_le _) (Nat.zero_le _) (by decide +kernel) (fun H3 z4 => ?_)
  have h0 := h0.kept0 z4
  have h1 := h1.kept0 z4
  have hs := hs.step0 z4
  refine aw_b (pc' := 8) (lv' := [(0, .ref a), (1, .ref b), (2, .int i0)]) (st' := [.int i0, .ref b, .int r1, .ref a]) [(6, .aload_n 1, 1, .null), (7, .iload_n 2, 1, .null)] (by decide +kernel) rfl ?_
  obtain ⟨r5, e6, hm⟩ := bn_x hm
  refine aw_cv (rest := [.int r1, .ref a]) (st1 := [.int r5, .int r1, .ref a]) b 0 (kX5_widthOf e6 h1) rfl rfl ckX5_widthOf lkX0_66 h1 eo_S_0 ⟨_, _, rfl⟩ nkX5_widthOf rfl rfl rfl (Nat.le_of_ble_eq_true rfl) (Nat.zero_le _) (Nat.zero_le _) (by decide +kernel) (fun H7 z8 => ?_)
  have h0 := h0.kept0 z8
  have h1 := h1.kept0 z8
  have hs := hs.step0 z8
  obtain ⟨r9, e10, hm⟩ := bn_x hm
  refine aw_cv (rest := []) (st1 := [.int r9]) a 0 (kX0_choose e10 h0) rfl rfl ckX0_choose lkX0_69 h0 eo_A_0 ⟨_, _, rfl⟩ nkX0_choose rfl rfl rfl (Nat.le_of_ble_eq_true rfl) (Nat.zero_le _) (Nat.zero_le _) (by decide +kernel) (fun H11 z12 => ?_)
  have h0 := h0.kept0 z12
  have h1 := h1.kept0 z12
  have hs := hs.step0 z12
  refine aw_b (pc' := 17) (lv' := [(3, .int r9), (0, .ref a), (1, .ref b), (2, .int i0)]) (st' := [.int (-1 : Int32), .int r9]) [(14, .istore_n 3, 1, .null), (15, .iload_n 3, 1, .null), (16, .iconst (-1), 1, .int (-1 : Int32))] (by decide +kernel) rfl ?_
  refine aw_ic_ne (off := 7) 24 (by decide) (by decide +kernel) (fun hc => ?_) (fun hc => ?_)
  · have hm := (if_neg hc).symm.trans hm
    refine aw_b (pc' := 26) (lv' := [(3, .int r9), (0, .ref a), (1, .ref b), (2, .int i0)]) (st' := [.ref a, .ref b]) [(24, .aload_n 1, 1, .null), (25, .aload_n 0, 1, .null)] (by decide +kernel) rfl ?_
    refine aw_gl (v := .int (s 0 0)) a 0 h0 eo_A_0 fgX0_18 rfl (by decide +kernel) ?_
    refine aw_b (pc' := 30) (lv' := [(3, .int r9), (0, .ref a), (1, .ref b), (2, .int i0)]) (st' := [.ref a, .int (s 0 0), .ref b]) [(29, .aload_n 0, 1, .null)] (by decide +kernel) rfl ?_
    refine aw_gl (v := .ref (a + 1)) a 0 h0 eo_A_0 fgX0_9 rfl (by decide +kernel) ?_
    refine aw_b (pc' := 34) (lv' := [(3, .int r9), (0, .ref a), (1, .ref b), (2, .int i0)]) (st' := [.int r9, .ref (a + 1), .int (s 0 0), .ref b]) [(33, .iload_n 3, 1, .null)] (by decide +kernel) rfl ?_
    obtain ⟨g13, hm⟩ := gd_x hm
    refine aw_ial a 1 h0 rfl g13 (by decide +kernel) ?_
    obtain ⟨r14, e15, hm⟩ := bn_x hm
    refine aw_cv (rest := []) (st1 := [.int r14]) b 0 (kX5_priceOf e15 h1) rfl rfl ckX5_priceOf lkX0_73 h1 eo_S_0 ⟨_, _, rfl⟩ nkX5_priceOf rfl rfl rfl (Nat.le_of_ble_eq_true rfl) (Nat.zero_le _) (Nat.zero_le _) (by decide +kernel) (fun H16 z17 => ?_)
    have h0 := h0.kept0 z17
    have h1 := h1.kept0 z17
    have hs := hs.step0 z17
    obtain rfl := Option.some.inj hm
    subst hQ
    exact aw_iret rfl (Nat.zero_le _) (Nat.zero_le _) (by decide +kernel) ⟨rfl, hs⟩
  · have hm := (if_pos hc).symm.trans hm
    refine aw_b (pc' := 38) (lv' := [(3, .int r9), (0, .ref a), (1, .ref b), (2, .int i0)]) (st' := [.int (0 : Int32)]) [(20, .iconst 0, 1, .int (0 : Int32)), (21, .goto 17, 3, .null)] (by decide +kernel) rfl ?_
    obtain rfl := Option.some.inj hm
    subst hQ
    exact aw_iret rfl (Nat.zero_le _) (Nat.zero_le _) (by decide +kernel) ⟨rfl, hs⟩
def mX0_remove : mt_ := (yX0_remove, cX0_remove, 3, none, [], { frames := 0, locals := 0, cells := 0, slots := 0 })
theorem ckX0_remove : cokV_ mX0_remove := ⟨⟨(uw_mem 1164 (by decide +kernel) (by decide +kernel)), (uw_mem 34 (by decide +kernel) (by decide +kernel)), by decide +kernel, by decide +kernel⟩, (uw_mem 1163 (by decide +kernel) (by decide +kernel)), (uw_mem 20 (by decide +kernel) (by decide +kernel))⟩
theorem nkX0_remove : nok_ mX0_remove 1 := by decide +kernel
theorem kX0_remove {E : ev_} {H : Heap} {a : Nat} {s : st_} {i0 : Int32} {r : st_} (hm : fX0_remove s i0 = some r) (h0 : has_ E H a ly_A s) (hf : ev_fr E a) : sp_ E mX0_remove [.ref a, .int i0] H (po1 (.inl (none)) (fun Hn => sm_ H Hn a 3 ∧ has_ E Hn a ly_A r)) := by
  refine sp_of (by decide +kernel) rfl rfl ?_
  generalize hQ : po1 _ _ = Q
  have hs : sm_ H H a 3 := sm_.rfl'
  unfold fX0_remove at hm
  refine aw_lv (lv' := [(0, .ref a), (1, .int i0)]) [0, 1] rfl ?_
  refine aw_b (pc' := 2) (lv' := [(2, .int i0), (0, .ref a), (1, .int i0)]) (st' := []) [(0, .iload_n 1, 1, .null), (1, .istore_n 2, 1, .null)] (by decide +kernel) rfl ?_
  obtain ⟨x2, hx2, hr2⟩ := bn_x hm
  have X2_46 : ∀ (s_x2_46 : st_) (H_x2_46 : Heap), has_ E H_x2_46 a ly_A s_x2_46 → sm_ H H_x2_46 a 3 → fX0_remove_x2_46 s_x2_46 = some r → aw E mX0_remove Q 46 [(0, .ref a)] [] H_x2_46 0 0 := by
    intro s_x2_46 H_x2_46 h0 hs hm
    unfold fX0_remove_x2_46 at hm
    refine aw_b (pc' := 48) (lv' := [(0, .ref a)]) (st' := [.ref a, .ref a]) [(46, .aload_n 0, 1, .null), (47, .dup, 1, .null)] (by decide +kernel) rfl ?_
    refine aw_gl (v := .int (s_x2_46 0 2)) a 0 h0 eo_A_0 fgX0_26 rfl (by decide +kernel) ?_
    refine aw_b (pc' := 53) (lv' := [(0, .ref a)]) (st' := [.int ((s_x2_46 0 2) - (1 : Int32)), .ref a]) [(51, .iconst 1, 1, .int (1 : Int32)), (52, .isub, 1, .null)] (by decide +kernel) rfl ?_
    obtain ⟨s1, e2, hm⟩ := bd_x hm
    refine aw_pl a 0 h0 eo_A_0 fsq_0_2 fpX0_26 hf rfl rfl e2 (by decide +kernel) (fun H3 h0 z4 => ?_)
    have hs := hs.step z4 (by omega) (by omega)
    obtain rfl := Option.some.inj hm
    subst hQ
    exact aw_vret rfl (Nat.zero_le _) (Nat.zero_le _) (by decide +kernel) ⟨rfl, hs, h0⟩
  have L2 : ∀ (fu : Nat) (v2_b2 : Int32) (s_b2 : st_) (H_b2 : Heap), has_ E H_b2 a ly_A s_b2 → sm_ H H_b2 a 3 → fX0_remove_l2 fu (v2_b2, s_b2) = some x2 → aw E mX0_remove Q 2 [(0, .ref a), (2, .int v2_b2)] [] H_b2 0 0 := by
    intro fu
    induction fu with
    | zero =>
      intro v2_b2 s_b2 H_b2 h0 hs hm
      exact (it_0 hm).elim
    | succ fu ih2 =>
      intro v2_b2 s_b2 H_b2 h0 hs hm
      obtain ⟨y2, hm, hk2⟩ := it_s hm
      have hm : fX0_remove_b2 v2_b2 s_b2 = some y2 := hm
      unfold fX0_remove_b2 at hm
      refine aw_b (pc' := 6) (lv' := [(0, .ref a), (2, .int v2_b2)]) (st' := [.ref a, .int (v2_b2 + (1 : Int32))]) [(2, .iload_n 2, 1, .null), (3, .iconst 1, 1, .int (1 : Int32)), (4, .iadd, 1, .null), (5, .aload_n 0, 1, .null)] (by decide +kernel) rfl ?_
      refine aw_gl (v := .int (s_b2 0 2)) a 0 h0 eo_A_0 fgX0_26 rfl (by decide +kernel) ?_
      refine aw_ic_ge (off := 37) 46 (by decide) (by decide +kernel) (fun hc => ?_) (fun hc => ?_)
      · have hm := (if_pos hc).symm.trans hm
        cases hm
        refine aw_lv (lv' := [(0, .ref a)]) [0] rfl ?_
        exact X2_46 s_b2 H_b2 h0 hs ((congrArg fX0_remove_k2 (show (s_b2) = x2 from hk2)).trans hr2)
      · have hm := (if_neg hc).symm.trans hm
        refine aw_b (pc' := 13) (lv' := [(0, .ref a), (2, .int v2_b2)]) (st' := [.ref a]) [(12, .aload_n 0, 1, .null)] (by decide +kernel) rfl ?_
        refine aw_gl (v := .ref (a + 1)) a 0 h0 eo_A_0 fgX0_9 rfl (by decide +kernel) ?_
        refine aw_b (pc' := 18) (lv' := [(0, .ref a), (2, .int v2_b2)]) (st' := [.ref a, .int v2_b2, .ref (a + 1)]) [(16, .iload_n 2, 1, .null), (17, .aload_n 0, 1, .null)] (by decide +kernel) rfl ?_
        refine aw_gl (v := .ref (a + 1)) a 0 h0 eo_A_0 fgX0_9 rfl (by decide +kernel) ?_
        refine aw_b (pc' := 24) (lv' := [(0, .ref a), (2, .int v2_b2)]) (st' := [.int (v2_b2 + (1 : Int32)), .ref (a + 1), .int v2_b2, .ref (a + 1)]) [(21, .iload_n 2, 1, .null), (22, .iconst 1, 1, .int (1 : Int32)), (23, .iadd, 1, .null)] (by decide +kernel) rfl ?_
        obtain ⟨g5, hm⟩ := gd_x hm
        refine aw_ial a 1 h0 rfl g5 (by decide +kernel) ?_
        obtain ⟨g6, hm⟩ := gd_x hm
        obtain ⟨s7, e8, hm⟩ := bd_x hm
        refine aw_isl a 1 h0 rfl hf g6 e8 (by decide +kernel) (fun H9 h0 z10 => ?_)
        have hs := hs.step z10 (by omega) (by omega)
        refine aw_b (pc' := 27) (lv' := [(0, .ref a), (2, .int v2_b2)]) (st' := [.ref a]) [(26, .aload_n 0, 1, .null)] (by decide +kernel) rfl ?_
        refine aw_gl (v := .ref (a + 2)) a 0 h0 eo_A_0 fgX0_15 rfl (by decide +kernel) ?_
        refine aw_b (pc' := 32) (lv' := [(0, .ref a), (2, .int v2_b2)]) (st' := [.ref a, .int v2_b2, .ref (a + 2)]) [(30, .iload_n 2, 1, .null), (31, .aload_n 0, 1, .null)] (by decide +kernel) rfl ?_
        refine aw_gl (v := .ref (a + 2)) a 0 h0 eo_A_0 fgX0_15 rfl (by decide +kernel) ?_
        refine aw_b (pc' := 38) (lv' := [(0, .ref a), (2, .int v2_b2)]) (st' := [.int (v2_b2 + (1 : Int32)), .ref (a + 2), .int v2_b2, .ref (a + 2)]) [(35, .iload_n 2, 1, .null), (36, .iconst 1, 1, .int (1 : Int32)), (37, .iadd, 1, .null)] (by decide +kernel) rfl ?_
        obtain ⟨g11, hm⟩ := gd_x hm
        refine aw_ial a 2 h0 rfl g11 (by decide +kernel) ?_
        obtain ⟨g12, hm⟩ := gd_x hm
        obtain ⟨s13, e14, hm⟩ := bd_x hm
        refine aw_isl a 2 h0 rfl hf g12 e14 (by decide +kernel) (fun H15 h0 z16 => ?_)
        have hs := hs.step z16 (by omega) (by omega)
        refine aw_b (pc' := 2) (lv' := [(2, .int (v2_b2 + (1 : Int32))), (0, .ref a)]) (st' := []) [(40, .iinc 2 1, 3, .int (1 : Int32)), (43, .goto (-41), 3, .null)] (by decide +kernel) rfl ?_
        cases hm
        refine aw_lv (lv' := [(0, .ref a), (2, .int (v2_b2 + (1 : Int32)))]) [1, 0] rfl ?_
        exact ih2 (v2_b2 + (1 : Int32)) s13 H15 h0 hs hk2
  refine aw_lv (lv' := [(0, .ref a), (2, .int i0)]) [1, 0] rfl ?_
  exact L2 FU_ i0 s H h0 hs hx2
def mX0_serve : mt_ := (yX0_serve, cX0_serve, 7, none, [], { frames := 2, locals := 51, cells := 0, slots := 0 })
theorem ckX0_serve : cokV_ mX0_serve := ⟨⟨(uw_mem 1158 (by decide +kernel) (by decide +kernel)), (uw_mem 34 (by decide +kernel) (by decide +kernel)), by decide +kernel, by decide +kernel⟩, (uw_mem 1156 (by decide +kernel) (by decide +kernel)), (uw_mem 1157 (by decide +kernel) (by decide +kernel))⟩
theorem nkX0_serve : nok_ mX0_serve 3 := by decide +kernel
theorem mtX0_76 : ml_ RX0 76 Lib.Math.abs.name Lib.Math.abs.code 1 .int := ⟨(uw_mem 1159 (by decide +kernel) (by decide +kernel)), (uw_mem 565 (by decide +kernel) (by decide +kernel)), (uw_mem 38 (by decide +kernel) (by decide +kernel)), (uw_mem 566 (by decide +kernel) (by decide +kernel))⟩
theorem mtX0_81 : ml_ RX0 81 Lib.Math.max.name Lib.Math.max.code 2 .int := ⟨(uw_mem 1160 (by decide +kernel) (by decide +kernel)), (uw_mem 768 (by decide +kernel) (by decide +kernel)), (uw_mem 38 (by decide +kernel) (by decide +kernel)), (uw_mem 769 (by decide +kernel) (by decide +kernel))⟩
theorem lkX0_84 : Cond.methodLink RX0 84 yX0_remove ∈ uw_ := (uw_mem 1161 (by decide +kernel) (by decide +kernel))
theorem kX0_serve {E : ev_} {H : Heap} {a b : Nat} {s : st_} {t : st_} {i0 : Int32} {i1 : Int32} {r : st_} (hm : fX0_serve s t i0 i1 = some r) (h0 : has_ E H a ly_A s) (h1 : has_ E H b ly_S t) (hf : ev_fr E a) (d1 : a + 3 ≤ b ∨ b + 4 ≤ a) : sp_ E mX0_serve [.ref a, .ref b, .int i0, .int i1] H (po1 (.inl (none)) (fun Hn => sm_ H Hn a 3 ∧ has_ E Hn a ly_A r)) := by
  refine sp_of (by decide +kernel) rfl rfl ?_
  generalize hQ : po1 _ _ = Q
  have hs : sm_ H H a 3 := sm_.rfl'
  unfold fX0_serve at hm
  refine aw_lv (lv' := [(0, .ref a), (1, .ref b), (2, .int i0), (3, .int i1)]) [0, 1, 2, 3] rfl ?_
  refine aw_b (pc' := 2) (lv' := [(0, .ref a), (1, .ref b), (2, .int i0), (3, .int i1)]) (st' := [.int i0, .ref b]) [(0, .aload_n 1, 1, .null), (1, .iload_n 2, 1, .null)] (by decide +kernel) rfl ?_
  obtain ⟨r1, e2, hm⟩ := bn_x hm
  refine aw_cv (rest := []) (st1 := [.int r1]) b 0 (kX5_kindOf e2 h1) rfl rfl ckX5_kindOf lkX0_60 h1 eo_S_0 ⟨_, _, rfl⟩ nkX5_kindOf rfl rfl rfl (Nat.le_of_ble_eq_true rfl) (Nat.zero_le _) (Nat.zero_le _) (by decide +kernel) (fun H3 z4 => ?_)
  have h0 := h0.kept0 z4
  have h1 := h1.kept0 z4
  have hs := hs.step0 z4
  refine aw_b (pc' := 9) (lv' := [(4, .int r1), (0, .ref a), (1, .ref b), (2, .int i0), (3, .int i1)]) (st' := [.int i0, .ref b]) [(5, .istore 4, 2, .null), (7, .aload_n 1, 1, .null), (8, .iload_n 2, 1, .null)] (by decide +kernel) rfl ?_
  obtain ⟨r5, e6, hm⟩ := bn_x hm
  refine aw_cv (rest := []) (st1 := [.int r5]) b 0 (kX5_widthOf e6 h1) rfl rfl ckX5_widthOf lkX0_66 h1 eo_S_0 ⟨_, _, rfl⟩ nkX5_widthOf rfl rfl rfl (Nat.le_of_ble_eq_true rfl) (Nat.zero_le _) (Nat.zero_le _) (by decide +kernel) (fun H7 z8 => ?_)
  have h0 := h0.kept0 z8
  have h1 := h1.kept0 z8
  have hs := hs.step0 z8
  refine aw_b (pc' := 19) (lv' := [(5, .int r5), (4, .int r1), (0, .ref a), (1, .ref b), (2, .int i0), (3, .int i1)]) (st' := [.int r5, .int r1, .ref a]) [(12, .istore 5, 2, .null), (14, .aload_n 0, 1, .null), (15, .iload 4, 2, .null), (17, .iload 5, 2, .null)] (by decide +kernel) rfl ?_
  obtain ⟨r9, e10, hm⟩ := bn_x hm
  refine aw_cv (rest := []) (st1 := [.int r9]) a 0 (kX0_choose e10 h0) rfl rfl ckX0_choose lkX0_69 h0 eo_A_0 ⟨_, _, rfl⟩ nkX0_choose rfl rfl rfl (Nat.le_of_ble_eq_true rfl) (Nat.zero_le _) (Nat.zero_le _) (by decide +kernel) (fun H11 z12 => ?_)
  have h0 := h0.kept0 z12
  have h1 := h1.kept0 z12
  have hs := hs.step0 z12
  refine aw_b (pc' := 26) (lv' := [(6, .int r9), (5, .int r5), (4, .int r1), (0, .ref a), (1, .ref b), (2, .int i0), (3, .int i1)]) (st' := [.int (0 : Int32), .ref a]) [(22, .istore 6, 2, .null), (24, .aload_n 0, 1, .null), (25, .iconst 0, 1, .int (0 : Int32))] (by decide +kernel) rfl ?_
  obtain ⟨s13, e14, hm⟩ := bd_x hm
  refine aw_pl a 0 h0 eo_A_0 fsq_0_9 fpX0_41 hf rfl rfl e14 (by decide +kernel) (fun H15 h0 z16 => ?_)
  have h1 := h1.kept (n := 4) z16 rfl (by omega)
  have hs := hs.step z16 (by omega) (by omega)
  refine aw_b (pc' := 31) (lv' := [(6, .int r9), (5, .int r5), (4, .int r1), (0, .ref a), (1, .ref b), (2, .int i0), (3, .int i1)]) (st' := [.int (-1 : Int32), .ref a]) [(29, .aload_n 0, 1, .null), (30, .iconst (-1), 1, .int (-1 : Int32))] (by decide +kernel) rfl ?_
  obtain ⟨s17, e18, hm⟩ := bd_x hm
  refine aw_pl a 0 h0 eo_A_0 fsq_0_10 fpX0_44 hf rfl rfl e18 (by decide +kernel) (fun H19 h0 z20 => ?_)
  have h1 := h1.kept (n := 4) z20 rfl (by omega)
  have hs := hs.step z20 (by omega) (by omega)
  refine aw_b (pc' := 36) (lv' := [(6, .int r9), (5, .int r5), (4, .int r1), (0, .ref a), (1, .ref b), (2, .int i0), (3, .int i1)]) (st' := [.int (-1 : Int32), .ref a]) [(34, .aload_n 0, 1, .null), (35, .iconst (-1), 1, .int (-1 : Int32))] (by decide +kernel) rfl ?_
  obtain ⟨s21, e22, hm⟩ := bd_x hm
  refine aw_pl a 0 h0 eo_A_0 fsq_0_11 fpX0_47 hf rfl rfl e22 (by decide +kernel) (fun H23 h0 z24 => ?_)
  have h1 := h1.kept (n := 4) z24 rfl (by omega)
  have hs := hs.step z24 (by omega) (by omega)
  refine aw_b (pc' := 42) (lv' := [(6, .int r9), (5, .int r5), (4, .int r1), (0, .ref a), (1, .ref b), (2, .int i0), (3, .int i1)]) (st' := [.int (-1 : Int32), .int r9]) [(39, .iload 6, 2, .null), (41, .iconst (-1), 1, .int (-1 : Int32))] (by decide +kernel) rfl ?_
  refine aw_ic_ne (off := 4) 46 (by decide) (by decide +kernel) (fun hc => ?_) (fun hc => ?_)
  · have hm := (if_neg hc).symm.trans hm
    refine aw_b (pc' := 48) (lv' := [(6, .int r9), (5, .int r5), (4, .int r1), (0, .ref a), (1, .ref b), (2, .int i0), (3, .int i1)]) (st' := [.ref a, .ref a]) [(46, .aload_n 0, 1, .null), (47, .aload_n 0, 1, .null)] (by decide +kernel) rfl ?_
    refine aw_gl (v := .ref (a + 1)) a 0 h0 eo_A_0 fgX0_9 rfl (by decide +kernel) ?_
    refine aw_b (pc' := 53) (lv' := [(6, .int r9), (5, .int r5), (4, .int r1), (0, .ref a), (1, .ref b), (2, .int i0), (3, .int i1)]) (st' := [.int r9, .ref (a + 1), .ref a]) [(51, .iload 6, 2, .null)] (by decide +kernel) rfl ?_
    obtain ⟨g25, hm⟩ := gd_x hm
    refine aw_ial a 1 h0 rfl g25 (by decide +kernel) ?_
    obtain ⟨s26, e27, hm⟩ := bd_x hm
    refine aw_pl a 0 h0 eo_A_0 fsq_0_10 fpX0_44 hf rfl rfl e27 (by decide +kernel) (fun H28 h0 z29 => ?_)
    have h1 := h1.kept (n := 4) z29 rfl (by omega)
    have hs := hs.step z29 (by omega) (by omega)
    refine aw_b (pc' := 59) (lv' := [(6, .int r9), (5, .int r5), (4, .int r1), (0, .ref a), (1, .ref b), (2, .int i0), (3, .int i1)]) (st' := [.ref a, .ref a]) [(57, .aload_n 0, 1, .null), (58, .aload_n 0, 1, .null)] (by decide +kernel) rfl ?_
    refine aw_gl (v := .ref (a + 2)) a 0 h0 eo_A_0 fgX0_15 rfl (by decide +kernel) ?_
    refine aw_b (pc' := 64) (lv' := [(6, .int r9), (5, .int r5), (4, .int r1), (0, .ref a), (1, .ref b), (2, .int i0), (3, .int i1)]) (st' := [.int r9, .ref (a + 2), .ref a]) [(62, .iload 6, 2, .null)] (by decide +kernel) rfl ?_
    obtain ⟨g30, hm⟩ := gd_x hm
    refine aw_ial a 2 h0 rfl g30 (by decide +kernel) ?_
    obtain ⟨s31, e32, hm⟩ := bd_x hm
    refine aw_pl a 0 h0 eo_A_0 fsq_0_11 fpX0_47 hf rfl rfl e32 (by decide +kernel) (fun H33 h0 z34 => ?_)
    have h1 := h1.kept (n := 4) z34 rfl (by omega)
    have hs := hs.step z34 (by omega) (by omega)
    refine aw_b (pc' := 71) (lv' := [(6, .int r9), (5, .int r5), (4, .int r1), (0, .ref a), (1, .ref b), (2, .int i0), (3, .int i1)]) (st' := [.int (2 : Int32), .int r1]) [(68, .iload 4, 2, .null), (70, .iconst 2, 1, .int (2 : Int32))] (by decide +kernel) rfl ?_
    have J108 : ∀ (s_j108 : st_) (H_j108 : Heap), has_ E H_j108 a ly_A s_j108 → has_ E H_j108 b ly_S t → sm_ H H_j108 a 3 → fX0_serve_j108 t i1 r9 s_j108 = some r → aw E mX0_serve Q 108 [(0, .ref a), (1, .ref b), (3, .int i1), (6, .int r9)] [] H_j108 0 0 := by
      intro s_j108 H_j108 h0 h1 hs hm
      unfold fX0_serve_j108 at hm
      refine aw_b (pc' := 111) (lv' := [(0, .ref a), (1, .ref b), (3, .int i1), (6, .int r9)]) (st' := [.ref a, .ref b, .ref a]) [(108, .aload_n 0, 1, .null), (109, .aload_n 1, 1, .null), (110, .aload_n 0, 1, .null)] (by decide +kernel) rfl ?_
      refine aw_gl (v := .int (s_j108 0 0)) a 0 h0 eo_A_0 fgX0_18 rfl (by decide +kernel) ?_
      refine aw_b (pc' := 115) (lv' := [(0, .ref a), (1, .ref b), (3, .int i1), (6, .int r9)]) (st' := [.ref a, .int (s_j108 0 0), .ref b, .ref a]) [(114, .aload_n 0, 1, .null)] (by decide +kernel) rfl ?_
      refine aw_gl (v := .int (s_j108 0 10)) a 0 h0 eo_A_0 fgX0_44 rfl (by decide +kernel) ?_
      obtain ⟨r35, e36, hm⟩ := bn_x hm
      refine aw_cv (rest := [.ref a]) (st1 := [.int r35, .ref a]) b 0 (kX5_priceOf e36 h1) rfl rfl ckX5_priceOf lkX0_73 h1 eo_S_0 ⟨_, _, rfl⟩ nkX5_priceOf rfl rfl rfl (Nat.le_of_ble_eq_true rfl) (Nat.zero_le _) (Nat.zero_le _) (by decide +kernel) (fun H37 z38 => ?_)
      have h0 := h0.kept0 z38
      have h1 := h1.kept0 z38
      have hs := hs.step0 z38
      obtain ⟨s39, e40, hm⟩ := bd_x hm
      refine aw_pl a 0 h0 eo_A_0 fsq_0_9 fpX0_41 hf rfl rfl e40 (by decide +kernel) (fun H41 h0 z42 => ?_)
      have h1 := h1.kept (n := 4) z42 rfl (by omega)
      have hs := hs.step z42 (by omega) (by omega)
      refine aw_b (pc' := 126) (lv' := [(0, .ref a), (1, .ref b), (3, .int i1), (6, .int r9)]) (st' := [.ref a, .ref a]) [(124, .aload_n 0, 1, .null), (125, .dup, 1, .null)] (by decide +kernel) rfl ?_
      refine aw_gl (v := .int (s39 0 5)) a 0 h0 eo_A_0 fgX0_29 rfl (by decide +kernel) ?_
      refine aw_b (pc' := 130) (lv' := [(0, .ref a), (1, .ref b), (3, .int i1), (6, .int r9)]) (st' := [.ref a, .int (s39 0 5), .ref a]) [(129, .aload_n 0, 1, .null)] (by decide +kernel) rfl ?_
      refine aw_gl (v := .int (s39 0 9)) a 0 h0 eo_A_0 fgX0_41 rfl (by decide +kernel) ?_
      refine aw_b (pc' := 134) (lv' := [(0, .ref a), (1, .ref b), (3, .int i1), (6, .int r9)]) (st' := [.int ((s39 0 5) + (s39 0 9)), .ref a]) [(133, .iadd, 1, .null)] (by decide +kernel) rfl ?_
      obtain ⟨s43, e44, hm⟩ := bd_x hm
      refine aw_pl a 0 h0 eo_A_0 fsq_0_5 fpX0_29 hf rfl rfl e44 (by decide +kernel) (fun H45 h0 z46 => ?_)
      have h1 := h1.kept (n := 4) z46 rfl (by omega)
      have hs := hs.step z46 (by omega) (by omega)
      refine aw_b (pc' := 139) (lv' := [(0, .ref a), (1, .ref b), (3, .int i1), (6, .int r9)]) (st' := [.ref a, .ref a]) [(137, .aload_n 0, 1, .null), (138, .dup, 1, .null)] (by decide +kernel) rfl ?_
      refine aw_gl (v := .int (s43 0 6)) a 0 h0 eo_A_0 fgX0_32 rfl (by decide +kernel) ?_
      refine aw_b (pc' := 143) (lv' := [(0, .ref a), (1, .ref b), (3, .int i1), (6, .int r9)]) (st' := [.ref a, .int (s43 0 6), .ref a]) [(142, .aload_n 0, 1, .null)] (by decide +kernel) rfl ?_
      refine aw_gl (v := .int (s43 0 10)) a 0 h0 eo_A_0 fgX0_44 rfl (by decide +kernel) ?_
      refine aw_b (pc' := 147) (lv' := [(0, .ref a), (1, .ref b), (3, .int i1), (6, .int r9)]) (st' := [.ref a, .int (s43 0 10), .int (s43 0 6), .ref a]) [(146, .aload_n 0, 1, .null)] (by decide +kernel) rfl ?_
      refine aw_gl (v := .int (s43 0 0)) a 0 h0 eo_A_0 fgX0_18 rfl (by decide +kernel) ?_
      refine aw_b (pc' := 151) (lv' := [(0, .ref a), (1, .ref b), (3, .int i1), (6, .int r9)]) (st' := [.int ((s43 0 10) - (s43 0 0)), .int (s43 0 6), .ref a]) [(150, .isub, 1, .null)] (by decide +kernel) rfl ?_
      refine aw_mab (rest := [.int (s43 0 6), .ref a]) mtX0_76 rfl (Nat.le_of_ble_eq_true rfl) (Nat.zero_le _) (Nat.zero_le _) (by decide +kernel) ?_
      refine aw_b (pc' := 155) (lv' := [(0, .ref a), (1, .ref b), (3, .int i1), (6, .int r9)]) (st' := [.int ((s43 0 6) + (if (0 : Int32) ≤ ((s43 0 10) - (s43 0 0)) then ((s43 0 10) - (s43 0 0)) else (0 : Int32) - ((s43 0 10) - (s43 0 0)))), .ref a]) [(154, .iadd, 1, .null)] (by decide +kernel) rfl ?_
      obtain ⟨s47, e48, hm⟩ := bd_x hm
      refine aw_pl a 0 h0 eo_A_0 fsq_0_6 fpX0_32 hf rfl rfl e48 (by decide +kernel) (fun H49 h0 z50 => ?_)
      have h1 := h1.kept (n := 4) z50 rfl (by omega)
      have hs := hs.step z50 (by omega) (by omega)
      refine aw_b (pc' := 160) (lv' := [(0, .ref a), (1, .ref b), (3, .int i1), (6, .int r9)]) (st' := [.ref a, .ref a]) [(158, .aload_n 0, 1, .null), (159, .aload_n 0, 1, .null)] (by decide +kernel) rfl ?_
      refine aw_gl (v := .int (s47 0 7)) a 0 h0 eo_A_0 fgX0_35 rfl (by decide +kernel) ?_
      refine aw_b (pc' := 165) (lv' := [(0, .ref a), (1, .ref b), (3, .int i1), (6, .int r9)]) (st' := [.ref a, .int i1, .int (s47 0 7), .ref a]) [(163, .iload_n 3, 1, .null), (164, .aload_n 0, 1, .null)] (by decide +kernel) rfl ?_
      refine aw_gl (v := .int (s47 0 11)) a 0 h0 eo_A_0 fgX0_47 rfl (by decide +kernel) ?_
      refine aw_b (pc' := 169) (lv' := [(0, .ref a), (1, .ref b), (3, .int i1), (6, .int r9)]) (st' := [.int (i1 - (s47 0 11)), .int (s47 0 7), .ref a]) [(168, .isub, 1, .null)] (by decide +kernel) rfl ?_
      refine aw_mx (rest := [.ref a]) mtX0_81 rfl (Nat.le_of_ble_eq_true rfl) (Nat.zero_le _) (Nat.zero_le _) (by decide +kernel) ?_
      obtain ⟨s51, e52, hm⟩ := bd_x hm
      refine aw_pl a 0 h0 eo_A_0 fsq_0_7 fpX0_35 hf rfl rfl e52 (by decide +kernel) (fun H53 h0 z54 => ?_)
      have h1 := h1.kept (n := 4) z54 rfl (by omega)
      have hs := hs.step z54 (by omega) (by omega)
      refine aw_b (pc' := 177) (lv' := [(0, .ref a), (1, .ref b), (3, .int i1), (6, .int r9)]) (st' := [.ref a, .ref a]) [(175, .aload_n 0, 1, .null), (176, .dup, 1, .null)] (by decide +kernel) rfl ?_
      refine aw_gl (v := .int (s51 0 8)) a 0 h0 eo_A_0 fgX0_38 rfl (by decide +kernel) ?_
      refine aw_b (pc' := 182) (lv' := [(0, .ref a), (1, .ref b), (3, .int i1), (6, .int r9)]) (st' := [.int ((s51 0 8) + (1 : Int32)), .ref a]) [(180, .iconst 1, 1, .int (1 : Int32)), (181, .iadd, 1, .null)] (by decide +kernel) rfl ?_
      obtain ⟨s55, e56, hm⟩ := bd_x hm
      refine aw_pl a 0 h0 eo_A_0 fsq_0_8 fpX0_38 hf rfl rfl e56 (by decide +kernel) (fun H57 h0 z58 => ?_)
      have h1 := h1.kept (n := 4) z58 rfl (by omega)
      have hs := hs.step z58 (by omega) (by omega)
      refine aw_b (pc' := 187) (lv' := [(0, .ref a), (1, .ref b), (3, .int i1), (6, .int r9)]) (st' := [.ref a, .ref a]) [(185, .aload_n 0, 1, .null), (186, .aload_n 0, 1, .null)] (by decide +kernel) rfl ?_
      refine aw_gl (v := .int (s55 0 10)) a 0 h0 eo_A_0 fgX0_44 rfl (by decide +kernel) ?_
      obtain ⟨s59, e60, hm⟩ := bd_x hm
      refine aw_pl a 0 h0 eo_A_0 fsq_0_0 fpX0_18 hf rfl rfl e60 (by decide +kernel) (fun H61 h0 z62 => ?_)
      have h1 := h1.kept (n := 4) z62 rfl (by omega)
      have hs := hs.step z62 (by omega) (by omega)
      refine aw_b (pc' := 196) (lv' := [(0, .ref a), (1, .ref b), (3, .int i1), (6, .int r9)]) (st' := [.int r9, .ref a]) [(193, .aload_n 0, 1, .null), (194, .iload 6, 2, .null)] (by decide +kernel) rfl ?_
      obtain ⟨r63, e64, hm⟩ := bn_x hm
      refine aw_cv (rest := []) (st1 := []) a 0 (kX0_remove e64 h0 hf) rfl rfl ckX0_remove lkX0_84 h0 eo_A_0 ⟨_, _, rfl⟩ nkX0_remove rfl rfl rfl (Nat.le_of_ble_eq_true rfl) (Nat.zero_le _) (Nat.zero_le _) (by decide +kernel) (fun H65 z66 => ?_)
      obtain ⟨z66, hn⟩ := z66
      have h0 := hn
      have h1 := h1.kept (n := 4) z66 rfl (by omega)
      have hs := hs.step z66 (by omega) (by omega)
      obtain rfl := Option.some.inj hm
      subst hQ
      exact aw_vret rfl (Nat.zero_le _) (Nat.zero_le _) (by decide +kernel) ⟨rfl, hs, h0⟩
    refine aw_ic_ne (off := 37) 108 (by decide) (by decide +kernel) (fun hc => ?_) (fun hc => ?_)
    · have hm := (if_neg hc).symm.trans hm
      refine aw_lv (lv' := [(0, .ref a), (1, .ref b), (3, .int i1), (6, .int r9)]) [3, 4, 6, 0] rfl ?_
      exact J108 s31 H33 h0 h1 hs hm
    · have hm := (if_pos hc).symm.trans hm
      refine aw_b (pc' := 80) (lv' := [(6, .int r9), (5, .int r5), (4, .int r1), (0, .ref a), (1, .ref b), (2, .int i0), (3, .int i1)]) (st' := [.ref a, .int r5, .int r1, .ref a]) [(74, .aload_n 0, 1, .null), (75, .iload 4, 2, .null), (77, .iload 5, 2, .null), (79, .aload_n 0, 1, .null)] (by decide +kernel) rfl ?_
      refine aw_gl (v := .int (s31 0 10)) a 0 h0 eo_A_0 fgX0_44 rfl (by decide +kernel) ?_
      obtain ⟨r67, e68, hm⟩ := bn_x hm
      refine aw_cv (rest := []) (st1 := [.int r67]) a 0 (kX0_rankOf e68 h0) rfl rfl ckX0_rankOf lkX0_56 h0 eo_A_0 ⟨_, _, rfl⟩ nkX0_rankOf rfl rfl rfl (Nat.le_of_ble_eq_true rfl) (Nat.zero_le _) (Nat.zero_le _) (by decide +kernel) (fun H69 z70 => ?_)
      have h0 := h0.kept0 z70
      have h1 := h1.kept0 z70
      have hs := hs.step0 z70
      refine aw_b (pc' := 89) (lv' := [(6, .int r9), (5, .int r5), (4, .int r1), (0, .ref a), (1, .ref b), (2, .int i0), (3, .int i1)]) (st' := [.int (1000 : Int32), .int r67]) [(86, .sipush 1000, 3, .int (1000 : Int32))] (by decide +kernel) rfl ?_
      refine aw_ic_lt (off := 19) 108 (by decide) (by decide +kernel) (fun hc => ?_) (fun hc => ?_)
      · have hm := (if_pos hc).symm.trans hm
        refine aw_lv (lv' := [(0, .ref a), (1, .ref b), (3, .int i1), (6, .int r9)]) [3, 4, 6, 0] rfl ?_
        exact J108 s31 H69 h0 h1 hs hm
      · have hm := (if_neg hc).symm.trans hm
        refine aw_b (pc' := 94) (lv' := [(6, .int r9), (5, .int r5), (4, .int r1), (0, .ref a), (1, .ref b), (2, .int i0), (3, .int i1)]) (st' := [.ref a, .ref a]) [(92, .aload_n 0, 1, .null), (93, .aload_n 0, 1, .null)] (by decide +kernel) rfl ?_
        refine aw_gl (v := .int (s31 0 1)) a 0 h0 eo_A_0 fgX0_22 rfl (by decide +kernel) ?_
        have J105 : ∀ (z1_j105 : Int32) (H_j105 : Heap), has_ E H_j105 a ly_A s31 → has_ E H_j105 b ly_S t → sm_ H H_j105 a 3 → fX0_serve_j105 t i1 r9 s31 z1_j105 = some r → aw E mX0_serve Q 105 [(0, .ref a), (1, .ref b), (3, .int i1), (6, .int r9)] [.int z1_j105, .ref a] H_j105 0 0 := by
          intro z1_j105 H_j105 h0 h1 hs hm
          unfold fX0_serve_j105 at hm
          obtain ⟨g74, hm⟩ := gd_x hm
          obtain ⟨s71, e72, hm⟩ := bd_x hm
          refine aw_pl a 0 h0 eo_A_0 fsq_0_1 fpX0_22 hf (bz_n g74) (bz_f g74) e72 (by decide +kernel) (fun H73 h0 z75 => ?_)
          have h1 := h1.kept (n := 4) z75 rfl (by omega)
          have hs := hs.step z75 (by omega) (by omega)
          exact J108 s71 H73 h0 h1 hs hm
        refine aw_if_ne (off := 7) 104 (by decide) (by decide +kernel) (fun hc => ?_) (fun hc => ?_)
        · have hm := (if_neg hc).symm.trans hm
          refine aw_b (pc' := 105) (lv' := [(6, .int r9), (5, .int r5), (4, .int r1), (0, .ref a), (1, .ref b), (2, .int i0), (3, .int i1)]) (st' := [.int (0 : Int32), .ref a]) [(104, .iconst 0, 1, .int (0 : Int32))] (by decide +kernel) rfl ?_
          refine aw_lv (lv' := [(0, .ref a), (1, .ref b), (3, .int i1), (6, .int r9)]) [3, 4, 6, 0] rfl ?_
          exact J105 (0 : Int32) H69 h0 h1 hs hm
        · have hm := (if_pos hc).symm.trans hm
          refine aw_b (pc' := 105) (lv' := [(6, .int r9), (5, .int r5), (4, .int r1), (0, .ref a), (1, .ref b), (2, .int i0), (3, .int i1)]) (st' := [.int (1 : Int32), .ref a]) [(100, .iconst 1, 1, .int (1 : Int32)), (101, .goto 4, 3, .null)] (by decide +kernel) rfl ?_
          refine aw_lv (lv' := [(0, .ref a), (1, .ref b), (3, .int i1), (6, .int r9)]) [3, 4, 6, 0] rfl ?_
          exact J105 (1 : Int32) H69 h0 h1 hs hm
  · have hm := (if_pos hc).symm.trans hm
    obtain rfl := Option.some.inj hm
    subst hQ
    exact aw_vret rfl (Nat.zero_le _) (Nat.zero_le _) (by decide +kernel) ⟨rfl, hs, h0⟩
def mX0_foresee : mt_ := (yX0_foresee, cX0_foresee, 11, none, [], { frames := 2, locals := 51, cells := 0, slots := 0 })
theorem ckX0_foresee : cokV_ mX0_foresee := ⟨⟨(uw_mem 1111 (by decide +kernel) (by decide +kernel)), (uw_mem 34 (by decide +kernel) (by decide +kernel)), by decide +kernel, by decide +kernel⟩, (uw_mem 1109 (by decide +kernel) (by decide +kernel)), (uw_mem 1110 (by decide +kernel) (by decide +kernel))⟩
theorem nkX0_foresee : nok_ mX0_foresee 3 := by decide +kernel
theorem fgX0_88 : fok_ RX0 88 5 0 := ⟨_, _, _, rfl, by decide, (uw_mem 77 (by decide +kernel) (by decide +kernel)), wkX5⟩
theorem kX0_foresee {E : ev_} {H : Heap} {a b c : Nat} {s : st_} {t : st_} {u : st_} {i0 : Int32} {r : st_} (hm : fX0_foresee s t u i0 = some r) (h0 : has_ E H a ly_A s) (h1 : has_ E H b ly_S t) (h2 : has_ E H c ly_I100 u) (hf : ev_fr E c) (d0 : c + 1 ≤ a ∨ a + 3 ≤ c) (d1 : c + 1 ≤ b ∨ b + 4 ≤ c) : sp_ E mX0_foresee [.ref a, .ref b, .int i0, .ref c] H (po1 (.inl (none)) (fun Hn => sm_ H Hn c 1 ∧ has_ E Hn c ly_I100 r)) := by
  refine sp_of (by decide +kernel) rfl rfl ?_
  generalize hQ : po1 _ _ = Q
  have hs : sm_ H H c 1 := sm_.rfl'
  unfold fX0_foresee at hm
  refine aw_lv (lv' := [(0, .ref a), (1, .ref b), (2, .int i0), (3, .ref c)]) [0, 1, 2, 3] rfl ?_
  refine aw_b (pc' := 2) (lv' := [(0, .ref a), (1, .ref b), (2, .int i0), (3, .ref c)]) (st' := [.int i0, .ref b]) [(0, .aload_n 1, 1, .null), (1, .iload_n 2, 1, .null)] (by decide +kernel) rfl ?_
  obtain ⟨r1, e2, hm⟩ := bn_x hm
  refine aw_cv (rest := []) (st1 := [.int r1]) b 0 (kX5_kindOf e2 h1) rfl rfl ckX5_kindOf lkX0_60 h1 eo_S_0 ⟨_, _, rfl⟩ nkX5_kindOf rfl rfl rfl (Nat.le_of_ble_eq_true rfl) (Nat.zero_le _) (Nat.zero_le _) (by decide +kernel) (fun H3 z4 => ?_)
  have h0 := h0.kept0 z4
  have h1 := h1.kept0 z4
  have h2 := h2.kept0 z4
  have hs := hs.step0 z4
  refine aw_b (pc' := 9) (lv' := [(4, .int r1), (0, .ref a), (1, .ref b), (2, .int i0), (3, .ref c)]) (st' := [.int i0, .ref b]) [(5, .istore 4, 2, .null), (7, .aload_n 1, 1, .null), (8, .iload_n 2, 1, .null)] (by decide +kernel) rfl ?_
  obtain ⟨r5, e6, hm⟩ := bn_x hm
  refine aw_cv (rest := []) (st1 := [.int r5]) b 0 (kX5_widthOf e6 h1) rfl rfl ckX5_widthOf lkX0_66 h1 eo_S_0 ⟨_, _, rfl⟩ nkX5_widthOf rfl rfl rfl (Nat.le_of_ble_eq_true rfl) (Nat.zero_le _) (Nat.zero_le _) (by decide +kernel) (fun H7 z8 => ?_)
  have h0 := h0.kept0 z8
  have h1 := h1.kept0 z8
  have h2 := h2.kept0 z8
  have hs := hs.step0 z8
  refine aw_b (pc' := 19) (lv' := [(5, .int r5), (4, .int r1), (0, .ref a), (1, .ref b), (2, .int i0), (3, .ref c)]) (st' := [.int r5, .int r1, .ref a]) [(12, .istore 5, 2, .null), (14, .aload_n 0, 1, .null), (15, .iload 4, 2, .null), (17, .iload 5, 2, .null)] (by decide +kernel) rfl ?_
  obtain ⟨r9, e10, hm⟩ := bn_x hm
  refine aw_cv (rest := []) (st1 := [.int r9]) a 0 (kX0_choose e10 h0) rfl rfl ckX0_choose lkX0_69 h0 eo_A_0 ⟨_, _, rfl⟩ nkX0_choose rfl rfl rfl (Nat.le_of_ble_eq_true rfl) (Nat.zero_le _) (Nat.zero_le _) (by decide +kernel) (fun H11 z12 => ?_)
  have h0 := h0.kept0 z12
  have h1 := h1.kept0 z12
  have h2 := h2.kept0 z12
  have hs := hs.step0 z12
  refine aw_b (pc' := 27) (lv' := [(6, .int r9), (5, .int r5), (4, .int r1), (0, .ref a), (1, .ref b), (2, .int i0), (3, .ref c)]) (st' := [.int (-1 : Int32), .int r9]) [(22, .istore 6, 2, .null), (24, .iload 6, 2, .null), (26, .iconst (-1), 1, .int (-1 : Int32))] (by decide +kernel) rfl ?_
  have J51 : ∀ (z0_j51 : Int32) (H_j51 : Heap), has_ E H_j51 a ly_A s → has_ E H_j51 b ly_S t → has_ E H_j51 c ly_I100 u → sm_ H H_j51 c 1 → fX0_foresee_j51 s t u r1 r5 r9 z0_j51 = some r → aw E mX0_foresee Q 51 [(0, .ref a), (1, .ref b), (3, .ref c), (4, .int r1), (5, .int r5), (6, .int r9)] [.int z0_j51] H_j51 0 0 := by
    intro z0_j51 H_j51 h0 h1 h2 hs hm
    unfold fX0_foresee_j51 at hm
    refine aw_b (pc' := 56) (lv' := [(7, .int z0_j51), (0, .ref a), (1, .ref b), (3, .ref c), (4, .int r1), (5, .int r5), (6, .int r9)]) (st' := [.int (-1 : Int32), .int r9]) [(51, .istore 7, 2, .null), (53, .iload 6, 2, .null), (55, .iconst (-1), 1, .int (-1 : Int32))] (by decide +kernel) rfl ?_
    have J78 : ∀ (z0_j78 : Int32) (H_j78 : Heap), has_ E H_j78 a ly_A s → has_ E H_j78 b ly_S t → has_ E H_j78 c ly_I100 u → sm_ H H_j78 c 1 → fX0_foresee_j78 s t u r1 r5 z0_j51 z0_j78 = some r → aw E mX0_foresee Q 78 [(0, .ref a), (1, .ref b), (3, .ref c), (4, .int r1), (5, .int r5), (7, .int z0_j51)] [.int z0_j78] H_j78 0 0 := by
      intro z0_j78 H_j78 h0 h1 h2 hs hm
      unfold fX0_foresee_j78 at hm
      refine aw_b (pc' := 83) (lv' := [(9, .int (0 : Int32)), (8, .int z0_j78), (0, .ref a), (1, .ref b), (3, .ref c), (4, .int r1), (5, .int r5), (7, .int z0_j51)]) (st' := []) [(78, .istore 8, 2, .null), (80, .iconst 0, 1, .int (0 : Int32)), (81, .istore 9, 2, .null)] (by decide +kernel) rfl ?_
      obtain ⟨x83, hx83, hr83⟩ := bn_x hm
      have X83_156 : ∀ (u_x83_156 : st_) (H_x83_156 : Heap), has_ E H_x83_156 a ly_A s → has_ E H_x83_156 b ly_S t → has_ E H_x83_156 c ly_I100 u_x83_156 → sm_ H H_x83_156 c 1 → fX0_foresee_x83_156 u_x83_156 = some r → aw E mX0_foresee Q 156 [] [] H_x83_156 0 0 := by
        intro u_x83_156 H_x83_156 h0 h1 h2 hs hm
        unfold fX0_foresee_x83_156 at hm
        obtain rfl := Option.some.inj hm
        subst hQ
        exact aw_vret rfl (Nat.zero_le _) (Nat.zero_le _) (by decide +kernel) ⟨rfl, hs, h2⟩
      have L83 : ∀ (fu : Nat) (v9_b83 : Int32) (u_b83 : st_) (H_b83 : Heap), has_ E H_b83 a ly_A s → has_ E H_b83 b ly_S t → has_ E H_b83 c ly_I100 u_b83 → sm_ H H_b83 c 1 → fX0_foresee_l83 s t r1 r5 z0_j51 z0_j78 fu (v9_b83, u_b83) = some x83 → aw E mX0_foresee Q 83 [(0, .ref a), (1, .ref b), (3, .ref c), (4, .int r1), (5, .int r5), (7, .int z0_j51), (8, .int z0_j78), (9, .int v9_b83)] [] H_b83 0 0 := by
        intro fu
        induction fu with
        | zero =>
          intro v9_b83 u_b83 H_b83 h0 h1 h2 hs hm
          exact (it_0 hm).elim
        | succ fu ih83 =>
          intro v9_b83 u_b83 H_b83 h0 h1 h2 hs hm
          obtain ⟨y83, hm, hk83⟩ := it_s hm
          have hm : fX0_foresee_b83 s t r1 r5 z0_j51 z0_j78 v9_b83 u_b83 = some y83 := hm
          unfold fX0_foresee_b83 at hm
          refine aw_b (pc' := 86) (lv' := [(0, .ref a), (1, .ref b), (3, .ref c), (4, .int r1), (5, .int r5), (7, .int z0_j51), (8, .int z0_j78), (9, .int v9_b83)]) (st' := [.ref b, .int v9_b83]) [(83, .iload 9, 2, .null), (85, .aload_n 1, 1, .null)] (by decide +kernel) rfl ?_
          refine aw_gl (v := .int (t 0 0)) b 0 h1 eo_S_0 fgX0_88 rfl (by decide +kernel) ?_
          refine aw_ic_ge (off := 67) 156 (by decide) (by decide +kernel) (fun hc => ?_) (fun hc => ?_)
          · have hm := (if_pos hc).symm.trans hm
            cases hm
            refine aw_lv (lv' := []) [] rfl ?_
            exact X83_156 u_b83 H_b83 h0 h1 h2 hs ((congrArg fX0_foresee_k83 (show (u_b83) = x83 from hk83)).trans hr83)
          · have hm := (if_neg hc).symm.trans hm
            refine aw_b (pc' := 95) (lv' := [(0, .ref a), (1, .ref b), (3, .ref c), (4, .int r1), (5, .int r5), (7, .int z0_j51), (8, .int z0_j78), (9, .int v9_b83)]) (st' := [.ref c, .int v9_b83]) [(92, .iload 9, 2, .null), (94, .aload_n 3, 1, .null)] (by decide +kernel) rfl ?_
            refine aw_all (ci := 0) (N := 100) (v := (100 : Int32)) c 0 h2 rfl (x := fun _ _ c => .inl c) (fun _ _ => rfl) rfl (by decide +kernel) (by decide +kernel) ?_
            refine aw_ic_ge (off := 60) 156 (by decide) (by decide +kernel) (fun hc => ?_) (fun hc => ?_)
            · have hm := (if_pos hc).symm.trans hm
              cases hm
              refine aw_lv (lv' := []) [] rfl ?_
              exact X83_156 u_b83 H_b83 h0 h1 h2 hs ((congrArg fX0_foresee_k83 (show (u_b83) = x83 from hk83)).trans hr83)
            · have hm := (if_neg hc).symm.trans hm
              refine aw_b (pc' := 106) (lv' := [(0, .ref a), (1, .ref b), (3, .ref c), (4, .int r1), (5, .int r5), (7, .int z0_j51), (8, .int z0_j78), (9, .int v9_b83)]) (st' := [.int v9_b83, .int r5, .int r1, .ref a]) [(99, .aload_n 0, 1, .null), (100, .iload 4, 2, .null), (102, .iload 5, 2, .null), (104, .iload 9, 2, .null)] (by decide +kernel) rfl ?_
              obtain ⟨r13, e14, hm⟩ := bn_x hm
              refine aw_cv (rest := []) (st1 := [.int r13]) a 0 (kX0_rankOf e14 h0) rfl rfl ckX0_rankOf lkX0_56 h0 eo_A_0 ⟨_, _, rfl⟩ nkX0_rankOf rfl rfl rfl (Nat.le_of_ble_eq_true rfl) (Nat.zero_le _) (Nat.zero_le _) (by decide +kernel) (fun H15 z16 => ?_)
              have h0 := h0.kept0 z16
              have h1 := h1.kept0 z16
              have h2 := h2.kept0 z16
              have hs := hs.step0 z16
              refine aw_b (pc' := 111) (lv' := [(0, .ref a), (1, .ref b), (3, .ref c), (4, .int r1), (5, .int r5), (7, .int z0_j51), (8, .int z0_j78), (9, .int v9_b83)]) (st' := [.int z0_j51, .int r13]) [(109, .iload 7, 2, .null)] (by decide +kernel) rfl ?_
              have J119 : ∀ (z0_j119 : Int32) (H_j119 : Heap), has_ E H_j119 a ly_A s → has_ E H_j119 b ly_S t → has_ E H_j119 c ly_I100 u_b83 → sm_ H H_j119 c 1 → fX0_foresee_j119 s t z0_j78 v9_b83 u_b83 z0_j119 = some y83 → aw E mX0_foresee Q 119 [(0, .ref a), (1, .ref b), (3, .ref c), (4, .int r1), (5, .int r5), (7, .int z0_j51), (8, .int z0_j78), (9, .int v9_b83)] [.int z0_j119] H_j119 0 0 := by
                intro z0_j119 H_j119 h0 h1 h2 hs hm
                unfold fX0_foresee_j119 at hm
                refine aw_b (pc' := 125) (lv' := [(10, .int z0_j119), (0, .ref a), (1, .ref b), (3, .ref c), (4, .int r1), (5, .int r5), (7, .int z0_j51), (8, .int z0_j78), (9, .int v9_b83)]) (st' := [.ref a, .int v9_b83, .ref c]) [(119, .istore 10, 2, .null), (121, .aload_n 3, 1, .null), (122, .iload 9, 2, .null), (124, .aload_n 0, 1, .null)] (by decide +kernel) rfl ?_
                refine aw_gl (v := .int (s 0 5)) a 0 h0 eo_A_0 fgX0_29 rfl (by decide +kernel) ?_
                refine aw_b (pc' := 130) (lv' := [(10, .int z0_j119), (0, .ref a), (1, .ref b), (3, .ref c), (4, .int r1), (5, .int r5), (7, .int z0_j51), (8, .int z0_j78), (9, .int v9_b83)]) (st' := [.int z0_j119, .int (s 0 5), .int v9_b83, .ref c]) [(128, .iload 10, 2, .null)] (by decide +kernel) rfl ?_
                have J148 : ∀ (z3_j148 : Int32) (H_j148 : Heap), has_ E H_j148 a ly_A s → has_ E H_j148 b ly_S t → has_ E H_j148 c ly_I100 u_b83 → sm_ H H_j148 c 1 → fX0_foresee_j148 s v9_b83 u_b83 z3_j148 = some y83 → aw E mX0_foresee Q 148 [(0, .ref a), (1, .ref b), (3, .ref c), (4, .int r1), (5, .int r5), (7, .int z0_j51), (8, .int z0_j78), (9, .int v9_b83)] [.int z3_j148, .int (s 0 5), .int v9_b83, .ref c] H_j148 0 0 := by
                  intro z3_j148 H_j148 h0 h1 h2 hs hm
                  unfold fX0_foresee_j148 at hm
                  refine aw_b (pc' := 149) (lv' := [(0, .ref a), (1, .ref b), (3, .ref c), (4, .int r1), (5, .int r5), (7, .int z0_j51), (8, .int z0_j78), (9, .int v9_b83)]) (st' := [.int ((s 0 5) + z3_j148), .int v9_b83, .ref c]) [(148, .iadd, 1, .null)] (by decide +kernel) rfl ?_
                  obtain ⟨g17, hm⟩ := gd_x hm
                  obtain ⟨u18, e19, hm⟩ := bd_x hm
                  refine aw_isl c 0 h2 rfl hf g17 e19 (by decide +kernel) (fun H20 h2 z21 => ?_)
                  have h0 := h0.kept (n := 3) z21 rfl (by omega)
                  have h1 := h1.kept (n := 4) z21 rfl (by omega)
                  have hs := hs.step z21 (by omega) (by omega)
                  refine aw_b (pc' := 83) (lv' := [(9, .int (v9_b83 + (1 : Int32))), (0, .ref a), (1, .ref b), (3, .ref c), (4, .int r1), (5, .int r5), (7, .int z0_j51), (8, .int z0_j78)]) (st' := []) [(150, .iinc 9 1, 3, .int (1 : Int32)), (153, .goto (-70), 3, .null)] (by decide +kernel) rfl ?_
                  cases hm
                  refine aw_lv (lv' := [(0, .ref a), (1, .ref b), (3, .ref c), (4, .int r1), (5, .int r5), (7, .int z0_j51), (8, .int z0_j78), (9, .int (v9_b83 + (1 : Int32)))]) [1, 2, 3, 4, 5, 6, 7, 0] rfl ?_
                  exact ih83 (v9_b83 + (1 : Int32)) u18 H20 h0 h1 h2 hs hk83
                refine aw_if_eq (off := 16) 146 (by decide) (by decide +kernel) (fun hc => ?_) (fun hc => ?_)
                · have hm := (if_pos hc).symm.trans hm
                  refine aw_b (pc' := 148) (lv' := [(10, .int z0_j119), (0, .ref a), (1, .ref b), (3, .ref c), (4, .int r1), (5, .int r5), (7, .int z0_j51), (8, .int z0_j78), (9, .int v9_b83)]) (st' := [.int z0_j78, .int (s 0 5), .int v9_b83, .ref c]) [(146, .iload 8, 2, .null)] (by decide +kernel) rfl ?_
                  refine aw_lv (lv' := [(0, .ref a), (1, .ref b), (3, .ref c), (4, .int r1), (5, .int r5), (7, .int z0_j51), (8, .int z0_j78), (9, .int v9_b83)]) [1, 2, 3, 4, 5, 6, 7, 8] rfl ?_
                  exact J148 z0_j78 H_j119 h0 h1 h2 hs hm
                · have hm := (if_neg hc).symm.trans hm
                  refine aw_b (pc' := 135) (lv' := [(10, .int z0_j119), (0, .ref a), (1, .ref b), (3, .ref c), (4, .int r1), (5, .int r5), (7, .int z0_j51), (8, .int z0_j78), (9, .int v9_b83)]) (st' := [.ref a, .ref b, .int (s 0 5), .int v9_b83, .ref c]) [(133, .aload_n 1, 1, .null), (134, .aload_n 0, 1, .null)] (by decide +kernel) rfl ?_
                  refine aw_gl (v := .int (s 0 0)) a 0 h0 eo_A_0 fgX0_18 rfl (by decide +kernel) ?_
                  refine aw_b (pc' := 140) (lv' := [(10, .int z0_j119), (0, .ref a), (1, .ref b), (3, .ref c), (4, .int r1), (5, .int r5), (7, .int z0_j51), (8, .int z0_j78), (9, .int v9_b83)]) (st' := [.int v9_b83, .int (s 0 0), .ref b, .int (s 0 5), .int v9_b83, .ref c]) [(138, .iload 9, 2, .null)] (by decide +kernel) rfl ?_
                  obtain ⟨r22, e23, hm⟩ := bn_x hm
                  refine aw_cv (rest := [.int (s 0 5), .int v9_b83, .ref c]) (st1 := [.int r22, .int (s 0 5), .int v9_b83, .ref c]) b 0 (kX5_priceOf e23 h1) rfl rfl ckX5_priceOf lkX0_73 h1 eo_S_0 ⟨_, _, rfl⟩ nkX5_priceOf rfl rfl rfl (Nat.le_of_ble_eq_true rfl) (Nat.zero_le _) (Nat.zero_le _) (by decide +kernel) (fun H24 z25 => ?_)
                  have h0 := h0.kept0 z25
                  have h1 := h1.kept0 z25
                  have h2 := h2.kept0 z25
                  have hs := hs.step0 z25
                  refine aw_b (pc' := 148) (lv' := [(10, .int z0_j119), (0, .ref a), (1, .ref b), (3, .ref c), (4, .int r1), (5, .int r5), (7, .int z0_j51), (8, .int z0_j78), (9, .int v9_b83)]) (st' := [.int r22, .int (s 0 5), .int v9_b83, .ref c]) [(143, .goto 5, 3, .null)] (by decide +kernel) rfl ?_
                  refine aw_lv (lv' := [(0, .ref a), (1, .ref b), (3, .ref c), (4, .int r1), (5, .int r5), (7, .int z0_j51), (8, .int z0_j78), (9, .int v9_b83)]) [1, 2, 3, 4, 5, 6, 7, 8] rfl ?_
                  exact J148 r22 H24 h0 h1 h2 hs hm
              refine aw_ic_ge (off := 7) 118 (by decide) (by decide +kernel) (fun hc => ?_) (fun hc => ?_)
              · have hm := (if_pos hc).symm.trans hm
                refine aw_b (pc' := 119) (lv' := [(0, .ref a), (1, .ref b), (3, .ref c), (4, .int r1), (5, .int r5), (7, .int z0_j51), (8, .int z0_j78), (9, .int v9_b83)]) (st' := [.int (0 : Int32)]) [(118, .iconst 0, 1, .int (0 : Int32))] (by decide +kernel) rfl ?_
                exact J119 (0 : Int32) H15 h0 h1 h2 hs hm
              · have hm := (if_neg hc).symm.trans hm
                refine aw_b (pc' := 119) (lv' := [(0, .ref a), (1, .ref b), (3, .ref c), (4, .int r1), (5, .int r5), (7, .int z0_j51), (8, .int z0_j78), (9, .int v9_b83)]) (st' := [.int (1 : Int32)]) [(114, .iconst 1, 1, .int (1 : Int32)), (115, .goto 4, 3, .null)] (by decide +kernel) rfl ?_
                exact J119 (1 : Int32) H15 h0 h1 h2 hs hm
      refine aw_lv (lv' := [(0, .ref a), (1, .ref b), (3, .ref c), (4, .int r1), (5, .int r5), (7, .int z0_j51), (8, .int z0_j78), (9, .int (0 : Int32))]) [2, 3, 4, 5, 6, 7, 1, 0] rfl ?_
      exact L83 FU_ (0 : Int32) u H_j78 h0 h1 h2 hs hx83
    refine aw_ic_ne (off := 7) 63 (by decide) (by decide +kernel) (fun hc => ?_) (fun hc => ?_)
    · have hm := (if_neg hc).symm.trans hm
      refine aw_b (pc' := 65) (lv' := [(7, .int z0_j51), (0, .ref a), (1, .ref b), (3, .ref c), (4, .int r1), (5, .int r5), (6, .int r9)]) (st' := [.ref a, .ref b]) [(63, .aload_n 1, 1, .null), (64, .aload_n 0, 1, .null)] (by decide +kernel) rfl ?_
      refine aw_gl (v := .int (s 0 0)) a 0 h0 eo_A_0 fgX0_18 rfl (by decide +kernel) ?_
      refine aw_b (pc' := 69) (lv' := [(7, .int z0_j51), (0, .ref a), (1, .ref b), (3, .ref c), (4, .int r1), (5, .int r5), (6, .int r9)]) (st' := [.ref a, .int (s 0 0), .ref b]) [(68, .aload_n 0, 1, .null)] (by decide +kernel) rfl ?_
      refine aw_gl (v := .ref (a + 1)) a 0 h0 eo_A_0 fgX0_9 rfl (by decide +kernel) ?_
      refine aw_b (pc' := 74) (lv' := [(7, .int z0_j51), (0, .ref a), (1, .ref b), (3, .ref c), (4, .int r1), (5, .int r5), (6, .int r9)]) (st' := [.int r9, .ref (a + 1), .int (s 0 0), .ref b]) [(72, .iload 6, 2, .null)] (by decide +kernel) rfl ?_
      obtain ⟨g26, hm⟩ := gd_x hm
      refine aw_ial a 1 h0 rfl g26 (by decide +kernel) ?_
      obtain ⟨r27, e28, hm⟩ := bn_x hm
      refine aw_cv (rest := []) (st1 := [.int r27]) b 0 (kX5_priceOf e28 h1) rfl rfl ckX5_priceOf lkX0_73 h1 eo_S_0 ⟨_, _, rfl⟩ nkX5_priceOf rfl rfl rfl (Nat.le_of_ble_eq_true rfl) (Nat.zero_le _) (Nat.zero_le _) (by decide +kernel) (fun H29 z30 => ?_)
      have h0 := h0.kept0 z30
      have h1 := h1.kept0 z30
      have h2 := h2.kept0 z30
      have hs := hs.step0 z30
      refine aw_lv (lv' := [(0, .ref a), (1, .ref b), (3, .ref c), (4, .int r1), (5, .int r5), (7, .int z0_j51)]) [1, 2, 3, 4, 5, 0] rfl ?_
      exact J78 r27 H29 h0 h1 h2 hs hm
    · have hm := (if_pos hc).symm.trans hm
      refine aw_b (pc' := 78) (lv' := [(7, .int z0_j51), (0, .ref a), (1, .ref b), (3, .ref c), (4, .int r1), (5, .int r5), (6, .int r9)]) (st' := [.int (0 : Int32)]) [(59, .iconst 0, 1, .int (0 : Int32)), (60, .goto 18, 3, .null)] (by decide +kernel) rfl ?_
      refine aw_lv (lv' := [(0, .ref a), (1, .ref b), (3, .ref c), (4, .int r1), (5, .int r5), (7, .int z0_j51)]) [1, 2, 3, 4, 5, 0] rfl ?_
      exact J78 (0 : Int32) H_j51 h0 h1 h2 hs hm
  refine aw_ic_ne (off := 9) 36 (by decide) (by decide +kernel) (fun hc => ?_) (fun hc => ?_)
  · have hm := (if_neg hc).symm.trans hm
    refine aw_b (pc' := 42) (lv' := [(6, .int r9), (5, .int r5), (4, .int r1), (0, .ref a), (1, .ref b), (2, .int i0), (3, .ref c)]) (st' := [.ref a, .int r5, .int r1, .ref a]) [(36, .aload_n 0, 1, .null), (37, .iload 4, 2, .null), (39, .iload 5, 2, .null), (41, .aload_n 0, 1, .null)] (by decide +kernel) rfl ?_
    refine aw_gl (v := .ref (a + 1)) a 0 h0 eo_A_0 fgX0_9 rfl (by decide +kernel) ?_
    refine aw_b (pc' := 47) (lv' := [(6, .int r9), (5, .int r5), (4, .int r1), (0, .ref a), (1, .ref b), (2, .int i0), (3, .ref c)]) (st' := [.int r9, .ref (a + 1), .int r5, .int r1, .ref a]) [(45, .iload 6, 2, .null)] (by decide +kernel) rfl ?_
    obtain ⟨g31, hm⟩ := gd_x hm
    refine aw_ial a 1 h0 rfl g31 (by decide +kernel) ?_
    obtain ⟨r32, e33, hm⟩ := bn_x hm
    refine aw_cv (rest := []) (st1 := [.int r32]) a 0 (kX0_rankOf e33 h0) rfl rfl ckX0_rankOf lkX0_56 h0 eo_A_0 ⟨_, _, rfl⟩ nkX0_rankOf rfl rfl rfl (Nat.le_of_ble_eq_true rfl) (Nat.zero_le _) (Nat.zero_le _) (by decide +kernel) (fun H34 z35 => ?_)
    have h0 := h0.kept0 z35
    have h1 := h1.kept0 z35
    have h2 := h2.kept0 z35
    have hs := hs.step0 z35
    refine aw_lv (lv' := [(0, .ref a), (1, .ref b), (3, .ref c), (4, .int r1), (5, .int r5), (6, .int r9)]) [3, 4, 6, 2, 1, 0] rfl ?_
    exact J51 r32 H34 h0 h1 h2 hs hm
  · have hm := (if_pos hc).symm.trans hm
    refine aw_b (pc' := 51) (lv' := [(6, .int r9), (5, .int r5), (4, .int r1), (0, .ref a), (1, .ref b), (2, .int i0), (3, .ref c)]) (st' := [.int (10000 : Int32)]) [(30, .sipush 10000, 3, .int (10000 : Int32)), (33, .goto 18, 3, .null)] (by decide +kernel) rfl ?_
    refine aw_lv (lv' := [(0, .ref a), (1, .ref b), (3, .ref c), (4, .int r1), (5, .int r5), (6, .int r9)]) [3, 4, 6, 2, 1, 0] rfl ?_
    exact J51 (10000 : Int32) H11 h0 h1 h2 hs hm
end
section
/-! mirrors of methods, and that the methods do as they say: printed by wip/whole/gen_parts.py out of the listing -/
def mX1_resetWeights : mt_ := (yX1_resetWeights, cX1_resetWeights, 2, none, [], { frames := 0, locals := 0, cells := 0, slots := 0 })
theorem ckX1_resetWeights : cokV_ mX1_resetWeights := ⟨⟨(uw_mem 459 (by decide +kernel) (by decide +kernel)), (uw_mem 33 (by decide +kernel) (by decide +kernel)), by decide +kernel, by decide +kernel⟩, (uw_mem 457 (by decide +kernel) (by decide +kernel)), (uw_mem 458 (by decide +kernel) (by decide +kernel))⟩
theorem nkX1_resetWeights : nok_ mX1_resetWeights 0 := by decide +kernel
theorem fgX1_32 : fok_ RX1 32 1 4 := ⟨_, _, _, rfl, by decide, (uw_mem 290 (by decide +kernel) (by decide +kernel)), wkX1⟩
theorem eo_D_0 : eo_ ly_D 0 1 fsX1 := rfl
theorem kwX1_90 : Cond.constant RX1 90 (1000000 : Int32) ∈ uw_ := (uw_mem 460 (by decide +kernel) (by decide +kernel))
theorem kX1_resetWeights {E : ev_} {H : Heap} {a : Nat} {s : st_} {r : st_} (hm : fX1_resetWeights s = some r) (h0 : has_ E H a ly_D s) (hf : ev_fr E a) : sp_ E mX1_resetWeights [.ref a] H (po1 (.inl (none)) (fun Hn => sm_ H Hn a 33 ∧ has_ E Hn a ly_D r)) := by
  refine sp_of (by decide +kernel) rfl rfl ?_
  generalize hQ : po1 _ _ = Q
  have hs : sm_ H H a 33 := sm_.rfl'
  unfold fX1_resetWeights at hm
  refine aw_lv (lv' := [(0, .ref a)]) [0] rfl ?_
  refine aw_b (pc' := 2) (lv' := [(1, .int (0 : Int32)), (0, .ref a)]) (st' := []) [(0, .iconst 0, 1, .int (0 : Int32)), (1, .istore_n 1, 1, .null)] (by decide +kernel) rfl ?_
  obtain ⟨x2, hx2, hr2⟩ := bn_x hm
  have X2_25 : ∀ (s_x2_25 : st_) (H_x2_25 : Heap), has_ E H_x2_25 a ly_D s_x2_25 → sm_ H H_x2_25 a 33 → fX1_resetWeights_x2_25 s_x2_25 = some r → aw E mX1_resetWeights Q 25 [] [] H_x2_25 0 0 := by
    intro s_x2_25 H_x2_25 h0 hs hm
    unfold fX1_resetWeights_x2_25 at hm
    obtain rfl := Option.some.inj hm
    subst hQ
    exact aw_vret rfl (Nat.zero_le _) (Nat.zero_le _) (by decide +kernel) ⟨rfl, hs, h0⟩
  have L2 : ∀ (fu : Nat) (v1_b2 : Int32) (s_b2 : st_) (H_b2 : Heap), has_ E H_b2 a ly_D s_b2 → sm_ H H_b2 a 33 → fX1_resetWeights_l2 fu (v1_b2, s_b2) = some x2 → aw E mX1_resetWeights Q 2 [(0, .ref a), (1, .int v1_b2)] [] H_b2 0 0 := by
    intro fu
    induction fu with
    | zero =>
      intro v1_b2 s_b2 H_b2 h0 hs hm
      exact (it_0 hm).elim
    | succ fu ih2 =>
      intro v1_b2 s_b2 H_b2 h0 hs hm
      obtain ⟨y2, hm, hk2⟩ := it_s hm
      have hm : fX1_resetWeights_b2 v1_b2 s_b2 = some y2 := hm
      unfold fX1_resetWeights_b2 at hm
      refine aw_b (pc' := 4) (lv' := [(0, .ref a), (1, .int v1_b2)]) (st' := [.ref a, .int v1_b2]) [(2, .iload_n 1, 1, .null), (3, .aload_n 0, 1, .null)] (by decide +kernel) rfl ?_
      refine aw_gl (v := .ref (a + 12)) a 0 h0 eo_D_0 fgX1_32 rfl (by decide +kernel) ?_
      refine aw_all (ci := 0) (N := 6) (v := (6 : Int32)) a 12 h0 rfl (x := fun _ _ c => .inl c) (fun _ _ => rfl) rfl (by decide +kernel) (by decide +kernel) ?_
      refine aw_ic_ge (off := 17) 25 (by decide) (by decide +kernel) (fun hc => ?_) (fun hc => ?_)
      · have hm := (if_pos hc).symm.trans hm
        cases hm
        refine aw_lv (lv' := []) [] rfl ?_
        exact X2_25 s_b2 H_b2 h0 hs ((congrArg fX1_resetWeights_k2 (show (s_b2) = x2 from hk2)).trans hr2)
      · have hm := (if_neg hc).symm.trans hm
        refine aw_b (pc' := 12) (lv' := [(0, .ref a), (1, .int v1_b2)]) (st' := [.ref a]) [(11, .aload_n 0, 1, .null)] (by decide +kernel) rfl ?_
        refine aw_gl (v := .ref (a + 12)) a 0 h0 eo_D_0 fgX1_32 rfl (by decide +kernel) ?_
        refine aw_b (pc' := 16) (lv' := [(0, .ref a), (1, .int v1_b2)]) (st' := [.int v1_b2, .ref (a + 12)]) [(15, .iload_n 1, 1, .null)] (by decide +kernel) rfl ?_
        refine aw_ldc (v := (1000000 : Int32)) kwX1_90 (by decide +kernel) ?_
        obtain ⟨g1, hm⟩ := gd_x hm
        obtain ⟨s2, e3, hm⟩ := bd_x hm
        refine aw_isl a 12 h0 rfl hf g1 e3 (by decide +kernel) (fun H4 h0 z5 => ?_)
        have hs := hs.step z5 (by omega) (by omega)
        refine aw_b (pc' := 2) (lv' := [(1, .int (v1_b2 + (1 : Int32))), (0, .ref a)]) (st' := []) [(19, .iinc 1 1, 3, .int (1 : Int32)), (22, .goto (-20), 3, .null)] (by decide +kernel) rfl ?_
        cases hm
        refine aw_lv (lv' := [(0, .ref a), (1, .int (v1_b2 + (1 : Int32)))]) [1, 0] rfl ?_
        exact ih2 (v1_b2 + (1 : Int32)) s2 H4 h0 hs hk2
  refine aw_lv (lv' := [(0, .ref a), (1, .int (0 : Int32))]) [1, 0] rfl ?_
  exact L2 FU_ (0 : Int32) s H h0 hs hx2
def mX1_begin : mt_ := (yX1_begin, cX1_begin, 3, none, [], { frames := 2, locals := 69, cells := 0, slots := 0 })
theorem ckX1_begin : cokV_ mX1_begin := ⟨⟨(uw_mem 444 (by decide +kernel) (by decide +kernel)), (uw_mem 33 (by decide +kernel) (by decide +kernel)), by decide +kernel, by decide +kernel⟩, (uw_mem 442 (by decide +kernel) (by decide +kernel)), (uw_mem 443 (by decide +kernel) (by decide +kernel))⟩
theorem nkX1_begin : nok_ mX1_begin 1 := by decide +kernel
theorem fgX1_12 : fok_ RX1 12 1 0 := ⟨_, _, _, rfl, by decide, (uw_mem 279 (by decide +kernel) (by decide +kernel)), wkX1⟩
theorem lkX1_42 : Cond.methodLink RX1 42 yX5_copyFrom ∈ uw_ := (uw_mem 445 (by decide +kernel) (by decide +kernel))
theorem su_D_1_S : sub_ ly_D 1 ly_S := sub_of rfl
theorem eo_D_1 : eo_ ly_D 1 5 fsX5 := rfl
theorem fgX1_21 : fok_ RX1 21 1 1 := ⟨_, _, _, rfl, by decide, (uw_mem 282 (by decide +kernel) (by decide +kernel)), wkX1⟩
theorem fgX1_46 : fok_ RX1 46 5 1 := ⟨_, _, _, rfl, by decide, (uw_mem 79 (by decide +kernel) (by decide +kernel)), wkX5⟩
theorem lkX1_50 : Cond.methodLink RX1 50 yX0_begin ∈ uw_ := (uw_mem 452 (by decide +kernel) (by decide +kernel))
theorem su_D_5_A : sub_ ly_D 5 ly_A := sub_of rfl
theorem eo_D_5 : eo_ ly_D 5 0 fsX0 := rfl
theorem fgX1_25 : fok_ RX1 25 1 2 := ⟨_, _, _, rfl, by decide, (uw_mem 285 (by decide +kernel) (by decide +kernel)), wkX1⟩
theorem su_D_8_A : sub_ ly_D 8 ly_A := sub_of rfl
theorem eo_D_8 : eo_ ly_D 8 0 fsX0 := rfl
theorem lkX1_54 : Cond.methodLink RX1 54 yX1_resetWeights ∈ uw_ := (uw_mem 456 (by decide +kernel) (by decide +kernel))
theorem fgX1_57 : fok_ RX1 57 5 10 := ⟨_, _, _, rfl, by decide, (uw_mem 106 (by decide +kernel) (by decide +kernel)), wkX5⟩
theorem fpX1_60 : fpk_ RX1 60 1 7 .int := ⟨_, _, _, tyX1, rfl, by decide, (uw_mem 295 (by decide +kernel) (by decide +kernel)), wkX1, tyX1_ok, nmX1, rfl, by decide +kernel⟩
theorem fsq_1_7 : fsp_ fsX1 7 := ⟨fun _ _ => rfl, fun _ _ _ => rfl⟩
theorem fpX1_63 : fpk_ RX1 63 1 8 .int := ⟨_, _, _, tyX1, rfl, by decide, (uw_mem 297 (by decide +kernel) (by decide +kernel)), wkX1, tyX1_ok, nmX1, rfl, by decide +kernel⟩
theorem fsq_1_8 : fsp_ fsX1 8 := ⟨fun _ _ => rfl, fun _ _ _ => rfl⟩
theorem fpX1_66 : fpk_ RX1 66 1 9 .int := ⟨_, _, _, tyX1, rfl, by decide, (uw_mem 298 (by decide +kernel) (by decide +kernel)), wkX1, tyX1_ok, nmX1, rfl, by decide +kernel⟩
theorem fsq_1_9 : fsp_ fsX1 9 := ⟨fun _ _ => rfl, fun _ _ _ => rfl⟩
theorem fpX1_69 : fpk_ RX1 69 1 10 .int := ⟨_, _, _, tyX1, rfl, by decide, (uw_mem 300 (by decide +kernel) (by decide +kernel)), wkX1, tyX1_ok, nmX1, rfl, by decide +kernel⟩
theorem fsq_1_10 : fsp_ fsX1 10 := ⟨fun _ _ => rfl, fun _ _ _ => rfl⟩
theorem fpX1_72 : fpk_ RX1 72 1 11 .int := ⟨_, _, _, tyX1, rfl, by decide, (uw_mem 301 (by decide +kernel) (by decide +kernel)), wkX1, tyX1_ok, nmX1, rfl, by decide +kernel⟩
theorem fsq_1_11 : fsp_ fsX1 11 := ⟨fun _ _ => rfl, fun _ _ _ => rfl⟩
theorem fpX1_75 : fpk_ RX1 75 1 12 .int := ⟨_, _, _, tyX1, rfl, by decide, (uw_mem 303 (by decide +kernel) (by decide +kernel)), wkX1, tyX1_ok, nmX1, rfl, by decide +kernel⟩
theorem fsq_1_12 : fsp_ fsX1 12 := ⟨fun _ _ => rfl, fun _ _ _ => rfl⟩
theorem fpX1_78 : fpk_ RX1 78 1 13 .int := ⟨_, _, _, tyX1, rfl, by decide, (uw_mem 305 (by decide +kernel) (by decide +kernel)), wkX1, tyX1_ok, nmX1, rfl, by decide +kernel⟩
theorem fsq_1_13 : fsp_ fsX1 13 := ⟨fun _ _ => rfl, fun _ _ _ => rfl⟩
theorem fgX1_28 : fok_ RX1 28 1 3 := ⟨_, _, _, rfl, by decide, (uw_mem 288 (by decide +kernel) (by decide +kernel)), wkX1⟩
theorem ra_D_11 : ral_ ly_D 11 5 6 3 15 := ⟨_, rfl, fun a k h => (if_pos h).trans (congrArg some (by omega))⟩
theorem so_D_15 : ∀ k, k < 6 → sub_ ly_D (3 * k + 15) ly_A := by
  intro k hk
  match k, hk with
  | 0, _ => exact sub_of rfl
  | 1, _ => exact sub_of rfl
  | 2, _ => exact sub_of rfl
  | 3, _ => exact sub_of rfl
  | 4, _ => exact sub_of rfl
  | 5, _ => exact sub_of rfl
theorem eow_D_15 : ∀ k, k < 6 → eo_ ly_D (3 * k + 15) 0 fsX0 := by
  intro k hk
  match k, hk with
  | 0, _ => rfl
  | 1, _ => rfl
  | 2, _ => rfl
  | 3, _ => rfl
  | 4, _ => rfl
  | 5, _ => rfl
theorem kX1_begin {E : ev_} {H : Heap} {a b : Nat} {s : st_} {t : st_} {r : st_} (hm : fX1_begin s t = some r) (h0 : has_ E H a ly_D s) (h1 : has_ E H b ly_S t) (hf : ev_fr E a) (d1 : a + 33 ≤ b ∨ b + 4 ≤ a) : sp_ E mX1_begin [.ref a, .ref b] H (po1 (.inl (none)) (fun Hn => sm_ H Hn a 33 ∧ has_ E Hn a ly_D r)) := by
  refine sp_of (by decide +kernel) rfl rfl ?_
  generalize hQ : po1 _ _ = Q
  have hs : sm_ H H a 33 := sm_.rfl'
  unfold fX1_begin at hm
  refine aw_lv (lv' := [(0, .ref a), (1, .ref b)]) [0, 1] rfl ?_
  refine aw_b (pc' := 1) (lv' := [(0, .ref a), (1, .ref b)]) (st' := [.ref a]) [(0, .aload_n 0, 1, .null)] (by decide +kernel) rfl ?_
  refine aw_gl (v := .ref (a + 1)) a 0 h0 eo_D_0 fgX1_12 rfl (by decide +kernel) ?_
  refine aw_b (pc' := 5) (lv' := [(0, .ref a), (1, .ref b)]) (st' := [.ref b, .ref (a + 1)]) [(4, .aload_n 1, 1, .null)] (by decide +kernel) rfl ?_
  obtain ⟨r1, e2, hm⟩ := bn_x hm
  refine aw_cv (rest := []) (st1 := []) a 1 (kX5_copyFrom e2 (h0.sub su_D_1_S) h1 (Nat.le_trans hf (Nat.le_add_right _ _)) (by omega)) rfl rfl ckX5_copyFrom lkX1_42 h0 eo_D_1 ⟨_, _, rfl⟩ nkX5_copyFrom rfl rfl rfl (Nat.le_of_ble_eq_true rfl) (Nat.zero_le _) (Nat.zero_le _) (by decide +kernel) (fun H3 z4 => ?_)
  obtain ⟨z4, hn⟩ := z4
  obtain ⟨s5, e6, hm⟩ := bd_x hm
  have h0 := h0.mg su_D_1_S hn z4 rfl e6
  have h1 := h1.kept (n := 4) z4 rfl (by omega)
  have hs := hs.step z4 (by omega) (by omega)
  refine aw_b (pc' := 9) (lv' := [(0, .ref a), (1, .ref b)]) (st' := [.ref a]) [(8, .aload_n 0, 1, .null)] (by decide +kernel) rfl ?_
  refine aw_gl (v := .ref (a + 5)) a 0 h0 eo_D_0 fgX1_21 rfl (by decide +kernel) ?_
  refine aw_b (pc' := 13) (lv' := [(0, .ref a), (1, .ref b)]) (st' := [.ref a, .ref (a + 5)]) [(12, .aload_n 0, 1, .null)] (by decide +kernel) rfl ?_
  refine aw_gl (v := .ref (a + 1)) a 0 h0 eo_D_0 fgX1_12 rfl (by decide +kernel) ?_
  refine aw_gl (v := .int (s5 1 1)) a 1 h0 eo_D_1 fgX1_46 rfl (by decide +kernel) ?_
  obtain ⟨r7, e8, hm⟩ := bn_x hm
  refine aw_cv (rest := []) (st1 := []) a 5 (kX0_begin e8 (h0.sub su_D_5_A) (Nat.le_trans hf (Nat.le_add_right _ _))) rfl rfl ckX0_begin lkX1_50 h0 eo_D_5 ⟨_, _, rfl⟩ nkX0_begin rfl rfl rfl (Nat.le_of_ble_eq_true rfl) (Nat.zero_le _) (Nat.zero_le _) (by decide +kernel) (fun H9 z10 => ?_)
  obtain ⟨z10, hn⟩ := z10
  obtain ⟨s11, e12, hm⟩ := bd_x hm
  have h0 := h0.mg su_D_5_A hn z10 rfl e12
  have h1 := h1.kept (n := 4) z10 rfl (by omega)
  have hs := hs.step z10 (by omega) (by omega)
  refine aw_b (pc' := 23) (lv' := [(0, .ref a), (1, .ref b)]) (st' := [.ref a]) [(22, .aload_n 0, 1, .null)] (by decide +kernel) rfl ?_
  refine aw_gl (v := .ref (a + 8)) a 0 h0 eo_D_0 fgX1_25 rfl (by decide +kernel) ?_
  refine aw_b (pc' := 27) (lv' := [(0, .ref a), (1, .ref b)]) (st' := [.ref a, .ref (a + 8)]) [(26, .aload_n 0, 1, .null)] (by decide +kernel) rfl ?_
  refine aw_gl (v := .ref (a + 1)) a 0 h0 eo_D_0 fgX1_12 rfl (by decide +kernel) ?_
  refine aw_gl (v := .int (s11 1 1)) a 1 h0 eo_D_1 fgX1_46 rfl (by decide +kernel) ?_
  obtain ⟨r13, e14, hm⟩ := bn_x hm
  refine aw_cv (rest := []) (st1 := []) a 8 (kX0_begin e14 (h0.sub su_D_8_A) (Nat.le_trans hf (Nat.le_add_right _ _))) rfl rfl ckX0_begin lkX1_50 h0 eo_D_8 ⟨_, _, rfl⟩ nkX0_begin rfl rfl rfl (Nat.le_of_ble_eq_true rfl) (Nat.zero_le _) (Nat.zero_le _) (by decide +kernel) (fun H15 z16 => ?_)
  obtain ⟨z16, hn⟩ := z16
  obtain ⟨s17, e18, hm⟩ := bd_x hm
  have h0 := h0.mg su_D_8_A hn z16 rfl e18
  have h1 := h1.kept (n := 4) z16 rfl (by omega)
  have hs := hs.step z16 (by omega) (by omega)
  refine aw_b (pc' := 38) (lv' := [(2, .int (0 : Int32)), (0, .ref a), (1, .ref b)]) (st' := []) [(36, .iconst 0, 1, .int (0 : Int32)), (37, .istore_n 2, 1, .null)] (by decide +kernel) rfl ?_
  obtain ⟨x38, hx38, hr38⟩ := bn_x hm
  have X38_69 : ∀ (s_x38_69 : st_) (H_x38_69 : Heap), has_ E H_x38_69 a ly_D s_x38_69 → has_ E H_x38_69 b ly_S t → sm_ H H_x38_69 a 33 → fX1_begin_x38_69 s_x38_69 = some r → aw E mX1_begin Q 69 [(0, .ref a)] [] H_x38_69 0 0 := by
    intro s_x38_69 H_x38_69 h0 h1 hs hm
    unfold fX1_begin_x38_69 at hm
    refine aw_b (pc' := 70) (lv' := [(0, .ref a)]) (st' := [.ref a]) [(69, .aload_n 0, 1, .null)] (by decide +kernel) rfl ?_
    obtain ⟨r19, e20, hm⟩ := bn_x hm
    refine aw_cv (rest := []) (st1 := []) a 0 (kX1_resetWeights e20 h0 hf) rfl rfl ckX1_resetWeights lkX1_54 h0 eo_D_0 ⟨_, _, rfl⟩ nkX1_resetWeights rfl rfl rfl (Nat.le_of_ble_eq_true rfl) (Nat.zero_le _) (Nat.zero_le _) (by decide +kernel) (fun H21 z22 => ?_)
    obtain ⟨z22, hn⟩ := z22
    have h0 := hn
    have h1 := h1.kept (n := 4) z22 rfl (by omega)
    have hs := hs.step z22 (by omega) (by omega)
    refine aw_b (pc' := 75) (lv' := [(0, .ref a)]) (st' := [.ref a, .ref a]) [(73, .aload_n 0, 1, .null), (74, .aload_n 0, 1, .null)] (by decide +kernel) rfl ?_
    refine aw_gl (v := .ref (a + 1)) a 0 h0 eo_D_0 fgX1_12 rfl (by decide +kernel) ?_
    refine aw_gl (v := .int (r19 1 10)) a 1 h0 eo_D_1 fgX1_57 rfl (by decide +kernel) ?_
    obtain ⟨s23, e24, hm⟩ := bd_x hm
    refine aw_pl a 0 h0 eo_D_0 fsq_1_7 fpX1_60 hf rfl rfl e24 (by decide +kernel) (fun H25 h0 z26 => ?_)
    have h1 := h1.kept (n := 4) z26 rfl (by omega)
    have hs := hs.step z26 (by omega) (by omega)
    refine aw_b (pc' := 86) (lv' := [(0, .ref a)]) (st' := [.ref a, .ref a]) [(84, .aload_n 0, 1, .null), (85, .aload_n 0, 1, .null)] (by decide +kernel) rfl ?_
    refine aw_gl (v := .ref (a + 1)) a 0 h0 eo_D_0 fgX1_12 rfl (by decide +kernel) ?_
    refine aw_gl (v := .int (s23 1 10)) a 1 h0 eo_D_1 fgX1_57 rfl (by decide +kernel) ?_
    obtain ⟨s27, e28, hm⟩ := bd_x hm
    refine aw_pl a 0 h0 eo_D_0 fsq_1_8 fpX1_63 hf rfl rfl e28 (by decide +kernel) (fun H29 h0 z30 => ?_)
    have h1 := h1.kept (n := 4) z30 rfl (by omega)
    have hs := hs.step z30 (by omega) (by omega)
    refine aw_b (pc' := 97) (lv' := [(0, .ref a)]) (st' := [.int (0 : Int32), .ref a]) [(95, .aload_n 0, 1, .null), (96, .iconst 0, 1, .int (0 : Int32))] (by decide +kernel) rfl ?_
    obtain ⟨s31, e32, hm⟩ := bd_x hm
    refine aw_pl a 0 h0 eo_D_0 fsq_1_9 fpX1_66 hf rfl rfl e32 (by decide +kernel) (fun H33 h0 z34 => ?_)
    have h1 := h1.kept (n := 4) z34 rfl (by omega)
    have hs := hs.step z34 (by omega) (by omega)
    refine aw_b (pc' := 102) (lv' := [(0, .ref a)]) (st' := [.int (-1 : Int32), .ref a]) [(100, .aload_n 0, 1, .null), (101, .iconst (-1), 1, .int (-1 : Int32))] (by decide +kernel) rfl ?_
    obtain ⟨s35, e36, hm⟩ := bd_x hm
    refine aw_pl a 0 h0 eo_D_0 fsq_1_10 fpX1_69 hf rfl rfl e36 (by decide +kernel) (fun H37 h0 z38 => ?_)
    have h1 := h1.kept (n := 4) z38 rfl (by omega)
    have hs := hs.step z38 (by omega) (by omega)
    refine aw_b (pc' := 107) (lv' := [(0, .ref a)]) (st' := [.int (0 : Int32), .ref a]) [(105, .aload_n 0, 1, .null), (106, .iconst 0, 1, .int (0 : Int32))] (by decide +kernel) rfl ?_
    obtain ⟨s39, e40, hm⟩ := bd_x hm
    refine aw_pl a 0 h0 eo_D_0 fsq_1_11 fpX1_72 hf rfl rfl e40 (by decide +kernel) (fun H41 h0 z42 => ?_)
    have h1 := h1.kept (n := 4) z42 rfl (by omega)
    have hs := hs.step z42 (by omega) (by omega)
    refine aw_b (pc' := 112) (lv' := [(0, .ref a)]) (st' := [.int (-1 : Int32), .ref a]) [(110, .aload_n 0, 1, .null), (111, .iconst (-1), 1, .int (-1 : Int32))] (by decide +kernel) rfl ?_
    obtain ⟨s43, e44, hm⟩ := bd_x hm
    refine aw_pl a 0 h0 eo_D_0 fsq_1_12 fpX1_75 hf rfl rfl e44 (by decide +kernel) (fun H45 h0 z46 => ?_)
    have h1 := h1.kept (n := 4) z46 rfl (by omega)
    have hs := hs.step z46 (by omega) (by omega)
    refine aw_b (pc' := 117) (lv' := [(0, .ref a)]) (st' := [.int (-1 : Int32), .ref a]) [(115, .aload_n 0, 1, .null), (116, .iconst (-1), 1, .int (-1 : Int32))] (by decide +kernel) rfl ?_
    obtain ⟨s47, e48, hm⟩ := bd_x hm
    refine aw_pl a 0 h0 eo_D_0 fsq_1_13 fpX1_78 hf rfl rfl e48 (by decide +kernel) (fun H49 h0 z50 => ?_)
    have h1 := h1.kept (n := 4) z50 rfl (by omega)
    have hs := hs.step z50 (by omega) (by omega)
    obtain rfl := Option.some.inj hm
    subst hQ
    exact aw_vret rfl (Nat.zero_le _) (Nat.zero_le _) (by decide +kernel) ⟨rfl, hs, h0⟩
  have L38 : ∀ (fu : Nat) (v2_b38 : Int32) (s_b38 : st_) (H_b38 : Heap), has_ E H_b38 a ly_D s_b38 → has_ E H_b38 b ly_S t → sm_ H H_b38 a 33 → fX1_begin_l38 fu (v2_b38, s_b38) = some x38 → aw E mX1_begin Q 38 [(0, .ref a), (2, .int v2_b38)] [] H_b38 0 0 := by
    intro fu
    induction fu with
    | zero =>
      intro v2_b38 s_b38 H_b38 h0 h1 hs hm
      exact (it_0 hm).elim
    | succ fu ih38 =>
      intro v2_b38 s_b38 H_b38 h0 h1 hs hm
      obtain ⟨y38, hm, hk38⟩ := it_s hm
      have hm : fX1_begin_b38 v2_b38 s_b38 = some y38 := hm
      unfold fX1_begin_b38 at hm
      refine aw_b (pc' := 40) (lv' := [(0, .ref a), (2, .int v2_b38)]) (st' := [.ref a, .int v2_b38]) [(38, .iload_n 2, 1, .null), (39, .aload_n 0, 1, .null)] (by decide +kernel) rfl ?_
      refine aw_gl (v := .ref (a + 11)) a 0 h0 eo_D_0 fgX1_28 rfl (by decide +kernel) ?_
      refine aw_all (ci := 5) (N := 6) (v := (6 : Int32)) a 11 h0 rfl (x := fun _ a _ => .inr (.inr (.inr (.inr fun k => if k < 6 then some (a + (3 * k + 15)) else none)))) (fun _ _ => rfl) rfl (by decide +kernel) (by decide +kernel) ?_
      refine aw_ic_ge (off := 25) 69 (by decide) (by decide +kernel) (fun hc => ?_) (fun hc => ?_)
      · have hm := (if_pos hc).symm.trans hm
        cases hm
        refine aw_lv (lv' := [(0, .ref a)]) [0] rfl ?_
        exact X38_69 s_b38 H_b38 h0 h1 hs ((congrArg fX1_begin_k38 (show (s_b38) = x38 from hk38)).trans hr38)
      · have hm := (if_neg hc).symm.trans hm
        refine aw_b (pc' := 48) (lv' := [(0, .ref a), (2, .int v2_b38)]) (st' := [.ref a]) [(47, .aload_n 0, 1, .null)] (by decide +kernel) rfl ?_
        refine aw_gl (v := .ref (a + 11)) a 0 h0 eo_D_0 fgX1_28 rfl (by decide +kernel) ?_
        refine aw_b (pc' := 52) (lv' := [(0, .ref a), (2, .int v2_b38)]) (st' := [.int v2_b38, .ref (a + 11)]) [(51, .iload_n 2, 1, .null)] (by decide +kernel) rfl ?_
        obtain ⟨g51, hm⟩ := gd_x hm
        refine aw_rall a 11 h0 ra_D_11 g51 (by decide +kernel) ?_
        refine aw_b (pc' := 54) (lv' := [(0, .ref a), (2, .int v2_b38)]) (st' := [.ref a, .ref (a + (3 * ix_ v2_b38 + 15))]) [(53, .aload_n 0, 1, .null)] (by decide +kernel) rfl ?_
        refine aw_gl (v := .ref (a + 1)) a 0 h0 eo_D_0 fgX1_12 rfl (by decide +kernel) ?_
        refine aw_gl (v := .int (s_b38 1 1)) a 1 h0 eo_D_1 fgX1_46 rfl (by decide +kernel) ?_
        obtain ⟨r52, e53, hm⟩ := bn_x hm
        have q54 := ib_lt g51
        refine aw_cv (rest := []) (st1 := []) a (3 * ix_ v2_b38 + 15) (kX0_begin e53 (h0.sub (so_D_15 _ (ib_lt g51))) (Nat.le_trans hf (Nat.le_add_right _ _))) rfl rfl ckX0_begin lkX1_50 h0 (eow_D_15 _ (ib_lt g51)) ⟨_, _, rfl⟩ nkX0_begin rfl rfl rfl (Nat.le_of_ble_eq_true rfl) (Nat.zero_le _) (Nat.zero_le _) (by decide +kernel) (fun H55 z56 => ?_)
        obtain ⟨z56, hn⟩ := z56
        obtain ⟨s57, e58, hm⟩ := bd_x hm
        have h0 := h0.mg (so_D_15 _ (ib_lt g51)) hn z56 rfl e58
        have h1 := h1.kept (n := 4) z56 rfl (by omega)
        have hs := hs.step z56 (by omega) (by omega)
        refine aw_b (pc' := 38) (lv' := [(2, .int (v2_b38 + (1 : Int32))), (0, .ref a)]) (st' := []) [(63, .iinc 2 1, 3, .int (1 : Int32)), (66, .goto (-28), 3, .null)] (by decide +kernel) rfl ?_
        cases hm
        refine aw_lv (lv' := [(0, .ref a), (2, .int (v2_b38 + (1 : Int32)))]) [1, 0] rfl ?_
        exact ih38 (v2_b38 + (1 : Int32)) s57 H55 h0 h1 hs hk38
  refine aw_lv (lv' := [(0, .ref a), (2, .int (0 : Int32))]) [1, 0] rfl ?_
  exact L38 FU_ (0 : Int32) s17 H15 h0 h1 hs hx38
def mX1_copyFrom : mt_ := (yX1_copyFrom, cX1_copyFrom, 3, none, [], { frames := 2, locals := 69, cells := 0, slots := 0 })
theorem ckX1_copyFrom : cokV_ mX1_copyFrom := ⟨⟨(uw_mem 1383 (by decide +kernel) (by decide +kernel)), (uw_mem 33 (by decide +kernel) (by decide +kernel)), by decide +kernel, by decide +kernel⟩, (uw_mem 1381 (by decide +kernel) (by decide +kernel)), (uw_mem 1382 (by decide +kernel) (by decide +kernel))⟩
theorem nkX1_copyFrom : nok_ mX1_copyFrom 1 := by decide +kernel
theorem lkX1_81 : Cond.methodLink RX1 81 yX0_copyFrom ∈ uw_ := (uw_mem 1384 (by decide +kernel) (by decide +kernel))
theorem cpX1_84 : al_ RX1 84 := ⟨(uw_mem 1389 (by decide +kernel) (by decide +kernel)), (uw_mem 451 (by decide +kernel) (by decide +kernel)), (uw_mem 450 (by decide +kernel) (by decide +kernel)), (uw_mem 37 (by decide +kernel) (by decide +kernel))⟩
theorem fgX1_60 : fok_ RX1 60 1 7 := ⟨_, _, _, rfl, by decide, (uw_mem 295 (by decide +kernel) (by decide +kernel)), wkX1⟩
theorem fgX1_63 : fok_ RX1 63 1 8 := ⟨_, _, _, rfl, by decide, (uw_mem 297 (by decide +kernel) (by decide +kernel)), wkX1⟩
theorem fgX1_66 : fok_ RX1 66 1 9 := ⟨_, _, _, rfl, by decide, (uw_mem 298 (by decide +kernel) (by decide +kernel)), wkX1⟩
theorem fgX1_69 : fok_ RX1 69 1 10 := ⟨_, _, _, rfl, by decide, (uw_mem 300 (by decide +kernel) (by decide +kernel)), wkX1⟩
theorem fgX1_72 : fok_ RX1 72 1 11 := ⟨_, _, _, rfl, by decide, (uw_mem 301 (by decide +kernel) (by decide +kernel)), wkX1⟩
theorem fgX1_75 : fok_ RX1 75 1 12 := ⟨_, _, _, rfl, by decide, (uw_mem 303 (by decide +kernel) (by decide +kernel)), wkX1⟩
theorem fgX1_78 : fok_ RX1 78 1 13 := ⟨_, _, _, rfl, by decide, (uw_mem 305 (by decide +kernel) (by decide +kernel)), wkX1⟩
theorem kX1_copyFrom {E : ev_} {H : Heap} {a b : Nat} {s : st_} {t : st_} {r : st_} (hm : fX1_copyFrom s t = some r) (h0 : has_ E H a ly_D s) (h1 : has_ E H b ly_D t) (hf : ev_fr E a) (d1 : a + 33 ≤ b ∨ b + 33 ≤ a) : sp_ E mX1_copyFrom [.ref a, .ref b] H (po1 (.inl (none)) (fun Hn => sm_ H Hn a 33 ∧ has_ E Hn a ly_D r)) := by
  refine sp_of (by decide +kernel) rfl rfl ?_
  generalize hQ : po1 _ _ = Q
  have hs : sm_ H H a 33 := sm_.rfl'
  unfold fX1_copyFrom at hm
  refine aw_lv (lv' := [(0, .ref a), (1, .ref b)]) [0, 1] rfl ?_
  refine aw_b (pc' := 1) (lv' := [(0, .ref a), (1, .ref b)]) (st' := [.ref a]) [(0, .aload_n 0, 1, .null)] (by decide +kernel) rfl ?_
  refine aw_gl (v := .ref (a + 1)) a 0 h0 eo_D_0 fgX1_12 rfl (by decide +kernel) ?_
  refine aw_b (pc' := 5) (lv' := [(0, .ref a), (1, .ref b)]) (st' := [.ref b, .ref (a + 1)]) [(4, .aload_n 1, 1, .null)] (by decide +kernel) rfl ?_
  refine aw_gl (v := .ref (b + 1)) b 0 h1 eo_D_0 fgX1_12 rfl (by decide +kernel) ?_
  obtain ⟨r1, e2, hm⟩ := bn_x hm
  refine aw_cv (rest := []) (st1 := []) a 1 (kX5_copyFrom e2 (h0.sub su_D_1_S) (h1.sub su_D_1_S) (Nat.le_trans hf (Nat.le_add_right _ _)) (by omega)) rfl rfl ckX5_copyFrom lkX1_42 h0 eo_D_1 ⟨_, _, rfl⟩ nkX5_copyFrom rfl rfl rfl (Nat.le_of_ble_eq_true rfl) (Nat.zero_le _) (Nat.zero_le _) (by decide +kernel) (fun H3 z4 => ?_)
  obtain ⟨z4, hn⟩ := z4
  obtain ⟨s5, e6, hm⟩ := bd_x hm
  have h0 := h0.mg su_D_1_S hn z4 rfl e6
  have h1 := h1.kept (n := 33) z4 rfl (by omega)
  have hs := hs.step z4 (by omega) (by omega)
  refine aw_b (pc' := 12) (lv' := [(0, .ref a), (1, .ref b)]) (st' := [.ref a]) [(11, .aload_n 0, 1, .null)] (by decide +kernel) rfl ?_
  refine aw_gl (v := .ref (a + 5)) a 0 h0 eo_D_0 fgX1_21 rfl (by decide +kernel) ?_
  refine aw_b (pc' := 16) (lv' := [(0, .ref a), (1, .ref b)]) (st' := [.ref b, .ref (a + 5)]) [(15, .aload_n 1, 1, .null)] (by decide +kernel) rfl ?_
  refine aw_gl (v := .ref (b + 5)) b 0 h1 eo_D_0 fgX1_21 rfl (by decide +kernel) ?_
  obtain ⟨r7, e8, hm⟩ := bn_x hm
  refine aw_cv (rest := []) (st1 := []) a 5 (kX0_copyFrom e8 (h0.sub su_D_5_A) (h1.sub su_D_5_A) (Nat.le_trans hf (Nat.le_add_right _ _)) (by omega)) rfl rfl ckX0_copyFrom lkX1_81 h0 eo_D_5 ⟨_, _, rfl⟩ nkX0_copyFrom rfl rfl rfl (Nat.le_of_ble_eq_true rfl) (Nat.zero_le _) (Nat.zero_le _) (by decide +kernel) (fun H9 z10 => ?_)
  obtain ⟨z10, hn⟩ := z10
  obtain ⟨s11, e12, hm⟩ := bd_x hm
  have h0 := h0.mg su_D_5_A hn z10 rfl e12
  have h1 := h1.kept (n := 33) z10 rfl (by omega)
  have hs := hs.step z10 (by omega) (by omega)
  refine aw_b (pc' := 23) (lv' := [(0, .ref a), (1, .ref b)]) (st' := [.ref a]) [(22, .aload_n 0, 1, .null)] (by decide +kernel) rfl ?_
  refine aw_gl (v := .ref (a + 8)) a 0 h0 eo_D_0 fgX1_25 rfl (by decide +kernel) ?_
  refine aw_b (pc' := 27) (lv' := [(0, .ref a), (1, .ref b)]) (st' := [.ref b, .ref (a + 8)]) [(26, .aload_n 1, 1, .null)] (by decide +kernel) rfl ?_
  refine aw_gl (v := .ref (b + 8)) b 0 h1 eo_D_0 fgX1_25 rfl (by decide +kernel) ?_
  obtain ⟨r13, e14, hm⟩ := bn_x hm
  refine aw_cv (rest := []) (st1 := []) a 8 (kX0_copyFrom e14 (h0.sub su_D_8_A) (h1.sub su_D_8_A) (Nat.le_trans hf (Nat.le_add_right _ _)) (by omega)) rfl rfl ckX0_copyFrom lkX1_81 h0 eo_D_8 ⟨_, _, rfl⟩ nkX0_copyFrom rfl rfl rfl (Nat.le_of_ble_eq_true rfl) (Nat.zero_le _) (Nat.zero_le _) (by decide +kernel) (fun H15 z16 => ?_)
  obtain ⟨z16, hn⟩ := z16
  obtain ⟨s17, e18, hm⟩ := bd_x hm
  have h0 := h0.mg su_D_8_A hn z16 rfl e18
  have h1 := h1.kept (n := 33) z16 rfl (by omega)
  have hs := hs.step z16 (by omega) (by omega)
  refine aw_b (pc' := 35) (lv' := [(2, .int (0 : Int32)), (0, .ref a), (1, .ref b)]) (st' := []) [(33, .iconst 0, 1, .int (0 : Int32)), (34, .istore_n 2, 1, .null)] (by decide +kernel) rfl ?_
  obtain ⟨x35, hx35, hr35⟩ := bn_x hm
  have X35_65 : ∀ (s_x35_65 : st_) (H_x35_65 : Heap), has_ E H_x35_65 a ly_D s_x35_65 → has_ E H_x35_65 b ly_D t → sm_ H H_x35_65 a 33 → fX1_copyFrom_x35_65 t s_x35_65 = some r → aw E mX1_copyFrom Q 65 [(0, .ref a), (1, .ref b)] [] H_x35_65 0 0 := by
    intro s_x35_65 H_x35_65 h0 h1 hs hm
    unfold fX1_copyFrom_x35_65 at hm
    refine aw_b (pc' := 66) (lv' := [(0, .ref a), (1, .ref b)]) (st' := [.ref b]) [(65, .aload_n 1, 1, .null)] (by decide +kernel) rfl ?_
    refine aw_gl (v := .ref (b + 12)) b 0 h1 eo_D_0 fgX1_32 rfl (by decide +kernel) ?_
    refine aw_b (pc' := 71) (lv' := [(0, .ref a), (1, .ref b)]) (st' := [.ref a, .int (0 : Int32), .ref (b + 12)]) [(69, .iconst 0, 1, .int (0 : Int32)), (70, .aload_n 0, 1, .null)] (by decide +kernel) rfl ?_
    refine aw_gl (v := .ref (a + 12)) a 0 h0 eo_D_0 fgX1_32 rfl (by decide +kernel) ?_
    refine aw_b (pc' := 76) (lv' := [(0, .ref a), (1, .ref b)]) (st' := [.ref a, .int (0 : Int32), .ref (a + 12), .int (0 : Int32), .ref (b + 12)]) [(74, .iconst 0, 1, .int (0 : Int32)), (75, .aload_n 0, 1, .null)] (by decide +kernel) rfl ?_
    refine aw_gl (v := .ref (a + 12)) a 0 h0 eo_D_0 fgX1_32 rfl (by decide +kernel) ?_
    refine aw_all (ci := 0) (N := 6) (v := (6 : Int32)) a 12 h0 rfl (x := fun _ _ c => .inl c) (fun _ _ => rfl) rfl (by decide +kernel) (by decide +kernel) ?_
    obtain ⟨s19, e20, hm⟩ := bd_x hm
    refine aw_cpl (rest := []) b 12 a 12 h0 rfl h1 rfl cpX1_84 hf (by decide) (by decide +kernel) e20 rfl (Nat.le_of_ble_eq_true rfl) (by decide +kernel) (fun H21 h0 z22 => ?_)
    have h1 := h1.kept (n := 33) z22 rfl (by omega)
    have hs := hs.step z22 (by omega) (by omega)
    refine aw_b (pc' := 85) (lv' := [(0, .ref a), (1, .ref b)]) (st' := [.ref b, .ref a]) [(83, .aload_n 0, 1, .null), (84, .aload_n 1, 1, .null)] (by decide +kernel) rfl ?_
    refine aw_gl (v := .int (t 0 7)) b 0 h1 eo_D_0 fgX1_60 rfl (by decide +kernel) ?_
    obtain ⟨s23, e24, hm⟩ := bd_x hm
    refine aw_pl a 0 h0 eo_D_0 fsq_1_7 fpX1_60 hf rfl rfl e24 (by decide +kernel) (fun H25 h0 z26 => ?_)
    have h1 := h1.kept (n := 33) z26 rfl (by omega)
    have hs := hs.step z26 (by omega) (by omega)
    refine aw_b (pc' := 93) (lv' := [(0, .ref a), (1, .ref b)]) (st' := [.ref b, .ref a]) [(91, .aload_n 0, 1, .null), (92, .aload_n 1, 1, .null)] (by decide +kernel) rfl ?_
    refine aw_gl (v := .int (t 0 8)) b 0 h1 eo_D_0 fgX1_63 rfl (by decide +kernel) ?_
    obtain ⟨s27, e28, hm⟩ := bd_x hm
    refine aw_pl a 0 h0 eo_D_0 fsq_1_8 fpX1_63 hf rfl rfl e28 (by decide +kernel) (fun H29 h0 z30 => ?_)
    have h1 := h1.kept (n := 33) z30 rfl (by omega)
    have hs := hs.step z30 (by omega) (by omega)
    refine aw_b (pc' := 101) (lv' := [(0, .ref a), (1, .ref b)]) (st' := [.ref b, .ref a]) [(99, .aload_n 0, 1, .null), (100, .aload_n 1, 1, .null)] (by decide +kernel) rfl ?_
    refine aw_gl (v := .int (t 0 9)) b 0 h1 eo_D_0 fgX1_66 rfl (by decide +kernel) ?_
    obtain ⟨s31, e32, hm⟩ := bd_x hm
    refine aw_pl a 0 h0 eo_D_0 fsq_1_9 fpX1_66 hf rfl rfl e32 (by decide +kernel) (fun H33 h0 z34 => ?_)
    have h1 := h1.kept (n := 33) z34 rfl (by omega)
    have hs := hs.step z34 (by omega) (by omega)
    refine aw_b (pc' := 109) (lv' := [(0, .ref a), (1, .ref b)]) (st' := [.ref b, .ref a]) [(107, .aload_n 0, 1, .null), (108, .aload_n 1, 1, .null)] (by decide +kernel) rfl ?_
    refine aw_gl (v := .int (t 0 10)) b 0 h1 eo_D_0 fgX1_69 rfl (by decide +kernel) ?_
    obtain ⟨s35, e36, hm⟩ := bd_x hm
    refine aw_pl a 0 h0 eo_D_0 fsq_1_10 fpX1_69 hf rfl rfl e36 (by decide +kernel) (fun H37 h0 z38 => ?_)
    have h1 := h1.kept (n := 33) z38 rfl (by omega)
    have hs := hs.step z38 (by omega) (by omega)
    refine aw_b (pc' := 117) (lv' := [(0, .ref a), (1, .ref b)]) (st' := [.ref b, .ref a]) [(115, .aload_n 0, 1, .null), (116, .aload_n 1, 1, .null)] (by decide +kernel) rfl ?_
    refine aw_gl (v := .int (t 0 11)) b 0 h1 eo_D_0 fgX1_72 rfl (by decide +kernel) ?_
    obtain ⟨s39, e40, hm⟩ := bd_x hm
    refine aw_pl a 0 h0 eo_D_0 fsq_1_11 fpX1_72 hf rfl rfl e40 (by decide +kernel) (fun H41 h0 z42 => ?_)
    have h1 := h1.kept (n := 33) z42 rfl (by omega)
    have hs := hs.step z42 (by omega) (by omega)
    refine aw_b (pc' := 125) (lv' := [(0, .ref a), (1, .ref b)]) (st' := [.ref b, .ref a]) [(123, .aload_n 0, 1, .null), (124, .aload_n 1, 1, .null)] (by decide +kernel) rfl ?_
    refine aw_gl (v := .int (t 0 12)) b 0 h1 eo_D_0 fgX1_75 rfl (by decide +kernel) ?_
    obtain ⟨s43, e44, hm⟩ := bd_x hm
    refine aw_pl a 0 h0 eo_D_0 fsq_1_12 fpX1_75 hf rfl rfl e44 (by decide +kernel) (fun H45 h0 z46 => ?_)
    have h1 := h1.kept (n := 33) z46 rfl (by omega)
    have hs := hs.step z46 (by omega) (by omega)
    refine aw_b (pc' := 133) (lv' := [(0, .ref a), (1, .ref b)]) (st' := [.ref b, .ref a]) [(131, .aload_n 0, 1, .null), (132, .aload_n 1, 1, .null)] (by decide +kernel) rfl ?_
    refine aw_gl (v := .int (t 0 13)) b 0 h1 eo_D_0 fgX1_78 rfl (by decide +kernel) ?_
    obtain ⟨s47, e48, hm⟩ := bd_x hm
    refine aw_pl a 0 h0 eo_D_0 fsq_1_13 fpX1_78 hf rfl rfl e48 (by decide +kernel) (fun H49 h0 z50 => ?_)
    have h1 := h1.kept (n := 33) z50 rfl (by omega)
    have hs := hs.step z50 (by omega) (by omega)
    obtain rfl := Option.some.inj hm
    subst hQ
    exact aw_vret rfl (Nat.zero_le _) (Nat.zero_le _) (by decide +kernel) ⟨rfl, hs, h0⟩
  have L35 : ∀ (fu : Nat) (v2_b35 : Int32) (s_b35 : st_) (H_b35 : Heap), has_ E H_b35 a ly_D s_b35 → has_ E H_b35 b ly_D t → sm_ H H_b35 a 33 → fX1_copyFrom_l35 t fu (v2_b35, s_b35) = some x35 → aw E mX1_copyFrom Q 35 [(0, .ref a), (1, .ref b), (2, .int v2_b35)] [] H_b35 0 0 := by
    intro fu
    induction fu with
    | zero =>
      intro v2_b35 s_b35 H_b35 h0 h1 hs hm
      exact (it_0 hm).elim
    | succ fu ih35 =>
      intro v2_b35 s_b35 H_b35 h0 h1 hs hm
      obtain ⟨y35, hm, hk35⟩ := it_s hm
      have hm : fX1_copyFrom_b35 t v2_b35 s_b35 = some y35 := hm
      unfold fX1_copyFrom_b35 at hm
      refine aw_b (pc' := 37) (lv' := [(0, .ref a), (1, .ref b), (2, .int v2_b35)]) (st' := [.ref a, .int v2_b35]) [(35, .iload_n 2, 1, .null), (36, .aload_n 0, 1, .null)] (by decide +kernel) rfl ?_
      refine aw_gl (v := .ref (a + 11)) a 0 h0 eo_D_0 fgX1_28 rfl (by decide +kernel) ?_
      refine aw_all (ci := 5) (N := 6) (v := (6 : Int32)) a 11 h0 rfl (x := fun _ a _ => .inr (.inr (.inr (.inr fun k => if k < 6 then some (a + (3 * k + 15)) else none)))) (fun _ _ => rfl) rfl (by decide +kernel) (by decide +kernel) ?_
      refine aw_ic_ge (off := 24) 65 (by decide) (by decide +kernel) (fun hc => ?_) (fun hc => ?_)
      · have hm := (if_pos hc).symm.trans hm
        cases hm
        refine aw_lv (lv' := [(0, .ref a), (1, .ref b)]) [0, 1] rfl ?_
        exact X35_65 s_b35 H_b35 h0 h1 hs ((congrArg (fX1_copyFrom_k35 t) (show (s_b35) = x35 from hk35)).trans hr35)
      · have hm := (if_neg hc).symm.trans hm
        refine aw_b (pc' := 45) (lv' := [(0, .ref a), (1, .ref b), (2, .int v2_b35)]) (st' := [.ref a]) [(44, .aload_n 0, 1, .null)] (by decide +kernel) rfl ?_
        refine aw_gl (v := .ref (a + 11)) a 0 h0 eo_D_0 fgX1_28 rfl (by decide +kernel) ?_
        refine aw_b (pc' := 49) (lv' := [(0, .ref a), (1, .ref b), (2, .int v2_b35)]) (st' := [.int v2_b35, .ref (a + 11)]) [(48, .iload_n 2, 1, .null)] (by decide +kernel) rfl ?_
        obtain ⟨g51, hm⟩ := gd_x hm
        refine aw_rall a 11 h0 ra_D_11 g51 (by decide +kernel) ?_
        refine aw_b (pc' := 51) (lv' := [(0, .ref a), (1, .ref b), (2, .int v2_b35)]) (st' := [.ref b, .ref (a + (3 * ix_ v2_b35 + 15))]) [(50, .aload_n 1, 1, .null)] (by decide +kernel) rfl ?_
        refine aw_gl (v := .ref (b + 11)) b 0 h1 eo_D_0 fgX1_28 rfl (by decide +kernel) ?_
        refine aw_b (pc' := 55) (lv' := [(0, .ref a), (1, .ref b), (2, .int v2_b35)]) (st' := [.int v2_b35, .ref (b + 11), .ref (a + (3 * ix_ v2_b35 + 15))]) [(54, .iload_n 2, 1, .null)] (by decide +kernel) rfl ?_
        obtain ⟨g52, hm⟩ := gd_x hm
        refine aw_rall b 11 h1 ra_D_11 g52 (by decide +kernel) ?_
        obtain ⟨r53, e54, hm⟩ := bn_x hm
        have q55 := ib_lt g51
        have q56 := ib_lt g52
        refine aw_cv (rest := []) (st1 := []) a (3 * ix_ v2_b35 + 15) (kX0_copyFrom e54 (h0.sub (so_D_15 _ (ib_lt g51))) (h1.sub (so_D_15 _ (ib_lt g52))) (Nat.le_trans hf (Nat.le_add_right _ _)) (by omega)) rfl rfl ckX0_copyFrom lkX1_81 h0 (eow_D_15 _ (ib_lt g51)) ⟨_, _, rfl⟩ nkX0_copyFrom rfl rfl rfl (Nat.le_of_ble_eq_true rfl) (Nat.zero_le _) (Nat.zero_le _) (by decide +kernel) (fun H57 z58 => ?_)
        obtain ⟨z58, hn⟩ := z58
        obtain ⟨s59, e60, hm⟩ := bd_x hm
        have h0 := h0.mg (so_D_15 _ (ib_lt g51)) hn z58 rfl e60
        have h1 := h1.kept (n := 33) z58 rfl (by omega)
        have hs := hs.step z58 (by omega) (by omega)
        refine aw_b (pc' := 35) (lv' := [(2, .int (v2_b35 + (1 : Int32))), (0, .ref a), (1, .ref b)]) (st' := []) [(59, .iinc 2 1, 3, .int (1 : Int32)), (62, .goto (-27), 3, .null)] (by decide +kernel) rfl ?_
        cases hm
        refine aw_lv (lv' := [(0, .ref a), (1, .ref b), (2, .int (v2_b35 + (1 : Int32)))]) [1, 2, 0] rfl ?_
        exact ih35 (v2_b35 + (1 : Int32)) s59 H57 h0 h1 hs hk35
  refine aw_lv (lv' := [(0, .ref a), (1, .ref b), (2, .int (0 : Int32))]) [1, 2, 0] rfl ?_
  exact L35 FU_ (0 : Int32) s17 H15 h0 h1 hs hx35
def mX1_takeBudget : mt_ := (yX1_takeBudget, cX1_takeBudget, 2, none, [], { frames := 0, locals := 0, cells := 0, slots := 0 })
theorem ckX1_takeBudget : cokV_ mX1_takeBudget := ⟨⟨(uw_mem 1051 (by decide +kernel) (by decide +kernel)), (uw_mem 33 (by decide +kernel) (by decide +kernel)), by decide +kernel, by decide +kernel⟩, (uw_mem 1049 (by decide +kernel) (by decide +kernel)), (uw_mem 1050 (by decide +kernel) (by decide +kernel))⟩
theorem nkX1_takeBudget : nok_ mX1_takeBudget 1 := by decide +kernel
theorem fpX1_91 : fpk_ RX1 91 5 16 .int := ⟨_, _, _, tyX5, rfl, by decide, (uw_mem 125 (by decide +kernel) (by decide +kernel)), wkX5, tyX5_ok, nmX5, rfl, by decide +kernel⟩
theorem kX1_takeBudget {E : ev_} {H : Heap} {a : Nat} {s : st_} {i0 : Int32} {r : st_} (hm : fX1_takeBudget s i0 = some r) (h0 : has_ E H a ly_D s) (hf : ev_fr E a) : sp_ E mX1_takeBudget [.ref a, .int i0] H (po1 (.inl (none)) (fun Hn => sm_ H Hn a 33 ∧ has_ E Hn a ly_D r)) := by
  refine sp_of (by decide +kernel) rfl rfl ?_
  generalize hQ : po1 _ _ = Q
  have hs : sm_ H H a 33 := sm_.rfl'
  unfold fX1_takeBudget at hm
  refine aw_lv (lv' := [(0, .ref a), (1, .int i0)]) [0, 1] rfl ?_
  refine aw_b (pc' := 1) (lv' := [(0, .ref a), (1, .int i0)]) (st' := [.ref a]) [(0, .aload_n 0, 1, .null)] (by decide +kernel) rfl ?_
  refine aw_gl (v := .ref (a + 1)) a 0 h0 eo_D_0 fgX1_12 rfl (by decide +kernel) ?_
  refine aw_b (pc' := 5) (lv' := [(0, .ref a), (1, .int i0)]) (st' := [.int i0, .ref (a + 1)]) [(4, .iload_n 1, 1, .null)] (by decide +kernel) rfl ?_
  obtain ⟨s1, e2, hm⟩ := bd_x hm
  refine aw_pl a 1 h0 eo_D_1 fsq_5_16 fpX1_91 hf rfl rfl e2 (by decide +kernel) (fun H3 h0 z4 => ?_)
  have hs := hs.step z4 (by omega) (by omega)
  refine aw_b (pc' := 10) (lv' := [(0, .ref a), (1, .int i0)]) (st' := [.int (0 : Int32), .ref a]) [(8, .aload_n 0, 1, .null), (9, .iconst 0, 1, .int (0 : Int32))] (by decide +kernel) rfl ?_
  obtain ⟨s5, e6, hm⟩ := bd_x hm
  refine aw_pl a 0 h0 eo_D_0 fsq_1_11 fpX1_72 hf rfl rfl e6 (by decide +kernel) (fun H7 h0 z8 => ?_)
  have hs := hs.step z8 (by omega) (by omega)
  obtain rfl := Option.some.inj hm
  subst hQ
  exact aw_vret rfl (Nat.zero_le _) (Nat.zero_le _) (by decide +kernel) ⟨rfl, hs, h0⟩
def mX1_armOf : mt_ := (yX1_armOf, cX1_armOf, 2, some (.object "ArmDuel$Arm"), [], { frames := 1, locals := 21, cells := 0, slots := 0 })
theorem ckX1_armOf : cokV_ mX1_armOf := ⟨⟨(uw_mem 1206 (by decide +kernel) (by decide +kernel)), (uw_mem 33 (by decide +kernel) (by decide +kernel)), by decide +kernel, by decide +kernel⟩, (uw_mem 1204 (by decide +kernel) (by decide +kernel)), (uw_mem 1205 (by decide +kernel) (by decide +kernel))⟩
theorem nkX1_armOf : nok_ mX1_armOf 1 := by decide +kernel
theorem lkX1_94 : Cond.methodLink RX1 94 yX5_hasRule ∈ uw_ := (uw_mem 1103 (by decide +kernel) (by decide +kernel))
theorem kX1_armOf {E : ev_} {H : Heap} {a : Nat} {s : st_} {i0 : Int32} {r : Nat} (hm : fX1_armOf s i0 = some r) (h0 : has_ E H a ly_D s) : sp_ E mX1_armOf [.ref a, .int i0] H (po1 (.inl (some (.ref (a + r)))) (fun Hn => sm_ H Hn 0 0 ∧ aro_ r)) := by
  refine sp_of (by decide +kernel) rfl rfl ?_
  generalize hQ : po1 _ _ = Q
  have hs : sm_ H H 0 0 := sm_.rfl'
  unfold fX1_armOf at hm
  refine aw_lv (lv' := [(0, .ref a), (1, .int i0)]) [0, 1] rfl ?_
  refine aw_b (pc' := 1) (lv' := [(0, .ref a), (1, .int i0)]) (st' := [.ref a]) [(0, .aload_n 0, 1, .null)] (by decide +kernel) rfl ?_
  refine aw_gl (v := .ref (a + 1)) a 0 h0 eo_D_0 fgX1_12 rfl (by decide +kernel) ?_
  refine aw_b (pc' := 5) (lv' := [(0, .ref a), (1, .int i0)]) (st' := [.int i0, .ref (a + 1)]) [(4, .iload_n 1, 1, .null)] (by decide +kernel) rfl ?_
  obtain ⟨r1, e2, hm⟩ := bn_x hm
  refine aw_cv (rest := []) (st1 := [.int r1]) a 1 (kX5_hasRule e2 (h0.sub su_D_1_S)) rfl rfl ckX5_hasRule lkX1_94 h0 eo_D_1 ⟨_, _, rfl⟩ nkX5_hasRule rfl rfl rfl (Nat.le_of_ble_eq_true rfl) (Nat.zero_le _) (Nat.zero_le _) (by decide +kernel) (fun H3 z4 => ?_)
  have h0 := h0.kept0 z4
  have hs := hs.step0 z4
  refine aw_if_eq (off := 12) 20 (by decide) (by decide +kernel) (fun hc => ?_) (fun hc => ?_)
  · have hm := (if_pos hc).symm.trans hm
    refine aw_b (pc' := 21) (lv' := [(0, .ref a), (1, .int i0)]) (st' := [.ref a]) [(20, .aload_n 0, 1, .null)] (by decide +kernel) rfl ?_
    refine aw_gl (v := .ref (a + 5)) a 0 h0 eo_D_0 fgX1_21 rfl (by decide +kernel) ?_
    obtain rfl := Option.some.inj hm
    subst hQ
    exact aw_aret rfl (Nat.zero_le _) (Nat.zero_le _) (by decide +kernel) ⟨rfl, hs, (Or.inl rfl)⟩
  · have hm := (if_neg hc).symm.trans hm
    refine aw_b (pc' := 12) (lv' := [(0, .ref a), (1, .int i0)]) (st' := [.ref a]) [(11, .aload_n 0, 1, .null)] (by decide +kernel) rfl ?_
    refine aw_gl (v := .ref (a + 11)) a 0 h0 eo_D_0 fgX1_28 rfl (by decide +kernel) ?_
    refine aw_b (pc' := 16) (lv' := [(0, .ref a), (1, .int i0)]) (st' := [.int i0, .ref (a + 11)]) [(15, .iload_n 1, 1, .null)] (by decide +kernel) rfl ?_
    obtain ⟨g5, hm⟩ := gd_x hm
    refine aw_rall a 11 h0 ra_D_11 g5 (by decide +kernel) ?_
    refine aw_b (pc' := 24) (lv' := [(0, .ref a), (1, .int i0)]) (st' := [.ref (a + (3 * ix_ i0 + 15))]) [(17, .goto 7, 3, .null)] (by decide +kernel) rfl ?_
    obtain rfl := Option.some.inj hm
    subst hQ
    exact aw_aret rfl (Nat.zero_le _) (Nat.zero_le _) (by decide +kernel) ⟨rfl, hs, (Or.inr ⟨_, ib_lt g5, rfl⟩)⟩
def mX1_isFull : mt_ := (yX1_isFull, cX1_isFull, 1, some .boolean, [], { frames := 0, locals := 0, cells := 0, slots := 0 })
theorem ckX1_isFull : cokV_ mX1_isFull := ⟨⟨(uw_mem 989 (by decide +kernel) (by decide +kernel)), (uw_mem 33 (by decide +kernel) (by decide +kernel)), by decide +kernel, by decide +kernel⟩, (uw_mem 987 (by decide +kernel) (by decide +kernel)), (uw_mem 988 (by decide +kernel) (by decide +kernel))⟩
theorem nkX1_isFull : nok_ mX1_isFull 0 := by decide +kernel
theorem fgX1_98 : fok_ RX1 98 0 2 := ⟨_, _, _, rfl, by decide, (uw_mem 229 (by decide +kernel) (by decide +kernel)), wkX0⟩
theorem kX1_isFull {E : ev_} {H : Heap} {a : Nat} {s : st_} {r : Int32} (hm : fX1_isFull s = some r) (h0 : has_ E H a ly_D s) : sp_ E mX1_isFull [.ref a] H (po1 (.inl (some (.int r))) (fun Hn => sm_ H Hn 0 0)) := by
  refine sp_of (by decide +kernel) rfl rfl ?_
  generalize hQ : po1 _ _ = Q
  have hs : sm_ H H 0 0 := sm_.rfl'
  unfold fX1_isFull at hm
  refine aw_lv (lv' := [(0, .ref a)]) [0] rfl ?_
  refine aw_b (pc' := 1) (lv' := [(0, .ref a)]) (st' := [.ref a]) [(0, .aload_n 0, 1, .null)] (by decide +kernel) rfl ?_
  refine aw_gl (v := .ref (a + 5)) a 0 h0 eo_D_0 fgX1_21 rfl (by decide +kernel) ?_
  refine aw_gl (v := .int (s 5 2)) a 5 h0 eo_D_5 fgX1_98 rfl (by decide +kernel) ?_
  refine aw_b (pc' := 9) (lv' := [(0, .ref a)]) (st' := [.int (20 : Int32), .int (s 5 2)]) [(7, .bipush 20, 2, .int (20 : Int32))] (by decide +kernel) rfl ?_
  refine aw_ic_lt (off := 7) 16 (by decide) (by decide +kernel) (fun hc => ?_) (fun hc => ?_)
  · have hm := (if_pos hc).symm.trans hm
    refine aw_b (pc' := 17) (lv' := [(0, .ref a)]) (st' := [.int (0 : Int32)]) [(16, .iconst 0, 1, .int (0 : Int32))] (by decide +kernel) rfl ?_
    obtain rfl := Option.some.inj hm
    subst hQ
    exact aw_zret rfl (by decide +kernel) (Nat.zero_le _) (Nat.zero_le _) (by decide +kernel) ⟨rfl, hs⟩
  · have hm := (if_neg hc).symm.trans hm
    refine aw_b (pc' := 17) (lv' := [(0, .ref a)]) (st' := [.int (1 : Int32)]) [(12, .iconst 1, 1, .int (1 : Int32)), (13, .goto 4, 3, .null)] (by decide +kernel) rfl ?_
    obtain rfl := Option.some.inj hm
    subst hQ
    exact aw_zret rfl (by decide +kernel) (Nat.zero_le _) (Nat.zero_le _) (by decide +kernel) ⟨rfl, hs⟩
def mX1_addForAll : mt_ := (yX1_addForAll, cX1_addForAll, 3, none, [], { frames := 1, locals := 22, cells := 0, slots := 0 })
theorem ckX1_addForAll : cokV_ mX1_addForAll := ⟨⟨(uw_mem 993 (by decide +kernel) (by decide +kernel)), (uw_mem 33 (by decide +kernel) (by decide +kernel)), by decide +kernel, by decide +kernel⟩, (uw_mem 991 (by decide +kernel) (by decide +kernel)), (uw_mem 992 (by decide +kernel) (by decide +kernel))⟩
theorem nkX1_addForAll : nok_ mX1_addForAll 1 := by decide +kernel
theorem lkX1_101 : Cond.methodLink RX1 101 yX0_receive ∈ uw_ := (uw_mem 994 (by decide +kernel) (by decide +kernel))
theorem lkX1_108 : Cond.methodLink RX1 108 yX5_hasRival ∈ uw_ := (uw_mem 998 (by decide +kernel) (by decide +kernel))
theorem fgX1_105 : fok_ RX1 105 5 4 := ⟨_, _, _, rfl, by decide, (uw_mem 92 (by decide +kernel) (by decide +kernel)), wkX5⟩
theorem kX1_addForAll {E : ev_} {H : Heap} {a : Nat} {s : st_} {i0 : Int32} {r : st_} (hm : fX1_addForAll s i0 = some r) (h0 : has_ E H a ly_D s) (hf : ev_fr E a) : sp_ E mX1_addForAll [.ref a, .int i0] H (po1 (.inl (none)) (fun Hn => sm_ H Hn a 33 ∧ has_ E Hn a ly_D r)) := by
  refine sp_of (by decide +kernel) rfl rfl ?_
  generalize hQ : po1 _ _ = Q
  have hs : sm_ H H a 33 := sm_.rfl'
  unfold fX1_addForAll at hm
  refine aw_lv (lv' := [(0, .ref a), (1, .int i0)]) [0, 1] rfl ?_
  refine aw_b (pc' := 1) (lv' := [(0, .ref a), (1, .int i0)]) (st' := [.ref a]) [(0, .aload_n 0, 1, .null)] (by decide +kernel) rfl ?_
  refine aw_gl (v := .ref (a + 5)) a 0 h0 eo_D_0 fgX1_21 rfl (by decide +kernel) ?_
  refine aw_b (pc' := 6) (lv' := [(0, .ref a), (1, .int i0)]) (st' := [.ref a, .int i0, .ref (a + 5)]) [(4, .iload_n 1, 1, .null), (5, .aload_n 0, 1, .null)] (by decide +kernel) rfl ?_
  refine aw_gl (v := .int (s 0 9)) a 0 h0 eo_D_0 fgX1_66 rfl (by decide +kernel) ?_
  obtain ⟨r1, e2, hm⟩ := bn_x hm
  refine aw_cv (rest := []) (st1 := []) a 5 (kX0_receive e2 (h0.sub su_D_5_A) (Nat.le_trans hf (Nat.le_add_right _ _))) rfl rfl ckX0_receive lkX1_101 h0 eo_D_5 ⟨_, _, rfl⟩ nkX0_receive rfl rfl rfl (Nat.le_of_ble_eq_true rfl) (Nat.zero_le _) (Nat.zero_le _) (by decide +kernel) (fun H3 z4 => ?_)
  obtain ⟨z4, hn⟩ := z4
  obtain ⟨s5, e6, hm⟩ := bd_x hm
  have h0 := h0.mg su_D_5_A hn z4 rfl e6
  have hs := hs.step z4 (by omega) (by omega)
  refine aw_b (pc' := 14) (lv' := [(2, .int (0 : Int32)), (0, .ref a), (1, .int i0)]) (st' := []) [(12, .iconst 0, 1, .int (0 : Int32)), (13, .istore_n 2, 1, .null)] (by decide +kernel) rfl ?_
  obtain ⟨x14, hx14, hr14⟩ := bn_x hm
  have X14_45 : ∀ (s_x14_45 : st_) (H_x14_45 : Heap), has_ E H_x14_45 a ly_D s_x14_45 → sm_ H H_x14_45 a 33 → fX1_addForAll_x14_45 i0 s_x14_45 = some r → aw E mX1_addForAll Q 45 [(0, .ref a), (1, .int i0)] [] H_x14_45 0 0 := by
    intro s_x14_45 H_x14_45 h0 hs hm
    unfold fX1_addForAll_x14_45 at hm
    refine aw_b (pc' := 46) (lv' := [(0, .ref a), (1, .int i0)]) (st' := [.ref a]) [(45, .aload_n 0, 1, .null)] (by decide +kernel) rfl ?_
    refine aw_gl (v := .ref (a + 1)) a 0 h0 eo_D_0 fgX1_12 rfl (by decide +kernel) ?_
    obtain ⟨r7, e8, hm⟩ := bn_x hm
    refine aw_cv (rest := []) (st1 := [.int r7]) a 1 (kX5_hasRival e8 (h0.sub su_D_1_S)) rfl rfl ckX5_hasRival lkX1_108 h0 eo_D_1 ⟨_, _, rfl⟩ nkX5_hasRival rfl rfl rfl (Nat.le_of_ble_eq_true rfl) (Nat.zero_le _) (Nat.zero_le _) (by decide +kernel) (fun H9 z10 => ?_)
    have h0 := h0.kept0 z10
    have hs := hs.step0 z10
    refine aw_if_eq (off := 15) 67 (by decide) (by decide +kernel) (fun hc => ?_) (fun hc => ?_)
    · have hm := (if_pos hc).symm.trans hm
      obtain rfl := Option.some.inj hm
      subst hQ
      exact aw_vret rfl (Nat.zero_le _) (Nat.zero_le _) (by decide +kernel) ⟨rfl, hs, h0⟩
    · have hm := (if_neg hc).symm.trans hm
      refine aw_b (pc' := 56) (lv' := [(0, .ref a), (1, .int i0)]) (st' := [.ref a]) [(55, .aload_n 0, 1, .null)] (by decide +kernel) rfl ?_
      refine aw_gl (v := .ref (a + 8)) a 0 h0 eo_D_0 fgX1_25 rfl (by decide +kernel) ?_
      refine aw_b (pc' := 61) (lv' := [(0, .ref a), (1, .int i0)]) (st' := [.ref a, .int i0, .ref (a + 8)]) [(59, .iload_n 1, 1, .null), (60, .aload_n 0, 1, .null)] (by decide +kernel) rfl ?_
      refine aw_gl (v := .int (s_x14_45 0 9)) a 0 h0 eo_D_0 fgX1_66 rfl (by decide +kernel) ?_
      obtain ⟨r11, e12, hm⟩ := bn_x hm
      refine aw_cv (rest := []) (st1 := []) a 8 (kX0_receive e12 (h0.sub su_D_8_A) (Nat.le_trans hf (Nat.le_add_right _ _))) rfl rfl ckX0_receive lkX1_101 h0 eo_D_8 ⟨_, _, rfl⟩ nkX0_receive rfl rfl rfl (Nat.le_of_ble_eq_true rfl) (Nat.zero_le _) (Nat.zero_le _) (by decide +kernel) (fun H13 z14 => ?_)
      obtain ⟨z14, hn⟩ := z14
      obtain ⟨s15, e16, hm⟩ := bd_x hm
      have h0 := h0.mg su_D_8_A hn z14 rfl e16
      have hs := hs.step z14 (by omega) (by omega)
      obtain rfl := Option.some.inj hm
      subst hQ
      exact aw_vret rfl (Nat.zero_le _) (Nat.zero_le _) (by decide +kernel) ⟨rfl, hs, h0⟩
  have L14 : ∀ (fu : Nat) (v2_b14 : Int32) (s_b14 : st_) (H_b14 : Heap), has_ E H_b14 a ly_D s_b14 → sm_ H H_b14 a 33 → fX1_addForAll_l14 i0 fu (v2_b14, s_b14) = some x14 → aw E mX1_addForAll Q 14 [(0, .ref a), (1, .int i0), (2, .int v2_b14)] [] H_b14 0 0 := by
    intro fu
    induction fu with
    | zero =>
      intro v2_b14 s_b14 H_b14 h0 hs hm
      exact (it_0 hm).elim
    | succ fu ih14 =>
      intro v2_b14 s_b14 H_b14 h0 hs hm
      obtain ⟨y14, hm, hk14⟩ := it_s hm
      have hm : fX1_addForAll_b14 i0 v2_b14 s_b14 = some y14 := hm
      unfold fX1_addForAll_b14 at hm
      refine aw_b (pc' := 16) (lv' := [(0, .ref a), (1, .int i0), (2, .int v2_b14)]) (st' := [.ref a, .int v2_b14]) [(14, .iload_n 2, 1, .null), (15, .aload_n 0, 1, .null)] (by decide +kernel) rfl ?_
      refine aw_gl (v := .ref (a + 1)) a 0 h0 eo_D_0 fgX1_12 rfl (by decide +kernel) ?_
      refine aw_gl (v := .int (s_b14 1 4)) a 1 h0 eo_D_1 fgX1_105 rfl (by decide +kernel) ?_
      refine aw_ic_ge (off := 23) 45 (by decide) (by decide +kernel) (fun hc => ?_) (fun hc => ?_)
      · have hm := (if_pos hc).symm.trans hm
        cases hm
        refine aw_lv (lv' := [(0, .ref a), (1, .int i0)]) [0, 1] rfl ?_
        exact X14_45 s_b14 H_b14 h0 hs ((congrArg (fX1_addForAll_k14 i0) (show (s_b14) = x14 from hk14)).trans hr14)
      · have hm := (if_neg hc).symm.trans hm
        refine aw_b (pc' := 26) (lv' := [(0, .ref a), (1, .int i0), (2, .int v2_b14)]) (st' := [.ref a]) [(25, .aload_n 0, 1, .null)] (by decide +kernel) rfl ?_
        refine aw_gl (v := .ref (a + 11)) a 0 h0 eo_D_0 fgX1_28 rfl (by decide +kernel) ?_
        refine aw_b (pc' := 30) (lv' := [(0, .ref a), (1, .int i0), (2, .int v2_b14)]) (st' := [.int v2_b14, .ref (a + 11)]) [(29, .iload_n 2, 1, .null)] (by decide +kernel) rfl ?_
        obtain ⟨g17, hm⟩ := gd_x hm
        refine aw_rall a 11 h0 ra_D_11 g17 (by decide +kernel) ?_
        refine aw_b (pc' := 33) (lv' := [(0, .ref a), (1, .int i0), (2, .int v2_b14)]) (st' := [.ref a, .int i0, .ref (a + (3 * ix_ v2_b14 + 15))]) [(31, .iload_n 1, 1, .null), (32, .aload_n 0, 1, .null)] (by decide +kernel) rfl ?_
        refine aw_gl (v := .int (s_b14 0 9)) a 0 h0 eo_D_0 fgX1_66 rfl (by decide +kernel) ?_
        obtain ⟨r18, e19, hm⟩ := bn_x hm
        have q20 := ib_lt g17
        refine aw_cv (rest := []) (st1 := []) a (3 * ix_ v2_b14 + 15) (kX0_receive e19 (h0.sub (so_D_15 _ (ib_lt g17))) (Nat.le_trans hf (Nat.le_add_right _ _))) rfl rfl ckX0_receive lkX1_101 h0 (eow_D_15 _ (ib_lt g17)) ⟨_, _, rfl⟩ nkX0_receive rfl rfl rfl (Nat.le_of_ble_eq_true rfl) (Nat.zero_le _) (Nat.zero_le _) (by decide +kernel) (fun H21 z22 => ?_)
        obtain ⟨z22, hn⟩ := z22
        obtain ⟨s23, e24, hm⟩ := bd_x hm
        have h0 := h0.mg (so_D_15 _ (ib_lt g17)) hn z22 rfl e24
        have hs := hs.step z22 (by omega) (by omega)
        refine aw_b (pc' := 14) (lv' := [(2, .int (v2_b14 + (1 : Int32))), (0, .ref a), (1, .int i0)]) (st' := []) [(39, .iinc 2 1, 3, .int (1 : Int32)), (42, .goto (-28), 3, .null)] (by decide +kernel) rfl ?_
        cases hm
        refine aw_lv (lv' := [(0, .ref a), (1, .int i0), (2, .int (v2_b14 + (1 : Int32)))]) [1, 2, 0] rfl ?_
        exact ih14 (v2_b14 + (1 : Int32)) s23 H21 h0 hs hk14
  refine aw_lv (lv' := [(0, .ref a), (1, .int i0), (2, .int (0 : Int32))]) [1, 2, 0] rfl ?_
  exact L14 FU_ (0 : Int32) s5 H3 h0 hs hx14
def mX1_foeNow : mt_ := (yX1_foeNow, cX1_foeNow, 2, some .int, [], { frames := 0, locals := 0, cells := 0, slots := 0 })
theorem ckX1_foeNow : cokV_ mX1_foeNow := ⟨⟨(uw_mem 1069 (by decide +kernel) (by decide +kernel)), (uw_mem 33 (by decide +kernel) (by decide +kernel)), by decide +kernel, by decide +kernel⟩, (uw_mem 1068 (by decide +kernel) (by decide +kernel)), (uw_mem 16 (by decide +kernel) (by decide +kernel))⟩
theorem nkX1_foeNow : nok_ mX1_foeNow 0 := by decide +kernel
theorem fgX1_91 : fok_ RX1 91 5 16 := ⟨_, _, _, rfl, by decide, (uw_mem 125 (by decide +kernel) (by decide +kernel)), wkX5⟩
theorem fgX1_149 : fok_ RX1 149 5 11 := ⟨_, _, _, rfl, by decide, (uw_mem 111 (by decide +kernel) (by decide +kernel)), wkX5⟩
theorem kX1_foeNow {E : ev_} {H : Heap} {a : Nat} {s : st_} {r : Int32} (hm : fX1_foeNow s = some r) (h0 : has_ E H a ly_D s) : sp_ E mX1_foeNow [.ref a] H (po1 (.inl (some (.int r))) (fun Hn => sm_ H Hn 0 0)) := by
  refine sp_of (by decide +kernel) rfl rfl ?_
  generalize hQ : po1 _ _ = Q
  have hs : sm_ H H 0 0 := sm_.rfl'
  unfold fX1_foeNow at hm
  refine aw_lv (lv' := [(0, .ref a)]) [0] rfl ?_
  refine aw_b (pc' := 1) (lv' := [(0, .ref a)]) (st' := [.ref a]) [(0, .aload_n 0, 1, .null)] (by decide +kernel) rfl ?_
  refine aw_gl (v := .ref (a + 1)) a 0 h0 eo_D_0 fgX1_12 rfl (by decide +kernel) ?_
  refine aw_gl (v := .int (s 1 16)) a 1 h0 eo_D_1 fgX1_91 rfl (by decide +kernel) ?_
  refine aw_b (pc' := 8) (lv' := [(0, .ref a)]) (st' := [.int (-1 : Int32), .int (s 1 16)]) [(7, .iconst (-1), 1, .int (-1 : Int32))] (by decide +kernel) rfl ?_
  have J30 : ∀ (z0_j30 : Int32) (H_j30 : Heap), has_ E H_j30 a ly_D s → sm_ H H_j30 0 0 → fX1_foeNow_j30 s z0_j30 = some r → aw E mX1_foeNow Q 30 [(0, .ref a)] [.int z0_j30] H_j30 0 0 := by
    intro z0_j30 H_j30 h0 hs hm
    unfold fX1_foeNow_j30 at hm
    refine aw_b (pc' := 32) (lv' := [(1, .int z0_j30), (0, .ref a)]) (st' := [.ref a]) [(30, .istore_n 1, 1, .null), (31, .aload_n 0, 1, .null)] (by decide +kernel) rfl ?_
    refine aw_gl (v := .ref (a + 1)) a 0 h0 eo_D_0 fgX1_12 rfl (by decide +kernel) ?_
    refine aw_gl (v := .int (s 1 11)) a 1 h0 eo_D_1 fgX1_149 rfl (by decide +kernel) ?_
    refine aw_b (pc' := 39) (lv' := [(1, .int z0_j30), (0, .ref a)]) (st' := [.int (5 : Int32), .int (s 1 11)]) [(38, .iconst 5, 1, .int (5 : Int32))] (by decide +kernel) rfl ?_
    have J50 : ∀ (H_j50 : Heap), has_ E H_j50 a ly_D s → sm_ H H_j50 0 0 → fX1_foeNow_j50 s = some r → aw E mX1_foeNow Q 50 [(0, .ref a)] [] H_j50 0 0 := by
      intro H_j50 h0 hs hm
      unfold fX1_foeNow_j50 at hm
      refine aw_b (pc' := 51) (lv' := [(0, .ref a)]) (st' := [.ref a]) [(50, .aload_n 0, 1, .null)] (by decide +kernel) rfl ?_
      refine aw_gl (v := .ref (a + 1)) a 0 h0 eo_D_0 fgX1_12 rfl (by decide +kernel) ?_
      refine aw_gl (v := .int (s 1 11)) a 1 h0 eo_D_1 fgX1_149 rfl (by decide +kernel) ?_
      obtain rfl := Option.some.inj hm
      subst hQ
      exact aw_iret rfl (Nat.zero_le _) (Nat.zero_le _) (by decide +kernel) ⟨rfl, hs⟩
    refine aw_ic_ne (off := 11) 50 (by decide) (by decide +kernel) (fun hc => ?_) (fun hc => ?_)
    · have hm := (if_neg hc).symm.trans hm
      refine aw_lv (lv' := [(0, .ref a)]) [1] rfl ?_
      exact J50 H_j30 h0 hs hm
    · have hm := (if_pos hc).symm.trans hm
      refine aw_b (pc' := 43) (lv' := [(1, .int z0_j30), (0, .ref a)]) (st' := [.int z0_j30]) [(42, .iload_n 1, 1, .null)] (by decide +kernel) rfl ?_
      refine aw_if_eq (off := 7) 50 (by decide) (by decide +kernel) (fun hc => ?_) (fun hc => ?_)
      · have hm := (if_pos hc).symm.trans hm
        refine aw_lv (lv' := [(0, .ref a)]) [1] rfl ?_
        exact J50 H_j30 h0 hs hm
      · have hm := (if_neg hc).symm.trans hm
        refine aw_b (pc' := 57) (lv' := [(1, .int z0_j30), (0, .ref a)]) (st' := [.int (4 : Int32)]) [(46, .iconst 4, 1, .int (4 : Int32)), (47, .goto 10, 3, .null)] (by decide +kernel) rfl ?_
        obtain rfl := Option.some.inj hm
        subst hQ
        exact aw_iret rfl (Nat.zero_le _) (Nat.zero_le _) (by decide +kernel) ⟨rfl, hs⟩
  have J29 : ∀ (H_j29 : Heap), has_ E H_j29 a ly_D s → sm_ H H_j29 0 0 → fX1_foeNow_j29 s = some r → aw E mX1_foeNow Q 29 [(0, .ref a)] [] H_j29 0 0 := by
    intro H_j29 h0 hs hm
    unfold fX1_foeNow_j29 at hm
    refine aw_b (pc' := 30) (lv' := [(0, .ref a)]) (st' := [.int (0 : Int32)]) [(29, .iconst 0, 1, .int (0 : Int32))] (by decide +kernel) rfl ?_
    exact J30 (0 : Int32) H_j29 h0 hs hm
  refine aw_ic_eq (off := 21) 29 (by decide) (by decide +kernel) (fun hc => ?_) (fun hc => ?_)
  · have hm := (if_pos hc).symm.trans hm
    exact J29 H h0 hs hm
  · have hm := (if_neg hc).symm.trans hm
    refine aw_b (pc' := 12) (lv' := [(0, .ref a)]) (st' := [.ref a]) [(11, .aload_n 0, 1, .null)] (by decide +kernel) rfl ?_
    refine aw_gl (v := .int (s 0 11)) a 0 h0 eo_D_0 fgX1_72 rfl (by decide +kernel) ?_
    refine aw_b (pc' := 16) (lv' := [(0, .ref a)]) (st' := [.ref a, .int (s 0 11)]) [(15, .aload_n 0, 1, .null)] (by decide +kernel) rfl ?_
    refine aw_gl (v := .ref (a + 1)) a 0 h0 eo_D_0 fgX1_12 rfl (by decide +kernel) ?_
    refine aw_gl (v := .int (s 1 16)) a 1 h0 eo_D_1 fgX1_91 rfl (by decide +kernel) ?_
    refine aw_ic_lt (off := 7) 29 (by decide) (by decide +kernel) (fun hc => ?_) (fun hc => ?_)
    · have hm := (if_pos hc).symm.trans hm
      exact J29 H h0 hs hm
    · have hm := (if_neg hc).symm.trans hm
      refine aw_b (pc' := 30) (lv' := [(0, .ref a)]) (st' := [.int (1 : Int32)]) [(25, .iconst 1, 1, .int (1 : Int32)), (26, .goto 4, 3, .null)] (by decide +kernel) rfl ?_
      exact J30 (1 : Int32) H h0 hs hm
def mX1_addNextAsk : mt_ := (yX1_addNextAsk, cX1_addNextAsk, 1, none, [], { frames := 2, locals := 44, cells := 0, slots := 0 })
theorem ckX1_addNextAsk : cokV_ mX1_addNextAsk := ⟨⟨(uw_mem 1074 (by decide +kernel) (by decide +kernel)), (uw_mem 33 (by decide +kernel) (by decide +kernel)), by decide +kernel, by decide +kernel⟩, (uw_mem 1073 (by decide +kernel) (by decide +kernel)), (uw_mem 17 (by decide +kernel) (by decide +kernel))⟩
theorem nkX1_addNextAsk : nok_ mX1_addNextAsk 0 := by decide +kernel
theorem fgX1_152 : fok_ RX1 152 5 12 := ⟨_, _, _, rfl, by decide, (uw_mem 115 (by decide +kernel) (by decide +kernel)), wkX5⟩
theorem lkX1_155 : Cond.methodLink RX1 155 yX5_askAt ∈ uw_ := (uw_mem 1075 (by decide +kernel) (by decide +kernel))
theorem lkX1_134 : Cond.methodLink RX1 134 yX1_addForAll ∈ uw_ := (uw_mem 1070 (by decide +kernel) (by decide +kernel))
theorem kX1_addNextAsk {E : ev_} {H : Heap} {a : Nat} {s : st_} {r : st_} (hm : fX1_addNextAsk s = some r) (h0 : has_ E H a ly_D s) (hf : ev_fr E a) : sp_ E mX1_addNextAsk [.ref a] H (po1 (.inl (none)) (fun Hn => sm_ H Hn a 33 ∧ has_ E Hn a ly_D r)) := by
  refine sp_of (by decide +kernel) rfl rfl ?_
  generalize hQ : po1 _ _ = Q
  have hs : sm_ H H a 33 := sm_.rfl'
  unfold fX1_addNextAsk at hm
  refine aw_lv (lv' := [(0, .ref a)]) [0] rfl ?_
  refine aw_b (pc' := 1) (lv' := [(0, .ref a)]) (st' := [.ref a]) [(0, .aload_n 0, 1, .null)] (by decide +kernel) rfl ?_
  refine aw_gl (v := .ref (a + 1)) a 0 h0 eo_D_0 fgX1_12 rfl (by decide +kernel) ?_
  refine aw_gl (v := .int (s 1 12)) a 1 h0 eo_D_1 fgX1_152 rfl (by decide +kernel) ?_
  refine aw_if_le (off := 48) 55 (by decide) (by decide +kernel) (fun hc => ?_) (fun hc => ?_)
  · have hm := (if_pos hc).symm.trans hm
    obtain rfl := Option.some.inj hm
    subst hQ
    exact aw_vret rfl (Nat.zero_le _) (Nat.zero_le _) (by decide +kernel) ⟨rfl, hs, h0⟩
  · have hm := (if_neg hc).symm.trans hm
    refine aw_b (pc' := 12) (lv' := [(0, .ref a)]) (st' := [.ref a, .ref a]) [(10, .aload_n 0, 1, .null), (11, .aload_n 0, 1, .null)] (by decide +kernel) rfl ?_
    refine aw_gl (v := .int (s 0 10)) a 0 h0 eo_D_0 fgX1_69 rfl (by decide +kernel) ?_
    refine aw_b (pc' := 18) (lv' := [(0, .ref a)]) (st' := [.ref a, .int ((s 0 10) + (1 : Int32)), .ref a]) [(15, .iconst 1, 1, .int (1 : Int32)), (16, .iadd, 1, .null), (17, .aload_n 0, 1, .null)] (by decide +kernel) rfl ?_
    refine aw_gl (v := .ref (a + 1)) a 0 h0 eo_D_0 fgX1_12 rfl (by decide +kernel) ?_
    refine aw_gl (v := .int (s 1 12)) a 1 h0 eo_D_1 fgX1_152 rfl (by decide +kernel) ?_
    have J37 : ∀ (z1_j37 : Int32) (H_j37 : Heap), has_ E H_j37 a ly_D s → sm_ H H_j37 a 33 → fX1_addNextAsk_j37 s z1_j37 = some r → aw E mX1_addNextAsk Q 37 [(0, .ref a)] [.int z1_j37, .ref a] H_j37 0 0 := by
      intro z1_j37 H_j37 h0 hs hm
      unfold fX1_addNextAsk_j37 at hm
      obtain ⟨s1, e2, hm⟩ := bd_x hm
      refine aw_pl a 0 h0 eo_D_0 fsq_1_10 fpX1_69 hf rfl rfl e2 (by decide +kernel) (fun H3 h0 z4 => ?_)
      have hs := hs.step z4 (by omega) (by omega)
      refine aw_b (pc' := 42) (lv' := [(0, .ref a)]) (st' := [.ref a, .ref a]) [(40, .aload_n 0, 1, .null), (41, .aload_n 0, 1, .null)] (by decide +kernel) rfl ?_
      refine aw_gl (v := .ref (a + 1)) a 0 h0 eo_D_0 fgX1_12 rfl (by decide +kernel) ?_
      refine aw_b (pc' := 46) (lv' := [(0, .ref a)]) (st' := [.ref a, .ref (a + 1), .ref a]) [(45, .aload_n 0, 1, .null)] (by decide +kernel) rfl ?_
      refine aw_gl (v := .int (s1 0 10)) a 0 h0 eo_D_0 fgX1_69 rfl (by decide +kernel) ?_
      obtain ⟨r5, e6, hm⟩ := bn_x hm
      refine aw_cv (rest := [.ref a]) (st1 := [.int r5, .ref a]) a 1 (kX5_askAt e6 (h0.sub su_D_1_S)) rfl rfl ckX5_askAt lkX1_155 h0 eo_D_1 ⟨_, _, rfl⟩ nkX5_askAt rfl rfl rfl (Nat.le_of_ble_eq_true rfl) (Nat.zero_le _) (Nat.zero_le _) (by decide +kernel) (fun H7 z8 => ?_)
      have h0 := h0.kept0 z8
      have hs := hs.step0 z8
      obtain ⟨r9, e10, hm⟩ := bn_x hm
      refine aw_cv (rest := []) (st1 := []) a 0 (kX1_addForAll e10 h0 hf) rfl rfl ckX1_addForAll lkX1_134 h0 eo_D_0 ⟨_, _, rfl⟩ nkX1_addForAll rfl rfl rfl (Nat.le_of_ble_eq_true rfl) (Nat.zero_le _) (Nat.zero_le _) (by decide +kernel) (fun H11 z12 => ?_)
      obtain ⟨z12, hn⟩ := z12
      have h0 := hn
      have hs := hs.step z12 (by omega) (by omega)
      obtain rfl := Option.some.inj hm
      subst hQ
      exact aw_vret rfl (Nat.zero_le _) (Nat.zero_le _) (by decide +kernel) ⟨rfl, hs, h0⟩
    refine aw_ic_ge (off := 12) 36 (by decide) (by decide +kernel) (fun hc => ?_) (fun hc => ?_)
    · have hm := (if_pos hc).symm.trans hm
      refine aw_b (pc' := 37) (lv' := [(0, .ref a)]) (st' := [.int (0 : Int32), .ref a]) [(36, .iconst 0, 1, .int (0 : Int32))] (by decide +kernel) rfl ?_
      exact J37 (0 : Int32) H h0 hs hm
    · have hm := (if_neg hc).symm.trans hm
      refine aw_b (pc' := 28) (lv' := [(0, .ref a)]) (st' := [.ref a, .ref a]) [(27, .aload_n 0, 1, .null)] (by decide +kernel) rfl ?_
      refine aw_gl (v := .int (s 0 10)) a 0 h0 eo_D_0 fgX1_69 rfl (by decide +kernel) ?_
      refine aw_b (pc' := 37) (lv' := [(0, .ref a)]) (st' := [.int ((s 0 10) + (1 : Int32)), .ref a]) [(31, .iconst 1, 1, .int (1 : Int32)), (32, .iadd, 1, .null), (33, .goto 4, 3, .null)] (by decide +kernel) rfl ?_
      exact J37 ((s 0 10) + (1 : Int32)) H h0 hs hm
def mX1_seedBehind : mt_ := (yX1_seedBehind, cX1_seedBehind, 1, some .int, [], { frames := 0, locals := 0, cells := 0, slots := 0 })
theorem ckX1_seedBehind : cokS_ mX1_seedBehind := ⟨⟨(uw_mem 1085 (by decide +kernel) (by decide +kernel)), (uw_mem 33 (by decide +kernel) (by decide +kernel)), by decide +kernel, by decide +kernel⟩, (uw_mem 1084 (by decide +kernel) (by decide +kernel))⟩
theorem nkX1_seedBehind : nok_ mX1_seedBehind 1 := by decide +kernel
theorem kwX1_188 : Cond.constant RX1 188 (32768 : Int32) ∈ uw_ := (uw_mem 1086 (by decide +kernel) (by decide +kernel))
theorem kX1_seedBehind {E : ev_} {H : Heap} {i0 : Int32} {r : Int32} (hm : fX1_seedBehind i0 = some r) : sp_ E mX1_seedBehind [.int i0] H (po1 (.inl (some (.int r))) (fun Hn => sm_ H Hn 0 0)) := by
  refine sp_of (by decide +kernel) rfl rfl ?_
  generalize hQ : po1 _ _ = Q
  have hs : sm_ H H 0 0 := sm_.rfl'
  unfold fX1_seedBehind at hm
  refine aw_lv (lv' := [(0, .int i0)]) [0] rfl ?_
  refine aw_b (pc' := 9) (lv' := [(0, .int i0)]) (st' := [.int (((1103 : Int32) * i0) + (12345 : Int32))]) [(0, .sipush 1103, 3, .int (1103 : Int32)), (3, .iload_n 0, 1, .null), (4, .imul, 1, .null), (5, .sipush 12345, 3, .int (12345 : Int32)), (8, .iadd, 1, .null)] (by decide +kernel) rfl ?_
  refine aw_ldc (v := (32768 : Int32)) kwX1_188 (by decide +kernel) ?_
  refine aw_irem (by decide) (by decide +kernel) ?_
  obtain rfl := Option.some.inj hm
  subst hQ
  exact aw_iret rfl (Nat.zero_le _) (Nat.zero_le _) (by decide +kernel) ⟨rfl, hs⟩
def mX1_weightSum : mt_ := (yX1_weightSum, cX1_weightSum, 3, some .int, [], { frames := 0, locals := 0, cells := 0, slots := 0 })
theorem ckX1_weightSum : cokV_ mX1_weightSum := ⟨⟨(uw_mem 1098 (by decide +kernel) (by decide +kernel)), (uw_mem 33 (by decide +kernel) (by decide +kernel)), by decide +kernel, by decide +kernel⟩, (uw_mem 1096 (by decide +kernel) (by decide +kernel)), (uw_mem 1097 (by decide +kernel) (by decide +kernel))⟩
theorem nkX1_weightSum : nok_ mX1_weightSum 0 := by decide +kernel
theorem kX1_weightSum {E : ev_} {H : Heap} {a : Nat} {s : st_} {r : Int32} (hm : fX1_weightSum s = some r) (h0 : has_ E H a ly_D s) : sp_ E mX1_weightSum [.ref a] H (po1 (.inl (some (.int r))) (fun Hn => sm_ H Hn 0 0)) := by
  refine sp_of (by decide +kernel) rfl rfl ?_
  generalize hQ : po1 _ _ = Q
  have hs : sm_ H H 0 0 := sm_.rfl'
  unfold fX1_weightSum at hm
  refine aw_lv (lv' := [(0, .ref a)]) [0] rfl ?_
  refine aw_b (pc' := 4) (lv' := [(2, .int (0 : Int32)), (1, .int (0 : Int32)), (0, .ref a)]) (st' := []) [(0, .iconst 0, 1, .int (0 : Int32)), (1, .istore_n 1, 1, .null), (2, .iconst 0, 1, .int (0 : Int32)), (3, .istore_n 2, 1, .null)] (by decide +kernel) rfl ?_
  obtain ⟨x4, hx4, hr4⟩ := bn_x hm
  have X4_30 : ∀ (v1_x4_30 : Int32) (H_x4_30 : Heap), has_ E H_x4_30 a ly_D s → sm_ H H_x4_30 0 0 → fX1_weightSum_x4_30 v1_x4_30 = some r → aw E mX1_weightSum Q 30 [(1, .int v1_x4_30)] [] H_x4_30 0 0 := by
    intro v1_x4_30 H_x4_30 h0 hs hm
    unfold fX1_weightSum_x4_30 at hm
    refine aw_b (pc' := 31) (lv' := [(1, .int v1_x4_30)]) (st' := [.int v1_x4_30]) [(30, .iload_n 1, 1, .null)] (by decide +kernel) rfl ?_
    obtain rfl := Option.some.inj hm
    subst hQ
    exact aw_iret rfl (Nat.zero_le _) (Nat.zero_le _) (by decide +kernel) ⟨rfl, hs⟩
  have L4 : ∀ (fu : Nat) (v1_b4 : Int32) (v2_b4 : Int32) (H_b4 : Heap), has_ E H_b4 a ly_D s → sm_ H H_b4 0 0 → fX1_weightSum_l4 s fu (v1_b4, v2_b4) = some x4 → aw E mX1_weightSum Q 4 [(0, .ref a), (1, .int v1_b4), (2, .int v2_b4)] [] H_b4 0 0 := by
    intro fu
    induction fu with
    | zero =>
      intro v1_b4 v2_b4 H_b4 h0 hs hm
      exact (it_0 hm).elim
    | succ fu ih4 =>
      intro v1_b4 v2_b4 H_b4 h0 hs hm
      obtain ⟨y4, hm, hk4⟩ := it_s hm
      have hm : fX1_weightSum_b4 s v1_b4 v2_b4 = some y4 := hm
      unfold fX1_weightSum_b4 at hm
      refine aw_b (pc' := 6) (lv' := [(0, .ref a), (1, .int v1_b4), (2, .int v2_b4)]) (st' := [.ref a, .int v2_b4]) [(4, .iload_n 2, 1, .null), (5, .aload_n 0, 1, .null)] (by decide +kernel) rfl ?_
      refine aw_gl (v := .ref (a + 1)) a 0 h0 eo_D_0 fgX1_12 rfl (by decide +kernel) ?_
      refine aw_gl (v := .int (s 1 4)) a 1 h0 eo_D_1 fgX1_105 rfl (by decide +kernel) ?_
      refine aw_ic_ge (off := 18) 30 (by decide) (by decide +kernel) (fun hc => ?_) (fun hc => ?_)
      · have hm := (if_pos hc).symm.trans hm
        cases hm
        refine aw_lv (lv' := [(1, .int v1_b4)]) [1] rfl ?_
        exact X4_30 v1_b4 H_b4 h0 hs ((congrArg fX1_weightSum_k4 (show (v1_b4) = x4 from hk4)).trans hr4)
      · have hm := (if_neg hc).symm.trans hm
        refine aw_b (pc' := 17) (lv' := [(0, .ref a), (1, .int v1_b4), (2, .int v2_b4)]) (st' := [.ref a, .int v1_b4]) [(15, .iload_n 1, 1, .null), (16, .aload_n 0, 1, .null)] (by decide +kernel) rfl ?_
        refine aw_gl (v := .ref (a + 12)) a 0 h0 eo_D_0 fgX1_32 rfl (by decide +kernel) ?_
        refine aw_b (pc' := 21) (lv' := [(0, .ref a), (1, .int v1_b4), (2, .int v2_b4)]) (st' := [.int v2_b4, .ref (a + 12), .int v1_b4]) [(20, .iload_n 2, 1, .null)] (by decide +kernel) rfl ?_
        obtain ⟨g1, hm⟩ := gd_x hm
        refine aw_ial a 12 h0 rfl g1 (by decide +kernel) ?_
        refine aw_b (pc' := 4) (lv' := [(2, .int (v2_b4 + (1 : Int32))), (1, .int (v1_b4 + (s 12 (ix_ v2_b4)))), (0, .ref a)]) (st' := []) [(22, .iadd, 1, .null), (23, .istore_n 1, 1, .null), (24, .iinc 2 1, 3, .int (1 : Int32)), (27, .goto (-23), 3, .null)] (by decide +kernel) rfl ?_
        cases hm
        refine aw_lv (lv' := [(0, .ref a), (1, .int (v1_b4 + (s 12 (ix_ v2_b4)))), (2, .int (v2_b4 + (1 : Int32)))]) [2, 1, 0] rfl ?_
        exact ih4 (v1_b4 + (s 12 (ix_ v2_b4))) (v2_b4 + (1 : Int32)) H_b4 h0 hs hk4
  refine aw_lv (lv' := [(0, .ref a), (1, .int (0 : Int32)), (2, .int (0 : Int32))]) [2, 1, 0] rfl ?_
  exact L4 FU_ (0 : Int32) (0 : Int32) H h0 hs hx4
def mX1_ruleDrawn : mt_ := (yX1_ruleDrawn, cX1_ruleDrawn, 5, some .int, [], { frames := 1, locals := 22, cells := 0, slots := 0 })
theorem ckX1_ruleDrawn : cokV_ mX1_ruleDrawn := ⟨⟨(uw_mem 1094 (by decide +kernel) (by decide +kernel)), (uw_mem 33 (by decide +kernel) (by decide +kernel)), by decide +kernel, by decide +kernel⟩, (uw_mem 1093 (by decide +kernel) (by decide +kernel)), (uw_mem 19 (by decide +kernel) (by decide +kernel))⟩
theorem nkX1_ruleDrawn : nok_ mX1_ruleDrawn 1 := by decide +kernel
theorem lkX1_195 : Cond.methodLink RX1 195 yX1_weightSum ∈ uw_ := (uw_mem 1095 (by decide +kernel) (by decide +kernel))
theorem kX1_ruleDrawn {E : ev_} {H : Heap} {a : Nat} {s : st_} {i0 : Int32} {r : Int32} (hm : fX1_ruleDrawn s i0 = some r) (h0 : has_ E H a ly_D s) : sp_ E mX1_ruleDrawn [.ref a, .int i0] H (po1 (.inl (some (.int r))) (fun Hn => sm_ H Hn 0 0)) := by
  refine sp_of (by decide +kernel) rfl rfl ?_
  generalize hQ : po1 _ _ = Q
  have hs : sm_ H H 0 0 := sm_.rfl'
  unfold fX1_ruleDrawn at hm
  refine aw_lv (lv' := [(0, .ref a), (1, .int i0)]) [0, 1] rfl ?_
  refine aw_b (pc' := 1) (lv' := [(0, .ref a), (1, .int i0)]) (st' := [.ref a]) [(0, .aload_n 0, 1, .null)] (by decide +kernel) rfl ?_
  obtain ⟨r1, e2, hm⟩ := bn_x hm
  refine aw_cv (rest := []) (st1 := [.int r1]) a 0 (kX1_weightSum e2 h0) rfl rfl ckX1_weightSum lkX1_195 h0 eo_D_0 ⟨_, _, rfl⟩ nkX1_weightSum rfl rfl rfl (Nat.le_of_ble_eq_true rfl) (Nat.zero_le _) (Nat.zero_le _) (by decide +kernel) (fun H3 z4 => ?_)
  have h0 := h0.kept0 z4
  have hs := hs.step0 z4
  refine aw_b (pc' := 6) (lv' := [(2, .int r1), (0, .ref a), (1, .int i0)]) (st' := [.int r1]) [(4, .istore_n 2, 1, .null), (5, .iload_n 2, 1, .null)] (by decide +kernel) rfl ?_
  have J16 : ∀ (z0_j16 : Int32) (H_j16 : Heap), has_ E H_j16 a ly_D s → sm_ H H_j16 0 0 → fX1_ruleDrawn_j16 s z0_j16 = some r → aw E mX1_ruleDrawn Q 16 [(0, .ref a)] [.int z0_j16] H_j16 0 0 := by
    intro z0_j16 H_j16 h0 hs hm
    unfold fX1_ruleDrawn_j16 at hm
    refine aw_b (pc' := 20) (lv' := [(4, .int (0 : Int32)), (3, .int z0_j16), (0, .ref a)]) (st' := []) [(16, .istore_n 3, 1, .null), (17, .iconst 0, 1, .int (0 : Int32)), (18, .istore 4, 2, .null)] (by decide +kernel) rfl ?_
    obtain ⟨x20, hx20, hr20⟩ := bn_x hm
    have X20_62 : ∀ (H_x20_62 : Heap), has_ E H_x20_62 a ly_D s → sm_ H H_x20_62 0 0 → fX1_ruleDrawn_x20_62 = some r → aw E mX1_ruleDrawn Q 62 [] [] H_x20_62 0 0 := by
      intro H_x20_62 h0 hs hm
      unfold fX1_ruleDrawn_x20_62 at hm
      refine aw_b (pc' := 63) (lv' := []) (st' := [.int (0 : Int32)]) [(62, .iconst 0, 1, .int (0 : Int32))] (by decide +kernel) rfl ?_
      obtain rfl := Option.some.inj hm
      subst hQ
      exact aw_iret rfl (Nat.zero_le _) (Nat.zero_le _) (by decide +kernel) ⟨rfl, hs⟩
    have X20_43 : ∀ (v4_x20_43 : Int32) (H_x20_43 : Heap), has_ E H_x20_43 a ly_D s → sm_ H H_x20_43 0 0 → fX1_ruleDrawn_x20_43 v4_x20_43 = some r → aw E mX1_ruleDrawn Q 43 [(4, .int v4_x20_43)] [] H_x20_43 0 0 := by
      intro v4_x20_43 H_x20_43 h0 hs hm
      unfold fX1_ruleDrawn_x20_43 at hm
      refine aw_b (pc' := 45) (lv' := [(4, .int v4_x20_43)]) (st' := [.int v4_x20_43]) [(43, .iload 4, 2, .null)] (by decide +kernel) rfl ?_
      obtain rfl := Option.some.inj hm
      subst hQ
      exact aw_iret rfl (Nat.zero_le _) (Nat.zero_le _) (by decide +kernel) ⟨rfl, hs⟩
    have L20 : ∀ (fu : Nat) (v3_b20 : Int32) (v4_b20 : Int32) (H_b20 : Heap), has_ E H_b20 a ly_D s → sm_ H H_b20 0 0 → fX1_ruleDrawn_l20 s fu (v3_b20, v4_b20) = some x20 → aw E mX1_ruleDrawn Q 20 [(0, .ref a), (3, .int v3_b20), (4, .int v4_b20)] [] H_b20 0 0 := by
      intro fu
      induction fu with
      | zero =>
        intro v3_b20 v4_b20 H_b20 h0 hs hm
        exact (it_0 hm).elim
      | succ fu ih20 =>
        intro v3_b20 v4_b20 H_b20 h0 hs hm
        obtain ⟨y20, hm, hk20⟩ := it_s hm
        have hm : fX1_ruleDrawn_b20 s v3_b20 v4_b20 = some y20 := hm
        unfold fX1_ruleDrawn_b20 at hm
        refine aw_b (pc' := 23) (lv' := [(0, .ref a), (3, .int v3_b20), (4, .int v4_b20)]) (st' := [.ref a, .int v4_b20]) [(20, .iload 4, 2, .null), (22, .aload_n 0, 1, .null)] (by decide +kernel) rfl ?_
        refine aw_gl (v := .ref (a + 1)) a 0 h0 eo_D_0 fgX1_12 rfl (by decide +kernel) ?_
        refine aw_gl (v := .int (s 1 4)) a 1 h0 eo_D_1 fgX1_105 rfl (by decide +kernel) ?_
        refine aw_ic_ge (off := 33) 62 (by decide) (by decide +kernel) (fun hc => ?_) (fun hc => ?_)
        · have hm := (if_pos hc).symm.trans hm
          cases hm
          refine aw_lv (lv' := []) [] rfl ?_
          exact X20_62 H_b20 h0 hs ((congrArg fX1_ruleDrawn_k20 (show (.inr ()) = x20 from hk20)).trans hr20)
        · have hm := (if_neg hc).symm.trans hm
          refine aw_b (pc' := 34) (lv' := [(0, .ref a), (3, .int v3_b20), (4, .int v4_b20)]) (st' := [.ref a, .int v3_b20]) [(32, .iload_n 3, 1, .null), (33, .aload_n 0, 1, .null)] (by decide +kernel) rfl ?_
          refine aw_gl (v := .ref (a + 12)) a 0 h0 eo_D_0 fgX1_32 rfl (by decide +kernel) ?_
          refine aw_b (pc' := 39) (lv' := [(0, .ref a), (3, .int v3_b20), (4, .int v4_b20)]) (st' := [.int v4_b20, .ref (a + 12), .int v3_b20]) [(37, .iload 4, 2, .null)] (by decide +kernel) rfl ?_
          obtain ⟨g5, hm⟩ := gd_x hm
          refine aw_ial a 12 h0 rfl g5 (by decide +kernel) ?_
          refine aw_ic_ge (off := 6) 46 (by decide) (by decide +kernel) (fun hc => ?_) (fun hc => ?_)
          · have hm := (if_pos hc).symm.trans hm
            refine aw_b (pc' := 48) (lv' := [(0, .ref a), (3, .int v3_b20), (4, .int v4_b20)]) (st' := [.ref a, .int v3_b20]) [(46, .iload_n 3, 1, .null), (47, .aload_n 0, 1, .null)] (by decide +kernel) rfl ?_
            refine aw_gl (v := .ref (a + 12)) a 0 h0 eo_D_0 fgX1_32 rfl (by decide +kernel) ?_
            refine aw_b (pc' := 53) (lv' := [(0, .ref a), (3, .int v3_b20), (4, .int v4_b20)]) (st' := [.int v4_b20, .ref (a + 12), .int v3_b20]) [(51, .iload 4, 2, .null)] (by decide +kernel) rfl ?_
            obtain ⟨g6, hm⟩ := gd_x hm
            refine aw_ial a 12 h0 rfl g6 (by decide +kernel) ?_
            refine aw_b (pc' := 20) (lv' := [(4, .int (v4_b20 + (1 : Int32))), (3, .int (v3_b20 - (s 12 (ix_ v4_b20)))), (0, .ref a)]) (st' := []) [(54, .isub, 1, .null), (55, .istore_n 3, 1, .null), (56, .iinc 4 1, 3, .int (1 : Int32)), (59, .goto (-39), 3, .null)] (by decide +kernel) rfl ?_
            cases hm
            refine aw_lv (lv' := [(0, .ref a), (3, .int (v3_b20 - (s 12 (ix_ v4_b20)))), (4, .int (v4_b20 + (1 : Int32)))]) [2, 1, 0] rfl ?_
            exact ih20 (v3_b20 - (s 12 (ix_ v4_b20))) (v4_b20 + (1 : Int32)) H_b20 h0 hs hk20
          · have hm := (if_neg hc).symm.trans hm
            cases hm
            refine aw_lv (lv' := [(4, .int v4_b20)]) [2] rfl ?_
            exact X20_43 v4_b20 H_b20 h0 hs ((congrArg fX1_ruleDrawn_k20 (show (.inl v4_b20) = x20 from hk20)).trans hr20)
    refine aw_lv (lv' := [(0, .ref a), (3, .int z0_j16), (4, .int (0 : Int32))]) [2, 1, 0] rfl ?_
    exact L20 FU_ z0_j16 (0 : Int32) H_j16 h0 hs hx20
  refine aw_if_le (off := 9) 15 (by decide) (by decide +kernel) (fun hc => ?_) (fun hc => ?_)
  · have hm := (if_pos hc).symm.trans hm
    refine aw_b (pc' := 16) (lv' := [(2, .int r1), (0, .ref a), (1, .int i0)]) (st' := [.int (0 : Int32)]) [(15, .iconst 0, 1, .int (0 : Int32))] (by decide +kernel) rfl ?_
    refine aw_lv (lv' := [(0, .ref a)]) [1] rfl ?_
    exact J16 (0 : Int32) H3 h0 hs hm
  · have hm := (if_neg hc).symm.trans hm
    refine aw_b (pc' := 11) (lv' := [(2, .int r1), (0, .ref a), (1, .int i0)]) (st' := [.int r1, .int i0]) [(9, .iload_n 1, 1, .null), (10, .iload_n 2, 1, .null)] (by decide +kernel) rfl ?_
    obtain ⟨g7, hm⟩ := gd_x hm
    refine aw_irem (nz_x g7) (by decide +kernel) ?_
    refine aw_b (pc' := 16) (lv' := [(2, .int r1), (0, .ref a), (1, .int i0)]) (st' := [.int (i0 - i0 / r1 * r1)]) [(12, .goto 4, 3, .null)] (by decide +kernel) rfl ?_
    refine aw_lv (lv' := [(0, .ref a)]) [1] rfl ?_
    exact J16 (i0 - i0 / r1 * r1) H3 h0 hs hm
def mX1_cheapestRule : mt_ := (yX1_cheapestRule, cX1_cheapestRule, 3, some .int, [], { frames := 0, locals := 0, cells := 0, slots := 0 })
theorem ckX1_cheapestRule : cokV_ mX1_cheapestRule := ⟨⟨(uw_mem 1102 (by decide +kernel) (by decide +kernel)), (uw_mem 33 (by decide +kernel) (by decide +kernel)), by decide +kernel, by decide +kernel⟩, (uw_mem 1100 (by decide +kernel) (by decide +kernel)), (uw_mem 1101 (by decide +kernel) (by decide +kernel))⟩
theorem nkX1_cheapestRule : nok_ mX1_cheapestRule 0 := by decide +kernel
theorem fgX1_198 : fok_ RX1 198 0 5 := ⟨_, _, _, rfl, by decide, (uw_mem 239 (by decide +kernel) (by decide +kernel)), wkX0⟩
theorem kX1_cheapestRule {E : ev_} {H : Heap} {a : Nat} {s : st_} {r : Int32} (hm : fX1_cheapestRule s = some r) (h0 : has_ E H a ly_D s) : sp_ E mX1_cheapestRule [.ref a] H (po1 (.inl (some (.int r))) (fun Hn => sm_ H Hn 0 0)) := by
  refine sp_of (by decide +kernel) rfl rfl ?_
  generalize hQ : po1 _ _ = Q
  have hs : sm_ H H 0 0 := sm_.rfl'
  unfold fX1_cheapestRule at hm
  refine aw_lv (lv' := [(0, .ref a)]) [0] rfl ?_
  refine aw_b (pc' := 4) (lv' := [(2, .int (1 : Int32)), (1, .int (0 : Int32)), (0, .ref a)]) (st' := []) [(0, .iconst 0, 1, .int (0 : Int32)), (1, .istore_n 1, 1, .null), (2, .iconst 1, 1, .int (1 : Int32)), (3, .istore_n 2, 1, .null)] (by decide +kernel) rfl ?_
  obtain ⟨x4, hx4, hr4⟩ := bn_x hm
  have X4_44 : ∀ (v1_x4_44 : Int32) (H_x4_44 : Heap), has_ E H_x4_44 a ly_D s → sm_ H H_x4_44 0 0 → fX1_cheapestRule_x4_44 v1_x4_44 = some r → aw E mX1_cheapestRule Q 44 [(1, .int v1_x4_44)] [] H_x4_44 0 0 := by
    intro v1_x4_44 H_x4_44 h0 hs hm
    unfold fX1_cheapestRule_x4_44 at hm
    refine aw_b (pc' := 45) (lv' := [(1, .int v1_x4_44)]) (st' := [.int v1_x4_44]) [(44, .iload_n 1, 1, .null)] (by decide +kernel) rfl ?_
    obtain rfl := Option.some.inj hm
    subst hQ
    exact aw_iret rfl (Nat.zero_le _) (Nat.zero_le _) (by decide +kernel) ⟨rfl, hs⟩
  have L4 : ∀ (fu : Nat) (v1_b4 : Int32) (v2_b4 : Int32) (H_b4 : Heap), has_ E H_b4 a ly_D s → sm_ H H_b4 0 0 → fX1_cheapestRule_l4 s fu (v1_b4, v2_b4) = some x4 → aw E mX1_cheapestRule Q 4 [(0, .ref a), (1, .int v1_b4), (2, .int v2_b4)] [] H_b4 0 0 := by
    intro fu
    induction fu with
    | zero =>
      intro v1_b4 v2_b4 H_b4 h0 hs hm
      exact (it_0 hm).elim
    | succ fu ih4 =>
      intro v1_b4 v2_b4 H_b4 h0 hs hm
      obtain ⟨y4, hm, hk4⟩ := it_s hm
      have hm : fX1_cheapestRule_b4 s v1_b4 v2_b4 = some y4 := hm
      unfold fX1_cheapestRule_b4 at hm
      refine aw_b (pc' := 6) (lv' := [(0, .ref a), (1, .int v1_b4), (2, .int v2_b4)]) (st' := [.ref a, .int v2_b4]) [(4, .iload_n 2, 1, .null), (5, .aload_n 0, 1, .null)] (by decide +kernel) rfl ?_
      refine aw_gl (v := .ref (a + 1)) a 0 h0 eo_D_0 fgX1_12 rfl (by decide +kernel) ?_
      refine aw_gl (v := .int (s 1 4)) a 1 h0 eo_D_1 fgX1_105 rfl (by decide +kernel) ?_
      refine aw_ic_ge (off := 32) 44 (by decide) (by decide +kernel) (fun hc => ?_) (fun hc => ?_)
      · have hm := (if_pos hc).symm.trans hm
        cases hm
        refine aw_lv (lv' := [(1, .int v1_b4)]) [1] rfl ?_
        exact X4_44 v1_b4 H_b4 h0 hs ((congrArg fX1_cheapestRule_k4 (show (v1_b4) = x4 from hk4)).trans hr4)
      · have hm := (if_neg hc).symm.trans hm
        refine aw_b (pc' := 16) (lv' := [(0, .ref a), (1, .int v1_b4), (2, .int v2_b4)]) (st' := [.ref a]) [(15, .aload_n 0, 1, .null)] (by decide +kernel) rfl ?_
        refine aw_gl (v := .ref (a + 11)) a 0 h0 eo_D_0 fgX1_28 rfl (by decide +kernel) ?_
        refine aw_b (pc' := 20) (lv' := [(0, .ref a), (1, .int v1_b4), (2, .int v2_b4)]) (st' := [.int v2_b4, .ref (a + 11)]) [(19, .iload_n 2, 1, .null)] (by decide +kernel) rfl ?_
        obtain ⟨g1, hm⟩ := gd_x hm
        refine aw_rall a 11 h0 ra_D_11 g1 (by decide +kernel) ?_
        refine aw_gl (v := .int (s (3 * ix_ v2_b4 + 15) 5)) a (3 * ix_ v2_b4 + 15) h0 (eow_D_15 _ (ib_lt g1)) fgX1_198 rfl (by decide +kernel) ?_
        refine aw_b (pc' := 25) (lv' := [(0, .ref a), (1, .int v1_b4), (2, .int v2_b4)]) (st' := [.ref a, .int (s (3 * ix_ v2_b4 + 15) 5)]) [(24, .aload_n 0, 1, .null)] (by decide +kernel) rfl ?_
        refine aw_gl (v := .ref (a + 11)) a 0 h0 eo_D_0 fgX1_28 rfl (by decide +kernel) ?_
        refine aw_b (pc' := 29) (lv' := [(0, .ref a), (1, .int v1_b4), (2, .int v2_b4)]) (st' := [.int v1_b4, .ref (a + 11), .int (s (3 * ix_ v2_b4 + 15) 5)]) [(28, .iload_n 1, 1, .null)] (by decide +kernel) rfl ?_
        obtain ⟨g2, hm⟩ := gd_x hm
        refine aw_rall a 11 h0 ra_D_11 g2 (by decide +kernel) ?_
        refine aw_gl (v := .int (s (3 * ix_ v1_b4 + 15) 5)) a (3 * ix_ v1_b4 + 15) h0 (eow_D_15 _ (ib_lt g2)) fgX1_198 rfl (by decide +kernel) ?_
        have J38 : ∀ (v1_j38 : Int32) (H_j38 : Heap), has_ E H_j38 a ly_D s → sm_ H H_j38 0 0 → fX1_cheapestRule_j38 v2_b4 v1_j38 = some y4 → aw E mX1_cheapestRule Q 38 [(0, .ref a), (1, .int v1_j38), (2, .int v2_b4)] [] H_j38 0 0 := by
          intro v1_j38 H_j38 h0 hs hm
          unfold fX1_cheapestRule_j38 at hm
          refine aw_b (pc' := 4) (lv' := [(2, .int (v2_b4 + (1 : Int32))), (0, .ref a), (1, .int v1_j38)]) (st' := []) [(38, .iinc 2 1, 3, .int (1 : Int32)), (41, .goto (-37), 3, .null)] (by decide +kernel) rfl ?_
          cases hm
          refine aw_lv (lv' := [(0, .ref a), (1, .int v1_j38), (2, .int (v2_b4 + (1 : Int32)))]) [1, 2, 0] rfl ?_
          exact ih4 v1_j38 (v2_b4 + (1 : Int32)) H_j38 h0 hs hk4
        refine aw_ic_ge (off := 5) 38 (by decide) (by decide +kernel) (fun hc => ?_) (fun hc => ?_)
        · have hm := (if_pos hc).symm.trans hm
          exact J38 v1_b4 H_b4 h0 hs hm
        · have hm := (if_neg hc).symm.trans hm
          refine aw_b (pc' := 38) (lv' := [(1, .int v2_b4), (0, .ref a), (2, .int v2_b4)]) (st' := []) [(36, .iload_n 2, 1, .null), (37, .istore_n 1, 1, .null)] (by decide +kernel) rfl ?_
          refine aw_lv (lv' := [(0, .ref a), (1, .int v2_b4), (2, .int v2_b4)]) [1, 0, 2] rfl ?_
          exact J38 v2_b4 H_b4 h0 hs hm
  refine aw_lv (lv' := [(0, .ref a), (1, .int (0 : Int32)), (2, .int (1 : Int32))]) [2, 1, 0] rfl ?_
  exact L4 FU_ (0 : Int32) (1 : Int32) H h0 hs hx4
def mX1_ruleBy : mt_ := (yX1_ruleBy, cX1_ruleBy, 4, some .int, [], { frames := 2, locals := 46, cells := 0, slots := 0 })
theorem ckX1_ruleBy : cokV_ mX1_ruleBy := ⟨⟨(uw_mem 1090 (by decide +kernel) (by decide +kernel)), (uw_mem 33 (by decide +kernel) (by decide +kernel)), by decide +kernel, by decide +kernel⟩, (uw_mem 1089 (by decide +kernel) (by decide +kernel)), (uw_mem 18 (by decide +kernel) (by decide +kernel))⟩
theorem nkX1_ruleBy : nok_ mX1_ruleBy 3 := by decide +kernel
theorem lkX1_192 : Cond.methodLink RX1 192 yX1_cheapestRule ∈ uw_ := (uw_mem 1099 (by decide +kernel) (by decide +kernel))
theorem lkX1_189 : Cond.methodLink RX1 189 yX1_ruleDrawn ∈ uw_ := (uw_mem 1091 (by decide +kernel) (by decide +kernel))
theorem kX1_ruleBy {E : ev_} {H : Heap} {a : Nat} {s : st_} {i0 : Int32} {i1 : Int32} {i2 : Int32} {r : Int32} (hm : fX1_ruleBy s i0 i1 i2 = some r) (h0 : has_ E H a ly_D s) : sp_ E mX1_ruleBy [.ref a, .int i0, .int i1, .int i2] H (po1 (.inl (some (.int r))) (fun Hn => sm_ H Hn 0 0)) := by
  refine sp_of (by decide +kernel) rfl rfl ?_
  generalize hQ : po1 _ _ = Q
  have hs : sm_ H H 0 0 := sm_.rfl'
  unfold fX1_ruleBy at hm
  refine aw_lv (lv' := [(0, .ref a), (1, .int i0), (2, .int i1), (3, .int i2)]) [0, 1, 2, 3] rfl ?_
  refine aw_b (pc' := 1) (lv' := [(0, .ref a), (1, .int i0), (2, .int i1), (3, .int i2)]) (st' := [.int i0]) [(0, .iload_n 1, 1, .null)] (by decide +kernel) rfl ?_
  refine aw_if_ne (off := 9) 10 (by decide) (by decide +kernel) (fun hc => ?_) (fun hc => ?_)
  · have hm := (if_neg hc).symm.trans hm
    refine aw_b (pc' := 12) (lv' := [(0, .ref a), (1, .int i0), (2, .int i1), (3, .int i2)]) (st' := [.int (1 : Int32), .int i0]) [(10, .iload_n 1, 1, .null), (11, .iconst 1, 1, .int (1 : Int32))] (by decide +kernel) rfl ?_
    refine aw_ic_ne (off := 8) 20 (by decide) (by decide +kernel) (fun hc => ?_) (fun hc => ?_)
    · have hm := (if_neg hc).symm.trans hm
      refine aw_b (pc' := 21) (lv' := [(0, .ref a), (1, .int i0), (2, .int i1), (3, .int i2)]) (st' := [.ref a]) [(20, .aload_n 0, 1, .null)] (by decide +kernel) rfl ?_
      refine aw_gl (v := .ref (a + 1)) a 0 h0 eo_D_0 fgX1_12 rfl (by decide +kernel) ?_
      refine aw_b (pc' := 25) (lv' := [(0, .ref a), (1, .int i0), (2, .int i1), (3, .int i2)]) (st' := [.int i1, .ref (a + 1)]) [(24, .iload_n 2, 1, .null)] (by decide +kernel) rfl ?_
      obtain ⟨r1, e2, hm⟩ := bn_x hm
      refine aw_cv (rest := []) (st1 := [.int r1]) a 1 (kX5_hasRule e2 (h0.sub su_D_1_S)) rfl rfl ckX5_hasRule lkX1_94 h0 eo_D_1 ⟨_, _, rfl⟩ nkX5_hasRule rfl rfl rfl (Nat.le_of_ble_eq_true rfl) (Nat.zero_le _) (Nat.zero_le _) (by decide +kernel) (fun H3 z4 => ?_)
      have h0 := h0.kept0 z4
      have hs := hs.step0 z4
      refine aw_if_eq (off := 7) 35 (by decide) (by decide +kernel) (fun hc => ?_) (fun hc => ?_)
      · have hm := (if_pos hc).symm.trans hm
        refine aw_b (pc' := 36) (lv' := [(0, .ref a), (1, .int i0), (2, .int i1), (3, .int i2)]) (st' := [.int (0 : Int32)]) [(35, .iconst 0, 1, .int (0 : Int32))] (by decide +kernel) rfl ?_
        obtain rfl := Option.some.inj hm
        subst hQ
        exact aw_iret rfl (Nat.zero_le _) (Nat.zero_le _) (by decide +kernel) ⟨rfl, hs⟩
      · have hm := (if_neg hc).symm.trans hm
        refine aw_b (pc' := 36) (lv' := [(0, .ref a), (1, .int i0), (2, .int i1), (3, .int i2)]) (st' := [.int i1]) [(31, .iload_n 2, 1, .null), (32, .goto 4, 3, .null)] (by decide +kernel) rfl ?_
        obtain rfl := Option.some.inj hm
        subst hQ
        exact aw_iret rfl (Nat.zero_le _) (Nat.zero_le _) (by decide +kernel) ⟨rfl, hs⟩
    · have hm := (if_pos hc).symm.trans hm
      refine aw_b (pc' := 16) (lv' := [(0, .ref a), (1, .int i0), (2, .int i1), (3, .int i2)]) (st' := [.ref a]) [(15, .aload_n 0, 1, .null)] (by decide +kernel) rfl ?_
      obtain ⟨r5, e6, hm⟩ := bn_x hm
      refine aw_cv (rest := []) (st1 := [.int r5]) a 0 (kX1_cheapestRule e6 h0) rfl rfl ckX1_cheapestRule lkX1_192 h0 eo_D_0 ⟨_, _, rfl⟩ nkX1_cheapestRule rfl rfl rfl (Nat.le_of_ble_eq_true rfl) (Nat.zero_le _) (Nat.zero_le _) (by decide +kernel) (fun H7 z8 => ?_)
      have h0 := h0.kept0 z8
      have hs := hs.step0 z8
      obtain rfl := Option.some.inj hm
      subst hQ
      exact aw_iret rfl (Nat.zero_le _) (Nat.zero_le _) (by decide +kernel) ⟨rfl, hs⟩
  · have hm := (if_pos hc).symm.trans hm
    refine aw_b (pc' := 6) (lv' := [(0, .ref a), (1, .int i0), (2, .int i1), (3, .int i2)]) (st' := [.int i2, .ref a]) [(4, .aload_n 0, 1, .null), (5, .iload_n 3, 1, .null)] (by decide +kernel) rfl ?_
    obtain ⟨r9, e10, hm⟩ := bn_x hm
    refine aw_cv (rest := []) (st1 := [.int r9]) a 0 (kX1_ruleDrawn e10 h0) rfl rfl ckX1_ruleDrawn lkX1_189 h0 eo_D_0 ⟨_, _, rfl⟩ nkX1_ruleDrawn rfl rfl rfl (Nat.le_of_ble_eq_true rfl) (Nat.zero_le _) (Nat.zero_le _) (by decide +kernel) (fun H11 z12 => ?_)
    have h0 := h0.kept0 z12
    have hs := hs.step0 z12
    obtain rfl := Option.some.inj hm
    subst hQ
    exact aw_iret rfl (Nat.zero_le _) (Nat.zero_le _) (by decide +kernel) ⟨rfl, hs⟩
def mX1_comingRule : mt_ := (yX1_comingRule, cX1_comingRule, 1, some .int, [], { frames := 3, locals := 69, cells := 0, slots := 0 })
theorem ckX1_comingRule : cokV_ mX1_comingRule := ⟨⟨(uw_mem 1082 (by decide +kernel) (by decide +kernel)), (uw_mem 33 (by decide +kernel) (by decide +kernel)), by decide +kernel, by decide +kernel⟩, (uw_mem 1080 (by decide +kernel) (by decide +kernel)), (uw_mem 1081 (by decide +kernel) (by decide +kernel))⟩
theorem nkX1_comingRule : nok_ mX1_comingRule 0 := by decide +kernel
theorem fgX1_169 : fok_ RX1 169 5 7 := ⟨_, _, _, rfl, by decide, (uw_mem 97 (by decide +kernel) (by decide +kernel)), wkX5⟩
theorem fgX1_175 : fok_ RX1 175 5 8 := ⟨_, _, _, rfl, by decide, (uw_mem 100 (by decide +kernel) (by decide +kernel)), wkX5⟩
theorem lkX1_172 : Cond.methodLink RX1 172 yX1_seedBehind ∈ uw_ := (uw_mem 1083 (by decide +kernel) (by decide +kernel))
theorem lkX1_178 : Cond.methodLink RX1 178 yX1_ruleBy ∈ uw_ := (uw_mem 1087 (by decide +kernel) (by decide +kernel))
theorem kX1_comingRule {E : ev_} {H : Heap} {a : Nat} {s : st_} {r : Int32} (hm : fX1_comingRule s = some r) (h0 : has_ E H a ly_D s) : sp_ E mX1_comingRule [.ref a] H (po1 (.inl (some (.int r))) (fun Hn => sm_ H Hn 0 0)) := by
  refine sp_of (by decide +kernel) rfl rfl ?_
  generalize hQ : po1 _ _ = Q
  have hs : sm_ H H 0 0 := sm_.rfl'
  unfold fX1_comingRule at hm
  refine aw_lv (lv' := [(0, .ref a)]) [0] rfl ?_
  refine aw_b (pc' := 2) (lv' := [(0, .ref a)]) (st' := [.ref a, .ref a]) [(0, .aload_n 0, 1, .null), (1, .aload_n 0, 1, .null)] (by decide +kernel) rfl ?_
  refine aw_gl (v := .ref (a + 1)) a 0 h0 eo_D_0 fgX1_12 rfl (by decide +kernel) ?_
  refine aw_gl (v := .int (s 1 7)) a 1 h0 eo_D_1 fgX1_169 rfl (by decide +kernel) ?_
  refine aw_b (pc' := 9) (lv' := [(0, .ref a)]) (st' := [.ref a, .int (s 1 7), .ref a]) [(8, .aload_n 0, 1, .null)] (by decide +kernel) rfl ?_
  refine aw_gl (v := .ref (a + 1)) a 0 h0 eo_D_0 fgX1_12 rfl (by decide +kernel) ?_
  refine aw_gl (v := .int (s 1 8)) a 1 h0 eo_D_1 fgX1_175 rfl (by decide +kernel) ?_
  refine aw_b (pc' := 16) (lv' := [(0, .ref a)]) (st' := [.ref a, .int (s 1 8), .int (s 1 7), .ref a]) [(15, .aload_n 0, 1, .null)] (by decide +kernel) rfl ?_
  refine aw_gl (v := .int (s 0 7)) a 0 h0 eo_D_0 fgX1_60 rfl (by decide +kernel) ?_
  obtain ⟨r1, e2, hm⟩ := bn_x hm
  refine aw_cs (rest := [.int (s 1 8), .int (s 1 7), .ref a]) (st1 := [.int r1, .int (s 1 8), .int (s 1 7), .ref a]) (kX1_seedBehind e2) rfl rfl ckX1_seedBehind lkX1_172 nkX1_seedBehind rfl rfl rfl (Nat.le_of_ble_eq_true rfl) (Nat.zero_le _) (Nat.zero_le _) (by decide +kernel) (fun H3 z4 => ?_)
  have h0 := h0.kept0 z4
  have hs := hs.step0 z4
  obtain ⟨r5, e6, hm⟩ := bn_x hm
  refine aw_cv (rest := []) (st1 := [.int r5]) a 0 (kX1_ruleBy e6 h0) rfl rfl ckX1_ruleBy lkX1_178 h0 eo_D_0 ⟨_, _, rfl⟩ nkX1_ruleBy rfl rfl rfl (Nat.le_of_ble_eq_true rfl) (Nat.zero_le _) (Nat.zero_le _) (by decide +kernel) (fun H7 z8 => ?_)
  have h0 := h0.kept0 z8
  have hs := hs.step0 z8
  obtain rfl := Option.some.inj hm
  subst hQ
  exact aw_iret rfl (Nat.zero_le _) (Nat.zero_le _) (by decide +kernel) ⟨rfl, hs⟩
def mX1_foreseeHurts : mt_ := (yX1_foreseeHurts, cX1_foreseeHurts, 4, none, [], { frames := 3, locals := 81, cells := 0, slots := 0 })
theorem ckX1_foreseeHurts : cokV_ mX1_foreseeHurts := ⟨⟨(uw_mem 1107 (by decide +kernel) (by decide +kernel)), (uw_mem 33 (by decide +kernel) (by decide +kernel)), by decide +kernel, by decide +kernel⟩, (uw_mem 1105 (by decide +kernel) (by decide +kernel)), (uw_mem 1106 (by decide +kernel) (by decide +kernel))⟩
theorem nkX1_foreseeHurts : nok_ mX1_foreseeHurts 1 := by decide +kernel
theorem fgX1_39 : fok_ RX1 39 1 6 := ⟨_, _, _, rfl, by decide, (uw_mem 294 (by decide +kernel) (by decide +kernel)), wkX1⟩
theorem lkX1_159 : Cond.methodLink RX1 159 yX0_foresee ∈ uw_ := (uw_mem 1108 (by decide +kernel) (by decide +kernel))
theorem su_D_14_I100 : sub_ ly_D 14 ly_I100 := sub_of rfl
theorem fgX1_124 : fok_ RX1 124 5 0 := ⟨_, _, _, rfl, by decide, (uw_mem 76 (by decide +kernel) (by decide +kernel)), wkX5⟩
theorem fgX1_36 : fok_ RX1 36 1 5 := ⟨_, _, _, rfl, by decide, (uw_mem 292 (by decide +kernel) (by decide +kernel)), wkX1⟩
theorem mtX1_163 : ml_ RX1 163 Lib.Math.min.name Lib.Math.min.code 2 .int := ⟨(uw_mem 1133 (by decide +kernel) (by decide +kernel)), (uw_mem 632 (by decide +kernel) (by decide +kernel)), (uw_mem 38 (by decide +kernel) (by decide +kernel)), (uw_mem 633 (by decide +kernel) (by decide +kernel))⟩
theorem kX1_foreseeHurts {E : ev_} {H : Heap} {a : Nat} {s : st_} {i0 : Int32} {r : st_} (hm : fX1_foreseeHurts s i0 = some r) (h0 : has_ E H a ly_D s) (hf : ev_fr E a) : sp_ E mX1_foreseeHurts [.ref a, .int i0] H (po1 (.inl (none)) (fun Hn => sm_ H Hn a 33 ∧ has_ E Hn a ly_D r)) := by
  refine sp_of (by decide +kernel) rfl rfl ?_
  generalize hQ : po1 _ _ = Q
  have hs : sm_ H H a 33 := sm_.rfl'
  unfold fX1_foreseeHurts at hm
  refine aw_lv (lv' := [(0, .ref a), (1, .int i0)]) [0, 1] rfl ?_
  refine aw_b (pc' := 2) (lv' := [(2, .int (0 : Int32)), (0, .ref a), (1, .int i0)]) (st' := []) [(0, .iconst 0, 1, .int (0 : Int32)), (1, .istore_n 2, 1, .null)] (by decide +kernel) rfl ?_
  obtain ⟨x2, hx2, hr2⟩ := bn_x hm
  have X2_90 : ∀ (s_x2_90 : st_) (H_x2_90 : Heap), has_ E H_x2_90 a ly_D s_x2_90 → sm_ H H_x2_90 a 33 → fX1_foreseeHurts_x2_90 i0 s_x2_90 = some r → aw E mX1_foreseeHurts Q 90 [(0, .ref a), (1, .int i0)] [] H_x2_90 0 0 := by
    intro s_x2_90 H_x2_90 h0 hs hm
    unfold fX1_foreseeHurts_x2_90 at hm
    refine aw_b (pc' := 91) (lv' := [(0, .ref a), (1, .int i0)]) (st' := [.ref a]) [(90, .aload_n 0, 1, .null)] (by decide +kernel) rfl ?_
    refine aw_gl (v := .ref (a + 5)) a 0 h0 eo_D_0 fgX1_21 rfl (by decide +kernel) ?_
    refine aw_b (pc' := 95) (lv' := [(0, .ref a), (1, .int i0)]) (st' := [.ref a, .ref (a + 5)]) [(94, .aload_n 0, 1, .null)] (by decide +kernel) rfl ?_
    refine aw_gl (v := .ref (a + 1)) a 0 h0 eo_D_0 fgX1_12 rfl (by decide +kernel) ?_
    refine aw_b (pc' := 100) (lv' := [(0, .ref a), (1, .int i0)]) (st' := [.ref a, .int i0, .ref (a + 1), .ref (a + 5)]) [(98, .iload_n 1, 1, .null), (99, .aload_n 0, 1, .null)] (by decide +kernel) rfl ?_
    refine aw_gl (v := .ref (a + 14)) a 0 h0 eo_D_0 fgX1_39 rfl (by decide +kernel) ?_
    obtain ⟨r1, e2, hm⟩ := bn_x hm
    refine aw_cv (rest := []) (st1 := []) a 5 (kX0_foresee e2 (h0.sub su_D_5_A) (h0.sub su_D_1_S) (h0.sub su_D_14_I100) (Nat.le_trans hf (Nat.le_add_right _ _)) (by omega) (by omega)) rfl rfl ckX0_foresee lkX1_159 h0 eo_D_5 ⟨_, _, rfl⟩ nkX0_foresee rfl rfl rfl (Nat.le_of_ble_eq_true rfl) (Nat.zero_le _) (Nat.zero_le _) (by decide +kernel) (fun H3 z4 => ?_)
    obtain ⟨z4, hn⟩ := z4
    obtain ⟨s5, e6, hm⟩ := bd_x hm
    have h0 := h0.mg su_D_14_I100 hn z4 rfl e6
    have hs := hs.step z4 (by omega) (by omega)
    refine aw_b (pc' := 108) (lv' := [(2, .int (0 : Int32)), (0, .ref a), (1, .int i0)]) (st' := []) [(106, .iconst 0, 1, .int (0 : Int32)), (107, .istore_n 2, 1, .null)] (by decide +kernel) rfl ?_
    obtain ⟨x108, hx108, hr108⟩ := bn_x hm
    have X108_144 : ∀ (s_x108_144 : st_) (H_x108_144 : Heap), has_ E H_x108_144 a ly_D s_x108_144 → sm_ H H_x108_144 a 33 → fX1_foreseeHurts_x108_144 s_x108_144 = some r → aw E mX1_foreseeHurts Q 144 [] [] H_x108_144 0 0 := by
      intro s_x108_144 H_x108_144 h0 hs hm
      unfold fX1_foreseeHurts_x108_144 at hm
      obtain rfl := Option.some.inj hm
      subst hQ
      exact aw_vret rfl (Nat.zero_le _) (Nat.zero_le _) (by decide +kernel) ⟨rfl, hs, h0⟩
    have L108 : ∀ (fu : Nat) (v2_b108 : Int32) (s_b108 : st_) (H_b108 : Heap), has_ E H_b108 a ly_D s_b108 → sm_ H H_b108 a 33 → fX1_foreseeHurts_l108 fu (v2_b108, s_b108) = some x108 → aw E mX1_foreseeHurts Q 108 [(0, .ref a), (2, .int v2_b108)] [] H_b108 0 0 := by
      intro fu
      induction fu with
      | zero =>
        intro v2_b108 s_b108 H_b108 h0 hs hm
        exact (it_0 hm).elim
      | succ fu ih108 =>
        intro v2_b108 s_b108 H_b108 h0 hs hm
        obtain ⟨y108, hm, hk108⟩ := it_s hm
        have hm : fX1_foreseeHurts_b108 v2_b108 s_b108 = some y108 := hm
        unfold fX1_foreseeHurts_b108 at hm
        refine aw_b (pc' := 110) (lv' := [(0, .ref a), (2, .int v2_b108)]) (st' := [.ref a, .int v2_b108]) [(108, .iload_n 2, 1, .null), (109, .aload_n 0, 1, .null)] (by decide +kernel) rfl ?_
        refine aw_gl (v := .ref (a + 1)) a 0 h0 eo_D_0 fgX1_12 rfl (by decide +kernel) ?_
        refine aw_gl (v := .int (s_b108 1 0)) a 1 h0 eo_D_1 fgX1_124 rfl (by decide +kernel) ?_
        refine aw_ic_ge (off := 28) 144 (by decide) (by decide +kernel) (fun hc => ?_) (fun hc => ?_)
        · have hm := (if_pos hc).symm.trans hm
          cases hm
          refine aw_lv (lv' := []) [] rfl ?_
          exact X108_144 s_b108 H_b108 h0 hs ((congrArg fX1_foreseeHurts_k108 (show (s_b108) = x108 from hk108)).trans hr108)
        · have hm := (if_neg hc).symm.trans hm
          refine aw_b (pc' := 120) (lv' := [(0, .ref a), (2, .int v2_b108)]) (st' := [.ref a]) [(119, .aload_n 0, 1, .null)] (by decide +kernel) rfl ?_
          refine aw_gl (v := .ref (a + 13)) a 0 h0 eo_D_0 fgX1_36 rfl (by decide +kernel) ?_
          refine aw_b (pc' := 125) (lv' := [(0, .ref a), (2, .int v2_b108)]) (st' := [.ref a, .int v2_b108, .ref (a + 13)]) [(123, .iload_n 2, 1, .null), (124, .aload_n 0, 1, .null)] (by decide +kernel) rfl ?_
          refine aw_gl (v := .ref (a + 14)) a 0 h0 eo_D_0 fgX1_39 rfl (by decide +kernel) ?_
          refine aw_b (pc' := 129) (lv' := [(0, .ref a), (2, .int v2_b108)]) (st' := [.int v2_b108, .ref (a + 14), .int v2_b108, .ref (a + 13)]) [(128, .iload_n 2, 1, .null)] (by decide +kernel) rfl ?_
          obtain ⟨g7, hm⟩ := gd_x hm
          refine aw_ial a 14 h0 rfl g7 (by decide +kernel) ?_
          refine aw_b (pc' := 131) (lv' := [(0, .ref a), (2, .int v2_b108)]) (st' := [.ref a, .int (s_b108 14 (ix_ v2_b108)), .int v2_b108, .ref (a + 13)]) [(130, .aload_n 0, 1, .null)] (by decide +kernel) rfl ?_
          refine aw_gl (v := .ref (a + 13)) a 0 h0 eo_D_0 fgX1_36 rfl (by decide +kernel) ?_
          refine aw_b (pc' := 135) (lv' := [(0, .ref a), (2, .int v2_b108)]) (st' := [.int v2_b108, .ref (a + 13), .int (s_b108 14 (ix_ v2_b108)), .int v2_b108, .ref (a + 13)]) [(134, .iload_n 2, 1, .null)] (by decide +kernel) rfl ?_
          obtain ⟨g8, hm⟩ := gd_x hm
          refine aw_ial a 13 h0 rfl g8 (by decide +kernel) ?_
          refine aw_b (pc' := 137) (lv' := [(0, .ref a), (2, .int v2_b108)]) (st' := [.int ((s_b108 14 (ix_ v2_b108)) - (s_b108 13 (ix_ v2_b108))), .int v2_b108, .ref (a + 13)]) [(136, .isub, 1, .null)] (by decide +kernel) rfl ?_
          obtain ⟨g9, hm⟩ := gd_x hm
          obtain ⟨s10, e11, hm⟩ := bd_x hm
          refine aw_isl a 13 h0 rfl hf g9 e11 (by decide +kernel) (fun H12 h0 z13 => ?_)
          have hs := hs.step z13 (by omega) (by omega)
          refine aw_b (pc' := 108) (lv' := [(2, .int (v2_b108 + (1 : Int32))), (0, .ref a)]) (st' := []) [(138, .iinc 2 1, 3, .int (1 : Int32)), (141, .goto (-33), 3, .null)] (by decide +kernel) rfl ?_
          cases hm
          refine aw_lv (lv' := [(0, .ref a), (2, .int (v2_b108 + (1 : Int32)))]) [1, 0] rfl ?_
          exact ih108 (v2_b108 + (1 : Int32)) s10 H12 h0 hs hk108
    refine aw_lv (lv' := [(0, .ref a), (2, .int (0 : Int32))]) [1, 0] rfl ?_
    exact L108 FU_ (0 : Int32) s5 H3 h0 hs hx108
  have L2 : ∀ (fu : Nat) (v2_b2 : Int32) (s_b2 : st_) (H_b2 : Heap), has_ E H_b2 a ly_D s_b2 → sm_ H H_b2 a 33 → fX1_foreseeHurts_l2 fu (v2_b2, s_b2) = some x2 → aw E mX1_foreseeHurts Q 2 [(0, .ref a), (1, .int i0), (2, .int v2_b2)] [] H_b2 0 0 := by
    intro fu
    induction fu with
    | zero =>
      intro v2_b2 s_b2 H_b2 h0 hs hm
      exact (it_0 hm).elim
    | succ fu ih2 =>
      intro v2_b2 s_b2 H_b2 h0 hs hm
      obtain ⟨y2, hm, hk2⟩ := it_s hm
      have hm : fX1_foreseeHurts_b2 v2_b2 s_b2 = some y2 := hm
      unfold fX1_foreseeHurts_b2 at hm
      refine aw_b (pc' := 4) (lv' := [(0, .ref a), (1, .int i0), (2, .int v2_b2)]) (st' := [.ref a, .int v2_b2]) [(2, .iload_n 2, 1, .null), (3, .aload_n 0, 1, .null)] (by decide +kernel) rfl ?_
      refine aw_gl (v := .ref (a + 1)) a 0 h0 eo_D_0 fgX1_12 rfl (by decide +kernel) ?_
      refine aw_gl (v := .int (s_b2 1 4)) a 1 h0 eo_D_1 fgX1_105 rfl (by decide +kernel) ?_
      refine aw_ic_ge (off := 80) 90 (by decide) (by decide +kernel) (fun hc => ?_) (fun hc => ?_)
      · have hm := (if_pos hc).symm.trans hm
        cases hm
        refine aw_lv (lv' := [(0, .ref a), (1, .int i0)]) [0, 1] rfl ?_
        exact X2_90 s_b2 H_b2 h0 hs ((congrArg (fX1_foreseeHurts_k2 i0) (show (s_b2) = x2 from hk2)).trans hr2)
      · have hm := (if_neg hc).symm.trans hm
        refine aw_b (pc' := 14) (lv' := [(0, .ref a), (1, .int i0), (2, .int v2_b2)]) (st' := [.ref a]) [(13, .aload_n 0, 1, .null)] (by decide +kernel) rfl ?_
        refine aw_gl (v := .ref (a + 11)) a 0 h0 eo_D_0 fgX1_28 rfl (by decide +kernel) ?_
        refine aw_b (pc' := 18) (lv' := [(0, .ref a), (1, .int i0), (2, .int v2_b2)]) (st' := [.int v2_b2, .ref (a + 11)]) [(17, .iload_n 2, 1, .null)] (by decide +kernel) rfl ?_
        obtain ⟨g14, hm⟩ := gd_x hm
        refine aw_rall a 11 h0 ra_D_11 g14 (by decide +kernel) ?_
        refine aw_b (pc' := 20) (lv' := [(0, .ref a), (1, .int i0), (2, .int v2_b2)]) (st' := [.ref a, .ref (a + (3 * ix_ v2_b2 + 15))]) [(19, .aload_n 0, 1, .null)] (by decide +kernel) rfl ?_
        refine aw_gl (v := .ref (a + 1)) a 0 h0 eo_D_0 fgX1_12 rfl (by decide +kernel) ?_
        refine aw_b (pc' := 25) (lv' := [(0, .ref a), (1, .int i0), (2, .int v2_b2)]) (st' := [.ref a, .int v2_b2, .ref (a + 1), .ref (a + (3 * ix_ v2_b2 + 15))]) [(23, .iload_n 2, 1, .null), (24, .aload_n 0, 1, .null)] (by decide +kernel) rfl ?_
        refine aw_gl (v := .ref (a + 14)) a 0 h0 eo_D_0 fgX1_39 rfl (by decide +kernel) ?_
        obtain ⟨r15, e16, hm⟩ := bn_x hm
        have q17 := ib_lt g14
        refine aw_cv (rest := []) (st1 := []) a (3 * ix_ v2_b2 + 15) (kX0_foresee e16 (h0.sub (so_D_15 _ (ib_lt g14))) (h0.sub su_D_1_S) (h0.sub su_D_14_I100) (Nat.le_trans hf (Nat.le_add_right _ _)) (by omega) (by omega)) rfl rfl ckX0_foresee lkX1_159 h0 (eow_D_15 _ (ib_lt g14)) ⟨_, _, rfl⟩ nkX0_foresee rfl rfl rfl (Nat.le_of_ble_eq_true rfl) (Nat.zero_le _) (Nat.zero_le _) (by decide +kernel) (fun H18 z19 => ?_)
        obtain ⟨z19, hn⟩ := z19
        obtain ⟨s20, e21, hm⟩ := bd_x hm
        have h0 := h0.mg su_D_14_I100 hn z19 rfl e21
        have hs := hs.step z19 (by omega) (by omega)
        refine aw_b (pc' := 33) (lv' := [(3, .int (0 : Int32)), (0, .ref a), (1, .int i0), (2, .int v2_b2)]) (st' := []) [(31, .iconst 0, 1, .int (0 : Int32)), (32, .istore_n 3, 1, .null)] (by decide +kernel) rfl ?_
        obtain ⟨x33, hx33, hr33⟩ := bn_x hm
        have X33_84 : ∀ (s_x33_84 : st_) (H_x33_84 : Heap), has_ E H_x33_84 a ly_D s_x33_84 → sm_ H H_x33_84 a 33 → fX1_foreseeHurts_x33_84 v2_b2 s_x33_84 = some y2 → aw E mX1_foreseeHurts Q 84 [(0, .ref a), (1, .int i0), (2, .int v2_b2)] [] H_x33_84 0 0 := by
          intro s_x33_84 H_x33_84 h0 hs hm
          unfold fX1_foreseeHurts_x33_84 at hm
          refine aw_b (pc' := 2) (lv' := [(2, .int (v2_b2 + (1 : Int32))), (0, .ref a), (1, .int i0)]) (st' := []) [(84, .iinc 2 1, 3, .int (1 : Int32)), (87, .goto (-85), 3, .null)] (by decide +kernel) rfl ?_
          cases hm
          refine aw_lv (lv' := [(0, .ref a), (1, .int i0), (2, .int (v2_b2 + (1 : Int32)))]) [1, 2, 0] rfl ?_
          exact ih2 (v2_b2 + (1 : Int32)) s_x33_84 H_x33_84 h0 hs hk2
        have L33 : ∀ (fu : Nat) (v3_b33 : Int32) (s_b33 : st_) (H_b33 : Heap), has_ E H_b33 a ly_D s_b33 → sm_ H H_b33 a 33 → fX1_foreseeHurts_l33 v2_b2 fu (v3_b33, s_b33) = some x33 → aw E mX1_foreseeHurts Q 33 [(0, .ref a), (1, .int i0), (2, .int v2_b2), (3, .int v3_b33)] [] H_b33 0 0 := by
          intro fu
          induction fu with
          | zero =>
            intro v3_b33 s_b33 H_b33 h0 hs hm
            exact (it_0 hm).elim
          | succ fu ih33 =>
            intro v3_b33 s_b33 H_b33 h0 hs hm
            obtain ⟨y33, hm, hk33⟩ := it_s hm
            have hm : fX1_foreseeHurts_b33 v2_b2 v3_b33 s_b33 = some y33 := hm
            unfold fX1_foreseeHurts_b33 at hm
            refine aw_b (pc' := 35) (lv' := [(0, .ref a), (1, .int i0), (2, .int v2_b2), (3, .int v3_b33)]) (st' := [.ref a, .int v3_b33]) [(33, .iload_n 3, 1, .null), (34, .aload_n 0, 1, .null)] (by decide +kernel) rfl ?_
            refine aw_gl (v := .ref (a + 1)) a 0 h0 eo_D_0 fgX1_12 rfl (by decide +kernel) ?_
            refine aw_gl (v := .int (s_b33 1 0)) a 1 h0 eo_D_1 fgX1_124 rfl (by decide +kernel) ?_
            refine aw_ic_ge (off := 43) 84 (by decide) (by decide +kernel) (fun hc => ?_) (fun hc => ?_)
            · have hm := (if_pos hc).symm.trans hm
              cases hm
              refine aw_lv (lv' := [(0, .ref a), (1, .int i0), (2, .int v2_b2)]) [0, 1, 2] rfl ?_
              exact X33_84 s_b33 H_b33 h0 hs ((congrArg (fX1_foreseeHurts_k33 v2_b2) (show (s_b33) = x33 from hk33)).trans hr33)
            · have hm := (if_neg hc).symm.trans hm
              refine aw_b (pc' := 45) (lv' := [(0, .ref a), (1, .int i0), (2, .int v2_b2), (3, .int v3_b33)]) (st' := [.ref a]) [(44, .aload_n 0, 1, .null)] (by decide +kernel) rfl ?_
              refine aw_gl (v := .ref (a + 13)) a 0 h0 eo_D_0 fgX1_36 rfl (by decide +kernel) ?_
              refine aw_b (pc' := 50) (lv' := [(0, .ref a), (1, .int i0), (2, .int v2_b2), (3, .int v3_b33)]) (st' := [.int v2_b2, .int v3_b33, .ref (a + 13)]) [(48, .iload_n 3, 1, .null), (49, .iload_n 2, 1, .null)] (by decide +kernel) rfl ?_
              have J77 : ∀ (z2_j77 : Int32) (H_j77 : Heap), has_ E H_j77 a ly_D s_b33 → sm_ H H_j77 a 33 → fX1_foreseeHurts_j77 v3_b33 s_b33 z2_j77 = some y33 → aw E mX1_foreseeHurts Q 77 [(0, .ref a), (1, .int i0), (2, .int v2_b2), (3, .int v3_b33)] [.int z2_j77, .int v3_b33, .ref (a + 13)] H_j77 0 0 := by
                intro z2_j77 H_j77 h0 hs hm
                unfold fX1_foreseeHurts_j77 at hm
                obtain ⟨g22, hm⟩ := gd_x hm
                obtain ⟨s23, e24, hm⟩ := bd_x hm
                refine aw_isl a 13 h0 rfl hf g22 e24 (by decide +kernel) (fun H25 h0 z26 => ?_)
                have hs := hs.step z26 (by omega) (by omega)
                refine aw_b (pc' := 33) (lv' := [(3, .int (v3_b33 + (1 : Int32))), (0, .ref a), (1, .int i0), (2, .int v2_b2)]) (st' := []) [(78, .iinc 3 1, 3, .int (1 : Int32)), (81, .goto (-48), 3, .null)] (by decide +kernel) rfl ?_
                cases hm
                refine aw_lv (lv' := [(0, .ref a), (1, .int i0), (2, .int v2_b2), (3, .int (v3_b33 + (1 : Int32)))]) [1, 2, 3, 0] rfl ?_
                exact ih33 (v3_b33 + (1 : Int32)) s23 H25 h0 hs hk33
              refine aw_if_ne (off := 12) 62 (by decide) (by decide +kernel) (fun hc => ?_) (fun hc => ?_)
              · have hm := (if_neg hc).symm.trans hm
                refine aw_b (pc' := 63) (lv' := [(0, .ref a), (1, .int i0), (2, .int v2_b2), (3, .int v3_b33)]) (st' := [.ref a, .int v3_b33, .ref (a + 13)]) [(62, .aload_n 0, 1, .null)] (by decide +kernel) rfl ?_
                refine aw_gl (v := .ref (a + 13)) a 0 h0 eo_D_0 fgX1_36 rfl (by decide +kernel) ?_
                refine aw_b (pc' := 67) (lv' := [(0, .ref a), (1, .int i0), (2, .int v2_b2), (3, .int v3_b33)]) (st' := [.int v3_b33, .ref (a + 13), .int v3_b33, .ref (a + 13)]) [(66, .iload_n 3, 1, .null)] (by decide +kernel) rfl ?_
                obtain ⟨g27, hm⟩ := gd_x hm
                refine aw_ial a 13 h0 rfl g27 (by decide +kernel) ?_
                refine aw_b (pc' := 69) (lv' := [(0, .ref a), (1, .int i0), (2, .int v2_b2), (3, .int v3_b33)]) (st' := [.ref a, .int (s_b33 13 (ix_ v3_b33)), .int v3_b33, .ref (a + 13)]) [(68, .aload_n 0, 1, .null)] (by decide +kernel) rfl ?_
                refine aw_gl (v := .ref (a + 14)) a 0 h0 eo_D_0 fgX1_39 rfl (by decide +kernel) ?_
                refine aw_b (pc' := 73) (lv' := [(0, .ref a), (1, .int i0), (2, .int v2_b2), (3, .int v3_b33)]) (st' := [.int v3_b33, .ref (a + 14), .int (s_b33 13 (ix_ v3_b33)), .int v3_b33, .ref (a + 13)]) [(72, .iload_n 3, 1, .null)] (by decide +kernel) rfl ?_
                obtain ⟨g28, hm⟩ := gd_x hm
                refine aw_ial a 14 h0 rfl g28 (by decide +kernel) ?_
                refine aw_mn (rest := [.int v3_b33, .ref (a + 13)]) mtX1_163 rfl (Nat.le_of_ble_eq_true rfl) (Nat.zero_le _) (Nat.zero_le _) (by decide +kernel) ?_
                exact J77 (if (s_b33 14 (ix_ v3_b33)) < (s_b33 13 (ix_ v3_b33)) then (s_b33 14 (ix_ v3_b33)) else (s_b33 13 (ix_ v3_b33))) H_b33 h0 hs hm
              · have hm := (if_pos hc).symm.trans hm
                refine aw_b (pc' := 54) (lv' := [(0, .ref a), (1, .int i0), (2, .int v2_b2), (3, .int v3_b33)]) (st' := [.ref a, .int v3_b33, .ref (a + 13)]) [(53, .aload_n 0, 1, .null)] (by decide +kernel) rfl ?_
                refine aw_gl (v := .ref (a + 14)) a 0 h0 eo_D_0 fgX1_39 rfl (by decide +kernel) ?_
                refine aw_b (pc' := 58) (lv' := [(0, .ref a), (1, .int i0), (2, .int v2_b2), (3, .int v3_b33)]) (st' := [.int v3_b33, .ref (a + 14), .int v3_b33, .ref (a + 13)]) [(57, .iload_n 3, 1, .null)] (by decide +kernel) rfl ?_
                obtain ⟨g29, hm⟩ := gd_x hm
                refine aw_ial a 14 h0 rfl g29 (by decide +kernel) ?_
                refine aw_b (pc' := 77) (lv' := [(0, .ref a), (1, .int i0), (2, .int v2_b2), (3, .int v3_b33)]) (st' := [.int (s_b33 14 (ix_ v3_b33)), .int v3_b33, .ref (a + 13)]) [(59, .goto 18, 3, .null)] (by decide +kernel) rfl ?_
                exact J77 (s_b33 14 (ix_ v3_b33)) H_b33 h0 hs hm
        refine aw_lv (lv' := [(0, .ref a), (1, .int i0), (2, .int v2_b2), (3, .int (0 : Int32))]) [1, 2, 3, 0] rfl ?_
        exact L33 FU_ (0 : Int32) s20 H18 h0 hs hx33
  refine aw_lv (lv' := [(0, .ref a), (1, .int i0), (2, .int (0 : Int32))]) [1, 2, 0] rfl ?_
  exact L2 FU_ (0 : Int32) s H h0 hs hx2
def mX1_mostHurtful : mt_ := (yX1_mostHurtful, cX1_mostHurtful, 3, some .int, [], { frames := 0, locals := 0, cells := 0, slots := 0 })
theorem ckX1_mostHurtful : cokV_ mX1_mostHurtful := ⟨⟨(uw_mem 1137 (by decide +kernel) (by decide +kernel)), (uw_mem 33 (by decide +kernel) (by decide +kernel)), by decide +kernel, by decide +kernel⟩, (uw_mem 1135 (by decide +kernel) (by decide +kernel)), (uw_mem 1136 (by decide +kernel) (by decide +kernel))⟩
theorem nkX1_mostHurtful : nok_ mX1_mostHurtful 0 := by decide +kernel
theorem kX1_mostHurtful {E : ev_} {H : Heap} {a : Nat} {s : st_} {r : Int32} (hm : fX1_mostHurtful s = some r) (h0 : has_ E H a ly_D s) : sp_ E mX1_mostHurtful [.ref a] H (po1 (.inl (some (.int r))) (fun Hn => sm_ H Hn 0 0)) := by
  refine sp_of (by decide +kernel) rfl rfl ?_
  generalize hQ : po1 _ _ = Q
  have hs : sm_ H H 0 0 := sm_.rfl'
  unfold fX1_mostHurtful at hm
  refine aw_lv (lv' := [(0, .ref a)]) [0] rfl ?_
  refine aw_b (pc' := 4) (lv' := [(2, .int (1 : Int32)), (1, .int (0 : Int32)), (0, .ref a)]) (st' := []) [(0, .iconst 0, 1, .int (0 : Int32)), (1, .istore_n 1, 1, .null), (2, .iconst 1, 1, .int (1 : Int32)), (3, .istore_n 2, 1, .null)] (by decide +kernel) rfl ?_
  obtain ⟨x4, hx4, hr4⟩ := bn_x hm
  have X4_38 : ∀ (v1_x4_38 : Int32) (H_x4_38 : Heap), has_ E H_x4_38 a ly_D s → sm_ H H_x4_38 0 0 → fX1_mostHurtful_x4_38 v1_x4_38 = some r → aw E mX1_mostHurtful Q 38 [(1, .int v1_x4_38)] [] H_x4_38 0 0 := by
    intro v1_x4_38 H_x4_38 h0 hs hm
    unfold fX1_mostHurtful_x4_38 at hm
    refine aw_b (pc' := 39) (lv' := [(1, .int v1_x4_38)]) (st' := [.int v1_x4_38]) [(38, .iload_n 1, 1, .null)] (by decide +kernel) rfl ?_
    obtain rfl := Option.some.inj hm
    subst hQ
    exact aw_iret rfl (Nat.zero_le _) (Nat.zero_le _) (by decide +kernel) ⟨rfl, hs⟩
  have L4 : ∀ (fu : Nat) (v1_b4 : Int32) (v2_b4 : Int32) (H_b4 : Heap), has_ E H_b4 a ly_D s → sm_ H H_b4 0 0 → fX1_mostHurtful_l4 s fu (v1_b4, v2_b4) = some x4 → aw E mX1_mostHurtful Q 4 [(0, .ref a), (1, .int v1_b4), (2, .int v2_b4)] [] H_b4 0 0 := by
    intro fu
    induction fu with
    | zero =>
      intro v1_b4 v2_b4 H_b4 h0 hs hm
      exact (it_0 hm).elim
    | succ fu ih4 =>
      intro v1_b4 v2_b4 H_b4 h0 hs hm
      obtain ⟨y4, hm, hk4⟩ := it_s hm
      have hm : fX1_mostHurtful_b4 s v1_b4 v2_b4 = some y4 := hm
      unfold fX1_mostHurtful_b4 at hm
      refine aw_b (pc' := 6) (lv' := [(0, .ref a), (1, .int v1_b4), (2, .int v2_b4)]) (st' := [.ref a, .int v2_b4]) [(4, .iload_n 2, 1, .null), (5, .aload_n 0, 1, .null)] (by decide +kernel) rfl ?_
      refine aw_gl (v := .ref (a + 1)) a 0 h0 eo_D_0 fgX1_12 rfl (by decide +kernel) ?_
      refine aw_gl (v := .int (s 1 0)) a 1 h0 eo_D_1 fgX1_124 rfl (by decide +kernel) ?_
      refine aw_ic_ge (off := 26) 38 (by decide) (by decide +kernel) (fun hc => ?_) (fun hc => ?_)
      · have hm := (if_pos hc).symm.trans hm
        cases hm
        refine aw_lv (lv' := [(1, .int v1_b4)]) [1] rfl ?_
        exact X4_38 v1_b4 H_b4 h0 hs ((congrArg fX1_mostHurtful_k4 (show (v1_b4) = x4 from hk4)).trans hr4)
      · have hm := (if_neg hc).symm.trans hm
        refine aw_b (pc' := 16) (lv' := [(0, .ref a), (1, .int v1_b4), (2, .int v2_b4)]) (st' := [.ref a]) [(15, .aload_n 0, 1, .null)] (by decide +kernel) rfl ?_
        refine aw_gl (v := .ref (a + 13)) a 0 h0 eo_D_0 fgX1_36 rfl (by decide +kernel) ?_
        refine aw_b (pc' := 20) (lv' := [(0, .ref a), (1, .int v1_b4), (2, .int v2_b4)]) (st' := [.int v2_b4, .ref (a + 13)]) [(19, .iload_n 2, 1, .null)] (by decide +kernel) rfl ?_
        obtain ⟨g1, hm⟩ := gd_x hm
        refine aw_ial a 13 h0 rfl g1 (by decide +kernel) ?_
        refine aw_b (pc' := 22) (lv' := [(0, .ref a), (1, .int v1_b4), (2, .int v2_b4)]) (st' := [.ref a, .int (s 13 (ix_ v2_b4))]) [(21, .aload_n 0, 1, .null)] (by decide +kernel) rfl ?_
        refine aw_gl (v := .ref (a + 13)) a 0 h0 eo_D_0 fgX1_36 rfl (by decide +kernel) ?_
        refine aw_b (pc' := 26) (lv' := [(0, .ref a), (1, .int v1_b4), (2, .int v2_b4)]) (st' := [.int v1_b4, .ref (a + 13), .int (s 13 (ix_ v2_b4))]) [(25, .iload_n 1, 1, .null)] (by decide +kernel) rfl ?_
        obtain ⟨g2, hm⟩ := gd_x hm
        refine aw_ial a 13 h0 rfl g2 (by decide +kernel) ?_
        have J32 : ∀ (v1_j32 : Int32) (H_j32 : Heap), has_ E H_j32 a ly_D s → sm_ H H_j32 0 0 → fX1_mostHurtful_j32 v2_b4 v1_j32 = some y4 → aw E mX1_mostHurtful Q 32 [(0, .ref a), (1, .int v1_j32), (2, .int v2_b4)] [] H_j32 0 0 := by
          intro v1_j32 H_j32 h0 hs hm
          unfold fX1_mostHurtful_j32 at hm
          refine aw_b (pc' := 4) (lv' := [(2, .int (v2_b4 + (1 : Int32))), (0, .ref a), (1, .int v1_j32)]) (st' := []) [(32, .iinc 2 1, 3, .int (1 : Int32)), (35, .goto (-31), 3, .null)] (by decide +kernel) rfl ?_
          cases hm
          refine aw_lv (lv' := [(0, .ref a), (1, .int v1_j32), (2, .int (v2_b4 + (1 : Int32)))]) [1, 2, 0] rfl ?_
          exact ih4 v1_j32 (v2_b4 + (1 : Int32)) H_j32 h0 hs hk4
        refine aw_ic_le (off := 5) 32 (by decide) (by decide +kernel) (fun hc => ?_) (fun hc => ?_)
        · have hm := (if_pos hc).symm.trans hm
          exact J32 v1_b4 H_b4 h0 hs hm
        · have hm := (if_neg hc).symm.trans hm
          refine aw_b (pc' := 32) (lv' := [(1, .int v2_b4), (0, .ref a), (2, .int v2_b4)]) (st' := []) [(30, .iload_n 2, 1, .null), (31, .istore_n 1, 1, .null)] (by decide +kernel) rfl ?_
          refine aw_lv (lv' := [(0, .ref a), (1, .int v2_b4), (2, .int v2_b4)]) [1, 0, 2] rfl ?_
          exact J32 v2_b4 H_b4 h0 hs hm
  refine aw_lv (lv' := [(0, .ref a), (1, .int (0 : Int32)), (2, .int (1 : Int32))]) [2, 1, 0] rfl ?_
  exact L4 FU_ (0 : Int32) (1 : Int32) H h0 hs hx4
def mX1_moveFoe : mt_ := (yX1_moveFoe, cX1_moveFoe, 2, none, [], { frames := 4, locals := 104, cells := 0, slots := 0 })
theorem ckX1_moveFoe : cokV_ mX1_moveFoe := ⟨⟨(uw_mem 1064 (by decide +kernel) (by decide +kernel)), (uw_mem 33 (by decide +kernel) (by decide +kernel)), by decide +kernel, by decide +kernel⟩, (uw_mem 1062 (by decide +kernel) (by decide +kernel)), (uw_mem 1063 (by decide +kernel) (by decide +kernel))⟩
theorem nkX1_moveFoe : nok_ mX1_moveFoe 0 := by decide +kernel
theorem lkX1_121 : Cond.methodLink RX1 121 yX1_isFull ∈ uw_ := (uw_mem 1065 (by decide +kernel) (by decide +kernel))
theorem lkX1_127 : Cond.methodLink RX1 127 yX1_foeNow ∈ uw_ := (uw_mem 1066 (by decide +kernel) (by decide +kernel))
theorem fgX1_131 : fok_ RX1 131 0 0 := ⟨_, _, _, rfl, by decide, (uw_mem 223 (by decide +kernel) (by decide +kernel)), wkX0⟩
theorem lkX1_137 : Cond.methodLink RX1 137 yX1_addNextAsk ∈ uw_ := (uw_mem 1071 (by decide +kernel) (by decide +kernel))
theorem lkX1_140 : Cond.methodLink RX1 140 yX1_comingRule ∈ uw_ := (uw_mem 1079 (by decide +kernel) (by decide +kernel))
theorem lkX1_143 : Cond.methodLink RX1 143 yX1_foreseeHurts ∈ uw_ := (uw_mem 1104 (by decide +kernel) (by decide +kernel))
theorem lkX1_146 : Cond.methodLink RX1 146 yX1_mostHurtful ∈ uw_ := (uw_mem 1134 (by decide +kernel) (by decide +kernel))
theorem kX1_moveFoe {E : ev_} {H : Heap} {a : Nat} {s : st_} {r : st_} (hm : fX1_moveFoe s = some r) (h0 : has_ E H a ly_D s) (hf : ev_fr E a) : sp_ E mX1_moveFoe [.ref a] H (po1 (.inl (none)) (fun Hn => sm_ H Hn a 33 ∧ has_ E Hn a ly_D r)) := by
  refine sp_of (by decide +kernel) rfl rfl ?_
  generalize hQ : po1 _ _ = Q
  have hs : sm_ H H a 33 := sm_.rfl'
  unfold fX1_moveFoe at hm
  refine aw_lv (lv' := [(0, .ref a)]) [0] rfl ?_
  refine aw_b (pc' := 1) (lv' := [(0, .ref a)]) (st' := [.ref a]) [(0, .aload_n 0, 1, .null)] (by decide +kernel) rfl ?_
  obtain ⟨r1, e2, hm⟩ := bn_x hm
  refine aw_cv (rest := []) (st1 := [.int r1]) a 0 (kX1_isFull e2 h0) rfl rfl ckX1_isFull lkX1_121 h0 eo_D_0 ⟨_, _, rfl⟩ nkX1_isFull rfl rfl rfl (Nat.le_of_ble_eq_true rfl) (Nat.zero_le _) (Nat.zero_le _) (by decide +kernel) (fun H3 z4 => ?_)
  have h0 := h0.kept0 z4
  have hs := hs.step0 z4
  refine aw_if_eq (off := 4) 8 (by decide) (by decide +kernel) (fun hc => ?_) (fun hc => ?_)
  · have hm := (if_pos hc).symm.trans hm
    refine aw_b (pc' := 9) (lv' := [(0, .ref a)]) (st' := [.ref a]) [(8, .aload_n 0, 1, .null)] (by decide +kernel) rfl ?_
    refine aw_gl (v := .ref (a + 1)) a 0 h0 eo_D_0 fgX1_12 rfl (by decide +kernel) ?_
    refine aw_gl (v := .int (s 1 0)) a 1 h0 eo_D_1 fgX1_124 rfl (by decide +kernel) ?_
    refine aw_b (pc' := 19) (lv' := [(1, .int ((s 1 0) - (1 : Int32))), (0, .ref a)]) (st' := [.ref a]) [(15, .iconst 1, 1, .int (1 : Int32)), (16, .isub, 1, .null), (17, .istore_n 1, 1, .null), (18, .aload_n 0, 1, .null)] (by decide +kernel) rfl ?_
    obtain ⟨r5, e6, hm⟩ := bn_x hm
    refine aw_cv (rest := []) (st1 := [.int r5]) a 0 (kX1_foeNow e6 h0) rfl rfl ckX1_foeNow lkX1_127 h0 eo_D_0 ⟨_, _, rfl⟩ nkX1_foeNow rfl rfl rfl (Nat.le_of_ble_eq_true rfl) (Nat.zero_le _) (Nat.zero_le _) (by decide +kernel) (fun H7 z8 => ?_)
    have h0 := h0.kept0 z8
    have hs := hs.step0 z8
    refine aw_ts [((1 : Int32), 56), ((2 : Int32), 87), ((3 : Int32), 103), ((4 : Int32), 124), ((5 : Int32), 131)] 160 (by decide +kernel) ?_
    refine aw_tg (fun hc => ?_) (fun hc => ?_)
    · have hm := (if_pos hc).symm.trans hm
      refine aw_b (pc' := 58) (lv' := [(1, .int ((s 1 0) - (1 : Int32))), (0, .ref a)]) (st' := [.ref a, .ref a]) [(56, .aload_n 0, 1, .null), (57, .aload_n 0, 1, .null)] (by decide +kernel) rfl ?_
      refine aw_gl (v := .ref (a + 5)) a 0 h0 eo_D_0 fgX1_21 rfl (by decide +kernel) ?_
      refine aw_gl (v := .int (s 5 0)) a 5 h0 eo_D_5 fgX1_131 rfl (by decide +kernel) ?_
      refine aw_b (pc' := 66) (lv' := [(1, .int ((s 1 0) - (1 : Int32))), (0, .ref a)]) (st' := [.ref a, .int ((s 1 0) - (1 : Int32)), .int (s 5 0), .ref a]) [(64, .iload_n 1, 1, .null), (65, .aload_n 0, 1, .null)] (by decide +kernel) rfl ?_
      refine aw_gl (v := .ref (a + 5)) a 0 h0 eo_D_0 fgX1_21 rfl (by decide +kernel) ?_
      refine aw_gl (v := .int (s 5 0)) a 5 h0 eo_D_5 fgX1_131 rfl (by decide +kernel) ?_
      refine aw_b (pc' := 73) (lv' := [(1, .int ((s 1 0) - (1 : Int32))), (0, .ref a)]) (st' := [.int (((s 1 0) - (1 : Int32)) - (s 5 0)), .int (s 5 0), .ref a]) [(72, .isub, 1, .null)] (by decide +kernel) rfl ?_
      have J81 : ∀ (z1_j81 : Int32) (H_j81 : Heap), has_ E H_j81 a ly_D s → sm_ H H_j81 a 33 → fX1_moveFoe_j81 s z1_j81 = some r → aw E mX1_moveFoe Q 81 [] [.int z1_j81, .ref a] H_j81 0 0 := by
        intro z1_j81 H_j81 h0 hs hm
        unfold fX1_moveFoe_j81 at hm
        obtain ⟨r9, e10, hm⟩ := bn_x hm
        refine aw_cv (rest := []) (st1 := []) a 0 (kX1_addForAll e10 h0 hf) rfl rfl ckX1_addForAll lkX1_134 h0 eo_D_0 ⟨_, _, rfl⟩ nkX1_addForAll rfl rfl rfl (Nat.le_of_ble_eq_true rfl) (Nat.zero_le _) (Nat.zero_le _) (by decide +kernel) (fun H11 z12 => ?_)
        obtain ⟨z12, hn⟩ := z12
        have h0 := hn
        have hs := hs.step z12 (by omega) (by omega)
        refine aw_b (pc' := 160) (lv' := []) (st' := []) [(84, .goto 76, 3, .null)] (by decide +kernel) rfl ?_
        obtain rfl := Option.some.inj hm
        subst hQ
        exact aw_vret rfl (Nat.zero_le _) (Nat.zero_le _) (by decide +kernel) ⟨rfl, hs, h0⟩
      refine aw_ic_lt (off := 7) 80 (by decide) (by decide +kernel) (fun hc => ?_) (fun hc => ?_)
      · have hm := (if_pos hc).symm.trans hm
        refine aw_b (pc' := 81) (lv' := [(1, .int ((s 1 0) - (1 : Int32))), (0, .ref a)]) (st' := [.int ((s 1 0) - (1 : Int32)), .ref a]) [(80, .iload_n 1, 1, .null)] (by decide +kernel) rfl ?_
        refine aw_lv (lv' := []) [] rfl ?_
        exact J81 ((s 1 0) - (1 : Int32)) H7 h0 hs hm
      · have hm := (if_neg hc).symm.trans hm
        refine aw_b (pc' := 81) (lv' := [(1, .int ((s 1 0) - (1 : Int32))), (0, .ref a)]) (st' := [.int (0 : Int32), .ref a]) [(76, .iconst 0, 1, .int (0 : Int32)), (77, .goto 4, 3, .null)] (by decide +kernel) rfl ?_
        refine aw_lv (lv' := []) [] rfl ?_
        exact J81 (0 : Int32) H7 h0 hs hm
    · have hm := (if_neg hc).symm.trans hm
      refine aw_tg (fun hc => ?_) (fun hc => ?_)
      · have hm := (if_pos hc).symm.trans hm
        refine aw_b (pc' := 90) (lv' := [(1, .int ((s 1 0) - (1 : Int32))), (0, .ref a)]) (st' := [.ref a, .int ((s 1 0) - (1 : Int32)), .ref a]) [(87, .aload_n 0, 1, .null), (88, .iload_n 1, 1, .null), (89, .aload_n 0, 1, .null)] (by decide +kernel) rfl ?_
        refine aw_gl (v := .ref (a + 5)) a 0 h0 eo_D_0 fgX1_21 rfl (by decide +kernel) ?_
        refine aw_gl (v := .int (s 5 0)) a 5 h0 eo_D_5 fgX1_131 rfl (by decide +kernel) ?_
        refine aw_b (pc' := 97) (lv' := [(1, .int ((s 1 0) - (1 : Int32))), (0, .ref a)]) (st' := [.int (((s 1 0) - (1 : Int32)) - (s 5 0)), .ref a]) [(96, .isub, 1, .null)] (by decide +kernel) rfl ?_
        obtain ⟨r13, e14, hm⟩ := bn_x hm
        refine aw_cv (rest := []) (st1 := []) a 0 (kX1_addForAll e14 h0 hf) rfl rfl ckX1_addForAll lkX1_134 h0 eo_D_0 ⟨_, _, rfl⟩ nkX1_addForAll rfl rfl rfl (Nat.le_of_ble_eq_true rfl) (Nat.zero_le _) (Nat.zero_le _) (by decide +kernel) (fun H15 z16 => ?_)
        obtain ⟨z16, hn⟩ := z16
        have h0 := hn
        have hs := hs.step z16 (by omega) (by omega)
        refine aw_b (pc' := 160) (lv' := [(1, .int ((s 1 0) - (1 : Int32))), (0, .ref a)]) (st' := []) [(100, .goto 60, 3, .null)] (by decide +kernel) rfl ?_
        obtain rfl := Option.some.inj hm
        subst hQ
        exact aw_vret rfl (Nat.zero_le _) (Nat.zero_le _) (by decide +kernel) ⟨rfl, hs, h0⟩
      · have hm := (if_neg hc).symm.trans hm
        refine aw_tg (fun hc => ?_) (fun hc => ?_)
        · have hm := (if_pos hc).symm.trans hm
          refine aw_b (pc' := 105) (lv' := [(1, .int ((s 1 0) - (1 : Int32))), (0, .ref a)]) (st' := [.ref a, .ref a]) [(103, .aload_n 0, 1, .null), (104, .aload_n 0, 1, .null)] (by decide +kernel) rfl ?_
          refine aw_gl (v := .int (s 0 9)) a 0 h0 eo_D_0 fgX1_66 rfl (by decide +kernel) ?_
          refine aw_b (pc' := 109) (lv' := [(1, .int ((s 1 0) - (1 : Int32))), (0, .ref a)]) (st' := [.int (2 : Int32), .int (s 0 9), .ref a]) [(108, .iconst 2, 1, .int (2 : Int32))] (by decide +kernel) rfl ?_
          refine aw_irem (by decide) (by decide +kernel) ?_
          have J118 : ∀ (z1_j118 : Int32) (H_j118 : Heap), has_ E H_j118 a ly_D s → sm_ H H_j118 a 33 → fX1_moveFoe_j118 s z1_j118 = some r → aw E mX1_moveFoe Q 118 [] [.int z1_j118, .ref a] H_j118 0 0 := by
            intro z1_j118 H_j118 h0 hs hm
            unfold fX1_moveFoe_j118 at hm
            obtain ⟨r17, e18, hm⟩ := bn_x hm
            refine aw_cv (rest := []) (st1 := []) a 0 (kX1_addForAll e18 h0 hf) rfl rfl ckX1_addForAll lkX1_134 h0 eo_D_0 ⟨_, _, rfl⟩ nkX1_addForAll rfl rfl rfl (Nat.le_of_ble_eq_true rfl) (Nat.zero_le _) (Nat.zero_le _) (by decide +kernel) (fun H19 z20 => ?_)
            obtain ⟨z20, hn⟩ := z20
            have h0 := hn
            have hs := hs.step z20 (by omega) (by omega)
            refine aw_b (pc' := 160) (lv' := []) (st' := []) [(121, .goto 39, 3, .null)] (by decide +kernel) rfl ?_
            obtain rfl := Option.some.inj hm
            subst hQ
            exact aw_vret rfl (Nat.zero_le _) (Nat.zero_le _) (by decide +kernel) ⟨rfl, hs, h0⟩
          refine aw_if_ne (off := 7) 117 (by decide) (by decide +kernel) (fun hc => ?_) (fun hc => ?_)
          · have hm := (if_neg hc).symm.trans hm
            refine aw_b (pc' := 118) (lv' := [(1, .int ((s 1 0) - (1 : Int32))), (0, .ref a)]) (st' := [.int (0 : Int32), .ref a]) [(117, .iconst 0, 1, .int (0 : Int32))] (by decide +kernel) rfl ?_
            refine aw_lv (lv' := []) [] rfl ?_
            exact J118 (0 : Int32) H7 h0 hs hm
          · have hm := (if_pos hc).symm.trans hm
            refine aw_b (pc' := 118) (lv' := [(1, .int ((s 1 0) - (1 : Int32))), (0, .ref a)]) (st' := [.int ((s 1 0) - (1 : Int32)), .ref a]) [(113, .iload_n 1, 1, .null), (114, .goto 4, 3, .null)] (by decide +kernel) rfl ?_
            refine aw_lv (lv' := []) [] rfl ?_
            exact J118 ((s 1 0) - (1 : Int32)) H7 h0 hs hm
        · have hm := (if_neg hc).symm.trans hm
          refine aw_tg (fun hc => ?_) (fun hc => ?_)
          · have hm := (if_pos hc).symm.trans hm
            refine aw_b (pc' := 125) (lv' := [(1, .int ((s 1 0) - (1 : Int32))), (0, .ref a)]) (st' := [.ref a]) [(124, .aload_n 0, 1, .null)] (by decide +kernel) rfl ?_
            obtain ⟨r21, e22, hm⟩ := bn_x hm
            refine aw_cv (rest := []) (st1 := []) a 0 (kX1_addNextAsk e22 h0 hf) rfl rfl ckX1_addNextAsk lkX1_137 h0 eo_D_0 ⟨_, _, rfl⟩ nkX1_addNextAsk rfl rfl rfl (Nat.le_of_ble_eq_true rfl) (Nat.zero_le _) (Nat.zero_le _) (by decide +kernel) (fun H23 z24 => ?_)
            obtain ⟨z24, hn⟩ := z24
            have h0 := hn
            have hs := hs.step z24 (by omega) (by omega)
            refine aw_b (pc' := 160) (lv' := [(1, .int ((s 1 0) - (1 : Int32))), (0, .ref a)]) (st' := []) [(128, .goto 32, 3, .null)] (by decide +kernel) rfl ?_
            obtain rfl := Option.some.inj hm
            subst hQ
            exact aw_vret rfl (Nat.zero_le _) (Nat.zero_le _) (by decide +kernel) ⟨rfl, hs, h0⟩
          · have hm := (if_neg hc).symm.trans hm
            refine aw_tg (fun hc => ?_) (fun hc => ?_)
            · have hm := (if_pos hc).symm.trans hm
              refine aw_b (pc' := 133) (lv' := [(1, .int ((s 1 0) - (1 : Int32))), (0, .ref a)]) (st' := [.ref a, .ref a]) [(131, .aload_n 0, 1, .null), (132, .aload_n 0, 1, .null)] (by decide +kernel) rfl ?_
              obtain ⟨r25, e26, hm⟩ := bn_x hm
              refine aw_cv (rest := [.ref a]) (st1 := [.int r25, .ref a]) a 0 (kX1_comingRule e26 h0) rfl rfl ckX1_comingRule lkX1_140 h0 eo_D_0 ⟨_, _, rfl⟩ nkX1_comingRule rfl rfl rfl (Nat.le_of_ble_eq_true rfl) (Nat.zero_le _) (Nat.zero_le _) (by decide +kernel) (fun H27 z28 => ?_)
              have h0 := h0.kept0 z28
              have hs := hs.step0 z28
              obtain ⟨r29, e30, hm⟩ := bn_x hm
              refine aw_cv (rest := []) (st1 := []) a 0 (kX1_foreseeHurts e30 h0 hf) rfl rfl ckX1_foreseeHurts lkX1_143 h0 eo_D_0 ⟨_, _, rfl⟩ nkX1_foreseeHurts rfl rfl rfl (Nat.le_of_ble_eq_true rfl) (Nat.zero_le _) (Nat.zero_le _) (by decide +kernel) (fun H31 z32 => ?_)
              obtain ⟨z32, hn⟩ := z32
              have h0 := hn
              have hs := hs.step z32 (by omega) (by omega)
              refine aw_b (pc' := 141) (lv' := [(1, .int ((s 1 0) - (1 : Int32))), (0, .ref a)]) (st' := [.ref a, .ref a]) [(139, .aload_n 0, 1, .null), (140, .aload_n 0, 1, .null)] (by decide +kernel) rfl ?_
              obtain ⟨r33, e34, hm⟩ := bn_x hm
              refine aw_cv (rest := [.ref a]) (st1 := [.int r33, .ref a]) a 0 (kX1_mostHurtful e34 h0) rfl rfl ckX1_mostHurtful lkX1_146 h0 eo_D_0 ⟨_, _, rfl⟩ nkX1_mostHurtful rfl rfl rfl (Nat.le_of_ble_eq_true rfl) (Nat.zero_le _) (Nat.zero_le _) (by decide +kernel) (fun H35 z36 => ?_)
              have h0 := h0.kept0 z36
              have hs := hs.step0 z36
              obtain ⟨r37, e38, hm⟩ := bn_x hm
              refine aw_cv (rest := []) (st1 := []) a 0 (kX1_addForAll e38 h0 hf) rfl rfl ckX1_addForAll lkX1_134 h0 eo_D_0 ⟨_, _, rfl⟩ nkX1_addForAll rfl rfl rfl (Nat.le_of_ble_eq_true rfl) (Nat.zero_le _) (Nat.zero_le _) (by decide +kernel) (fun H39 z40 => ?_)
              obtain ⟨z40, hn⟩ := z40
              have h0 := hn
              have hs := hs.step z40 (by omega) (by omega)
              refine aw_b (pc' := 149) (lv' := [(1, .int ((s 1 0) - (1 : Int32))), (0, .ref a)]) (st' := [.ref a, .ref a]) [(147, .aload_n 0, 1, .null), (148, .dup, 1, .null)] (by decide +kernel) rfl ?_
              refine aw_gl (v := .int (r37 0 11)) a 0 h0 eo_D_0 fgX1_72 rfl (by decide +kernel) ?_
              refine aw_b (pc' := 154) (lv' := [(1, .int ((s 1 0) - (1 : Int32))), (0, .ref a)]) (st' := [.int ((r37 0 11) + (1 : Int32)), .ref a]) [(152, .iconst 1, 1, .int (1 : Int32)), (153, .iadd, 1, .null)] (by decide +kernel) rfl ?_
              obtain ⟨s41, e42, hm⟩ := bd_x hm
              refine aw_pl a 0 h0 eo_D_0 fsq_1_11 fpX1_72 hf rfl rfl e42 (by decide +kernel) (fun H43 h0 z44 => ?_)
              have hs := hs.step z44 (by omega) (by omega)
              refine aw_b (pc' := 160) (lv' := [(1, .int ((s 1 0) - (1 : Int32))), (0, .ref a)]) (st' := []) [(157, .goto 3, 3, .null)] (by decide +kernel) rfl ?_
              obtain rfl := Option.some.inj hm
              subst hQ
              exact aw_vret rfl (Nat.zero_le _) (Nat.zero_le _) (by decide +kernel) ⟨rfl, hs, h0⟩
            · have hm := (if_neg hc).symm.trans hm
              show aw E _ Q 160 _ _ _ _ _
              obtain rfl := Option.some.inj hm
              subst hQ
              exact aw_vret rfl (Nat.zero_le _) (Nat.zero_le _) (by decide +kernel) ⟨rfl, hs, h0⟩
  · have hm := (if_neg hc).symm.trans hm
    obtain rfl := Option.some.inj hm
    subst hQ
    exact aw_vret rfl (Nat.zero_le _) (Nat.zero_le _) (by decide +kernel) ⟨rfl, hs, h0⟩
def mX1_takeRules : mt_ := (yX1_takeRules, cX1_takeRules, 1, none, [], { frames := 3, locals := 69, cells := 0, slots := 0 })
theorem ckX1_takeRules : cokV_ mX1_takeRules := ⟨⟨(uw_mem 1141 (by decide +kernel) (by decide +kernel)), (uw_mem 33 (by decide +kernel) (by decide +kernel)), by decide +kernel, by decide +kernel⟩, (uw_mem 1139 (by decide +kernel) (by decide +kernel)), (uw_mem 1140 (by decide +kernel) (by decide +kernel))⟩
theorem nkX1_takeRules : nok_ mX1_takeRules 0 := by decide +kernel
theorem fgX1_182 : fok_ RX1 182 5 14 := ⟨_, _, _, rfl, by decide, (uw_mem 119 (by decide +kernel) (by decide +kernel)), wkX5⟩
theorem fgX1_185 : fok_ RX1 185 5 15 := ⟨_, _, _, rfl, by decide, (uw_mem 123 (by decide +kernel) (by decide +kernel)), wkX5⟩
theorem kX1_takeRules {E : ev_} {H : Heap} {a : Nat} {s : st_} {r : st_} (hm : fX1_takeRules s = some r) (h0 : has_ E H a ly_D s) (hf : ev_fr E a) : sp_ E mX1_takeRules [.ref a] H (po1 (.inl (none)) (fun Hn => sm_ H Hn a 33 ∧ has_ E Hn a ly_D r)) := by
  refine sp_of (by decide +kernel) rfl rfl ?_
  generalize hQ : po1 _ _ = Q
  have hs : sm_ H H a 33 := sm_.rfl'
  unfold fX1_takeRules at hm
  refine aw_lv (lv' := [(0, .ref a)]) [0] rfl ?_
  refine aw_b (pc' := 1) (lv' := [(0, .ref a)]) (st' := [.ref a]) [(0, .aload_n 0, 1, .null)] (by decide +kernel) rfl ?_
  refine aw_gl (v := .ref (a + 1)) a 0 h0 eo_D_0 fgX1_12 rfl (by decide +kernel) ?_
  refine aw_gl (v := .int (s 1 7)) a 1 h0 eo_D_1 fgX1_169 rfl (by decide +kernel) ?_
  have J21 : ∀ (s_j21 : st_) (H_j21 : Heap), has_ E H_j21 a ly_D s_j21 → sm_ H H_j21 a 33 → fX1_takeRules_j21 s_j21 = some r → aw E mX1_takeRules Q 21 [(0, .ref a)] [] H_j21 0 0 := by
    intro s_j21 H_j21 h0 hs hm
    unfold fX1_takeRules_j21 at hm
    refine aw_b (pc' := 24) (lv' := [(0, .ref a)]) (st' := [.ref a, .ref a, .ref a]) [(21, .aload_n 0, 1, .null), (22, .aload_n 0, 1, .null), (23, .aload_n 0, 1, .null)] (by decide +kernel) rfl ?_
    refine aw_gl (v := .ref (a + 1)) a 0 h0 eo_D_0 fgX1_12 rfl (by decide +kernel) ?_
    refine aw_gl (v := .int (s_j21 1 7)) a 1 h0 eo_D_1 fgX1_169 rfl (by decide +kernel) ?_
    refine aw_b (pc' := 31) (lv' := [(0, .ref a)]) (st' := [.ref a, .int (s_j21 1 7), .ref a, .ref a]) [(30, .aload_n 0, 1, .null)] (by decide +kernel) rfl ?_
    refine aw_gl (v := .ref (a + 1)) a 0 h0 eo_D_0 fgX1_12 rfl (by decide +kernel) ?_
    refine aw_gl (v := .int (s_j21 1 8)) a 1 h0 eo_D_1 fgX1_175 rfl (by decide +kernel) ?_
    refine aw_b (pc' := 38) (lv' := [(0, .ref a)]) (st' := [.ref a, .int (s_j21 1 8), .int (s_j21 1 7), .ref a, .ref a]) [(37, .aload_n 0, 1, .null)] (by decide +kernel) rfl ?_
    refine aw_gl (v := .int (s_j21 0 7)) a 0 h0 eo_D_0 fgX1_60 rfl (by decide +kernel) ?_
    obtain ⟨r1, e2, hm⟩ := bn_x hm
    refine aw_cv (rest := [.ref a]) (st1 := [.int r1, .ref a]) a 0 (kX1_ruleBy e2 h0) rfl rfl ckX1_ruleBy lkX1_178 h0 eo_D_0 ⟨_, _, rfl⟩ nkX1_ruleBy rfl rfl rfl (Nat.le_of_ble_eq_true rfl) (Nat.zero_le _) (Nat.zero_le _) (by decide +kernel) (fun H3 z4 => ?_)
    have h0 := h0.kept0 z4
    have hs := hs.step0 z4
    obtain ⟨s5, e6, hm⟩ := bd_x hm
    refine aw_pl a 0 h0 eo_D_0 fsq_1_12 fpX1_75 hf rfl rfl e6 (by decide +kernel) (fun H7 h0 z8 => ?_)
    have hs := hs.step z8 (by omega) (by omega)
    refine aw_b (pc' := 48) (lv' := [(0, .ref a)]) (st' := [.ref a]) [(47, .aload_n 0, 1, .null)] (by decide +kernel) rfl ?_
    refine aw_gl (v := .ref (a + 1)) a 0 h0 eo_D_0 fgX1_12 rfl (by decide +kernel) ?_
    refine aw_gl (v := .int (s5 1 14)) a 1 h0 eo_D_1 fgX1_182 rfl (by decide +kernel) ?_
    have J68 : ∀ (s_j68 : st_) (H_j68 : Heap), has_ E H_j68 a ly_D s_j68 → sm_ H H_j68 a 33 → fX1_takeRules_j68 s_j68 = some r → aw E mX1_takeRules Q 68 [(0, .ref a)] [] H_j68 0 0 := by
      intro s_j68 H_j68 h0 hs hm
      unfold fX1_takeRules_j68 at hm
      refine aw_b (pc' := 69) (lv' := [(0, .ref a)]) (st' := [.ref a]) [(68, .aload_n 0, 1, .null)] (by decide +kernel) rfl ?_
      refine aw_gl (v := .ref (a + 1)) a 0 h0 eo_D_0 fgX1_12 rfl (by decide +kernel) ?_
      obtain ⟨r9, e10, hm⟩ := bn_x hm
      refine aw_cv (rest := []) (st1 := [.int r9]) a 1 (kX5_hasRival e10 (h0.sub su_D_1_S)) rfl rfl ckX5_hasRival lkX1_108 h0 eo_D_1 ⟨_, _, rfl⟩ nkX5_hasRival rfl rfl rfl (Nat.le_of_ble_eq_true rfl) (Nat.zero_le _) (Nat.zero_le _) (by decide +kernel) (fun H11 z12 => ?_)
      have h0 := h0.kept0 z12
      have hs := hs.step0 z12
      refine aw_if_eq (off := 29) 104 (by decide) (by decide +kernel) (fun hc => ?_) (fun hc => ?_)
      · have hm := (if_pos hc).symm.trans hm
        obtain rfl := Option.some.inj hm
        subst hQ
        exact aw_vret rfl (Nat.zero_le _) (Nat.zero_le _) (by decide +kernel) ⟨rfl, hs, h0⟩
      · have hm := (if_neg hc).symm.trans hm
        refine aw_b (pc' := 81) (lv' := [(0, .ref a)]) (st' := [.ref a, .ref a, .ref a]) [(78, .aload_n 0, 1, .null), (79, .aload_n 0, 1, .null), (80, .aload_n 0, 1, .null)] (by decide +kernel) rfl ?_
        refine aw_gl (v := .ref (a + 1)) a 0 h0 eo_D_0 fgX1_12 rfl (by decide +kernel) ?_
        refine aw_gl (v := .int (s_j68 1 14)) a 1 h0 eo_D_1 fgX1_182 rfl (by decide +kernel) ?_
        refine aw_b (pc' := 88) (lv' := [(0, .ref a)]) (st' := [.ref a, .int (s_j68 1 14), .ref a, .ref a]) [(87, .aload_n 0, 1, .null)] (by decide +kernel) rfl ?_
        refine aw_gl (v := .ref (a + 1)) a 0 h0 eo_D_0 fgX1_12 rfl (by decide +kernel) ?_
        refine aw_gl (v := .int (s_j68 1 15)) a 1 h0 eo_D_1 fgX1_185 rfl (by decide +kernel) ?_
        refine aw_b (pc' := 95) (lv' := [(0, .ref a)]) (st' := [.ref a, .int (s_j68 1 15), .int (s_j68 1 14), .ref a, .ref a]) [(94, .aload_n 0, 1, .null)] (by decide +kernel) rfl ?_
        refine aw_gl (v := .int (s_j68 0 8)) a 0 h0 eo_D_0 fgX1_63 rfl (by decide +kernel) ?_
        obtain ⟨r13, e14, hm⟩ := bn_x hm
        refine aw_cv (rest := [.ref a]) (st1 := [.int r13, .ref a]) a 0 (kX1_ruleBy e14 h0) rfl rfl ckX1_ruleBy lkX1_178 h0 eo_D_0 ⟨_, _, rfl⟩ nkX1_ruleBy rfl rfl rfl (Nat.le_of_ble_eq_true rfl) (Nat.zero_le _) (Nat.zero_le _) (by decide +kernel) (fun H15 z16 => ?_)
        have h0 := h0.kept0 z16
        have hs := hs.step0 z16
        obtain ⟨s17, e18, hm⟩ := bd_x hm
        refine aw_pl a 0 h0 eo_D_0 fsq_1_13 fpX1_78 hf rfl rfl e18 (by decide +kernel) (fun H19 h0 z20 => ?_)
        have hs := hs.step z20 (by omega) (by omega)
        obtain rfl := Option.some.inj hm
        subst hQ
        exact aw_vret rfl (Nat.zero_le _) (Nat.zero_le _) (by decide +kernel) ⟨rfl, hs, h0⟩
    refine aw_if_ne (off := 14) 68 (by decide) (by decide +kernel) (fun hc => ?_) (fun hc => ?_)
    · have hm := (if_neg hc).symm.trans hm
      exact J68 s5 H7 h0 hs hm
    · have hm := (if_pos hc).symm.trans hm
      refine aw_b (pc' := 59) (lv' := [(0, .ref a)]) (st' := [.ref a, .ref a]) [(57, .aload_n 0, 1, .null), (58, .aload_n 0, 1, .null)] (by decide +kernel) rfl ?_
      refine aw_gl (v := .int (s5 0 8)) a 0 h0 eo_D_0 fgX1_63 rfl (by decide +kernel) ?_
      obtain ⟨r21, e22, hm⟩ := bn_x hm
      refine aw_cs (rest := [.ref a]) (st1 := [.int r21, .ref a]) (kX1_seedBehind e22) rfl rfl ckX1_seedBehind lkX1_172 nkX1_seedBehind rfl rfl rfl (Nat.le_of_ble_eq_true rfl) (Nat.zero_le _) (Nat.zero_le _) (by decide +kernel) (fun H23 z24 => ?_)
      have h0 := h0.kept0 z24
      have hs := hs.step0 z24
      obtain ⟨s25, e26, hm⟩ := bd_x hm
      refine aw_pl a 0 h0 eo_D_0 fsq_1_8 fpX1_63 hf rfl rfl e26 (by decide +kernel) (fun H27 h0 z28 => ?_)
      have hs := hs.step z28 (by omega) (by omega)
      exact J68 s25 H27 h0 hs hm
  refine aw_if_ne (off := 14) 21 (by decide) (by decide +kernel) (fun hc => ?_) (fun hc => ?_)
  · have hm := (if_neg hc).symm.trans hm
    exact J21 s H h0 hs hm
  · have hm := (if_pos hc).symm.trans hm
    refine aw_b (pc' := 12) (lv' := [(0, .ref a)]) (st' := [.ref a, .ref a]) [(10, .aload_n 0, 1, .null), (11, .aload_n 0, 1, .null)] (by decide +kernel) rfl ?_
    refine aw_gl (v := .int (s 0 7)) a 0 h0 eo_D_0 fgX1_60 rfl (by decide +kernel) ?_
    obtain ⟨r29, e30, hm⟩ := bn_x hm
    refine aw_cs (rest := [.ref a]) (st1 := [.int r29, .ref a]) (kX1_seedBehind e30) rfl rfl ckX1_seedBehind lkX1_172 nkX1_seedBehind rfl rfl rfl (Nat.le_of_ble_eq_true rfl) (Nat.zero_le _) (Nat.zero_le _) (by decide +kernel) (fun H31 z32 => ?_)
    have h0 := h0.kept0 z32
    have hs := hs.step0 z32
    obtain ⟨s33, e34, hm⟩ := bd_x hm
    refine aw_pl a 0 h0 eo_D_0 fsq_1_7 fpX1_60 hf rfl rfl e34 (by decide +kernel) (fun H35 h0 z36 => ?_)
    have hs := hs.step z36 (by omega) (by omega)
    exact J21 s33 H35 h0 hs hm
def mX1_loseWeights : mt_ := (yX1_loseWeights, cX1_loseWeights, 7, none, [], { frames := 1, locals := 24, cells := 0, slots := 0 })
theorem ckX1_loseWeights : cokV_ mX1_loseWeights := ⟨⟨(uw_mem 1168 (by decide +kernel) (by decide +kernel)), (uw_mem 33 (by decide +kernel) (by decide +kernel)), by decide +kernel, by decide +kernel⟩, (uw_mem 1167 (by decide +kernel) (by decide +kernel)), (uw_mem 21 (by decide +kernel) (by decide +kernel))⟩
theorem nkX1_loseWeights : nok_ mX1_loseWeights 0 := by decide +kernel
theorem kwX1_208 : Cond.constantLong RX1 208 (1000 : Int64) ∈ uw_ := (uw_mem 1169 (by decide +kernel) (by decide +kernel))
theorem lkX1_210 : Cond.methodLink RX1 210 yX5_priceOf ∈ uw_ := (uw_mem 1170 (by decide +kernel) (by decide +kernel))
theorem fgX1_213 : fok_ RX1 213 5 9 := ⟨_, _, _, rfl, by decide, (uw_mem 104 (by decide +kernel) (by decide +kernel)), wkX5⟩
theorem fgX1_216 : fok_ RX1 216 0 9 := ⟨_, _, _, rfl, by decide, (uw_mem 248 (by decide +kernel) (by decide +kernel)), wkX0⟩
theorem mtX1_219 : ml_ RX1 219 Lib.MathLoose.max_long.x Lib.MathLoose.max_long.code 4 .long := ⟨(uw_mem 1171 (by decide +kernel) (by decide +kernel)), (uw_mem 1172 (by decide +kernel) (by decide +kernel)), (uw_mem 38 (by decide +kernel) (by decide +kernel)), (uw_mem 1173 (by decide +kernel) (by decide +kernel))⟩
theorem mtX1_223 : ml_ RX1 223 Lib.Math.max.name Lib.Math.max.code 2 .int := ⟨(uw_mem 1174 (by decide +kernel) (by decide +kernel)), (uw_mem 768 (by decide +kernel) (by decide +kernel)), (uw_mem 38 (by decide +kernel) (by decide +kernel)), (uw_mem 769 (by decide +kernel) (by decide +kernel))⟩
theorem kX1_loseWeights {E : ev_} {H : Heap} {a : Nat} {s : st_} {r : st_} (hm : fX1_loseWeights s = some r) (h0 : has_ E H a ly_D s) (hf : ev_fr E a) : sp_ E mX1_loseWeights [.ref a] H (po1 (.inl (none)) (fun Hn => sm_ H Hn a 33 ∧ has_ E Hn a ly_D r)) := by
  refine sp_of (by decide +kernel) rfl rfl ?_
  generalize hQ : po1 _ _ = Q
  have hs : sm_ H H a 33 := sm_.rfl'
  unfold fX1_loseWeights at hm
  refine aw_lv (lv' := [(0, .ref a)]) [0] rfl ?_
  refine aw_ldc2 (v := (1000 : Int64)) kwX1_208 (by decide +kernel) ?_
  refine aw_b (pc' := 4) (lv' := [(0, .ref a)]) (st' := [.ref a, .long (1000 : Int64)]) [(3, .aload_n 0, 1, .null)] (by decide +kernel) rfl ?_
  refine aw_gl (v := .ref (a + 1)) a 0 h0 eo_D_0 fgX1_12 rfl (by decide +kernel) ?_
  refine aw_b (pc' := 9) (lv' := [(0, .ref a)]) (st' := [.ref a, .int (0 : Int32), .ref (a + 1), .long (1000 : Int64)]) [(7, .iconst 0, 1, .int (0 : Int32)), (8, .aload_n 0, 1, .null)] (by decide +kernel) rfl ?_
  refine aw_gl (v := .ref (a + 1)) a 0 h0 eo_D_0 fgX1_12 rfl (by decide +kernel) ?_
  refine aw_gl (v := .int (s 1 0)) a 1 h0 eo_D_1 fgX1_124 rfl (by decide +kernel) ?_
  refine aw_b (pc' := 17) (lv' := [(0, .ref a)]) (st' := [.int ((s 1 0) - (1 : Int32)), .int (0 : Int32), .ref (a + 1), .long (1000 : Int64)]) [(15, .iconst 1, 1, .int (1 : Int32)), (16, .isub, 1, .null)] (by decide +kernel) rfl ?_
  obtain ⟨r1, e2, hm⟩ := bn_x hm
  refine aw_cv (rest := [.long (1000 : Int64)]) (st1 := [.int r1, .long (1000 : Int64)]) a 1 (kX5_priceOf e2 (h0.sub su_D_1_S)) rfl rfl ckX5_priceOf lkX1_210 h0 eo_D_1 ⟨_, _, rfl⟩ nkX5_priceOf rfl rfl rfl (Nat.le_of_ble_eq_true rfl) (Nat.zero_le _) (Nat.zero_le _) (by decide +kernel) (fun H3 z4 => ?_)
  have h0 := h0.kept0 z4
  have hs := hs.step0 z4
  refine aw_b (pc' := 26) (lv' := [(1, .long ((1000 : Int64) * (Int32.toInt64 r1))), (0, .ref a)]) (st' := [.int (lg_cmp ((1000 : Int64) * (Int32.toInt64 r1)) (0 : Int64))]) [(20, .i2l, 1, .null), (21, .lmul, 1, .null), (22, .lstore_n 1, 1, .null), (23, .lload_n 1, 1, .null), (24, .lconst 0, 1, .long (0 : Int64)), (25, .lcmp, 1, .null)] (by decide +kernel) rfl ?_
  refine aw_if_gt (off := 4) 30 (by decide) (by decide +kernel) (fun hc => ?_) (fun hc => ?_)
  · have hm := (if_pos hc).symm.trans hm
    refine aw_b (pc' := 35) (lv' := [(4, .int (0 : Int32)), (3, .int (0 : Int32)), (1, .long ((1000 : Int64) * (Int32.toInt64 r1))), (0, .ref a)]) (st' := []) [(30, .iconst 0, 1, .int (0 : Int32)), (31, .istore_n 3, 1, .null), (32, .iconst 0, 1, .int (0 : Int32)), (33, .istore 4, 2, .null)] (by decide +kernel) rfl ?_
    obtain ⟨x35, hx35, hr35⟩ := bn_x hm
    have X35_121 : ∀ (v3_x35_121 : Int32) (s_x35_121 : st_) (H_x35_121 : Heap), has_ E H_x35_121 a ly_D s_x35_121 → sm_ H H_x35_121 a 33 → fX1_loseWeights_x35_121 v3_x35_121 s_x35_121 = some r → aw E mX1_loseWeights Q 121 [(0, .ref a), (3, .int v3_x35_121)] [] H_x35_121 0 0 := by
      intro v3_x35_121 s_x35_121 H_x35_121 h0 hs hm
      unfold fX1_loseWeights_x35_121 at hm
      refine aw_b (pc' := 124) (lv' := [(4, .int (0 : Int32)), (0, .ref a), (3, .int v3_x35_121)]) (st' := []) [(121, .iconst 0, 1, .int (0 : Int32)), (122, .istore 4, 2, .null)] (by decide +kernel) rfl ?_
      obtain ⟨x124, hx124, hr124⟩ := bn_x hm
      have X124_162 : ∀ (s_x124_162 : st_) (H_x124_162 : Heap), has_ E H_x124_162 a ly_D s_x124_162 → sm_ H H_x124_162 a 33 → fX1_loseWeights_x124_162 s_x124_162 = some r → aw E mX1_loseWeights Q 162 [] [] H_x124_162 0 0 := by
        intro s_x124_162 H_x124_162 h0 hs hm
        unfold fX1_loseWeights_x124_162 at hm
        obtain rfl := Option.some.inj hm
        subst hQ
        exact aw_vret rfl (Nat.zero_le _) (Nat.zero_le _) (by decide +kernel) ⟨rfl, hs, h0⟩
      have L124 : ∀ (fu : Nat) (v4_b124 : Int32) (s_b124 : st_) (H_b124 : Heap), has_ E H_b124 a ly_D s_b124 → sm_ H H_b124 a 33 → fX1_loseWeights_l124 v3_x35_121 fu (v4_b124, s_b124) = some x124 → aw E mX1_loseWeights Q 124 [(0, .ref a), (3, .int v3_x35_121), (4, .int v4_b124)] [] H_b124 0 0 := by
        intro fu
        induction fu with
        | zero =>
          intro v4_b124 s_b124 H_b124 h0 hs hm
          exact (it_0 hm).elim
        | succ fu ih124 =>
          intro v4_b124 s_b124 H_b124 h0 hs hm
          obtain ⟨y124, hm, hk124⟩ := it_s hm
          have hm : fX1_loseWeights_b124 v3_x35_121 v4_b124 s_b124 = some y124 := hm
          unfold fX1_loseWeights_b124 at hm
          refine aw_b (pc' := 127) (lv' := [(0, .ref a), (3, .int v3_x35_121), (4, .int v4_b124)]) (st' := [.ref a, .int v4_b124]) [(124, .iload 4, 2, .null), (126, .aload_n 0, 1, .null)] (by decide +kernel) rfl ?_
          refine aw_gl (v := .ref (a + 1)) a 0 h0 eo_D_0 fgX1_12 rfl (by decide +kernel) ?_
          refine aw_gl (v := .int (s_b124 1 4)) a 1 h0 eo_D_1 fgX1_105 rfl (by decide +kernel) ?_
          refine aw_ic_ge (off := 29) 162 (by decide) (by decide +kernel) (fun hc => ?_) (fun hc => ?_)
          · have hm := (if_pos hc).symm.trans hm
            cases hm
            refine aw_lv (lv' := []) [] rfl ?_
            exact X124_162 s_b124 H_b124 h0 hs ((congrArg fX1_loseWeights_k124 (show (s_b124) = x124 from hk124)).trans hr124)
          · have hm := (if_neg hc).symm.trans hm
            refine aw_b (pc' := 140) (lv' := [(0, .ref a), (3, .int v3_x35_121), (4, .int v4_b124)]) (st' := [.int (1000 : Int32), .int v3_x35_121]) [(136, .iload_n 3, 1, .null), (137, .sipush 1000, 3, .int (1000 : Int32))] (by decide +kernel) rfl ?_
            refine aw_ic_ge (off := 22) 162 (by decide) (by decide +kernel) (fun hc => ?_) (fun hc => ?_)
            · have hm := (if_pos hc).symm.trans hm
              cases hm
              refine aw_lv (lv' := []) [] rfl ?_
              exact X124_162 s_b124 H_b124 h0 hs ((congrArg fX1_loseWeights_k124 (show (s_b124) = x124 from hk124)).trans hr124)
            · have hm := (if_neg hc).symm.trans hm
              refine aw_b (pc' := 144) (lv' := [(0, .ref a), (3, .int v3_x35_121), (4, .int v4_b124)]) (st' := [.ref a]) [(143, .aload_n 0, 1, .null)] (by decide +kernel) rfl ?_
              refine aw_gl (v := .ref (a + 12)) a 0 h0 eo_D_0 fgX1_32 rfl (by decide +kernel) ?_
              refine aw_b (pc' := 150) (lv' := [(0, .ref a), (3, .int v3_x35_121), (4, .int v4_b124)]) (st' := [.int v4_b124, .ref (a + 12), .int v4_b124, .ref (a + 12)]) [(147, .iload 4, 2, .null), (149, .dup2, 1, .null)] (by decide +kernel) rfl ?_
              obtain ⟨g5, hm⟩ := gd_x hm
              refine aw_ial a 12 h0 rfl g5 (by decide +kernel) ?_
              refine aw_b (pc' := 155) (lv' := [(0, .ref a), (3, .int v3_x35_121), (4, .int v4_b124)]) (st' := [.int ((s_b124 12 (ix_ v4_b124)) * (1000 : Int32)), .int v4_b124, .ref (a + 12)]) [(151, .sipush 1000, 3, .int (1000 : Int32)), (154, .imul, 1, .null)] (by decide +kernel) rfl ?_
              obtain ⟨g6, hm⟩ := gd_x hm
              obtain ⟨s7, e8, hm⟩ := bd_x hm
              refine aw_isl a 12 h0 rfl hf g6 e8 (by decide +kernel) (fun H9 h0 z10 => ?_)
              have hs := hs.step z10 (by omega) (by omega)
              refine aw_b (pc' := 124) (lv' := [(4, .int (v4_b124 + (1 : Int32))), (0, .ref a), (3, .int v3_x35_121)]) (st' := []) [(156, .iinc 4 1, 3, .int (1 : Int32)), (159, .goto (-35), 3, .null)] (by decide +kernel) rfl ?_
              cases hm
              refine aw_lv (lv' := [(0, .ref a), (3, .int v3_x35_121), (4, .int (v4_b124 + (1 : Int32)))]) [1, 2, 0] rfl ?_
              exact ih124 (v4_b124 + (1 : Int32)) s7 H9 h0 hs hk124
      refine aw_lv (lv' := [(0, .ref a), (3, .int v3_x35_121), (4, .int (0 : Int32))]) [1, 2, 0] rfl ?_
      exact L124 FU_ (0 : Int32) s_x35_121 H_x35_121 h0 hs hx124
    have L35 : ∀ (fu : Nat) (v3_b35 : Int32) (v4_b35 : Int32) (s_b35 : st_) (H_b35 : Heap), has_ E H_b35 a ly_D s_b35 → sm_ H H_b35 a 33 → fX1_loseWeights_l35 r1 fu (v3_b35, v4_b35, s_b35) = some x35 → aw E mX1_loseWeights Q 35 [(0, .ref a), (1, .long ((1000 : Int64) * (Int32.toInt64 r1))), (3, .int v3_b35), (4, .int v4_b35)] [] H_b35 0 0 := by
      intro fu
      induction fu with
      | zero =>
        intro v3_b35 v4_b35 s_b35 H_b35 h0 hs hm
        exact (it_0 hm).elim
      | succ fu ih35 =>
        intro v3_b35 v4_b35 s_b35 H_b35 h0 hs hm
        obtain ⟨y35, hm, hk35⟩ := it_s hm
        have hm : fX1_loseWeights_b35 r1 v3_b35 v4_b35 s_b35 = some y35 := hm
        unfold fX1_loseWeights_b35 at hm
        refine aw_b (pc' := 38) (lv' := [(0, .ref a), (1, .long ((1000 : Int64) * (Int32.toInt64 r1))), (3, .int v3_b35), (4, .int v4_b35)]) (st' := [.ref a, .int v4_b35]) [(35, .iload 4, 2, .null), (37, .aload_n 0, 1, .null)] (by decide +kernel) rfl ?_
        refine aw_gl (v := .ref (a + 1)) a 0 h0 eo_D_0 fgX1_12 rfl (by decide +kernel) ?_
        refine aw_gl (v := .int (s_b35 1 4)) a 1 h0 eo_D_1 fgX1_105 rfl (by decide +kernel) ?_
        refine aw_ic_ge (off := 77) 121 (by decide) (by decide +kernel) (fun hc => ?_) (fun hc => ?_)
        · have hm := (if_pos hc).symm.trans hm
          cases hm
          refine aw_lv (lv' := [(0, .ref a), (3, .int v3_b35)]) [0, 2] rfl ?_
          exact X35_121 v3_b35 s_b35 H_b35 h0 hs ((congrArg fX1_loseWeights_k35 (show ((v3_b35, s_b35)) = x35 from hk35)).trans hr35)
        · have hm := (if_neg hc).symm.trans hm
          refine aw_b (pc' := 48) (lv' := [(0, .ref a), (1, .long ((1000 : Int64) * (Int32.toInt64 r1))), (3, .int v3_b35), (4, .int v4_b35)]) (st' := [.ref a]) [(47, .aload_n 0, 1, .null)] (by decide +kernel) rfl ?_
          refine aw_gl (v := .ref (a + 12)) a 0 h0 eo_D_0 fgX1_32 rfl (by decide +kernel) ?_
          refine aw_b (pc' := 53) (lv' := [(0, .ref a), (1, .long ((1000 : Int64) * (Int32.toInt64 r1))), (3, .int v3_b35), (4, .int v4_b35)]) (st' := [.int v4_b35, .ref (a + 12)]) [(51, .iload 4, 2, .null)] (by decide +kernel) rfl ?_
          obtain ⟨g11, hm⟩ := gd_x hm
          refine aw_ial a 12 h0 rfl g11 (by decide +kernel) ?_
          refine aw_b (pc' := 56) (lv' := [(0, .ref a), (1, .long ((1000 : Int64) * (Int32.toInt64 r1))), (3, .int v3_b35), (4, .int v4_b35)]) (st' := [.ref a, .long (Int32.toInt64 (s_b35 12 (ix_ v4_b35)))]) [(54, .i2l, 1, .null), (55, .aload_n 0, 1, .null)] (by decide +kernel) rfl ?_
          refine aw_gl (v := .ref (a + 1)) a 0 h0 eo_D_0 fgX1_12 rfl (by decide +kernel) ?_
          refine aw_gl (v := .int (s_b35 1 9)) a 1 h0 eo_D_1 fgX1_213 rfl (by decide +kernel) ?_
          refine aw_b (pc' := 65) (lv' := [(0, .ref a), (1, .long ((1000 : Int64) * (Int32.toInt64 r1))), (3, .int v3_b35), (4, .int v4_b35)]) (st' := [.ref a, .long ((Int32.toInt64 (s_b35 12 (ix_ v4_b35))) * (Int32.toInt64 (s_b35 1 9)))]) [(62, .i2l, 1, .null), (63, .lmul, 1, .null), (64, .aload_n 0, 1, .null)] (by decide +kernel) rfl ?_
          refine aw_gl (v := .ref (a + 11)) a 0 h0 eo_D_0 fgX1_28 rfl (by decide +kernel) ?_
          refine aw_b (pc' := 70) (lv' := [(0, .ref a), (1, .long ((1000 : Int64) * (Int32.toInt64 r1))), (3, .int v3_b35), (4, .int v4_b35)]) (st' := [.int v4_b35, .ref (a + 11), .long ((Int32.toInt64 (s_b35 12 (ix_ v4_b35))) * (Int32.toInt64 (s_b35 1 9)))]) [(68, .iload 4, 2, .null)] (by decide +kernel) rfl ?_
          obtain ⟨g12, hm⟩ := gd_x hm
          refine aw_rall a 11 h0 ra_D_11 g12 (by decide +kernel) ?_
          refine aw_gl (v := .int (s_b35 (3 * ix_ v4_b35 + 15) 9)) a (3 * ix_ v4_b35 + 15) h0 (eow_D_15 _ (ib_lt g12)) fgX1_216 rfl (by decide +kernel) ?_
          refine aw_b (pc' := 77) (lv' := [(0, .ref a), (1, .long ((1000 : Int64) * (Int32.toInt64 r1))), (3, .int v3_b35), (4, .int v4_b35)]) (st' := [.long ((1000 : Int64) * (Int32.toInt64 r1)), .long (((Int32.toInt64 (s_b35 12 (ix_ v4_b35))) * (Int32.toInt64 (s_b35 1 9))) * (Int32.toInt64 (s_b35 (3 * ix_ v4_b35 + 15) 9)))]) [(74, .i2l, 1, .null), (75, .lmul, 1, .null), (76, .lload_n 1, 1, .null)] (by decide +kernel) rfl ?_
          obtain ⟨g13, hm⟩ := gd_x hm
          refine aw_ldiv (nzl_x g13) (by decide +kernel) ?_
          refine aw_b (pc' := 81) (lv' := [(5, .long ((((Int32.toInt64 (s_b35 12 (ix_ v4_b35))) * (Int32.toInt64 (s_b35 1 9))) * (Int32.toInt64 (s_b35 (3 * ix_ v4_b35 + 15) 9))) / ((1000 : Int64) * (Int32.toInt64 r1)))), (0, .ref a), (1, .long ((1000 : Int64) * (Int32.toInt64 r1))), (3, .int v3_b35), (4, .int v4_b35)]) (st' := [.ref a]) [(78, .lstore 5, 2, .null), (80, .aload_n 0, 1, .null)] (by decide +kernel) rfl ?_
          refine aw_gl (v := .ref (a + 12)) a 0 h0 eo_D_0 fgX1_32 rfl (by decide +kernel) ?_
          refine aw_b (pc' := 88) (lv' := [(5, .long ((((Int32.toInt64 (s_b35 12 (ix_ v4_b35))) * (Int32.toInt64 (s_b35 1 9))) * (Int32.toInt64 (s_b35 (3 * ix_ v4_b35 + 15) 9))) / ((1000 : Int64) * (Int32.toInt64 r1)))), (0, .ref a), (1, .long ((1000 : Int64) * (Int32.toInt64 r1))), (3, .int v3_b35), (4, .int v4_b35)]) (st' := [.ref a, .long (1 : Int64), .int v4_b35, .ref (a + 12)]) [(84, .iload 4, 2, .null), (86, .lconst 1, 1, .long (1 : Int64)), (87, .aload_n 0, 1, .null)] (by decide +kernel) rfl ?_
          refine aw_gl (v := .ref (a + 12)) a 0 h0 eo_D_0 fgX1_32 rfl (by decide +kernel) ?_
          refine aw_b (pc' := 93) (lv' := [(5, .long ((((Int32.toInt64 (s_b35 12 (ix_ v4_b35))) * (Int32.toInt64 (s_b35 1 9))) * (Int32.toInt64 (s_b35 (3 * ix_ v4_b35 + 15) 9))) / ((1000 : Int64) * (Int32.toInt64 r1)))), (0, .ref a), (1, .long ((1000 : Int64) * (Int32.toInt64 r1))), (3, .int v3_b35), (4, .int v4_b35)]) (st' := [.int v4_b35, .ref (a + 12), .long (1 : Int64), .int v4_b35, .ref (a + 12)]) [(91, .iload 4, 2, .null)] (by decide +kernel) rfl ?_
          obtain ⟨g14, hm⟩ := gd_x hm
          refine aw_ial a 12 h0 rfl g14 (by decide +kernel) ?_
          refine aw_b (pc' := 98) (lv' := [(5, .long ((((Int32.toInt64 (s_b35 12 (ix_ v4_b35))) * (Int32.toInt64 (s_b35 1 9))) * (Int32.toInt64 (s_b35 (3 * ix_ v4_b35 + 15) 9))) / ((1000 : Int64) * (Int32.toInt64 r1)))), (0, .ref a), (1, .long ((1000 : Int64) * (Int32.toInt64 r1))), (3, .int v3_b35), (4, .int v4_b35)]) (st' := [.long ((Int32.toInt64 (s_b35 12 (ix_ v4_b35))) - ((((Int32.toInt64 (s_b35 12 (ix_ v4_b35))) * (Int32.toInt64 (s_b35 1 9))) * (Int32.toInt64 (s_b35 (3 * ix_ v4_b35 + 15) 9))) / ((1000 : Int64) * (Int32.toInt64 r1)))), .long (1 : Int64), .int v4_b35, .ref (a + 12)]) [(94, .i2l, 1, .null), (95, .lload 5, 2, .null), (97, .lsub, 1, .null)] (by decide +kernel) rfl ?_
          refine aw_mxl (rest := [.int v4_b35, .ref (a + 12)]) mtX1_219 rfl (Nat.le_of_ble_eq_true rfl) (Nat.zero_le _) (Nat.zero_le _) (by decide +kernel) ?_
          refine aw_b (pc' := 102) (lv' := [(5, .long ((((Int32.toInt64 (s_b35 12 (ix_ v4_b35))) * (Int32.toInt64 (s_b35 1 9))) * (Int32.toInt64 (s_b35 (3 * ix_ v4_b35 + 15) 9))) / ((1000 : Int64) * (Int32.toInt64 r1)))), (0, .ref a), (1, .long ((1000 : Int64) * (Int32.toInt64 r1))), (3, .int v3_b35), (4, .int v4_b35)]) (st' := [.int (Int64.toInt32 (if ((Int32.toInt64 (s_b35 12 (ix_ v4_b35))) - ((((Int32.toInt64 (s_b35 12 (ix_ v4_b35))) * (Int32.toInt64 (s_b35 1 9))) * (Int32.toInt64 (s_b35 (3 * ix_ v4_b35 + 15) 9))) / ((1000 : Int64) * (Int32.toInt64 r1)))) < (1 : Int64) then (1 : Int64) else ((Int32.toInt64 (s_b35 12 (ix_ v4_b35))) - ((((Int32.toInt64 (s_b35 12 (ix_ v4_b35))) * (Int32.toInt64 (s_b35 1 9))) * (Int32.toInt64 (s_b35 (3 * ix_ v4_b35 + 15) 9))) / ((1000 : Int64) * (Int32.toInt64 r1)))))), .int v4_b35, .ref (a + 12)]) [(101, .l2i, 1, .null)] (by decide +kernel) rfl ?_
          obtain ⟨g15, hm⟩ := gd_x hm
          obtain ⟨s16, e17, hm⟩ := bd_x hm
          refine aw_isl a 12 h0 rfl hf g15 e17 (by decide +kernel) (fun H18 h0 z19 => ?_)
          have hs := hs.step z19 (by omega) (by omega)
          refine aw_b (pc' := 105) (lv' := [(5, .long ((((Int32.toInt64 (s_b35 12 (ix_ v4_b35))) * (Int32.toInt64 (s_b35 1 9))) * (Int32.toInt64 (s_b35 (3 * ix_ v4_b35 + 15) 9))) / ((1000 : Int64) * (Int32.toInt64 r1)))), (0, .ref a), (1, .long ((1000 : Int64) * (Int32.toInt64 r1))), (3, .int v3_b35), (4, .int v4_b35)]) (st' := [.ref a, .int v3_b35]) [(103, .iload_n 3, 1, .null), (104, .aload_n 0, 1, .null)] (by decide +kernel) rfl ?_
          refine aw_gl (v := .ref (a + 12)) a 0 h0 eo_D_0 fgX1_32 rfl (by decide +kernel) ?_
          refine aw_b (pc' := 110) (lv' := [(5, .long ((((Int32.toInt64 (s_b35 12 (ix_ v4_b35))) * (Int32.toInt64 (s_b35 1 9))) * (Int32.toInt64 (s_b35 (3 * ix_ v4_b35 + 15) 9))) / ((1000 : Int64) * (Int32.toInt64 r1)))), (0, .ref a), (1, .long ((1000 : Int64) * (Int32.toInt64 r1))), (3, .int v3_b35), (4, .int v4_b35)]) (st' := [.int v4_b35, .ref (a + 12), .int v3_b35]) [(108, .iload 4, 2, .null)] (by decide +kernel) rfl ?_
          obtain ⟨g20, hm⟩ := gd_x hm
          refine aw_ial a 12 h0 rfl g20 (by decide +kernel) ?_
          refine aw_mx (rest := []) mtX1_223 rfl (Nat.le_of_ble_eq_true rfl) (Nat.zero_le _) (Nat.zero_le _) (by decide +kernel) ?_
          refine aw_b (pc' := 35) (lv' := [(4, .int (v4_b35 + (1 : Int32))), (3, .int (if v3_b35 < (s16 12 (ix_ v4_b35)) then (s16 12 (ix_ v4_b35)) else v3_b35)), (5, .long ((((Int32.toInt64 (s_b35 12 (ix_ v4_b35))) * (Int32.toInt64 (s_b35 1 9))) * (Int32.toInt64 (s_b35 (3 * ix_ v4_b35 + 15) 9))) / ((1000 : Int64) * (Int32.toInt64 r1)))), (0, .ref a), (1, .long ((1000 : Int64) * (Int32.toInt64 r1)))]) (st' := []) [(114, .istore_n 3, 1, .null), (115, .iinc 4 1, 3, .int (1 : Int32)), (118, .goto (-83), 3, .null)] (by decide +kernel) rfl ?_
          cases hm
          refine aw_lv (lv' := [(0, .ref a), (1, .long ((1000 : Int64) * (Int32.toInt64 r1))), (3, .int (if v3_b35 < (s16 12 (ix_ v4_b35)) then (s16 12 (ix_ v4_b35)) else v3_b35)), (4, .int (v4_b35 + (1 : Int32)))]) [3, 4, 1, 0] rfl ?_
          exact ih35 (if v3_b35 < (s16 12 (ix_ v4_b35)) then (s16 12 (ix_ v4_b35)) else v3_b35) (v4_b35 + (1 : Int32)) s16 H18 h0 hs hk35
    refine aw_lv (lv' := [(0, .ref a), (1, .long ((1000 : Int64) * (Int32.toInt64 r1))), (3, .int (0 : Int32)), (4, .int (0 : Int32))]) [3, 2, 1, 0] rfl ?_
    exact L35 FU_ (0 : Int32) (0 : Int32) s H3 h0 hs hx35
  · have hm := (if_neg hc).symm.trans hm
    obtain rfl := Option.some.inj hm
    subst hQ
    exact aw_vret rfl (Nat.zero_le _) (Nat.zero_le _) (by decide +kernel) ⟨rfl, hs, h0⟩
def mX1_serveAll : mt_ := (yX1_serveAll, cX1_serveAll, 2, none, [], { frames := 3, locals := 77, cells := 0, slots := 0 })
theorem ckX1_serveAll : cokV_ mX1_serveAll := ⟨⟨(uw_mem 1154 (by decide +kernel) (by decide +kernel)), (uw_mem 33 (by decide +kernel) (by decide +kernel)), by decide +kernel, by decide +kernel⟩, (uw_mem 1152 (by decide +kernel) (by decide +kernel)), (uw_mem 1153 (by decide +kernel) (by decide +kernel))⟩
theorem nkX1_serveAll : nok_ mX1_serveAll 0 := by decide +kernel
theorem lkX1_201 : Cond.methodLink RX1 201 yX0_serve ∈ uw_ := (uw_mem 1155 (by decide +kernel) (by decide +kernel))
theorem lkX1_205 : Cond.methodLink RX1 205 yX1_loseWeights ∈ uw_ := (uw_mem 1165 (by decide +kernel) (by decide +kernel))
theorem kX1_serveAll {E : ev_} {H : Heap} {a : Nat} {s : st_} {r : st_} (hm : fX1_serveAll s = some r) (h0 : has_ E H a ly_D s) (hf : ev_fr E a) : sp_ E mX1_serveAll [.ref a] H (po1 (.inl (none)) (fun Hn => sm_ H Hn a 33 ∧ has_ E Hn a ly_D r)) := by
  refine sp_of (by decide +kernel) rfl rfl ?_
  generalize hQ : po1 _ _ = Q
  have hs : sm_ H H a 33 := sm_.rfl'
  unfold fX1_serveAll at hm
  refine aw_lv (lv' := [(0, .ref a)]) [0] rfl ?_
  refine aw_b (pc' := 1) (lv' := [(0, .ref a)]) (st' := [.ref a]) [(0, .aload_n 0, 1, .null)] (by decide +kernel) rfl ?_
  refine aw_gl (v := .ref (a + 5)) a 0 h0 eo_D_0 fgX1_21 rfl (by decide +kernel) ?_
  refine aw_b (pc' := 5) (lv' := [(0, .ref a)]) (st' := [.ref a, .ref (a + 5)]) [(4, .aload_n 0, 1, .null)] (by decide +kernel) rfl ?_
  refine aw_gl (v := .ref (a + 1)) a 0 h0 eo_D_0 fgX1_12 rfl (by decide +kernel) ?_
  refine aw_b (pc' := 9) (lv' := [(0, .ref a)]) (st' := [.ref a, .ref (a + 1), .ref (a + 5)]) [(8, .aload_n 0, 1, .null)] (by decide +kernel) rfl ?_
  refine aw_gl (v := .int (s 0 12)) a 0 h0 eo_D_0 fgX1_75 rfl (by decide +kernel) ?_
  refine aw_b (pc' := 13) (lv' := [(0, .ref a)]) (st' := [.ref a, .int (s 0 12), .ref (a + 1), .ref (a + 5)]) [(12, .aload_n 0, 1, .null)] (by decide +kernel) rfl ?_
  refine aw_gl (v := .int (s 0 9)) a 0 h0 eo_D_0 fgX1_66 rfl (by decide +kernel) ?_
  obtain ⟨r1, e2, hm⟩ := bn_x hm
  refine aw_cv (rest := []) (st1 := []) a 5 (kX0_serve e2 (h0.sub su_D_5_A) (h0.sub su_D_1_S) (Nat.le_trans hf (Nat.le_add_right _ _)) (by omega)) rfl rfl ckX0_serve lkX1_201 h0 eo_D_5 ⟨_, _, rfl⟩ nkX0_serve rfl rfl rfl (Nat.le_of_ble_eq_true rfl) (Nat.zero_le _) (Nat.zero_le _) (by decide +kernel) (fun H3 z4 => ?_)
  obtain ⟨z4, hn⟩ := z4
  obtain ⟨s5, e6, hm⟩ := bd_x hm
  have h0 := h0.mg su_D_5_A hn z4 rfl e6
  have hs := hs.step z4 (by omega) (by omega)
  refine aw_b (pc' := 21) (lv' := [(1, .int (0 : Int32)), (0, .ref a)]) (st' := []) [(19, .iconst 0, 1, .int (0 : Int32)), (20, .istore_n 1, 1, .null)] (by decide +kernel) rfl ?_
  obtain ⟨x21, hx21, hr21⟩ := bn_x hm
  have X21_56 : ∀ (s_x21_56 : st_) (H_x21_56 : Heap), has_ E H_x21_56 a ly_D s_x21_56 → sm_ H H_x21_56 a 33 → fX1_serveAll_x21_56 s_x21_56 = some r → aw E mX1_serveAll Q 56 [(0, .ref a)] [] H_x21_56 0 0 := by
    intro s_x21_56 H_x21_56 h0 hs hm
    unfold fX1_serveAll_x21_56 at hm
    refine aw_b (pc' := 57) (lv' := [(0, .ref a)]) (st' := [.ref a]) [(56, .aload_n 0, 1, .null)] (by decide +kernel) rfl ?_
    refine aw_gl (v := .ref (a + 1)) a 0 h0 eo_D_0 fgX1_12 rfl (by decide +kernel) ?_
    obtain ⟨r7, e8, hm⟩ := bn_x hm
    refine aw_cv (rest := []) (st1 := [.int r7]) a 1 (kX5_hasRival e8 (h0.sub su_D_1_S)) rfl rfl ckX5_hasRival lkX1_108 h0 eo_D_1 ⟨_, _, rfl⟩ nkX5_hasRival rfl rfl rfl (Nat.le_of_ble_eq_true rfl) (Nat.zero_le _) (Nat.zero_le _) (by decide +kernel) (fun H9 z10 => ?_)
    have h0 := h0.kept0 z10
    have hs := hs.step0 z10
    have J85 : ∀ (s_j85 : st_) (H_j85 : Heap), has_ E H_j85 a ly_D s_j85 → sm_ H H_j85 a 33 → fX1_serveAll_j85 s_j85 = some r → aw E mX1_serveAll Q 85 [(0, .ref a)] [] H_j85 0 0 := by
      intro s_j85 H_j85 h0 hs hm
      unfold fX1_serveAll_j85 at hm
      refine aw_b (pc' := 86) (lv' := [(0, .ref a)]) (st' := [.ref a]) [(85, .aload_n 0, 1, .null)] (by decide +kernel) rfl ?_
      obtain ⟨r11, e12, hm⟩ := bn_x hm
      refine aw_cv (rest := []) (st1 := []) a 0 (kX1_loseWeights e12 h0 hf) rfl rfl ckX1_loseWeights lkX1_205 h0 eo_D_0 ⟨_, _, rfl⟩ nkX1_loseWeights rfl rfl rfl (Nat.le_of_ble_eq_true rfl) (Nat.zero_le _) (Nat.zero_le _) (by decide +kernel) (fun H13 z14 => ?_)
      obtain ⟨z14, hn⟩ := z14
      have h0 := hn
      have hs := hs.step z14 (by omega) (by omega)
      refine aw_b (pc' := 91) (lv' := [(0, .ref a)]) (st' := [.ref a, .ref a]) [(89, .aload_n 0, 1, .null), (90, .dup, 1, .null)] (by decide +kernel) rfl ?_
      refine aw_gl (v := .int (r11 0 9)) a 0 h0 eo_D_0 fgX1_66 rfl (by decide +kernel) ?_
      refine aw_b (pc' := 96) (lv' := [(0, .ref a)]) (st' := [.int ((r11 0 9) + (1 : Int32)), .ref a]) [(94, .iconst 1, 1, .int (1 : Int32)), (95, .iadd, 1, .null)] (by decide +kernel) rfl ?_
      obtain ⟨s15, e16, hm⟩ := bd_x hm
      refine aw_pl a 0 h0 eo_D_0 fsq_1_9 fpX1_66 hf rfl rfl e16 (by decide +kernel) (fun H17 h0 z18 => ?_)
      have hs := hs.step z18 (by omega) (by omega)
      obtain rfl := Option.some.inj hm
      subst hQ
      exact aw_vret rfl (Nat.zero_le _) (Nat.zero_le _) (by decide +kernel) ⟨rfl, hs, h0⟩
    refine aw_if_eq (off := 22) 85 (by decide) (by decide +kernel) (fun hc => ?_) (fun hc => ?_)
    · have hm := (if_pos hc).symm.trans hm
      exact J85 s_x21_56 H9 h0 hs hm
    · have hm := (if_neg hc).symm.trans hm
      refine aw_b (pc' := 67) (lv' := [(0, .ref a)]) (st' := [.ref a]) [(66, .aload_n 0, 1, .null)] (by decide +kernel) rfl ?_
      refine aw_gl (v := .ref (a + 8)) a 0 h0 eo_D_0 fgX1_25 rfl (by decide +kernel) ?_
      refine aw_b (pc' := 71) (lv' := [(0, .ref a)]) (st' := [.ref a, .ref (a + 8)]) [(70, .aload_n 0, 1, .null)] (by decide +kernel) rfl ?_
      refine aw_gl (v := .ref (a + 1)) a 0 h0 eo_D_0 fgX1_12 rfl (by decide +kernel) ?_
      refine aw_b (pc' := 75) (lv' := [(0, .ref a)]) (st' := [.ref a, .ref (a + 1), .ref (a + 8)]) [(74, .aload_n 0, 1, .null)] (by decide +kernel) rfl ?_
      refine aw_gl (v := .int (s_x21_56 0 13)) a 0 h0 eo_D_0 fgX1_78 rfl (by decide +kernel) ?_
      refine aw_b (pc' := 79) (lv' := [(0, .ref a)]) (st' := [.ref a, .int (s_x21_56 0 13), .ref (a + 1), .ref (a + 8)]) [(78, .aload_n 0, 1, .null)] (by decide +kernel) rfl ?_
      refine aw_gl (v := .int (s_x21_56 0 9)) a 0 h0 eo_D_0 fgX1_66 rfl (by decide +kernel) ?_
      obtain ⟨r19, e20, hm⟩ := bn_x hm
      refine aw_cv (rest := []) (st1 := []) a 8 (kX0_serve e20 (h0.sub su_D_8_A) (h0.sub su_D_1_S) (Nat.le_trans hf (Nat.le_add_right _ _)) (by omega)) rfl rfl ckX0_serve lkX1_201 h0 eo_D_8 ⟨_, _, rfl⟩ nkX0_serve rfl rfl rfl (Nat.le_of_ble_eq_true rfl) (Nat.zero_le _) (Nat.zero_le _) (by decide +kernel) (fun H21 z22 => ?_)
      obtain ⟨z22, hn⟩ := z22
      obtain ⟨s23, e24, hm⟩ := bd_x hm
      have h0 := h0.mg su_D_8_A hn z22 rfl e24
      have hs := hs.step z22 (by omega) (by omega)
      exact J85 s23 H21 h0 hs hm
  have L21 : ∀ (fu : Nat) (v1_b21 : Int32) (s_b21 : st_) (H_b21 : Heap), has_ E H_b21 a ly_D s_b21 → sm_ H H_b21 a 33 → fX1_serveAll_l21 fu (v1_b21, s_b21) = some x21 → aw E mX1_serveAll Q 21 [(0, .ref a), (1, .int v1_b21)] [] H_b21 0 0 := by
    intro fu
    induction fu with
    | zero =>
      intro v1_b21 s_b21 H_b21 h0 hs hm
      exact (it_0 hm).elim
    | succ fu ih21 =>
      intro v1_b21 s_b21 H_b21 h0 hs hm
      obtain ⟨y21, hm, hk21⟩ := it_s hm
      have hm : fX1_serveAll_b21 v1_b21 s_b21 = some y21 := hm
      unfold fX1_serveAll_b21 at hm
      refine aw_b (pc' := 23) (lv' := [(0, .ref a), (1, .int v1_b21)]) (st' := [.ref a, .int v1_b21]) [(21, .iload_n 1, 1, .null), (22, .aload_n 0, 1, .null)] (by decide +kernel) rfl ?_
      refine aw_gl (v := .ref (a + 1)) a 0 h0 eo_D_0 fgX1_12 rfl (by decide +kernel) ?_
      refine aw_gl (v := .int (s_b21 1 4)) a 1 h0 eo_D_1 fgX1_105 rfl (by decide +kernel) ?_
      refine aw_ic_ge (off := 27) 56 (by decide) (by decide +kernel) (fun hc => ?_) (fun hc => ?_)
      · have hm := (if_pos hc).symm.trans hm
        cases hm
        refine aw_lv (lv' := [(0, .ref a)]) [0] rfl ?_
        exact X21_56 s_b21 H_b21 h0 hs ((congrArg fX1_serveAll_k21 (show (s_b21) = x21 from hk21)).trans hr21)
      · have hm := (if_neg hc).symm.trans hm
        refine aw_b (pc' := 33) (lv' := [(0, .ref a), (1, .int v1_b21)]) (st' := [.ref a]) [(32, .aload_n 0, 1, .null)] (by decide +kernel) rfl ?_
        refine aw_gl (v := .ref (a + 11)) a 0 h0 eo_D_0 fgX1_28 rfl (by decide +kernel) ?_
        refine aw_b (pc' := 37) (lv' := [(0, .ref a), (1, .int v1_b21)]) (st' := [.int v1_b21, .ref (a + 11)]) [(36, .iload_n 1, 1, .null)] (by decide +kernel) rfl ?_
        obtain ⟨g25, hm⟩ := gd_x hm
        refine aw_rall a 11 h0 ra_D_11 g25 (by decide +kernel) ?_
        refine aw_b (pc' := 39) (lv' := [(0, .ref a), (1, .int v1_b21)]) (st' := [.ref a, .ref (a + (3 * ix_ v1_b21 + 15))]) [(38, .aload_n 0, 1, .null)] (by decide +kernel) rfl ?_
        refine aw_gl (v := .ref (a + 1)) a 0 h0 eo_D_0 fgX1_12 rfl (by decide +kernel) ?_
        refine aw_b (pc' := 44) (lv' := [(0, .ref a), (1, .int v1_b21)]) (st' := [.ref a, .int v1_b21, .ref (a + 1), .ref (a + (3 * ix_ v1_b21 + 15))]) [(42, .iload_n 1, 1, .null), (43, .aload_n 0, 1, .null)] (by decide +kernel) rfl ?_
        refine aw_gl (v := .int (s_b21 0 9)) a 0 h0 eo_D_0 fgX1_66 rfl (by decide +kernel) ?_
        obtain ⟨r26, e27, hm⟩ := bn_x hm
        have q28 := ib_lt g25
        refine aw_cv (rest := []) (st1 := []) a (3 * ix_ v1_b21 + 15) (kX0_serve e27 (h0.sub (so_D_15 _ (ib_lt g25))) (h0.sub su_D_1_S) (Nat.le_trans hf (Nat.le_add_right _ _)) (by omega)) rfl rfl ckX0_serve lkX1_201 h0 (eow_D_15 _ (ib_lt g25)) ⟨_, _, rfl⟩ nkX0_serve rfl rfl rfl (Nat.le_of_ble_eq_true rfl) (Nat.zero_le _) (Nat.zero_le _) (by decide +kernel) (fun H29 z30 => ?_)
        obtain ⟨z30, hn⟩ := z30
        obtain ⟨s31, e32, hm⟩ := bd_x hm
        have h0 := h0.mg (so_D_15 _ (ib_lt g25)) hn z30 rfl e32
        have hs := hs.step z30 (by omega) (by omega)
        refine aw_b (pc' := 21) (lv' := [(1, .int (v1_b21 + (1 : Int32))), (0, .ref a)]) (st' := []) [(50, .iinc 1 1, 3, .int (1 : Int32)), (53, .goto (-32), 3, .null)] (by decide +kernel) rfl ?_
        cases hm
        refine aw_lv (lv' := [(0, .ref a), (1, .int (v1_b21 + (1 : Int32)))]) [1, 0] rfl ?_
        exact ih21 (v1_b21 + (1 : Int32)) s31 H29 h0 hs hk21
  refine aw_lv (lv' := [(0, .ref a), (1, .int (0 : Int32))]) [1, 0] rfl ?_
  exact L21 FU_ (0 : Int32) s5 H3 h0 hs hx21
def mX1_letPass : mt_ := (yX1_letPass, cX1_letPass, 3, none, [], { frames := 5, locals := 125, cells := 0, slots := 0 })
theorem ckX1_letPass : cokV_ mX1_letPass := ⟨⟨(uw_mem 1393 (by decide +kernel) (by decide +kernel)), (uw_mem 33 (by decide +kernel) (by decide +kernel)), by decide +kernel, by decide +kernel⟩, (uw_mem 1391 (by decide +kernel) (by decide +kernel)), (uw_mem 1392 (by decide +kernel) (by decide +kernel))⟩
theorem nkX1_letPass : nok_ mX1_letPass 1 := by decide +kernel
theorem lkX1_112 : Cond.methodLink RX1 112 yX1_moveFoe ∈ uw_ := (uw_mem 1394 (by decide +kernel) (by decide +kernel))
theorem lkX1_115 : Cond.methodLink RX1 115 yX1_takeRules ∈ uw_ := (uw_mem 1395 (by decide +kernel) (by decide +kernel))
theorem lkX1_118 : Cond.methodLink RX1 118 yX1_serveAll ∈ uw_ := (uw_mem 1396 (by decide +kernel) (by decide +kernel))
theorem kX1_letPass {E : ev_} {H : Heap} {a : Nat} {s : st_} {i0 : Int32} {r : st_} (hm : fX1_letPass s i0 = some r) (h0 : has_ E H a ly_D s) (hf : ev_fr E a) : sp_ E mX1_letPass [.ref a, .int i0] H (po1 (.inl (none)) (fun Hn => sm_ H Hn a 33 ∧ has_ E Hn a ly_D r)) := by
  refine sp_of (by decide +kernel) rfl rfl ?_
  generalize hQ : po1 _ _ = Q
  have hs : sm_ H H a 33 := sm_.rfl'
  unfold fX1_letPass at hm
  refine aw_lv (lv' := [(0, .ref a), (1, .int i0)]) [0, 1] rfl ?_
  refine aw_b (pc' := 2) (lv' := [(2, .int (0 : Int32)), (0, .ref a), (1, .int i0)]) (st' := []) [(0, .iconst 0, 1, .int (0 : Int32)), (1, .istore_n 2, 1, .null)] (by decide +kernel) rfl ?_
  obtain ⟨x2, hx2, hr2⟩ := bn_x hm
  have X2_25 : ∀ (s_x2_25 : st_) (H_x2_25 : Heap), has_ E H_x2_25 a ly_D s_x2_25 → sm_ H H_x2_25 a 33 → fX1_letPass_x2_25 s_x2_25 = some r → aw E mX1_letPass Q 25 [] [] H_x2_25 0 0 := by
    intro s_x2_25 H_x2_25 h0 hs hm
    unfold fX1_letPass_x2_25 at hm
    obtain rfl := Option.some.inj hm
    subst hQ
    exact aw_vret rfl (Nat.zero_le _) (Nat.zero_le _) (by decide +kernel) ⟨rfl, hs, h0⟩
  have L2 : ∀ (fu : Nat) (v2_b2 : Int32) (s_b2 : st_) (H_b2 : Heap), has_ E H_b2 a ly_D s_b2 → sm_ H H_b2 a 33 → fX1_letPass_l2 i0 fu (v2_b2, s_b2) = some x2 → aw E mX1_letPass Q 2 [(0, .ref a), (1, .int i0), (2, .int v2_b2)] [] H_b2 0 0 := by
    intro fu
    induction fu with
    | zero =>
      intro v2_b2 s_b2 H_b2 h0 hs hm
      exact (it_0 hm).elim
    | succ fu ih2 =>
      intro v2_b2 s_b2 H_b2 h0 hs hm
      obtain ⟨y2, hm, hk2⟩ := it_s hm
      have hm : fX1_letPass_b2 i0 v2_b2 s_b2 = some y2 := hm
      unfold fX1_letPass_b2 at hm
      refine aw_b (pc' := 4) (lv' := [(0, .ref a), (1, .int i0), (2, .int v2_b2)]) (st' := [.int i0, .int v2_b2]) [(2, .iload_n 2, 1, .null), (3, .iload_n 1, 1, .null)] (by decide +kernel) rfl ?_
      refine aw_ic_ge (off := 21) 25 (by decide) (by decide +kernel) (fun hc => ?_) (fun hc => ?_)
      · have hm := (if_pos hc).symm.trans hm
        cases hm
        refine aw_lv (lv' := []) [] rfl ?_
        exact X2_25 s_b2 H_b2 h0 hs ((congrArg fX1_letPass_k2 (show (s_b2) = x2 from hk2)).trans hr2)
      · have hm := (if_neg hc).symm.trans hm
        refine aw_b (pc' := 8) (lv' := [(0, .ref a), (1, .int i0), (2, .int v2_b2)]) (st' := [.ref a]) [(7, .aload_n 0, 1, .null)] (by decide +kernel) rfl ?_
        obtain ⟨r1, e2, hm⟩ := bn_x hm
        refine aw_cv (rest := []) (st1 := []) a 0 (kX1_moveFoe e2 h0 hf) rfl rfl ckX1_moveFoe lkX1_112 h0 eo_D_0 ⟨_, _, rfl⟩ nkX1_moveFoe rfl rfl rfl (Nat.le_of_ble_eq_true rfl) (Nat.zero_le _) (Nat.zero_le _) (by decide +kernel) (fun H3 z4 => ?_)
        obtain ⟨z4, hn⟩ := z4
        have h0 := hn
        have hs := hs.step z4 (by omega) (by omega)
        refine aw_b (pc' := 12) (lv' := [(0, .ref a), (1, .int i0), (2, .int v2_b2)]) (st' := [.ref a]) [(11, .aload_n 0, 1, .null)] (by decide +kernel) rfl ?_
        obtain ⟨r5, e6, hm⟩ := bn_x hm
        refine aw_cv (rest := []) (st1 := []) a 0 (kX1_takeRules e6 h0 hf) rfl rfl ckX1_takeRules lkX1_115 h0 eo_D_0 ⟨_, _, rfl⟩ nkX1_takeRules rfl rfl rfl (Nat.le_of_ble_eq_true rfl) (Nat.zero_le _) (Nat.zero_le _) (by decide +kernel) (fun H7 z8 => ?_)
        obtain ⟨z8, hn⟩ := z8
        have h0 := hn
        have hs := hs.step z8 (by omega) (by omega)
        refine aw_b (pc' := 16) (lv' := [(0, .ref a), (1, .int i0), (2, .int v2_b2)]) (st' := [.ref a]) [(15, .aload_n 0, 1, .null)] (by decide +kernel) rfl ?_
        obtain ⟨r9, e10, hm⟩ := bn_x hm
        refine aw_cv (rest := []) (st1 := []) a 0 (kX1_serveAll e10 h0 hf) rfl rfl ckX1_serveAll lkX1_118 h0 eo_D_0 ⟨_, _, rfl⟩ nkX1_serveAll rfl rfl rfl (Nat.le_of_ble_eq_true rfl) (Nat.zero_le _) (Nat.zero_le _) (by decide +kernel) (fun H11 z12 => ?_)
        obtain ⟨z12, hn⟩ := z12
        have h0 := hn
        have hs := hs.step z12 (by omega) (by omega)
        refine aw_b (pc' := 2) (lv' := [(2, .int (v2_b2 + (1 : Int32))), (0, .ref a), (1, .int i0)]) (st' := []) [(19, .iinc 2 1, 3, .int (1 : Int32)), (22, .goto (-20), 3, .null)] (by decide +kernel) rfl ?_
        cases hm
        refine aw_lv (lv' := [(0, .ref a), (1, .int i0), (2, .int (v2_b2 + (1 : Int32)))]) [1, 2, 0] rfl ?_
        exact ih2 (v2_b2 + (1 : Int32)) r9 H11 h0 hs hk2
  refine aw_lv (lv' := [(0, .ref a), (1, .int i0), (2, .int (0 : Int32))]) [1, 2, 0] rfl ?_
  exact L2 FU_ (0 : Int32) s H h0 hs hx2
def mX1_regretNow : mt_ := (yX1_regretNow, cX1_regretNow, 1, some .int, [], { frames := 1, locals := 22, cells := 0, slots := 0 })
theorem ckX1_regretNow : cokV_ mX1_regretNow := ⟨⟨(uw_mem 1188 (by decide +kernel) (by decide +kernel)), (uw_mem 33 (by decide +kernel) (by decide +kernel)), by decide +kernel, by decide +kernel⟩, (uw_mem 1186 (by decide +kernel) (by decide +kernel)), (uw_mem 1187 (by decide +kernel) (by decide +kernel))⟩
theorem nkX1_regretNow : nok_ mX1_regretNow 0 := by decide +kernel
theorem kX1_regretNow {E : ev_} {H : Heap} {a : Nat} {s : st_} {r : Int32} (hm : fX1_regretNow s = some r) (h0 : has_ E H a ly_D s) : sp_ E mX1_regretNow [.ref a] H (po1 (.inl (some (.int r))) (fun Hn => sm_ H Hn 0 0)) := by
  refine sp_of (by decide +kernel) rfl rfl ?_
  generalize hQ : po1 _ _ = Q
  have hs : sm_ H H 0 0 := sm_.rfl'
  unfold fX1_regretNow at hm
  refine aw_lv (lv' := [(0, .ref a)]) [0] rfl ?_
  refine aw_b (pc' := 1) (lv' := [(0, .ref a)]) (st' := [.ref a]) [(0, .aload_n 0, 1, .null)] (by decide +kernel) rfl ?_
  refine aw_gl (v := .ref (a + 5)) a 0 h0 eo_D_0 fgX1_21 rfl (by decide +kernel) ?_
  refine aw_gl (v := .int (s 5 5)) a 5 h0 eo_D_5 fgX1_198 rfl (by decide +kernel) ?_
  refine aw_b (pc' := 8) (lv' := [(0, .ref a)]) (st' := [.ref a, .int (s 5 5)]) [(7, .aload_n 0, 1, .null)] (by decide +kernel) rfl ?_
  refine aw_gl (v := .ref (a + 11)) a 0 h0 eo_D_0 fgX1_28 rfl (by decide +kernel) ?_
  refine aw_b (pc' := 12) (lv' := [(0, .ref a)]) (st' := [.ref a, .ref (a + 11), .int (s 5 5)]) [(11, .aload_n 0, 1, .null)] (by decide +kernel) rfl ?_
  obtain ⟨r1, e2, hm⟩ := bn_x hm
  refine aw_cv (rest := [.ref (a + 11), .int (s 5 5)]) (st1 := [.int r1, .ref (a + 11), .int (s 5 5)]) a 0 (kX1_cheapestRule e2 h0) rfl rfl ckX1_cheapestRule lkX1_192 h0 eo_D_0 ⟨_, _, rfl⟩ nkX1_cheapestRule rfl rfl rfl (Nat.le_of_ble_eq_true rfl) (Nat.zero_le _) (Nat.zero_le _) (by decide +kernel) (fun H3 z4 => ?_)
  have h0 := h0.kept0 z4
  have hs := hs.step0 z4
  obtain ⟨g5, hm⟩ := gd_x hm
  refine aw_rall a 11 h0 ra_D_11 g5 (by decide +kernel) ?_
  refine aw_gl (v := .int (s (3 * ix_ r1 + 15) 5)) a (3 * ix_ r1 + 15) h0 (eow_D_15 _ (ib_lt g5)) fgX1_198 rfl (by decide +kernel) ?_
  refine aw_b (pc' := 20) (lv' := [(0, .ref a)]) (st' := [.int ((s 5 5) - (s (3 * ix_ r1 + 15) 5))]) [(19, .isub, 1, .null)] (by decide +kernel) rfl ?_
  obtain rfl := Option.some.inj hm
  subst hQ
  exact aw_iret rfl (Nat.zero_le _) (Nat.zero_le _) (by decide +kernel) ⟨rfl, hs⟩
def mX1_isBreach : mt_ := (yX1_isBreach, cX1_isBreach, 1, some .boolean, [], { frames := 2, locals := 42, cells := 0, slots := 0 })
theorem ckX1_isBreach : cokV_ mX1_isBreach := ⟨⟨(uw_mem 1192 (by decide +kernel) (by decide +kernel)), (uw_mem 33 (by decide +kernel) (by decide +kernel)), by decide +kernel, by decide +kernel⟩, (uw_mem 1190 (by decide +kernel) (by decide +kernel)), (uw_mem 1191 (by decide +kernel) (by decide +kernel))⟩
theorem nkX1_isBreach : nok_ mX1_isBreach 0 := by decide +kernel
theorem fgX1_225 : fok_ RX1 225 5 17 := ⟨_, _, _, rfl, by decide, (uw_mem 131 (by decide +kernel) (by decide +kernel)), wkX5⟩
theorem lkX1_228 : Cond.methodLink RX1 228 yX1_regretNow ∈ uw_ := (uw_mem 1193 (by decide +kernel) (by decide +kernel))
theorem lkX1_231 : Cond.methodLink RX1 231 yX5_boundBehind ∈ uw_ := (uw_mem 1194 (by decide +kernel) (by decide +kernel))
theorem kX1_isBreach {E : ev_} {H : Heap} {a : Nat} {s : st_} {r : Int32} (hm : fX1_isBreach s = some r) (h0 : has_ E H a ly_D s) : sp_ E mX1_isBreach [.ref a] H (po1 (.inl (some (.int r))) (fun Hn => sm_ H Hn 0 0)) := by
  refine sp_of (by decide +kernel) rfl rfl ?_
  generalize hQ : po1 _ _ = Q
  have hs : sm_ H H 0 0 := sm_.rfl'
  unfold fX1_isBreach at hm
  refine aw_lv (lv' := [(0, .ref a)]) [0] rfl ?_
  refine aw_b (pc' := 1) (lv' := [(0, .ref a)]) (st' := [.ref a]) [(0, .aload_n 0, 1, .null)] (by decide +kernel) rfl ?_
  refine aw_gl (v := .ref (a + 1)) a 0 h0 eo_D_0 fgX1_12 rfl (by decide +kernel) ?_
  refine aw_gl (v := .int (s 1 17)) a 1 h0 eo_D_1 fgX1_225 rfl (by decide +kernel) ?_
  refine aw_b (pc' := 8) (lv' := [(0, .ref a)]) (st' := [.int (-1 : Int32), .int (s 1 17)]) [(7, .iconst (-1), 1, .int (-1 : Int32))] (by decide +kernel) rfl ?_
  have J33 : ∀ (H_j33 : Heap), has_ E H_j33 a ly_D s → sm_ H H_j33 0 0 → fX1_isBreach_j33 = some r → aw E mX1_isBreach Q 33 [] [] H_j33 0 0 := by
    intro H_j33 h0 hs hm
    unfold fX1_isBreach_j33 at hm
    refine aw_b (pc' := 34) (lv' := []) (st' := [.int (0 : Int32)]) [(33, .iconst 0, 1, .int (0 : Int32))] (by decide +kernel) rfl ?_
    obtain rfl := Option.some.inj hm
    subst hQ
    exact aw_zret rfl (by decide +kernel) (Nat.zero_le _) (Nat.zero_le _) (by decide +kernel) ⟨rfl, hs⟩
  refine aw_ic_eq (off := 25) 33 (by decide) (by decide +kernel) (fun hc => ?_) (fun hc => ?_)
  · have hm := (if_pos hc).symm.trans hm
    refine aw_lv (lv' := []) [] rfl ?_
    exact J33 H h0 hs hm
  · have hm := (if_neg hc).symm.trans hm
    refine aw_b (pc' := 12) (lv' := [(0, .ref a)]) (st' := [.ref a]) [(11, .aload_n 0, 1, .null)] (by decide +kernel) rfl ?_
    obtain ⟨r1, e2, hm⟩ := bn_x hm
    refine aw_cv (rest := []) (st1 := [.int r1]) a 0 (kX1_regretNow e2 h0) rfl rfl ckX1_regretNow lkX1_228 h0 eo_D_0 ⟨_, _, rfl⟩ nkX1_regretNow rfl rfl rfl (Nat.le_of_ble_eq_true rfl) (Nat.zero_le _) (Nat.zero_le _) (by decide +kernel) (fun H3 z4 => ?_)
    have h0 := h0.kept0 z4
    have hs := hs.step0 z4
    refine aw_b (pc' := 16) (lv' := [(0, .ref a)]) (st' := [.ref a, .int r1]) [(15, .aload_n 0, 1, .null)] (by decide +kernel) rfl ?_
    refine aw_gl (v := .ref (a + 1)) a 0 h0 eo_D_0 fgX1_12 rfl (by decide +kernel) ?_
    refine aw_b (pc' := 20) (lv' := [(0, .ref a)]) (st' := [.ref a, .ref (a + 1), .int r1]) [(19, .aload_n 0, 1, .null)] (by decide +kernel) rfl ?_
    refine aw_gl (v := .int (s 0 9)) a 0 h0 eo_D_0 fgX1_66 rfl (by decide +kernel) ?_
    obtain ⟨r5, e6, hm⟩ := bn_x hm
    refine aw_cv (rest := [.int r1]) (st1 := [.int r5, .int r1]) a 1 (kX5_boundBehind e6 (h0.sub su_D_1_S)) rfl rfl ckX5_boundBehind lkX1_231 h0 eo_D_1 ⟨_, _, rfl⟩ nkX5_boundBehind rfl rfl rfl (Nat.le_of_ble_eq_true rfl) (Nat.zero_le _) (Nat.zero_le _) (by decide +kernel) (fun H7 z8 => ?_)
    have h0 := h0.kept0 z8
    have hs := hs.step0 z8
    refine aw_ic_le (off := 7) 33 (by decide) (by decide +kernel) (fun hc => ?_) (fun hc => ?_)
    · have hm := (if_pos hc).symm.trans hm
      refine aw_lv (lv' := []) [] rfl ?_
      exact J33 H7 h0 hs hm
    · have hm := (if_neg hc).symm.trans hm
      refine aw_b (pc' := 34) (lv' := [(0, .ref a)]) (st' := [.int (1 : Int32)]) [(29, .iconst 1, 1, .int (1 : Int32)), (30, .goto 4, 3, .null)] (by decide +kernel) rfl ?_
      obtain rfl := Option.some.inj hm
      subst hQ
      exact aw_zret rfl (by decide +kernel) (Nat.zero_le _) (Nat.zero_le _) (by decide +kernel) ⟨rfl, hs⟩
end
section
/-! mirrors of methods, and that the methods do as they say: printed by wip/whole/gen_parts.py out of the listing -/
def mX4_begin : mt_ := (yX4_begin, cX4_begin, 4, none, [], { frames := 0, locals := 0, cells := 0, slots := 0 })
theorem ckX4_begin : cokV_ mX4_begin := ⟨⟨(uw_mem 464 (by decide +kernel) (by decide +kernel)), (uw_mem 35 (by decide +kernel) (by decide +kernel)), by decide +kernel, by decide +kernel⟩, (uw_mem 462 (by decide +kernel) (by decide +kernel)), (uw_mem 463 (by decide +kernel) (by decide +kernel))⟩
theorem nkX4_begin : nok_ mX4_begin 1 := by decide +kernel
theorem fpX4_35 : fpk_ RX4 35 4 0 .int := ⟨_, _, _, tyX4, rfl, by decide, (uw_mem 344 (by decide +kernel) (by decide +kernel)), wkX4, tyX4_ok, nmX4, rfl, by decide +kernel⟩
theorem eo_R_0 : eo_ ly_R 0 4 fsX4 := rfl
theorem fsq_4_0 : fsp_ fsX4 0 := ⟨fun _ _ => rfl, fun _ _ _ => rfl⟩
theorem fpX4_39 : fpk_ RX4 39 4 1 .int := ⟨_, _, _, tyX4, rfl, by decide, (uw_mem 345 (by decide +kernel) (by decide +kernel)), wkX4, tyX4_ok, nmX4, rfl, by decide +kernel⟩
theorem fsq_4_1 : fsp_ fsX4 1 := ⟨fun _ _ => rfl, fun _ _ _ => rfl⟩
theorem fpX4_42 : fpk_ RX4 42 4 9 .int := ⟨_, _, _, tyX4, rfl, by decide, (uw_mem 359 (by decide +kernel) (by decide +kernel)), wkX4, tyX4_ok, nmX4, rfl, by decide +kernel⟩
theorem fsq_4_9 : fsp_ fsX4 9 := ⟨fun _ _ => rfl, fun _ _ _ => rfl⟩
theorem fpX4_45 : fpk_ RX4 45 4 10 .int := ⟨_, _, _, tyX4, rfl, by decide, (uw_mem 360 (by decide +kernel) (by decide +kernel)), wkX4, tyX4_ok, nmX4, rfl, by decide +kernel⟩
theorem fsq_4_10 : fsp_ fsX4 10 := ⟨fun _ _ => rfl, fun _ _ _ => rfl⟩
theorem fpX4_48 : fpk_ RX4 48 4 11 .int := ⟨_, _, _, tyX4, rfl, by decide, (uw_mem 362 (by decide +kernel) (by decide +kernel)), wkX4, tyX4_ok, nmX4, rfl, by decide +kernel⟩
theorem fsq_4_11 : fsp_ fsX4 11 := ⟨fun _ _ => rfl, fun _ _ _ => rfl⟩
theorem fpX4_51 : fpk_ RX4 51 4 12 .int := ⟨_, _, _, tyX4, rfl, by decide, (uw_mem 364 (by decide +kernel) (by decide +kernel)), wkX4, tyX4_ok, nmX4, rfl, by decide +kernel⟩
theorem fsq_4_12 : fsp_ fsX4 12 := ⟨fun _ _ => rfl, fun _ _ _ => rfl⟩
theorem fpX4_54 : fpk_ RX4 54 4 13 .int := ⟨_, _, _, tyX4, rfl, by decide, (uw_mem 366 (by decide +kernel) (by decide +kernel)), wkX4, tyX4_ok, nmX4, rfl, by decide +kernel⟩
theorem fsq_4_13 : fsp_ fsX4 13 := ⟨fun _ _ => rfl, fun _ _ _ => rfl⟩
theorem fgX4_20 : fok_ RX4 20 4 4 := ⟨_, _, _, rfl, by decide, (uw_mem 350 (by decide +kernel) (by decide +kernel)), wkX4⟩
theorem fgX4_23 : fok_ RX4 23 4 5 := ⟨_, _, _, rfl, by decide, (uw_mem 352 (by decide +kernel) (by decide +kernel)), wkX4⟩
theorem fgX4_26 : fok_ RX4 26 4 6 := ⟨_, _, _, rfl, by decide, (uw_mem 354 (by decide +kernel) (by decide +kernel)), wkX4⟩
theorem fgX4_29 : fok_ RX4 29 4 7 := ⟨_, _, _, rfl, by decide, (uw_mem 356 (by decide +kernel) (by decide +kernel)), wkX4⟩
theorem ra_R_13 : ral_ ly_R 13 7 6 1 14 := ⟨_, rfl, fun a k h => (if_pos h).trans (congrArg some (by omega))⟩
theorem sr_R_14 : ∀ k, k < 6 → ly_R[1 * k + 14]? = some (ia_ 6) := by
  intro k hk
  match k, hk with
  | 0, _ => rfl
  | 1, _ => rfl
  | 2, _ => rfl
  | 3, _ => rfl
  | 4, _ => rfl
  | 5, _ => rfl
theorem kX4_begin {E : ev_} {H : Heap} {a : Nat} {s : st_} {i0 : Int32} {r : st_} (hm : fX4_begin s i0 = some r) (h0 : has_ E H a ly_R s) (hf : ev_fr E a) : sp_ E mX4_begin [.ref a, .int i0] H (po1 (.inl (none)) (fun Hn => sm_ H Hn a 41 ∧ has_ E Hn a ly_R r)) := by
  refine sp_of (by decide +kernel) rfl rfl ?_
  generalize hQ : po1 _ _ = Q
  have hs : sm_ H H a 41 := sm_.rfl'
  unfold fX4_begin at hm
  refine aw_lv (lv' := [(0, .ref a), (1, .int i0)]) [0, 1] rfl ?_
  refine aw_b (pc' := 2) (lv' := [(0, .ref a), (1, .int i0)]) (st' := [.int i0, .ref a]) [(0, .aload_n 0, 1, .null), (1, .iload_n 1, 1, .null)] (by decide +kernel) rfl ?_
  obtain ⟨s1, e2, hm⟩ := bd_x hm
  refine aw_pl a 0 h0 eo_R_0 fsq_4_0 fpX4_35 hf rfl rfl e2 (by decide +kernel) (fun H3 h0 z4 => ?_)
  have hs := hs.step z4 (by omega) (by omega)
  refine aw_b (pc' := 7) (lv' := [(0, .ref a), (1, .int i0)]) (st' := [.int (0 : Int32), .ref a]) [(5, .aload_n 0, 1, .null), (6, .iconst 0, 1, .int (0 : Int32))] (by decide +kernel) rfl ?_
  obtain ⟨s5, e6, hm⟩ := bd_x hm
  refine aw_pl a 0 h0 eo_R_0 fsq_4_1 fpX4_39 hf rfl rfl e6 (by decide +kernel) (fun H7 h0 z8 => ?_)
  have hs := hs.step z8 (by omega) (by omega)
  refine aw_b (pc' := 12) (lv' := [(0, .ref a), (1, .int i0)]) (st' := [.int (0 : Int32), .ref a]) [(10, .aload_n 0, 1, .null), (11, .iconst 0, 1, .int (0 : Int32))] (by decide +kernel) rfl ?_
  obtain ⟨s9, e10, hm⟩ := bd_x hm
  refine aw_pl a 0 h0 eo_R_0 fsq_4_9 fpX4_42 hf rfl rfl e10 (by decide +kernel) (fun H11 h0 z12 => ?_)
  have hs := hs.step z12 (by omega) (by omega)
  refine aw_b (pc' := 17) (lv' := [(0, .ref a), (1, .int i0)]) (st' := [.int (0 : Int32), .ref a]) [(15, .aload_n 0, 1, .null), (16, .iconst 0, 1, .int (0 : Int32))] (by decide +kernel) rfl ?_
  obtain ⟨s13, e14, hm⟩ := bd_x hm
  refine aw_pl a 0 h0 eo_R_0 fsq_4_10 fpX4_45 hf rfl rfl e14 (by decide +kernel) (fun H15 h0 z16 => ?_)
  have hs := hs.step z16 (by omega) (by omega)
  refine aw_b (pc' := 22) (lv' := [(0, .ref a), (1, .int i0)]) (st' := [.int (0 : Int32), .ref a]) [(20, .aload_n 0, 1, .null), (21, .iconst 0, 1, .int (0 : Int32))] (by decide +kernel) rfl ?_
  obtain ⟨s17, e18, hm⟩ := bd_x hm
  refine aw_pl a 0 h0 eo_R_0 fsq_4_11 fpX4_48 hf rfl rfl e18 (by decide +kernel) (fun H19 h0 z20 => ?_)
  have hs := hs.step z20 (by omega) (by omega)
  refine aw_b (pc' := 27) (lv' := [(0, .ref a), (1, .int i0)]) (st' := [.int (-1 : Int32), .ref a]) [(25, .aload_n 0, 1, .null), (26, .iconst (-1), 1, .int (-1 : Int32))] (by decide +kernel) rfl ?_
  obtain ⟨s21, e22, hm⟩ := bd_x hm
  refine aw_pl a 0 h0 eo_R_0 fsq_4_12 fpX4_51 hf rfl rfl e22 (by decide +kernel) (fun H23 h0 z24 => ?_)
  have hs := hs.step z24 (by omega) (by omega)
  refine aw_b (pc' := 32) (lv' := [(0, .ref a), (1, .int i0)]) (st' := [.int (0 : Int32), .ref a]) [(30, .aload_n 0, 1, .null), (31, .iconst 0, 1, .int (0 : Int32))] (by decide +kernel) rfl ?_
  obtain ⟨s25, e26, hm⟩ := bd_x hm
  refine aw_pl a 0 h0 eo_R_0 fsq_4_13 fpX4_54 hf rfl rfl e26 (by decide +kernel) (fun H27 h0 z28 => ?_)
  have hs := hs.step z28 (by omega) (by omega)
  refine aw_b (pc' := 37) (lv' := [(2, .int (0 : Int32)), (0, .ref a), (1, .int i0)]) (st' := []) [(35, .iconst 0, 1, .int (0 : Int32)), (36, .istore_n 2, 1, .null)] (by decide +kernel) rfl ?_
  obtain ⟨x37, hx37, hr37⟩ := bn_x hm
  have X37_93 : ∀ (s_x37_93 : st_) (H_x37_93 : Heap), has_ E H_x37_93 a ly_R s_x37_93 → sm_ H H_x37_93 a 41 → fX4_begin_x37_93 s_x37_93 = some r → aw E mX4_begin Q 93 [] [] H_x37_93 0 0 := by
    intro s_x37_93 H_x37_93 h0 hs hm
    unfold fX4_begin_x37_93 at hm
    obtain rfl := Option.some.inj hm
    subst hQ
    exact aw_vret rfl (Nat.zero_le _) (Nat.zero_le _) (by decide +kernel) ⟨rfl, hs, h0⟩
  have L37 : ∀ (fu : Nat) (v2_b37 : Int32) (s_b37 : st_) (H_b37 : Heap), has_ E H_b37 a ly_R s_b37 → sm_ H H_b37 a 41 → fX4_begin_l37 fu (v2_b37, s_b37) = some x37 → aw E mX4_begin Q 37 [(0, .ref a), (2, .int v2_b37)] [] H_b37 0 0 := by
    intro fu
    induction fu with
    | zero =>
      intro v2_b37 s_b37 H_b37 h0 hs hm
      exact (it_0 hm).elim
    | succ fu ih37 =>
      intro v2_b37 s_b37 H_b37 h0 hs hm
      obtain ⟨y37, hm, hk37⟩ := it_s hm
      have hm : fX4_begin_b37 v2_b37 s_b37 = some y37 := hm
      unfold fX4_begin_b37 at hm
      refine aw_b (pc' := 40) (lv' := [(0, .ref a), (2, .int v2_b37)]) (st' := [.int (6 : Int32), .int v2_b37]) [(37, .iload_n 2, 1, .null), (38, .bipush 6, 2, .int (6 : Int32))] (by decide +kernel) rfl ?_
      refine aw_ic_ge (off := 53) 93 (by decide) (by decide +kernel) (fun hc => ?_) (fun hc => ?_)
      · have hm := (if_pos hc).symm.trans hm
        cases hm
        refine aw_lv (lv' := []) [] rfl ?_
        exact X37_93 s_b37 H_b37 h0 hs ((congrArg fX4_begin_k37 (show (s_b37) = x37 from hk37)).trans hr37)
      · have hm := (if_neg hc).symm.trans hm
        refine aw_b (pc' := 44) (lv' := [(0, .ref a), (2, .int v2_b37)]) (st' := [.ref a]) [(43, .aload_n 0, 1, .null)] (by decide +kernel) rfl ?_
        refine aw_gl (v := .ref (a + 10)) a 0 h0 eo_R_0 fgX4_20 rfl (by decide +kernel) ?_
        refine aw_b (pc' := 49) (lv' := [(0, .ref a), (2, .int v2_b37)]) (st' := [.int (0 : Int32), .int v2_b37, .ref (a + 10)]) [(47, .iload_n 2, 1, .null), (48, .iconst 0, 1, .int (0 : Int32))] (by decide +kernel) rfl ?_
        obtain ⟨g29, hm⟩ := gd_x hm
        obtain ⟨s30, e31, hm⟩ := bd_x hm
        refine aw_isl a 10 h0 rfl hf g29 e31 (by decide +kernel) (fun H32 h0 z33 => ?_)
        have hs := hs.step z33 (by omega) (by omega)
        refine aw_b (pc' := 51) (lv' := [(0, .ref a), (2, .int v2_b37)]) (st' := [.ref a]) [(50, .aload_n 0, 1, .null)] (by decide +kernel) rfl ?_
        refine aw_gl (v := .ref (a + 11)) a 0 h0 eo_R_0 fgX4_23 rfl (by decide +kernel) ?_
        refine aw_b (pc' := 56) (lv' := [(0, .ref a), (2, .int v2_b37)]) (st' := [.int (0 : Int32), .int v2_b37, .ref (a + 11)]) [(54, .iload_n 2, 1, .null), (55, .iconst 0, 1, .int (0 : Int32))] (by decide +kernel) rfl ?_
        obtain ⟨g34, hm⟩ := gd_x hm
        obtain ⟨s35, e36, hm⟩ := bd_x hm
        refine aw_isl a 11 h0 rfl hf g34 e36 (by decide +kernel) (fun H37 h0 z38 => ?_)
        have hs := hs.step z38 (by omega) (by omega)
        refine aw_b (pc' := 58) (lv' := [(0, .ref a), (2, .int v2_b37)]) (st' := [.ref a]) [(57, .aload_n 0, 1, .null)] (by decide +kernel) rfl ?_
        refine aw_gl (v := .ref (a + 12)) a 0 h0 eo_R_0 fgX4_26 rfl (by decide +kernel) ?_
        refine aw_b (pc' := 63) (lv' := [(0, .ref a), (2, .int v2_b37)]) (st' := [.int (0 : Int32), .int v2_b37, .ref (a + 12)]) [(61, .iload_n 2, 1, .null), (62, .iconst 0, 1, .int (0 : Int32))] (by decide +kernel) rfl ?_
        obtain ⟨g39, hm⟩ := gd_x hm
        obtain ⟨s40, e41, hm⟩ := bd_x hm
        refine aw_isl a 12 h0 rfl hf g39 e41 (by decide +kernel) (fun H42 h0 z43 => ?_)
        have hs := hs.step z43 (by omega) (by omega)
        refine aw_b (pc' := 66) (lv' := [(3, .int (0 : Int32)), (0, .ref a), (2, .int v2_b37)]) (st' := []) [(64, .iconst 0, 1, .int (0 : Int32)), (65, .istore_n 3, 1, .null)] (by decide +kernel) rfl ?_
        obtain ⟨x66, hx66, hr66⟩ := bn_x hm
        have X66_87 : ∀ (s_x66_87 : st_) (H_x66_87 : Heap), has_ E H_x66_87 a ly_R s_x66_87 → sm_ H H_x66_87 a 41 → fX4_begin_x66_87 v2_b37 s_x66_87 = some y37 → aw E mX4_begin Q 87 [(0, .ref a), (2, .int v2_b37)] [] H_x66_87 0 0 := by
          intro s_x66_87 H_x66_87 h0 hs hm
          unfold fX4_begin_x66_87 at hm
          refine aw_b (pc' := 37) (lv' := [(2, .int (v2_b37 + (1 : Int32))), (0, .ref a)]) (st' := []) [(87, .iinc 2 1, 3, .int (1 : Int32)), (90, .goto (-53), 3, .null)] (by decide +kernel) rfl ?_
          cases hm
          refine aw_lv (lv' := [(0, .ref a), (2, .int (v2_b37 + (1 : Int32)))]) [1, 0] rfl ?_
          exact ih37 (v2_b37 + (1 : Int32)) s_x66_87 H_x66_87 h0 hs hk37
        have L66 : ∀ (fu : Nat) (v3_b66 : Int32) (s_b66 : st_) (H_b66 : Heap), has_ E H_b66 a ly_R s_b66 → sm_ H H_b66 a 41 → fX4_begin_l66 v2_b37 fu (v3_b66, s_b66) = some x66 → aw E mX4_begin Q 66 [(0, .ref a), (2, .int v2_b37), (3, .int v3_b66)] [] H_b66 0 0 := by
          intro fu
          induction fu with
          | zero =>
            intro v3_b66 s_b66 H_b66 h0 hs hm
            exact (it_0 hm).elim
          | succ fu ih66 =>
            intro v3_b66 s_b66 H_b66 h0 hs hm
            obtain ⟨y66, hm, hk66⟩ := it_s hm
            have hm : fX4_begin_b66 v2_b37 v3_b66 s_b66 = some y66 := hm
            unfold fX4_begin_b66 at hm
            refine aw_b (pc' := 69) (lv' := [(0, .ref a), (2, .int v2_b37), (3, .int v3_b66)]) (st' := [.int (6 : Int32), .int v3_b66]) [(66, .iload_n 3, 1, .null), (67, .bipush 6, 2, .int (6 : Int32))] (by decide +kernel) rfl ?_
            refine aw_ic_ge (off := 18) 87 (by decide) (by decide +kernel) (fun hc => ?_) (fun hc => ?_)
            · have hm := (if_pos hc).symm.trans hm
              cases hm
              refine aw_lv (lv' := [(0, .ref a), (2, .int v2_b37)]) [0, 1] rfl ?_
              exact X66_87 s_b66 H_b66 h0 hs ((congrArg (fX4_begin_k66 v2_b37) (show (s_b66) = x66 from hk66)).trans hr66)
            · have hm := (if_neg hc).symm.trans hm
              refine aw_b (pc' := 73) (lv' := [(0, .ref a), (2, .int v2_b37), (3, .int v3_b66)]) (st' := [.ref a]) [(72, .aload_n 0, 1, .null)] (by decide +kernel) rfl ?_
              refine aw_gl (v := .ref (a + 13)) a 0 h0 eo_R_0 fgX4_29 rfl (by decide +kernel) ?_
              refine aw_b (pc' := 77) (lv' := [(0, .ref a), (2, .int v2_b37), (3, .int v3_b66)]) (st' := [.int v2_b37, .ref (a + 13)]) [(76, .iload_n 2, 1, .null)] (by decide +kernel) rfl ?_
              obtain ⟨g44, hm⟩ := gd_x hm
              refine aw_iall a 13 h0 ra_R_13 g44 (by decide +kernel) ?_
              refine aw_b (pc' := 80) (lv' := [(0, .ref a), (2, .int v2_b37), (3, .int v3_b66)]) (st' := [.int (0 : Int32), .int v3_b66, .ref (a + (1 * ix_ v2_b37 + 14))]) [(78, .iload_n 3, 1, .null), (79, .iconst 0, 1, .int (0 : Int32))] (by decide +kernel) rfl ?_
              obtain ⟨g45, hm⟩ := gd_x hm
              obtain ⟨s46, e47, hm⟩ := bd_x hm
              refine aw_isl a (1 * ix_ v2_b37 + 14) h0 (sr_R_14 _ (ib_lt g44)) hf g45 e47 (by decide +kernel) (fun H48 h0 z49 => ?_)
              have hlt := ib_lt g44
              have hs := hs.step z49 (by omega) (by omega)
              refine aw_b (pc' := 66) (lv' := [(3, .int (v3_b66 + (1 : Int32))), (0, .ref a), (2, .int v2_b37)]) (st' := []) [(81, .iinc 3 1, 3, .int (1 : Int32)), (84, .goto (-18), 3, .null)] (by decide +kernel) rfl ?_
              cases hm
              refine aw_lv (lv' := [(0, .ref a), (2, .int v2_b37), (3, .int (v3_b66 + (1 : Int32)))]) [1, 2, 0] rfl ?_
              exact ih66 (v3_b66 + (1 : Int32)) s46 H48 h0 hs hk66
        refine aw_lv (lv' := [(0, .ref a), (2, .int v2_b37), (3, .int (0 : Int32))]) [1, 2, 0] rfl ?_
        exact L66 FU_ (0 : Int32) s40 H42 h0 hs hx66
  refine aw_lv (lv' := [(0, .ref a), (2, .int (0 : Int32))]) [1, 0] rfl ?_
  exact L37 FU_ (0 : Int32) s25 H27 h0 hs hx37
def mX4_copyFrom : mt_ := (yX4_copyFrom, cX4_copyFrom, 3, none, [], { frames := 1, locals := 48, cells := 0, slots := 0 })
theorem ckX4_copyFrom : cokV_ mX4_copyFrom := ⟨⟨(uw_mem 1468 (by decide +kernel) (by decide +kernel)), (uw_mem 35 (by decide +kernel) (by decide +kernel)), by decide +kernel, by decide +kernel⟩, (uw_mem 1466 (by decide +kernel) (by decide +kernel)), (uw_mem 1467 (by decide +kernel) (by decide +kernel))⟩
theorem nkX4_copyFrom : nok_ mX4_copyFrom 1 := by decide +kernel
theorem fgX4_35 : fok_ RX4 35 4 0 := ⟨_, _, _, rfl, by decide, (uw_mem 344 (by decide +kernel) (by decide +kernel)), wkX4⟩
theorem fgX4_39 : fok_ RX4 39 4 1 := ⟨_, _, _, rfl, by decide, (uw_mem 345 (by decide +kernel) (by decide +kernel)), wkX4⟩
theorem fgX4_42 : fok_ RX4 42 4 9 := ⟨_, _, _, rfl, by decide, (uw_mem 359 (by decide +kernel) (by decide +kernel)), wkX4⟩
theorem fgX4_45 : fok_ RX4 45 4 10 := ⟨_, _, _, rfl, by decide, (uw_mem 360 (by decide +kernel) (by decide +kernel)), wkX4⟩
theorem fgX4_48 : fok_ RX4 48 4 11 := ⟨_, _, _, rfl, by decide, (uw_mem 362 (by decide +kernel) (by decide +kernel)), wkX4⟩
theorem fgX4_51 : fok_ RX4 51 4 12 := ⟨_, _, _, rfl, by decide, (uw_mem 364 (by decide +kernel) (by decide +kernel)), wkX4⟩
theorem fgX4_54 : fok_ RX4 54 4 13 := ⟨_, _, _, rfl, by decide, (uw_mem 366 (by decide +kernel) (by decide +kernel)), wkX4⟩
theorem fgX4_16 : fok_ RX4 16 4 3 := ⟨_, _, _, rfl, by decide, (uw_mem 348 (by decide +kernel) (by decide +kernel)), wkX4⟩
theorem cpX4_57 : al_ RX4 57 := ⟨(uw_mem 1469 (by decide +kernel) (by decide +kernel)), (uw_mem 451 (by decide +kernel) (by decide +kernel)), (uw_mem 450 (by decide +kernel) (by decide +kernel)), (uw_mem 37 (by decide +kernel) (by decide +kernel))⟩
theorem fgX4_32 : fok_ RX4 32 4 8 := ⟨_, _, _, rfl, by decide, (uw_mem 358 (by decide +kernel) (by decide +kernel)), wkX4⟩
theorem ra_R_20 : ral_ ly_R 20 7 20 1 21 := ⟨_, rfl, fun a k h => (if_pos h).trans (congrArg some (by omega))⟩
theorem sr_R_21 : ∀ k, k < 20 → ly_R[1 * k + 21]? = some (ia_ 5) := by
  intro k hk
  rcases Nat.lt_or_ge k 10 with h | h
  · match k, h with
    | 0, _ => rfl
    | 1, _ => rfl
    | 2, _ => rfl
    | 3, _ => rfl
    | 4, _ => rfl
    | 5, _ => rfl
    | 6, _ => rfl
    | 7, _ => rfl
    | 8, _ => rfl
    | 9, _ => rfl
  · obtain ⟨j, rfl⟩ : ∃ j, k = j + 10 := ⟨k - 10, by omega⟩
    have h : j < 10 := by omega
    match j, h with
    | 0, _ => rfl
    | 1, _ => rfl
    | 2, _ => rfl
    | 3, _ => rfl
    | 4, _ => rfl
    | 5, _ => rfl
    | 6, _ => rfl
    | 7, _ => rfl
    | 8, _ => rfl
    | 9, _ => rfl
theorem fgX4_11 : fok_ RX4 11 4 2 := ⟨_, _, _, rfl, by decide, (uw_mem 347 (by decide +kernel) (by decide +kernel)), wkX4⟩
theorem ra_R_1 : ral_ ly_R 1 7 7 1 2 := ⟨_, rfl, fun a k h => (if_pos h).trans (congrArg some (by omega))⟩
theorem sr_R_2 : ∀ k, k < 7 → ly_R[1 * k + 2]? = some (ia_ 1001) := by
  intro k hk
  match k, hk with
  | 0, _ => rfl
  | 1, _ => rfl
  | 2, _ => rfl
  | 3, _ => rfl
  | 4, _ => rfl
  | 5, _ => rfl
  | 6, _ => rfl
theorem kX4_copyFrom {E : ev_} {H : Heap} {a b : Nat} {s : st_} {t : st_} {r : st_} (hm : fX4_copyFrom s t = some r) (h0 : has_ E H a ly_R s) (h1 : has_ E H b ly_R t) (hf : ev_fr E a) (d1 : a + 41 ≤ b ∨ b + 41 ≤ a) : sp_ E mX4_copyFrom [.ref a, .ref b] H (po1 (.inl (none)) (fun Hn => sm_ H Hn a 41 ∧ has_ E Hn a ly_R r)) := by
  refine sp_of (by decide +kernel) rfl rfl ?_
  generalize hQ : po1 _ _ = Q
  have hs : sm_ H H a 41 := sm_.rfl'
  unfold fX4_copyFrom at hm
  refine aw_lv (lv' := [(0, .ref a), (1, .ref b)]) [0, 1] rfl ?_
  refine aw_b (pc' := 2) (lv' := [(0, .ref a), (1, .ref b)]) (st' := [.ref b, .ref a]) [(0, .aload_n 0, 1, .null), (1, .aload_n 1, 1, .null)] (by decide +kernel) rfl ?_
  refine aw_gl (v := .int (t 0 0)) b 0 h1 eo_R_0 fgX4_35 rfl (by decide +kernel) ?_
  obtain ⟨s1, e2, hm⟩ := bd_x hm
  refine aw_pl a 0 h0 eo_R_0 fsq_4_0 fpX4_35 hf rfl rfl e2 (by decide +kernel) (fun H3 h0 z4 => ?_)
  have h1 := h1.kept (n := 41) z4 rfl (by omega)
  have hs := hs.step z4 (by omega) (by omega)
  refine aw_b (pc' := 10) (lv' := [(0, .ref a), (1, .ref b)]) (st' := [.ref b, .ref a]) [(8, .aload_n 0, 1, .null), (9, .aload_n 1, 1, .null)] (by decide +kernel) rfl ?_
  refine aw_gl (v := .int (t 0 1)) b 0 h1 eo_R_0 fgX4_39 rfl (by decide +kernel) ?_
  obtain ⟨s5, e6, hm⟩ := bd_x hm
  refine aw_pl a 0 h0 eo_R_0 fsq_4_1 fpX4_39 hf rfl rfl e6 (by decide +kernel) (fun H7 h0 z8 => ?_)
  have h1 := h1.kept (n := 41) z8 rfl (by omega)
  have hs := hs.step z8 (by omega) (by omega)
  refine aw_b (pc' := 18) (lv' := [(0, .ref a), (1, .ref b)]) (st' := [.ref b, .ref a]) [(16, .aload_n 0, 1, .null), (17, .aload_n 1, 1, .null)] (by decide +kernel) rfl ?_
  refine aw_gl (v := .int (t 0 9)) b 0 h1 eo_R_0 fgX4_42 rfl (by decide +kernel) ?_
  obtain ⟨s9, e10, hm⟩ := bd_x hm
  refine aw_pl a 0 h0 eo_R_0 fsq_4_9 fpX4_42 hf rfl rfl e10 (by decide +kernel) (fun H11 h0 z12 => ?_)
  have h1 := h1.kept (n := 41) z12 rfl (by omega)
  have hs := hs.step z12 (by omega) (by omega)
  refine aw_b (pc' := 26) (lv' := [(0, .ref a), (1, .ref b)]) (st' := [.ref b, .ref a]) [(24, .aload_n 0, 1, .null), (25, .aload_n 1, 1, .null)] (by decide +kernel) rfl ?_
  refine aw_gl (v := .int (t 0 10)) b 0 h1 eo_R_0 fgX4_45 rfl (by decide +kernel) ?_
  obtain ⟨s13, e14, hm⟩ := bd_x hm
  refine aw_pl a 0 h0 eo_R_0 fsq_4_10 fpX4_45 hf rfl rfl e14 (by decide +kernel) (fun H15 h0 z16 => ?_)
  have h1 := h1.kept (n := 41) z16 rfl (by omega)
  have hs := hs.step z16 (by omega) (by omega)
  refine aw_b (pc' := 34) (lv' := [(0, .ref a), (1, .ref b)]) (st' := [.ref b, .ref a]) [(32, .aload_n 0, 1, .null), (33, .aload_n 1, 1, .null)] (by decide +kernel) rfl ?_
  refine aw_gl (v := .int (t 0 11)) b 0 h1 eo_R_0 fgX4_48 rfl (by decide +kernel) ?_
  obtain ⟨s17, e18, hm⟩ := bd_x hm
  refine aw_pl a 0 h0 eo_R_0 fsq_4_11 fpX4_48 hf rfl rfl e18 (by decide +kernel) (fun H19 h0 z20 => ?_)
  have h1 := h1.kept (n := 41) z20 rfl (by omega)
  have hs := hs.step z20 (by omega) (by omega)
  refine aw_b (pc' := 42) (lv' := [(0, .ref a), (1, .ref b)]) (st' := [.ref b, .ref a]) [(40, .aload_n 0, 1, .null), (41, .aload_n 1, 1, .null)] (by decide +kernel) rfl ?_
  refine aw_gl (v := .int (t 0 12)) b 0 h1 eo_R_0 fgX4_51 rfl (by decide +kernel) ?_
  obtain ⟨s21, e22, hm⟩ := bd_x hm
  refine aw_pl a 0 h0 eo_R_0 fsq_4_12 fpX4_51 hf rfl rfl e22 (by decide +kernel) (fun H23 h0 z24 => ?_)
  have h1 := h1.kept (n := 41) z24 rfl (by omega)
  have hs := hs.step z24 (by omega) (by omega)
  refine aw_b (pc' := 50) (lv' := [(0, .ref a), (1, .ref b)]) (st' := [.ref b, .ref a]) [(48, .aload_n 0, 1, .null), (49, .aload_n 1, 1, .null)] (by decide +kernel) rfl ?_
  refine aw_gl (v := .int (t 0 13)) b 0 h1 eo_R_0 fgX4_54 rfl (by decide +kernel) ?_
  obtain ⟨s25, e26, hm⟩ := bd_x hm
  refine aw_pl a 0 h0 eo_R_0 fsq_4_13 fpX4_54 hf rfl rfl e26 (by decide +kernel) (fun H27 h0 z28 => ?_)
  have h1 := h1.kept (n := 41) z28 rfl (by omega)
  have hs := hs.step z28 (by omega) (by omega)
  refine aw_b (pc' := 58) (lv' := [(2, .int (0 : Int32)), (0, .ref a), (1, .ref b)]) (st' := []) [(56, .iconst 0, 1, .int (0 : Int32)), (57, .istore_n 2, 1, .null)] (by decide +kernel) rfl ?_
  obtain ⟨x58, hx58, hr58⟩ := bn_x hm
  have X58_97 : ∀ (s_x58_97 : st_) (H_x58_97 : Heap), has_ E H_x58_97 a ly_R s_x58_97 → has_ E H_x58_97 b ly_R t → sm_ H H_x58_97 a 41 → fX4_copyFrom_x58_97 t s_x58_97 = some r → aw E mX4_copyFrom Q 97 [(0, .ref a), (1, .ref b)] [] H_x58_97 0 0 := by
    intro s_x58_97 H_x58_97 h0 h1 hs hm
    unfold fX4_copyFrom_x58_97 at hm
    refine aw_b (pc' := 98) (lv' := [(0, .ref a), (1, .ref b)]) (st' := [.ref b]) [(97, .aload_n 1, 1, .null)] (by decide +kernel) rfl ?_
    refine aw_gl (v := .ref (b + 9)) b 0 h1 eo_R_0 fgX4_16 rfl (by decide +kernel) ?_
    refine aw_b (pc' := 103) (lv' := [(0, .ref a), (1, .ref b)]) (st' := [.ref a, .int (0 : Int32), .ref (b + 9)]) [(101, .iconst 0, 1, .int (0 : Int32)), (102, .aload_n 0, 1, .null)] (by decide +kernel) rfl ?_
    refine aw_gl (v := .ref (a + 9)) a 0 h0 eo_R_0 fgX4_16 rfl (by decide +kernel) ?_
    refine aw_b (pc' := 108) (lv' := [(0, .ref a), (1, .ref b)]) (st' := [.ref a, .int (0 : Int32), .ref (a + 9), .int (0 : Int32), .ref (b + 9)]) [(106, .iconst 0, 1, .int (0 : Int32)), (107, .aload_n 0, 1, .null)] (by decide +kernel) rfl ?_
    refine aw_gl (v := .ref (a + 9)) a 0 h0 eo_R_0 fgX4_16 rfl (by decide +kernel) ?_
    refine aw_all (ci := 0) (N := 1000) (v := (1000 : Int32)) a 9 h0 rfl (x := fun _ _ c => .inl c) (fun _ _ => rfl) rfl (by decide +kernel) (by decide +kernel) ?_
    obtain ⟨s29, e30, hm⟩ := bd_x hm
    refine aw_cpl (rest := []) b 9 a 9 h0 rfl h1 rfl cpX4_57 hf (by decide) (by decide +kernel) e30 rfl (Nat.le_of_ble_eq_true rfl) (by decide +kernel) (fun H31 h0 z32 => ?_)
    have h1 := h1.kept (n := 41) z32 rfl (by omega)
    have hs := hs.step z32 (by omega) (by omega)
    refine aw_b (pc' := 116) (lv' := [(0, .ref a), (1, .ref b)]) (st' := [.ref b]) [(115, .aload_n 1, 1, .null)] (by decide +kernel) rfl ?_
    refine aw_gl (v := .ref (b + 10)) b 0 h1 eo_R_0 fgX4_20 rfl (by decide +kernel) ?_
    refine aw_b (pc' := 121) (lv' := [(0, .ref a), (1, .ref b)]) (st' := [.ref a, .int (0 : Int32), .ref (b + 10)]) [(119, .iconst 0, 1, .int (0 : Int32)), (120, .aload_n 0, 1, .null)] (by decide +kernel) rfl ?_
    refine aw_gl (v := .ref (a + 10)) a 0 h0 eo_R_0 fgX4_20 rfl (by decide +kernel) ?_
    refine aw_b (pc' := 126) (lv' := [(0, .ref a), (1, .ref b)]) (st' := [.ref a, .int (0 : Int32), .ref (a + 10), .int (0 : Int32), .ref (b + 10)]) [(124, .iconst 0, 1, .int (0 : Int32)), (125, .aload_n 0, 1, .null)] (by decide +kernel) rfl ?_
    refine aw_gl (v := .ref (a + 10)) a 0 h0 eo_R_0 fgX4_20 rfl (by decide +kernel) ?_
    refine aw_all (ci := 0) (N := 6) (v := (6 : Int32)) a 10 h0 rfl (x := fun _ _ c => .inl c) (fun _ _ => rfl) rfl (by decide +kernel) (by decide +kernel) ?_
    obtain ⟨s33, e34, hm⟩ := bd_x hm
    refine aw_cpl (rest := []) b 10 a 10 h0 rfl h1 rfl cpX4_57 hf (by decide) (by decide +kernel) e34 rfl (Nat.le_of_ble_eq_true rfl) (by decide +kernel) (fun H35 h0 z36 => ?_)
    have h1 := h1.kept (n := 41) z36 rfl (by omega)
    have hs := hs.step z36 (by omega) (by omega)
    refine aw_b (pc' := 134) (lv' := [(0, .ref a), (1, .ref b)]) (st' := [.ref b]) [(133, .aload_n 1, 1, .null)] (by decide +kernel) rfl ?_
    refine aw_gl (v := .ref (b + 11)) b 0 h1 eo_R_0 fgX4_23 rfl (by decide +kernel) ?_
    refine aw_b (pc' := 139) (lv' := [(0, .ref a), (1, .ref b)]) (st' := [.ref a, .int (0 : Int32), .ref (b + 11)]) [(137, .iconst 0, 1, .int (0 : Int32)), (138, .aload_n 0, 1, .null)] (by decide +kernel) rfl ?_
    refine aw_gl (v := .ref (a + 11)) a 0 h0 eo_R_0 fgX4_23 rfl (by decide +kernel) ?_
    refine aw_b (pc' := 144) (lv' := [(0, .ref a), (1, .ref b)]) (st' := [.ref a, .int (0 : Int32), .ref (a + 11), .int (0 : Int32), .ref (b + 11)]) [(142, .iconst 0, 1, .int (0 : Int32)), (143, .aload_n 0, 1, .null)] (by decide +kernel) rfl ?_
    refine aw_gl (v := .ref (a + 11)) a 0 h0 eo_R_0 fgX4_23 rfl (by decide +kernel) ?_
    refine aw_all (ci := 0) (N := 6) (v := (6 : Int32)) a 11 h0 rfl (x := fun _ _ c => .inl c) (fun _ _ => rfl) rfl (by decide +kernel) (by decide +kernel) ?_
    obtain ⟨s37, e38, hm⟩ := bd_x hm
    refine aw_cpl (rest := []) b 11 a 11 h0 rfl h1 rfl cpX4_57 hf (by decide) (by decide +kernel) e38 rfl (Nat.le_of_ble_eq_true rfl) (by decide +kernel) (fun H39 h0 z40 => ?_)
    have h1 := h1.kept (n := 41) z40 rfl (by omega)
    have hs := hs.step z40 (by omega) (by omega)
    refine aw_b (pc' := 152) (lv' := [(0, .ref a), (1, .ref b)]) (st' := [.ref b]) [(151, .aload_n 1, 1, .null)] (by decide +kernel) rfl ?_
    refine aw_gl (v := .ref (b + 12)) b 0 h1 eo_R_0 fgX4_26 rfl (by decide +kernel) ?_
    refine aw_b (pc' := 157) (lv' := [(0, .ref a), (1, .ref b)]) (st' := [.ref a, .int (0 : Int32), .ref (b + 12)]) [(155, .iconst 0, 1, .int (0 : Int32)), (156, .aload_n 0, 1, .null)] (by decide +kernel) rfl ?_
    refine aw_gl (v := .ref (a + 12)) a 0 h0 eo_R_0 fgX4_26 rfl (by decide +kernel) ?_
    refine aw_b (pc' := 162) (lv' := [(0, .ref a), (1, .ref b)]) (st' := [.ref a, .int (0 : Int32), .ref (a + 12), .int (0 : Int32), .ref (b + 12)]) [(160, .iconst 0, 1, .int (0 : Int32)), (161, .aload_n 0, 1, .null)] (by decide +kernel) rfl ?_
    refine aw_gl (v := .ref (a + 12)) a 0 h0 eo_R_0 fgX4_26 rfl (by decide +kernel) ?_
    refine aw_all (ci := 0) (N := 6) (v := (6 : Int32)) a 12 h0 rfl (x := fun _ _ c => .inl c) (fun _ _ => rfl) rfl (by decide +kernel) (by decide +kernel) ?_
    obtain ⟨s41, e42, hm⟩ := bd_x hm
    refine aw_cpl (rest := []) b 12 a 12 h0 rfl h1 rfl cpX4_57 hf (by decide) (by decide +kernel) e42 rfl (Nat.le_of_ble_eq_true rfl) (by decide +kernel) (fun H43 h0 z44 => ?_)
    have h1 := h1.kept (n := 41) z44 rfl (by omega)
    have hs := hs.step z44 (by omega) (by omega)
    refine aw_b (pc' := 171) (lv' := [(2, .int (0 : Int32)), (0, .ref a), (1, .ref b)]) (st' := []) [(169, .iconst 0, 1, .int (0 : Int32)), (170, .istore_n 2, 1, .null)] (by decide +kernel) rfl ?_
    obtain ⟨x171, hx171, hr171⟩ := bn_x hm
    have X171_210 : ∀ (s_x171_210 : st_) (H_x171_210 : Heap), has_ E H_x171_210 a ly_R s_x171_210 → has_ E H_x171_210 b ly_R t → sm_ H H_x171_210 a 41 → fX4_copyFrom_x171_210 t s_x171_210 = some r → aw E mX4_copyFrom Q 210 [(0, .ref a), (1, .ref b)] [] H_x171_210 0 0 := by
      intro s_x171_210 H_x171_210 h0 h1 hs hm
      unfold fX4_copyFrom_x171_210 at hm
      refine aw_b (pc' := 212) (lv' := [(2, .int (0 : Int32)), (0, .ref a), (1, .ref b)]) (st' := []) [(210, .iconst 0, 1, .int (0 : Int32)), (211, .istore_n 2, 1, .null)] (by decide +kernel) rfl ?_
      obtain ⟨x212, hx212, hr212⟩ := bn_x hm
      have X212_251 : ∀ (s_x212_251 : st_) (H_x212_251 : Heap), has_ E H_x212_251 a ly_R s_x212_251 → has_ E H_x212_251 b ly_R t → sm_ H H_x212_251 a 41 → fX4_copyFrom_x212_251 s_x212_251 = some r → aw E mX4_copyFrom Q 251 [] [] H_x212_251 0 0 := by
        intro s_x212_251 H_x212_251 h0 h1 hs hm
        unfold fX4_copyFrom_x212_251 at hm
        obtain rfl := Option.some.inj hm
        subst hQ
        exact aw_vret rfl (Nat.zero_le _) (Nat.zero_le _) (by decide +kernel) ⟨rfl, hs, h0⟩
      have L212 : ∀ (fu : Nat) (v2_b212 : Int32) (s_b212 : st_) (H_b212 : Heap), has_ E H_b212 a ly_R s_b212 → has_ E H_b212 b ly_R t → sm_ H H_b212 a 41 → fX4_copyFrom_l212 t fu (v2_b212, s_b212) = some x212 → aw E mX4_copyFrom Q 212 [(0, .ref a), (1, .ref b), (2, .int v2_b212)] [] H_b212 0 0 := by
        intro fu
        induction fu with
        | zero =>
          intro v2_b212 s_b212 H_b212 h0 h1 hs hm
          exact (it_0 hm).elim
        | succ fu ih212 =>
          intro v2_b212 s_b212 H_b212 h0 h1 hs hm
          obtain ⟨y212, hm, hk212⟩ := it_s hm
          have hm : fX4_copyFrom_b212 t v2_b212 s_b212 = some y212 := hm
          unfold fX4_copyFrom_b212 at hm
          refine aw_b (pc' := 214) (lv' := [(0, .ref a), (1, .ref b), (2, .int v2_b212)]) (st' := [.ref a, .int v2_b212]) [(212, .iload_n 2, 1, .null), (213, .aload_n 0, 1, .null)] (by decide +kernel) rfl ?_
          refine aw_gl (v := .ref (a + 20)) a 0 h0 eo_R_0 fgX4_32 rfl (by decide +kernel) ?_
          refine aw_all (ci := 7) (N := 20) (v := (20 : Int32)) a 20 h0 rfl (x := fun _ a _ => .inr (.inr (.inr (.inr fun k => if k < 20 then some (a + (1 * k + 21)) else none)))) (fun _ _ => rfl) rfl (by decide +kernel) (by decide +kernel) ?_
          refine aw_ic_ge (off := 33) 251 (by decide) (by decide +kernel) (fun hc => ?_) (fun hc => ?_)
          · have hm := (if_pos hc).symm.trans hm
            cases hm
            refine aw_lv (lv' := []) [] rfl ?_
            exact X212_251 s_b212 H_b212 h0 h1 hs ((congrArg fX4_copyFrom_k212 (show (s_b212) = x212 from hk212)).trans hr212)
          · have hm := (if_neg hc).symm.trans hm
            refine aw_b (pc' := 222) (lv' := [(0, .ref a), (1, .ref b), (2, .int v2_b212)]) (st' := [.ref b]) [(221, .aload_n 1, 1, .null)] (by decide +kernel) rfl ?_
            refine aw_gl (v := .ref (b + 20)) b 0 h1 eo_R_0 fgX4_32 rfl (by decide +kernel) ?_
            refine aw_b (pc' := 226) (lv' := [(0, .ref a), (1, .ref b), (2, .int v2_b212)]) (st' := [.int v2_b212, .ref (b + 20)]) [(225, .iload_n 2, 1, .null)] (by decide +kernel) rfl ?_
            obtain ⟨g45, hm⟩ := gd_x hm
            refine aw_iall b 20 h1 ra_R_20 g45 (by decide +kernel) ?_
            refine aw_b (pc' := 229) (lv' := [(0, .ref a), (1, .ref b), (2, .int v2_b212)]) (st' := [.ref a, .int (0 : Int32), .ref (b + (1 * ix_ v2_b212 + 21))]) [(227, .iconst 0, 1, .int (0 : Int32)), (228, .aload_n 0, 1, .null)] (by decide +kernel) rfl ?_
            refine aw_gl (v := .ref (a + 20)) a 0 h0 eo_R_0 fgX4_32 rfl (by decide +kernel) ?_
            refine aw_b (pc' := 233) (lv' := [(0, .ref a), (1, .ref b), (2, .int v2_b212)]) (st' := [.int v2_b212, .ref (a + 20), .int (0 : Int32), .ref (b + (1 * ix_ v2_b212 + 21))]) [(232, .iload_n 2, 1, .null)] (by decide +kernel) rfl ?_
            obtain ⟨g46, hm⟩ := gd_x hm
            refine aw_iall a 20 h0 ra_R_20 g46 (by decide +kernel) ?_
            refine aw_b (pc' := 236) (lv' := [(0, .ref a), (1, .ref b), (2, .int v2_b212)]) (st' := [.ref a, .int (0 : Int32), .ref (a + (1 * ix_ v2_b212 + 21)), .int (0 : Int32), .ref (b + (1 * ix_ v2_b212 + 21))]) [(234, .iconst 0, 1, .int (0 : Int32)), (235, .aload_n 0, 1, .null)] (by decide +kernel) rfl ?_
            refine aw_gl (v := .ref (a + 20)) a 0 h0 eo_R_0 fgX4_32 rfl (by decide +kernel) ?_
            refine aw_b (pc' := 240) (lv' := [(0, .ref a), (1, .ref b), (2, .int v2_b212)]) (st' := [.int v2_b212, .ref (a + 20), .int (0 : Int32), .ref (a + (1 * ix_ v2_b212 + 21)), .int (0 : Int32), .ref (b + (1 * ix_ v2_b212 + 21))]) [(239, .iload_n 2, 1, .null)] (by decide +kernel) rfl ?_
            obtain ⟨g47, hm⟩ := gd_x hm
            refine aw_iall a 20 h0 ra_R_20 g47 (by decide +kernel) ?_
            refine aw_all (ci := 0) (N := 5) (v := (5 : Int32)) a (1 * ix_ v2_b212 + 21) h0 (sr_R_21 _ (ib_lt g47)) (x := fun _ _ c => .inl c) (fun _ _ => rfl) rfl (by decide +kernel) (by decide +kernel) ?_
            obtain ⟨s48, e49, hm⟩ := bd_x hm
            refine aw_cpl (rest := []) b (1 * ix_ v2_b212 + 21) a (1 * ix_ v2_b212 + 21) h0 (sr_R_21 _ (ib_lt g46)) h1 (sr_R_21 _ (ib_lt g45)) cpX4_57 hf (by decide) (by decide +kernel) e49 rfl (Nat.le_of_ble_eq_true rfl) (by decide +kernel) (fun H50 h0 z51 => ?_)
            have hlt := ib_lt g46
            have h1 := h1.kept (n := 41) z51 rfl (by omega)
            have hs := hs.step z51 (by omega) (by omega)
            refine aw_b (pc' := 212) (lv' := [(2, .int (v2_b212 + (1 : Int32))), (0, .ref a), (1, .ref b)]) (st' := []) [(245, .iinc 2 1, 3, .int (1 : Int32)), (248, .goto (-36), 3, .null)] (by decide +kernel) rfl ?_
            cases hm
            refine aw_lv (lv' := [(0, .ref a), (1, .ref b), (2, .int (v2_b212 + (1 : Int32)))]) [1, 2, 0] rfl ?_
            exact ih212 (v2_b212 + (1 : Int32)) s48 H50 h0 h1 hs hk212
      refine aw_lv (lv' := [(0, .ref a), (1, .ref b), (2, .int (0 : Int32))]) [1, 2, 0] rfl ?_
      exact L212 FU_ (0 : Int32) s_x171_210 H_x171_210 h0 h1 hs hx212
    have L171 : ∀ (fu : Nat) (v2_b171 : Int32) (s_b171 : st_) (H_b171 : Heap), has_ E H_b171 a ly_R s_b171 → has_ E H_b171 b ly_R t → sm_ H H_b171 a 41 → fX4_copyFrom_l171 t fu (v2_b171, s_b171) = some x171 → aw E mX4_copyFrom Q 171 [(0, .ref a), (1, .ref b), (2, .int v2_b171)] [] H_b171 0 0 := by
      intro fu
      induction fu with
      | zero =>
        intro v2_b171 s_b171 H_b171 h0 h1 hs hm
        exact (it_0 hm).elim
      | succ fu ih171 =>
        intro v2_b171 s_b171 H_b171 h0 h1 hs hm
        obtain ⟨y171, hm, hk171⟩ := it_s hm
        have hm : fX4_copyFrom_b171 t v2_b171 s_b171 = some y171 := hm
        unfold fX4_copyFrom_b171 at hm
        refine aw_b (pc' := 173) (lv' := [(0, .ref a), (1, .ref b), (2, .int v2_b171)]) (st' := [.ref a, .int v2_b171]) [(171, .iload_n 2, 1, .null), (172, .aload_n 0, 1, .null)] (by decide +kernel) rfl ?_
        refine aw_gl (v := .ref (a + 13)) a 0 h0 eo_R_0 fgX4_29 rfl (by decide +kernel) ?_
        refine aw_all (ci := 7) (N := 6) (v := (6 : Int32)) a 13 h0 rfl (x := fun _ a _ => .inr (.inr (.inr (.inr fun k => if k < 6 then some (a + (1 * k + 14)) else none)))) (fun _ _ => rfl) rfl (by decide +kernel) (by decide +kernel) ?_
        refine aw_ic_ge (off := 33) 210 (by decide) (by decide +kernel) (fun hc => ?_) (fun hc => ?_)
        · have hm := (if_pos hc).symm.trans hm
          cases hm
          refine aw_lv (lv' := [(0, .ref a), (1, .ref b)]) [0, 1] rfl ?_
          exact X171_210 s_b171 H_b171 h0 h1 hs ((congrArg (fX4_copyFrom_k171 t) (show (s_b171) = x171 from hk171)).trans hr171)
        · have hm := (if_neg hc).symm.trans hm
          refine aw_b (pc' := 181) (lv' := [(0, .ref a), (1, .ref b), (2, .int v2_b171)]) (st' := [.ref b]) [(180, .aload_n 1, 1, .null)] (by decide +kernel) rfl ?_
          refine aw_gl (v := .ref (b + 13)) b 0 h1 eo_R_0 fgX4_29 rfl (by decide +kernel) ?_
          refine aw_b (pc' := 185) (lv' := [(0, .ref a), (1, .ref b), (2, .int v2_b171)]) (st' := [.int v2_b171, .ref (b + 13)]) [(184, .iload_n 2, 1, .null)] (by decide +kernel) rfl ?_
          obtain ⟨g52, hm⟩ := gd_x hm
          refine aw_iall b 13 h1 ra_R_13 g52 (by decide +kernel) ?_
          refine aw_b (pc' := 188) (lv' := [(0, .ref a), (1, .ref b), (2, .int v2_b171)]) (st' := [.ref a, .int (0 : Int32), .ref (b + (1 * ix_ v2_b171 + 14))]) [(186, .iconst 0, 1, .int (0 : Int32)), (187, .aload_n 0, 1, .null)] (by decide +kernel) rfl ?_
          refine aw_gl (v := .ref (a + 13)) a 0 h0 eo_R_0 fgX4_29 rfl (by decide +kernel) ?_
          refine aw_b (pc' := 192) (lv' := [(0, .ref a), (1, .ref b), (2, .int v2_b171)]) (st' := [.int v2_b171, .ref (a + 13), .int (0 : Int32), .ref (b + (1 * ix_ v2_b171 + 14))]) [(191, .iload_n 2, 1, .null)] (by decide +kernel) rfl ?_
          obtain ⟨g53, hm⟩ := gd_x hm
          refine aw_iall a 13 h0 ra_R_13 g53 (by decide +kernel) ?_
          refine aw_b (pc' := 195) (lv' := [(0, .ref a), (1, .ref b), (2, .int v2_b171)]) (st' := [.ref a, .int (0 : Int32), .ref (a + (1 * ix_ v2_b171 + 14)), .int (0 : Int32), .ref (b + (1 * ix_ v2_b171 + 14))]) [(193, .iconst 0, 1, .int (0 : Int32)), (194, .aload_n 0, 1, .null)] (by decide +kernel) rfl ?_
          refine aw_gl (v := .ref (a + 13)) a 0 h0 eo_R_0 fgX4_29 rfl (by decide +kernel) ?_
          refine aw_b (pc' := 199) (lv' := [(0, .ref a), (1, .ref b), (2, .int v2_b171)]) (st' := [.int v2_b171, .ref (a + 13), .int (0 : Int32), .ref (a + (1 * ix_ v2_b171 + 14)), .int (0 : Int32), .ref (b + (1 * ix_ v2_b171 + 14))]) [(198, .iload_n 2, 1, .null)] (by decide +kernel) rfl ?_
          obtain ⟨g54, hm⟩ := gd_x hm
          refine aw_iall a 13 h0 ra_R_13 g54 (by decide +kernel) ?_
          refine aw_all (ci := 0) (N := 6) (v := (6 : Int32)) a (1 * ix_ v2_b171 + 14) h0 (sr_R_14 _ (ib_lt g54)) (x := fun _ _ c => .inl c) (fun _ _ => rfl) rfl (by decide +kernel) (by decide +kernel) ?_
          obtain ⟨s55, e56, hm⟩ := bd_x hm
          refine aw_cpl (rest := []) b (1 * ix_ v2_b171 + 14) a (1 * ix_ v2_b171 + 14) h0 (sr_R_14 _ (ib_lt g53)) h1 (sr_R_14 _ (ib_lt g52)) cpX4_57 hf (by decide) (by decide +kernel) e56 rfl (Nat.le_of_ble_eq_true rfl) (by decide +kernel) (fun H57 h0 z58 => ?_)
          have hlt := ib_lt g53
          have h1 := h1.kept (n := 41) z58 rfl (by omega)
          have hs := hs.step z58 (by omega) (by omega)
          refine aw_b (pc' := 171) (lv' := [(2, .int (v2_b171 + (1 : Int32))), (0, .ref a), (1, .ref b)]) (st' := []) [(204, .iinc 2 1, 3, .int (1 : Int32)), (207, .goto (-36), 3, .null)] (by decide +kernel) rfl ?_
          cases hm
          refine aw_lv (lv' := [(0, .ref a), (1, .ref b), (2, .int (v2_b171 + (1 : Int32)))]) [1, 2, 0] rfl ?_
          exact ih171 (v2_b171 + (1 : Int32)) s55 H57 h0 h1 hs hk171
    refine aw_lv (lv' := [(0, .ref a), (1, .ref b), (2, .int (0 : Int32))]) [1, 2, 0] rfl ?_
    exact L171 FU_ (0 : Int32) s41 H43 h0 h1 hs hx171
  have L58 : ∀ (fu : Nat) (v2_b58 : Int32) (s_b58 : st_) (H_b58 : Heap), has_ E H_b58 a ly_R s_b58 → has_ E H_b58 b ly_R t → sm_ H H_b58 a 41 → fX4_copyFrom_l58 t fu (v2_b58, s_b58) = some x58 → aw E mX4_copyFrom Q 58 [(0, .ref a), (1, .ref b), (2, .int v2_b58)] [] H_b58 0 0 := by
    intro fu
    induction fu with
    | zero =>
      intro v2_b58 s_b58 H_b58 h0 h1 hs hm
      exact (it_0 hm).elim
    | succ fu ih58 =>
      intro v2_b58 s_b58 H_b58 h0 h1 hs hm
      obtain ⟨y58, hm, hk58⟩ := it_s hm
      have hm : fX4_copyFrom_b58 t v2_b58 s_b58 = some y58 := hm
      unfold fX4_copyFrom_b58 at hm
      refine aw_b (pc' := 60) (lv' := [(0, .ref a), (1, .ref b), (2, .int v2_b58)]) (st' := [.ref a, .int v2_b58]) [(58, .iload_n 2, 1, .null), (59, .aload_n 0, 1, .null)] (by decide +kernel) rfl ?_
      refine aw_gl (v := .ref (a + 1)) a 0 h0 eo_R_0 fgX4_11 rfl (by decide +kernel) ?_
      refine aw_all (ci := 7) (N := 7) (v := (7 : Int32)) a 1 h0 rfl (x := fun _ a _ => .inr (.inr (.inr (.inr fun k => if k < 7 then some (a + (1 * k + 2)) else none)))) (fun _ _ => rfl) rfl (by decide +kernel) (by decide +kernel) ?_
      refine aw_ic_ge (off := 33) 97 (by decide) (by decide +kernel) (fun hc => ?_) (fun hc => ?_)
      · have hm := (if_pos hc).symm.trans hm
        cases hm
        refine aw_lv (lv' := [(0, .ref a), (1, .ref b)]) [0, 1] rfl ?_
        exact X58_97 s_b58 H_b58 h0 h1 hs ((congrArg (fX4_copyFrom_k58 t) (show (s_b58) = x58 from hk58)).trans hr58)
      · have hm := (if_neg hc).symm.trans hm
        refine aw_b (pc' := 68) (lv' := [(0, .ref a), (1, .ref b), (2, .int v2_b58)]) (st' := [.ref b]) [(67, .aload_n 1, 1, .null)] (by decide +kernel) rfl ?_
        refine aw_gl (v := .ref (b + 1)) b 0 h1 eo_R_0 fgX4_11 rfl (by decide +kernel) ?_
        refine aw_b (pc' := 72) (lv' := [(0, .ref a), (1, .ref b), (2, .int v2_b58)]) (st' := [.int v2_b58, .ref (b + 1)]) [(71, .iload_n 2, 1, .null)] (by decide +kernel) rfl ?_
        obtain ⟨g59, hm⟩ := gd_x hm
        refine aw_iall b 1 h1 ra_R_1 g59 (by decide +kernel) ?_
        refine aw_b (pc' := 75) (lv' := [(0, .ref a), (1, .ref b), (2, .int v2_b58)]) (st' := [.ref a, .int (0 : Int32), .ref (b + (1 * ix_ v2_b58 + 2))]) [(73, .iconst 0, 1, .int (0 : Int32)), (74, .aload_n 0, 1, .null)] (by decide +kernel) rfl ?_
        refine aw_gl (v := .ref (a + 1)) a 0 h0 eo_R_0 fgX4_11 rfl (by decide +kernel) ?_
        refine aw_b (pc' := 79) (lv' := [(0, .ref a), (1, .ref b), (2, .int v2_b58)]) (st' := [.int v2_b58, .ref (a + 1), .int (0 : Int32), .ref (b + (1 * ix_ v2_b58 + 2))]) [(78, .iload_n 2, 1, .null)] (by decide +kernel) rfl ?_
        obtain ⟨g60, hm⟩ := gd_x hm
        refine aw_iall a 1 h0 ra_R_1 g60 (by decide +kernel) ?_
        refine aw_b (pc' := 82) (lv' := [(0, .ref a), (1, .ref b), (2, .int v2_b58)]) (st' := [.ref a, .int (0 : Int32), .ref (a + (1 * ix_ v2_b58 + 2)), .int (0 : Int32), .ref (b + (1 * ix_ v2_b58 + 2))]) [(80, .iconst 0, 1, .int (0 : Int32)), (81, .aload_n 0, 1, .null)] (by decide +kernel) rfl ?_
        refine aw_gl (v := .ref (a + 1)) a 0 h0 eo_R_0 fgX4_11 rfl (by decide +kernel) ?_
        refine aw_b (pc' := 86) (lv' := [(0, .ref a), (1, .ref b), (2, .int v2_b58)]) (st' := [.int v2_b58, .ref (a + 1), .int (0 : Int32), .ref (a + (1 * ix_ v2_b58 + 2)), .int (0 : Int32), .ref (b + (1 * ix_ v2_b58 + 2))]) [(85, .iload_n 2, 1, .null)] (by decide +kernel) rfl ?_
        obtain ⟨g61, hm⟩ := gd_x hm
        refine aw_iall a 1 h0 ra_R_1 g61 (by decide +kernel) ?_
        refine aw_all (ci := 0) (N := 1001) (v := (1001 : Int32)) a (1 * ix_ v2_b58 + 2) h0 (sr_R_2 _ (ib_lt g61)) (x := fun _ _ c => .inl c) (fun _ _ => rfl) rfl (by decide +kernel) (by decide +kernel) ?_
        obtain ⟨s62, e63, hm⟩ := bd_x hm
        refine aw_cpl (rest := []) b (1 * ix_ v2_b58 + 2) a (1 * ix_ v2_b58 + 2) h0 (sr_R_2 _ (ib_lt g60)) h1 (sr_R_2 _ (ib_lt g59)) cpX4_57 hf (by decide) (by decide +kernel) e63 rfl (Nat.le_of_ble_eq_true rfl) (by decide +kernel) (fun H64 h0 z65 => ?_)
        have hlt := ib_lt g60
        have h1 := h1.kept (n := 41) z65 rfl (by omega)
        have hs := hs.step z65 (by omega) (by omega)
        refine aw_b (pc' := 58) (lv' := [(2, .int (v2_b58 + (1 : Int32))), (0, .ref a), (1, .ref b)]) (st' := []) [(91, .iinc 2 1, 3, .int (1 : Int32)), (94, .goto (-36), 3, .null)] (by decide +kernel) rfl ?_
        cases hm
        refine aw_lv (lv' := [(0, .ref a), (1, .ref b), (2, .int (v2_b58 + (1 : Int32)))]) [1, 2, 0] rfl ?_
        exact ih58 (v2_b58 + (1 : Int32)) s62 H64 h0 h1 hs hk58
  refine aw_lv (lv' := [(0, .ref a), (1, .ref b), (2, .int (0 : Int32))]) [1, 2, 0] rfl ?_
  exact L58 FU_ (0 : Int32) s25 H27 h0 h1 hs hx58
def mX4_noteSwaps : mt_ := (yX4_noteSwaps, cX4_noteSwaps, 3, none, [], { frames := 3, locals := 74, cells := 0, slots := 0 })
theorem ckX4_noteSwaps : cokV_ mX4_noteSwaps := ⟨⟨(uw_mem 1145 (by decide +kernel) (by decide +kernel)), (uw_mem 35 (by decide +kernel) (by decide +kernel)), by decide +kernel, by decide +kernel⟩, (uw_mem 1143 (by decide +kernel) (by decide +kernel)), (uw_mem 1144 (by decide +kernel) (by decide +kernel))⟩
theorem nkX4_noteSwaps : nok_ mX4_noteSwaps 1 := by decide +kernel
theorem fgX4_63 : fok_ RX4 63 1 0 := ⟨_, _, _, rfl, by decide, (uw_mem 281 (by decide +kernel) (by decide +kernel)), wkX1⟩
theorem fgX4_69 : fok_ RX4 69 1 12 := ⟨_, _, _, rfl, by decide, (uw_mem 304 (by decide +kernel) (by decide +kernel)), wkX1⟩
theorem lkX4_72 : Cond.methodLink RX4 72 yX5_hasRule ∈ uw_ := (uw_mem 1146 (by decide +kernel) (by decide +kernel))
theorem fgX4_78 : fok_ RX4 78 1 1 := ⟨_, _, _, rfl, by decide, (uw_mem 283 (by decide +kernel) (by decide +kernel)), wkX1⟩
theorem lkX4_82 : Cond.methodLink RX4 82 yX0_costBy ∈ uw_ := (uw_mem 1147 (by decide +kernel) (by decide +kernel))
theorem kX4_noteSwaps {E : ev_} {H : Heap} {a b : Nat} {s : st_} {t : st_} {r : st_} (hm : fX4_noteSwaps s t = some r) (h0 : has_ E H a ly_R s) (h1 : has_ E H b ly_D t) (hf : ev_fr E a) (d1 : a + 41 ≤ b ∨ b + 33 ≤ a) : sp_ E mX4_noteSwaps [.ref a, .ref b] H (po1 (.inl (none)) (fun Hn => sm_ H Hn a 41 ∧ has_ E Hn a ly_R r)) := by
  refine sp_of (by decide +kernel) rfl rfl ?_
  generalize hQ : po1 _ _ = Q
  have hs : sm_ H H a 41 := sm_.rfl'
  unfold fX4_noteSwaps at hm
  refine aw_lv (lv' := [(0, .ref a), (1, .ref b)]) [0, 1] rfl ?_
  refine aw_b (pc' := 1) (lv' := [(0, .ref a), (1, .ref b)]) (st' := [.ref b]) [(0, .aload_n 1, 1, .null)] (by decide +kernel) rfl ?_
  refine aw_gl (v := .ref (b + 1)) b 0 h1 eo_D_0 fgX4_63 rfl (by decide +kernel) ?_
  refine aw_b (pc' := 5) (lv' := [(0, .ref a), (1, .ref b)]) (st' := [.ref b, .ref (b + 1)]) [(4, .aload_n 1, 1, .null)] (by decide +kernel) rfl ?_
  refine aw_gl (v := .int (t 0 12)) b 0 h1 eo_D_0 fgX4_69 rfl (by decide +kernel) ?_
  obtain ⟨r1, e2, hm⟩ := bn_x hm
  refine aw_cv (rest := []) (st1 := [.int r1]) b 1 (kX5_hasRule e2 (h1.sub su_D_1_S)) rfl rfl ckX5_hasRule lkX4_72 h1 eo_D_1 ⟨_, _, rfl⟩ nkX5_hasRule rfl rfl rfl (Nat.le_of_ble_eq_true rfl) (Nat.zero_le _) (Nat.zero_le _) (by decide +kernel) (fun H3 z4 => ?_)
  have h0 := h0.kept0 z4
  have h1 := h1.kept0 z4
  have hs := hs.step0 z4
  refine aw_if_ne (off := 4) 15 (by decide) (by decide +kernel) (fun hc => ?_) (fun hc => ?_)
  · have hm := (if_neg hc).symm.trans hm
    refine aw_b (pc' := 17) (lv' := [(2, .int (0 : Int32)), (0, .ref a), (1, .ref b)]) (st' := []) [(15, .iconst 0, 1, .int (0 : Int32)), (16, .istore_n 2, 1, .null)] (by decide +kernel) rfl ?_
    obtain ⟨x17, hx17, hr17⟩ := bn_x hm
    have X17_57 : ∀ (s_x17_57 : st_) (H_x17_57 : Heap), has_ E H_x17_57 a ly_R s_x17_57 → has_ E H_x17_57 b ly_D t → sm_ H H_x17_57 a 41 → fX4_noteSwaps_x17_57 s_x17_57 = some r → aw E mX4_noteSwaps Q 57 [] [] H_x17_57 0 0 := by
      intro s_x17_57 H_x17_57 h0 h1 hs hm
      unfold fX4_noteSwaps_x17_57 at hm
      obtain rfl := Option.some.inj hm
      subst hQ
      exact aw_vret rfl (Nat.zero_le _) (Nat.zero_le _) (by decide +kernel) ⟨rfl, hs, h0⟩
    have L17 : ∀ (fu : Nat) (v2_b17 : Int32) (s_b17 : st_) (H_b17 : Heap), has_ E H_b17 a ly_R s_b17 → has_ E H_b17 b ly_D t → sm_ H H_b17 a 41 → fX4_noteSwaps_l17 t fu (v2_b17, s_b17) = some x17 → aw E mX4_noteSwaps Q 17 [(0, .ref a), (1, .ref b), (2, .int v2_b17)] [] H_b17 0 0 := by
      intro fu
      induction fu with
      | zero =>
        intro v2_b17 s_b17 H_b17 h0 h1 hs hm
        exact (it_0 hm).elim
      | succ fu ih17 =>
        intro v2_b17 s_b17 H_b17 h0 h1 hs hm
        obtain ⟨y17, hm, hk17⟩ := it_s hm
        have hm : fX4_noteSwaps_b17 t v2_b17 s_b17 = some y17 := hm
        unfold fX4_noteSwaps_b17 at hm
        refine aw_b (pc' := 19) (lv' := [(0, .ref a), (1, .ref b), (2, .int v2_b17)]) (st' := [.ref a, .int v2_b17]) [(17, .iload_n 2, 1, .null), (18, .aload_n 0, 1, .null)] (by decide +kernel) rfl ?_
        refine aw_gl (v := .int (s_b17 0 0)) a 0 h0 eo_R_0 fgX4_35 rfl (by decide +kernel) ?_
        refine aw_ic_ge (off := 35) 57 (by decide) (by decide +kernel) (fun hc => ?_) (fun hc => ?_)
        · have hm := (if_pos hc).symm.trans hm
          cases hm
          refine aw_lv (lv' := []) [] rfl ?_
          exact X17_57 s_b17 H_b17 h0 h1 hs ((congrArg fX4_noteSwaps_k17 (show (s_b17) = x17 from hk17)).trans hr17)
        · have hm := (if_neg hc).symm.trans hm
          refine aw_b (pc' := 26) (lv' := [(0, .ref a), (1, .ref b), (2, .int v2_b17)]) (st' := [.ref a]) [(25, .aload_n 0, 1, .null)] (by decide +kernel) rfl ?_
          refine aw_gl (v := .ref (a + 13)) a 0 h0 eo_R_0 fgX4_29 rfl (by decide +kernel) ?_
          refine aw_b (pc' := 30) (lv' := [(0, .ref a), (1, .ref b), (2, .int v2_b17)]) (st' := [.ref b, .ref (a + 13)]) [(29, .aload_n 1, 1, .null)] (by decide +kernel) rfl ?_
          refine aw_gl (v := .int (t 0 12)) b 0 h1 eo_D_0 fgX4_69 rfl (by decide +kernel) ?_
          obtain ⟨g5, hm⟩ := gd_x hm
          refine aw_iall a 13 h0 ra_R_13 g5 (by decide +kernel) ?_
          refine aw_b (pc' := 36) (lv' := [(0, .ref a), (1, .ref b), (2, .int v2_b17)]) (st' := [.int v2_b17, .ref (a + (1 * ix_ (t 0 12) + 14)), .int v2_b17, .ref (a + (1 * ix_ (t 0 12) + 14))]) [(34, .iload_n 2, 1, .null), (35, .dup2, 1, .null)] (by decide +kernel) rfl ?_
          obtain ⟨g6, hm⟩ := gd_x hm
          refine aw_ial a (1 * ix_ (t 0 12) + 14) h0 (sr_R_14 _ (ib_lt g5)) g6 (by decide +kernel) ?_
          refine aw_b (pc' := 38) (lv' := [(0, .ref a), (1, .ref b), (2, .int v2_b17)]) (st' := [.ref b, .int (s_b17 (1 * ix_ (t 0 12) + 14) (ix_ v2_b17)), .int v2_b17, .ref (a + (1 * ix_ (t 0 12) + 14))]) [(37, .aload_n 1, 1, .null)] (by decide +kernel) rfl ?_
          refine aw_gl (v := .ref (b + 5)) b 0 h1 eo_D_0 fgX4_78 rfl (by decide +kernel) ?_
          refine aw_b (pc' := 42) (lv' := [(0, .ref a), (1, .ref b), (2, .int v2_b17)]) (st' := [.ref b, .ref (b + 5), .int (s_b17 (1 * ix_ (t 0 12) + 14) (ix_ v2_b17)), .int v2_b17, .ref (a + (1 * ix_ (t 0 12) + 14))]) [(41, .aload_n 1, 1, .null)] (by decide +kernel) rfl ?_
          refine aw_gl (v := .ref (b + 1)) b 0 h1 eo_D_0 fgX4_63 rfl (by decide +kernel) ?_
          refine aw_b (pc' := 46) (lv' := [(0, .ref a), (1, .ref b), (2, .int v2_b17)]) (st' := [.int v2_b17, .ref (b + 1), .ref (b + 5), .int (s_b17 (1 * ix_ (t 0 12) + 14) (ix_ v2_b17)), .int v2_b17, .ref (a + (1 * ix_ (t 0 12) + 14))]) [(45, .iload_n 2, 1, .null)] (by decide +kernel) rfl ?_
          obtain ⟨r7, e8, hm⟩ := bn_x hm
          refine aw_cv (rest := [.int (s_b17 (1 * ix_ (t 0 12) + 14) (ix_ v2_b17)), .int v2_b17, .ref (a + (1 * ix_ (t 0 12) + 14))]) (st1 := [.int r7, .int (s_b17 (1 * ix_ (t 0 12) + 14) (ix_ v2_b17)), .int v2_b17, .ref (a + (1 * ix_ (t 0 12) + 14))]) b 5 (kX0_costBy e8 (h1.sub su_D_5_A) (h1.sub su_D_1_S)) rfl rfl ckX0_costBy lkX4_82 h1 eo_D_5 ⟨_, _, rfl⟩ nkX0_costBy rfl rfl rfl (Nat.le_of_ble_eq_true rfl) (Nat.zero_le _) (Nat.zero_le _) (by decide +kernel) (fun H9 z10 => ?_)
          have h0 := h0.kept0 z10
          have h1 := h1.kept0 z10
          have hs := hs.step0 z10
          refine aw_b (pc' := 50) (lv' := [(0, .ref a), (1, .ref b), (2, .int v2_b17)]) (st' := [.int ((s_b17 (1 * ix_ (t 0 12) + 14) (ix_ v2_b17)) + r7), .int v2_b17, .ref (a + (1 * ix_ (t 0 12) + 14))]) [(49, .iadd, 1, .null)] (by decide +kernel) rfl ?_
          obtain ⟨g11, hm⟩ := gd_x hm
          obtain ⟨s12, e13, hm⟩ := bd_x hm
          refine aw_isl a (1 * ix_ (t 0 12) + 14) h0 (sr_R_14 _ (ib_lt g5)) hf g11 e13 (by decide +kernel) (fun H14 h0 z15 => ?_)
          have hlt := ib_lt g5
          have h1 := h1.kept (n := 33) z15 rfl (by omega)
          have hs := hs.step z15 (by omega) (by omega)
          refine aw_b (pc' := 17) (lv' := [(2, .int (v2_b17 + (1 : Int32))), (0, .ref a), (1, .ref b)]) (st' := []) [(51, .iinc 2 1, 3, .int (1 : Int32)), (54, .goto (-37), 3, .null)] (by decide +kernel) rfl ?_
          cases hm
          refine aw_lv (lv' := [(0, .ref a), (1, .ref b), (2, .int (v2_b17 + (1 : Int32)))]) [1, 2, 0] rfl ?_
          exact ih17 (v2_b17 + (1 : Int32)) s12 H14 h0 h1 hs hk17
    refine aw_lv (lv' := [(0, .ref a), (1, .ref b), (2, .int (0 : Int32))]) [1, 2, 0] rfl ?_
    exact L17 FU_ (0 : Int32) s H3 h0 h1 hs hx17
  · have hm := (if_pos hc).symm.trans hm
    obtain rfl := Option.some.inj hm
    subst hQ
    exact aw_vret rfl (Nat.zero_le _) (Nat.zero_le _) (by decide +kernel) ⟨rfl, hs, h0⟩
def mX4_noteRegret : mt_ := (yX4_noteRegret, cX4_noteRegret, 3, none, [], { frames := 3, locals := 62, cells := 0, slots := 0 })
theorem ckX4_noteRegret : cokV_ mX4_noteRegret := ⟨⟨(uw_mem 1184 (by decide +kernel) (by decide +kernel)), (uw_mem 35 (by decide +kernel) (by decide +kernel)), by decide +kernel, by decide +kernel⟩, (uw_mem 1183 (by decide +kernel) (by decide +kernel)), (uw_mem 22 (by decide +kernel) (by decide +kernel))⟩
theorem nkX4_noteRegret : nok_ mX4_noteRegret 1 := by decide +kernel
theorem lkX4_117 : Cond.methodLink RX4 117 yX1_regretNow ∈ uw_ := (uw_mem 1185 (by decide +kernel) (by decide +kernel))
theorem lkX4_120 : Cond.methodLink RX4 120 yX1_isBreach ∈ uw_ := (uw_mem 1189 (by decide +kernel) (by decide +kernel))
theorem kX4_noteRegret {E : ev_} {H : Heap} {a b : Nat} {s : st_} {t : st_} {r : st_} (hm : fX4_noteRegret s t = some r) (h0 : has_ E H a ly_R s) (h1 : has_ E H b ly_D t) (hf : ev_fr E a) (d1 : a + 41 ≤ b ∨ b + 33 ≤ a) : sp_ E mX4_noteRegret [.ref a, .ref b] H (po1 (.inl (none)) (fun Hn => sm_ H Hn a 41 ∧ has_ E Hn a ly_R r)) := by
  refine sp_of (by decide +kernel) rfl rfl ?_
  generalize hQ : po1 _ _ = Q
  have hs : sm_ H H a 41 := sm_.rfl'
  unfold fX4_noteRegret at hm
  refine aw_lv (lv' := [(0, .ref a), (1, .ref b)]) [0, 1] rfl ?_
  refine aw_b (pc' := 1) (lv' := [(0, .ref a), (1, .ref b)]) (st' := [.ref b]) [(0, .aload_n 1, 1, .null)] (by decide +kernel) rfl ?_
  obtain ⟨r1, e2, hm⟩ := bn_x hm
  refine aw_cv (rest := []) (st1 := [.int r1]) b 0 (kX1_regretNow e2 h1) rfl rfl ckX1_regretNow lkX4_117 h1 eo_D_0 ⟨_, _, rfl⟩ nkX1_regretNow rfl rfl rfl (Nat.le_of_ble_eq_true rfl) (Nat.zero_le _) (Nat.zero_le _) (by decide +kernel) (fun H3 z4 => ?_)
  have h0 := h0.kept0 z4
  have h1 := h1.kept0 z4
  have hs := hs.step0 z4
  refine aw_b (pc' := 6) (lv' := [(2, .int r1), (0, .ref a), (1, .ref b)]) (st' := [.ref a]) [(4, .istore_n 2, 1, .null), (5, .aload_n 0, 1, .null)] (by decide +kernel) rfl ?_
  refine aw_gl (v := .int (s 0 1)) a 0 h0 eo_R_0 fgX4_39 rfl (by decide +kernel) ?_
  have J25 : ∀ (s_j25 : st_) (H_j25 : Heap), has_ E H_j25 a ly_R s_j25 → has_ E H_j25 b ly_D t → sm_ H H_j25 a 41 → fX4_noteRegret_j25 t s_j25 = some r → aw E mX4_noteRegret Q 25 [(0, .ref a), (1, .ref b)] [] H_j25 0 0 := by
    intro s_j25 H_j25 h0 h1 hs hm
    unfold fX4_noteRegret_j25 at hm
    refine aw_b (pc' := 26) (lv' := [(0, .ref a), (1, .ref b)]) (st' := [.ref b]) [(25, .aload_n 1, 1, .null)] (by decide +kernel) rfl ?_
    obtain ⟨r5, e6, hm⟩ := bn_x hm
    refine aw_cv (rest := []) (st1 := [.int r5]) b 0 (kX1_isBreach e6 h1) rfl rfl ckX1_isBreach lkX4_120 h1 eo_D_0 ⟨_, _, rfl⟩ nkX1_isBreach rfl rfl rfl (Nat.le_of_ble_eq_true rfl) (Nat.zero_le _) (Nat.zero_le _) (by decide +kernel) (fun H7 z8 => ?_)
    have h0 := h0.kept0 z8
    have h1 := h1.kept0 z8
    have hs := hs.step0 z8
    refine aw_if_eq (off := 35) 64 (by decide) (by decide +kernel) (fun hc => ?_) (fun hc => ?_)
    · have hm := (if_pos hc).symm.trans hm
      obtain rfl := Option.some.inj hm
      subst hQ
      exact aw_vret rfl (Nat.zero_le _) (Nat.zero_le _) (by decide +kernel) ⟨rfl, hs, h0⟩
    · have hm := (if_neg hc).symm.trans hm
      refine aw_b (pc' := 34) (lv' := [(0, .ref a), (1, .ref b)]) (st' := [.ref a, .ref a]) [(32, .aload_n 0, 1, .null), (33, .aload_n 0, 1, .null)] (by decide +kernel) rfl ?_
      refine aw_gl (v := .int (s_j25 0 10)) a 0 h0 eo_R_0 fgX4_45 rfl (by decide +kernel) ?_
      have J51 : ∀ (z1_j51 : Int32) (H_j51 : Heap), has_ E H_j51 a ly_R s_j25 → has_ E H_j51 b ly_D t → sm_ H H_j51 a 41 → fX4_noteRegret_j51 s_j25 z1_j51 = some r → aw E mX4_noteRegret Q 51 [(0, .ref a)] [.int z1_j51, .ref a] H_j51 0 0 := by
        intro z1_j51 H_j51 h0 h1 hs hm
        unfold fX4_noteRegret_j51 at hm
        obtain ⟨s9, e10, hm⟩ := bd_x hm
        refine aw_pl a 0 h0 eo_R_0 fsq_4_12 fpX4_51 hf rfl rfl e10 (by decide +kernel) (fun H11 h0 z12 => ?_)
        have h1 := h1.kept (n := 33) z12 rfl (by omega)
        have hs := hs.step z12 (by omega) (by omega)
        refine aw_b (pc' := 56) (lv' := [(0, .ref a)]) (st' := [.ref a, .ref a]) [(54, .aload_n 0, 1, .null), (55, .dup, 1, .null)] (by decide +kernel) rfl ?_
        refine aw_gl (v := .int (s9 0 10)) a 0 h0 eo_R_0 fgX4_45 rfl (by decide +kernel) ?_
        refine aw_b (pc' := 61) (lv' := [(0, .ref a)]) (st' := [.int ((s9 0 10) + (1 : Int32)), .ref a]) [(59, .iconst 1, 1, .int (1 : Int32)), (60, .iadd, 1, .null)] (by decide +kernel) rfl ?_
        obtain ⟨s13, e14, hm⟩ := bd_x hm
        refine aw_pl a 0 h0 eo_R_0 fsq_4_10 fpX4_45 hf rfl rfl e14 (by decide +kernel) (fun H15 h0 z16 => ?_)
        have h1 := h1.kept (n := 33) z16 rfl (by omega)
        have hs := hs.step z16 (by omega) (by omega)
        obtain rfl := Option.some.inj hm
        subst hQ
        exact aw_vret rfl (Nat.zero_le _) (Nat.zero_le _) (by decide +kernel) ⟨rfl, hs, h0⟩
      refine aw_if_ne (off := 10) 47 (by decide) (by decide +kernel) (fun hc => ?_) (fun hc => ?_)
      · have hm := (if_neg hc).symm.trans hm
        refine aw_b (pc' := 48) (lv' := [(0, .ref a), (1, .ref b)]) (st' := [.ref a, .ref a]) [(47, .aload_n 0, 1, .null)] (by decide +kernel) rfl ?_
        refine aw_gl (v := .int (s_j25 0 12)) a 0 h0 eo_R_0 fgX4_51 rfl (by decide +kernel) ?_
        refine aw_lv (lv' := [(0, .ref a)]) [0] rfl ?_
        exact J51 (s_j25 0 12) H7 h0 h1 hs hm
      · have hm := (if_pos hc).symm.trans hm
        refine aw_b (pc' := 41) (lv' := [(0, .ref a), (1, .ref b)]) (st' := [.ref a, .ref a]) [(40, .aload_n 0, 1, .null)] (by decide +kernel) rfl ?_
        refine aw_gl (v := .int (s_j25 0 1)) a 0 h0 eo_R_0 fgX4_39 rfl (by decide +kernel) ?_
        refine aw_b (pc' := 51) (lv' := [(0, .ref a), (1, .ref b)]) (st' := [.int (s_j25 0 1), .ref a]) [(44, .goto 7, 3, .null)] (by decide +kernel) rfl ?_
        refine aw_lv (lv' := [(0, .ref a)]) [0] rfl ?_
        exact J51 (s_j25 0 1) H7 h0 h1 hs hm
  have J20 : ∀ (H_j20 : Heap), has_ E H_j20 a ly_R s → has_ E H_j20 b ly_D t → sm_ H H_j20 a 41 → fX4_noteRegret_j20 s t r1 = some r → aw E mX4_noteRegret Q 20 [(0, .ref a), (1, .ref b), (2, .int r1)] [] H_j20 0 0 := by
    intro H_j20 h0 h1 hs hm
    unfold fX4_noteRegret_j20 at hm
    refine aw_b (pc' := 22) (lv' := [(0, .ref a), (1, .ref b), (2, .int r1)]) (st' := [.int r1, .ref a]) [(20, .aload_n 0, 1, .null), (21, .iload_n 2, 1, .null)] (by decide +kernel) rfl ?_
    obtain ⟨s17, e18, hm⟩ := bd_x hm
    refine aw_pl a 0 h0 eo_R_0 fsq_4_11 fpX4_48 hf rfl rfl e18 (by decide +kernel) (fun H19 h0 z20 => ?_)
    have h1 := h1.kept (n := 33) z20 rfl (by omega)
    have hs := hs.step z20 (by omega) (by omega)
    refine aw_lv (lv' := [(0, .ref a), (1, .ref b)]) [0, 1] rfl ?_
    exact J25 s17 H19 h0 h1 hs hm
  refine aw_if_eq (off := 11) 20 (by decide) (by decide +kernel) (fun hc => ?_) (fun hc => ?_)
  · have hm := (if_pos hc).symm.trans hm
    refine aw_lv (lv' := [(0, .ref a), (1, .ref b), (2, .int r1)]) [1, 2, 0] rfl ?_
    exact J20 H3 h0 h1 hs hm
  · have hm := (if_neg hc).symm.trans hm
    refine aw_b (pc' := 14) (lv' := [(2, .int r1), (0, .ref a), (1, .ref b)]) (st' := [.ref a, .int r1]) [(12, .iload_n 2, 1, .null), (13, .aload_n 0, 1, .null)] (by decide +kernel) rfl ?_
    refine aw_gl (v := .int (s 0 11)) a 0 h0 eo_R_0 fgX4_48 rfl (by decide +kernel) ?_
    refine aw_ic_le (off := 8) 25 (by decide) (by decide +kernel) (fun hc => ?_) (fun hc => ?_)
    · have hm := (if_pos hc).symm.trans hm
      refine aw_lv (lv' := [(0, .ref a), (1, .ref b)]) [1, 2] rfl ?_
      exact J25 s H3 h0 h1 hs hm
    · have hm := (if_neg hc).symm.trans hm
      refine aw_lv (lv' := [(0, .ref a), (1, .ref b), (2, .int r1)]) [1, 2, 0] rfl ?_
      exact J20 H3 h0 h1 hs hm
def mX4_noteServed : mt_ := (yX4_noteServed, cX4_noteServed, 4, none, [], { frames := 0, locals := 0, cells := 0, slots := 0 })
theorem ckX4_noteServed : cokV_ mX4_noteServed := ⟨⟨(uw_mem 1202 (by decide +kernel) (by decide +kernel)), (uw_mem 35 (by decide +kernel) (by decide +kernel)), by decide +kernel, by decide +kernel⟩, (uw_mem 1201 (by decide +kernel) (by decide +kernel)), (uw_mem 23 (by decide +kernel) (by decide +kernel))⟩
theorem nkX4_noteServed : nok_ mX4_noteServed 2 := by decide +kernel
theorem fgX4_123 : fok_ RX4 123 0 10 := ⟨_, _, _, rfl, by decide, (uw_mem 250 (by decide +kernel) (by decide +kernel)), wkX0⟩
theorem fgX4_126 : fok_ RX4 126 0 11 := ⟨_, _, _, rfl, by decide, (uw_mem 252 (by decide +kernel) (by decide +kernel)), wkX0⟩
theorem fgX4_88 : fok_ RX4 88 0 9 := ⟨_, _, _, rfl, by decide, (uw_mem 247 (by decide +kernel) (by decide +kernel)), wkX0⟩
theorem kX4_noteServed {E : ev_} {H : Heap} {a b : Nat} {s : st_} {t : st_} {i0 : Int32} {r : st_} (hm : fX4_noteServed s t i0 = some r) (h0 : has_ E H a ly_R s) (h1 : has_ E H b ly_A t) (hf : ev_fr E a) (d1 : a + 41 ≤ b ∨ b + 3 ≤ a) : sp_ E mX4_noteServed [.ref a, .ref b, .int i0] H (po1 (.inl (none)) (fun Hn => sm_ H Hn a 41 ∧ has_ E Hn a ly_R r)) := by
  refine sp_of (by decide +kernel) rfl rfl ?_
  generalize hQ : po1 _ _ = Q
  have hs : sm_ H H a 41 := sm_.rfl'
  unfold fX4_noteServed at hm
  refine aw_lv (lv' := [(0, .ref a), (1, .ref b), (2, .int i0)]) [0, 1, 2] rfl ?_
  refine aw_b (pc' := 1) (lv' := [(0, .ref a), (1, .ref b), (2, .int i0)]) (st' := [.ref b]) [(0, .aload_n 1, 1, .null)] (by decide +kernel) rfl ?_
  refine aw_gl (v := .int (t 0 10)) b 0 h1 eo_A_0 fgX4_123 rfl (by decide +kernel) ?_
  refine aw_b (pc' := 5) (lv' := [(0, .ref a), (1, .ref b), (2, .int i0)]) (st' := [.int (-1 : Int32), .int (t 0 10)]) [(4, .iconst (-1), 1, .int (-1 : Int32))] (by decide +kernel) rfl ?_
  refine aw_ic_ne (off := 4) 9 (by decide) (by decide +kernel) (fun hc => ?_) (fun hc => ?_)
  · have hm := (if_neg hc).symm.trans hm
    refine aw_b (pc' := 10) (lv' := [(0, .ref a), (1, .ref b), (2, .int i0)]) (st' := [.ref a]) [(9, .aload_n 0, 1, .null)] (by decide +kernel) rfl ?_
    refine aw_gl (v := .ref (a + 20)) a 0 h0 eo_R_0 fgX4_32 rfl (by decide +kernel) ?_
    refine aw_b (pc' := 14) (lv' := [(0, .ref a), (1, .ref b), (2, .int i0)]) (st' := [.ref a, .ref (a + 20)]) [(13, .aload_n 0, 1, .null)] (by decide +kernel) rfl ?_
    refine aw_gl (v := .int (s 0 9)) a 0 h0 eo_R_0 fgX4_42 rfl (by decide +kernel) ?_
    refine aw_b (pc' := 19) (lv' := [(0, .ref a), (1, .ref b), (2, .int i0)]) (st' := [.int (20 : Int32), .int (s 0 9), .ref (a + 20)]) [(17, .bipush 20, 2, .int (20 : Int32))] (by decide +kernel) rfl ?_
    refine aw_irem (by decide) (by decide +kernel) ?_
    obtain ⟨g1, hm⟩ := gd_x hm
    refine aw_iall a 20 h0 ra_R_20 g1 (by decide +kernel) ?_
    refine aw_b (pc' := 25) (lv' := [(3, .ref (a + (1 * ix_ ((s 0 9) - (s 0 9) / (20 : Int32) * (20 : Int32)) + 21))), (0, .ref a), (1, .ref b), (2, .int i0)]) (st' := [.ref a, .int (0 : Int32), .ref (a + (1 * ix_ ((s 0 9) - (s 0 9) / (20 : Int32) * (20 : Int32)) + 21))]) [(21, .astore_n 3, 1, .null), (22, .aload_n 3, 1, .null), (23, .iconst 0, 1, .int (0 : Int32)), (24, .aload_n 0, 1, .null)] (by decide +kernel) rfl ?_
    refine aw_gl (v := .int (s 0 1)) a 0 h0 eo_R_0 fgX4_39 rfl (by decide +kernel) ?_
    obtain ⟨g2, hm⟩ := gd_x hm
    obtain ⟨s3, e4, hm⟩ := bd_x hm
    refine aw_isl a (1 * ix_ ((s 0 9) - (s 0 9) / (20 : Int32) * (20 : Int32)) + 21) h0 (sr_R_21 _ (ib_lt g1)) hf g2 e4 (by decide +kernel) (fun H5 h0 z6 => ?_)
    have hlt := ib_lt g1
    have h1 := h1.kept (n := 3) z6 rfl (by omega)
    have hs := hs.step z6 (by omega) (by omega)
    refine aw_b (pc' := 32) (lv' := [(3, .ref (a + (1 * ix_ ((s 0 9) - (s 0 9) / (20 : Int32) * (20 : Int32)) + 21))), (0, .ref a), (1, .ref b), (2, .int i0)]) (st' := [.ref b, .int (1 : Int32), .ref (a + (1 * ix_ ((s 0 9) - (s 0 9) / (20 : Int32) * (20 : Int32)) + 21))]) [(29, .aload_n 3, 1, .null), (30, .iconst 1, 1, .int (1 : Int32)), (31, .aload_n 1, 1, .null)] (by decide +kernel) rfl ?_
    refine aw_gl (v := .int (t 0 10)) b 0 h1 eo_A_0 fgX4_123 rfl (by decide +kernel) ?_
    obtain ⟨g7, hm⟩ := gd_x hm
    obtain ⟨s8, e9, hm⟩ := bd_x hm
    refine aw_isl a (1 * ix_ ((s 0 9) - (s 0 9) / (20 : Int32) * (20 : Int32)) + 21) h0 (sr_R_21 _ (ib_lt g1)) hf g7 e9 (by decide +kernel) (fun H10 h0 z11 => ?_)
    have hlt := ib_lt g1
    have h1 := h1.kept (n := 3) z11 rfl (by omega)
    have hs := hs.step z11 (by omega) (by omega)
    refine aw_b (pc' := 39) (lv' := [(3, .ref (a + (1 * ix_ ((s 0 9) - (s 0 9) / (20 : Int32) * (20 : Int32)) + 21))), (0, .ref a), (1, .ref b), (2, .int i0)]) (st' := [.ref b, .int (2 : Int32), .ref (a + (1 * ix_ ((s 0 9) - (s 0 9) / (20 : Int32) * (20 : Int32)) + 21))]) [(36, .aload_n 3, 1, .null), (37, .iconst 2, 1, .int (2 : Int32)), (38, .aload_n 1, 1, .null)] (by decide +kernel) rfl ?_
    refine aw_gl (v := .int (t 0 11)) b 0 h1 eo_A_0 fgX4_126 rfl (by decide +kernel) ?_
    obtain ⟨g12, hm⟩ := gd_x hm
    obtain ⟨s13, e14, hm⟩ := bd_x hm
    refine aw_isl a (1 * ix_ ((s 0 9) - (s 0 9) / (20 : Int32) * (20 : Int32)) + 21) h0 (sr_R_21 _ (ib_lt g1)) hf g12 e14 (by decide +kernel) (fun H15 h0 z16 => ?_)
    have hlt := ib_lt g1
    have h1 := h1.kept (n := 3) z16 rfl (by omega)
    have hs := hs.step z16 (by omega) (by omega)
    refine aw_b (pc' := 46) (lv' := [(3, .ref (a + (1 * ix_ ((s 0 9) - (s 0 9) / (20 : Int32) * (20 : Int32)) + 21))), (0, .ref a), (1, .ref b), (2, .int i0)]) (st' := [.ref b, .int (3 : Int32), .ref (a + (1 * ix_ ((s 0 9) - (s 0 9) / (20 : Int32) * (20 : Int32)) + 21))]) [(43, .aload_n 3, 1, .null), (44, .iconst 3, 1, .int (3 : Int32)), (45, .aload_n 1, 1, .null)] (by decide +kernel) rfl ?_
    refine aw_gl (v := .int (t 0 9)) b 0 h1 eo_A_0 fgX4_88 rfl (by decide +kernel) ?_
    obtain ⟨g17, hm⟩ := gd_x hm
    obtain ⟨s18, e19, hm⟩ := bd_x hm
    refine aw_isl a (1 * ix_ ((s 0 9) - (s 0 9) / (20 : Int32) * (20 : Int32)) + 21) h0 (sr_R_21 _ (ib_lt g1)) hf g17 e19 (by decide +kernel) (fun H20 h0 z21 => ?_)
    have hlt := ib_lt g1
    have h1 := h1.kept (n := 3) z21 rfl (by omega)
    have hs := hs.step z21 (by omega) (by omega)
    refine aw_b (pc' := 53) (lv' := [(3, .ref (a + (1 * ix_ ((s 0 9) - (s 0 9) / (20 : Int32) * (20 : Int32)) + 21))), (0, .ref a), (1, .ref b), (2, .int i0)]) (st' := [.int i0, .int (4 : Int32), .ref (a + (1 * ix_ ((s 0 9) - (s 0 9) / (20 : Int32) * (20 : Int32)) + 21))]) [(50, .aload_n 3, 1, .null), (51, .iconst 4, 1, .int (4 : Int32)), (52, .iload_n 2, 1, .null)] (by decide +kernel) rfl ?_
    obtain ⟨g22, hm⟩ := gd_x hm
    obtain ⟨s23, e24, hm⟩ := bd_x hm
    refine aw_isl a (1 * ix_ ((s 0 9) - (s 0 9) / (20 : Int32) * (20 : Int32)) + 21) h0 (sr_R_21 _ (ib_lt g1)) hf g22 e24 (by decide +kernel) (fun H25 h0 z26 => ?_)
    have hlt := ib_lt g1
    have h1 := h1.kept (n := 3) z26 rfl (by omega)
    have hs := hs.step z26 (by omega) (by omega)
    refine aw_b (pc' := 56) (lv' := [(3, .ref (a + (1 * ix_ ((s 0 9) - (s 0 9) / (20 : Int32) * (20 : Int32)) + 21))), (0, .ref a), (1, .ref b), (2, .int i0)]) (st' := [.ref a, .ref a]) [(54, .aload_n 0, 1, .null), (55, .dup, 1, .null)] (by decide +kernel) rfl ?_
    refine aw_gl (v := .int (s23 0 9)) a 0 h0 eo_R_0 fgX4_42 rfl (by decide +kernel) ?_
    refine aw_b (pc' := 61) (lv' := [(3, .ref (a + (1 * ix_ ((s 0 9) - (s 0 9) / (20 : Int32) * (20 : Int32)) + 21))), (0, .ref a), (1, .ref b), (2, .int i0)]) (st' := [.int ((s23 0 9) + (1 : Int32)), .ref a]) [(59, .iconst 1, 1, .int (1 : Int32)), (60, .iadd, 1, .null)] (by decide +kernel) rfl ?_
    obtain ⟨s27, e28, hm⟩ := bd_x hm
    refine aw_pl a 0 h0 eo_R_0 fsq_4_9 fpX4_42 hf rfl rfl e28 (by decide +kernel) (fun H29 h0 z30 => ?_)
    have h1 := h1.kept (n := 3) z30 rfl (by omega)
    have hs := hs.step z30 (by omega) (by omega)
    obtain rfl := Option.some.inj hm
    subst hQ
    exact aw_vret rfl (Nat.zero_le _) (Nat.zero_le _) (by decide +kernel) ⟨rfl, hs, h0⟩
  · have hm := (if_pos hc).symm.trans hm
    obtain rfl := Option.some.inj hm
    subst hQ
    exact aw_vret rfl (Nat.zero_le _) (Nat.zero_le _) (by decide +kernel) ⟨rfl, hs, h0⟩
def mX4_noteRound : mt_ := (yX4_noteRound, cX4_noteRound, 4, none, [], { frames := 4, locals := 84, cells := 0, slots := 0 })
theorem ckX4_noteRound : cokV_ mX4_noteRound := ⟨⟨(uw_mem 1178 (by decide +kernel) (by decide +kernel)), (uw_mem 35 (by decide +kernel) (by decide +kernel)), by decide +kernel, by decide +kernel⟩, (uw_mem 1176 (by decide +kernel) (by decide +kernel)), (uw_mem 1177 (by decide +kernel) (by decide +kernel))⟩
theorem nkX4_noteRound : nok_ mX4_noteRound 1 := by decide +kernel
theorem lkX4_91 : Cond.methodLink RX4 91 yX1_cheapestRule ∈ uw_ := (uw_mem 1179 (by decide +kernel) (by decide +kernel))
theorem lkX4_95 : Cond.methodLink RX4 95 yX5_hasRival ∈ uw_ := (uw_mem 1180 (by decide +kernel) (by decide +kernel))
theorem lkX4_102 : Cond.methodLink RX4 102 yX4_noteRegret ∈ uw_ := (uw_mem 1181 (by decide +kernel) (by decide +kernel))
theorem lkX4_106 : Cond.methodLink RX4 106 yX4_noteServed ∈ uw_ := (uw_mem 1199 (by decide +kernel) (by decide +kernel))
theorem lkX4_110 : Cond.methodLink RX4 110 yX1_armOf ∈ uw_ := (uw_mem 1203 (by decide +kernel) (by decide +kernel))
theorem fgX4_114 : fok_ RX4 114 0 5 := ⟨_, _, _, rfl, by decide, (uw_mem 237 (by decide +kernel) (by decide +kernel)), wkX0⟩
theorem eoa_D_0 : ∀ r, aro_ r → eo_ ly_D r 0 fsX0 := by
  intro r h
  rcases h with rfl | ⟨k, hk, rfl⟩
  · rfl
  · match k, hk with
    | 0, _ => rfl
    | 1, _ => rfl
    | 2, _ => rfl
    | 3, _ => rfl
    | 4, _ => rfl
    | 5, _ => rfl
theorem wta_D_0 : ∀ r, aro_ r → ly_D[r + 1]? = some (ia_ 20) ∧ ly_D[r + 2]? = some (ia_ 20) := by
  intro r h
  rcases h with rfl | ⟨k, hk, rfl⟩
  · exact ⟨rfl, rfl⟩
  · match k, hk with
    | 0, _ => exact ⟨rfl, rfl⟩
    | 1, _ => exact ⟨rfl, rfl⟩
    | 2, _ => exact ⟨rfl, rfl⟩
    | 3, _ => exact ⟨rfl, rfl⟩
    | 4, _ => exact ⟨rfl, rfl⟩
    | 5, _ => exact ⟨rfl, rfl⟩
theorem soa_D_0 : ∀ r, aro_ r → sub_ ly_D r ly_A := by
  intro r h
  rcases h with rfl | ⟨k, hk, rfl⟩
  · exact sub_of rfl
  · match k, hk with
    | 0, _ => exact sub_of rfl
    | 1, _ => exact sub_of rfl
    | 2, _ => exact sub_of rfl
    | 3, _ => exact sub_of rfl
    | 4, _ => exact sub_of rfl
    | 5, _ => exact sub_of rfl
theorem fgX4_99 : fok_ RX4 99 1 2 := ⟨_, _, _, rfl, by decide, (uw_mem 286 (by decide +kernel) (by decide +kernel)), wkX1⟩
theorem kX4_noteRound {E : ev_} {H : Heap} {a b : Nat} {s : st_} {t : st_} {r : st_} (hm : fX4_noteRound s t = some r) (h0 : has_ E H a ly_R s) (h1 : has_ E H b ly_D t) (hf : ev_fr E a) (d1 : a + 41 ≤ b ∨ b + 33 ≤ a) : sp_ E mX4_noteRound [.ref a, .ref b] H (po1 (.inl (none)) (fun Hn => sm_ H Hn a 41 ∧ has_ E Hn a ly_R r)) := by
  refine sp_of (by decide +kernel) rfl rfl ?_
  generalize hQ : po1 _ _ = Q
  have hs : sm_ H H a 41 := sm_.rfl'
  unfold fX4_noteRound at hm
  refine aw_lv (lv' := [(0, .ref a), (1, .ref b)]) [0, 1] rfl ?_
  refine aw_b (pc' := 1) (lv' := [(0, .ref a), (1, .ref b)]) (st' := [.ref b]) [(0, .aload_n 1, 1, .null)] (by decide +kernel) rfl ?_
  refine aw_gl (v := .int (t 0 12)) b 0 h1 eo_D_0 fgX4_69 rfl (by decide +kernel) ?_
  refine aw_b (pc' := 6) (lv' := [(2, .int (t 0 12)), (0, .ref a), (1, .ref b)]) (st' := [.ref a]) [(4, .istore_n 2, 1, .null), (5, .aload_n 0, 1, .null)] (by decide +kernel) rfl ?_
  refine aw_gl (v := .int (s 0 1)) a 0 h0 eo_R_0 fgX4_39 rfl (by decide +kernel) ?_
  refine aw_b (pc' := 12) (lv' := [(2, .int (t 0 12)), (0, .ref a), (1, .ref b)]) (st' := [.int (1000 : Int32), .int (s 0 1)]) [(9, .sipush 1000, 3, .int (1000 : Int32))] (by decide +kernel) rfl ?_
  refine aw_ic_ge (off := 14) 26 (by decide) (by decide +kernel) (fun hc => ?_) (fun hc => ?_)
  · have hm := (if_pos hc).symm.trans hm
    obtain rfl := Option.some.inj hm
    subst hQ
    exact aw_vret rfl (Nat.zero_le _) (Nat.zero_le _) (by decide +kernel) ⟨rfl, hs, h0⟩
  · have hm := (if_neg hc).symm.trans hm
    refine aw_b (pc' := 16) (lv' := [(2, .int (t 0 12)), (0, .ref a), (1, .ref b)]) (st' := [.ref b]) [(15, .aload_n 1, 1, .null)] (by decide +kernel) rfl ?_
    refine aw_gl (v := .ref (b + 1)) b 0 h1 eo_D_0 fgX4_63 rfl (by decide +kernel) ?_
    refine aw_b (pc' := 20) (lv' := [(2, .int (t 0 12)), (0, .ref a), (1, .ref b)]) (st' := [.int (t 0 12), .ref (b + 1)]) [(19, .iload_n 2, 1, .null)] (by decide +kernel) rfl ?_
    obtain ⟨r1, e2, hm⟩ := bn_x hm
    refine aw_cv (rest := []) (st1 := [.int r1]) b 1 (kX5_hasRule e2 (h1.sub su_D_1_S)) rfl rfl ckX5_hasRule lkX4_72 h1 eo_D_1 ⟨_, _, rfl⟩ nkX5_hasRule rfl rfl rfl (Nat.le_of_ble_eq_true rfl) (Nat.zero_le _) (Nat.zero_le _) (by decide +kernel) (fun H3 z4 => ?_)
    have h0 := h0.kept0 z4
    have h1 := h1.kept0 z4
    have hs := hs.step0 z4
    refine aw_if_ne (off := 4) 27 (by decide) (by decide +kernel) (fun hc => ?_) (fun hc => ?_)
    · have hm := (if_neg hc).symm.trans hm
      refine aw_b (pc' := 28) (lv' := [(2, .int (t 0 12)), (0, .ref a), (1, .ref b)]) (st' := [.ref a]) [(27, .aload_n 0, 1, .null)] (by decide +kernel) rfl ?_
      refine aw_gl (v := .ref (a + 9)) a 0 h0 eo_R_0 fgX4_16 rfl (by decide +kernel) ?_
      refine aw_b (pc' := 32) (lv' := [(2, .int (t 0 12)), (0, .ref a), (1, .ref b)]) (st' := [.ref a, .ref (a + 9)]) [(31, .aload_n 0, 1, .null)] (by decide +kernel) rfl ?_
      refine aw_gl (v := .int (s 0 1)) a 0 h0 eo_R_0 fgX4_39 rfl (by decide +kernel) ?_
      refine aw_b (pc' := 36) (lv' := [(2, .int (t 0 12)), (0, .ref a), (1, .ref b)]) (st' := [.int (t 0 12), .int (s 0 1), .ref (a + 9)]) [(35, .iload_n 2, 1, .null)] (by decide +kernel) rfl ?_
      obtain ⟨g5, hm⟩ := gd_x hm
      obtain ⟨s6, e7, hm⟩ := bd_x hm
      refine aw_isl a 9 h0 rfl hf g5 e7 (by decide +kernel) (fun H8 h0 z9 => ?_)
      have h1 := h1.kept (n := 33) z9 rfl (by omega)
      have hs := hs.step z9 (by omega) (by omega)
      refine aw_b (pc' := 38) (lv' := [(2, .int (t 0 12)), (0, .ref a), (1, .ref b)]) (st' := [.ref a]) [(37, .aload_n 0, 1, .null)] (by decide +kernel) rfl ?_
      refine aw_gl (v := .ref (a + 10)) a 0 h0 eo_R_0 fgX4_20 rfl (by decide +kernel) ?_
      refine aw_b (pc' := 43) (lv' := [(2, .int (t 0 12)), (0, .ref a), (1, .ref b)]) (st' := [.int (t 0 12), .ref (a + 10), .int (t 0 12), .ref (a + 10)]) [(41, .iload_n 2, 1, .null), (42, .dup2, 1, .null)] (by decide +kernel) rfl ?_
      obtain ⟨g10, hm⟩ := gd_x hm
      refine aw_ial a 10 h0 rfl g10 (by decide +kernel) ?_
      refine aw_b (pc' := 46) (lv' := [(2, .int (t 0 12)), (0, .ref a), (1, .ref b)]) (st' := [.int ((s6 10 (ix_ (t 0 12))) + (1 : Int32)), .int (t 0 12), .ref (a + 10)]) [(44, .iconst 1, 1, .int (1 : Int32)), (45, .iadd, 1, .null)] (by decide +kernel) rfl ?_
      obtain ⟨g11, hm⟩ := gd_x hm
      obtain ⟨s12, e13, hm⟩ := bd_x hm
      refine aw_isl a 10 h0 rfl hf g11 e13 (by decide +kernel) (fun H14 h0 z15 => ?_)
      have h1 := h1.kept (n := 33) z15 rfl (by omega)
      have hs := hs.step z15 (by omega) (by omega)
      refine aw_b (pc' := 48) (lv' := [(2, .int (t 0 12)), (0, .ref a), (1, .ref b)]) (st' := [.ref a]) [(47, .aload_n 0, 1, .null)] (by decide +kernel) rfl ?_
      refine aw_gl (v := .ref (a + 11)) a 0 h0 eo_R_0 fgX4_23 rfl (by decide +kernel) ?_
      refine aw_b (pc' := 53) (lv' := [(2, .int (t 0 12)), (0, .ref a), (1, .ref b)]) (st' := [.int (t 0 12), .ref (a + 11), .int (t 0 12), .ref (a + 11)]) [(51, .iload_n 2, 1, .null), (52, .dup2, 1, .null)] (by decide +kernel) rfl ?_
      obtain ⟨g16, hm⟩ := gd_x hm
      refine aw_ial a 11 h0 rfl g16 (by decide +kernel) ?_
      refine aw_b (pc' := 55) (lv' := [(2, .int (t 0 12)), (0, .ref a), (1, .ref b)]) (st' := [.ref b, .int (s12 11 (ix_ (t 0 12))), .int (t 0 12), .ref (a + 11)]) [(54, .aload_n 1, 1, .null)] (by decide +kernel) rfl ?_
      refine aw_gl (v := .ref (b + 5)) b 0 h1 eo_D_0 fgX4_78 rfl (by decide +kernel) ?_
      refine aw_gl (v := .int (t 5 9)) b 5 h1 eo_D_5 fgX4_88 rfl (by decide +kernel) ?_
      refine aw_b (pc' := 62) (lv' := [(2, .int (t 0 12)), (0, .ref a), (1, .ref b)]) (st' := [.int ((s12 11 (ix_ (t 0 12))) + (t 5 9)), .int (t 0 12), .ref (a + 11)]) [(61, .iadd, 1, .null)] (by decide +kernel) rfl ?_
      obtain ⟨g17, hm⟩ := gd_x hm
      obtain ⟨s18, e19, hm⟩ := bd_x hm
      refine aw_isl a 11 h0 rfl hf g17 e19 (by decide +kernel) (fun H20 h0 z21 => ?_)
      have h1 := h1.kept (n := 33) z21 rfl (by omega)
      have hs := hs.step z21 (by omega) (by omega)
      refine aw_b (pc' := 64) (lv' := [(2, .int (t 0 12)), (0, .ref a), (1, .ref b)]) (st' := [.ref a]) [(63, .aload_n 0, 1, .null)] (by decide +kernel) rfl ?_
      refine aw_gl (v := .ref (a + 12)) a 0 h0 eo_R_0 fgX4_26 rfl (by decide +kernel) ?_
      refine aw_b (pc' := 68) (lv' := [(2, .int (t 0 12)), (0, .ref a), (1, .ref b)]) (st' := [.ref b, .ref (a + 12)]) [(67, .aload_n 1, 1, .null)] (by decide +kernel) rfl ?_
      obtain ⟨r22, e23, hm⟩ := bn_x hm
      refine aw_cv (rest := [.ref (a + 12)]) (st1 := [.int r22, .ref (a + 12)]) b 0 (kX1_cheapestRule e23 h1) rfl rfl ckX1_cheapestRule lkX4_91 h1 eo_D_0 ⟨_, _, rfl⟩ nkX1_cheapestRule rfl rfl rfl (Nat.le_of_ble_eq_true rfl) (Nat.zero_le _) (Nat.zero_le _) (by decide +kernel) (fun H24 z25 => ?_)
      have h0 := h0.kept0 z25
      have h1 := h1.kept0 z25
      have hs := hs.step0 z25
      refine aw_b (pc' := 72) (lv' := [(2, .int (t 0 12)), (0, .ref a), (1, .ref b)]) (st' := [.int r22, .ref (a + 12), .int r22, .ref (a + 12)]) [(71, .dup2, 1, .null)] (by decide +kernel) rfl ?_
      obtain ⟨g26, hm⟩ := gd_x hm
      refine aw_ial a 12 h0 rfl g26 (by decide +kernel) ?_
      refine aw_b (pc' := 75) (lv' := [(2, .int (t 0 12)), (0, .ref a), (1, .ref b)]) (st' := [.int ((s18 12 (ix_ r22)) + (1 : Int32)), .int r22, .ref (a + 12)]) [(73, .iconst 1, 1, .int (1 : Int32)), (74, .iadd, 1, .null)] (by decide +kernel) rfl ?_
      obtain ⟨g27, hm⟩ := gd_x hm
      obtain ⟨s28, e29, hm⟩ := bd_x hm
      refine aw_isl a 12 h0 rfl hf g27 e29 (by decide +kernel) (fun H30 h0 z31 => ?_)
      have h1 := h1.kept (n := 33) z31 rfl (by omega)
      have hs := hs.step z31 (by omega) (by omega)
      refine aw_b (pc' := 77) (lv' := [(2, .int (t 0 12)), (0, .ref a), (1, .ref b)]) (st' := [.ref b]) [(76, .aload_n 1, 1, .null)] (by decide +kernel) rfl ?_
      refine aw_gl (v := .ref (b + 1)) b 0 h1 eo_D_0 fgX4_63 rfl (by decide +kernel) ?_
      obtain ⟨r32, e33, hm⟩ := bn_x hm
      refine aw_cv (rest := []) (st1 := [.int r32]) b 1 (kX5_hasRival e33 (h1.sub su_D_1_S)) rfl rfl ckX5_hasRival lkX4_95 h1 eo_D_1 ⟨_, _, rfl⟩ nkX5_hasRival rfl rfl rfl (Nat.le_of_ble_eq_true rfl) (Nat.zero_le _) (Nat.zero_le _) (by decide +kernel) (fun H34 z35 => ?_)
      have h0 := h0.kept0 z35
      have h1 := h1.kept0 z35
      have hs := hs.step0 z35
      have J113 : ∀ (s_j113 : st_) (H_j113 : Heap), has_ E H_j113 a ly_R s_j113 → has_ E H_j113 b ly_D t → sm_ H H_j113 a 41 → fX4_noteRound_j113 t s_j113 = some r → aw E mX4_noteRound Q 113 [(0, .ref a), (1, .ref b), (2, .int (t 0 12))] [] H_j113 0 0 := by
        intro s_j113 H_j113 h0 h1 hs hm
        unfold fX4_noteRound_j113 at hm
        refine aw_b (pc' := 115) (lv' := [(0, .ref a), (1, .ref b), (2, .int (t 0 12))]) (st' := [.ref b, .ref a]) [(113, .aload_n 0, 1, .null), (114, .aload_n 1, 1, .null)] (by decide +kernel) rfl ?_
        obtain ⟨r36, e37, hm⟩ := bn_x hm
        refine aw_cv (rest := []) (st1 := []) a 0 (kX4_noteRegret e37 h0 h1 hf (by omega)) rfl rfl ckX4_noteRegret lkX4_102 h0 eo_R_0 ⟨_, _, rfl⟩ nkX4_noteRegret rfl rfl rfl (Nat.le_of_ble_eq_true rfl) (Nat.zero_le _) (Nat.zero_le _) (by decide +kernel) (fun H38 z39 => ?_)
        obtain ⟨z39, hn⟩ := z39
        have h0 := hn
        have h1 := h1.kept (n := 33) z39 rfl (by omega)
        have hs := hs.step z39 (by omega) (by omega)
        refine aw_b (pc' := 120) (lv' := [(0, .ref a), (1, .ref b), (2, .int (t 0 12))]) (st' := [.ref b, .ref a]) [(118, .aload_n 0, 1, .null), (119, .aload_n 1, 1, .null)] (by decide +kernel) rfl ?_
        refine aw_gl (v := .ref (b + 5)) b 0 h1 eo_D_0 fgX4_78 rfl (by decide +kernel) ?_
        refine aw_b (pc' := 124) (lv' := [(0, .ref a), (1, .ref b), (2, .int (t 0 12))]) (st' := [.int (t 0 12), .ref (b + 5), .ref a]) [(123, .iload_n 2, 1, .null)] (by decide +kernel) rfl ?_
        obtain ⟨r40, e41, hm⟩ := bn_x hm
        refine aw_cv (rest := []) (st1 := []) a 0 (kX4_noteServed e41 h0 (h1.sub su_D_5_A) hf (by omega)) rfl rfl ckX4_noteServed lkX4_106 h0 eo_R_0 ⟨_, _, rfl⟩ nkX4_noteServed rfl rfl rfl (Nat.le_of_ble_eq_true rfl) (Nat.zero_le _) (Nat.zero_le _) (by decide +kernel) (fun H42 z43 => ?_)
        obtain ⟨z43, hn⟩ := z43
        have h0 := hn
        have h1 := h1.kept (n := 33) z43 rfl (by omega)
        have hs := hs.step z43 (by omega) (by omega)
        refine aw_b (pc' := 129) (lv' := [(0, .ref a), (1, .ref b), (2, .int (t 0 12))]) (st' := [.ref a, .ref a]) [(127, .aload_n 0, 1, .null), (128, .dup, 1, .null)] (by decide +kernel) rfl ?_
        refine aw_gl (v := .int (r40 0 1)) a 0 h0 eo_R_0 fgX4_39 rfl (by decide +kernel) ?_
        refine aw_b (pc' := 134) (lv' := [(0, .ref a), (1, .ref b), (2, .int (t 0 12))]) (st' := [.int ((r40 0 1) + (1 : Int32)), .ref a]) [(132, .iconst 1, 1, .int (1 : Int32)), (133, .iadd, 1, .null)] (by decide +kernel) rfl ?_
        obtain ⟨s44, e45, hm⟩ := bd_x hm
        refine aw_pl a 0 h0 eo_R_0 fsq_4_1 fpX4_39 hf rfl rfl e45 (by decide +kernel) (fun H46 h0 z47 => ?_)
        have h1 := h1.kept (n := 33) z47 rfl (by omega)
        have hs := hs.step z47 (by omega) (by omega)
        refine aw_b (pc' := 139) (lv' := [(3, .int (0 : Int32)), (0, .ref a), (1, .ref b), (2, .int (t 0 12))]) (st' := []) [(137, .iconst 0, 1, .int (0 : Int32)), (138, .istore_n 3, 1, .null)] (by decide +kernel) rfl ?_
        obtain ⟨x139, hx139, hr139⟩ := bn_x hm
        have X139_174 : ∀ (s_x139_174 : st_) (H_x139_174 : Heap), has_ E H_x139_174 a ly_R s_x139_174 → has_ E H_x139_174 b ly_D t → sm_ H H_x139_174 a 41 → fX4_noteRound_x139_174 s_x139_174 = some r → aw E mX4_noteRound Q 174 [] [] H_x139_174 0 0 := by
          intro s_x139_174 H_x139_174 h0 h1 hs hm
          unfold fX4_noteRound_x139_174 at hm
          obtain rfl := Option.some.inj hm
          subst hQ
          exact aw_vret rfl (Nat.zero_le _) (Nat.zero_le _) (by decide +kernel) ⟨rfl, hs, h0⟩
        have L139 : ∀ (fu : Nat) (v3_b139 : Int32) (s_b139 : st_) (H_b139 : Heap), has_ E H_b139 a ly_R s_b139 → has_ E H_b139 b ly_D t → sm_ H H_b139 a 41 → fX4_noteRound_l139 t fu (v3_b139, s_b139) = some x139 → aw E mX4_noteRound Q 139 [(0, .ref a), (1, .ref b), (3, .int v3_b139)] [] H_b139 0 0 := by
          intro fu
          induction fu with
          | zero =>
            intro v3_b139 s_b139 H_b139 h0 h1 hs hm
            exact (it_0 hm).elim
          | succ fu ih139 =>
            intro v3_b139 s_b139 H_b139 h0 h1 hs hm
            obtain ⟨y139, hm, hk139⟩ := it_s hm
            have hm : fX4_noteRound_b139 t v3_b139 s_b139 = some y139 := hm
            unfold fX4_noteRound_b139 at hm
            refine aw_b (pc' := 141) (lv' := [(0, .ref a), (1, .ref b), (3, .int v3_b139)]) (st' := [.ref a, .int v3_b139]) [(139, .iload_n 3, 1, .null), (140, .aload_n 0, 1, .null)] (by decide +kernel) rfl ?_
            refine aw_gl (v := .int (s_b139 0 0)) a 0 h0 eo_R_0 fgX4_35 rfl (by decide +kernel) ?_
            refine aw_ic_gt (off := 30) 174 (by decide) (by decide +kernel) (fun hc => ?_) (fun hc => ?_)
            · have hm := (if_pos hc).symm.trans hm
              cases hm
              refine aw_lv (lv' := []) [] rfl ?_
              exact X139_174 s_b139 H_b139 h0 h1 hs ((congrArg fX4_noteRound_k139 (show (s_b139) = x139 from hk139)).trans hr139)
            · have hm := (if_neg hc).symm.trans hm
              refine aw_b (pc' := 148) (lv' := [(0, .ref a), (1, .ref b), (3, .int v3_b139)]) (st' := [.ref a]) [(147, .aload_n 0, 1, .null)] (by decide +kernel) rfl ?_
              refine aw_gl (v := .ref (a + 1)) a 0 h0 eo_R_0 fgX4_11 rfl (by decide +kernel) ?_
              refine aw_b (pc' := 152) (lv' := [(0, .ref a), (1, .ref b), (3, .int v3_b139)]) (st' := [.int v3_b139, .ref (a + 1)]) [(151, .iload_n 3, 1, .null)] (by decide +kernel) rfl ?_
              obtain ⟨g48, hm⟩ := gd_x hm
              refine aw_iall a 1 h0 ra_R_1 g48 (by decide +kernel) ?_
              refine aw_b (pc' := 154) (lv' := [(0, .ref a), (1, .ref b), (3, .int v3_b139)]) (st' := [.ref a, .ref (a + (1 * ix_ v3_b139 + 2))]) [(153, .aload_n 0, 1, .null)] (by decide +kernel) rfl ?_
              refine aw_gl (v := .int (s_b139 0 1)) a 0 h0 eo_R_0 fgX4_39 rfl (by decide +kernel) ?_
              refine aw_b (pc' := 161) (lv' := [(0, .ref a), (1, .ref b), (3, .int v3_b139)]) (st' := [.int (v3_b139 - (1 : Int32)), .ref b, .int (s_b139 0 1), .ref (a + (1 * ix_ v3_b139 + 2))]) [(157, .aload_n 1, 1, .null), (158, .iload_n 3, 1, .null), (159, .iconst 1, 1, .int (1 : Int32)), (160, .isub, 1, .null)] (by decide +kernel) rfl ?_
              obtain ⟨r49, e50, hm⟩ := bn_x hm
              refine aw_cv (rest := [.int (s_b139 0 1), .ref (a + (1 * ix_ v3_b139 + 2))]) (st1 := [.ref (b + (r49)), .int (s_b139 0 1), .ref (a + (1 * ix_ v3_b139 + 2))]) b 0 (kX1_armOf e50 h1) rfl rfl ckX1_armOf lkX4_110 h1 eo_D_0 ⟨_, _, rfl⟩ nkX1_armOf rfl rfl rfl (Nat.le_of_ble_eq_true rfl) (Nat.zero_le _) (Nat.zero_le _) (by decide +kernel) (fun H51 z52 => ?_)
              obtain ⟨z52, hor49⟩ := z52
              have h0 := h0.kept0 z52
              have h1 := h1.kept0 z52
              have hs := hs.step0 z52
              refine aw_gl (v := .int (t (r49) 5)) b (r49) h1 (eoa_D_0 _ hor49) fgX4_114 rfl (by decide +kernel) ?_
              obtain ⟨g53, hm⟩ := gd_x hm
              obtain ⟨s54, e55, hm⟩ := bd_x hm
              refine aw_isl a (1 * ix_ v3_b139 + 2) h0 (sr_R_2 _ (ib_lt g48)) hf g53 e55 (by decide +kernel) (fun H56 h0 z57 => ?_)
              have hlt := ib_lt g48
              have h1 := h1.kept (n := 33) z57 rfl (by omega)
              have hs := hs.step z57 (by omega) (by omega)
              refine aw_b (pc' := 139) (lv' := [(3, .int (v3_b139 + (1 : Int32))), (0, .ref a), (1, .ref b)]) (st' := []) [(168, .iinc 3 1, 3, .int (1 : Int32)), (171, .goto (-32), 3, .null)] (by decide +kernel) rfl ?_
              cases hm
              refine aw_lv (lv' := [(0, .ref a), (1, .ref b), (3, .int (v3_b139 + (1 : Int32)))]) [1, 2, 0] rfl ?_
              exact ih139 (v3_b139 + (1 : Int32)) s54 H56 h0 h1 hs hk139
        refine aw_lv (lv' := [(0, .ref a), (1, .ref b), (3, .int (0 : Int32))]) [1, 2, 0] rfl ?_
        exact L139 FU_ (0 : Int32) s44 H46 h0 h1 hs hx139
      refine aw_if_eq (off := 30) 113 (by decide) (by decide +kernel) (fun hc => ?_) (fun hc => ?_)
      · have hm := (if_pos hc).symm.trans hm
        refine aw_lv (lv' := [(0, .ref a), (1, .ref b), (2, .int (t 0 12))]) [1, 2, 0] rfl ?_
        exact J113 s28 H34 h0 h1 hs hm
      · have hm := (if_neg hc).symm.trans hm
        refine aw_b (pc' := 87) (lv' := [(2, .int (t 0 12)), (0, .ref a), (1, .ref b)]) (st' := [.ref b]) [(86, .aload_n 1, 1, .null)] (by decide +kernel) rfl ?_
        refine aw_gl (v := .ref (b + 8)) b 0 h1 eo_D_0 fgX4_99 rfl (by decide +kernel) ?_
        refine aw_gl (v := .int (t 8 9)) b 8 h1 eo_D_8 fgX4_88 rfl (by decide +kernel) ?_
        refine aw_b (pc' := 94) (lv' := [(2, .int (t 0 12)), (0, .ref a), (1, .ref b)]) (st' := [.ref b, .int (t 8 9)]) [(93, .aload_n 1, 1, .null)] (by decide +kernel) rfl ?_
        refine aw_gl (v := .ref (b + 5)) b 0 h1 eo_D_0 fgX4_78 rfl (by decide +kernel) ?_
        refine aw_gl (v := .int (t 5 9)) b 5 h1 eo_D_5 fgX4_88 rfl (by decide +kernel) ?_
        refine aw_ic_ge (off := 13) 113 (by decide) (by decide +kernel) (fun hc => ?_) (fun hc => ?_)
        · have hm := (if_pos hc).symm.trans hm
          refine aw_lv (lv' := [(0, .ref a), (1, .ref b), (2, .int (t 0 12))]) [1, 2, 0] rfl ?_
          exact J113 s28 H34 h0 h1 hs hm
        · have hm := (if_neg hc).symm.trans hm
          refine aw_b (pc' := 105) (lv' := [(2, .int (t 0 12)), (0, .ref a), (1, .ref b)]) (st' := [.ref a, .ref a]) [(103, .aload_n 0, 1, .null), (104, .dup, 1, .null)] (by decide +kernel) rfl ?_
          refine aw_gl (v := .int (s28 0 13)) a 0 h0 eo_R_0 fgX4_54 rfl (by decide +kernel) ?_
          refine aw_b (pc' := 110) (lv' := [(2, .int (t 0 12)), (0, .ref a), (1, .ref b)]) (st' := [.int ((s28 0 13) + (1 : Int32)), .ref a]) [(108, .iconst 1, 1, .int (1 : Int32)), (109, .iadd, 1, .null)] (by decide +kernel) rfl ?_
          obtain ⟨s58, e59, hm⟩ := bd_x hm
          refine aw_pl a 0 h0 eo_R_0 fsq_4_13 fpX4_54 hf rfl rfl e59 (by decide +kernel) (fun H60 h0 z61 => ?_)
          have h1 := h1.kept (n := 33) z61 rfl (by omega)
          have hs := hs.step z61 (by omega) (by omega)
          refine aw_lv (lv' := [(0, .ref a), (1, .ref b), (2, .int (t 0 12))]) [1, 2, 0] rfl ?_
          exact J113 s58 H60 h0 h1 hs hm
    · have hm := (if_pos hc).symm.trans hm
      obtain rfl := Option.some.inj hm
      subst hQ
      exact aw_vret rfl (Nat.zero_le _) (Nat.zero_le _) (by decide +kernel) ⟨rfl, hs, h0⟩
def mX4_servedAt : mt_ := (yX4_servedAt, cX4_servedAt, 3, some .int, [], { frames := 0, locals := 0, cells := 0, slots := 0 })
theorem ckX4_servedAt : cokV_ mX4_servedAt := ⟨⟨(uw_mem 1375 (by decide +kernel) (by decide +kernel)), (uw_mem 35 (by decide +kernel) (by decide +kernel)), by decide +kernel, by decide +kernel⟩, (uw_mem 1373 (by decide +kernel) (by decide +kernel)), (uw_mem 1374 (by decide +kernel) (by decide +kernel))⟩
theorem nkX4_servedAt : nok_ mX4_servedAt 2 := by decide +kernel
theorem kX4_servedAt {E : ev_} {H : Heap} {a : Nat} {s : st_} {i0 : Int32} {i1 : Int32} {r : Int32} (hm : fX4_servedAt s i0 i1 = some r) (h0 : has_ E H a ly_R s) : sp_ E mX4_servedAt [.ref a, .int i0, .int i1] H (po1 (.inl (some (.int r))) (fun Hn => sm_ H Hn 0 0)) := by
  refine sp_of (by decide +kernel) rfl rfl ?_
  generalize hQ : po1 _ _ = Q
  have hs : sm_ H H 0 0 := sm_.rfl'
  unfold fX4_servedAt at hm
  refine aw_lv (lv' := [(0, .ref a), (1, .int i0), (2, .int i1)]) [0, 1, 2] rfl ?_
  refine aw_b (pc' := 1) (lv' := [(0, .ref a), (1, .int i0), (2, .int i1)]) (st' := [.int i0]) [(0, .iload_n 1, 1, .null)] (by decide +kernel) rfl ?_
  refine aw_if_lt (off := 26) 27 (by decide) (by decide +kernel) (fun hc => ?_) (fun hc => ?_)
  · have hm := (if_pos hc).symm.trans hm
    refine aw_b (pc' := 28) (lv' := [(0, .ref a), (1, .int i0), (2, .int i1)]) (st' := [.int (-1 : Int32)]) [(27, .iconst (-1), 1, .int (-1 : Int32))] (by decide +kernel) rfl ?_
    obtain rfl := Option.some.inj hm
    subst hQ
    exact aw_iret rfl (Nat.zero_le _) (Nat.zero_le _) (by decide +kernel) ⟨rfl, hs⟩
  · have hm := (if_neg hc).symm.trans hm
    refine aw_b (pc' := 6) (lv' := [(0, .ref a), (1, .int i0), (2, .int i1)]) (st' := [.ref a, .int i0]) [(4, .iload_n 1, 1, .null), (5, .aload_n 0, 1, .null)] (by decide +kernel) rfl ?_
    refine aw_gl (v := .int (s 0 9)) a 0 h0 eo_R_0 fgX4_42 rfl (by decide +kernel) ?_
    refine aw_ic_ge (off := 18) 27 (by decide) (by decide +kernel) (fun hc => ?_) (fun hc => ?_)
    · have hm := (if_pos hc).symm.trans hm
      refine aw_b (pc' := 28) (lv' := [(0, .ref a), (1, .int i0), (2, .int i1)]) (st' := [.int (-1 : Int32)]) [(27, .iconst (-1), 1, .int (-1 : Int32))] (by decide +kernel) rfl ?_
      obtain rfl := Option.some.inj hm
      subst hQ
      exact aw_iret rfl (Nat.zero_le _) (Nat.zero_le _) (by decide +kernel) ⟨rfl, hs⟩
    · have hm := (if_neg hc).symm.trans hm
      refine aw_b (pc' := 15) (lv' := [(0, .ref a), (1, .int i0), (2, .int i1)]) (st' := [.int (20 : Int32), .int i0]) [(12, .iload_n 1, 1, .null), (13, .bipush 20, 2, .int (20 : Int32))] (by decide +kernel) rfl ?_
      refine aw_ic_ge (off := 12) 27 (by decide) (by decide +kernel) (fun hc => ?_) (fun hc => ?_)
      · have hm := (if_pos hc).symm.trans hm
        refine aw_b (pc' := 28) (lv' := [(0, .ref a), (1, .int i0), (2, .int i1)]) (st' := [.int (-1 : Int32)]) [(27, .iconst (-1), 1, .int (-1 : Int32))] (by decide +kernel) rfl ?_
        obtain rfl := Option.some.inj hm
        subst hQ
        exact aw_iret rfl (Nat.zero_le _) (Nat.zero_le _) (by decide +kernel) ⟨rfl, hs⟩
      · have hm := (if_neg hc).symm.trans hm
        refine aw_b (pc' := 19) (lv' := [(0, .ref a), (1, .int i0), (2, .int i1)]) (st' := [.int i1]) [(18, .iload_n 2, 1, .null)] (by decide +kernel) rfl ?_
        refine aw_if_lt (off := 8) 27 (by decide) (by decide +kernel) (fun hc => ?_) (fun hc => ?_)
        · have hm := (if_pos hc).symm.trans hm
          refine aw_b (pc' := 28) (lv' := [(0, .ref a), (1, .int i0), (2, .int i1)]) (st' := [.int (-1 : Int32)]) [(27, .iconst (-1), 1, .int (-1 : Int32))] (by decide +kernel) rfl ?_
          obtain rfl := Option.some.inj hm
          subst hQ
          exact aw_iret rfl (Nat.zero_le _) (Nat.zero_le _) (by decide +kernel) ⟨rfl, hs⟩
        · have hm := (if_neg hc).symm.trans hm
          refine aw_b (pc' := 24) (lv' := [(0, .ref a), (1, .int i0), (2, .int i1)]) (st' := [.int (5 : Int32), .int i1]) [(22, .iload_n 2, 1, .null), (23, .iconst 5, 1, .int (5 : Int32))] (by decide +kernel) rfl ?_
          refine aw_ic_lt (off := 5) 29 (by decide) (by decide +kernel) (fun hc => ?_) (fun hc => ?_)
          · have hm := (if_pos hc).symm.trans hm
            refine aw_b (pc' := 30) (lv' := [(0, .ref a), (1, .int i0), (2, .int i1)]) (st' := [.ref a]) [(29, .aload_n 0, 1, .null)] (by decide +kernel) rfl ?_
            refine aw_gl (v := .ref (a + 20)) a 0 h0 eo_R_0 fgX4_32 rfl (by decide +kernel) ?_
            refine aw_b (pc' := 34) (lv' := [(0, .ref a), (1, .int i0), (2, .int i1)]) (st' := [.ref a, .ref (a + 20)]) [(33, .aload_n 0, 1, .null)] (by decide +kernel) rfl ?_
            refine aw_gl (v := .int (s 0 9)) a 0 h0 eo_R_0 fgX4_42 rfl (by decide +kernel) ?_
            refine aw_b (pc' := 43) (lv' := [(0, .ref a), (1, .int i0), (2, .int i1)]) (st' := [.int (20 : Int32), .int (((s 0 9) - (1 : Int32)) - i0), .ref (a + 20)]) [(37, .iconst 1, 1, .int (1 : Int32)), (38, .isub, 1, .null), (39, .iload_n 1, 1, .null), (40, .isub, 1, .null), (41, .bipush 20, 2, .int (20 : Int32))] (by decide +kernel) rfl ?_
            refine aw_irem (by decide) (by decide +kernel) ?_
            obtain ⟨g1, hm⟩ := gd_x hm
            refine aw_iall a 20 h0 ra_R_20 g1 (by decide +kernel) ?_
            refine aw_b (pc' := 46) (lv' := [(0, .ref a), (1, .int i0), (2, .int i1)]) (st' := [.int i1, .ref (a + (1 * ix_ ((((s 0 9) - (1 : Int32)) - i0) - (((s 0 9) - (1 : Int32)) - i0) / (20 : Int32) * (20 : Int32)) + 21))]) [(45, .iload_n 2, 1, .null)] (by decide +kernel) rfl ?_
            obtain ⟨g2, hm⟩ := gd_x hm
            refine aw_ial a (1 * ix_ ((((s 0 9) - (1 : Int32)) - i0) - (((s 0 9) - (1 : Int32)) - i0) / (20 : Int32) * (20 : Int32)) + 21) h0 (sr_R_21 _ (ib_lt g1)) g2 (by decide +kernel) ?_
            obtain rfl := Option.some.inj hm
            subst hQ
            exact aw_iret rfl (Nat.zero_le _) (Nat.zero_le _) (by decide +kernel) ⟨rfl, hs⟩
          · have hm := (if_neg hc).symm.trans hm
            refine aw_b (pc' := 28) (lv' := [(0, .ref a), (1, .int i0), (2, .int i1)]) (st' := [.int (-1 : Int32)]) [(27, .iconst (-1), 1, .int (-1 : Int32))] (by decide +kernel) rfl ?_
            obtain rfl := Option.some.inj hm
            subst hQ
            exact aw_iret rfl (Nat.zero_le _) (Nat.zero_le _) (by decide +kernel) ⟨rfl, hs⟩
def mX4_hasRounds : mt_ := (yX4_hasRounds, cX4_hasRounds, 3, some .boolean, [], { frames := 0, locals := 0, cells := 0, slots := 0 })
theorem ckX4_hasRounds : cokV_ mX4_hasRounds := ⟨⟨(uw_mem 1226 (by decide +kernel) (by decide +kernel)), (uw_mem 35 (by decide +kernel) (by decide +kernel)), by decide +kernel, by decide +kernel⟩, (uw_mem 1224 (by decide +kernel) (by decide +kernel)), (uw_mem 1225 (by decide +kernel) (by decide +kernel))⟩
theorem nkX4_hasRounds : nok_ mX4_hasRounds 2 := by decide +kernel
theorem kX4_hasRounds {E : ev_} {H : Heap} {a : Nat} {s : st_} {i0 : Int32} {i1 : Int32} {r : Int32} (hm : fX4_hasRounds s i0 i1 = some r) (h0 : has_ E H a ly_R s) : sp_ E mX4_hasRounds [.ref a, .int i0, .int i1] H (po1 (.inl (some (.int r))) (fun Hn => sm_ H Hn 0 0)) := by
  refine sp_of (by decide +kernel) rfl rfl ?_
  generalize hQ : po1 _ _ = Q
  have hs : sm_ H H 0 0 := sm_.rfl'
  unfold fX4_hasRounds at hm
  refine aw_lv (lv' := [(0, .ref a), (1, .int i0), (2, .int i1)]) [0, 1, 2] rfl ?_
  refine aw_b (pc' := 1) (lv' := [(0, .ref a), (1, .int i0), (2, .int i1)]) (st' := [.int i0]) [(0, .iload_n 1, 1, .null)] (by decide +kernel) rfl ?_
  have J30 : ∀ (H_j30 : Heap), has_ E H_j30 a ly_R s → sm_ H H_j30 0 0 → fX4_hasRounds_j30 = some r → aw E mX4_hasRounds Q 30 [] [] H_j30 0 0 := by
    intro H_j30 h0 hs hm
    unfold fX4_hasRounds_j30 at hm
    refine aw_b (pc' := 31) (lv' := []) (st' := [.int (0 : Int32)]) [(30, .iconst 0, 1, .int (0 : Int32))] (by decide +kernel) rfl ?_
    obtain rfl := Option.some.inj hm
    subst hQ
    exact aw_zret rfl (by decide +kernel) (Nat.zero_le _) (Nat.zero_le _) (by decide +kernel) ⟨rfl, hs⟩
  refine aw_if_lt (off := 29) 30 (by decide) (by decide +kernel) (fun hc => ?_) (fun hc => ?_)
  · have hm := (if_pos hc).symm.trans hm
    refine aw_lv (lv' := []) [] rfl ?_
    exact J30 H h0 hs hm
  · have hm := (if_neg hc).symm.trans hm
    refine aw_b (pc' := 5) (lv' := [(0, .ref a), (1, .int i0), (2, .int i1)]) (st' := [.int i1]) [(4, .iload_n 2, 1, .null)] (by decide +kernel) rfl ?_
    refine aw_if_lt (off := 25) 30 (by decide) (by decide +kernel) (fun hc => ?_) (fun hc => ?_)
    · have hm := (if_pos hc).symm.trans hm
      refine aw_lv (lv' := []) [] rfl ?_
      exact J30 H h0 hs hm
    · have hm := (if_neg hc).symm.trans hm
      refine aw_b (pc' := 10) (lv' := [(0, .ref a), (1, .int i0), (2, .int i1)]) (st' := [.ref a, .int i1]) [(8, .iload_n 2, 1, .null), (9, .aload_n 0, 1, .null)] (by decide +kernel) rfl ?_
      refine aw_gl (v := .int (s 0 1)) a 0 h0 eo_R_0 fgX4_39 rfl (by decide +kernel) ?_
      refine aw_ic_gt (off := 17) 30 (by decide) (by decide +kernel) (fun hc => ?_) (fun hc => ?_)
      · have hm := (if_pos hc).symm.trans hm
        refine aw_lv (lv' := []) [] rfl ?_
        exact J30 H h0 hs hm
      · have hm := (if_neg hc).symm.trans hm
        refine aw_b (pc' := 18) (lv' := [(0, .ref a), (1, .int i0), (2, .int i1)]) (st' := [.ref a, .int i0]) [(16, .iload_n 1, 1, .null), (17, .aload_n 0, 1, .null)] (by decide +kernel) rfl ?_
        refine aw_gl (v := .int (s 0 1)) a 0 h0 eo_R_0 fgX4_39 rfl (by decide +kernel) ?_
        refine aw_b (pc' := 23) (lv' := [(0, .ref a), (1, .int i0), (2, .int i1)]) (st' := [.int ((s 0 1) - i1), .int i0]) [(21, .iload_n 2, 1, .null), (22, .isub, 1, .null)] (by decide +kernel) rfl ?_
        refine aw_ic_gt (off := 7) 30 (by decide) (by decide +kernel) (fun hc => ?_) (fun hc => ?_)
        · have hm := (if_pos hc).symm.trans hm
          refine aw_lv (lv' := []) [] rfl ?_
          exact J30 H h0 hs hm
        · have hm := (if_neg hc).symm.trans hm
          refine aw_b (pc' := 31) (lv' := [(0, .ref a), (1, .int i0), (2, .int i1)]) (st' := [.int (1 : Int32)]) [(26, .iconst 1, 1, .int (1 : Int32)), (27, .goto 4, 3, .null)] (by decide +kernel) rfl ?_
          obtain rfl := Option.some.inj hm
          subst hQ
          exact aw_zret rfl (by decide +kernel) (Nat.zero_le _) (Nat.zero_le _) (by decide +kernel) ⟨rfl, hs⟩
def mX4_paidIn : mt_ := (yX4_paidIn, cX4_paidIn, 5, some .int, [], { frames := 0, locals := 0, cells := 0, slots := 0 })
theorem ckX4_paidIn : cokV_ mX4_paidIn := ⟨⟨(uw_mem 1230 (by decide +kernel) (by decide +kernel)), (uw_mem 35 (by decide +kernel) (by decide +kernel)), by decide +kernel, by decide +kernel⟩, (uw_mem 1228 (by decide +kernel) (by decide +kernel)), (uw_mem 1229 (by decide +kernel) (by decide +kernel))⟩
theorem nkX4_paidIn : nok_ mX4_paidIn 3 := by decide +kernel
theorem kX4_paidIn {E : ev_} {H : Heap} {a : Nat} {s : st_} {i0 : Int32} {i1 : Int32} {i2 : Int32} {r : Int32} (hm : fX4_paidIn s i0 i1 i2 = some r) (h0 : has_ E H a ly_R s) : sp_ E mX4_paidIn [.ref a, .int i0, .int i1, .int i2] H (po1 (.inl (some (.int r))) (fun Hn => sm_ H Hn 0 0)) := by
  refine sp_of (by decide +kernel) rfl rfl ?_
  generalize hQ : po1 _ _ = Q
  have hs : sm_ H H 0 0 := sm_.rfl'
  unfold fX4_paidIn at hm
  refine aw_lv (lv' := [(0, .ref a), (1, .int i0), (2, .int i1), (3, .int i2)]) [0, 1, 2, 3] rfl ?_
  refine aw_b (pc' := 7) (lv' := [(4, .int (i0 + (1 : Int32))), (0, .ref a), (1, .int i0), (2, .int i1), (3, .int i2)]) (st' := [.int (i0 + (1 : Int32))]) [(0, .iload_n 1, 1, .null), (1, .iconst 1, 1, .int (1 : Int32)), (2, .iadd, 1, .null), (3, .istore 4, 2, .null), (5, .iload 4, 2, .null)] (by decide +kernel) rfl ?_
  refine aw_if_lt (off := 29) 36 (by decide) (by decide +kernel) (fun hc => ?_) (fun hc => ?_)
  · have hm := (if_pos hc).symm.trans hm
    refine aw_b (pc' := 37) (lv' := [(4, .int (i0 + (1 : Int32))), (0, .ref a), (1, .int i0), (2, .int i1), (3, .int i2)]) (st' := [.int (0 : Int32)]) [(36, .iconst 0, 1, .int (0 : Int32))] (by decide +kernel) rfl ?_
    obtain rfl := Option.some.inj hm
    subst hQ
    exact aw_iret rfl (Nat.zero_le _) (Nat.zero_le _) (by decide +kernel) ⟨rfl, hs⟩
  · have hm := (if_neg hc).symm.trans hm
    refine aw_b (pc' := 13) (lv' := [(4, .int (i0 + (1 : Int32))), (0, .ref a), (1, .int i0), (2, .int i1), (3, .int i2)]) (st' := [.ref a, .int (i0 + (1 : Int32))]) [(10, .iload 4, 2, .null), (12, .aload_n 0, 1, .null)] (by decide +kernel) rfl ?_
    refine aw_gl (v := .int (s 0 0)) a 0 h0 eo_R_0 fgX4_35 rfl (by decide +kernel) ?_
    refine aw_ic_gt (off := 20) 36 (by decide) (by decide +kernel) (fun hc => ?_) (fun hc => ?_)
    · have hm := (if_pos hc).symm.trans hm
      refine aw_b (pc' := 37) (lv' := [(4, .int (i0 + (1 : Int32))), (0, .ref a), (1, .int i0), (2, .int i1), (3, .int i2)]) (st' := [.int (0 : Int32)]) [(36, .iconst 0, 1, .int (0 : Int32))] (by decide +kernel) rfl ?_
      obtain rfl := Option.some.inj hm
      subst hQ
      exact aw_iret rfl (Nat.zero_le _) (Nat.zero_le _) (by decide +kernel) ⟨rfl, hs⟩
    · have hm := (if_neg hc).symm.trans hm
      refine aw_b (pc' := 20) (lv' := [(4, .int (i0 + (1 : Int32))), (0, .ref a), (1, .int i0), (2, .int i1), (3, .int i2)]) (st' := [.int i1]) [(19, .iload_n 2, 1, .null)] (by decide +kernel) rfl ?_
      refine aw_if_lt (off := 16) 36 (by decide) (by decide +kernel) (fun hc => ?_) (fun hc => ?_)
      · have hm := (if_pos hc).symm.trans hm
        refine aw_b (pc' := 37) (lv' := [(4, .int (i0 + (1 : Int32))), (0, .ref a), (1, .int i0), (2, .int i1), (3, .int i2)]) (st' := [.int (0 : Int32)]) [(36, .iconst 0, 1, .int (0 : Int32))] (by decide +kernel) rfl ?_
        obtain rfl := Option.some.inj hm
        subst hQ
        exact aw_iret rfl (Nat.zero_le _) (Nat.zero_le _) (by decide +kernel) ⟨rfl, hs⟩
      · have hm := (if_neg hc).symm.trans hm
        refine aw_b (pc' := 25) (lv' := [(4, .int (i0 + (1 : Int32))), (0, .ref a), (1, .int i0), (2, .int i1), (3, .int i2)]) (st' := [.ref a, .int i2]) [(23, .iload_n 3, 1, .null), (24, .aload_n 0, 1, .null)] (by decide +kernel) rfl ?_
        refine aw_gl (v := .int (s 0 1)) a 0 h0 eo_R_0 fgX4_39 rfl (by decide +kernel) ?_
        refine aw_ic_gt (off := 8) 36 (by decide) (by decide +kernel) (fun hc => ?_) (fun hc => ?_)
        · have hm := (if_pos hc).symm.trans hm
          refine aw_b (pc' := 37) (lv' := [(4, .int (i0 + (1 : Int32))), (0, .ref a), (1, .int i0), (2, .int i1), (3, .int i2)]) (st' := [.int (0 : Int32)]) [(36, .iconst 0, 1, .int (0 : Int32))] (by decide +kernel) rfl ?_
          obtain rfl := Option.some.inj hm
          subst hQ
          exact aw_iret rfl (Nat.zero_le _) (Nat.zero_le _) (by decide +kernel) ⟨rfl, hs⟩
        · have hm := (if_neg hc).symm.trans hm
          refine aw_b (pc' := 33) (lv' := [(4, .int (i0 + (1 : Int32))), (0, .ref a), (1, .int i0), (2, .int i1), (3, .int i2)]) (st' := [.int i2, .int i1]) [(31, .iload_n 2, 1, .null), (32, .iload_n 3, 1, .null)] (by decide +kernel) rfl ?_
          refine aw_ic_le (off := 5) 38 (by decide) (by decide +kernel) (fun hc => ?_) (fun hc => ?_)
          · have hm := (if_pos hc).symm.trans hm
            refine aw_b (pc' := 39) (lv' := [(4, .int (i0 + (1 : Int32))), (0, .ref a), (1, .int i0), (2, .int i1), (3, .int i2)]) (st' := [.ref a]) [(38, .aload_n 0, 1, .null)] (by decide +kernel) rfl ?_
            refine aw_gl (v := .ref (a + 1)) a 0 h0 eo_R_0 fgX4_11 rfl (by decide +kernel) ?_
            refine aw_b (pc' := 44) (lv' := [(4, .int (i0 + (1 : Int32))), (0, .ref a), (1, .int i0), (2, .int i1), (3, .int i2)]) (st' := [.int (i0 + (1 : Int32)), .ref (a + 1)]) [(42, .iload 4, 2, .null)] (by decide +kernel) rfl ?_
            obtain ⟨g1, hm⟩ := gd_x hm
            refine aw_iall a 1 h0 ra_R_1 g1 (by decide +kernel) ?_
            refine aw_b (pc' := 46) (lv' := [(4, .int (i0 + (1 : Int32))), (0, .ref a), (1, .int i0), (2, .int i1), (3, .int i2)]) (st' := [.int i2, .ref (a + (1 * ix_ (i0 + (1 : Int32)) + 2))]) [(45, .iload_n 3, 1, .null)] (by decide +kernel) rfl ?_
            obtain ⟨g2, hm⟩ := gd_x hm
            refine aw_ial a (1 * ix_ (i0 + (1 : Int32)) + 2) h0 (sr_R_2 _ (ib_lt g1)) g2 (by decide +kernel) ?_
            refine aw_b (pc' := 48) (lv' := [(4, .int (i0 + (1 : Int32))), (0, .ref a), (1, .int i0), (2, .int i1), (3, .int i2)]) (st' := [.ref a, .int (s (1 * ix_ (i0 + (1 : Int32)) + 2) (ix_ i2))]) [(47, .aload_n 0, 1, .null)] (by decide +kernel) rfl ?_
            refine aw_gl (v := .ref (a + 1)) a 0 h0 eo_R_0 fgX4_11 rfl (by decide +kernel) ?_
            refine aw_b (pc' := 53) (lv' := [(4, .int (i0 + (1 : Int32))), (0, .ref a), (1, .int i0), (2, .int i1), (3, .int i2)]) (st' := [.int (i0 + (1 : Int32)), .ref (a + 1), .int (s (1 * ix_ (i0 + (1 : Int32)) + 2) (ix_ i2))]) [(51, .iload 4, 2, .null)] (by decide +kernel) rfl ?_
            obtain ⟨g3, hm⟩ := gd_x hm
            refine aw_iall a 1 h0 ra_R_1 g3 (by decide +kernel) ?_
            refine aw_b (pc' := 55) (lv' := [(4, .int (i0 + (1 : Int32))), (0, .ref a), (1, .int i0), (2, .int i1), (3, .int i2)]) (st' := [.int i1, .ref (a + (1 * ix_ (i0 + (1 : Int32)) + 2)), .int (s (1 * ix_ (i0 + (1 : Int32)) + 2) (ix_ i2))]) [(54, .iload_n 2, 1, .null)] (by decide +kernel) rfl ?_
            obtain ⟨g4, hm⟩ := gd_x hm
            refine aw_ial a (1 * ix_ (i0 + (1 : Int32)) + 2) h0 (sr_R_2 _ (ib_lt g3)) g4 (by decide +kernel) ?_
            refine aw_b (pc' := 57) (lv' := [(4, .int (i0 + (1 : Int32))), (0, .ref a), (1, .int i0), (2, .int i1), (3, .int i2)]) (st' := [.int ((s (1 * ix_ (i0 + (1 : Int32)) + 2) (ix_ i2)) - (s (1 * ix_ (i0 + (1 : Int32)) + 2) (ix_ i1)))]) [(56, .isub, 1, .null)] (by decide +kernel) rfl ?_
            obtain rfl := Option.some.inj hm
            subst hQ
            exact aw_iret rfl (Nat.zero_le _) (Nat.zero_le _) (by decide +kernel) ⟨rfl, hs⟩
          · have hm := (if_neg hc).symm.trans hm
            refine aw_b (pc' := 37) (lv' := [(4, .int (i0 + (1 : Int32))), (0, .ref a), (1, .int i0), (2, .int i1), (3, .int i2)]) (st' := [.int (0 : Int32)]) [(36, .iconst 0, 1, .int (0 : Int32))] (by decide +kernel) rfl ?_
            obtain rfl := Option.some.inj hm
            subst hQ
            exact aw_iret rfl (Nat.zero_le _) (Nat.zero_le _) (by decide +kernel) ⟨rfl, hs⟩
def mX4_cheapestIn : mt_ := (yX4_cheapestIn, cX4_cheapestIn, 5, some .int, [], { frames := 1, locals := 24, cells := 0, slots := 0 })
theorem ckX4_cheapestIn : cokV_ mX4_cheapestIn := ⟨⟨(uw_mem 1327 (by decide +kernel) (by decide +kernel)), (uw_mem 35 (by decide +kernel) (by decide +kernel)), by decide +kernel, by decide +kernel⟩, (uw_mem 1325 (by decide +kernel) (by decide +kernel)), (uw_mem 1326 (by decide +kernel) (by decide +kernel))⟩
theorem nkX4_cheapestIn : nok_ mX4_cheapestIn 2 := by decide +kernel
theorem lkX4_129 : Cond.methodLink RX4 129 yX4_paidIn ∈ uw_ := (uw_mem 1323 (by decide +kernel) (by decide +kernel))
theorem kX4_cheapestIn {E : ev_} {H : Heap} {a : Nat} {s : st_} {i0 : Int32} {i1 : Int32} {r : Int32} (hm : fX4_cheapestIn s i0 i1 = some r) (h0 : has_ E H a ly_R s) : sp_ E mX4_cheapestIn [.ref a, .int i0, .int i1] H (po1 (.inl (some (.int r))) (fun Hn => sm_ H Hn 0 0)) := by
  refine sp_of (by decide +kernel) rfl rfl ?_
  generalize hQ : po1 _ _ = Q
  have hs : sm_ H H 0 0 := sm_.rfl'
  unfold fX4_cheapestIn at hm
  refine aw_lv (lv' := [(0, .ref a), (1, .int i0), (2, .int i1)]) [0, 1, 2] rfl ?_
  refine aw_b (pc' := 5) (lv' := [(4, .int (1 : Int32)), (3, .int (0 : Int32)), (0, .ref a), (1, .int i0), (2, .int i1)]) (st' := []) [(0, .iconst 0, 1, .int (0 : Int32)), (1, .istore_n 3, 1, .null), (2, .iconst 1, 1, .int (1 : Int32)), (3, .istore 4, 2, .null)] (by decide +kernel) rfl ?_
  obtain ⟨x5, hx5, hr5⟩ := bn_x hm
  have X5_41 : ∀ (v3_x5_41 : Int32) (H_x5_41 : Heap), has_ E H_x5_41 a ly_R s → sm_ H H_x5_41 0 0 → fX4_cheapestIn_x5_41 v3_x5_41 = some r → aw E mX4_cheapestIn Q 41 [(3, .int v3_x5_41)] [] H_x5_41 0 0 := by
    intro v3_x5_41 H_x5_41 h0 hs hm
    unfold fX4_cheapestIn_x5_41 at hm
    refine aw_b (pc' := 42) (lv' := [(3, .int v3_x5_41)]) (st' := [.int v3_x5_41]) [(41, .iload_n 3, 1, .null)] (by decide +kernel) rfl ?_
    obtain rfl := Option.some.inj hm
    subst hQ
    exact aw_iret rfl (Nat.zero_le _) (Nat.zero_le _) (by decide +kernel) ⟨rfl, hs⟩
  have L5 : ∀ (fu : Nat) (v3_b5 : Int32) (v4_b5 : Int32) (H_b5 : Heap), has_ E H_b5 a ly_R s → sm_ H H_b5 0 0 → fX4_cheapestIn_l5 s i0 i1 fu (v3_b5, v4_b5) = some x5 → aw E mX4_cheapestIn Q 5 [(0, .ref a), (1, .int i0), (2, .int i1), (3, .int v3_b5), (4, .int v4_b5)] [] H_b5 0 0 := by
    intro fu
    induction fu with
    | zero =>
      intro v3_b5 v4_b5 H_b5 h0 hs hm
      exact (it_0 hm).elim
    | succ fu ih5 =>
      intro v3_b5 v4_b5 H_b5 h0 hs hm
      obtain ⟨y5, hm, hk5⟩ := it_s hm
      have hm : fX4_cheapestIn_b5 s i0 i1 v3_b5 v4_b5 = some y5 := hm
      unfold fX4_cheapestIn_b5 at hm
      refine aw_b (pc' := 8) (lv' := [(0, .ref a), (1, .int i0), (2, .int i1), (3, .int v3_b5), (4, .int v4_b5)]) (st' := [.ref a, .int v4_b5]) [(5, .iload 4, 2, .null), (7, .aload_n 0, 1, .null)] (by decide +kernel) rfl ?_
      refine aw_gl (v := .int (s 0 0)) a 0 h0 eo_R_0 fgX4_35 rfl (by decide +kernel) ?_
      refine aw_ic_ge (off := 30) 41 (by decide) (by decide +kernel) (fun hc => ?_) (fun hc => ?_)
      · have hm := (if_pos hc).symm.trans hm
        cases hm
        refine aw_lv (lv' := [(3, .int v3_b5)]) [3] rfl ?_
        exact X5_41 v3_b5 H_b5 h0 hs ((congrArg fX4_cheapestIn_k5 (show (v3_b5) = x5 from hk5)).trans hr5)
      · have hm := (if_neg hc).symm.trans hm
        refine aw_b (pc' := 19) (lv' := [(0, .ref a), (1, .int i0), (2, .int i1), (3, .int v3_b5), (4, .int v4_b5)]) (st' := [.int i1, .int i0, .int v4_b5, .ref a]) [(14, .aload_n 0, 1, .null), (15, .iload 4, 2, .null), (17, .iload_n 1, 1, .null), (18, .iload_n 2, 1, .null)] (by decide +kernel) rfl ?_
        obtain ⟨r1, e2, hm⟩ := bn_x hm
        refine aw_cv (rest := []) (st1 := [.int r1]) a 0 (kX4_paidIn e2 h0) rfl rfl ckX4_paidIn lkX4_129 h0 eo_R_0 ⟨_, _, rfl⟩ nkX4_paidIn rfl rfl rfl (Nat.le_of_ble_eq_true rfl) (Nat.zero_le _) (Nat.zero_le _) (by decide +kernel) (fun H3 z4 => ?_)
        have h0 := h0.kept0 z4
        have hs := hs.step0 z4
        refine aw_b (pc' := 26) (lv' := [(0, .ref a), (1, .int i0), (2, .int i1), (3, .int v3_b5), (4, .int v4_b5)]) (st' := [.int i1, .int i0, .int v3_b5, .ref a, .int r1]) [(22, .aload_n 0, 1, .null), (23, .iload_n 3, 1, .null), (24, .iload_n 1, 1, .null), (25, .iload_n 2, 1, .null)] (by decide +kernel) rfl ?_
        obtain ⟨r5, e6, hm⟩ := bn_x hm
        refine aw_cv (rest := [.int r1]) (st1 := [.int r5, .int r1]) a 0 (kX4_paidIn e6 h0) rfl rfl ckX4_paidIn lkX4_129 h0 eo_R_0 ⟨_, _, rfl⟩ nkX4_paidIn rfl rfl rfl (Nat.le_of_ble_eq_true rfl) (Nat.zero_le _) (Nat.zero_le _) (by decide +kernel) (fun H7 z8 => ?_)
        have h0 := h0.kept0 z8
        have hs := hs.step0 z8
        have J35 : ∀ (v3_j35 : Int32) (H_j35 : Heap), has_ E H_j35 a ly_R s → sm_ H H_j35 0 0 → fX4_cheapestIn_j35 v4_b5 v3_j35 = some y5 → aw E mX4_cheapestIn Q 35 [(0, .ref a), (1, .int i0), (2, .int i1), (3, .int v3_j35), (4, .int v4_b5)] [] H_j35 0 0 := by
          intro v3_j35 H_j35 h0 hs hm
          unfold fX4_cheapestIn_j35 at hm
          refine aw_b (pc' := 5) (lv' := [(4, .int (v4_b5 + (1 : Int32))), (0, .ref a), (1, .int i0), (2, .int i1), (3, .int v3_j35)]) (st' := []) [(35, .iinc 4 1, 3, .int (1 : Int32)), (38, .goto (-33), 3, .null)] (by decide +kernel) rfl ?_
          cases hm
          refine aw_lv (lv' := [(0, .ref a), (1, .int i0), (2, .int i1), (3, .int v3_j35), (4, .int (v4_b5 + (1 : Int32)))]) [1, 2, 3, 4, 0] rfl ?_
          exact ih5 v3_j35 (v4_b5 + (1 : Int32)) H_j35 h0 hs hk5
        refine aw_ic_ge (off := 6) 35 (by decide) (by decide +kernel) (fun hc => ?_) (fun hc => ?_)
        · have hm := (if_pos hc).symm.trans hm
          exact J35 v3_b5 H7 h0 hs hm
        · have hm := (if_neg hc).symm.trans hm
          refine aw_b (pc' := 35) (lv' := [(3, .int v4_b5), (0, .ref a), (1, .int i0), (2, .int i1), (4, .int v4_b5)]) (st' := []) [(32, .iload 4, 2, .null), (34, .istore_n 3, 1, .null)] (by decide +kernel) rfl ?_
          refine aw_lv (lv' := [(0, .ref a), (1, .int i0), (2, .int i1), (3, .int v4_b5), (4, .int v4_b5)]) [1, 2, 3, 0, 4] rfl ?_
          exact J35 v4_b5 H7 h0 hs hm
  refine aw_lv (lv' := [(0, .ref a), (1, .int i0), (2, .int i1), (3, .int (0 : Int32)), (4, .int (1 : Int32))]) [2, 3, 4, 1, 0] rfl ?_
  exact L5 FU_ (0 : Int32) (1 : Int32) H h0 hs hx5
def mX4_regretOver : mt_ := (yX4_regretOver, cX4_regretOver, 3, some .int, [], { frames := 2, locals := 48, cells := 0, slots := 0 })
theorem ckX4_regretOver : cokV_ mX4_regretOver := ⟨⟨(uw_mem 1322 (by decide +kernel) (by decide +kernel)), (uw_mem 35 (by decide +kernel) (by decide +kernel)), by decide +kernel, by decide +kernel⟩, (uw_mem 1320 (by decide +kernel) (by decide +kernel)), (uw_mem 1321 (by decide +kernel) (by decide +kernel))⟩
theorem nkX4_regretOver : nok_ mX4_regretOver 2 := by decide +kernel
theorem lkX4_133 : Cond.methodLink RX4 133 yX4_cheapestIn ∈ uw_ := (uw_mem 1324 (by decide +kernel) (by decide +kernel))
theorem kX4_regretOver {E : ev_} {H : Heap} {a : Nat} {s : st_} {i0 : Int32} {i1 : Int32} {r : Int32} (hm : fX4_regretOver s i0 i1 = some r) (h0 : has_ E H a ly_R s) : sp_ E mX4_regretOver [.ref a, .int i0, .int i1] H (po1 (.inl (some (.int r))) (fun Hn => sm_ H Hn 0 0)) := by
  refine sp_of (by decide +kernel) rfl rfl ?_
  generalize hQ : po1 _ _ = Q
  have hs : sm_ H H 0 0 := sm_.rfl'
  unfold fX4_regretOver at hm
  refine aw_lv (lv' := [(0, .ref a), (1, .int i0), (2, .int i1)]) [0, 1, 2] rfl ?_
  refine aw_b (pc' := 4) (lv' := [(0, .ref a), (1, .int i0), (2, .int i1)]) (st' := [.int i1, .int i0, .int (-1 : Int32), .ref a]) [(0, .aload_n 0, 1, .null), (1, .iconst (-1), 1, .int (-1 : Int32)), (2, .iload_n 1, 1, .null), (3, .iload_n 2, 1, .null)] (by decide +kernel) rfl ?_
  obtain ⟨r1, e2, hm⟩ := bn_x hm
  refine aw_cv (rest := []) (st1 := [.int r1]) a 0 (kX4_paidIn e2 h0) rfl rfl ckX4_paidIn lkX4_129 h0 eo_R_0 ⟨_, _, rfl⟩ nkX4_paidIn rfl rfl rfl (Nat.le_of_ble_eq_true rfl) (Nat.zero_le _) (Nat.zero_le _) (by decide +kernel) (fun H3 z4 => ?_)
  have h0 := h0.kept0 z4
  have hs := hs.step0 z4
  refine aw_b (pc' := 11) (lv' := [(0, .ref a), (1, .int i0), (2, .int i1)]) (st' := [.int i1, .int i0, .ref a, .ref a, .int r1]) [(7, .aload_n 0, 1, .null), (8, .aload_n 0, 1, .null), (9, .iload_n 1, 1, .null), (10, .iload_n 2, 1, .null)] (by decide +kernel) rfl ?_
  obtain ⟨r5, e6, hm⟩ := bn_x hm
  refine aw_cv (rest := [.ref a, .int r1]) (st1 := [.int r5, .ref a, .int r1]) a 0 (kX4_cheapestIn e6 h0) rfl rfl ckX4_cheapestIn lkX4_133 h0 eo_R_0 ⟨_, _, rfl⟩ nkX4_cheapestIn rfl rfl rfl (Nat.le_of_ble_eq_true rfl) (Nat.zero_le _) (Nat.zero_le _) (by decide +kernel) (fun H7 z8 => ?_)
  have h0 := h0.kept0 z8
  have hs := hs.step0 z8
  refine aw_b (pc' := 16) (lv' := [(0, .ref a), (1, .int i0), (2, .int i1)]) (st' := [.int i1, .int i0, .int r5, .ref a, .int r1]) [(14, .iload_n 1, 1, .null), (15, .iload_n 2, 1, .null)] (by decide +kernel) rfl ?_
  obtain ⟨r9, e10, hm⟩ := bn_x hm
  refine aw_cv (rest := [.int r1]) (st1 := [.int r9, .int r1]) a 0 (kX4_paidIn e10 h0) rfl rfl ckX4_paidIn lkX4_129 h0 eo_R_0 ⟨_, _, rfl⟩ nkX4_paidIn rfl rfl rfl (Nat.le_of_ble_eq_true rfl) (Nat.zero_le _) (Nat.zero_le _) (by decide +kernel) (fun H11 z12 => ?_)
  have h0 := h0.kept0 z12
  have hs := hs.step0 z12
  refine aw_b (pc' := 20) (lv' := [(0, .ref a), (1, .int i0), (2, .int i1)]) (st' := [.int (r1 - r9)]) [(19, .isub, 1, .null)] (by decide +kernel) rfl ?_
  obtain rfl := Option.some.inj hm
  subst hQ
  exact aw_iret rfl (Nat.zero_le _) (Nat.zero_le _) (by decide +kernel) ⟨rfl, hs⟩
def mX4_splitCost : mt_ := (yX4_splitCost, cX4_splitCost, 2, some .int, [], { frames := 2, locals := 48, cells := 0, slots := 0 })
theorem ckX4_splitCost : cokV_ mX4_splitCost := ⟨⟨(uw_mem 1352 (by decide +kernel) (by decide +kernel)), (uw_mem 35 (by decide +kernel) (by decide +kernel)), by decide +kernel, by decide +kernel⟩, (uw_mem 1350 (by decide +kernel) (by decide +kernel)), (uw_mem 1351 (by decide +kernel) (by decide +kernel))⟩
theorem nkX4_splitCost : nok_ mX4_splitCost 1 := by decide +kernel
theorem kX4_splitCost {E : ev_} {H : Heap} {a : Nat} {s : st_} {i0 : Int32} {r : Int32} (hm : fX4_splitCost s i0 = some r) (h0 : has_ E H a ly_R s) : sp_ E mX4_splitCost [.ref a, .int i0] H (po1 (.inl (some (.int r))) (fun Hn => sm_ H Hn 0 0)) := by
  refine sp_of (by decide +kernel) rfl rfl ?_
  generalize hQ : po1 _ _ = Q
  have hs : sm_ H H 0 0 := sm_.rfl'
  unfold fX4_splitCost at hm
  refine aw_lv (lv' := [(0, .ref a), (1, .int i0)]) [0, 1] rfl ?_
  refine aw_b (pc' := 4) (lv' := [(0, .ref a), (1, .int i0)]) (st' := [.int i0, .int (0 : Int32), .ref a, .ref a]) [(0, .aload_n 0, 1, .null), (1, .aload_n 0, 1, .null), (2, .iconst 0, 1, .int (0 : Int32)), (3, .iload_n 1, 1, .null)] (by decide +kernel) rfl ?_
  obtain ⟨r1, e2, hm⟩ := bn_x hm
  refine aw_cv (rest := [.ref a]) (st1 := [.int r1, .ref a]) a 0 (kX4_cheapestIn e2 h0) rfl rfl ckX4_cheapestIn lkX4_133 h0 eo_R_0 ⟨_, _, rfl⟩ nkX4_cheapestIn rfl rfl rfl (Nat.le_of_ble_eq_true rfl) (Nat.zero_le _) (Nat.zero_le _) (by decide +kernel) (fun H3 z4 => ?_)
  have h0 := h0.kept0 z4
  have hs := hs.step0 z4
  refine aw_b (pc' := 9) (lv' := [(0, .ref a), (1, .int i0)]) (st' := [.int i0, .int (0 : Int32), .int r1, .ref a]) [(7, .iconst 0, 1, .int (0 : Int32)), (8, .iload_n 1, 1, .null)] (by decide +kernel) rfl ?_
  obtain ⟨r5, e6, hm⟩ := bn_x hm
  refine aw_cv (rest := []) (st1 := [.int r5]) a 0 (kX4_paidIn e6 h0) rfl rfl ckX4_paidIn lkX4_129 h0 eo_R_0 ⟨_, _, rfl⟩ nkX4_paidIn rfl rfl rfl (Nat.le_of_ble_eq_true rfl) (Nat.zero_le _) (Nat.zero_le _) (by decide +kernel) (fun H7 z8 => ?_)
  have h0 := h0.kept0 z8
  have hs := hs.step0 z8
  refine aw_b (pc' := 16) (lv' := [(0, .ref a), (1, .int i0)]) (st' := [.ref a, .int i0, .ref a, .ref a, .int r5]) [(12, .aload_n 0, 1, .null), (13, .aload_n 0, 1, .null), (14, .iload_n 1, 1, .null), (15, .aload_n 0, 1, .null)] (by decide +kernel) rfl ?_
  refine aw_gl (v := .int (s 0 1)) a 0 h0 eo_R_0 fgX4_39 rfl (by decide +kernel) ?_
  obtain ⟨r9, e10, hm⟩ := bn_x hm
  refine aw_cv (rest := [.ref a, .int r5]) (st1 := [.int r9, .ref a, .int r5]) a 0 (kX4_cheapestIn e10 h0) rfl rfl ckX4_cheapestIn lkX4_133 h0 eo_R_0 ⟨_, _, rfl⟩ nkX4_cheapestIn rfl rfl rfl (Nat.le_of_ble_eq_true rfl) (Nat.zero_le _) (Nat.zero_le _) (by decide +kernel) (fun H11 z12 => ?_)
  have h0 := h0.kept0 z12
  have hs := hs.step0 z12
  refine aw_b (pc' := 24) (lv' := [(0, .ref a), (1, .int i0)]) (st' := [.ref a, .int i0, .int r9, .ref a, .int r5]) [(22, .iload_n 1, 1, .null), (23, .aload_n 0, 1, .null)] (by decide +kernel) rfl ?_
  refine aw_gl (v := .int (s 0 1)) a 0 h0 eo_R_0 fgX4_39 rfl (by decide +kernel) ?_
  obtain ⟨r13, e14, hm⟩ := bn_x hm
  refine aw_cv (rest := [.int r5]) (st1 := [.int r13, .int r5]) a 0 (kX4_paidIn e14 h0) rfl rfl ckX4_paidIn lkX4_129 h0 eo_R_0 ⟨_, _, rfl⟩ nkX4_paidIn rfl rfl rfl (Nat.le_of_ble_eq_true rfl) (Nat.zero_le _) (Nat.zero_le _) (by decide +kernel) (fun H15 z16 => ?_)
  have h0 := h0.kept0 z16
  have hs := hs.step0 z16
  refine aw_b (pc' := 31) (lv' := [(0, .ref a), (1, .int i0)]) (st' := [.int (r5 + r13)]) [(30, .iadd, 1, .null)] (by decide +kernel) rfl ?_
  obtain rfl := Option.some.inj hm
  subst hQ
  exact aw_iret rfl (Nat.zero_le _) (Nat.zero_le _) (by decide +kernel) ⟨rfl, hs⟩
def mX4_bestSplit : mt_ := (yX4_bestSplit, cX4_bestSplit, 5, some .int, [], { frames := 3, locals := 69, cells := 0, slots := 0 })
theorem ckX4_bestSplit : cokV_ mX4_bestSplit := ⟨⟨(uw_mem 1348 (by decide +kernel) (by decide +kernel)), (uw_mem 35 (by decide +kernel) (by decide +kernel)), by decide +kernel, by decide +kernel⟩, (uw_mem 1346 (by decide +kernel) (by decide +kernel)), (uw_mem 1347 (by decide +kernel) (by decide +kernel))⟩
theorem nkX4_bestSplit : nok_ mX4_bestSplit 0 := by decide +kernel
theorem lkX4_137 : Cond.methodLink RX4 137 yX4_splitCost ∈ uw_ := (uw_mem 1349 (by decide +kernel) (by decide +kernel))
theorem kX4_bestSplit {E : ev_} {H : Heap} {a : Nat} {s : st_} {r : Int32} (hm : fX4_bestSplit s = some r) (h0 : has_ E H a ly_R s) : sp_ E mX4_bestSplit [.ref a] H (po1 (.inl (some (.int r))) (fun Hn => sm_ H Hn 0 0)) := by
  refine sp_of (by decide +kernel) rfl rfl ?_
  generalize hQ : po1 _ _ = Q
  have hs : sm_ H H 0 0 := sm_.rfl'
  unfold fX4_bestSplit at hm
  refine aw_lv (lv' := [(0, .ref a)]) [0] rfl ?_
  refine aw_b (pc' := 4) (lv' := [(1, .int (0 : Int32)), (0, .ref a)]) (st' := [.int (0 : Int32), .ref a]) [(0, .iconst 0, 1, .int (0 : Int32)), (1, .istore_n 1, 1, .null), (2, .aload_n 0, 1, .null), (3, .iconst 0, 1, .int (0 : Int32))] (by decide +kernel) rfl ?_
  obtain ⟨r1, e2, hm⟩ := bn_x hm
  refine aw_cv (rest := []) (st1 := [.int r1]) a 0 (kX4_splitCost e2 h0) rfl rfl ckX4_splitCost lkX4_137 h0 eo_R_0 ⟨_, _, rfl⟩ nkX4_splitCost rfl rfl rfl (Nat.le_of_ble_eq_true rfl) (Nat.zero_le _) (Nat.zero_le _) (by decide +kernel) (fun H3 z4 => ?_)
  have h0 := h0.kept0 z4
  have hs := hs.step0 z4
  refine aw_b (pc' := 10) (lv' := [(3, .int (1 : Int32)), (2, .int r1), (1, .int (0 : Int32)), (0, .ref a)]) (st' := []) [(7, .istore_n 2, 1, .null), (8, .iconst 1, 1, .int (1 : Int32)), (9, .istore_n 3, 1, .null)] (by decide +kernel) rfl ?_
  obtain ⟨x10, hx10, hr10⟩ := bn_x hm
  have X10_42 : ∀ (v1_x10_42 : Int32) (H_x10_42 : Heap), has_ E H_x10_42 a ly_R s → sm_ H H_x10_42 0 0 → fX4_bestSplit_x10_42 v1_x10_42 = some r → aw E mX4_bestSplit Q 42 [(1, .int v1_x10_42)] [] H_x10_42 0 0 := by
    intro v1_x10_42 H_x10_42 h0 hs hm
    unfold fX4_bestSplit_x10_42 at hm
    refine aw_b (pc' := 43) (lv' := [(1, .int v1_x10_42)]) (st' := [.int v1_x10_42]) [(42, .iload_n 1, 1, .null)] (by decide +kernel) rfl ?_
    obtain rfl := Option.some.inj hm
    subst hQ
    exact aw_iret rfl (Nat.zero_le _) (Nat.zero_le _) (by decide +kernel) ⟨rfl, hs⟩
  have L10 : ∀ (fu : Nat) (v1_b10 : Int32) (v2_b10 : Int32) (v3_b10 : Int32) (H_b10 : Heap), has_ E H_b10 a ly_R s → sm_ H H_b10 0 0 → fX4_bestSplit_l10 s fu (v1_b10, v2_b10, v3_b10) = some x10 → aw E mX4_bestSplit Q 10 [(0, .ref a), (1, .int v1_b10), (2, .int v2_b10), (3, .int v3_b10)] [] H_b10 0 0 := by
    intro fu
    induction fu with
    | zero =>
      intro v1_b10 v2_b10 v3_b10 H_b10 h0 hs hm
      exact (it_0 hm).elim
    | succ fu ih10 =>
      intro v1_b10 v2_b10 v3_b10 H_b10 h0 hs hm
      obtain ⟨y10, hm, hk10⟩ := it_s hm
      have hm : fX4_bestSplit_b10 s v1_b10 v2_b10 v3_b10 = some y10 := hm
      unfold fX4_bestSplit_b10 at hm
      refine aw_b (pc' := 12) (lv' := [(0, .ref a), (1, .int v1_b10), (2, .int v2_b10), (3, .int v3_b10)]) (st' := [.ref a, .int v3_b10]) [(10, .iload_n 3, 1, .null), (11, .aload_n 0, 1, .null)] (by decide +kernel) rfl ?_
      refine aw_gl (v := .int (s 0 1)) a 0 h0 eo_R_0 fgX4_39 rfl (by decide +kernel) ?_
      refine aw_ic_gt (off := 27) 42 (by decide) (by decide +kernel) (fun hc => ?_) (fun hc => ?_)
      · have hm := (if_pos hc).symm.trans hm
        cases hm
        refine aw_lv (lv' := [(1, .int v1_b10)]) [1] rfl ?_
        exact X10_42 v1_b10 H_b10 h0 hs ((congrArg fX4_bestSplit_k10 (show (v1_b10) = x10 from hk10)).trans hr10)
      · have hm := (if_neg hc).symm.trans hm
        refine aw_b (pc' := 20) (lv' := [(0, .ref a), (1, .int v1_b10), (2, .int v2_b10), (3, .int v3_b10)]) (st' := [.int v3_b10, .ref a]) [(18, .aload_n 0, 1, .null), (19, .iload_n 3, 1, .null)] (by decide +kernel) rfl ?_
        obtain ⟨r5, e6, hm⟩ := bn_x hm
        refine aw_cv (rest := []) (st1 := [.int r5]) a 0 (kX4_splitCost e6 h0) rfl rfl ckX4_splitCost lkX4_137 h0 eo_R_0 ⟨_, _, rfl⟩ nkX4_splitCost rfl rfl rfl (Nat.le_of_ble_eq_true rfl) (Nat.zero_le _) (Nat.zero_le _) (by decide +kernel) (fun H7 z8 => ?_)
        have h0 := h0.kept0 z8
        have hs := hs.step0 z8
        refine aw_b (pc' := 28) (lv' := [(4, .int r5), (0, .ref a), (1, .int v1_b10), (2, .int v2_b10), (3, .int v3_b10)]) (st' := [.int v2_b10, .int r5]) [(23, .istore 4, 2, .null), (25, .iload 4, 2, .null), (27, .iload_n 2, 1, .null)] (by decide +kernel) rfl ?_
        have J36 : ∀ (v1_j36 : Int32) (v2_j36 : Int32) (H_j36 : Heap), has_ E H_j36 a ly_R s → sm_ H H_j36 0 0 → fX4_bestSplit_j36 v3_b10 v1_j36 v2_j36 = some y10 → aw E mX4_bestSplit Q 36 [(0, .ref a), (1, .int v1_j36), (2, .int v2_j36), (3, .int v3_b10)] [] H_j36 0 0 := by
          intro v1_j36 v2_j36 H_j36 h0 hs hm
          unfold fX4_bestSplit_j36 at hm
          refine aw_b (pc' := 10) (lv' := [(3, .int (v3_b10 + (1 : Int32))), (0, .ref a), (1, .int v1_j36), (2, .int v2_j36)]) (st' := []) [(36, .iinc 3 1, 3, .int (1 : Int32)), (39, .goto (-29), 3, .null)] (by decide +kernel) rfl ?_
          cases hm
          refine aw_lv (lv' := [(0, .ref a), (1, .int v1_j36), (2, .int v2_j36), (3, .int (v3_b10 + (1 : Int32)))]) [1, 2, 3, 0] rfl ?_
          exact ih10 v1_j36 v2_j36 (v3_b10 + (1 : Int32)) H_j36 h0 hs hk10
        refine aw_ic_ge (off := 8) 36 (by decide) (by decide +kernel) (fun hc => ?_) (fun hc => ?_)
        · have hm := (if_pos hc).symm.trans hm
          refine aw_lv (lv' := [(0, .ref a), (1, .int v1_b10), (2, .int v2_b10), (3, .int v3_b10)]) [1, 2, 3, 4] rfl ?_
          exact J36 v1_b10 v2_b10 H7 h0 hs hm
        · have hm := (if_neg hc).symm.trans hm
          refine aw_b (pc' := 36) (lv' := [(2, .int r5), (1, .int v3_b10), (4, .int r5), (0, .ref a), (3, .int v3_b10)]) (st' := []) [(31, .iload_n 3, 1, .null), (32, .istore_n 1, 1, .null), (33, .iload 4, 2, .null), (35, .istore_n 2, 1, .null)] (by decide +kernel) rfl ?_
          refine aw_lv (lv' := [(0, .ref a), (1, .int v3_b10), (2, .int r5), (3, .int v3_b10)]) [3, 1, 0, 4] rfl ?_
          exact J36 v3_b10 r5 H7 h0 hs hm
  refine aw_lv (lv' := [(0, .ref a), (1, .int (0 : Int32)), (2, .int r1), (3, .int (1 : Int32))]) [3, 2, 1, 0] rfl ?_
  exact L10 FU_ (0 : Int32) r1 (1 : Int32) H3 h0 hs hx10
def mX4_cheapestSwap : mt_ := (yX4_cheapestSwap, cX4_cheapestSwap, 4, some .int, [], { frames := 0, locals := 0, cells := 0, slots := 0 })
theorem ckX4_cheapestSwap : cokV_ mX4_cheapestSwap := ⟨⟨(uw_mem 1285 (by decide +kernel) (by decide +kernel)), (uw_mem 35 (by decide +kernel) (by decide +kernel)), by decide +kernel, by decide +kernel⟩, (uw_mem 1283 (by decide +kernel) (by decide +kernel)), (uw_mem 1284 (by decide +kernel) (by decide +kernel))⟩
theorem nkX4_cheapestSwap : nok_ mX4_cheapestSwap 1 := by decide +kernel
theorem kX4_cheapestSwap {E : ev_} {H : Heap} {a : Nat} {s : st_} {i0 : Int32} {r : Int32} (hm : fX4_cheapestSwap s i0 = some r) (h0 : has_ E H a ly_R s) : sp_ E mX4_cheapestSwap [.ref a, .int i0] H (po1 (.inl (some (.int r))) (fun Hn => sm_ H Hn 0 0)) := by
  refine sp_of (by decide +kernel) rfl rfl ?_
  generalize hQ : po1 _ _ = Q
  have hs : sm_ H H 0 0 := sm_.rfl'
  unfold fX4_cheapestSwap at hm
  refine aw_lv (lv' := [(0, .ref a), (1, .int i0)]) [0, 1] rfl ?_
  refine aw_b (pc' := 4) (lv' := [(3, .int (1 : Int32)), (2, .int (0 : Int32)), (0, .ref a), (1, .int i0)]) (st' := []) [(0, .iconst 0, 1, .int (0 : Int32)), (1, .istore_n 2, 1, .null), (2, .iconst 1, 1, .int (1 : Int32)), (3, .istore_n 3, 1, .null)] (by decide +kernel) rfl ?_
  obtain ⟨x4, hx4, hr4⟩ := bn_x hm
  have X4_39 : ∀ (v2_x4_39 : Int32) (H_x4_39 : Heap), has_ E H_x4_39 a ly_R s → sm_ H H_x4_39 0 0 → fX4_cheapestSwap_x4_39 v2_x4_39 = some r → aw E mX4_cheapestSwap Q 39 [(2, .int v2_x4_39)] [] H_x4_39 0 0 := by
    intro v2_x4_39 H_x4_39 h0 hs hm
    unfold fX4_cheapestSwap_x4_39 at hm
    refine aw_b (pc' := 40) (lv' := [(2, .int v2_x4_39)]) (st' := [.int v2_x4_39]) [(39, .iload_n 2, 1, .null)] (by decide +kernel) rfl ?_
    obtain rfl := Option.some.inj hm
    subst hQ
    exact aw_iret rfl (Nat.zero_le _) (Nat.zero_le _) (by decide +kernel) ⟨rfl, hs⟩
  have L4 : ∀ (fu : Nat) (v2_b4 : Int32) (v3_b4 : Int32) (H_b4 : Heap), has_ E H_b4 a ly_R s → sm_ H H_b4 0 0 → fX4_cheapestSwap_l4 s i0 fu (v2_b4, v3_b4) = some x4 → aw E mX4_cheapestSwap Q 4 [(0, .ref a), (1, .int i0), (2, .int v2_b4), (3, .int v3_b4)] [] H_b4 0 0 := by
    intro fu
    induction fu with
    | zero =>
      intro v2_b4 v3_b4 H_b4 h0 hs hm
      exact (it_0 hm).elim
    | succ fu ih4 =>
      intro v2_b4 v3_b4 H_b4 h0 hs hm
      obtain ⟨y4, hm, hk4⟩ := it_s hm
      have hm : fX4_cheapestSwap_b4 s i0 v2_b4 v3_b4 = some y4 := hm
      unfold fX4_cheapestSwap_b4 at hm
      refine aw_b (pc' := 6) (lv' := [(0, .ref a), (1, .int i0), (2, .int v2_b4), (3, .int v3_b4)]) (st' := [.ref a, .int v3_b4]) [(4, .iload_n 3, 1, .null), (5, .aload_n 0, 1, .null)] (by decide +kernel) rfl ?_
      refine aw_gl (v := .int (s 0 0)) a 0 h0 eo_R_0 fgX4_35 rfl (by decide +kernel) ?_
      refine aw_ic_ge (off := 30) 39 (by decide) (by decide +kernel) (fun hc => ?_) (fun hc => ?_)
      · have hm := (if_pos hc).symm.trans hm
        cases hm
        refine aw_lv (lv' := [(2, .int v2_b4)]) [2] rfl ?_
        exact X4_39 v2_b4 H_b4 h0 hs ((congrArg fX4_cheapestSwap_k4 (show (v2_b4) = x4 from hk4)).trans hr4)
      · have hm := (if_neg hc).symm.trans hm
        refine aw_b (pc' := 13) (lv' := [(0, .ref a), (1, .int i0), (2, .int v2_b4), (3, .int v3_b4)]) (st' := [.ref a]) [(12, .aload_n 0, 1, .null)] (by decide +kernel) rfl ?_
        refine aw_gl (v := .ref (a + 13)) a 0 h0 eo_R_0 fgX4_29 rfl (by decide +kernel) ?_
        refine aw_b (pc' := 17) (lv' := [(0, .ref a), (1, .int i0), (2, .int v2_b4), (3, .int v3_b4)]) (st' := [.int i0, .ref (a + 13)]) [(16, .iload_n 1, 1, .null)] (by decide +kernel) rfl ?_
        obtain ⟨g1, hm⟩ := gd_x hm
        refine aw_iall a 13 h0 ra_R_13 g1 (by decide +kernel) ?_
        refine aw_b (pc' := 19) (lv' := [(0, .ref a), (1, .int i0), (2, .int v2_b4), (3, .int v3_b4)]) (st' := [.int v3_b4, .ref (a + (1 * ix_ i0 + 14))]) [(18, .iload_n 3, 1, .null)] (by decide +kernel) rfl ?_
        obtain ⟨g2, hm⟩ := gd_x hm
        refine aw_ial a (1 * ix_ i0 + 14) h0 (sr_R_14 _ (ib_lt g1)) g2 (by decide +kernel) ?_
        refine aw_b (pc' := 21) (lv' := [(0, .ref a), (1, .int i0), (2, .int v2_b4), (3, .int v3_b4)]) (st' := [.ref a, .int (s (1 * ix_ i0 + 14) (ix_ v3_b4))]) [(20, .aload_n 0, 1, .null)] (by decide +kernel) rfl ?_
        refine aw_gl (v := .ref (a + 13)) a 0 h0 eo_R_0 fgX4_29 rfl (by decide +kernel) ?_
        refine aw_b (pc' := 25) (lv' := [(0, .ref a), (1, .int i0), (2, .int v2_b4), (3, .int v3_b4)]) (st' := [.int i0, .ref (a + 13), .int (s (1 * ix_ i0 + 14) (ix_ v3_b4))]) [(24, .iload_n 1, 1, .null)] (by decide +kernel) rfl ?_
        obtain ⟨g3, hm⟩ := gd_x hm
        refine aw_iall a 13 h0 ra_R_13 g3 (by decide +kernel) ?_
        refine aw_b (pc' := 27) (lv' := [(0, .ref a), (1, .int i0), (2, .int v2_b4), (3, .int v3_b4)]) (st' := [.int v2_b4, .ref (a + (1 * ix_ i0 + 14)), .int (s (1 * ix_ i0 + 14) (ix_ v3_b4))]) [(26, .iload_n 2, 1, .null)] (by decide +kernel) rfl ?_
        obtain ⟨g4, hm⟩ := gd_x hm
        refine aw_ial a (1 * ix_ i0 + 14) h0 (sr_R_14 _ (ib_lt g3)) g4 (by decide +kernel) ?_
        have J33 : ∀ (v2_j33 : Int32) (H_j33 : Heap), has_ E H_j33 a ly_R s → sm_ H H_j33 0 0 → fX4_cheapestSwap_j33 v3_b4 v2_j33 = some y4 → aw E mX4_cheapestSwap Q 33 [(0, .ref a), (1, .int i0), (2, .int v2_j33), (3, .int v3_b4)] [] H_j33 0 0 := by
          intro v2_j33 H_j33 h0 hs hm
          unfold fX4_cheapestSwap_j33 at hm
          refine aw_b (pc' := 4) (lv' := [(3, .int (v3_b4 + (1 : Int32))), (0, .ref a), (1, .int i0), (2, .int v2_j33)]) (st' := []) [(33, .iinc 3 1, 3, .int (1 : Int32)), (36, .goto (-32), 3, .null)] (by decide +kernel) rfl ?_
          cases hm
          refine aw_lv (lv' := [(0, .ref a), (1, .int i0), (2, .int v2_j33), (3, .int (v3_b4 + (1 : Int32)))]) [1, 2, 3, 0] rfl ?_
          exact ih4 v2_j33 (v3_b4 + (1 : Int32)) H_j33 h0 hs hk4
        refine aw_ic_ge (off := 5) 33 (by decide) (by decide +kernel) (fun hc => ?_) (fun hc => ?_)
        · have hm := (if_pos hc).symm.trans hm
          exact J33 v2_b4 H_b4 h0 hs hm
        · have hm := (if_neg hc).symm.trans hm
          refine aw_b (pc' := 33) (lv' := [(2, .int v3_b4), (0, .ref a), (1, .int i0), (3, .int v3_b4)]) (st' := []) [(31, .iload_n 3, 1, .null), (32, .istore_n 2, 1, .null)] (by decide +kernel) rfl ?_
          refine aw_lv (lv' := [(0, .ref a), (1, .int i0), (2, .int v3_b4), (3, .int v3_b4)]) [1, 2, 0, 3] rfl ?_
          exact J33 v3_b4 H_b4 h0 hs hm
  refine aw_lv (lv' := [(0, .ref a), (1, .int i0), (2, .int (0 : Int32)), (3, .int (1 : Int32))]) [2, 3, 1, 0] rfl ?_
  exact L4 FU_ (0 : Int32) (1 : Int32) H h0 hs hx4
def mX2_begin : mt_ := (yX2_begin, cX2_begin, 2, none, [], { frames := 3, locals := 91, cells := 0, slots := 0 })
theorem ckX2_begin : cokV_ mX2_begin := ⟨⟨(uw_mem 440 (by decide +kernel) (by decide +kernel)), (uw_mem 32 (by decide +kernel) (by decide +kernel)), by decide +kernel, by decide +kernel⟩, (uw_mem 438 (by decide +kernel) (by decide +kernel)), (uw_mem 439 (by decide +kernel) (by decide +kernel))⟩
theorem nkX2_begin : nok_ mX2_begin 1 := by decide +kernel
theorem fgX2_10 : fok_ RX2 10 2 0 := ⟨_, _, _, rfl, by decide, (uw_mem 397 (by decide +kernel) (by decide +kernel)), wkX2⟩
theorem eo_G_0 : eo_ ly_G 0 2 fsX2 := rfl
theorem lkX2_23 : Cond.methodLink RX2 23 yX1_begin ∈ uw_ := (uw_mem 441 (by decide +kernel) (by decide +kernel))
theorem su_G_1_D : sub_ ly_G 1 ly_D := sub_of rfl
theorem eo_G_1 : eo_ ly_G 1 1 fsX1 := rfl
theorem fgX2_19 : fok_ RX2 19 2 1 := ⟨_, _, _, rfl, by decide, (uw_mem 399 (by decide +kernel) (by decide +kernel)), wkX2⟩
theorem fgX2_27 : fok_ RX2 27 5 4 := ⟨_, _, _, rfl, by decide, (uw_mem 88 (by decide +kernel) (by decide +kernel)), wkX5⟩
theorem lkX2_33 : Cond.methodLink RX2 33 yX4_begin ∈ uw_ := (uw_mem 461 (by decide +kernel) (by decide +kernel))
theorem su_G_34_R : sub_ ly_G 34 ly_R := sub_of rfl
theorem eo_G_34 : eo_ ly_G 34 4 fsX4 := rfl
theorem kX2_begin {E : ev_} {H : Heap} {a b : Nat} {s : st_} {t : st_} {r : st_} (hm : fX2_begin s t = some r) (h0 : has_ E H a ly_G s) (h1 : has_ E H b ly_S t) (hf : ev_fr E a) (d1 : a + 75 ≤ b ∨ b + 4 ≤ a) : sp_ E mX2_begin [.ref a, .ref b] H (po1 (.inl (none)) (fun Hn => sm_ H Hn a 75 ∧ has_ E Hn a ly_G r)) := by
  refine sp_of (by decide +kernel) rfl rfl ?_
  generalize hQ : po1 _ _ = Q
  have hs : sm_ H H a 75 := sm_.rfl'
  unfold fX2_begin at hm
  refine aw_lv (lv' := [(0, .ref a), (1, .ref b)]) [0, 1] rfl ?_
  refine aw_b (pc' := 1) (lv' := [(0, .ref a), (1, .ref b)]) (st' := [.ref a]) [(0, .aload_n 0, 1, .null)] (by decide +kernel) rfl ?_
  refine aw_gl (v := .ref (a + 1)) a 0 h0 eo_G_0 fgX2_10 rfl (by decide +kernel) ?_
  refine aw_b (pc' := 5) (lv' := [(0, .ref a), (1, .ref b)]) (st' := [.ref b, .ref (a + 1)]) [(4, .aload_n 1, 1, .null)] (by decide +kernel) rfl ?_
  obtain ⟨r1, e2, hm⟩ := bn_x hm
  refine aw_cv (rest := []) (st1 := []) a 1 (kX1_begin e2 (h0.sub su_G_1_D) h1 (Nat.le_trans hf (Nat.le_add_right _ _)) (by omega)) rfl rfl ckX1_begin lkX2_23 h0 eo_G_1 ⟨_, _, rfl⟩ nkX1_begin rfl rfl rfl (Nat.le_of_ble_eq_true rfl) (Nat.zero_le _) (Nat.zero_le _) (by decide +kernel) (fun H3 z4 => ?_)
  obtain ⟨z4, hn⟩ := z4
  obtain ⟨s5, e6, hm⟩ := bd_x hm
  have h0 := h0.mg su_G_1_D hn z4 rfl e6
  have h1 := h1.kept (n := 4) z4 rfl (by omega)
  have hs := hs.step z4 (by omega) (by omega)
  refine aw_b (pc' := 9) (lv' := [(0, .ref a), (1, .ref b)]) (st' := [.ref a]) [(8, .aload_n 0, 1, .null)] (by decide +kernel) rfl ?_
  refine aw_gl (v := .ref (a + 34)) a 0 h0 eo_G_0 fgX2_19 rfl (by decide +kernel) ?_
  refine aw_b (pc' := 13) (lv' := [(0, .ref a), (1, .ref b)]) (st' := [.ref b, .ref (a + 34)]) [(12, .aload_n 1, 1, .null)] (by decide +kernel) rfl ?_
  refine aw_gl (v := .int (t 0 4)) b 0 h1 eo_S_0 fgX2_27 rfl (by decide +kernel) ?_
  obtain ⟨r7, e8, hm⟩ := bn_x hm
  refine aw_cv (rest := []) (st1 := []) a 34 (kX4_begin e8 (h0.sub su_G_34_R) (Nat.le_trans hf (Nat.le_add_right _ _))) rfl rfl ckX4_begin lkX2_33 h0 eo_G_34 ⟨_, _, rfl⟩ nkX4_begin rfl rfl rfl (Nat.le_of_ble_eq_true rfl) (Nat.zero_le _) (Nat.zero_le _) (by decide +kernel) (fun H9 z10 => ?_)
  obtain ⟨z10, hn⟩ := z10
  obtain ⟨s11, e12, hm⟩ := bd_x hm
  have h0 := h0.mg su_G_34_R hn z10 rfl e12
  have h1 := h1.kept (n := 4) z10 rfl (by omega)
  have hs := hs.step z10 (by omega) (by omega)
  obtain rfl := Option.some.inj hm
  subst hQ
  exact aw_vret rfl (Nat.zero_le _) (Nat.zero_le _) (by decide +kernel) ⟨rfl, hs, h0⟩
def mX2_copyFrom : mt_ := (yX2_copyFrom, cX2_copyFrom, 2, none, [], { frames := 3, locals := 91, cells := 0, slots := 0 })
theorem ckX2_copyFrom : cokV_ mX2_copyFrom := ⟨⟨(uw_mem 1463 (by decide +kernel) (by decide +kernel)), (uw_mem 32 (by decide +kernel) (by decide +kernel)), by decide +kernel, by decide +kernel⟩, (uw_mem 1461 (by decide +kernel) (by decide +kernel)), (uw_mem 1462 (by decide +kernel) (by decide +kernel))⟩
theorem nkX2_copyFrom : nok_ mX2_copyFrom 1 := by decide +kernel
theorem lkX2_36 : Cond.methodLink RX2 36 yX1_copyFrom ∈ uw_ := (uw_mem 1464 (by decide +kernel) (by decide +kernel))
theorem lkX2_40 : Cond.methodLink RX2 40 yX4_copyFrom ∈ uw_ := (uw_mem 1465 (by decide +kernel) (by decide +kernel))
theorem kX2_copyFrom {E : ev_} {H : Heap} {a b : Nat} {s : st_} {t : st_} {r : st_} (hm : fX2_copyFrom s t = some r) (h0 : has_ E H a ly_G s) (h1 : has_ E H b ly_G t) (hf : ev_fr E a) (d1 : a + 75 ≤ b ∨ b + 75 ≤ a) : sp_ E mX2_copyFrom [.ref a, .ref b] H (po1 (.inl (none)) (fun Hn => sm_ H Hn a 75 ∧ has_ E Hn a ly_G r)) := by
  refine sp_of (by decide +kernel) rfl rfl ?_
  generalize hQ : po1 _ _ = Q
  have hs : sm_ H H a 75 := sm_.rfl'
  unfold fX2_copyFrom at hm
  refine aw_lv (lv' := [(0, .ref a), (1, .ref b)]) [0, 1] rfl ?_
  refine aw_b (pc' := 1) (lv' := [(0, .ref a), (1, .ref b)]) (st' := [.ref a]) [(0, .aload_n 0, 1, .null)] (by decide +kernel) rfl ?_
  refine aw_gl (v := .ref (a + 1)) a 0 h0 eo_G_0 fgX2_10 rfl (by decide +kernel) ?_
  refine aw_b (pc' := 5) (lv' := [(0, .ref a), (1, .ref b)]) (st' := [.ref b, .ref (a + 1)]) [(4, .aload_n 1, 1, .null)] (by decide +kernel) rfl ?_
  refine aw_gl (v := .ref (b + 1)) b 0 h1 eo_G_0 fgX2_10 rfl (by decide +kernel) ?_
  obtain ⟨r1, e2, hm⟩ := bn_x hm
  refine aw_cv (rest := []) (st1 := []) a 1 (kX1_copyFrom e2 (h0.sub su_G_1_D) (h1.sub su_G_1_D) (Nat.le_trans hf (Nat.le_add_right _ _)) (by omega)) rfl rfl ckX1_copyFrom lkX2_36 h0 eo_G_1 ⟨_, _, rfl⟩ nkX1_copyFrom rfl rfl rfl (Nat.le_of_ble_eq_true rfl) (Nat.zero_le _) (Nat.zero_le _) (by decide +kernel) (fun H3 z4 => ?_)
  obtain ⟨z4, hn⟩ := z4
  obtain ⟨s5, e6, hm⟩ := bd_x hm
  have h0 := h0.mg su_G_1_D hn z4 rfl e6
  have h1 := h1.kept (n := 75) z4 rfl (by omega)
  have hs := hs.step z4 (by omega) (by omega)
  refine aw_b (pc' := 12) (lv' := [(0, .ref a), (1, .ref b)]) (st' := [.ref a]) [(11, .aload_n 0, 1, .null)] (by decide +kernel) rfl ?_
  refine aw_gl (v := .ref (a + 34)) a 0 h0 eo_G_0 fgX2_19 rfl (by decide +kernel) ?_
  refine aw_b (pc' := 16) (lv' := [(0, .ref a), (1, .ref b)]) (st' := [.ref b, .ref (a + 34)]) [(15, .aload_n 1, 1, .null)] (by decide +kernel) rfl ?_
  refine aw_gl (v := .ref (b + 34)) b 0 h1 eo_G_0 fgX2_19 rfl (by decide +kernel) ?_
  obtain ⟨r7, e8, hm⟩ := bn_x hm
  refine aw_cv (rest := []) (st1 := []) a 34 (kX4_copyFrom e8 (h0.sub su_G_34_R) (h1.sub su_G_34_R) (Nat.le_trans hf (Nat.le_add_right _ _)) (by omega)) rfl rfl ckX4_copyFrom lkX2_40 h0 eo_G_34 ⟨_, _, rfl⟩ nkX4_copyFrom rfl rfl rfl (Nat.le_of_ble_eq_true rfl) (Nat.zero_le _) (Nat.zero_le _) (by decide +kernel) (fun H9 z10 => ?_)
  obtain ⟨z10, hn⟩ := z10
  obtain ⟨s11, e12, hm⟩ := bd_x hm
  have h0 := h0.mg su_G_34_R hn z10 rfl e12
  have h1 := h1.kept (n := 75) z10 rfl (by omega)
  have hs := hs.step z10 (by omega) (by omega)
  obtain rfl := Option.some.inj hm
  subst hQ
  exact aw_vret rfl (Nat.zero_le _) (Nat.zero_le _) (by decide +kernel) ⟨rfl, hs, h0⟩
def mX2_makeRound : mt_ := (yX2_makeRound, cX2_makeRound, 1, none, [], { frames := 5, locals := 125, cells := 0, slots := 0 })
theorem ckX2_makeRound : cokV_ mX2_makeRound := ⟨⟨(uw_mem 1060 (by decide +kernel) (by decide +kernel)), (uw_mem 32 (by decide +kernel) (by decide +kernel)), by decide +kernel, by decide +kernel⟩, (uw_mem 1058 (by decide +kernel) (by decide +kernel)), (uw_mem 1059 (by decide +kernel) (by decide +kernel))⟩
theorem nkX2_makeRound : nok_ mX2_makeRound 0 := by decide +kernel
theorem lkX2_43 : Cond.methodLink RX2 43 yX1_moveFoe ∈ uw_ := (uw_mem 1061 (by decide +kernel) (by decide +kernel))
theorem lkX2_46 : Cond.methodLink RX2 46 yX1_takeRules ∈ uw_ := (uw_mem 1138 (by decide +kernel) (by decide +kernel))
theorem lkX2_49 : Cond.methodLink RX2 49 yX4_noteSwaps ∈ uw_ := (uw_mem 1142 (by decide +kernel) (by decide +kernel))
theorem lkX2_52 : Cond.methodLink RX2 52 yX1_serveAll ∈ uw_ := (uw_mem 1151 (by decide +kernel) (by decide +kernel))
theorem lkX2_55 : Cond.methodLink RX2 55 yX4_noteRound ∈ uw_ := (uw_mem 1175 (by decide +kernel) (by decide +kernel))
theorem kX2_makeRound {E : ev_} {H : Heap} {a : Nat} {s : st_} {r : st_} (hm : fX2_makeRound s = some r) (h0 : has_ E H a ly_G s) (hf : ev_fr E a) : sp_ E mX2_makeRound [.ref a] H (po1 (.inl (none)) (fun Hn => sm_ H Hn a 75 ∧ has_ E Hn a ly_G r)) := by
  refine sp_of (by decide +kernel) rfl rfl ?_
  generalize hQ : po1 _ _ = Q
  have hs : sm_ H H a 75 := sm_.rfl'
  unfold fX2_makeRound at hm
  refine aw_lv (lv' := [(0, .ref a)]) [0] rfl ?_
  refine aw_b (pc' := 1) (lv' := [(0, .ref a)]) (st' := [.ref a]) [(0, .aload_n 0, 1, .null)] (by decide +kernel) rfl ?_
  refine aw_gl (v := .ref (a + 1)) a 0 h0 eo_G_0 fgX2_10 rfl (by decide +kernel) ?_
  obtain ⟨r1, e2, hm⟩ := bn_x hm
  refine aw_cv (rest := []) (st1 := []) a 1 (kX1_moveFoe e2 (h0.sub su_G_1_D) (Nat.le_trans hf (Nat.le_add_right _ _))) rfl rfl ckX1_moveFoe lkX2_43 h0 eo_G_1 ⟨_, _, rfl⟩ nkX1_moveFoe rfl rfl rfl (Nat.le_of_ble_eq_true rfl) (Nat.zero_le _) (Nat.zero_le _) (by decide +kernel) (fun H3 z4 => ?_)
  obtain ⟨z4, hn⟩ := z4
  obtain ⟨s5, e6, hm⟩ := bd_x hm
  have h0 := h0.mg su_G_1_D hn z4 rfl e6
  have hs := hs.step z4 (by omega) (by omega)
  refine aw_b (pc' := 8) (lv' := [(0, .ref a)]) (st' := [.ref a]) [(7, .aload_n 0, 1, .null)] (by decide +kernel) rfl ?_
  refine aw_gl (v := .ref (a + 1)) a 0 h0 eo_G_0 fgX2_10 rfl (by decide +kernel) ?_
  obtain ⟨r7, e8, hm⟩ := bn_x hm
  refine aw_cv (rest := []) (st1 := []) a 1 (kX1_takeRules e8 (h0.sub su_G_1_D) (Nat.le_trans hf (Nat.le_add_right _ _))) rfl rfl ckX1_takeRules lkX2_46 h0 eo_G_1 ⟨_, _, rfl⟩ nkX1_takeRules rfl rfl rfl (Nat.le_of_ble_eq_true rfl) (Nat.zero_le _) (Nat.zero_le _) (by decide +kernel) (fun H9 z10 => ?_)
  obtain ⟨z10, hn⟩ := z10
  obtain ⟨s11, e12, hm⟩ := bd_x hm
  have h0 := h0.mg su_G_1_D hn z10 rfl e12
  have hs := hs.step z10 (by omega) (by omega)
  refine aw_b (pc' := 15) (lv' := [(0, .ref a)]) (st' := [.ref a]) [(14, .aload_n 0, 1, .null)] (by decide +kernel) rfl ?_
  refine aw_gl (v := .ref (a + 34)) a 0 h0 eo_G_0 fgX2_19 rfl (by decide +kernel) ?_
  refine aw_b (pc' := 19) (lv' := [(0, .ref a)]) (st' := [.ref a, .ref (a + 34)]) [(18, .aload_n 0, 1, .null)] (by decide +kernel) rfl ?_
  refine aw_gl (v := .ref (a + 1)) a 0 h0 eo_G_0 fgX2_10 rfl (by decide +kernel) ?_
  obtain ⟨r13, e14, hm⟩ := bn_x hm
  refine aw_cv (rest := []) (st1 := []) a 34 (kX4_noteSwaps e14 (h0.sub su_G_34_R) (h0.sub su_G_1_D) (Nat.le_trans hf (Nat.le_add_right _ _)) (by omega)) rfl rfl ckX4_noteSwaps lkX2_49 h0 eo_G_34 ⟨_, _, rfl⟩ nkX4_noteSwaps rfl rfl rfl (Nat.le_of_ble_eq_true rfl) (Nat.zero_le _) (Nat.zero_le _) (by decide +kernel) (fun H15 z16 => ?_)
  obtain ⟨z16, hn⟩ := z16
  obtain ⟨s17, e18, hm⟩ := bd_x hm
  have h0 := h0.mg su_G_34_R hn z16 rfl e18
  have hs := hs.step z16 (by omega) (by omega)
  refine aw_b (pc' := 26) (lv' := [(0, .ref a)]) (st' := [.ref a]) [(25, .aload_n 0, 1, .null)] (by decide +kernel) rfl ?_
  refine aw_gl (v := .ref (a + 1)) a 0 h0 eo_G_0 fgX2_10 rfl (by decide +kernel) ?_
  obtain ⟨r19, e20, hm⟩ := bn_x hm
  refine aw_cv (rest := []) (st1 := []) a 1 (kX1_serveAll e20 (h0.sub su_G_1_D) (Nat.le_trans hf (Nat.le_add_right _ _))) rfl rfl ckX1_serveAll lkX2_52 h0 eo_G_1 ⟨_, _, rfl⟩ nkX1_serveAll rfl rfl rfl (Nat.le_of_ble_eq_true rfl) (Nat.zero_le _) (Nat.zero_le _) (by decide +kernel) (fun H21 z22 => ?_)
  obtain ⟨z22, hn⟩ := z22
  obtain ⟨s23, e24, hm⟩ := bd_x hm
  have h0 := h0.mg su_G_1_D hn z22 rfl e24
  have hs := hs.step z22 (by omega) (by omega)
  refine aw_b (pc' := 33) (lv' := [(0, .ref a)]) (st' := [.ref a]) [(32, .aload_n 0, 1, .null)] (by decide +kernel) rfl ?_
  refine aw_gl (v := .ref (a + 34)) a 0 h0 eo_G_0 fgX2_19 rfl (by decide +kernel) ?_
  refine aw_b (pc' := 37) (lv' := [(0, .ref a)]) (st' := [.ref a, .ref (a + 34)]) [(36, .aload_n 0, 1, .null)] (by decide +kernel) rfl ?_
  refine aw_gl (v := .ref (a + 1)) a 0 h0 eo_G_0 fgX2_10 rfl (by decide +kernel) ?_
  obtain ⟨r25, e26, hm⟩ := bn_x hm
  refine aw_cv (rest := []) (st1 := []) a 34 (kX4_noteRound e26 (h0.sub su_G_34_R) (h0.sub su_G_1_D) (Nat.le_trans hf (Nat.le_add_right _ _)) (by omega)) rfl rfl ckX4_noteRound lkX2_55 h0 eo_G_34 ⟨_, _, rfl⟩ nkX4_noteRound rfl rfl rfl (Nat.le_of_ble_eq_true rfl) (Nat.zero_le _) (Nat.zero_le _) (by decide +kernel) (fun H27 z28 => ?_)
  obtain ⟨z28, hn⟩ := z28
  obtain ⟨s29, e30, hm⟩ := bd_x hm
  have h0 := h0.mg su_G_34_R hn z28 rfl e30
  have hs := hs.step z28 (by omega) (by omega)
  obtain rfl := Option.some.inj hm
  subst hQ
  exact aw_vret rfl (Nat.zero_le _) (Nat.zero_le _) (by decide +kernel) ⟨rfl, hs, h0⟩
def mX6_costOver : mt_ := (yX6_costOver, cX6_costOver, 5, some .int, [], { frames := 1, locals := 22, cells := 0, slots := 0 })
theorem ckX6_costOver : cokV_ mX6_costOver := ⟨⟨(uw_mem 1450 (by decide +kernel) (by decide +kernel)), (uw_mem 36 (by decide +kernel) (by decide +kernel)), by decide +kernel, by decide +kernel⟩, (uw_mem 1449 (by decide +kernel) (by decide +kernel)), (uw_mem 27 (by decide +kernel) (by decide +kernel))⟩
theorem nkX6_costOver : nok_ mX6_costOver 4 := by decide +kernel
theorem fgX6_11 : fok_ RX6 11 6 1 := ⟨_, _, _, rfl, by decide, (uw_mem 415 (by decide +kernel) (by decide +kernel)), wkX6⟩
theorem eo_T_0 : eo_ ly_T 0 6 fsX6 := rfl
theorem lkX6_50 : Cond.methodLink RX6 50 yX5_priceOf ∈ uw_ := (uw_mem 1451 (by decide +kernel) (by decide +kernel))
theorem fgX6_15 : fok_ RX6 15 6 2 := ⟨_, _, _, rfl, by decide, (uw_mem 416 (by decide +kernel) (by decide +kernel)), wkX6⟩
theorem kX6_costOver {E : ev_} {H : Heap} {a b : Nat} {s : st_} {t : st_} {i0 : Int32} {i1 : Int32} {i2 : Int32} {r : Int32} (hm : fX6_costOver s t i0 i1 i2 = some r) (h0 : has_ E H a ly_T s) (h1 : has_ E H b ly_S t) : sp_ E mX6_costOver [.ref a, .ref b, .int i0, .int i1, .int i2] H (po1 (.inl (some (.int r))) (fun Hn => sm_ H Hn 0 0)) := by
  refine sp_of (by decide +kernel) rfl rfl ?_
  generalize hQ : po1 _ _ = Q
  have hs : sm_ H H 0 0 := sm_.rfl'
  unfold fX6_costOver at hm
  refine aw_lv (lv' := [(0, .ref a), (1, .ref b), (2, .int i0), (3, .int i1), (4, .int i2)]) [0, 1, 2, 3, 4] rfl ?_
  refine aw_b (pc' := 2) (lv' := [(0, .ref a), (1, .ref b), (2, .int i0), (3, .int i1), (4, .int i2)]) (st' := [.ref a, .ref b]) [(0, .aload_n 1, 1, .null), (1, .aload_n 0, 1, .null)] (by decide +kernel) rfl ?_
  refine aw_gl (v := .ref (a + 1)) a 0 h0 eo_T_0 fgX6_11 rfl (by decide +kernel) ?_
  refine aw_b (pc' := 6) (lv' := [(0, .ref a), (1, .ref b), (2, .int i0), (3, .int i1), (4, .int i2)]) (st' := [.int i1, .ref (a + 1), .ref b]) [(5, .iload_n 3, 1, .null)] (by decide +kernel) rfl ?_
  obtain ⟨g1, hm⟩ := gd_x hm
  refine aw_ial a 1 h0 rfl g1 (by decide +kernel) ?_
  refine aw_b (pc' := 8) (lv' := [(0, .ref a), (1, .ref b), (2, .int i0), (3, .int i1), (4, .int i2)]) (st' := [.ref a, .int (s 1 (ix_ i1)), .ref b]) [(7, .aload_n 0, 1, .null)] (by decide +kernel) rfl ?_
  refine aw_gl (v := .ref (a + 1)) a 0 h0 eo_T_0 fgX6_11 rfl (by decide +kernel) ?_
  refine aw_b (pc' := 13) (lv' := [(0, .ref a), (1, .ref b), (2, .int i0), (3, .int i1), (4, .int i2)]) (st' := [.int i2, .ref (a + 1), .int (s 1 (ix_ i1)), .ref b]) [(11, .iload 4, 2, .null)] (by decide +kernel) rfl ?_
  obtain ⟨g2, hm⟩ := gd_x hm
  refine aw_ial a 1 h0 rfl g2 (by decide +kernel) ?_
  obtain ⟨r3, e4, hm⟩ := bn_x hm
  refine aw_cv (rest := []) (st1 := [.int r3]) b 0 (kX5_priceOf e4 h1) rfl rfl ckX5_priceOf lkX6_50 h1 eo_S_0 ⟨_, _, rfl⟩ nkX5_priceOf rfl rfl rfl (Nat.le_of_ble_eq_true rfl) (Nat.zero_le _) (Nat.zero_le _) (by decide +kernel) (fun H5 z6 => ?_)
  have h0 := h0.kept0 z6
  have h1 := h1.kept0 z6
  have hs := hs.step0 z6
  refine aw_b (pc' := 18) (lv' := [(0, .ref a), (1, .ref b), (2, .int i0), (3, .int i1), (4, .int i2)]) (st' := [.ref a, .int r3]) [(17, .aload_n 0, 1, .null)] (by decide +kernel) rfl ?_
  refine aw_gl (v := .ref (a + 2)) a 0 h0 eo_T_0 fgX6_15 rfl (by decide +kernel) ?_
  refine aw_b (pc' := 33) (lv' := [(0, .ref a), (1, .ref b), (2, .int i0), (3, .int i1), (4, .int i2)]) (st' := [.int (((i0 ||| ((1 : Int32) <<< (i2 &&& 31))) * (9 : Int32)) + i2), .ref (a + 2), .int r3]) [(21, .iload_n 2, 1, .null), (22, .iconst 1, 1, .int (1 : Int32)), (23, .iload 4, 2, .null), (25, .ishl, 1, .null), (26, .ior, 1, .null), (27, .bipush 9, 2, .int (9 : Int32)), (29, .imul, 1, .null), (30, .iload 4, 2, .null), (32, .iadd, 1, .null)] (by decide +kernel) rfl ?_
  obtain ⟨g7, hm⟩ := gd_x hm
  refine aw_ial a 2 h0 rfl g7 (by decide +kernel) ?_
  refine aw_b (pc' := 35) (lv' := [(0, .ref a), (1, .ref b), (2, .int i0), (3, .int i1), (4, .int i2)]) (st' := [.int (r3 + (s 2 (ix_ (((i0 ||| ((1 : Int32) <<< (i2 &&& 31))) * (9 : Int32)) + i2))))]) [(34, .iadd, 1, .null)] (by decide +kernel) rfl ?_
  obtain rfl := Option.some.inj hm
  subst hQ
  exact aw_iret rfl (Nat.zero_le _) (Nat.zero_le _) (by decide +kernel) ⟨rfl, hs⟩
def mX6_nextOf : mt_ := (yX6_nextOf, cX6_nextOf, 8, some .int, [], { frames := 2, locals := 46, cells := 0, slots := 0 })
theorem ckX6_nextOf : cokV_ mX6_nextOf := ⟨⟨(uw_mem 1446 (by decide +kernel) (by decide +kernel)), (uw_mem 36 (by decide +kernel) (by decide +kernel)), by decide +kernel, by decide +kernel⟩, (uw_mem 1445 (by decide +kernel) (by decide +kernel)), (uw_mem 26 (by decide +kernel) (by decide +kernel))⟩
theorem nkX6_nextOf : nok_ mX6_nextOf 3 := by decide +kernel
theorem fgX6_33 : fok_ RX6 33 6 0 := ⟨_, _, _, rfl, by decide, (uw_mem 414 (by decide +kernel) (by decide +kernel)), wkX6⟩
theorem lkX6_46 : Cond.methodLink RX6 46 yX6_costOver ∈ uw_ := (uw_mem 1447 (by decide +kernel) (by decide +kernel))
theorem kX6_nextOf {E : ev_} {H : Heap} {a b : Nat} {s : st_} {t : st_} {i0 : Int32} {i1 : Int32} {r : Int32} (hm : fX6_nextOf s t i0 i1 = some r) (h0 : has_ E H a ly_T s) (h1 : has_ E H b ly_S t) : sp_ E mX6_nextOf [.ref a, .ref b, .int i0, .int i1] H (po1 (.inl (some (.int r))) (fun Hn => sm_ H Hn 0 0)) := by
  refine sp_of (by decide +kernel) rfl rfl ?_
  generalize hQ : po1 _ _ = Q
  have hs : sm_ H H 0 0 := sm_.rfl'
  unfold fX6_nextOf at hm
  refine aw_lv (lv' := [(0, .ref a), (1, .ref b), (2, .int i0), (3, .int i1)]) [0, 1, 2, 3] rfl ?_
  refine aw_b (pc' := 9) (lv' := [(6, .int (0 : Int32)), (5, .int (0 : Int32)), (4, .int (-1 : Int32)), (0, .ref a), (1, .ref b), (2, .int i0), (3, .int i1)]) (st' := []) [(0, .iconst (-1), 1, .int (-1 : Int32)), (1, .istore 4, 2, .null), (3, .iconst 0, 1, .int (0 : Int32)), (4, .istore 5, 2, .null), (6, .iconst 0, 1, .int (0 : Int32)), (7, .istore 6, 2, .null)] (by decide +kernel) rfl ?_
  obtain ⟨x9, hx9, hr9⟩ := bn_x hm
  have X9_65 : ∀ (v4_x9_65 : Int32) (H_x9_65 : Heap), has_ E H_x9_65 a ly_T s → has_ E H_x9_65 b ly_S t → sm_ H H_x9_65 0 0 → fX6_nextOf_x9_65 v4_x9_65 = some r → aw E mX6_nextOf Q 65 [(4, .int v4_x9_65)] [] H_x9_65 0 0 := by
    intro v4_x9_65 H_x9_65 h0 h1 hs hm
    unfold fX6_nextOf_x9_65 at hm
    refine aw_b (pc' := 67) (lv' := [(4, .int v4_x9_65)]) (st' := [.int v4_x9_65]) [(65, .iload 4, 2, .null)] (by decide +kernel) rfl ?_
    obtain rfl := Option.some.inj hm
    subst hQ
    exact aw_iret rfl (Nat.zero_le _) (Nat.zero_le _) (by decide +kernel) ⟨rfl, hs⟩
  have L9 : ∀ (fu : Nat) (v4_b9 : Int32) (v5_b9 : Int32) (v6_b9 : Int32) (H_b9 : Heap), has_ E H_b9 a ly_T s → has_ E H_b9 b ly_S t → sm_ H H_b9 0 0 → fX6_nextOf_l9 s t i0 i1 fu (v4_b9, v5_b9, v6_b9) = some x9 → aw E mX6_nextOf Q 9 [(0, .ref a), (1, .ref b), (2, .int i0), (3, .int i1), (4, .int v4_b9), (5, .int v5_b9), (6, .int v6_b9)] [] H_b9 0 0 := by
    intro fu
    induction fu with
    | zero =>
      intro v4_b9 v5_b9 v6_b9 H_b9 h0 h1 hs hm
      exact (it_0 hm).elim
    | succ fu ih9 =>
      intro v4_b9 v5_b9 v6_b9 H_b9 h0 h1 hs hm
      obtain ⟨y9, hm, hk9⟩ := it_s hm
      have hm : fX6_nextOf_b9 s t i0 i1 v4_b9 v5_b9 v6_b9 = some y9 := hm
      unfold fX6_nextOf_b9 at hm
      refine aw_b (pc' := 12) (lv' := [(0, .ref a), (1, .ref b), (2, .int i0), (3, .int i1), (4, .int v4_b9), (5, .int v5_b9), (6, .int v6_b9)]) (st' := [.ref a, .int v6_b9]) [(9, .iload 6, 2, .null), (11, .aload_n 0, 1, .null)] (by decide +kernel) rfl ?_
      refine aw_gl (v := .int (s 0 0)) a 0 h0 eo_T_0 fgX6_33 rfl (by decide +kernel) ?_
      refine aw_ic_ge (off := 50) 65 (by decide) (by decide +kernel) (fun hc => ?_) (fun hc => ?_)
      · have hm := (if_pos hc).symm.trans hm
        cases hm
        refine aw_lv (lv' := [(4, .int v4_b9)]) [4] rfl ?_
        exact X9_65 v4_b9 H_b9 h0 h1 hs ((congrArg fX6_nextOf_k9 (show (v4_b9) = x9 from hk9)).trans hr9)
      · have hm := (if_neg hc).symm.trans hm
        refine aw_b (pc' := 24) (lv' := [(0, .ref a), (1, .ref b), (2, .int i0), (3, .int i1), (4, .int v4_b9), (5, .int v5_b9), (6, .int v6_b9)]) (st' := [.int (i0 &&& ((1 : Int32) <<< (v6_b9 &&& 31)))]) [(18, .iload_n 2, 1, .null), (19, .iconst 1, 1, .int (1 : Int32)), (20, .iload 6, 2, .null), (22, .ishl, 1, .null), (23, .iand, 1, .null)] (by decide +kernel) rfl ?_
        have J59 : ∀ (v4_j59 : Int32) (v5_j59 : Int32) (H_j59 : Heap), has_ E H_j59 a ly_T s → has_ E H_j59 b ly_S t → sm_ H H_j59 0 0 → fX6_nextOf_j59 v6_b9 v4_j59 v5_j59 = some y9 → aw E mX6_nextOf Q 59 [(0, .ref a), (1, .ref b), (2, .int i0), (3, .int i1), (4, .int v4_j59), (5, .int v5_j59), (6, .int v6_b9)] [] H_j59 0 0 := by
          intro v4_j59 v5_j59 H_j59 h0 h1 hs hm
          unfold fX6_nextOf_j59 at hm
          refine aw_b (pc' := 9) (lv' := [(6, .int (v6_b9 + (1 : Int32))), (0, .ref a), (1, .ref b), (2, .int i0), (3, .int i1), (4, .int v4_j59), (5, .int v5_j59)]) (st' := []) [(59, .iinc 6 1, 3, .int (1 : Int32)), (62, .goto (-53), 3, .null)] (by decide +kernel) rfl ?_
          cases hm
          refine aw_lv (lv' := [(0, .ref a), (1, .ref b), (2, .int i0), (3, .int i1), (4, .int v4_j59), (5, .int v5_j59), (6, .int (v6_b9 + (1 : Int32)))]) [1, 2, 3, 4, 5, 6, 0] rfl ?_
          exact ih9 v4_j59 v5_j59 (v6_b9 + (1 : Int32)) H_j59 h0 h1 hs hk9
        refine aw_if_ne (off := 35) 59 (by decide) (by decide +kernel) (fun hc => ?_) (fun hc => ?_)
        · have hm := (if_neg hc).symm.trans hm
          exact J59 v4_b9 v5_b9 H_b9 h0 h1 hs hm
        · have hm := (if_pos hc).symm.trans hm
          refine aw_b (pc' := 33) (lv' := [(0, .ref a), (1, .ref b), (2, .int i0), (3, .int i1), (4, .int v4_b9), (5, .int v5_b9), (6, .int v6_b9)]) (st' := [.int v6_b9, .int i1, .int i0, .ref b, .ref a]) [(27, .aload_n 0, 1, .null), (28, .aload_n 1, 1, .null), (29, .iload_n 2, 1, .null), (30, .iload_n 3, 1, .null), (31, .iload 6, 2, .null)] (by decide +kernel) rfl ?_
          obtain ⟨r1, e2, hm⟩ := bn_x hm
          refine aw_cv (rest := []) (st1 := [.int r1]) a 0 (kX6_costOver e2 h0 h1) rfl rfl ckX6_costOver lkX6_46 h0 eo_T_0 ⟨_, _, rfl⟩ nkX6_costOver rfl rfl rfl (Nat.le_of_ble_eq_true rfl) (Nat.zero_le _) (Nat.zero_le _) (by decide +kernel) (fun H3 z4 => ?_)
          have h0 := h0.kept0 z4
          have h1 := h1.kept0 z4
          have hs := hs.step0 z4
          refine aw_b (pc' := 41) (lv' := [(7, .int r1), (0, .ref a), (1, .ref b), (2, .int i0), (3, .int i1), (4, .int v4_b9), (5, .int v5_b9), (6, .int v6_b9)]) (st' := [.int (-1 : Int32), .int v4_b9]) [(36, .istore 7, 2, .null), (38, .iload 4, 2, .null), (40, .iconst (-1), 1, .int (-1 : Int32))] (by decide +kernel) rfl ?_
          have J51 : ∀ (H_j51 : Heap), has_ E H_j51 a ly_T s → has_ E H_j51 b ly_S t → sm_ H H_j51 0 0 → fX6_nextOf_j51 v6_b9 r1 = some y9 → aw E mX6_nextOf Q 51 [(0, .ref a), (1, .ref b), (2, .int i0), (3, .int i1), (6, .int v6_b9), (7, .int r1)] [] H_j51 0 0 := by
            intro H_j51 h0 h1 hs hm
            unfold fX6_nextOf_j51 at hm
            refine aw_b (pc' := 59) (lv' := [(5, .int r1), (4, .int v6_b9), (0, .ref a), (1, .ref b), (2, .int i0), (3, .int i1), (6, .int v6_b9), (7, .int r1)]) (st' := []) [(51, .iload 6, 2, .null), (53, .istore 4, 2, .null), (55, .iload 7, 2, .null), (57, .istore 5, 2, .null)] (by decide +kernel) rfl ?_
            refine aw_lv (lv' := [(0, .ref a), (1, .ref b), (2, .int i0), (3, .int i1), (4, .int v6_b9), (5, .int r1), (6, .int v6_b9)]) [2, 3, 4, 5, 1, 0, 6] rfl ?_
            exact J59 v6_b9 r1 H_j51 h0 h1 hs hm
          refine aw_ic_eq (off := 10) 51 (by decide) (by decide +kernel) (fun hc => ?_) (fun hc => ?_)
          · have hm := (if_pos hc).symm.trans hm
            refine aw_lv (lv' := [(0, .ref a), (1, .ref b), (2, .int i0), (3, .int i1), (6, .int v6_b9), (7, .int r1)]) [1, 2, 3, 4, 7, 0] rfl ?_
            exact J51 H3 h0 h1 hs hm
          · have hm := (if_neg hc).symm.trans hm
            refine aw_b (pc' := 48) (lv' := [(7, .int r1), (0, .ref a), (1, .ref b), (2, .int i0), (3, .int i1), (4, .int v4_b9), (5, .int v5_b9), (6, .int v6_b9)]) (st' := [.int v5_b9, .int r1]) [(44, .iload 7, 2, .null), (46, .iload 5, 2, .null)] (by decide +kernel) rfl ?_
            refine aw_ic_ge (off := 11) 59 (by decide) (by decide +kernel) (fun hc => ?_) (fun hc => ?_)
            · have hm := (if_pos hc).symm.trans hm
              refine aw_lv (lv' := [(0, .ref a), (1, .ref b), (2, .int i0), (3, .int i1), (4, .int v4_b9), (5, .int v5_b9), (6, .int v6_b9)]) [1, 2, 3, 4, 5, 6, 7] rfl ?_
              exact J59 v4_b9 v5_b9 H3 h0 h1 hs hm
            · have hm := (if_neg hc).symm.trans hm
              refine aw_lv (lv' := [(0, .ref a), (1, .ref b), (2, .int i0), (3, .int i1), (6, .int v6_b9), (7, .int r1)]) [1, 2, 3, 4, 7, 0] rfl ?_
              exact J51 H3 h0 h1 hs hm
  refine aw_lv (lv' := [(0, .ref a), (1, .ref b), (2, .int i0), (3, .int i1), (4, .int (-1 : Int32)), (5, .int (0 : Int32)), (6, .int (0 : Int32))]) [3, 4, 5, 6, 2, 1, 0] rfl ?_
  exact L9 FU_ (-1 : Int32) (0 : Int32) (0 : Int32) H h0 h1 hs hx9
def mX6_plan : mt_ := (yX6_plan, cX6_plan, 8, none, [], { frames := 3, locals := 73, cells := 0, slots := 0 })
theorem ckX6_plan : cokV_ mX6_plan := ⟨⟨(uw_mem 1440 (by decide +kernel) (by decide +kernel)), (uw_mem 36 (by decide +kernel) (by decide +kernel)), by decide +kernel, by decide +kernel⟩, (uw_mem 1438 (by decide +kernel) (by decide +kernel)), (uw_mem 1439 (by decide +kernel) (by decide +kernel))⟩
theorem nkX6_plan : nok_ mX6_plan 3 := by decide +kernel
theorem fgX6_18 : fok_ RX6 18 0 2 := ⟨_, _, _, rfl, by decide, (uw_mem 227 (by decide +kernel) (by decide +kernel)), wkX0⟩
theorem mtX6_24 : ml_ RX6 24 Lib.Math.min.name Lib.Math.min.code 2 .int := ⟨(uw_mem 1441 (by decide +kernel) (by decide +kernel)), (uw_mem 632 (by decide +kernel) (by decide +kernel)), (uw_mem 38 (by decide +kernel) (by decide +kernel)), (uw_mem 633 (by decide +kernel) (by decide +kernel))⟩
theorem mtX6_30 : ml_ RX6 30 Lib.Math.max.name Lib.Math.max.code 2 .int := ⟨(uw_mem 1442 (by decide +kernel) (by decide +kernel)), (uw_mem 768 (by decide +kernel) (by decide +kernel)), (uw_mem 38 (by decide +kernel) (by decide +kernel)), (uw_mem 769 (by decide +kernel) (by decide +kernel))⟩
theorem fpX6_33 : fpk_ RX6 33 6 0 .int := ⟨_, _, _, tyX6, rfl, by decide, (uw_mem 414 (by decide +kernel) (by decide +kernel)), wkX6, tyX6_ok, nmX6, rfl, by decide +kernel⟩
theorem fsq_6_0 : fsp_ fsX6 0 := ⟨fun _ _ => rfl, fun _ _ _ => rfl⟩
theorem fgX6_39 : fok_ RX6 39 0 0 := ⟨_, _, _, rfl, by decide, (uw_mem 222 (by decide +kernel) (by decide +kernel)), wkX0⟩
theorem lkX6_42 : Cond.methodLink RX6 42 yX6_nextOf ∈ uw_ := (uw_mem 1443 (by decide +kernel) (by decide +kernel))
theorem fgX6_36 : fok_ RX6 36 0 3 := ⟨_, _, _, rfl, by decide, (uw_mem 232 (by decide +kernel) (by decide +kernel)), wkX0⟩
theorem kX6_plan {E : ev_} {H : Heap} {a b c : Nat} {s : st_} {t : st_} {u : st_} {i0 : Int32} {r : st_} (hm : fX6_plan s t u i0 = some r) (h0 : has_ E H a ly_T s) (h1 : has_ E H b ly_S t) (h2 : has_ E H c ly_A u) (hf : ev_fr E a) (d1 : a + 3 ≤ b ∨ b + 4 ≤ a) (d2 : a + 3 ≤ c ∨ c + 3 ≤ a) : sp_ E mX6_plan [.ref a, .ref b, .ref c, .int i0] H (po1 (.inl (none)) (fun Hn => sm_ H Hn a 3 ∧ has_ E Hn a ly_T r)) := by
  refine sp_of (by decide +kernel) rfl rfl ?_
  generalize hQ : po1 _ _ = Q
  have hs : sm_ H H a 3 := sm_.rfl'
  unfold fX6_plan at hm
  refine aw_lv (lv' := [(0, .ref a), (1, .ref b), (2, .ref c), (3, .int i0)]) [0, 1, 2, 3] rfl ?_
  refine aw_b (pc' := 4) (lv' := [(0, .ref a), (1, .ref b), (2, .ref c), (3, .int i0)]) (st' := [.ref c, .int i0, .int (0 : Int32), .ref a]) [(0, .aload_n 0, 1, .null), (1, .iconst 0, 1, .int (0 : Int32)), (2, .iload_n 3, 1, .null), (3, .aload_n 2, 1, .null)] (by decide +kernel) rfl ?_
  refine aw_gl (v := .int (u 0 2)) c 0 h2 eo_A_0 fgX6_18 rfl (by decide +kernel) ?_
  refine aw_b (pc' := 9) (lv' := [(0, .ref a), (1, .ref b), (2, .ref c), (3, .int i0)]) (st' := [.int (8 : Int32), .int (u 0 2), .int i0, .int (0 : Int32), .ref a]) [(7, .bipush 8, 2, .int (8 : Int32))] (by decide +kernel) rfl ?_
  refine aw_mn (rest := [.int i0, .int (0 : Int32), .ref a]) mtX6_24 rfl (Nat.le_of_ble_eq_true rfl) (Nat.zero_le _) (Nat.zero_le _) (by decide +kernel) ?_
  refine aw_mn (rest := [.int (0 : Int32), .ref a]) mtX6_24 rfl (Nat.le_of_ble_eq_true rfl) (Nat.zero_le _) (Nat.zero_le _) (by decide +kernel) ?_
  refine aw_mx (rest := [.ref a]) mtX6_30 rfl (Nat.le_of_ble_eq_true rfl) (Nat.zero_le _) (Nat.zero_le _) (by decide +kernel) ?_
  obtain ⟨s1, e2, hm⟩ := bd_x hm
  refine aw_pl a 0 h0 eo_T_0 fsq_6_0 fpX6_33 hf rfl rfl e2 (by decide +kernel) (fun H3 h0 z4 => ?_)
  have h1 := h1.kept (n := 4) z4 rfl (by omega)
  have h2 := h2.kept (n := 3) z4 rfl (by omega)
  have hs := hs.step z4 (by omega) (by omega)
  refine aw_b (pc' := 24) (lv' := [(4, .int (0 : Int32)), (0, .ref a), (1, .ref b), (2, .ref c), (3, .int i0)]) (st' := []) [(21, .iconst 0, 1, .int (0 : Int32)), (22, .istore 4, 2, .null)] (by decide +kernel) rfl ?_
  obtain ⟨x24, hx24, hr24⟩ := bn_x hm
  have X24_53 : ∀ (s_x24_53 : st_) (H_x24_53 : Heap), has_ E H_x24_53 a ly_T s_x24_53 → has_ E H_x24_53 b ly_S t → has_ E H_x24_53 c ly_A u → sm_ H H_x24_53 a 3 → fX6_plan_x24_53 t u s_x24_53 = some r → aw E mX6_plan Q 53 [(0, .ref a), (1, .ref b), (2, .ref c)] [] H_x24_53 0 0 := by
    intro s_x24_53 H_x24_53 h0 h1 h2 hs hm
    unfold fX6_plan_x24_53 at hm
    refine aw_b (pc' := 54) (lv' := [(0, .ref a), (1, .ref b), (2, .ref c)]) (st' := [.ref a]) [(53, .aload_n 0, 1, .null)] (by decide +kernel) rfl ?_
    refine aw_gl (v := .ref (a + 1)) a 0 h0 eo_T_0 fgX6_11 rfl (by decide +kernel) ?_
    refine aw_b (pc' := 58) (lv' := [(0, .ref a), (1, .ref b), (2, .ref c)]) (st' := [.ref a, .ref (a + 1)]) [(57, .aload_n 0, 1, .null)] (by decide +kernel) rfl ?_
    refine aw_gl (v := .int (s_x24_53 0 0)) a 0 h0 eo_T_0 fgX6_33 rfl (by decide +kernel) ?_
    refine aw_b (pc' := 62) (lv' := [(0, .ref a), (1, .ref b), (2, .ref c)]) (st' := [.ref c, .int (s_x24_53 0 0), .ref (a + 1)]) [(61, .aload_n 2, 1, .null)] (by decide +kernel) rfl ?_
    refine aw_gl (v := .int (u 0 0)) c 0 h2 eo_A_0 fgX6_39 rfl (by decide +kernel) ?_
    obtain ⟨g5, hm⟩ := gd_x hm
    obtain ⟨s6, e7, hm⟩ := bd_x hm
    refine aw_isl a 1 h0 rfl hf g5 e7 (by decide +kernel) (fun H8 h0 z9 => ?_)
    have h1 := h1.kept (n := 4) z9 rfl (by omega)
    have h2 := h2.kept (n := 3) z9 rfl (by omega)
    have hs := hs.step z9 (by omega) (by omega)
    refine aw_b (pc' := 68) (lv' := [(0, .ref a), (1, .ref b), (2, .ref c)]) (st' := [.ref a, .int (1 : Int32)]) [(66, .iconst 1, 1, .int (1 : Int32)), (67, .aload_n 0, 1, .null)] (by decide +kernel) rfl ?_
    refine aw_gl (v := .int (s6 0 0)) a 0 h0 eo_T_0 fgX6_33 rfl (by decide +kernel) ?_
    refine aw_b (pc' := 80) (lv' := [(5, .int (((1 : Int32) <<< ((s6 0 0) &&& 31)) - (1 : Int32))), (4, .int (((1 : Int32) <<< ((s6 0 0) &&& 31)) - (1 : Int32))), (0, .ref a), (1, .ref b), (2, .ref c)]) (st' := []) [(71, .ishl, 1, .null), (72, .iconst 1, 1, .int (1 : Int32)), (73, .isub, 1, .null), (74, .istore 4, 2, .null), (76, .iload 4, 2, .null), (78, .istore 5, 2, .null)] (by decide +kernel) rfl ?_
    obtain ⟨x80, hx80, hr80⟩ := bn_x hm
    have X80_154 : ∀ (s_x80_154 : st_) (H_x80_154 : Heap), has_ E H_x80_154 a ly_T s_x80_154 → has_ E H_x80_154 b ly_S t → has_ E H_x80_154 c ly_A u → sm_ H H_x80_154 a 3 → fX6_plan_x80_154 s_x80_154 = some r → aw E mX6_plan Q 154 [] [] H_x80_154 0 0 := by
      intro s_x80_154 H_x80_154 h0 h1 h2 hs hm
      unfold fX6_plan_x80_154 at hm
      obtain rfl := Option.some.inj hm
      subst hQ
      exact aw_vret rfl (Nat.zero_le _) (Nat.zero_le _) (by decide +kernel) ⟨rfl, hs, h0⟩
    have L80 : ∀ (fu : Nat) (v5_b80 : Int32) (s_b80 : st_) (H_b80 : Heap), has_ E H_b80 a ly_T s_b80 → has_ E H_b80 b ly_S t → has_ E H_b80 c ly_A u → sm_ H H_b80 a 3 → fX6_plan_l80 t fu (v5_b80, s_b80) = some x80 → aw E mX6_plan Q 80 [(0, .ref a), (1, .ref b), (5, .int v5_b80)] [] H_b80 0 0 := by
      intro fu
      induction fu with
      | zero =>
        intro v5_b80 s_b80 H_b80 h0 h1 h2 hs hm
        exact (it_0 hm).elim
      | succ fu ih80 =>
        intro v5_b80 s_b80 H_b80 h0 h1 h2 hs hm
        obtain ⟨y80, hm, hk80⟩ := it_s hm
        have hm : fX6_plan_b80 t v5_b80 s_b80 = some y80 := hm
        unfold fX6_plan_b80 at hm
        refine aw_b (pc' := 82) (lv' := [(0, .ref a), (1, .ref b), (5, .int v5_b80)]) (st' := [.int v5_b80]) [(80, .iload 5, 2, .null)] (by decide +kernel) rfl ?_
        refine aw_if_lt (off := 72) 154 (by decide) (by decide +kernel) (fun hc => ?_) (fun hc => ?_)
        · have hm := (if_pos hc).symm.trans hm
          cases hm
          refine aw_lv (lv' := []) [] rfl ?_
          exact X80_154 s_b80 H_b80 h0 h1 h2 hs ((congrArg fX6_plan_k80 (show (s_b80) = x80 from hk80)).trans hr80)
        · have hm := (if_neg hc).symm.trans hm
          refine aw_b (pc' := 88) (lv' := [(6, .int (0 : Int32)), (0, .ref a), (1, .ref b), (5, .int v5_b80)]) (st' := []) [(85, .iconst 0, 1, .int (0 : Int32)), (86, .istore 6, 2, .null)] (by decide +kernel) rfl ?_
          obtain ⟨x88, hx88, hr88⟩ := bn_x hm
          have X88_148 : ∀ (s_x88_148 : st_) (H_x88_148 : Heap), has_ E H_x88_148 a ly_T s_x88_148 → has_ E H_x88_148 b ly_S t → has_ E H_x88_148 c ly_A u → sm_ H H_x88_148 a 3 → fX6_plan_x88_148 v5_b80 s_x88_148 = some y80 → aw E mX6_plan Q 148 [(0, .ref a), (1, .ref b), (5, .int v5_b80)] [] H_x88_148 0 0 := by
            intro s_x88_148 H_x88_148 h0 h1 h2 hs hm
            unfold fX6_plan_x88_148 at hm
            refine aw_b (pc' := 80) (lv' := [(5, .int (v5_b80 + (-1 : Int32))), (0, .ref a), (1, .ref b)]) (st' := []) [(148, .iinc 5 (-1), 3, .int (-1 : Int32)), (151, .goto (-71), 3, .null)] (by decide +kernel) rfl ?_
            cases hm
            refine aw_lv (lv' := [(0, .ref a), (1, .ref b), (5, .int (v5_b80 + (-1 : Int32)))]) [1, 2, 0] rfl ?_
            exact ih80 (v5_b80 + (-1 : Int32)) s_x88_148 H_x88_148 h0 h1 h2 hs hk80
          have L88 : ∀ (fu : Nat) (v6_b88 : Int32) (s_b88 : st_) (H_b88 : Heap), has_ E H_b88 a ly_T s_b88 → has_ E H_b88 b ly_S t → has_ E H_b88 c ly_A u → sm_ H H_b88 a 3 → fX6_plan_l88 t v5_b80 fu (v6_b88, s_b88) = some x88 → aw E mX6_plan Q 88 [(0, .ref a), (1, .ref b), (5, .int v5_b80), (6, .int v6_b88)] [] H_b88 0 0 := by
            intro fu
            induction fu with
            | zero =>
              intro v6_b88 s_b88 H_b88 h0 h1 h2 hs hm
              exact (it_0 hm).elim
            | succ fu ih88 =>
              intro v6_b88 s_b88 H_b88 h0 h1 h2 hs hm
              obtain ⟨y88, hm, hk88⟩ := it_s hm
              have hm : fX6_plan_b88 t v5_b80 v6_b88 s_b88 = some y88 := hm
              unfold fX6_plan_b88 at hm
              refine aw_b (pc' := 91) (lv' := [(0, .ref a), (1, .ref b), (5, .int v5_b80), (6, .int v6_b88)]) (st' := [.ref a, .int v6_b88]) [(88, .iload 6, 2, .null), (90, .aload_n 0, 1, .null)] (by decide +kernel) rfl ?_
              refine aw_gl (v := .int (s_b88 0 0)) a 0 h0 eo_T_0 fgX6_33 rfl (by decide +kernel) ?_
              refine aw_ic_gt (off := 54) 148 (by decide) (by decide +kernel) (fun hc => ?_) (fun hc => ?_)
              · have hm := (if_pos hc).symm.trans hm
                cases hm
                refine aw_lv (lv' := [(0, .ref a), (1, .ref b), (5, .int v5_b80)]) [0, 1, 2] rfl ?_
                exact X88_148 s_b88 H_b88 h0 h1 h2 hs ((congrArg (fX6_plan_k88 v5_b80) (show (s_b88) = x88 from hk88)).trans hr88)
              · have hm := (if_neg hc).symm.trans hm
                refine aw_b (pc' := 103) (lv' := [(0, .ref a), (1, .ref b), (5, .int v5_b80), (6, .int v6_b88)]) (st' := [.int v6_b88, .int v5_b80, .ref b, .ref a]) [(97, .aload_n 0, 1, .null), (98, .aload_n 1, 1, .null), (99, .iload 5, 2, .null), (101, .iload 6, 2, .null)] (by decide +kernel) rfl ?_
                obtain ⟨r10, e11, hm⟩ := bn_x hm
                refine aw_cv (rest := []) (st1 := [.int r10]) a 0 (kX6_nextOf e11 h0 h1) rfl rfl ckX6_nextOf lkX6_42 h0 eo_T_0 ⟨_, _, rfl⟩ nkX6_nextOf rfl rfl rfl (Nat.le_of_ble_eq_true rfl) (Nat.zero_le _) (Nat.zero_le _) (by decide +kernel) (fun H12 z13 => ?_)
                have h0 := h0.kept0 z13
                have h1 := h1.kept0 z13
                have h2 := h2.kept0 z13
                have hs := hs.step0 z13
                refine aw_b (pc' := 109) (lv' := [(7, .int r10), (0, .ref a), (1, .ref b), (5, .int v5_b80), (6, .int v6_b88)]) (st' := [.ref a]) [(106, .istore 7, 2, .null), (108, .aload_n 0, 1, .null)] (by decide +kernel) rfl ?_
                refine aw_gl (v := .ref (a + 2)) a 0 h0 eo_T_0 fgX6_15 rfl (by decide +kernel) ?_
                refine aw_b (pc' := 123) (lv' := [(7, .int r10), (0, .ref a), (1, .ref b), (5, .int v5_b80), (6, .int v6_b88)]) (st' := [.int (-1 : Int32), .int r10, .int ((v5_b80 * (9 : Int32)) + v6_b88), .ref (a + 2)]) [(112, .iload 5, 2, .null), (114, .bipush 9, 2, .int (9 : Int32)), (116, .imul, 1, .null), (117, .iload 6, 2, .null), (119, .iadd, 1, .null), (120, .iload 7, 2, .null), (122, .iconst (-1), 1, .int (-1 : Int32))] (by decide +kernel) rfl ?_
                have J141 : ∀ (z2_j141 : Int32) (H_j141 : Heap), has_ E H_j141 a ly_T s_b88 → has_ E H_j141 b ly_S t → has_ E H_j141 c ly_A u → sm_ H H_j141 a 3 → fX6_plan_j141 v5_b80 v6_b88 s_b88 z2_j141 = some y88 → aw E mX6_plan Q 141 [(0, .ref a), (1, .ref b), (5, .int v5_b80), (6, .int v6_b88)] [.int z2_j141, .int ((v5_b80 * (9 : Int32)) + v6_b88), .ref (a + 2)] H_j141 0 0 := by
                  intro z2_j141 H_j141 h0 h1 h2 hs hm
                  unfold fX6_plan_j141 at hm
                  obtain ⟨g14, hm⟩ := gd_x hm
                  obtain ⟨s15, e16, hm⟩ := bd_x hm
                  refine aw_isl a 2 h0 rfl hf g14 e16 (by decide +kernel) (fun H17 h0 z18 => ?_)
                  have h1 := h1.kept (n := 4) z18 rfl (by omega)
                  have h2 := h2.kept (n := 3) z18 rfl (by omega)
                  have hs := hs.step z18 (by omega) (by omega)
                  refine aw_b (pc' := 88) (lv' := [(6, .int (v6_b88 + (1 : Int32))), (0, .ref a), (1, .ref b), (5, .int v5_b80)]) (st' := []) [(142, .iinc 6 1, 3, .int (1 : Int32)), (145, .goto (-57), 3, .null)] (by decide +kernel) rfl ?_
                  cases hm
                  refine aw_lv (lv' := [(0, .ref a), (1, .ref b), (5, .int v5_b80), (6, .int (v6_b88 + (1 : Int32)))]) [1, 2, 3, 0] rfl ?_
                  exact ih88 (v6_b88 + (1 : Int32)) s15 H17 h0 h1 h2 hs hk88
                refine aw_ic_ne (off := 7) 130 (by decide) (by decide +kernel) (fun hc => ?_) (fun hc => ?_)
                · have hm := (if_neg hc).symm.trans hm
                  refine aw_b (pc' := 138) (lv' := [(7, .int r10), (0, .ref a), (1, .ref b), (5, .int v5_b80), (6, .int v6_b88)]) (st' := [.int r10, .int v6_b88, .int v5_b80, .ref b, .ref a, .int ((v5_b80 * (9 : Int32)) + v6_b88), .ref (a + 2)]) [(130, .aload_n 0, 1, .null), (131, .aload_n 1, 1, .null), (132, .iload 5, 2, .null), (134, .iload 6, 2, .null), (136, .iload 7, 2, .null)] (by decide +kernel) rfl ?_
                  obtain ⟨r19, e20, hm⟩ := bn_x hm
                  refine aw_cv (rest := [.int ((v5_b80 * (9 : Int32)) + v6_b88), .ref (a + 2)]) (st1 := [.int r19, .int ((v5_b80 * (9 : Int32)) + v6_b88), .ref (a + 2)]) a 0 (kX6_costOver e20 h0 h1) rfl rfl ckX6_costOver lkX6_46 h0 eo_T_0 ⟨_, _, rfl⟩ nkX6_costOver rfl rfl rfl (Nat.le_of_ble_eq_true rfl) (Nat.zero_le _) (Nat.zero_le _) (by decide +kernel) (fun H21 z22 => ?_)
                  have h0 := h0.kept0 z22
                  have h1 := h1.kept0 z22
                  have h2 := h2.kept0 z22
                  have hs := hs.step0 z22
                  refine aw_lv (lv' := [(0, .ref a), (1, .ref b), (5, .int v5_b80), (6, .int v6_b88)]) [1, 2, 3, 4] rfl ?_
                  exact J141 r19 H21 h0 h1 h2 hs hm
                · have hm := (if_pos hc).symm.trans hm
                  refine aw_b (pc' := 141) (lv' := [(7, .int r10), (0, .ref a), (1, .ref b), (5, .int v5_b80), (6, .int v6_b88)]) (st' := [.int (0 : Int32), .int ((v5_b80 * (9 : Int32)) + v6_b88), .ref (a + 2)]) [(126, .iconst 0, 1, .int (0 : Int32)), (127, .goto 14, 3, .null)] (by decide +kernel) rfl ?_
                  refine aw_lv (lv' := [(0, .ref a), (1, .ref b), (5, .int v5_b80), (6, .int v6_b88)]) [1, 2, 3, 4] rfl ?_
                  exact J141 (0 : Int32) H12 h0 h1 h2 hs hm
          refine aw_lv (lv' := [(0, .ref a), (1, .ref b), (5, .int v5_b80), (6, .int (0 : Int32))]) [1, 2, 3, 0] rfl ?_
          exact L88 FU_ (0 : Int32) s_b80 H_b80 h0 h1 h2 hs hx88
    refine aw_lv (lv' := [(0, .ref a), (1, .ref b), (5, .int (((1 : Int32) <<< ((s6 0 0) &&& 31)) - (1 : Int32)))]) [2, 3, 0] rfl ?_
    exact L80 FU_ (((1 : Int32) <<< ((s6 0 0) &&& 31)) - (1 : Int32)) s6 H8 h0 h1 h2 hs hx80
  have L24 : ∀ (fu : Nat) (v4_b24 : Int32) (s_b24 : st_) (H_b24 : Heap), has_ E H_b24 a ly_T s_b24 → has_ E H_b24 b ly_S t → has_ E H_b24 c ly_A u → sm_ H H_b24 a 3 → fX6_plan_l24 u fu (v4_b24, s_b24) = some x24 → aw E mX6_plan Q 24 [(0, .ref a), (1, .ref b), (2, .ref c), (4, .int v4_b24)] [] H_b24 0 0 := by
    intro fu
    induction fu with
    | zero =>
      intro v4_b24 s_b24 H_b24 h0 h1 h2 hs hm
      exact (it_0 hm).elim
    | succ fu ih24 =>
      intro v4_b24 s_b24 H_b24 h0 h1 h2 hs hm
      obtain ⟨y24, hm, hk24⟩ := it_s hm
      have hm : fX6_plan_b24 u v4_b24 s_b24 = some y24 := hm
      unfold fX6_plan_b24 at hm
      refine aw_b (pc' := 27) (lv' := [(0, .ref a), (1, .ref b), (2, .ref c), (4, .int v4_b24)]) (st' := [.ref a, .int v4_b24]) [(24, .iload 4, 2, .null), (26, .aload_n 0, 1, .null)] (by decide +kernel) rfl ?_
      refine aw_gl (v := .int (s_b24 0 0)) a 0 h0 eo_T_0 fgX6_33 rfl (by decide +kernel) ?_
      refine aw_ic_ge (off := 23) 53 (by decide) (by decide +kernel) (fun hc => ?_) (fun hc => ?_)
      · have hm := (if_pos hc).symm.trans hm
        cases hm
        refine aw_lv (lv' := [(0, .ref a), (1, .ref b), (2, .ref c)]) [0, 1, 2] rfl ?_
        exact X24_53 s_b24 H_b24 h0 h1 h2 hs ((congrArg (fX6_plan_k24 t u) (show (s_b24) = x24 from hk24)).trans hr24)
      · have hm := (if_neg hc).symm.trans hm
        refine aw_b (pc' := 34) (lv' := [(0, .ref a), (1, .ref b), (2, .ref c), (4, .int v4_b24)]) (st' := [.ref a]) [(33, .aload_n 0, 1, .null)] (by decide +kernel) rfl ?_
        refine aw_gl (v := .ref (a + 1)) a 0 h0 eo_T_0 fgX6_11 rfl (by decide +kernel) ?_
        refine aw_b (pc' := 40) (lv' := [(0, .ref a), (1, .ref b), (2, .ref c), (4, .int v4_b24)]) (st' := [.ref c, .int v4_b24, .ref (a + 1)]) [(37, .iload 4, 2, .null), (39, .aload_n 2, 1, .null)] (by decide +kernel) rfl ?_
        refine aw_gl (v := .ref (c + 1)) c 0 h2 eo_A_0 fgX6_36 rfl (by decide +kernel) ?_
        refine aw_b (pc' := 45) (lv' := [(0, .ref a), (1, .ref b), (2, .ref c), (4, .int v4_b24)]) (st' := [.int v4_b24, .ref (c + 1), .int v4_b24, .ref (a + 1)]) [(43, .iload 4, 2, .null)] (by decide +kernel) rfl ?_
        obtain ⟨g23, hm⟩ := gd_x hm
        refine aw_ial c 1 h2 rfl g23 (by decide +kernel) ?_
        obtain ⟨g24, hm⟩ := gd_x hm
        obtain ⟨s25, e26, hm⟩ := bd_x hm
        refine aw_isl a 1 h0 rfl hf g24 e26 (by decide +kernel) (fun H27 h0 z28 => ?_)
        have h1 := h1.kept (n := 4) z28 rfl (by omega)
        have h2 := h2.kept (n := 3) z28 rfl (by omega)
        have hs := hs.step z28 (by omega) (by omega)
        refine aw_b (pc' := 24) (lv' := [(4, .int (v4_b24 + (1 : Int32))), (0, .ref a), (1, .ref b), (2, .ref c)]) (st' := []) [(47, .iinc 4 1, 3, .int (1 : Int32)), (50, .goto (-26), 3, .null)] (by decide +kernel) rfl ?_
        cases hm
        refine aw_lv (lv' := [(0, .ref a), (1, .ref b), (2, .ref c), (4, .int (v4_b24 + (1 : Int32)))]) [1, 2, 3, 0] rfl ?_
        exact ih24 (v4_b24 + (1 : Int32)) s25 H27 h0 h1 h2 hs hk24
  refine aw_lv (lv' := [(0, .ref a), (1, .ref b), (2, .ref c), (4, .int (0 : Int32))]) [1, 2, 3, 0] rfl ?_
  exact L24 FU_ (0 : Int32) s1 H3 h0 h1 h2 hs hx24
def mX6_leastCost : mt_ := (yX6_leastCost, cX6_leastCost, 1, some .int, [], { frames := 0, locals := 0, cells := 0, slots := 0 })
theorem ckX6_leastCost : cokV_ mX6_leastCost := ⟨⟨(uw_mem 1455 (by decide +kernel) (by decide +kernel)), (uw_mem 36 (by decide +kernel) (by decide +kernel)), by decide +kernel, by decide +kernel⟩, (uw_mem 1453 (by decide +kernel) (by decide +kernel)), (uw_mem 1454 (by decide +kernel) (by decide +kernel))⟩
theorem nkX6_leastCost : nok_ mX6_leastCost 0 := by decide +kernel
theorem kX6_leastCost {E : ev_} {H : Heap} {a : Nat} {s : st_} {r : Int32} (hm : fX6_leastCost s = some r) (h0 : has_ E H a ly_T s) : sp_ E mX6_leastCost [.ref a] H (po1 (.inl (some (.int r))) (fun Hn => sm_ H Hn 0 0)) := by
  refine sp_of (by decide +kernel) rfl rfl ?_
  generalize hQ : po1 _ _ = Q
  have hs : sm_ H H 0 0 := sm_.rfl'
  unfold fX6_leastCost at hm
  refine aw_lv (lv' := [(0, .ref a)]) [0] rfl ?_
  refine aw_b (pc' := 1) (lv' := [(0, .ref a)]) (st' := [.ref a]) [(0, .aload_n 0, 1, .null)] (by decide +kernel) rfl ?_
  refine aw_gl (v := .ref (a + 2)) a 0 h0 eo_T_0 fgX6_15 rfl (by decide +kernel) ?_
  refine aw_b (pc' := 5) (lv' := [(0, .ref a)]) (st' := [.ref a, .ref (a + 2)]) [(4, .aload_n 0, 1, .null)] (by decide +kernel) rfl ?_
  refine aw_gl (v := .int (s 0 0)) a 0 h0 eo_T_0 fgX6_33 rfl (by decide +kernel) ?_
  obtain ⟨g1, hm⟩ := gd_x hm
  refine aw_ial a 2 h0 rfl g1 (by decide +kernel) ?_
  obtain rfl := Option.some.inj hm
  subst hQ
  exact aw_iret rfl (Nat.zero_le _) (Nat.zero_le _) (by decide +kernel) ⟨rfl, hs⟩
end
