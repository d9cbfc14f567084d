/-! rows of 'aw': what touches the heap; branches; ends -/
section AR
variable {E : ev_} {M : mt_} {Q : po_} {pc : Nat} {lv : List (Nat × Value)} {rest : List Value} {H : Heap} {k n : Nat} {a : Nat}
theorem cx_K {p : Program} {s : State} {m : MethodId} {args : Array Value} {meth : Method} {c : Code} (C : cx_ E M p s m args meth c) : va_K E.1 vwCl (ev_tys E) s := va_K.moved C.2.2.2.2.2.2.2.2.1.alike C.2.2.2.2.2.2.2.2.2.2.1.1
def sm1 (H H1 : Heap) (a : Nat) : Prop := H1.size = H.size ∧ ∀ q : Nat, q ≠ a → H1[q]? = H[q]?
theorem hp_.put {s : State} {H1 : Heap} {locs : List Loc} {j : Nat} (P : hp_ E s H locs) (hs : sm1 H H1 a) (hf : ev_fr E a) : hp_ E s H1 (locs ++ [⟨a, j⟩]) := by
  refine ⟨by rw [hs.1]; exact P.1, ⟨by rw [hs.1]; exact P.2.1.1, fun q hq => ?_⟩, fun z hz => ?_⟩
  · rw [hs.2 q (fun e => by subst e; exact absurd hf (Nat.not_le.mpr hq))]
    exact P.2.1.2 q hq
  · rcases List.mem_append.mp hz with h | h
    · exact P.2.2 z h
    · rw [List.mem_singleton.mp h]; exact hf
abbrev at_ (E : ev_) (H : Heap) (a : Nat) (e : va_E) : Prop := va_at E.1 vwCl (a, e) H
/-- a field link of the method's class: class number, slot -/
def fok_ (own : String) (idx ci j : Nat) : Prop := ∃ (C : String) (T : u_T) (N : Nat), vwCl[ci]? = some (C, T, N) ∧ j < N ∧ Cond.fieldLink own idx (T j).1 (T j).2.1 (T j).2.2.1 ∈ uw_ ∧ ∀ w ∈ u_ws C T N, w ∈ uw_
def fpk_ (own : String) (idx ci j : Nat) (ty : FieldType) : Prop := ∃ (C : String) (T : u_T) (N : Nat) (t0 : Nat → FieldType), vwCl[ci]? = some (C, T, N) ∧ j < N ∧ Cond.fieldLink own idx (T j).1 (T j).2.1 (T j).2.2.1 ∈ uw_ ∧ (∀ w ∈ u_ws C T N, w ∈ uw_) ∧ (∀ k, k < N → parseFieldDescriptor (T k).2.2.1 = some (t0 k)) ∧ (∀ a, a < N → ∀ b, b < N → a ≠ b → (T a).2.1 ≠ (T b).2.1) ∧ (T j).2.2.2 = false ∧ parseFieldDescriptor (T j).2.2.1 = some ty
theorem aw_get {ci j idx : Nat} {fs : List Value} {v : Value} (hf : fok_ M.1.cls idx ci j) (hA : at_ E H a (.inr (ci, fs))) (hv : fs[j]? = some v) (hd : decode M.2.1 pc = .ok (.getfield idx, 3)) (kk : aw E M Q (pc + 3) lv (v :: rest) H k n) : aw E M Q pc lv (.ref a :: rest) H k n := by
  intro p e s m args below meth c locs ls C P L
  obtain ⟨C0, T, N, h1, h2, h3, h4⟩ := hf
  exact va_get (ws := [(a, .inr (ci, fs))]) (Ts := uw_) C.1 C.2.1 C.2.2.2.2.2.1 h4 C.2.2.2.2.1 (cx_K C) (fun j q hq => by
    match j, hq with
    | 0, hq => cases hq; exact hA
    | j + 1, hq => cases hq) 0 rfl h1 j h2 (C.2.2.2.2.2.1 _ h3) (fun _ h => h) hv hd (kk p e s m args below meth c locs ls C P L)
theorem aw_put {ci j idx : Nat} {fs : List Value} {v : Value} {ty : FieldType} (hf : fpk_ M.1.cls idx ci j ty) (hA : at_ E H a (.inr (ci, fs))) (hfr : ev_fr E a) (hn : narrow ty v = v) (hfit : fits ty v = true) (hl : Nat.blt j fs.length = true) (hd : decode M.2.1 pc = .ok (.putfield idx, 3)) (kk : ∀ H1 : Heap, at_ E H1 a (.inr (ci, fs.set j v)) → sm1 H H1 a → aw E M Q (pc + 3) lv rest H1 k n) : aw E M Q pc lv (v :: .ref a :: rest) H k n := by
  intro p e s m args below meth c locs ls C P L
  obtain ⟨C0, T, N, t0, h1, h2, h3, hin, hty, hnm, hfin, hdd⟩ := hf
  have hts := C.2.2.2.2.2.1
  have hK := cx_K C
  have hap := va_apart (own := M.1.cls) hts hin t0 hty hnm hK h1
  obtain ⟨r, hr1, cell, q1, q2, q3, q4⟩ := hA
  have hr : r = (C0, T, N) := Option.some.inj (hr1.symm.trans h1)
  subst hr
  obtain ⟨hS, hfc, kC, hkC, hkind⟩ := hK.1 ci _ h1
  obtain ⟨cf, kf, fi, f, hi, hsl⟩ := hS j h2
  have hlay := hts _ (hin _ (u_in_lay h2))
  unfold u_lay at hlay
  rw [if_neg (by rw [hfin]; decide)] at hlay
  have hst := (u_facts hfc hkC (u_lays hts hin h2) hi).1
  have h6 := u_store hfc hkC hkind hlay hi hdd hn hfit
  refine W.putK C.1 C.2.1 (f := f) ⟨C.2.2.2.2.1, hts _ h3, ⟨_, _, _, hi⟩, hst⟩ (by rw [q2]; exact h6) q1 q3 (by rw [hsl]; exact k2_hasslot (q4 j h2)) rfl rfl hd fun H' e1 e2 e3 => ?_
  rw [hsl] at e1 ⊢
  have hl' : j < fs.length := Nat.lt_of_lt_of_le (Nat.lt_succ_self j) (Nat.le_of_ble_eq_true hl)
  exact kk H' ⟨_, h1, t_OB.to (V := updV (vp_V fs) j v) ⟨_, e1, q2, q3, t_set q4 hap h2 v⟩ (fun i _ => vp_updV_set hl' v i)⟩ ⟨e2, e3⟩ p e s m args below meth c _ ls C (P.put ⟨e2, e3⟩ hfr) L
theorem aw_iald {N : Nat} {f : Nat → Int32} {i : Int32} (hA : at_ E H a (.inl (E.2.1 0, N, .inl f))) (hin : vp_in i N) (hd : decode M.2.1 pc = .ok (.iaload, 1)) (kk : aw E M Q (pc + 1) lv (.int (f i.toNatClampNeg) :: rest) H k n) : aw E M Q pc lv (.int i :: .ref a :: rest) H k n := by
  intro p e s m args below meth c locs ls C P L
  exact va_iald (ws := [(a, .inl (E.2.1 0, N, .inl f))]) C.1 C.2.1 (cx_K C) (fun j q hq => by
    match j, hq with
    | 0, hq => cases hq; exact hA
    | j + 1, hq => cases hq) 0 0 rfl rfl hin hd (kk p e s m args below meth c locs ls C P L)
theorem aw_bald {N : Nat} {f : Nat → Int32} {i : Int32} (hA : at_ E H a (.inl (E.2.1 1, N, .inl f))) (hin : vp_in i N) (hd : decode M.2.1 pc = .ok (.baload, 1)) (kk : aw E M Q (pc + 1) lv (.int (f i.toNatClampNeg) :: rest) H k n) : aw E M Q pc lv (.int i :: .ref a :: rest) H k n := by
  intro p e s m args below meth c locs ls C P L
  exact va_bald (ws := [(a, .inl (E.2.1 1, N, .inl f))]) C.1 C.2.1 (cx_K C) (fun j q hq => by
    match j, hq with
    | 0, hq => cases hq; exact hA
    | j + 1, hq => cases hq) 0 1 rfl rfl hin hd (kk p e s m args below meth c locs ls C P L)
theorem aw_aaldA {N : Nat} {f : Nat → Option Nat} {i : Int32} (hA : at_ E H a (.inl (E.2.1 5, N, .inr (.inr (.inr (.inr f)))))) (hin : vp_in i N) (hd : decode M.2.1 pc = .ok (.aaload, 1)) (kk : aw E M Q (pc + 1) lv (va_rf (f i.toNatClampNeg) :: rest) H k n) : aw E M Q pc lv (.int i :: .ref a :: rest) H k n := by
  intro p e s m args below meth c locs ls C P L
  exact va_aldq (C := "ArmDuel$Arm") (ws := [(a, .inl (E.2.1 5, N, .inr (.inr (.inr (.inr f)))))]) C.1 C.2.1 (cx_K C) (fun j q hq => by
    match j, hq with
    | 0, hq => cases hq; exact hA
    | j + 1, hq => cases hq) 0 5 rfl rfl hin hd (kk p e s m args below meth c locs ls C P L)
theorem aw_aaldG {N : Nat} {f : Nat → Option Nat} {i : Int32} (hA : at_ E H a (.inl (E.2.1 6, N, .inr (.inr (.inr (.inr f)))))) (hin : vp_in i N) (hd : decode M.2.1 pc = .ok (.aaload, 1)) (kk : aw E M Q (pc + 1) lv (va_rf (f i.toNatClampNeg) :: rest) H k n) : aw E M Q pc lv (.int i :: .ref a :: rest) H k n := by
  intro p e s m args below meth c locs ls C P L
  exact va_aldq (C := "ArmDuel$Game") (ws := [(a, .inl (E.2.1 6, N, .inr (.inr (.inr (.inr f)))))]) C.1 C.2.1 (cx_K C) (fun j q hq => by
    match j, hq with
    | 0, hq => cases hq; exact hA
    | j + 1, hq => cases hq) 0 6 rfl rfl hin hd (kk p e s m args below meth c locs ls C P L)
theorem aw_aaldS {N : Nat} {f : Nat → Option Nat} {i : Int32} (hA : at_ E H a (.inl (E.2.1 2, N, .inr (.inr (.inr (.inr f)))))) (hin : vp_in i N) (hd : decode M.2.1 pc = .ok (.aaload, 1)) (kk : aw E M Q (pc + 1) lv (va_rf (f i.toNatClampNeg) :: rest) H k n) : aw E M Q pc lv (.int i :: .ref a :: rest) H k n := by
  intro p e s m args below meth c locs ls C P L
  exact va_aldq (C := "java/lang/String") (ws := [(a, .inl (E.2.1 2, N, .inr (.inr (.inr (.inr f)))))]) C.1 C.2.1 (cx_K C) (fun j q hq => by
    match j, hq with
    | 0, hq => cases hq; exact hA
    | j + 1, hq => cases hq) 0 2 rfl rfl hin hd (kk p e s m args below meth c locs ls C P L)
theorem aw_aaldI {N : Nat} {f : Nat → Option Nat} {i : Int32} (hA : at_ E H a (.inl (E.2.1 7, N, .inr (.inr (.inr (.inr f)))))) (hin : vp_in i N) (hd : decode M.2.1 pc = .ok (.aaload, 1)) (kk : aw E M Q (pc + 1) lv (va_rf (f i.toNatClampNeg) :: rest) H k n) : aw E M Q pc lv (.int i :: .ref a :: rest) H k n := by
  intro p e s m args below meth c locs ls C P L
  have hlt : i.toNatClampNeg < N := Nat.not_le.mp fun q => hin (Or.inr q)
  exact W.aald (v := va_rf (f i.toNatClampNeg)) (ty := .array .int) C.1 C.2.1 hA (((cx_K C).2 7 _ rfl).1 N (fun j => va_rf (f j))) rfl (fun q => by cases q) (by show ¬ (i < 0 ∨ (arrV _ _ _).slots.size ≤ _); rw [arrV_size]; exact hin) (by show (arrV _ _ _).slots[_]? = _; rw [arrV_read _ _ hlt]) rfl rfl hd (kk p e s m args below meth c locs ls C P L)
theorem aw_alen {N : Nat} {ci : Nat} {ty : FieldType} {x : va_E} {f : (Nat → Int32) ⊕ (Nat → Int64) ⊕ (Nat → UInt32) ⊕ (Nat → UInt64) ⊕ (Nat → Option Nat)} (ht : (ev_tys E)[ci]? = some (E.2.1 ci, ty)) (hA : at_ E H a (.inl (E.2.1 ci, N, f))) {v : Int32} (hv : Int32.ofNat N = v) (hd : decode M.2.1 pc = .ok (.arraylength, 1)) (kk : aw E M Q (pc + 1) lv (.int v :: rest) H k n) : aw E M Q pc lv (.ref a :: rest) H k n := by
  intro p e s m args below meth c locs ls C P L
  exact va_alen (ws := [(a, .inl (E.2.1 ci, N, f))]) C.1 C.2.1 (cx_K C) (fun j q hq => by
    match j, hq with
    | 0, hq => cases hq; exact hA
    | j + 1, hq => cases hq) 0 ci rfl ht hv hd (kk p e s m args below meth c locs ls C P L)
def up_ {α : Type} (f : Nat → α) (i : Nat) (v : α) : Nat → α := fun j => if j = i then v else f j
theorem aw_iast {N : Nat} {f : Nat → Int32} {i : Int32} {x : Int32} (hA : at_ E H a (.inl (E.2.1 0, N, .inl f))) (hfr : ev_fr E a) (hin : vp_in i N) (hd : decode M.2.1 pc = .ok (.iastore, 1)) (kk : ∀ H1 : Heap, at_ E H1 a (.inl (E.2.1 0, N, .inl (up_ f i.toNatClampNeg x))) → sm1 H H1 a → aw E M Q (pc + 1) lv rest H1 k n) : aw E M Q pc lv (.int x :: .int i :: .ref a :: rest) H k n := by
  intro p e s m args below meth c locs ls C P L
  refine W.iast C.1 C.2.1 hA (((cx_K C).2 0 _ rfl).1 N (fun j => .int (f j))) (fun q => by cases q) (by show ¬ (i < 0 ∨ (arrV _ _ _).slots.size ≤ _); rw [arrV_size]; exact hin) rfl rfl hd fun H1 e1 z oq => ?_
  refine kk H1 ?_ ⟨z, oq⟩ p e s m args below meth c _ ls C (P.put ⟨z, oq⟩ hfr) L
  show H1[a]? = some (vp_cell _ _)
  rw [e1]
  rw [vp_cell_i, vp_cell_i, arrV_store]
  congr 2
  funext q
  by_cases hq : q = i.toNatClampNeg
  · subst hq
    simp [updV, up_]
  · simp [updV, up_, hq]
theorem aw_bast {N : Nat} {f : Nat → Int32} {i : Int32} {x y : Int32} (hxy : vp_nar .byte x = y) (hA : at_ E H a (.inl (E.2.1 1, N, .inl f))) (hfr : ev_fr E a) (hin : vp_in i N) (hd : decode M.2.1 pc = .ok (.bastore, 1)) (kk : ∀ H1 : Heap, at_ E H1 a (.inl (E.2.1 1, N, .inl (up_ f i.toNatClampNeg y))) → sm1 H H1 a → aw E M Q (pc + 1) lv rest H1 k n) : aw E M Q pc lv (.int x :: .int i :: .ref a :: rest) H k n := by
  intro p e s m args below meth c locs ls C P L
  refine W.bast C.1 C.2.1 hA (((cx_K C).2 1 _ rfl).1 N (fun j => .int (f j))) (fun q => by cases q) (by show ¬ (i < 0 ∨ (arrV _ _ _).slots.size ≤ _); rw [arrV_size]; exact hin) rfl rfl hd fun H1 e1 z oq => ?_
  refine kk H1 ?_ ⟨z, oq⟩ p e s m args below meth c _ ls C (P.put ⟨z, oq⟩ hfr) L
  show H1[a]? = some (vp_cell _ _)
  rw [e1]
  rw [vp_cell_i, vp_cell_i, arrV_store]
  congr 2
  funext q
  subst hxy
  by_cases hq : q = i.toNatClampNeg
  · subst hq
    simp [updV, up_, vp_nar, narrow]
  · simp [updV, up_, hq]
theorem aw_if_eq {x : Int32} {off : Int} (tgt : Nat) (ht : (pc : Int) + off = (tgt : Int)) (hd : decode M.2.1 pc = .ok (.ifCond .eq off, 3)) (kt : x = 0 → aw E M Q tgt lv rest H k n) (kf : ¬ x = 0 → aw E M Q (pc + 3) lv rest H k n) : aw E M Q pc lv (.int x :: rest) H k n :=
  fun p e s m args below meth c locs ls C P L => lv_if_eq C.1 C.2.1 hd ht (fun h => kt h p e s m args below meth c locs ls C P L) (fun h => kf h p e s m args below meth c locs ls C P L)
theorem aw_ic_eq {x y : Int32} {off : Int} (tgt : Nat) (ht : (pc : Int) + off = (tgt : Int)) (hd : decode M.2.1 pc = .ok (.if_icmp .eq off, 3)) (kt : x = y → aw E M Q tgt lv rest H k n) (kf : ¬ x = y → aw E M Q (pc + 3) lv rest H k n) : aw E M Q pc lv (.int y :: .int x :: rest) H k n :=
  fun p e s m args below meth c locs ls C P L => lv_icmp_eq C.1 C.2.1 hd ht (fun h => kt h p e s m args below meth c locs ls C P L) (fun h => kf h p e s m args below meth c locs ls C P L)
theorem aw_if_ne {x : Int32} {off : Int} (tgt : Nat) (ht : (pc : Int) + off = (tgt : Int)) (hd : decode M.2.1 pc = .ok (.ifCond .ne off, 3)) (kt : ¬ x = 0 → aw E M Q tgt lv rest H k n) (kf : x = 0 → aw E M Q (pc + 3) lv rest H k n) : aw E M Q pc lv (.int x :: rest) H k n :=
  fun p e s m args below meth c locs ls C P L => lv_if_ne C.1 C.2.1 hd ht (fun h => kt h p e s m args below meth c locs ls C P L) (fun h => kf h p e s m args below meth c locs ls C P L)
theorem aw_ic_ne {x y : Int32} {off : Int} (tgt : Nat) (ht : (pc : Int) + off = (tgt : Int)) (hd : decode M.2.1 pc = .ok (.if_icmp .ne off, 3)) (kt : ¬ x = y → aw E M Q tgt lv rest H k n) (kf : x = y → aw E M Q (pc + 3) lv rest H k n) : aw E M Q pc lv (.int y :: .int x :: rest) H k n :=
  fun p e s m args below meth c locs ls C P L => lv_icmp_ne C.1 C.2.1 hd ht (fun h => kt h p e s m args below meth c locs ls C P L) (fun h => kf h p e s m args below meth c locs ls C P L)
theorem aw_if_lt {x : Int32} {off : Int} (tgt : Nat) (ht : (pc : Int) + off = (tgt : Int)) (hd : decode M.2.1 pc = .ok (.ifCond .lt off, 3)) (kt : x < 0 → aw E M Q tgt lv rest H k n) (kf : ¬ x < 0 → aw E M Q (pc + 3) lv rest H k n) : aw E M Q pc lv (.int x :: rest) H k n :=
  fun p e s m args below meth c locs ls C P L => lv_if_lt C.1 C.2.1 hd ht (fun h => kt h p e s m args below meth c locs ls C P L) (fun h => kf h p e s m args below meth c locs ls C P L)
theorem aw_ic_lt {x y : Int32} {off : Int} (tgt : Nat) (ht : (pc : Int) + off = (tgt : Int)) (hd : decode M.2.1 pc = .ok (.if_icmp .lt off, 3)) (kt : x < y → aw E M Q tgt lv rest H k n) (kf : ¬ x < y → aw E M Q (pc + 3) lv rest H k n) : aw E M Q pc lv (.int y :: .int x :: rest) H k n :=
  fun p e s m args below meth c locs ls C P L => lv_icmp_lt C.1 C.2.1 hd ht (fun h => kt h p e s m args below meth c locs ls C P L) (fun h => kf h p e s m args below meth c locs ls C P L)
theorem aw_if_ge {x : Int32} {off : Int} (tgt : Nat) (ht : (pc : Int) + off = (tgt : Int)) (hd : decode M.2.1 pc = .ok (.ifCond .ge off, 3)) (kt : 0 ≤ x → aw E M Q tgt lv rest H k n) (kf : ¬ 0 ≤ x → aw E M Q (pc + 3) lv rest H k n) : aw E M Q pc lv (.int x :: rest) H k n :=
  fun p e s m args below meth c locs ls C P L => lv_if_ge C.1 C.2.1 hd ht (fun h => kt h p e s m args below meth c locs ls C P L) (fun h => kf h p e s m args below meth c locs ls C P L)
theorem aw_ic_ge {x y : Int32} {off : Int} (tgt : Nat) (ht : (pc : Int) + off = (tgt : Int)) (hd : decode M.2.1 pc = .ok (.if_icmp .ge off, 3)) (kt : y ≤ x → aw E M Q tgt lv rest H k n) (kf : ¬ y ≤ x → aw E M Q (pc + 3) lv rest H k n) : aw E M Q pc lv (.int y :: .int x :: rest) H k n :=
  fun p e s m args below meth c locs ls C P L => lv_icmp_ge C.1 C.2.1 hd ht (fun h => kt h p e s m args below meth c locs ls C P L) (fun h => kf h p e s m args below meth c locs ls C P L)
theorem aw_if_gt {x : Int32} {off : Int} (tgt : Nat) (ht : (pc : Int) + off = (tgt : Int)) (hd : decode M.2.1 pc = .ok (.ifCond .gt off, 3)) (kt : 0 < x → aw E M Q tgt lv rest H k n) (kf : ¬ 0 < x → aw E M Q (pc + 3) lv rest H k n) : aw E M Q pc lv (.int x :: rest) H k n :=
  fun p e s m args below meth c locs ls C P L => lv_if_gt C.1 C.2.1 hd ht (fun h => kt h p e s m args below meth c locs ls C P L) (fun h => kf h p e s m args below meth c locs ls C P L)
theorem aw_ic_gt {x y : Int32} {off : Int} (tgt : Nat) (ht : (pc : Int) + off = (tgt : Int)) (hd : decode M.2.1 pc = .ok (.if_icmp .gt off, 3)) (kt : y < x → aw E M Q tgt lv rest H k n) (kf : ¬ y < x → aw E M Q (pc + 3) lv rest H k n) : aw E M Q pc lv (.int y :: .int x :: rest) H k n :=
  fun p e s m args below meth c locs ls C P L => lv_icmp_gt C.1 C.2.1 hd ht (fun h => kt h p e s m args below meth c locs ls C P L) (fun h => kf h p e s m args below meth c locs ls C P L)
theorem aw_if_le {x : Int32} {off : Int} (tgt : Nat) (ht : (pc : Int) + off = (tgt : Int)) (hd : decode M.2.1 pc = .ok (.ifCond .le off, 3)) (kt : x ≤ 0 → aw E M Q tgt lv rest H k n) (kf : ¬ x ≤ 0 → aw E M Q (pc + 3) lv rest H k n) : aw E M Q pc lv (.int x :: rest) H k n :=
  fun p e s m args below meth c locs ls C P L => lv_if_le C.1 C.2.1 hd ht (fun h => kt h p e s m args below meth c locs ls C P L) (fun h => kf h p e s m args below meth c locs ls C P L)
theorem aw_ic_le {x y : Int32} {off : Int} (tgt : Nat) (ht : (pc : Int) + off = (tgt : Int)) (hd : decode M.2.1 pc = .ok (.if_icmp .le off, 3)) (kt : x ≤ y → aw E M Q tgt lv rest H k n) (kf : ¬ x ≤ y → aw E M Q (pc + 3) lv rest H k n) : aw E M Q pc lv (.int y :: .int x :: rest) H k n :=
  fun p e s m args below meth c locs ls C P L => lv_icmp_le C.1 C.2.1 hd ht (fun h => kt h p e s m args below meth c locs ls C P L) (fun h => kf h p e s m args below meth c locs ls C P L)
theorem aw_ifnonnull {off : Int} {x : Nat} (tgt : Nat) (ht : (pc : Int) + off = (tgt : Int)) (hd : decode M.2.1 pc = .ok (.ifnonnull off, 3)) (kt : aw E M Q tgt lv rest H k n) : aw E M Q pc lv (.ref x :: rest) H k n :=
  fun p e s m args below meth c locs ls C P L => lv_ifnonnull C.1 C.2.1 hd ht (kt p e s m args below meth c locs ls C P L)
theorem aw_ifnonnullN {off : Int} (hd : decode M.2.1 pc = .ok (.ifnonnull off, 3)) (kt : aw E M Q (pc + 3) lv rest H k n) : aw E M Q pc lv (.null :: rest) H k n :=
  fun p e s m args below meth c locs ls C P L => lv_ifnonnullN C.1 C.2.1 hd (kt p e s m args below meth c locs ls C P L)
theorem aw_tsw {dflt lo hi : Int} {offs : Array Int} {len : Nat} {x : Int32} (hd : decode M.2.1 pc = .ok (.tableswitch dflt lo hi offs, len)) (tgt : Nat) (ht : (pc : Int) + dflt = (tgt : Int)) (ko : (x.toInt < lo ∨ hi < x.toInt) → aw E M Q tgt lv rest H k n) (ki : ¬ (x.toInt < lo ∨ hi < x.toInt) → ∃ (off : Int) (t : Nat), offs[(x.toInt - lo).toNat]? = some off ∧ (pc : Int) + off = (t : Int) ∧ aw E M Q t lv rest H k n) : aw E M Q pc lv (.int x :: rest) H k n := by
  intro p e s m args below meth c locs ls C P L
  by_cases h : x.toInt < lo ∨ hi < x.toInt
  · exact lv_tableOut C.1 C.2.1 hd h ht (ko h p e s m args below meth c locs ls C P L)
  · obtain ⟨off, t, h1, h2, h3⟩ := ki h
    exact lv_tableIn C.1 C.2.1 hd (fun q => h (Or.inl q)) (fun q => h (Or.inr q)) h1 h2 (h3 p e s m args below meth c locs ls C P L)
theorem aw_irem {x y : Int32} (hne : ¬ y = 0) (hd : decode M.2.1 pc = .ok (.irem, 1)) (kk : aw E M Q (pc + 1) lv (.int (x - x / y * y) :: rest) H k n) : aw E M Q pc lv (.int y :: .int x :: rest) H k n :=
  fun p e s m args below meth c locs ls C P L => lv_irem C.1 C.2.1 hd hne (kk p e s m args below meth c locs ls C P L)
theorem aw_ldiv {x y : Int64} (hne : ¬ y = 0) (hd : decode M.2.1 pc = .ok (.ldiv, 1)) (kk : aw E M Q (pc + 1) lv (.long (x / y) :: rest) H k n) : aw E M Q pc lv (.long y :: .long x :: rest) H k n :=
  fun p e s m args below meth c locs ls C P L => lv_ldiv C.1 C.2.1 hd hne (kk p e s m args below meth c locs ls C P L)
theorem aw_lrem {x y : Int64} (hne : ¬ y = 0) (hd : decode M.2.1 pc = .ok (.lrem, 1)) (kk : aw E M Q (pc + 1) lv (.long (x - x / y * y) :: rest) H k n) : aw E M Q pc lv (.long y :: .long x :: rest) H k n :=
  fun p e s m args below meth c locs ls C P L => lv_lrem C.1 C.2.1 hd hne (kk p e s m args below meth c locs ls C P L)
theorem aw_ddiv {x y : UInt64} (hne : vf_n64 (FP.ddiv x y)) (hd : decode M.2.1 pc = .ok (.ddiv, 1)) (kk : aw E M Q (pc + 1) lv (.double (FP.ddiv x y) :: rest) H k n) : aw E M Q pc lv (.double y :: .double x :: rest) H k n :=
  fun p e s m args below meth c locs ls C P L => lv_ddiv C.1 C.2.1 hd hne (kk p e s m args below meth c locs ls C P L)
theorem aw_fdiv {x y : UInt32} (hne : vf_n32 (FP.fdiv x y)) (hd : decode M.2.1 pc = .ok (.fdiv, 1)) (kk : aw E M Q (pc + 1) lv (.float (FP.fdiv x y) :: rest) H k n) : aw E M Q pc lv (.float y :: .float x :: rest) H k n :=
  fun p e s m args below meth c locs ls C P L => lv_fdiv C.1 C.2.1 hd hne (kk p e s m args below meth c locs ls C P L)
theorem aw_f2d {x : UInt32} (hne : vf_n64 (FP.f2d x)) (hd : decode M.2.1 pc = .ok (.f2d, 1)) (kk : aw E M Q (pc + 1) lv (.double (FP.f2d x) :: rest) H k n) : aw E M Q pc lv (.float x :: rest) H k n :=
  fun p e s m args below meth c locs ls C P L => lv_f2d C.1 C.2.1 hd hne (kk p e s m args below meth c locs ls C P L)
theorem aw_dc0 (hd : decode M.2.1 pc = .ok (.dconst 0, 1)) (kk : aw E M Q (pc + 1) lv (.double FP.dconst0 :: rest) H k n) : aw E M Q pc lv rest H k n :=
  fun p e s m args below meth c locs ls C P L => lv_dconst0 C.1 C.2.1 hd (kk p e s m args below meth c locs ls C P L)
theorem aw_fc0 (hd : decode M.2.1 pc = .ok (.fconst 0, 1)) (kk : aw E M Q (pc + 1) lv (.float FP.fconst0 :: rest) H k n) : aw E M Q pc lv rest H k n :=
  fun p e s m args below meth c locs ls C P L => lv_fconst0 C.1 C.2.1 hd (kk p e s m args below meth c locs ls C P L)
theorem aw_ldc {idx : Nat} {v : Int32} (hw : Cond.constant M.1.cls idx v ∈ uw_) (hd : decode M.2.1 pc = .ok (.ldc idx, 2)) (kk : aw E M Q (pc + 2) lv (.int v :: rest) H k n) : aw E M Q pc lv rest H k n :=
  fun p e s m args below meth c locs ls C P L => lv_ldc C.1 C.2.1 C.2.2.2.2.1 (C.2.2.2.2.2.1 _ hw) hd (kk p e s m args below meth c locs ls C P L)
theorem aw_ldcw {idx : Nat} {v : Int32} (hw : Cond.constant M.1.cls idx v ∈ uw_) (hd : decode M.2.1 pc = .ok (.ldc_w idx, 3)) (kk : aw E M Q (pc + 3) lv (.int v :: rest) H k n) : aw E M Q pc lv rest H k n :=
  fun p e s m args below meth c locs ls C P L => lv_ldcw C.1 C.2.1 C.2.2.2.2.1 (C.2.2.2.2.2.1 _ hw) hd (kk p e s m args below meth c locs ls C P L)
theorem aw_ldc2 {idx : Nat} {v : Int64} (hw : Cond.constantLong M.1.cls idx v ∈ uw_) (hd : decode M.2.1 pc = .ok (.ldc2_w idx, 3)) (kk : aw E M Q (pc + 3) lv (.long v :: rest) H k n) : aw E M Q pc lv rest H k n :=
  fun p e s m args below meth c locs ls C P L => lv_ldc2 C.1 C.2.1 C.2.2.2.2.1 (C.2.2.2.2.2.1 _ hw) hd (kk p e s m args below meth c locs ls C P L)
/-! ends -/
theorem aw_fin {s : State} {locs : List Loc} {r : Option Value} {t : State} (P : hp_ E s H locs) (hq : Q (.inl r) H) (ht : t.heap = H) {args : Array Value} : aw_Q E Q args s (.returned r) t := ⟨r, rfl, by rw [ht]; exact hq, by rw [ht]; exact P.1, by rw [ht]; exact P.2.1⟩
theorem aw_iret {x : Int32} (hr : M.2.2.2.1 = some .int) (hk : k ≤ (mt_R M).cells) (hn : n ≤ (mt_R M).slots) (hd : decode M.2.1 pc = .ok (.ireturn, 1)) (hq : Q (.inl (some (.int x))) H) : aw E M Q pc lv [.int x] H k n := by
  intro p e s m args below meth c locs ls C P L
  refine W.widen hk hn (vx_ret ?_)
  exact W.iret C.1 C.2.1 (C.2.2.1.trans hr) (fun t ht hW => aw_fin P hq ht) P.2.2 hd C.2.2.2.2.2.2.1
theorem aw_lret {x : Int64} (hr : M.2.2.2.1 = some .long) (hk : k ≤ (mt_R M).cells) (hn : n ≤ (mt_R M).slots) (hd : decode M.2.1 pc = .ok (.lreturn, 1)) (hq : Q (.inl (some (.long x))) H) : aw E M Q pc lv [.long x] H k n := by
  intro p e s m args below meth c locs ls C P L
  refine W.widen hk hn (vx_ret ?_)
  exact W.lret C.1 C.2.1 (C.2.2.1.trans hr) (fun t ht hW => aw_fin P hq ht) P.2.2 hd C.2.2.2.2.2.2.1
theorem aw_dret {x : UInt64} (hr : M.2.2.2.1 = some .double) (hk : k ≤ (mt_R M).cells) (hn : n ≤ (mt_R M).slots) (hd : decode M.2.1 pc = .ok (.dreturn, 1)) (hq : Q (.inl (some (.double x))) H) : aw E M Q pc lv [.double x] H k n := by
  intro p e s m args below meth c locs ls C P L
  refine W.widen hk hn (vx_ret ?_)
  exact W.dret C.1 C.2.1 (C.2.2.1.trans hr) (fun t ht hW => aw_fin P hq ht) P.2.2 hd C.2.2.2.2.2.2.1
theorem aw_fret {x : UInt32} (hr : M.2.2.2.1 = some .float) (hk : k ≤ (mt_R M).cells) (hn : n ≤ (mt_R M).slots) (hd : decode M.2.1 pc = .ok (.freturn, 1)) (hq : Q (.inl (some (.float x))) H) : aw E M Q pc lv [.float x] H k n := by
  intro p e s m args below meth c locs ls C P L
  refine W.widen hk hn (vx_ret ?_)
  exact W.fret C.1 C.2.1 (C.2.2.1.trans hr) (fun t ht hW => aw_fin P hq ht) P.2.2 hd C.2.2.2.2.2.2.1
theorem aw_zret {x : Int32} (hr : M.2.2.2.1 = some .boolean) (hz : narrow .boolean (.int x) = .int x) (hk : k ≤ (mt_R M).cells) (hn : n ≤ (mt_R M).slots) (hd : decode M.2.1 pc = .ok (.ireturn, 1)) (hq : Q (.inl (some (.int x))) H) : aw E M Q pc lv [.int x] H k n := by
  intro p e s m args below meth c locs ls C P L
  refine W.widen hk hn (vx_ret ?_)
  exact W.zret C.1 C.2.1 (C.2.2.1.trans hr) hz (fun t ht hW => aw_fin P hq ht) P.2.2 hd C.2.2.2.2.2.2.1
theorem aw_vret (hr : M.2.2.2.1 = none) (hk : k ≤ (mt_R M).cells) (hn : n ≤ (mt_R M).slots) (hd : decode M.2.1 pc = .ok (.return_, 1)) (hq : Q (.inl none) H) : aw E M Q pc lv [] H k n := by
  intro p e s m args below meth c locs ls C P L
  refine W.widen hk hn (vx_ret ?_)
  exact W.vret C.1 C.2.1 (C.2.2.1.trans hr) (fun t ht hW => aw_fin P hq ht) P.2.2 hd C.2.2.2.2.2.2.1
theorem aw_aret {x : Nat} {C0 : String} (hr : M.2.2.2.1 = some (.object C0)) (hk : k ≤ (mt_R M).cells) (hn : n ≤ (mt_R M).slots) (hd : decode M.2.1 pc = .ok (.areturn, 1)) (hq : Q (.inl (some (.ref x))) H) : aw E M Q pc lv [.ref x] H k n := by
  intro p e s m args below meth c locs ls C P L
  refine W.widen hk hn (vx_ret ?_)
  exact W.aret C.1 C.2.1 (C.2.2.1.trans hr) (Or.inl ⟨_, rfl⟩) (Or.inr ⟨_, rfl⟩) (fun t ht hW => aw_fin P hq ht) P.2.2 hd C.2.2.2.2.2.2.1
end AR
