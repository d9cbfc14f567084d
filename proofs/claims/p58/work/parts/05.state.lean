/-! states: what the cells of an object hold, ints all; layouts of cells that lie one behind the other -/
abbrev st_ : Type := Nat → Nat → Int32
abbrev ix_ (i : Int32) : Nat := i.toNatClampNeg
def pt_ (s : st_) (o j : Nat) (v : Int32) : st_ := fun q => if q = o then up_ (s o) j v else s q
def sb_ (s : st_) (o : Nat) : st_ := fun q => s (o + q)
def mg_ (s : st_) (o n : Nat) (t : st_) : st_ := fun q => if o ≤ q ∧ q < o + n then t (q - o) else s q
/-- a whole row anew -/
def rw_ (s : st_) (o : Nat) (f : Nat → Int32) : st_ := fun q => if q = o then f else s q
abbrev le_ : Type := ev_ → Nat → (Nat → Int32) → va_E
abbrev ly_ : Type := List le_
def sh_ (k : Nat) (L : ly_) : ly_ := L.map (fun f E a c => f E (a + k) c)
abbrev fs_ : Type := Nat → (Nat → Int32) → List Value
def ob_ (ci : Nat) (fs : fs_) : le_ := fun _ a c => .inr (ci, fs a c)
def ia_ (N : Nat) : le_ := fun E _ c => .inl (E.2.1 0, N, .inl c)
def ba_ (N : Nat) : le_ := fun E _ c => .inl (E.2.1 1, N, .inl c)
def za_ (N : Nat) : le_ := fun E _ c => .inl (E.2.1 2, N, .inl c)
def ra_ (t N st ob : Nat) : le_ := fun E a _ => .inl (E.2.1 t, N, .inr (.inr (.inr (.inr fun k => if k < N then some (a + (st * k + ob)) else none))))
def has_ (E : ev_) (H : Heap) (a : Nat) (L : ly_) (s : st_) : Prop := ∀ (o : Nat) (f : le_), L[o]? = some f → at_ E H (a + o) (f E a (s o))
/-- outside of n cells from a nothing has changed -/
def sm_ (H H1 : Heap) (a n : Nat) : Prop := H.size ≤ H1.size ∧ ∀ q : Nat, q < H.size → (q < a ∨ a + n ≤ q) → H1[q]? = H[q]?
def sub_ (L : ly_) (o : Nat) (L' : ly_) : Prop := ∀ (i : Nat) (f : le_), L'[i]? = some f → L[o + i]? = some (fun E a c => f E (a + o) c)
section SH
variable {E : ev_} {H H1 H2 : Heap} {a b o n m : Nat} {L L' : ly_} {s s' t : st_} {e : va_E}
theorem at_same (h : at_ E H a e) (h1 : H1[a]? = H[a]?) : at_ E H1 a e := by
  unfold at_ va_at at h ⊢
  split at h
  · rw [h1]; exact h
  · obtain ⟨r, q1, q2⟩ := h
    exact ⟨r, q1, q2.kept h1⟩
theorem at_lt (h : at_ E H a e) : a < H.size := by
  have key : ∀ c : Cell, H[a]? = some c → a < H.size := fun c hc => (Array.getElem?_eq_some_iff.mp hc).1
  unfold at_ va_at at h
  split at h
  · exact key _ h
  · obtain ⟨r, q1, c, q2, q3⟩ := h
    exact key _ q2
theorem sm_.rfl' : sm_ H H a n := ⟨Nat.le_refl _, fun _ _ _ => rfl⟩
theorem sm_.step (h : sm_ H H1 a n) (h2 : sm_ H1 H2 b m) (h3 : a ≤ b) (h4 : b + m ≤ a + n) : sm_ H H2 a n :=
  ⟨Nat.le_trans h.1 h2.1, fun q hq ho => (h2.2 q (Nat.lt_of_lt_of_le hq h.1) (ho.elim (fun h5 => Or.inl (Nat.lt_of_lt_of_le h5 h3)) (fun h5 => Or.inr (Nat.le_trans h4 h5)))).trans (h.2 q hq ho)⟩
theorem sm_.step0 (h : sm_ H H1 a n) (h2 : sm_ H1 H2 b 0) : sm_ H H2 a n :=
  ⟨Nat.le_trans h.1 h2.1, fun q hq ho => (h2.2 q (Nat.lt_of_lt_of_le hq h.1) (Nat.lt_or_ge q b)).trans (h.2 q hq ho)⟩
theorem sm_.of1 (h : sm1 H H1 a) : sm_ H H1 a 1 := ⟨Nat.le_of_eq h.1.symm, fun q _ ho => h.2 q (by omega)⟩
theorem has_.kept0 (h : has_ E H a L s) (h2 : sm_ H H1 b 0) : has_ E H1 a L s := fun o f hf => by
  have h3 := h o f hf
  exact at_same h3 (h2.2 _ (at_lt h3) (Nat.lt_or_ge _ b))
theorem has_.kept (h : has_ E H a L s) (h2 : sm_ H H1 b m) (hn : L.length = n) (h3 : a + n ≤ b ∨ b + m ≤ a) : has_ E H1 a L s := fun o f hf => by
  have h4 := h o f hf
  have h5 : o < L.length := (List.getElem?_eq_some_iff.mp hf).1
  exact at_same h4 (h2.2 _ (at_lt h4) (by omega))
theorem sub_of (h : (L.drop o).take L'.length = sh_ o L') : sub_ L o L' := by
  intro i f hf
  have h1 : (sh_ o L')[i]? = some (fun E a c => f E (a + o) c) := by
    unfold sh_
    rw [List.getElem?_map, hf]
    rfl
  rw [← h, List.getElem?_take] at h1
  split at h1
  · rw [List.getElem?_drop] at h1
    exact h1
  · cases h1
theorem has_.sub (h : has_ E H a L s) (hs : sub_ L o L') : has_ E H (a + o) L' (sb_ s o) := by
  intro i f hf
  have := h _ _ (hs i f hf)
  rw [Nat.add_assoc]
  exact this
/-- a part of the cells made anew -/
theorem has_.mg (h : has_ E H a L s) (hs : sub_ L o L') (h1 : has_ E H1 (a + o) L' t) (h2 : sm_ H H1 (a + o) n) (hn : L'.length = n) (he : s' = mg_ s o n t) : has_ E H1 a L s' := by
  subst he
  intro q f hf
  by_cases hq : o ≤ q ∧ q < o + n
  · obtain ⟨i, rfl⟩ : ∃ i, q = o + i := ⟨q - o, by omega⟩
    have hi : i < L'.length := by omega
    have hg : L'[i]? = some L'[i] := List.getElem?_eq_getElem hi
    have h3 := h1 i _ hg
    have h4 := hs i _ hg
    rw [hf] at h4
    have h5 := Option.some.inj h4
    rw [h5]
    show at_ E H1 (a + (o + i)) (L'[i] E (a + o) (mg_ s o n t (o + i)))
    have h6 : mg_ s o n t (o + i) = t i := by
      unfold mg_
      rw [if_pos hq, Nat.add_sub_cancel_left]
    rw [h6, ← Nat.add_assoc]
    exact h3
  · have h3 := h q f hf
    have h6 : mg_ s o n t q = s q := by
      unfold mg_
      rw [if_neg hq]
    rw [h6]
    exact at_same h3 (h2.2 _ (at_lt h3) (by omega))
/-- one cell made anew -/
theorem has_.put {f : le_} {c : Nat → Int32} (h : has_ E H a L s) (hf : L[o]? = some f) (h1 : at_ E H1 (a + o) (f E a c)) (h2 : sm_ H H1 (a + o) 1) (he : s' = rw_ s o c) : has_ E H1 a L s' := by
  subst he
  intro q g hg
  by_cases hq : q = o
  · subst hq
    rw [hf] at hg
    have h5 := Option.some.inj hg
    rw [← h5]
    have h6 : rw_ s q c q = c := by
      unfold rw_
      rw [if_pos rfl]
    rw [h6]
    exact h1
  · have h3 := h q g hg
    have h6 : rw_ s o c q = s q := by
      unfold rw_
      rw [if_neg hq]
    rw [h6]
    exact at_same h3 (h2.2 _ (at_lt h3) (by omega))
theorem pt_rw (s : st_) (o j : Nat) (v : Int32) : pt_ s o j v = rw_ s o (up_ (s o) j v) := rfl
end SH
/-! the rows by layouts -/
/-- at offset o lies an object of class ci -/
abbrev eo_ (L : ly_) (o ci : Nat) (fs : fs_) : Prop := L[o]? = some (fun E a c => ob_ ci fs E (a + o) c)
/-- at offset oa lies an array of references to what lies at st * k + ob -/
def ral_ (L : ly_) (oa t N st ob : Nat) : Prop := ∃ g : Nat → Nat → Option Nat, L[oa]? = some (fun E a _ => .inl (E.2.1 t, N, .inr (.inr (.inr (.inr (g a)))))) ∧ ∀ a k, k < N → g a k = some (a + (st * k + ob))
def ib_ (i : Int32) (N : Nat) : Bool := decide (0 ≤ i) && Nat.blt i.toNatClampNeg N
theorem ib_in {i : Int32} {N : Nat} (h : ib_ i N = true) : vp_in i N := by
  unfold ib_ at h
  rw [Bool.and_eq_true] at h
  have h1 : 0 ≤ i := of_decide_eq_true h.1
  have h2 : i.toNatClampNeg < N := Nat.le_of_ble_eq_true h.2
  intro q
  rcases q with q | q
  · exact absurd q (Int32.not_lt.mpr h1)
  · exact absurd h2 (Nat.not_lt.mpr q)
theorem ib_lt {i : Int32} {N : Nat} (h : ib_ i N = true) : ix_ i < N := by
  unfold ib_ at h
  rw [Bool.and_eq_true] at h
  exact Nat.le_of_ble_eq_true h.2
/-- fields of ints: an assignment -/
def fsp_ (fs : fs_) (j : Nat) : Prop := (∀ a c, Nat.blt j (fs a c).length = true) ∧ ∀ a c v, (fs a c).set j (.int v) = fs a (up_ c j v)
def bd_ {α β : Type} (x : α) (f : α → β) : β := f x
theorem bd_x {α β : Type} {x : α} {f : α → Option β} {y : β} (h : bd_ x f = some y) : ∃ z, z = x ∧ f z = some y := ⟨x, rfl, h⟩
def gd_ {α : Type} (b : Bool) (x : Option α) : Option α := match b with
  | true => x
  | false => none
theorem gd_x {α : Type} {b : Bool} {x : Option α} {y : α} (h : gd_ b x = some y) : b = true ∧ x = some y := by
  cases b with
  | true => exact ⟨rfl, h⟩
  | false => cases h
def bn_ {α β : Type} (x : Option α) (f : α → Option β) : Option β := match x with
  | some a => f a
  | none => none
theorem bn_x {α β : Type} {x : Option α} {f : α → Option β} {y : β} (h : bn_ x f = some y) : ∃ z, x = some z ∧ f z = some y := by
  cases x with
  | some a => exact ⟨a, rfl, h⟩
  | none => cases h
def it_ {α β : Type} (f : α → Option (α ⊕ β)) : Nat → α → Option β
  | 0, _ => none
  | n + 1, v => match f v with
    | none => none
    | some (.inl w) => it_ f n w
    | some (.inr x) => some x
theorem it_0 {α β : Type} {f : α → Option (α ⊕ β)} {v : α} {x : β} (h : it_ f 0 v = some x) : False := by cases h
theorem it_s {α β : Type} {f : α → Option (α ⊕ β)} {n : Nat} {v : α} {x : β} (h : it_ f (n + 1) v = some x) : ∃ y, f v = some y ∧ Sum.elim (fun w => it_ f n w = some x) (fun z => z = x) y := by
  unfold it_ at h
  split at h
  · cases h
  · rename_i w hw
    exact ⟨.inl w, hw, h⟩
  · rename_i z hz
    exact ⟨.inr z, hz, Option.some.inj h⟩
/-- how often a loop may go round -/
def FU_ : Nat := 4294967296
def bz_ (v : Int32) : Bool := decide (v = 0) || decide (v = 1)
theorem bz_n {v : Int32} (h : bz_ v = true) : narrow .boolean (.int v) = .int v := by
  unfold bz_ at h
  rw [Bool.or_eq_true] at h
  rcases h with h | h
  · rw [of_decide_eq_true h]; decide +kernel
  · rw [of_decide_eq_true h]; decide +kernel
def nb_ (x : Int32) : Int32 := vp_nar .byte x
/-- a post: what comes back, and the heap -/
def po1 (rv : Option Value ⊕ String) (P : Heap → Prop) : po_ := fun x H => x = rv ∧ P H
section AL
variable {E : ev_} {M : mt_} {Q : po_} {pc : Nat} {lv : List (Nat × Value)} {rest : List Value} {H : Heap} {k n : Nat} {a o : Nat} {L : ly_} {s s' : st_}
theorem aw_gl (a o : Nat) {L : ly_} {s : st_} {ci j idx : Nat} {fs : fs_} {v : Value} (h : has_ E H a L s) (hL : eo_ L o ci fs) (hf : fok_ M.1.cls idx ci j) (hv : (fs (a + o) (s o))[j]? = some v) (hd : decode M.2.1 pc = .ok (.getfield idx, 3)) (kk : aw E M Q (pc + 3) lv (v :: rest) H k n) : aw E M Q pc lv (.ref (a + o) :: rest) H k n :=
  aw_get hf (h o _ hL) hv hd kk
theorem aw_pl (a o : Nat) {L : ly_} {s s' : st_} {ci j idx : Nat} {fs : fs_} {v : Int32} {ty : FieldType} (h : has_ E H a L s) (hL : eo_ L o ci fs) (hp : fsp_ fs j) (hf : fpk_ M.1.cls idx ci j ty) (hfr : ev_fr E a) (hn : narrow ty (.int v) = .int v) (hfit : fits ty (.int v) = true) (he : s' = pt_ s o j v) (hd : decode M.2.1 pc = .ok (.putfield idx, 3)) (kk : ∀ H1 : Heap, has_ E H1 a L s' → sm_ H H1 (a + o) 1 → aw E M Q (pc + 3) lv rest H1 k n) : aw E M Q pc lv (.int v :: .ref (a + o) :: rest) H k n := by
  refine aw_put hf (h o _ hL) (Nat.le_trans hfr (Nat.le_add_right a o)) hn hfit (hp.1 _ _) hd (fun H1 h1 h2 => kk H1 ?_ (sm_.of1 h2))
  have h1' : at_ E H1 (a + o) (ob_ ci fs E (a + o) (up_ (s o) j v)) := by
    unfold ob_
    rw [← hp.2]
    exact h1
  exact h.put hL h1' (sm_.of1 h2) he
theorem aw_ial (a o : Nat) {L : ly_} {s : st_} {N : Nat} {i : Int32} (h : has_ E H a L s) (hL : L[o]? = some (ia_ N)) (hin : ib_ i N = true) (hd : decode M.2.1 pc = .ok (.iaload, 1)) (kk : aw E M Q (pc + 1) lv (.int (s o (ix_ i)) :: rest) H k n) : aw E M Q pc lv (.int i :: .ref (a + o) :: rest) H k n :=
  aw_iald (h o _ hL) (ib_in hin) hd kk
theorem aw_bal (a o : Nat) {L : ly_} {s : st_} {N : Nat} {i : Int32} (h : has_ E H a L s) (hL : L[o]? = some (ba_ N)) (hin : ib_ i N = true) (hd : decode M.2.1 pc = .ok (.baload, 1)) (kk : aw E M Q (pc + 1) lv (.int (s o (ix_ i)) :: rest) H k n) : aw E M Q pc lv (.int i :: .ref (a + o) :: rest) H k n :=
  aw_bald (h o _ hL) (ib_in hin) hd kk
theorem aw_isl (a o : Nat) {L : ly_} {s s' : st_} {N : Nat} {i x : Int32} (h : has_ E H a L s) (hL : L[o]? = some (ia_ N)) (hfr : ev_fr E a) (hin : ib_ i N = true) (he : s' = pt_ s o (ix_ i) x) (hd : decode M.2.1 pc = .ok (.iastore, 1)) (kk : ∀ H1 : Heap, has_ E H1 a L s' → sm_ H H1 (a + o) 1 → aw E M Q (pc + 1) lv rest H1 k n) : aw E M Q pc lv (.int x :: .int i :: .ref (a + o) :: rest) H k n :=
  aw_iast (h o _ hL) (Nat.le_trans hfr (Nat.le_add_right a o)) (ib_in hin) hd (fun H1 h1 h2 => kk H1 (h.put hL h1 (sm_.of1 h2) he) (sm_.of1 h2))
theorem aw_bsl (a o : Nat) {L : ly_} {s s' : st_} {N : Nat} {i x : Int32} (h : has_ E H a L s) (hL : L[o]? = some (ba_ N)) (hfr : ev_fr E a) (hin : ib_ i N = true) (he : s' = pt_ s o (ix_ i) (nb_ x)) (hd : decode M.2.1 pc = .ok (.bastore, 1)) (kk : ∀ H1 : Heap, has_ E H1 a L s' → sm_ H H1 (a + o) 1 → aw E M Q (pc + 1) lv rest H1 k n) : aw E M Q pc lv (.int x :: .int i :: .ref (a + o) :: rest) H k n :=
  aw_bast rfl (h o _ hL) (Nat.le_trans hfr (Nat.le_add_right a o)) (ib_in hin) hd (fun H1 h1 h2 => kk H1 (h.put hL h1 (sm_.of1 h2) he) (sm_.of1 h2))
theorem aw_rall (a o : Nat) {L : ly_} {s : st_} {N st ob : Nat} {i : Int32} (h : has_ E H a L s) (hL : ral_ L o 5 N st ob) (hin : ib_ i N = true) (hd : decode M.2.1 pc = .ok (.aaload, 1)) (kk : aw E M Q (pc + 1) lv (.ref (a + (st * ix_ i + ob)) :: rest) H k n) : aw E M Q pc lv (.int i :: .ref (a + o) :: rest) H k n := by
  obtain ⟨g, h1, h2⟩ := hL
  refine aw_aaldA (h o _ h1) (ib_in hin) hd ?_
  show aw E M Q (pc + 1) lv (va_rf (g a (ix_ i)) :: rest) H k n
  rw [h2 a _ (ib_lt hin)]
  exact kk
theorem aw_iall (a o : Nat) {L : ly_} {s : st_} {N st ob : Nat} {i : Int32} (h : has_ E H a L s) (hL : ral_ L o 7 N st ob) (hin : ib_ i N = true) (hd : decode M.2.1 pc = .ok (.aaload, 1)) (kk : aw E M Q (pc + 1) lv (.ref (a + (st * ix_ i + ob)) :: rest) H k n) : aw E M Q pc lv (.int i :: .ref (a + o) :: rest) H k n := by
  obtain ⟨g, h1, h2⟩ := hL
  refine aw_aaldI (h o _ h1) (ib_in hin) hd ?_
  show aw E M Q (pc + 1) lv (va_rf (g a (ix_ i)) :: rest) H k n
  rw [h2 a _ (ib_lt hin)]
  exact kk
theorem aw_all (a o : Nat) {L : ly_} {s : st_} {ci N : Nat} {ty : FieldType} {v : Int32} {f : le_} {x : Nat → Nat → (Nat → Int32) → (Nat → Int32) ⊕ (Nat → Int64) ⊕ (Nat → UInt32) ⊕ (Nat → UInt64) ⊕ (Nat → Option Nat)} (h : has_ E H a L s) (hL : L[o]? = some f) (hx : ∀ a c, f E a c = .inl (E.2.1 ci, N, x ci a c)) (ht : (ev_tys E)[ci]? = some (E.2.1 ci, ty)) (hv : Int32.ofNat N = v) (hd : decode M.2.1 pc = .ok (.arraylength, 1)) (kk : aw E M Q (pc + 1) lv (.int v :: rest) H k n) : aw E M Q pc lv (.ref (a + o) :: rest) H k n := by
  have h1 := h o f hL
  rw [hx] at h1
  exact aw_alen (x := f E a (s o)) ht h1 hv hd kk
/-! calls: what comes back is known -/
def c0_ (M' : mt_) : Bool := Nat.beq (mt_R M').cells 0 && Nat.beq (mt_R M').slots 0
theorem c0_x {M' : mt_} (h : c0_ M' = true) : (mt_R M').cells = 0 ∧ (mt_R M').slots = 0 := by
  unfold c0_ at h
  rw [Bool.and_eq_true] at h
  exact ⟨Nat.eq_of_beq_eq_true h.1, Nat.eq_of_beq_eq_true h.2⟩
theorem aw_cv (a o : Nat) {L : ly_} {s : st_} {M' : mt_} {rv : Option Value} {P : Heap → Prop} {As : List Value} {idx ci j : Nat} {fs : fs_} {st0 st1 : List Value} (hs : sp_ E M' (.ref (a + o) :: As) H (po1 (.inl rv) P)) (hst : st0 = As.reverse ++ .ref (a + o) :: rest) (hst1 : rv.toList ++ rest = st1) (hc : cokV_ M') (hl : Cond.methodLink M.1.cls idx M'.1 ∈ uw_) (h : has_ E H a L s) (hL : eo_ L o ci fs) (hci : ∃ T N, vwCl[ci]? = some (M'.1.cls, T, N)) (hn : nok_ M' j) (hj : As.length = j) (hR : (rok_ M M' && c0_ M') = true) (htab : M.2.2.2.2.1 = []) (hroom : (rest.map fun v => v.category).sum ≤ 8) (hkk : k ≤ (mt_R M).cells) (hnn : n ≤ (mt_R M).slots) (hd : decode M.2.1 pc = .ok (.invokevirtual idx, 3))
    (kk : ∀ H1 : Heap, P H1 → aw E M Q (pc + 3) lv st1 H1 k n) : aw E M Q pc lv st0 H k n := by
  rw [Bool.and_eq_true] at hR
  obtain ⟨z1, z2⟩ := c0_x hR.2
  refine aw_callV hs hst hc hl (h o _ hL) hci hn hj hR.1 htab hroom (by rw [z1]; exact hkk) (by rw [z2]; exact hnn) hd (fun r H1 _ hq => ?_) (fun X H1 _ hq => ?_)
  · have e := Sum.inl.inj hq.1
    rw [z1, z2, e, hst1]
    exact kk H1 hq.2
  · cases hq.1
theorem aw_cs {M' : mt_} {rv : Option Value} {P : Heap → Prop} {As : List Value} {idx j : Nat} {st0 st1 : List Value} (hs : sp_ E M' As H (po1 (.inl rv) P)) (hst : st0 = As.reverse ++ rest) (hst1 : rv.toList ++ rest = st1) (hc : cokS_ M') (hl : Cond.methodLink M.1.cls idx M'.1 ∈ uw_) (hn : nok_ M' j) (hj : As.length = j) (hR : (rok_ M M' && c0_ M') = true) (htab : M.2.2.2.2.1 = []) (hroom : (rest.map fun v => v.category).sum ≤ 8) (hkk : k ≤ (mt_R M).cells) (hnn : n ≤ (mt_R M).slots) (hd : decode M.2.1 pc = .ok (.invokestatic idx, 3))
    (kk : ∀ H1 : Heap, P H1 → aw E M Q (pc + 3) lv st1 H1 k n) : aw E M Q pc lv st0 H k n := by
  rw [Bool.and_eq_true] at hR
  obtain ⟨z1, z2⟩ := c0_x hR.2
  refine aw_callS hs hst hc hl hn hj hR.1 htab hroom (by rw [z1]; exact hkk) (by rw [z2]; exact hnn) hd (fun r H1 _ hq => ?_) (fun X H1 _ hq => ?_)
  · have e := Sum.inl.inj hq.1
    rw [z1, z2, e, hst1]
    exact kk H1 hq.2
  · cases hq.1
end AL
