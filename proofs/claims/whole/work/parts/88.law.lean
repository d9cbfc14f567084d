/-! the law: what lies in the heap between its calls -/
def mL_law : mt_ := (yL_law, cL_law, 9, some .boolean, [], room_1)
abbrev lx_ : Type := (Nat × Nat × Nat × Nat) × Nat × Nat × (Nat → Int32)
/-- addresses of the class's object, the reference's, both out arrays; of the script, its length, its ints -/
abbrev lA (G : lx_) : Nat := G.1.1
abbrev lB (G : lx_) : Nat := G.1.2.1
abbrev lO (G : lx_) : Nat := G.1.2.2.1
abbrev lP (G : lx_) : Nat := G.1.2.2.2
abbrev lb (G : lx_) : Nat := G.2.1
abbrev lL (G : lx_) : Nat := G.2.2.1
abbrev lX (G : lx_) : Nat → Int32 := G.2.2.2
def ge_ (E : ev_) (G : lx_) : Prop := ev_fr E (lA G) ∧ lA G + 120 ≤ lB G ∧ lB G + 10 ≤ lO G ∧ lO G + 1 ≤ lP G ∧ lb G < lA G ∧ lL G ≤ 2048
/-- snapshots: what the class's array holds, and what the reference says of it -/
def SN_ (E : ev_) (H : Heap) (lo : Nat) (f : Nat → Option Nat) (t : st_) : Prop := (∀ k, k < 2 → (f k = none ∧ t 6 k = 0) ∨ ∃ b g, f k = some b ∧ lo ≤ b ∧ has_ E H b ly_G g ∧ GK g (t (4 + k)) ∧ t 6 k = 1) ∧ ∀ b0 b1, f 0 = some b0 → f 1 = some b1 → b0 + 75 ≤ b1 ∨ b1 + 75 ≤ b0
/-- the script: a cell of the law's start -/
def scr_ (E : ev_) (b L : Nat) (xs : Nat → Int32) (H : Heap) : Prop := va_X b L xs (ev_s E) H
theorem scr_.kept {E : ev_} {b L : Nat} {xs : Nat → Int32} {H H1 : Heap} (h : scr_ E b L xs H) (hq : H1[b]? = H[b]?) : scr_ E b L xs H1 := va_X.kept h hq
theorem scr_.lt {E : ev_} {b L : Nat} {xs : Nat → Int32} {H : Heap} (h : scr_ E b L xs H) : b < H.size := by
  obtain ⟨scr, h1, -⟩ := h
  exact (Array.getElem?_eq_some_iff.mp h1).1
section SCR
variable {E : ev_} {M : mt_} {Q : po_} {pc : Nat} {lv : List (Nat × Value)} {rest : List Value} {H : Heap} {k n : Nat} {b L : Nat} {xs : Nat → Int32}
theorem aw_sld {i : Int32} (h : scr_ E b L xs H) (hin : vp_in i L) (hd : decode M.2.1 pc = .ok (.iaload, 1)) (kk : aw E M Q (pc + 1) lv (.int (xs i.toNatClampNeg) :: rest) H k n) : aw E M Q pc lv (.int i :: .ref b :: rest) H k n := by
  intro p e s m args below meth c locs ls C P L0
  obtain ⟨scr, h1, h2, h3, h4, h5⟩ := va_X.moved C.2.2.2.2.2.2.2.2.1.alike h
  have hlt : i.toNatClampNeg < L := Nat.not_le.mp fun q => hin (Or.inr q)
  exact W.iald (v := .int (xs i.toNatClampNeg)) C.1 C.2.1 h1 h2 h3 (by rw [h4]; exact hin) (h5 _ hlt) rfl rfl hd (kk p e s m args below meth c locs ls C P L0)
theorem aw_slen (h : scr_ E b L xs H) (hd : decode M.2.1 pc = .ok (.arraylength, 1)) (kk : aw E M Q (pc + 1) lv (.int (nI L) :: rest) H k n) : aw E M Q pc lv (.ref b :: rest) H k n := by
  intro p e s m args below meth c locs ls C P L0
  obtain ⟨scr, h1, h2, h3, h4, h5⟩ := va_X.moved C.2.2.2.2.2.2.2.2.1.alike h
  exact W.alen (n := nI L) C.1 C.2.1 h1 h2 (by rw [h4] <;> rfl) rfl rfl hd (kk p e s m args below meth c locs ls C P L0)
end SCR
def LB_ (E : ev_) (G : lx_) (H : Heap) (s t : st_) (f : Nat → Option Nat) : Prop := scr_ E (lb G) (lL G) (lX G) H ∧ has_ E H (lA G) ly_M s ∧ at_ E H (lA G + 119) (sna_ E f) ∧ has_ E H (lB G) ly_O t ∧ out0_ E (lO G) H ∧ outD_ E (lP G) H
/-- the class's step: its contract, the reference's answer, what stands after it -/
def CL_ {α : Type} (E : ev_) (G : lx_) (H : Heap) (M : mt_) (av : List Value) (fv : α → Option Value) (g : Nat → Int32) (t : st_) (F : Option (st_ × α)) (Z : α → Prop) : Prop := ∃ (s' : st_) (v : α ⊕ Nat) (t' : st_) (y : α) (PP : Heap → Prop), sp_ E M av H (po1 (thr_ fv v) PP) ∧ F = some (t', y) ∧ oa_ g v t' y ∧ FF s' t' ∧ (∀ x, v = .inl x → Z x) ∧ ∀ H1, PP H1 → ∃ f', LB_ E G H1 s' t f' ∧ SN_ E H1 (lP G + 1) f' t'
section LAW
variable {E : ev_} {G : lx_} {H H1 H2 : Heap} {s s' t t' : st_} {f : Nat → Option Nat} {lo b m : Nat}
theorem SN_.kept (h : SN_ E H lo f t) (z : sm_ H H1 b m) (hb : b + m ≤ lo) : SN_ E H1 lo f t := ⟨fun k hk => (h.1 k hk).imp id (fun ⟨c, g, h1, h2, h3, h4⟩ => ⟨c, g, h1, h2, h3.kept z (n := 75) rfl (Or.inr (by omega)), h4⟩), h.2⟩
theorem SN_.md (h : SN_ E H lo f t) (he : ∀ o, 4 ≤ o → o < 7 → t' o = t o) : SN_ E H lo f t' := ⟨fun k hk => by
  rw [he 6 (by omega) (by omega), he (4 + k) (by omega) (by omega)]
  exact h.1 k hk, h.2⟩
theorem out0_.kept {o : Nat} (h : out0_ E o H) (q : H1[o]? = H[o]?) : out0_ E o H1 := by
  obtain ⟨e, z, h1, h2⟩ := h
  exact ⟨e, z, at_same h1 q, h2⟩
theorem outD_.kept {o : Nat} (h : outD_ E o H) (q : H1[o]? = H[o]?) : outD_ E o H1 := by
  obtain ⟨e, z, h1, h2⟩ := h
  exact ⟨e, z, at_same h1 q, h2⟩
theorem out0_.lt {o : Nat} (h : out0_ E o H) : o < H.size := by
  obtain ⟨e, z, h1, h2⟩ := h
  exact at_lt h1
theorem outD_.lt {o : Nat} (h : outD_ E o H) : o < H.size := by
  obtain ⟨e, z, h1, h2⟩ := h
  exact at_lt h1
/-- the class's object changed within -/
theorem LB_.cls (h : LB_ E G H s t f) (hg : ge_ E G) (z : sm_ H H1 (lA G) 119) (hn : has_ E H1 (lA G) ly_M s') : LB_ E G H1 s' t f := by
  obtain ⟨g1, g2, g3, g4, g5, g6⟩ := hg
  obtain ⟨h1, h2, h3, h4, h5, h6⟩ := h
  exact ⟨h1.kept (z.2 _ h1.lt (by omega)), hn, at_same h3 (z.2 _ (at_lt h3) (by omega)), h4.kept z (n := 10) rfl (by omega), h5.kept (z.2 _ h5.lt (by omega)), h6.kept (z.2 _ h6.lt (by omega))⟩
theorem LB_.mod (h : LB_ E G H s t f) (hg : ge_ E G) (z : sm_ H H1 (lB G) 10) (hn : has_ E H1 (lB G) ly_O t') : LB_ E G H1 s t' f := by
  obtain ⟨g1, g2, g3, g4, g5, g6⟩ := hg
  obtain ⟨h1, h2, h3, h4, h5, h6⟩ := h
  exact ⟨h1.kept (z.2 _ h1.lt (by omega)), h2.kept z (n := 119) rfl (by omega), at_same h3 (z.2 _ (at_lt h3) (by omega)), hn, h5.kept (z.2 _ h5.lt (by omega)), h6.kept (z.2 _ h6.lt (by omega))⟩
theorem LB_.z (h : LB_ E G H s t f) (z : sm_ H H1 0 0) : LB_ E G H1 s t f := by
  obtain ⟨h1, h2, h3, h4, h5, h6⟩ := h
  exact ⟨h1.kept (z.2 _ h1.lt (by omega)), h2.kept0 z, at_same h3 (z.2 _ (at_lt h3) (by omega)), h4.kept0 z, h5.kept (z.2 _ h5.lt (by omega)), h6.kept (z.2 _ h6.lt (by omega))⟩
theorem LB_.out (h : LB_ E G H s t f) (hg : ge_ E G) (z : sm1 H H1 (lO G)) (hn : out0_ E (lO G) H1) : LB_ E G H1 s t f := by
  obtain ⟨g1, g2, g3, g4, g5, g6⟩ := hg
  obtain ⟨h1, h2, h3, h4, h5, h6⟩ := h
  have zz := sm_.of1 z
  exact ⟨h1.kept (z.2 _ (by omega)), h2.kept zz (n := 119) rfl (by omega), at_same h3 (z.2 _ (by omega)), h4.kept zz (n := 10) rfl (by omega), hn, h6.kept (z.2 _ (by omega))⟩
theorem LB_.outD (h : LB_ E G H s t f) (hg : ge_ E G) (z : sm1 H H1 (lP G)) (hn : outD_ E (lP G) H1) : LB_ E G H1 s t f := by
  obtain ⟨g1, g2, g3, g4, g5, g6⟩ := hg
  obtain ⟨h1, h2, h3, h4, h5, h6⟩ := h
  have zz := sm_.of1 z
  exact ⟨h1.kept (z.2 _ (by omega)), h2.kept zz (n := 119) rfl (by omega), at_same h3 (z.2 _ (by omega)), h4.kept zz (n := 10) rfl (by omega), h5.kept (z.2 _ (by omega)), hn⟩
/-- what a wrapper gave: its number, and the answer where it is 0 -/
def WR_ {α : Type} (E : ev_) (o : Nat) (out : α → va_E → Prop) (H : Heap) (kx : Int32) (y : α) : Prop := kx = 0 → ∃ e, at_ E H o e ∧ out y e
theorem WR_.kept {α : Type} {o : Nat} {out : α → va_E → Prop} {kx : Int32} {y : α} (h : WR_ E o out H kx y) (z : sm_ H H1 b m) (hb : o < b ∨ b + m ≤ o) : WR_ E o out H1 kx y := fun h0 => by
  obtain ⟨e, h1, h2⟩ := h h0
  exact ⟨e, at_same h1 (z.2 _ (at_lt h1) hb), h2⟩
theorem wq0 {α : Type} {out : α → va_E → Prop} (hout : ∀ y e, out y e → ∃ z, lo_ E z e) {g : Nat → Int32} {v : α ⊕ Nat} {y : α} {PP : Heap → Prop} {r : Option Value} (hg : ge_ E G) (ho : oa_ g v t' y) (hP : ∀ H1, PP H1 → ∃ f', LB_ E G H1 s' t f' ∧ SN_ E H1 (lP G + 1) f' t') (hq : wq_ E (lO G) g out v PP (.inl r) H1) : ∃ kx f', r = some (.int kx) ∧ LB_ E G H1 s' t f' ∧ SN_ E H1 (lP G + 1) f' t' ∧ t' 0 6 = kx ∧ WR_ E (lO G) out H1 kx y := by
  unfold wq_ at hq
  cases v with
  | inl x =>
    obtain ⟨hr, H9, e, hp, ha, hy, hz⟩ := hq
    obtain ⟨f', q1, q2⟩ := hP H9 hp
    obtain ⟨o1, rfl⟩ := ho
    obtain ⟨z, hz2⟩ := hout _ _ hy
    exact ⟨0, f', Sum.inl.inj hr, q1.out hg hz ⟨e, z, ha, hz2⟩, q2.kept (sm_.of1 hz) (by have := hg.2.2.2.1; omega), o1, fun _ => ⟨e, ha, hy⟩⟩
  | inr c =>
    obtain ⟨hr, hp⟩ := hq
    obtain ⟨f', q1, q2⟩ := hP H1 hp
    exact ⟨g c, f', Sum.inl.inj hr, q1, q2, ho.1, fun h0 => absurd h0 ho.2⟩
theorem wqD {α : Type} {out : α → va_E → Prop} (hout : ∀ y e, out y e → ∃ z, do_ E z e) {g : Nat → Int32} {v : α ⊕ Nat} {y : α} {PP : Heap → Prop} {r : Option Value} (hg : ge_ E G) (ho : oa_ g v t' y) (hP : ∀ H1, PP H1 → ∃ f', LB_ E G H1 s' t f' ∧ SN_ E H1 (lP G + 1) f' t') (hq : wq_ E (lP G) g out v PP (.inl r) H1) : ∃ kx f', r = some (.int kx) ∧ LB_ E G H1 s' t f' ∧ SN_ E H1 (lP G + 1) f' t' ∧ t' 0 6 = kx ∧ WR_ E (lP G) out H1 kx y ∧ (kx = 0 → ∃ x, v = .inl x ∧ y = x) := by
  unfold wq_ at hq
  cases v with
  | inl x =>
    obtain ⟨hr, H9, e, hp, ha, hy, hz⟩ := hq
    obtain ⟨f', q1, q2⟩ := hP H9 hp
    obtain ⟨o1, rfl⟩ := ho
    obtain ⟨z, hz2⟩ := hout _ _ hy
    exact ⟨0, f', Sum.inl.inj hr, q1.outD hg hz ⟨e, z, ha, hz2⟩, q2.kept (sm_.of1 hz) (by omega), o1, fun _ => ⟨e, ha, hy⟩, fun _ => ⟨_, rfl, rfl⟩⟩
  | inr c =>
    obtain ⟨hr, hp⟩ := hq
    obtain ⟨f', q1, q2⟩ := hP H1 hp
    exact ⟨g c, f', Sum.inl.inj hr, q1, q2, ho.1, fun h0 => absurd h0 ho.2, fun h0 => absurd h0 ho.2⟩
theorem CT_.cl {α : Type} {M : mt_} {av : List Value} {fv : α → Option Value} {g : Nat → Int32} {F : Option (st_ × α)} (h : CT_ E H (lA G) M av fv g t F) (hg : ge_ E G) (hb : LB_ E G H s t f) (hs : SN_ E H (lP G + 1) f t) : CL_ E G H M av fv g t F (fun _ => True) := by
  obtain ⟨s', v, t', y, h1, h2, h3, h4, h5⟩ := h
  obtain ⟨g1, g2, g3, g4, g5, g6⟩ := id hg
  exact ⟨s', v, t', y, _, h1, h2, h3, h4, fun _ _ => trivial, fun H1 q => ⟨f, hb.cls hg q.1 q.2, (hs.kept q.1 (by omega)).md h5⟩⟩
theorem hA_ (h : LB_ E G H s t f) : at_ E H (lA G) (.inr (7, fsX7 (lA G + 0) (s 0))) := h.2.1 0 _ eo_M_0
end LAW
