/-! the calls in one form: the class's contract, the model's answer, what stands after -/
def oa_ {α : Type} (g : Nat → Int32) (x : α ⊕ Nat) (t' : st_) (y : α) : Prop := match x with
  | .inl v => t' 0 6 = 0 ∧ y = v
  | .inr c => t' 0 6 = g c ∧ g c ≠ 0
/-- what stands after a call -/
def ST_ (s' t t' : st_) : Prop := FF s' t' ∧ ∀ o, 4 ≤ o → o < 7 → t' o = t o
def vi_ : Int32 → Option Value := fun x => some (.int x)
/-- a call that may throw -/
def CT_ {α : Type} (E : ev_) (H : Heap) (a : Nat) (M : mt_) (av : List Value) (f : α → Option Value) (g : Nat → Int32) (t : st_) (B : Option (st_ × α)) : Prop := ∃ (s' : st_) (v : α ⊕ Nat) (t' : st_) (y : α), sp_ E M av H (po1 (thr_ f v) (fun Hn => sm_ H Hn a 119 ∧ has_ E Hn a ly_M s')) ∧ B = some (t', y) ∧ oa_ g v t' y ∧ ST_ s' t t'
def CV_ (E : ev_) (H : Heap) (a : Nat) (M : mt_) (av : List Value) (t : st_) (B : Option (st_ × Int32)) : Prop := ∃ (s' : st_) (v : Int32) (t' : st_), sp_ E M av H (po1 (.inl (some (.int v))) (fun Hn => sm_ H Hn a 119 ∧ has_ E Hn a ly_M s')) ∧ B = some (t', v) ∧ ST_ s' t t'
section CALLS
variable {E : ev_} {H : Heap} {a : Nat} {M : mt_} {av : List Value} {s s' t t' : st_} {g : Nat → Int32}
theorem ou_a {x : Int32 ⊕ Nat} {y : Int32} (h : ou_ g x t' y) : oa_ g x t' y := by cases x <;> exact h
theorem FF.ci (hF : FF s t) (c : CI s s') (h : MI t t') : ST_ s' t t' := by
  refine ⟨hF.of (CG.ci c) (MG.mi h) ?_, fun o a b => h.2.1 o a (by omega)⟩
  obtain ⟨C, R, n, T, hH⟩ := hF.1
  exact ⟨C, R, n, T, hH.ci (fun o _ h2 h3 h4 => c o h2 h3 h4) h.1⟩
theorem FF.gg (hF : FF s t) (c : CG s s') (h : MG t t') (q : GH s' t') : ST_ s' t t' := ⟨hF.of c h q, fun o a b => h.1 o a (by omega)⟩
theorem QN.ct {A : Option (Int32 ⊕ Nat)} {B : Option (st_ × Int32)} (q : QN g t A B) (hF : FF s t) (h0 : has_ E H a ly_M s) (hs : ∀ r, A = some r → sp_ E M av H (po1 (thr_ vi_ r) (fun Hn => sm_ H Hn 0 0))) : CT_ E H a M av vi_ g t B := by
  obtain ⟨x, t', y, e1, e2, e3, e4⟩ := q
  exact ⟨s, x, t', y, (hs x e1).mono (fun r H1 h => ⟨h.1, sm_.lo h.2, h0.kept0 h.2⟩), e2, ou_a e3, hF.ci CI.r e4⟩
theorem QP.ct {A : Option (st_ × (Int32 ⊕ Nat))} {B : Option (st_ × Int32)} (q : QP g s t A B) (hF : FF s t) (hs : ∀ r, A = some r → sp_ E M av H (po1 (thr_ vi_ r.2) (fun Hn => sm_ H Hn a 119 ∧ has_ E Hn a ly_M r.1))) : CT_ E H a M av vi_ g t B := by
  obtain ⟨s', x, t', y, e1, e2, e3, e4, e5⟩ := q
  exact ⟨s', x, t', y, hs _ e1, e2, ou_a e3, hF.ci e4 e5⟩
theorem QU.ct {A : Option (st_ × (Int32 ⊕ Nat))} {B : Option (st_ × Int32)} (q : QU g s t A B) (hF : FF s t) (hs : ∀ r, A = some r → sp_ E M av H (po1 (thr_ vi_ r.2) (fun Hn => sm_ H Hn a 119 ∧ has_ E Hn a ly_M r.1))) : CT_ E H a M av vi_ g t B := by
  obtain ⟨s', x, t', y, e1, e2, e3, e4, e5, e6⟩ := q
  exact ⟨s', x, t', y, hs _ e1, e2, ou_a e3, hF.gg e4 e5 e6⟩
theorem QNg.ct {α : Type} {f : α → Option Value} {A : Option (α ⊕ Nat)} {B : Option (st_ × α)} (q : QNg g t A B) (hF : FF s t) (h0 : has_ E H a ly_M s) (hs : ∀ r, A = some r → sp_ E M av H (po1 (thr_ f r) (fun Hn => sm_ H Hn 0 0))) (Z : α → Prop) (hz : ∀ v, A = some (.inl v) → Z v) : ∃ (s' : st_) (v : α ⊕ Nat) (t' : st_) (y : α), sp_ E M av H (po1 (thr_ f v) (fun Hn => sm_ H Hn a 119 ∧ has_ E Hn a ly_M s')) ∧ B = some (t', y) ∧ oa_ g v t' y ∧ ST_ s' t t' ∧ ∀ x, v = .inl x → Z x := by
  obtain ⟨t', ⟨v, e1, e2, e3, e4⟩ | ⟨c, v, e1, e2, e3, e4, e5⟩⟩ := q
  · obtain ⟨w1, w2⟩ := hF.ci CI.r e4
    exact ⟨s, .inl v, t', v, (hs _ e1).mono (fun r H1 h => ⟨h.1, sm_.lo h.2, h0.kept0 h.2⟩), e2, ⟨e3, rfl⟩, ⟨w1, w2⟩, fun x hx => by cases hx; exact hz _ e1⟩
  · obtain ⟨w1, w2⟩ := hF.ci CI.r e5
    exact ⟨s, .inr c, t', v, (hs _ e1).mono (fun r H1 h => ⟨h.1, sm_.lo h.2, h0.kept0 h.2⟩), e2, ⟨e3, e4⟩, ⟨w1, w2⟩, fun x hx => by cases hx⟩
theorem QV.cv {A : Option Int32} {B : Option (st_ × Int32)} (q : QV t A B) (hF : FF s t) (h0 : has_ E H a ly_M s) (hs : ∀ r, A = some r → sp_ E M av H (po1 (.inl (some (.int r))) (fun Hn => sm_ H Hn 0 0))) : CV_ E H a M av t B := by
  obtain ⟨x, t', e1, e2, e4⟩ := q
  exact ⟨s, x, t', (hs x e1).mono (fun r H1 h => ⟨h.1, sm_.lo h.2, h0.kept0 h.2⟩), e2, hF.ci CI.r e4⟩
theorem QS.cv {A B : Option (st_ × Int32)} (q : QS s t A B) (hF : FF s t) (hs : ∀ r, A = some r → sp_ E M av H (po1 (.inl (some (.int r.2))) (fun Hn => sm_ H Hn a 119 ∧ has_ E Hn a ly_M r.1))) : CV_ E H a M av t B := by
  obtain ⟨s', x, t', e1, e2, e3, e4⟩ := q
  exact ⟨s', x, t', hs _ e1, e2, hF.ci e3 e4⟩
theorem QW.cv {A B : Option (st_ × Int32)} (q : QW s t A B) (hF : FF s t) (hs : ∀ r, A = some r → sp_ E M av H (po1 (.inl (some (.int r.2))) (fun Hn => sm_ H Hn a 119 ∧ has_ E Hn a ly_M r.1))) : CV_ E H a M av t B := by
  obtain ⟨s', x, t', e1, e2, e3, e4, e5⟩ := q
  exact ⟨s', x, t', hs _ e1, e2, hF.gg e3 e4 e5⟩
theorem load_cv (hF : FF s t) (h0 : has_ E H a ly_M s) (hf : ev_fr E a) : CV_ E H a mX7_load [.ref a] t (fX8_load t) := by
  obtain ⟨s', t', y, e1, e2, e3, e4⟩ := load_p hF
  exact ⟨s', y, t', kX7_load e1 h0 hf, e2, e3, e4⟩
theorem append_cv (hF : FF s t) (h0 : has_ E H a ly_M s) (hf : ev_fr E a) (i0 : Int64) : CV_ E H a mX7_append [.ref a, .long i0] t (fX8_append t i0) := by
  obtain ⟨s', t', y, e1, e2, e3, e4⟩ := append_p hF i0
  exact ⟨s', y, t', kX7_append e1 h0 hf, e2, e3, e4⟩
theorem loadError_cv (hF : FF s t) (h0 : has_ E H a ly_M s) : CV_ E H a mX7_loadError [.ref a] t (fX8_loadError t) := by
  obtain ⟨t', y, e1, e2, e3⟩ := loadError_p hF
  exact ⟨s, y, t', (kX7_loadError e1 h0).mono (fun r H1 h => ⟨h.1, sm_.lo h.2, h0.kept0 h.2⟩), e2, hF.ci CI.r e3⟩
end CALLS
