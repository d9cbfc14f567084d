/-! the pure part: what a mirror comes to; numbers; states -/
def wp_ {α : Type} (x : Option α) (P : α → Prop) : Prop := ∃ a, x = some a ∧ P a
section WP
variable {α β σ : Type}
theorem wp_s {a : α} {P : α → Prop} (h : P a) : wp_ (some a) P := ⟨a, rfl, h⟩
theorem wp_l {a : α} {J : α → Prop} {P : β → Prop} (h : J a) : wp_ (some (Sum.inl a)) (Sum.elim J P) := ⟨_, rfl, h⟩
theorem wp_r {b : β} {J : α → Prop} {P : β → Prop} (h : P b) : wp_ (some (Sum.inr b)) (Sum.elim J P) := ⟨_, rfl, h⟩
theorem wp_e {x : Option α} {a : α} (h : x = some a) : wp_ x (fun z => z = a) := ⟨a, h, rfl⟩
theorem wp_bd {x : σ} {f : σ → Option α} {P : α → Prop} (h : wp_ (f x) P) : wp_ (bd_ x f) P := h
theorem wp_gd {b : Bool} {x : Option α} {P : α → Prop} (hb : b = true) (h : wp_ x P) : wp_ (gd_ b x) P := by subst hb; exact h
theorem wp_bn {x : Option σ} {f : σ → Option α} {P : α → Prop} {Q : σ → Prop} (hx : wp_ x Q) (h : ∀ a, Q a → wp_ (f a) P) : wp_ (bn_ x f) P := by
  obtain ⟨a, rfl, ha⟩ := hx
  exact h a ha
theorem wp_bne {x : Option σ} {f : σ → Option α} {P : α → Prop} {a : σ} (hx : x = some a) (h : wp_ (f a) P) : wp_ (bn_ x f) P := by subst hx; exact h
theorem wp_if {c : Prop} {d : Decidable c} {x y : Option α} {P : α → Prop} (h1 : c → wp_ x P) (h2 : ¬ c → wp_ y P) : wp_ (@ite _ c d x y) P := by
  by_cases h : c
  · rw [if_pos h]; exact h1 h
  · rw [if_neg h]; exact h2 h
theorem wp_it {c : Prop} {d : Decidable c} {x y : Option α} {P : α → Prop} (h : c) (h1 : wp_ x P) : wp_ (@ite _ c d x y) P := by rw [if_pos h]; exact h1
theorem wp_if' {c : Prop} {d : Decidable c} {x y : Option α} {P : α → Prop} (h : ¬ c) (h1 : wp_ y P) : wp_ (@ite _ c d x y) P := by rw [if_neg h]; exact h1
theorem wp_m {x : Option α} {P Q : α → Prop} (h : wp_ x P) (hq : ∀ a, P a → Q a) : wp_ x Q := by
  obtain ⟨a, e, ha⟩ := h
  exact ⟨a, e, hq a ha⟩
theorem gd_t {b : Bool} {x : Option α} (hb : b = true) : gd_ b x = x := by subst hb; rfl
theorem bn_s {a : σ} {f : σ → Option α} : bn_ (some a) f = f a := rfl
theorem bn_e {x : Option σ} {a : σ} {f : σ → Option α} (h : x = some a) : bn_ x f = f a := by subst h; rfl
theorem bd_e {x : σ} {f : σ → Option α} : bd_ x f = f x := rfl
/-- a loop with a measure -/
theorem wp_lo {f : α → Option (α ⊕ β)} {P : β → Prop} (I : Nat → α → Prop) : ∀ (fu n : Nat) (v : α), n < fu → I n v → (∀ k v, k ≤ n → I k v → wp_ (f v) (Sum.elim (fun w => ∃ j, j < k ∧ I j w) P)) → wp_ (it_ f fu v) P
  | 0, n, v, h, _, _ => absurd h (Nat.not_lt_zero _)
  | fu + 1, n, v, h, hI, hst => by
    obtain ⟨y, hy, hp⟩ := hst n v (Nat.le_refl _) hI
    cases y with
    | inl w =>
      obtain ⟨j, hj, hIj⟩ := hp
      have e : it_ f (fu + 1) v = it_ f fu w := by
        show (match f v with | none => none | some (.inl w) => it_ f fu w | some (.inr x) => some x) = _
        rw [hy]
      rw [e]
      exact wp_lo I fu j w (by omega) hIj (fun k v hk => hst k v (by omega))
    | inr x =>
      refine ⟨x, ?_, hp⟩
      show (match f v with | none => none | some (.inl w) => it_ f fu w | some (.inr x) => some x) = _
      rw [hy]
/-- a loop that counts up, from k0 to n -/
theorem wp_up {f : α → Option (α ⊕ β)} {P : β → Prop} (J : Nat → α → Prop) (k0 n : Nat) (hk : k0 ≤ n) (hn : n < 4000000000) {v : α} (h0 : J k0 v) (st : ∀ k v, k < n → k0 ≤ k → J k v → wp_ (f v) (Sum.elim (fun w => J (k + 1) w) P)) (en : ∀ v, J n v → wp_ (f v) (Sum.elim (fun _ => False) P)) : wp_ (it_ f FU_ v) P := by
  refine wp_lo (fun m v => ∃ k, k0 ≤ k ∧ k + m = n ∧ J k v) FU_ (n - k0) v (Nat.lt_of_le_of_lt (Nat.sub_le _ _) (Nat.lt_trans hn (Nat.le_of_ble_eq_true rfl))) ⟨k0, Nat.le_refl _, by omega, h0⟩ (fun m v hm hI => ?_)
  obtain ⟨k, hk0, hkn, hJ⟩ := hI
  rcases Nat.lt_or_ge k n with h | h
  · refine wp_m (st k v h hk0 hJ) (fun y hy => ?_)
    cases y with
    | inl w => exact ⟨m - 1, by omega, k + 1, by omega, by omega, hy⟩
    | inr x => exact hy
  · have e : k = n := by omega
    rw [e] at hJ
    refine wp_m (en v hJ) (fun y hy => ?_)
    cases y with
    | inl w => exact hy.elim
    | inr x => exact hy
end WP
/-! numbers -/
def rg_ (x : Int32) (lo hi : Nat) : Prop := x = nI (ix_ x) ∧ lo ≤ ix_ x ∧ ix_ x ≤ hi
theorem ib_n {k N : Nat} (h : k < N) (hN : N ≤ 2147483648) : ib_ (nI k) N = true := by
  unfold ib_
  rw [Bool.and_eq_true]
  refine ⟨decide_eq_true (nI_pos' (by omega)), ?_⟩
  rw [nI_clamp (by omega)]
  exact Nat.ble_eq_true_of_le h
theorem ix_n {k : Nat} (h : k < 2147483648) : ix_ (nI k) = k := nI_clamp (by omega)
theorem rg_n {k lo hi : Nat} (h1 : lo ≤ k) (h2 : k ≤ hi) (h : hi < 2147483648) : rg_ (nI k) lo hi := by
  have e : ix_ (nI k) = k := ix_n (by omega)
  exact ⟨by rw [e], by rw [e]; exact h1, by rw [e]; exact h2⟩
theorem rg_.of {x : Int32} {k lo hi : Nat} (hx : x = nI k) (h1 : lo ≤ k) (h2 : k ≤ hi) (h : hi < 2147483648) : rg_ x lo hi := by rw [hx]; exact rg_n h1 h2 h
theorem rg_.ex {x : Int32} {lo hi : Nat} (h : rg_ x lo hi) : ∃ k : Nat, lo ≤ k ∧ k ≤ hi ∧ x = nI k := ⟨ix_ x, h.2.1, h.2.2, h.1⟩
theorem rg_.mono {x : Int32} {lo hi lo' hi' : Nat} (h : rg_ x lo hi) (h1 : lo' ≤ lo) (h2 : hi ≤ hi') : rg_ x lo' hi' := ⟨h.1, Nat.le_trans h1 h.2.1, Nat.le_trans h.2.2 h2⟩
/-- a number in a range, by comparisons -/
theorem rg_iff {x : Int32} {lo hi : Nat} (hh : hi < 2147483648) (hl : lo ≤ hi) : rg_ x lo hi ↔ nI lo ≤ x ∧ x ≤ nI hi := by
  constructor
  · intro h
    obtain ⟨k, h1, h2, rfl⟩ := h.ex
    exact ⟨nI_le h1 (by omega), nI_le h2 (by omega)⟩
  · intro ⟨h1, h2⟩
    have e1 : (nI lo).toInt = (lo : Int) := nI_toInt (by omega)
    have e2 : (nI hi).toInt = (hi : Int) := nI_toInt (by omega)
    have l1 := Int32.le_iff_toInt_le.mp h1
    have l2 := Int32.le_iff_toInt_le.mp h2
    rw [e1] at l1
    rw [e2] at l2
    have e3 : x = nI x.toInt.toNat := by
      apply Int32.toInt_inj.mp
      rw [nI_toInt (by omega)]
      omega
    exact rg_.of e3 (by omega) (by omega) (by omega)
/-! states -/
section PT
variable {s t : st_} {o j q r n : Nat} {v : Int32} {f : Nat → Int32}
theorem pt_a : pt_ s o j v o j = v := by simp [pt_, up_]
theorem pt_o (h : q ≠ o) : pt_ s o j v q = s q := by unfold pt_; rw [if_neg h]
theorem pt_r (h : r ≠ j) : pt_ s o j v o r = s o r := by simp [pt_, up_, h]
theorem pt_ap : pt_ s o j v q r = if q = o then (if r = j then v else s q r) else s q r := by
  by_cases h : q = o
  · subst h
    by_cases h2 : r = j
    · subst h2; simp [pt_, up_]
    · simp [pt_, up_, h2]
  · simp [pt_, h]
theorem pt_1 {w : Nat → Int32} (h : s o = w) : pt_ s o j v o = up_ w j v := by subst h; simp [pt_]
theorem up_a {w : Nat → Int32} : up_ w j v j = v := if_pos rfl
theorem up_n {w : Nat → Int32} (h : r ≠ j) : up_ w j v r = w r := if_neg h
theorem sb_ap : sb_ s o q = s (o + q) := rfl
theorem mg_i (h1 : o ≤ q) (h2 : q < o + n) : mg_ s o n t q = t (q - o) := if_pos ⟨h1, h2⟩
theorem mg_o (h : q < o ∨ o + n ≤ q) : mg_ s o n t q = s q := if_neg (by omega)
theorem mg_ap : mg_ s o n t q = if o ≤ q ∧ q < o + n then t (q - o) else s q := rfl
theorem rw_a : rw_ s o f o = f := if_pos rfl
theorem rw_o (h : q ≠ o) : rw_ s o f q = s q := if_neg h
theorem rw_ap : rw_ s o f q = if q = o then f else s q := rfl
theorem cpy_i {g h : Nat → Int32} (hj : j < n) : va_cpy g h 0 0 n j = g j := by
  rw [pk_cpy_in (Nat.zero_le _) (by omega)]
  congr 1
  omega
end PT
section PT2
variable {s t : st_} {o j q r n : Nat} {v : Int32}
theorem pt_rr (h : r ≠ j) : pt_ s o j v o r = s o r := pt_r h
theorem pt_oo (h : q ≠ o) : pt_ s o j v q r = s q r := by rw [pt_o h]
theorem ib_of {x : Int32} {k N : Nat} (hx : x = nI k) (h : k < N) (hN : N ≤ 2147483648) : ib_ x N = true := by rw [hx]; exact ib_n h hN
theorem ix_of {x : Int32} {k : Nat} (hx : x = nI k) (h : k < 2147483648) : ix_ x = k := by rw [hx]; exact ix_n h
end PT2
theorem i0_ : ix_ (0 : Int32) = 0 := by decide +kernel
theorem b0_ : ib_ (0 : Int32) 12584 = true := by decide +kernel
theorem i1_ : ix_ (1 : Int32) = 1 := by decide +kernel
theorem b1_ : ib_ (1 : Int32) 12584 = true := by decide +kernel
theorem i2_ : ix_ (2 : Int32) = 2 := by decide +kernel
theorem b2_ : ib_ (2 : Int32) 12584 = true := by decide +kernel
theorem i3_ : ix_ (3 : Int32) = 3 := by decide +kernel
theorem b3_ : ib_ (3 : Int32) 12584 = true := by decide +kernel
theorem i4_ : ix_ (4 : Int32) = 4 := by decide +kernel
theorem b4_ : ib_ (4 : Int32) 12584 = true := by decide +kernel
theorem i5_ : ix_ (5 : Int32) = 5 := by decide +kernel
theorem b5_ : ib_ (5 : Int32) 12584 = true := by decide +kernel
theorem i6_ : ix_ (6 : Int32) = 6 := by decide +kernel
theorem b6_ : ib_ (6 : Int32) 12584 = true := by decide +kernel
theorem i7_ : ix_ (7 : Int32) = 7 := by decide +kernel
theorem b7_ : ib_ (7 : Int32) 12584 = true := by decide +kernel
theorem i8_ : ix_ (8 : Int32) = 8 := by decide +kernel
theorem b8_ : ib_ (8 : Int32) 12584 = true := by decide +kernel
theorem i9_ : ix_ (9 : Int32) = 9 := by decide +kernel
theorem b9_ : ib_ (9 : Int32) 12584 = true := by decide +kernel
theorem i10_ : ix_ (10 : Int32) = 10 := by decide +kernel
theorem b10_ : ib_ (10 : Int32) 12584 = true := by decide +kernel
theorem i11_ : ix_ (11 : Int32) = 11 := by decide +kernel
theorem b11_ : ib_ (11 : Int32) 12584 = true := by decide +kernel
theorem i12_ : ix_ (12 : Int32) = 12 := by decide +kernel
theorem b12_ : ib_ (12 : Int32) 12584 = true := by decide +kernel
theorem i13_ : ix_ (13 : Int32) = 13 := by decide +kernel
theorem b13_ : ib_ (13 : Int32) 12584 = true := by decide +kernel
theorem i14_ : ix_ (14 : Int32) = 14 := by decide +kernel
theorem b14_ : ib_ (14 : Int32) 12584 = true := by decide +kernel
theorem i15_ : ix_ (15 : Int32) = 15 := by decide +kernel
theorem b15_ : ib_ (15 : Int32) 12584 = true := by decide +kernel
theorem i16_ : ix_ (16 : Int32) = 16 := by decide +kernel
theorem b16_ : ib_ (16 : Int32) 12584 = true := by decide +kernel
theorem i17_ : ix_ (17 : Int32) = 17 := by decide +kernel
theorem b17_ : ib_ (17 : Int32) 12584 = true := by decide +kernel
theorem i18_ : ix_ (18 : Int32) = 18 := by decide +kernel
theorem b18_ : ib_ (18 : Int32) 12584 = true := by decide +kernel
theorem i19_ : ix_ (19 : Int32) = 19 := by decide +kernel
theorem b19_ : ib_ (19 : Int32) 12584 = true := by decide +kernel
theorem i20_ : ix_ (20 : Int32) = 20 := by decide +kernel
theorem b20_ : ib_ (20 : Int32) 12584 = true := by decide +kernel
theorem i21_ : ix_ (21 : Int32) = 21 := by decide +kernel
theorem b21_ : ib_ (21 : Int32) 12584 = true := by decide +kernel
theorem i22_ : ix_ (22 : Int32) = 22 := by decide +kernel
theorem b22_ : ib_ (22 : Int32) 12584 = true := by decide +kernel
theorem i23_ : ix_ (23 : Int32) = 23 := by decide +kernel
theorem b23_ : ib_ (23 : Int32) 12584 = true := by decide +kernel
theorem i24_ : ix_ (24 : Int32) = 24 := by decide +kernel
theorem b24_ : ib_ (24 : Int32) 12584 = true := by decide +kernel
theorem i25_ : ix_ (25 : Int32) = 25 := by decide +kernel
theorem b25_ : ib_ (25 : Int32) 12584 = true := by decide +kernel
theorem i448_ : ix_ (448 : Int32) = 448 := by decide +kernel
theorem b448_ : ib_ (448 : Int32) 12584 = true := by decide +kernel
theorem i449_ : ix_ (449 : Int32) = 449 := by decide +kernel
theorem b449_ : ib_ (449 : Int32) 12584 = true := by decide +kernel
theorem i450_ : ix_ (450 : Int32) = 450 := by decide +kernel
theorem b450_ : ib_ (450 : Int32) 12584 = true := by decide +kernel
theorem i451_ : ix_ (451 : Int32) = 451 := by decide +kernel
theorem b451_ : ib_ (451 : Int32) 12584 = true := by decide +kernel
theorem i452_ : ix_ (452 : Int32) = 452 := by decide +kernel
theorem b452_ : ib_ (452 : Int32) 12584 = true := by decide +kernel
