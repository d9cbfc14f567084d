/-! which request a rule serves: the class's ranks, the reference's searches -/
theorem nI_ne1 {m : Nat} (h : m < 2147483648) : ¬ nI m = -1 := by
  intro e
  have h1 := congrArg Int32.toInt e
  rw [nI_toInt (by omega)] at h1
  have h2 : (-1 : Int32).toInt = -1 := by decide
  omega
def ds_ (c q : Nat) : Nat := (q - c) + (c - q)
def k1_ (c q : Nat) : Nat := if q ≤ c then 2 * ds_ c q else 2 * ds_ c q + 1
def rk_ (kind : Nat) (wd u : Int32) (c q : Nat) : Nat :=
  if kind = 1 then k1_ c q
  else if kind = 2 then (if u = 0 then (if c < q then ds_ c q + 1000 else ds_ c q) else (if q < c then ds_ c q + 1000 else ds_ c q))
  else if kind = 3 then (if q < c then 1000 + q else q - c)
  else if kind = 4 then (if wd < nI (ds_ c q) then 1000 else 0)
  else 0
theorem rk_1 {c q : Nat} {wd u : Int32} : rk_ 1 wd u c q = k1_ c q := by unfold rk_; rw [if_pos rfl]
theorem rk_2 {c q : Nat} {wd u : Int32} : rk_ 2 wd u c q = if u = 0 then (if c < q then ds_ c q + 1000 else ds_ c q) else (if q < c then ds_ c q + 1000 else ds_ c q) := by unfold rk_; rw [if_neg (by decide), if_pos rfl]
theorem rk_3 {c q : Nat} {wd u : Int32} : rk_ 3 wd u c q = if q < c then 1000 + q else q - c := by unfold rk_; rw [if_neg (by decide), if_neg (by decide), if_pos rfl]
theorem rk_4 {c q : Nat} {wd u : Int32} : rk_ 4 wd u c q = if wd < nI (ds_ c q) then 1000 else 0 := by unfold rk_; rw [if_neg (by decide), if_neg (by decide), if_neg (by decide), if_pos rfl]
theorem rk_0 {c q : Nat} {wd u : Int32} : rk_ 0 wd u c q = 0 := by unfold rk_; rw [if_neg (by decide), if_neg (by decide), if_neg (by decide), if_neg (by decide)]
theorem sub_up {c q : Nat} (h : c ≤ q) : nI q - nI c = nI (ds_ c q) := by
  rw [pk_sub h]
  congr 1
  unfold ds_
  omega
theorem sub_dn {c q : Nat} (h : q ≤ c) : -(nI q - nI c) = nI (ds_ c q) := by
  rw [Int32.neg_sub, pk_sub h]
  congr 1
  unfold ds_
  omega
theorem abs_ds {c q : Nat} (hc : c < 1000000) (hq : q < 1000000) : (if (0 : Int32) ≤ nI q - nI c then nI q - nI c else (0 : Int32) - (nI q - nI c)) = nI (ds_ c q) := by
  rcases Nat.lt_or_ge q c with h | h
  · rw [if_neg (Int32.not_le.mpr (pk_sneg (by omega) h)), Int32.zero_sub, sub_dn (by omega)]
  · rw [sub_up h, if_pos (nI_pos' (by unfold ds_; omega))]
section RANK
variable {s : st_} {kind c q n : Nat} {wd : Int32}
theorem rank_j {z : Int32} (hc : s 0 0 = nI c) (hz : z = nI (ds_ c q)) (hk : kind ≤ 4) (h1 : c < 100) (h2 : q < 100) : fX0_rankOf_j21 s (nI kind) wd (nI q) z = some (nI (rk_ kind wd (s 0 1) c q)) := by
  have hd : ds_ c q < 100 := by unfold ds_; omega
  have e1 : ((nI q - nI c) ≤ (0 : Int32)) ↔ q ≤ c := by
    rcases Nat.lt_or_ge c q with h | h
    · rw [sub_up (by omega)]
      exact ⟨fun z => absurd z (nI_nle (by unfold ds_; omega) (by omega)), fun z => by omega⟩
    · rcases Nat.lt_or_ge q c with h3 | h3
      · exact ⟨fun _ => h, fun _ => Int32.le_of_lt (pk_sneg (by omega) h3)⟩
      · have e : q = c := by omega
        subst e
        exact ⟨fun _ => h, fun _ => by rw [Int32.sub_self]; exact Int32.le_refl _⟩
  have e2 : ((nI q - nI c) < (0 : Int32)) ↔ q < c := by
    rcases Nat.lt_or_ge q c with h | h
    · exact ⟨fun _ => h, fun _ => pk_sneg (by omega) h⟩
    · rw [sub_up h]
      exact ⟨fun z => absurd z (nI_pos (by omega)), fun z => by omega⟩
  have e3 : ((0 : Int32) < (nI q - nI c)) ↔ c < q := by
    rw [← Int32.not_le, e1]
    omega
  subst hz
  unfold fX0_rankOf_j21
  rw [hc]
  have hk5 : kind = 0 ∨ kind = 1 ∨ kind = 2 ∨ kind = 3 ∨ kind = 4 := by omega
  rcases hk5 with rfl | rfl | rfl | rfl | rfl
  · rw [rk_0, if_neg (by decide), if_neg (by decide), if_neg (by decide), if_neg (by decide)]
    rfl
  · rw [rk_1, if_pos (by decide)]
    unfold k1_
    by_cases h : q ≤ c
    · rw [if_pos (e1.mpr h), if_pos h]
      show some (nI 2 * nI (ds_ c q) + nI 0) = _
      rw [pk_mul, nI_add]
      rfl
    · rw [if_neg (fun z => h (e1.mp z)), if_neg h]
      show some (nI 2 * nI (ds_ c q) + nI 1) = _
      rw [pk_mul, nI_add]
  · rw [rk_2, if_neg (by decide), if_pos (by decide)]
    have eb : fX0_rankOf_j98 (nI (ds_ c q)) = some (nI (ds_ c q + 1000)) := by
      show some (nI (ds_ c q) + nI 1000) = _
      rw [nI_add]
    have ea : fX0_rankOf_j94 (nI (ds_ c q)) = some (nI (ds_ c q)) := by
      show some (nI (ds_ c q) + nI 0) = _
      rw [nI_add]
      rfl
    by_cases hu : s 0 1 = 0
    · rw [if_pos hu, if_pos hu]
      by_cases h : c < q
      · rw [if_pos (e3.mpr h), if_pos h, eb]
      · rw [if_neg (fun z => h (e3.mp z)), if_neg h, ea]
    · rw [if_neg hu, if_neg hu]
      by_cases h : q < c
      · rw [if_pos (e2.mpr h), if_pos h, eb]
      · rw [if_neg (fun z => h (e2.mp z)), if_neg h, ea]
  · rw [rk_3, if_neg (by decide), if_neg (by decide), if_pos (by decide)]
    by_cases h : q < c
    · rw [if_pos (e2.mpr h), if_pos h]
      show some (nI 1000 + nI q) = _
      rw [nI_add]
    · rw [if_neg (fun z => h (e2.mp z)), if_neg h, pk_sub (by omega)]
  · rw [rk_4, if_neg (by decide), if_neg (by decide), if_neg (by decide), if_pos (by decide)]
    by_cases h : wd < nI (ds_ c q)
    · rw [if_pos h, if_pos h]; rfl
    · rw [if_neg h, if_neg h]; rfl
theorem rank_e (hc : s 0 0 = nI c) (hk : kind ≤ 4) (h1 : c < 100) (h2 : q < 100) : fX0_rankOf s (nI kind) wd (nI q) = some (nI (rk_ kind wd (s 0 1) c q)) := by
  unfold fX0_rankOf
  rw [hc]
  rcases Nat.lt_or_ge q c with h | h
  · rw [if_neg (Int32.not_le.mpr (pk_sneg (by omega) h))]
    exact rank_j hc (sub_dn (by omega)) hk h1 h2
  · rw [sub_up h, if_pos (nI_pos' (by unfold ds_; omega))]
    exact rank_j hc rfl hk h1 h2
theorem rk_lt (h1 : c < 100) (h2 : q < 100) : rk_ kind wd (s 0 1) c q < 10000 := by
  have hd : ds_ c q < 100 := by unfold ds_; omega
  unfold rk_ k1_
  repeat' split
  all_goals omega
end RANK
/-- the first of the least -/
def fmp_ (p : Nat → Prop) (κ : Nat → Nat) (n i : Nat) : Prop := i < n ∧ p i ∧ ∀ j, j < n → p j → κ i < κ j ∨ (κ i = κ j ∧ i ≤ j)
def fm_ (κ : Nat → Nat) (n i : Nat) : Prop := i < n ∧ ∀ j, j < n → κ i < κ j ∨ (κ i = κ j ∧ i ≤ j)
theorem fm_u {κ : Nat → Nat} {n i i' : Nat} (h : fm_ κ n i) (h' : fm_ κ n i') : i = i' := by
  rcases h.2 i' h'.1 with a | ⟨a, b⟩ <;> rcases h'.2 i h.1 with c | ⟨c, d⟩ <;> omega
theorem fm_0 {κ : Nat → Nat} : fm_ κ 1 0 := ⟨by omega, fun j hj => by
  have e : j = 0 := by omega
  subst e
  exact Or.inr ⟨rfl, Nat.le_refl _⟩⟩
theorem fm_keep {κ : Nat → Nat} {k m : Nat} (h : fm_ κ k m) (hl : κ m ≤ κ k) : fm_ κ (k + 1) m := ⟨by have := h.1; omega, fun j hj => by
  rcases Nat.lt_or_ge j k with h1 | h1
  · exact h.2 j h1
  · have e : j = k := by omega
    subst e
    have := h.1
    omega⟩
theorem fm_take {κ : Nat → Nat} {k m : Nat} (h : fm_ κ k m) (hl : κ k < κ m) : fm_ κ (k + 1) k := ⟨by omega, fun j hj => by
  rcases Nat.lt_or_ge j k with h1 | h1
  · rcases h.2 j h1 with a | ⟨a, b⟩ <;> omega
  · have e : j = k := by omega
    subst e
    exact Or.inr ⟨rfl, Nat.le_refl _⟩⟩
theorem fmp_1 {p : Nat → Prop} {κ : Nat → Nat} {k : Nat} (h : ∀ j, j < k → ¬ p j) (hp : p k) : fmp_ p κ (k + 1) k := ⟨by omega, hp, fun j hj hpj => by
  rcases Nat.lt_or_ge j k with h1 | h1
  · exact absurd hpj (h j h1)
  · have e : j = k := by omega
    subst e
    exact Or.inr ⟨rfl, Nat.le_refl _⟩⟩
theorem fmp_keep {p : Nat → Prop} {κ : Nat → Nat} {k m : Nat} (h : fmp_ p κ k m) (hl : p k → κ m ≤ κ k) : fmp_ p κ (k + 1) m := ⟨by have := h.1; omega, h.2.1, fun j hj hpj => by
  rcases Nat.lt_or_ge j k with h1 | h1
  · exact h.2.2 j h1 hpj
  · have e : j = k := by omega
    subst e
    have := h.1
    have := hl hpj
    omega⟩
theorem fmp_take {p : Nat → Prop} {κ : Nat → Nat} {k m : Nat} (h : fmp_ p κ k m) (hp : p k) (hl : κ k < κ m) : fmp_ p κ (k + 1) k := ⟨by omega, hp, fun j hj hpj => by
  rcases Nat.lt_or_ge j k with h1 | h1
  · rcases h.2.2 j h1 hpj with a | ⟨a, b⟩ <;> omega
  · have e : j = k := by omega
    subst e
    exact Or.inr ⟨rfl, Nat.le_refl _⟩⟩
section CHOOSE
variable {s : st_} {kind c n : Nat} {wd : Int32}
theorem choose_w (hc : s 0 0 = nI c) (hn : s 0 2 = nI n) (h20 : n ≤ 20) (h1 : c < 100) (hk : kind ≤ 4) (hq : ∀ j, j < n → rg_ (s 1 j) 0 99) : wp_ (fX0_choose s (nI kind) wd) (fun i => (n = 0 ∧ i = -1) ∨ ∃ k, i = nI k ∧ fm_ (fun j => rk_ kind wd (s 0 1) c (ix_ (s 1 j))) n k) := by
  generalize hκ : (fun j => rk_ kind wd (s 0 1) c (ix_ (s 1 j))) = κ
  have hκ' : ∀ j, κ j = rk_ kind wd (s 0 1) c (ix_ (s 1 j)) := fun j => by rw [← hκ]
  unfold fX0_choose fX0_choose_l8
  refine wp_bn (Q := fun i => (n = 0 ∧ i = -1) ∨ ∃ k, i = nI k ∧ fm_ κ n k) ?_ (fun i hi => wp_s hi)
  refine wp_up (fun k v => v.2.2 = nI k ∧ ((k = 0 ∧ v.1 = -1) ∨ ∃ m, v.1 = nI m ∧ v.2.1 = nI (κ m) ∧ fm_ κ k m)) 0 n (Nat.zero_le _) (by omega) ⟨rfl, Or.inl ⟨rfl, rfl⟩⟩ (fun k v hkn _ hv => ?_) (fun v hv => ?_)
  · obtain ⟨v3, v4, v5⟩ := v
    obtain ⟨e5, hm⟩ := hv
    dsimp only at e5 hm
    subst e5
    unfold fX0_choose_b8
    obtain ⟨q, _, hq2, hqe⟩ := (hq k hkn).ex
    refine wp_if' (by rw [hn]; exact nI_ge (by omega) (by omega)) ?_
    refine wp_gd (ib_n (by omega) (by omega)) ?_
    dsimp only
    have eix : ix_ (s 1 k) = q := by rw [hqe]; exact ix_n (by omega)
    have ek : κ k = rk_ kind wd (s 0 1) c q := by rw [hκ', eix]
    have hb : ∀ j, j < n → κ j < 10000 := fun j hj => by
      obtain ⟨z, _, hz, hze⟩ := (hq j hj).ex
      rw [hκ', hze, ix_n (by omega)]
      exact rk_lt h1 (by omega)
    rw [ix_n (by omega), hqe]
    refine wp_bne (rank_e hc hk h1 (by omega)) ?_
    rw [← ek]
    rcases hm with ⟨h0, e⟩ | ⟨m, e, e4, hfm⟩
    · subst h0
      exact wp_it e (wp_l ⟨nI_1 0, Or.inr ⟨0, rfl, rfl, fm_0⟩⟩)
    · have hmk := hfm.1
      have hbm := hb m (by omega)
      have hbk := hb k (by omega)
      refine wp_if' (by rw [e]; exact nI_ne1 (by omega)) ?_
      rw [e, e4]
      rcases Nat.lt_or_ge (κ k) (κ m) with h | h
      · exact wp_if' (nI_ge h (by omega)) (wp_l ⟨nI_1 k, Or.inr ⟨k, rfl, rfl, fm_take hfm h⟩⟩)
      · exact wp_it (nI_le h (by omega)) (wp_l ⟨nI_1 k, Or.inr ⟨m, rfl, rfl, fm_keep hfm h⟩⟩)
  · obtain ⟨v3, v4, v5⟩ := v
    obtain ⟨e5, hm⟩ := hv
    dsimp only at e5 hm
    subst e5
    unfold fX0_choose_b8
    refine wp_it (by rw [hn]; exact Int32.le_refl _) (wp_r ?_)
    rcases hm with ⟨h, e⟩ | ⟨m, e, _, hfm⟩
    · exact Or.inl ⟨h, e⟩
    · exact Or.inr ⟨m, e, hfm⟩
end CHOOSE
