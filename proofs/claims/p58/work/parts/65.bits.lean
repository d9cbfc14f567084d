/-! sets of requests as bits; the least of what is left -/
def bt (s k : Nat) : Bool := s.testBit k
def so (s k : Nat) : Nat := s ||| 2 ^ k
def pcn (s : Nat) : Nat := (bt s 0).toNat + (bt s 1).toNat + (bt s 2).toNat + (bt s 3).toNat + (bt s 4).toNat + (bt s 5).toNat + (bt s 6).toNat + (bt s 7).toNat
theorem b1_c : ∀ s, s < 256 → ∀ k, k < 8 → (nI s &&& ((1 : Int32) <<< (nI k &&& 31)) = 0 ↔ bt s k = false) := by decide +kernel
theorem b2_c : ∀ s, s < 256 → ∀ k, k < 8 → nI s ||| ((1 : Int32) <<< (nI k &&& 31)) = nI (so s k) := by decide +kernel
theorem b3_c : ∀ s, s < 256 → ∀ k, k < 8 → (nI s >>> (nI k &&& 31)) &&& (1 : Int32) = (if bt s k = true then 1 else 0) := by decide +kernel
theorem b4_c : ∀ s, s < 256 → ∀ k, k < 8 → s ≤ so s k ∧ so s k < 256 ∧ bt (so s k) k = true ∧ (bt s k = false → s < so s k ∧ pcn (so s k) = pcn s + 1) := by decide +kernel
def NB (m N : Nat) : Prop := 1 ≤ N ∧ N ≤ 256 ∧ (∀ s, s < N → ∀ k, k < m → so s k < N) ∧ (∀ s, s < N → s = N - 1 ∨ ∃ k, k < m ∧ bt s k = false) ∧ (∀ k, k < m → bt (N - 1) k = true) ∧ pcn (N - 1) = m ∧ ((1 : Int32) <<< (nI m &&& 31)) - 1 = nI (N - 1) ∧ ∀ s, s < N → ∀ k, k < 8 → m ≤ k → bt s k = false
theorem nb_0 : NB 0 1 := ⟨by decide, by decide, by decide +kernel, by decide +kernel, by decide +kernel, by decide +kernel, by decide +kernel, by decide +kernel⟩
theorem nb_1 : NB 1 2 := ⟨by decide, by decide, by decide +kernel, by decide +kernel, by decide +kernel, by decide +kernel, by decide +kernel, by decide +kernel⟩
theorem nb_2 : NB 2 4 := ⟨by decide, by decide, by decide +kernel, by decide +kernel, by decide +kernel, by decide +kernel, by decide +kernel, by decide +kernel⟩
theorem nb_3 : NB 3 8 := ⟨by decide, by decide, by decide +kernel, by decide +kernel, by decide +kernel, by decide +kernel, by decide +kernel, by decide +kernel⟩
theorem nb_4 : NB 4 16 := ⟨by decide, by decide, by decide +kernel, by decide +kernel, by decide +kernel, by decide +kernel, by decide +kernel, by decide +kernel⟩
theorem nb_5 : NB 5 32 := ⟨by decide, by decide, by decide +kernel, by decide +kernel, by decide +kernel, by decide +kernel, by decide +kernel, by decide +kernel⟩
theorem nb_6 : NB 6 64 := ⟨by decide, by decide, by decide +kernel, by decide +kernel, by decide +kernel, by decide +kernel, by decide +kernel, by decide +kernel⟩
theorem nb_7 : NB 7 128 := ⟨by decide, by decide, by decide +kernel, by decide +kernel, by decide +kernel, by decide +kernel, by decide +kernel, by decide +kernel⟩
theorem nb_8 : NB 8 256 := ⟨by decide, by decide, by decide +kernel, by decide +kernel, by decide +kernel, by decide +kernel, by decide +kernel, by decide +kernel⟩
theorem nb_x {m : Nat} (h : m ≤ 8) : ∃ N, NB m N := by
  rcases (show m = 0 ∨ m = 1 ∨ m = 2 ∨ m = 3 ∨ m = 4 ∨ m = 5 ∨ m = 6 ∨ m = 7 ∨ m = 8 by omega) with rfl | rfl | rfl | rfl | rfl | rfl | rfl | rfl | rfl
  · exact ⟨_, nb_0⟩
  · exact ⟨_, nb_1⟩
  · exact ⟨_, nb_2⟩
  · exact ⟨_, nb_3⟩
  · exact ⟨_, nb_4⟩
  · exact ⟨_, nb_5⟩
  · exact ⟨_, nb_6⟩
  · exact ⟨_, nb_7⟩
  · exact ⟨_, nb_8⟩
theorem nbz_ {m N set k : Nat} (h : NB m N) (hs : set < N) (hmk : m ≤ k) (hk : k < 8) : bt set k = false := h.2.2.2.2.2.2.2 set hs k hk hmk
/-- the first of the least of those that are left, below k -/
def fi_ (set k : Nat) (f : Nat → Int32) (i : Nat) : Prop := i < k ∧ bt set i = false ∧ ∀ j, j < k → bt set j = false → f i < f j ∨ (f i = f j ∧ i ≤ j)
/-- the least -/
def mi_ (set k : Nat) (f : Nat → Int32) (x : Int32) : Prop := ∃ i, i < k ∧ bt set i = false ∧ x = f i ∧ ∀ j, j < k → bt set j = false → f i ≤ f j
theorem fi_.mi {set k i : Nat} {f : Nat → Int32} (h : fi_ set k f i) : mi_ set k f (f i) := ⟨i, h.1, h.2.1, rfl, fun j hj hb => by
  rcases h.2.2 j hj hb with a | ⟨a, _⟩
  · exact Int32.le_of_lt a
  · rw [a]; exact Int32.le_refl _⟩
theorem mi_u {set k : Nat} {f g : Nat → Int32} {x y : Int32} (h : mi_ set k f x) (h' : mi_ set k g y) (he : ∀ j, j < k → bt set j = false → f j = g j) : x = y := by
  obtain ⟨i, i1, i2, rfl, i3⟩ := h
  obtain ⟨j, j1, j2, rfl, j3⟩ := h'
  have a := i3 j j1 j2
  have b := j3 i i1 i2
  rw [he j j1 j2] at a
  rw [← he i i1 i2] at b
  exact Int32.le_antisymm a b
/-- what a table of rests says of a set: from a place, that of a request of the set or where the arm stands (st) -/
def EQ_ (V : Nat → Nat → Int32) (pos pl : Nat → Nat) (sk pe : Int32) (m st N set : Nat) : Prop := ∀ p, (p = st ∨ (p < m ∧ bt set p = true)) → (set = N - 1 → V set p = 0) ∧ (set ≠ N - 1 → mi_ set m (fun q => pr_ sk pe (pos p) (pl q) + V (so set q) q) (V set p))
theorem EQ_.ext {V V' : Nat → Nat → Int32} {pos pl : Nat → Nat} {sk pe : Int32} {m st N set : Nat} (h : EQ_ V pos pl sk pe m st N set) (hm : m ≤ 8) (hst : st ≤ 8) (hs : set < 256) (he : ∀ s p, set ≤ s → p < 9 → V' s p = V s p) : EQ_ V' pos pl sk pe m st N set := by
  intro p hp
  obtain ⟨h1, h2⟩ := h p hp
  have hp9 : p < 9 := by rcases hp with a | a <;> omega
  rw [he set p (Nat.le_refl _) hp9]
  refine ⟨h1, fun hne => ?_⟩
  obtain ⟨i, i1, i2, i3, i4⟩ := h2 hne
  have e : ∀ q, q < m → V' (so set q) q = V (so set q) q := fun q hq => he _ _ (b4_c set hs q (by omega)).1 (by omega)
  refine ⟨i, i1, i2, ?_, fun j hj hb => ?_⟩
  · dsimp only
    rw [e i i1]
    exact i3
  · dsimp only
    rw [e i i1, e j hj]
    exact i4 j hj hb
/-- two tables that say so agree -/
theorem EQ_.u {V V' : Nat → Nat → Int32} {pos pos' pl : Nat → Nat} {sk pe : Int32} {m st st' N : Nat} (hN : NB m N) (hm : m ≤ 8) (h : ∀ set, set < N → EQ_ V pos pl sk pe m st N set) (h' : ∀ set, set < N → EQ_ V' pos' pl sk pe m st' N set) (hp : pos st = pos' st') (hpi : ∀ i, i < m → pos i = pos' i) : ∀ d set, set < N → N - 1 - set = d → V set st = V' set st' ∧ ∀ i, i < m → bt set i = true → V set i = V' set i := by
  obtain ⟨n1, n2, n3, n4, n5, n6, n7, n8⟩ := hN
  intro d
  induction d using Nat.strongRecOn with
  | ind d ih =>
    intro set hs hd
    have key : ∀ p p', (p = st ∨ (p < m ∧ bt set p = true)) → (p' = st' ∨ (p' < m ∧ bt set p' = true)) → pos p = pos' p' → V set p = V' set p' := fun p p' a a' e => by
      obtain ⟨x1, x2⟩ := h set hs p a
      obtain ⟨y1, y2⟩ := h' set hs p' a'
      by_cases hc : set = N - 1
      · rw [x1 hc, y1 hc]
      · refine mi_u (x2 hc) (y2 hc) (fun j hj hb => ?_)
        have hb4 := b4_c set (by omega) j (by omega)
        have hlt := (hb4.2.2.2 hb).1
        have hN2 := n3 set hs j hj
        rw [e, (ih (N - 1 - so set j) (by omega) (so set j) hN2 rfl).2 j hj hb4.2.2.1]
    exact ⟨key st st' (Or.inl rfl) (Or.inl rfl) hp, fun i hi hb => key i i (Or.inr ⟨hi, hb⟩) (Or.inr ⟨hi, hb⟩) (hpi i hi)⟩
theorem nI_dec (x : Nat) : nI (x + 1) + (-1 : Int32) = nI x := by
  have h := nI_pred x
  rw [Int32.sub_eq_add_neg] at h
  exact h
theorem le_max32 (x : Int32) : x ≤ (2147483647 : Int32) := by
  have h1 := Int32.toInt_lt x
  have h2 : (2147483647 : Int32).toInt = 2147483647 := by decide
  rw [Int32.le_iff_toInt_le, h2]
  omega
theorem bt_n {s k : Nat} (h : ¬ bt s k = false) : bt s k = true := by
  cases hb : bt s k with
  | true => rfl
  | false => exact absurd hb h
