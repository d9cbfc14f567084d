/-! texts: runs of bytes, words, numbers -/
/-- behind the run of bytes from p on -/
def rnd (f : Nat → Bool) : Nat → Nat → Nat
  | 0, p => p
  | n + 1, p => if f p = true then rnd f n (p + 1) else p
def rE (f : Nat → Bool) (L p : Nat) : Nat := rnd f (L - p) p
theorem rnd_s {f : Nat → Bool} : ∀ n p, p ≤ rnd f n p ∧ rnd f n p ≤ p + n ∧ (∀ j, p ≤ j → j < rnd f n p → f j = true) ∧ (rnd f n p < p + n → f (rnd f n p) = false)
  | 0, p => ⟨Nat.le_refl _, Nat.le_refl _, fun j a b => absurd b (by unfold rnd; omega), fun h => absurd h (by unfold rnd; omega)⟩
  | n + 1, p => by
    obtain ⟨h1, h2, h3, h4⟩ := rnd_s (f := f) n (p + 1)
    unfold rnd
    by_cases h : f p = true
    · rw [if_pos h]
      refine ⟨by omega, by omega, fun j a b => ?_, fun hh => h4 (by omega)⟩
      by_cases hj : j = p
      · rw [hj]; exact h
      · exact h3 j (by omega) b
    · rw [if_neg h]
      refine ⟨Nat.le_refl _, by omega, fun j a b => absurd b (by omega), fun _ => ?_⟩
      cases hf : f p with
      | false => rfl
      | true => exact absurd hf h
theorem rE_s {f : Nat → Bool} {L p : Nat} (h : p ≤ L) : p ≤ rE f L p ∧ rE f L p ≤ L ∧ (∀ j, p ≤ j → j < rE f L p → f j = true) ∧ (rE f L p < L → f (rE f L p) = false) := by
  obtain ⟨h1, h2, h3, h4⟩ := rnd_s (f := f) (L - p) p
  unfold rE
  exact ⟨h1, by omega, h3, fun hh => h4 (by omega)⟩
/-- at its end a run has no more -/
theorem rE_i {f : Nat → Bool} {L p : Nat} (h : p ≤ L) (hf : p < L → f p = false) : rE f L p = p := by
  unfold rE
  by_cases hp : p < L
  · obtain ⟨n, hn⟩ : ∃ n, L - p = n + 1 := ⟨L - p - 1, by omega⟩
    rw [hn]
    unfold rnd
    rw [hf hp, if_neg (by decide)]
  · have hn : L - p = 0 := by omega
    rw [hn]
    rfl
theorem rE_ii {f : Nat → Bool} {L p : Nat} (h : p ≤ L) : rE f L (rE f L p) = rE f L p := rE_i (rE_s h).2.1 (rE_s h).2.2.2
def spb (ch : Nat → Nat) (j : Nat) : Bool := decide (ch j = 32)
def ltb (ch : Nat → Nat) (j : Nat) : Bool := decide (97 ≤ ch j ∧ ch j ≤ 122)
def dgb (ch : Nat → Nat) (j : Nat) : Bool := decide (48 ≤ ch j ∧ ch j ≤ 57)
/-- the token from q up to e is a word -/
def TK (ch : Nat → Nat) (q e : Nat) (W : List Int32) : Prop := e - q = W.length ∧ ∀ i, i < W.length → W.getD i 0 = nI (ch (q + i))
theorem TK.u {ch : Nat → Nat} {q e : Nat} {W W' : List Int32} (h : TK ch q e W) (h' : TK ch q e W') : W = W' := by
  obtain ⟨a, b⟩ := h
  obtain ⟨a', b'⟩ := h'
  apply List.ext_getElem (by omega)
  intro i h1 h2
  have e1 := b i h1
  have e2 := b' i h2
  rw [List.getD_eq_getElem?_getD, List.getElem?_eq_getElem h1] at e1
  rw [List.getD_eq_getElem?_getD, List.getElem?_eq_getElem h2] at e2
  exact e1.trans e2.symm
/-- the number of k digits from q on -/
def dv (ch : Nat → Nat) (q : Nat) : Nat → Nat
  | 0 => 0
  | k + 1 => 10 * dv ch q k + (ch (q + k) - 48)
/-- the text, as the class has it, and as the model -/
def CTx (s : st_) (ch : Nat → Nat) (L : Nat) : Prop := L ≤ 500 ∧ s 1 1 = 1 ∧ s 1 2 = nI L ∧ ∀ j, j < L → (ch j < 128 ∧ s 0 j = nI (ch j)) ∨ (128 ≤ ch j ∧ s 0 j < 0)
def MTx (t : st_) (ch : Nat → Nat) (L : Nat) : Prop := L ≤ 500 ∧ t 0 8 = nI L ∧ ∀ j, j < L → ch j < 256 ∧ t 7 j = nI (ch j)
/-- what the reader doesn't change, but for its draft -/
def CFr (s s' : st_) : Prop := (∀ o, o ≠ 1 → s' o = s o) ∧ ∀ j, j < 3 → s' 1 j = s 1 j
section TEXT
variable {s s' t : st_} {ch : Nat → Nat} {L p q e j : Nat}
theorem CFr.r : CFr s s := ⟨fun _ _ => rfl, fun _ _ => rfl⟩
theorem CFr.tr {s'' : st_} (h : CFr s s') (h' : CFr s' s'') : CFr s s'' := ⟨fun o a => (h'.1 o a).trans (h.1 o a), fun j a => (h'.2 j a).trans (h.2 j a)⟩
theorem CFr.pt {v : Int32} (hj : 3 ≤ j) : CFr s (pt_ s 1 j v) := ⟨fun o a => pt_o a, fun i a => pt_r (by omega)⟩
theorem CTx.fr (h : CTx s ch L) (hf : CFr s s') : CTx s' ch L := by
  obtain ⟨a, b, c, d⟩ := h
  refine ⟨a, by rw [hf.2 1 (by omega)]; exact b, by rw [hf.2 2 (by omega)]; exact c, fun j hj => ?_⟩
  rw [hf.1 0 (by decide)]
  exact d j hj
theorem tx_1 (h : CTx s ch L) : tx_ (s 1 1) = true := decide_eq_true h.2.1
/-- a byte of the class, held against a sign -/
theorem cb_eq (h : CTx s ch L) (hj : j < L) {c : Nat} (hc : c < 128) : s 0 j = nI c ↔ ch j = c := by
  rcases h.2.2.2 j hj with ⟨a, b⟩ | ⟨a, b⟩
  · rw [b]
    exact nI_eq (by omega) (by omega)
  · refine ⟨fun z => ?_, fun z => absurd z (by omega)⟩
    rw [z] at b
    exact absurd b (nI_pos (by omega))
theorem cb_lt (h : CTx s ch L) (hj : j < L) {c : Nat} (hc : c < 128) : ¬ s 0 j < nI c ↔ c ≤ ch j ∧ ch j < 128 := by
  rcases h.2.2.2 j hj with ⟨a, b⟩ | ⟨a, b⟩
  · rw [b, nI_ltI (by omega) (by omega)]
    omega
  · refine ⟨fun z => ?_, fun z => absurd z (by omega)⟩
    exact absurd (Int32.lt_of_lt_of_le b (nI_pos' (by omega))) z
theorem cb_gt (h : CTx s ch L) (hj : j < L) {c : Nat} (hc : c < 128) (h7 : ch j < 128) : nI c < s 0 j ↔ c < ch j := by
  rcases h.2.2.2 j hj with ⟨a, b⟩ | ⟨a, b⟩
  · rw [b, nI_ltI (by omega) (by omega)]
  · omega
theorem byteAt_t (h : MTx t ch L) (hj : j < L) : fX8_byteAt t (nI j) = some (nI (ch j)) := by
  unfold fX8_byteAt
  have := h.1
  rw [h.2.1, if_neg (nI_ge hj (by omega)), gd_t (ib_n (by omega) (by omega)), ix_n (by omega), (h.2.2 j hj).2]
theorem byteAt_f (h : MTx t ch L) (hj : L ≤ j) (hj2 : j < 2147483648) : fX8_byteAt t (nI j) = some (-1) := by
  unfold fX8_byteAt
  rw [h.2.1, if_pos (nI_le hj (by omega))]
theorem in_nn {k lo hi : Nat} (hk : k < 1000) (hl : lo < 1000) (hh : hi < 1000) : fX8_in (Int32.toInt64 (nI k)) (Int32.toInt64 (nI lo)) (Int32.toInt64 (nI hi)) = some (if lo ≤ k ∧ k ≤ hi then 1 else 0) := by
  by_cases h : lo ≤ k ∧ k ≤ hi
  · rw [if_pos h]
    exact in_t ⟨nI_le h.1 (by omega), nI_le h.2 (by omega)⟩
  · rw [if_neg h]
    refine in_f (fun z => h ⟨?_, ?_⟩)
    · exact (Nat.lt_or_ge k lo).elim (fun hh => absurd z.1 (nI_ge hh (by omega))) id
    · exact (Nat.lt_or_ge hi k).elim (fun hh => absurd z.2 (nI_ge hh (by omega))) id
theorem letter_e (h : MTx t ch L) (hj : j < 2147483648) : fX8_isLetter t (nI j) = some (if j < L ∧ ltb ch j = true then 1 else 0) := by
  unfold fX8_isLetter
  by_cases hL : j < L
  · have hc := (h.2.2 j hL).1
    rw [bn_e (byteAt_t h hL), bn_e (show fX8_in (Int32.toInt64 (nI (ch j))) (97 : Int64) (122 : Int64) = _ from in_nn (lo := 97) (hi := 122) (by omega) (by omega) (by omega))]
    by_cases hb : 97 ≤ ch j ∧ ch j ≤ 122
    · rw [if_pos hb, if_pos ⟨hL, decide_eq_true hb⟩]
      rfl
    · rw [if_neg hb, if_neg (fun z => hb (of_decide_eq_true z.2))]
      rfl
  · rw [bn_e (byteAt_f h (by omega) hj), bn_e (show fX8_in (Int32.toInt64 (-1)) (97 : Int64) (122 : Int64) = some 0 from in_f (lo := 97) (hi := 122) (by decide)), if_neg (fun z => hL z.1)]
    rfl
theorem digit_e (h : MTx t ch L) (hj : j < 2147483648) : fX8_isDigit t (nI j) = some (if j < L ∧ dgb ch j = true then 1 else 0) := by
  unfold fX8_isDigit
  by_cases hL : j < L
  · have hc := (h.2.2 j hL).1
    rw [bn_e (byteAt_t h hL), bn_e (show fX8_in (Int32.toInt64 (nI (ch j))) (48 : Int64) (57 : Int64) = _ from in_nn (lo := 48) (hi := 57) (by omega) (by omega) (by omega))]
    by_cases hb : 48 ≤ ch j ∧ ch j ≤ 57
    · rw [if_pos hb, if_pos ⟨hL, decide_eq_true hb⟩]
      rfl
    · rw [if_neg hb, if_neg (fun z => hb (of_decide_eq_true z.2))]
      rfl
  · rw [bn_e (byteAt_f h (by omega) hj), bn_e (show fX8_in (Int32.toInt64 (-1)) (48 : Int64) (57 : Int64) = some 0 from in_f (lo := 48) (hi := 57) (by decide)), if_neg (fun z => hL z.1)]
    rfl
/-- the class goes behind spaces -/
theorem skip_w (h : CTx s ch L) (hp : s 1 3 = nI p) (hpL : p ≤ L) : wp_ (fX3_skipSpaces s) (fun s' => CFr s s' ∧ s' 1 3 = nI (rE (spb ch) L p) ∧ ∀ j, j ≠ 3 → s' 1 j = s 1 j) := by
  have hL := h.1
  obtain ⟨q1, q2, q3, q4⟩ := rE_s (f := spb ch) hpL
  generalize rE (spb ch) L p = q at q1 q2 q3 q4
  unfold fX3_skipSpaces fX3_skipSpaces_l0
  refine wp_bn (Q := fun s' => CFr s s' ∧ s' 1 3 = nI q ∧ ∀ j, j ≠ 3 → s' 1 j = s 1 j) ?_ (fun s' h => wp_s h)
  refine wp_up (fun k v => CFr s v ∧ v 1 3 = nI k ∧ ∀ j, j ≠ 3 → v 1 j = s 1 j) p q q1 (by omega) ⟨CFr.r, hp, fun _ _ => rfl⟩ (fun k v hk hk0 hv => ?_) (fun v hv => ?_)
  · obtain ⟨a, b, c⟩ := hv
    have hx := h.fr a
    unfold fX3_skipSpaces_b0
    rw [hx.2.2.1, b, ix_n (by omega)]
    refine wp_if' (nI_ge (by omega) (by omega)) (wp_gd (tx_1 hx) (wp_gd (ib_n (by omega) (by omega)) (wp_it ((cb_eq hx (by omega) (c := 32) (by omega)).mpr (of_decide_eq_true (q3 k hk0 hk))) (wp_bd (wp_l ⟨a.tr (CFr.pt (by omega)), ?_, fun j hj => ?_⟩)))))
    · rw [pt_a, nI_1]
    · rw [pt_r hj]
      exact c j hj
  · obtain ⟨a, b, c⟩ := hv
    have hx := h.fr a
    unfold fX3_skipSpaces_b0
    rw [hx.2.2.1, b, ix_n (by omega)]
    by_cases hq : q < L
    · refine wp_if' (nI_ge (by omega) (by omega)) (wp_gd (tx_1 hx) (wp_gd (ib_n (by omega) (by omega)) (wp_if' (fun z => ?_) (wp_r ⟨a, b, c⟩))))
      have := of_decide_eq_false (q4 hq)
      exact this ((cb_eq hx hq (c := 32) (by omega)).mp z)
    · exact wp_it (nI_le (by omega) (by omega)) (wp_r ⟨a, b, c⟩)
/-- a fault is told once -/
theorem fail_e {c x : Int32} : fX3_fail s c x = some (if s 1 5 = 0 then pt_ (pt_ s 1 5 c) 1 6 x else s) := by
  unfold fX3_fail
  by_cases h : s 1 5 = 0
  · rw [if_pos h, if_pos h, bd_e, bd_e]
  · rw [if_neg h, if_neg h]
end TEXT
