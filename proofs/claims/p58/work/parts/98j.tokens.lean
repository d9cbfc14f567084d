/-! tokens of a known text -/
def tch_ (xs : List Int32) : Nat → Nat := fun j => ix_ (xs.getD j 0)
def lt_c (c : Int32) : Bool := decide (97 ≤ ix_ c ∧ ix_ c ≤ 122)
def dg_c (c : Int32) : Bool := decide (48 ≤ ix_ c ∧ ix_ c ≤ 57)
def sp_c (c : Int32) : Bool := decide (ix_ c = 32)
theorem rE_u {f : Nat → Bool} {L p q : Nat} (h1 : p ≤ q) (h2 : q ≤ L) (h3 : ∀ j, p ≤ j → j < q → f j = true) (h4 : q < L → f q = false) : rE f L p = q := by
  obtain ⟨a, b, c, d⟩ := rE_s (f := f) (L := L) (p := p) (by omega)
  rcases Nat.lt_trichotomy (rE f L p) q with h | h | h
  · have e1 := h3 _ a h
    have e2 := d (by omega)
    rw [e1] at e2
    exact absurd e2 (by decide)
  · exact h
  · have e1 := c q h1 h
    have e2 := h4 (by omega)
    rw [e1] at e2
    exact absurd e2 (by decide)
section TOK
variable {xs W Y S : List Int32} {p q : Nat} {s s' : st_}
theorem drop_get {Z : List Int32} (h : xs.drop p = Z) {i : Nat} : xs.getD (p + i) 0 = Z.getD i 0 := by
  rw [← h, List.getD_eq_getElem?_getD, List.getD_eq_getElem?_getD, List.getElem?_drop]
theorem drop_len {Z : List Int32} (h : xs.drop p = Z) (hp : p ≤ xs.length) : p + Z.length = xs.length := by
  rw [← h, List.length_drop]
  omega
theorem drop_app (h : xs.drop p = W ++ Y) : xs.drop (p + W.length) = Y := by
  rw [← List.drop_drop, h, List.drop_left]
theorem app_get {i : Nat} (hi : i < W.length) : (W ++ Y).getD i 0 = W.getD i 0 := by
  rw [List.getD_eq_getElem?_getD, List.getD_eq_getElem?_getD, List.getElem?_append_left hi]
theorem get_mem {i : Nat} (hi : i < W.length) : W.getD i 0 ∈ W := by
  rw [List.getD_eq_getElem?_getD, List.getElem?_eq_getElem hi]
  exact List.getElem_mem hi
theorem run_l {P : Int32 → Bool} (h : xs.drop p = W ++ Y) (hp : p ≤ xs.length) (h1 : ∀ c ∈ W, P c = true) (h2 : Y ≠ [] → P (Y.getD 0 0) = false) : rE (fun j => P (xs.getD j 0)) xs.length p = p + W.length := by
  have hl := drop_len h hp
  rw [List.length_append] at hl
  refine rE_u (by omega) (by omega) (fun j a b => ?_) (fun a => ?_)
  · obtain ⟨i, rfl⟩ : ∃ i, j = p + i := ⟨j - p, by omega⟩
    show P (xs.getD (p + i) 0) = true
    rw [drop_get h, app_get (by omega)]
    exact h1 _ (get_mem (by omega))
  · show P (xs.getD (p + W.length) 0) = false
    have e := drop_get (drop_app h) (i := 0)
    rw [Nat.add_zero] at e
    rw [e]
    refine h2 (fun z => ?_)
    rw [z] at hl
    have : ([] : List Int32).length = 0 := rfl
    omega
/-- spaces, then a token, then what ends it -/
theorem tq_l (h : xs.drop p = S ++ (W ++ Y)) (hp : p ≤ xs.length) (hS : ∀ c ∈ S, sp_c c = true) (hW : W ≠ []) (hW2 : ∀ c ∈ W, sp_c c = false) : tq (tch_ xs) xs.length p = p + S.length := by
  refine run_l (P := sp_c) h hp hS (fun _ => ?_)
  have hl : 0 < W.length := by
    cases W with
    | nil => exact absurd rfl hW
    | cons a b => exact Nat.succ_pos _
  rw [app_get hl]
  exact hW2 _ (get_mem hl)
theorem te_l (h : xs.drop p = S ++ (W ++ Y)) (hp : p ≤ xs.length) (hS : ∀ c ∈ S, sp_c c = true) (hW : W ≠ []) (hW2 : ∀ c ∈ W, lt_c c = true) (hY : Y ≠ [] → lt_c (Y.getD 0 0) = false) : te (tch_ xs) xs.length p = p + S.length + W.length ∧ tq (tch_ xs) xs.length p = p + S.length := by
  have e1 := tq_l h hp hS hW (fun c hc => by
    have := of_decide_eq_true (hW2 c hc)
    exact decide_eq_false (by omega))
  have hl := drop_len h hp
  rw [List.length_append] at hl
  have e2 := run_l (P := lt_c) (drop_app h) (by omega) hW2 hY
  refine ⟨?_, e1⟩
  have e1 : rE (spb (tch_ xs)) xs.length p = p + S.length := e1
  unfold te
  rw [e1]
  exact e2
theorem ne_l (h : xs.drop p = S ++ (W ++ Y)) (hp : p ≤ xs.length) (hS : ∀ c ∈ S, sp_c c = true) (hW : W ≠ []) (hW2 : ∀ c ∈ W, dg_c c = true) (hY : Y ≠ [] → dg_c (Y.getD 0 0) = false) : ne_ (tch_ xs) xs.length p = p + S.length + W.length ∧ tq (tch_ xs) xs.length p = p + S.length := by
  have e1 := tq_l h hp hS hW (fun c hc => by
    have := of_decide_eq_true (hW2 c hc)
    exact decide_eq_false (by omega))
  have hl := drop_len h hp
  rw [List.length_append] at hl
  have e2 := run_l (P := dg_c) (drop_app h) (by omega) hW2 hY
  refine ⟨?_, e1⟩
  have e1 : rE (spb (tch_ xs)) xs.length p = p + S.length := e1
  unfold ne_
  rw [e1]
  exact e2
/-- the reader stands before what is left -/
def AT_ (s : st_) (xs : List Int32) (p : Nat) (Z : List Int32) : Prop := CTx s (tch_ xs) xs.length ∧ p ≤ xs.length ∧ s 1 3 = nI p ∧ s 1 5 = 0 ∧ xs.drop p = Z
def txk_ (xs : List Int32) : Prop := ∀ j, j < xs.length → xs.getD j 0 = nI (tch_ xs j) ∧ 1 ≤ tch_ xs j ∧ tch_ xs j < 128
theorem AT_.pt {o j : Nat} {v : Int32} {Z : List Int32} (h : AT_ s xs p Z) (ho : 2 ≤ o) : AT_ (pt_ s o j v) xs p Z := by
  obtain ⟨⟨c0, c1, c2, c3⟩, a, b, c, d⟩ := h
  unfold AT_ CTx
  rw [pt_o (show (1 : Nat) ≠ o by omega), pt_o (show (0 : Nat) ≠ o by omega)]
  exact ⟨⟨c0, c1, c2, c3⟩, a, b, c, d⟩
theorem AT_.of {Z : List Int32} (h : AT_ s xs p Z) (h0 : s' 0 = s 0) (h1 : s' 1 = s 1) : AT_ s' xs p Z := by
  obtain ⟨⟨c0, c1, c2, c3⟩, a, b, c, d⟩ := h
  unfold AT_ CTx
  rw [h0, h1]
  exact ⟨⟨c0, c1, c2, c3⟩, a, b, c, d⟩
theorem wds_u : ∀ w, w < 4 → ∀ k, k < 11 → ∀ j, j < 11 → (k = j ∨ ¬ (wds w)[k]? = (wds w)[j]? ∨ (wds w)[k]? = none) := by decide +kernel
theorem wds_l : ∀ w, w < 4 → (wds w).length ≤ 10 := by decide +kernel
/-- a word of the list is read -/
theorem at_word {w k : Nat} (ht : txk_ xs) (hw : w < 4) (hk : (wds w)[k]? = some W) (h : AT_ s xs p (S ++ (W ++ Y))) (hS : ∀ c ∈ S, sp_c c = true) (hW : W ≠ []) (hW2 : ∀ c ∈ W, lt_c c = true) (hY : Y ≠ [] → lt_c (Y.getD 0 0) = false) : ∃ s', fX3_readWord s w = some (s', nI k) ∧ CFr s s' ∧ s' 1 4 = nI (p + S.length) ∧ AT_ s' xs (p + S.length + W.length) Y := by
  obtain ⟨hC, hp, h3, h5, hd⟩ := h
  obtain ⟨e1, e2⟩ := te_l hd hp hS hW hW2 hY
  obtain ⟨⟨s', r⟩, er, hfr, r3, r4, hpl, r5⟩ := readWord_w hC hw h3 hp h5
  rw [e1] at r3 hpl
  rw [e2] at hpl r4
  have hl := drop_len hd hp
  rw [List.length_append, List.length_append] at hl
  have hTK : TK (tch_ xs) (p + S.length) (p + S.length + W.length) W := by
    refine ⟨by omega, fun i hi => ?_⟩
    have e := drop_get (drop_app hd) (i := i)
    rw [app_get hi] at e
    rw [← e]
    exact (ht _ (by omega)).1
  have hkl : k < 11 := by
    obtain ⟨h, -⟩ := List.getElem?_eq_some_iff.mp hk
    have := wds_l w hw
    omega
  rcases hpl with ⟨k', W', hk', hT', hr⟩ | ⟨hr, hno⟩
  · have eW := hTK.u hT'
    subst eW
    have hkl' : k' < 11 := by
      obtain ⟨h, -⟩ := List.getElem?_eq_some_iff.mp hk'
      have := wds_l w hw
      omega
    have ek : k = k' := by
      rcases wds_u w hw k hkl k' hkl' with a | a | a
      · exact a
      · exact absurd (hk.trans hk'.symm) a
      · rw [hk] at a
        cases a
    subst ek
    dsimp only at hr r5 r3 hfr r4
    subst hr
    rcases r5 with ⟨-, r5⟩ | ⟨r5, -⟩
    · exact ⟨s', er, hfr, r4, hC.fr hfr, by omega, r3, r5, drop_app (by rw [← List.drop_drop, hd, List.drop_left])⟩
    · exact absurd r5 (nI_ne1 (by omega))
  · exact absurd hTK (hno k W hk)
/-- the value of digits -/
theorem dv_congr {f g : Nat → Nat} {a b : Nat} : ∀ k, (∀ i, i < k → f (a + i) = g (b + i)) → dv f a k = dv g b k
  | 0, _ => rfl
  | k + 1, h => by
    unfold dv
    rw [dv_congr k (fun i hi => h i (by omega)), h k (by omega)]
theorem at_num {v : Nat} {lo hi : Int32} (ht : txk_ xs) (h : AT_ s xs p (S ++ (W ++ Y))) (hS : ∀ c ∈ S, sp_c c = true) (hW : W ≠ []) (hW2 : ∀ c ∈ W, dg_c c = true) (hY : Y ≠ [] → dg_c (Y.getD 0 0) = false) (hv : dv (fun i => ix_ (W.getD i 0)) 0 W.length = v) (hv2 : v < 100000) (hlo : lo ≤ nI v) (hhi : nI v ≤ hi) : ∃ s', fX3_readNumber s lo hi = some (s', nI v) ∧ CFr s s' ∧ AT_ s' xs (p + S.length + W.length) Y := by
  obtain ⟨hC, hp, h3, h5, hd⟩ := h
  obtain ⟨e1, e2⟩ := ne_l hd hp hS hW hW2 hY
  obtain ⟨⟨s', r⟩, er, hfr, r3, r4, hr, r5⟩ := readNumber_w (lo := lo) (hi := hi) hC h3 hp h5
  rw [e1] at r3
  have hl := drop_len hd hp
  rw [List.length_append, List.length_append] at hl
  have edv : dv (tch_ xs) (p + S.length) W.length = v := by
    rw [← hv]
    refine dv_congr _ (fun i hi => ?_)
    have e := drop_get (drop_app hd) (i := i)
    rw [app_get hi] at e
    rw [Nat.zero_add]
    show ix_ (xs.getD (p + S.length + i) 0) = _
    rw [e]
  rw [e1, e2, show p + S.length + W.length - (p + S.length) = W.length by omega, edv] at hr
  have ec : cap 1000000 v = v := by
    unfold cap
    rw [if_neg (by omega)]
  rw [ec] at hr
  dsimp only at hr r3 r5 hfr
  subst hr
  have hWl : 0 < W.length := by
    cases W with
    | nil => exact absurd rfl hW
    | cons a b => exact Nat.succ_pos _
  rw [e1, e2] at r5
  rcases r5 with ⟨z, -⟩ | ⟨-, -, r5⟩ | ⟨-, z, -⟩
  · omega
  · exact ⟨s', er, hfr, hC.fr hfr, by omega, r3, r5, drop_app (by rw [← List.drop_drop, hd, List.drop_left])⟩
  · exact absurd ⟨hlo, hhi⟩ z
/-- digits are digits -/
theorem dd_x {k : Nat} (h : k < 10) : ix_ (dd_ k) = 48 + k := ix_n (by omega)
theorem dg_dig {x : Nat} (h : x < 100000) : (∀ c ∈ dg_ x, dg_c c = true) ∧ dg_ x ≠ [] ∧ dv (fun i => ix_ ((dg_ x).getD i 0)) 0 (dg_ x).length = x := by
  have key : ∀ l : List Nat, (∀ k ∈ l, k < 10) → ∀ c ∈ l.map dd_, dg_c c = true := fun l hl c hc => by
    obtain ⟨k, hk, rfl⟩ := List.mem_map.mp hc
    have := hl k hk
    unfold dg_c
    rw [dd_x this]
    exact decide_eq_true (by omega)
  unfold dg_
  split
  · exact ⟨key [x] (fun k hk => by simp only [List.mem_cons, List.not_mem_nil, or_false] at hk; omega), by simp, by
      show 10 * 0 + (ix_ (dd_ x) - 48) = x
      rw [dd_x (by omega)]
      omega⟩
  · split
    · exact ⟨key [x / 10, x % 10] (fun k hk => by simp only [List.mem_cons, List.not_mem_nil, or_false] at hk; omega), by simp, by
        show 10 * (10 * 0 + (ix_ (dd_ (x / 10)) - 48)) + (ix_ (dd_ (x % 10)) - 48) = x
        rw [dd_x (by omega), dd_x (by omega)]
        omega⟩
    · split
      · exact ⟨key [x / 100, x % 100 / 10, x % 100 % 10] (fun k hk => by simp only [List.mem_cons, List.not_mem_nil, or_false] at hk; omega), by simp, by
          show 10 * (10 * (10 * 0 + (ix_ (dd_ (x / 100)) - 48)) + (ix_ (dd_ (x % 100 / 10)) - 48)) + (ix_ (dd_ (x % 100 % 10)) - 48) = x
          rw [dd_x (by omega), dd_x (by omega), dd_x (by omega)]
          omega⟩
      · split
        · exact ⟨key [x / 100 / 10, x / 100 % 10, x % 100 / 10, x % 100 % 10] (fun k hk => by simp only [List.mem_cons, List.not_mem_nil, or_false] at hk; omega), by simp, by
            show 10 * (10 * (10 * (10 * 0 + (ix_ (dd_ (x / 100 / 10)) - 48)) + (ix_ (dd_ (x / 100 % 10)) - 48)) + (ix_ (dd_ (x % 100 / 10)) - 48)) + (ix_ (dd_ (x % 100 % 10)) - 48) = x
            rw [dd_x (by omega), dd_x (by omega), dd_x (by omega), dd_x (by omega)]
            omega⟩
        · exact ⟨key [x / 100 / 100, x / 100 % 100 / 10, x / 100 % 100 % 10, x % 100 / 10, x % 100 % 10] (fun k hk => by simp only [List.mem_cons, List.not_mem_nil, or_false] at hk; omega), by simp, by
            show 10 * (10 * (10 * (10 * (10 * 0 + (ix_ (dd_ (x / 100 / 100)) - 48)) + (ix_ (dd_ (x / 100 % 100 / 10)) - 48)) + (ix_ (dd_ (x / 100 % 100 % 10)) - 48)) + (ix_ (dd_ (x % 100 / 10)) - 48)) + (ix_ (dd_ (x % 100 % 10)) - 48) = x
            rw [dd_x (by omega), dd_x (by omega), dd_x (by omega), dd_x (by omega), dd_x (by omega)]
            omega⟩
end TOK
