/-! statements of the law's text -/
def stp_ (Y : List Int32) : Prop := Y = [] ∨ ∃ (c : Int32) (Z : List Int32), (c = 59 ∨ c = 32) ∧ Y = c :: Z
theorem stp_.l {Y : List Int32} (h : stp_ Y) : Y ≠ [] → lt_c (Y.getD 0 0) = false := by
  rcases h with h | ⟨c, Z, h | h, e⟩
  · exact fun z => absurd h z
  · subst e h
    exact fun _ => (by decide : lt_c (59 : Int32) = false)
  · subst e h
    exact fun _ => (by decide : lt_c (32 : Int32) = false)
theorem stp_.d {Y : List Int32} (h : stp_ Y) : Y ≠ [] → dg_c (Y.getD 0 0) = false := by
  rcases h with h | ⟨c, Z, h | h, e⟩
  · exact fun z => absurd h z
  · subst e h
    exact fun _ => (by decide : dg_c (59 : Int32) = false)
  · subst e h
    exact fun _ => (by decide : dg_c (32 : Int32) = false)
theorem stp_59 {Z : List Int32} : stp_ (59 :: Z) := Or.inr ⟨59, Z, Or.inl rfl, rfl⟩
theorem stp_32 {Z : List Int32} : stp_ (32 :: Z) := Or.inr ⟨32, Z, Or.inr rfl, rfl⟩
theorem stp_0 : stp_ [] := Or.inl rfl
theorem sp1 : ∀ c ∈ [(32 : Int32)], sp_c c = true := by decide
theorem wds_ok : ∀ w, w < 4 → ∀ k, k < 10 → ((wds w)[k]?.all (fun W => W.all lt_c && !W.isEmpty)) = true := by decide +kernel
theorem wds_h {w k : Nat} {W : List Int32} (hw : w < 4) (hk : (wds w)[k]? = some W) : W ≠ [] ∧ ∀ c ∈ W, lt_c c = true := by
  have hkl : k < 10 := by
    obtain ⟨h, -⟩ := List.getElem?_eq_some_iff.mp hk
    have := wds_l w hw
    omega
  have h := wds_ok w hw k hkl
  rw [hk] at h
  have h : (W.all lt_c && !W.isEmpty) = true := h
  rw [Bool.and_eq_true] at h
  refine ⟨fun z => ?_, fun c hc => List.all_eq_true.mp h.1 c hc⟩
  rw [z] at h
  exact absurd h.2 (by decide)
/-- the reader stands before Z, with a draft of R rules and K asks -/
def PS_ (s : st_) (xs Z : List Int32) (C R K : Nat) : Prop := ∃ (t : st_) (p : Nat), JS s t (tch_ xs) xs.length p C R K ∧ xs.drop p = Z
section STMS
variable {xs W Y Z : List Int32} {p q C R K k v a b : Nat} {s s' s1 t : st_} {lo hi : Int32}
theorem JS.at (h : JS s t (tch_ xs) xs.length p C R K) (hd : xs.drop p = Z) : AT_ s xs p Z := ⟨h.1.1, h.1.2.2.1, h.1.2.2.2.1, h.1.2.2.2.2.2.1, hd⟩
theorem num1 (ht : txk_ xs) (h : AT_ s xs p (32 :: (dg_ v ++ Y))) (hY : stp_ Y) (hv : v < 100000) (hlo : lo ≤ nI v) (hhi : nI v ≤ hi) : ∃ s' p', fX3_readNumber s lo hi = some (s', nI v) ∧ (∀ o, o ≠ 1 → s' o = s o) ∧ AT_ s' xs p' Y := by
  obtain ⟨h1, h2, h3⟩ := dg_dig hv
  obtain ⟨s', e, hf, hA⟩ := at_num (S := [32]) (W := dg_ v) (v := v) ht h sp1 h2 h1 hY.d h3 hv hlo hhi
  exact ⟨s', _, e, hf.1, hA⟩
theorem word1 {w : Nat} (ht : txk_ xs) (hw : w < 4) (hk : (wds w)[k]? = some W) (h : AT_ s xs p (32 :: (W ++ Y))) (hY : stp_ Y) : ∃ s' p', fX3_readWord s w = some (s', nI k) ∧ (∀ o, o ≠ 1 → s' o = s o) ∧ AT_ s' xs p' Y := by
  obtain ⟨h1, h2⟩ := wds_h hw hk
  obtain ⟨s', e, hf, -, hA⟩ := at_word (S := [32]) ht hw hk h sp1 h1 h2 hY.l
  exact ⟨s', _, e, hf.1, hA⟩
theorem word0 {w : Nat} (ht : txk_ xs) (hw : w < 4) (hk : (wds w)[k]? = some W) (h : AT_ s xs p (W ++ Y)) (hY : stp_ Y) : ∃ s' p', fX3_readWord s w = some (s', nI k) ∧ (∀ o, o ≠ 1 → s' o = s o) ∧ AT_ s' xs p' Y := by
  obtain ⟨h1, h2⟩ := wds_h hw hk
  obtain ⟨s', e, hf, -, hA⟩ := at_word (S := []) ht hw hk h (fun c hc => absurd hc (List.not_mem_nil)) h1 h2 hY.l
  exact ⟨s', _, e, hf.1, hA⟩
/-- a statement begins -/
theorem stm_open (ht : txk_ xs) (hk : (wds 0)[k]? = some W) (h : PS_ s xs (59 :: (W ++ Y)) C R K) (hY : stp_ Y) : ∃ s1 t1 p1 s2 p2, fX3_hasMore s = some (s1, 1) ∧ JS s1 t1 (tch_ xs) xs.length p1 C R K ∧ fX3_readWord s1 0 = some (s2, nI k) ∧ (∀ o, o ≠ 1 → s2 o = s o) ∧ AT_ s2 xs p2 Y ∧ s2 2 0 = nI C ∧ s2 2 4 = nI R ∧ s2 2 12 = nI K ∧ R ≤ 6 ∧ K ≤ 16 ∧ 2 ≤ C ∧ C ≤ 100 := by
  obtain ⟨t, p, hJ, hd⟩ := h
  obtain ⟨hB, hF⟩ := hJ
  obtain ⟨r1, -, r2⟩ := hF.R6
  obtain ⟨k1, -, k2⟩ := hF.K16
  obtain ⟨c1, -, c2, c3⟩ := hF.C100
  have hp := hB.2.2.1
  have hl := drop_len hd hp
  have hlt : p < xs.length := by
    rw [List.length_cons] at hl
    omega
  have ec : tch_ xs p = 59 := by
    have e := drop_get hd (i := 0)
    rw [Nat.add_zero] at e
    show ix_ (xs.getD p 0) = 59
    rw [e]
    rfl
  have et : tq (tch_ xs) xs.length p = p := rE_i hp (fun _ => by
    show decide (tch_ xs p = 32) = false
    rw [ec]
    decide)
  obtain ⟨s1, x, e1, hfr, hx⟩ := hasMore_p hB
  rw [et] at hx
  rcases hx with ⟨-, -, hx, hB1⟩ | ⟨-, hx, -⟩ | ⟨hx, -⟩
  · subst hx
    have hJ1 : JS s1 (sq t p (p + 1)) (tch_ xs) xs.length (p + 1) C R K := ⟨hB1, hF.fr hfr (sq_o (by decide))⟩
    have hd1 : xs.drop (p + 1) = W ++ Y := by rw [← List.drop_drop, hd]; rfl
    obtain ⟨s2, p2, e2, hf2, hA2⟩ := word0 ht (by omega) hk (hJ1.at hd1) hY
    have h2 : ∀ o, o ≠ 1 → s2 o = s o := fun o ho => (hf2 o ho).trans (hfr.1 o ho)
    exact ⟨s1, _, p + 1, s2, p2, e1, hJ1, e2, h2, hA2, by rw [h2 2 (by decide)]; exact c1, by rw [h2 2 (by decide)]; exact r1, by rw [h2 2 (by decide)]; exact k1, r2, k2, c2, c3⟩
  · exact absurd ec hx
  · omega
/-- a statement ends -/
theorem stm_close {R' K' : Nat} (hJ : JS s1 t (tch_ xs) xs.length p C R K) (e : fX3_readStatement s1 = some s') (hA : AT_ s' xs q Z) (hR : s' 2 4 = nI R') (hK : s' 2 12 = nI K') (hR6 : R' ≤ 6) (hK6 : K' ≤ 16) : PS_ s' xs Z C R' K' := by
  obtain ⟨s2, e2, h⟩ := readStatement_p hJ
  cases e.symm.trans e2
  obtain ⟨hC, hq, h3, h5, hd⟩ := hA
  have hL := hC.1
  rcases h with ⟨t', p', R2, K2, -, -, hJ2, -⟩ | ⟨t', -, -, hE⟩
  · have e1 : p' = q := (nI_eq (by have := hJ2.1.2.2.1; omega) (by omega)).mp (hJ2.1.2.2.2.1.symm.trans h3)
    obtain ⟨r1, -, r2⟩ := hJ2.2.R6
    obtain ⟨k1, -, k2⟩ := hJ2.2.K16
    have e2 : R2 = R' := (nI_eq (by omega) (by omega)).mp (r1.symm.trans hR)
    have e3 : K2 = K' := (nI_eq (by omega) (by omega)).mp (k1.symm.trans hK)
    subst e1 e2 e3
    exact ⟨t', p', hJ2, hd⟩
  · exact absurd h5 hE.1.2.2
end STMS
