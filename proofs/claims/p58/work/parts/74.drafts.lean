/-! the draft of the class, and the fresh row of the model -/
def pj (i : Nat) : Nat := match i with
  | 5 => 7
  | 7 => 9
  | 8 => 10
  | 9 => 11
  | 10 => 12
  | 11 => 17
  | 12 => 18
  | 13 => 16
  | 21 => 14
  | n => n
def PI (i : Nat) : Prop := i ≤ 5 ∨ (7 ≤ i ∧ i ≤ 13) ∨ i = 21
def okw (C R K i : Nat) (x : Int32) : Prop := match i with
  | 0 => x = nI C ∧ 2 ≤ C ∧ C ≤ 100
  | 1 => rg_ x 0 (C - 1)
  | 2 => rg_ x 0 99
  | 3 => rg_ x 1 99
  | 4 => x = nI R ∧ R ≤ 6
  | 5 => rg_ x 0 2
  | 7 => rg_ x 1 500
  | 8 => rg_ x 0 32767
  | 9 => rg_ x 0 5
  | 10 => x = nI K ∧ K ≤ 16
  | 21 => x = -1 ∨ rg_ x 0 2
  | _ => True
def ZW (w : Nat → Int32) (R : Nat) : Prop := (∀ i, i < 12584 → ((14 ≤ i ∧ i ≤ 18) ∨ i = 20 ∨ i = 23 ∨ i = 24 ∨ 72 ≤ i ∨ (26 ≤ i ∧ i < 56 ∧ (2 ≤ (i - 26) % 5 ∨ ((i - 26) % 5 = 0 ∧ 26 + 5 * R ≤ i)))) → w i = 0) ∧ w 19 = -1 ∧ w 25 = -1
/-- from the place a on all is told -/
def FD (a : Nat) (S : st_) (w : Nat → Int32) (C R K : Nat) : Prop := (∀ i, a ≤ i → PI i → S 0 (pj i) = w i ∧ okw C R K i (w i)) ∧ (∀ r, r < R → S 1 r = w (26 + 5 * r) ∧ S 2 r = w (26 + 5 * r + 1) ∧ rg_ (w (26 + 5 * r)) 0 4) ∧ ((w 5 = 2 → S 0 8 = w 6 ∧ rg_ (w 6) 0 (R - 1)) ∧ (¬ w 5 = 2 → S 0 8 = -1)) ∧ (w 21 = 2 → S 0 15 = w 22 ∧ rg_ (w 22) 0 (R - 1)) ∧ (∀ k, k < K → S 3 k = w (56 + k) ∧ rg_ (w (56 + k)) 0 (C - 1)) ∧ ZW w R
def pib (i : Nat) : Bool := Nat.ble i 5 || (Nat.ble 7 i && Nat.ble i 13) || Nat.beq i 21
theorem pib_t {i : Nat} (h : i ≤ 5 ∨ (7 ≤ i ∧ i ≤ 13) ∨ i = 21) : pib i = true := by
  rcases (show i = 0 ∨ i = 1 ∨ i = 2 ∨ i = 3 ∨ i = 4 ∨ i = 5 ∨ i = 7 ∨ i = 8 ∨ i = 9 ∨ i = 10 ∨ i = 11 ∨ i = 12 ∨ i = 13 ∨ i = 21 by omega) with rfl | rfl | rfl | rfl | rfl | rfl | rfl | rfl | rfl | rfl | rfl | rfl | rfl | rfl <;> rfl
theorem pj_c : ∀ i, i < 22 → ∀ k, k < 22 → (pib i && pib k && Nat.beq (pj i) (pj k)) = true → i = k := by decide +kernel
theorem pj_d : ∀ i, i < 22 → pib i = true → pj i ≠ 8 ∧ pj i ≠ 15 ∧ pj i < 19 := by decide +kernel
theorem pj_i (i : Nat) (hi : i < 22) (k : Nat) (hk : k < 22) (h1 : i ≤ 5 ∨ (7 ≤ i ∧ i ≤ 13) ∨ i = 21) (h2 : k ≤ 5 ∨ (7 ≤ k ∧ k ≤ 13) ∨ k = 21) (h : pj i = pj k) : i = k := pj_c i hi k hk (by rw [pib_t h1, pib_t h2, h, Nat.beq_refl]; rfl)
theorem pj_8 (i : Nat) (hi : i < 22) (h : i ≤ 5 ∨ (7 ≤ i ∧ i ≤ 13) ∨ i = 21) : pj i ≠ 8 ∧ pj i ≠ 15 ∧ pj i < 19 := pj_d i hi (pib_t h)
theorem PI.b {i : Nat} (h : PI i) : i < 22 := by unfold PI at h; omega
theorem okw_R {C R K R' i : Nat} {x : Int32} (h : okw C R K i x) (hp : PI i) (hi : i ≠ 4) : okw C R' K i x := by
  rcases (show i = 0 ∨ i = 1 ∨ i = 2 ∨ i = 3 ∨ i = 4 ∨ i = 5 ∨ i = 7 ∨ i = 8 ∨ i = 9 ∨ i = 10 ∨ i = 11 ∨ i = 12 ∨ i = 13 ∨ i = 21 by unfold PI at hp; omega) with rfl | rfl | rfl | rfl | rfl | rfl | rfl | rfl | rfl | rfl | rfl | rfl | rfl | rfl
  · exact h
  · exact h
  · exact h
  · exact h
  · exact absurd rfl hi
  · exact h
  · exact h
  · exact h
  · exact h
  · exact h
  · exact h
  · exact h
  · exact h
  · exact h
theorem okw_K {C R K K' i : Nat} {x : Int32} (h : okw C R K i x) (hp : PI i) (hi : i ≠ 10) : okw C R K' i x := by
  rcases (show i = 0 ∨ i = 1 ∨ i = 2 ∨ i = 3 ∨ i = 4 ∨ i = 5 ∨ i = 7 ∨ i = 8 ∨ i = 9 ∨ i = 10 ∨ i = 11 ∨ i = 12 ∨ i = 13 ∨ i = 21 by unfold PI at hp; omega) with rfl | rfl | rfl | rfl | rfl | rfl | rfl | rfl | rfl | rfl | rfl | rfl | rfl | rfl
  · exact h
  · exact h
  · exact h
  · exact h
  · exact h
  · exact h
  · exact h
  · exact h
  · exact h
  · exact absurd rfl hi
  · exact h
  · exact h
  · exact h
  · exact h
section DRAFT
variable {S S' s s' t t' : st_} {w w' : Nat → Int32} {a C R K i : Nat} {x : Int32}
/-- one number is told -/
theorem FD.num (h : FD a S w C R K) (hi : i = 2 ∨ i = 3 ∨ (7 ≤ i ∧ i ≤ 9) ∨ (11 ≤ i ∧ i ≤ 13)) (ho : ∀ o, o ≠ 0 → S' o = S o) (hj : ∀ j, j ≠ pj i → S' 0 j = S 0 j) (hx : S' 0 (pj i) = x) (hw : w' = up_ w i x) (hok : okw C R K i x) : FD a S' w' C R K := by
  obtain ⟨h1, h2, ⟨h3, h3'⟩, h4, h5, h6, h7, h8⟩ := h
  have wi : ∀ k, k ≠ i → w' k = w k := fun k hk => by rw [hw]; exact up_n hk
  have wx : w' i = x := by rw [hw]; exact up_a
  have p8 := pj_8 i (by omega) (by omega)
  refine ⟨fun k hak hk => ?_, fun r hr => ?_, ⟨fun z => ?_, fun z => ?_⟩, fun z => ?_, fun k hk => ?_, fun k hk hk2 => ?_, ?_, ?_⟩
  · by_cases hki : k = i
    · subst hki
      rw [wx]
      exact ⟨hx, hok⟩
    · rw [wi k hki, hj (pj k) (fun z => hki (pj_i k hk.b i (by omega) hk (by omega) z))]
      exact h1 k hak hk
  · rw [ho 1 (by decide), ho 2 (by decide), wi _ (by omega), wi _ (by omega)]
    exact h2 r hr
  · rw [wi 5 (by omega)] at z
    rw [hj 8 (fun y => p8.1 y.symm), wi 6 (by omega)]
    exact h3 z
  · rw [wi 5 (by omega)] at z
    rw [hj 8 (fun y => p8.1 y.symm)]
    exact h3' z
  · rw [wi 21 (by omega)] at z
    rw [hj 15 (fun y => p8.2.1 y.symm), wi 22 (by omega)]
    exact h4 z
  · rw [ho 3 (by decide), wi _ (by omega)]
    exact h5 k hk
  · rw [wi k (by omega)]
    exact h6 k hk hk2
  · rw [wi 19 (by omega)]
    exact h7
  · rw [wi 25 (by omega)]
    exact h8
/-- a rule is told -/
theorem FD.rule {kd wd : Int32} (h : FD 0 S w C R K) (hR : R < 6) (ho : S' 3 = S 3) (hj : ∀ j, j ≠ 4 → S' 0 j = S 0 j) (h4 : S' 0 4 = nI (R + 1)) (h1 : S' 1 = up_ (S 1) R kd) (h2 : S' 2 = up_ (S 2) R wd) (hw : ∀ i, i ≠ 4 → i ≠ 26 + 5 * R → i ≠ 26 + 5 * R + 1 → w' i = w i) (w4 : w' 4 = nI (R + 1)) (wk : w' (26 + 5 * R) = kd) (ww : w' (26 + 5 * R + 1) = wd) (hk : rg_ kd 0 4) : FD 0 S' w' C (R + 1) K := by
  obtain ⟨f1, f2, ⟨f3, f3'⟩, f4, f5, f6, f7, f8⟩ := h
  have p4 : pj 4 = 4 := rfl
  refine ⟨fun i hai hi => ?_, fun r hr => ?_, ⟨fun z => ?_, fun z => ?_⟩, fun z => ?_, fun k hk => ?_, fun i hi hi2 => ?_, ?_, ?_⟩
  · have hb := hi.b
    by_cases h4' : i = 4
    · subst h4'
      rw [p4, h4, w4]
      exact ⟨rfl, rfl, by omega⟩
    · have e := f1 i hai hi
      rw [hj (pj i) (fun z => h4' (pj_i i hb 4 (by omega) hi (by omega) z)), hw i h4' (by omega) (by omega)]
      exact ⟨e.1, okw_R e.2 hi h4'⟩
  · rw [h1, h2]
    by_cases hrR : r = R
    · subst hrR
      rw [up_a, up_a, wk, ww]
      exact ⟨rfl, rfl, hk⟩
    · rw [up_n hrR, up_n hrR, hw _ (by omega) (by omega) (by omega), hw _ (by omega) (by omega) (by omega)]
      exact f2 r (by omega)
  · rw [hw 5 (by omega) (by omega) (by omega)] at z
    rw [hj 8 (by decide), hw 6 (by omega) (by omega) (by omega)]
    exact ⟨(f3 z).1, (f3 z).2.mono (Nat.le_refl _) (by omega)⟩
  · rw [hw 5 (by omega) (by omega) (by omega)] at z
    rw [hj 8 (by decide)]
    exact f3' z
  · rw [hw 21 (by omega) (by omega) (by omega)] at z
    rw [hj 15 (by decide), hw 22 (by omega) (by omega) (by omega)]
    exact ⟨(f4 z).1, (f4 z).2.mono (Nat.le_refl _) (by omega)⟩
  · have hK : K ≤ 16 := (f1 10 (by omega) (by unfold PI; omega)).2.2
    rw [ho, hw _ (by omega) (by omega) (by omega)]
    exact f5 k hk
  · rw [hw i (by omega) (by omega) (by omega)]
    exact f6 i hi (by omega)
  · rw [hw 19 (by omega) (by omega) (by omega)]
    exact f7
  · rw [hw 25 (by omega) (by omega) (by omega)]
    exact f8
/-- an ask is told -/
theorem FD.ask (h : FD 0 S w C R K) (hK : K < 16) (ho : S' 1 = S 1 ∧ S' 2 = S 2) (hj : ∀ j, j ≠ 12 → S' 0 j = S 0 j) (h12 : S' 0 12 = nI (K + 1)) (h3 : S' 3 = up_ (S 3) K x) (hw : ∀ i, i ≠ 10 → i ≠ 56 + K → w' i = w i) (w10 : w' 10 = nI (K + 1)) (wx : w' (56 + K) = x) (hx : rg_ x 0 (C - 1)) : FD 0 S' w' C R (K + 1) := by
  obtain ⟨f1, f2, ⟨f3, f3'⟩, f4, f5, f6, f7, f8⟩ := h
  have p10 : pj 10 = 12 := rfl
  refine ⟨fun i hai hi => ?_, fun r hr => ?_, ⟨fun z => ?_, fun z => ?_⟩, fun z => ?_, fun k hk => ?_, fun i hi hi2 => ?_, ?_, ?_⟩
  · have hb := hi.b
    by_cases h10 : i = 10
    · subst h10
      rw [p10, h12, w10]
      exact ⟨rfl, rfl, by omega⟩
    · have e := f1 i hai hi
      rw [hj (pj i) (fun z => h10 (pj_i i hb 10 (by omega) hi (by omega) z)), hw i h10 (by omega)]
      exact ⟨e.1, okw_K e.2 hi h10⟩
  · have hR : R ≤ 6 := (f1 4 (by omega) (by unfold PI; omega)).2.2
    rw [ho.1, ho.2, hw _ (by omega) (by omega), hw _ (by omega) (by omega)]
    exact f2 r hr
  · rw [hw 5 (by omega) (by omega)] at z
    rw [hj 8 (by decide), hw 6 (by omega) (by omega)]
    exact f3 z
  · rw [hw 5 (by omega) (by omega)] at z
    rw [hj 8 (by decide)]
    exact f3' z
  · rw [hw 21 (by omega) (by omega)] at z
    rw [hj 15 (by decide), hw 22 (by omega) (by omega)]
    exact f4 z
  · rw [h3]
    by_cases hkK : k = K
    · subst hkK
      rw [up_a, wx]
      exact ⟨rfl, hx⟩
    · rw [up_n hkK, hw _ (by omega) (by omega)]
      exact f5 k (by omega)
  · rw [hw i (by omega) (by omega)]
    exact f6 i hi hi2
  · rw [hw 19 (by omega) (by omega)]
    exact f7
  · rw [hw 25 (by omega) (by omega)]
    exact f8
/-- the master is told -/
theorem FD.master {kd kp : Int32} (h : FD 0 S w C R K) (ho : ∀ o, o ≠ 0 → S' o = S o) (hj : ∀ j, j ≠ 7 → j ≠ 8 → S' 0 j = S 0 j) (h7 : S' 0 7 = kd) (h8 : S' 0 8 = if kd = 2 then kp else -1) (hw : ∀ i, i ≠ 5 → i ≠ 6 → w' i = w i) (w5 : w' 5 = kd) (w6 : kd = 2 → w' 6 = kp ∧ rg_ kp 0 (R - 1)) (hk : rg_ kd 0 2) : FD 0 S' w' C R K := by
  obtain ⟨f1, f2, ⟨f3, f3'⟩, f4, f5, f6, f7, f8⟩ := h
  have hR : R ≤ 6 := (f1 4 (by omega) (by unfold PI; omega)).2.2
  have hK : K ≤ 16 := (f1 10 (by omega) (by unfold PI; omega)).2.2
  have p5 : pj 5 = 7 := rfl
  refine ⟨fun i hai hi => ?_, fun r hr => ?_, ⟨fun z => ?_, fun z => ?_⟩, fun z => ?_, fun k hk => ?_, fun i hi hi2 => ?_, ?_, ?_⟩
  · have hb := hi.b
    by_cases h5 : i = 5
    · subst h5
      rw [p5, h7, w5]
      exact ⟨rfl, hk⟩
    · rw [hj (pj i) (fun z => h5 (pj_i i hb 5 (by omega) hi (by omega) z)) (pj_8 i hb hi).1, hw i h5 (by unfold PI at hi; omega)]
      exact f1 i hai hi
  · rw [ho 1 (by decide), ho 2 (by decide), hw _ (by omega) (by omega), hw _ (by omega) (by omega)]
    exact f2 r hr
  · rw [w5] at z
    rw [h8, if_pos z, (w6 z).1]
    exact ⟨rfl, (w6 z).2⟩
  · rw [w5] at z
    rw [h8, if_neg z]
  · rw [hw 21 (by omega) (by omega)] at z
    rw [hj 15 (by decide) (by decide), hw 22 (by omega) (by omega)]
    exact f4 z
  · rw [ho 3 (by decide), hw _ (by omega) (by omega)]
    exact f5 k hk
  · rw [hw i (by omega) (by omega)]
    exact f6 i hi hi2
  · rw [hw 19 (by omega) (by omega)]
    exact f7
  · rw [hw 25 (by omega) (by omega)]
    exact f8
/-- the rival is told -/
theorem FD.rival {kd kp : Int32} (h : FD 0 S w C R K) (ho : ∀ o, o ≠ 0 → S' o = S o) (hj : ∀ j, j ≠ 14 → j ≠ 15 → S' 0 j = S 0 j) (h14 : S' 0 14 = kd) (h15 : kd = 2 → S' 0 15 = kp) (hw : ∀ i, i ≠ 21 → i ≠ 22 → w' i = w i) (w21 : w' 21 = kd) (w22 : kd = 2 → w' 22 = kp ∧ rg_ kp 0 (R - 1)) (hk : rg_ kd 0 2) : FD 0 S' w' C R K := by
  obtain ⟨f1, f2, ⟨f3, f3'⟩, f4, f5, f6, f7, f8⟩ := h
  have hR : R ≤ 6 := (f1 4 (by omega) (by unfold PI; omega)).2.2
  have hK : K ≤ 16 := (f1 10 (by omega) (by unfold PI; omega)).2.2
  have p21 : pj 21 = 14 := rfl
  refine ⟨fun i hai hi => ?_, fun r hr => ?_, ⟨fun z => ?_, fun z => ?_⟩, fun z => ?_, fun k hk => ?_, fun i hi hi2 => ?_, ?_, ?_⟩
  · have hb := hi.b
    by_cases h5 : i = 21
    · subst h5
      rw [p21, h14, w21]
      exact ⟨rfl, Or.inr hk⟩
    · rw [hj (pj i) (fun z => h5 (pj_i i hb 21 (by omega) hi (by omega) z)) (pj_8 i hb hi).2.1, hw i h5 (by unfold PI at hi; omega)]
      exact f1 i hai hi
  · rw [ho 1 (by decide), ho 2 (by decide), hw _ (by omega) (by omega), hw _ (by omega) (by omega)]
    exact f2 r hr
  · rw [hw 5 (by omega) (by omega)] at z
    rw [hj 8 (by decide) (by decide), hw 6 (by omega) (by omega)]
    exact f3 z
  · rw [hw 5 (by omega) (by omega)] at z
    rw [hj 8 (by decide) (by decide)]
    exact f3' z
  · rw [w21] at z
    rw [h15 z, (w22 z).1]
    exact ⟨rfl, (w22 z).2⟩
  · rw [ho 3 (by decide), hw _ (by omega) (by omega)]
    exact f5 k hk
  · rw [hw i (by omega) (by omega)]
    exact f6 i hi hi2
  · rw [hw 19 (by omega) (by omega)]
    exact f7
  · rw [hw 25 (by omega) (by omega)]
    exact f8
end DRAFT
/-! both read on together -/
def MF (t t' : st_) : Prop := (∀ o, o ≠ 0 → o ≠ 3 → t' o = t o) ∧ ∀ j, j ≠ 9 → j ≠ 10 → j ≠ 11 → j ≠ 12 → j ≠ 14 → t' 0 j = t 0 j
def BJ (s t : st_) (ch : Nat → Nat) (L p : Nat) : Prop := CTx s ch L ∧ MTx t ch L ∧ p ≤ L ∧ s 1 3 = nI p ∧ t 0 9 = nI p ∧ s 1 5 = 0 ∧ t 0 12 = 0
def CE (s : st_) (ch : Nat → Nat) (L : Nat) : Prop := CTx s ch L ∧ (∃ p, p ≤ L ∧ s 1 3 = nI p) ∧ ¬ s 1 5 = 0
def EJ (s t : st_) (ch : Nat → Nat) (L : Nat) : Prop := CE s ch L ∧ t 0 12 = s 1 5 ∧ t 0 11 = s 1 6
section JOINT
variable {s s' t t' : st_} {ch : Nat → Nat} {L p q e w : Nat} {lo hi x : Int32}
theorem MF.r : MF t t := ⟨fun _ _ _ => rfl, fun _ _ _ _ _ _ => rfl⟩
theorem MF.tr {t'' : st_} (h : MF t t') (h' : MF t' t'') : MF t t'' := ⟨fun o a b => (h'.1 o a b).trans (h.1 o a b), fun j a b c d f => (h'.2 j a b c d f).trans (h.2 j a b c d f)⟩
theorem MF.sq : MF t (sq t q p) := ⟨fun o a _ => sq_o a, fun j a b _ _ _ => sq_j a b⟩
theorem MF.p0 {j : Nat} (h : j = 9 ∨ j = 10 ∨ j = 11 ∨ j = 12 ∨ j = 14) : MF t (pt_ t 0 j x) := ⟨fun o a _ => pt_o a, fun i a b c d f => pt_r (by omega)⟩
theorem MF.p3 {j : Nat} : MF t (pt_ t 3 j x) := ⟨fun o _ b => pt_o b, fun i _ _ _ _ _ => pt_oo (by decide)⟩
theorem MF.fl {c : Int32} : MF t (fl_ t c q) := (MF.p0 (by omega)).tr (MF.p0 (by omega))
theorem MF.nt {i : Nat} : MF t (nt_ t i x) := (MF.p0 (by omega)).tr MF.p3
theorem MTx.mf (h : MTx t ch L) (hm : MF t t') : MTx t' ch L := by
  obtain ⟨a, b, c⟩ := h
  refine ⟨a, by rw [hm.2 8 (by decide) (by decide) (by decide) (by decide) (by decide)]; exact b, fun j hj => ?_⟩
  rw [hm.1 7 (by decide) (by decide)]
  exact c j hj
/-- the class's reader goes on in vain -/
theorem CE.of (h : CE s ch L) (h0 : s' 0 = s 0) (h1 : s' 1 = s 1) : CE s' ch L := by
  obtain ⟨⟨a, b, c, d⟩, e, f⟩ := h
  unfold CE CTx
  rw [h0, h1]
  exact ⟨⟨a, b, c, d⟩, e, f⟩
theorem EJ.of (h : EJ s t ch L) (h0 : s' 0 = s 0) (h1 : s' 1 = s 1) : EJ s' t ch L := ⟨h.1.of h0 h1, by rw [h1]; exact h.2.1, by rw [h1]; exact h.2.2⟩
theorem CE.word (h : CE s ch L) : fX3_readWord s w = some (s, -1) := by
  unfold fX3_readWord
  rw [if_neg h.2.2]
theorem CE.num (h : CE s ch L) : fX3_readNumber s lo hi = some (s, 0) := by
  unfold fX3_readNumber
  rw [if_neg h.2.2]
theorem CE.fail (h : CE s ch L) : fX3_fail s lo hi = some s := by
  rw [fail_e, if_neg h.2.2]
theorem BJ.of (h : BJ s t ch L p) (h0 : s' 0 = s 0) (h1 : s' 1 = s 1) (ht : t' 0 = t 0) (h7 : t' 7 = t 7) : BJ s' t' ch L p := by
  unfold BJ CTx MTx at h ⊢
  rw [h0, h1, ht, h7]
  exact h
/-- a number -/
theorem num_p (h : BJ s t ch L p) {pl : Nat} (hpl : pl < 12584) (hh : hi < (1000000 : Int32)) : ∃ s' x, fX3_readNumber s lo hi = some (s', x) ∧ CFr s s' ∧ ((∃ p' t', fX8_into t (nI pl) lo hi = some (t', 1) ∧ p ≤ p' ∧ BJ s' t' ch L p' ∧ (lo ≤ x ∧ x ≤ hi) ∧ t' 3 = up_ (t 3) pl x ∧ MF t t') ∨ (∃ t', fX8_into t (nI pl) lo hi = some (t', 0) ∧ MF t t' ∧ EJ s' t' ch L)) := by
  obtain ⟨hC, hM, hpL, h3, h9, h5, h12⟩ := h
  obtain ⟨z, ez, c1, c2, c3, c4, c5⟩ := readNumber_w (lo := lo) (hi := hi) hC h3 hpL h5
  obtain ⟨m1, m2⟩ := into_w (lo := lo) (hi := hi) hM h9 hpL h12 hpl
  have hq := tq_L (ch := ch) hpL
  have he := ne_L (ch := ch) hpL
  have hCx := hC.fr c1
  refine ⟨z.1, z.2, ez, c1, ?_⟩
  have s12 : ∀ a b, (sq t a b) 0 12 = 0 := fun a b => by rw [sq_j (by decide) (by decide)]; exact h12
  rcases c5 with ⟨a, b⟩ | ⟨a, b, c⟩ | ⟨a, b, c⟩
  · refine Or.inr ⟨_, m1 a, MF.sq.tr MF.fl, ⟨hCx, ⟨_, he.2, c2⟩, by rw [b.1]; decide⟩, ?_, ?_⟩
    · rw [b.1]
      unfold fl_
      rw [pt_r (by decide), pt_a]
    · rw [b.2]
      unfold fl_
      rw [pt_a]
  · obtain ⟨k1, k2⟩ := cap_in (v := dv ch (tq ch L p) (ne_ ch L p - tq ch L p)) (lo := lo) hh
    rw [c4] at b ⊢
    have m3 := (m2 a _ rfl).1 (k1.mp b)
    rw [← k2 b] at m3
    generalize nI (cap 1000000 (dv ch (tq ch L p) (ne_ ch L p - tq ch L p))) = x at b m3 ⊢
    refine Or.inl ⟨ne_ ch L p, _, m3, by omega, ⟨hCx, hM.mf (MF.sq.tr MF.nt), he.2, c2, ?_, c, ?_⟩, b, ?_, MF.sq.tr MF.nt⟩
    · unfold nt_
      rw [pt_oo (by decide), pt_r (by decide), sq_p]
    · unfold nt_
      rw [pt_oo (by decide), pt_r (by decide), s12]
    · unfold nt_
      exact pt_1 (by rw [pt_o (by decide), sq_o (by decide)])
  · obtain ⟨k1, k2⟩ := cap_in (v := dv ch (tq ch L p) (ne_ ch L p - tq ch L p)) (lo := lo) hh
    rw [c4] at b
    have m3 := (m2 a _ rfl).2 (fun y => b (k1.mpr y))
    refine Or.inr ⟨_, m3, (MF.sq.tr MF.nt).tr MF.fl, ⟨hCx, ⟨_, he.2, c2⟩, by rw [c.1]; decide⟩, ?_, ?_⟩
    · rw [c.1]
      unfold fl_
      rw [pt_r (by decide), pt_a]
    · rw [c.2]
      unfold fl_
      rw [pt_a]
/-- a word of a list -/
theorem word_p (h : BJ s t ch L p) (hw : w < 4) : ∃ s' r, fX3_readWord s w = some (s', r) ∧ CFr s s' ∧ s' 1 4 = nI (tq ch L p) ∧ ((∃ (k : Nat) (W : List Int32), (wds w)[k]? = some W ∧ TK ch (tq ch L p) (te ch L p) W ∧ r = nI k ∧ BJ s' (sq t (tq ch L p) (te ch L p)) ch L (te ch L p)) ∨ (r = -1 ∧ (∀ (k : Nat) (W : List Int32), (wds w)[k]? = some W → ¬ TK ch (tq ch L p) (te ch L p) W) ∧ EJ s' (fl_ (sq t (tq ch L p) (tq ch L p)) 1 (tq ch L p)) ch L)) := by
  obtain ⟨hC, hM, hpL, h3, h9, h5, h12⟩ := h
  obtain ⟨z, ez, c1, c2, c3, c4, c5⟩ := readWord_w hC hw h3 hpL h5
  have he := te_L (ch := ch) hpL
  have hCx := hC.fr c1
  refine ⟨z.1, z.2, ez, c1, c3, ?_⟩
  rcases c4 with ⟨k, W, k1, k2, k3⟩ | ⟨k1, k2⟩
  · rcases c5 with ⟨a, b⟩ | ⟨a, _⟩
    · refine Or.inl ⟨k, W, k1, k2, k3, hCx, hM.sq, he.2, c2, sq_p, b, ?_⟩
      rw [sq_j (by decide) (by decide)]
      exact h12
    · have hk : k < (wds w).length := (List.getElem?_eq_some_iff.mp k1).1
      have hk10 : (wds w).length ≤ 10 := by
        rcases (show w = 0 ∨ w = 1 ∨ w = 2 ∨ w = 3 by omega) with rfl | rfl | rfl | rfl <;> decide
      rw [a] at k3
      exact absurd k3.symm (nI_ne1 (by omega))
  · rcases c5 with ⟨a, b⟩ | ⟨a, b, c⟩
    · exact absurd k1 a
    · refine Or.inr ⟨k1, k2, ⟨hCx, ⟨_, he.2, c2⟩, by rw [b]; decide⟩, ?_, ?_⟩
      · rw [b]
        unfold fl_
        rw [pt_r (by decide), pt_a]
      · rw [c]
        unfold fl_
        rw [pt_a]
/-- the model tries a word, at a token that has begun or not -/
theorem tk_t (h : BJ s t ch L p) (hw : w < 37) (hT : TK ch (tq ch L p) (te ch L p) (sb_y w)) : fX8_takes t w = some (sq t (tq ch L p) (te ch L p), 1) ∧ fX8_takes (sq t (tq ch L p) (tq ch L p)) w = some (sq t (tq ch L p) (te ch L p), 1) := by
  obtain ⟨hC, hM, hpL, h3, h9, h5, h12⟩ := h
  refine ⟨(takes_w hM hw h9 hpL).1 hT, ?_⟩
  have h1 := (takes_w (hM.sq (q := tq ch L p) (p := tq ch L p)) hw sq_p (tq_L hpL).2).1
  rw [tq_i hpL, te_i hpL, sq_sq] at h1
  exact h1 hT
theorem tk_f (h : BJ s t ch L p) (hw : w < 37) (hT : ¬ TK ch (tq ch L p) (te ch L p) (sb_y w)) : fX8_takes t w = some (sq t (tq ch L p) (tq ch L p), 0) ∧ fX8_takes (sq t (tq ch L p) (tq ch L p)) w = some (sq t (tq ch L p) (tq ch L p), 0) := by
  obtain ⟨hC, hM, hpL, h3, h9, h5, h12⟩ := h
  refine ⟨(takes_w hM hw h9 hpL).2 hT, ?_⟩
  have h1 := (takes_w (hM.sq (q := tq ch L p) (p := tq ch L p)) hw sq_p (tq_L hpL).2).2
  rw [tq_i hpL, te_i hpL, sq_sq] at h1
  exact h1 hT
/-- none of the words: the model fails at the token -/
theorem fails_q (h12 : t 0 12 = 0) {c : Int32} : fX8_fails (sq t q p) c = some (fl_ (sq t q p) c q, 0) := by
  rw [fails_e, if_pos (by rw [sq_j (by decide) (by decide)]; exact h12), sq_q]
  rfl
end JOINT
