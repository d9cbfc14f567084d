/-! the records of the rounds, of the class and of the model -/
def am6 (R m : Nat) : Prop := m < R ∨ m = 6
def rw6 (m : Nat) : Nat := if m = 6 then 2 else m + 3
def cs_ (w : Nat → Int32) (m : Nat) : Nat → Nat := fun i => ix_ (w (2948 + 1200 * m + i))
def cnt (f : Nat → Int32) (v : Int32) : Nat → Nat
  | 0 => 0
  | k + 1 => cnt f v k + (if f k = v then 1 else 0)
theorem cnt_congr {f g : Nat → Int32} {v : Int32} : ∀ k, (∀ r, r < k → f r = g r) → cnt f v k = cnt g v k
  | 0, _ => rfl
  | k + 1, h => by
    unfold cnt
    rw [cnt_congr k (fun r hr => h r (by omega)), h k (by omega)]
theorem cnt_le {f : Nat → Int32} {v : Int32} : ∀ k, cnt f v k ≤ k
  | 0 => Nat.le_refl _
  | k + 1 => by
    have := cnt_le (f := f) (v := v) k
    unfold cnt
    split <;> omega
theorem nsm_congr {F G : Nat → Nat} : ∀ k, (∀ r, r < k → F r = G r) → nsm F k = nsm G k
  | 0, _ => rfl
  | k + 1, h => by
    unfold nsm
    rw [nsm_congr k (fun r hr => h r (by omega)), h k (by omega)]
def RV (e : st_) (w : Nat → Int32) (T : Nat) : Prop := ∃ S, e 0 9 = nI S ∧ S ≤ T ∧ w 20 = nI (if S < 20 then S else 20) ∧ ∀ i, i < 20 → i < S → ∀ j, j < 5 → e ((S - 1 - i) % 20 + 21) j = w (448 + 5 * i + j)
def RP (e : st_) (w : Nat → Int32) (R T : Nat) : Prop := ∀ m, am6 R m → (∀ k, k ≤ T → e (rw6 m) k = nI (nsm (cs_ w m) k)) ∧ (∀ k, k < T → rg_ (w (2948 + 1200 * m + k)) 0 9900) ∧ w (ab_ m + 3) = nI (nsm (cs_ w m) T)
def RT (e : st_) (w : Nat → Int32) (R T : Nat) : Prop := ∀ k, k < T → e 9 k = w (548 + k) ∧ rg_ (w (548 + k)) 0 (R - 1)
def RC (e : st_) (w : Nat → Int32) (R T : Nat) : Prop := ∀ r, r < R → e 10 r = w (26 + 5 * r + 3) ∧ e 11 r = w (26 + 5 * r + 4) ∧ e 12 r = nI (cnt (fun k => w (1748 + k)) (nI r) T)
def RX (e : st_) (w : Nat → Int32) (R : Nat) : Prop := ∀ r o, r < R → o < R → e (r + 14) o = w (12548 + 6 * r + o)
def RJ (e : st_) (w : Nat → Int32) (T : Nat) : Prop := rg_ (w 17) 0 T ∧ e 0 10 = w 17 ∧ e 0 11 = w 18 ∧ e 0 12 = w 19 ∧ e 0 13 = w 24
def R0 (e : st_) (w : Nat → Int32) (R T : Nat) : Prop := (e 0 0 = nI R ∧ e 0 1 = nI T ∧ w 16 = nI T ∧ T ≤ 1000) ∧ RV e w T ∧ RP e w R T ∧ RT e w R T ∧ RC e w R T ∧ RJ e w T
def RR (e : st_) (w : Nat → Int32) (R T : Nat) : Prop := R0 e w R T ∧ RX e w R
section RECORDS
variable {e d a : st_} {w w' : Nat → Int32} {C R n T r9 : Nat}
theorem noteSwaps_w {f : Nat → Int32} (h1 : 1 ≤ R) (h6 : R ≤ 6) (h9 : r9 < R) (hd : d 0 12 = nI r9) (hR : d 1 4 = nI R) (he : e 0 0 = nI R) (hf : ∀ o, o < R → fX0_costBy (sb_ d 5) (sb_ d 1) (nI o) = some (f o)) : wp_ (fX4_noteSwaps e d) (fun e' => (∀ o, o ≠ r9 + 14 → e' o = e o) ∧ ∀ o, e' (r9 + 14) o = if o < R then e (r9 + 14) o + f o else e (r9 + 14) o) := by
  unfold fX4_noteSwaps
  rw [hd]
  refine wp_bne (hasRule_t (S := sb_ d 1) hR h9 h6) (wp_if' (by decide) ?_)
  unfold fX4_noteSwaps_l17
  refine wp_bn (Q := fun e' => (∀ o, o ≠ r9 + 14 → e' o = e o) ∧ ∀ o, e' (r9 + 14) o = if o < R then e (r9 + 14) o + f o else e (r9 + 14) o) ?_ (fun x hx => wp_s hx)
  refine wp_up (fun k v => v.1 = nI k ∧ (∀ o, o ≠ r9 + 14 → v.2 o = e o) ∧ ∀ o, v.2 (r9 + 14) o = if o < k then e (r9 + 14) o + f o else e (r9 + 14) o) 0 R (Nat.zero_le _) (by omega) ⟨rfl, fun _ _ => rfl, fun o => (if_neg (by omega)).symm⟩ (fun k v hk _ hv => ?_) (fun v hv => ?_)
  · obtain ⟨v1, z⟩ := v
    obtain ⟨ev, hz, hzo⟩ := hv
    dsimp only at ev hz hzo
    subst ev
    unfold fX4_noteSwaps_b17
    simp only [hd, ix_n (show r9 < 2147483648 by omega), ix_n (show k < 2147483648 by omega), Nat.one_mul]
    refine wp_if' (by rw [hz 0 (by omega), he]; exact nI_ge hk (by omega)) (wp_gd (ib_n (by omega) (by omega)) (wp_gd (ib_n (by omega) (by omega)) (wp_bne (hf k hk) (wp_gd (ib_n (by omega) (by omega)) (wp_bd (wp_l ⟨nI_1 k, fun o ho => (pt_o ho).trans (hz o ho), fun o => ?_⟩))))))
    dsimp only
    by_cases ho : o = k
    · subst ho
      rw [pt_a, hzo, if_neg (by omega), if_pos (by omega)]
    · rw [pt_r ho, hzo]
      by_cases hk2 : o < k
      · rw [if_pos hk2, if_pos (by omega)]
      · rw [if_neg hk2, if_neg (by omega)]
  · obtain ⟨v1, z⟩ := v
    obtain ⟨ev, hz, hzo⟩ := hv
    dsimp only at ev hz hzo
    subst ev
    unfold fX4_noteSwaps_b17
    dsimp only
    exact wp_it (by rw [hz 0 (by omega), he]; exact Int32.le_refl _) (wp_r ⟨hz, hzo⟩)
theorem noteServed_w (h : RV e w T) (h1 : e 0 1 = nI T) (h16 : w 16 = nI T) (hT : T ≤ 1000) (hN : NTo a w w' r9) : wp_ (fX4_noteServed e a (nI r9)) (fun e' => RV e' w' (T + 1) ∧ (∀ o, o ≠ 0 → (o < 21 ∨ 41 ≤ o) → e' o = e o) ∧ ∀ j, j ≠ 9 → e' 0 j = e 0 j) := by
  obtain ⟨S, h9, hS, h20, hr⟩ := h
  unfold fX4_noteServed
  rcases hN with ⟨ha, hw⟩ | ⟨ha, hw⟩
  · refine wp_it ha (wp_s ⟨⟨S, h9, by omega, by rw [hw 20 (by omega)]; exact h20, fun i hi hiS j hj => ?_⟩, fun _ _ _ => rfl, fun _ _ => rfl⟩)
    rw [hw _ (by omega)]
    exact hr i hi hiS j hj
  · obtain ⟨q, _, hq, eq⟩ := ha.ex
    have hm : S % 20 < 20 := Nat.mod_lt _ (by omega)
    have e9 : e 0 9 - e 0 9 / (20 : Int32) * (20 : Int32) = nI (S % 20) := by
      rw [h9]
      exact pk_rem (d := 20) (by omega) (by omega) (by omega)
    refine wp_if' (by rw [eq]; exact nI_ne1 (by omega)) ?_
    simp only [e9, ix_n (show S % 20 < 2147483648 by omega), Nat.one_mul, i0_, i1_, i2_, i3_, i4_]
    refine wp_gd (ib_n hm (by omega)) (wp_gd (by decide) (wp_bd (wp_gd (by decide) (wp_bd (wp_gd (by decide) (wp_bd (wp_gd (by decide) (wp_bd (wp_gd (by decide) (wp_bd (wp_bd (wp_s ?_))))))))))))
    generalize hx : S % 20 = x
    rw [hx] at hm
    obtain ⟨n1, n2, n3, n4, n5, n6, n7⟩ := hw
    refine ⟨⟨S + 1, ?_, by omega, ?_, fun i hi hiS j hj => ?_⟩, fun o ho ho2 => ?_, fun j hj => ?_⟩
    · simp (disch := omega) only [pt_a, pt_oo]
      rw [h9, nI_1]
    · rw [n1, h20]
      by_cases hc : S < 20
      · rw [if_pos hc, nI_1]
        by_cases hc2 : S + 1 < 20
        · rw [if_pos (show nI (S + 1) < (20 : Int32) from nI_lt (b := 20) hc2 (by omega)), if_pos hc2]
        · rw [if_neg (show ¬ nI (S + 1) < (20 : Int32) from nI_nlt (b := 20) (by omega) (by omega)), if_neg hc2]
          rfl
      · rw [if_neg hc, if_neg (show ¬ S + 1 < 20 by omega)]
        decide
    · by_cases hi0 : i = 0
      · subst hi0
        have ex : (S + 1 - 1 - 0) % 20 + 21 = x + 21 := by omega
        rw [ex]
        have ej : j = 0 ∨ j = 1 ∨ j = 2 ∨ j = 3 ∨ j = 4 := by omega
        rcases ej with rfl | rfl | rfl | rfl | rfl
        · simp (disch := omega) only [pt_a, pt_rr, pt_oo]
          rw [h1, ← h16]
          exact n2.symm
        · simp (disch := omega) only [pt_a, pt_rr, pt_oo]
          exact n3.symm
        · simp (disch := omega) only [pt_a, pt_rr, pt_oo]
          exact n4.symm
        · simp (disch := omega) only [pt_a, pt_rr, pt_oo]
          exact n5.symm
        · simp (disch := omega) only [pt_a, pt_rr, pt_oo]
          exact n6.symm
      · have hne : (S + 1 - 1 - i) % 20 ≠ x := by omega
        have e1 : S + 1 - 1 - i = S - 1 - (i - 1) := by omega
        have h2 := hr (i - 1) (by omega) (by omega) j hj
        rw [n7 _ (by omega) (by omega)]
        have e2 : 448 + 5 * i + j - 5 = 448 + 5 * (i - 1) + j := by omega
        rw [e2, ← h2, ← e1]
        simp (disch := omega) only [pt_oo]
    · simp (disch := omega) only [pt_o]
    · simp (disch := omega) only [pt_oo, pt_rr]
theorem noteRegret_j {x : Int32} {br : Int32} (h1 : e 0 1 = nI T) (h10 : e 0 10 = w 17) (h12 : e 0 12 = w 19) (h17 : rg_ (w 17) 0 T) (hT : T ≤ 1000) (e2 : fX1_isBreach d = some br) (hb : (br = 0 ∧ w' 17 = w 17 ∧ w' 19 = w 19) ∨ (br = 1 ∧ w' 17 = w 17 + 1 ∧ w' 19 = if w 17 = 0 then nI T else w 19)) : wp_ (fX4_noteRegret_j25 d e) (fun e' => (rg_ (w' 17) 0 (T + 1) ∧ e' 0 10 = w' 17 ∧ e' 0 12 = w' 19) ∧ (∀ o, o ≠ 0 → e' o = e o) ∧ ∀ j, j ≠ 10 → j ≠ 12 → e' 0 j = e 0 j) := by
  unfold fX4_noteRegret_j25
  refine wp_bne e2 ?_
  rcases hb with ⟨rfl, a, b⟩ | ⟨rfl, a, b⟩
  · exact wp_it rfl (wp_s ⟨⟨by rw [a]; exact h17.mono (Nat.le_refl _) (by omega), by rw [a]; exact h10, by rw [b]; exact h12⟩, fun _ _ => rfl, fun _ _ _ => rfl⟩)
  · obtain ⟨k, _, hk, ek⟩ := h17.ex
    have hr : rg_ (w' 17) 0 (T + 1) := by rw [a, ek, nI_1]; exact rg_n (Nat.zero_le _) (by omega) (by omega)
    refine wp_if' (by decide) ?_
    have fin : ∀ z, z = w' 19 → wp_ (fX4_noteRegret_j51 e z) (fun e' => (rg_ (w' 17) 0 (T + 1) ∧ e' 0 10 = w' 17 ∧ e' 0 12 = w' 19) ∧ (∀ o, o ≠ 0 → e' o = e o) ∧ ∀ j, j ≠ 10 → j ≠ 12 → e' 0 j = e 0 j) := fun z hz => by
      unfold fX4_noteRegret_j51
      refine wp_bd (wp_bd (wp_s ⟨⟨hr, ?_, ?_⟩, fun o ho => ?_, fun j ha hb => ?_⟩))
      · rw [pt_a, pt_r (by decide), h10, a]
      · rw [pt_r (by decide), pt_a, hz]
      · rw [pt_o ho, pt_o ho]
      · rw [pt_r ha, pt_r hb]
    refine wp_if (fun hc => fin _ ?_) (fun hc => fin _ ?_)
    · rw [h10] at hc
      rw [b, if_pos hc, h1]
    · rw [h10] at hc
      rw [b, if_neg hc, h12]
theorem noteRegret_w {reg br : Int32} (h1 : e 0 1 = nI T) (hT : T ≤ 1000) (hJ : rg_ (w 17) 0 T ∧ e 0 10 = w 17 ∧ e 0 11 = w 18 ∧ e 0 12 = w 19) (e1 : fX1_regretNow d = some reg) (e2 : fX1_isBreach d = some br) (h18 : w' 18 = (if T = 0 then reg else if w 18 < reg then reg else w 18)) (hb : (br = 0 ∧ w' 17 = w 17 ∧ w' 19 = w 19) ∨ (br = 1 ∧ w' 17 = w 17 + 1 ∧ w' 19 = if w 17 = 0 then nI T else w 19)) : wp_ (fX4_noteRegret e d) (fun e' => (rg_ (w' 17) 0 (T + 1) ∧ e' 0 10 = w' 17 ∧ e' 0 11 = w' 18 ∧ e' 0 12 = w' 19) ∧ (∀ o, o ≠ 0 → e' o = e o) ∧ ∀ j, j ≠ 10 → j ≠ 11 → j ≠ 12 → e' 0 j = e 0 j) := by
  obtain ⟨h17, h10, h11, h12⟩ := hJ
  have put : w' 18 = reg → wp_ (fX4_noteRegret_j20 e d reg) (fun e' => (rg_ (w' 17) 0 (T + 1) ∧ e' 0 10 = w' 17 ∧ e' 0 11 = w' 18 ∧ e' 0 12 = w' 19) ∧ (∀ o, o ≠ 0 → e' o = e o) ∧ ∀ j, j ≠ 10 → j ≠ 11 → j ≠ 12 → e' 0 j = e 0 j) := fun hx => by
    unfold fX4_noteRegret_j20
    refine wp_bd (wp_m (noteRegret_j (x := reg) (e := pt_ e 0 11 reg) (w := w) (w' := w') (T := T) (by rw [pt_r (by decide), h1]) (by rw [pt_r (by decide), h10]) (by rw [pt_r (by decide), h12]) h17 hT e2 hb) (fun e' h => ⟨⟨h.1.1, h.1.2.1, ?_, h.1.2.2⟩, fun o ho => by rw [h.2.1 o ho, pt_o ho], fun j a b c => by rw [h.2.2 j a c, pt_r b]⟩))
    rw [h.2.2 11 (by decide) (by decide), pt_a, hx]
  unfold fX4_noteRegret
  refine wp_bne e1 ?_
  refine wp_if (fun hc => put ?_) (fun hc => wp_if (fun hc2 => ?_) (fun hc2 => put ?_))
  · rw [h1] at hc
    have h0 : T = 0 := (nI_eq (b := 0) (by omega) (by omega)).mp hc
    rw [h18, if_pos h0]
  · have h0 : ¬ T = 0 := fun z => hc (by rw [h1, z]; rfl)
    rw [h11] at hc2
    refine wp_m (noteRegret_j (x := reg) (w := w) (w' := w') h1 h10 h12 h17 hT e2 hb) (fun e' h => ⟨⟨h.1.1, h.1.2.1, ?_, h.1.2.2⟩, h.2.1, fun j a b c => h.2.2 j a c⟩)
    rw [h.2.2 11 (by decide) (by decide), h11, h18, if_neg h0, if_neg (Int32.not_lt.mpr hc2)]
  · have h0 : ¬ T = 0 := fun z => hc (by rw [h1, z]; rfl)
    rw [h11] at hc2
    rw [h18, if_neg h0, if_pos (Int32.not_le.mp hc2)]
theorem armOf_i (hR : d 1 4 = nI R) (h6 : R ≤ 6) : fX1_armOf d (-1) = some 5 := by
  unfold fX1_armOf
  rw [bn_e (hasRule_f (S := sb_ d 1) hR h6 (fun z => absurd z.1 (by decide))), if_pos rfl]
theorem armOf_t {r : Nat} (hR : d 1 4 = nI R) (hr : r < R) (h6 : R ≤ 6) : fX1_armOf d (nI r) = some (3 * r + 15) := by
  unfold fX1_armOf
  rw [bn_e (hasRule_t (S := sb_ d 1) hR hr h6), if_neg (by decide), gd_t (ib_n (by omega) (by omega)), ix_n (by omega)]
def oa6 (k : Nat) : Nat := if k = 0 then 5 else 3 * k + 12
theorem notePaid_w (hR : d 1 4 = nI R) (h6 : R ≤ 6) (h0 : e 0 0 = nI R) (h1 : e 0 1 = nI T) (hT : T ≤ 1000) : wp_ (fX4_noteRound_l139 d FU_ ((0 : Int32), e)) (fun e' => (∀ o, (o < 2 ∨ 9 ≤ o) → e' o = e o) ∧ ∀ k, k ≤ R → e' (k + 2) = up_ (e (k + 2)) T (d (oa6 k) 5)) := by
  unfold fX4_noteRound_l139
  refine wp_up (fun k v => v.1 = nI k ∧ (∀ o, (o < 2 ∨ k + 2 ≤ o) → v.2 o = e o) ∧ ∀ i, i < k → v.2 (i + 2) = up_ (e (i + 2)) T (d (oa6 i) 5)) 0 (R + 1) (Nat.zero_le _) (by omega) ⟨rfl, fun _ _ => rfl, fun i hi => absurd hi (by omega)⟩ (fun k v hk _ hv => ?_) (fun v hv => ?_)
  · obtain ⟨v1, z⟩ := v
    obtain ⟨ev, hz, hzi⟩ := hv
    dsimp only at ev hz hzi
    subst ev
    unfold fX4_noteRound_b139
    have ea : fX1_armOf d (nI k - (1 : Int32)) = some (oa6 k) := by
      unfold oa6
      by_cases hk0 : k = 0
      · subst hk0
        rw [if_pos rfl]
        exact armOf_i hR h6
      · rw [if_neg hk0]
        have e1 : nI k - (1 : Int32) = nI (k - 1) := pk_sub (b := 1) (by omega)
        rw [e1, armOf_t hR (by omega) h6]
        congr 1
        omega
    dsimp only
    refine wp_if' (by rw [hz 0 (by omega), h0]; exact nI_nlt (by omega) (by omega)) (wp_gd (ib_n (by omega) (by omega)) (wp_bne ea ?_))
    simp only [hz 0 (by omega), h1, ix_n (show T < 2147483648 by omega), ix_n (show k < 2147483648 by omega), Nat.one_mul]
    refine wp_gd (ib_n (by omega) (by omega)) (wp_bd (wp_l ⟨nI_1 k, fun o ho => (pt_o (by omega)).trans (hz o (by omega)), fun i hi => ?_⟩))
    dsimp only
    by_cases hik : i = k
    · subst hik
      exact pt_1 (hz _ (by omega))
    · rw [pt_o (by omega)]
      exact hzi i (by omega)
  · obtain ⟨v1, z⟩ := v
    obtain ⟨ev, hz, hzi⟩ := hv
    dsimp only at ev hz hzi
    subst ev
    unfold fX4_noteRound_b139
    dsimp only
    exact wp_it (by rw [hz 0 (by omega), h0]; exact nI_lt (by omega) (by omega)) (wp_r ⟨fun o ho => hz o (by omega), fun k hk => hzi k (by omega)⟩)
end RECORDS
