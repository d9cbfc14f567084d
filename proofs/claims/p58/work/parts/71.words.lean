/-! words, as the class reads them -/
/-- at a place of a list of words: how many words lie before, and where the word begins -/
def wa_ (y : List Int32) : Nat → Nat × Nat
  | 0 => (0, 0)
  | k + 1 => if y.getD k 0 = 32 then ((wa_ y k).1 + 1, k + 1) else wa_ y k
/-- the words of a list -/
def wds (w : Nat) : List (List Int32) := match w with
  | 0 => [sb_y 13, sb_y 14, sb_y 15, sb_y 21, sb_y 27, sb_y 28, sb_y 35, sb_y 25, sb_y 26, sb_y 36]
  | 1 => [sb_y 16, sb_y 17, sb_y 18, sb_y 19, sb_y 20]
  | 2 => [sb_y 22, sb_y 23, sb_y 24]
  | _ => [sb_y 29, sb_y 30, sb_y 31, sb_y 32, sb_y 33, sb_y 34]
def slc (y : List Int32) (a b : Nat) : List Int32 := (y.drop a).take (b - a)
/-- a word ends there -/
def we_ (y : List Int32) (j : Nat) : Prop := j = y.length ∨ y.getD j 0 = 32
theorem wds_c : ∀ w, w < 4 → (sb_y w).length < 100 ∧ (∀ j, j < (sb_y w).length + 1 → (wa_ (sb_y w) j).2 ≤ j ∧ (wa_ (sb_y w) j).1 < 100 ∧ ((j = (sb_y w).length ∨ (sb_y w).getD j 0 = 32) → (wds w)[(wa_ (sb_y w) j).1]? = some (slc (sb_y w) (wa_ (sb_y w) j).2 j))) ∧ ∀ k, k < (wds w).length → ∃ j, j < (sb_y w).length + 1 ∧ (j = (sb_y w).length ∨ (sb_y w).getD j 0 = 32) ∧ (wa_ (sb_y w) j).1 = k := by decide +kernel
theorem slc_l {y : List Int32} {a b : Nat} (hab : a ≤ b) (hb : b ≤ y.length) : (slc y a b).length = b - a := by
  unfold slc
  rw [List.length_take, List.length_drop]
  omega
theorem slc_g {y : List Int32} {a b i : Nat} (hb : b ≤ y.length) (hi : i < b - a) : (slc y a b).getD i 0 = y.getD (a + i) 0 := by
  unfold slc
  rw [List.getD_eq_getElem?_getD, List.getD_eq_getElem?_getD, List.getElem?_take, if_pos hi, List.getElem?_drop]
section WORDS
variable {s s' : st_} {ch : Nat → Nat} {L p q e w : Nat}
theorem isToken_e (h : CTx s ch L) (hw : w < 4) (h3 : s 1 3 = nI e) (h4 : s 1 4 = nI q) (hqe : q ≤ e) (heL : e ≤ L) (hch : ∀ j, q ≤ j → j < e → ltb ch j = true) {a b : Nat} (hab : a ≤ b) (hb : b ≤ (sb_y w).length) : ∃ x, fX3_isToken s w (nI a) (nI b) = some x ∧ ((x = 1 ∧ TK ch q e (slc (sb_y w) a b)) ∨ (x = 0 ∧ ¬ TK ch q e (slc (sb_y w) a b))) := by
  have hlen := (wds_c w hw).1
  have hL := h.1
  have hsw : sw_ w = true := Nat.ble_eq_true_of_le (show w + 1 ≤ 37 by omega)
  have esl : sl_ w = nI (sb_y w).length := rfl
  unfold fX3_isToken
  rw [if_neg (nI_pos (by omega)), gd_t hsw, esl, if_neg (nI_nlt hb (by omega)), h3, h4, pk_sub hab, pk_sub hqe]
  by_cases hl : b - a = e - q
  · rw [if_pos (by rw [hl])]
    -- the first sign that differs, if there is one
    suffices hh : wp_ (fX3_isToken_l32 s w (nI a) (nI b) FU_ (0 : Int32)) (fun r => (r = .inr () ∧ TK ch q e (slc (sb_y w) a b)) ∨ (r = .inl () ∧ ¬ TK ch q e (slc (sb_y w) a b))) by
      obtain ⟨r, er, hr⟩ := hh
      rw [bn_e er]
      rcases hr with ⟨rfl, hr⟩ | ⟨rfl, hr⟩
      · exact ⟨1, rfl, Or.inl ⟨rfl, hr⟩⟩
      · exact ⟨0, rfl, Or.inr ⟨rfl, hr⟩⟩
    unfold fX3_isToken_l32
    refine wp_up (fun k v => v = nI k ∧ ∀ i, i < k → (slc (sb_y w) a b).getD i 0 = nI (ch (q + i))) 0 (b - a) (Nat.zero_le _) (by omega) ⟨rfl, fun i hi => absurd hi (by omega)⟩ (fun k v hk _ hv => ?_) (fun v hv => ?_)
    · obtain ⟨rfl, hi⟩ := hv
      have hlt := of_decide_eq_true (hch (q + k) (by omega) (by omega))
      have es : s 0 (q + k) = nI (ch (q + k)) := by
        rcases h.2.2.2 (q + k) (by omega) with ⟨_, x⟩ | ⟨x, _⟩
        · exact x
        · omega
      have ec : sch_ w (nI (a + k)) = (slc (sb_y w) a b).getD k 0 := by
        unfold sch_
        rw [ix_n (by omega), slc_g hb hk]
      unfold fX3_isToken_b32
      rw [pk_sub hab, nI_add, h4, nI_add, ix_n (show q + k < 2147483648 by omega), es, ec]
      refine wp_if' (nI_ge hk (by omega)) (wp_gd hsw (wp_gd (ib_n (by omega) (by omega)) (wp_gd (tx_1 h) (wp_gd (ib_n (by omega) (by omega)) (wp_if (fun hc => wp_l ⟨nI_1 k, fun i hik => ?_⟩) (fun hc => wp_r (Or.inr ⟨rfl, fun z => ?_⟩)))))))
      · by_cases hi2 : i = k
        · rw [hi2]; exact hc
        · exact hi i (by omega)
      · exact hc (z.2 k (by rw [slc_l hab hb]; exact hk))
    · obtain ⟨rfl, hi⟩ := hv
      unfold fX3_isToken_b32
      rw [pk_sub hab]
      exact wp_it (Int32.le_refl _) (wp_r (Or.inl ⟨rfl, by rw [slc_l hab hb]; omega, fun i hi2 => hi i (by rw [slc_l hab hb] at hi2; exact hi2)⟩))
  · rw [if_neg (fun z => hl ((nI_eq (by omega) (by omega)).mp z))]
    exact ⟨0, rfl, Or.inr ⟨rfl, fun z => hl (by have := z.1; rw [slc_l hab hb] at this; omega)⟩⟩
/-- the place of the token in a list of words -/
def PLo (ch : Nat → Nat) (q e w : Nat) (r : Int32) : Prop := (∃ (k : Nat) (W : List Int32), (wds w)[k]? = some W ∧ TK ch q e W ∧ r = nI k) ∨ (r = -1 ∧ ∀ (k : Nat) (W : List Int32), (wds w)[k]? = some W → ¬ TK ch q e W)
theorem placeIn_w (h : CTx s ch L) (hw : w < 4) (h3 : s 1 3 = nI e) (h4 : s 1 4 = nI q) (hqe : q ≤ e) (heL : e ≤ L) (hch : ∀ j, q ≤ j → j < e → ltb ch j = true) : wp_ (fX3_placeIn s w) (fun r => PLo ch q e w r) := by
  obtain ⟨c1, c2, c3⟩ := wds_c w hw
  generalize hN : (sb_y w).length = N at c1 c2 c3
  have hsw : sw_ w = true := Nat.ble_eq_true_of_le (show w + 1 ≤ 37 by omega)
  have esl : sl_ w = nI N := by rw [← hN]; rfl
  unfold fX3_placeIn fX3_placeIn_l7
  refine wp_bn (Q := fun x => (∃ (k : Nat) (W : List Int32), (wds w)[k]? = some W ∧ TK ch q e W ∧ x = .inl (nI k)) ∨ (x = .inr () ∧ ∀ (k : Nat) (W : List Int32), (wds w)[k]? = some W → ¬ TK ch q e W)) ?_ (fun x hx => ?_)
  · refine wp_up (fun k v => v.2.2 = nI k ∧ (k ≤ N → v.1 = nI (wa_ (sb_y w) k).1 ∧ v.2.1 = nI (wa_ (sb_y w) k).2) ∧ ∀ j, j < k → j < N + 1 → (j = N ∨ (sb_y w).getD j 0 = 32) → ¬ TK ch q e (slc (sb_y w) (wa_ (sb_y w) j).2 j)) 0 (N + 1) (Nat.zero_le _) (by omega) ⟨rfl, fun _ => ⟨rfl, rfl⟩, fun j hj => absurd hj (by omega)⟩ (fun k v hk _ hv => ?_) (fun v hv => ?_)
    · obtain ⟨v2, v3, v4⟩ := v
      obtain ⟨e4, e23, hno⟩ := hv
      dsimp only at e4 e23 hno
      obtain ⟨e2, e3⟩ := e23 (by omega)
      subst e2 e3 e4
      obtain ⟨d1, d2, d3⟩ := c2 k (by omega)
      obtain ⟨x, ex, hx⟩ := isToken_e h hw h3 h4 hqe heL hch d1 (show k ≤ (sb_y w).length by omega)
      have tok : (k = N ∨ (sb_y w).getD k 0 = 32) → wp_ (fX3_placeIn_j36 s w (nI (wa_ (sb_y w) k).1) (nI (wa_ (sb_y w) k).2) (nI k)) (Sum.elim (fun v => v.2.2 = nI (k + 1) ∧ (k + 1 ≤ N → v.1 = nI (wa_ (sb_y w) (k + 1)).1 ∧ v.2.1 = nI (wa_ (sb_y w) (k + 1)).2) ∧ ∀ j, j < k + 1 → j < N + 1 → (j = N ∨ (sb_y w).getD j 0 = 32) → ¬ TK ch q e (slc (sb_y w) (wa_ (sb_y w) j).2 j)) (fun x => (∃ (k : Nat) (W : List Int32), (wds w)[k]? = some W ∧ TK ch q e W ∧ x = .inl (nI k)) ∨ (x = .inr () ∧ ∀ (k : Nat) (W : List Int32), (wds w)[k]? = some W → ¬ TK ch q e W))) := fun hend => by
        unfold fX3_placeIn_j36 fX3_placeIn_j57
        refine wp_bne ex ?_
        rcases hx with ⟨rfl, hx⟩ | ⟨rfl, hx⟩
        · exact wp_if' (by decide) (wp_r (Or.inl ⟨_, _, d3 hend, hx, rfl⟩))
        · refine wp_it rfl (wp_l ⟨nI_1 k, fun hk1 => ?_, fun j hj hjN hje => ?_⟩)
          · have h32 : (sb_y w).getD k 0 = 32 := hend.resolve_left (by omega)
            have ew : wa_ (sb_y w) (k + 1) = ((wa_ (sb_y w) k).1 + 1, k + 1) := by
              rw [wa_, if_pos h32]
            rw [ew]
            exact ⟨nI_1 _, nI_1 _⟩
          · by_cases hjk : j = k
            · subst hjk; exact hx
            · exact hno j (by omega) hjN hje
      unfold fX3_placeIn_b7
      dsimp only
      rw [esl]
      refine wp_gd hsw (wp_if' (nI_nlt (by omega) (by omega)) (wp_gd hsw (wp_if (fun hkN => tok (Or.inl ((nI_eq (by omega) (by omega)).mp hkN))) (fun hkN => ?_))))
      have hkN2 : k < N := by
        rcases Nat.lt_or_ge k N with h | h
        · exact h
        · exact absurd (show nI k = nI N by have e : k = N := by omega
                                            rw [e]) hkN
      have ec : sch_ w (nI k) = (sb_y w).getD k 0 := by
        unfold sch_
        rw [ix_n (by omega)]
      rw [ec]
      refine wp_gd hsw (wp_gd (ib_n (by omega) (by omega)) (wp_if (fun h32 => tok (Or.inr h32)) (fun h32 => ?_)))
      unfold fX3_placeIn_j57
      refine wp_l ⟨nI_1 k, fun _ => ?_, fun j hj hjN hje => ?_⟩
      · have ew : wa_ (sb_y w) (k + 1) = wa_ (sb_y w) k := by
          rw [wa_, if_neg h32]
        rw [ew]
        exact ⟨rfl, rfl⟩
      · by_cases hjk : j = k
        · subst hjk
          rcases hje with z | z
          · omega
          · exact absurd z h32
        · exact hno j (by omega) hjN hje
    · obtain ⟨v2, v3, v4⟩ := v
      obtain ⟨e4, e23, hno⟩ := hv
      dsimp only at e4 e23 hno
      subst e4
      unfold fX3_placeIn_b7
      dsimp only
      rw [esl]
      refine wp_gd hsw (wp_it (nI_lt (by omega) (by omega)) (wp_r (Or.inr ⟨rfl, fun k W hk hT => ?_⟩)))
      have hkl : k < (wds w).length := (List.getElem?_eq_some_iff.mp hk).1
      obtain ⟨j, j1, j2, j3⟩ := c3 k hkl
      have hd := (c2 j j1).2.2 j2
      rw [j3, hk] at hd
      have eW := Option.some.inj hd
      rw [eW] at hT
      exact hno j j1 j1 j2 hT
  · unfold fX3_placeIn_k7
    rcases hx with ⟨k, W, k1, k2, rfl⟩ | ⟨rfl, hx⟩
    · exact wp_s (Or.inl ⟨k, W, k1, k2, rfl⟩)
    · exact wp_s (Or.inr ⟨rfl, hx⟩)
/-- where a word's token begins and ends -/
def tq (ch : Nat → Nat) (L p : Nat) : Nat := rE (spb ch) L p
def te (ch : Nat → Nat) (L p : Nat) : Nat := rE (ltb ch) L (rE (spb ch) L p)
def ne_ (ch : Nat → Nat) (L p : Nat) : Nat := rE (dgb ch) L (rE (spb ch) L p)
theorem readWord_w (h : CTx s ch L) (hw : w < 4) (hp : s 1 3 = nI p) (hpL : p ≤ L) (h5 : s 1 5 = 0) : wp_ (fX3_readWord s w) (fun z => CFr s z.1 ∧ z.1 1 3 = nI (te ch L p) ∧ z.1 1 4 = nI (tq ch L p) ∧ PLo ch (tq ch L p) (te ch L p) w z.2 ∧ ((¬ z.2 = -1 ∧ z.1 1 5 = 0) ∨ (z.2 = -1 ∧ z.1 1 5 = 1 ∧ z.1 1 6 = nI (tq ch L p)))) := by
  have hL := h.1
  obtain ⟨q1, q2, q3, q4⟩ := rE_s (f := spb ch) hpL
  unfold te tq
  unfold fX3_readWord
  refine wp_it h5 (wp_bn (skip_w h hp hpL) (fun r hr => ?_))
  generalize rE (spb ch) L p = q at q1 q2 q3 q4 hr
  obtain ⟨r1, r2, r3⟩ := hr
  obtain ⟨e1, e2, e3, e4⟩ := rE_s (f := ltb ch) q2
  generalize rE (ltb ch) L q = e at e1 e2 e3 e4
  refine wp_bd ?_
  rw [r2]
  generalize hs5 : pt_ r 1 4 (nI q) = s5
  have f5 : CFr s s5 := by rw [← hs5]; exact r1.tr (CFr.pt (by omega))
  have a3 : s5 1 3 = nI q := by rw [← hs5, pt_r (by decide), r2]
  have a4 : s5 1 4 = nI q := by rw [← hs5, pt_a]
  have a5 : s5 1 5 = 0 := by rw [← hs5, pt_r (by decide), r3 5 (by decide), h5]
  unfold fX3_readWord_l21
  refine wp_bn (Q := fun v => CFr s v ∧ v 1 3 = nI e ∧ v 1 4 = nI q ∧ v 1 5 = 0) ?_ (fun v hv => ?_)
  · refine wp_up (fun k v => CFr s v ∧ v 1 3 = nI k ∧ v 1 4 = nI q ∧ v 1 5 = 0) q e e1 (by omega) ⟨f5, a3, a4, a5⟩ (fun k v hk hk0 hv => ?_) (fun v hv => ?_)
    · obtain ⟨b1, b2, b3, b4⟩ := hv
      have hx := h.fr b1
      have hlt := of_decide_eq_true (e3 k hk0 hk)
      unfold fX3_readWord_b21
      rw [hx.2.2.1, b2, ix_n (by omega)]
      refine wp_if' (nI_ge (by omega) (by omega)) (wp_gd (tx_1 hx) (wp_gd (ib_n (by omega) (by omega)) (wp_if' ((cb_lt hx (by omega) (c := 97) (by omega)).mpr ⟨hlt.1, by omega⟩) (wp_gd (tx_1 hx) (wp_gd (ib_n (by omega) (by omega)) (wp_if' (fun z => ?_) (wp_bd (wp_l ⟨b1.tr (CFr.pt (by omega)), ?_, ?_, ?_⟩))))))))
      · have := (cb_gt hx (by omega) (c := 122) (by omega) (by omega)).mp z
        omega
      · rw [pt_a, nI_1]
      · rw [pt_r (by decide)]; exact b3
      · rw [pt_r (by decide)]; exact b4
    · obtain ⟨b1, b2, b3, b4⟩ := hv
      have hx := h.fr b1
      unfold fX3_readWord_b21
      rw [hx.2.2.1, b2, ix_n (by omega)]
      by_cases heL : e < L
      · have hlt := of_decide_eq_false (e4 heL)
        refine wp_if' (nI_ge (by omega) (by omega)) (wp_gd (tx_1 hx) (wp_gd (ib_n (by omega) (by omega)) (wp_if (fun _ => wp_r ⟨b1, b2, b3, b4⟩) (fun hc => ?_))))
        have hc2 := (cb_lt hx heL (c := 97) (by omega)).mp hc
        exact wp_gd (tx_1 hx) (wp_gd (ib_n (by omega) (by omega)) (wp_it ((cb_gt hx heL (c := 122) (by omega) hc2.2).mpr (by omega)) (wp_r ⟨b1, b2, b3, b4⟩)))
      · exact wp_it (nI_le (by omega) (by omega)) (wp_r ⟨b1, b2, b3, b4⟩)
  · obtain ⟨b1, b2, b3, b4⟩ := hv
    have hx := h.fr b1
    unfold fX3_readWord_k21 fX3_readWord_x21_73
    refine wp_bn (placeIn_w hx hw b2 b3 e1 e2 e3) (fun r9 h9 => ?_)
    refine wp_if (fun hm => ?_) (fun hm => wp_s ⟨b1, b2, b3, h9, Or.inl ⟨hm, b4⟩⟩)
    refine wp_bne fail_e (wp_s ?_)
    rw [if_pos b4, b3]
    refine ⟨(b1.tr (CFr.pt (by omega))).tr (CFr.pt (by omega)), ?_, ?_, h9, Or.inr ⟨hm, ?_, by dsimp only; rw [pt_a]⟩⟩
    · dsimp only
      rw [pt_r (by decide), pt_r (by decide), b2]
    · dsimp only
      rw [pt_r (by decide), pt_r (by decide), b3]
    · dsimp only
      rw [pt_r (by decide), pt_a]
end WORDS
