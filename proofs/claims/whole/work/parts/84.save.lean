/-! snapshots of the class: printed by wip/whole/gen_84.py -/
def mS7_save : mt_ := (yX7_saveSnapshot, cX7_saveSnapshot, 2, some .int, [], { frames := 7, locals := 122, cells := 76, slots := 8905 })
theorem ckS7_save : cokV_ mS7_save := ⟨⟨(uw_mem 1404 (by decide +kernel) (by decide +kernel)), (uw_mem 103 (by decide +kernel) (by decide +kernel)), by decide +kernel, by decide +kernel⟩, (uw_mem 1402 (by decide +kernel) (by decide +kernel)), (uw_mem 1403 (by decide +kernel) (by decide +kernel))⟩
theorem nkS7_save : nok_ mS7_save 1 := by decide +kernel
def mS7_rest : mt_ := (yX7_restoreSnapshot, cX7_restoreSnapshot, 2, some .int, [], { frames := 7, locals := 122, cells := 1, slots := 6 })
theorem ckS7_rest : cokV_ mS7_rest := ⟨⟨(uw_mem 1421 (by decide +kernel) (by decide +kernel)), (uw_mem 103 (by decide +kernel) (by decide +kernel)), by decide +kernel, by decide +kernel⟩, (uw_mem 1419 (by decide +kernel) (by decide +kernel)), (uw_mem 1420 (by decide +kernel) (by decide +kernel))⟩
theorem nkS7_rest : nok_ mS7_rest 1 := by decide +kernel
theorem lqX7_378 : Cond.methodLink RX7 378 yX2_copyFrom ∈ uw_ := (uw_mem 1405 (by decide +kernel) (by decide +kernel))
theorem eo_G_0q : eo_ ly_G 0 2 fsX2 := rfl
theorem sm_.lo {H H1 : Heap} {a n : Nat} (h : sm_ H H1 0 0) : sm_ H H1 a n := ⟨h.1, fun q hq _ => h.2 q hq (Or.inr (Nat.zero_le _))⟩
/-- after a save: where the copy lies, and what is as before -/
def spo_ (E : ev_) (H Hn : Heap) (a k : Nat) (f : Nat → Option Nat) (w : Nat → Int32) : Prop := ∃ (b : Nat) (g : st_), (f k = some b ∨ (f k = none ∧ H.size ≤ b)) ∧ has_ E Hn b ly_G g ∧ GK g w ∧ at_ E Hn (a + 119) (sna_ E (up_ f k (some b))) ∧ H.size ≤ Hn.size ∧ ∀ q : Nat, q < H.size → q ≠ a + 119 → (q < b ∨ b + 75 ≤ q) → Hn[q]? = H[q]?
section SNAP
variable {E : ev_} {H : Heap} {a k : Nat} {s : st_} {f : Nat → Option Nat} {w : Nat → Int32} {i0 : Int32}
theorem kX7_saveF (hx : ¬ (0 ≤ i0 ∧ i0 ≤ 1)) : sp_ E mS7_save [.ref a, .int i0] H (po1 (.inr (xn_ 1)) (fun Hn => sm_ H Hn 0 0)) := by
  refine sp_of (by decide +kernel) rfl rfl ?_
  generalize hQ : po1 _ _ = Q
  refine aw_lv (lv' := [(0, .ref a), (1, .int i0)]) [0, 1] rfl ?_
  refine aw_b (pc' := 3) (lv' := [(0, .ref a), (1, .int i0)]) (st' := [.int 1, .int 0, .int i0]) [(0, .iload_n 1, 1, .null), (1, .iconst 0, 1, .int 0), (2, .iconst 1, 1, .int 1)] (by decide +kernel) rfl ?_
  refine aw_cts (rest := []) (kX7_requireWithin (within_f hx)) rfl ckX7_requireWithin lkX7_196 nkX7_requireWithin rfl (by decide) rfl rfl rfl (Nat.le_of_ble_eq_true rfl) (by decide) (by decide) (by decide +kernel) (fun x H1 hv _ => by cases hv) (fun x H1 hv z => ?_)
  cases hv
  rw [← hQ]
  exact ⟨rfl, z⟩
theorem kX7_restF (hx : ¬ (0 ≤ i0 ∧ i0 ≤ 1)) : sp_ E mS7_rest [.ref a, .int i0] H (po1 (.inr (xn_ 1)) (fun Hn => sm_ H Hn 0 0)) := by
  refine sp_of (by decide +kernel) rfl rfl ?_
  generalize hQ : po1 _ _ = Q
  refine aw_lv (lv' := [(0, .ref a), (1, .int i0)]) [0, 1] rfl ?_
  refine aw_b (pc' := 3) (lv' := [(0, .ref a), (1, .int i0)]) (st' := [.int 1, .int 0, .int i0]) [(0, .iload_n 1, 1, .null), (1, .iconst 0, 1, .int 0), (2, .iconst 1, 1, .int 1)] (by decide +kernel) rfl ?_
  refine aw_cts (rest := []) (kX7_requireWithin (within_f hx)) rfl ckX7_requireWithin lkX7_196 nkX7_requireWithin rfl (by decide) rfl rfl rfl (Nat.le_of_ble_eq_true rfl) (by decide) (by decide) (by decide +kernel) (fun x H1 hv _ => by cases hv) (fun x H1 hv z => ?_)
  cases hv
  rw [← hQ]
  exact ⟨rfl, z⟩
theorem wi_k (hk : k < 2) : (0 : Int32) ≤ nI k ∧ nI k ≤ 1 := by
  rcases (show k = 0 ∨ k = 1 by omega) with rfl | rfl <;> decide
/-- the second half of a save: the place is taken -/
theorem save_2 {Q : po_} {b : Nat} {g : st_} {k1 n1 : Nat} (hf : ev_fr E a) (hk : k < 2) (h0 : has_ E H a ly_M s) (hp : at_ E H (a + 119) (sna_ E f)) (hb : f k = some b) (hg : has_ E H b ly_G g) (hd : a + 120 ≤ b) (hG : GK (sb_ s 8) w) (hc1 : k1 ≤ 76) (hc2 : n1 ≤ 8905)
    (hw : ∀ Hn : Heap, at_ E Hn (a + 119) (sna_ E f) → (∃ g' : st_, has_ E Hn b ly_G g' ∧ GK g' w) → sm_ H Hn b 75 → Q (.inl (some (.int (s 9 9)))) Hn) : aw E mS7_save Q 28 [(0, .ref a), (1, .int (nI k))] [] H k1 n1 := by
  obtain ⟨g', eg, hg'⟩ := gameCopy_w (s := g) hG
  refine aw_b (pc' := 29) (lv' := [(0, .ref a), (1, .int (nI k))]) (st' := [.ref a]) [(28, .aload_n 0, 1, .null)] (by decide +kernel) rfl ?_
  refine aw_gl (v := .ref (a + 119)) a 0 h0 eo_M_0 fgX7_48 rfl (by decide +kernel) ?_
  refine aw_b (pc' := 33) (lv' := [(0, .ref a), (1, .int (nI k))]) (st' := [.int (nI k), .ref (a + 119)]) [(32, .iload_n 1, 1, .null)] (by decide +kernel) rfl ?_
  refine aw_aaldG (f := f) hp (ib_in (ib_n hk (by omega))) (by decide +kernel) ?_
  rw [show (nI k).toNatClampNeg = k from ix_n (by omega), hb]
  show aw E mS7_save Q 34 [(0, .ref a), (1, .int (nI k))] [.ref b] H k1 n1
  refine aw_b (pc' := 35) (lv' := [(0, .ref a), (1, .int (nI k))]) (st' := [.ref a, .ref b]) [(34, .aload_n 0, 1, .null)] (by decide +kernel) rfl ?_
  refine aw_gl (v := .ref (a + 8)) a 0 h0 eo_M_0 fgX7_30 rfl (by decide +kernel) ?_
  refine aw_cv (rest := []) (st1 := []) b 0 (kX2_copyFrom eg hg (h0.sub su_M_8_G) (Nat.le_trans hf (by omega)) (by omega)) rfl rfl ckX2_copyFrom lqX7_378 hg eo_G_0q ⟨_, _, rfl⟩ nkX2_copyFrom rfl rfl rfl (Nat.le_of_ble_eq_true rfl) hc1 hc2 (by decide +kernel) (fun Hn z => ?_)
  obtain ⟨z, hn⟩ := z
  have h0 := h0.kept z (n := 119) rfl (by omega)
  have hp := at_same hp (z.2 _ (at_lt hp) (by omega))
  refine aw_b (pc' := 42) (lv' := [(0, .ref a), (1, .int (nI k))]) (st' := [.ref a]) [(41, .aload_n 0, 1, .null)] (by decide +kernel) rfl ?_
  refine aw_gl (v := .ref (a + 8)) a 0 h0 eo_M_0 fgX7_30 rfl (by decide +kernel) ?_
  refine aw_gl (v := .ref (a + 9)) a 8 h0 eo_M_8 fgX7_80 rfl (by decide +kernel) ?_
  refine aw_gl (v := .int (s 9 9)) a 9 h0 eo_M_9 fgX7_269 rfl (by decide +kernel) ?_
  exact aw_iret rfl hc1 hc2 (by decide +kernel) (hw Hn hp ⟨g', hn, hg'⟩ z)
theorem kX7_saveS (hO : exo_ E) (hf : ev_fr E a) (hk : k < 2) (h0 : has_ E H a ly_M s) (hp : at_ E H (a + 119) (sna_ E f)) (hs : ∀ b, f k = some b → a + 120 ≤ b ∧ ∃ g, has_ E H b ly_G g) (hG : GK (sb_ s 8) w) : sp_ E mS7_save [.ref a, .int (nI k)] H (po1 (.inl (some (.int (s 9 9)))) (fun Hn => spo_ E H Hn a k f w)) := by
  refine sp_of (by decide +kernel) rfl rfl ?_
  generalize hQ : po1 _ _ = Q
  refine aw_lv (lv' := [(0, .ref a), (1, .int (nI k))]) [0, 1] rfl ?_
  refine aw_b (pc' := 3) (lv' := [(0, .ref a), (1, .int (nI k))]) (st' := [.int 1, .int 0, .int (nI k)]) [(0, .iload_n 1, 1, .null), (1, .iconst 0, 1, .int 0), (2, .iconst 1, 1, .int 1)] (by decide +kernel) rfl ?_
  refine aw_cts (rest := []) (kX7_requireWithin (within_t (wi_k hk))) rfl ckX7_requireWithin lkX7_196 nkX7_requireWithin rfl (by decide) rfl rfl rfl (Nat.le_of_ble_eq_true rfl) (by decide) (by decide) (by decide +kernel) (fun x H1 hv z => ?_) (fun x H1 hv z => by cases hv)
  have h1 := h0.kept0 z
  have hp1 := at_same hp (z.2 _ (at_lt hp) (Or.inr (Nat.zero_le _)))
  show aw E mS7_save Q 6 [(0, .ref a), (1, .int (nI k))] [] H1 1 6
  refine aw_b (pc' := 7) (lv' := [(0, .ref a), (1, .int (nI k))]) (st' := [.ref a]) [(6, .aload_n 0, 1, .null)] (by decide +kernel) rfl ?_
  refine aw_gl (v := .ref (a + 119)) a 0 h1 eo_M_0 fgX7_48 rfl (by decide +kernel) ?_
  refine aw_b (pc' := 11) (lv' := [(0, .ref a), (1, .int (nI k))]) (st' := [.int (nI k), .ref (a + 119)]) [(10, .iload_n 1, 1, .null)] (by decide +kernel) rfl ?_
  refine aw_aaldG (f := f) hp1 (ib_in (ib_n hk (by omega))) (by decide +kernel) ?_
  rw [show (nI k).toNatClampNeg = k from ix_n (by omega)]
  cases hfk : f k with
  | some b =>
    obtain ⟨hd, g, hg⟩ := hs b hfk
    have hg := hg.kept0 z
    refine aw_ifnonnull (off := 16) 28 (by decide) (by decide +kernel) ?_
    refine save_2 hf hk h1 hp1 hfk hg hd hG (by decide) (by decide) (fun Hn q1 ⟨g', q2, q3⟩ q4 => ?_)
    rw [← hQ]
    have e : up_ f k (some b) = f := by
      funext j
      unfold up_
      split
      · rename_i hj; rw [hj, hfk]
      · rfl
    refine ⟨rfl, b, g', Or.inl hfk, q2, q3, by rw [e]; exact q1, Nat.le_trans z.1 q4.1, fun q hq _ ho => ?_⟩
    rw [q4.2 q (Nat.lt_of_lt_of_le hq z.1) ho]
    exact z.2 q hq (Or.inr (Nat.zero_le _))
  | none =>
    refine aw_ifnonnullN (off := 16) (by decide +kernel) ?_
    refine aw_b (pc' := 16) (lv' := [(0, .ref a), (1, .int (nI k))]) (st' := [.ref a]) [(15, .aload_n 0, 1, .null)] (by decide +kernel) rfl ?_
    refine aw_gl (v := .ref (a + 119)) a 0 h1 eo_M_0 fgX7_48 rfl (by decide +kernel) ?_
    refine aw_b (pc' := 20) (lv' := [(0, .ref a), (1, .int (nI k))]) (st' := [.int (nI k), .ref (a + 119)]) [(19, .iload_n 1, 1, .null)] (by decide +kernel) rfl ?_
    have hlt := at_lt hp1
    refine aw_nc (H0 := H1) (a := H1.size) (es := []) (L := ly_G) (x := H1.size) (k1 := 76) (n1 := 8905) (es' := lc_ E H1.size ly_G) (nwl_.rf rfl) nwX7_27 rfl (fun H1 h1 => nX2_init hO h1 (Nat.le_trans hf (by omega))) ckX2_init rfl ilX7_29 nkX2_init (by decide) rfl rfl (Nat.le_of_ble_eq_true rfl) rfl rfl (by decide) (by decide) rfl (by decide +kernel) (by decide +kernel) (by decide +kernel) (fun H2 h2 => ?_)
    have z2 : sm_ H1 H2 0 0 := ⟨by rw [h2.1]; omega, fun q hq _ => h2.2.1 q hq⟩
    have hp2 := at_same hp1 (h2.2.1 _ hlt)
    have hg2 := h2.has
    have hob : at_ E H2 H1.size (.inr (2, fsX2 H1.size (fun _ => 0))) := h2.2.2 0 _ rfl
    refine aw_ast (i := nI k) (b := a + 119) (y := H1.size) hp2 rfl hob rfl (Nat.le_trans hf (Nat.le_add_right _ _)) (ib_n hk (by omega)) (by decide +kernel) (fun H3 q1 q2 => ?_)
    rw [ix_n (by omega)] at q1
    have h3 := (h1.kept0 z2).kept (sm_.of1 q2) (n := 119) rfl (Or.inl (Nat.le_refl _))
    have hg3 := hg2.kept (sm_.of1 q2) (n := 75) rfl (Or.inr (by omega))
    have ek : up_ f k (some H1.size) k = some H1.size := if_pos rfl
    refine save_2 hf hk h3 q1 ek hg3 (by omega) hG (by decide) (by decide) (fun Hn q3 ⟨g', q4, q5⟩ q6 => ?_)
    rw [← hQ]
    refine ⟨rfl, H1.size, g', Or.inr ⟨hfk, z.1⟩, q4, q5, q3, Nat.le_trans z.1 (Nat.le_trans z2.1 (by rw [← q2.1]; exact q6.1)), fun q hq hne ho => ?_⟩
    have l1 : q < H1.size := Nat.lt_of_lt_of_le hq z.1
    rw [q6.2 q (by rw [q2.1]; exact Nat.lt_of_lt_of_le l1 z2.1) ho, q2.2 q hne, h2.2.1 q l1]
    exact z.2 q hq (Or.inr (Nat.zero_le _))
theorem kX7_restS {b : Nat} {g : st_} (hf : ev_fr E a) (hk : k < 2) (h0 : has_ E H a ly_M s) (hp : at_ E H (a + 119) (sna_ E f)) (hb : f k = some b) (hd : a + 120 ≤ b) (hg : has_ E H b ly_G g) (hG : GK g w) : ∃ g', GK g' w ∧ sp_ E mS7_rest [.ref a, .int (nI k)] H (po1 (.inl (some (.int (g' 1 9)))) (fun Hn => sm_ H Hn (a + 8) 75 ∧ has_ E Hn a ly_M (mg_ s 8 75 g'))) := by
  obtain ⟨g', eg, hg'⟩ := gameCopy_w (s := sb_ s 8) hG
  refine ⟨g', hg', ?_⟩
  refine sp_of (by decide +kernel) rfl rfl ?_
  generalize hQ : po1 _ _ = Q
  refine aw_lv (lv' := [(0, .ref a), (1, .int (nI k))]) [0, 1] rfl ?_
  refine aw_b (pc' := 3) (lv' := [(0, .ref a), (1, .int (nI k))]) (st' := [.int 1, .int 0, .int (nI k)]) [(0, .iload_n 1, 1, .null), (1, .iconst 0, 1, .int 0), (2, .iconst 1, 1, .int 1)] (by decide +kernel) rfl ?_
  refine aw_cts (rest := []) (kX7_requireWithin (within_t (wi_k hk))) rfl ckX7_requireWithin lkX7_196 nkX7_requireWithin rfl (by decide) rfl rfl rfl (Nat.le_of_ble_eq_true rfl) (by decide) (by decide) (by decide +kernel) (fun x H1 hv z => ?_) (fun x H1 hv z => by cases hv)
  have h0 := h0.kept0 z
  have hg := hg.kept0 z
  have hp := at_same hp (z.2 _ (at_lt hp) (Or.inr (Nat.zero_le _)))
  show aw E mS7_rest Q 6 [(0, .ref a), (1, .int (nI k))] [] H1 1 6
  refine aw_b (pc' := 7) (lv' := [(0, .ref a), (1, .int (nI k))]) (st' := [.ref a]) [(6, .aload_n 0, 1, .null)] (by decide +kernel) rfl ?_
  refine aw_gl (v := .ref (a + 119)) a 0 h0 eo_M_0 fgX7_48 rfl (by decide +kernel) ?_
  refine aw_b (pc' := 11) (lv' := [(0, .ref a), (1, .int (nI k))]) (st' := [.int (nI k), .ref (a + 119)]) [(10, .iload_n 1, 1, .null)] (by decide +kernel) rfl ?_
  refine aw_aaldG (f := f) hp (ib_in (ib_n hk (by omega))) (by decide +kernel) ?_
  rw [show (nI k).toNatClampNeg = k from ix_n (by omega), hb]
  refine aw_ifnonnull (off := 5) 17 (by decide) (by decide +kernel) ?_
  refine aw_b (pc' := 18) (lv' := [(0, .ref a), (1, .int (nI k))]) (st' := [.ref a]) [(17, .aload_n 0, 1, .null)] (by decide +kernel) rfl ?_
  refine aw_gl (v := .ref (a + 8)) a 0 h0 eo_M_0 fgX7_30 rfl (by decide +kernel) ?_
  refine aw_b (pc' := 22) (lv' := [(0, .ref a), (1, .int (nI k))]) (st' := [.ref a, .ref (a + 8)]) [(21, .aload_n 0, 1, .null)] (by decide +kernel) rfl ?_
  refine aw_gl (v := .ref (a + 119)) a 0 h0 eo_M_0 fgX7_48 rfl (by decide +kernel) ?_
  refine aw_b (pc' := 26) (lv' := [(0, .ref a), (1, .int (nI k))]) (st' := [.int (nI k), .ref (a + 119), .ref (a + 8)]) [(25, .iload_n 1, 1, .null)] (by decide +kernel) rfl ?_
  refine aw_aaldG (f := f) hp (ib_in (ib_n hk (by omega))) (by decide +kernel) ?_
  rw [show (nI k).toNatClampNeg = k from ix_n (by omega), hb]
  show aw E mS7_rest Q 27 [(0, .ref a), (1, .int (nI k))] [.ref b, .ref (a + 8)] H1 1 6
  refine aw_cv (rest := []) (st1 := []) a 8 (kX2_copyFrom eg (h0.sub su_M_8_G) hg (Nat.le_trans hf (by omega)) (by omega)) rfl rfl ckX2_copyFrom lqX7_378 h0 eo_M_8 ⟨_, _, rfl⟩ nkX2_copyFrom rfl rfl rfl (Nat.le_of_ble_eq_true rfl) (by decide) (by decide) (by decide +kernel) (fun Hn z2 => ?_)
  obtain ⟨z2, hn⟩ := z2
  have h0 := h0.mg su_M_8_G hn z2 rfl rfl
  refine aw_b (pc' := 31) (lv' := [(0, .ref a), (1, .int (nI k))]) (st' := [.ref a]) [(30, .aload_n 0, 1, .null)] (by decide +kernel) rfl ?_
  refine aw_gl (v := .ref (a + 8)) a 0 h0 eo_M_0 fgX7_30 rfl (by decide +kernel) ?_
  refine aw_gl (v := .ref (a + 9)) a 8 h0 eo_M_8 fgX7_80 rfl (by decide +kernel) ?_
  refine aw_gl (v := .int (g' 1 9)) a 9 h0 eo_M_9 fgX7_269 rfl (by decide +kernel) ?_
  refine aw_iret rfl (by decide) (by decide) (by decide +kernel) ?_
  rw [← hQ]
  exact ⟨rfl, (z.lo).step z2 (Nat.le_refl _) (Nat.le_refl _), h0⟩
theorem kX7_restN (hf : ev_fr E a) (hk : k < 2) (h0 : has_ E H a ly_M s) (hp : at_ E H (a + 119) (sna_ E f)) (hb : f k = none) : sp_ E mS7_rest [.ref a, .int (nI k)] H (po1 (.inl (some (.int (-1)))) (fun Hn => sm_ H Hn 0 0)) := by
  refine sp_of (by decide +kernel) rfl rfl ?_
  generalize hQ : po1 _ _ = Q
  refine aw_lv (lv' := [(0, .ref a), (1, .int (nI k))]) [0, 1] rfl ?_
  refine aw_b (pc' := 3) (lv' := [(0, .ref a), (1, .int (nI k))]) (st' := [.int 1, .int 0, .int (nI k)]) [(0, .iload_n 1, 1, .null), (1, .iconst 0, 1, .int 0), (2, .iconst 1, 1, .int 1)] (by decide +kernel) rfl ?_
  refine aw_cts (rest := []) (kX7_requireWithin (within_t (wi_k hk))) rfl ckX7_requireWithin lkX7_196 nkX7_requireWithin rfl (by decide) rfl rfl rfl (Nat.le_of_ble_eq_true rfl) (by decide) (by decide) (by decide +kernel) (fun x H1 hv z => ?_) (fun x H1 hv z => by cases hv)
  have h0 := h0.kept0 z
  have hp := at_same hp (z.2 _ (at_lt hp) (Or.inr (Nat.zero_le _)))
  show aw E mS7_rest Q 6 [(0, .ref a), (1, .int (nI k))] [] H1 1 6
  refine aw_b (pc' := 7) (lv' := [(0, .ref a), (1, .int (nI k))]) (st' := [.ref a]) [(6, .aload_n 0, 1, .null)] (by decide +kernel) rfl ?_
  refine aw_gl (v := .ref (a + 119)) a 0 h0 eo_M_0 fgX7_48 rfl (by decide +kernel) ?_
  refine aw_b (pc' := 11) (lv' := [(0, .ref a), (1, .int (nI k))]) (st' := [.int (nI k), .ref (a + 119)]) [(10, .iload_n 1, 1, .null)] (by decide +kernel) rfl ?_
  refine aw_aaldG (f := f) hp (ib_in (ib_n hk (by omega))) (by decide +kernel) ?_
  rw [show (nI k).toNatClampNeg = k from ix_n (by omega), hb]
  refine aw_ifnonnullN (off := 5) (by decide +kernel) ?_
  refine aw_b (pc' := 16) (lv' := [(0, .ref a), (1, .int (nI k))]) (st' := [.int (-1)]) [(15, .iconst (-1), 1, .int (-1))] (by decide +kernel) rfl ?_
  refine aw_iret rfl (by decide) (by decide) (by decide +kernel) ?_
  rw [← hQ]
  exact ⟨rfl, z⟩
end SNAP
