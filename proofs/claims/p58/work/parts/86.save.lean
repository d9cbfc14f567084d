/-! snapshots of the class at the place 0: printed by wip/p58/gen_84.py -/
def mS7_save : mt_ := (yX7_saveSnapshot, cX7_saveSnapshot, 2, some .int, [], { frames := 5, locals := 130, cells := 75, slots := 8899 })
theorem ckS7_save : cokV_ mS7_save := ⟨⟨(uw_mem 1459 (by decide +kernel) (by decide +kernel)), (uw_mem 29 (by decide +kernel) (by decide +kernel)), by decide +kernel, by decide +kernel⟩, (uw_mem 1457 (by decide +kernel) (by decide +kernel)), (uw_mem 1458 (by decide +kernel) (by decide +kernel))⟩
theorem nkS7_save : nok_ mS7_save 1 := by decide +kernel
def mS7_rest : mt_ := (yX7_restoreSnapshot, cX7_restoreSnapshot, 2, some .int, [], { frames := 5, locals := 130, cells := 0, slots := 0 })
theorem ckS7_rest : cokV_ mS7_rest := ⟨⟨(uw_mem 1473 (by decide +kernel) (by decide +kernel)), (uw_mem 29 (by decide +kernel) (by decide +kernel)), by decide +kernel, by decide +kernel⟩, (uw_mem 1471 (by decide +kernel) (by decide +kernel)), (uw_mem 1472 (by decide +kernel) (by decide +kernel))⟩
theorem nkS7_rest : nok_ mS7_rest 1 := by decide +kernel
theorem lqX7_378 : Cond.methodLink RX7 378 yX2_copyFrom ∈ uw_ := (uw_mem 1460 (by decide +kernel) (by decide +kernel))
theorem eo_G_0q : eo_ ly_G 0 2 fsX2 := rfl
theorem rw_00 : gX7_requireWithin 0 0 1 = some () := by decide
/-- after the first save: where the copy lies, and what is as before -/
def spo_ (E : ev_) (H Hn : Heap) (a : Nat) (g : st_) : Prop := ∃ b : Nat, H.size ≤ b ∧ has_ E Hn b ly_G g ∧ at_ E Hn (a + 119) (sna_ E (up_ (fun _ => none) 0 (some b))) ∧ H.size ≤ Hn.size ∧ ∀ q : Nat, q < H.size → q ≠ a + 119 → Hn[q]? = H[q]?
section SNAP
variable {E : ev_} {H : Heap} {a : Nat} {s g' : st_} {f : Nat → Option Nat}
theorem kS7_save (hm : fX2_copyFrom zs_ (sb_ s 8) = some g') (hO : exo_ E) (hf : ev_fr E a) (h0 : has_ E H a ly_M s) (hp : at_ E H (a + 119) (sna_ E (fun _ => none))) : sp_ E mS7_save [.ref a, .int 0] H (po1 (.inl (some (.int (s 9 9)))) (fun Hn => spo_ E H Hn a g')) := by
  refine sp_of (by decide +kernel) rfl rfl ?_
  generalize hQ : po1 _ _ = Q
  refine aw_lv (lv' := [(0, .ref a), (1, .int 0)]) [0, 1] rfl ?_
  refine aw_b (pc' := 3) (lv' := [(0, .ref a), (1, .int 0)]) (st' := [.int 1, .int 0, .int 0]) [(0, .iload_n 1, 1, .null), (1, .iconst 0, 1, .int 0), (2, .iconst 1, 1, .int 1)] (by decide +kernel) rfl ?_
  refine aw_cs (rest := []) (st1 := []) (kX7_requireWithin rw_00) rfl rfl ckX7_requireWithin lkX7_196 nkX7_requireWithin rfl rfl rfl (Nat.le_of_ble_eq_true rfl) (Nat.zero_le _) (Nat.zero_le _) (by decide +kernel) (fun H1 z => ?_)
  have h1 := h0.kept0 z
  have hp1 := at_same hp (z.2 _ (at_lt hp) (Or.inr (Nat.zero_le _)))
  refine aw_b (pc' := 7) (lv' := [(0, .ref a), (1, .int 0)]) (st' := [.ref a]) [(6, .aload_n 0, 1, .null)] (by decide +kernel) rfl ?_
  refine aw_gl (v := .ref (a + 119)) a 0 h1 eo_M_0 fgX7_48 rfl (by decide +kernel) ?_
  refine aw_b (pc' := 11) (lv' := [(0, .ref a), (1, .int 0)]) (st' := [.int 0, .ref (a + 119)]) [(10, .iload_n 1, 1, .null)] (by decide +kernel) rfl ?_
  refine aw_aaldG (f := fun _ => none) hp1 (ib_in (by decide)) (by decide +kernel) ?_
  refine aw_ifnonnullN (off := 16) (by decide +kernel) ?_
  refine aw_b (pc' := 16) (lv' := [(0, .ref a), (1, .int 0)]) (st' := [.ref a]) [(15, .aload_n 0, 1, .null)] (by decide +kernel) rfl ?_
  refine aw_gl (v := .ref (a + 119)) a 0 h1 eo_M_0 fgX7_48 rfl (by decide +kernel) ?_
  refine aw_b (pc' := 20) (lv' := [(0, .ref a), (1, .int 0)]) (st' := [.int 0, .ref (a + 119)]) [(19, .iload_n 1, 1, .null)] (by decide +kernel) rfl ?_
  have hlt := at_lt hp1
  refine aw_nc (H0 := H1) (a := H1.size) (es := []) (L := ly_G) (x := H1.size) (k1 := 75) (n1 := 8899) (es' := lc_ E H1.size ly_G) (nwl_.rf rfl) nwX7_27 rfl (fun H1 h1 => nX2_init hO h1 (Nat.le_trans hf (by omega))) ckX2_init rfl ilX7_29 nkX2_init (by decide) rfl rfl (Nat.le_of_ble_eq_true rfl) rfl rfl (by decide) (by decide) rfl (by decide +kernel) (by decide +kernel) (by decide +kernel) (fun H2 h2 => ?_)
  have z2 : sm_ H1 H2 0 0 := ⟨by rw [h2.1]; omega, fun q hq _ => h2.2.1 q hq⟩
  have hp2 := at_same hp1 (h2.2.1 _ hlt)
  have hg2 := h2.has
  have hob : at_ E H2 H1.size (.inr (2, fsX2 H1.size (fun _ => 0))) := h2.2.2 0 _ rfl
  refine aw_ast (i := 0) (b := a + 119) (y := H1.size) hp2 rfl hob rfl (Nat.le_trans hf (Nat.le_add_right _ _)) (by decide) (by decide +kernel) (fun H3 q1 q2 => ?_)
  have q1 : at_ E H3 (a + 119) (sna_ E (up_ (fun _ => none) 0 (some H1.size))) := q1
  have h3 := (h1.kept0 z2).kept (sm_.of1 q2) (n := 119) rfl (Or.inl (Nat.le_refl _))
  have hg3 := hg2.kept (sm_.of1 q2) (n := 75) rfl (Or.inr (by omega))
  refine aw_b (pc' := 29) (lv' := [(0, .ref a), (1, .int 0)]) (st' := [.ref a]) [(28, .aload_n 0, 1, .null)] (by decide +kernel) rfl ?_
  refine aw_gl (v := .ref (a + 119)) a 0 h3 eo_M_0 fgX7_48 rfl (by decide +kernel) ?_
  refine aw_b (pc' := 33) (lv' := [(0, .ref a), (1, .int 0)]) (st' := [.int 0, .ref (a + 119)]) [(32, .iload_n 1, 1, .null)] (by decide +kernel) rfl ?_
  refine aw_aaldG (f := up_ (fun _ => none) 0 (some H1.size)) q1 (ib_in (by decide)) (by decide +kernel) ?_
  show aw E mS7_save Q 34 [(0, .ref a), (1, .int 0)] [.ref H1.size] H3 75 8899
  refine aw_b (pc' := 35) (lv' := [(0, .ref a), (1, .int 0)]) (st' := [.ref a, .ref H1.size]) [(34, .aload_n 0, 1, .null)] (by decide +kernel) rfl ?_
  refine aw_gl (v := .ref (a + 8)) a 0 h3 eo_M_0 fgX7_30 rfl (by decide +kernel) ?_
  refine aw_cv (rest := []) (st1 := []) H1.size 0 (kX2_copyFrom hm hg3 (h3.sub su_M_8_G) (Nat.le_trans hf (by omega)) (by omega)) rfl rfl ckX2_copyFrom lqX7_378 hg3 eo_G_0q ⟨_, _, rfl⟩ nkX2_copyFrom rfl rfl rfl (Nat.le_of_ble_eq_true rfl) (by decide) (by decide) (by decide +kernel) (fun Hn z3 => ?_)
  obtain ⟨z3, hn⟩ := z3
  have h4 := h3.kept z3 (n := 119) rfl (by omega)
  have hp4 := at_same q1 (z3.2 _ (at_lt q1) (by omega))
  refine aw_b (pc' := 42) (lv' := [(0, .ref a), (1, .int 0)]) (st' := [.ref a]) [(41, .aload_n 0, 1, .null)] (by decide +kernel) rfl ?_
  refine aw_gl (v := .ref (a + 8)) a 0 h4 eo_M_0 fgX7_30 rfl (by decide +kernel) ?_
  refine aw_gl (v := .ref (a + 9)) a 8 h4 eo_M_8 fgX7_80 rfl (by decide +kernel) ?_
  refine aw_gl (v := .int (s 9 9)) a 9 h4 eo_M_9 fgX7_269 rfl (by decide +kernel) ?_
  refine aw_iret rfl (by decide) (by decide) (by decide +kernel) ?_
  rw [← hQ]
  refine ⟨rfl, H1.size, z.1, hn, hp4, Nat.le_trans z.1 (Nat.le_trans z2.1 (by rw [← q2.1]; exact z3.1)), fun q hq hne => ?_⟩
  have l1 : q < H1.size := Nat.lt_of_lt_of_le hq z.1
  rw [z3.2 q (by rw [q2.1]; exact Nat.lt_of_lt_of_le l1 z2.1) (Or.inl l1), q2.2 q hne, h2.2.1 q l1]
  exact z.2 q hq (Or.inr (Nat.zero_le _))
theorem kS7_rest {b : Nat} {g : st_} (hm : fX2_copyFrom (sb_ s 8) g = some g') (hf : ev_fr E a) (h0 : has_ E H a ly_M s) (hp : at_ E H (a + 119) (sna_ E f)) (hb : f 0 = some b) (hd : a + 120 ≤ b) (hg : has_ E H b ly_G g) : sp_ E mS7_rest [.ref a, .int 0] H (po1 (.inl (some (.int (g' 1 9)))) (fun Hn => sm_ H Hn (a + 8) 75 ∧ has_ E Hn a ly_M (mg_ s 8 75 g'))) := by
  refine sp_of (by decide +kernel) rfl rfl ?_
  generalize hQ : po1 _ _ = Q
  refine aw_lv (lv' := [(0, .ref a), (1, .int 0)]) [0, 1] rfl ?_
  refine aw_b (pc' := 3) (lv' := [(0, .ref a), (1, .int 0)]) (st' := [.int 1, .int 0, .int 0]) [(0, .iload_n 1, 1, .null), (1, .iconst 0, 1, .int 0), (2, .iconst 1, 1, .int 1)] (by decide +kernel) rfl ?_
  refine aw_cs (rest := []) (st1 := []) (kX7_requireWithin rw_00) rfl rfl ckX7_requireWithin lkX7_196 nkX7_requireWithin rfl rfl rfl (Nat.le_of_ble_eq_true rfl) (Nat.zero_le _) (Nat.zero_le _) (by decide +kernel) (fun H1 z => ?_)
  have h0 := h0.kept0 z
  have hg := hg.kept0 z
  have hp := at_same hp (z.2 _ (at_lt hp) (Or.inr (Nat.zero_le _)))
  refine aw_b (pc' := 7) (lv' := [(0, .ref a), (1, .int 0)]) (st' := [.ref a]) [(6, .aload_n 0, 1, .null)] (by decide +kernel) rfl ?_
  refine aw_gl (v := .ref (a + 119)) a 0 h0 eo_M_0 fgX7_48 rfl (by decide +kernel) ?_
  refine aw_b (pc' := 11) (lv' := [(0, .ref a), (1, .int 0)]) (st' := [.int 0, .ref (a + 119)]) [(10, .iload_n 1, 1, .null)] (by decide +kernel) rfl ?_
  refine aw_aaldG (f := f) hp (ib_in (by decide)) (by decide +kernel) ?_
  rw [show (0 : Int32).toNatClampNeg = 0 from by decide, hb]
  refine aw_ifnonnull (off := 5) 17 (by decide) (by decide +kernel) ?_
  refine aw_b (pc' := 18) (lv' := [(0, .ref a), (1, .int 0)]) (st' := [.ref a]) [(17, .aload_n 0, 1, .null)] (by decide +kernel) rfl ?_
  refine aw_gl (v := .ref (a + 8)) a 0 h0 eo_M_0 fgX7_30 rfl (by decide +kernel) ?_
  refine aw_b (pc' := 22) (lv' := [(0, .ref a), (1, .int 0)]) (st' := [.ref a, .ref (a + 8)]) [(21, .aload_n 0, 1, .null)] (by decide +kernel) rfl ?_
  refine aw_gl (v := .ref (a + 119)) a 0 h0 eo_M_0 fgX7_48 rfl (by decide +kernel) ?_
  refine aw_b (pc' := 26) (lv' := [(0, .ref a), (1, .int 0)]) (st' := [.int 0, .ref (a + 119), .ref (a + 8)]) [(25, .iload_n 1, 1, .null)] (by decide +kernel) rfl ?_
  refine aw_aaldG (f := f) hp (ib_in (by decide)) (by decide +kernel) ?_
  rw [show (0 : Int32).toNatClampNeg = 0 from by decide, hb]
  show aw E mS7_rest Q 27 [(0, .ref a), (1, .int 0)] [.ref b, .ref (a + 8)] H1 0 0
  refine aw_cv (rest := []) (st1 := []) a 8 (kX2_copyFrom hm (h0.sub su_M_8_G) hg (Nat.le_trans hf (by omega)) (by omega)) rfl rfl ckX2_copyFrom lqX7_378 h0 eo_M_8 ⟨_, _, rfl⟩ nkX2_copyFrom rfl rfl rfl (Nat.le_of_ble_eq_true rfl) (Nat.zero_le _) (Nat.zero_le _) (by decide +kernel) (fun Hn z2 => ?_)
  obtain ⟨z2, hn⟩ := z2
  have h0 := h0.mg su_M_8_G hn z2 rfl rfl
  refine aw_b (pc' := 31) (lv' := [(0, .ref a), (1, .int 0)]) (st' := [.ref a]) [(30, .aload_n 0, 1, .null)] (by decide +kernel) rfl ?_
  refine aw_gl (v := .ref (a + 8)) a 0 h0 eo_M_0 fgX7_30 rfl (by decide +kernel) ?_
  refine aw_gl (v := .ref (a + 9)) a 8 h0 eo_M_8 fgX7_80 rfl (by decide +kernel) ?_
  refine aw_gl (v := .int (g' 1 9)) a 9 h0 eo_M_9 fgX7_269 rfl (by decide +kernel) ?_
  refine aw_iret rfl (Nat.zero_le _) (Nat.zero_le _) (by decide +kernel) ?_
  rw [← hQ]
  exact ⟨rfl, ⟨Nat.le_trans z.1 z2.1, fun q hq ho => (z2.2 q (Nat.lt_of_lt_of_le hq z.1) ho).trans (z.2 q hq (Or.inr (Nat.zero_le _)))⟩, h0⟩
end SNAP
