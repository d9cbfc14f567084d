/-! the law's text: cell, kind, text -/
/-- the script: its cells -/
def scr_ (E : ev_) (b n : Nat) (f : Nat → Int32) : Prop := va_T .int b n (fun j => .int (f j)) (ev_fr E) (ev_s E) (ev_s E).heap ∧ n ≤ 260
def cab_ (x : Int32) : Int32 := if 0 ≤ x - x / 100000 * 100000 then x - x / 100000 * 100000 else 0 - (x - x / 100000 * 100000)
/-- what the law reads in the script -/
def cl_ (n : Nat) (f : Nat → Int32) (i : Nat) : Nat := if n = 0 then 0 else ix_ (cab_ (f (i % n)))
theorem cab_ok (x : Int32) : ix_ (cab_ x) < 100000 ∧ cab_ x = nI (ix_ (cab_ x)) := by
  have hb1 := Int32.le_toInt x
  have hb2 := Int32.toInt_lt x
  have e1 : (100000 : Int32).toInt = 100000 := by decide
  have hq : x.toInt.tdiv 100000 * 100000 + x.toInt.tmod 100000 = x.toInt := by have := Int.mul_tdiv_add_tmod x.toInt 100000; omega
  have h1 : x.toInt.tmod 100000 < 100000 := Int.tmod_lt_of_pos _ (by decide)
  have h2 : -100000 < x.toInt.tmod 100000 := Int.lt_tmod_of_pos _ (by decide)
  have hs1 : 0 ≤ x.toInt → 0 ≤ x.toInt.tmod 100000 := fun h => Int.tmod_nonneg _ h
  have hs2 : x.toInt < 0 → x.toInt.tmod 100000 ≤ 0 := fun h => by
    have := Int.tmod_nonneg (a := -x.toInt) 100000 (by omega)
    rw [Int.neg_tmod] at this
    omega
  have ed : (x / 100000).toInt = x.toInt.tdiv 100000 := by
    rw [Int32.toInt_div, e1]
    exact Int.bmod_eq_of_le (by omega) (by omega)
  have em : (x / 100000 * 100000).toInt = x.toInt.tdiv 100000 * 100000 := by
    rw [Int32.toInt_mul, ed, e1]
    exact Int.bmod_eq_of_le (by omega) (by omega)
  have er : (x - x / 100000 * 100000).toInt = x.toInt.tmod 100000 := by
    rw [Int32.toInt_sub, em]
    rw [Int.bmod_eq_of_le (by omega) (by omega)]
    omega
  have z0 : (0 : Int32).toInt = 0 := by decide
  have hab : 0 ≤ (cab_ x).toInt ∧ (cab_ x).toInt < 100000 := by
    unfold cab_
    split
    · rename_i h
      have := Int32.le_iff_toInt_le.mp h
      rw [er] at this ⊢
      rw [z0] at this
      exact ⟨this, h1⟩
    · rename_i h
      have h3 : ¬ (0 : Int32).toInt ≤ (x - x / 100000 * 100000).toInt := fun q => h (Int32.le_iff_toInt_le.mpr q)
      rw [er, z0] at h3
      rw [Int32.toInt_sub, er, z0, Int.bmod_eq_of_le (by omega) (by omega)]
      omega
  have hx : ix_ (cab_ x) = (cab_ x).toInt.toNat := rfl
  refine ⟨by omega, Int32.toInt_inj.mp ?_⟩
  rw [hx, nI_toInt (by omega)]
  omega
theorem cl_lt (n : Nat) (f : Nat → Int32) (i : Nat) : cl_ n f i < 100000 := by
  unfold cl_
  split
  · decide
  · exact (cab_ok _).1
def mL_cell : mt_ := (yL_cell, cL_cell, 2, some .int, [], { frames := 1, locals := 20, cells := 0, slots := 0 })
theorem ck_mL_cell : cokS_ mL_cell := ⟨⟨(uw_mem 562 (by decide +kernel) (by decide +kernel)), (uw_mem 28 (by decide +kernel) (by decide +kernel)), by decide +kernel, by decide +kernel⟩, (uw_mem 561 (by decide +kernel) (by decide +kernel))⟩
theorem nk_mL_cell : nok_ mL_cell 2 := by decide +kernel
section LC
variable {E : ev_} {M : mt_} {Q : po_} {pc : Nat} {lv : List (Nat × Value)} {rest : List Value} {H Hb H1 : Heap} {k n1 a b v n i t x N m r : Nat} {c : Int32} {f g : Nat → Int32} {L S : List Int32} {P : Nat → Prop}
theorem aw_tbi {t N : Nat} {f : Nat → Value} {i : Int32} {v : Value} (hT : va_T .int t N f (ev_fr E) (ev_s E) (ev_s E).heap) (hin : vp_in i N) (hv : f i.toNatClampNeg = v) (hd : decode M.2.1 pc = .ok (.iaload, 1)) (kk : aw E M Q (pc + 1) lv (v :: rest) H k n) : aw E M Q pc lv (.int i :: .ref t :: rest) H k n := by
  intro p e s m args below meth c locs ls C0 P L
  obtain ⟨c1, c2, c3, c4, c5, c6, c7, c8, c9, c10, c11, c12⟩ := id C0
  exact va_ti c1 c2 (va_T.kept (va_T.moved c9.alike hT) (hb_k c10)) (hp_S c10 P) hin hv hd (kk p e s m args below meth c locs ls C0 P L)
theorem kcL_7 : Cond.constant RL 7 (100000 : Int32) ∈ uw_ := (uw_mem 563 (by decide +kernel) (by decide +kernel))
theorem kcL_100 : Cond.constant RL 100 (32768 : Int32) ∈ uw_ := (uw_mem 965 (by decide +kernel) (by decide +kernel))
theorem mtL_8 : ml_ RL 8 Lib.Math.abs.name Lib.Math.abs.code 1 .int := ⟨(uw_mem 564 (by decide +kernel) (by decide +kernel)), (uw_mem 565 (by decide +kernel) (by decide +kernel)), (uw_mem 38 (by decide +kernel) (by decide +kernel)), (uw_mem 566 (by decide +kernel) (by decide +kernel))⟩
theorem kL_cell (hs : scr_ E b n f) (hi : i < 2000000000) : sp_ E mL_cell [.ref b, .int (nI i)] H (po1 (.inl (some (.int (nI (cl_ n f i))))) (fun Hn => sm_ H Hn 0 0)) := by
  refine sp_of (by decide +kernel) rfl rfl ?_
  refine aw_lv (lv' := [(0, .ref b), (1, .int (nI i))]) [0, 1] rfl ?_
  refine aw_b (pc' := 1) (lv' := [(0, .ref b), (1, .int (nI i))]) (st' := [.ref b]) [(0, .aload_n 0, 1, .null)] (by decide +kernel) rfl ?_
  refine aw_tln hs.1 rfl (by decide +kernel) ?_
  rcases Nat.eq_zero_or_pos n with h0 | h0
  · skip
    subst h0
    refine aw_if_ne (off := 7) 9 (by decide) (by decide +kernel) (fun hc => absurd rfl hc) (fun _ => ?_)
    refine aw_b (pc' := 21) (lv' := [(0, .ref b), (1, .int (nI i))]) (st' := [.int (0 : Int32)]) [(5, .iconst 0, 1, .int (0 : Int32)), (6, .goto 15, 3, .null)] (by decide +kernel) rfl ?_
    exact aw_iret rfl (Nat.zero_le _) (Nat.zero_le _) (by decide +kernel) ⟨by unfold cl_; rw [if_pos rfl]; rfl, sm_.rfl'⟩
  · skip
    have hn := hs.2
    refine aw_if_ne (off := 7) 9 (by decide) (by decide +kernel) (fun _ => ?_) (fun hc => absurd ((nI_eq (a := n) (b := 0) (by omega) (by omega)).mp hc) (by omega))
    refine aw_b (pc' := 12) (lv' := [(0, .ref b), (1, .int (nI i))]) (st' := [.ref b, .int (nI i), .ref b]) [(9, .aload_n 0, 1, .null), (10, .iload_n 1, 1, .null), (11, .aload_n 0, 1, .null)] (by decide +kernel) rfl ?_
    refine aw_tln hs.1 rfl (by decide +kernel) ?_
    refine aw_irem (fun hc => absurd ((nI_eq (a := n) (b := 0) (by omega) (by omega)).mp hc) (by omega)) (by decide +kernel) ?_
    rw [show Int32.ofNat n = nI n from rfl, pk_rem (by omega) (by omega) (by omega)]
    have hlt := Nat.mod_lt i h0
    refine aw_tbi hs.1 (ib_in (ib_n hlt (by omega))) (v := .int (f (i % n))) (by rw [show (nI (i % n)).toNatClampNeg = i % n from ix_n (by omega)]) (by decide +kernel) ?_
    refine aw_ldc kcL_7 (by decide +kernel) ?_
    refine aw_irem (by decide) (by decide +kernel) ?_
    refine aw_mab (rest := []) mtL_8 rfl (by decide) (Nat.zero_le _) (Nat.zero_le _) (by decide +kernel) ?_
    exact aw_iret rfl (Nat.zero_le _) (Nat.zero_le _) (by decide +kernel) ⟨by rw [show cl_ n f i = ix_ (cab_ (f (i % n))) from if_neg (by omega), ← (cab_ok _).2]; rfl, sm_.rfl'⟩
/-- a builder at work: what was there before it is as it was -/
def bq_ (E : ev_) (Hb H : Heap) (b v : Nat) (L : List Int32) (N : Nat) : Prop := bu_ E H b v L ∧ L.length ≤ N ∧ Hb.size ≤ b ∧ Hb.size ≤ H.size ∧ ∀ q : Nat, q < Hb.size → H[q]? = Hb[q]?
theorem bq_.same (h : bq_ E Hb H b v L N) (hz : H.size ≤ H1.size) (ho : ∀ q : Nat, q < H.size → H1[q]? = H[q]?) : bq_ E Hb H1 b v L N := ⟨h.1.keep ho, h.2.1, h.2.2.1, Nat.le_trans h.2.2.2.1 hz, fun q hq => (ho q (Nat.lt_of_lt_of_le hq h.2.2.2.1)).trans (h.2.2.2.2 q hq)⟩
theorem bq_.sm (h : bq_ E Hb H b v L N) (hz : sm_ H H1 0 0) : bq_ E Hb H1 b v L N := h.same hz.1 (fun q hq => hz.2 q hq (Nat.lt_or_ge _ 0))
theorem bq_.ef {v' : Nat} (h : bq_ E Hb H b v L N) (h1 : bu_ E H1 b v' (L ++ S)) (he : ef_ H H1 b v v') (hS : S.length ≤ m) : bq_ E Hb H1 b v' (L ++ S) (N + m) := by
  refine ⟨h1, by rw [List.length_append]; have := h.2.1; omega, h.2.2.1, Nat.le_trans h.2.2.2.1 he.1, fun q hq => ?_⟩
  have a1 := h.2.2.1
  have a2 := h.1.2.2.1
  rw [he.2.2 q (Nat.lt_of_lt_of_le hq h.2.2.2.1) (by omega) (by omega)]
  exact h.2.2.2.2 q hq
theorem aw_bqs {idx : Nat} (h : bq_ E Hb H b v L N) (ht : tt_ E H t S P) (hPb : ¬ P b) (hS : S.length ≤ m) (hN : N + m ≤ 600) (hl : Cond.methodLink M.1.cls idx yJ4_append_15ec4 ∈ uw_) (hR : rok_ M mJ4s = true) (htab : M.2.2.2.2.1 = []) (hroom : (rest.map fun v => v.category).sum ≤ 8) (hk : k + 1 ≤ (mt_R M).cells) (hn : n1 + 1200 ≤ (mt_R M).slots) (hd : decode M.2.1 pc = .ok (.invokevirtual idx, 3))
    (kk : ∀ (H1 : Heap) (v' : Nat), bq_ E Hb H1 b v' (L ++ S) (N + m) → aw E M Q (pc + 3) lv (.ref b :: rest) H1 (k + 1) (n1 + 1200)) : aw E M Q pc lv (.ref t :: .ref b :: rest) H k n1 :=
  aw_cvu (rest := rest) (As := [.ref t]) (kJ4s h.1 ht hPb (by have := h.2.1; omega)) rfl rfl ck_mJ4s hl h.1.2.2.2.1 ⟨_, _, rfl⟩ nk_mJ4s rfl hR htab rfl rfl hroom hk hn hd (fun H1 _ ⟨v', h1, he⟩ => kk H1 v' (h.ef h1 he hS))
theorem aw_bqc {idx : Nat} (h : bq_ E Hb H b v L N) (hc : 0 < c ∧ c < 128) (hN : N + 1 ≤ 600) (hl : Cond.methodLink M.1.cls idx yJ4_append_cf468 ∈ uw_) (hR : rok_ M mJ4c = true) (htab : M.2.2.2.2.1 = []) (hroom : (rest.map fun v => v.category).sum ≤ 8) (hk : k + 1 ≤ (mt_R M).cells) (hn : n1 + 1200 ≤ (mt_R M).slots) (hd : decode M.2.1 pc = .ok (.invokevirtual idx, 3))
    (kk : ∀ (H1 : Heap) (v' : Nat), bq_ E Hb H1 b v' (L ++ [c]) (N + 1) → aw E M Q (pc + 3) lv (.ref b :: rest) H1 (k + 1) (n1 + 1200)) : aw E M Q pc lv (.int c :: .ref b :: rest) H k n1 :=
  aw_cvu (rest := rest) (As := [.int c]) (kJ4c h.1 hc (by have := h.2.1; omega)) rfl rfl ck_mJ4c hl h.1.2.2.2.1 ⟨_, _, rfl⟩ nk_mJ4c rfl hR htab rfl rfl hroom hk hn hd (fun H1 _ ⟨v', h1, he⟩ => kk H1 v' (h.ef h1 he (Nat.le_refl _)))
theorem aw_bqi {idx : Nat} (hO : exo_ E) (h : bq_ E Hb H b v L N) (hx : x < 100000) (hN : N + 5 ≤ 600) (hl : Cond.methodLink M.1.cls idx yJ4_append_bf812 ∈ uw_) (hR : rok_ M mJ4i = true) (htab : M.2.2.2.2.1 = []) (hroom : (rest.map fun v => v.category).sum ≤ 8) (hk : k + 1 ≤ (mt_R M).cells) (hn : n1 + 1200 ≤ (mt_R M).slots) (hd : decode M.2.1 pc = .ok (.invokevirtual idx, 3))
    (kk : ∀ (H1 : Heap) (v' : Nat), bq_ E Hb H1 b v' (L ++ dg_ x) (N + 5) → aw E M Q (pc + 3) lv (.ref b :: rest) H1 (k + 1) (n1 + 1200)) : aw E M Q pc lv (.int (nI x) :: .ref b :: rest) H k n1 :=
  aw_cvu (rest := rest) (As := [.int (nI x)]) (kJ4i h.1 hO hx (by have := h.2.1; have := (dg_ok hx).2.2; omega)) rfl rfl ck_mJ4i hl h.1.2.2.2.1 ⟨_, _, rfl⟩ nk_mJ4i rfl hR htab rfl rfl hroom hk hn hd (fun H1 _ ⟨v', h1, he⟩ => kk H1 v' (h.ef h1 he (dg_ok hx).2.2))
/-- toString -/
theorem aw_bqt {idx : Nat} (h : bq_ E Hb H b v L N) (hl : Cond.methodLink M.1.cls idx yJ4_toString_0e30d ∈ uw_) (hR : rok_ M mJ4t = true) (htab : M.2.2.2.2.1 = []) (hroom : (rest.map fun v => v.category).sum ≤ 8) (hk : k + 2 ≤ (mt_R M).cells) (hn : n1 + 1204 ≤ (mt_R M).slots) (hd : decode M.2.1 pc = .ok (.invokevirtual idx, 3))
    (kk : ∀ H1 : Heap, H.size < H1.size → (∀ q : Nat, q < H.size → H1[q]? = H[q]?) → tt_ E H1 H.size L (fun q => H.size ≤ q) → (∃ v, at_ E H1 H.size (.inr (8, [.ref v, .int 0, .int 0, .int 0]))) → aw E M Q (pc + 3) lv (.ref H.size :: rest) H1 (k + 2) (n1 + 1204)) : aw E M Q pc lv (.ref b :: rest) H k n1 :=
  aw_cvu (rest := rest) (As := []) (kJ4t h.1) rfl rfl ck_mJ4t hl h.1.2.2.2.1 ⟨_, _, rfl⟩ nk_mJ4t rfl hR htab rfl rfl hroom hk hn hd (fun H1 _ ⟨u, f, h1, h2, h3, h4, h5, h6⟩ => kk H1 h2 h3 ⟨h.1.1, Or.inr ⟨u, Nat.le_refl _, Nat.le_of_lt h1, h4, f, h5, h6⟩⟩ ⟨u, h4⟩)
/-- a new builder -/
theorem aw_bqn {idx idx2 : Nat} (hf : ev_fr E H.size) (hK : nwk_ M.1.cls idx 9 4 [.null, .int 0, .int 0, .int 0]) (hl : Cond.methodLink M.1.cls idx2 yJ4_init_da8c8 ∈ uw_) (hR : rok_ M mJ4z = true) (hroom : (rest.map fun v => v.category).sum ≤ 7) (hk : k + 2 ≤ (mt_R M).cells) (hn : n1 + 20 ≤ (mt_R M).slots) (hd : decode M.2.1 pc = .ok (.new idx, 3)) (hd2 : pokb M.2.1 [(pc + 3, .dup, 1, .null)] = true) (hd3 : decode M.2.1 (pc + 4) = .ok (.invokespecial idx2, 3))
    (kk : ∀ (H1 : Heap) (v' : Nat), bq_ E H H1 H.size v' [] 0 → aw E M Q (pc + 7) lv (.ref H.size :: rest) H1 (k + 2) (n1 + 20)) : aw E M Q pc lv rest H k n1 := by
  refine aw_nw (H0 := H) (a := H.size) (es := []) (x := H.size) (es' := [.inr (9, [.null, .int 0, .int 0, .int 0])]) (nwl_.rf rfl) hK rfl rfl (by omega) (by omega) hd (fun H1 h1 => ?_)
  have hz : H1.size = H.size + 1 := h1.1
  refine aw_b (pc' := pc + 4) (lv' := lv) (st' := .ref H.size :: .ref H.size :: rest) [(pc + 3, .dup, 1, .null)] hd2 (by unfold pev; rw [show Nat.beq (pc + 3, Instr.dup, 1, Value.null).1 (pc + 3) = true from Nat.beq_refl _]; rfl) ?_
  refine aw_cia (rest := .ref H.size :: rest) (As := []) (kJ4z (h1.2.2 0 _ rfl) hf) rfl ck_mJ4z rfl hl nk_mJ4z rfl hR rfl rfl (by rw [List.map_cons, List.sum_cons]; show 1 + _ ≤ 8; omega) (by show k + 1 + 1 ≤ _; omega) (by show n1 + 4 + 16 ≤ _; omega) hd3 (fun H2 ⟨v', h2, he⟩ => ?_)
  refine kk H2 v' ⟨h2, Nat.le_refl _, Nat.le_refl _, by have := he.1; omega, fun q hq => ?_⟩
  rw [he.2.2 q (by omega) (by omega) (by omega)]
  exact h1.2.1 q hq
theorem aw_bqw {idx idx2 idx3 w : Nat} (hf : ev_fr E H.size) (hw : sxb_ w = true) (hL : (sb_y w).length ≤ N) (hK : nwk_ M.1.cls idx 9 4 [.null, .int 0, .int 0, .int 0]) (hown : M.1.cls = (sx_n w).1) (hidx : (sx_n w).2.1 = idx3) (hl : Cond.methodLink M.1.cls idx2 yJ4_init_a7421 ∈ uw_) (hR : rok_ M mJ4o = true) (hroom : (rest.map fun v => v.category).sum ≤ 7) (hk : k + 3 ≤ (mt_R M).cells) (hn : n1 + 1820 ≤ (mt_R M).slots) (hd : decode M.2.1 pc = .ok (.new idx, 3)) (hd2 : pokb M.2.1 [(pc + 3, .dup, 1, .null)] = true) (hd3 : decode M.2.1 (pc + 4) = .ok (.ldc idx3, 2)) (hd4 : decode M.2.1 (pc + 6) = .ok (.invokespecial idx2, 3))
    (kk : ∀ (H1 : Heap) (v' : Nat), bq_ E H H1 H.size v' (sb_y w) N → aw E M Q (pc + 9) lv (.ref H.size :: rest) H1 (k + 3) (n1 + 1820)) : aw E M Q pc lv rest H k n1 := by
  refine aw_nw (H0 := H) (a := H.size) (es := []) (x := H.size) (es' := [.inr (9, [.null, .int 0, .int 0, .int 0])]) (nwl_.rf rfl) hK rfl rfl (by omega) (by omega) hd (fun H1 h1 => ?_)
  have hz : H1.size = H.size + 1 := h1.1
  refine aw_b (pc' := pc + 4) (lv' := lv) (st' := .ref H.size :: .ref H.size :: rest) [(pc + 3, .dup, 1, .null)] hd2 (by unfold pev; rw [show Nat.beq (pc + 3, Instr.dup, 1, Value.null).1 (pc + 3) = true from Nat.beq_refl _]; rfl) ?_
  refine aw_lds w hw hown hidx hd3 ?_
  refine aw_cia (rest := .ref H.size :: rest) (As := [.ref (sa_ E w)]) (kJ4o (P := fun _ => False) (h1.2.2 0 _ rfl) hf (tt_.c hw) id) rfl ck_mJ4o rfl hl nk_mJ4o rfl hR rfl rfl (by rw [List.map_cons, List.sum_cons]; show 1 + _ ≤ 8; omega) (by show k + 1 + 2 ≤ _; omega) (by show n1 + 4 + 1816 ≤ _; omega) hd4 (fun H2 ⟨v', h2, he⟩ => ?_)
  refine kk H2 v' ⟨h2, hL, Nat.le_refl _, by have := he.1; omega, fun q hq => ?_⟩
  rw [he.2.2 q (by omega) (by omega) (by omega)]
  exact h1.2.1 q hq
/-- a constant text into a row of texts -/
theorem aw_astc {w N : Nat} {f : Nat → Option Nat} {i : Int32} {b : Nat} (hA : at_ E H b (.inl (E.2.1 2, N, .inr (.inr (.inr (.inr f)))))) (hw : sxb_ w = true) (hfr : ev_fr E b) (hin : ib_ i N = true) (hd : decode M.2.1 pc = .ok (.aastore, 1)) (kk : ∀ H1 : Heap, at_ E H1 b (.inl (E.2.1 2, N, .inr (.inr (.inr (.inr (up_ f (ix_ i) (some (sa_ E w)))))))) → sm1 H H1 b → aw E M Q (pc + 1) lv rest H1 k n) : aw E M Q pc lv (.ref (sa_ E w) :: .int i :: .ref b :: rest) H k n := by
  intro p e s m args below meth c locs ls C P L
  have hin' := ib_in hin
  have hlt : i.toNatClampNeg < N := Nat.not_le.mp fun q => hin' (Or.inr q)
  have h0 : ¬ i < 0 := fun q => hin' (Or.inl q)
  obtain ⟨cellV, g1, g3, g2'⟩ := sc_recv (C.2.2.2.2.2.2.2.2.2.2.1.2.2.2.2.2.1 w hw) s locs C.2.2.2.2.2.2.2.2.1 P
  have hcls := ((cx_K C).1 8 _ rfl).2
  have g2 : cellV.cls = E.1.1 8 := Option.some.inj (g2'.symm.trans hcls.1)
  obtain ⟨kA, comp, k1, k2, k3, -⟩ := ((cx_K C).2 2 _ rfl).2
  have hcomp : comp = E.1.1 8 := Option.some.inj (k3.symm.trans hcls.1)
  subst hcomp
  obtain ⟨kC, hkC, -⟩ := hcls.2
  refine W.aast C.1 C.2.1 hA (fun q h => by cases h) (fun h => by cases h) k1 k2 rfl hkC ⟨h0, by show _ < (arrV _ _ _).slots.size; rw [arrV_size]; exact hlt⟩ g1 (fun q h => by rw [h] at g3; cases g3) (by rw [g2]; exact hkC) (by rw [g2]; exact va_assign hcls) rfl rfl hd fun H1 e1 z oq => ?_
  refine kk H1 ?_ ⟨z, oq⟩ p e s m args below meth c _ ls C (P.put ⟨z, oq⟩ hfr) L
  show H1[b]? = some (vp_cell _ _)
  rw [e1]
  rw [vp_cell_q, vp_cell_q, arrV_store]
  congr 2
  funext q
  by_cases hq : q = i.toNatClampNeg
  · subst hq
    simp [updV, up_, va_rf]
  · simp [updV, up_, hq]
/-- a new row of texts -/
theorem aw_nqs {idx : Nat} {N : Nat} (hO : exo_ E) (hl : Cond.classLink M.1.cls idx "java/lang/String" ∈ uw_) (hN : N < 100000) (hk : k + 1 ≤ (mt_R M).cells) (hn : n1 + N ≤ (mt_R M).slots) (hd : decode M.2.1 pc = .ok (.anewarray idx, 3)) (kk : ∀ H1 : Heap, H1.size = H.size + 1 → (∀ q : Nat, q < H.size → H1[q]? = H[q]?) → at_ E H1 H.size (.inl (E.2.1 2, N, .inr (.inr (.inr (.inr (fun _ => none)))))) → aw E M Q (pc + 3) lv (.ref H.size :: rest) H1 (k + 1) (n1 + N)) : aw E M Q pc lv (.int (nI N) :: rest) H k n1 :=
  aw_nq (H0 := H) (a := H.size) (es := []) (t := 2) (N := N) (x := H.size) (es' := [.inl (E.2.1 2, N, .inr (.inr (.inr (.inr (fun _ => none)))))]) (nwl_.rf rfl) hO.2.2.2.1 rfl hl (nI_pos (by omega)) (ix_n (by omega)) (by omega) rfl rfl hk hn hd (fun H1 h => kk H1 h.1 h.2.1 (h.2.2 0 _ rfl))
/-- the kinds' words -/
def kd_ (v r : Nat) : List Int32 := if v % 3 = 0 then sb_y 52 else if v % 3 = 1 then sb_y 53 else sb_y 54 ++ dg_ (v % r)
/-- a text was made -/
def rt_ (E : ev_) (H : Heap) (L : List Int32) : po_ := fun o Hn => ∃ x : Nat, o = .inl (some (.ref x)) ∧ H.size ≤ Hn.size ∧ (∀ q : Nat, q < H.size → Hn[q]? = H[q]?) ∧ tt_ E Hn x L (fun q => H.size ≤ q)
theorem nwL_37 : nwk_ RL 37 9 4 [.null, .int 0, .int 0, .int 0] := ⟨_, _, tyJ4, rfl, tyJ4_ok, wkJ4, (uw_mem 714 (by decide +kernel) (by decide +kernel)), (uw_mem 715 (by decide +kernel) (by decide +kernel)), (uw_mem 40 (by decide +kernel) (by decide +kernel)), by decide +kernel⟩
def mL_kind : mt_ := (yL_kind, cL_kind, 2, some (.object "java/lang/String"), [], { frames := 6, locals := 176, cells := 6, slots := 3624 })
theorem ck_mL_kind : cokS_ mL_kind := ⟨⟨(uw_mem 960 (by decide +kernel) (by decide +kernel)), (uw_mem 28 (by decide +kernel) (by decide +kernel)), by decide +kernel, by decide +kernel⟩, (uw_mem 959 (by decide +kernel) (by decide +kernel))⟩
theorem nk_mL_kind : nok_ mL_kind 2 := by decide +kernel
theorem msL_39 : Cond.methodLink RL 39 yJ4_init_da8c8 ∈ uw_ := (uw_mem 716 (by decide +kernel) (by decide +kernel))
theorem msL_42 : Cond.methodLink RL 42 yJ4_append_15ec4 ∈ uw_ := (uw_mem 745 (by decide +kernel) (by decide +kernel))
theorem msL_45 : Cond.methodLink RL 45 yJ4_append_bf812 ∈ uw_ := (uw_mem 842 (by decide +kernel) (by decide +kernel))
theorem msL_48 : Cond.methodLink RL 48 yJ4_toString_0e30d ∈ uw_ := (uw_mem 867 (by decide +kernel) (by decide +kernel))
theorem kL_kind (hO : exo_ E) (hf : ev_fr E H.size) (hx : x < 100000) (hr : 0 < r) (hr4 : r ≤ 4) : sp_ E mL_kind [.int (nI x), .int (nI r)] H (rt_ E H (kd_ x r)) := by
  refine sp_of (by decide +kernel) rfl rfl ?_
  refine aw_lv (lv' := [(0, .int (nI x)), (1, .int (nI r))]) [0, 1] rfl ?_
  refine aw_b (pc' := 2) (lv' := [(0, .int (nI x)), (1, .int (nI r))]) (st' := [.int (3 : Int32), .int (nI x)]) [(0, .iload_n 0, 1, .null), (1, .iconst 3, 1, .int (3 : Int32))] (by decide +kernel) rfl ?_
  rw [show (3 : Int32) = nI 3 from rfl]
  refine aw_irem (fun hc => absurd ((nI_eq (a := 3) (b := 0) (by omega) (by omega)).mp hc) (by omega)) (by decide +kernel) ?_
  rw [pk_rem (by omega) (by omega) (by omega)]
  refine aw_if_ne (off := 8) 11 (by decide) (by decide +kernel) (fun hc => ?_) (fun hc => ?_)
  · skip
    have h3 : ¬ x % 3 = 0 := fun q => hc (by rw [q]; rfl)
    refine aw_b (pc' := 13) (lv' := [(0, .int (nI x)), (1, .int (nI r))]) (st' := [.int (3 : Int32), .int (nI x)]) [(11, .iload_n 0, 1, .null), (12, .iconst 3, 1, .int (3 : Int32))] (by decide +kernel) rfl ?_
    rw [show (3 : Int32) = nI 3 from rfl]
    refine aw_irem (fun hc => absurd ((nI_eq (a := 3) (b := 0) (by omega) (by omega)).mp hc) (by omega)) (by decide +kernel) ?_
    rw [pk_rem (by omega) (by omega) (by omega)]
    refine aw_b (pc' := 15) (lv' := [(0, .int (nI x)), (1, .int (nI r))]) (st' := [.int (1 : Int32), .int (nI (x % 3))]) [(14, .iconst 1, 1, .int (1 : Int32))] (by decide +kernel) rfl ?_
    rw [show (1 : Int32) = nI 1 from rfl]
    refine aw_ic_ne (off := 8) 23 (by decide) (by decide +kernel) (fun hd => ?_) (fun hd => ?_)
    · skip
      have h4 : ¬ x % 3 = 1 := fun q => hd (by rw [q])
      refine aw_bqn hf nwL_37 msL_39 rfl (by decide) (by decide) (by decide) (by decide +kernel) (by decide +kernel) (by decide +kernel) (fun H1 v1 h1 => ?_)
      refine aw_lds 54 (by decide +kernel) rfl rfl (by decide +kernel) ?_
      refine aw_bqs (rest := []) (P := fun _ => False) (m := 5) h1 (tt_.c (by decide +kernel)) id (by decide) (by decide) msL_42 rfl rfl (by decide) (by decide) (by decide) (by decide +kernel) (fun H2 v2 h2 => ?_)
      refine aw_b (pc' := 37) (lv' := [(0, .int (nI x)), (1, .int (nI r))]) (st' := [.int (nI r), .int (nI x), .ref (H.size)]) [(35, .iload_n 0, 1, .null), (36, .iload_n 1, 1, .null)] (by decide +kernel) rfl ?_
      refine aw_irem (fun hc => absurd ((nI_eq (a := r) (b := 0) (by omega) (by omega)).mp hc) (by omega)) (by decide +kernel) ?_
      rw [pk_rem (by omega) (by omega) (by omega)]
      have hr4 := Nat.mod_lt x hr
      refine aw_bqi (rest := []) hO h2 (x := x % r) (by omega) (by decide) msL_45 rfl rfl (by decide) (by decide) (by decide) (by decide +kernel) (fun H3 v3 h3 => ?_)
      refine aw_bqt (rest := []) h3 msL_48 rfl rfl (by decide) (by decide) (by decide) (by decide +kernel) (fun H4 z4 o4 t4 _ => ?_)
      have hz := h3.2.2.2.1
      exact aw_aret rfl (by decide) (by decide) (by decide +kernel) ⟨_, rfl, by omega, fun q hq => (o4 q (by omega)).trans (h3.2.2.2.2 q hq), by unfold kd_; rw [if_neg (by assumption), if_neg h4]; exact t4.mono (fun q hq => Nat.le_trans hz hq)⟩
    · skip
      have h4 : x % 3 = 1 := (nI_eq (by omega) (by omega)).mp hd
      refine aw_lds 53 (by decide +kernel) rfl rfl (by decide +kernel) ?_
      refine aw_b (pc' := 44) (lv' := [(0, .int (nI x)), (1, .int (nI r))]) (st' := [.ref (sa_ E 53)]) [(20, .goto 24, 3, .null)] (by decide +kernel) rfl ?_
      exact aw_aret rfl (Nat.zero_le _) (Nat.zero_le _) (by decide +kernel) ⟨_, rfl, Nat.le_refl _, fun _ _ => rfl, by unfold kd_; rw [if_neg h3, if_pos h4]; exact tt_.c (by decide +kernel)⟩
  · skip
    have h3 : x % 3 = 0 := (nI_eq (by omega) (by omega)).mp hc
    refine aw_lds 52 (by decide +kernel) rfl rfl (by decide +kernel) ?_
    refine aw_b (pc' := 44) (lv' := [(0, .int (nI x)), (1, .int (nI r))]) (st' := [.ref (sa_ E 52)]) [(8, .goto 36, 3, .null)] (by decide +kernel) rfl ?_
    exact aw_aret rfl (Nat.zero_le _) (Nat.zero_le _) (by decide +kernel) ⟨_, rfl, Nat.le_refl _, fun _ _ => rfl, by unfold kd_; rw [if_pos h3]; exact tt_.c (by decide +kernel)⟩
end LC
