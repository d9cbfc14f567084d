/-! the law from its entry, out of what the mirrors say -/
def mL_law : mt_ := (yL_law, code, 4, some .boolean, [], { frames := 16, locals := 632, cells := 600130, slots := 7301079 })
/-- the law's steps -/
def stf (nn : Nat) (ff : Nat → Int32) (R : Nat) : Nat → Nat → st_ → Option st_
  | 0, _, s => some s
  | d + 1, k, s => bn_ (fL_step s nn ff (nI (26 + 2 * k)) (nI R)) fun s' => stf nn ff R d (k + 1) s'
/-- what the law's mirrors must say -/
def law_pure (nn : Nat) (ff : Nat → Int32) (R : Nat) : Prop := ∃ (s0 s1 s2 s3 t3 : st_) (C : Nat), fM_init = some s0 ∧ fL_load s0 (xt_ nn ff R) = some (s1, nI R) ∧ stf nn ff R 14 0 s1 = some s2 ∧ fL_areCostsRight s2 (nI R) = some 1 ∧ fL_areRoundsRight s2 (fun _ _ => 0) R (nI R) = some (t3, 1) ∧ 0 < C ∧ C ≤ 100 ∧ gX7_setting s2 0 = some (nI C) ∧ fL_foreseesA s2 (nI R) (nI (1 + cl_ nn ff 54 % 12)) (nI (cl_ nn ff 55 % C)) = some (s3, 1) ∧ fL_areCostsRight s3 (nI R) = some 1
section LH
variable {E : ev_} {Q : po_} {H H0 : Heap} {k a b n R n1 k1 : Nat} {f : Nat → Int32} {s s' s2 t3 : st_}
theorem kL_rounds {r : st_ × Int32} (hm : fL_areRoundsRight s (fun _ _ => 0) R (nI R) = some r) (h0 : has_ E H a ly_M s) (h1R : 1 ≤ R) (h4R : R ≤ 4) (hf : ev_fr E H.size) (ha : a + 119 ≤ H.size) : sp_ E mL_areRoundsRight [.ref a, .int (nI R)] H (po1 (.inl (some (.int r.2))) (fun Hn => sm_ H Hn 0 0)) := by
  refine sp_of (by decide +kernel) rfl rfl ?_
  refine aw_lv (lv' := [(0, .ref a), (1, .int (nI R))]) [0, 1] rfl ?_
  refine aw_b (pc' := 8) (lv' := [(4, .int (0 : Int32)), (3, .int (0 : Int32)), (2, .int (0 : Int32)), (0, .ref a), (1, .int (nI R))]) (st' := [.int (nI R)]) [(0, .iconst 0, 1, .int (0 : Int32)), (1, .istore_n 2, 1, .null), (2, .iconst 0, 1, .int (0 : Int32)), (3, .istore_n 3, 1, .null), (4, .iconst 0, 1, .int (0 : Int32)), (5, .istore 4, 2, .null), (7, .iload_n 1, 1, .null)] (by decide +kernel) rfl ?_
  refine aw_na (H0 := H) (a := H.size) (es := []) (atype := .int) (ty := .int) (t := 0) (N := R) (x := H.size) (z := .inl (fun _ => 0)) (es' := [.inl (E.2.1 0, R, .inl (fun _ => 0))]) (nwl_.rf rfl) rfl rfl (fun _ _ h => h) acw_int (fun c => rfl) (nI_pos (by omega)) (ix_n (by omega)) (by show R * 4 ≤ _; omega) rfl rfl (by decide) (by show 0 + R ≤ 6; omega) (by decide +kernel) (fun H1 h1 => ?_)
  refine aw_b (pc' := 12) (lv' := [(5, .ref (H.size)), (4, .int (0 : Int32)), (3, .int (0 : Int32)), (2, .int (0 : Int32)), (0, .ref a), (1, .int (nI R))]) (st' := []) [(10, .astore 5, 2, .null)] (by decide +kernel) rfl ?_
  have z1 : sm_ H H1 0 0 := ⟨by have := h1.1; simp at this; omega, fun q hq _ => h1.2.1 q hq⟩
  have hw : has_ E H1 H.size (ly_IRx_ R) (fun _ _ => 0) := fun o g hg => by
    match o, hg with
    | 0, hg => cases hg; exact h1.2.2 0 _ rfl
    | o + 1, hg => cases hg
  refine aw_widen (k' := 1) (n' := 6) (by decide) (by show 0 + R ≤ 6; omega) ?_
  refine aw_lv (lv' := [(0, .ref a), (1, .int (nI R)), (2, .int (0 : Int32)), (3, .int (0 : Int32)), (4, .int (0 : Int32)), (5, .ref H.size)]) [4, 5, 3, 2, 1, 0] rfl ?_
  refine aw_post (fun o Hn hq => ?_) (kL_areRoundsRight hm (h0.kept0 z1) hw hf (Or.inr ha))
  exact ⟨hq.1, Nat.le_trans z1.1 hq.2.1.1, fun q hq2 _ => (hq.2.1.2 q (Nat.lt_of_lt_of_le hq2 z1.1) (Or.inl hq2)).trans (z1.2 q hq2 (Nat.lt_or_ge _ 0))⟩
theorem msL_270 : Cond.methodLink RL 270 yL_step ∈ uw_ := (uw_mem 971 (by decide +kernel) (by decide +kernel))
theorem law_steps (hs : scr_ E b n f) (hf : ev_fr E a) (hk1 : k1 ≤ 600130) (hn1 : n1 ≤ 7301079) (kk : ∀ H1 : Heap, has_ E H1 a ly_M s2 → sm_ H0 H1 a 119 → aw E mL_law Q 60 [(3, .int (nI 14)), (2, .int (nI R)), (1, .ref a), (0, .ref b)] [] H1 k1 n1) : ∀ (d k : Nat) (H : Heap) (s : st_), k + d = 14 → stf n f R d k s = some s2 → has_ E H a ly_M s → sm_ H0 H a 119 → aw E mL_law Q 36 [(3, .int (nI k)), (2, .int (nI R)), (1, .ref a), (0, .ref b)] [] H k1 n1 := by
  intro d
  induction d with
  | zero =>
    intro k H s hk hm h0 hz
    have hk : k = 14 := hk
    subst hk
    cases hm
    refine aw_b (pc' := 39) (lv' := [(3, .int (nI 14)), (2, .int (nI R)), (1, .ref a), (0, .ref b)]) (st' := [.int (14 : Int32), .int (nI 14)]) [(36, .iload_n 3, 1, .null), (37, .bipush 14, 2, .int (14 : Int32))] (by decide +kernel) rfl ?_
    refine aw_ic_ge (off := 21) 60 (by decide) (by decide +kernel) (fun _ => ?_) (fun hc => absurd (Int32.le_refl _) hc)
    exact kk H h0 hz
  | succ d ih =>
    intro k H s hk hm h0 hz
    refine aw_b (pc' := 39) (lv' := [(3, .int (nI k)), (2, .int (nI R)), (1, .ref a), (0, .ref b)]) (st' := [.int (14 : Int32), .int (nI k)]) [(36, .iload_n 3, 1, .null), (37, .bipush 14, 2, .int (14 : Int32))] (by decide +kernel) rfl ?_
    refine aw_ic_ge (off := 21) 60 (by decide) (by decide +kernel) (fun hc => absurd hc (nI_ge (b := 14) (by omega) (by omega))) (fun _ => ?_)
    obtain ⟨s9, e9, hm⟩ := bn_x hm
    refine aw_b (pc' := 50) (lv' := [(3, .int (nI k)), (2, .int (nI R)), (1, .ref a), (0, .ref b)]) (st' := [.int (nI 26 + nI 2 * nI k), .ref b, .ref a]) [(42, .aload_n 1, 1, .null), (43, .aload_n 0, 1, .null), (44, .bipush 26, 2, .int (26 : Int32)), (46, .iconst 2, 1, .int (2 : Int32)), (47, .iload_n 3, 1, .null), (48, .imul, 1, .null), (49, .iadd, 1, .null)] (by decide +kernel) rfl ?_
    rw [pk_mul, nI_add]
    refine aw_b (pc' := 51) (lv' := [(3, .int (nI k)), (2, .int (nI R)), (1, .ref a), (0, .ref b)]) (st' := [.int (nI R), .int (nI (26 + 2 * k)), .ref b, .ref a]) [(50, .iload_n 2, 1, .null)] (by decide +kernel) rfl ?_
    refine aw_cs (rest := []) (st1 := []) (kL_step e9 h0 hs hf) rfl rfl ckL_step msL_270 nkL_step rfl rfl rfl (Nat.le_of_ble_eq_true rfl) hk1 hn1 (by decide +kernel) (fun H1 z => ?_)
    refine aw_b (pc' := 36) (lv' := [(3, .int ((nI k) + (1 : Int32))), (2, .int (nI R)), (1, .ref a), (0, .ref b)]) (st' := []) [(54, .iinc 3 1, 3, .int (1 : Int32)), (57, .goto (-21), 3, .null)] (by decide +kernel) rfl ?_
    rw [nI_1]
    exact ih (k + 1) H1 s9 (by omega) hm z.2 ⟨Nat.le_trans hz.1 z.1.1, fun q hq ho => (z.1.2 q (Nat.lt_of_lt_of_le hq hz.1) ho).trans (hz.2 q hq ho)⟩
theorem nwL_25 : nwk_ RL 25 7 8 dfX7 := ⟨_, _, tyX7, rfl, tyX7_ok, wkX7, (uw_mem 53 (by decide +kernel) (by decide +kernel)), (uw_mem 54 (by decide +kernel) (by decide +kernel)), (uw_mem 29 (by decide +kernel) (by decide +kernel)), by decide +kernel⟩
theorem ilL_262 : ilk_ RL 262 yX7_init := Or.inl (uw_mem 55 (by decide +kernel) (by decide +kernel))
theorem msL_263 : Cond.methodLink RL 263 yL_text ∈ uw_ := (uw_mem 705 (by decide +kernel) (by decide +kernel))
theorem msL_267 : Cond.methodLink RL 267 yL_load ∈ uw_ := (uw_mem 567 (by decide +kernel) (by decide +kernel))
theorem msL_274 : Cond.methodLink RL 274 yL_areCostsRight ∈ uw_ := (uw_mem 1207 (by decide +kernel) (by decide +kernel))
theorem msL_278 : Cond.methodLink RL 278 yL_areRoundsRight ∈ uw_ := (uw_mem 1300 (by decide +kernel) (by decide +kernel))
theorem msL_281 : Cond.methodLink RL 281 yL_foresees ∈ uw_ := (uw_mem 1354 (by decide +kernel) (by decide +kernel))
set_option maxHeartbeats 4000000 in
theorem law_heap {C : Nat} (hO : exo_ E) (hs : scr_ E b n f) (hH : ev_fr E H.size) (hQ : ∀ H, Q (.inl (some (.int 1))) H) (hR : R = 1 + cl_ n f 25 % 4) (hp : law_pure n f R) : aw E mL_law Q 0 [(0, .ref b)] [] H 0 0 := by
  obtain ⟨s0, s1, s2, s3, t3, C, e0, e1, e2, e3, e4, hC0, hC1, e5, e6, e7⟩ := hp
  refine aw_nw (H0 := H) (a := H.size) (es := []) (x := H.size) (es' := [.inr (7, dfX7)]) (nwl_.rf rfl) nwL_25 rfl rfl (by show _ ≤ 600130; decide) (by show _ ≤ 7301079; decide) (by decide +kernel) (fun H1 h1 => ?_)
  refine aw_b (pc' := 4) (lv' := [(0, .ref b)]) (st' := [.ref (H.size), .ref (H.size)]) [(3, .dup, 1, .null)] (by decide +kernel) rfl ?_
  refine aw_ci (u := 119) (u6 := 12460) (nX7_init hO e0 ((show nwl_ E H H1 H.size ([] ++ [.inr (7, dfX7)]) from h1).last) hH) ckX7_init rfl ilL_262 nkX7_init (by decide +kernel) rfl rfl (Nat.le_of_ble_eq_true rfl) (by show _ ≤ 600130; decide) (by show _ ≤ 7301079; decide) (by decide +kernel) (fun H2 z => ?_)
  obtain ⟨hb, hM, hsn⟩ := z
  have hb : blw_ H1 H2 H.size 120 := hb
  have h0 : has_ E H2 H.size ly_M s0 := hM
  have hsn : at_ E H2 (H.size + 119) (sna_ E (fun _ => none)) := hsn
  have l2 : H.size + 120 ≤ H2.size := hb.1
  refine aw_b (pc' := 12) (lv' := [(1, .ref (H.size)), (0, .ref b)]) (st' := [.int (25 : Int32), .ref b, .int (1 : Int32)]) [(7, .astore_n 1, 1, .null), (8, .iconst 1, 1, .int (1 : Int32)), (9, .aload_n 0, 1, .null), (10, .bipush 25, 2, .int (25 : Int32))] (by decide +kernel) rfl ?_
  refine aw_cs (rest := [.int (1 : Int32)]) (st1 := .int (nI (cl_ n f 25)) :: [.int (1 : Int32)]) (kL_cell (i := 25) hs (by omega)) rfl rfl ck_mL_cell msL_52 nk_mL_cell rfl rfl rfl (Nat.le_of_ble_eq_true rfl) (by show _ ≤ 600130; decide) (by show _ ≤ 7301079; decide) (by decide +kernel) (fun Hx hz => ?_)
  have h0 := h0.kept0 hz
  have hsn := at_same hsn (hz.2 _ (at_lt hsn) (Nat.lt_or_ge _ 0))
  have lz := hz.1
  refine aw_b (pc' := 16) (lv' := [(1, .ref (H.size)), (0, .ref b)]) (st' := [.int (4 : Int32), .int (nI (cl_ n f 25)), .int (1 : Int32)]) [(15, .iconst 4, 1, .int (4 : Int32))] (by decide +kernel) rfl ?_
  have hcl := cl_lt n f 25
  refine aw_irem (x := nI (cl_ n f 25)) (y := nI 4) (fun hc => absurd ((nI_eq (a := 4) (b := 0) (by omega) (by omega)).mp hc) (by omega)) (by decide +kernel) ?_
  rw [pk_rem (by omega) (by omega) (by omega)]
  refine aw_b (pc' := 18) (lv' := [(1, .ref (H.size)), (0, .ref b)]) (st' := [.int (nI 1 + nI (cl_ n f 25 % 4))]) [(17, .iadd, 1, .null)] (by decide +kernel) rfl ?_
  rw [nI_add]
  have hRe : 1 + cl_ n f 25 % 4 = R := hR.symm
  rw [hRe]
  refine aw_b (pc' := 22) (lv' := [(2, .int (nI R)), (1, .ref (H.size)), (0, .ref b)]) (st' := [.int (nI R), .ref b, .ref (H.size)]) [(18, .istore_n 2, 1, .null), (19, .aload_n 1, 1, .null), (20, .aload_n 0, 1, .null), (21, .iload_n 2, 1, .null)] (by decide +kernel) rfl ?_
  have hR1 : 1 ≤ R := by omega
  have hR4 : R ≤ 4 := by omega
  refine aw_callS (rest := [.ref H.size]) (kL_text hs hO (H0 := Hx) (Nat.le_trans hH (by omega)) hR1 hR4) rfl ck_mL_text msL_263 nk_mL_text rfl rfl rfl (Nat.le_of_ble_eq_true rfl) (by show _ ≤ 600130; decide) (by show _ ≤ 7301079; decide) (by decide +kernel) (fun rr H4 _ hq => ?_) (fun _ _ _ hq => by obtain ⟨x, e, -⟩ := hq; cases e)
  obtain ⟨t, er, z4, o4, ht⟩ := hq
  have er := Sum.inl.inj er
  subst er
  have h0 := h0.kept0 (⟨z4, fun q hq _ => o4 q hq⟩ : sm_ Hx H4 0 0)
  have hsn := at_same hsn (o4 _ (at_lt hsn))
  show aw E mL_law Q 25 [(2, .int (nI R)), (1, .ref (H.size)), (0, .ref b)] [.ref t, .ref (H.size)] H4 _ _
  refine aw_cs (rest := []) (st1 := [.int (nI R)]) (kL_load e1 h0 ht (fun x hx => Or.inr (by omega)) hH) rfl rfl ckL_load msL_267 nkL_load rfl rfl rfl (Nat.le_of_ble_eq_true rfl) (by show _ ≤ 600130; decide) (by show _ ≤ 7301079; decide) (by decide +kernel) (fun H5 z => ?_)
  have h0 := z.2
  have z5 := z.1
  have hsn := at_same hsn (z5.2 _ (at_lt hsn) (Or.inr (Nat.le_refl _)))
  refine aw_b (pc' := 29) (lv' := [(2, .int (nI R)), (1, .ref (H.size)), (0, .ref b)]) (st' := [.int (nI R), .int (nI R)]) [(28, .iload_n 2, 1, .null)] (by decide +kernel) rfl ?_
  refine aw_ic_eq (off := 5) 34 (by decide) (by decide +kernel) (fun _ => ?_) (fun hc => absurd rfl hc)
  refine aw_b (pc' := 36) (lv' := [(3, .int (0 : Int32)), (2, .int (nI R)), (1, .ref (H.size)), (0, .ref b)]) (st' := []) [(34, .iconst 0, 1, .int (0 : Int32)), (35, .istore_n 3, 1, .null)] (by decide +kernel) rfl ?_
  refine aw_widen (k' := 190) (n' := 74468) (by decide) (by decide) ?_
  refine law_steps (k1 := 190) (n1 := 74468) hs hH (H0 := H5) (by decide) (by decide) (fun H6 h0 z6 => ?_) 14 0 H5 s1 (Nat.zero_add _) e2 h0 ⟨Nat.le_refl _, fun _ _ _ => rfl⟩
  have hsn := at_same hsn (z6.2 _ (at_lt hsn) (Or.inr (Nat.le_refl _)))
  have hl6 := at_lt hsn
  refine aw_b (pc' := 62) (lv' := [(3, .int (nI 14)), (2, .int (nI R)), (1, .ref (H.size)), (0, .ref b)]) (st' := [.int (nI R), .ref (H.size)]) [(60, .aload_n 1, 1, .null), (61, .iload_n 2, 1, .null)] (by decide +kernel) rfl ?_
  refine aw_cs (rest := []) (st1 := [.int 1]) (kL_areCostsRight e3 h0) rfl rfl ckL_areCostsRight msL_274 nkL_areCostsRight rfl rfl rfl (Nat.le_of_ble_eq_true rfl) (by show _ ≤ 600130; decide) (by show _ ≤ 7301079; decide) (by decide +kernel) (fun H7 z => ?_)
  have h0 := h0.kept0 z
  have hsn := at_same hsn (z.2 _ (at_lt hsn) (Nat.lt_or_ge _ 0))
  have hl := at_lt hsn
  refine aw_if_eq (off := 54) 119 (by decide) (by decide +kernel) (fun hc => absurd hc (by decide)) (fun _ => ?_)
  refine aw_b (pc' := 70) (lv' := [(3, .int (nI 14)), (2, .int (nI R)), (1, .ref (H.size)), (0, .ref b)]) (st' := [.int (nI R), .ref (H.size)]) [(68, .aload_n 1, 1, .null), (69, .iload_n 2, 1, .null)] (by decide +kernel) rfl ?_
  refine aw_csx (rest := []) (st1 := [.int 1]) (kL_rounds e4 h0 hR1 hR4 (Nat.le_trans hH (by omega)) (by omega)) rfl rfl ckL_areRoundsRight msL_278 nkL_areRoundsRight rfl rfl rfl rfl rfl (Nat.le_of_ble_eq_true rfl) (by show _ ≤ 600130; decide) (by show _ ≤ 7301079; decide) (by decide +kernel) (fun H8 _ z => ?_)
  have h0 := h0.kept0 z
  have hsn := at_same hsn (z.2 _ (at_lt hsn) (Nat.lt_or_ge _ 0))
  refine aw_if_eq (off := 46) 119 (by decide) (by decide +kernel) (fun hc => absurd hc (by decide)) (fun _ => ?_)
  refine aw_b (pc' := 82) (lv' := [(3, .int (nI 14)), (2, .int (nI R)), (1, .ref (H.size)), (0, .ref b)]) (st' := [.int (54 : Int32), .ref b, .int (1 : Int32), .int (nI R), .ref (H.size)]) [(76, .aload_n 1, 1, .null), (77, .iload_n 2, 1, .null), (78, .iconst 1, 1, .int (1 : Int32)), (79, .aload_n 0, 1, .null), (80, .bipush 54, 2, .int (54 : Int32))] (by decide +kernel) rfl ?_
  refine aw_cs (rest := [.int (1 : Int32), .int (nI R), .ref (H.size)]) (st1 := .int (nI (cl_ n f 54)) :: [.int (1 : Int32), .int (nI R), .ref (H.size)]) (kL_cell (i := 54) hs (by omega)) rfl rfl ck_mL_cell msL_52 nk_mL_cell rfl rfl rfl (Nat.le_of_ble_eq_true rfl) (by show _ ≤ 600130; decide) (by show _ ≤ 7301079; decide) (by decide +kernel) (fun Hx hz => ?_)
  have h0 := h0.kept0 hz
  have hsn := at_same hsn (hz.2 _ (at_lt hsn) (Nat.lt_or_ge _ 0))
  have lz := hz.1
  refine aw_b (pc' := 87) (lv' := [(3, .int (nI 14)), (2, .int (nI R)), (1, .ref (H.size)), (0, .ref b)]) (st' := [.int (12 : Int32), .int (nI (cl_ n f 54)), .int (1 : Int32), .int (nI R), .ref (H.size)]) [(85, .bipush 12, 2, .int (12 : Int32))] (by decide +kernel) rfl ?_
  have hcl := cl_lt n f 54
  refine aw_irem (x := nI (cl_ n f 54)) (y := nI 12) (fun hc => absurd ((nI_eq (a := 12) (b := 0) (by omega) (by omega)).mp hc) (by omega)) (by decide +kernel) ?_
  rw [pk_rem (by omega) (by omega) (by omega)]
  refine aw_b (pc' := 89) (lv' := [(3, .int (nI 14)), (2, .int (nI R)), (1, .ref (H.size)), (0, .ref b)]) (st' := [.int (nI 1 + nI (cl_ n f 54 % 12)), .int (nI R), .ref (H.size)]) [(88, .iadd, 1, .null)] (by decide +kernel) rfl ?_
  rw [nI_add]
  refine aw_b (pc' := 92) (lv' := [(3, .int (nI 14)), (2, .int (nI R)), (1, .ref (H.size)), (0, .ref b)]) (st' := [.int (55 : Int32), .ref b, .int (nI (1 + cl_ n f 54 % 12)), .int (nI R), .ref (H.size)]) [(89, .aload_n 0, 1, .null), (90, .bipush 55, 2, .int (55 : Int32))] (by decide +kernel) rfl ?_
  refine aw_cs (rest := [.int (nI (1 + cl_ n f 54 % 12)), .int (nI R), .ref (H.size)]) (st1 := .int (nI (cl_ n f 55)) :: [.int (nI (1 + cl_ n f 54 % 12)), .int (nI R), .ref (H.size)]) (kL_cell (i := 55) hs (by omega)) rfl rfl ck_mL_cell msL_52 nk_mL_cell rfl rfl rfl (Nat.le_of_ble_eq_true rfl) (by show _ ≤ 600130; decide) (by show _ ≤ 7301079; decide) (by decide +kernel) (fun Hx hz => ?_)
  have h0 := h0.kept0 hz
  have hsn := at_same hsn (hz.2 _ (at_lt hsn) (Nat.lt_or_ge _ 0))
  have lz := hz.1
  refine aw_b (pc' := 97) (lv' := [(3, .int (nI 14)), (2, .int (nI R)), (1, .ref (H.size)), (0, .ref b)]) (st' := [.int (0 : Int32), .ref (H.size), .int (nI (cl_ n f 55)), .int (nI (1 + cl_ n f 54 % 12)), .int (nI R), .ref (H.size)]) [(95, .aload_n 1, 1, .null), (96, .iconst 0, 1, .int (0 : Int32))] (by decide +kernel) rfl ?_
  refine aw_cv (rest := [.int (nI (cl_ n f 55)), .int (nI (1 + cl_ n f 54 % 12)), .int (nI R), .ref (H.size)]) (st1 := .int (nI C) :: [.int (nI (cl_ n f 55)), .int (nI (1 + cl_ n f 54 % 12)), .int (nI R), .ref (H.size)]) H.size 0 (kX7_setting e5 h0) rfl rfl ckX7_setting lkL_111 h0 eo_M_0 ⟨_, _, rfl⟩ nkX7_setting rfl rfl rfl (Nat.le_of_ble_eq_true rfl) (by show _ ≤ 600130; decide) (by show _ ≤ 7301079; decide) (by decide +kernel) (fun Hx hz => ?_)
  have h0 := h0.kept0 hz
  have hsn := at_same hsn (hz.2 _ (at_lt hsn) (Nat.lt_or_ge _ 0))
  have hcl := cl_lt n f 55
  refine aw_irem (x := nI (cl_ n f 55)) (y := nI C) (fun hc => absurd ((nI_eq (a := C) (b := 0) (by omega) (by omega)).mp hc) (by omega)) (by decide +kernel) ?_
  rw [pk_rem (by omega) (by omega) (by omega)]
  refine aw_csx (rest := []) (st1 := [.int 1]) (kL_foreseesA e6 h0 hO hsn hH) rfl rfl ckL_foresees msL_281 nkL_foresees rfl rfl rfl rfl rfl (Nat.le_of_ble_eq_true rfl) (by show _ ≤ 600130; decide) (by show _ ≤ 7301079; decide) (by decide +kernel) (fun H9 _ z => ?_)
  have h0 := z.2
  refine aw_if_eq (off := 15) 119 (by decide) (by decide +kernel) (fun hc => absurd hc (by decide)) (fun _ => ?_)
  refine aw_b (pc' := 109) (lv' := [(3, .int (nI 14)), (2, .int (nI R)), (1, .ref (H.size)), (0, .ref b)]) (st' := [.int (nI R), .ref (H.size)]) [(107, .aload_n 1, 1, .null), (108, .iload_n 2, 1, .null)] (by decide +kernel) rfl ?_
  refine aw_cs (rest := []) (st1 := [.int 1]) (kL_areCostsRight e7 h0) rfl rfl ckL_areCostsRight msL_274 nkL_areCostsRight rfl rfl rfl (Nat.le_of_ble_eq_true rfl) (by show _ ≤ 600130; decide) (by show _ ≤ 7301079; decide) (by decide +kernel) (fun HX z => ?_)
  refine aw_if_eq (off := 7) 119 (by decide) (by decide +kernel) (fun hc => absurd hc (by decide)) (fun _ => ?_)
  refine aw_b (pc' := 120) (lv' := [(3, .int (nI 14)), (2, .int (nI R)), (1, .ref (H.size)), (0, .ref b)]) (st' := [.int (1 : Int32)]) [(115, .iconst 1, 1, .int (1 : Int32)), (116, .goto 4, 3, .null)] (by decide +kernel) rfl ?_
  exact aw_zret rfl (by decide +kernel) (by show _ ≤ 600130; decide) (by show _ ≤ 7301079; decide) (by decide +kernel) (hQ _)
end LH
