/-! what the law's start gives -/
def tb_w (w : Nat) : List Cond := [.exactly (.string (sx_n w).1 (sx_n w).2.1) "java/lang/String", .eq (.field (.string (sx_n w).1 (sx_n w).2.1) "java/lang/String" "coder" "B") (.int 0), .arrayOf (.field (.string (sx_n w).1 (sx_n w).2.1) "java/lang/String" "value" "[B") .byte, .eq (.length (.field (.string (sx_n w).1 (sx_n w).2.1) "java/lang/String" "value" "[B")) (.int (Int32.ofNat (sb_y w).length))] ++ (List.range (sb_y w).length).map (fun j => .eq (.elem (.field (.string (sx_n w).1 (sx_n w).2.1) "java/lang/String" "value" "[B") (.int (Int32.ofNat j))) (.int ((sb_y w).getD j 0)))
abbrev gfl_ : List Cond := flatC (Jvm.Cond.and given_1 narrow_1)
def ord_ : List Nat := [4, 0, 1, 2, 3, 37, 38, 39, 40, 41, 42, 43, 44, 45, 46, 47, 48, 49, 50, 51, 52, 53, 54, 55, 56, 57, 58, 59, 60, 7, 5, 8, 9, 6, 11, 12, 10]
theorem tb_fl : (gfl_.drop 241).take 549 = ord_.flatMap tb_w := by decide +kernel
theorem ord_m : ∀ w, w < 61 → sxb_ w = true → w ∈ ord_ := by decide
theorem sxb_61 {w : Nat} (h : sxb_ w = true) : w < 61 := sxb_lt h
theorem tb_m {w : Nat} (hw : sxb_ w = true) {c : Cond} (hc : c ∈ tb_w w) : c ∈ gfl_ := by
  refine List.mem_of_mem_drop (i := 241) (List.mem_of_mem_take (i := 549) ?_)
  rw [tb_fl]
  exact List.mem_flatMap.mpr ⟨w, ord_m w (sxb_61 hw) hw, hc⟩
theorem tb_s0 : ∀ w, w < 61 → sxb_ w = true → Cond.stringRef (sx_n w).1 (sx_n w).2.1 (sx_n w).2.2.1 ∈ lw_tbl ∧ (sb_y w).length < 2 ^ 31 := by decide +kernel
theorem cls_w0 : ∀ w, w < 61 → sxb_ w = true → (sx_n w).1 = RX3 ∨ (sx_n w).1 = RX7 ∨ (sx_n w).1 = RL := by decide +kernel
theorem ew_use {w : Cond} {s : State} {args : Array Value} (hew : ew_ w = true) (h1 : w.before args s = true) : va_Nw w s := by
  by_cases ht : w.onTables = true
  · exact va_Nw.of ht h1
  · cases w with
    | stringRef own k tx => exact h1
    | _ => exact absurd hew ht
section ENTRY
variable {s : State} {b : Nat} {m : MethodId}
theorem al_ok (hf : ∀ c ∈ gfl_, c.before #[Value.ref b] s = true) (hts : ∀ w ∈ lw_tbl, w.before #[Value.ref b] s = true) {E : ev_} (hE : ev_s E = s) {w : Nat} (hw : sxb_ w = true) (hcl : ∃ c, s.vm.findClass (sx_n w).1 = some c) : sc_ok E w := by
  subst hE
  have hA : ∀ a : Nat, a < (ev_s E).heap.size → ¬ ev_fr E a := fun a ha h => absurd ha (Nat.not_lt.mpr h)
  have hm : ∀ c ∈ tb_w w, c.before #[Value.ref b] (ev_s E) = true := fun c hc => hf c (tb_m hw hc)
  obtain ⟨h1, h2⟩ := tb_s0 w (sxb_61 hw) hw
  have hsr := hts _ h1
  obtain ⟨c0, hc0⟩ := hcl
  obtain ⟨-, -, -, sa, -, -, -, -, -, hev⟩ := Cond.stringRef_spec hc0 hsr
  have he : sa_ E w = sa := by
    unfold sa_
    have e : (Term.string (sx_n w).1 (sx_n w).2.1).eval #[] (ev_s E) none [] (ev_s E) = some (.ref sa) := hev
    rw [e]
  have k0 : Cond.exactly (.string (sx_n w).1 (sx_n w).2.1) "java/lang/String" ∈ tb_w w := List.mem_append_left _ List.mem_cons_self
  have k1 : Cond.eq (.field (.string (sx_n w).1 (sx_n w).2.1) "java/lang/String" "coder" "B") (.int 0) ∈ tb_w w := List.mem_append_left _ (List.mem_cons_of_mem _ List.mem_cons_self)
  have k2 : Cond.arrayOf (.field (.string (sx_n w).1 (sx_n w).2.1) "java/lang/String" "value" "[B") .byte ∈ tb_w w := List.mem_append_left _ (List.mem_cons_of_mem _ (List.mem_cons_of_mem _ List.mem_cons_self))
  have k3 : Cond.eq (.length (.field (.string (sx_n w).1 (sx_n w).2.1) "java/lang/String" "value" "[B")) (.int (Int32.ofNat (sb_y w).length)) ∈ tb_w w := List.mem_append_left _ (List.mem_cons_of_mem _ (List.mem_cons_of_mem _ (List.mem_cons_of_mem _ List.mem_cons_self)))
  have k4 : ∀ j, j < (sb_y w).length → Cond.eq (.elem (.field (.string (sx_n w).1 (sx_n w).2.1) "java/lang/String" "value" "[B") (.int (Int32.ofNat j))) (.int ((sb_y w).getD j 0)) ∈ tb_w w := fun j hj => List.mem_append_right _ (List.mem_map.mpr ⟨j, List.mem_range.mpr hj, rfl⟩)
  have hev' : (Term.string (sx_n w).1 (sx_n w).2.1).eval #[Value.ref b] (ev_s E) none [] (ev_s E) = some (.ref sa) := hev
  obtain ⟨t, ht, hT⟩ := va_Tof (f := fun j => .int ((sb_y w).getD j 0)) (A := ev_fr E) h2 (hm _ k2) (va_eqt (hm _ k3)) (fun j hj => va_eqt (hm _ (k4 j hj))) hA
  unfold sc_ok
  rw [he]
  exact ⟨vk_R.of hsr hev, va_Oof (hm _ k0) hev' hA, vk_OFof hev' (va_eqt (hm _ k1)) hA, t, vk_OFof hev' ht hA, hT⟩
theorem arr_p {ty : FieldType} (h : (Cond.arrayClass ty).before #[Value.ref b] s = true) : ∃ c, ArrOfT s c ty ∧ s.vm.findClass ("[" ++ ty.toString) = some c := by
  obtain ⟨c, k, comp, h1, h2, h3⟩ := Cond.arrayClass_spec h
  exact ⟨c, fun N z => ⟨(fun q hq => by cases hq), k, h2, comp, h3⟩, h1⟩
theorem arr_o {C : String} (h : (Cond.arrayOver (.object C)).before #[Value.ref b] s = true) : ∃ c, ArrOfT s c (.object C) ∧ va_RA s c (.object C) := by
  obtain ⟨comp, c, k, h1, h2, h3, h4, h5⟩ := Cond.arrayOver_spec h
  exact ⟨c, fun N z => ⟨(fun q hq => by cases hq), k, h3, comp, h4⟩, k, comp, h3, h4, h1, h5⟩
theorem arr_a (h : (Cond.arrayOver (.array .int)).before #[Value.ref b] s = true) : ∃ c, ArrOfT s c (.array .int) ∧ va_RA s c (.array .int) := by
  obtain ⟨comp, c, k, h1, h2, h3, h4, h5⟩ := arrayOverA_spec h
  exact ⟨c, fun N z => ⟨(fun q hq => by cases hq), k, h3, comp, h4⟩, h5⟩
theorem kn_ {C : String} {T : u_T} {N : Nat} (hts : ∀ w ∈ lw_tbl, w.before #[Value.ref b] s = true) (hin : ∀ w ∈ u_ws C T N, w ∈ uw_) (hi : Cond.instantiable C N ∈ uw_) : ∃ (c : ClassId) (iS : Nat → Nat), u_Kn s C T N c iS :=
  u_known (n := N) (ws := lw_tbl) hts (fun w hw => (List.mem_filter.mp (hin w hw)).1) (hts _ (List.mem_filter.mp hi).1)
theorem in_tbl {w : Cond} (h : w ∈ uw_) : w ∈ lw_tbl := (List.mem_filter.mp h).1
theorem entry_ok (l : Launch) (hflags : l.flags = flags0) (hts : ∀ w ∈ lw_tbl, w.before #[Value.ref b] s = true) (hf : ∀ c ∈ gfl_, c.before #[Value.ref b] s = true) (hlaw : s.vm.findClass RL = some m.cls) : ∃ E : ev_, ev_l E = l ∧ ev_s E = s ∧ ev_ok E ∧ exo_ E := by
  obtain ⟨c0, i0, q0⟩ := kn_ hts wkX0 (uw_mem 216 (by decide +kernel) (by decide +kernel))
  obtain ⟨c1, i1, q1⟩ := kn_ hts wkX1 (uw_mem 208 (by decide +kernel) (by decide +kernel))
  obtain ⟨c2, i2, q2⟩ := kn_ hts wkX2 (uw_mem 202 (by decide +kernel) (by decide +kernel))
  obtain ⟨c3, i3, q3⟩ := kn_ hts wkX3 (uw_mem 62 (by decide +kernel) (by decide +kernel))
  obtain ⟨c4, i4, q4⟩ := kn_ hts wkX4 (uw_mem 337 (by decide +kernel) (by decide +kernel))
  obtain ⟨c5, i5, q5⟩ := kn_ hts wkX5 (uw_mem 68 (by decide +kernel) (by decide +kernel))
  obtain ⟨c6, i6, q6⟩ := kn_ hts wkX6 (uw_mem 409 (by decide +kernel) (by decide +kernel))
  obtain ⟨c7, i7, q7⟩ := kn_ hts wkX7 (uw_mem 54 (by decide +kernel) (by decide +kernel))
  obtain ⟨c8, i8, q8⟩ := kn_ hts wkJ0 (uw_mem 872 (by decide +kernel) (by decide +kernel))
  obtain ⟨c9, i9, q9⟩ := kn_ hts wkJ4 (uw_mem 715 (by decide +kernel) (by decide +kernel))
  obtain ⟨a0, r0, n0⟩ := arr_p (hts _ (in_tbl acw_int))
  obtain ⟨a1, r1, n1⟩ := arr_p (hts _ (in_tbl acw_byte))
  have oA : (Cond.arrayOver (.object "ArmDuel$Arm")).before #[Value.ref b] s = true := (hts _ (List.mem_of_getElem? (i := 278) (by decide +kernel)))
  have oG : (Cond.arrayOver (.object "ArmDuel$Game")).before #[Value.ref b] s = true := (hts _ (List.mem_of_getElem? (i := 424) (by decide +kernel)))
  have oS : (Cond.arrayOver (.object "java/lang/String")).before #[Value.ref b] s = true := (hts _ (List.mem_of_getElem? (i := 709) (by decide +kernel)))
  have oI : (Cond.arrayOver (.array .int)).before #[Value.ref b] s = true := (hts _ (List.mem_of_getElem? (i := 343) (by decide +kernel)))
  obtain ⟨a2, r2, n2⟩ := arr_o oS
  obtain ⟨a5, r5, n5⟩ := arr_o oA
  obtain ⟨a6, r6, n6⟩ := arr_o oG
  obtain ⟨a7, r7, n7⟩ := arr_a oI
  have hA : ∀ a : Nat, a < s.heap.size → ¬ (fun q : Nat => s.heap.size ≤ q) a := fun a ha h => absurd ha (Nat.not_lt.mpr h)
  have dt8 : ∀ j, j < 100 → Cond.eq (.elem (.static "java/lang/Integer" "DigitOnes" "[B") (.int (Int32.ofNat j))) (.int (nI (48 + j % 10))) ∈ gfl_ := by
    intro j hj
    have h : ∀ j, j < 100 → gfl_[14 + j]? = some (Cond.eq (.elem (.static "java/lang/Integer" "DigitOnes" "[B") (.int (Int32.ofNat j))) (.int (nI (48 + j % 10)))) := by decide +kernel
    exact List.mem_of_getElem? (h j hj)
  obtain ⟨t8, ht8, Tt8⟩ := va_Tof (f := fun j => .int (nI (48 + j % 10))) (A := fun q : Nat => s.heap.size ≤ q) (N := 100) (by decide) (ty := .byte) (hf _ (List.mem_of_getElem? (i := 12) (by decide +kernel))) (va_eqt (hf _ (List.mem_of_getElem? (i := 13) (by decide +kernel)))) (fun j hj => va_eqt (hf _ (dt8 j hj))) hA
  have dt9 : ∀ j, j < 100 → Cond.eq (.elem (.static "java/lang/Integer" "DigitTens" "[B") (.int (Int32.ofNat j))) (.int (nI (48 + j / 10))) ∈ gfl_ := by
    intro j hj
    have h : ∀ j, j < 100 → gfl_[117 + j]? = some (Cond.eq (.elem (.static "java/lang/Integer" "DigitTens" "[B") (.int (Int32.ofNat j))) (.int (nI (48 + j / 10)))) := by decide +kernel
    exact List.mem_of_getElem? (h j hj)
  obtain ⟨t9, ht9, Tt9⟩ := va_Tof (f := fun j => .int (nI (48 + j / 10))) (A := fun q : Nat => s.heap.size ≤ q) (N := 100) (by decide) (ty := .byte) (hf _ (List.mem_of_getElem? (i := 115) (by decide +kernel))) (va_eqt (hf _ (List.mem_of_getElem? (i := 116) (by decide +kernel)))) (fun j hj => va_eqt (hf _ (dt9 j hj))) hA
  refine ⟨((fun k => match k with | 0 => c0 | 1 => c1 | 2 => c2 | 3 => c3 | 4 => c4 | 5 => c5 | 6 => c6 | 7 => c7 | 8 => c8 | _ => c9, fun k => match k with | 0 => i0 | 1 => i1 | 2 => i2 | 3 => i3 | 4 => i4 | 5 => i5 | 6 => i6 | 7 => i7 | 8 => i8 | _ => i9), (fun k => match k with | 0 => a0 | 1 => a1 | 2 => a2 | 3 => a0 | 4 => a0 | 5 => a5 | 6 => a6 | _ => a7), l, s), rfl, rfl, ⟨⟨fun k q hq => ?_, fun k q hq => ?_⟩, hflags, fun w hw hew => ?_, ?_, ?_, ?_⟩, ?_⟩
  · match k, hq with
    | 0, hq => cases hq; exact q0
    | 1, hq => cases hq; exact q1
    | 2, hq => cases hq; exact q2
    | 3, hq => cases hq; exact q3
    | 4, hq => cases hq; exact q4
    | 5, hq => cases hq; exact q5
    | 6, hq => cases hq; exact q6
    | 7, hq => cases hq; exact q7
    | 8, hq => cases hq; exact q8
    | 9, hq => cases hq; exact q9
    | k + 10, hq => simp [vwCl] at hq
  · match k, hq with
    | 0, hq => cases hq; exact ⟨r0, n0⟩
    | 1, hq => cases hq; exact ⟨r1, n1⟩
    | 2, hq => cases hq; exact ⟨r2, n2⟩
    | 3, hq => cases hq; exact ⟨r0, n0⟩
    | 4, hq => cases hq; exact ⟨r0, n0⟩
    | 5, hq => cases hq; exact ⟨r5, n5⟩
    | 6, hq => cases hq; exact ⟨r6, n6⟩
    | 7, hq => cases hq; exact ⟨r7, n7⟩
    | k + 8, hq => simp [ev_tys] at hq
  · exact ew_use hew (hts w hw)
  · exact vx_Zqof (hts _ (List.mem_of_getElem? (i := 521) (by decide +kernel))) (hts _ (List.mem_of_getElem? (i := 48) (by decide +kernel))) (hf _ (List.mem_of_getElem? (i := 4) (by decide +kernel))) hA
  · exact vx_Zqof (hts _ (List.mem_of_getElem? (i := 523) (by decide +kernel))) (hts _ (List.mem_of_getElem? (i := 48) (by decide +kernel))) (hf _ (List.mem_of_getElem? (i := 5) (by decide +kernel))) hA
  · refine ⟨fun w hw => al_ok hf hts rfl hw ?_, va_Zof (hts _ (List.mem_of_getElem? (i := 579) (by decide +kernel))) (hts _ (List.mem_of_getElem? (i := 41) (by decide +kernel))) (va_eqt (hf _ (List.mem_of_getElem? (i := 6) (by decide +kernel)))) hA, va_Zqof (hts _ (List.mem_of_getElem? (i := 595) (by decide +kernel))) (hts _ (List.mem_of_getElem? (i := 45) (by decide +kernel))) (hf _ (List.mem_of_getElem? (i := 7) (by decide +kernel))) hA⟩
    have hk : (sx_n w).1 = RX3 ∨ (sx_n w).1 = RX7 ∨ (sx_n w).1 = RL := cls_w0 w (sxb_61 hw) hw
    rcases hk with h | h | h <;> rw [h]
    · exact ⟨_, q3.2.1⟩
    · exact ⟨_, q7.2.1⟩
    · exact ⟨_, hlaw⟩
  · exact ⟨va_AO.of oA, va_AO.of oG, oI, va_AO.of oS, ⟨t8, va_Zof (hts _ (List.mem_of_getElem? (i := 856) (by decide +kernel))) (hts _ (List.mem_of_getElem? (i := 47) (by decide +kernel))) ht8 hA, Tt8⟩, t9, va_Zof (hts _ (List.mem_of_getElem? (i := 858) (by decide +kernel))) (hts _ (List.mem_of_getElem? (i := 47) (by decide +kernel))) ht9 hA, Tt9⟩
end ENTRY
