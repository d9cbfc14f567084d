/-! more rows: Math, copies of arrays -/
def ml_ (own : String) (idx : Nat) (y : MethodName) (cc : ByteArray) (nL : Nat) (ret : FieldType) : Prop := Cond.methodLink own idx y ∈ uw_ ∧ Cond.static y ∈ uw_ ∧ Cond.initialized "java/lang/Math" ∈ uw_ ∧ Cond.code y cc nL (some ret) ∈ uw_
section AM
variable {E : ev_} {M : mt_} {Q : po_} {pc : Nat} {lv : List (Nat × Value)} {rest : List Value} {H : Heap} {k n : Nat} {a a0 : Nat}
theorem aw_mx {x y : Int32} {idx : Nat} (hw : ml_ M.1.cls idx Lib.Math.max.name Lib.Math.max.code 2 .int) (hf : Nat.ble 1 (mt_R M).frames = true) (hlo : (rest.map fun v => v.category).sum + 13 ≤ (mt_R M).locals) (hk : k ≤ (mt_R M).cells) (hn : n ≤ (mt_R M).slots) (hd : decode M.2.1 pc = .ok (.invokestatic idx, 3)) (kk : aw E M Q (pc + 3) lv (.int (if x < y then y else x) :: rest) H k n) : aw E M Q pc lv (.int y :: .int x :: rest) H k n := by
  intro p e s m args below meth c locs ls C P L
  have ht := C.2.2.2.2.2.1
  exact va_mmax C.1 C.2.1 (C.2.2.2.1.trans L.1.symm) C.2.2.2.2.1 (ht _ hw.1) (ht _ hw.2.1) (ht _ hw.2.2.1) (ht _ hw.2.2.2) (Nat.le_of_ble_eq_true hf) hlo hk hn hd (kk p e s m args below meth c locs ls C P L)
theorem aw_mn {x y : Int32} {idx : Nat} (hw : ml_ M.1.cls idx Lib.Math.min.name Lib.Math.min.code 2 .int) (hf : Nat.ble 1 (mt_R M).frames = true) (hlo : (rest.map fun v => v.category).sum + 13 ≤ (mt_R M).locals) (hk : k ≤ (mt_R M).cells) (hn : n ≤ (mt_R M).slots) (hd : decode M.2.1 pc = .ok (.invokestatic idx, 3)) (kk : aw E M Q (pc + 3) lv (.int (if y < x then y else x) :: rest) H k n) : aw E M Q pc lv (.int y :: .int x :: rest) H k n := by
  intro p e s m args below meth c locs ls C P L
  have ht := C.2.2.2.2.2.1
  exact va_mmin C.1 C.2.1 (C.2.2.2.1.trans L.1.symm) C.2.2.2.2.1 (ht _ hw.1) (ht _ hw.2.1) (ht _ hw.2.2.1) (ht _ hw.2.2.2) (Nat.le_of_ble_eq_true hf) hlo hk hn hd (kk p e s m args below meth c locs ls C P L)
theorem aw_mab {x : Int32} {idx : Nat} (hw : ml_ M.1.cls idx Lib.Math.abs.name Lib.Math.abs.code 1 .int) (hf : Nat.ble 1 (mt_R M).frames = true) (hlo : (rest.map fun v => v.category).sum + 13 ≤ (mt_R M).locals) (hk : k ≤ (mt_R M).cells) (hn : n ≤ (mt_R M).slots) (hd : decode M.2.1 pc = .ok (.invokestatic idx, 3)) (kk : aw E M Q (pc + 3) lv (.int (if 0 ≤ x then x else 0 - x) :: rest) H k n) : aw E M Q pc lv (.int x :: rest) H k n := by
  intro p e s m args below meth c locs ls C P L
  have ht := C.2.2.2.2.2.1
  exact va_mabs C.1 C.2.1 (C.2.2.2.1.trans L.1.symm) C.2.2.2.2.1 (ht _ hw.1) (ht _ hw.2.1) (ht _ hw.2.2.1) (ht _ hw.2.2.2) (Nat.le_of_ble_eq_true hf) hlo hk hn hd (kk p e s m args below meth c locs ls C P L)
theorem aw_mxl {x y : Int64} {idx : Nat} (hw : ml_ M.1.cls idx Lib.MathLoose.max_long.x Lib.MathLoose.max_long.code 4 .long) (hf : Nat.ble 1 (mt_R M).frames = true) (hlo : (rest.map fun v => v.category).sum + 15 ≤ (mt_R M).locals) (hk : k ≤ (mt_R M).cells) (hn : n ≤ (mt_R M).slots) (hd : decode M.2.1 pc = .ok (.invokestatic idx, 3)) (kk : aw E M Q (pc + 3) lv (.long (if y < x then x else y) :: rest) H k n) : aw E M Q pc lv (.long y :: .long x :: rest) H k n := by
  intro p e s m args below meth c locs ls C P L
  have ht := C.2.2.2.2.2.1
  exact va_mmax_long C.1 C.2.1 (C.2.2.2.1.trans L.1.symm) C.2.2.2.2.1 (ht _ hw.1) (ht _ hw.2.1) (ht _ hw.2.2.1) (ht _ hw.2.2.2) (Nat.le_of_ble_eq_true hf) hlo hk hn hd (kk p e s m args below meth c locs ls C P L)
theorem aw_mnl {x y : Int64} {idx : Nat} (hw : ml_ M.1.cls idx Lib.MathLoose.min_long.x Lib.MathLoose.min_long.code 4 .long) (hf : Nat.ble 1 (mt_R M).frames = true) (hlo : (rest.map fun v => v.category).sum + 15 ≤ (mt_R M).locals) (hk : k ≤ (mt_R M).cells) (hn : n ≤ (mt_R M).slots) (hd : decode M.2.1 pc = .ok (.invokestatic idx, 3)) (kk : aw E M Q (pc + 3) lv (.long (if y < x then y else x) :: rest) H k n) : aw E M Q pc lv (.long y :: .long x :: rest) H k n := by
  intro p e s m args below meth c locs ls C P L
  have ht := C.2.2.2.2.2.1
  exact va_mmin_long C.1 C.2.1 (C.2.2.2.1.trans L.1.symm) C.2.2.2.2.1 (ht _ hw.1) (ht _ hw.2.1) (ht _ hw.2.2.1) (ht _ hw.2.2.2) (Nat.le_of_ble_eq_true hf) hlo hk hn hd (kk p e s m args below meth c locs ls C P L)
/-- System.arraycopy between rows of ints -/
def al_ (own : String) (idx : Nat) : Prop := Cond.methodLink own idx arraycopyName ∈ uw_ ∧ Cond.native arraycopyName ∈ uw_ ∧ Cond.static arraycopyName ∈ uw_ ∧ Cond.initialized "java/lang/System" ∈ uw_
theorem aw_cpi {idx : Nat} {N0 N1 : Nat} {f g : Nat → Int32} {sp dp nn : Int32} (hw : al_ M.1.cls idx) (hA0 : at_ E H a0 (.inl (E.2.1 0, N0, .inl f))) (hA : at_ E H a (.inl (E.2.1 0, N1, .inl g))) (hfr : ev_fr E a) (h1 : ¬ sp < 0) (h2 : ¬ dp < 0) (h3 : ¬ nn < 0) (h4 : sp.toNatClampNeg + nn.toNatClampNeg ≤ N0) (h5 : dp.toNatClampNeg + nn.toNatClampNeg ≤ N1) (hframes : Nat.ble 1 (mt_R M).frames = true) (hlocals : (rest.map fun v => v.category).sum + (nativeFrameWords "java/lang/System" "arraycopy" 5 + 11) ≤ (mt_R M).locals) (hd : decode M.2.1 pc = .ok (.invokestatic idx, 3))
    (kk : ∀ H1 : Heap, at_ E H1 a (.inl (E.2.1 0, N1, .inl (va_cpy f g sp.toNatClampNeg dp.toNatClampNeg nn.toNatClampNeg))) → sm1 H H1 a → aw E M Q (pc + 3) lv rest H1 k n) : aw E M Q pc lv (.int nn :: .int dp :: .ref a :: .int sp :: .ref a0 :: rest) H k n := by
  intro p e s m args below meth c locs ls C P L
  have zz : ∀ z : Int32, ¬ z < 0 → z.toInt = (z.toNatClampNeg : Int) := by
    intro z hz
    have hz0 : (0 : Int) ≤ z.toInt := by
      have := Int32.not_lt.mp hz
      simpa using Int32.le_iff_toInt_le.mp this
    show z.toInt = ((z.toInt.toNat : Nat) : Int)
    omega
  intro T hT X
  have ht := C.2.2.2.2.2.1
  have hc0 : H[a0]? = some (vp_cell (E.2.1 0) (N0, .inl f)) := hA0
  have hc1 : H[a]? = some (vp_cell (E.2.1 0) (N1, .inl g)) := hA
  obtain ⟨-, k0, hk0, cm0, hkk0⟩ := ((cx_K C).2 0 _ rfl).1 N0 (fun j => .int (f j))
  obtain ⟨-, k1, hk1, cm1, hkk1⟩ := ((cx_K C).2 0 _ rfl).1 N1 (fun j => .int (g j))
  obtain ⟨vm', X', step⟩ := X.arraycopy C.1 C.2.2.2.2.1 (ht _ hw.1) (ht _ hw.2.1) (ht _ hw.2.2.1) (ht _ hw.2.2.2) (src := a0) (dst := a) (cs := vp_cell (E.2.1 0) (N0, .inl f)) (cd := vp_cell (E.2.1 0) (N1, .inl g)) (srcPos := sp) (destPos := dp) (n := nn) (by rw [hT]; exact hc0) (by rw [hT]; exact hc1)
    (fun _ h => by cases h) (fun _ h => by cases h) (fun h => by cases h) (fun h => by cases h) hk0 hk1 hkk0 hkk1 rfl h1 h2 h3
    (by rw [zz sp h1, zz nn h3]; show ¬ _ > ((arrV _ N0 (fun j => .int (f j))).slots.size : Int); rw [arrV_size]; omega)
    (by rw [zz dp h2, zz nn h3]; show ¬ _ > ((arrV _ N1 (fun j => .int (g j))).slots.size : Int); rw [arrV_size]; omega)
    (fun vm₁ _ i hi => by
      have e : (vp_cell (E.2.1 0) (N0, .inl f)).slots.getD (sp.toNatClampNeg + i) .null = .int (f (sp.toNatClampNeg + i)) := by
        show (arrV _ N0 (fun j => .int (f j))).slots.getD _ _ = _
        rw [Array.getD_eq_getD_getElem?, arrV_read _ _ (by omega)]
        rfl
      refine ⟨?_, ?_⟩
      · rw [e]
        rfl
      · rw [e]
        exact trivial)
    (g := F0 m pc ls (.int nn :: .int dp :: .ref a :: .int sp :: .ref a0 :: rest)) rfl (by rw [C.2.2.2.1, ← L.1]) (rest := rest) rfl (by rw [C.2.1]; exact hd) (Nat.le_of_ble_eq_true hframes) (by show 2 * 0 + _ + _ ≤ _; omega)
  have e1 : copied (vp_cell (E.2.1 0) (N0, .inl f)) (vp_cell (E.2.1 0) (N1, .inl g)) sp dp nn = vp_cell (E.2.1 0) (N1, .inl (va_cpy f g sp.toNatClampNeg dp.toNatClampNeg nn.toNatClampNeg)) := va_copied (fun z => .int z) (E.2.1 0) (E.2.1 0) f g h4
  rw [e1] at X' step
  have hl : a < H.size := (Array.getElem?_eq_some_iff.mp hc1).1
  have hheap : ((T.setVm vm').setCell a (vp_cell (E.2.1 0) (N1, .inl (va_cpy f g sp.toNatClampNeg dp.toNatClampNeg nn.toNatClampNeg)))).heap = H.setIfInBounds a (vp_cell (E.2.1 0) (N1, .inl (va_cpy f g sp.toNatClampNeg dp.toNatClampNeg nn.toNatClampNeg))) := by rw [← hT]; rfl
  have oq : ∀ q : Nat, q ≠ a → (H.setIfInBounds a (vp_cell (E.2.1 0) (N1, .inl (va_cpy f g sp.toNatClampNeg dp.toNatClampNeg nn.toNatClampNeg))))[q]? = H[q]? := fun q hq => by simp [Array.getElem?_setIfInBounds, Ne.symm hq]
  have hsm : sm1 H (H.setIfInBounds a (vp_cell (E.2.1 0) (N1, .inl (va_cpy f g sp.toNatClampNeg dp.toNatClampNeg nn.toNatClampNeg)))) a := ⟨by simp, oq⟩
  have hP1 : ∀ Lx : List Loc, (∀ z ∈ Lx, z.base = a) → hp_ E s (H.setIfInBounds a (vp_cell (E.2.1 0) (N1, .inl (va_cpy f g sp.toNatClampNeg dp.toNatClampNeg nn.toNatClampNeg)))) (locs ++ Lx) := by
    intro Lx hLx
    refine ⟨by rw [hsm.1]; exact P.1, ⟨by rw [hsm.1]; exact P.2.1.1, fun q hq => ?_⟩, fun z hz => ?_⟩
    · rw [oq q (fun e => by subst e; exact absurd hfr (Nat.not_le.mpr hq))]
      exact P.2.1.2 q hq
    · rcases List.mem_append.mp hz with h | h
      · exact P.2.2 z h
      · rw [hLx z h]
        exact hfr
  obtain ⟨t, a1, b1⟩ := kk _ (show (H.setIfInBounds a _)[a]? = some _ by simp [Array.getElem?_setIfInBounds, hl]) hsm p e s m args below meth c _ ls C (hP1 _ (fun z hz => by obtain ⟨z', -, hz'⟩ := List.mem_map.mp hz; rw [← hz'])) L _ hheap X'
  exact ⟨t, step t a1, b1⟩
/-- by layouts: a whole copy from the start -/
theorem aw_cpl (b ob a oa : Nat) {L L' : ly_} {s s' t : st_} {idx N : Nat} {nn : Int32} (h : has_ E H a L s) (hL : L[oa]? = some (ia_ N)) (h' : has_ E H b L' t) (hL' : L'[ob]? = some (ia_ N)) (hw : al_ M.1.cls idx) (hfr : ev_fr E a) (h3 : ¬ nn < 0) (h4 : nn.toNatClampNeg = N) (he : s' = rw_ s oa (va_cpy (t ob) (s oa) 0 0 N)) (hframes : Nat.ble 1 (mt_R M).frames = true) (hlocals : (rest.map fun v => v.category).sum + (nativeFrameWords "java/lang/System" "arraycopy" 5 + 11) ≤ (mt_R M).locals) (hd : decode M.2.1 pc = .ok (.invokestatic idx, 3))
    (kk : ∀ H1 : Heap, has_ E H1 a L s' → sm_ H H1 (a + oa) 1 → aw E M Q (pc + 3) lv rest H1 k n) : aw E M Q pc lv (.int nn :: .int 0 :: .ref (a + oa) :: .int 0 :: .ref (b + ob) :: rest) H k n := by
  have z : (0 : Int32).toNatClampNeg = 0 := by decide
  have z0 : ¬ (0 : Int32) < 0 := by decide
  refine aw_cpi hw (h' ob _ hL') (h oa _ hL) (Nat.le_trans hfr (Nat.le_add_right a oa)) z0 z0 h3 (by rw [z, h4]; omega) (by rw [z, h4]; omega) hframes hlocals hd (fun H1 h1 h2 => kk H1 (h.put hL ?_ (sm_.of1 h2) he) (sm_.of1 h2))
  rw [z, h4] at h1
  exact h1
end AM
