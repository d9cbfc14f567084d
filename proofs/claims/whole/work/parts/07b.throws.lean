/-! throws -/
def xn_ (c : Nat) : String := match c with
  | 0 => "java/lang/IndexOutOfBoundsException"
  | _ => "java/lang/IllegalArgumentException"
def thr_ {α : Type} (f : α → Option Value) (r : α ⊕ Nat) : Option Value ⊕ String := match r with
  | .inl x => .inl (f x)
  | .inr c => .inr (xn_ c)
def tb_ {α β : Type} (v : α ⊕ Nat) (f : α → Option β) (g : Nat → Option β) : Option β := match v with
  | .inl x => f x
  | .inr c => g c
def xs_ : List String := ["java/lang/RuntimeException", "java/lang/Exception"]
/-- words that the tables decide, though they aren't good ones -/
def cd_ (w : Cond) : Bool := match w with
  | .castable _ _ => true
  | .declares _ => true
  | _ => false
def tw_ (own : String) (ic : Nat) (cls : String) : Prop := Bundle.fit cls = true ∧ (∀ n ∈ xs_, Bundle.fit n = true) ∧ Cond.initialized cls ∈ uw_ ∧ ∀ w ∈ vx_atS own ic cls xs_, w ∈ lw_tbl ∧ (goodWord w || cd_ w) = true
section AX
variable {E : ev_} {M : mt_} {Q : po_} {pc : Nat} {lv : List (Nat × Value)} {rest : List Value} {H : Heap} {k n : Nat}
theorem cd_at {s : State} {args : Array Value} (hal : (ev_s E).WarmedH s.vm) {w : Cond} (hc : cd_ w = true) (hn : va_Nw w (ev_s E)) : w.before args s = true := by
  cases w with
  | castable C T =>
    have h1 : (Cond.castable C T).before #[] ((ev_s E).setVm s.vm) = true := by rw [Cond.castable_setVm hal.alike]; exact hn
    exact va_tabs (u := (ev_s E).setVm s.vm) (A := #[]) rfl rfl h1
  | declares x =>
    have h1 : (Cond.declares x).before #[] ((ev_s E).setVm s.vm) = true := by rw [Cond.declares_setVm hal.alike]; exact hn
    exact va_tabs (u := (ev_s E).setVm s.vm) (A := #[]) rfl rfl h1
  | _ => cases hc
theorem cd_ew {w : Cond} (hc : cd_ w = true) : ew_ w = true ∧ w.onTables = true := by
  cases w with
  | castable C T => exact ⟨rfl, rfl⟩
  | declares x => exact ⟨rfl, rfl⟩
  | _ => cases hc
theorem gw_ot {w : Cond} (h : (goodWord w || cd_ w) = true) : vx_ot w = true := by
  unfold vx_ot
  rw [Bool.or_eq_true] at h ⊢
  rcases h with h | h
  · exact Or.inr h
  · exact Or.inl (cd_ew h).2
theorem aw_thr {ik is ic : Nat} {cls text : String} (hw : tw_ M.1.cls ic cls) (hk : Cond.classLink M.1.cls ik cls ∈ uw_) (hs : Cond.stringRef M.1.cls is text ∈ lw_tbl) (htab : M.2.2.2.2.1 = []) (hfr : Nat.ble 6 (mt_R M).frames = true) (hlo : (rest.map fun v => v.category).sum + 82 ≤ (mt_R M).locals) (hkk : k + 1 ≤ (mt_R M).cells) (hnn : n + 6 ≤ (mt_R M).slots)
    (d0 : decode M.2.1 pc = .ok (.new ik, 3)) (d3 : decode M.2.1 (pc + 3) = .ok (.dup, 1)) (d4 : decode M.2.1 (pc + 4) = .ok (.ldc is, 2)) (d6 : decode M.2.1 (pc + 6) = .ok (.invokespecial ic, 3)) (d9 : decode M.2.1 (pc + 9) = .ok (.athrow, 1))
    (hq : ∀ H1 : Heap, sm_ H H1 0 0 → Q (.inr cls) H1) : aw E M Q pc lv rest H k n := by
  intro p e s m args below meth c locs ls C P L
  obtain ⟨c1, c2, c3, c4, c5, c6, c7, c8, c9, c10, c11, c12⟩ := C
  obtain ⟨f1, f2, f3, f4⟩ := hw
  obtain ⟨o1, o2, o3, o4, o5, o6⟩ := c11
  have hmem : ∀ q : Nat, q < (ev_s E).heap.size → ¬ ev_fr E q → s.heap[q]? = (ev_s E).heap[q]? := fun q hq _ => c10.2 q hq
  have hU := vx_Zq.kept (vx_Zq.moved c9.alike o4) hmem
  have hN := vx_Zq.kept (vx_Zq.moved c9.alike o5) hmem
  have hS : va_S (ev_fr E) s.heap H locs := ⟨P.1, fun q hq hf => by
    have h1 : q < (ev_s E).heap.size := Nat.not_le.mp hf
    rw [P.2.1.2 q h1, c10.2 q h1], P.2.2⟩
  have hsr : (Cond.stringRef M.1.cls is text).before #[] (ev_s E) = true := o3 _ hs rfl
  have hown : (ev_s E).vm.findClass M.1.cls = some m.cls := by rw [← c9.alike.findClass]; exact c5
  obtain ⟨-, -, -, sa, -, -, -, -, -, hev⟩ := Cond.stringRef_spec hown hsr
  have hstr : vk_R M.1.cls is text sa s := vk_R.warm c9 (vk_R.of hsr hev)
  refine vx_throwS c1 c2 (by unfold Launch.stackTraces; rw [o2]; decide +kernel) (own := M.1.cls) (cls := cls) (text := text) (names := xs_) (ik := ik) (is := is) (ic := ic) (A := ev_fr E) c5 f1 f2 (c6 _ hk) (c6 _ f3) hstr (fun w hw => ?_) (fun w hw => ?_) hU hN hS (L.1.trans c4.symm) d0 d3 d4 d6 d9 (by rw [c8, htab]; exact fun x hx => absurd hx List.not_mem_nil) (Nat.le_of_ble_eq_true hfr) hlo hkk hnn c7 (fun t h1 h2 h3 => ?_) P.2.2 hkk hnn
  · obtain ⟨g1, g2⟩ := f4 w hw
    rw [Bool.or_eq_true] at g2
    rcases g2 with g2 | g2
    · exact c6 _ (List.mem_filter.mpr ⟨g1, g2⟩)
    · exact cd_at c9 g2 (o3 _ g1 (cd_ew g2).1)
  · rcases List.mem_cons.mp hw with e | hw
    · rw [e]; rfl
    · rcases List.mem_cons.mp hw with e | hw
      · rw [e]; rfl
      · exact gw_ot (f4 w hw).2
  · have hsm : sm_ H t.heap 0 0 := ⟨h2, fun q hq _ => h3 q hq⟩
    refine ⟨hq _ hsm, Nat.le_trans P.1 h2, ⟨Nat.le_trans P.2.1.1 h2, fun q hq => ?_⟩⟩
    rw [h3 q (Nat.lt_of_lt_of_le hq P.2.1.1)]
    exact P.2.1.2 q hq
theorem aw_thrW {ik is ic : Nat} {cls text : String} (hw : tw_ M.1.cls ic cls) (hk : Cond.classLink M.1.cls ik cls ∈ uw_) (hs : Cond.stringRef M.1.cls is text ∈ lw_tbl) (htab : M.2.2.2.2.1 = []) (hfr : Nat.ble 6 (mt_R M).frames = true) (hlo : (rest.map fun v => v.category).sum + 82 ≤ (mt_R M).locals) (hkk : k + 1 ≤ (mt_R M).cells) (hnn : n + 6 ≤ (mt_R M).slots)
    (d0 : decode M.2.1 pc = .ok (.new ik, 3)) (d3 : decode M.2.1 (pc + 3) = .ok (.dup, 1)) (d4 : decode M.2.1 (pc + 4) = .ok (.ldc_w is, 3)) (d6 : decode M.2.1 (pc + 7) = .ok (.invokespecial ic, 3)) (d9 : decode M.2.1 (pc + 10) = .ok (.athrow, 1))
    (hq : ∀ H1 : Heap, sm_ H H1 0 0 → Q (.inr cls) H1) : aw E M Q pc lv rest H k n := by
  intro p e s m args below meth c locs ls C P L
  obtain ⟨c1, c2, c3, c4, c5, c6, c7, c8, c9, c10, c11, c12⟩ := C
  obtain ⟨f1, f2, f3, f4⟩ := hw
  obtain ⟨o1, o2, o3, o4, o5, o6⟩ := c11
  have hmem : ∀ q : Nat, q < (ev_s E).heap.size → ¬ ev_fr E q → s.heap[q]? = (ev_s E).heap[q]? := fun q hq _ => c10.2 q hq
  have hU := vx_Zq.kept (vx_Zq.moved c9.alike o4) hmem
  have hN := vx_Zq.kept (vx_Zq.moved c9.alike o5) hmem
  have hS : va_S (ev_fr E) s.heap H locs := ⟨P.1, fun q hq hf => by
    have h1 : q < (ev_s E).heap.size := Nat.not_le.mp hf
    rw [P.2.1.2 q h1, c10.2 q h1], P.2.2⟩
  have hsr : (Cond.stringRef M.1.cls is text).before #[] (ev_s E) = true := o3 _ hs rfl
  have hown : (ev_s E).vm.findClass M.1.cls = some m.cls := by rw [← c9.alike.findClass]; exact c5
  obtain ⟨-, -, -, sa, -, -, -, -, -, hev⟩ := Cond.stringRef_spec hown hsr
  have hstr : vk_R M.1.cls is text sa s := vk_R.warm c9 (vk_R.of hsr hev)
  refine vx_throwSW c1 c2 (by unfold Launch.stackTraces; rw [o2]; decide +kernel) (own := M.1.cls) (cls := cls) (text := text) (names := xs_) (ik := ik) (is := is) (ic := ic) (A := ev_fr E) c5 f1 f2 (c6 _ hk) (c6 _ f3) hstr (fun w hw => ?_) (fun w hw => ?_) hU hN hS (L.1.trans c4.symm) d0 d3 d4 d6 d9 (by rw [c8, htab]; exact fun x hx => absurd hx List.not_mem_nil) (Nat.le_of_ble_eq_true hfr) hlo hkk hnn c7 (fun t h1 h2 h3 => ?_) P.2.2 hkk hnn
  · obtain ⟨g1, g2⟩ := f4 w hw
    rw [Bool.or_eq_true] at g2
    rcases g2 with g2 | g2
    · exact c6 _ (List.mem_filter.mpr ⟨g1, g2⟩)
    · exact cd_at c9 g2 (o3 _ g1 (cd_ew g2).1)
  · rcases List.mem_cons.mp hw with e | hw
    · rw [e]; rfl
    · rcases List.mem_cons.mp hw with e | hw
      · rw [e]; rfl
      · exact gw_ot (f4 w hw).2
  · have hsm : sm_ H t.heap 0 0 := ⟨h2, fun q hq _ => h3 q hq⟩
    refine ⟨hq _ hsm, Nat.le_trans P.1 h2, ⟨Nat.le_trans P.2.1.1 h2, fun q hq => ?_⟩⟩
    rw [h3 q (Nat.lt_of_lt_of_le hq P.2.1.1)]
    exact P.2.1.2 q hq
/-- a call of a method that may throw: it goes on, or the throw leaves this method too -/
theorem aw_ct (a o : Nat) {L : ly_} {s : st_} {M' : mt_} {α : Type} {f : α → Option Value} {v : α ⊕ Nat} {P : Heap → Prop} {As : List Value} {idx ci j u u6 : Nat} {fs : fs_} {st0 : List Value} (hs : sp_ E M' (.ref (a + o) :: As) H (po1 (thr_ f v) P)) (hst : st0 = As.reverse ++ .ref (a + o) :: rest) (hc : cokV_ M') (hl : Cond.methodLink M.1.cls idx M'.1 ∈ uw_) (h : has_ E H a L s) (hL : eo_ L o ci fs) (hci : ∃ T N, vwCl[ci]? = some (M'.1.cls, T, N)) (hn : nok_ M' j) (hj : As.length = j) (hR : rok_ M M' = true) (hu : (mt_R M').cells = u) (hu6 : (mt_R M').slots = u6) (htab : M.2.2.2.2.1 = []) (hroom : (rest.map fun v => v.category).sum ≤ 8) (hkk : k + u ≤ (mt_R M).cells) (hnn : n + u6 ≤ (mt_R M).slots) (hd : decode M.2.1 pc = .ok (.invokevirtual idx, 3))
    (kk : ∀ (x : α) (H1 : Heap), v = .inl x → P H1 → aw E M Q (pc + 3) lv ((f x).toList ++ rest) H1 (k + u) (n + u6)) (kx : ∀ (x : Nat) (H1 : Heap), v = .inr x → P H1 → Q (.inr (xn_ x)) H1) : aw E M Q pc lv st0 H k n := by
  subst hu hu6
  refine aw_callV hs hst hc hl (h o _ hL) hci hn hj hR htab hroom hkk hnn hd (fun r H1 _ hq => ?_) (fun X H1 _ hq => ?_)
  · cases v with
    | inl x => have e := Sum.inl.inj hq.1; rw [e]; exact kk x H1 rfl hq.2
    | inr x => cases hq.1
  · cases v with
    | inl x => cases hq.1
    | inr x => have e := Sum.inr.inj hq.1; rw [e]; exact kx x H1 rfl hq.2
theorem aw_cts {M' : mt_} {α : Type} {f : α → Option Value} {v : α ⊕ Nat} {P : Heap → Prop} {As : List Value} {idx j u u6 : Nat} {st0 : List Value} (hs : sp_ E M' As H (po1 (thr_ f v) P)) (hst : st0 = As.reverse ++ rest) (hc : cokS_ M') (hl : Cond.methodLink M.1.cls idx M'.1 ∈ uw_) (hn : nok_ M' j) (hj : As.length = j) (hR : rok_ M M' = true) (hu : (mt_R M').cells = u) (hu6 : (mt_R M').slots = u6) (htab : M.2.2.2.2.1 = []) (hroom : (rest.map fun v => v.category).sum ≤ 8) (hkk : k + u ≤ (mt_R M).cells) (hnn : n + u6 ≤ (mt_R M).slots) (hd : decode M.2.1 pc = .ok (.invokestatic idx, 3))
    (kk : ∀ (x : α) (H1 : Heap), v = .inl x → P H1 → aw E M Q (pc + 3) lv ((f x).toList ++ rest) H1 (k + u) (n + u6)) (kx : ∀ (x : Nat) (H1 : Heap), v = .inr x → P H1 → Q (.inr (xn_ x)) H1) : aw E M Q pc lv st0 H k n := by
  subst hu hu6
  refine aw_callS hs hst hc hl hn hj hR htab hroom hkk hnn hd (fun r H1 _ hq => ?_) (fun X H1 _ hq => ?_)
  · cases v with
    | inl x => have e := Sum.inl.inj hq.1; rw [e]; exact kk x H1 rfl hq.2
    | inr x => cases hq.1
  · cases v with
    | inl x => cases hq.1
    | inr x => have e := Sum.inr.inj hq.1; rw [e]; exact kx x H1 rfl hq.2
end AX
theorem tws_1 : tw_ RX7 135 "java/lang/IllegalArgumentException" := ⟨by decide +kernel, by decide +kernel, (uw_mem 121 (by decide +kernel) (by decide +kernel)), by decide +kernel⟩
theorem tws_0 : tw_ RX7 389 "java/lang/IndexOutOfBoundsException" := ⟨by decide +kernel, by decide +kernel, (uw_mem 122 (by decide +kernel) (by decide +kernel)), by decide +kernel⟩
