/-! fields and layouts of the classes; helper rows of 'aw' -/
def fsX0 : fs_ := fun a c => [.int (c 0), .int (c 1), .int (c 2), .ref (a + 1), .ref (a + 2), .int (c 5), .int (c 6), .int (c 7), .int (c 8), .int (c 9), .int (c 10), .int (c 11)]
def fsX1 : fs_ := fun a c => [.ref (a + 1), .ref (a + 5), .ref (a + 8), .ref (a + 11), .ref (a + 12), .ref (a + 13), .ref (a + 14), .int (c 7), .int (c 8), .int (c 9), .int (c 10), .int (c 11), .int (c 12), .int (c 13)]
def fsX2 : fs_ := fun a c => [.ref (a + 1), .ref (a + 34)]
def fsX3 : fs_ := fun a c => [.ref (a + 1), (if c 1 = 1 then .ref (a - 1) else .ref (a + 5)), .int (c 2), .int (c 3), .int (c 4), .int (c 5), .int (c 6)]
def fsX4 : fs_ := fun a c => [.int (c 0), .int (c 1), .ref (a + 1), .ref (a + 9), .ref (a + 10), .ref (a + 11), .ref (a + 12), .ref (a + 13), .ref (a + 20), .int (c 9), .int (c 10), .int (c 11), .int (c 12), .int (c 13)]
def fsX5 : fs_ := fun a c => [.int (c 0), .int (c 1), .int (c 2), .int (c 3), .int (c 4), .ref (a + 1), .ref (a + 2), .int (c 7), .int (c 8), .int (c 9), .int (c 10), .int (c 11), .int (c 12), .ref (a + 3), .int (c 14), .int (c 15), .int (c 16), .int (c 17), .int (c 18)]
def fsX6 : fs_ := fun a c => [.int (c 0), .ref (a + 1), .ref (a + 2)]
def fsX7 : fs_ := fun a c => [.ref (a + 1), .int (c 1), .int (c 2), .ref (a + 2), .ref (a + 8), .ref (a + 83), .ref (a + 116), .ref (a + 119)]
def ly_S : ly_ := [ob_ 5 fsX5, ia_ 6, ia_ 6, ia_ 16]
def ly_A : ly_ := [ob_ 0 fsX0, ia_ 20, ia_ 20]
def ly_D : ly_ := [ob_ 1 fsX1] ++ (sh_ 1 ly_S ++ (sh_ 5 ly_A ++ (sh_ 8 ly_A ++ ([ra_ 5 6 3 15, ia_ 6, ia_ 100, ia_ 100] ++ (sh_ 15 ly_A ++ (sh_ 18 ly_A ++ (sh_ 21 ly_A ++ (sh_ 24 ly_A ++ (sh_ 27 ly_A ++ sh_ 30 ly_A)))))))))
def ly_R : ly_ := [ob_ 4 fsX4, ra_ 7 7 1 2, ia_ 1001, ia_ 1001, ia_ 1001, ia_ 1001, ia_ 1001, ia_ 1001, ia_ 1001, ia_ 1000, ia_ 6, ia_ 6, ia_ 6, ra_ 7 6 1 14, ia_ 6, ia_ 6, ia_ 6, ia_ 6, ia_ 6, ia_ 6, ra_ 7 20 1 21, ia_ 5, ia_ 5, ia_ 5, ia_ 5, ia_ 5, ia_ 5, ia_ 5, ia_ 5, ia_ 5, ia_ 5, ia_ 5, ia_ 5, ia_ 5, ia_ 5, ia_ 5, ia_ 5, ia_ 5, ia_ 5, ia_ 5, ia_ 5]
def ly_G : ly_ := [ob_ 2 fsX2] ++ (sh_ 1 ly_D ++ sh_ 34 ly_R)
def ly_E : ly_ := [ob_ 3 fsX3] ++ (sh_ 1 ly_S ++ [ba_ 0])
def ly_B : ly_ := [ba_ 500] ++ sh_ 1 ly_E
def ly_T : ly_ := [ob_ 6 fsX6, ia_ 9, ia_ 2304]
def ly_M : ly_ := [ob_ 7 fsX7, ba_ 500] ++ (sh_ 2 ly_E ++ (sh_ 8 ly_G ++ (sh_ 83 ly_D ++ sh_ 116 ly_T)))
def ly_I100 : ly_ := [ia_ 100]
theorem wk_of {ws : List Cond} (ps : List Nat) (hp : ws = ps.filterMap (fun i => lw_tbl[i]?)) (hg : ws.all goodWord = true) : ∀ w ∈ ws, w ∈ uw_ := by
  intro w hw
  refine List.mem_filter.mpr ⟨?_, List.all_eq_true.mp hg w hw⟩
  rw [hp] at hw
  obtain ⟨i, _, hi⟩ := List.mem_filterMap.mp hw
  exact List.mem_of_getElem? hi
theorem wkX0 : ∀ w ∈ u_ws RX0 TX0 12, w ∈ uw_ := wk_of [253, 255, 257, 259, 261, 263, 265, 267, 269, 271, 273, 275] (by decide +kernel) (by decide +kernel)
theorem wkX1 : ∀ w ∈ u_ws RX1 TX1 14, w ∈ uw_ := wk_of [307, 309, 311, 313, 315, 317, 319, 321, 323, 325, 327, 329, 331, 333] (by decide +kernel) (by decide +kernel)
theorem wkX2 : ∀ w ∈ u_ws RX2 TX2 2, w ∈ uw_ := wk_of [401, 403] (by decide +kernel) (by decide +kernel)
theorem wkX3 : ∀ w ∈ u_ws RX3 TX3 7, w ∈ uw_ := wk_of [186, 188, 190, 192, 194, 196, 198] (by decide +kernel) (by decide +kernel)
theorem wkX4 : ∀ w ∈ u_ws RX4 TX4 14, w ∈ uw_ := wk_of [368, 370, 372, 374, 376, 378, 380, 382, 384, 386, 388, 390, 392, 394] (by decide +kernel) (by decide +kernel)
theorem wkX5 : ∀ w ∈ u_ws RX5 TX5 19, w ∈ uw_ := wk_of [135, 137, 139, 141, 143, 145, 147, 149, 151, 153, 155, 157, 159, 161, 163, 165, 167, 169, 171] (by decide +kernel) (by decide +kernel)
theorem wkX6 : ∀ w ∈ u_ws RX6 TX6 3, w ∈ uw_ := wk_of [417, 419, 421] (by decide +kernel) (by decide +kernel)
theorem wkX7 : ∀ w ∈ u_ws RX7 TX7 8, w ∈ uw_ := wk_of [473, 475, 477, 479, 481, 483, 485, 487] (by decide +kernel) (by decide +kernel)
def aro_ (r : Nat) : Prop := r = 5 ∨ ∃ k, k < 6 ∧ r = 3 * k + 15
theorem aro_lt {r : Nat} (h : aro_ r) : r + 3 ≤ 33 := by
  rcases h with h | ⟨k, h1, h2⟩ <;> omega
def tx_ (v : Int32) : Bool := decide (v = 1)
theorem tx_ok {a : Nat} {c : Nat → Int32} (h : tx_ (c 1) = true) : (fsX3 (a + 1) c)[1]? = some (.ref a) := by
  have h1 : c 1 = 1 := of_decide_eq_true h
  show some (if c 1 = 1 then Value.ref (a + 1 - 1) else Value.ref (a + 1 + 5)) = _
  rw [if_pos h1]
  rfl
theorem bz_f {v : Int32} (h : bz_ v = true) : fits .boolean (.int v) = true := by
  unfold bz_ at h
  rw [Bool.or_eq_true] at h
  rcases h with h | h
  · rw [of_decide_eq_true h]; decide +kernel
  · rw [of_decide_eq_true h]; decide +kernel
def nz_ (v : Int32) : Bool := decide (¬ v = 0)
theorem nz_x {v : Int32} (h : nz_ v = true) : ¬ v = 0 := of_decide_eq_true h
def nzl_ (v : Int64) : Bool := decide (¬ v = 0)
theorem nzl_x {v : Int64} (h : nzl_ v = true) : ¬ v = 0 := of_decide_eq_true h
section AT
variable {E : ev_} {M : mt_} {Q : po_} {pc : Nat} {lv : List (Nat × Value)} {rest : List Value} {H : Heap} {k n : Nat}
theorem aw_plt (a o : Nat) {L : ly_} {s s' : st_} {idx : Nat} (h : has_ E H a L s) (hL : eo_ L o 3 fsX3) (hf : fpk_ M.1.cls idx 3 1 (.array .byte)) (hfr : ev_fr E a) (ho : o = 1) (he : s' = pt_ s o 1 1) (hd : decode M.2.1 pc = .ok (.putfield idx, 3)) (kk : ∀ H1 : Heap, has_ E H1 a L s' → sm_ H H1 (a + o) 1 → aw E M Q (pc + 3) lv rest H1 k n) : aw E M Q pc lv (.ref a :: .ref (a + o) :: rest) H k n := by
  subst ho
  refine aw_put hf (h 1 _ hL) (Nat.le_trans hfr (Nat.le_add_right a 1)) rfl rfl rfl hd (fun H1 h1 h2 => kk H1 ?_ (sm_.of1 h2))
  have e : (fsX3 (a + 1) (s 1)).set 1 (.ref a) = fsX3 (a + 1) (up_ (s 1) 1 1) := by simp [fsX3, up_]
  have h1' : at_ E H1 (a + 1) (ob_ 3 fsX3 E (a + 1) (up_ (s 1) 1 1)) := by
    unfold ob_
    rw [← e]
    exact h1
  exact h.put hL h1' (sm_.of1 h2) he
/-- a switch: what follows by the values, one behind another -/
def tg_ (E : ev_) (M : mt_) (Q : po_) (x : Int32) (lv : List (Nat × Value)) (rest : List Value) (H : Heap) (k n : Nat) : List (Int32 × Nat) → Nat → Prop
  | [], d => aw E M Q d lv rest H k n
  | q :: r, d => (x = q.1 → aw E M Q q.2 lv rest H k n) ∧ (¬ x = q.1 → tg_ E M Q x lv rest H k n r d)
theorem aw_tg {x v : Int32} {t d : Nat} {r : List (Int32 × Nat)} (h1 : x = v → aw E M Q t lv rest H k n) (h2 : ¬ x = v → tg_ E M Q x lv rest H k n r d) : tg_ E M Q x lv rest H k n ((v, t) :: r) d := ⟨h1, h2⟩
theorem tg_x {x : Int32} {d : Nat} : ∀ {l : List (Int32 × Nat)}, tg_ E M Q x lv rest H k n l d → (∃ q ∈ l, q.1 = x ∧ aw E M Q q.2 lv rest H k n) ∨ ((∀ q ∈ l, ¬ q.1 = x) ∧ aw E M Q d lv rest H k n)
  | [], h => Or.inr ⟨fun q hq => absurd hq List.not_mem_nil, h⟩
  | q :: r, h => by
    by_cases hx : x = q.1
    · exact Or.inl ⟨q, List.mem_cons_self, hx.symm, h.1 hx⟩
    · rcases tg_x (l := r) (h.2 hx) with ⟨z, h1, h2⟩ | ⟨h1, h2⟩
      · exact Or.inl ⟨z, List.mem_cons_of_mem _ h1, h2⟩
      · refine Or.inr ⟨fun z hz => ?_, h2⟩
        rcases List.mem_cons.mp hz with e | hz
        · rw [e]; exact fun e => hx e.symm
        · exact h1 z hz
def tsc_ (pc : Nat) (dflt lo hi : Int) (offs : Array Int) (l : List (Int32 × Nat)) (d : Nat) : Bool :=
  decide ((pc : Int) + dflt = (d : Int)) && decide (hi + 1 = lo + (l.length : Int)) && decide (l.map (fun q => (q.1.toInt, (q.2 : Int))) = (List.range l.length).map (fun (j : Nat) => (lo + (j : Int), (pc : Int) + offs.getD j 0))) && decide (offs.size = l.length)
def tsd_ (cc : ByteArray) (pc : Nat) (l : List (Int32 × Nat)) (d : Nat) : Bool := match decode cc pc with
  | .ok (.tableswitch dflt lo hi offs, _) => tsc_ pc dflt lo hi offs l d
  | _ => false
theorem aw_ts {x : Int32} (l : List (Int32 × Nat)) (d : Nat) (hd : tsd_ M.2.1 pc l d = true) (kk : tg_ E M Q x lv rest H k n l d) : aw E M Q pc lv (.int x :: rest) H k n := by
  unfold tsd_ at hd
  split at hd
  · rename_i dflt lo hi offs len hdec
    unfold tsc_ at hd
    rw [Bool.and_eq_true, Bool.and_eq_true, Bool.and_eq_true] at hd
    obtain ⟨⟨⟨c1, c2⟩, c3⟩, c4⟩ := hd
    have c1 := of_decide_eq_true c1
    have c2 := of_decide_eq_true c2
    have c3 := of_decide_eq_true c3
    have c4 := of_decide_eq_true c4
    have key : ∀ (j : Nat) (q : Int32 × Nat), l[j]? = some q → q.1.toInt = lo + (j : Int) ∧ (q.2 : Int) = (pc : Int) + offs.getD j 0 := by
      intro j q hq
      have hj : j < l.length := (List.getElem?_eq_some_iff.mp hq).1
      have h1 : (l.map (fun q => (q.1.toInt, (q.2 : Int))))[j]? = some (q.1.toInt, (q.2 : Int)) := by rw [List.getElem?_map, hq]; rfl
      rw [c3, List.getElem?_map, List.getElem?_range hj] at h1
      have h2 := Option.some.inj h1
      exact ⟨(congrArg Prod.fst h2).symm, (congrArg Prod.snd h2).symm⟩
    refine aw_tsw hdec d c1 (fun ho => ?_) (fun hin => ?_)
    · rcases tg_x kk with ⟨q, hq, hqx, _⟩ | ⟨_, h2⟩
      · obtain ⟨j, hj, hjq⟩ := List.mem_iff_getElem.mp hq
        have h3 := key j q (by rw [List.getElem?_eq_getElem hj, hjq])
        rw [hqx] at h3
        omega
      · exact h2
    · have hlo : lo ≤ x.toInt := by omega
      have hhi : x.toInt ≤ hi := by omega
      obtain ⟨j, hj⟩ : ∃ j : Nat, x.toInt = lo + (j : Int) := ⟨(x.toInt - lo).toNat, by omega⟩
      have hjl : j < l.length := by omega
      have hoff : offs[(x.toInt - lo).toNat]? = some (offs.getD j 0) := by
        have e : (x.toInt - lo).toNat = j := by omega
        have hjs : j < offs.size := by omega
        rw [e, Array.getElem?_eq_getElem hjs, Array.getD_eq_getD_getElem?, Array.getElem?_eq_getElem hjs]
        rfl
      have hlj := key j _ (List.getElem?_eq_getElem hjl)
      rcases tg_x kk with ⟨q, hq, hqx, h2⟩ | ⟨h1, _⟩
      · obtain ⟨i, hi2, hiq⟩ := List.mem_iff_getElem.mp hq
        have h3 := key i q (by rw [List.getElem?_eq_getElem hi2, hiq])
        have eij : i = j := by rw [hqx] at h3; omega
        subst eij
        exact ⟨_, q.2, hoff, h3.2.symm, h2⟩
      · exact absurd (Int32.toInt_inj.mp (hlj.1.trans hj.symm)) (h1 _ (List.getElem_mem hjl))
  · cases hd
end AT
