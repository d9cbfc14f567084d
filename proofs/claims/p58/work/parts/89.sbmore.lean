/-! StringBuilder, the rest: letters, numbers, the outer methods, constructors, toString -/
def dd_ (k : Nat) : Int32 := nI (48 + k)
/-- the digits of a number below 100000 -/
def dg_ (x : Nat) : List Int32 := if x < 10 then [dd_ x] else if x < 100 then [dd_ (x / 10), dd_ (x % 10)] else if x < 1000 then [dd_ (x / 100), dd_ (x % 100 / 10), dd_ (x % 100 % 10)] else if x < 10000 then [dd_ (x / 100 / 10), dd_ (x / 100 % 10), dd_ (x % 100 / 10), dd_ (x % 100 % 10)] else [dd_ (x / 100 / 100), dd_ (x / 100 % 100 / 10), dd_ (x / 100 % 100 % 10), dd_ (x % 100 / 10), dd_ (x % 100 % 10)]
theorem dd_ok : ∀ k, k < 10 → 0 < dd_ k ∧ dd_ k < 128 := by decide
theorem dg_ok {x : Nat} (h : x < 100000) : (∀ c ∈ dg_ x, 0 < c ∧ c < 128) ∧ 1 ≤ (dg_ x).length ∧ (dg_ x).length ≤ 5 := by
  have key : ∀ l : List Nat, (∀ k ∈ l, k < 10) → ∀ c ∈ l.map dd_, 0 < c ∧ c < 128 := fun l hl c hc => by
    obtain ⟨k, hk, rfl⟩ := List.mem_map.mp hc
    exact dd_ok k (hl k hk)
  unfold dg_
  split
  · exact ⟨key [x] (fun k hk => by simp only [List.mem_cons, List.not_mem_nil, or_false] at hk; omega), by simp, by simp⟩
  · split
    · exact ⟨key [x / 10, x % 10] (fun k hk => by simp only [List.mem_cons, List.not_mem_nil, or_false] at hk; omega), by simp, by simp⟩
    · split
      · exact ⟨key [x / 100, x % 100 / 10, x % 100 % 10] (fun k hk => by simp only [List.mem_cons, List.not_mem_nil, or_false] at hk; omega), by simp, by simp⟩
      · split
        · exact ⟨key [x / 100 / 10, x / 100 % 10, x % 100 / 10, x % 100 % 10] (fun k hk => by simp only [List.mem_cons, List.not_mem_nil, or_false] at hk; omega), by simp, by simp⟩
        · exact ⟨key [x / 100 / 100, x / 100 % 100 / 10, x / 100 % 100 % 10, x % 100 / 10, x % 100 % 10] (fun k hk => by simp only [List.mem_cons, List.not_mem_nil, or_false] at hk; omega), by simp, by simp⟩
theorem dgl_1 {g : Nat → Int32} {i x : Nat} (hi : 1 ≤ i) (hx : x < 10) : up_ g (i - 1) (dd_ x) = bpt_ g (i - (dg_ x).length) (dg_ x) := by
  have e : dg_ x = [dd_ x] := if_pos hx
  rw [e]
  funext j
  unfold bpt_
  rcases (show j = i - 1 ∨ (j < i - 1 ∨ i ≤ j) by omega) with rfl | h
  · rw [up_a, if_pos (by simp only [List.length_cons, List.length_nil]; omega), show i - 1 - (i - [dd_ x].length) = 0 by simp]
    rfl
  · rw [up_n (by omega), if_neg (by simp only [List.length_cons, List.length_nil]; omega)]
theorem dgl_2 {g : Nat → Int32} {i x : Nat} (hi : 2 ≤ i) (h1 : 10 ≤ x) (hx : x < 100) : up_ (up_ g (i - 1) (dd_ (x % 10))) (i - 2) (dd_ (x / 10)) = bpt_ g (i - (dg_ x).length) (dg_ x) := by
  have e : dg_ x = [dd_ (x / 10), dd_ (x % 10)] := by unfold dg_; rw [if_neg (by omega), if_pos hx]
  rw [e]
  generalize dd_ (x % 10) = a
  generalize dd_ (x / 10) = b
  funext j
  unfold bpt_
  simp only [List.length_cons, List.length_nil]
  rcases (show j = i - 1 ∨ j = i - 2 ∨ (j < i - 2 ∨ i ≤ j) by omega) with rfl | rfl | h
  · simp (disch := omega) only [up_n, up_a]
    rw [if_pos (by omega), show i - 1 - (i - (0 + 1 + 1)) = 1 by omega]
    rfl
  · simp (disch := omega) only [up_n, up_a]
    rw [if_pos (by omega), show i - 2 - (i - (0 + 1 + 1)) = 0 by omega]
    rfl
  · simp (disch := omega) only [up_n, up_a]
    rw [if_neg (by omega)]
theorem dgl_3 {g : Nat → Int32} {i x : Nat} (hi : 3 ≤ i) (h1 : 100 ≤ x) (hx : x < 1000) : up_ (up_ (up_ g (i - 1) (dd_ (x % 100 % 10))) (i - 2) (dd_ (x % 100 / 10))) (i - 2 - 1) (dd_ (x / 100)) = bpt_ g (i - (dg_ x).length) (dg_ x) := by
  have e : dg_ x = [dd_ (x / 100), dd_ (x % 100 / 10), dd_ (x % 100 % 10)] := by unfold dg_; rw [if_neg (by omega), if_neg (by omega), if_pos hx]
  rw [e]
  generalize dd_ (x % 100 % 10) = a
  generalize dd_ (x % 100 / 10) = b
  generalize dd_ (x / 100) = c
  funext j
  unfold bpt_
  simp only [List.length_cons, List.length_nil]
  rcases (show j = i - 1 ∨ j = i - 2 ∨ j = i - 3 ∨ (j < i - 3 ∨ i ≤ j) by omega) with rfl | rfl | rfl | h
  · simp (disch := omega) only [up_n, up_a]
    rw [if_pos (by omega), show i - 1 - (i - (0 + 1 + 1 + 1)) = 2 by omega]
    rfl
  · simp (disch := omega) only [up_n, up_a]
    rw [if_pos (by omega), show i - 2 - (i - (0 + 1 + 1 + 1)) = 1 by omega]
    rfl
  · rw [show i - 2 - 1 = i - 3 by omega]
    simp (disch := omega) only [up_n, up_a]
    rw [if_pos (by omega), show i - 3 - (i - (0 + 1 + 1 + 1)) = 0 by omega]
    rfl
  · simp (disch := omega) only [up_n, up_a]
    rw [if_neg (by omega)]
theorem dgl_4 {g : Nat → Int32} {i x : Nat} (hi : 4 ≤ i) (h1 : 1000 ≤ x) (hx : x < 10000) : up_ (up_ (up_ (up_ g (i - 1) (dd_ (x % 100 % 10))) (i - 2) (dd_ (x % 100 / 10))) (i - 2 - 1) (dd_ (x / 100 % 10))) (i - 2 - 2) (dd_ (x / 100 / 10)) = bpt_ g (i - (dg_ x).length) (dg_ x) := by
  have e : dg_ x = [dd_ (x / 100 / 10), dd_ (x / 100 % 10), dd_ (x % 100 / 10), dd_ (x % 100 % 10)] := by unfold dg_; rw [if_neg (by omega), if_neg (by omega), if_neg (by omega), if_pos hx]
  rw [e]
  generalize dd_ (x % 100 % 10) = a
  generalize dd_ (x % 100 / 10) = b
  generalize dd_ (x / 100 % 10) = c
  generalize dd_ (x / 100 / 10) = d
  funext j
  unfold bpt_
  simp only [List.length_cons, List.length_nil]
  rcases (show j = i - 1 ∨ j = i - 2 ∨ j = i - 3 ∨ j = i - 4 ∨ (j < i - 4 ∨ i ≤ j) by omega) with rfl | rfl | rfl | rfl | h
  · simp (disch := omega) only [up_n, up_a]
    rw [if_pos (by omega), show i - 1 - (i - (0 + 1 + 1 + 1 + 1)) = 3 by omega]
    rfl
  · simp (disch := omega) only [up_n, up_a]
    rw [if_pos (by omega), show i - 2 - (i - (0 + 1 + 1 + 1 + 1)) = 2 by omega]
    rfl
  · rw [show i - 2 - 1 = i - 3 by omega]
    simp (disch := omega) only [up_n, up_a]
    rw [if_pos (by omega), show i - 3 - (i - (0 + 1 + 1 + 1 + 1)) = 1 by omega]
    rfl
  · rw [show i - 2 - 2 = i - 4 by omega]
    simp (disch := omega) only [up_n, up_a]
    rw [if_pos (by omega), show i - 4 - (i - (0 + 1 + 1 + 1 + 1)) = 0 by omega]
    rfl
  · simp (disch := omega) only [up_n, up_a]
    rw [if_neg (by omega)]
theorem dgl_5 {g : Nat → Int32} {i x : Nat} (hi : 5 ≤ i) (h1 : 10000 ≤ x) : up_ (up_ (up_ (up_ (up_ g (i - 1) (dd_ (x % 100 % 10))) (i - 2) (dd_ (x % 100 / 10))) (i - 2 - 1) (dd_ (x / 100 % 100 % 10))) (i - 2 - 2) (dd_ (x / 100 % 100 / 10))) (i - 2 - 2 - 1) (dd_ (x / 100 / 100)) = bpt_ g (i - (dg_ x).length) (dg_ x) := by
  have e : dg_ x = [dd_ (x / 100 / 100), dd_ (x / 100 % 100 / 10), dd_ (x / 100 % 100 % 10), dd_ (x % 100 / 10), dd_ (x % 100 % 10)] := by unfold dg_; rw [if_neg (by omega), if_neg (by omega), if_neg (by omega), if_neg (by omega)]
  rw [e]
  generalize dd_ (x % 100 % 10) = a
  generalize dd_ (x % 100 / 10) = b
  generalize dd_ (x / 100 % 100 % 10) = c
  generalize dd_ (x / 100 % 100 / 10) = d
  generalize dd_ (x / 100 / 100) = f
  funext j
  unfold bpt_
  simp only [List.length_cons, List.length_nil]
  rcases (show j = i - 1 ∨ j = i - 2 ∨ j = i - 3 ∨ j = i - 4 ∨ j = i - 5 ∨ (j < i - 5 ∨ i ≤ j) by omega) with rfl | rfl | rfl | rfl | rfl | h
  · simp (disch := omega) only [up_n, up_a]
    rw [if_pos (by omega), show i - 1 - (i - (0 + 1 + 1 + 1 + 1 + 1)) = 4 by omega]
    rfl
  · simp (disch := omega) only [up_n, up_a]
    rw [if_pos (by omega), show i - 2 - (i - (0 + 1 + 1 + 1 + 1 + 1)) = 3 by omega]
    rfl
  · rw [show i - 2 - 1 = i - 3 by omega]
    simp (disch := omega) only [up_n, up_a]
    rw [if_pos (by omega), show i - 3 - (i - (0 + 1 + 1 + 1 + 1 + 1)) = 2 by omega]
    rfl
  · rw [show i - 2 - 2 = i - 4 by omega]
    simp (disch := omega) only [up_n, up_a]
    rw [if_pos (by omega), show i - 4 - (i - (0 + 1 + 1 + 1 + 1 + 1)) = 1 by omega]
    rfl
  · rw [show i - 2 - 2 - 1 = i - 5 by omega]
    simp (disch := omega) only [up_n, up_a]
    rw [if_pos (by omega), show i - 5 - (i - (0 + 1 + 1 + 1 + 1 + 1)) = 0 by omega]
    rfl
  · simp (disch := omega) only [up_n, up_a]
    rw [if_neg (by omega)]
theorem bpt_1 {g : Nat → Int32} {i : Nat} {c : Int32} : up_ g i c = bpt_ g i [c] := by
  funext j
  unfold bpt_
  simp only [List.length_cons, List.length_nil]
  rcases (show j = i ∨ (j < i ∨ i + 1 ≤ j) by omega) with rfl | h
  · rw [up_a, if_pos (by omega), Nat.sub_self]
    rfl
  · rw [up_n (by omega), if_neg (by omega)]
theorem n10_ (p : Nat) : (10 : Int32) * (-nI p) = -nI (p * 10) := by
  rw [Int32.mul_neg, show (10 : Int32) = nI 10 from rfl, pk_mul, Nat.mul_comm]
theorem dd_by : ∀ k, k < 10 → nb_ (dd_ k) = dd_ k := by decide +kernel
def mJ6s : mt_ := (yJ6_stringSize_0f7a4, cJ6_stringSize_0f7a4, 4, some .int, [], { frames := 0, locals := 0, cells := 0, slots := 0 })
theorem ck_mJ6s : cokS_ mJ6s := ⟨⟨(uw_mem 851 (by decide +kernel) (by decide +kernel)), (uw_mem 47 (by decide +kernel) (by decide +kernel)), by decide +kernel, by decide +kernel⟩, (uw_mem 850 (by decide +kernel) (by decide +kernel))⟩
theorem nk_mJ6s : nok_ mJ6s 1 := by decide +kernel
def mJ6g : mt_ := (yJ6_getChars_ba4f3, cJ6_getChars_ba4f3, 7, some .int, [], { frames := 0, locals := 0, cells := 0, slots := 0 })
theorem ck_mJ6g : cokS_ mJ6g := ⟨⟨(uw_mem 854 (by decide +kernel) (by decide +kernel)), (uw_mem 47 (by decide +kernel) (by decide +kernel)), by decide +kernel, by decide +kernel⟩, (uw_mem 853 (by decide +kernel) (by decide +kernel))⟩
theorem nk_mJ6g : nok_ mJ6g 3 := by decide +kernel
def mJ1e : mt_ := (yJ1_canEncode_fc78d, cJ1_canEncode_fc78d, 1, some .boolean, [], { frames := 0, locals := 0, cells := 0, slots := 0 })
theorem ck_mJ1e : cokS_ mJ1e := ⟨⟨(uw_mem 951 (by decide +kernel) (by decide +kernel)), (uw_mem 46 (by decide +kernel) (by decide +kernel)), by decide +kernel, by decide +kernel⟩, (uw_mem 950 (by decide +kernel) (by decide +kernel))⟩
theorem nk_mJ1e : nok_ mJ1e 1 := by decide +kernel
def mJ5a : mt_ := (yJ5_append_3fe6f, cJ5_append_3fe6f, 2, some (.object "java/lang/AbstractStringBuilder"), [], { frames := 4, locals := 104, cells := 1, slots := 1200 })
theorem ck_mJ5a : cok_ mJ5a := ⟨(uw_mem 948 (by decide +kernel) (by decide +kernel)), (uw_mem 39 (by decide +kernel) (by decide +kernel)), by decide +kernel, by decide +kernel⟩
theorem nk_mJ5a : nok_ mJ5a 1 := by decide +kernel
theorem imJ5_append_3fe6f : Cond.instanceMethod yJ5_append_3fe6f ∈ uw_ := (uw_mem 947 (by decide +kernel) (by decide +kernel))
theorem smJ5_append_3fe6f : Cond.sameMethod yJ5_append_3fe6f.cls yJ5_append_3fe6f.cls yJ5_append_3fe6f.name yJ5_append_3fe6f.desc ∈ uw_ := (uw_mem 1484 (by decide +kernel) (by decide +kernel))
def mJ5b : mt_ := (yJ5_append_c97b9, cJ5_append_c97b9, 4, some (.object "java/lang/AbstractStringBuilder"), [], { frames := 4, locals := 104, cells := 1, slots := 1200 })
theorem ck_mJ5b : cok_ mJ5b := ⟨(uw_mem 848 (by decide +kernel) (by decide +kernel)), (uw_mem 39 (by decide +kernel) (by decide +kernel)), by decide +kernel, by decide +kernel⟩
theorem nk_mJ5b : nok_ mJ5b 1 := by decide +kernel
theorem imJ5_append_c97b9 : Cond.instanceMethod yJ5_append_c97b9 ∈ uw_ := (uw_mem 847 (by decide +kernel) (by decide +kernel))
theorem smJ5_append_c97b9 : Cond.sameMethod yJ5_append_c97b9.cls yJ5_append_c97b9.cls yJ5_append_c97b9.name yJ5_append_c97b9.desc ∈ uw_ := (uw_mem 1482 (by decide +kernel) (by decide +kernel))
section SN
variable {E : ev_} {Q : po_} {H : Heap} {b v m n q i x p k1 n1 : Nat} {z : Int32} {g : Nat → Int32} {L : List Int32}
theorem ss_it (hi : i < 10) (hp : p ≤ 100000) (hx : x < 100000) (hk1 : p ≤ x → aw E mJ6s Q 16 [(0, .int (-nI x)), (1, .int (0 : Int32)), (2, .int (-nI (p * 10))), (3, .int (nI (i + 1)))] [] H 0 0) (hk2 : x < p → aw E mJ6s Q 30 [(0, .int (-nI x)), (1, .int (0 : Int32)), (2, .int (-nI p)), (3, .int (nI i))] [.int (nI i)] H 0 0) : aw E mJ6s Q 16 [(0, .int (-nI x)), (1, .int (0 : Int32)), (2, .int (-nI p)), (3, .int (nI i))] [] H 0 0 := by
  refine aw_b (pc' := 19) (lv' := [(0, .int (-nI x)), (1, .int (0 : Int32)), (2, .int (-nI p)), (3, .int (nI i))]) (st' := [.int (10 : Int32), .int (nI i)]) [(16, .iload_n 3, 1, .null), (17, .bipush 10, 2, .int (10 : Int32))] (by decide +kernel) rfl ?_
  refine aw_ic_ge (off := 23) 42 (by decide) (by decide +kernel) (fun hc => absurd hc (nI_ge (b := 10) hi (by omega))) (fun _ => ?_)
  refine aw_b (pc' := 24) (lv' := [(0, .int (-nI x)), (1, .int (0 : Int32)), (2, .int (-nI p)), (3, .int (nI i))]) (st' := [.int (-nI p), .int (-nI x)]) [(22, .iload_n 0, 1, .null), (23, .iload_n 2, 1, .null)] (by decide +kernel) rfl ?_
  refine aw_ic_le (off := 7) 31 (by decide) (by decide +kernel) (fun hc => ?_) (fun hc => ?_)
  · skip
    refine aw_b (pc' := 34) (lv' := [(0, .int (-nI x)), (1, .int (0 : Int32)), (2, .int (-nI p)), (3, .int (nI i))]) (st' := [.int (-nI p), .int (10 : Int32)]) [(31, .bipush 10, 2, .int (10 : Int32)), (33, .iload_n 2, 1, .null)] (by decide +kernel) rfl ?_
    refine aw_b (pc' := 35) (lv' := [(0, .int (-nI x)), (1, .int (0 : Int32)), (2, .int (-nI p)), (3, .int (nI i))]) (st' := [.int ((10 : Int32) * (-nI p))]) [(34, .imul, 1, .null)] (by decide +kernel) rfl ?_
    rw [n10_]
    refine aw_b (pc' := 16) (lv' := [(3, .int (nI i + (1 : Int32))), (2, .int (-nI (p * 10))), (0, .int (-nI x)), (1, .int (0 : Int32))]) (st' := []) [(35, .istore_n 2, 1, .null), (36, .iinc 3 1, 3, .int (1 : Int32)), (39, .goto (-23), 3, .null)] (by decide +kernel) rfl ?_
    rw [nI_1]
    refine aw_lv (lv' := [(0, .int (-nI x)), (1, .int (0 : Int32)), (2, .int (-nI (p * 10))), (3, .int (nI (i + 1)))]) [2, 3, 1, 0] rfl ?_
    exact hk1 ((sb_nle (by omega) (by omega)).mp hc)
  · skip
    refine aw_b (pc' := 30) (lv' := [(0, .int (-nI x)), (1, .int (0 : Int32)), (2, .int (-nI p)), (3, .int (nI i))]) (st' := [.int ((nI i) + (0 : Int32))]) [(27, .iload_n 3, 1, .null), (28, .iload_n 1, 1, .null), (29, .iadd, 1, .null)] (by decide +kernel) rfl ?_
    rw [Int32.add_zero]
    have hxp : x < p := by
      rcases Nat.lt_or_ge x p with h | h
      · exact h
      · exact absurd ((sb_nle (by omega) (by omega)).mpr h) hc
    exact hk2 hxp
theorem kJ6s (hx : x < 100000) : sp_ E mJ6s [.int (nI x)] H (po1 (.inl (some (.int (nI (dg_ x).length)))) (fun Hn => sm_ H Hn 0 0)) := by
  refine sp_of (by decide +kernel) rfl rfl ?_
  generalize hQ0 : po1 _ _ = Q0
  refine aw_lv (lv' := [(0, .int (nI x))]) [0] rfl ?_
  refine aw_b (pc' := 3) (lv' := [(1, .int (1 : Int32)), (0, .int (nI x))]) (st' := [.int (nI x)]) [(0, .iconst 1, 1, .int (1 : Int32)), (1, .istore_n 1, 1, .null), (2, .iload_n 0, 1, .null)] (by decide +kernel) rfl ?_
  refine aw_if_lt (off := 8) 11 (by decide) (by decide +kernel) (fun hc => absurd hc (nI_pos (by omega))) (fun _ => ?_)
  refine aw_b (pc' := 16) (lv' := [(3, .int (1 : Int32)), (2, .int (-10 : Int32)), (0, .int (-(nI x))), (1, .int (0 : Int32))]) (st' := []) [(6, .iconst 0, 1, .int (0 : Int32)), (7, .istore_n 1, 1, .null), (8, .iload_n 0, 1, .null), (9, .ineg, 1, .null), (10, .istore_n 0, 1, .null), (11, .bipush (-10), 2, .int (-10 : Int32)), (13, .istore_n 2, 1, .null), (14, .iconst 1, 1, .int (1 : Int32)), (15, .istore_n 3, 1, .null)] (by decide +kernel) rfl ?_
  rw [show (-10 : Int32) = -nI 10 from by decide]
  refine aw_lv (lv' := [(0, .int (-nI x)), (1, .int (0 : Int32)), (2, .int (-nI 10)), (3, .int (nI 1))]) [2, 3, 1, 0] rfl ?_
  have fin : ∀ i p : Nat, (dg_ x).length = i → aw E mJ6s Q0 30 [(0, .int (-nI x)), (1, .int (0 : Int32)), (2, .int (-nI p)), (3, .int (nI i))] [.int (nI i)] H 0 0 := fun i p hip => aw_iret rfl (Nat.zero_le _) (Nat.zero_le _) (by decide +kernel) (by rw [← hQ0, ← hip]; exact ⟨rfl, sm_.rfl'⟩)
  refine ss_it (by omega) (by omega) hx (fun h1 => ?_) (fun h1 => fin _ _ (by unfold dg_; rw [if_pos h1]; rfl))
  refine ss_it (by omega) (by omega) hx (fun h2 => ?_) (fun h2 => fin _ _ (by unfold dg_; rw [if_neg (by omega), if_pos h2]; rfl))
  refine ss_it (by omega) (by omega) hx (fun h3 => ?_) (fun h3 => fin _ _ (by unfold dg_; rw [if_neg (by omega), if_neg (by omega), if_pos h3]; rfl))
  refine ss_it (by omega) (by omega) hx (fun h4 => ?_) (fun h4 => fin _ _ (by unfold dg_; rw [if_neg (by omega), if_neg (by omega), if_neg (by omega), if_pos h4]; rfl))
  exact ss_it (by omega) (by omega) hx (fun h5 => absurd hx (by omega)) (fun h5 => fin _ _ (by unfold dg_; rw [if_neg (by omega), if_neg (by omega), if_neg (by omega), if_neg (by omega)]; rfl))
theorem fsJ6_83 : Cond.fieldLink RJ6 83 "java/lang/Integer" "DigitOnes" "[B" ∈ uw_ := (uw_mem 855 (by decide +kernel) (by decide +kernel))
theorem fsJ6_87 : Cond.fieldLink RJ6 87 "java/lang/Integer" "DigitTens" "[B" ∈ uw_ := (uw_mem 857 (by decide +kernel) (by decide +kernel))
theorem gc_it {t1 t2 : Nat} (hd1 : va_Z "java/lang/Integer" "DigitOnes" "[B" (.ref t1) (ev_fr E) (ev_s E) (ev_s E).heap ∧ va_T .byte t1 100 (fun j => .int (nI (48 + j % 10))) (ev_fr E) (ev_s E) (ev_s E).heap) (hd2 : va_Z "java/lang/Integer" "DigitTens" "[B" (.ref t2) (ev_fr E) (ev_s E) (ev_s E).heap ∧ va_T .byte t2 100 (fun j => .int (nI (48 + j / 10))) (ev_fr E) (ev_s E) (ev_s E).heap) (hv : at_ E H v (.inl (E.2.1 1, m, .inl g))) (hf : ev_fr E v) (hx : x < 100000) (h100 : 100 ≤ x) (hi2 : 2 ≤ i) (him : i ≤ m) (hm : m ≤ 1200) (hk : ∀ H1 : Heap, at_ E H1 v (.inl (E.2.1 1, m, .inl (up_ (up_ g (i - 1) (dd_ (x % 100 % 10))) (i - 2) (dd_ (x % 100 / 10))))) → sm_ H H1 v 1 → aw E mJ6g Q 22 [(0, .int (-nI (x / 100))), (2, .ref v), (5, .int (nI (i - 2))), (6, .int (0 : Int32))] [] H1 0 0) : aw E mJ6g Q 22 [(0, .int (-nI x)), (2, .ref v), (5, .int (nI i)), (6, .int (0 : Int32))] [] H 0 0 := by
  refine aw_b (pc' := 25) (lv' := [(0, .int (-nI x)), (2, .ref v), (5, .int (nI i)), (6, .int (0 : Int32))]) (st' := [.int (-100 : Int32), .int (-nI x)]) [(22, .iload_n 0, 1, .null), (23, .bipush (-100), 2, .int (-100 : Int32))] (by decide +kernel) rfl ?_
  rw [show (-100 : Int32) = -nI 100 from by decide]
  refine aw_ic_gt (off := 47) 72 (by decide) (by decide +kernel) (fun hc => absurd ((sb_nlt (by omega) (by omega)).mp hc) (by omega)) (fun _ => ?_)
  refine aw_b (pc' := 31) (lv' := [(0, .int (-nI x)), (2, .ref v), (5, .int (nI i)), (6, .int (0 : Int32))]) (st' := [.int (100 : Int32), .int (-nI x)]) [(28, .iload_n 0, 1, .null), (29, .bipush 100, 2, .int (100 : Int32))] (by decide +kernel) rfl ?_
  refine aw_idv (by decide) (by decide +kernel) ?_
  rw [sb_ndiv (by omega)]
  refine aw_b (pc' := 38) (lv' := [(3, .int (-nI (x / 100))), (0, .int (-nI x)), (2, .ref v), (5, .int (nI i)), (6, .int (0 : Int32))]) (st' := [.int (-nI x), .int ((-nI (x / 100)) * (100 : Int32))]) [(32, .istore_n 3, 1, .null), (33, .iload_n 3, 1, .null), (34, .bipush 100, 2, .int (100 : Int32)), (36, .imul, 1, .null), (37, .iload_n 0, 1, .null)] (by decide +kernel) rfl ?_
  refine aw_b (pc' := 39) (lv' := [(3, .int (-nI (x / 100))), (0, .int (-nI x)), (2, .ref v), (5, .int (nI i)), (6, .int (0 : Int32))]) (st' := [.int ((-nI (x / 100)) * (100 : Int32) - (-nI x))]) [(38, .isub, 1, .null)] (by decide +kernel) rfl ?_
  rw [sb_nrem (by omega)]
  refine aw_b (pc' := 44) (lv' := [(0, .int (-nI (x / 100))), (4, .int (nI (x % 100))), (3, .int (-nI (x / 100))), (2, .ref v), (5, .int (nI i)), (6, .int (0 : Int32))]) (st' := [.ref v]) [(39, .istore 4, 2, .null), (41, .iload_n 3, 1, .null), (42, .istore_n 0, 1, .null), (43, .aload_n 2, 1, .null)] (by decide +kernel) rfl ?_
  refine aw_b (pc' := 49) (lv' := [(5, .int (nI i + (-1 : Int32))), (0, .int (-nI (x / 100))), (4, .int (nI (x % 100))), (3, .int (-nI (x / 100))), (2, .ref v), (6, .int (0 : Int32))]) (st' := [.int (nI i + (-1 : Int32)), .ref v]) [(44, .iinc 5 (-1), 3, .int (-1 : Int32)), (47, .iload 5, 2, .null)] (by decide +kernel) rfl ?_
  rw [sb_m1 (by omega)]
  refine aw_gst hd1.1 fsJ6_83 (by decide +kernel) ?_
  refine aw_b (pc' := 54) (lv' := [(5, .int (nI (i - 1))), (0, .int (-nI (x / 100))), (4, .int (nI (x % 100))), (3, .int (-nI (x / 100))), (2, .ref v), (6, .int (0 : Int32))]) (st' := [.int (nI (x % 100)), .ref t1, .int (nI (i - 1)), .ref v]) [(52, .iload 4, 2, .null)] (by decide +kernel) rfl ?_
  refine aw_tbl hd1.2 (ib_in (N := 100) (ib_n (k := x % 100) (by omega) (by omega))) (v := .int (dd_ (x % 100 % 10))) (by rw [show (nI (x % 100)).toNatClampNeg = x % 100 from ix_n (by omega)]; rfl) (by decide +kernel) ?_
  refine aw_bast (dd_by (x % 100 % 10) (by omega)) hv hf (ib_in (ib_n (k := i - 1) (by omega) (by omega))) (by decide +kernel) (fun H1 h1 z1 => ?_)
  rw [show (nI (i - 1)).toNatClampNeg = i - 1 from ix_n (by omega)] at h1
  refine aw_b (pc' := 57) (lv' := [(5, .int (nI (i - 1))), (0, .int (-nI (x / 100))), (4, .int (nI (x % 100))), (3, .int (-nI (x / 100))), (2, .ref v), (6, .int (0 : Int32))]) (st' := [.ref v]) [(56, .aload_n 2, 1, .null)] (by decide +kernel) rfl ?_
  refine aw_b (pc' := 62) (lv' := [(5, .int (nI (i - 1) + (-1 : Int32))), (0, .int (-nI (x / 100))), (4, .int (nI (x % 100))), (3, .int (-nI (x / 100))), (2, .ref v), (6, .int (0 : Int32))]) (st' := [.int (nI (i - 1) + (-1 : Int32)), .ref v]) [(57, .iinc 5 (-1), 3, .int (-1 : Int32)), (60, .iload 5, 2, .null)] (by decide +kernel) rfl ?_
  rw [sb_m1 (by omega)]
  refine aw_gst hd2.1 fsJ6_87 (by decide +kernel) ?_
  refine aw_b (pc' := 67) (lv' := [(5, .int (nI (i - 1 - 1))), (0, .int (-nI (x / 100))), (4, .int (nI (x % 100))), (3, .int (-nI (x / 100))), (2, .ref v), (6, .int (0 : Int32))]) (st' := [.int (nI (x % 100)), .ref t2, .int (nI (i - 1 - 1)), .ref v]) [(65, .iload 4, 2, .null)] (by decide +kernel) rfl ?_
  refine aw_tbl hd2.2 (ib_in (N := 100) (ib_n (k := x % 100) (by omega) (by omega))) (v := .int (dd_ (x % 100 / 10))) (by rw [show (nI (x % 100)).toNatClampNeg = x % 100 from ix_n (by omega)]; rfl) (by decide +kernel) ?_
  refine aw_bast (dd_by (x % 100 / 10) (by omega)) h1 hf (ib_in (ib_n (k := i - 1 - 1) (by omega) (by omega))) (by decide +kernel) (fun H2 h2 z2 => ?_)
  rw [show (nI (i - 1 - 1)).toNatClampNeg = i - 1 - 1 from ix_n (by omega), show i - 1 - 1 = i - 2 by omega] at h2
  refine aw_b (pc' := 22) (lv' := [(5, .int (nI (i - 1 - 1))), (0, .int (-nI (x / 100))), (4, .int (nI (x % 100))), (3, .int (-nI (x / 100))), (2, .ref v), (6, .int (0 : Int32))]) (st' := []) [(69, .goto (-47), 3, .null)] (by decide +kernel) rfl ?_
  rw [show i - 1 - 1 = i - 2 by omega]
  refine aw_lv (lv' := [(0, .int (-nI (x / 100))), (2, .ref v), (5, .int (nI (i - 2))), (6, .int (0 : Int32))]) [1, 4, 0, 5] rfl ?_
  exact hk H2 h2 ⟨Nat.le_of_eq (z1.1.symm.trans z2.1.symm), fun y hy ho => (z2.2 y (by omega)).trans (z1.2 y (by omega))⟩
theorem gc_end {t1 t2 : Nat} (hd1 : va_Z "java/lang/Integer" "DigitOnes" "[B" (.ref t1) (ev_fr E) (ev_s E) (ev_s E).heap ∧ va_T .byte t1 100 (fun j => .int (nI (48 + j % 10))) (ev_fr E) (ev_s E) (ev_s E).heap) (hd2 : va_Z "java/lang/Integer" "DigitTens" "[B" (.ref t2) (ev_fr E) (ev_s E) (ev_s E).heap ∧ va_T .byte t2 100 (fun j => .int (nI (48 + j / 10))) (ev_fr E) (ev_s E) (ev_s E).heap) (hv : at_ E H v (.inl (E.2.1 1, m, .inl g))) (hf : ev_fr E v) (hx : x < 100) (hi1 : 1 ≤ i) (hi2 : 10 ≤ x → 2 ≤ i) (him : i ≤ m) (hm : m ≤ 1200) (hq1 : ∀ H1 : Heap, x < 10 → at_ E H1 v (.inl (E.2.1 1, m, .inl (up_ g (i - 1) (dd_ x)))) → sm_ H H1 v 1 → Q (.inl (some (.int (nI (i - 1))))) H1) (hq2 : ∀ H1 : Heap, 10 ≤ x → at_ E H1 v (.inl (E.2.1 1, m, .inl (up_ (up_ g (i - 1) (dd_ (x % 10))) (i - 2) (dd_ (x / 10))))) → sm_ H H1 v 1 → Q (.inl (some (.int (nI (i - 2))))) H1) : aw E mJ6g Q 22 [(0, .int (-nI x)), (2, .ref v), (5, .int (nI i)), (6, .int (0 : Int32))] [] H 0 0 := by
  refine aw_b (pc' := 25) (lv' := [(0, .int (-nI x)), (2, .ref v), (5, .int (nI i)), (6, .int (0 : Int32))]) (st' := [.int (-100 : Int32), .int (-nI x)]) [(22, .iload_n 0, 1, .null), (23, .bipush (-100), 2, .int (-100 : Int32))] (by decide +kernel) rfl ?_
  rw [show (-100 : Int32) = -nI 100 from by decide]
  refine aw_ic_gt (off := 47) 72 (by decide) (by decide +kernel) (fun _ => ?_) (fun hc => absurd ((sb_nlt (by omega) (by omega)).mpr hx) hc)
  refine aw_b (pc' := 73) (lv' := [(0, .int (-nI x)), (2, .ref v), (5, .int (nI i)), (6, .int (0 : Int32))]) (st' := [.ref v]) [(72, .aload_n 2, 1, .null)] (by decide +kernel) rfl ?_
  refine aw_b (pc' := 78) (lv' := [(5, .int (nI i + (-1 : Int32))), (0, .int (-nI x)), (2, .ref v), (6, .int (0 : Int32))]) (st' := [.int (nI i + (-1 : Int32)), .ref v]) [(73, .iinc 5 (-1), 3, .int (-1 : Int32)), (76, .iload 5, 2, .null)] (by decide +kernel) rfl ?_
  rw [sb_m1 (by omega)]
  refine aw_gst hd1.1 fsJ6_83 (by decide +kernel) ?_
  refine aw_b (pc' := 82) (lv' := [(5, .int (nI (i - 1))), (0, .int (-nI x)), (2, .ref v), (6, .int (0 : Int32))]) (st' := [.int (-nI x), .ref t1, .int (nI (i - 1)), .ref v]) [(81, .iload_n 0, 1, .null)] (by decide +kernel) rfl ?_
  refine aw_b (pc' := 83) (lv' := [(5, .int (nI (i - 1))), (0, .int (-nI x)), (2, .ref v), (6, .int (0 : Int32))]) (st' := [.int (- -nI x), .ref t1, .int (nI (i - 1)), .ref v]) [(82, .ineg, 1, .null)] (by decide +kernel) rfl ?_
  rw [Int32.neg_neg]
  refine aw_tbl hd1.2 (ib_in (N := 100) (ib_n (k := x) hx (by omega))) (v := .int (dd_ (x % 10))) (by rw [show (nI x).toNatClampNeg = x from ix_n (by omega)]; rfl) (by decide +kernel) ?_
  refine aw_bast (dd_by (x % 10) (by omega)) hv hf (ib_in (ib_n (k := i - 1) (by omega) (by omega))) (by decide +kernel) (fun H1 h1 z1 => ?_)
  rw [show (nI (i - 1)).toNatClampNeg = i - 1 from ix_n (by omega)] at h1
  refine aw_b (pc' := 88) (lv' := [(5, .int (nI (i - 1))), (0, .int (-nI x)), (2, .ref v), (6, .int (0 : Int32))]) (st' := [.int (-9 : Int32), .int (-nI x)]) [(85, .iload_n 0, 1, .null), (86, .bipush (-9), 2, .int (-9 : Int32))] (by decide +kernel) rfl ?_
  rw [show (-9 : Int32) = -nI 9 from by decide]
  refine aw_ic_ge (off := 16) 104 (by decide) (by decide +kernel) (fun hc => ?_) (fun hc => ?_)
  · skip
    refine aw_b (pc' := 106) (lv' := [(5, .int (nI (i - 1))), (0, .int (-nI x)), (2, .ref v), (6, .int (0 : Int32))]) (st' := [.int (0 : Int32)]) [(104, .iload 6, 2, .null)] (by decide +kernel) rfl ?_
    have hlt : x < 10 := by have := (sb_nle (by omega) (by omega)).mp hc; omega
    refine aw_if_eq (off := 12) 118 (by decide) (by decide +kernel) (fun _ => ?_) (fun hc => absurd rfl hc)
    refine aw_b (pc' := 120) (lv' := [(5, .int (nI (i - 1))), (0, .int (-nI x)), (2, .ref v), (6, .int (0 : Int32))]) (st' := [.int (nI (i - 1))]) [(118, .iload 5, 2, .null)] (by decide +kernel) rfl ?_
    refine aw_iret rfl (Nat.zero_le _) (Nat.zero_le _) (by decide +kernel) ?_
    rw [Nat.mod_eq_of_lt hlt] at h1
    exact hq1 H1 hlt h1 (sm_.of1 z1)
  · skip
    have hge : 10 ≤ x := by
      rcases Nat.lt_or_ge x 10 with h | h
      · exact absurd ((sb_nle (a := 9) (b := x) (by omega) (by omega)).mpr (by omega)) hc
      · exact h
    refine aw_b (pc' := 92) (lv' := [(5, .int (nI (i - 1))), (0, .int (-nI x)), (2, .ref v), (6, .int (0 : Int32))]) (st' := [.ref v]) [(91, .aload_n 2, 1, .null)] (by decide +kernel) rfl ?_
    refine aw_b (pc' := 97) (lv' := [(5, .int (nI (i - 1) + (-1 : Int32))), (0, .int (-nI x)), (2, .ref v), (6, .int (0 : Int32))]) (st' := [.int (nI (i - 1) + (-1 : Int32)), .ref v]) [(92, .iinc 5 (-1), 3, .int (-1 : Int32)), (95, .iload 5, 2, .null)] (by decide +kernel) rfl ?_
    rw [sb_m1 (by omega)]
    refine aw_gst hd2.1 fsJ6_87 (by decide +kernel) ?_
    refine aw_b (pc' := 101) (lv' := [(5, .int (nI (i - 1 - 1))), (0, .int (-nI x)), (2, .ref v), (6, .int (0 : Int32))]) (st' := [.int (-nI x), .ref t2, .int (nI (i - 1 - 1)), .ref v]) [(100, .iload_n 0, 1, .null)] (by decide +kernel) rfl ?_
    refine aw_b (pc' := 102) (lv' := [(5, .int (nI (i - 1 - 1))), (0, .int (-nI x)), (2, .ref v), (6, .int (0 : Int32))]) (st' := [.int (- -nI x), .ref t2, .int (nI (i - 1 - 1)), .ref v]) [(101, .ineg, 1, .null)] (by decide +kernel) rfl ?_
    rw [Int32.neg_neg]
    refine aw_tbl hd2.2 (ib_in (N := 100) (ib_n (k := x) hx (by omega))) (v := .int (dd_ (x / 10))) (by rw [show (nI x).toNatClampNeg = x from ix_n (by omega)]; rfl) (by decide +kernel) ?_
    refine aw_bast (dd_by (x / 10) (by omega)) h1 hf (ib_in (ib_n (k := i - 1 - 1) (by have := hi2 hge; omega) (by omega))) (by decide +kernel) (fun H2 h2 z2 => ?_)
    rw [show (nI (i - 1 - 1)).toNatClampNeg = i - 1 - 1 from ix_n (by omega), show i - 1 - 1 = i - 2 by omega] at h2
    refine aw_b (pc' := 106) (lv' := [(5, .int (nI (i - 1 - 1))), (0, .int (-nI x)), (2, .ref v), (6, .int (0 : Int32))]) (st' := [.int (0 : Int32)]) [(104, .iload 6, 2, .null)] (by decide +kernel) rfl ?_
    refine aw_if_eq (off := 12) 118 (by decide) (by decide +kernel) (fun _ => ?_) (fun hc => absurd rfl hc)
    refine aw_b (pc' := 120) (lv' := [(5, .int (nI (i - 1 - 1))), (0, .int (-nI x)), (2, .ref v), (6, .int (0 : Int32))]) (st' := [.int (nI (i - 1 - 1))]) [(118, .iload 5, 2, .null)] (by decide +kernel) rfl ?_
    rw [show i - 1 - 1 = i - 2 by omega]
    exact aw_iret rfl (Nat.zero_le _) (Nat.zero_le _) (by decide +kernel) (hq2 H2 hge h2 ⟨Nat.le_of_eq (z1.1.symm.trans z2.1.symm), fun y hy ho => (z2.2 y (by omega)).trans (z1.2 y (by omega))⟩)
theorem kJ6g (hO : exo_ E) (hv : at_ E H v (.inl (E.2.1 1, m, .inl g))) (hf : ev_fr E v) (hx : x < 100000) (hp : (dg_ x).length ≤ i) (him : i ≤ m) (hm : m ≤ 1200) : sp_ E mJ6g [.int (nI x), .int (nI i), .ref v] H (po1 (.inl (some (.int (nI (i - (dg_ x).length))))) (fun Hn => sm_ H Hn v 1 ∧ at_ E Hn v (.inl (E.2.1 1, m, .inl (bpt_ g (i - (dg_ x).length) (dg_ x)))))) := by
  obtain ⟨-, -, -, -, ⟨t1, hd1⟩, t2, hd2⟩ := hO
  refine sp_of (by decide +kernel) rfl rfl ?_
  generalize hQ0 : po1 _ _ = Q0
  refine aw_lv (lv' := [(0, .int (nI x)), (1, .int (nI i)), (2, .ref v)]) [0, 1, 2] rfl ?_
  refine aw_b (pc' := 4) (lv' := [(5, .int (nI i)), (0, .int (nI x)), (1, .int (nI i)), (2, .ref v)]) (st' := [.int (nI x)]) [(0, .iload_n 1, 1, .null), (1, .istore 5, 2, .null), (3, .iload_n 0, 1, .null)] (by decide +kernel) rfl ?_
  refine aw_if_ge (off := 7) 11 (by decide) (by decide +kernel) (fun _ => ?_) (fun hc => absurd (nI_pos' (by omega)) hc)
  refine aw_b (pc' := 16) (lv' := [(6, .int (0 : Int32)), (5, .int (nI i)), (0, .int (nI x)), (1, .int (nI i)), (2, .ref v)]) (st' := [.int (0 : Int32)]) [(11, .iconst 0, 1, .int (0 : Int32)), (12, .istore 6, 2, .null), (14, .iload 6, 2, .null)] (by decide +kernel) rfl ?_
  refine aw_if_ne (off := 6) 22 (by decide) (by decide +kernel) (fun hc => absurd rfl hc) (fun _ => ?_)
  refine aw_b (pc' := 22) (lv' := [(0, .int (-(nI x))), (6, .int (0 : Int32)), (5, .int (nI i)), (1, .int (nI i)), (2, .ref v)]) (st' := []) [(19, .iload_n 0, 1, .null), (20, .ineg, 1, .null), (21, .istore_n 0, 1, .null)] (by decide +kernel) rfl ?_
  refine aw_lv (lv' := [(0, .int (-nI x)), (2, .ref v), (5, .int (nI i)), (6, .int (0 : Int32))]) [0, 4, 2, 1] rfl ?_
  have tr : ∀ {A B C : Heap}, sm_ A B v 1 → sm_ B C v 1 → sm_ A C v 1 := fun h1 h2 => ⟨Nat.le_trans h1.1 h2.1, fun y hy ho => (h2.2 y (Nat.lt_of_lt_of_le hy h1.1) ho).trans (h1.2 y hy ho)⟩
  rcases Nat.lt_or_ge x 100 with h1 | h1
  · have hl : (dg_ x).length = if x < 10 then 1 else 2 := by
      unfold dg_
      split
      · rfl
      · first | rfl | (rw [if_pos h1]; rfl)
    refine gc_end hd1 hd2 hv hf h1 (by rw [hl] at hp; split at hp <;> omega) (fun h => by rw [hl, if_neg (by omega)] at hp; exact hp) him hm (fun H1 h2 h3 z => ?_) (fun H1 h2 h3 z => ?_)
    · rw [← hQ0]
      rw [dgl_1 (by rw [hl, if_pos h2] at hp; exact hp) h2] at h3
      exact ⟨by rw [hl, if_pos h2], z, h3⟩
    · rw [← hQ0]
      rw [dgl_2 (by rw [hl, if_neg (by omega)] at hp; exact hp) h2 h1] at h3
      exact ⟨by rw [hl, if_neg (by omega)], z, h3⟩
  · have hl3 : 3 ≤ (dg_ x).length := by
      unfold dg_
      rw [if_neg (by omega), if_neg (by omega)]
      split
      · simp
      · split <;> simp
    refine gc_it hd1 hd2 hv hf hx h1 (by omega) him hm (fun H1 hv1 z1 => ?_)
    rcases Nat.lt_or_ge (x / 100) 100 with h4 | h4
    · have hl : (dg_ x).length = if x / 100 < 10 then 3 else 4 := by
        unfold dg_
        rw [if_neg (by omega), if_neg (by omega)]
        split
        · rw [if_pos (by omega)]; rfl
        · rw [if_pos (by omega), if_neg (by omega)]; rfl
      refine gc_end hd1 hd2 hv1 hf h4 (by omega) (fun h => by rw [hl, if_neg (by omega)] at hp; omega) (by omega) hm (fun H2 h2 h3 z => ?_) (fun H2 h2 h3 z => ?_)
      · rw [← hQ0]
        rw [dgl_3 (by omega) h1 (by omega)] at h3
        exact ⟨by rw [hl, if_pos h2]; rfl, tr z1 z, h3⟩
      · rw [← hQ0]
        rw [dgl_4 (by rw [hl, if_neg (by omega)] at hp; exact hp) (by omega) (by omega)] at h3
        exact ⟨by rw [hl, if_neg (by omega)]; rfl, tr z1 z, h3⟩
    · have hl : (dg_ x).length = 5 := by
        unfold dg_
        rw [if_neg (by omega), if_neg (by omega), if_neg (by omega), if_neg (by omega)]
        rfl
      refine gc_it hd1 hd2 hv1 hf (by omega) h4 (by omega) (by omega) hm (fun H2 hv2 z2 => ?_)
      refine gc_end hd1 hd2 hv2 hf (x := x / 100 / 100) (by omega) (by omega) (fun h => absurd h (by omega)) (by omega) hm (fun H3 h2 h3 z => ?_) (fun H3 h2 h3 z => absurd h2 (by omega))
      rw [← hQ0]
      rw [dgl_5 (by omega) (by omega)] at h3
      exact ⟨by rw [hl]; rfl, tr (tr z1 z2) z, h3⟩
end SN
