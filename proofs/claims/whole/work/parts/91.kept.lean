/-! saving and restoring, in the form of the law -/
section KEPT
variable {E : ev_} {G : lx_} {H H1 : Heap} {s t : st_} {f : Nat → Option Nat} {p : Int32}
theorem has_.keptq {a : Nat} {L : ly_} {s : st_} (h : has_ E H a L s) (hq : ∀ o, o < L.length → H1[a + o]? = H[a + o]?) : has_ E H1 a L s := fun o g hg => at_same (h o g hg) (hq o (List.getElem?_eq_some_iff.mp hg).1)
theorem zo_p (hx : 0 ≤ p ∧ p ≤ 1) : ∃ k, k < 2 ∧ p = nI k := by
  obtain ⟨h1, h2⟩ := hx
  have h3 : p.toInt = 0 ∨ p.toInt = 1 := by
    have a1 := Int32.le_iff_toInt_le.mp h1
    have a2 := Int32.le_iff_toInt_le.mp h2
    have b1 : (0 : Int32).toInt = 0 := by decide
    have b2 : (1 : Int32).toInt = 1 := by decide
    omega
  rcases h3 with h | h
  · exact ⟨0, by omega, Int32.toInt_inj.mp (h.trans (by decide))⟩
  · exact ⟨1, by omega, Int32.toInt_inj.mp (h.trans (by decide))⟩
theorem cf_53 (hX : exo_ E) (hF : FF s t) (hg : ge_ E G) (hb : LB_ E G H s t f) (hs0 : SN_ E H (lP G + 1) f t) (p : Int32) : CL_ E G H mS7_save [.ref (lA G), .int p] vi_ g1_ t (fX8_saveSnapshot t p) (fun _ => True) := by
  obtain ⟨g1, g2, g3, g4, g5, g6⟩ := id hg
  by_cases hx : 0 ≤ p ∧ p ≤ 1
  · obtain ⟨k, hk, rfl⟩ := zo_p hx
    obtain ⟨t', e1, e2, e3, e4, e5, e6, e7⟩ := mSave_w (t := t) hk
    have hGK := GH.gk hF.1 hF.2.1
    have ev : s 9 9 = t 1 16 := by
      obtain ⟨C, R, n, T, hH⟩ := hF.1
      exact hH.1.mk
    have hF' : FF s t' := by
      obtain ⟨⟨C, R, n, T, hH⟩, hz, ⟨ch, L, b1, ⟨b2, b3, b4⟩, b5⟩, hf⟩ := hF
      refine ⟨⟨C, R, n, T, hH.ci (fun _ _ _ _ _ => rfl) (fun j _ => by rw [e6 1 (by decide) (by decide) (by omega)])⟩, hz, ⟨ch, L, b1, ⟨b2, by rw [e7 8 (by decide)]; exact b3, fun j hj => by rw [e6 7 (by decide) (by decide) (by omega)]; exact b4 j hj⟩, b5⟩, by rw [e7 13 (by decide)]; exact hf⟩
    have hlo : ∀ b, f k = some b → lP G + 1 ≤ b ∧ ∃ g, has_ E H b ly_G g := fun b hfb => by
      rcases hs0.1 k hk with ⟨q1, -⟩ | ⟨c, g, q1, q2, q3, -⟩
      · rw [q1] at hfb; cases hfb
      · rw [q1] at hfb; cases hfb; exact ⟨q2, g, q3⟩
    refine ⟨s, .inl (s 9 9), t', t 1 16, fun Hn => spo_ E H Hn (lA G) k f (t 1), kX7_saveS hX g1 hk hb.2.1 hb.2.2.1 (fun b hfb => ⟨by have := (hlo b hfb).1; omega, (hlo b hfb).2⟩) hGK, e1, ⟨e2, ev.symm⟩, hF', fun _ _ => trivial, fun Hn ⟨b, g, hfb, hgb, hGb, hsn, hz, hkp⟩ => ?_⟩
    have hbl : ∀ q, q < lP G + 1 → q < H.size → q < b := fun q q1 q2 => by
      rcases hfb with h | ⟨-, h⟩
      · have := (hlo b h).1; omega
      · omega
    have hPs : lP G < H.size := hb.2.2.2.2.2.lt
    have hb0 : lP G + 1 ≤ b := by
      rcases hfb with h | ⟨-, h⟩
      · exact (hlo b h).1
      · omega
    have same : ∀ q, q < lP G + 1 → q ≠ lA G + 119 → Hn[q]? = H[q]? := fun q q1 q2 => hkp q (by omega) q2 (Or.inl (hbl q q1 (by omega)))
    have other : ∀ j c g2, j < 2 → j ≠ k → f j = some c → has_ E H c ly_G g2 → c + 75 ≤ b ∨ b + 75 ≤ c := fun j c g2 hj hjk hfj hc => by
      rcases hfb with h | ⟨-, h⟩
      · rcases (show (j = 0 ∧ k = 1) ∨ (j = 1 ∧ k = 0) by omega) with ⟨rfl, rfl⟩ | ⟨rfl, rfl⟩
        · exact hs0.2 c b hfj h
        · exact (hs0.2 b c h hfj).symm
      · have := at_lt (hc 74 _ rfl)
        omega
    refine ⟨up_ f k (some b), ⟨hb.1.kept (same _ (by omega) (by omega)), hb.2.1.keptq (fun o ho => same _ (by have : o < 119 := ho; omega) (by have : o < 119 := ho; omega)), hsn, hb.2.2.2.1.keptq (fun o ho => same _ (by have : o < 10 := ho; omega) (by have : o < 10 := ho; omega)), hb.2.2.2.2.1.kept (same _ (by omega) (by omega)), hb.2.2.2.2.2.kept (same _ (by omega) (by omega))⟩, fun j hj => ?_, fun b0 b1 q0 q1 => ?_⟩
    · by_cases hjk : j = k
      · subst hjk
        exact Or.inr ⟨b, g, if_pos rfl, hb0, hgb, hGb.wx (fun i hi => e3 i hi), e4⟩
      · have ef : up_ f k (some b) j = f j := if_neg hjk
        rw [ef, e5 j hjk, e6 (4 + j) (by omega) (by omega) (by omega)]
        rcases hs0.1 j hj with h | ⟨c, g2, q1, q2, q3, q4⟩
        · exact Or.inl h
        · refine Or.inr ⟨c, g2, q1, q2, q3.keptq (fun o ho => ?_), q4⟩
          have ho' : o < 75 := ho
          have h75 := at_lt (q3 74 _ rfl)
          exact hkp _ (by omega) (by omega) (by rcases other j c g2 hj hjk q1 q3 with h | h <;> omega)
    · have key : ∀ j c, j < 2 → j ≠ k → f j = some c → c + 75 ≤ b ∨ b + 75 ≤ c := fun j c hj hjk hc => by
        rcases hs0.1 j hj with ⟨h, -⟩ | ⟨c', g2, q1, q2, q3, q4⟩
        · rw [h] at hc; cases hc
        · rw [q1] at hc; cases hc; exact other j _ g2 hj hjk q1 q3
      unfold up_ at q0 q1
      rcases (show k = 0 ∨ k = 1 by omega) with rfl | rfl
      · rw [if_pos rfl] at q0
        rw [if_neg (by decide)] at q1
        cases q0
        exact (key 1 b1 (by omega) (by decide) q1).symm
      · rw [if_neg (by decide)] at q0
        rw [if_pos rfl] at q1
        cases q1
        exact key 0 b0 (by omega) (by decide) q0
  · obtain ⟨w1, w2⟩ := hF.ci CI.r (MI.t6 (t := t) (v := 1))
    exact ⟨s, .inr 1, pt_ t 0 6 1, 0, fun Hn => sm_ H Hn 0 0, kX7_saveF hx, mSave_f hx, ⟨pt_a, by decide⟩, w1, fun _ _ => trivial, fun Hn z => ⟨f, hb.cls hg (sm_.lo z) (hb.2.1.kept0 z), (hs0.kept z (Nat.zero_le _)).md w2⟩⟩
theorem cf_54 (hF : FF s t) (hg : ge_ E G) (hb : LB_ E G H s t f) (hs0 : SN_ E H (lP G + 1) f t) (p : Int32) : CL_ E G H mS7_rest [.ref (lA G), .int p] vi_ g1_ t (fX8_restoreSnapshot t p) (fun _ => True) := by
  obtain ⟨g1, g2, g3, g4, g5, g6⟩ := id hg
  by_cases hx : 0 ≤ p ∧ p ≤ 1
  · obtain ⟨k, hk, rfl⟩ := zo_p hx
    rcases hs0.1 k hk with ⟨hfk, h6⟩ | ⟨b, g, hfk, hlo, hgb, hGK, h6⟩
    · obtain ⟨w1, w2⟩ := hF.ci CI.r (MI.t6 (t := t) (v := 0))
      exact ⟨s, .inl (-1), pt_ t 0 6 0, -1, fun Hn => sm_ H Hn 0 0, kX7_restN g1 hk hb.2.1 hb.2.2.1 hfk, mRest_0 hk h6, ⟨pt_a, rfl⟩, w1, fun _ _ => trivial, fun Hn z => ⟨f, hb.cls hg (sm_.lo z) (hb.2.1.kept0 z), (hs0.kept z (Nat.zero_le _)).md w2⟩⟩
    · obtain ⟨t', e1, e2, e3, e4, e5⟩ := mRest_w (t := t) hk h6
      obtain ⟨g', hG', hsp⟩ := kX7_restS g1 hk hb.2.1 hb.2.2.1 hfk (by omega) hgb hGK
      have hG1 : GK g' (t' 1) := hG'.wx (fun i hi => e3 i hi)
      have ev : g' 1 9 = t' 1 16 := by
        obtain ⟨⟨C, R, n, T, hD, -⟩, -⟩ := hG1
        exact hD.mk
      obtain ⟨q1, q2⟩ := hG1.gh (s := s) (t := t')
      have hF' : FF (mg_ s 8 75 g') t' := by
        obtain ⟨-, -, ⟨ch, L, b1, ⟨b2, b3, b4⟩, b5⟩, hf⟩ := hF
        refine ⟨q1, q2, ⟨ch, L, by rw [mg_o (by omega)]; exact b1, ⟨b2, by rw [e5 8 (by decide)]; exact b3, fun j hj => by rw [e4 7 (by decide) (by decide)]; exact b4 j hj⟩, fun j hj => by rw [mg_o (by omega)]; exact b5 j hj⟩, by rw [mg_o (by omega), e5 13 (by decide)]; exact hf⟩
      exact ⟨mg_ s 8 75 g', .inl (g' 1 9), t', t' 1 16, _, hsp, e1, ⟨e2, ev.symm⟩, hF', fun _ _ => trivial, fun Hn z => ⟨f, hb.cls hg ⟨z.1.1, fun q hq ho => z.1.2 q hq (by omega)⟩ z.2, (hs0.kept z.1 (by omega)).md (fun o h1 h2 => e4 o (by omega) (by omega))⟩⟩
  · obtain ⟨w1, w2⟩ := hF.ci CI.r (MI.t6 (t := t) (v := 1))
    exact ⟨s, .inr 1, pt_ t 0 6 1, 0, fun Hn => sm_ H Hn 0 0, kX7_restF hx, mRest_f hx, ⟨pt_a, by decide⟩, w1, fun _ _ => trivial, fun Hn z => ⟨f, hb.cls hg (sm_.lo z) (hb.2.1.kept0 z), (hs0.kept z (Nat.zero_le _)).md w2⟩⟩
end KEPT
