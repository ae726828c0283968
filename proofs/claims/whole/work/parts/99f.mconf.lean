/-! The reference: pairs with what the one has written more. -/
def sdC (c : zCf) : Nat := if apt c = true then 3 else if 0 < c.2.1.length then 1 else if 0 < c.2.2.length then 2 else 0
def moC (c : zCf) : zWo := if apt c = true then [] else if 0 < c.2.1.length then c.2.1 else c.2.2
theorem sdC_le (c : zCf) : sdC c ≤ 3 := by
  unfold sdC
  split
  · decide
  · split
    · decide
    · split <;> decide
theorem sdC_3 {c : zCf} : sdC c = 3 ↔ apt c = true := by
  unfold sdC
  by_cases c1 : apt c = true
  · rw [if_pos c1]; exact ⟨fun _ => c1, fun _ => rfl⟩
  · rw [if_neg c1]
    refine ⟨fun e => ?_, fun e => absurd e c1⟩
    split at e
    · cases e
    · split at e <;> cases e
theorem apt_no {c : zCf} (h : ¬ apt c = true) : c.2.1.length = 0 ∨ c.2.2.length = 0 := by
  apply Classical.byContradiction
  intro w
  exact h (apt_iff.mpr ⟨by omega, by omega⟩)
theorem moC_len (c : zCf) {n : Nat} (h1 : c.2.1.length ≤ n) (h2 : c.2.2.length ≤ n) : (moC c).length ≤ n := by
  unfold moC
  split
  · exact Nat.zero_le _
  · split <;> assumption
theorem moC_LOk {c : zCf} (h1 : LOk c.2.1) (h2 : LOk c.2.2) : LOk (moC c) := by
  unfold moC
  split
  · exact LOk.nil
  · split <;> assumption
/-- what is left of both, out of one word and a side -/
theorem sd_eq {k c : zCf} (hp : k.1 = c.1) (hk : ¬ apt k = true) : k = c ↔ sdC k = sdC c ∧ moC k = moC c := by
  refine ⟨fun e => by rw [e]; exact ⟨rfl, rfl⟩, fun ⟨e1, e2⟩ => ?_⟩
  have hc : ¬ apt c = true := fun w => hk (sdC_3.mp (e1.trans (sdC_3.mpr w)))
  have nk := apt_no hk
  have nc := apt_no hc
  unfold sdC at e1
  unfold moC at e2
  rw [if_neg hk, if_neg hc] at e1 e2
  obtain ⟨kp, ku, kv⟩ := k
  obtain ⟨cp, cu, cv⟩ := c
  dsimp only at *
  have z : ∀ {w : zWo}, ¬ 0 < w.length → w = [] := fun h => List.length_eq_zero_iff.mp (by omega)
  by_cases a : 0 < ku.length
  · have kv0 : kv = [] := z (by omega)
    rw [if_pos a] at e1 e2
    by_cases b : 0 < cu.length
    · have cv0 : cv = [] := z (by omega)
      rw [if_pos b] at e2
      rw [hp, e2, kv0, cv0]
    · rw [if_neg b] at e1
      split at e1 <;> cases e1
  · have ku0 : ku = [] := z a
    rw [if_neg a] at e1 e2
    by_cases b : 0 < cu.length
    · rw [if_pos b] at e1
      split at e1 <;> cases e1
    · have cu0 : cu = [] := z b
      rw [if_neg b] at e2
      rw [hp, e2, ku0, cu0]
/-- one of them stands -/
def CF (h : zM) (m i : Nat) (c : zCf) : Prop := zI h (m + 29) i = nI c.1.1 ∧ zI h (m + 30) i = nI c.1.2 ∧ zI h (m + 31) i = nI (sdC c) ∧ zI h (m + 32) i = nI (moC c).length ∧ Rw h (m + 33) (600 * i) (moC c)
theorem CF.o {h h' : zM} {m i : Nat} {c : zCf} {K J : List Nat} (d : CF h m i c) (o : zOf m K J h h') (hK : ∀ k ∈ K, k < 29 ∨ 33 < k) : CF h' m i c := by
  have no : ∀ k, 29 ≤ k → k ≤ 33 → k ∉ K := fun k h1 h2 hm => by have := hK k hm; omega
  exact ⟨(o.C (by omega) (no 29 (by omega) (by omega)) _).trans d.1, (o.C (by omega) (no 30 (by omega) (by omega)) _).trans d.2.1, (o.C (by omega) (no 31 (by omega) (by omega)) _).trans d.2.2.1, (o.C (by omega) (no 32 (by omega) (by omega)) _).trans d.2.2.2.1, d.2.2.2.2.of (fun j _ => o.C (by omega) (no 33 (by omega) (by omega)) _)⟩
/-- the rows of one of them, with a word behind each -/
def rwU (c : zCf) : zWo := if apt c = true then [] else c.2.1
def rwV (c : zCf) : zWo := if apt c = true then [] else c.2.2
theorem s_mrows {h : zM} {m i w x : Nat} {c : zCf} (lay : MLay h m) (hi : i < 72) (d : CF h m i c) (hw : wOk w) (hx : wOk x) (h1 : c.2.1.length ≤ 600) (h2 : c.2.2.length ≤ 600) :
    ∃ h', zf nX12_rows [.inr m, .inl (nI i), .inl (nI w), .inl (nI x)] h = some (0, 0, h') ∧ zOf m [39, 40] [45, 46, 47] h h' ∧ LR h' m (rwU c ++ dgs w) (rwV c ++ dgs x) := by
  obtain ⟨d1, d2, d3, d4, d5⟩ := d
  have sd := sdC_le c
  rw [e_X12_rows, mp45 lay, Option.bind_some, mp46 lay.sI, Option.bind_some, if_neg (nI_nn (by omega)), if_neg (nI_nn (by omega))]
  have o0 : zOf m [39, 40] [45, 46, 47] h (zsI (zsI h m 45 0) m 46 0) := (zOf_pI (by decide)).tr (zOf_pI (by decide))
  have e45 : zI (zsI (zsI h m 45 0) m 46 0) m 45 = nI 0 := (zI_sI_k (by omega)).trans zI_sI
  have e46 : zI (zsI (zsI h m 45 0) m 46 0) m 46 = nI 0 := zI_sI
  have f31 : zI (zsI (zsI h m 45 0) m 46 0) (m + 31) i = nI (sdC c) := (zI_sI_a (by omega)).trans ((zI_sI_a (by omega)).trans d3)
  have f32 : zI (zsI (zsI h m 45 0) m 46 0) (m + 32) i = nI (moC c).length := (zI_sI_a (by omega)).trans ((zI_sI_a (by omega)).trans d4)
  have f33 : Rw (zsI (zsI h m 45 0) m 46 0) (m + 33) (600 * i) (moC c) := d5.of (fun j _ => (zI_sI_a (by omega)).trans (zI_sI_a (by omega)))
  have lay0 := o0.lay lay
  generalize zsI (zsI h m 45 0) m 46 0 = z0 at *
  have mlen := moC_len c h1 h2
  simp only [mF35 lay0, Option.bind_some, mr35 lay0 (show i < 160 by omega), f31]
  have nil1 : Rw z0 (m + 39) 0 [] := Rw.nil
  have nil2 : Rw z0 (m + 40) 0 [] := Rw.nil
  by_cases s1 : sdC c = 1
  · have ha : ¬ apt c = true := fun w => by have := sdC_3.mpr w; omega
    have hu : 0 < c.2.1.length := by
      unfold sdC at s1
      rw [if_neg ha] at s1
      apply Classical.byContradiction
      intro w
      rw [if_neg w] at s1
      split at s1 <;> cases s1
    have hv : c.2.2 = [] := List.length_eq_zero_iff.mp (by have := apt_no ha; omega)
    have em : moC c = c.2.1 := by unfold moC; rw [if_neg ha, if_pos hu]
    have eu : rwU c = c.2.1 := if_neg ha
    have ev : rwV c = [] := (if_neg ha).trans hv
    rw [if_pos (by rw [s1]; rfl), eu, ev]
    rw [em] at f32 f33 mlen
    -- the letters come to left
    have loop : ∀ (f j : Nat) (z : zM), f + j = c.2.1.length → zOf m [39, 40] [45, 46, 47] z0 z → zI z m 45 = nI j → zI z m 46 = nI 0 → (∀ q, q < j → zI z (m + 39) q = c.2.1.getD q 0) →
        ∃ h', zm_X12_rows 24 [some (.inr m), some (.inl (nI i)), some (.inl (nI w)), some (.inl (nI x)), none, none] [] z = some (0, 0, h') ∧ zOf m [39, 40] [45, 46, 47] z0 h' ∧ LR h' m (c.2.1 ++ dgs w) ([] ++ dgs x) := by
      intro f
      induction f with
      | zero =>
        intro j z hj oz a b q
        have hj : j = c.2.1.length := by omega
        subst hj
        have layz := oz.lay lay0
        have g31 : zI z (m + 31) i = nI (sdC c) := (oz.C (by decide) (by decide) _).trans f31
        have g32 : zI z (m + 32) i = nI c.2.1.length := (oz.C (by decide) (by decide) _).trans f32
        rw [e_X12_rows_24, mi45 layz, Option.bind_some, a, mF36 layz, Option.bind_some, mr36 layz (by omega), Option.bind_some, g32, if_neg (by rw [nI_ltI (by omega) (by omega)]; omega), if_neg (nI_nn (by omega)), mF35 layz, Option.bind_some, mr35 layz (by omega), Option.bind_some, g31, if_neg (by rw [s1]; decide)]
        obtain ⟨h', r1, r2, r3⟩ := s_rows_tail (a1 := nI i) (u0 := c.2.1) (v0 := []) layz hw hx a b (fun j hj => by rw [Nat.zero_add]; exact q j hj) Rw.nil h1 (by decide)
        exact ⟨h', r1, oz.tr r2, r3⟩
      | succ f ih =>
        intro j z hj oz a b q
        have layz := oz.lay lay0
        have g32 : zI z (m + 32) i = nI c.2.1.length := (oz.C (by decide) (by decide) _).trans f32
        have g33 : zI z (m + 33) (600 * i + j) = c.2.1.getD j 0 := (oz.C (by decide) (by decide) _).trans (f33 j (by omega))
        rw [e_X12_rows_24, mi45 layz, Option.bind_some, a, mF36 layz, Option.bind_some, mr36 layz (by omega), Option.bind_some, g32, if_pos ((nI_ltI (by omega) (by omega)).mpr (by omega))]
        simp only [mF43 layz, mi45 layz, mF37 layz, Option.bind_some, a, n600, pk_mul, nI_add, mr37 layz (show 600 * i + j < 96000 by omega), g33, mw43 layz (show j < 640 by omega)]
        have lay1 : MLay (zsI z (m + 39) j (c.2.1.getD j 0)) m := layz.sI
        have a1 : zI (zsI z (m + 39) j (c.2.1.getD j 0)) m 45 = nI j := (zI_sI_a (by omega)).trans a
        rw [mi45 lay1, Option.bind_some, a1, nI_1, mp45 lay1, Option.bind_some]
        refine ih (j + 1) _ (by omega) ((oz.tr (zOf_sI (by decide) (by decide))).tr (zOf_pI (by decide))) zI_sI ((zI_sI_k (by omega)).trans ((zI_sI_a (by omega)).trans b)) (fun t ht => ?_)
        rw [zI_sI_a (by omega)]
        by_cases e : t = j
        · rw [e, zI_sI]
        · rw [zI_sI_k e]
          exact q t (by omega)
    obtain ⟨h', r1, r2, r3⟩ := loop c.2.1.length 0 z0 rfl zOf.rf e45 e46 (fun q hq => absurd hq (Nat.not_lt_zero _))
    exact ⟨h', r1, o0.tr r2, r3⟩
  · rw [if_neg (by rw [n1, nI_eq (by omega) (by omega)]; exact s1)]
    by_cases s2 : sdC c = 2
    · have ha : ¬ apt c = true := fun w => by have := sdC_3.mpr w; omega
      have hu : ¬ 0 < c.2.1.length := fun w => by
        unfold sdC at s2
        rw [if_neg ha, if_pos w] at s2
        cases s2
      have em : moC c = c.2.2 := by unfold moC; rw [if_neg ha, if_neg hu]
      have eu : rwU c = [] := (if_neg ha).trans (List.length_eq_zero_iff.mp (by omega))
      have ev : rwV c = c.2.2 := if_neg ha
      rw [if_pos (by rw [s2]; rfl), eu, ev]
      rw [em] at f32 f33 mlen
      have loop : ∀ (f j : Nat) (z : zM), f + j = c.2.2.length → zOf m [39, 40] [45, 46, 47] z0 z → zI z m 46 = nI j → zI z m 45 = nI 0 → (∀ q, q < j → zI z (m + 40) q = c.2.2.getD q 0) →
          ∃ h', zm_X12_rows 88 [some (.inr m), some (.inl (nI i)), some (.inl (nI w)), some (.inl (nI x)), none, none] [] z = some (0, 0, h') ∧ zOf m [39, 40] [45, 46, 47] z0 h' ∧ LR h' m ([] ++ dgs w) (c.2.2 ++ dgs x) := by
        intro f
        induction f with
        | zero =>
          intro j z hj oz a b q
          have hj : j = c.2.2.length := by omega
          subst hj
          have layz := oz.lay lay0
          have g32 : zI z (m + 32) i = nI c.2.2.length := (oz.C (by decide) (by decide) _).trans f32
          rw [e_X12_rows_88, mi46 layz, Option.bind_some, a, mF36 layz, Option.bind_some, mr36 layz (by omega), Option.bind_some, g32, if_neg (by rw [nI_ltI (by omega) (by omega)]; omega)]
          obtain ⟨h', r1, r2, r3⟩ := s_rows_tail (a1 := nI i) (u0 := []) (v0 := c.2.2) layz hw hx b a Rw.nil (fun j hj => by rw [Nat.zero_add]; exact q j hj) (by decide) h2
          exact ⟨h', r1, oz.tr r2, r3⟩
        | succ f ih =>
          intro j z hj oz a b q
          have layz := oz.lay lay0
          have g32 : zI z (m + 32) i = nI c.2.2.length := (oz.C (by decide) (by decide) _).trans f32
          have g33 : zI z (m + 33) (600 * i + j) = c.2.2.getD j 0 := (oz.C (by decide) (by decide) _).trans (f33 j (by omega))
          rw [e_X12_rows_88, mi46 layz, Option.bind_some, a, mF36 layz, Option.bind_some, mr36 layz (by omega), Option.bind_some, g32, if_pos ((nI_ltI (by omega) (by omega)).mpr (by omega))]
          simp only [mF44 layz, mi46 layz, mF37 layz, Option.bind_some, a, n600, pk_mul, nI_add, mr37 layz (show 600 * i + j < 96000 by omega), g33, mw44 layz (show j < 640 by omega)]
          have lay1 : MLay (zsI z (m + 40) j (c.2.2.getD j 0)) m := layz.sI
          have a1 : zI (zsI z (m + 40) j (c.2.2.getD j 0)) m 46 = nI j := (zI_sI_a (by omega)).trans a
          rw [mi46 lay1, Option.bind_some, a1, nI_1, mp46 lay1, Option.bind_some]
          refine ih (j + 1) _ (by omega) ((oz.tr (zOf_sI (by decide) (by decide))).tr (zOf_pI (by decide))) zI_sI ((zI_sI_k (by omega)).trans ((zI_sI_a (by omega)).trans b)) (fun t ht => ?_)
          rw [zI_sI_a (by omega)]
          by_cases e : t = j
          · rw [e, zI_sI]
          · rw [zI_sI_k e]
            exact q t (by omega)
      obtain ⟨h', r1, r2, r3⟩ := loop c.2.2.length 0 z0 rfl zOf.rf e46 e45 (fun q hq => absurd hq (Nat.not_lt_zero _))
      exact ⟨h', r1, o0.tr r2, r3⟩
    · rw [if_neg (by rw [n2, nI_eq (by omega) (by omega)]; exact s2)]
      have both : rwU c = [] ∧ rwV c = [] := by
        unfold rwU rwV
        by_cases ha : apt c = true
        · rw [if_pos ha, if_pos ha]; exact ⟨rfl, rfl⟩
        · rw [if_neg ha, if_neg ha]
          unfold sdC at s1 s2
          rw [if_neg ha] at s1 s2
          have a : ¬ 0 < c.2.1.length := fun w => s1 (if_pos w)
          rw [if_neg a] at s2
          have b : ¬ 0 < c.2.2.length := fun w => s2 (if_pos w)
          exact ⟨List.length_eq_zero_iff.mp (by omega), List.length_eq_zero_iff.mp (by omega)⟩
      rw [both.1, both.2]
      obtain ⟨h', r1, r2, r3⟩ := s_rows_tail (a1 := nI i) (u0 := []) (v0 := []) lay0 hw hx e45 e46 Rw.nil Rw.nil (by decide) (by decide)
      exact ⟨h', r1, o0.tr r2, r3⟩
theorem dgs_0 : dgs 0 = [] := rfl
theorem wOk_0 : wOk 0 := ⟨0, by omega, rfl, by decide⟩
theorem s_mrows0 {h : zM} {m : Nat} (lay : MLay h m) : ∃ h', zf nX12_rows [.inr m, .inl (-1 : Int32), .inl (0 : Int32), .inl (0 : Int32)] h = some (0, 0, h') ∧ zOf m [39, 40] [45, 46, 47] h h' ∧ LR h' m [] [] := by
  rw [e_X12_rows, mp45 lay, Option.bind_some, mp46 lay.sI, Option.bind_some, if_pos (by decide), if_pos (by decide)]
  have o0 : zOf m [39, 40] [45, 46, 47] h (zsI (zsI h m 45 0) m 46 0) := (zOf_pI (by decide)).tr (zOf_pI (by decide))
  have e45 : zI (zsI (zsI h m 45 0) m 46 0) m 45 = nI 0 := (zI_sI_k (by omega)).trans zI_sI
  have e46 : zI (zsI (zsI h m 45 0) m 46 0) m 46 = nI 0 := zI_sI
  have lay0 := o0.lay lay
  generalize zsI (zsI h m 45 0) m 46 0 = z0 at *
  obtain ⟨h', r1, r2, r3⟩ := s_rows_tail (a1 := -1) (u0 := []) (v0 := []) lay0 wOk_0 wOk_0 e45 e46 Rw.nil Rw.nil (by decide) (by decide)
  exact ⟨h', r1, o0.tr r2, r3⟩
