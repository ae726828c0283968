/-! The reference: a set is looked up, or put behind. -/
section MKB
variable {h : zM} {m n i q L : Nat} {g s : zSe} {Ss : List zSe}
theorem s_set168 (lay : MLay h m) (nw : NOW h m g) (e64 : zI h m 64 = nI L) (hL : L ≤ 100) (hq : q < 6) (hn : ∀ q w, stAt g q = some w → n ≤ w.length) (hn2 : n ≤ 111) :
    ∃ h', zm_X12_setOfNow 168 [some (.inr m), some (.inl (nI n)), some (.inl (nI q)), none, none, none, none] [] h = zm_X12_setOfNow 168 [some (.inr m), some (.inl (nI n)), some (.inl (nI (q + 1))), none, none, none, none] [] h' ∧ zOf m [51, 52] [] h h' ∧ OWR h' m 51 52 120 (6 * L + q) (stAt (stDrop n g) q) ∧ (∀ j, j ≠ 6 * L + q → zI h' (m + 51) j = zI h (m + 51) j) ∧ ∀ j, ¬ (120 * (6 * L + q) ≤ j ∧ j < 120 * (6 * L + q) + 120) → zI h' (m + 52) j = zI h (m + 52) j := by
  have gq := nw.2 q hq
  rw [stDrop_at, e_X12_setOfNow_168, if_pos (by rw [n6, nI_ltI (by omega) (by omega)]; omega), mF70 lay, Option.bind_some, mr70 lay hq, Option.bind_some]
  cases eg : stAt g q with
  | none =>
    rw [eg] at gq
    rw [show zI h (m + 56) q = -1 from gq, if_pos (by decide), mF65 lay, Option.bind_some, mi64 lay, Option.bind_some, e64, n6, pk_mul, nI_add, mw65 lay (by omega), Option.bind_some, e_X12_setOfNow_214, if_neg (by decide), nI_1]
    exact ⟨_, rfl, zOf_sI (by decide) (by decide), zI_sI, fun j hj => zI_sI_k hj, fun j _ => zI_sI_a (by omega)⟩
  | some w =>
    rw [eg] at gq
    have gq' : OWR h m 56 57 120 q (some w) := gq
    obtain ⟨g1, g2, g3, g4⟩ := gq'
    have hnw := hn q w eg
    rw [g1, if_neg (nI_nn (by omega)), Option.bind_some, mr70 lay hq, Option.bind_some, g1, mF65 lay, Option.bind_some, mi64 lay, Option.bind_some, e64, n6, pk_mul, nI_add, pk_sub hnw, mw65 lay (by omega), Option.bind_some]
    generalize hz1 : zsI h (m + 51) (6 * L + q) (nI (w.length - n)) = z1
    have o1 : zOf m [51, 52] [] h z1 := by rw [← hz1]; exact zOf_sI (by decide) (by decide)
    have l1 := o1.lay lay
    have v51 : ∀ j, zI z1 (m + 51) j = if j = 6 * L + q then nI (w.length - n) else zI h (m + 51) j := fun j => by
      rw [← hz1]
      by_cases e : j = 6 * L + q
      · rw [if_pos e, e, zI_sI]
      · rw [if_neg e, zI_sI_k e]
    have v52 : ∀ j, zI z1 (m + 52) j = zI h (m + 52) j := fun j => by rw [← hz1, zI_sI_a (by omega)]
    have w64 : zI z1 m 64 = nI L := (o1.J (by decide)).trans e64
    have w57 : ∀ j, zI z1 (m + 57) j = zI h (m + 57) j := fun j => o1.C (by decide) (by decide) j
    clear hz1
    have dl : (w.drop n).length = w.length - n := List.length_drop
    have gd := g4.drop n
    have cp := zwr (g := fun j z => zm_X12_setOfNow 214 [some (.inr m), some (.inl (nI n)), some (.inl (nI q)), some (.inl (nI (w.length - n))), some (.inl (nI j)), none, none] [] z) (h := z1) (a := m + 52) (p := 120 * (6 * L + q)) (n := w.length - n) (f := fun j => (w.drop n).getD j 0) (fun j hj => by
      have lz : MLay (zWr z1 (m + 52) (120 * (6 * L + q)) j fun j => (w.drop n).getD j 0) m := (zOf_Wr (L := [52]) (J := []) (by decide) (by decide)).lay l1
      have r1 : zba (zWr z1 (m + 52) (120 * (6 * L + q)) j fun j => (w.drop n).getD j 0) (m + 57) (nI (120 * q + n + j)) = some ((w.drop n).getD j 0) := by rw [mr71 lz (by omega), zI_Wr_a (by omega), w57, Nat.add_assoc, g2 (n + j) (by omega), getD_drop]
      rw [e_X12_setOfNow_214, if_pos ((nI_ltI (by omega) (by omega)).mpr hj), mF66 lz, Option.bind_some, mi64 lz, Option.bind_some, zI_Wr_a (by omega), w64, mF71 lz, Option.bind_some, n120, pk_mul, nI_add, nI_add, r1, Option.bind_some, n6, pk_mul, nI_add, pk_mul, nI_add, mw66 lz (by omega), Option.bind_some, nI_1, gd.byte (by omega)])
    refine ⟨zWr z1 (m + 52) (120 * (6 * L + q)) (w.length - n) fun j => (w.drop n).getD j 0, ?_, o1.tr (zOf_Wr (by decide) (by decide)), ⟨?_, fun j hj => ?_, by rw [dl]; omega, gd⟩, fun j hj => ?_, fun j hj => ?_⟩
    · refine cp.trans ?_
      rw [e_X12_setOfNow_214, if_neg (by rw [nI_ltI (by omega) (by omega)]; omega), nI_1]
    · rw [zI_Wr_a (by omega), v51, if_pos rfl, dl]
    · rw [dl] at hj
      rw [zI_Wr_at hj]
    · rw [zI_Wr_a (by omega), v51, if_neg hj]
    · rw [zI_Wr_out (by omega), v52]
theorem s_setPut (lay : MLay h m) (sl : SeL h m Ss) (nw : NOW h m g) (hL : Ss.length ≤ 100) (hn : ∀ q w, stAt g q = some w → n ≤ w.length) (hn2 : n ≤ 111) :
    ∃ h', zm_X12_setOfNow 2 [some (.inr m), some (.inl (nI n)), some (.inl (nI Ss.length)), none, none, none, none] [] h = some (nI Ss.length, 0, h') ∧ zOf m [51, 52] [64] h h' ∧ SeL h' m (Ss ++ [stDrop n g]) := by
  have gl : (stDrop n g).length = 6 := by unfold stDrop; rw [List.length_map, nw.1]
  rw [e_X12_setOfNow_2, mi64 lay, Option.bind_some, sl.1, if_neg (by rw [nI_ltI (by omega) (by omega)]; omega), Option.bind_some, if_neg (by rw [n101, nI_eq (by omega) (by omega)]; omega)]
  have loop := zlp (P := fun q z => zOf m [51, 52] [] h z ∧ (∀ q', q' < q → OWR z m 51 52 120 (6 * Ss.length + q') (stAt (stDrop n g) q')) ∧ (∀ j, j < 6 * Ss.length → zI z (m + 51) j = zI h (m + 51) j) ∧ ∀ j, j < 120 * (6 * Ss.length) → zI z (m + 52) j = zI h (m + 52) j) (g := fun q z => zm_X12_setOfNow 168 [some (.inr m), some (.inl (nI n)), some (.inl (nI q)), none, none, none, none] [] z) (n := 6) (fun q z hq hP => by
    obtain ⟨oz, z1, z2, z3⟩ := hP
    obtain ⟨z', f1, f2, f3, f4, f5⟩ := s_set168 (oz.lay lay) (nw.o oz (by decide) (by decide)) ((oz.J (by decide)).trans sl.1) hL hq hn hn2
    refine ⟨z', f1, oz.tr f2, fun q' hq' => ?_, fun j hj => (f4 j (by omega)).trans (z2 j hj), fun j hj => (f5 j (by omega)).trans (z3 j hj)⟩
    by_cases e : q' = q
    · rw [e]; exact f3
    · exact (z1 q' (by omega)).of (by decide) (f4 _ (by omega)) (fun j hj => f5 _ (by omega))) 0 h (Nat.zero_le _) ⟨zOf.rf, fun q' hq' => absurd hq' (Nat.not_lt_zero _), fun _ _ => rfl, fun _ _ => rfl⟩
  obtain ⟨z, e1, o1, z1, z2, z3⟩ := loop
  have lz := o1.lay lay
  have e64 : zI z m 64 = nI Ss.length := (o1.J (by decide)).trans sl.1
  rw [n0, e1, e_X12_setOfNow_168, if_neg (by decide), mi64 lz, Option.bind_some, e64, nI_1, mp64 lz, Option.bind_some, mi64 lz.sI, Option.bind_some, zI_sI, n1, pk_sub (by omega), Nat.add_sub_cancel]
  refine ⟨_, rfl, (o1.wide (by decide) (by decide)).tr (zOf_pI (by decide)), by rw [List.length_append, List.length_singleton]; exact zI_sI, by rw [List.length_append, List.length_singleton]; omega, fun i hi => ?_⟩
  rw [List.length_append, List.length_singleton] at hi
  have o2 : zOf m [] [64] z (zsI z m 64 (nI (Ss.length + 1))) := zOf_pI (by decide)
  by_cases e : i = Ss.length
  · have eg : (Ss ++ [stDrop n g]).getD i [] = stDrop n g := by rw [e, List.getD_eq_getElem?_getD, List.getElem?_append_right (Nat.le_refl _), Nat.sub_self]; rfl
    rw [eg, e]
    exact ⟨gl, fun q hq => (z1 q hq).o o2 (by decide) (by decide) (by decide)⟩
  · have eg : (Ss ++ [stDrop n g]).getD i [] = Ss.getD i [] := by rw [List.getD_eq_getElem?_getD, List.getD_eq_getElem?_getD, List.getElem?_append_left (by omega)]
    rw [eg]
    have old := sl.2.2 i (by omega)
    exact ⟨old.1, fun q hq => ((old.2 q hq).of (by decide) (z2 _ (by omega)) (fun j hj => z3 _ (by omega))).o o2 (by decide) (by decide) (by decide)⟩
theorem s_msetOfNow (lay : MLay h m) (sl : SeL h m Ss) (nw : NOW h m g) (hn : ∀ q w, stAt g q = some w → n ≤ w.length) (hn2 : n ≤ 111) :
    ∃ h', zf nX12_setOfNow [.inr m, .inl (nI n)] h = some (nI (sPlace (stDrop n g) Ss).1, 0, h') ∧ zOf m [51, 52] [64] h h' ∧ SeL h' m (if Ss.length ≤ 100 then (sPlace (stDrop n g) Ss).2 else Ss) := by
  have hl := sl.2.1
  rw [e_X12_setOfNow]
  refine zlq (P := fun i z => z = h ∧ ∀ j, j < i → Ss.getD j [] ≠ stDrop n g) (g := fun i z => zm_X12_setOfNow 2 [some (.inr m), some (.inl (nI n)), some (.inl (nI i)), none, none, none, none] [] z) (n := Ss.length)
    (Q := fun y => ∃ h', y = some (nI (sPlace (stDrop n g) Ss).1, 0, h') ∧ zOf m [51, 52] [64] h h' ∧ SeL h' m (if Ss.length ≤ 100 then (sPlace (stDrop n g) Ss).2 else Ss)) ?_ ?_ 0 h (Nat.zero_le _) ⟨rfl, fun j hj => absurd hj (Nat.not_lt_zero _)⟩
  · rintro i z hi ⟨rfl, hj⟩
    rw [s_set2 lay sl hi nw hn hn2]
    by_cases c : Ss.getD i [] = stDrop n g
    · left
      have eg : Ss[i]? = some (Ss.getD i []) := by rw [List.getD_eq_getElem?_getD, List.getElem?_eq_getElem hi]; rfl
      have ef : fdx (fun k => decide (k = stDrop n g)) Ss = i := fdx_at eg (decide_eq_true c) (fun j x hji hx => decide_eq_false (fun w => hj j hji (by rw [List.getD_eq_getElem?_getD, hx]; exact w)))
      have e1 : (sPlace (stDrop n g) Ss).1 = i := ef
      have e2 : (sPlace (stDrop n g) Ss).2 = Ss := by
        show (if fdx (fun k => decide (k = stDrop n g)) Ss < Ss.length then Ss else Ss ++ [stDrop n g]) = Ss
        rw [ef, if_pos hi]
      rw [if_pos c, e1, e2, ite_self]
      exact ⟨z, rfl, zOf.rf, sl⟩
    · right
      rw [if_neg c]
      refine ⟨z, rfl, rfl, fun j hj2 => ?_⟩
      by_cases e : j = i
      · rw [e]; exact c
      · exact hj j (by omega)
  · rintro z ⟨rfl, hj⟩
    have ef : fdx (fun k => decide (k = stDrop n g)) Ss = Ss.length := fdx_no (fun j x hx => decide_eq_false (fun w => by
      have hji : j < Ss.length := by
        apply Classical.byContradiction
        intro c
        rw [List.getElem?_eq_none (by omega)] at hx
        cases hx
      exact hj j hji (by rw [List.getD_eq_getElem?_getD, hx]; exact w)))
    have e1 : (sPlace (stDrop n g) Ss).1 = Ss.length := ef
    have e2 : (sPlace (stDrop n g) Ss).2 = Ss ++ [stDrop n g] := by
      show (if fdx (fun k => decide (k = stDrop n g)) Ss < Ss.length then Ss else Ss ++ [stDrop n g]) = _
      rw [ef, if_neg (Nat.lt_irrefl _)]
    rw [e1, e2]
    by_cases c : Ss.length ≤ 100
    · rw [if_pos c]
      exact s_setPut lay sl nw c hn hn2
    · rw [if_neg c, e_X12_setOfNow_2, mi64 lay, Option.bind_some, sl.1, if_neg (by rw [nI_ltI (by omega) (by omega)]; omega), Option.bind_some, if_pos (by rw [show Ss.length = 101 by omega]; rfl), show Ss.length = 101 by omega]
      exact ⟨z, rfl, zOf.rf, sl⟩
end MKB
