/-! The reference: all that follows a pair by a letter. -/
def wsX {α : Type} (Ws : List α) (K K' : List zCf) (w : α) : List α := Ws ++ List.replicate (K'.length - K.length) w
theorem wsX_rf {α : Type} {Ws : List α} {K : List zCf} {w : α} : wsX Ws K K w = Ws := by
  unfold wsX
  rw [Nat.sub_self]
  simp
theorem wsX_tr {α : Type} {Ws : List α} {K K' K'' : List zCf} {w : α} (h1 : K.length ≤ K'.length) (h2 : K'.length ≤ K''.length) : wsX (wsX Ws K K' w) K' K'' w = wsX Ws K K'' w := by
  unfold wsX
  rw [List.append_assoc, List.replicate_append_replicate, show K'.length - K.length + (K''.length - K'.length) = K''.length - K.length by omega]
theorem s_mgoOn {h : zM} {m t o i r l : Nat} {Ms : Nat → zMa} {S : Nat → Bool} {K : List zCf} {Ws : List (List Nat)} {Rs : List Nat} (d : MMs h m Ms) (hk : ∀ t, t < 2 → MaOk (Ms t)) (ht : t < 2) (ho : o < 2) (fl : FL h m S K Ws Rs) (fk : FK (Ms t) (Ms o) K) (hi : i < K.length) (hl1 : (kAt K i).2.1.length ≤ 240) (hl2 : (kAt K i).2.2.length ≤ 240) (hl3 : l < 4) :
    ∃ h', zf nX12_goOn [.inr m, .inl (nI t), .inl (nI o), .inl (nI i), .inl (nI l), .inl (nI r)] h = some (0, 0, h') ∧ zOf m Lu Ju h h' ∧ FK (Ms t) (Ms o) (xCf (fS S) (Ms t) (Ms o) l K (kAt K i)) ∧ FL h' m S (xCf (fS S) (Ms t) (Ms o) l K (kAt K i)) (wsX Ws K (xCf (fS S) (Ms t) (Ms o) l K (kAt K i)) (Ws.getD i [] ++ [l])) (wsX Rs K (xCf (fS S) (Ms t) (Ms o) l K (kAt K i)) r) := by
  have kM := hk t ht
  have kN := hk o ho
  have h30 := kM.2.2.2.1
  have h30' := kN.2.2.2.1
  have hk6 := kM.1
  have hk6' := kN.1
  have n30' : (30 : Int32) = nI 30 := rfl
  have kmem := kAt_mem hi
  obtain ⟨ok1, ok2, -, -⟩ := fk.2.2 _ kmem
  have s6 := fk.six kM kN hi
  generalize hc : kAt K i = c at *
  have s6 : c.1.1 < 6 ∧ c.1.2 < 6 := by rw [← hc]; exact fk.six kM kN hi
  -- what a loop keeps
  let P : List zCf → zM → Prop := fun K' z => zOf m Lu Ju h z ∧ (∃ t, K' = K ++ t) ∧ FK (Ms t) (Ms o) K' ∧ FL z m S K' (wsX Ws K K' (Ws.getD i [] ++ [l])) (wsX Rs K K' r)
  have hw : Ws.length = K.length := fl.2.1
  rw [e_X12_goOn, n30', pk_mul]
  have outer := zlp (P := fun ia z => P (((Ms t).2.2.2.take ia).foldl (xArc (fS S) (Ms o) l c) K) z) (g := fun ia z => zm_X12_goOn 6 [some (.inr m), some (.inl (nI t)), some (.inl (nI o)), some (.inl (nI i)), some (.inl (nI l)), some (.inl (nI r)), some (.inl (nI (30 * t + ia))), none] [] z) (n := (Ms t).2.2.2.length) ?_ 0 h (Nat.zero_le _) ⟨zOf.rf, ⟨[], (List.append_nil _).symm⟩, fk, by rw [List.take_zero]; show FL h m S K (wsX Ws K K _) (wsX Rs K K _); rw [wsX_rf, wsX_rf]; exact fl⟩
  · obtain ⟨h', e1, e2, e3, e4, e5⟩ := outer
    rw [List.take_length] at e3 e4 e5
    refine ⟨h', Eq.trans e1 ?_, e2, e4, e5⟩
    have dz := d.o2 e2 (by decide)
    rw [e_X12_goOn_6, mF3 dz.1, Option.bind_some, dz.arcs ht, Option.bind_some, n30', pk_mul, nI_add, if_neg (by rw [nI_ltI (by omega) (by omega)]; omega)]
  · intro ia z hia hP
    rw [fold_take _ _ _ ia _ (arc_get hia)]
    generalize ((Ms t).2.2.2.take ia).foldl (xArc (fS S) (Ms o) l c) K = K1 at *
    obtain ⟨oz, ⟨tt, et⟩, fkz, flz⟩ := hP
    have dz := d.o2 oz (by decide)
    have ka := kM.at2 hia
    have l72 := fkz.l72 kM kN
    have hi1 : i < K1.length := by rw [et, List.length_append]; omega
    have hki : kAt K1 i = c := by rw [et, kAt_l hi]; exact hc
    have hwi : (wsX Ws K K1 (Ws.getD i [] ++ [l])).getD i [] = Ws.getD i [] := getD_app1 (by rw [hw]; exact hi)
    rw [e_X12_goOn_6, mF3 dz.1, Option.bind_some, dz.arcs ht, Option.bind_some, n30', pk_mul, nI_add, if_pos ((nI_ltI (by omega) (by omega)).mpr (by omega)), pk_mul]
    by_cases ca : (arcAt (Ms t) ia).1 = c.1.1 ∧ (arcAt (Ms t) ia).2.1 = l
    · have ex : xArc (fS S) (Ms o) l c K1 (arcAt (Ms t) ia) = (Ms o).2.2.2.foldl (xArc2 (fS S) l c (arcAt (Ms t) ia)) K1 := if_pos ca
      rw [ex]
      have inner := zlp (P := fun ib z => (∃ t9, ((Ms o).2.2.2.take ib).foldl (xArc2 (fS S) l c (arcAt (Ms t) ia)) K1 = K1 ++ t9) ∧ P (((Ms o).2.2.2.take ib).foldl (xArc2 (fS S) l c (arcAt (Ms t) ia)) K1) z) (g := fun ib z => zm_X12_goOn 28 [some (.inr m), some (.inl (nI t)), some (.inl (nI o)), some (.inl (nI i)), some (.inl (nI l)), some (.inl (nI r)), some (.inl (nI (30 * t + ia))), some (.inl (nI (30 * o + ib)))] [] z) (n := (Ms o).2.2.2.length) ?_ 0 z (Nat.zero_le _) ⟨⟨[], (List.append_nil _).symm⟩, oz, ⟨tt, et⟩, fkz, flz⟩
      · obtain ⟨h', e1, -, e2, e3, e4, e5⟩ := inner
        rw [List.take_length] at e3 e4 e5
        refine ⟨h', Eq.trans e1 ?_, e2, e3, e4, e5⟩
        have dz := d.o2 e2 (by decide)
        rw [e_X12_goOn_28, mF3 dz.1, Option.bind_some, dz.arcs ho, Option.bind_some, n30', pk_mul, nI_add, if_neg (by rw [nI_ltI (by omega) (by omega)]; omega), nI_1]
        rfl
      · rintro ib z hib ⟨⟨t1, et1⟩, hP⟩
        rw [fold_take _ _ _ ib _ (arc_get hib)]
        generalize ((Ms o).2.2.2.take ib).foldl (xArc2 (fS S) l c (arcAt (Ms t) ia)) K1 = K2 at *
        obtain ⟨oz2, ⟨t2, et2⟩, fkz2, flz2⟩ := hP
        have dz := d.o2 oz2 (by decide)
        have kb := kN.at2 hib
        have l72 := fkz2.l72 kM kN
        have hi2 : i < K2.length := by rw [et2, List.length_append]; omega
        have hki2 : kAt K2 i = c := by rw [et2, kAt_l hi]; exact hc
        have hwi2 : (wsX Ws K K2 (Ws.getD i [] ++ [l])).getD i [] = Ws.getD i [] := getD_app1 (by rw [hw]; exact hi)
        have cf := flz2.1.2.1 i hi2
        rw [hki2] at cf
        rw [e_X12_goOn_28, mF3 dz.1, Option.bind_some, dz.arcs ho, Option.bind_some, n30', pk_mul, nI_add, if_pos ((nI_ltI (by omega) (by omega)).mpr (by omega)), mF4 dz.1, Option.bind_some, dz.from ht kM hia, Option.bind_some, mF33 dz.1, Option.bind_some, mr33 dz.1 (by omega), Option.bind_some, cf.1, if_pos (by rw [ca.1]), Option.bind_some, dz.from ho kN hib, Option.bind_some, mF34 dz.1, Option.bind_some, mr34 dz.1 (by omega), Option.bind_some, cf.2.1, nI_1]
        have skip : xArc2 (fS S) l c (arcAt (Ms t) ia) K2 (arcAt (Ms o) ib) = K2 → ∃ h', zm_X12_goOn 28 [some (.inr m), some (.inl (nI t)), some (.inl (nI o)), some (.inl (nI i)), some (.inl (nI l)), some (.inl (nI r)), some (.inl (nI (30 * t + ia))), some (.inl (nI (30 * o + ib + 1)))] [] z = zm_X12_goOn 28 [some (.inr m), some (.inl (nI t)), some (.inl (nI o)), some (.inl (nI i)), some (.inl (nI l)), some (.inl (nI r)), some (.inl (nI (30 * t + ia))), some (.inl (nI (30 * o + (ib + 1))))] [] h' ∧ (∃ t1, xArc2 (fS S) l c (arcAt (Ms t) ia) K2 (arcAt (Ms o) ib) = K1 ++ t1) ∧ P (xArc2 (fS S) l c (arcAt (Ms t) ia) K2 (arcAt (Ms o) ib)) h' := fun e => by
          rw [e]
          exact ⟨z, rfl, ⟨t1, et1⟩, oz2, ⟨t2, et2⟩, fkz2, flz2⟩
        by_cases c1 : (arcAt (Ms o) ib).1 = c.1.2
        · rw [if_pos (by rw [c1]), mF5 dz.1, Option.bind_some, dz.by ht kM hia, Option.bind_some, if_pos (by rw [ca.2]), Option.bind_some, dz.by ho kN hib, Option.bind_some]
          by_cases c2 : (arcAt (Ms o) ib).2.1 = l
          · rw [if_pos (by rw [c2]), mF7 dz.1, Option.bind_some, dz.word ht kM hia, Option.bind_some, Option.bind_some, dz.word ho kN hib, Option.bind_some]
            obtain ⟨h', q1, q2, q3⟩ := s_mstep (r := r) (l := l) (y := fun z => zm_X12_goOn 28 [some (.inr m), some (.inl (nI t)), some (.inl (nI o)), some (.inl (nI i)), some (.inl (nI l)), some (.inl (nI r)), some (.inl (nI (30 * t + ia))), some (.inl (nI (30 * o + ib + 1)))] [] z) dz hk ht ho flz2 fkz2 hi2 hia hib (by rw [hki2]; exact hl1) (by rw [hki2]; exact hl2)
            have e2 : xArc2 (fS S) l c (arcAt (Ms t) ia) K2 (arcAt (Ms o) ib) = addC (fS S) K2 (stpC (kAt K2 i) (arcAt (Ms t) ia) (arcAt (Ms o) ib)) := by
              rw [hki2]
              exact if_pos ⟨c1, c2⟩
            rw [e2]
            refine ⟨h', q1, ?_, oz2.tr q2, ?_, fkz2.add kM kN (List.mem_of_getElem? (arc_get hia)) (List.mem_of_getElem? (arc_get hib)) (by rw [hki2]; exact ok1) (by rw [hki2]; exact ok2) (by rw [hki2]; exact hl1) (by rw [hki2]; exact hl2), ?_⟩
            · obtain ⟨t3, et3⟩ := addC_pre (fS S) K2 (stpC (kAt K2 i) (arcAt (Ms t) ia) (arcAt (Ms o) ib))
              exact ⟨t1 ++ t3, by rw [et3, et1, List.append_assoc]⟩
            · obtain ⟨t3, et3⟩ := addC_pre (fS S) K2 (stpC (kAt K2 i) (arcAt (Ms t) ia) (arcAt (Ms o) ib))
              exact ⟨t2 ++ t3, by rw [et3, et2, List.append_assoc]⟩
            · rw [hwi2] at q3
              obtain ⟨t3, et3⟩ := addC_pre (fS S) K2 (stpC (kAt K2 i) (arcAt (Ms t) ia) (arcAt (Ms o) ib))
              have g1 : K.length ≤ K2.length := by rw [et2, List.length_append]; omega
              have g2 : K2.length ≤ (addC (fS S) K2 (stpC (kAt K2 i) (arcAt (Ms t) ia) (arcAt (Ms o) ib))).length := by rw [et3, List.length_append]; omega
              rw [← wsX_tr (Ws := Ws) g1 g2, ← wsX_tr (Ws := Rs) g1 g2]
              exact q3
          · rw [if_neg (by rw [nI_eq (by omega) (by omega)]; exact c2)]
            exact skip (if_neg (fun w => c2 w.2))
        · rw [if_neg (by rw [nI_eq (by omega) (by omega)]; exact c1)]
          exact skip (if_neg (fun w => c1 w.1))
    · have ex : xArc (fS S) (Ms o) l c K1 (arcAt (Ms t) ia) = K1 := if_neg ca
      rw [ex]
      have inner := zlp (P := fun ib z' => z' = z) (g := fun ib z => zm_X12_goOn 28 [some (.inr m), some (.inl (nI t)), some (.inl (nI o)), some (.inl (nI i)), some (.inl (nI l)), some (.inl (nI r)), some (.inl (nI (30 * t + ia))), some (.inl (nI (30 * o + ib)))] [] z) (n := (Ms o).2.2.2.length) ?_ 0 z (Nat.zero_le _) rfl
      · obtain ⟨h', e1, rfl⟩ := inner
        refine ⟨h', Eq.trans e1 ?_, oz, ⟨tt, et⟩, fkz, flz⟩
        rw [e_X12_goOn_28, mF3 dz.1, Option.bind_some, dz.arcs ho, Option.bind_some, n30', pk_mul, nI_add, if_neg (by rw [nI_ltI (by omega) (by omega)]; omega), nI_1]
        rfl
      · rintro ib z' hib rfl
        have kb := kN.at2 hib
        have cf := flz.1.2.1 i hi1
        rw [hki] at cf
        refine ⟨z', ?_, rfl⟩
        rw [e_X12_goOn_28, mF3 dz.1, Option.bind_some, dz.arcs ho, Option.bind_some, n30', pk_mul, nI_add, if_pos ((nI_ltI (by omega) (by omega)).mpr (by omega)), mF4 dz.1, Option.bind_some, dz.from ht kM hia, Option.bind_some, mF33 dz.1, Option.bind_some, mr33 dz.1 (by omega), Option.bind_some, cf.1, nI_1]
        by_cases c1 : (arcAt (Ms t) ia).1 = c.1.1
        · have c2 : ¬ (arcAt (Ms t) ia).2.1 = l := fun w => ca ⟨c1, w⟩
          rw [if_pos (by rw [c1]), Option.bind_some, dz.from ho kN hib, Option.bind_some, mF34 dz.1, Option.bind_some, mr34 dz.1 (by omega), Option.bind_some, cf.2.1]
          by_cases c3 : (arcAt (Ms o) ib).1 = c.1.2
          · rw [if_pos (by rw [c3]), mF5 dz.1, Option.bind_some, dz.by ht kM hia, Option.bind_some, if_neg (by rw [nI_eq (by omega) (by omega)]; exact c2)]
            rfl
          · rw [if_neg (by rw [nI_eq (by omega) (by omega)]; exact c3)]
            rfl
        · rw [if_neg (by rw [nI_eq (by omega) (by omega)]; exact c1)]
          rfl
