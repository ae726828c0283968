/-! The reference: what follows a pair; whether it tells. -/
abbrev Lu : List Nat := [29, 30, 31, 32, 33, 34, 35, 36, 38, 39, 40]
abbrev Ju : List Nat := [32, 45, 46, 47]
/-- pairs with the words that lead to them, and ranks -/
def FL (h : zM) (m : Nat) (S : Nat → Bool) (K : List zCf) (Ws : List (List Nat)) (Rs : List Nat) : Prop := KS h m S K ∧ Ws.length = K.length ∧ Rs.length = K.length ∧ ∀ i, i < K.length → zI h (m + 36) i = nI (Rs.getD i 0) ∧ ((zI h (m + 34) i = -1 ∧ Ws.getD i [] = []) ∨ ∃ j l, j < i ∧ zI h (m + 34) i = nI j ∧ zI h (m + 35) i = nI l ∧ Ws.getD i [] = Ws.getD j [] ++ [l])
def FK (M N : zMa) (K : List zCf) : Prop := kOk M N K ∧ two K ∧ ∀ c ∈ K, LOk c.2.1 ∧ LOk c.2.2 ∧ c.2.1.length ≤ 250 ∧ c.2.2.length ≤ 250
theorem FK.l72 {M N : zMa} (kM : MaOk M) (kN : MaOk N) {K : List zCf} (f : FK M N K) : K.length ≤ 72 := two_72 kM kN f.1 f.2.1
theorem FK.six {M N : zMa} (kM : MaOk M) (kN : MaOk N) {K : List zCf} (f : FK M N K) {i : Nat} (hi : i < K.length) : (kAt K i).1.1 < 6 ∧ (kAt K i).1.2 < 6 := by
  have := f.1.1 _ (kAt_mem hi)
  have := kM.1
  have := kN.1
  omega
theorem FL.o {h h' : zM} {m : Nat} {S : Nat → Bool} {K : List zCf} {Ws : List (List Nat)} {Rs : List Nat} {L J : List Nat} (d : FL h m S K Ws Rs) (o : zOf m L J h h') (hL : ∀ k ∈ L, 38 < k) (hJ : 32 ∉ J) : FL h' m S K Ws Rs := by
  have no : ∀ k, k ≤ 38 → k ∉ L := fun k h1 hm => by have := hL k hm; omega
  refine ⟨d.1.o o hL hJ, d.2.1, d.2.2.1, fun i hi => ?_⟩
  rw [o.C (by omega) (no 36 (by omega)), o.C (by omega) (no 34 (by omega)), o.C (by omega) (no 35 (by omega))]
  exact d.2.2.2 i hi
theorem two_add {F : Nat × Nat → Bool} {K : List zCf} {c : zCf} (h : two K) : two (addC F K c) := addC_two h
/-- apart stays apart -/
theorem apt_step {k : zCf} {a b : zArc} (h : apt k = true) (h0 : lcp k.2.1 k.2.2 = 0) : apt (stpC k a b) = true := by
  obtain ⟨h1, h2⟩ := apt_iff.mp h
  have hl : lcp (k.2.1 ++ dgs a.2.2.2) (k.2.2 ++ dgs b.2.2.2) = 0 := by
    obtain ⟨kp, u, v⟩ := k
    dsimp only at *
    cases u with
    | nil => exact absurd h1 (Nat.lt_irrefl _)
    | cons x xs =>
      cases v with
      | nil => exact absurd h2 (Nat.lt_irrefl _)
      | cons y ys =>
        unfold lcp at h0
        by_cases e : x = y
        · rw [if_pos e] at h0; omega
        · rw [List.cons_append, List.cons_append]
          unfold lcp
          rw [if_neg e]
  have e1 : (stpC k a b).2 = cutD (k.2.1 ++ dgs a.2.2.2, k.2.2 ++ dgs b.2.2.2) := by
    show cutD (dlyD _ _) = _
    unfold dlyD
    rw [hl]
    rfl
  have l1 : 0 < (k.2.1 ++ dgs a.2.2.2).length := by rw [List.length_append]; omega
  have l2 : 0 < (k.2.2 ++ dgs b.2.2.2).length := by rw [List.length_append]; omega
  refine apt_iff.mpr ?_
  rw [e1]
  unfold cutD
  rw [if_pos ⟨l1, l2⟩]
  generalize k.2.1 ++ dgs a.2.2.2 = u at *
  generalize k.2.2 ++ dgs b.2.2.2 = v at *
  exact ⟨by show 0 < (u.take 1).length; rw [List.length_take]; omega, by show 0 < (v.take 1).length; rw [List.length_take]; omega⟩
theorem cutD_LOk {d : zWo × zWo} (h1 : LOk d.1) (h2 : LOk d.2) : LOk (cutD d).1 ∧ LOk (cutD d).2 := by
  unfold cutD
  split
  · exact ⟨h1.take _, h2.take _⟩
  · exact ⟨h1, h2⟩
/-- what follows a pair by two arcs -/
theorem FK.add {M N : zMa} (kM : MaOk M) (kN : MaOk N) {F : Nat × Nat → Bool} {K : List zCf} {k : zCf} {a b : zArc} (f : FK M N K) (ha : a ∈ M.2.2.2) (hb : b ∈ N.2.2.2) (o1 : LOk k.2.1) (o2 : LOk k.2.2) (l1 : k.2.1.length ≤ 240) (l2 : k.2.2.length ≤ 240) : FK M N (addC F K (stpC k a b)) := by
  refine ⟨addC_ok f.1 (stpC_ok kM kN k ha hb), addC_two f.2.1, fun c hc => ?_⟩
  unfold addC at hc
  split at hc
  · rcases List.mem_append.mp hc with q | q
    · exact f.2.2 c q
    · rw [List.mem_singleton] at q
      subst q
      have wa := (kM.2.2.2.2 a ha).2.2.2
      have wb := (kN.2.2.2.2 b hb).2.2.2
      have la := wa.len
      have lb := wb.len
      have dd := dlyD_ok (o1.app wa.dig) (o2.app wb.dig)
      have cc := cutD_LOk dd.1 dd.2
      have ll := cutD_le (dlyD (k.2.1 ++ dgs a.2.2.2) (k.2.2 ++ dgs b.2.2.2))
      have d1 : (dlyD (k.2.1 ++ dgs a.2.2.2) (k.2.2 ++ dgs b.2.2.2)).1.length ≤ (k.2.1 ++ dgs a.2.2.2).length := by
        show ((k.2.1 ++ dgs a.2.2.2).drop _).length ≤ _
        rw [List.length_drop]; omega
      have d2 : (dlyD (k.2.1 ++ dgs a.2.2.2) (k.2.2 ++ dgs b.2.2.2)).2.length ≤ (k.2.2 ++ dgs b.2.2.2).length := by
        show ((k.2.2 ++ dgs b.2.2.2).drop _).length ≤ _
        rw [List.length_drop]; omega
      rw [List.length_append] at d1 d2
      exact ⟨cc.1, cc.2, by show (cutD _).1.length ≤ 250; omega, by show (cutD _).2.length ≤ 250; omega⟩
  · exact f.2.2 c hc
theorem getD_app1 {α : Type} {l t : List α} {i : Nat} {d : α} (h : i < l.length) : (l ++ t).getD i d = l.getD i d := by
  rw [List.getD_eq_getElem?_getD, List.getElem?_append_left h, ← List.getD_eq_getElem?_getD]
theorem getD_app2 {α : Type} {l : List α} {x d : α} : (l ++ [x]).getD l.length d = x := by
  rw [List.getD_eq_getElem?_getD, List.getElem?_append_right (Nat.le_refl _), Nat.sub_self]
  rfl
/-- one step: two arcs are gone -/
theorem s_mstep {h : zM} {m t o i ia ib r l : Nat} {Ms : Nat → zMa} {S : Nat → Bool} {K : List zCf} {Ws : List (List Nat)} {Rs : List Nat} (d : MMs h m Ms) (hk : ∀ t, t < 2 → MaOk (Ms t)) (ht : t < 2) (ho : o < 2) (fl : FL h m S K Ws Rs) (fk : FK (Ms t) (Ms o) K) (hi : i < K.length) (hia : ia < (Ms t).2.2.2.length) (hib : ib < (Ms o).2.2.2.length) (hl1 : (kAt K i).2.1.length ≤ 240) (hl2 : (kAt K i).2.2.length ≤ 240) {y : zM → Option zR} :
    ∃ h', (zif (zK h m = 13) ((zf nX12_rows [.inr m, .inl (nI i), .inl (nI (arcAt (Ms t) ia).2.2.2), .inl (nI (arcAt (Ms o) ib).2.2.2)] h).bind fun u1 => (zgF u1.2.2 m 12 6).bind fun r10 => (zia u1.2.2 r10 (nI (30 * t + ia))).bind fun v10 => (zgF u1.2.2 m 12 6).bind fun r11 => (zia u1.2.2 r11 (nI (30 * o + ib))).bind fun v11 => (zgF u1.2.2 m 12 35).bind fun r12 => (zia u1.2.2 r12 (nI i)).bind fun v12 =>
      if v12 = (3 : Int32) then zif (zK u1.2.2 m = 13) ((zf nX12_config [.inr m, .inl v10, .inl v11, .inl (1 : Int32), .inl (nI i), .inl (nI l), .inl (nI r)] u1.2.2).bind fun u2 => y u2.2.2)
      else zif (zK u1.2.2 m = 13) ((zf nX12_config [.inr m, .inl v10, .inl v11, .inl (0 : Int32), .inl (nI i), .inl (nI l), .inl (nI r)] u1.2.2).bind fun u3 => y u3.2.2))) = y h' ∧ zOf m Lu Ju h h' ∧ FL h' m S (addC (fS S) K (stpC (kAt K i) (arcAt (Ms t) ia) (arcAt (Ms o) ib))) (Ws ++ List.replicate ((addC (fS S) K (stpC (kAt K i) (arcAt (Ms t) ia) (arcAt (Ms o) ib))).length - K.length) (Ws.getD i [] ++ [l])) (Rs ++ List.replicate ((addC (fS S) K (stpC (kAt K i) (arcAt (Ms t) ia) (arcAt (Ms o) ib))).length - K.length) r) := by
  have kM := hk t ht
  have kN := hk o ho
  have lay := d.1
  have l72 := fk.l72 kM kN
  have ka := kM.at2 hia
  have kb := kN.at2 hib
  have h6 := kM.1
  have h6' := kN.1
  have kmem := kAt_mem hi
  obtain ⟨kp, k2⟩ := fk.1.1 _ kmem
  obtain ⟨ok1, ok2, -, -⟩ := fk.2.2 _ kmem
  have sdk := sdC_le (kAt K i)
  have cf := fl.1.2.1 i hi
  rw [zif_ok lay.1]
  obtain ⟨z1, a1, a2, a3⟩ := s_mrows lay (by omega) cf ka.2.2.2 kb.2.2.2 (by omega) (by omega)
  rw [a1, Option.bind_some]
  dsimp only
  have dz := d.o2 a2 (by decide)
  have flz := fl.o a2 (by decide) (by decide)
  have cfz := flz.1.2.1 i hi
  have la := ka.2.2.2.len
  have lb := kb.2.2.2.len
  simp only [mF6 dz.1, mF35 dz.1, Option.bind_some, dz.to ht kM hia, dz.to ho kN hib, mr35 dz.1 (show i < 160 by omega), cfz.2.2.1, zif_ok dz.1.1]
  generalize hc : stpC (kAt K i) (arcAt (Ms t) ia) (arcAt (Ms o) ib) = c at *
  have c11 : c.1.1 = (arcAt (Ms t) ia).2.2.1 := by rw [← hc]; rfl
  have c12 : c.1.2 = (arcAt (Ms o) ib).2.2.1 := by rw [← hc]; rfl
  have c2 : c.2 = cutD (dlyD ((kAt K i).2.1 ++ dgs (arcAt (Ms t) ia).2.2.2) ((kAt K i).2.2 ++ dgs (arcAt (Ms o) ib).2.2.2)) := by rw [← hc]; rfl
  have fk' := fk.add (F := fS S) kM kN (List.mem_of_getElem? (arc_get hia)) (List.mem_of_getElem? (arc_get hib)) ok1 ok2 hl1 hl2
  rw [hc] at fk'
  have room : addC (fS S) K c ≠ K → K.length ≤ 71 := fun ne => by
    have := fk'.l72 kM kN
    have e : addC (fS S) K c = K ++ [c] := by
      unfold addC at ne ⊢
      split
      · rfl
      · rw [if_neg (by assumption)] at ne
        exact absurd rfl ne
    rw [e, List.length_append, List.length_singleton] at this
    omega
  have key : ∀ br : Int32, CN z1 m br c → ∃ h', ((zf nX12_config [.inr m, .inl (nI (arcAt (Ms t) ia).2.2.1), .inl (nI (arcAt (Ms o) ib).2.2.1), .inl br, .inl (nI i), .inl (nI l), .inl (nI r)] z1).bind fun u2 => y u2.2.2) = y h' ∧ zOf m Lu Ju h h' ∧ FL h' m S (addC (fS S) K c) (Ws ++ List.replicate ((addC (fS S) K c).length - K.length) (Ws.getD i [] ++ [l])) (Rs ++ List.replicate ((addC (fS S) K c).length - K.length) r) := fun br cn => by
    obtain ⟨h', q1, q2, q3, q4, q5⟩ := s_config (pa := nI i) (l := nI l) (r := nI r) dz.1 l72 room flz.1 (fk.2.1 _) cn (by omega) (fun i hi => fk.six kM kN hi) (fun i hi => by have := fk.2.2 _ (kAt_mem hi); omega)
    rw [c11, c12] at q1
    rw [q1, Option.bind_some]
    refine ⟨h', rfl, (a2.wide (by decide) (by decide)).tr (q2.wide (by decide) (by decide)), q3, ?_, ?_, ?_⟩
    · rw [List.length_append, List.length_replicate, fl.2.1]
      have := (addC_pre (fS S) K c)
      obtain ⟨tt, et⟩ := this
      rw [et, List.length_append]
      omega
    · rw [List.length_append, List.length_replicate, fl.2.2.1]
      obtain ⟨tt, et⟩ := addC_pre (fS S) K c
      rw [et, List.length_append]
      omega
    · intro j hj
      by_cases e : addC (fS S) K c = K
      · rw [e] at hj ⊢
        simp only [Nat.sub_self, List.replicate_zero, List.append_nil]
        obtain ⟨p1, p2, p3⟩ := q4 j hj
        rw [p1, p2, p3]
        exact flz.2.2.2 j hj
      · have e2 : addC (fS S) K c = K ++ [c] := by
          unfold addC at e ⊢
          split
          · rfl
          · rw [if_neg (by assumption)] at e
            exact absurd rfl e
        rw [e2, List.length_append, List.length_singleton] at hj
        rw [e2, List.length_append, List.length_singleton, Nat.add_sub_cancel_left]
        rw [show List.replicate 1 (Ws.getD i [] ++ [l]) = [Ws.getD i [] ++ [l]] from rfl, show List.replicate 1 r = [r] from rfl]
        by_cases ej : j = K.length
        · obtain ⟨p1, p2, p3⟩ := q5 e
          rw [ej, p1, p2, p3]
          have w1 : (Ws ++ [Ws.getD i [] ++ [l]]).getD K.length [] = Ws.getD i [] ++ [l] := by rw [← fl.2.1]; exact getD_app2
          have w2 : (Rs ++ [r]).getD K.length 0 = r := by rw [← fl.2.2.1]; exact getD_app2
          rw [w1, w2]
          exact ⟨rfl, Or.inr ⟨i, l, hi, rfl, rfl, by rw [getD_app1 (by rw [fl.2.1]; exact hi)]⟩⟩
        · have hj2 : j < K.length := by omega
          obtain ⟨p1, p2, p3⟩ := q4 j hj2
          rw [p1, p2, p3, getD_app1 (l := Rs) (by rw [fl.2.2.1]; exact hj2), getD_app1 (l := Ws) (by rw [fl.2.1]; exact hj2)]
          obtain ⟨f1, f2⟩ := flz.2.2.2 j hj2
          refine ⟨f1, ?_⟩
          rcases f2 with f2 | ⟨j', l', b1, b2, b3, b4⟩
          · exact Or.inl f2
          · exact Or.inr ⟨j', l', b1, b2, b3, by rw [getD_app1 (by rw [fl.2.1]; omega)]; exact b4⟩
  have hU : (rwU (kAt K i) ++ dgs (arcAt (Ms t) ia).2.2.2).length ≤ 300 := by
    have : (rwU (kAt K i)).length ≤ 240 := by unfold rwU; split; exact Nat.zero_le _; exact hl1
    rw [List.length_append]; omega
  have hV : (rwV (kAt K i) ++ dgs (arcAt (Ms o) ib).2.2.2).length ≤ 300 := by
    have : (rwV (kAt K i)).length ≤ 240 := by unfold rwV; split; exact Nat.zero_le _; exact hl2
    rw [List.length_append]; omega
  have oU : LOk (rwU (kAt K i) ++ dgs (arcAt (Ms t) ia).2.2.2) := by
    refine LOk.app ?_ ka.2.2.2.dig
    unfold rwU; split; exact LOk.nil; exact ok1
  have oV : LOk (rwV (kAt K i) ++ dgs (arcAt (Ms o) ib).2.2.2) := by
    refine LOk.app ?_ kb.2.2.2.dig
    unfold rwV; split; exact LOk.nil; exact ok2
  by_cases s3 : sdC (kAt K i) = 3
  · rw [if_pos (by rw [s3]; rfl)]
    exact key 1 ⟨_, _, a3, hU, hV, oU, oV, Or.inl ⟨rfl, by rw [← hc]; exact apt_step (sdC_3.mp s3) k2.2⟩⟩
  · rw [if_neg (by rw [n3, nI_eq (by omega) (by omega)]; exact s3)]
    have na : ¬ apt (kAt K i) = true := fun w => s3 (sdC_3.mpr w)
    have eU : rwU (kAt K i) = (kAt K i).2.1 := if_neg na
    have eV : rwV (kAt K i) = (kAt K i).2.2 := if_neg na
    exact key 0 ⟨_, _, a3, hU, hV, oU, oV, Or.inr ⟨rfl, by rw [eU, eV]; exact c2⟩⟩
/-- whether a pair tells -/
theorem s_mparts {h : zM} {m t o i : Nat} {Ms : Nat → zMa} {S : Nat → Bool} {K : List zCf} {Ws : List (List Nat)} {Rs : List Nat} (d : MMs h m Ms) (hk : ∀ t, t < 2 → MaOk (Ms t)) (ht : t < 2) (ho : o < 2) (fl : FL h m S K Ws Rs) (fk : FK (Ms t) (Ms o) K) (hi : i < K.length) :
    ∃ h', zf nX12_parts [.inr m, .inl (nI t), .inl (nI o), .inl (nI i)] h = some (bI (endC (Ms t) (Ms o) (kAt K i)), 0, h') ∧ zOf m Lu Ju h h' ∧ FL h' m S K Ws Rs := by
  have kM := hk t ht
  have kN := hk o ho
  have lay := d.1
  have l72 := fk.l72 kM kN
  have s6 := fk.six kM kN hi
  have kmem := kAt_mem hi
  obtain ⟨kp, k2⟩ := fk.1.1 _ kmem
  obtain ⟨ok1, ok2, l1, l2⟩ := fk.2.2 _ kmem
  have sdk := sdC_le (kAt K i)
  obtain ⟨c1, c2, c3, c4, c5⟩ := fl.1.2.1 i hi
  rw [e_X12_parts]
  simp only [mF2 lay, mF33 lay, mF34 lay, Option.bind_some, mr33 lay (show i < 160 by omega), mr34 lay (show i < 160 by omega), c1, c2, n6, pk_mul, nI_add, d.ende ht s6.1 (by have := fk.1.1 _ kmem; omega), d.ende ho s6.2 (by have := fk.1.1 _ kmem; omega)]
  cases e1 : (Ms t).2.2.1 (kAt K i).1.1 with
  | none =>
    have ee : endC (Ms t) (Ms o) (kAt K i) = false := by unfold endC; rw [e1]
    rw [if_pos (show eI none = -1 from rfl), zb0, ee]
    exact ⟨h, rfl, zOf.rf, fl⟩
  | some e =>
    have we := (kM.2.2.1 _ e e1).2
    have := we.lt
    rw [if_neg (show ¬ eI (some e) = -1 from nneg (by omega))]
    cases e2 : (Ms o).2.2.1 (kAt K i).1.2 with
    | none =>
      have ee : endC (Ms t) (Ms o) (kAt K i) = false := by unfold endC; rw [e1, e2]
      rw [if_pos (show eI none = -1 from rfl), zb0, ee]
      exact ⟨h, rfl, zOf.rf, fl⟩
    | some f =>
      have wf := (kN.2.2.1 _ f e2).2
      have := wf.lt
      rw [if_neg (show ¬ eI (some f) = -1 from nneg (by omega)), mF35 lay, Option.bind_some, mr35 lay (by omega), Option.bind_some, c3]
      have ee := endC_eq e1 e2
      by_cases s3 : sdC (kAt K i) = 3
      · obtain ⟨u1, u2⟩ := apt_iff.mp (sdC_3.mp s3)
        rw [if_pos (by rw [s3]; rfl), zb1, ee, decide_eq_true (apart_ne k2.2 u1 u2)]
        exact ⟨h, rfl, zOf.rf, fl⟩
      · rw [if_neg (by rw [n3, nI_eq (by omega) (by omega)]; exact s3), zif_ok lay.1]
        obtain ⟨z1, a1, a2, a3⟩ := s_mrows lay (by omega) ⟨c1, c2, c3, c4, c5⟩ we wf (by omega) (by omega)
        have na : ¬ apt (kAt K i) = true := fun w => s3 (sdC_3.mpr w)
        rw [show rwU (kAt K i) = (kAt K i).2.1 from if_neg na, show rwV (kAt K i) = (kAt K i).2.2 from if_neg na] at a3
        have we3 := we.len
        have wf3 := wf.len
        have lz := a2.lay lay
        have flz := fl.o a2 (by decide) (by decide)
        rw [show zf nX12_rows [.inr m, .inl (nI i), .inl (eI (some e)), .inl (eI (some f))] h = _ from a1, Option.bind_some, ee]
        obtain ⟨q1, q2, q3, q4, q5⟩ := a3
        dsimp only
        rw [mi45 lz, Option.bind_some, q1, mi46 lz, Option.bind_some, q2]
        have hu : ((kAt K i).2.1 ++ dgs e).length ≤ 300 := by rw [List.length_append]; omega
        have hv : ((kAt K i).2.2 ++ dgs f).length ≤ 300 := by rw [List.length_append]; omega
        refine ⟨z1, ?_, a2.wide (by decide) (by decide), flz⟩
        generalize (kAt K i).2.1 ++ dgs e = u at *
        generalize (kAt K i).2.2 ++ dgs f = v at *
        have hle := lcp_le u v
        by_cases cl : u.length = v.length
        · have al := lcp_all cl
          rw [if_pos (by rw [cl]), mi47 lz, Option.bind_some, q5, Option.bind_some]
          by_cases c6 : lcp u v < u.length
          · rw [if_pos ((nI_ltI (by omega) (by omega)).mpr c6), zb1, decide_eq_true (show u ≠ v from fun w => by have := al.mpr w; omega)]
            rfl
          · rw [if_neg (by rw [nI_ltI (by omega) (by omega)]; exact c6), zb0, decide_eq_false (show ¬ u ≠ v from fun w => w (al.mp (by omega)))]
            rfl
        · rw [if_neg (by rw [nI_eq (by omega) (by omega)]; exact cl), zb1, decide_eq_true (show u ≠ v from fun w => cl (by rw [w]))]
          rfl
