/-! The class Difference: groups; what follows a pair. -/
def gAt (Gs : List zGp) (g : Nat) : zGp := Gs.getD g ([], [])
def off (Gs : List zGp) (g : Nat) : Nat := (allK (Gs.take g)).length
theorem gAt_get {Gs : List zGp} {g : Nat} (h : g < Gs.length) : Gs[g]? = some (gAt Gs g) := by
  unfold gAt
  rw [List.getD_eq_getElem?_getD, List.getElem?_eq_getElem h]
  rfl
theorem gAt_l {Gs t : List zGp} {g : Nat} (h : g < Gs.length) : gAt (Gs ++ t) g = gAt Gs g := by
  unfold gAt
  rw [List.getD_eq_getElem?_getD, List.getElem?_append_left h, ← List.getD_eq_getElem?_getD]
theorem gAt_n {Gs : List zGp} {x : zGp} : gAt (Gs ++ [x]) Gs.length = x := by
  unfold gAt
  rw [List.getD_eq_getElem?_getD, List.getElem?_append_right (Nat.le_refl _), Nat.sub_self]
  rfl
theorem off_l {Gs t : List zGp} {g : Nat} (h : g ≤ Gs.length) : off (Gs ++ t) g = off Gs g := by
  unfold off
  rw [List.take_append_of_le_length h]
theorem off_all (Gs : List zGp) : off Gs Gs.length = (allK Gs).length := by unfold off; rw [List.take_length]
theorem off_s {Gs : List zGp} {g : Nat} (h : g < Gs.length) : off Gs (g + 1) = off Gs g + (gAt Gs g).1.length := by
  unfold off
  rw [List.take_add_one, gAt_get h, allK_app, List.length_append]
  simp [allK]
theorem off_le {Gs : List zGp} {g : Nat} (h : g ≤ Gs.length) : off Gs g ≤ (allK Gs).length := by
  have : allK Gs = allK (Gs.take g) ++ allK (Gs.drop g) := by rw [← allK_app, List.take_append_drop]
  unfold off
  rw [this, List.length_append]
  omega
theorem kAt_off {Gs : List zGp} {g j : Nat} (h : g < Gs.length) (hj : j < (gAt Gs g).1.length) : kAt (allK Gs) (off Gs g + j) = kAt (gAt Gs g).1 j := by
  have e : allK Gs = allK (Gs.take g) ++ ((gAt Gs g).1 ++ allK (Gs.drop (g + 1))) := by
    have e1 : Gs = Gs.take g ++ ([gAt Gs g] ++ Gs.drop (g + 1)) := by
      have hge : Gs[g] = gAt Gs g := by
        have := gAt_get h
        rw [List.getElem?_eq_getElem h] at this
        exact Option.some.inj this
      rw [List.singleton_append, ← hge, ← List.drop_eq_getElem_cons h, List.take_append_drop]
    have e2 := congrArg allK e1
    rw [allK_app, allK_app, allK_one] at e2
    exact e2
  rw [e]
  unfold off
  rw [kAt_r, kAt_l hj]
/-- the groups -/
def DG (h : zM) (d : Nat) (Gs : List zGp) : Prop := zI h d 8 = nI Gs.length ∧ ∀ g, g < Gs.length → zI h (d + 369) g = nI (off Gs g) ∧ zI h (d + 370) g = nI (off Gs (g + 1)) ∧ ((g = 0 ∧ (gAt Gs g).2 = []) ∨ ∃ b l, b < g ∧ zI h (d + 371) g = nI b ∧ zI h (d + 372) g = nI l ∧ (gAt Gs g).2 = (gAt Gs b).2 ++ [l])
theorem DG.eq {h h' : zM} {d : Nat} {Gs : List zGp} (x : DG h d Gs) (e8 : zI h' d 8 = zI h d 8) (f : zEq (d + 369) (d + 373) h h') : DG h' d Gs :=
  ⟨e8.trans x.1, fun g hg => by
    obtain ⟨a, b, c⟩ := x.2 g hg
    refine ⟨by rw [f.I (by omega) (by omega)]; exact a, by rw [f.I (by omega) (by omega)]; exact b, ?_⟩
    rcases c with c | ⟨b', l, c1, c2, c3, c4⟩
    · exact Or.inl c
    · exact Or.inr ⟨b', l, c1, by rw [f.I (by omega) (by omega)]; exact c2, by rw [f.I (by omega) (by omega)]; exact c3, c4⟩⟩
theorem s_Dclose {h : zM} {d : Nat} {Gs : List zGp} {K new : List zCf} {w : List Nat} {vb vl : Int32} (x : DS h d) (k : DK h d K) (g : DG h d Gs) (hK : K = allK Gs ++ new) (hl : K.length ≤ 72) (hg : Gs.length ≤ 72)
    (hw : (Gs = [] ∧ w = []) ∨ ∃ b l, b < Gs.length ∧ vb = nI b ∧ vl = nI l ∧ w = (gAt Gs b).2 ++ [l]) :
    ∃ h', zf nX0_closeGroup [.inr d, .inl (nI (allK Gs).length), .inl vb, .inl vl] h = some (0, 0, h') ∧ zFr d (d + 377) h h' ∧ DS h' d ∧ DK h' d K ∧ DG h' d (if K.length = (allK Gs).length then Gs else Gs ++ [(new, w)]) := by
  have X := x.1
  have hKl : K.length = (allK Gs).length + new.length := by rw [hK, List.length_append]
  rw [e_X0_closeGroup, zgI_ok X.1.1, k.1, Option.bind_some]
  by_cases c : K.length = (allK Gs).length
  · rw [if_pos (by rw [c]), if_pos c]
    exact ⟨h, rfl, zFr.rf, x, k, g⟩
  · rw [if_neg (by rw [nI_eq (by omega) (by omega)]; exact c), if_neg c, zgI_ok X.1.1, g.1, Option.bind_some, if_neg (by rw [n72, nI_ltI (by omega) (by omega)]; omega)]
    simp only [X.g4, Option.bind_some, X.w (Or.inl rfl) (show Gs.length < 73 by omega)]
    have f1 : zFr (d + 369) (d + 373) h (zsI h (d + 369) Gs.length (nI (allK Gs).length)) := zFr_sI (by omega) (by omega)
    generalize hh1 : zsI h (d + 369) Gs.length (nI (allK Gs).length) = h1 at *
    have X1 := X.keep f1
    have i8 : ∀ {g : zM}, zFr (d + 369) (d + 373) h g → zgI g d 0 8 = some (nI Gs.length) ∧ zgI g d 0 1 = some (nI K.length) := fun {z} f => by
      have Xz := X.keep f
      exact ⟨by rw [zgI_ok Xz.1.1, f.I (by omega), g.1], by rw [zgI_ok Xz.1.1, f.I (by omega), k.1]⟩
    simp only [X1.g5, (i8 f1).1, (i8 f1).2, Option.bind_some, X1.w (Or.inr (Or.inl rfl)) (show Gs.length < 73 by omega)]
    have f2 : zFr (d + 369) (d + 373) h (zsI h1 (d + 370) Gs.length (nI K.length)) := f1.tr (zFr_sI (by omega) (by omega))
    generalize hh2 : zsI h1 (d + 370) Gs.length (nI K.length) = h2 at *
    have X2 := X.keep f2
    simp only [X2.g6, (i8 f2).1, Option.bind_some, X2.w (Or.inr (Or.inr (Or.inl rfl))) (show Gs.length < 73 by omega)]
    have f3 : zFr (d + 369) (d + 373) h (zsI h2 (d + 371) Gs.length vb) := f2.tr (zFr_sI (by omega) (by omega))
    generalize hh3 : zsI h2 (d + 371) Gs.length vb = h3 at *
    have X3 := X.keep f3
    simp only [X3.g7, (i8 f3).1, Option.bind_some, X3.w (Or.inr (Or.inr (Or.inr rfl))) (show Gs.length < 73 by omega)]
    have f4 : zFr (d + 369) (d + 373) h (zsI h3 (d + 372) Gs.length vl) := f3.tr (zFr_sI (by omega) (by omega))
    generalize hh4 : zsI h3 (d + 372) Gs.length vl = h4 at *
    have X4 := X.keep f4
    simp only [(i8 f4).1, Option.bind_some, zpI_ok X4.1.1, nI_1]
    have fz : zFr d (d + 1) h4 (zsI h4 d 8 (nI (Gs.length + 1))) := zFr_sI (by omega) (by omega)
    have ff : zFr d (d + 377) h (zsI h4 d 8 (nI (Gs.length + 1))) := (f4.wide (by omega) (by omega)).tr (fz.wide (by omega) (by omega))
    have v1 : ∀ i, zI (zsI h4 d 8 (nI (Gs.length + 1))) (d + 369) i = if i = Gs.length then nI (allK Gs).length else zI h (d + 369) i := fun i => by
      rw [zI_sI_a (by omega), ← hh4, zI_sI_a (by omega), ← hh3, zI_sI_a (by omega), ← hh2, zI_sI_a (by omega), ← hh1]
      split
      · rename_i q; rw [q, zI_sI]
      · rename_i q; rw [zI_sI_k q]
    have v2 : ∀ i, zI (zsI h4 d 8 (nI (Gs.length + 1))) (d + 370) i = if i = Gs.length then nI K.length else zI h (d + 370) i := fun i => by
      rw [zI_sI_a (by omega), ← hh4, zI_sI_a (by omega), ← hh3, zI_sI_a (by omega), ← hh2]
      split
      · rename_i q; rw [q, zI_sI]
      · rename_i q; rw [zI_sI_k q, ← hh1, zI_sI_a (by omega)]
    have v3 : ∀ i, zI (zsI h4 d 8 (nI (Gs.length + 1))) (d + 371) i = if i = Gs.length then vb else zI h (d + 371) i := fun i => by
      rw [zI_sI_a (by omega), ← hh4, zI_sI_a (by omega), ← hh3]
      split
      · rename_i q; rw [q, zI_sI]
      · rename_i q; rw [zI_sI_k q, ← hh2, zI_sI_a (by omega), ← hh1, zI_sI_a (by omega)]
    have v4 : ∀ i, zI (zsI h4 d 8 (nI (Gs.length + 1))) (d + 372) i = if i = Gs.length then vl else zI h (d + 372) i := fun i => by
      rw [zI_sI_a (by omega), ← hh4]
      split
      · rename_i q; rw [q, zI_sI]
      · rename_i q; rw [zI_sI_k q, ← hh3, zI_sI_a (by omega), ← hh2, zI_sI_a (by omega), ← hh1, zI_sI_a (by omega)]
    have eL : zEq (d + 2) (d + 369) h (zsI h4 d 8 (nI (Gs.length + 1))) := (f4.eq (by omega)).tr (fz.eq (by omega))
    have eH : zEq (d + 373) (d + 377) h (zsI h4 d 8 (nI (Gs.length + 1))) := (f4.eq (by omega)).tr (fz.eq (by omega))
    refine ⟨_, rfl, ff, x.out ff (eL.sub (by omega) (by omega)) eH, k.eq (by omega) (by rw [zI_sI_k (by decide), f4.I (by omega)]) eL, by rw [zI_sI]; simp, fun i hi => ?_⟩
    rw [v1, v2, v3, v4]
    rw [List.length_append] at hi
    have hi : i < Gs.length + 1 := hi
    by_cases e : i = Gs.length
    · subst e
      rw [if_pos rfl, if_pos rfl, if_pos rfl, if_pos rfl, gAt_n]
      refine ⟨by rw [off_l (Nat.le_refl _), off_all], ?_, ?_⟩
      · rw [off_s (by simp), off_l (Nat.le_refl _), off_all, gAt_n, hKl]
      · rcases hw with ⟨h1, h2⟩ | ⟨b, l, h1, h2, h3, h4⟩
        · exact Or.inl ⟨by rw [h1]; rfl, h2⟩
        · exact Or.inr ⟨b, l, h1, h2, h3, by rw [gAt_l h1]; exact h4⟩
    · have hi2 : i < Gs.length := by omega
      obtain ⟨a, b, cc⟩ := g.2 i hi2
      rw [if_neg e, if_neg e, if_neg e, if_neg e, off_l (by omega), off_l (by omega), gAt_l hi2]
      refine ⟨a, b, ?_⟩
      rcases cc with cc | ⟨b', l, c1, c2, c3, c4⟩
      · exact Or.inl cc
      · exact Or.inr ⟨b', l, c1, c2, c3, by rw [gAt_l (by omega)]; exact c4⟩
/-- all is full: nothing more comes -/
theorem full_72 {M N : zMa} (kM : MaOk M) (kN : MaOk N) {K : List zCf} (hK : kOk M N K) (t : two K) (hl : ¬ K.length < 72) {c : zCf} (hc : c.1.1 < M.1 ∧ c.1.2 < N.1 ∧ lcp c.2.1 c.2.2 = 0) : addC FT K c = K := by
  unfold addC
  rw [if_neg]
  rintro ⟨_, hr⟩
  have e : addC FT K c = K ++ [c] := if_pos ⟨rfl, hr⟩
  have h1 := addC_ok (F := FT) hK hc
  have h2 := addC_two (F := FT) (c := c) t
  rw [e] at h1 h2
  have := two_72 kM kN h1 h2
  rw [List.length_append] at this
  have : K.length + 1 ≤ 72 := this
  omega
/-- all that a loop of the search keeps -/
def DI (M N : zMa) (h0 h : zM) (d : Nat) (K : List zCf) : Prop := zFr d (d + 377) h0 h ∧ zEq (d + 369) (d + 377) h0 h ∧ zI h d 8 = zI h0 d 8 ∧ DS h d ∧ DK h d K ∧ kOk M N K ∧ two K
theorem DI.l72 {M N : zMa} {h0 h : zM} {d : Nat} {K : List zCf} (kM : MaOk M) (kN : MaOk N) (x : DI M N h0 h d K) : K.length ≤ 72 := two_72 kM kN x.2.2.2.2.2.1 x.2.2.2.2.2.2
theorem s_DpairUp {h : zM} {d A B i ia : Nat} {M N : zMa} {K : List zCf} (mM : MC h A M) (kM : MaOk M) (mN : MC h B N) (kN : MaOk N) (hA : A + 6 ≤ d ∨ d + 377 ≤ A) (hB : B + 6 ≤ d ∨ d + 377 ≤ B) (x : DI M N h h d K) (hi : i < K.length) (hia : ia < M.2.2.2.length)
    (hL : (kAt K i).2.1.length ≤ 219 ∧ (kAt K i).2.2.length ≤ 219) :
    ∃ h', zf nX0_pairUp [.inr d, .inr A, .inl (nI ia), .inr B, .inl (nI i)] h = some (0, 0, h') ∧ DI M N h h' d (N.2.2.2.foldl (xArc2 FT (arcAt M ia).2.1 (kAt K i) (arcAt M ia)) K) := by
  have ka := kM.at hia
  have ka2 := kM.at2 hia
  have hN30 := kN.2.2.2.1
  have k6M := kM.1
  have k6N := kN.1
  have hMm : arcAt M ia ∈ M.2.2.2 := List.mem_of_getElem? (arc_get hia)
  rw [e_X0_pairUp]
  have main := zlp (P := fun j g => DI M N h g d ((N.2.2.2.take j).foldl (xArc2 FT (arcAt M ia).2.1 (kAt K i) (arcAt M ia)) K)) (g := fun j g => zm_X0_pairUp 3 [some (.inr d), some (.inr A), some (.inl (nI ia)), some (.inr B), some (.inl (nI i)), some (.inl (nI j)), none] [] g) (n := N.2.2.2.length) ?_ 0 h (Nat.zero_le _) (by rw [List.take_zero]; exact x)
  · obtain ⟨h', e1, e2⟩ := main
    rw [List.take_length] at e2
    refine ⟨h', ?_, e2⟩
    rw [n0]
    refine Eq.trans e1 ?_
    have mN' := mN.keep e2.1 (by omega)
    rw [e_X0_pairUp_3, mN'.arcs, Option.bind_some, if_neg (by rw [nI_ltI (by omega) (by omega)]; omega)]
    rfl
  · intro j g hj hP
    rw [fold_take _ _ _ j _ (arc_get hj)]
    obtain ⟨t, et⟩ := foldl_pre (fun K b => xArc2_pre FT (arcAt M ia).2.1 (kAt K i) (arcAt M ia) K b) [] K
    obtain ⟨t, et⟩ := foldl_pre (f := xArc2 FT (arcAt M ia).2.1 (kAt K i) (arcAt M ia)) (fun K' b => xArc2_pre FT _ _ _ K' b) (N.2.2.2.take j) K
    generalize hKj : (N.2.2.2.take j).foldl (xArc2 FT (arcAt M ia).2.1 (kAt K i) (arcAt M ia)) K = Kj at *
    have l72 := hP.l72 kM kN
    obtain ⟨f, e1, e8, S, k, ok, t2⟩ := id hP
    have hiK : i < Kj.length := by rw [et, List.length_append]; omega
    have hki : kAt Kj i = kAt K i := by rw [et, kAt_l hi]
    have pi := k.2.1 i hiK
    rw [hki] at pi
    have mMg := mM.keep f (by omega)
    have mNg := mN.keep f (by omega)
    have X := S.1
    have kb := kN.at hj
    have kb2 := kN.at2 hj
    have hNm : arcAt N j ∈ N.2.2.2 := List.mem_of_getElem? (arc_get hj)
    have hc6 := ok.1 _ (kAt_mem hiK)
    rw [hki] at hc6
    rw [e_X0_pairUp_3, mNg.arcs, Option.bind_some, if_pos ((nI_ltI (by omega) (by omega)).mpr hj)]
    simp only [mNg.f4, mNg.rfrom kN hj, X.g0, X.p (show i < 73 by omega), pi.i1, Option.bind_some, nI_1]
    have skip : ∀ K', K' = Kj → ∃ h', zm_X0_pairUp 3 [some (.inr d), some (.inr A), some (.inl (nI ia)), some (.inr B), some (.inl (nI i)), some (.inl (nI (j + 1))), none] [] g = zm_X0_pairUp 3 [some (.inr d), some (.inr A), some (.inl (nI ia)), some (.inr B), some (.inl (nI i)), some (.inl (nI (j + 1))), none] [] h' ∧ DI M N h h' d K' := fun K' e => by
      rw [e]
      exact ⟨g, rfl, hP⟩
    by_cases c1 : (arcAt N j).1 = (kAt K i).1.2
    · rw [if_pos (by rw [c1])]
      simp only [mNg.f5, mNg.rlet kN hj, mMg.f5, mMg.rlet kM hia, Option.bind_some]
      by_cases c2 : (arcAt N j).2.1 = (arcAt M ia).2.1
      · have ex : xArc2 FT (arcAt M ia).2.1 (kAt K i) (arcAt M ia) Kj (arcAt N j) = addC FT Kj (stpC (kAt K i) (arcAt M ia) (arcAt N j)) := if_pos ⟨c1, c2⟩
        have sk := stpC_ok kM kN (kAt K i) hMm hNm
        rw [if_pos (by rw [c2]), zgI_ok X.1.1, k.1, Option.bind_some]
        by_cases c3 : Kj.length < 72
        · rw [if_pos (by rw [n72, nI_ltI (by omega) (by omega)]; exact c3)]
          obtain ⟨c0, hc0⟩ := S.2.1 Kj.length (by omega)
          simp only [X.p (show Kj.length < 73 by omega), mMg.f6, mMg.rto kM hia, Option.bind_some, zpI_ok hc0.1.1]
          have d1 := hc0.set0 (arcAt M ia).2.2.1
          have f1 : zFr (d + 2 + 5 * Kj.length) (d + 2 + 5 * Kj.length + 5) g (zsI g (d + 2 + 5 * Kj.length) 0 (nI (arcAt M ia).2.2.1)) := zFr_sI (by omega) (by omega)
          generalize hg1 : zsI g (d + 2 + 5 * Kj.length) 0 (nI (arcAt M ia).2.2.1) = g1 at *
          have mN1 := mNg.keep f1 (by omega)
          simp only [mN1.f6, mN1.rto kN hj, Option.bind_some, zpI_ok d1.1.1]
          have d2 := d1.set1 (arcAt N j).2.2.1
          have f2 : zFr (d + 2 + 5 * Kj.length) (d + 2 + 5 * Kj.length + 5) g (zsI g1 (d + 2 + 5 * Kj.length) 1 (nI (arcAt N j).2.2.1)) := f1.tr (zFr_sI (by omega) (by omega))
          generalize hg2 : zsI g1 (d + 2 + 5 * Kj.length) 1 (nI (arcAt N j).2.2.1) = g2 at *
          have mN2 := mNg.keep f2 (by omega)
          have mM2 := mMg.keep f2 (by omega)
          have X2 := X.keep f2
          have p2 := pi.keep f2 (by omega)
          simp only [X2.g0, X2.p (show i < 73 by omega), mM2.f7, mM2.rword kM hia, mN2.f7, mN2.rword kN hj, Option.bind_some, zif_ok d2.1.1]
          have la := ka2.2.2.2.len
          have lb := kb2.2.2.2.len
          obtain ⟨g3, q1, q2, q3⟩ := s_Pfollow d2 p2 (by omega) (x := (arcAt M ia).2.2.2) (y := (arcAt N j).2.2.2) ⟨ka.2.2.2, by omega⟩ ⟨kb.2.2.2, by omega⟩
          rw [q1, Option.bind_some]
          dsimp only
          rw [zif_ok q3.1.1, s_PisApart q3, Option.bind_some]
          dsimp only
          have fin : ∀ (g4 : zM) (c : zCf), zFr (d + 2 + 5 * Kj.length) (d + 2 + 5 * Kj.length + 5) g g4 → PrC g4 (d + 2 + 5 * Kj.length) 222 c → c = stpC (kAt K i) (arcAt M ia) (arcAt N j) → ∃ h', (zif (zK g4 d = 1) ((zf nX0_keep [.inr d] g4).bind fun u3 => zm_X0_pairUp 3 [some (.inr d), some (.inr A), some (.inl (nI ia)), some (.inr B), some (.inl (nI i)), some (.inl (nI (j + 1))), none] [] u3.2.2)) = zm_X0_pairUp 3 [some (.inr d), some (.inr A), some (.inl (nI ia)), some (.inr B), some (.inl (nI i)), some (.inl (nI (j + 1))), none] [] h' ∧ DI M N h h' d (xArc2 FT (arcAt M ia).2.1 (kAt K i) (arcAt M ia) Kj (arcAt N j)) := by
            intro g4 c f4 hc ec
            rw [ex]
            subst ec
            have S4 := S.pair (by omega) f4 hc
            have k4 := k.pair f4 l72
            obtain ⟨h', r1, r2, r3, r4, r5, r6⟩ := s_Dkeep S4 k4 t2 l72 hc ⟨by omega, by omega⟩
            rw [zif_ok S4.1.1.1, r1, Option.bind_some]
            refine ⟨h', rfl, f.tr ((f4.wide (by omega) (by omega)).tr r2), e1.tr ((f4.eq (by omega)).tr r3), ?_, r5, r6, addC_ok ok sk, addC_two t2⟩
            rw [r4, f4.I (by omega), e8]
          by_cases ap : apt (((arcAt M ia).2.2.1, (arcAt N j).2.2.1), dlyD ((kAt K i).2.1 ++ dgs (arcAt M ia).2.2.2) ((kAt K i).2.2 ++ dgs (arcAt N j).2.2.2)) = true
          · rw [ap, if_pos rfl, if_neg (by decide), zif_ok q3.1.1]
            obtain ⟨g4, u1, u2, u3⟩ := s_Pforget q3
            rw [u1, Option.bind_some]
            refine fin g4 _ (f2.tr (q2.tr u2)) u3 ?_
            unfold stpC cutD
            rw [if_pos (apt_iff.mp ap)]
          · have ap' : apt (((arcAt M ia).2.2.1, (arcAt N j).2.2.1), dlyD ((kAt K i).2.1 ++ dgs (arcAt M ia).2.2.2) ((kAt K i).2.2 ++ dgs (arcAt N j).2.2.2)) = false := by simpa using ap
            rw [ap', if_pos (by decide)]
            refine fin g3 _ (f2.tr q2) q3 ?_
            unfold stpC cutD
            rw [if_neg (fun z => ap (apt_iff.mpr z))]
        · rw [if_neg (by rw [n72, nI_ltI (by omega) (by omega)]; exact c3)]
          refine skip _ ?_
          rw [ex]
          exact full_72 kM kN ok t2 c3 sk
      · rw [if_neg (by rw [nI_eq (by omega) (by omega)]; exact c2)]
        exact skip _ (if_neg (fun z => c2 z.2))
    · rw [if_neg (by rw [nI_eq (by omega) (by omega)]; exact c1)]
      exact skip _ (if_neg (fun z => c1 z.1))
