/-! Copying a machine; the sets behind a letter. -/
theorem s_Mbecome {h : zM} {a b : Nat} {M0 M : zMa} (ma : MC h a M0) (mb : MC h b M) (k : MaOk M) (hd : a + 6 ≤ b ∨ b + 6 ≤ a) : ∃ h', zf nX2_become [.inr a, .inr b] h = some (0, 0, h') ∧ zFr a (a + 6) h h' ∧ MC h' a M := by
  have la := ma.1
  have f1 : zFr a (a + 6) h (zsI h a 0 (nI M.1)) := zFr_sI (by omega) (by omega)
  have f2 : zFr a (a + 6) h (zsI (zsI h a 0 (nI M.1)) a 1 (nI M.2.2.2.length)) := f1.tr (zFr_sI (by omega) (by omega))
  have f3 : zFr a (a + 6) h (zsI (zsI (zsI h a 0 (nI M.1)) a 1 (nI M.2.2.2.length)) a 2 (nI M.2.1)) := f2.tr (zFr_sI (by omega) (by omega))
  have w0 : zI (zsI (zsI (zsI h a 0 (nI M.1)) a 1 (nI M.2.2.2.length)) a 2 (nI M.2.1)) a 0 = nI M.1 := by rw [zI_sI_k (by omega), zI_sI_k (by omega), zI_sI]
  have w1 : zI (zsI (zsI (zsI h a 0 (nI M.1)) a 1 (nI M.2.2.2.length)) a 2 (nI M.2.1)) a 1 = nI M.2.2.2.length := by rw [zI_sI_k (by omega), zI_sI]
  have w2 : zI (zsI (zsI (zsI h a 0 (nI M.1)) a 1 (nI M.2.2.2.length)) a 2 (nI M.2.1)) a 2 = nI M.2.1 := zI_sI
  rw [e_X2_become, mb.n, Option.bind_some, zpI_ok la.1, Option.bind_some, (mb.keep f1 (by omega)).arcs, Option.bind_some, zpI_ok (la.keep f1).1, Option.bind_some, (mb.keep f2 (by omega)).beg, Option.bind_some, zpI_ok (la.keep f2).1, Option.bind_some]
  generalize hh : zsI (zsI (zsI h a 0 (nI M.1)) a 1 (nI M.2.2.2.length)) a 2 (nI M.2.1) = g at *
  have mb := mb.keep f3 (by omega)
  have ma : MC g a (M.1, M.2.1, fun _ => none, []) ∨ True := Or.inr trivial
  have la := la.keep f3
  have A3 : ∀ g' : zM, g'.2.1 = g.2.1 → g'.2.2.2 = g.2.2.2 → zgF g' a 2 3 = some (a + 1) ∧ zgF g' a 2 4 = some (a + 2) ∧ zgF g' a 2 5 = some (a + 3) ∧ zgF g' a 2 6 = some (a + 4) ∧ zgF g' a 2 7 = some (a + 5) ∧ zgF g' b 2 3 = some (b + 1) ∧ zgF g' b 2 4 = some (b + 2) ∧ zgF g' b 2 5 = some (b + 3) ∧ zgF g' b 2 6 = some (b + 4) ∧ zgF g' b 2 7 = some (b + 5) ∧
      zK g' (a + 1) = 101 ∧ zK g' (a + 2) = 101 ∧ zK g' (a + 3) = 101 ∧ zK g' (a + 4) = 101 ∧ zK g' (a + 5) = 101 ∧ zN g' (a + 1) = 6 ∧ zN g' (a + 2) = 30 ∧ zN g' (a + 3) = 30 ∧ zN g' (a + 4) = 30 ∧ zN g' (a + 5) = 30 ∧
      zK g' (b + 1) = 101 ∧ zK g' (b + 2) = 101 ∧ zK g' (b + 3) = 101 ∧ zK g' (b + 4) = 101 ∧ zK g' (b + 5) = 101 ∧ zN g' (b + 1) = 6 ∧ zN g' (b + 2) = 30 ∧ zN g' (b + 3) = 30 ∧ zN g' (b + 4) = 30 ∧ zN g' (b + 5) = 30 := by
    intro g' e1 e2
    have Lk : ∀ c, Lay T2 2 g c → Lay T2 2 g' c := fun c l => ⟨by unfold zK; rw [e1]; exact l.1, fun e he => ⟨by unfold zF; rw [e2]; exact (l.2 e he).1, by unfold zK; rw [e1]; exact (l.2 e he).2.1, by unfold zN; rw [e1]; exact (l.2 e he).2.2⟩⟩
    have l1 := Lk a la
    have l2 := Lk b mb.1
    have q1 := l1.2 (3, 1, 101, 6) (by decide)
    have q2 := l1.2 (4, 2, 101, 30) (by decide)
    have q3 := l1.2 (5, 3, 101, 30) (by decide)
    have q4 := l1.2 (6, 4, 101, 30) (by decide)
    have q5 := l1.2 (7, 5, 101, 30) (by decide)
    have r1 := l2.2 (3, 1, 101, 6) (by decide)
    have r2 := l2.2 (4, 2, 101, 30) (by decide)
    have r3 := l2.2 (5, 3, 101, 30) (by decide)
    have r4 := l2.2 (6, 4, 101, 30) (by decide)
    have r5 := l2.2 (7, 5, 101, 30) (by decide)
    exact ⟨(zgF_ok l1.1).trans (congrArg some q1.1), (zgF_ok l1.1).trans (congrArg some q2.1), (zgF_ok l1.1).trans (congrArg some q3.1), (zgF_ok l1.1).trans (congrArg some q4.1), (zgF_ok l1.1).trans (congrArg some q5.1),
      (zgF_ok l2.1).trans (congrArg some r1.1), (zgF_ok l2.1).trans (congrArg some r2.1), (zgF_ok l2.1).trans (congrArg some r3.1), (zgF_ok l2.1).trans (congrArg some r4.1), (zgF_ok l2.1).trans (congrArg some r5.1),
      q1.2.1, q2.2.1, q3.2.1, q4.2.1, q5.2.1, q1.2.2, q2.2.2, q3.2.2, q4.2.2, q5.2.2, r1.2.1, r2.2.1, r3.2.1, r4.2.1, r5.2.1, r1.2.2, r2.2.2, r3.2.2, r4.2.2, r5.2.2⟩
  have stp : ∀ (g' : zM) (j N : Nat), (j = 1 ∧ N = 6 ∨ (2 ≤ j ∧ j ≤ 5) ∧ N = 30) → g'.2.1 = g.2.1 → g'.2.2.2 = g.2.2.2 → zcp g' (b + j) 0 (a + j) 0 (nI N) = some (zWr g' (a + j) 0 N (zI g' (b + j))) := by
    intro g' j N hj e1 e2
    obtain ⟨-, -, -, -, -, -, -, -, -, -, k1, k2, k3, k4, k5, n1, n2, n3, n4, n5, K1, K2, K3, K4, K5, N1, N2, N3, N4, N5⟩ := A3 g' e1 e2
    rcases hj with ⟨rfl, rfl⟩ | ⟨hj, rfl⟩
    · exact zcp_ok K1 k1 (by omega) (by omega) (by decide)
    · rcases (show j = 2 ∨ j = 3 ∨ j = 4 ∨ j = 5 by omega) with rfl | rfl | rfl | rfl
      · exact zcp_ok K2 k2 (by omega) (by omega) (by decide)
      · exact zcp_ok K3 k3 (by omega) (by omega) (by decide)
      · exact zcp_ok K4 k4 (by omega) (by omega) (by decide)
      · exact zcp_ok K5 k5 (by omega) (by omega) (by decide)
  have B := A3 g rfl rfl
  have F1 : ∀ (g' : zM) c p n f, g'.2.1 = g.2.1 → (zWr g' c p n f).2.1 = g.2.1 := fun _ _ _ _ _ e => e
  have F2 : ∀ (g' : zM) c p n f, g'.2.2.2 = g.2.2.2 → (zWr g' c p n f).2.2.2 = g.2.2.2 := fun _ _ _ _ _ e => e
  rw [n6, n30, B.2.2.2.2.2.1, Option.bind_some, B.1, Option.bind_some, stp g 1 6 (Or.inl ⟨rfl, rfl⟩) rfl rfl, Option.bind_some]
  generalize ea : zWr g (a + 1) 0 6 (zI g (b + 1)) = ga at *
  have E1 : ga.2.1 = g.2.1 := by rw [← ea]; rfl
  have E2 : ga.2.2.2 = g.2.2.2 := by rw [← ea]; rfl
  have B := A3 ga E1 E2
  rw [B.2.2.2.2.2.2.1, Option.bind_some, B.2.1, Option.bind_some, stp ga 2 30 (Or.inr ⟨by omega, rfl⟩) E1 E2, Option.bind_some]
  generalize eb : zWr ga (a + 2) 0 30 (zI ga (b + 2)) = gb at *
  have E3 : gb.2.1 = g.2.1 := by rw [← eb]; exact E1
  have E4 : gb.2.2.2 = g.2.2.2 := by rw [← eb]; exact E2
  have B := A3 gb E3 E4
  rw [B.2.2.2.2.2.2.2.1, Option.bind_some, B.2.2.1, Option.bind_some, stp gb 3 30 (Or.inr ⟨by omega, rfl⟩) E3 E4, Option.bind_some]
  generalize ec : zWr gb (a + 3) 0 30 (zI gb (b + 3)) = gc at *
  have E5 : gc.2.1 = g.2.1 := by rw [← ec]; exact E3
  have E6 : gc.2.2.2 = g.2.2.2 := by rw [← ec]; exact E4
  have B := A3 gc E5 E6
  rw [B.2.2.2.2.2.2.2.2.1, Option.bind_some, B.2.2.2.1, Option.bind_some, stp gc 4 30 (Or.inr ⟨by omega, rfl⟩) E5 E6, Option.bind_some]
  generalize ed : zWr gc (a + 4) 0 30 (zI gc (b + 4)) = gd at *
  have E7 : gd.2.1 = g.2.1 := by rw [← ed]; exact E5
  have E8 : gd.2.2.2 = g.2.2.2 := by rw [← ed]; exact E6
  have B := A3 gd E7 E8
  rw [B.2.2.2.2.2.2.2.2.2.1, Option.bind_some, B.2.2.2.2.1, Option.bind_some, stp gd 5 30 (Or.inr ⟨by omega, rfl⟩) E7 E8, Option.bind_some]
  have fa : zFr a (a + 6) g ga := by rw [← ea]; exact zFr_Wr (by omega) (by omega)
  have fb : zFr a (a + 6) ga gb := by rw [← eb]; exact zFr_Wr (by omega) (by omega)
  have fc : zFr a (a + 6) gb gc := by rw [← ec]; exact zFr_Wr (by omega) (by omega)
  have fd : zFr a (a + 6) gc gd := by rw [← ed]; exact zFr_Wr (by omega) (by omega)
  have fe : zFr a (a + 6) gd (zWr gd (a + 5) 0 30 (zI gd (b + 5))) := zFr_Wr (by omega) (by omega)
  have v0 : ∀ i, zI (zWr gd (a + 5) 0 30 (zI gd (b + 5))) a i = zI g a i := by
    intro i
    rw [zI_Wr_a (by omega), ← ed, zI_Wr_a (by omega), ← ec, zI_Wr_a (by omega), ← eb, zI_Wr_a (by omega), ← ea, zI_Wr_a (by omega)]
  have v1 : ∀ i, i < 6 → zI (zWr gd (a + 5) 0 30 (zI gd (b + 5))) (a + 1) i = zI g (b + 1) i := by
    intro i hi
    rw [zI_Wr_a (by omega), ← ed, zI_Wr_a (by omega), ← ec, zI_Wr_a (by omega), ← eb, zI_Wr_a (by omega), ← ea, zI_Wr_in (by omega) (by omega)]
    rfl
  have v2 : ∀ i, i < 30 → zI (zWr gd (a + 5) 0 30 (zI gd (b + 5))) (a + 2) i = zI g (b + 2) i := by
    intro i hi
    rw [zI_Wr_a (by omega), ← ed, zI_Wr_a (by omega), ← ec, zI_Wr_a (by omega), ← eb, zI_Wr_in (by omega) (by omega), fa.I (by omega)]
    rfl
  have v3 : ∀ i, i < 30 → zI (zWr gd (a + 5) 0 30 (zI gd (b + 5))) (a + 3) i = zI g (b + 3) i := by
    intro i hi
    rw [zI_Wr_a (by omega), ← ed, zI_Wr_a (by omega), ← ec, zI_Wr_in (by omega) (by omega), fb.I (by omega), fa.I (by omega)]
    rfl
  have v4 : ∀ i, i < 30 → zI (zWr gd (a + 5) 0 30 (zI gd (b + 5))) (a + 4) i = zI g (b + 4) i := by
    intro i hi
    rw [zI_Wr_a (by omega), ← ed, zI_Wr_in (by omega) (by omega), fc.I (by omega), fb.I (by omega), fa.I (by omega)]
    rfl
  have v5 : ∀ i, i < 30 → zI (zWr gd (a + 5) 0 30 (zI gd (b + 5))) (a + 5) i = zI g (b + 5) i := by
    intro i hi
    rw [zI_Wr_in (by omega) (by omega), fd.I (by omega), fc.I (by omega), fb.I (by omega), fa.I (by omega)]
    rfl
  have fr := ((((f3.tr fa).tr fb).tr fc).tr fd).tr fe
  refine ⟨_, rfl, fr, la.keep ((((fa.tr fb).tr fc).tr fd).tr fe), by rw [v0]; exact w0, by rw [v0]; exact w1, by rw [v0]; exact w2, fun q hq => ?_, fun i hi => ?_⟩
  · rw [v1 q hq]; exact mb.2.2.2.2.1 q hq
  · have h30 := k.2.2.2.1
    rw [v2 i (by omega), v3 i (by omega), v4 i (by omega), v5 i (by omega)]
    exact mb.2.2.2.2.2 i hi
def aCopy (Ms : Nat → zMa) (t : Int32) : Int32 × (Nat → zMa) := if isT t then (1, va_up Ms t.toNatClampNeg (Ms (1 - t.toNatClampNeg))) else (0, Ms)
theorem s_copy {h : zM} {x : Nat} {Ms : Nat → zMa} (m : XMs h x Ms) (t : Int32) : ∃ h', zf nX11_copy [.inr x, .inl t] h = some ((aCopy Ms t).1, 0, h') ∧ zFr (x + 2) (x + 14) h h' ∧ XMs h' x (aCopy Ms t).2 := by
  rw [e_X11_copy, zif_ok m.1.1, s_isMachine, Option.bind_some]
  unfold aCopy
  by_cases ct : isT t = true
  · obtain ⟨j, hj, rfl⟩ := isT_of ct
    simp only [ct, if_true]
    rw [if_neg (by decide), m.f0, Option.bind_some, m.el hj, Option.bind_some, Option.bind_some, n1, pk_sub (by omega), m.el (show 1 - j < 2 by omega), Option.bind_some, zif_ok (m.2 j hj).1.1.1]
    obtain ⟨h', g1, g2, g3⟩ := s_Mbecome (m.2 j hj).1 (m.2 (1 - j) (by omega)).1 (m.2 (1 - j) (by omega)).2 (by omega)
    rw [g1, Option.bind_some, ← n1, zb1, nI_clamp (by omega)]
    exact ⟨h', rfl, g2.wide (by omega) (by omega), m.put g2 g3 (m.2 (1 - j) (by omega)).2⟩
  · have cf : isT t = false := by simpa using ct
    simp only [cf]
    rw [if_pos (by decide), zb0]
    exact ⟨h, rfl, zFr.rf, m⟩
def folF (B r : Nat) (s : Nat) (x : zArc) : Nat := if x.2.1 = r ∧ B.testBit x.1 = true then s ||| 2 ^ x.2.2.1 else s
/-- the states behind a letter -/
def folB (M : zMa) (B r : Nat) : Nat := M.2.2.2.foldl (folF B r) 0
theorem folB_lt {M : zMa} (k : MaOk M) (B r : Nat) : folB M B r < 2 ^ M.1 := by
  have key : ∀ (l : List zArc) (s : Nat), (∀ a ∈ l, a.2.2.1 < M.1) → s < 2 ^ M.1 → l.foldl (folF B r) s < 2 ^ M.1 := by
    intro l
    induction l with
    | nil => intro s _ hs; exact hs
    | cons a l ih =>
      intro s hl hs
      rw [List.foldl_cons]
      refine ih _ (fun b hb => hl b (List.mem_cons_of_mem _ hb)) ?_
      unfold folF
      split
      · exact bit_or_n _ k.1 _ hs _ (hl a List.mem_cons_self)
      · exact hs
  exact key _ 0 (fun a ha => (k.2.2.2.2 a ha).2.2.1) (Nat.pow_pos (by decide))
theorem MaOk.p64 {M : zMa} (k : MaOk M) {B : Nat} (h : B < 2 ^ M.1) : B < 64 := Nat.lt_of_lt_of_le h (Nat.pow_le_pow_right (by decide) k.1)
theorem fold_take {α β : Type} (f : β → α → β) (l : List α) (s : β) (i : Nat) (x : α) (h : l[i]? = some x) : (l.take (i + 1)).foldl f s = f ((l.take i).foldl f s) x := by
  rw [List.take_add_one, h, List.foldl_append]
  rfl
theorem arc_get {M : zMa} {i : Nat} (hi : i < M.2.2.2.length) : M.2.2.2[i]? = some (arcAt M i) := by
  unfold arcAt
  rw [List.getD_eq_getElem?_getD, List.getElem?_eq_getElem hi]
  rfl
theorem fol_take_lt {M : zMa} (k : MaOk M) (B r i : Nat) : (M.2.2.2.take i).foldl (folF B r) 0 < 64 := by
  have key : ∀ (l : List zArc) (s : Nat), (∀ a ∈ l, a.2.2.1 < M.1) → s < 2 ^ M.1 → l.foldl (folF B r) s < 2 ^ M.1 := by
    intro l
    induction l with
    | nil => intro s _ hs; exact hs
    | cons a l ih =>
      intro s hl hs
      rw [List.foldl_cons]
      refine ih _ (fun b hb => hl b (List.mem_cons_of_mem _ hb)) ?_
      unfold folF
      split
      · exact bit_or_n _ k.1 _ hs _ (hl a List.mem_cons_self)
      · exact hs
  exact k.p64 (key _ 0 (fun a ha => (k.2.2.2.2 a (List.mem_of_mem_take ha)).2.2.1) (Nat.pow_pos (by decide)))
theorem s_follow {h : zM} {a : Nat} {M : zMa} (m : MC h a M) (k : MaOk M) {B r : Nat} (hB : B < 64) (hr : r < 4) : zf nX2_follow [.inr a, .inl (nI B), .inl (nI r)] h = some (nI (folB M B r), 0, h) := by
  have k30 := k.2.2.2.1
  rw [e_X2_follow, n0]
  have := zlq (P := fun i g => g = h) (g := fun i g => zm_X2_follow 5 [some (.inr a), some (.inl (nI B)), some (.inl (nI r)), some (.inl (nI ((M.2.2.2.take i).foldl (folF B r) 0))), some (.inl (nI i))] [] g) (Q := fun o => o = some (nI (folB M B r), 0, h)) (n := M.2.2.2.length) ?_ ?_ 0 h (Nat.zero_le _) rfl
  · exact this
  · intro i g hi hg
    subst hg
    right
    have ka := k.at hi
    refine ⟨g, ?_, rfl⟩
    rw [e_X2_follow_5, m.arcs, Option.bind_some, if_pos ((nI_ltI (by omega) (by omega)).mpr hi), m.f5, Option.bind_some, m.rlet k hi, Option.bind_some, nI_1, fold_take _ _ _ _ _ (arc_get hi)]
    have hs : ∀ s, folF B r s (arcAt M i) = if (arcAt M i).2.1 = r ∧ B.testBit (arcAt M i).1 = true then s ||| 2 ^ (arcAt M i).2.2.1 else s := fun _ => rfl
    have hlt := fol_take_lt k B r i
    rw [hs]
    generalize (M.2.2.2.take i).foldl (folF B r) 0 = s at *
    by_cases c1 : (arcAt M i).2.1 = r
    · rw [if_pos (by rw [c1]), m.f4, Option.bind_some, m.rfrom k hi, Option.bind_some, s_holds hB (by have := k.1; omega), Option.bind_some]
      by_cases c2 : B.testBit (arcAt M i).1 = true
      · simp only [c1, c2, and_true, if_true]
        rw [if_neg (by decide), m.f6, Option.bind_some, m.rto k hi, Option.bind_some, bit_or _ hlt _ (by have := k.1; omega)]
      · have c2' : B.testBit (arcAt M i).1 = false := by simpa using c2
        simp only [c2', Bool.false_eq_true, and_false, if_false, if_true]
    · rw [if_neg (by rw [nI_eq (by omega) (by omega)]; exact c1), if_neg (fun z => c1 z.1)]
  · intro g hg
    subst hg
    rw [e_X2_follow_5, m.arcs, Option.bind_some, if_neg (by rw [nI_ltI (by omega) (by omega)]; omega), List.take_length]
    rfl
