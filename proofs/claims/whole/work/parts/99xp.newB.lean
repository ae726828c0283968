/-! New cells: loops, machines. -/
section NWB
/-- an array whose places are filled one after the other -/
theorem u_loop {cl f n k S ak ek y : Nat} {h : zM} {E : zM → Nat → Prop} {NE : zM → zM → Prop} {g : Nat → zM → Option zR}
    (hk : zK h y = cl + 1) (hy : y < h.1.1) (hn : n ≤ 2000) (hak : 104 ≤ ak ∧ ak < 108) (hek : ek = zel ak + 1)
    (mk : ∀ z : zM, 0 < z.1.1 → ∃ z1, NE z z1 ∧ zNw z.1.1 k S z z1 ∧ zK z1 z.1.1 = ek ∧ E z1 z.1.1)
    (al : ∀ (h h' : zM) (a : Nat), E h a → zLo a (a + k) h h' → E h' a)
    (st : ∀ (i : Nat) (z z1 z2 : zM), i < n → zgF z y cl f = some h.1.1 → NE z z1 → zas z1 h.1.1 (nI i) z.1.1 = some z2 → g i z = g (i + 1) z2) :
    ∃ h2 z', zna h ak (nI n) = some (zmk h ak n) ∧ zpF (zmk h ak n) y cl f h.1.1 = some h2 ∧ g 0 h2 = g n z' ∧ FRM y h.1.1 [f] [] h z' ∧ zF z' y f = h.1.1 ∧ z'.1 = (h.1.1 + (1 + k * n), h.1.2.1 + (1 + k * n), h.1.2.2 + (n + n * S)) ∧ zK z' h.1.1 = ak ∧ zN z' h.1.1 = n ∧ ∀ i, i < n → zF z' h.1.1 i = h.1.1 + 1 + k * i ∧ E z' (h.1.1 + 1 + k * i) := by
  obtain ⟨e1, e2, e3, e4, -⟩ := n_arr (h := h) (n := n) (k := ak) (by omega)
  obtain ⟨f1, f2, f3, f4, f5⟩ := stF (f := f) hk hy e2
  have f6 := f5 (h.1.1 + 1)
  have kA : zK (zsF (zmk h ak n) y f h.1.1) h.1.1 = ak := (f6.K (Nat.le_refl _) (by omega)).trans e3
  have nA : zN (zsF (zmk h ak n) y f h.1.1) h.1.1 = n := (f6.N (Nat.le_refl _) (by omega)).trans e4
  generalize zsF (zmk h ak n) y f h.1.1 = h2 at *
  have loop := zlp (P := fun i z => FRM y h.1.1 [f] [] h z ∧ zF z y f = h.1.1 ∧ z.1 = (h.1.1 + (1 + k * i), h.1.2.1 + (1 + k * i), h.1.2.2 + (n + i * S)) ∧ zK z h.1.1 = ak ∧ zN z h.1.1 = n ∧ ∀ j, j < i → zF z h.1.1 j = h.1.1 + 1 + k * j ∧ E z (h.1.1 + 1 + k * j)) (g := g) (n := n) (fun i z hi hP => by
    obtain ⟨p1, p2, p3, p4, p5, p6⟩ := hP
    have nx : z.1.1 = h.1.1 + 1 + k * i := by
      rw [p3]
      dsimp only
      rw [Nat.add_assoc]
    obtain ⟨z1, m1, m2, m3, m4⟩ := mk z (by omega)
    have ky := m2.2 h.1.1 (by omega)
    have k1 : zK z1 h.1.1 = ak := (congrArg Prod.fst ky.1).trans p4
    have k2 : zN z1 h.1.1 = n := (congrArg Prod.snd ky.1).trans p5
    have as : zas z1 h.1.1 (nI i) z.1.1 = some (zsF z1 h.1.1 i z.1.1) := by
      unfold zas
      have c := nI_clamp (n := i) (by omega)
      rw [if_pos ⟨by rw [k1]; exact hak, zix (by rw [k2]; exact hi) (by rw [k2]; omega), by rw [k1, m3, hek]⟩, c]
    refine ⟨zsF z1 h.1.1 i z.1.1, st i z z1 _ hi ((zgF_ok (p1.k.trans hk)).trans (congrArg some p2)) m1 as, ⟨fun b hb hc => ?_, ?_, fun q hq => ?_, fun j hj => ?_⟩, ?_, ?_, k1, k2, fun j hj => ?_⟩
    · obtain ⟨q1, q2, q3⟩ := p1.1 b hb hc
      obtain ⟨r1, r2, r3⟩ := m2.2 b (by omega)
      exact ⟨r1.trans q1, r2.trans q2, (va_up_ne _ _ (by omega)).trans (r3.trans q3)⟩
    · exact (m2.2 y (by omega)).1.trans p1.2.1
    · have e : zF (zsF z1 h.1.1 i z.1.1) y q = zF z1 y q := congrFun (va_up_ne _ _ (show y ≠ h.1.1 by omega)) q
      rw [e]
      exact (congrFun (m2.2 y (by omega)).2.2 q).trans (p1.2.2.1 q hq)
    · exact (congrFun (m2.2 y (by omega)).2.1 j).trans (p1.2.2.2 j hj)
    · have e : zF (zsF z1 h.1.1 i z.1.1) y f = zF z1 y f := congrFun (va_up_ne _ _ (show y ≠ h.1.1 by omega)) f
      rw [e]
      exact (congrFun (m2.2 y (by omega)).2.2 f).trans p2
    · show z1.1 = _
      rw [m2.1, p3]
      have s1 : k * (i + 1) = k * i + k := Nat.mul_succ k i
      have s2 : (i + 1) * S = i * S + S := Nat.succ_mul i S
      rw [s1, s2]
      exact tup3 (by dsimp only; omega) (by dsimp only; omega) (by dsimp only; omega)
    · by_cases e : j = i
      · rw [e]
        refine ⟨zF_sFx.trans nx, ?_⟩
        rw [← nx]
        exact al _ _ _ m4 (zLo_sF (Or.inl (by omega)))
      · obtain ⟨q1, q2⟩ := p6 j (by omega)
        have le : k * j + k ≤ k * i := by
          have := Nat.mul_le_mul_left k (show j + 1 ≤ i by omega)
          rw [Nat.mul_succ] at this
          exact this
        refine ⟨?_, al _ _ _ (al _ _ _ q2 (m2.lo (by omega))) (zLo_sF (Or.inl (by omega)))⟩
        rw [zF_sFk e, ← q1]
        exact congrFun (m2.2 h.1.1 (by omega)).2.2 j) 0 h2 (Nat.zero_le _) ⟨f2, f3, f4.trans (tup3 (by omega) (by omega) (by omega)), kA, nA, fun j hj => absurd hj (Nat.not_lt_zero _)⟩
  obtain ⟨z, g1, g2, g3, g4, g5, g6, g7⟩ := loop
  exact ⟨h2, z, e1, f1, g1, g2, g3, g4, g5, g6, g7⟩
/-- a machine -/
theorem n_mach {h : zM} (h0 : 0 < h.1.1) : ∃ h', zK (zmk h 3 8) h.1.1 = 3 ∧ zf nX2_init [.inr h.1.1] (zmk h 3 8) = some (0, 0, h') ∧ zNw h.1.1 6 134 h h' ∧ MC h' h.1.1 (newM 0) := by
  obtain ⟨o1, o2, o3, o4⟩ := n_obj (h := h) (n := 8) (k := 3)
  generalize zmk h 3 8 = z0 at *
  have arr : ∀ (z : zM) (f m : Nat), zK z h.1.1 = 3 → h.1.1 < z.1.1 → m ≤ 1000 → ∃ z', zna z 101 (nI m) = some (zmk z 101 m) ∧ zpF (zmk z 101 m) h.1.1 2 f z.1.1 = some z' ∧ FRM h.1.1 z.1.1 [f] [] z z' ∧ zF z' h.1.1 f = z.1.1 ∧ z'.1 = (z.1.1 + 1, z.1.2.1 + 1, z.1.2.2 + m) ∧ zK z' z.1.1 = 101 ∧ zN z' z.1.1 = m := fun z f m hk hy hm => by
    obtain ⟨e1, e2, e3, e4, -⟩ := n_arr (h := z) (n := m) (k := 101) (by omega)
    obtain ⟨f1, f2, f3, f4, f5⟩ := stF (f := f) hk hy e2
    exact ⟨_, e1, f1, f2, f3, f4, ((f5 (z.1.1 + 1)).K (Nat.le_refl _) (by omega)).trans e3, ((f5 (z.1.1 + 1)).N (Nat.le_refl _) (by omega)).trans e4⟩
  obtain ⟨z1, a1, a2, a3, a4, a5, a6, a7⟩ := arr z0 3 6 o2 (by omega) (by omega)
  have n1' : z1.1.1 = h.1.1 + 2 := by rw [a5]; dsimp only; omega
  obtain ⟨z2, b1, b2, b3, b4, b5, b6, b7⟩ := arr z1 4 30 (a3.k.trans o2) (by omega) (by omega)
  have n2' : z2.1.1 = h.1.1 + 3 := by rw [b5]; dsimp only; omega
  have k2 := b3.k.trans (a3.k.trans o2)
  obtain ⟨z3, c1, c2, c3, c4, c5, c6, c7⟩ := arr z2 5 30 k2 (by omega) (by omega)
  have n3' : z3.1.1 = h.1.1 + 4 := by rw [c5]; dsimp only; omega
  obtain ⟨z4, d1, d2, d3, d4, d5, d6, d7⟩ := arr z3 6 30 (c3.k.trans k2) (by omega) (by omega)
  have n4' : z4.1.1 = h.1.1 + 5 := by rw [d5]; dsimp only; omega
  have k4 := d3.k.trans (c3.k.trans k2)
  obtain ⟨z5, f1, f2, f3, f4, f5, f6, f7⟩ := arr z4 7 30 k4 (by omega) (by omega)
  have G4 := f3
  have G3 := d3.tr f3 (by omega)
  have G2 := c3.tr G3 (by omega)
  have G1 := b3.tr G2 (by omega)
  have G0 := a3.tr G1 (by omega)
  rw [o4] at a4 a6 a7
  rw [n1'] at b4 b6 b7
  rw [n2'] at c4 c6 c7
  rw [n3'] at d4 d6 d7
  rw [n4'] at f4 f6 f7
  have k5 := f3.k.trans k4
  have lay : Lay T2 2 z5 h.1.1 := by
    refine ⟨k5, fun e he => ?_⟩
    have l1 := G1.lo (lo := h.1.1 + 1) (hi := h.1.1 + 2) (by omega) (by omega)
    have l2 := G2.lo (lo := h.1.1 + 2) (hi := h.1.1 + 3) (by omega) (by omega)
    have l3 := G3.lo (lo := h.1.1 + 3) (hi := h.1.1 + 4) (by omega) (by omega)
    have l4 := G4.lo (lo := h.1.1 + 4) (hi := h.1.1 + 5) (by omega) (by omega)
    simp only [T2, List.mem_cons, List.not_mem_nil, or_false] at he
    rcases he with rfl | rfl | rfl | rfl | rfl
    · exact ⟨(G1.f (by decide)).trans a4, (l1.K (Nat.le_refl _) (by omega)).trans a6, (l1.N (Nat.le_refl _) (by omega)).trans a7⟩
    · exact ⟨(G2.f (by decide)).trans b4, (l2.K (Nat.le_refl _) (by omega)).trans b6, (l2.N (Nat.le_refl _) (by omega)).trans b7⟩
    · exact ⟨(G3.f (by decide)).trans c4, (l3.K (Nat.le_refl _) (by omega)).trans c6, (l3.N (Nat.le_refl _) (by omega)).trans c7⟩
    · exact ⟨(G4.f (by decide)).trans d4, (l4.K (Nat.le_refl _) (by omega)).trans d6, (l4.N (Nat.le_refl _) (by omega)).trans d7⟩
    · exact ⟨f4, f6, f7⟩
  obtain ⟨z6, g1, g2, g3⟩ := s_renew lay 0
  refine ⟨z6, o2, ?_, ?_, g3⟩
  · rw [e_X2_init, if_neg (by omega), show zna z0 101 (6 : Int32) = _ from a1, Option.bind_some, a2, Option.bind_some, show zna z1 101 (30 : Int32) = _ from b1, Option.bind_some, b2, Option.bind_some, show zna z2 101 (30 : Int32) = _ from c1, Option.bind_some, c2, Option.bind_some, show zna z3 101 (30 : Int32) = _ from d1, Option.bind_some, d2, Option.bind_some, show zna z4 101 (30 : Int32) = _ from f1, Option.bind_some, f2, Option.bind_some, zif_ok k5, show zf nX2_renew [.inr h.1.1, .inl (0 : Int32)] z5 = _ from g1, Option.bind_some]
  · have nw : zNw h.1.1 5 126 z0 z5 := G0.nw (by rw [f5, d5, c5, b5, a5]) (by omega)
    have nw6 : zNw h.1.1 0 0 z5 z6 := ⟨g2.1, fun b hb => ⟨congrFun g2.2.1 b, (g2.2.2 b).1 (by omega), (g2.2.2 b).2⟩⟩
    exact (o1.tr nw (Nat.le_refl _)).tr nw6 (Nat.le_refl _)
end NWB
