/-! New cells: the class Readings, Outputs, Sets, Least. -/
theorem tupE {t : Nat × Nat × Nat} {a b c : Nat} (h1 : t.1 = a) (h2 : t.2.1 = b) (h3 : t.2.2 = c) : t = (a, b, c) := by rw [← h1, ← h2, ← h3]
theorem offA {t y a b c : Nat} (h : t = y + a + b) (e : a + b = c) : t = y + c := by rw [h, Nat.add_assoc, e]
theorem offB {t u c m k p : Nat} (h : t = u + k) (g : u = c + m) (e : m + k = p) : t = c + p := by rw [h, g, Nat.add_assoc, e]
theorem offC {t y a b : Nat} (h : t = y + 1) (e : 1 + a = b) : y + b = t + a := by rw [h, Nat.add_assoc, e]
theorem ltA {y k : Nat} (h : 0 < k) : y < y + k := Nat.lt_add_of_pos_right h
theorem leA {y a b : Nat} (h : a ≤ b) : y + a ≤ y + b := Nat.add_le_add_left h y
theorem ltB {y a b : Nat} (h : a < b) : y + a < y + b := Nat.add_lt_add_left h y
section STP
variable {h : zM} {y cl f a n r : Nat}
theorem p_I {j : Nat} {x : Int32} (hk : zK h y = cl + 1) (ha : h.1.1 = a) : ∃ z, zpI h y cl j x = some z ∧ FRM y a [] [j] h z ∧ zI z y j = x ∧ z.1.1 = a + 0 ∧ z.1.2.1 = h.1.2.1 + 0 ∧ z.1.2.2 = h.1.2.2 + 0 := by
  obtain ⟨c, g, v, e⟩ := stI (y := y) (cl := cl) (j := j) (x := x) hk
  rw [ha] at g
  exact ⟨_, c, g, v, ha, rfl, rfl⟩
theorem p_Z {j : Nat} {x : Int32} (hk : zK h y = cl + 1) (ha : h.1.1 = a) (hx : x = 0 ∨ x = 1) : ∃ z, zpZ h y cl j x = some z ∧ FRM y a [] [j] h z ∧ zI z y j = x ∧ z.1.1 = a + 0 ∧ z.1.2.1 = h.1.2.1 + 0 ∧ z.1.2.2 = h.1.2.2 + 0 := by
  obtain ⟨c, g, v, e⟩ := stI (y := y) (cl := cl) (j := j) (x := x) hk
  rw [ha] at g
  exact ⟨_, zpZ_ok hk hx, g, v, ha, rfl, rfl⟩
theorem p_R {s : Nat} (hk : zK h y = cl + 1) (ha : h.1.1 = a) : ∃ z, zpF h y cl f s = some z ∧ FRM y a [f] [] h z ∧ zF z y f = s ∧ z.1.1 = a + 0 ∧ z.1.2.1 = h.1.2.1 + 0 ∧ z.1.2.2 = h.1.2.2 + 0 :=
  ⟨zsF h y f s, if_pos hk, ⟨fun b hb _ => sF_ne hb, rfl, fun g hg => zF_sFk (fun w => hg (by rw [w]; exact List.mem_singleton.mpr rfl)), fun _ _ => rfl⟩, zF_sFx, ha, rfl, rfl⟩
theorem p_A {k : Nat} (hk : zK h y = cl + 1) (ha : h.1.1 = a) (hy : y < a) (hn : n ≤ 1000000) : ∃ z1 z, zna h k (nI n) = some z1 ∧ zpF z1 y cl f h.1.1 = some z ∧ FRM y a [f] [] h z ∧ zF z y f = a ∧ (z.1.1 = a + 1 ∧ z.1.2.1 = h.1.2.1 + 1 ∧ z.1.2.2 = h.1.2.2 + n) ∧ zK z a = k ∧ zN z a = n ∧ ∀ i, zI z a i = 0 := by
  subst ha
  obtain ⟨e1, e2, e3, e4, e5, -⟩ := n_arr (h := h) (n := n) (k := k) hn
  obtain ⟨f1, f2, f3, f4, f5⟩ := stF (f := f) hk hy e2
  have l := f5 (h.1.1 + 1)
  exact ⟨_, _, e1, f1, f2, f3, ⟨congrArg (fun t : Nat × Nat × Nat => t.1) f4, congrArg (fun t : Nat × Nat × Nat => t.2.1) f4, congrArg (fun t : Nat × Nat × Nat => t.2.2) f4⟩, (l.K (Nat.le_refl _) (by omega)).trans e3, (l.N (Nat.le_refl _) (by omega)).trans e4, fun i => (l.I (Nat.le_refl _) (by omega) i).trans (e5 i)⟩
theorem p_W (hk : zK h y = cl + 1) (ha : h.1.1 = a) (hy : y < a) (hn : n ≤ 1000000) : ∃ z1 z, zK (zmk h 11 2) h.1.1 = 11 ∧ zf nX10_init [.inr h.1.1, .inl (nI n)] (zmk h 11 2) = some (0, 0, z1) ∧ zpF z1 y cl f h.1.1 = some z ∧ FRM y a [f] [] h z ∧ zF z y f = a ∧ (z.1.1 = a + 2 ∧ z.1.2.1 = h.1.2.1 + 2 ∧ z.1.2.2 = h.1.2.2 + (2 + n)) ∧ Wd z a n [] := by
  subst ha
  obtain ⟨t, e1, e2, e3, e4⟩ := n_word (h := h) (n := n) (by omega) hn
  obtain ⟨f1, f2, f3, f4, f5⟩ := stF (f := f) hk hy e3
  exact ⟨t, _, e1, e2, f1, f2, f3, ⟨congrArg (fun t : Nat × Nat × Nat => t.1) f4, congrArg (fun t : Nat × Nat × Nat => t.2.1) f4, congrArg (fun t : Nat × Nat × Nat => t.2.2) f4⟩, e4.al (f5 _)⟩
theorem p_T (hk : zK h y = cl + 1) (ha : h.1.1 = a) (hy : y < a) (hn : n ≤ 1000000) : ∃ z1 z, zK (zmk h 9 3) h.1.1 = 9 ∧ zf nX8_init [.inr h.1.1, .inl (nI n)] (zmk h 9 3) = some (0, 0, z1) ∧ zpF z1 y cl f h.1.1 = some z ∧ FRM y a [f] [] h z ∧ zF z y f = a ∧ (z.1.1 = a + 5 ∧ z.1.2.1 = h.1.2.1 + 5 ∧ z.1.2.2 = h.1.2.2 + (3 + ((2 + n) + (2 + n)))) ∧ TLC z a n [] := by
  subst ha
  obtain ⟨t, e1, e2, e3, e4⟩ := n_two (h := h) (n := n) (by omega) hn
  obtain ⟨f1, f2, f3, f4, f5⟩ := stF (f := f) hk hy e3
  exact ⟨t, _, e1, e2, f1, f2, f3, ⟨congrArg (fun t : Nat × Nat × Nat => t.1) f4, congrArg (fun t : Nat × Nat × Nat => t.2.1) f4, congrArg (fun t : Nat × Nat × Nat => t.2.2) f4⟩, e4.al (f5 _)⟩
theorem p_V (hk : zK h y = cl + 1) (ha : h.1.1 = a) (hy : y < a) (hn : n ≤ 1000) (hr : r ≤ 1000000) : ∃ z1 z, zf nX11_makeWords [.inl (nI n), .inl (nI r)] h = some (0, h.1.1, z1) ∧ zpF z1 y cl f h.1.1 = some z ∧ FRM y a [f] [] h z ∧ zF z y f = a ∧ (z.1.1 = a + (1 + 2 * n) ∧ z.1.2.1 = h.1.2.1 + (1 + 2 * n) ∧ z.1.2.2 = h.1.2.2 + (n + n * (2 + r))) ∧ WAr z a n ∧ ∀ i, i < n → Wd z (a + 1 + 2 * i) r [] := by
  subst ha
  obtain ⟨t, e1, e2, e3, e4⟩ := n_words (h := h) (n := n) (r := r) (by omega) hn hr
  obtain ⟨f1, f2, f3, f4, f5⟩ := stF (f := f) hk hy e2
  have l := f5 (h.1.1 + 1)
  exact ⟨t, _, e1, f1, f2, f3, ⟨congrArg (fun t : Nat × Nat × Nat => t.1) f4, congrArg (fun t : Nat × Nat × Nat => t.2.1) f4, congrArg (fun t : Nat × Nat × Nat => t.2.2) f4⟩, ⟨(l.K (Nat.le_refl _) (by omega)).trans e3.1, (l.N (Nat.le_refl _) (by omega)).trans e3.2.1, e3.2.2.1, fun i hi => (l.F (Nat.le_refl _) (by omega) _).trans (e3.2.2.2 i hi)⟩, fun i hi => (e4 i hi).al ((f5 (h.1.1 + 1 + 2 * i + 2)).sub (by omega) (Nat.le_refl _))⟩
end STP
section NWC
theorem n_read {h : zM} {y : Nat} (h0 : 0 < y) (hk : zK h y = 6) (hy : h.1.1 = y + 1) : ∃ z, zf nX5_init [.inr y] h = some (0, 0, z) ∧ zNw y 4 16384 h z ∧ RS z y := by
  have hn0 : h.1.1 = y + 1 := hy
  have hm0 : h.1.2.1 = h.1.2.1 + 0 := rfl
  have hs0 : h.1.2.2 = h.1.2.2 + 0 := rfl
  have kk0 : zK h y = 5 + 1 := hk
  obtain ⟨t0, z1, a0, c0, f0, v0, ⟨i0, j0, s0⟩, P0⟩ := p_A (f := 0) (n := 4096) (k := 103) kk0 hn0 (ltA (by decide)) (by decide)
  have kk1 : zK z1 y = 5 + 1 := f0.k.trans kk0
  have hn1 : z1.1.1 = y + 2 := offA i0 rfl
  have hm1 : z1.1.2.1 = h.1.2.1 + 1 := offB j0 hm0 rfl
  have hs1 : z1.1.2.2 = h.1.2.2 + 4096 := offB s0 hs0 rfl
  clear i0 j0 s0
  obtain ⟨t1, z2, a1, c1, f1, v1, ⟨i1, j1, s1⟩, P1⟩ := p_A (f := 1) (n := 4096) (k := 101) kk1 hn1 (ltA (by decide)) (by decide)
  have kk2 : zK z2 y = 5 + 1 := f1.k.trans kk1
  have hn2 : z2.1.1 = y + 3 := offA i1 rfl
  have hm2 : z2.1.2.1 = h.1.2.1 + 2 := offB j1 hm1 rfl
  have hs2 : z2.1.2.2 = h.1.2.2 + 8192 := offB s1 hs1 rfl
  clear i1 j1 s1
  obtain ⟨t2, z3, a2, c2, f2, v2, ⟨i2, j2, s2⟩, P2⟩ := p_A (f := 2) (n := 4096) (k := 101) kk2 hn2 (ltA (by decide)) (by decide)
  have kk3 : zK z3 y = 5 + 1 := f2.k.trans kk2
  have hn3 : z3.1.1 = y + 4 := offA i2 rfl
  have hm3 : z3.1.2.1 = h.1.2.1 + 3 := offB j2 hm2 rfl
  have hs3 : z3.1.2.2 = h.1.2.2 + 12288 := offB s2 hs2 rfl
  clear i2 j2 s2
  obtain ⟨t3, z4, a3, c3, f3, v3, ⟨i3, j3, s3⟩, P3⟩ := p_A (f := 3) (n := 4096) (k := 101) kk3 hn3 (ltA (by decide)) (by decide)
  have kk4 : zK z4 y = 5 + 1 := f3.k.trans kk3
  have hn4 : z4.1.1 = y + 5 := offA i3 rfl
  have hm4 : z4.1.2.1 = h.1.2.1 + 4 := offB j3 hm3 rfl
  have hs4 : z4.1.2.2 = h.1.2.2 + 16384 := offB s3 hs3 rfl
  clear i3 j3 s3
  have G4 : FRM y (y + 5) [] [] z4 z4 := FRM.rf
  have G3 := f3.tr G4 (leA (by decide))
  have G2 := f2.tr G3 (leA (by decide))
  have G1 := f1.tr G2 (leA (by decide))
  have G0 := f0.tr G1 (leA (by decide))
  refine ⟨z4, ?_, G0.nw (tupE (hn4.trans (offC hy rfl)) hm4 hs4) (ltA (by decide)), ?_⟩
  · rw [e_X5_init, if_neg (Nat.ne_of_gt h0)]
    rw [show zna h 103 (4096 : Int32) = _ from a0, Option.bind_some, c0, Option.bind_some]
    rw [show zna z1 101 (4096 : Int32) = _ from a1, Option.bind_some, c1, Option.bind_some]
    rw [show zna z2 101 (4096 : Int32) = _ from a2, Option.bind_some, c2, Option.bind_some]
    rw [show zna z3 101 (4096 : Int32) = _ from a3, Option.bind_some, c3, Option.bind_some]
  · exact ⟨⟨kk4, fun e he => by
      simp only [T5, List.mem_cons, List.not_mem_nil, or_false] at he
      rcases he with rfl | rfl | rfl | rfl
      · exact ⟨(G1.f (by decide)).trans v0, ((G1.lo (lo := y + 1) (hi := y + 2) (ltA (by decide)) (leA (by decide))).K (Nat.le_refl _) (ltB (by decide))).trans P0.1, ((G1.lo (lo := y + 1) (hi := y + 2) (ltA (by decide)) (leA (by decide))).N (Nat.le_refl _) (ltB (by decide))).trans P0.2.1⟩
      · exact ⟨(G2.f (by decide)).trans v1, ((G2.lo (lo := y + 2) (hi := y + 3) (ltA (by decide)) (leA (by decide))).K (Nat.le_refl _) (ltB (by decide))).trans P1.1, ((G2.lo (lo := y + 2) (hi := y + 3) (ltA (by decide)) (leA (by decide))).N (Nat.le_refl _) (ltB (by decide))).trans P1.2.1⟩
      · exact ⟨(G3.f (by decide)).trans v2, ((G3.lo (lo := y + 3) (hi := y + 4) (ltA (by decide)) (leA (by decide))).K (Nat.le_refl _) (ltB (by decide))).trans P2.1, ((G3.lo (lo := y + 3) (hi := y + 4) (ltA (by decide)) (leA (by decide))).N (Nat.le_refl _) (ltB (by decide))).trans P2.2.1⟩
      · exact ⟨(G4.f (by decide)).trans v3, ((G4.lo (lo := y + 4) (hi := y + 5) (ltA (by decide)) (leA (by decide))).K (Nat.le_refl _) (ltB (by decide))).trans P3.1, ((G4.lo (lo := y + 4) (hi := y + 5) (ltA (by decide)) (leA (by decide))).N (Nat.le_refl _) (ltB (by decide))).trans P3.2.1⟩⟩, fun p _ => ((G1.lo (lo := y + 1) (hi := y + 2) (ltA (by decide)) (leA (by decide))).I (Nat.le_refl _) (ltB (by decide)) _).trans (P0.2.2 p)⟩
end NWC
