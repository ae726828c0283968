/-! New cells: Difference, Twins. -/
section NWH
theorem n_diff {h : zM} {y : Nat} (h0 : 0 < y) (hk : zK h y = 1) (hy : h.1.1 = y + 1) : ∃ z, zf nX0_init [.inr y] h = some (0, 0, z) ∧ zNw y 376 33887 h z ∧ DS z y := by
  have hn0 : h.1.1 = y + 1 := hy
  have hm0 : h.1.2.1 = h.1.2.1 + 0 := rfl
  have hs0 : h.1.2.2 = h.1.2.2 + 0 := rfl
  have kk0 : zK h y = 0 + 1 := hk
  obtain ⟨t0, q0, z1, a0, c0, L0, f0, v0, ⟨i0, j0, s0⟩, P0⟩ := p_U (E := fun z b => PrC z b 222 ((0, 0), [], [])) (NE := fun z z1 => zK (zmk z 5 4) z.1.1 = 5 ∧ zf nX4_init [.inr z.1.1, .inl (nI 222)] (zmk z 5 4) = some (0, 0, z1)) (g := fun i z => zm_X0_init 15 [some (.inr y), some (.inl (nI i))] [] z) (f := 0) (n := 73) (ak := 106) (ek := 5) (k := 5) (S := 452) kk0 hn0 (ltA (by decide)) (by decide) (by decide) rfl (fun z hz => by
      obtain ⟨z1, e1, e2, e3, e4⟩ := n_pair (h := z) (n := 222) hz (by decide)
      exact ⟨z1, ⟨e1, e2⟩, e3, e4.1.1, e4⟩) (fun _ _ _ d f => PrC.al d f) (fun i z z1 z2 hi hg hN hs => by
      show zm_X0_init 15 [some (.inr y), some (.inl (nI i))] [] z = zm_X0_init 15 [some (.inr y), some (.inl (nI (i + 1)))] [] z2
      rw [e_X0_init_15, if_neg (show ¬ (72 : Int32) < nI i by rw [show (72 : Int32) = nI 72 from rfl, nI_ltI (by omega) (by omega)]; omega), hg, Option.bind_some, zif_ok hN.1, show zf nX4_init [.inr z.1.1, .inl (222 : Int32)] (zmk z 5 4) = _ from hN.2, Option.bind_some]
      dsimp only
      rw [hs, Option.bind_some, nI_1])
  have kk1 : zK z1 y = 0 + 1 := f0.k.trans kk0
  have hn1 : z1.1.1 = y + 367 := offA i0 rfl
  have hm1 : z1.1.2.1 = h.1.2.1 + 366 := offB j0 hm0 rfl
  have hs1 : z1.1.2.2 = h.1.2.2 + 33069 := offB s0 hs0 rfl
  clear i0 j0 s0
  obtain ⟨t1, z2, a1, c1, f1, v1, ⟨i1, j1, s1⟩, P1⟩ := p_A (f := 2) (n := 36) (k := 101) kk1 hn1 (ltA (by decide)) (by decide)
  have kk2 : zK z2 y = 0 + 1 := f1.k.trans kk1
  have hn2 : z2.1.1 = y + 368 := offA i1 rfl
  have hm2 : z2.1.2.1 = h.1.2.1 + 367 := offB j1 hm1 rfl
  have hs2 : z2.1.2.2 = h.1.2.2 + 33105 := offB s1 hs1 rfl
  clear i1 j1 s1
  obtain ⟨t2, z3, a2, c2, f2, v2, ⟨i2, j2, s2⟩, P2⟩ := p_A (f := 3) (n := 36) (k := 101) kk2 hn2 (ltA (by decide)) (by decide)
  have kk3 : zK z3 y = 0 + 1 := f2.k.trans kk2
  have hn3 : z3.1.1 = y + 369 := offA i2 rfl
  have hm3 : z3.1.2.1 = h.1.2.1 + 368 := offB j2 hm2 rfl
  have hs3 : z3.1.2.2 = h.1.2.2 + 33141 := offB s2 hs2 rfl
  clear i2 j2 s2
  obtain ⟨t3, z4, a3, c3, f3, v3, ⟨i3, j3, s3⟩, P3⟩ := p_A (f := 4) (n := 73) (k := 101) kk3 hn3 (ltA (by decide)) (by decide)
  have kk4 : zK z4 y = 0 + 1 := f3.k.trans kk3
  have hn4 : z4.1.1 = y + 370 := offA i3 rfl
  have hm4 : z4.1.2.1 = h.1.2.1 + 369 := offB j3 hm3 rfl
  have hs4 : z4.1.2.2 = h.1.2.2 + 33214 := offB s3 hs3 rfl
  clear i3 j3 s3
  obtain ⟨t4, z5, a4, c4, f4, v4, ⟨i4, j4, s4⟩, P4⟩ := p_A (f := 5) (n := 73) (k := 101) kk4 hn4 (ltA (by decide)) (by decide)
  have kk5 : zK z5 y = 0 + 1 := f4.k.trans kk4
  have hn5 : z5.1.1 = y + 371 := offA i4 rfl
  have hm5 : z5.1.2.1 = h.1.2.1 + 370 := offB j4 hm4 rfl
  have hs5 : z5.1.2.2 = h.1.2.2 + 33287 := offB s4 hs4 rfl
  clear i4 j4 s4
  obtain ⟨t5, z6, a5, c5, f5, v5, ⟨i5, j5, s5⟩, P5⟩ := p_A (f := 6) (n := 73) (k := 101) kk5 hn5 (ltA (by decide)) (by decide)
  have kk6 : zK z6 y = 0 + 1 := f5.k.trans kk5
  have hn6 : z6.1.1 = y + 372 := offA i5 rfl
  have hm6 : z6.1.2.1 = h.1.2.1 + 371 := offB j5 hm5 rfl
  have hs6 : z6.1.2.2 = h.1.2.2 + 33360 := offB s5 hs5 rfl
  clear i5 j5 s5
  obtain ⟨t6, z7, a6, c6, f6, v6, ⟨i6, j6, s6⟩, P6⟩ := p_A (f := 7) (n := 73) (k := 101) kk6 hn6 (ltA (by decide)) (by decide)
  have kk7 : zK z7 y = 0 + 1 := f6.k.trans kk6
  have hn7 : z7.1.1 = y + 373 := offA i6 rfl
  have hm7 : z7.1.2.1 = h.1.2.1 + 372 := offB j6 hm6 rfl
  have hs7 : z7.1.2.2 = h.1.2.2 + 33433 := offB s6 hs6 rfl
  clear i6 j6 s6
  obtain ⟨t7, z8, d7, a7, c7, f7, v7, ⟨i7, j7, s7⟩, P7⟩ := p_W (f := 9) (n := 225) kk7 hn7 (ltA (by decide)) (by decide)
  have kk8 : zK z8 y = 0 + 1 := f7.k.trans kk7
  have hn8 : z8.1.1 = y + 375 := offA i7 rfl
  have hm8 : z8.1.2.1 = h.1.2.1 + 374 := offB j7 hm7 rfl
  have hs8 : z8.1.2.2 = h.1.2.2 + 33660 := offB s7 hs7 rfl
  clear i7 j7 s7
  obtain ⟨t8, z9, d8, a8, c8, f8, v8, ⟨i8, j8, s8⟩, P8⟩ := p_W (f := 10) (n := 225) kk8 hn8 (ltA (by decide)) (by decide)
  have kk9 : zK z9 y = 0 + 1 := f8.k.trans kk8
  have hn9 : z9.1.1 = y + 377 := offA i8 rfl
  have hm9 : z9.1.2.1 = h.1.2.1 + 376 := offB j8 hm8 rfl
  have hs9 : z9.1.2.2 = h.1.2.2 + 33887 := offB s8 hs8 rfl
  clear i8 j8 s8
  have G9 : FRM y (y + 377) [] [] z9 z9 := FRM.rf
  have G8 := f8.tr G9 (leA (by decide))
  have G7 := f7.tr G8 (leA (by decide))
  have G6 := f6.tr G7 (leA (by decide))
  have G5 := f5.tr G6 (leA (by decide))
  have G4 := f4.tr G5 (leA (by decide))
  have G3 := f3.tr G4 (leA (by decide))
  have G2 := f2.tr G3 (leA (by decide))
  have G1 := f1.tr G2 (leA (by decide))
  have G0 := f0.tr G1 (leA (by decide))
  refine ⟨z9, ?_, G0.nw (tupE (hn9.trans (offC hy rfl)) hm9 hs9) (ltA (by decide)), ?_⟩
  · rw [e_X0_init, if_neg (Nat.ne_of_gt h0)]
    rw [show zna h 106 (73 : Int32) = _ from a0, Option.bind_some, c0, Option.bind_some]
    refine (show zm_X0_init 15 [some (.inr y), some (.inl (0 : Int32))] [] q0 = zm_X0_init 15 [some (.inr y), some (.inl (nI 73))] [] z1 from L0).trans ?_
    rw [e_X0_init_15, if_pos (show (72 : Int32) < nI 73 by rw [show (72 : Int32) = nI 72 from rfl, nI_ltI (by omega) (by omega)]; omega)]
    rw [show zna z1 101 (36 : Int32) = _ from a1, Option.bind_some, c1, Option.bind_some]
    rw [show zna z2 101 (36 : Int32) = _ from a2, Option.bind_some, c2, Option.bind_some]
    rw [show zna z3 101 (73 : Int32) = _ from a3, Option.bind_some, c3, Option.bind_some]
    rw [show zna z4 101 (73 : Int32) = _ from a4, Option.bind_some, c4, Option.bind_some]
    rw [show zna z5 101 (73 : Int32) = _ from a5, Option.bind_some, c5, Option.bind_some]
    rw [show zna z6 101 (73 : Int32) = _ from a6, Option.bind_some, c6, Option.bind_some]
    rw [zif_ok d7, show zf nX10_init [.inr z7.1.1, .inl (225 : Int32)] (zmk z7 11 2) = _ from a7, Option.bind_some]
    dsimp only
    rw [c7, Option.bind_some]
    rw [zif_ok d8, show zf nX10_init [.inr z8.1.1, .inl (225 : Int32)] (zmk z8 11 2) = _ from a8, Option.bind_some]
    dsimp only
    rw [c8, Option.bind_some]
  · exact ⟨⟨⟨kk9, fun e he => by
      simp only [T0, List.mem_cons, List.not_mem_nil, or_false] at he
      rcases he with rfl | rfl | rfl | rfl | rfl | rfl
      · exact ⟨(G2.f (by decide)).trans v1, ((G2.lo (lo := y + 367) (hi := y + 368) (ltA (by decide)) (leA (by decide))).K (Nat.le_refl _) (ltB (by decide))).trans P1.1, ((G2.lo (lo := y + 367) (hi := y + 368) (ltA (by decide)) (leA (by decide))).N (Nat.le_refl _) (ltB (by decide))).trans P1.2.1⟩
      · exact ⟨(G3.f (by decide)).trans v2, ((G3.lo (lo := y + 368) (hi := y + 369) (ltA (by decide)) (leA (by decide))).K (Nat.le_refl _) (ltB (by decide))).trans P2.1, ((G3.lo (lo := y + 368) (hi := y + 369) (ltA (by decide)) (leA (by decide))).N (Nat.le_refl _) (ltB (by decide))).trans P2.2.1⟩
      · exact ⟨(G4.f (by decide)).trans v3, ((G4.lo (lo := y + 369) (hi := y + 370) (ltA (by decide)) (leA (by decide))).K (Nat.le_refl _) (ltB (by decide))).trans P3.1, ((G4.lo (lo := y + 369) (hi := y + 370) (ltA (by decide)) (leA (by decide))).N (Nat.le_refl _) (ltB (by decide))).trans P3.2.1⟩
      · exact ⟨(G5.f (by decide)).trans v4, ((G5.lo (lo := y + 370) (hi := y + 371) (ltA (by decide)) (leA (by decide))).K (Nat.le_refl _) (ltB (by decide))).trans P4.1, ((G5.lo (lo := y + 370) (hi := y + 371) (ltA (by decide)) (leA (by decide))).N (Nat.le_refl _) (ltB (by decide))).trans P4.2.1⟩
      · exact ⟨(G6.f (by decide)).trans v5, ((G6.lo (lo := y + 371) (hi := y + 372) (ltA (by decide)) (leA (by decide))).K (Nat.le_refl _) (ltB (by decide))).trans P5.1, ((G6.lo (lo := y + 371) (hi := y + 372) (ltA (by decide)) (leA (by decide))).N (Nat.le_refl _) (ltB (by decide))).trans P5.2.1⟩
      · exact ⟨(G7.f (by decide)).trans v6, ((G7.lo (lo := y + 372) (hi := y + 373) (ltA (by decide)) (leA (by decide))).K (Nat.le_refl _) (ltB (by decide))).trans P6.1, ((G7.lo (lo := y + 372) (hi := y + 373) (ltA (by decide)) (leA (by decide))).N (Nat.le_refl _) (ltB (by decide))).trans P6.2.1⟩⟩, ⟨(G1.f (by decide)).trans v0, (G8.f (by decide)).trans v7, (G9.f (by decide)).trans v8⟩, ⟨((G1.lo (lo := y + 1) (hi := y + 2) (ltA (by decide)) (leA (by decide))).K (Nat.le_refl _) (ltB (by decide))).trans P0.1, ((G1.lo (lo := y + 1) (hi := y + 2) (ltA (by decide)) (leA (by decide))).N (Nat.le_refl _) (ltB (by decide))).trans P0.2.1, fun i hi => ((G1.lo (lo := y + 1) (hi := y + 2) (ltA (by decide)) (leA (by decide))).F (Nat.le_refl _) (ltB (by decide)) _).trans ((P0.2.2 i hi).1.trans (by omega))⟩⟩, fun i hi => ⟨((0, 0), [], []), by
      have := PrC.al (n := 222) (P0.2.2 i hi).2 ((G1.lo (lo := y + 1) (hi := y + 367) (ltA (by decide)) (leA (by decide))).sub (by omega) (by omega))
      rw [show y + 1 + 1 + 5 * i = y + 2 + 5 * i by omega] at this
      exact this⟩, ⟨[], P7.al (G8.lo (lo := y + 373) (hi := y + 375) (ltA (by decide)) (leA (by decide)))⟩, [], P8.al (G9.lo (lo := y + 375) (hi := y + 377) (ltA (by decide)) (leA (by decide)))⟩
theorem n_twins {h : zM} {y : Nat} (h0 : 0 < y) (hk : zK h y = 8) (hy : h.1.1 = y + 1) : ∃ z, zf nX7_init [.inr y] h = some (0, 0, z) ∧ zNw y 5013 233488 h z ∧ TS z y := by
  have hn0 : h.1.1 = y + 1 := hy
  have hm0 : h.1.2.1 = h.1.2.1 + 0 := rfl
  have hs0 : h.1.2.2 = h.1.2.2 + 0 := rfl
  have kk0 : zK h y = 7 + 1 := hk
  obtain ⟨z1, c0, f0, v0, i0, j0, s0⟩ := p_I (j := 0) (x := 0) kk0 hn0
  have kk1 : zK z1 y = 7 + 1 := f0.k.trans kk0
  have hn1 : z1.1.1 = y + 1 := offA i0 rfl
  have hm1 : z1.1.2.1 = h.1.2.1 + 0 := offB j0 hm0 rfl
  have hs1 : z1.1.2.2 = h.1.2.2 + 0 := offB s0 hs0 rfl
  clear i0 j0 s0
  obtain ⟨z2, c1, f1, v1, i1, j1, s1⟩ := p_I (j := 1) (x := 0) kk1 hn1
  have kk2 : zK z2 y = 7 + 1 := f1.k.trans kk1
  have hn2 : z2.1.1 = y + 1 := offA i1 rfl
  have hm2 : z2.1.2.1 = h.1.2.1 + 0 := offB j1 hm1 rfl
  have hs2 : z2.1.2.2 = h.1.2.2 + 0 := offB s1 hs1 rfl
  clear i1 j1 s1
  obtain ⟨t2, q2, z3, a2, c2, L2, f2, v2, ⟨i2, j2, s2⟩, P2⟩ := p_U (E := fun z b => PrC z b 111 ((0, 0), [], [])) (NE := fun z z1 => zK (zmk z 5 4) z.1.1 = 5 ∧ zf nX4_init [.inr z.1.1, .inl (nI 111)] (zmk z 5 4) = some (0, 0, z1)) (g := fun i z => zm_X7_init 26 [some (.inr y), some (.inl (nI i))] [] z) (f := 5) (n := 1002) (ak := 106) (ek := 5) (k := 5) (S := 230) kk2 hn2 (ltA (by decide)) (by decide) (by decide) rfl (fun z hz => by
      obtain ⟨z1, e1, e2, e3, e4⟩ := n_pair (h := z) (n := 111) hz (by decide)
      exact ⟨z1, ⟨e1, e2⟩, e3, e4.1.1, e4⟩) (fun _ _ _ d f => PrC.al d f) (fun i z z1 z2 hi hg hN hs => by
      show zm_X7_init 26 [some (.inr y), some (.inl (nI i))] [] z = zm_X7_init 26 [some (.inr y), some (.inl (nI (i + 1)))] [] z2
      rw [e_X7_init_26, if_pos (show nI i < (1002 : Int32) by rw [show (1002 : Int32) = nI 1002 from rfl, nI_ltI (by omega) (by omega)]; omega), hg, Option.bind_some, zif_ok hN.1, show zf nX4_init [.inr z.1.1, .inl (111 : Int32)] (zmk z 5 4) = _ from hN.2, Option.bind_some]
      dsimp only
      rw [hs, Option.bind_some, nI_1])
  have kk3 : zK z3 y = 7 + 1 := f2.k.trans kk2
  have hn3 : z3.1.1 = y + 5012 := offA i2 rfl
  have hm3 : z3.1.2.1 = h.1.2.1 + 5011 := offB j2 hm2 rfl
  have hs3 : z3.1.2.2 = h.1.2.2 + 231462 := offB s2 hs2 rfl
  clear i2 j2 s2
  obtain ⟨t3, z4, a3, c3, f3, v3, ⟨i3, j3, s3⟩, P3⟩ := p_A (f := 6) (n := 1024) (k := 101) kk3 hn3 (ltA (by decide)) (by decide)
  have kk4 : zK z4 y = 7 + 1 := f3.k.trans kk3
  have hn4 : z4.1.1 = y + 5013 := offA i3 rfl
  have hm4 : z4.1.2.1 = h.1.2.1 + 5012 := offB j3 hm3 rfl
  have hs4 : z4.1.2.2 = h.1.2.2 + 232486 := offB s3 hs3 rfl
  clear i3 j3 s3
  obtain ⟨t4, z5, a4, c4, f4, v4, ⟨i4, j4, s4⟩, P4⟩ := p_A (f := 7) (n := 1002) (k := 101) kk4 hn4 (ltA (by decide)) (by decide)
  have kk5 : zK z5 y = 7 + 1 := f4.k.trans kk4
  have hn5 : z5.1.1 = y + 5014 := offA i4 rfl
  have hm5 : z5.1.2.1 = h.1.2.1 + 5013 := offB j4 hm4 rfl
  have hs5 : z5.1.2.2 = h.1.2.2 + 233488 := offB s4 hs4 rfl
  clear i4 j4 s4
  have G5 : FRM y (y + 5014) [] [] z5 z5 := FRM.rf
  have G4 := f4.tr G5 (leA (by decide))
  have G3 := f3.tr G4 (leA (by decide))
  have G2 := f2.tr G3 (leA (by decide))
  have G1 := f1.tr G2 (leA (by decide))
  have G0 := f0.tr G1 (leA (by decide))
  refine ⟨z5, ?_, G0.nw (tupE (hn5.trans (offC hy rfl)) hm5 hs5) (ltA (by decide)), ?_⟩
  · rw [e_X7_init, if_neg (Nat.ne_of_gt h0)]
    rw [c0, Option.bind_some]
    rw [c1, Option.bind_some]
    rw [show zna z2 106 (1002 : Int32) = _ from a2, Option.bind_some, c2, Option.bind_some]
    refine (show zm_X7_init 26 [some (.inr y), some (.inl (0 : Int32))] [] q2 = zm_X7_init 26 [some (.inr y), some (.inl (nI 1002))] [] z3 from L2).trans ?_
    rw [e_X7_init_26, if_neg (show ¬ nI 1002 < (1002 : Int32) by rw [show (1002 : Int32) = nI 1002 from rfl, nI_ltI (by omega) (by omega)]; omega)]
    rw [show zna z3 101 (1024 : Int32) = _ from a3, Option.bind_some, c3, Option.bind_some]
    rw [show zna z4 101 (1002 : Int32) = _ from a4, Option.bind_some, c4, Option.bind_some]
  · exact ⟨⟨⟨kk5, fun e he => by
      simp only [T7, List.mem_cons, List.not_mem_nil, or_false] at he
      rcases he with rfl | rfl
      · exact ⟨(G4.f (by decide)).trans v3, ((G4.lo (lo := y + 5012) (hi := y + 5013) (ltA (by decide)) (leA (by decide))).K (Nat.le_refl _) (ltB (by decide))).trans P3.1, ((G4.lo (lo := y + 5012) (hi := y + 5013) (ltA (by decide)) (leA (by decide))).N (Nat.le_refl _) (ltB (by decide))).trans P3.2.1⟩
      · exact ⟨(G5.f (by decide)).trans v4, ((G5.lo (lo := y + 5013) (hi := y + 5014) (ltA (by decide)) (leA (by decide))).K (Nat.le_refl _) (ltB (by decide))).trans P4.1, ((G5.lo (lo := y + 5013) (hi := y + 5014) (ltA (by decide)) (leA (by decide))).N (Nat.le_refl _) (ltB (by decide))).trans P4.2.1⟩⟩, (G3.f (by decide)).trans v2, ⟨((G3.lo (lo := y + 1) (hi := y + 2) (ltA (by decide)) (leA (by decide))).K (Nat.le_refl _) (ltB (by decide))).trans P2.1, ((G3.lo (lo := y + 1) (hi := y + 2) (ltA (by decide)) (leA (by decide))).N (Nat.le_refl _) (ltB (by decide))).trans P2.2.1, fun i hi => ((G3.lo (lo := y + 1) (hi := y + 2) (ltA (by decide)) (leA (by decide))).F (Nat.le_refl _) (ltB (by decide)) _).trans ((P2.2.2 i hi).1.trans (by omega))⟩⟩, fun i hi => ⟨((0, 0), [], []), by
      have := PrC.al (n := 111) (P2.2.2 i hi).2 ((G3.lo (lo := y + 1) (hi := y + 5012) (ltA (by decide)) (leA (by decide))).sub (by omega) (by omega))
      rw [show y + 1 + 1 + 5 * i = y + 2 + 5 * i by omega] at this
      exact this⟩⟩
end NWH
