/-! New cells: Least. -/
section NWF
theorem n_least {h : zM} {y : Nat} (h0 : 0 < y) (hk : zK h y = 2) (hy : h.1.1 = y + 1) {s : Nat} : ∃ z, zf nX1_init [.inr y, .inr s] h = some (0, 0, z) ∧ zNw y 408 25200 h z ∧ YS z s y := by
  have hn0 : h.1.1 = y + 1 := hy
  have hm0 : h.1.2.1 = h.1.2.1 + 0 := rfl
  have hs0 : h.1.2.2 = h.1.2.2 + 0 := rfl
  have kk0 : zK h y = 1 + 1 := hk
  obtain ⟨z1, c0, f0, v0, i0, j0, s0⟩ := p_R (f := 2) (s := s) kk0 hn0
  have kk1 : zK z1 y = 1 + 1 := f0.k.trans kk0
  have hn1 : z1.1.1 = y + 1 := offA i0 rfl
  have hm1 : z1.1.2.1 = h.1.2.1 + 0 := offB j0 hm0 rfl
  have hs1 : z1.1.2.2 = h.1.2.2 + 0 := offB s0 hs0 rfl
  clear i0 j0 s0
  obtain ⟨z2, c1, f1, v1, i1, j1, s1⟩ := p_I (j := 0) (x := 0) kk1 hn1
  have kk2 : zK z2 y = 1 + 1 := f1.k.trans kk1
  have hn2 : z2.1.1 = y + 1 := offA i1 rfl
  have hm2 : z2.1.2.1 = h.1.2.1 + 0 := offB j1 hm1 rfl
  have hs2 : z2.1.2.2 = h.1.2.2 + 0 := offB s1 hs1 rfl
  clear i1 j1 s1
  obtain ⟨z3, c2, f2, v2, i2, j2, s2⟩ := p_I (j := 1) (x := 0) kk2 hn2
  have kk3 : zK z3 y = 1 + 1 := f2.k.trans kk2
  have hn3 : z3.1.1 = y + 1 := offA i2 rfl
  have hm3 : z3.1.2.1 = h.1.2.1 + 0 := offB j2 hm2 rfl
  have hs3 : z3.1.2.2 = h.1.2.2 + 0 := offB s2 hs2 rfl
  clear i2 j2 s2
  obtain ⟨t3, z4, a3, c3, f3, v3, ⟨i3, j3, s3⟩, P3⟩ := p_A (f := 3) (n := 100) (k := 103) kk3 hn3 (ltA (by decide)) (by decide)
  have kk4 : zK z4 y = 1 + 1 := f3.k.trans kk3
  have hn4 : z4.1.1 = y + 2 := offA i3 rfl
  have hm4 : z4.1.2.1 = h.1.2.1 + 1 := offB j3 hm3 rfl
  have hs4 : z4.1.2.2 = h.1.2.2 + 100 := offB s3 hs3 rfl
  clear i3 j3 s3
  obtain ⟨t4, z5, a4, c4, f4, v4, ⟨i4, j4, s4⟩, P4⟩ := p_V (f := 4) (n := 100) (r := 111) kk4 hn4 (ltA (by decide)) (by decide) (by decide)
  have kk5 : zK z5 y = 1 + 1 := f4.k.trans kk4
  have hn5 : z5.1.1 = y + 203 := offA i4 rfl
  have hm5 : z5.1.2.1 = h.1.2.1 + 202 := offB j4 hm4 rfl
  have hs5 : z5.1.2.2 = h.1.2.2 + 11500 := offB s4 hs4 rfl
  clear i4 j4 s4
  obtain ⟨t5, z6, a5, c5, f5, v5, ⟨i5, j5, s5⟩, P5⟩ := p_V (f := 5) (n := 100) (r := 129) kk5 hn5 (ltA (by decide)) (by decide) (by decide)
  have kk6 : zK z6 y = 1 + 1 := f5.k.trans kk5
  have hn6 : z6.1.1 = y + 404 := offA i5 rfl
  have hm6 : z6.1.2.1 = h.1.2.1 + 403 := offB j5 hm5 rfl
  have hs6 : z6.1.2.2 = h.1.2.2 + 24700 := offB s5 hs5 rfl
  clear i5 j5 s5
  obtain ⟨t6, z7, a6, c6, f6, v6, ⟨i6, j6, s6⟩, P6⟩ := p_A (f := 6) (n := 100) (k := 101) kk6 hn6 (ltA (by decide)) (by decide)
  have kk7 : zK z7 y = 1 + 1 := f6.k.trans kk6
  have hn7 : z7.1.1 = y + 405 := offA i6 rfl
  have hm7 : z7.1.2.1 = h.1.2.1 + 404 := offB j6 hm6 rfl
  have hs7 : z7.1.2.2 = h.1.2.2 + 24800 := offB s6 hs6 rfl
  clear i6 j6 s6
  obtain ⟨t7, z8, a7, c7, f7, v7, ⟨i7, j7, s7⟩, P7⟩ := p_A (f := 7) (n := 100) (k := 101) kk7 hn7 (ltA (by decide)) (by decide)
  have kk8 : zK z8 y = 1 + 1 := f7.k.trans kk7
  have hn8 : z8.1.1 = y + 406 := offA i7 rfl
  have hm8 : z8.1.2.1 = h.1.2.1 + 405 := offB j7 hm7 rfl
  have hs8 : z8.1.2.2 = h.1.2.2 + 24900 := offB s7 hs7 rfl
  clear i7 j7 s7
  obtain ⟨t8, z9, a8, c8, f8, v8, ⟨i8, j8, s8⟩, P8⟩ := p_A (f := 8) (n := 100) (k := 101) kk8 hn8 (ltA (by decide)) (by decide)
  have kk9 : zK z9 y = 1 + 1 := f8.k.trans kk8
  have hn9 : z9.1.1 = y + 407 := offA i8 rfl
  have hm9 : z9.1.2.1 = h.1.2.1 + 406 := offB j8 hm8 rfl
  have hs9 : z9.1.2.2 = h.1.2.2 + 25000 := offB s8 hs8 rfl
  clear i8 j8 s8
  obtain ⟨t9, z10, a9, c9, f9, v9, ⟨i9, j9, s9⟩, P9⟩ := p_A (f := 9) (n := 100) (k := 101) kk9 hn9 (ltA (by decide)) (by decide)
  have kk10 : zK z10 y = 1 + 1 := f9.k.trans kk9
  have hn10 : z10.1.1 = y + 408 := offA i9 rfl
  have hm10 : z10.1.2.1 = h.1.2.1 + 407 := offB j9 hm9 rfl
  have hs10 : z10.1.2.2 = h.1.2.2 + 25100 := offB s9 hs9 rfl
  clear i9 j9 s9
  obtain ⟨t10, z11, a10, c10, f10, v10, ⟨i10, j10, s10⟩, P10⟩ := p_A (f := 10) (n := 100) (k := 101) kk10 hn10 (ltA (by decide)) (by decide)
  have kk11 : zK z11 y = 1 + 1 := f10.k.trans kk10
  have hn11 : z11.1.1 = y + 409 := offA i10 rfl
  have hm11 : z11.1.2.1 = h.1.2.1 + 408 := offB j10 hm10 rfl
  have hs11 : z11.1.2.2 = h.1.2.2 + 25200 := offB s10 hs10 rfl
  clear i10 j10 s10
  have G11 : FRM y (y + 409) [] [] z11 z11 := FRM.rf
  have G10 := f10.tr G11 (leA (by decide))
  have G9 := f9.tr G10 (leA (by decide))
  have G8 := f8.tr G9 (leA (by decide))
  have G7 := f7.tr G8 (leA (by decide))
  have G6 := f6.tr G7 (leA (by decide))
  have G5 := f5.tr G6 (leA (by decide))
  have G4 := f4.tr G5 (leA (by decide))
  have G3 := f3.tr G4 (leA (by decide))
  have G2 := f2.tr G3 (leA (by decide))
  have G1 := f1.tr G2 (leA (by decide))
  have G0 := f0.tr G1 (leA (by decide))
  refine ⟨z11, ?_, G0.nw (tupE (hn11.trans (offC hy rfl)) hm11 hs11) (ltA (by decide)), ?_⟩
  · rw [e_X1_init, if_neg (Nat.ne_of_gt h0)]
    rw [c0, Option.bind_some]
    rw [c1, Option.bind_some]
    rw [c2, Option.bind_some]
    rw [show zna z3 103 (100 : Int32) = _ from a3, Option.bind_some, c3, Option.bind_some]
    rw [show zf nX11_makeWords [.inl (100 : Int32), .inl (111 : Int32)] z4 = _ from a4, Option.bind_some]
    dsimp only
    rw [c4, Option.bind_some]
    rw [show zf nX11_makeWords [.inl (100 : Int32), .inl (129 : Int32)] z5 = _ from a5, Option.bind_some]
    dsimp only
    rw [c5, Option.bind_some]
    rw [show zna z6 101 (100 : Int32) = _ from a6, Option.bind_some, c6, Option.bind_some]
    rw [show zna z7 101 (100 : Int32) = _ from a7, Option.bind_some, c7, Option.bind_some]
    rw [show zna z8 101 (100 : Int32) = _ from a8, Option.bind_some, c8, Option.bind_some]
    rw [show zna z9 101 (100 : Int32) = _ from a9, Option.bind_some, c9, Option.bind_some]
    rw [show zna z10 101 (100 : Int32) = _ from a10, Option.bind_some, c10, Option.bind_some]
  · exact ⟨⟨⟨kk11, fun e he => by
      simp only [T1, List.mem_cons, List.not_mem_nil, or_false] at he
      rcases he with rfl | rfl | rfl | rfl | rfl | rfl
      · exact ⟨(G4.f (by decide)).trans v3, ((G4.lo (lo := y + 1) (hi := y + 2) (ltA (by decide)) (leA (by decide))).K (Nat.le_refl _) (ltB (by decide))).trans P3.1, ((G4.lo (lo := y + 1) (hi := y + 2) (ltA (by decide)) (leA (by decide))).N (Nat.le_refl _) (ltB (by decide))).trans P3.2.1⟩
      · exact ⟨(G7.f (by decide)).trans v6, ((G7.lo (lo := y + 404) (hi := y + 405) (ltA (by decide)) (leA (by decide))).K (Nat.le_refl _) (ltB (by decide))).trans P6.1, ((G7.lo (lo := y + 404) (hi := y + 405) (ltA (by decide)) (leA (by decide))).N (Nat.le_refl _) (ltB (by decide))).trans P6.2.1⟩
      · exact ⟨(G8.f (by decide)).trans v7, ((G8.lo (lo := y + 405) (hi := y + 406) (ltA (by decide)) (leA (by decide))).K (Nat.le_refl _) (ltB (by decide))).trans P7.1, ((G8.lo (lo := y + 405) (hi := y + 406) (ltA (by decide)) (leA (by decide))).N (Nat.le_refl _) (ltB (by decide))).trans P7.2.1⟩
      · exact ⟨(G9.f (by decide)).trans v8, ((G9.lo (lo := y + 406) (hi := y + 407) (ltA (by decide)) (leA (by decide))).K (Nat.le_refl _) (ltB (by decide))).trans P8.1, ((G9.lo (lo := y + 406) (hi := y + 407) (ltA (by decide)) (leA (by decide))).N (Nat.le_refl _) (ltB (by decide))).trans P8.2.1⟩
      · exact ⟨(G10.f (by decide)).trans v9, ((G10.lo (lo := y + 407) (hi := y + 408) (ltA (by decide)) (leA (by decide))).K (Nat.le_refl _) (ltB (by decide))).trans P9.1, ((G10.lo (lo := y + 407) (hi := y + 408) (ltA (by decide)) (leA (by decide))).N (Nat.le_refl _) (ltB (by decide))).trans P9.2.1⟩
      · exact ⟨(G11.f (by decide)).trans v10, ((G11.lo (lo := y + 408) (hi := y + 409) (ltA (by decide)) (leA (by decide))).K (Nat.le_refl _) (ltB (by decide))).trans P10.1, ((G11.lo (lo := y + 408) (hi := y + 409) (ltA (by decide)) (leA (by decide))).N (Nat.le_refl _) (ltB (by decide))).trans P10.2.1⟩⟩, ⟨(G1.f (by decide)).trans v0, (G5.f (by decide)).trans v4, (G6.f (by decide)).trans v5⟩, ⟨((G5.lo (lo := y + 2) (hi := y + 3) (ltA (by decide)) (leA (by decide))).K (Nat.le_refl _) (ltB (by decide))).trans P4.1.1, ((G5.lo (lo := y + 2) (hi := y + 3) (ltA (by decide)) (leA (by decide))).N (Nat.le_refl _) (ltB (by decide))).trans P4.1.2.1, by decide, fun i hi => (((G5.lo (lo := y + 2) (hi := y + 3) (ltA (by decide)) (leA (by decide))).F (Nat.le_refl _) (ltB (by decide)) _).trans (P4.1.2.2.2 i hi))⟩, ⟨((G6.lo (lo := y + 203) (hi := y + 204) (ltA (by decide)) (leA (by decide))).K (Nat.le_refl _) (ltB (by decide))).trans P5.1.1, ((G6.lo (lo := y + 203) (hi := y + 204) (ltA (by decide)) (leA (by decide))).N (Nat.le_refl _) (ltB (by decide))).trans P5.1.2.1, by decide, fun i hi => (((G6.lo (lo := y + 203) (hi := y + 204) (ltA (by decide)) (leA (by decide))).F (Nat.le_refl _) (ltB (by decide)) _).trans (P5.1.2.2.2 i hi))⟩⟩, (fun i hi => ⟨[], (P4.2 i hi).al ((G5.lo (lo := y + 2) (hi := y + 203) (ltA (by decide)) (leA (by decide))).sub (by omega) (by omega))⟩), (fun i hi => ⟨[], (P5.2 i hi).al ((G6.lo (lo := y + 203) (hi := y + 404) (ltA (by decide)) (leA (by decide))).sub (by omega) (by omega))⟩)⟩
end NWF
