/-! New cells: Outputs. -/
section NWD
theorem n_out {h : zM} {y : Nat} (h0 : 0 < y) (hk : zK h y = 4) (hy : h.1.1 = y + 1) : ∃ z, zf nX3_init [.inr y] h = some (0, 0, z) ∧ zNw y 367 6092 h z ∧ OutP z y [] := by
  have hn0 : h.1.1 = y + 1 := hy
  have hm0 : h.1.2.1 = h.1.2.1 + 0 := rfl
  have hs0 : h.1.2.2 = h.1.2.2 + 0 := rfl
  have kk0 : zK h y = 3 + 1 := hk
  obtain ⟨z1, c0, f0, v0, i0, j0, s0⟩ := p_I (j := 0) (x := 0) kk0 hn0
  have kk1 : zK z1 y = 3 + 1 := f0.k.trans kk0
  have hn1 : z1.1.1 = y + 1 := offA i0 rfl
  have hm1 : z1.1.2.1 = h.1.2.1 + 0 := offB j0 hm0 rfl
  have hs1 : z1.1.2.2 = h.1.2.2 + 0 := offB s0 hs0 rfl
  clear i0 j0 s0
  obtain ⟨t1, z2, a1, c1, f1, v1, ⟨i1, j1, s1⟩, P1⟩ := p_V (f := 1) (n := 60) (r := 30) kk1 hn1 (ltA (by decide)) (by decide) (by decide)
  have kk2 : zK z2 y = 3 + 1 := f1.k.trans kk1
  have hn2 : z2.1.1 = y + 122 := offA i1 rfl
  have hm2 : z2.1.2.1 = h.1.2.1 + 121 := offB j1 hm1 rfl
  have hs2 : z2.1.2.2 = h.1.2.2 + 1980 := offB s1 hs1 rfl
  clear i1 j1 s1
  obtain ⟨t2, z3, d2, a2, c2, f2, v2, ⟨i2, j2, s2⟩, P2⟩ := p_W (f := 2) (n := 30) kk2 hn2 (ltA (by decide)) (by decide)
  have kk3 : zK z3 y = 3 + 1 := f2.k.trans kk2
  have hn3 : z3.1.1 = y + 124 := offA i2 rfl
  have hm3 : z3.1.2.1 = h.1.2.1 + 123 := offB j2 hm2 rfl
  have hs3 : z3.1.2.2 = h.1.2.2 + 2012 := offB s2 hs2 rfl
  clear i2 j2 s2
  obtain ⟨t3, z4, a3, c3, f3, v3, ⟨i3, j3, s3⟩, P3⟩ := p_A (f := 3) (n := 60) (k := 101) kk3 hn3 (ltA (by decide)) (by decide)
  have kk4 : zK z4 y = 3 + 1 := f3.k.trans kk3
  have hn4 : z4.1.1 = y + 125 := offA i3 rfl
  have hm4 : z4.1.2.1 = h.1.2.1 + 124 := offB j3 hm3 rfl
  have hs4 : z4.1.2.2 = h.1.2.2 + 2072 := offB s3 hs3 rfl
  clear i3 j3 s3
  obtain ⟨t4, z5, a4, c4, f4, v4, ⟨i4, j4, s4⟩, P4⟩ := p_V (f := 4) (n := 60) (r := 30) kk4 hn4 (ltA (by decide)) (by decide) (by decide)
  have kk5 : zK z5 y = 3 + 1 := f4.k.trans kk4
  have hn5 : z5.1.1 = y + 246 := offA i4 rfl
  have hm5 : z5.1.2.1 = h.1.2.1 + 245 := offB j4 hm4 rfl
  have hs5 : z5.1.2.2 = h.1.2.2 + 4052 := offB s4 hs4 rfl
  clear i4 j4 s4
  obtain ⟨z6, c5, f5, v5, i5, j5, s5⟩ := p_I (j := 5) (x := 0) kk5 hn5
  have kk6 : zK z6 y = 3 + 1 := f5.k.trans kk5
  have hn6 : z6.1.1 = y + 246 := offA i5 rfl
  have hm6 : z6.1.2.1 = h.1.2.1 + 245 := offB j5 hm5 rfl
  have hs6 : z6.1.2.2 = h.1.2.2 + 4052 := offB s5 hs5 rfl
  clear i5 j5 s5
  obtain ⟨t6, z7, a6, c6, f6, v6, ⟨i6, j6, s6⟩, P6⟩ := p_A (f := 6) (n := 60) (k := 101) kk6 hn6 (ltA (by decide)) (by decide)
  have kk7 : zK z7 y = 3 + 1 := f6.k.trans kk6
  have hn7 : z7.1.1 = y + 247 := offA i6 rfl
  have hm7 : z7.1.2.1 = h.1.2.1 + 246 := offB j6 hm6 rfl
  have hs7 : z7.1.2.2 = h.1.2.2 + 4112 := offB s6 hs6 rfl
  clear i6 j6 s6
  obtain ⟨t7, z8, a7, c7, f7, v7, ⟨i7, j7, s7⟩, P7⟩ := p_V (f := 7) (n := 60) (r := 30) kk7 hn7 (ltA (by decide)) (by decide) (by decide)
  have kk8 : zK z8 y = 3 + 1 := f7.k.trans kk7
  have hn8 : z8.1.1 = y + 368 := offA i7 rfl
  have hm8 : z8.1.2.1 = h.1.2.1 + 367 := offB j7 hm7 rfl
  have hs8 : z8.1.2.2 = h.1.2.2 + 6092 := offB s7 hs7 rfl
  clear i7 j7 s7
  obtain ⟨z9, c8, f8, v8, i8, j8, s8⟩ := p_I (j := 8) (x := 0) kk8 hn8
  have kk9 : zK z9 y = 3 + 1 := f8.k.trans kk8
  have hn9 : z9.1.1 = y + 368 := offA i8 rfl
  have hm9 : z9.1.2.1 = h.1.2.1 + 367 := offB j8 hm8 rfl
  have hs9 : z9.1.2.2 = h.1.2.2 + 6092 := offB s8 hs8 rfl
  clear i8 j8 s8
  have G9 : FRM y (y + 368) [] [] z9 z9 := FRM.rf
  have G8 := f8.tr G9 (leA (by decide))
  have G7 := f7.tr G8 (leA (by decide))
  have G6 := f6.tr G7 (leA (by decide))
  have G5 := f5.tr G6 (leA (by decide))
  have G4 := f4.tr G5 (leA (by decide))
  have G3 := f3.tr G4 (leA (by decide))
  have G2 := f2.tr G3 (leA (by decide))
  have G1 := f1.tr G2 (leA (by decide))
  have G0 := f0.tr G1 (leA (by decide))
  refine ⟨z9, ?_, G0.nw (tupE (hn9.trans (offC hy rfl)) hm9 hs9) (ltA (by decide)), ?_⟩
  · rw [e_X3_init, if_neg (Nat.ne_of_gt h0)]
    rw [c0, Option.bind_some]
    rw [show zf nX11_makeWords [.inl (60 : Int32), .inl (30 : Int32)] z1 = _ from a1, Option.bind_some]
    dsimp only
    rw [c1, Option.bind_some]
    rw [zif_ok d2, show zf nX10_init [.inr z2.1.1, .inl (30 : Int32)] (zmk z2 11 2) = _ from a2, Option.bind_some]
    dsimp only
    rw [c2, Option.bind_some]
    rw [show zna z3 101 (60 : Int32) = _ from a3, Option.bind_some, c3, Option.bind_some]
    rw [show zf nX11_makeWords [.inl (60 : Int32), .inl (30 : Int32)] z4 = _ from a4, Option.bind_some]
    dsimp only
    rw [c4, Option.bind_some]
    rw [c5, Option.bind_some]
    rw [show zna z6 101 (60 : Int32) = _ from a6, Option.bind_some, c6, Option.bind_some]
    rw [show zf nX11_makeWords [.inl (60 : Int32), .inl (30 : Int32)] z7 = _ from a7, Option.bind_some]
    dsimp only
    rw [c7, Option.bind_some]
    rw [c8, Option.bind_some]
  · refine ⟨124, 246, id, ⟨⟨kk9, ⟨(G2.f (by decide)).trans v1, (G3.f (by decide)).trans v2, (G4.f (by decide)).trans v3, (G5.f (by decide)).trans v4, (G7.f (by decide)).trans v6, (G8.f (by decide)).trans v7⟩, ⟨((G2.lo (lo := y + 1) (hi := y + 2) (ltA (by decide)) (leA (by decide))).K (Nat.le_refl _) (ltB (by decide))).trans P1.1.1, ((G2.lo (lo := y + 1) (hi := y + 2) (ltA (by decide)) (leA (by decide))).N (Nat.le_refl _) (ltB (by decide))).trans P1.1.2.1⟩, ?_, Or.inl ⟨rfl, rfl⟩⟩, ?_, ⟨fun i hi => ⟨hi, ((G2.lo (lo := y + 1) (hi := y + 2) (ltA (by decide)) (leA (by decide))).F (Nat.le_refl _) (ltB (by decide)) _).trans ((P1.1.2.2.2 i hi).trans (by show _ = y + 2 + 2 * i; omega))⟩, fun i j _ _ e => e⟩, (G1.i (by decide)).trans v0⟩, Nat.zero_le _, fun i hi => absurd hi (Nat.not_lt_zero _)⟩
    · intro b hb
      rcases hb with rfl | rfl
      · exact ⟨((G4.lo (lo := y + 124) (hi := y + 125) (ltA (by decide)) (leA (by decide))).K (Nat.le_refl _) (ltB (by decide))).trans P3.1, ((G4.lo (lo := y + 124) (hi := y + 125) (ltA (by decide)) (leA (by decide))).N (Nat.le_refl _) (ltB (by decide))).trans P3.2.1, ((G5.lo (lo := y + 125) (hi := y + 126) (ltA (by decide)) (leA (by decide))).K (Nat.le_refl _) (ltB (by decide))).trans P4.1.1, ((G5.lo (lo := y + 125) (hi := y + 126) (ltA (by decide)) (leA (by decide))).N (Nat.le_refl _) (ltB (by decide))).trans P4.1.2.1, fun i hi => (((G5.lo (lo := y + 125) (hi := y + 126) (ltA (by decide)) (leA (by decide))).F (Nat.le_refl _) (ltB (by decide)) _).trans (P4.1.2.2.2 i hi)).trans (by omega)⟩
      · exact ⟨((G7.lo (lo := y + 246) (hi := y + 247) (ltA (by decide)) (leA (by decide))).K (Nat.le_refl _) (ltB (by decide))).trans P6.1, ((G7.lo (lo := y + 246) (hi := y + 247) (ltA (by decide)) (leA (by decide))).N (Nat.le_refl _) (ltB (by decide))).trans P6.2.1, ((G8.lo (lo := y + 247) (hi := y + 248) (ltA (by decide)) (leA (by decide))).K (Nat.le_refl _) (ltB (by decide))).trans P7.1.1, ((G8.lo (lo := y + 247) (hi := y + 248) (ltA (by decide)) (leA (by decide))).N (Nat.le_refl _) (ltB (by decide))).trans P7.1.2.1, fun i hi => (((G8.lo (lo := y + 247) (hi := y + 248) (ltA (by decide)) (leA (by decide))).F (Nat.le_refl _) (ltB (by decide)) _).trans (P7.1.2.2.2 i hi)).trans (by omega)⟩
    · intro k k1 k2 k3
      by_cases c1 : k < 60
      · refine ⟨[], ?_⟩
        have := (P1.2 k c1).al ((G2.lo (lo := y + 1) (hi := y + 122) (ltA (by decide)) (leA (by decide))).sub (by omega) (by omega))
        rw [show y + 1 + 1 + 2 * k = y + 2 + 2 * k by omega] at this
        exact this
      · by_cases c2 : k = 60
        · rw [c2]
          exact ⟨[], P2.al (G3.lo (lo := y + 122) (hi := y + 124) (ltA (by decide)) (leA (by decide)))⟩
        · by_cases c3 : k < 122
          · refine ⟨[], ?_⟩
            have := (P4.2 (k - 62) (by omega)).al ((G5.lo (lo := y + 125) (hi := y + 246) (ltA (by decide)) (leA (by decide))).sub (by omega) (by omega))
            rw [show y + 125 + 1 + 2 * (k - 62) = y + 2 + 2 * k by omega] at this
            exact this
          · refine ⟨[], ?_⟩
            have := (P7.2 (k - 123) (by omega)).al ((G8.lo (lo := y + 247) (hi := y + 368) (ltA (by decide)) (leA (by decide))).sub (by omega) (by omega))
            rw [show y + 247 + 1 + 2 * (k - 123) = y + 2 + 2 * k by omega] at this
            exact this
end NWD
