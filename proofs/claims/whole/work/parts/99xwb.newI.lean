/-! New cells: Witness. -/
section NWI
theorem n_wit {h : zM} {y : Nat} (h0 : 0 < y) (hk : zK h y = 10) (hy : h.1.1 = y + 1) : ∃ z, zf nX9_init [.inr y] h = some (0, 0, z) ∧ zNw y 77 11466 h z ∧ WT z y none := by
  have hn0 : h.1.1 = y + 1 := hy
  have hm0 : h.1.2.1 = h.1.2.1 + 0 := rfl
  have hs0 : h.1.2.2 = h.1.2.2 + 0 := rfl
  have kk0 : zK h y = 9 + 1 := hk
  obtain ⟨z1, c0, f0, v0, i0, j0, s0⟩ := p_Z (j := 0) (x := 0) kk0 hn0 (Or.inl rfl)
  have kk1 : zK z1 y = 9 + 1 := f0.k.trans kk0
  have hn1 : z1.1.1 = y + 1 := offA i0 rfl
  have hm1 : z1.1.2.1 = h.1.2.1 + 0 := offB j0 hm0 rfl
  have hs1 : z1.1.2.2 = h.1.2.2 + 0 := offB s0 hs0 rfl
  clear i0 j0 s0
  obtain ⟨t1, z2, d1, a1, c1, f1, v1, ⟨i1, j1, s1⟩, P1⟩ := p_W (f := 1) (n := 128) kk1 hn1 (ltA (by decide)) (by decide)
  have kk2 : zK z2 y = 9 + 1 := f1.k.trans kk1
  have hn2 : z2.1.1 = y + 3 := offA i1 rfl
  have hm2 : z2.1.2.1 = h.1.2.1 + 2 := offB j1 hm1 rfl
  have hs2 : z2.1.2.2 = h.1.2.2 + 130 := offB s1 hs1 rfl
  clear i1 j1 s1
  obtain ⟨t2, z3, a2, c2, f2, v2, ⟨i2, j2, s2⟩, P2⟩ := p_V (f := 2) (n := 2) (r := 387) kk2 hn2 (ltA (by decide)) (by decide) (by decide)
  have kk3 : zK z3 y = 9 + 1 := f2.k.trans kk2
  have hn3 : z3.1.1 = y + 8 := offA i2 rfl
  have hm3 : z3.1.2.1 = h.1.2.1 + 7 := offB j2 hm2 rfl
  have hs3 : z3.1.2.2 = h.1.2.2 + 910 := offB s2 hs2 rfl
  clear i2 j2 s2
  obtain ⟨t3, z4, a3, c3, f3, v3, ⟨i3, j3, s3⟩, P3⟩ := p_A (f := 3) (n := 2) (k := 103) kk3 hn3 (ltA (by decide)) (by decide)
  have kk4 : zK z4 y = 9 + 1 := f3.k.trans kk3
  have hn4 : z4.1.1 = y + 9 := offA i3 rfl
  have hm4 : z4.1.2.1 = h.1.2.1 + 8 := offB j3 hm3 rfl
  have hs4 : z4.1.2.2 = h.1.2.2 + 912 := offB s3 hs3 rfl
  clear i3 j3 s3
  obtain ⟨t4, z5, d4, a4, c4, f4, v4, ⟨i4, j4, s4⟩, P4⟩ := p_T (f := 4) (n := 387) kk4 hn4 (ltA (by decide)) (by decide)
  have kk5 : zK z5 y = 9 + 1 := f4.k.trans kk4
  have hn5 : z5.1.1 = y + 14 := offA i4 rfl
  have hm5 : z5.1.2.1 = h.1.2.1 + 13 := offB j4 hm4 rfl
  have hs5 : z5.1.2.2 = h.1.2.2 + 1693 := offB s4 hs4 rfl
  clear i4 j4 s4
  obtain ⟨t5, z6, d5, a5, c5, f5, v5, ⟨i5, j5, s5⟩, P5⟩ := p_W (f := 5) (n := 387) kk5 hn5 (ltA (by decide)) (by decide)
  have kk6 : zK z6 y = 9 + 1 := f5.k.trans kk5
  have hn6 : z6.1.1 = y + 16 := offA i5 rfl
  have hm6 : z6.1.2.1 = h.1.2.1 + 15 := offB j5 hm5 rfl
  have hs6 : z6.1.2.2 = h.1.2.2 + 2082 := offB s5 hs5 rfl
  clear i5 j5 s5
  obtain ⟨t6, q6, u6, o6, z7, a6, c6, b6, d6, L6, f6, ⟨i6, j6, s6⟩, P6⟩ := w_fill kk6 hn6
  have kk7 : zK z7 y = 9 + 1 := f6.k.trans kk6
  have hn7 : z7.1.1 = y + 78 := offA i6 rfl
  have hm7 : z7.1.2.1 = h.1.2.1 + 77 := offB j6 hm6 rfl
  have hs7 : z7.1.2.2 = h.1.2.2 + 11466 := offB s6 hs6 rfl
  clear i6 j6 s6
  have G7 : FRM y (y + 78) [] [] z7 z7 := FRM.rf
  have G6 := f6.tr G7 (leA (by decide))
  have G5 := f5.tr G6 (leA (by decide))
  have G4 := f4.tr G5 (leA (by decide))
  have G3 := f3.tr G4 (leA (by decide))
  have G2 := f2.tr G3 (leA (by decide))
  have G1 := f1.tr G2 (leA (by decide))
  have G0 := f0.tr G1 (leA (by decide))
  refine ⟨z7, ?_, G0.nw (tupE (hn7.trans (offC hy rfl)) hm7 hs7) (ltA (by decide)), ?_⟩
  · rw [e_X9_init, if_neg (Nat.ne_of_gt h0)]
    rw [c0, Option.bind_some]
    rw [zif_ok d1, show zf nX10_init [.inr z1.1.1, .inl (128 : Int32)] (zmk z1 11 2) = _ from a1, Option.bind_some]
    dsimp only
    rw [c1, Option.bind_some]
    rw [show zf nX11_makeWords [.inl (2 : Int32), .inl (387 : Int32)] z2 = _ from a2, Option.bind_some]
    dsimp only
    rw [c2, Option.bind_some]
    rw [show zna z3 103 (2 : Int32) = _ from a3, Option.bind_some, c3, Option.bind_some]
    rw [zif_ok d4, show zf nX8_init [.inr z4.1.1, .inl (387 : Int32)] (zmk z4 9 3) = _ from a4, Option.bind_some]
    dsimp only
    rw [c4, Option.bind_some]
    rw [zif_ok d5, show zf nX10_init [.inr z5.1.1, .inl (387 : Int32)] (zmk z5 11 2) = _ from a5, Option.bind_some]
    dsimp only
    rw [c5, Option.bind_some]
    rw [show zna z6 107 (6 : Int32) = _ from a6, Option.bind_some, c6, Option.bind_some]
    rw [show zna q6 107 (6 : Int32) = _ from b6, Option.bind_some, d6, Option.bind_some]
    refine (show zm_X9_init 89 [some (.inr y), some (.inl (0 : Int32))] [] o6 = zm_X9_init 89 [some (.inr y), some (.inl (nI 6))] [] z7 from L6).trans ?_
    rw [e_X9_init_89, if_neg (show ¬ nI 6 < (6 : Int32) by rw [show (6 : Int32) = nI 6 from rfl, nI_ltI (by omega) (by omega)]; omega)]
  · refine ⟨16, 17, ⟨⟨kk7, ⟨(G2.f (by decide)).trans v1, (G3.f (by decide)).trans v2, (G4.f (by decide)).trans v3, (G5.f (by decide)).trans v4, (G6.f (by decide)).trans v5, P6.1.1, P6.1.2⟩, ⟨((G3.lo (lo := y + 3) (hi := y + 4) (ltA (by decide)) (leA (by decide))).K (Nat.le_refl _) (ltB (by decide))).trans P2.1.1, ((G3.lo (lo := y + 3) (hi := y + 4) (ltA (by decide)) (leA (by decide))).N (Nat.le_refl _) (ltB (by decide))).trans P2.1.2.1, fun t ht => ?_⟩, ⟨((G4.lo (lo := y + 8) (hi := y + 9) (ltA (by decide)) (leA (by decide))).K (Nat.le_refl _) (ltB (by decide))).trans P3.1, ((G4.lo (lo := y + 8) (hi := y + 9) (ltA (by decide)) (leA (by decide))).N (Nat.le_refl _) (ltB (by decide))).trans P3.2.1⟩, fun b hb => ?_, Or.inl ⟨rfl, rfl⟩⟩, fun b hb q hq => ⟨[], ?_⟩, ⟨[], P4.al (G5.lo (lo := y + 9) (hi := y + 14) (ltA (by decide)) (leA (by decide)))⟩, [], P5.al (G6.lo (lo := y + 14) (hi := y + 16) (ltA (by decide)) (leA (by decide)))⟩, ⟨[], P1.al (G2.lo (lo := y + 1) (hi := y + 3) (ltA (by decide)) (leA (by decide)))⟩, fun t ht => ⟨[], ?_⟩, (G1.i (by decide)).trans v0⟩
    · exact ((G3.lo (lo := y + 3) (hi := y + 4) (ltA (by decide)) (leA (by decide))).F (Nat.le_refl _) (ltB (by decide)) _).trans ((P2.1.2.2.2 t ht).trans (by omega))
    · rcases hb with rfl | rfl
      · exact ⟨P6.2.1.1, P6.2.1.2, fun q hq => (P6.2.2.2 q hq).1.1⟩
      · exact ⟨P6.2.2.1.1, P6.2.2.1.2, fun q hq => (P6.2.2.2 q hq).2.1⟩
    · rcases hb with rfl | rfl
      · exact (P6.2.2.2 q hq).1.2
      · exact (P6.2.2.2 q hq).2.2
    · have := (P2.2 t ht).al ((G3.lo (lo := y + 3) (hi := y + 8) (ltA (by decide)) (leA (by decide))).sub (by omega) (by omega))
      rw [show y + 3 + 1 + 2 * t = y + 4 + 2 * t by omega] at this
      exact this
end NWI
