/-! New cells: Sets. -/
section NWE
theorem n_sets {h : zM} {y : Nat} (h0 : 0 < y) (hk : zK h y = 7) (hy : h.1.1 = y + 1) : ∃ z, zf nX6_init [.inr y] h = some (0, 0, z) ∧ zNw y 1817 142384 h z ∧ SS z y := by
  have hn0 : h.1.1 = y + 1 := hy
  have hm0 : h.1.2.1 = h.1.2.1 + 0 := rfl
  have hs0 : h.1.2.2 = h.1.2.2 + 0 := rfl
  have kk0 : zK h y = 6 + 1 := hk
  obtain ⟨z1, c0, f0, v0, i0, j0, s0⟩ := p_I (j := 0) (x := 0) kk0 hn0
  have kk1 : zK z1 y = 6 + 1 := f0.k.trans kk0
  have hn1 : z1.1.1 = y + 1 := offA i0 rfl
  have hm1 : z1.1.2.1 = h.1.2.1 + 0 := offB j0 hm0 rfl
  have hs1 : z1.1.2.2 = h.1.2.2 + 0 := offB s0 hs0 rfl
  clear i0 j0 s0
  obtain ⟨t1, z2, a1, c1, f1, v1, ⟨i1, j1, s1⟩, P1⟩ := p_A (f := 1) (n := 100) (k := 101) kk1 hn1 (ltA (by decide)) (by decide)
  have kk2 : zK z2 y = 6 + 1 := f1.k.trans kk1
  have hn2 : z2.1.1 = y + 2 := offA i1 rfl
  have hm2 : z2.1.2.1 = h.1.2.1 + 1 := offB j1 hm1 rfl
  have hs2 : z2.1.2.2 = h.1.2.2 + 100 := offB s1 hs1 rfl
  clear i1 j1 s1
  obtain ⟨t2, z3, a2, c2, f2, v2, ⟨i2, j2, s2⟩, P2⟩ := p_V (f := 2) (n := 600) (r := 111) kk2 hn2 (ltA (by decide)) (by decide) (by decide)
  have kk3 : zK z3 y = 6 + 1 := f2.k.trans kk2
  have hn3 : z3.1.1 = y + 1203 := offA i2 rfl
  have hm3 : z3.1.2.1 = h.1.2.1 + 1202 := offB j2 hm2 rfl
  have hs3 : z3.1.2.2 = h.1.2.2 + 68500 := offB s2 hs2 rfl
  clear i2 j2 s2
  obtain ⟨t3, z4, a3, c3, f3, v3, ⟨i3, j3, s3⟩, P3⟩ := p_A (f := 3) (n := 300) (k := 101) kk3 hn3 (ltA (by decide)) (by decide)
  have kk4 : zK z4 y = 6 + 1 := f3.k.trans kk3
  have hn4 : z4.1.1 = y + 1204 := offA i3 rfl
  have hm4 : z4.1.2.1 = h.1.2.1 + 1203 := offB j3 hm3 rfl
  have hs4 : z4.1.2.2 = h.1.2.2 + 68800 := offB s3 hs3 rfl
  clear i3 j3 s3
  obtain ⟨t4, z5, a4, c4, f4, v4, ⟨i4, j4, s4⟩, P4⟩ := p_V (f := 4) (n := 300) (r := 240) kk4 hn4 (ltA (by decide)) (by decide) (by decide)
  have kk5 : zK z5 y = 6 + 1 := f4.k.trans kk4
  have hn5 : z5.1.1 = y + 1805 := offA i4 rfl
  have hm5 : z5.1.2.1 = h.1.2.1 + 1804 := offB j4 hm4 rfl
  have hs5 : z5.1.2.2 = h.1.2.2 + 141700 := offB s4 hs4 rfl
  clear i4 j4 s4
  obtain ⟨t5, z6, a5, c5, f5, v5, ⟨i5, j5, s5⟩, P5⟩ := p_V (f := 5) (n := 6) (r := 111) kk5 hn5 (ltA (by decide)) (by decide) (by decide)
  have kk6 : zK z6 y = 6 + 1 := f5.k.trans kk5
  have hn6 : z6.1.1 = y + 1818 := offA i5 rfl
  have hm6 : z6.1.2.1 = h.1.2.1 + 1817 := offB j5 hm5 rfl
  have hs6 : z6.1.2.2 = h.1.2.2 + 142384 := offB s5 hs5 rfl
  clear i5 j5 s5
  have G6 : FRM y (y + 1818) [] [] z6 z6 := FRM.rf
  have G5 := f5.tr G6 (leA (by decide))
  have G4 := f4.tr G5 (leA (by decide))
  have G3 := f3.tr G4 (leA (by decide))
  have G2 := f2.tr G3 (leA (by decide))
  have G1 := f1.tr G2 (leA (by decide))
  have G0 := f0.tr G1 (leA (by decide))
  refine ⟨z6, ?_, G0.nw (tupE (hn6.trans (offC hy rfl)) hm6 hs6) (ltA (by decide)), ?_⟩
  · rw [e_X6_init, if_neg (Nat.ne_of_gt h0)]
    rw [c0, Option.bind_some]
    rw [show zna z1 101 (100 : Int32) = _ from a1, Option.bind_some, c1, Option.bind_some]
    rw [show zf nX11_makeWords [.inl (600 : Int32), .inl (111 : Int32)] z2 = _ from a2, Option.bind_some]
    dsimp only
    rw [c2, Option.bind_some]
    rw [show zna z3 101 (300 : Int32) = _ from a3, Option.bind_some, c3, Option.bind_some]
    rw [show zf nX11_makeWords [.inl (300 : Int32), .inl (240 : Int32)] z4 = _ from a4, Option.bind_some]
    dsimp only
    rw [c4, Option.bind_some]
    rw [show zf nX11_makeWords [.inl (6 : Int32), .inl (111 : Int32)] z5 = _ from a5, Option.bind_some]
    dsimp only
    rw [c5, Option.bind_some]
  · exact ⟨⟨⟨kk6, fun e he => by
      simp only [T6, List.mem_cons, List.not_mem_nil, or_false] at he
      rcases he with rfl | rfl
      · exact ⟨(G2.f (by decide)).trans v1, ((G2.lo (lo := y + 1) (hi := y + 2) (ltA (by decide)) (leA (by decide))).K (Nat.le_refl _) (ltB (by decide))).trans P1.1, ((G2.lo (lo := y + 1) (hi := y + 2) (ltA (by decide)) (leA (by decide))).N (Nat.le_refl _) (ltB (by decide))).trans P1.2.1⟩
      · exact ⟨(G4.f (by decide)).trans v3, ((G4.lo (lo := y + 1203) (hi := y + 1204) (ltA (by decide)) (leA (by decide))).K (Nat.le_refl _) (ltB (by decide))).trans P3.1, ((G4.lo (lo := y + 1203) (hi := y + 1204) (ltA (by decide)) (leA (by decide))).N (Nat.le_refl _) (ltB (by decide))).trans P3.2.1⟩⟩, ⟨(G3.f (by decide)).trans v2, (G5.f (by decide)).trans v4, (G6.f (by decide)).trans v5⟩, ⟨((G3.lo (lo := y + 2) (hi := y + 3) (ltA (by decide)) (leA (by decide))).K (Nat.le_refl _) (ltB (by decide))).trans P2.1.1, ((G3.lo (lo := y + 2) (hi := y + 3) (ltA (by decide)) (leA (by decide))).N (Nat.le_refl _) (ltB (by decide))).trans P2.1.2.1, by decide, fun i hi => (((G3.lo (lo := y + 2) (hi := y + 3) (ltA (by decide)) (leA (by decide))).F (Nat.le_refl _) (ltB (by decide)) _).trans (P2.1.2.2.2 i hi))⟩, ⟨((G5.lo (lo := y + 1204) (hi := y + 1205) (ltA (by decide)) (leA (by decide))).K (Nat.le_refl _) (ltB (by decide))).trans P4.1.1, ((G5.lo (lo := y + 1204) (hi := y + 1205) (ltA (by decide)) (leA (by decide))).N (Nat.le_refl _) (ltB (by decide))).trans P4.1.2.1, by decide, fun i hi => (((G5.lo (lo := y + 1204) (hi := y + 1205) (ltA (by decide)) (leA (by decide))).F (Nat.le_refl _) (ltB (by decide)) _).trans (P4.1.2.2.2 i hi))⟩, ⟨((G6.lo (lo := y + 1805) (hi := y + 1806) (ltA (by decide)) (leA (by decide))).K (Nat.le_refl _) (ltB (by decide))).trans P5.1.1, ((G6.lo (lo := y + 1805) (hi := y + 1806) (ltA (by decide)) (leA (by decide))).N (Nat.le_refl _) (ltB (by decide))).trans P5.1.2.1, by decide, fun i hi => (((G6.lo (lo := y + 1805) (hi := y + 1806) (ltA (by decide)) (leA (by decide))).F (Nat.le_refl _) (ltB (by decide)) _).trans (P5.1.2.2.2 i hi))⟩⟩, (fun i hi => ⟨[], (P2.2 i hi).al ((G3.lo (lo := y + 2) (hi := y + 1203) (ltA (by decide)) (leA (by decide))).sub (by omega) (by omega))⟩), (fun i hi => ⟨[], (P4.2 i hi).al ((G5.lo (lo := y + 1204) (hi := y + 1805) (ltA (by decide)) (leA (by decide))).sub (by omega) (by omega))⟩), (fun i hi => ⟨[], (P5.2 i hi).al ((G6.lo (lo := y + 1805) (hi := y + 1818) (ltA (by decide)) (leA (by decide))).sub (by omega) (by omega))⟩)⟩
end NWE
