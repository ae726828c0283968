/-! New cells: the bench. -/
section NWJ
theorem n_bench {h : zM} {y : Nat} (h0 : 0 < y) (hk : zK h y = 12) (hy : h.1.1 = y + 1) : ∃ z, zf nX11_init [.inr y] h = some (0, 0, z) ∧ zNw y 8090 469534 h z ∧ XI z y (fun _ => newM 0, [], none, 0, none, []) := by
  have hn0 : h.1.1 = y + 1 := hy
  have hm0 : h.1.2.1 = h.1.2.1 + 0 := rfl
  have hs0 : h.1.2.2 = h.1.2.2 + 0 := rfl
  have kk0 : zK h y = 11 + 1 := hk
  obtain ⟨t0, q0, z1, a0, c0, L0, f0, v0, ⟨i0, j0, s0⟩, P0⟩ := p_U (E := fun z b => MC z b (newM 0)) (NE := fun z z1 => zK (zmk z 3 8) z.1.1 = 3 ∧ zf nX2_init [.inr z.1.1] (zmk z 3 8) = some (0, 0, z1)) (g := fun i z => zm_X11_init 14 [some (.inr y), some (.inl (nI i))] [] z) (f := 0) (n := 2) (ak := 105) (ek := 3) (k := 6) (S := 134) kk0 hn0 (ltA (by decide)) (by decide) (by decide) rfl (fun z hz => by
      obtain ⟨z1, e1, e2, e3, e4⟩ := n_mach (h := z) hz
      exact ⟨z1, ⟨e1, e2⟩, e3, e4.1.1, e4⟩) (fun _ _ _ d f => MC.al d f) (fun i z z1 z2 hi hg hN hs => by
      show zm_X11_init 14 [some (.inr y), some (.inl (nI i))] [] z = zm_X11_init 14 [some (.inr y), some (.inl (nI (i + 1)))] [] z2
      rw [e_X11_init_14, if_pos (show nI i < (2 : Int32) by rw [show (2 : Int32) = nI 2 from rfl, nI_ltI (by omega) (by omega)]; omega), hg, Option.bind_some, zif_ok hN.1, show zf nX2_init [.inr z.1.1] (zmk z 3 8) = _ from hN.2, Option.bind_some]
      dsimp only
      rw [hs, Option.bind_some, nI_1])
  have kk1 : zK z1 y = 11 + 1 := f0.k.trans kk0
  have hn1 : z1.1.1 = y + 14 := offA i0 rfl
  have hm1 : z1.1.2.1 = h.1.2.1 + 13 := offB j0 hm0 rfl
  have hs1 : z1.1.2.2 = h.1.2.2 + 270 := offB s0 hs0 rfl
  clear i0 j0 s0
  obtain ⟨t1, z2, d1, a1, c1, f1, v1, ⟨i1, j1, s1⟩, P1⟩ := p_O (f := 1) (n := 9) (c := 4) (k := 367) (S := 6092) (P := fun z b => OutP z b []) (F := fun b z => zf nX3_init [.inr b] z) kk1 hn1 (ltA (by decide)) (fun z k1 k2 k3 => n_out (Nat.lt_of_lt_of_le h0 (Nat.le_add_right _ _)) k1 k2) (fun z z1 d f => d.al f)
  have kk2 : zK z2 y = 11 + 1 := f1.k.trans kk1
  have hn2 : z2.1.1 = y + 382 := offA i1 rfl
  have hm2 : z2.1.2.1 = h.1.2.1 + 381 := offB j1 hm1 rfl
  have hs2 : z2.1.2.2 = h.1.2.2 + 6371 := offB s1 hs1 rfl
  clear i1 j1 s1
  obtain ⟨t2, z3, d2, a2, c2, f2, v2, ⟨i2, j2, s2⟩, P2⟩ := p_O (f := 2) (n := 11) (c := 1) (k := 376) (S := 33887) (P := fun z b => DS z b) (F := fun b z => zf nX0_init [.inr b] z) kk2 hn2 (ltA (by decide)) (fun z k1 k2 k3 => n_diff (Nat.lt_of_lt_of_le h0 (Nat.le_add_right _ _)) k1 k2) (fun z z1 d f => d.al f)
  have kk3 : zK z3 y = 11 + 1 := f2.k.trans kk2
  have hn3 : z3.1.1 = y + 759 := offA i2 rfl
  have hm3 : z3.1.2.1 = h.1.2.1 + 758 := offB j2 hm2 rfl
  have hs3 : z3.1.2.2 = h.1.2.2 + 40269 := offB s2 hs2 rfl
  clear i2 j2 s2
  obtain ⟨t3, z4, d3, a3, c3, f3, v3, ⟨i3, j3, s3⟩, P3⟩ := p_O (f := 3) (n := 5) (c := 6) (k := 4) (S := 16384) (P := fun z b => RS z b) (F := fun b z => zf nX5_init [.inr b] z) kk3 hn3 (ltA (by decide)) (fun z k1 k2 k3 => n_read (Nat.lt_of_lt_of_le h0 (Nat.le_add_right _ _)) k1 k2) (fun z z1 d f => d.al f)
  have kk4 : zK z4 y = 11 + 1 := f3.k.trans kk3
  have hn4 : z4.1.1 = y + 764 := offA i3 rfl
  have hm4 : z4.1.2.1 = h.1.2.1 + 763 := offB j3 hm3 rfl
  have hs4 : z4.1.2.2 = h.1.2.2 + 56658 := offB s3 hs3 rfl
  clear i3 j3 s3
  obtain ⟨t4, z5, d4, a4, c4, f4, v4, ⟨i4, j4, s4⟩, P4⟩ := p_O (f := 4) (n := 8) (c := 10) (k := 77) (S := 11466) (P := fun z b => WT z b none) (F := fun b z => zf nX9_init [.inr b] z) kk4 hn4 (ltA (by decide)) (fun z k1 k2 k3 => n_wit (Nat.lt_of_lt_of_le h0 (Nat.le_add_right _ _)) k1 k2) (fun z z1 d f => d.al f)
  have kk5 : zK z5 y = 11 + 1 := f4.k.trans kk4
  have hn5 : z5.1.1 = y + 842 := offA i4 rfl
  have hm5 : z5.1.2.1 = h.1.2.1 + 841 := offB j4 hm4 rfl
  have hs5 : z5.1.2.2 = h.1.2.2 + 68132 := offB s4 hs4 rfl
  clear i4 j4 s4
  obtain ⟨t5, z6, d5, a5, c5, f5, v5, ⟨i5, j5, s5⟩, P5⟩ := p_O (f := 5) (n := 8) (c := 8) (k := 5013) (S := 233488) (P := fun z b => TS z b) (F := fun b z => zf nX7_init [.inr b] z) kk5 hn5 (ltA (by decide)) (fun z k1 k2 k3 => n_twins (Nat.lt_of_lt_of_le h0 (Nat.le_add_right _ _)) k1 k2) (fun z z1 d f => d.al f)
  have kk6 : zK z6 y = 11 + 1 := f5.k.trans kk5
  have hn6 : z6.1.1 = y + 5856 := offA i5 rfl
  have hm6 : z6.1.2.1 = h.1.2.1 + 5855 := offB j5 hm5 rfl
  have hs6 : z6.1.2.2 = h.1.2.2 + 301628 := offB s5 hs5 rfl
  clear i5 j5 s5
  obtain ⟨t6, z7, d6, a6, c6, f6, v6, ⟨i6, j6, s6⟩, P6⟩ := p_O (f := 6) (n := 8) (c := 7) (k := 1817) (S := 142384) (P := fun z b => SS z b) (F := fun b z => zf nX6_init [.inr b] z) kk6 hn6 (ltA (by decide)) (fun z k1 k2 k3 => n_sets (Nat.lt_of_lt_of_le h0 (Nat.le_add_right _ _)) k1 k2) (fun z z1 d f => d.al f)
  have kk7 : zK z7 y = 11 + 1 := f6.k.trans kk6
  have hn7 : z7.1.1 = y + 7674 := offA i6 rfl
  have hm7 : z7.1.2.1 = h.1.2.1 + 7673 := offB j6 hm6 rfl
  have hs7 : z7.1.2.2 = h.1.2.2 + 444020 := offB s6 hs6 rfl
  clear i6 j6 s6
  have AR7 : zgF (zmk z7 2 11) y 11 6 = some (y + 5856) := (zgF_ok (show zK (zmk z7 2 11) y = 11 + 1 from (congrArg Prod.fst (mk_ne (h := z7) (k := 2) (n := 11) (b := y) (by rw [hn7]; omega)).1).trans kk7)).trans (congrArg some ((congrFun (mk_ne (h := z7) (k := 2) (n := 11) (b := y) (by rw [hn7]; omega)).2.2 6).trans v6))
  obtain ⟨t7, z8, d7, a7, c7, f7, v7, ⟨i7, j7, s7⟩, P7⟩ := p_O (f := 7) (n := 11) (c := 2) (k := 408) (S := 25200) (P := fun z b => YS z (y + 5856) b) (F := fun b z => zf nX1_init [.inr b, .inr (y + 5856)] z) kk7 hn7 (ltA (by decide)) (fun z k1 k2 k3 => n_least (Nat.lt_of_lt_of_le h0 (Nat.le_add_right _ _)) k1 k2 (s := y + 5856)) (fun z z1 d f => d.al f)
  have kk8 : zK z8 y = 11 + 1 := f7.k.trans kk7
  have hn8 : z8.1.1 = y + 8083 := offA i7 rfl
  have hm8 : z8.1.2.1 = h.1.2.1 + 8082 := offB j7 hm7 rfl
  have hs8 : z8.1.2.2 = h.1.2.2 + 469231 := offB s7 hs7 rfl
  clear i7 j7 s7
  obtain ⟨t8, z9, d8, a8, c8, f8, v8, ⟨i8, j8, s8⟩, P8⟩ := p_W (f := 8) (n := 9) kk8 hn8 (ltA (by decide)) (by decide)
  have kk9 : zK z9 y = 11 + 1 := f8.k.trans kk8
  have hn9 : z9.1.1 = y + 8085 := offA i8 rfl
  have hm9 : z9.1.2.1 = h.1.2.1 + 8084 := offB j8 hm8 rfl
  have hs9 : z9.1.2.2 = h.1.2.2 + 469242 := offB s8 hs8 rfl
  clear i8 j8 s8
  obtain ⟨t9, z10, d9, a9, c9, f9, v9, ⟨i9, j9, s9⟩, P9⟩ := p_W (f := 9) (n := 30) kk9 hn9 (ltA (by decide)) (by decide)
  have kk10 : zK z10 y = 11 + 1 := f9.k.trans kk9
  have hn10 : z10.1.1 = y + 8087 := offA i9 rfl
  have hm10 : z10.1.2.1 = h.1.2.1 + 8086 := offB j9 hm9 rfl
  have hs10 : z10.1.2.2 = h.1.2.2 + 469274 := offB s9 hs9 rfl
  clear i9 j9 s9
  obtain ⟨t10, z11, d10, a10, c10, f10, v10, ⟨i10, j10, s10⟩, P10⟩ := p_W (f := 10) (n := 128) kk10 hn10 (ltA (by decide)) (by decide)
  have kk11 : zK z11 y = 11 + 1 := f10.k.trans kk10
  have hn11 : z11.1.1 = y + 8089 := offA i10 rfl
  have hm11 : z11.1.2.1 = h.1.2.1 + 8088 := offB j10 hm10 rfl
  have hs11 : z11.1.2.2 = h.1.2.2 + 469404 := offB s10 hs10 rfl
  clear i10 j10 s10
  obtain ⟨t11, z12, d11, a11, c11, f11, v11, ⟨i11, j11, s11⟩, P11⟩ := p_W (f := 11) (n := 128) kk11 hn11 (ltA (by decide)) (by decide)
  have kk12 : zK z12 y = 11 + 1 := f11.k.trans kk11
  have hn12 : z12.1.1 = y + 8091 := offA i11 rfl
  have hm12 : z12.1.2.1 = h.1.2.1 + 8090 := offB j11 hm11 rfl
  have hs12 : z12.1.2.2 = h.1.2.2 + 469534 := offB s11 hs11 rfl
  clear i11 j11 s11
  obtain ⟨z13, c12, f12, v12, i12, j12, s12⟩ := p_I (j := 12) (x := 0) kk12 hn12
  have kk13 : zK z13 y = 11 + 1 := f12.k.trans kk12
  have hn13 : z13.1.1 = y + 8091 := offA i12 rfl
  have hm13 : z13.1.2.1 = h.1.2.1 + 8090 := offB j12 hm12 rfl
  have hs13 : z13.1.2.2 = h.1.2.2 + 469534 := offB s12 hs12 rfl
  clear i12 j12 s12
  obtain ⟨z14, c13, f13, v13, i13, j13, s13⟩ := p_I (j := 13) (x := -1) kk13 hn13
  have kk14 : zK z14 y = 11 + 1 := f13.k.trans kk13
  have hn14 : z14.1.1 = y + 8091 := offA i13 rfl
  have hm14 : z14.1.2.1 = h.1.2.1 + 8090 := offB j13 hm13 rfl
  have hs14 : z14.1.2.2 = h.1.2.2 + 469534 := offB s13 hs13 rfl
  clear i13 j13 s13
  obtain ⟨z15, c14, f14, v14, i14, j14, s14⟩ := p_I (j := 14) (x := -1) kk14 hn14
  have kk15 : zK z15 y = 11 + 1 := f14.k.trans kk14
  have hn15 : z15.1.1 = y + 8091 := offA i14 rfl
  have hm15 : z15.1.2.1 = h.1.2.1 + 8090 := offB j14 hm14 rfl
  have hs15 : z15.1.2.2 = h.1.2.2 + 469534 := offB s14 hs14 rfl
  clear i14 j14 s14
  have G15 : FRM y (y + 8091) [] [] z15 z15 := FRM.rf
  have G14 := f14.tr G15 (leA (by decide))
  have G13 := f13.tr G14 (leA (by decide))
  have G12 := f12.tr G13 (leA (by decide))
  have G11 := f11.tr G12 (leA (by decide))
  have G10 := f10.tr G11 (leA (by decide))
  have G9 := f9.tr G10 (leA (by decide))
  have G8 := f8.tr G9 (leA (by decide))
  have G7 := f7.tr G8 (leA (by decide))
  have G6 := f6.tr G7 (leA (by decide))
  have G5 := f5.tr G6 (leA (by decide))
  have G4 := f4.tr G5 (leA (by decide))
  have G3 := f3.tr G4 (leA (by decide))
  have G2 := f2.tr G3 (leA (by decide))
  have G1 := f1.tr G2 (leA (by decide))
  have G0 := f0.tr G1 (leA (by decide))
  refine ⟨z15, ?_, G0.nw (tupE (hn15.trans (offC hy rfl)) hm15 hs15) (ltA (by decide)), ?_⟩
  · rw [e_X11_init, if_neg (Nat.ne_of_gt h0)]
    rw [show zna h 105 (2 : Int32) = _ from a0, Option.bind_some, c0, Option.bind_some]
    refine (show zm_X11_init 14 [some (.inr y), some (.inl (0 : Int32))] [] q0 = zm_X11_init 14 [some (.inr y), some (.inl (nI 2))] [] z1 from L0).trans ?_
    rw [e_X11_init_14, if_neg (show ¬ nI 2 < (2 : Int32) by rw [show (2 : Int32) = nI 2 from rfl, nI_ltI (by omega) (by omega)]; omega)]
    rw [zif_ok d1, show zf nX3_init [.inr z1.1.1] (zmk z1 4 9) = _ from a1, Option.bind_some]
    dsimp only
    rw [c1, Option.bind_some]
    rw [zif_ok d2, show zf nX0_init [.inr z2.1.1] (zmk z2 1 11) = _ from a2, Option.bind_some]
    dsimp only
    rw [c2, Option.bind_some]
    rw [zif_ok d3, show zf nX5_init [.inr z3.1.1] (zmk z3 6 5) = _ from a3, Option.bind_some]
    dsimp only
    rw [c3, Option.bind_some]
    rw [zif_ok d4, show zf nX9_init [.inr z4.1.1] (zmk z4 10 8) = _ from a4, Option.bind_some]
    dsimp only
    rw [c4, Option.bind_some]
    rw [zif_ok d5, show zf nX7_init [.inr z5.1.1] (zmk z5 8 8) = _ from a5, Option.bind_some]
    dsimp only
    rw [c5, Option.bind_some]
    rw [zif_ok d6, show zf nX6_init [.inr z6.1.1] (zmk z6 7 8) = _ from a6, Option.bind_some]
    dsimp only
    rw [c6, Option.bind_some]
    rw [show zgF (zmk z7 2 11) y 11 6 = some (y + 5856) from AR7, Option.bind_some]
    rw [zif_ok d7, show zf nX1_init [.inr z7.1.1, .inr (y + 5856)] (zmk z7 2 11) = _ from a7, Option.bind_some]
    dsimp only
    rw [c7, Option.bind_some]
    rw [zif_ok d8, show zf nX10_init [.inr z8.1.1, .inl (9 : Int32)] (zmk z8 11 2) = _ from a8, Option.bind_some]
    dsimp only
    rw [c8, Option.bind_some]
    rw [zif_ok d9, show zf nX10_init [.inr z9.1.1, .inl (30 : Int32)] (zmk z9 11 2) = _ from a9, Option.bind_some]
    dsimp only
    rw [c9, Option.bind_some]
    rw [zif_ok d10, show zf nX10_init [.inr z10.1.1, .inl (128 : Int32)] (zmk z10 11 2) = _ from a10, Option.bind_some]
    dsimp only
    rw [c10, Option.bind_some]
    rw [zif_ok d11, show zf nX10_init [.inr z11.1.1, .inl (128 : Int32)] (zmk z11 11 2) = _ from a11, Option.bind_some]
    dsimp only
    rw [c11, Option.bind_some]
    rw [c12, Option.bind_some]
    rw [c13, Option.bind_some]
    rw [c14, Option.bind_some]
  · refine ⟨⟨⟨kk15, (G1.f (by decide)).trans v0, ((G1.lo (lo := y + 1) (hi := y + 2) (ltA (by decide)) (leA (by decide))).K (Nat.le_refl _) (ltB (by decide))).trans P0.1, ((G1.lo (lo := y + 1) (hi := y + 2) (ltA (by decide)) (leA (by decide))).N (Nat.le_refl _) (ltB (by decide))).trans P0.2.1, fun t ht => ?_⟩, fun t ht => ⟨?_, newM_ok (by decide)⟩⟩, ⟨⟨(G2.f (by decide)).trans v1, (G3.f (by decide)).trans v2, (G4.f (by decide)).trans v3, (G5.f (by decide)).trans v4, (G6.f (by decide)).trans v5, (G7.f (by decide)).trans v6⟩, (G8.f (by decide)).trans v7, (G9.f (by decide)).trans v8, (G10.f (by decide)).trans v9, (G11.f (by decide)).trans v10, (G12.f (by decide)).trans v11⟩, OutP.al P1 (G2.lo (lo := y + 14) (hi := y + 382) (ltA (by decide)) (leA (by decide))), DS.al P2 (G3.lo (lo := y + 382) (hi := y + 759) (ltA (by decide)) (leA (by decide))), RS.al P3 (G4.lo (lo := y + 759) (hi := y + 764) (ltA (by decide)) (leA (by decide))), WT.al P4 (G5.lo (lo := y + 764) (hi := y + 842) (ltA (by decide)) (leA (by decide))), ⟨(G13.i (by decide)).trans v12, Nat.zero_le _⟩, ⟨TS.al P5 (G6.lo (lo := y + 842) (hi := y + 5856) (ltA (by decide)) (leA (by decide))), SS.al P6 (G7.lo (lo := y + 5856) (hi := y + 7674) (ltA (by decide)) (leA (by decide))), YS.al P7 (G8.lo (lo := y + 7674) (hi := y + 8083) (ltA (by decide)) (leA (by decide))), (G14.i (by decide)).trans v13⟩, ⟨⟨[], P8.al (G9.lo (lo := y + 8083) (hi := y + 8085) (ltA (by decide)) (leA (by decide)))⟩, P9.al (G10.lo (lo := y + 8085) (hi := y + 8087) (ltA (by decide)) (leA (by decide))), ⟨[], P10.al (G11.lo (lo := y + 8087) (hi := y + 8089) (ltA (by decide)) (leA (by decide)))⟩, [], P11.al (G12.lo (lo := y + 8089) (hi := y + 8091) (ltA (by decide)) (leA (by decide)))⟩⟩
    · exact ((G1.lo (lo := y + 1) (hi := y + 2) (ltA (by decide)) (leA (by decide))).F (Nat.le_refl _) (ltB (by decide)) _).trans ((P0.2.2 t ht).1.trans (by omega))
    · have := MC.al (P0.2.2 t ht).2 ((G1.lo (lo := y + 1) (hi := y + 14) (ltA (by decide)) (leA (by decide))).sub (by omega) (by omega))
      rw [show y + 1 + 1 + 6 * t = y + 2 + 6 * t by omega] at this
      exact this
end NWJ
