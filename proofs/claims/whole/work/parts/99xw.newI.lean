/-! New cells: Witness, its two arrays. -/
section NWI0
theorem WT.al {h h' : zM} {w : Nat} (s : WT h w none) (f : zLo w (w + 78) h h') : WT h' w none := by
  obtain ⟨b1, b2, ⟨⟨a, ⟨c1, c2, c3, c4, c5, c6, c7⟩, ⟨e1, e2, e3⟩, ⟨g1, g2⟩, i, j⟩, t1, ⟨l9, t9⟩, u, hu⟩, ⟨v, hv⟩, p, m⟩ := s
  have F : ∀ q k, w ≤ q → q < w + 78 → zF h' q k = zF h q k := fun q k x y => f.F x y k
  refine ⟨b1, b2, ⟨⟨(f.K (by omega) (by omega)).trans a, ⟨(F _ _ (by omega) (by omega)).trans c1, (F _ _ (by omega) (by omega)).trans c2, (F _ _ (by omega) (by omega)).trans c3, (F _ _ (by omega) (by omega)).trans c4, (F _ _ (by omega) (by omega)).trans c5, (F _ _ (by omega) (by omega)).trans c6, (F _ _ (by omega) (by omega)).trans c7⟩, ⟨(f.K (by omega) (by omega)).trans e1, (f.N (by omega) (by omega)).trans e2, fun t ht => (F _ _ (by omega) (by omega)).trans (e3 t ht)⟩, ⟨(f.K (by omega) (by omega)).trans g1, (f.N (by omega) (by omega)).trans g2⟩, fun b hb => ?_, j⟩, fun b hb q hq => ?_, ⟨l9, t9.al (f.sub (by omega) (by omega))⟩, u, hu.al (f.sub (by omega) (by omega))⟩, ⟨v, hv.al (f.sub (by omega) (by omega))⟩, fun t ht => ?_, (f.I (by omega) (by omega) _).trans m⟩
  · obtain ⟨i1, i2, i3⟩ := i b hb
    exact ⟨(f.K (by omega) (by omega)).trans i1, (f.N (by omega) (by omega)).trans i2, fun q hq => (F _ _ (by omega) (by omega)).trans (i3 q hq)⟩
  · obtain ⟨l, hl⟩ := t1 b hb q hq
    have := tl_in (w := w) hb hq
    exact ⟨l, hl.al (f.sub (by omega) (by omega))⟩
  · obtain ⟨x, hx⟩ := p t ht
    exact ⟨x, hx.al (f.sub (by omega) (by omega))⟩
/-- one place of an array of two words -/
theorem w_half {z : zM} {p i : Nat} (h0 : 0 < z.1.1) (hp : p < z.1.1) (k : zK z p = 107) (n : zN z p = 6) (hi : i < 6) : ∃ z1 z2, zK (zmk z 9 3) z.1.1 = 9 ∧ zf nX8_init [.inr z.1.1, .inl (nI 387)] (zmk z 9 3) = some (0, 0, z1) ∧ zas z1 p (nI i) z.1.1 = some z2 ∧ z2.1 = (z.1.1 + 5, z.1.2.1 + 5, z.1.2.2 + 781) ∧ (∀ b, b ≠ p → b < z.1.1 → z2.2.1 b = z.2.1 b ∧ z2.2.2.1 b = z.2.2.1 b ∧ z2.2.2.2 b = z.2.2.2 b) ∧ z2.2.1 p = z.2.1 p ∧ zF z2 p i = z.1.1 ∧ (∀ j, j ≠ i → zF z2 p j = zF z p j) ∧ TLC z2 z.1.1 387 [] := by
  obtain ⟨z1, w1, w2, w3, w4⟩ := n_two (h := z) (n := 387) h0 (by decide)
  have e := w3.2 p hp
  have K1 : zK z1 p = 107 := (congrArg Prod.fst e.1).trans k
  have N1 : zN z1 p = 6 := (congrArg Prod.snd e.1).trans n
  refine ⟨z1, zsF z1 p i z.1.1, w1, w2, zas_ok (by rw [K1]; decide) (by rw [N1]; exact hi) (by rw [N1]; decide) (by rw [K1]; exact w4.1.1), w3.1.trans (tup3 rfl rfl (congrArg (fun q => z.1.2.2 + q) (show 3 + ((2 + 387) + (2 + 387)) = 781 by decide))), fun b hb hc => ?_, e.1, zF_sFx, fun j hj => ?_, w4.al (zLo_sF (Or.inl hp))⟩
  · obtain ⟨q1, q2, q3⟩ := w3.2 b hc
    exact ⟨q1, q2, (va_up_ne _ _ hb).trans q3⟩
  · rw [zF_sFk hj]
    exact congrFun e.2.2 j
/-- both arrays -/
theorem w_fill {h : zM} {y : Nat} (hk : zK h y = 9 + 1) (ha : h.1.1 = y + 16) : ∃ t q u o z, zna h 107 (nI 6) = some t ∧ zpF t y 9 6 h.1.1 = some q ∧ zna q 107 (nI 6) = some u ∧ zpF u y 9 7 q.1.1 = some o ∧ zm_X9_init 89 [some (.inr y), some (.inl (nI 0))] [] o = zm_X9_init 89 [some (.inr y), some (.inl (nI 6))] [] z ∧ FRM y (y + 16) [6, 7] [] h z ∧ (z.1.1 = y + 16 + 62 ∧ z.1.2.1 = h.1.2.1 + 62 ∧ z.1.2.2 = h.1.2.2 + 9384) ∧
    (zF z y 6 = y + 16 ∧ zF z y 7 = y + 17) ∧ (zK z (y + 16) = 107 ∧ zN z (y + 16) = 6) ∧ (zK z (y + 17) = 107 ∧ zN z (y + 17) = 6) ∧ ∀ q, q < 6 → (zF z (y + 16) q = tl y 16 q ∧ TLC z (tl y 16 q) 387 []) ∧ (zF z (y + 17) q = tl y 17 q ∧ TLC z (tl y 17 q) 387 []) := by
  obtain ⟨t, q, a1, c1, f1, v1, ⟨i1, j1, s1⟩, k1, n1, -⟩ := p_A (f := 6) (n := 6) (k := 107) hk ha (ltA (by decide)) (by decide)
  have kq : zK q y = 9 + 1 := f1.k.trans hk
  have hq : q.1.1 = y + 17 := i1
  obtain ⟨u, o, a2, c2, f2, v2, ⟨i2, j2, s2⟩, k2, n2, -⟩ := p_A (f := 7) (n := 6) (k := 107) kq hq (ltA (by decide)) (by decide)
  have ko : zK o y = 9 + 1 := f2.k.trans kq
  have F0 : FRM y (y + 16) [6, 7] [] h o := f1.tr f2 (by omega)
  have l1 : zLo (y + 16) (y + 17) q o := f2.lo (by omega) (Nat.le_refl _)
  have kA : zK o (y + 16) = 107 := (l1.K (Nat.le_refl _) (by omega)).trans k1
  have nA : zN o (y + 16) = 6 := (l1.N (Nat.le_refl _) (by omega)).trans n1
  have v6 : zF o y 6 = y + 16 := (f2.f (by decide)).trans v1
  have loop := zlp (P := fun i z => FRM y (y + 16) [6, 7] [] h z ∧ (zF z y 6 = y + 16 ∧ zF z y 7 = y + 17) ∧ (zK z (y + 16) = 107 ∧ zN z (y + 16) = 6) ∧ (zK z (y + 17) = 107 ∧ zN z (y + 17) = 6) ∧ (z.1.1 = y + 18 + 10 * i ∧ z.1.2.1 = h.1.2.1 + 2 + 10 * i ∧ z.1.2.2 = h.1.2.2 + 12 + 1562 * i) ∧ ∀ j, j < i → (zF z (y + 16) j = tl y 16 j ∧ TLC z (tl y 16 j) 387 []) ∧ (zF z (y + 17) j = tl y 17 j ∧ TLC z (tl y 17 j) 387 [])) (g := fun i z => zm_X9_init 89 [some (.inr y), some (.inl (nI i))] [] z) (n := 6) (fun i z hi hP => by
    obtain ⟨p1, ⟨p2, p2'⟩, ⟨p3, p3'⟩, ⟨p4, p4'⟩, ⟨p5, p5', p5''⟩, p6⟩ := hP
    obtain ⟨z1, z2, x1, x2, x3, x4, x5, x6, x7, x8, x9⟩ := w_half (z := z) (p := y + 16) (i := i) (by omega) (by omega) p3 p3' hi
    have m1 : z2.1.1 = y + 23 + 10 * i := by rw [x4]; dsimp only; omega
    have e17 := x5 (y + 17) (by omega) (by omega)
    have ey := x5 y (by omega) (by omega)
    obtain ⟨z3, z4, y1, y2, y3, y4, y5, y6, y7, y8, y9⟩ := w_half (z := z2) (p := y + 17) (i := i) (by omega) (by omega) ((congrArg Prod.fst e17.1).trans p4) ((congrArg Prod.snd e17.1).trans p4') hi
    have ey2 := y5 y (by omega) (by omega)
    have e16 := y5 (y + 16) (by omega) (by omega)
    have both : ∀ b, b ≠ y + 16 → b ≠ y + 17 → b < y + 18 + 10 * i → z4.2.1 b = z.2.1 b ∧ z4.2.2.1 b = z.2.2.1 b ∧ z4.2.2.2 b = z.2.2.2 b := fun b b1 b2 b3 => by
      obtain ⟨q1, q2, q3⟩ := x5 b b1 (by omega)
      obtain ⟨r1, r2, r3⟩ := y5 b b2 (by omega)
      exact ⟨r1.trans q1, r2.trans q2, r3.trans q3⟩
    have L4 : zLo (y + 18) (y + 18 + 10 * i) z z4 := fun b b1 b2 => both b (by omega) (by omega) b2
    have L2 : zLo (y + 18 + 10 * i) (y + 23 + 10 * i) z2 z4 := fun b b1 b2 => y5 b (by omega) (by omega)
    have k2' : zK z2 y = 9 + 1 := (congrArg Prod.fst ey.1).trans (p1.k.trans hk)
    have g6 : zgF z y 9 6 = some (y + 16) := (zgF_ok (p1.k.trans hk)).trans (congrArg some p2)
    have g7 : zgF z2 y 9 7 = some (y + 17) := (zgF_ok k2').trans (congrArg some ((congrFun ey.2.2 7).trans p2'))
    refine ⟨z4, ?_, p1.tr (⟨fun b b1 b2 => both b (by omega) (by omega) (by omega), (both y (by omega) (by omega) (by omega)).1, fun f _ => congrFun (both y (by omega) (by omega) (by omega)).2.2 f, fun j _ => congrFun (both y (by omega) (by omega) (by omega)).2.1 j⟩ : FRM y (y + 16) [] [] z z4) (Nat.le_refl _), ⟨(congrFun (both y (by omega) (by omega) (by omega)).2.2 6).trans p2, (congrFun (both y (by omega) (by omega) (by omega)).2.2 7).trans p2'⟩, ⟨((congrArg Prod.fst e16.1).trans (congrArg Prod.fst x6)).trans p3, ((congrArg Prod.snd e16.1).trans (congrArg Prod.snd x6)).trans p3'⟩, ⟨((congrArg Prod.fst y6).trans (congrArg Prod.fst e17.1)).trans p4, ((congrArg Prod.snd y6).trans (congrArg Prod.snd e17.1)).trans p4'⟩, ⟨by rw [y4]; dsimp only; omega, by rw [y4, x4]; dsimp only; omega, by
      rw [y4, x4]
      show z.1.2.2 + 781 + 781 = _
      rw [p5'', Nat.mul_succ, Nat.add_assoc (h.1.2.2 + 12 + 1562 * i), show 781 + 781 = 1562 by decide]
      exact Nat.add_assoc _ _ _⟩, fun j hj => ?_⟩
    · show zm_X9_init 89 [some (.inr y), some (.inl (nI i))] [] z = zm_X9_init 89 [some (.inr y), some (.inl (nI (i + 1)))] [] z4
      rw [e_X9_init_89, if_pos (show nI i < (6 : Int32) by rw [show (6 : Int32) = nI 6 from rfl, nI_ltI (by omega) (by omega)]; omega), g6, Option.bind_some, zif_ok x1, show zf nX8_init [.inr z.1.1, .inl (387 : Int32)] (zmk z 9 3) = _ from x2, Option.bind_some]
      dsimp only
      rw [x3, Option.bind_some, g7, Option.bind_some, zif_ok y1, show zf nX8_init [.inr z2.1.1, .inl (387 : Int32)] (zmk z2 9 3) = _ from y2, Option.bind_some]
      dsimp only
      rw [y3, Option.bind_some, nI_1]
    · by_cases e : j = i
      · have t16 : tl y 16 i = y + 18 + 10 * i := by unfold tl; omega
        have t17 : tl y 17 i = y + 23 + 10 * i := by unfold tl; omega
        rw [e, t16, t17]
        refine ⟨⟨((congrFun e16.2.2 i).trans x7).trans p5, ?_⟩, y7.trans m1, ?_⟩
        · rw [p5] at x9
          exact x9.al (L2.sub (by omega) (by omega))
        · rw [m1] at y9
          exact y9
      · obtain ⟨⟨r1, r2⟩, r3, r4⟩ := p6 j (by omega)
        have t16 : tl y 16 j = y + 18 + 10 * j := by unfold tl; omega
        have t17 : tl y 17 j = y + 23 + 10 * j := by unfold tl; omega
        exact ⟨⟨((congrFun e16.2.2 j).trans (x8 j e)).trans r1, r2.al (L4.sub (by omega) (by omega))⟩, ((y8 j e).trans (congrFun e17.2.2 j)).trans r3, r4.al (L4.sub (by omega) (by omega))⟩) 0 o (Nat.zero_le _) ⟨F0, ⟨v6, v2⟩, ⟨kA, nA⟩, ⟨k2, n2⟩, ⟨by omega, by omega, by rw [s2, s1, Nat.mul_zero]⟩, fun j hj => absurd hj (Nat.not_lt_zero _)⟩
  obtain ⟨z, g0, g1, g2, g3, g4, ⟨g5, g6, g7⟩, g8⟩ := loop
  exact ⟨t, q, u, o, z, a1, c1, a2, c2, g0, g1, ⟨by omega, by omega, g7.trans ((Nat.add_assoc _ _ _).trans (congrArg (fun q => h.1.2.2 + q) (show 12 + 1562 * 6 = 9384 by decide)))⟩, g2, g3, g4, g8⟩
end NWI0
