/-! The class: readers, same, sequential. -/
section XB1
variable {h h' : zM} {x : Nat}
theorem WT.k {w : Nat} {st : zWt} (d : WT h w st) : zK h w = 10 := by
  obtain ⟨b1, b2, w0, -⟩ := d
  exact w0.1.1
theorem XI.mc0 {σ : zTa} (d : XI h x σ) : MC h (x + 2) (σ.1 0) ∧ MaOk (σ.1 0) := d.1.2 0 (by omega)
theorem XI.mc1 {σ : zTa} (d : XI h x σ) : MC h (x + 8) (σ.1 1) ∧ MaOk (σ.1 1) := d.1.2 1 (by omega)
theorem XI.el0 {σ : zTa} (d : XI h x σ) : zaa h (x + 1) (0 : Int32) = some (x + 2) := by
  rw [n0]
  exact d.el (by omega)
theorem XI.el1 {σ : zTa} (d : XI h x σ) : zaa h (x + 1) (1 : Int32) = some (x + 8) := by
  rw [n1]
  exact d.el (by omega)
/-- the witness is told of both machines -/
theorem s_xboth {σ : zTa} (d : XI h x σ) {s : Nat} (hs : s = x + 8087 ∨ s = x + 8089) {us : List Nat} (hw : Wd h s 128 (us.map nI)) (hus : ∀ l ∈ us, l < 4) : ∃ h', zf nX9_tellMachinesApart [.inr (x + 764), .inr (x + 2), .inr (x + 8), .inr s] h = some (0, 0, h') ∧ zGr x (x + 8091) h h' ∧ XI h' x (σ.1, σ.2.1, two2 σ.1 us, σ.2.2.2) := by
  obtain ⟨m1, m2⟩ := d.mc0
  obtain ⟨m3, m4⟩ := d.mc1
  obtain ⟨z3, a1, a2, a3⟩ := s_tellM m1 m2 (by omega) m3 m4 (by omega) d.2.2.2.2.2.1 (by omega) hw hus
  obtain ⟨d1, d2, d3, d4, d5, d6, d7, d8, d9⟩ := d
  exact ⟨z3, a1, a2.wide (by omega) (by omega), d1.eq (by unfold zF; rw [a2.refs (by omega)]) (a2.eq (by omega)), d2.of (a2.refs (by omega)), d3.eq (a2.eq (by omega)), d4.eq (a2.eq (by omega)), d5.eq (a2.eq (by omega)), a3, ⟨(a2.I (by omega) _).trans d7.1, d7.2⟩, d8.eq (a2.I (by omega) _) (a2.I (by omega) _) (a2.eq (by omega)), d9.eq (a2.eq (by omega))⟩
/-- the readings of both -/
theorem s_xread {σ : zTa} (d : XI h x σ) : ∃ h', zf nX5_differ [.inr (x + 759), .inr (x + 2), .inr (x + 8), .inr (x + 8087)] h = some (bI (rdW (σ.1 0) (σ.1 1)).isSome, 0, h') ∧ zGr x (x + 8091) h h' ∧ XI h' x σ ∧ ∀ w, rdW (σ.1 0) (σ.1 1) = some w → Wd h' (x + 8087) 128 (w.map nI) := by
  obtain ⟨m1, m2⟩ := d.mc0
  obtain ⟨m3, m4⟩ := d.mc1
  obtain ⟨w0, hw0⟩ := d.2.2.2.2.2.2.2.2.2.2.1
  rcases s_Rdiffer m1 m2 m3 m4 (by omega) (by omega) d.2.2.2.2.1 (by omega) hw0 with ⟨e1, z, e2, e3, e4⟩ | ⟨w, e1, z1, z2, z, e2, e3, e4, e5, e6, e7⟩
  · rw [e1]
    obtain ⟨d1, d2, d3, d4, d5, d6, d7, d8, d9⟩ := d
    exact ⟨z, e2, e3.gr.wide (by omega) (by omega), ⟨d1.keep e3 (by omega), d2.of (e3.2.2 x).2, d3.eq (e3.eq (by omega)), d4.eq (e3.eq (by omega)), e4, d6.eq (e3.eq (by omega)), ⟨(e3.I (by omega) _).trans d7.1, d7.2⟩, d8.eq (e3.I (by omega) _) (e3.I (by omega) _) (e3.eq (by omega)), d9.eq (e3.eq (by omega))⟩, fun w hw => by cases hw⟩
  · rw [e1]
    have f : ∀ a b, (b ≤ x + 759 ∨ x + 764 ≤ a) → (b ≤ x + 8087 ∨ x + 8089 ≤ a) → zEq a b h z := fun a b q1 q2 => (e3.eq (by omega)).tr ((e4.eq (by omega)).tr (e5.eq (by omega)))
    obtain ⟨d1, d2, d3, d4, d5, d6, d7, d8, d9⟩ := d
    have fx := f x (x + 1) (by omega) (by omega)
    refine ⟨z, e2, (e3.gr.wide (by omega) (by omega)).tr ((e4.gr.wide (by omega) (by omega)).tr (e5.gr.wide (by omega) (by omega))), ⟨d1.eq (fx.F (by omega) (by omega) _) (f _ _ (by omega) (by omega)), d2.of (fx.2 x (by omega) (by omega)).2, d3.eq (f _ _ (by omega) (by omega)), d4.eq (f _ _ (by omega) (by omega)), e6, d6.eq (f _ _ (by omega) (by omega)), ⟨(fx.I (by omega) (by omega) _).trans d7.1, d7.2⟩, d8.eq (fx.I (by omega) (by omega) _) (fx.I (by omega) (by omega) _) (f _ _ (by omega) (by omega)), ?_⟩, fun w' hw => by cases hw; exact e7⟩
    obtain ⟨a, ha⟩ := d9.1
    obtain ⟨c, hc⟩ := d9.2.2.2
    exact ⟨⟨a, ha.eq (f _ _ (by omega) (by omega))⟩, d9.2.1.eq (f _ _ (by omega) (by omega)), ⟨_, e7⟩, c, hc.eq (f _ _ (by omega) (by omega))⟩
/-- the difference of both -/
theorem s_xdiff {σ : zTa} (d : XI h x σ) : ∃ h', zf nX0_differ [.inr (x + 382), .inr (x + 2), .inr (x + 8), .inr (x + 8089)] h = some (bI (difW FT (σ.1 0) (σ.1 1)).isSome, 0, h') ∧ zGr x (x + 8091) h h' ∧ XI h' x σ ∧ (∀ w, difW FT (σ.1 0) (σ.1 1) = some w → Wd h' (x + 8089) 128 (w.map nI)) ∧ zEq (x + 8087) (x + 8089) h h' := by
  obtain ⟨m1, m2⟩ := d.mc0
  obtain ⟨m3, m4⟩ := d.mc1
  obtain ⟨w0, hw0⟩ := d.2.2.2.2.2.2.2.2.2.2.2
  rcases s_Ddiffer m1 m2 m3 m4 (by omega) (by omega) d.2.2.2.1 (by omega) hw0 with ⟨e1, z, e2, e3, e4⟩ | ⟨w, e1, z1, z, e2, e3, e4, e5, e6⟩
  · rw [e1]
    obtain ⟨d1, d2, d3, d4, d5, d6, d7, d8, d9⟩ := d
    exact ⟨z, e2, e3.gr.wide (by omega) (by omega), ⟨d1.keep e3 (by omega), d2.of (e3.2.2 x).2, d3.eq (e3.eq (by omega)), e4, d5.eq (e3.eq (by omega)), d6.eq (e3.eq (by omega)), ⟨(e3.I (by omega) _).trans d7.1, d7.2⟩, d8.eq (e3.I (by omega) _) (e3.I (by omega) _) (e3.eq (by omega)), d9.eq (e3.eq (by omega))⟩, fun w hw => (by cases hw), e3.eq (by omega)⟩
  · rw [e1]
    have f : ∀ a b, (b ≤ x + 382 ∨ x + 759 ≤ a) → (b ≤ x + 8089 ∨ x + 8091 ≤ a) → zEq a b h z := fun a b q1 q2 => (e3.eq (by omega)).tr (e4.eq (by omega))
    obtain ⟨d1, d2, d3, d4, d5, d6, d7, d8, d9⟩ := d
    have fx := f x (x + 1) (by omega) (by omega)
    refine ⟨z, e2, (e3.gr.wide (by omega) (by omega)).tr (e4.gr.wide (by omega) (by omega)), ⟨d1.eq (fx.F (by omega) (by omega) _) (f _ _ (by omega) (by omega)), d2.of (fx.2 x (by omega) (by omega)).2, d3.eq (f _ _ (by omega) (by omega)), e5, d5.eq (f _ _ (by omega) (by omega)), d6.eq (f _ _ (by omega) (by omega)), ⟨(fx.I (by omega) (by omega) _).trans d7.1, d7.2⟩, d8.eq (fx.I (by omega) (by omega) _) (fx.I (by omega) (by omega) _) (f _ _ (by omega) (by omega)), ?_⟩, fun w' hw => (by cases hw; exact e6), f _ _ (by omega) (by omega)⟩
    obtain ⟨a, ha⟩ := d9.1
    obtain ⟨c, hc⟩ := d9.2.2.1
    exact ⟨⟨a, ha.eq (f _ _ (by omega) (by omega))⟩, d9.2.1.eq (f _ _ (by omega) (by omega)), ⟨c, hc.eq (f _ _ (by omega) (by omega))⟩, _, e6⟩
theorem aReaders_n {Ms : Nat → zMa} {w : zWt} (e : rdW (Ms 0) (Ms 1) = none) : aReaders Ms w = (1, w) := congrArg (fun o => rdAn o Ms w) e
theorem aReaders_s {Ms : Nat → zMa} {w : zWt} {us : List Nat} (e : rdW (Ms 0) (Ms 1) = some us) : aReaders Ms w = (0, two2 Ms us) := congrArg (fun o => rdAn o Ms w) e
theorem aSame_a {Ms : Nat → zMa} {w : zWt} (h : (tstF (Ms 0) w).1 = false) : aSame Ms w = (-1, (tstF (Ms 0) w).2) := if_pos h
theorem aSame_b {Ms : Nat → zMa} {w : zWt} (h1 : (tstF (Ms 0) w).1 = true) (h : (tstF (Ms 1) (tstF (Ms 0) w).2).1 = false) : aSame Ms w = (-1, (tstF (Ms 1) (tstF (Ms 0) w).2).2) := (if_neg (by rw [h1]; decide)).trans (if_pos h)
theorem aSame_n {Ms : Nat → zMa} {w : zWt} (h1 : (tstF (Ms 0) w).1 = true) (h2 : (tstF (Ms 1) (tstF (Ms 0) w).2).1 = true) (e : lesW (rdW (Ms 0) (Ms 1)) (difW FT (Ms 0) (Ms 1)) = none) : aSame Ms w = (1, (tstF (Ms 1) (tstF (Ms 0) w).2).2) := by
  refine (if_neg (by rw [h1]; decide)).trans ((if_neg (by rw [h2]; decide)).trans ?_)
  exact congrArg (fun o => rdAn o Ms (tstF (Ms 1) (tstF (Ms 0) w).2).2) e
theorem aSame_s {Ms : Nat → zMa} {w : zWt} {us : List Nat} (h1 : (tstF (Ms 0) w).1 = true) (h2 : (tstF (Ms 1) (tstF (Ms 0) w).2).1 = true) (e : lesW (rdW (Ms 0) (Ms 1)) (difW FT (Ms 0) (Ms 1)) = some us) : aSame Ms w = (0, two2 Ms us) := by
  refine (if_neg (by rw [h1]; decide)).trans ((if_neg (by rw [h2]; decide)).trans ?_)
  exact congrArg (fun o => rdAn o Ms (tstF (Ms 1) (tstF (Ms 0) w).2).2) e
theorem s_xreaders {σ : zTa} (d : XI h x σ) : ∃ h', zf nX11_readers [.inr x] h = some ((aReaders σ.1 σ.2.2.1).1, 0, h') ∧ zGr x (x + 8091) h h' ∧ XI h' x (σ.1, σ.2.1, (aReaders σ.1 σ.2.2.1).2, σ.2.2.2) := by
  rw [e_X11_readers]
  simp only [d.g3, d.g0, d.el0, d.el1, d.g10, Option.bind_some]
  obtain ⟨z, a1, a2, a3, a4⟩ := s_xread d
  rw [zif_ok d.2.2.2.2.1.1.1, a1, Option.bind_some]
  dsimp only
  cases e : rdW (σ.1 0) (σ.1 1) with
  | none =>
    rw [if_pos (show bI (none : Option (List Nat)).isSome = 0 from rfl), aReaders_n e]
    exact ⟨z, rfl, a2, a3⟩
  | some w =>
    have hl := rdW_len (d.mc (t := 0) (by omega)).2 (d.mc (t := 1) (by omega)).2 e
    rw [if_neg (show ¬ bI (some w).isSome = 0 from (by decide : ¬ bI true = 0)), aReaders_s e]
    simp only [a3.g4, a3.g0, a3.el0, a3.el1, a3.g10, Option.bind_some]
    obtain ⟨z2, b1, b2, b3⟩ := s_xboth a3 (Or.inl rfl) (a4 w e) (fun l hl' => by have := hl.2 l hl'; omega)
    rw [zif_ok a3.2.2.2.2.2.1.k, b1, Option.bind_some]
    exact ⟨z2, rfl, a2.tr b2, b3⟩
theorem s_xsame {σ : zTa} (d : XI h x σ) : ∃ h', zf nX11_same [.inr x] h = some ((aSame σ.1 σ.2.2.1).1, 0, h') ∧ zGr x (x + 8091) h h' ∧ XI h' x (σ.1, σ.2.1, (aSame σ.1 σ.2.2.1).2, σ.2.2.2) := by
  rw [e_X11_same]
  simp only [d.g0, d.el0, Option.bind_some]
  obtain ⟨z1, a1, a2, a3⟩ := s_xtest d (t := 0) (A := x + 2) (by omega) rfl
  rw [zif_ok d.k, a1, Option.bind_some]
  dsimp only
  cases e1 : (tstF (σ.1 0) σ.2.2.1).1 with
  | false =>
    rw [if_pos (show bI false = 0 from rfl), aSame_a e1]
    dsimp only
    exact ⟨z1, rfl, a2, a3⟩
  | true =>
    rw [if_neg (show ¬ bI true = 0 by decide)]
    simp only [a3.g0, a3.el1, Option.bind_some]
    obtain ⟨z2, b1, b2, b3⟩ := s_xtest a3 (t := 1) (A := x + 8) (by omega) rfl
    dsimp only at b1 b3
    rw [zif_ok a3.k, b1, Option.bind_some]
    dsimp only
    cases e2 : (tstF (σ.1 1) (tstF (σ.1 0) σ.2.2.1).2).1 with
    | false =>
      rw [if_pos (show bI false = 0 from rfl), aSame_b e1 e2]
      dsimp only
      exact ⟨z2, rfl, a2.tr b2, b3⟩
    | true =>
      rw [if_neg (show ¬ bI true = 0 by decide)]
      generalize hW : (tstF (σ.1 1) (tstF (σ.1 0) σ.2.2.1).2).2 = W2 at b3
      simp only [b3.g3, b3.g0, b3.el0, b3.el1, b3.g10, Option.bind_some]
      obtain ⟨z3, c1, c2, c3, c4⟩ := s_xread b3
      dsimp only at c1 c4
      have lr := fun w => rdW_len (M := σ.1 0) (N := σ.1 1) (w := w) b3.mc0.2 b3.mc1.2
      have ld := fun w => difW_len (F := FT) (M := σ.1 0) (N := σ.1 1) (w := w) b3.mc0.2 b3.mc1.2
      generalize hR : rdW (σ.1 0) (σ.1 1) = R at c1 c4 lr
      rw [zif_ok b3.2.2.2.2.1.1.1, c1, Option.bind_some]
      dsimp only
      simp only [c3.g2, c3.g0, c3.el0, c3.el1, c3.g11, Option.bind_some]
      refine Exists.elim (s_xdiff c3) fun z4 hdd => ?_
      have f1 := hdd.1
      have f2 := hdd.2.1
      have f3 := hdd.2.2.1
      have f4 := hdd.2.2.2.1
      have f5 := hdd.2.2.2.2
      clear hdd
      dsimp only at f1 f4
      generalize hD : difW FT (σ.1 0) (σ.1 1) = D at f1 f4 ld
      rw [zif_ok c3.2.2.2.1.1.1.1, f1, Option.bind_some]
      dsimp only
      have gr := a2.tr (b2.tr (c2.tr f2))
      have wk := f3.2.2.2.2.2.1.k
      have fa : ∀ us, Wd z4 (x + 8087) 128 (us.map nI) → (∀ l ∈ us, 1 ≤ l ∧ l ≤ 3) → ∃ h', (zif (zK z4 (x + 764) = 10) ((zf nX9_tellMachinesApart [.inr (x + 764), .inr (x + 2), .inr (x + 8), .inr (x + 8087)] z4).bind fun u5 => some ((0 : Int32), 0, u5.2.2))) = some (0, 0, h') ∧ zGr x (x + 8091) h h' ∧ XI h' x (σ.1, σ.2.1, two2 σ.1 us, σ.2.2.2) := fun us hw hus => by
        obtain ⟨z5, p1, p2, p3⟩ := s_xboth f3 (Or.inl rfl) hw (fun l hl' => by have := hus l hl'; omega)
        rw [zif_ok wk, p1, Option.bind_some]
        exact ⟨z5, rfl, gr.tr p2, p3⟩
      have fb : ∀ us, Wd z4 (x + 8089) 128 (us.map nI) → (∀ l ∈ us, 1 ≤ l ∧ l ≤ 3) → ∃ h', (zif (zK z4 (x + 764) = 10) ((zf nX9_tellMachinesApart [.inr (x + 764), .inr (x + 2), .inr (x + 8), .inr (x + 8089)] z4).bind fun u5 => some ((0 : Int32), 0, u5.2.2))) = some (0, 0, h') ∧ zGr x (x + 8091) h h' ∧ XI h' x (σ.1, σ.2.1, two2 σ.1 us, σ.2.2.2) := fun us hw hus => by
        obtain ⟨z5, p1, p2, p3⟩ := s_xboth f3 (Or.inr rfl) hw (fun l hl' => by have := hus l hl'; omega)
        rw [zif_ok wk, p1, Option.bind_some]
        exact ⟨z5, rfl, gr.tr p2, p3⟩
      have i10' : ((1 : Int32) = 0) = False := eq_false (by decide)
      cases er : R with
      | none =>
        rw [if_pos (show bI (none : Option (List Nat)).isSome = 0 from rfl)]
        cases ed : D with
        | none =>
          rw [if_pos (show bI (none : Option (List Nat)).isSome = 0 from rfl), aSame_n e1 e2 (by rw [hR, hD, er, ed]; rfl), hW]
          exact ⟨z4, rfl, gr, f3⟩
        | some w =>
          rw [if_neg (show ¬ bI (some w).isSome = 0 from (by decide : ¬ bI true = 0)), if_pos (show bI (none : Option (List Nat)).isSome = 0 from rfl), aSame_s e1 e2 (us := w) (by rw [hR, hD, er, ed]; rfl)]
          simp only [f3.g4, f3.g0, f3.el0, f3.el1, f3.g11, Option.bind_some, if_true]
          exact fb w (f4 w ed) (ld w ed).2
      | some v =>
        have wv := (c4 v er).eq f5
        rw [if_neg (show ¬ bI (some v).isSome = 0 from (by decide : ¬ bI true = 0)), if_neg (show ¬ bI (some v).isSome = 0 from (by decide : ¬ bI true = 0))]
        cases ed : D with
        | none =>
          rw [if_pos (show bI (none : Option (List Nat)).isSome = 0 from rfl), aSame_s e1 e2 (us := v) (by rw [hR, hD, er, ed]; rfl)]
          simp only [f3.g4, f3.g0, f3.el0, f3.el1, f3.g10, Option.bind_some, i10', if_false]
          exact fa v wv (lr v er).2
        | some w =>
          have ww := f4 w ed
          rw [if_neg (show ¬ bI (some w).isSome = 0 from (by decide : ¬ bI true = 0))]
          simp only [f3.g10, f3.g11, Option.bind_some, zif_ok wv.1, s_compareWith wv ww]
          by_cases c : wcmp (v.map nI) (w.map nI) < 0
          · rw [if_pos c, aSame_s e1 e2 (us := v) (by rw [hR, hD, er, ed]; exact if_pos c)]
            simp only [f3.g4, f3.g0, f3.el0, f3.el1, f3.g10, Option.bind_some, i10', if_false]
            exact fa v wv (lr v er).2
          · rw [if_neg c, aSame_s e1 e2 (us := w) (by rw [hR, hD, er, ed]; exact if_neg c)]
            simp only [f3.g4, f3.g0, f3.el0, f3.el1, f3.g11, Option.bind_some, if_true]
            exact fb w ww (ld w ed).2
end XB1
