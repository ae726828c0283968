/-! The class Difference: begin, shows, spell, differ. -/
theorem rng_s (n : Nat) (p : Nat → Bool) : (List.range (n + 1)).filter p = (List.range n).filter p ++ if p n then [n] else [] := by
  rw [List.range_succ, List.filter_append]
  congr 1
  by_cases h : p n = true <;> simp [h]
def iniR (N : zMa) (p q : Nat) : List zCf := ((List.range q).filter fun q => N.2.1.testBit q).map fun q => ((p, q), [], [])
def iniT (M N : zMa) (p : Nat) : List zCf := ((List.range p).filter fun q => M.2.1.testBit q).flatMap fun p => iniR N p N.1
theorem iniT_all (M N : zMa) : iniT M N M.1 = iniC M N := rfl
theorem iniT_s (M N : zMa) (p : Nat) : iniT M N (p + 1) = iniT M N p ++ if M.2.1.testBit p then iniR N p N.1 else [] := by
  unfold iniT
  rw [rng_s, List.flatMap_append]
  congr 1
  by_cases h : M.2.1.testBit p = true <;> simp [h]
theorem iniR_s (N : zMa) (p q : Nat) : iniR N p (q + 1) = iniR N p q ++ if N.2.1.testBit q then [((p, q), [], [])] else [] := by
  unfold iniR
  rw [rng_s, List.map_append]
  congr 1
  by_cases h : N.2.1.testBit q = true <;> simp [h]
theorem dj_in {A d : Nat} (k : Nat) (hA : A + 6 ≤ d ∨ d + 377 ≤ A) (hk : k + 2 ≤ 377) : A + 6 ≤ d + k ∨ d + k + 2 ≤ A := by omega
theorem s_Dbegin {h : zM} {d A B : Nat} {M N : zMa} (mM : MC h A M) (kM : MaOk M) (mN : MC h B N) (kN : MaOk N) (hA : A + 6 ≤ d ∨ d + 377 ≤ A) (hB : B + 6 ≤ d ∨ d + 377 ≤ B) (S : DS h d) :
    ∃ h', zf nX0_begin [.inr d, .inr A, .inr B] h = some (0, 0, h') ∧ DD M N h h' d (iniG FT M N) := by
  have k6M := kM.1
  have k6N := kN.1
  have X := S.1
  rw [e_X0_begin, zpI_ok X.1.1, Option.bind_some, zpI_ok (show zK (zsI h d 1 0) d = 0 + 1 from X.1.1), Option.bind_some]
  have f1 : zFr d (d + 1) h (zsI (zsI h d 1 0) d 8 0) := (zFr_sI (by omega) (by omega)).tr (zFr_sI (by omega) (by omega))
  have e11 : zI (zsI (zsI h d 1 0) d 8 0) d 1 = 0 := by rw [zI_sI_k (by decide), zI_sI]
  have e18 : zI (zsI (zsI h d 1 0) d 8 0) d 8 = 0 := zI_sI
  generalize hh1 : zsI (zsI h d 1 0) d 8 0 = h1 at *
  have X1 := X.keep f1
  rw [X1.g3, Option.bind_some]
  obtain ⟨h2, g1, g2, g3⟩ := s_fill (X1.k6 (Or.inr rfl)).1 (X1.k6 (Or.inr rfl)).2 (by decide) (0 : Int32)
  rw [g1, Option.bind_some]
  have f2 : zFr d (d + 377) h h2 := (f1.wide (by omega) (by omega)).tr (g2.wide (by omega) (by omega))
  have S2 : DS h2 d := S.out f2 ((f1.eq (by omega)).tr (g2.eq (by omega))) ((f1.eq (by omega)).tr (g2.eq (by omega)))
  have k2 : DK h2 d [] := ⟨by rw [g2.I (by omega), e11]; rfl, fun i hi => absurd hi (Nat.not_lt_zero _), fun p q hp hq => by rw [g3 _ (by omega)]; rfl, fun p q _ _ hpos => absurd hpos (by unfold cntK; simp)⟩
  have G2 : DG h2 d [] := ⟨by rw [g2.I (by omega), e18]; rfl, fun g hg => absurd hg (Nat.not_lt_zero _)⟩
  have mM2 := mM.keep f2 (by omega)
  have mN2 := mN.keep f2 (by omega)
  have t0 : two [] := fun pq => by simp
  have main := zlp (P := fun p z => DI M N h2 z d ((iniT M N p).foldl (addC FT) [])) (g := fun p z => zm_X0_begin 20 [some (.inr d), some (.inr A), some (.inr B), some (.inl (nI p)), none] [] z) (n := M.1) ?_ 0 h2 (Nat.zero_le _) ⟨zFr.rf, zEq.rf, rfl, S2, k2, kOk_nil, t0⟩
  · obtain ⟨z, e1, e2⟩ := main
    have l72 := e2.l72 kM kN
    obtain ⟨fz, ez, e8, Sz, kz, okz, tz⟩ := e2
    have mMz := mM2.keep fz (by omega)
    dsimp only
    rw [n0]
    rw [e1, e_X0_begin_20, mMz.n, Option.bind_some, if_neg (by rw [nI_ltI (by omega) (by omega)]; omega), zif_ok Sz.1.1.1]
    have hini : (iniT M N M.1).foldl (addC FT) [] = iniK FT M N := rfl
    rw [hini] at kz okz tz l72
    have Gz := G2.eq e8 (ez.sub (by omega) (by omega))
    obtain ⟨h', r1, r2, r3, r4, r5⟩ := s_Dclose (vb := -1) (vl := -1) (w := []) (new := iniK FT M N) Sz kz Gz rfl l72 (Nat.zero_le _) (Or.inl ⟨rfl, rfl⟩)
    have r1 : zf nX0_closeGroup [.inr d, .inl 0, .inl (-1), .inl (-1)] z = some (0, 0, h') := r1
    rw [r1, Option.bind_some]
    have eg : (if (iniK FT M N).length = (allK []).length then [] else [] ++ [(iniK FT M N, [])]) = iniG FT M N := rfl
    rw [eg] at r5
    have ea := allK_ini FT M N
    exact ⟨h', rfl, f2.tr (fz.tr r2), r3, by rw [ea]; exact r4, r5, by rw [ea]; exact okz, by rw [ea]; exact tz, iniG_len, seqG_ne (F := FT) (M := M) (N := N) 0⟩
  · intro p z hp hP
    have mMz := mM2.keep hP.1 (by omega)
    rw [e_X0_begin_20, mMz.n, Option.bind_some, if_pos ((nI_ltI (by omega) (by omega)).mpr hp)]
    have inner := zlp (P := fun q y => DI M N h2 y d ((iniT M N p ++ if M.2.1.testBit p then iniR N p q else []).foldl (addC FT) [])) (g := fun q y => zm_X0_begin 31 [some (.inr d), some (.inr A), some (.inr B), some (.inl (nI p)), some (.inl (nI q))] [] y) (n := N.1) ?_ 0 z (Nat.zero_le _) (by
      have : (if M.2.1.testBit p = true then iniR N p 0 else []) = [] := by split <;> rfl
      rw [this, List.append_nil]
      exact hP)
    · obtain ⟨y, i1, i2⟩ := inner
      rw [← iniT_s] at i2
      refine ⟨y, ?_, i2⟩
      have mNy := mN2.keep i2.1 (by omega)
      rw [n0, i1, e_X0_begin_31, mNy.n, Option.bind_some, if_neg (by rw [nI_ltI (by omega) (by omega)]; omega), nI_1]
    · intro q y hq hQ
      have l72 := hQ.l72 kM kN
      obtain ⟨fy, ey, e8, Sy, ky, oky, ty⟩ := id hQ
      have mMy := mM2.keep fy (by omega)
      have mNy := mN2.keep fy (by omega)
      have Xy := Sy.1
      rw [e_X0_begin_31, mNy.n, Option.bind_some, if_pos ((nI_ltI (by omega) (by omega)).mpr hq)]
      simp only [mMy.beg, mNy.beg, s_holds kM.beg64 (show p < 6 by omega), s_holds kN.beg64 (show q < 6 by omega), Option.bind_some, nI_1]
      by_cases b1 : M.2.1.testBit p = true
      · simp only [b1, if_true] at hQ ky oky ty l72 ⊢
        rw [if_neg (by decide)]
        rw [iniR_s]
        by_cases b2 : N.2.1.testBit q = true
        · simp only [b2, if_true] at hQ ⊢
          rw [if_neg (by decide), ← List.append_assoc, List.foldl_append]
          generalize hK : (iniT M N p ++ iniR N p q).foldl (addC FT) [] = K at *
          by_cases c3 : K.length < 73
          · obtain ⟨c0, hc0⟩ := Sy.2.1 K.length c3
            rw [Xy.g0, Option.bind_some, zgI_ok Xy.1.1, ky.1, Option.bind_some, Xy.p c3, Option.bind_some, zif_ok hc0.1.1]
            obtain ⟨y1, u1, u2, u3⟩ := s_Pbegin hc0 p q
            have S1 := Sy.pair c3 u2 u3
            have k1 := ky.pair u2 l72
            obtain ⟨y2, r1, r2, r3, r4, r5, r6⟩ := s_Dkeep S1 k1 ty l72 u3 ⟨by dsimp only; omega, by dsimp only; omega⟩
            rw [u1, Option.bind_some]
            dsimp only
            rw [zif_ok S1.1.1.1, r1, Option.bind_some]
            refine ⟨y2, rfl, fy.tr ((u2.wide (by omega) (by omega)).tr r2), ey.tr ((u2.eq (by omega)).tr r3), by rw [r4, u2.I (by omega), e8], r5, r6, addC_ok oky ⟨hp, hq, rfl⟩, addC_two ty⟩
          · omega
        · have b2' : N.2.1.testBit q = false := by simpa using b2
          simp only [b2', if_false] at hQ ⊢
          rw [if_pos (by decide)]
          rw [if_neg (by decide), List.append_nil]
          exact ⟨y, rfl, hQ⟩
      · have b1' : M.2.1.testBit p = false := by simpa using b1
        simp only [b1'] at hQ ⊢
        rw [if_pos (by decide), if_neg (by decide)]
        rw [if_neg (by decide)] at hQ
        exact ⟨y, rfl, hQ⟩
theorem endC_eq {M N : zMa} {c : zCf} {e f : Nat} (he : M.2.2.1 c.1.1 = some e) (hf : N.2.2.1 c.1.2 = some f) : endC M N c = decide (c.2.1 ++ dgs e ≠ c.2.2 ++ dgs f) := by unfold endC; rw [he, hf]
theorem s_Dshows {h0 h : zM} {d A B g : Nat} {M N : zMa} {Gs : List zGp} (mM : MC h0 A M) (kM : MaOk M) (mN : MC h0 B N) (kN : MaOk N) (hA : A + 6 ≤ d ∨ d + 377 ≤ A) (hB : B + 6 ≤ d ∨ d + 377 ≤ B) (x : DD M N h0 h d Gs) (hg : g < Gs.length) :
    ∃ h', zf nX0_shows [.inr d, .inr A, .inr B, .inl (nI g)] h = some (if shwG M N (gAt Gs g) then 1 else 0, 0, h') ∧ DD M N h0 h' d Gs := by
  obtain ⟨f, S, k, G, ok, t2, gl, ne⟩ := id x
  have l72 := x.l72 kM kN
  have k6M := kM.1
  have k6N := kN.1
  have X := S.1
  obtain ⟨ga, gb, gc⟩ := G.2 g hg
  have hoff := off_s hg
  have hoffle := off_le (Gs := Gs) (g := g + 1) (by omega)
  have hA1 := dj_in 373 hA (by decide)
  have hB1 := dj_in 373 hB (by decide)
  have hB2 := dj_in 375 hB (by decide)
  rw [e_X0_shows, X.g4, Option.bind_some, X.r (Or.inl rfl) (by omega), ga, Option.bind_some]
  refine zlq (P := fun j z => DD M N h0 z d Gs ∧ ∀ i, i < j → endC M N (kAt (gAt Gs g).1 i) = false) (g := fun j z => zm_X0_shows 8 [some (.inr d), some (.inr A), some (.inr B), some (.inl (nI g)), some (.inl (nI (off Gs g + j))), none] [] z) (n := (gAt Gs g).1.length)
    (Q := fun y => ∃ h', y = some (if shwG M N (gAt Gs g) then 1 else 0, 0, h') ∧ DD M N h0 h' d Gs) ?_ ?_ 0 h (Nat.zero_le _) ⟨x, fun i hi => absurd hi (Nat.not_lt_zero _)⟩
  · rintro j z hj ⟨hx, hn⟩
    obtain ⟨fz, Sz, kz, Gz, _⟩ := id hx
    have Xz := Sz.1
    have mMz := mM.keep fz (by omega)
    have mNz := mN.keep fz (by omega)
    have hij : off Gs g + j < (allK Gs).length := by omega
    have pi := kz.2.1 _ hij
    have hc6 := ok.1 _ (kAt_mem hij)
    rw [kAt_off hg hj] at pi hc6
    obtain ⟨_, gbz, _⟩ := Gz.2 g hg
    have next : endC M N (kAt (gAt Gs g).1 j) = false → ∀ i, i < j + 1 → endC M N (kAt (gAt Gs g).1 i) = false := fun hne i hi => by
      by_cases e : i = j
      · subst e; exact hne
      · exact hn i (by omega)
    have goon : endC M N (kAt (gAt Gs g).1 j) = false → ∀ z', DD M N h0 z' d Gs → ∃ h', zm_X0_shows 8 [some (.inr d), some (.inr A), some (.inr B), some (.inl (nI g)), some (.inl (nI (off Gs g + j) + (1 : Int32))), none] [] z' = zm_X0_shows 8 [some (.inr d), some (.inr A), some (.inr B), some (.inl (nI g)), some (.inl (nI (off Gs g + (j + 1)))), none] [] h' ∧ DD M N h0 h' d Gs ∧ ∀ i, i < j + 1 → endC M N (kAt (gAt Gs g).1 i) = false := fun hne z' hz' => ⟨z', by rw [nI_1, Nat.add_assoc], hz', next hne⟩
    rw [e_X0_shows_8, Xz.g5, Option.bind_some, Xz.r (Or.inr (Or.inl rfl)) (by omega), gbz, Option.bind_some, if_pos ((nI_ltI (by omega) (by omega)).mpr (by omega))]
    simp only [Xz.g0, Xz.p (show off Gs g + j < 73 by omega), pi.i0, pi.i1, Option.bind_some, zif_ok mMz.1.1, zif_ok mNz.1.1, s_hasEnd mMz kM (show (kAt (gAt Gs g).1 j).1.1 < 6 by omega), s_hasEnd mNz kN (show (kAt (gAt Gs g).1 j).1.2 < 6 by omega)]
    cases hE : M.2.2.1 (kAt (gAt Gs g).1 j).1.1 with
    | none =>
      right
      simp only [Option.isSome_none, Bool.false_eq_true, if_false, if_true]
      exact goon (by unfold endC; rw [hE]) z hx
    | some e =>
      simp only [Option.isSome_some, if_true]
      rw [if_neg (by decide)]
      cases hF : N.2.2.1 (kAt (gAt Gs g).1 j).1.2 with
      | none =>
        right
        simp only [Option.isSome_none, Bool.false_eq_true, if_false, if_true]
        exact goon (by unfold endC; rw [hE, hF]) z hx
      | some e' =>
        simp only [Option.isSome_some, if_true]
        rw [if_neg (by decide)]
        have we := (kM.2.2.1 _ e hE).2
        have wf := (kN.2.2.1 _ e' hF).2
        have le1 := we.lt
        have lf1 := wf.lt
        have le3 := we.len
        have lf3 := wf.len
        obtain ⟨wl, hwl⟩ := Sz.2.2.1
        obtain ⟨wr, hwr⟩ := Sz.2.2.2
        obtain ⟨z1, a1, a2, a3⟩ := s_become hwl pi.wl (by omega)
        rw [List.take_of_length_le (by have := pi.wl.small; omega)] at a3
        have X1 := Xz.keep a2
        have p1 := pi.keep a2 (by omega)
        have m1 := mMz.keep a2 hA1
        obtain ⟨z2, b1, b2, b3⟩ := s_addNumber a3 (nI e)
        rw [dn_nI (by omega), List.take_of_length_le (by rw [List.length_append]; have := pi.wl.small; omega)] at b3
        have X2 := X1.keep b2
        have p2 := p1.keep b2 (by omega)
        have hwr2 := (hwr.keep a2 (by omega)).keep b2 (by omega)
        obtain ⟨z3, c1, c2, c3⟩ := s_become hwr2 p2.wr (by omega)
        rw [List.take_of_length_le (by have := p2.wr.small; omega)] at c3
        have X3 := X2.keep c2
        have p3 := p2.keep c2 (by omega)
        have m3 := ((mNz.keep a2 hB1).keep b2 hB1).keep c2 hB2
        obtain ⟨z4, d1, d2, d3⟩ := s_addNumber c3 (nI e')
        rw [dn_nI (by omega), List.take_of_length_le (by rw [List.length_append]; have := p2.wr.small; omega)] at d3
        have X4 := X3.keep d2
        have b4 := (b3.keep c2 (by omega)).keep d2 (by omega)
        have hend1 := m1.rend (q := (kAt (gAt Gs g).1 j).1.1) (by omega)
        rw [hE] at hend1
        have hend3 := m3.rend (q := (kAt (gAt Gs g).1 j).1.2) (by omega)
        rw [hF] at hend3
        have hend1 : zia z1 (A + 1) (nI (kAt (gAt Gs g).1 j).1.1) = some (nI e) := hend1
        have hend3 : zia z3 (B + 1) (nI (kAt (gAt Gs g).1 j).1.2) = some (nI e') := hend3
        simp only [Xz.g9, pi.f2, Option.bind_some, zif_ok hwl.1]
        rw [a1]
        simp only [X1.g9, m1.f3, p1.i0, hend1, Option.bind_some, zif_ok a3.1]
        rw [b1]
        simp only [X2.g10, p2.f3, Option.bind_some, zif_ok hwr2.1]
        rw [c1]
        simp only [X3.g10, m3.f3, p3.i1, hend3, Option.bind_some, zif_ok c3.1]
        rw [d1]
        simp only [X4.g9, X4.g10, Option.bind_some, zif_ok b4.1]
        rw [s_isAlike b4 d3, Option.bind_some]
        have ff : zFr (d + 373) (d + 377) z z4 := (a2.wide (by omega) (by omega)).tr ((b2.wide (by omega) (by omega)).tr ((c2.wide (by omega) (by omega)).tr (d2.wide (by omega) (by omega))))
        have hD : DD M N h0 z4 d Gs := ⟨fz.tr (ff.wide (by omega) (by omega)), ⟨X4, fun i hi => by
            obtain ⟨c, hc⟩ := Sz.2.1 i hi
            exact ⟨c, hc.keep ff (by omega)⟩, ⟨_, b4⟩, ⟨_, d3⟩⟩, kz.eq (by omega) (ff.I (by omega) _) (ff.eq (by omega)), Gz.eq (ff.I (by omega) _) (ff.eq (by omega)), ok, t2, gl, ne⟩
        have eC := endC_eq hE hF
        by_cases q : (kAt (gAt Gs g).1 j).2.1 ++ dgs e = (kAt (gAt Gs g).1 j).2.2 ++ dgs e'
        · right
          rw [if_pos q]
          dsimp only
          rw [if_neg (by decide)]
          exact goon (by rw [eC]; exact decide_eq_false (fun z => z q)) z4 hD
        · left
          rw [if_neg q]
          dsimp only
          rw [if_pos rfl, zb1]
          have : shwG M N (gAt Gs g) = true := by
            unfold shwG
            rw [List.any_eq_true]
            exact ⟨_, kAt_mem hj, by rw [eC]; exact decide_eq_true q⟩
          rw [this]
          exact ⟨z4, rfl, hD⟩
  · rintro z ⟨hx, hn⟩
    obtain ⟨fz, Sz, kz, Gz, _⟩ := id hx
    have Xz := Sz.1
    obtain ⟨_, gbz, _⟩ := Gz.2 g hg
    have : shwG M N (gAt Gs g) = false := by
      unfold shwG
      rw [List.any_eq_false]
      intro c hc
      obtain ⟨i, hi, e⟩ := List.mem_iff_getElem.mp hc
      have := hn i hi
      have e2 := kAt_get hi
      rw [List.getElem?_eq_getElem hi, e] at e2
      rw [← Option.some.inj e2] at this
      rw [this]
      decide
    rw [e_X0_shows_8, Xz.g5, Option.bind_some, Xz.r (Or.inr (Or.inl rfl)) (by omega), gbz, Option.bind_some, if_neg (by rw [nI_ltI (by omega) (by omega)]; omega), zb0, this]
    exact ⟨z, rfl, hx⟩
theorem s_Dspell_loop {d s : Nat} {Gs : List zGp} (hGl : Gs.length ≤ 72) (gl : gLen Gs) (ga : Int32) : ∀ (n g k : Nat) (h : zM) (w : zWo), g ≤ n → g < Gs.length → DX h d → DG h d Gs → (s + 2 ≤ d ∨ d + 377 ≤ s) → Wd h s 128 w → k + g ≤ 72 → w.length + (gAt Gs g).2.length ≤ 128 →
    ∃ h', zm_X0_spell 9 [some (.inr d), some (.inl ga), some (.inr s), some (.inl (nI g)), some (.inl (nI k))] [] h = some (0, 0, h') ∧ zFr s (s + 2) h h' ∧ Wd h' s 128 (w ++ ((gAt Gs g).2.map nI).reverse).reverse
  | 0, g, k, h, w, hn, hg, X, G, hd, hw, hk, hl => by
    have : g = 0 := by omega
    subst this
    obtain ⟨_, _, gc⟩ := G.2 0 hg
    have e0 : (gAt Gs 0).2 = [] := by
      rcases gc with ⟨_, z⟩ | ⟨b, l, z, _⟩
      · exact z
      · omega
    obtain ⟨h', a1, a2, a3⟩ := s_reverse hw
    rw [e_X0_spell_9, if_neg (by rw [n72, nI_ltI (by omega) (by omega)]; omega), if_neg (by decide), zif_ok hw.1, a1, Option.bind_some, e0]
    exact ⟨h', rfl, a2, by simpa using a3⟩
  | n + 1, g, k, h, w, hn, hg, X, G, hd, hw, hk, hl => by
    obtain ⟨_, _, gc⟩ := G.2 g hg
    rcases gc with ⟨g0, z⟩ | ⟨b, l, b1, b2, b3, b4⟩
    · subst g0
      exact s_Dspell_loop hGl gl ga 0 0 k h w (Nat.le_refl _) hg X G hd hw hk hl
    · obtain ⟨h1, a1, a2, a3⟩ := s_add hw (nI l)
      rw [b4, List.length_append] at hl
      have hl : w.length + ((gAt Gs b).2.length + 1) ≤ 128 := hl
      rw [List.take_of_length_le (by rw [List.length_append]; show w.length + 1 ≤ 128; omega)] at a3
      have X1 := X.keep a2
      have G1 := G.eq (a2.I (by omega) _) (a2.eq (by omega))
      rw [e_X0_spell_9, if_neg (by rw [n72, nI_ltI (by omega) (by omega)]; omega), if_pos (by rw [n0, nI_ltI (by omega) (by omega)]; omega), X.g7, Option.bind_some, X.r (Or.inr (Or.inr (Or.inr rfl))) (by omega), b3, Option.bind_some, zif_ok hw.1, a1, Option.bind_some]
      dsimp only
      rw [X1.g6, Option.bind_some, X1.r (Or.inr (Or.inr (Or.inl rfl))) (by omega), a2.I (by omega), b2, Option.bind_some, nI_1]
      obtain ⟨h2, c1, c2, c3⟩ := s_Dspell_loop hGl gl ga n b (k + 1) h1 (w ++ [nI l]) (by omega) (by omega) X1 G1 hd a3 (by omega) (by rw [List.length_append]; show w.length + 1 + _ ≤ 128; omega)
      refine ⟨h2, c1, a2.tr c2, ?_⟩
      rw [b4, List.map_append, List.reverse_append]
      simpa using c3
theorem s_Dspell {h : zM} {d s g : Nat} {Gs : List zGp} (hGl : Gs.length ≤ 72) (gl : gLen Gs) (hg : g < Gs.length) (X : DX h d) (G : DG h d Gs) (hd : s + 2 ≤ d ∨ d + 377 ≤ s) {w : zWo} (hw : Wd h s 128 w) :
    ∃ h', zf nX0_spell [.inr d, .inl (nI g), .inr s] h = some (0, 0, h') ∧ zFr s (s + 2) h h' ∧ Wd h' s 128 ((gAt Gs g).2.map nI) := by
  obtain ⟨h1, a1, a2, a3⟩ := s_clear hw
  obtain ⟨w1, _, _⟩ := gl g _ (gAt_get hg)
  obtain ⟨h2, c1, c2, c3⟩ := s_Dspell_loop hGl gl (nI g) g g 0 h1 [] (Nat.le_refl _) hg (X.keep a2) (G.eq (a2.I (by omega) _) (a2.eq (by omega))) hd a3 (by omega) (by simp; omega)
  refine ⟨h2, ?_, a2.tr c2, by simpa using c3⟩
  rw [e_X0_spell, zif_ok hw.1, a1, Option.bind_some]
  exact c1
/-- what differ answers and does -/
def DfQ (M N : zMa) (h : zM) (d s : Nat) (x : Option zR) : Prop := (difW FT M N = none ∧ ∃ h', x = some (0, 0, h') ∧ zFr d (d + 377) h h' ∧ DS h' d) ∨ ∃ w, difW FT M N = some w ∧ ∃ h1 h', x = some (1, 0, h') ∧ zFr d (d + 377) h h1 ∧ zFr s (s + 2) h1 h' ∧ DS h' d ∧ Wd h' s 128 (w.map nI)
theorem s_Ddiffer {h : zM} {d s A B : Nat} {M N : zMa} (mM : MC h A M) (kM : MaOk M) (mN : MC h B N) (kN : MaOk N) (hA : A + 6 ≤ d ∨ d + 377 ≤ A) (hB : B + 6 ≤ d ∨ d + 377 ≤ B) (S : DS h d) (hd : s + 2 ≤ d ∨ d + 377 ≤ s) {w0 : zWo} (hw : Wd h s 128 w0) : DfQ M N h d s (zf nX0_differ [.inr d, .inr A, .inr B, .inr s] h) := by
  rw [e_X0_differ, zif_ok S.1.1.1]
  obtain ⟨h1, a1, a2⟩ := s_Dbegin mM kM mN kN hA hB S
  rw [a1, Option.bind_some]
  refine zlq (P := fun i z => DD M N h z d (seqG FT M N i) ∧ ∀ j, j < i → ∀ g, (seqG FT M N i)[j]? = some g → shwG M N g = false) (g := fun i z => zm_X0_differ 9 [some (.inr d), some (.inr A), some (.inr B), some (.inr s), some (.inl (nI i)), none] [] z) (n := 73) (Q := DfQ M N h d s) ?_ ?_ 0 h1 (Nat.zero_le _) ⟨a2, fun j hj => absurd hj (Nat.not_lt_zero _)⟩
  · rintro i z hi ⟨hx, hn⟩
    have l72 := hx.l72 kM kN
    obtain ⟨fz, Sz, kz, Gz, ok, t2, gl, ne⟩ := id hx
    have hpre := stepG_pre FT M N
    rw [e_X0_differ_9, zgI_ok Sz.1.1.1, Gz.1, Option.bind_some]
    by_cases c : i < (seqG FT M N i).length
    · rw [if_pos ((nI_ltI (by omega) (by omega)).mpr c), if_neg (by rw [n72, nI_ltI (by omega) (by omega)]; omega), zif_ok Sz.1.1.1]
      obtain ⟨z1, b1, b2⟩ := s_Dshows mM kM mN kN hA hB hx c
      rw [b1, Option.bind_some]
      dsimp only
      have hget := gAt_get c
      cases hs : shwG M N (gAt (seqG FT M N i) i) with
      | true =>
        left
        right
        rw [if_pos rfl, if_neg (by decide), zif_ok b2.2.1.1.1.1]
        have hfin : (seqG FT M N 73)[i]? = some (gAt (seqG FT M N i) i) := by
          show (qSeq _ _ 73)[i]? = _
          rw [qSeq_get hpre (show i ≤ 73 by omega) c]
          exact hget
        have hdif : difW FT M N = some (gAt (seqG FT M N i) i).2 := by
          unfold difW
          rw [find_at hfin hs (fun j x hj hx => ?_)]
          · rfl
          · have hjl : j < (seqG FT M N i).length := by omega
            have : (seqG FT M N i)[j]? = some x := by
              have e : (qSeq (stepG FT M N) (iniG FT M N) 73)[j]? = (qSeq (stepG FT M N) (iniG FT M N) i)[j]? := qSeq_get hpre (show i ≤ 73 by omega) hjl
              exact e.symm.trans hx
            exact hn j hj x this
        have hw1 := hw.keep b2.1 (by omega)
        obtain ⟨z2, c1, c2, c3⟩ := s_Dspell l72.2 gl c b2.2.1.1 b2.2.2.2.1 hd hw1
        rw [c1, Option.bind_some, zb1]
        exact ⟨_, hdif, z1, z2, rfl, b2.1, c2, b2.2.1.eq (c2.eq (by omega)), c3⟩
      | false =>
        right
        rw [if_pos (by decide)]
        have hstep : seqG FT M N (i + 1) = stepG FT M N (gAt (seqG FT M N i) i) (seqG FT M N i) := qSeq_some hget
        have keepAt : ∀ l Gs, i < Gs.length → gAt (growG FT M N l (gAt Gs i) Gs) i = gAt Gs i ∧ i < (growG FT M N l (gAt Gs i) Gs).length := fun l Gs hi => by
          obtain ⟨t, e⟩ := growG_pre FT M N l (gAt Gs i) Gs
          rw [e]
          exact ⟨gAt_l hi, by rw [List.length_append]; omega⟩
        generalize hGs : seqG FT M N i = Gs at *
        obtain ⟨y1, p1, p2⟩ := s_Dgrow mM kM mN kN hA hB b2 c (l := 1) (by decide)
        have q1 := keepAt 1 Gs c
        obtain ⟨y2, r1, r2⟩ := s_Dgrow mM kM mN kN hA hB p2 q1.2 (l := 2) (by decide)
        rw [q1.1] at r2
        have q2 := keepAt 2 _ q1.2
        rw [q1.1] at q2
        obtain ⟨y3, s1, s2⟩ := s_Dgrow mM kM mN kN hA hB r2 q2.2 (l := 3) (by decide)
        rw [q2.1] at s2
        refine ⟨y3, ?_, by rw [hstep]; exact s2, fun j hj g hg => ?_⟩
        · rw [e_X0_differ_48, if_neg (by decide), zif_ok b2.2.1.1.1.1, n1, p1, Option.bind_some]
          dsimp only
          rw [nI_add, e_X0_differ_48, if_neg (by decide), zif_ok p2.2.1.1.1.1, r1, Option.bind_some]
          dsimp only
          rw [n1, nI_add, e_X0_differ_48, if_neg (by decide), zif_ok r2.2.1.1.1.1, s1, Option.bind_some]
          dsimp only
          rw [n1, nI_add, e_X0_differ_48, if_pos (by decide), nI_1]
        · rw [hstep] at hg
          obtain ⟨t, et⟩ := hpre (gAt Gs i) Gs
          rw [et, List.getElem?_append_left (by omega)] at hg
          by_cases e : j = i
          · subst e
            rw [hget] at hg
            cases hg
            exact hs
          · exact hn j (by omega) g hg
    · left
      left
      rw [if_neg (by rw [nI_ltI (by omega) (by omega)]; omega), zb0]
      refine ⟨?_, z, rfl, fz, Sz⟩
      unfold difW
      have e : seqG FT M N 73 = seqG FT M N i := qSeq_stop2 (show (seqG FT M N i).length ≤ i by omega) (show i ≤ 73 by omega)
      rw [e, find_no (fun j x hj hx => hn j (by omega) x hx)]
      rfl
  · rintro z ⟨hx, hn⟩
    have l72 := hx.l72 kM kN
    obtain ⟨fz, Sz, kz, Gz, ok, t2, gl, ne⟩ := id hx
    left
    rw [e_X0_differ_9, zgI_ok Sz.1.1.1, Gz.1, Option.bind_some, if_neg (by rw [nI_ltI (by omega) (by omega)]; omega), zb0]
    refine ⟨?_, z, rfl, fz, Sz⟩
    unfold difW
    rw [find_no (fun j x hj hx => hn j (by omega) x hx)]
    rfl
