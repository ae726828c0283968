/-! The class: witness, wrote, told, goes, writes, act, acted, take. -/
section XD1
variable {h h' : zM} {x : Nat}
theorem s_xwitness {σ : zTa} (d : XI h x σ) (k : Int32) : zf nX11_witness [.inr x, .inl k] h = some (aWitness σ.2.2.1 k, 0, h) := by
  have wk := d.2.2.2.2.2.1.k
  obtain ⟨b1, b2, w0, wd, wp, st⟩ := d.2.2.2.2.2.1
  rw [e_X11_witness, d.g4, Option.bind_some, zgI_ok wk, Option.bind_some]
  generalize σ.2.2.1 = W at *
  cases W with
  | none =>
    have st : zI h (x + 764) 0 = 0 := st
    rw [if_pos st]
    rfl
  | some p =>
    obtain ⟨st1, st2, st3⟩ := st
    rw [if_neg (by rw [st1]; decide), Option.bind_some, w0.1.g1, Option.bind_some, zif_ok st2.1, s_letterAt st2, Option.bind_some]
    rfl
theorem s_xwrote {σ : zTa} (d : XI h x σ) (t k : Int32) : zf nX11_wrote [.inr x, .inl t, .inl k] h = some (aWrote σ.2.2.1 t k, 0, h) := by
  have wk := d.2.2.2.2.2.1.k
  obtain ⟨b1, b2, w0, wd, wp, st⟩ := d.2.2.2.2.2.1
  rw [e_X11_wrote, d.g4, Option.bind_some, zif_ok wk, e_X9_hasWritten, zgI_ok wk, Option.bind_some]
  generalize σ.2.2.1 = W at *
  cases W with
  | none =>
    have st : zI h (x + 764) 0 = 0 := st
    rw [if_pos st, zb0, Option.bind_some, if_pos rfl]
    rfl
  | some p =>
    obtain ⟨st1, st2, st3⟩ := st
    rw [if_neg (by rw [st1]; decide)]
    unfold aWrote
    dsimp only
    by_cases c0 : t < 0
    · rw [if_pos c0, zb0, Option.bind_some, if_pos rfl, if_neg (fun w => w.1 c0)]
    rw [if_neg c0]
    by_cases c2 : t < 2
    · obtain ⟨j, hj, rfl⟩ := i32_nn (n := 2) c0 c2 (by omega)
      obtain ⟨q1, q2⟩ := st3 j hj
      have ks := w0.1.2.2.2.1
      rw [if_pos c2, if_pos ⟨c0, c2⟩, w0.1.g3, Option.bind_some, zba_ok (Or.inr ks.1) (by rw [ks.2]; exact hj) (by rw [ks.2]; decide), q1, Option.bind_some, nI_clamp (by omega)]
      cases e : p.2 j with
      | none =>
        rw [if_pos (show bI (none : Option zWo).isSome = 0 from rfl), zb0, Option.bind_some, if_pos rfl]
      | some u =>
        have wu := q2 u e
        rw [if_neg (show ¬ bI (some u).isSome = 0 from (by decide : ¬ bI true = 0)), zb1, Option.bind_some]
        dsimp only
        rw [if_neg (by decide), d.g4, Option.bind_some, w0.1.g2, Option.bind_some, w0.1.wr hj, Option.bind_some, zif_ok wu.1, s_letterAt wu, Option.bind_some]
    · rw [if_neg c2, zb0, Option.bind_some, if_pos rfl, if_neg (fun w => c2 w.2)]
theorem s_xhas {σ : zTa} (d : XI h x σ) : zf nX11_hasLeast [.inr x] h = some (bI (lzO σ.2.2.2.2.1).isSome, 0, h) := by
  rw [e_X11_hasLeast, d.fld, Option.bind_some]
  have d8 := d.2.2.2.2.2.2.2.1.2.2.2
  generalize σ.2.2.2.2.1 = L at *
  cases L with
  | none =>
    have d8 : zI h x 13 = -1 := d8
    rw [d8, if_neg (by decide), zb0]
    rfl
  | some M =>
    obtain ⟨k, hf, a1, -⟩ := d8
    rw [a1]
    unfold lzO
    dsimp only
    by_cases c : sqA M = 1
    · rw [c, if_pos (show nI 1 = 1 from rfl), zb1, if_pos rfl]
      rfl
    · have hb : sqA M < 2 ^ 31 := by
        have h1 : (twJ M).1 ≤ 2 := twJ_2 M
        unfold sqA
        split
        · split <;> decide
        · omega
      rw [if_neg (by rw [n1, nI_eq hb (by omega)]; exact c), zb0, if_neg c]
      rfl
/-- the least machine, if there is one -/
theorem XI.lz {σ : zTa} (d : XI h x σ) {Z : zLz} (e : lzO σ.2.2.2.2.1 = some Z) : ∃ M, sGood M ∧ LF h (x + 5856) (x + 7674) M ∧ Z = lsZ M := by
  have d8 := d.2.2.2.2.2.2.2.1.2.2.2
  generalize σ.2.2.2.2.1 = L at *
  cases L with
  | none => cases e
  | some M =>
    obtain ⟨k, hf, a1, a2, a3, a4, a5⟩ := d8
    unfold lzO at e
    dsimp only at e
    by_cases c : sqA M = 1
    · rw [if_pos c] at e
      exact ⟨M, sqA_good k hf c, a5 c, (Option.some.inj e).symm⟩
    · rw [if_neg c] at e
      cases e
theorem bIn {α : Type} : bI (none : Option α).isSome = 0 := rfl
theorem bIs {α : Type} {a : α} : ¬ bI (some a).isSome = 0 := (by decide : ¬ bI true = 0)
theorem s_xgoes {σ : zTa} (d : XI h x σ) (q l : Int32) : zf nX11_goes [.inr x, .inl q, .inl l] h = some (aGoesL (lzO σ.2.2.2.2.1) q l, 0, h) := by
  rw [e_X11_goes, zif_ok d.k, s_xhas d, Option.bind_some]
  dsimp only
  cases e : lzO σ.2.2.2.2.1 with
  | none =>
    rw [if_pos bIn]
    rfl
  | some Z =>
    obtain ⟨M, g, lf, rfl⟩ := d.lz e
    rw [if_neg bIs, d.g7, Option.bind_some, zif_ok lf.1.1.2.2.1.1.1, s_stateBehind g lf, Option.bind_some]
    rfl
/-- the least machine's words have been asked for -/
theorem XI.lf {σ : zTa} (d : XI h x σ) {M : zMa} (e : lzO σ.2.2.2.2.1 = some (lsZ M)) (g : sGood M) (f : zFr (x + 7674 + 204) (x + 7674 + 206) h h') (lf : LF h (x + 5856) (x + 7674) M → LF h' (x + 5856) (x + 7674) M) (hL : σ.2.2.2.2.1 = some M) : XI h' x σ := by
  obtain ⟨d1, d2, d3, d4, d5, d6, d7, d8, d9⟩ := d
  refine ⟨d1.keep f (by omega), d2.of (f.2.2 x).2, d3.eq (f.eq (by omega)), d4.eq (f.eq (by omega)), d5.eq (f.eq (by omega)), d6.eq (f.eq (by omega)), ⟨(f.I (by omega) _).trans d7.1, d7.2⟩, ?_, d9.eq (f.eq (by omega))⟩
  obtain ⟨s1, s2, s3, s4⟩ := d8
  rw [hL] at s4 e ⊢
  obtain ⟨k, hf, a1, a2, a3, a4, a5⟩ := s4
  unfold lzO at e
  dsimp only at e
  by_cases c : sqA M = 1
  · have q := lf (a5 c)
    exact ⟨s1.eq (f.eq (by omega)), s2.eq (f.eq (by omega)), q.1.1.2.2, k, hf, (f.I (by omega) _).trans a1, (f.I (by omega) _).trans a2, (f.I (by omega) _).trans a3, (f.I (by omega) _).trans a4, fun _ => q⟩
  · rw [if_neg c] at e
    cases e
theorem lzO_L {L : Option zMa} {Z : zLz} (e : lzO L = some Z) : ∃ M, L = some M ∧ Z = lsZ M := by
  cases L with
  | none => cases e
  | some M =>
    unfold lzO at e
    dsimp only at e
    by_cases c : sqA M = 1
    · rw [if_pos c] at e
      exact ⟨M, rfl, (Option.some.inj e).symm⟩
    · rw [if_neg c] at e
      cases e
/-- both at once -/
theorem XI.lzM {σ : zTa} (d : XI h x σ) {Z : zLz} (e : lzO σ.2.2.2.2.1 = some Z) : ∃ M, sGood M ∧ LF h (x + 5856) (x + 7674) M ∧ Z = lsZ M ∧ σ.2.2.2.2.1 = some M := by
  obtain ⟨M, hL, rfl⟩ := lzO_L e
  have d8 := d.2.2.2.2.2.2.2.1.2.2.2
  rw [hL] at d8 e
  obtain ⟨k, hf, a1, a2, a3, a4, a5⟩ := d8
  unfold lzO at e
  dsimp only at e
  by_cases c : sqA M = 1
  · exact ⟨M, sqA_good k hf c, a5 c, rfl, hL⟩
  · rw [if_neg c] at e
    cases e
theorem s_xwrites {σ : zTa} (d : XI h x σ) (q l k : Int32) : ∃ h', zf nX11_writes [.inr x, .inl q, .inl l, .inl k] h = some (aWrites (lzO σ.2.2.2.2.1) q l k, 0, h') ∧ zGr x (x + 8091) h h' ∧ XI h' x σ := by
  rw [e_X11_writes, zif_ok d.k, s_xhas d, Option.bind_some]
  dsimp only
  cases e : lzO σ.2.2.2.2.1 with
  | none =>
    rw [if_pos bIn]
    exact ⟨h, rfl, zGr.rf, d⟩
  | some Z =>
    obtain ⟨M, g, lf, rfl, hL⟩ := d.lzM e
    rw [if_neg bIs, d.g7, Option.bind_some, zif_ok lf.1.1.2.2.1.1.1]
    obtain ⟨h1, f1, lf1, w⟩ := s_wordOf g (by omega) lf q l
    have d1 := d.lf e g f1 (fun _ => lf1) hL
    have gr : zGr x (x + 8091) h h1 := f1.gr.wide (by omega) (by omega)
    unfold aWrites
    dsimp only
    cases ew : aWord (lsZ M) q l with
    | none =>
      rw [ew] at w
      rw [show zf nX1_wordOf [.inr (x + 7674), .inl q, .inl l] h = some (0, 0, h1) from w, Option.bind_some, if_pos rfl]
      exact ⟨h1, rfl, gr, d1⟩
    | some u =>
      rw [ew] at w
      obtain ⟨a, n, w1, w2, w3⟩ := w
      have w21 : x + 5856 + 1205 ≤ a := w2.1
      rw [w1, Option.bind_some]
      dsimp only
      rw [if_neg (by omega), zif_ok w3.1, s_letterAt w3, Option.bind_some]
      exact ⟨h1, rfl, gr, d1⟩
theorem s_xacted {σ : zTa} (d : XI h x σ) (k : Int32) : zf nX11_acted [.inr x, .inl k] h = some (wAt σ.2.2.2.2.2 k, 0, h) := by
  have w := d.2.2.2.2.2.2.2.2.2.1
  rw [e_X11_acted, d.g9, Option.bind_some, zif_ok w.1, s_letterAt w, Option.bind_some]
theorem s_xtold {σ : zTa} (d : XI h x σ) (w : Int32) : zf nX11_told [.inr x, .inl w] h = some (aTold σ.2.2.2.2.1 w, 0, h) := by
  rw [e_X11_told, d.fld, Option.bind_some]
  have hh := s_xhas d
  have hz := fun Z => d.lzM (Z := Z)
  have d8 := d.2.2.2.2.2.2.2.1.2.2.2
  have tk := d.2.2.2.2.2.2.2.1.1.1.1.1
  generalize σ.2.2.2.2.1 = L at *
  cases L with
  | none =>
    have d8 : zI h x 13 = -1 := d8
    rw [if_pos d8]
    rfl
  | some M =>
    obtain ⟨k, hf, a1, a2, a3, a4, a5⟩ := d8
    have hb : sqA M < 2 ^ 31 := by
      have h1 : (twJ M).1 ≤ 2 := twJ_2 M
      unfold sqA
      split
      · split <;> decide
      · omega
    rw [a1, if_neg (nneg hb)]
    unfold aTold
    dsimp only
    by_cases w0 : w = 0
    · rw [if_pos w0, if_pos w0, d.g5, Option.bind_some, zgI_ok tk, a2, Option.bind_some]
    rw [if_neg w0, if_neg w0]
    by_cases w1 : w = 1
    · rw [if_pos w1, if_pos w1, d.g5, Option.bind_some, zgI_ok tk, a3, Option.bind_some]
    rw [if_neg w1, if_neg w1]
    by_cases w2 : w = 2
    · rw [if_pos w2, if_pos w2, d.fld, a4, Option.bind_some]
    rw [if_neg w2, if_neg w2]
    have has : ∀ (c : Prop) [Decidable c], True := fun _ _ => trivial
    by_cases w3 : w = 3
    · rw [if_pos w3, if_pos w3, zif_ok d.k, hh, Option.bind_some]
      dsimp only
      by_cases c : sqA M = 1
      · have lf := a5 c
        have ez : lzO (some M) = some (lsZ M) := if_pos c
        rw [if_pos c, ez, if_neg bIs, d.g7, Option.bind_some, lf.st, Option.bind_some]
      · have ez : lzO (some M) = none := if_neg c
        rw [if_neg c, ez, if_pos bIn]
    rw [if_neg w3, if_neg w3]
    by_cases w4 : w = 4
    · rw [if_pos w4, if_pos w4, zif_ok d.k, hh, Option.bind_some]
      dsimp only
      by_cases c : sqA M = 1
      · have lf := a5 c
        have ez : lzO (some M) = some (lsZ M) := if_pos c
        rw [if_pos c, ez, if_neg bIs, d.g7, Option.bind_some, zgI_ok lf.1.1.2.2.1.1.1, lf.2.2.2, Option.bind_some]
      · have ez : lzO (some M) = none := if_neg c
        rw [if_neg c, ez, if_pos bIn]
    rw [if_neg w4, if_neg w4]
theorem s_xact {σ : zTa} (d : XI h x σ) (w : Int32) : ∃ h', zf nX11_act [.inr x, .inl w] h = some ((aAct (lzO σ.2.2.2.2.1) σ.2.2.2.2.2 w).1, 0, h') ∧ zGr x (x + 8091) h h' ∧ XI h' x (σ.1, σ.2.1, σ.2.2.1, σ.2.2.2.1, σ.2.2.2.2.1, (aAct (lzO σ.2.2.2.2.1) σ.2.2.2.2.2 w).2) := by
  rw [e_X11_act, zif_ok d.k, s_xhas d, Option.bind_some]
  dsimp only
  cases e : lzO σ.2.2.2.2.1 with
  | none =>
    rw [if_pos bIn]
    exact ⟨h, rfl, zGr.rf, d⟩
  | some Z =>
    rw [if_neg bIs, s_isInput, Option.bind_some]
    dsimp only
    unfold aAct
    dsimp only
    by_cases cw : isW 3 9 w = true
    · rw [if_pos cw, if_neg (by decide), if_pos cw]
      obtain ⟨k1, h1, r1, r2, r3, r4⟩ := d.ask w cw
      obtain ⟨k, -, -, -, k4, k5, k6, -, -⟩ := isW_in cw
      obtain ⟨M, g, lf, rfl, hL⟩ := r3.lzM e
      simp only [d.g8, Option.bind_some, zif_ok k1, r1, r3.g7, r3.g8]
      obtain ⟨h2, b1, b2, b3⟩ := s_accepts g (by omega) lf r4 (by omega) k6 k5
      have d2 := r3.lf e g b2 (fun _ => b3) hL
      have r5 := r4.keep b2 (by omega)
      rw [zif_ok lf.1.1.2.2.1.1.1, b1, Option.bind_some]
      dsimp only
      have gr : zGr x (x + 8091) h h2 := (r2.gr.wide (by omega) (by omega)).tr (b2.gr.wide (by omega) (by omega))
      cases ea : acF (lsZ M) (usOf w) with
      | none =>
        rw [if_pos bIn]
        exact ⟨h2, rfl, gr, d2⟩
      | some v =>
        rw [if_neg bIs]
        simp only [d2.g7, d2.g8, d2.g9, Option.bind_some]
        have wa := d2.2.2.2.2.2.2.2.2.2.1
        obtain ⟨h3, c1, c2, c3, c4⟩ := s_translate g (by omega) b3 r5 (by omega) k6 k5 wa (by omega) (by omega) ea
        rw [zif_ok b3.1.1.2.2.1.1.1, c1, Option.bind_some]
        have E : ∀ a b, (b ≤ x + 7878 ∨ x + 7880 ≤ a) → (b ≤ x + 8085 ∨ x + 8087 ≤ a) → zEq a b h2 h3 := fun a b q1 q2 => c2.eq (by omega) (by omega)
        have d3 : XI h3 x (σ.1, σ.2.1, σ.2.2.1, σ.2.2.2.1, σ.2.2.2.2.1, v) := by
          obtain ⟨d1, d2, d3, d4, d5, d6, d7, ⟨s1, s2, s3, s4⟩, d9⟩ := d2
          have fx := E x (x + 1) (by omega) (by omega)
          refine ⟨d1.eq (fx.F (by omega) (by omega) _) (E _ _ (by omega) (by omega)), d2.of (fx.2 x (by omega) (by omega)).2, d3.eq (E _ _ (by omega) (by omega)), d4.eq (E _ _ (by omega) (by omega)), d5.eq (E _ _ (by omega) (by omega)), d6.eq (E _ _ (by omega) (by omega)), ⟨(fx.I (by omega) (by omega) _).trans d7.1, d7.2⟩, ⟨s1.eq (E _ _ (by omega) (by omega)), s2.eq (E _ _ (by omega) (by omega)), c3.1.1.2.2, ?_⟩, ?_⟩
          · rw [hL] at s4
            dsimp only
            rw [hL]
            obtain ⟨q1, q2, a1, a2, a3, a4, a5⟩ := s4
            have f842 := E (x + 842) (x + 843) (by omega) (by omega)
            exact ⟨q1, q2, (fx.I (by omega) (by omega) _).trans a1, (f842.I (by omega) (by omega) _).trans a2, (f842.I (by omega) (by omega) _).trans a3, (fx.I (by omega) (by omega) _).trans a4, fun _ => c3⟩
          · obtain ⟨⟨a, ha⟩, hb, ⟨c, hc⟩, ⟨e, he⟩⟩ := d9
            exact ⟨⟨a, ha.eq (E _ _ (by omega) (by omega))⟩, c4, ⟨c, hc.eq (E _ _ (by omega) (by omega))⟩, e, he.eq (E _ _ (by omega) (by omega))⟩
        dsimp only
        rw [d3.g9, Option.bind_some, c4.len, Option.bind_some]
        refine ⟨h3, rfl, gr.tr ⟨c2.1, c2.2.1, fun a ha => ⟨(c2.2.2 a).1 (by omega) (by omega), (c2.2.2 a).2⟩⟩, d3⟩
    · rw [if_neg cw, if_pos rfl, if_neg cw]
      exact ⟨h, rfl, zGr.rf, d⟩
theorem s_xtake {σ : zTa} (d : XI h x σ) (t : Int32) : ∃ h' Ms, zGr x (x + 8091) h h' ∧ XI h' x (Ms, σ.2) ∧ ((∃ M, tkO (lzO σ.2.2.2.2.1) t M ∧ zf nX11_take [.inr x, .inl t] h = some (1, 0, h') ∧ Ms = va_up σ.1 t.toNatClampNeg M ∧ MaOk M) ∨ ((¬ ∃ M, tkO (lzO σ.2.2.2.2.1) t M) ∧ zf nX11_take [.inr x, .inl t] h = some (0, 0, h') ∧ Ms = σ.1)) := by
  rw [e_X11_take, zif_ok d.k, s_isMachine, Option.bind_some]
  dsimp only
  by_cases ct : isT t = true
  · obtain ⟨j, hj, rfl⟩ := isT_of ct
    rw [if_pos ct, if_neg (by decide), zif_ok d.k, s_xhas d, Option.bind_some]
    dsimp only
    cases e : lzO σ.2.2.2.2.1 with
    | none =>
      rw [if_pos bIn, zb0]
      refine ⟨h, σ.1, zGr.rf, d, Or.inr ⟨?_, rfl, rfl⟩⟩
      rintro ⟨M, -, z, ez, -⟩
      cases ez
    | some Z =>
      obtain ⟨M, g, lf, rfl, hL⟩ := d.lzM e
      rw [if_neg bIs, d.g7, Option.bind_some, zif_ok lf.1.1.2.2.1.1.1]
      obtain ⟨h1, f1, lf1, fc⟩ := s_fitsMachine g (by omega) lf
      have d1 := d.lf e g f1 (fun _ => lf1) hL
      have gr : zGr x (x + 8091) h h1 := f1.gr.wide (by omega) (by omega)
      rcases fc with ⟨fit, f2⟩ | ⟨fit, f2⟩
      · rw [f2, Option.bind_some]
        dsimp only
        rw [if_neg (by decide)]
        simp only [d1.g7, d1.g0, d1.el hj, Option.bind_some]
        obtain ⟨m1, m2⟩ := d1.mc hj
        obtain ⟨h2, c1, c2, c3, c4⟩ := s_Lfill g (by omega) lf1 fit m1 (by omega)
        rw [zif_ok lf1.1.1.2.2.1.1.1, c1, Option.bind_some, zb1]
        have tok : MaOk (tkM (lsZ M)) := tkM_ok (lsZ_ok g) fit
        have E : ∀ a b, (b ≤ x + 7878 ∨ x + 7880 ≤ a) → (b ≤ x + 2 + 6 * j ∨ x + 2 + 6 * j + 6 ≤ a) → zEq a b h1 h2 := fun a b q1 q2 => c2.eq (by omega) (by omega)
        have fx := E x (x + 1) (by omega) (by omega)
        refine ⟨h2, va_up σ.1 j (tkM (lsZ M)), gr.tr ⟨c2.1, c2.2.1, fun a ha => ⟨(c2.2.2 a).1 (by omega) (by omega), (c2.2.2 a).2⟩⟩, ?_, Or.inl ⟨_, ⟨ct, _, rfl, fit, rfl⟩, rfl, by rw [nI_clamp (by omega)], tok⟩⟩
        obtain ⟨⟨⟨k1, k2, k3, k4, k5⟩, km⟩, d2, d3, d4, d5, d6, d7, ⟨s1, s2, s3, s4⟩, d9⟩ := d1
        refine ⟨⟨⟨(E x (x + 2) (by omega) (by omega)).K x |>.trans k1, (fx.F (by omega) (by omega) _).trans k2, (fx.K _).trans k3, (fx.N _).trans k4, fun t ht => ((E (x + 1) (x + 2) (by omega) (by omega)).F (by omega) (by omega) _).trans (k5 t ht)⟩, fun t ht => ?_⟩, d2.of (fx.2 x (by omega) (by omega)).2, d3.eq (E _ _ (by omega) (by omega)), d4.eq (E _ _ (by omega) (by omega)), d5.eq (E _ _ (by omega) (by omega)), d6.eq (E _ _ (by omega) (by omega)), ⟨(fx.I (by omega) (by omega) _).trans d7.1, d7.2⟩, ⟨s1.eq (E _ _ (by omega) (by omega)), s2.eq (E _ _ (by omega) (by omega)), c3.1.1.2.2, ?_⟩, d9.eq (E _ _ (by omega) (by omega))⟩
        · show MC h2 (x + 2 + 6 * t) (va_up σ.1 j (tkM (lsZ M)) t) ∧ MaOk (va_up σ.1 j (tkM (lsZ M)) t)
          rw [va_up_both]
          by_cases et : t = j
          · rw [if_pos et, et]
            exact ⟨c4, tok⟩
          · rw [if_neg et]
            exact ⟨(km t ht).1.eq (E _ _ (by omega) (by omega)), (km t ht).2⟩
        · dsimp only
          rw [hL] at s4 ⊢
          obtain ⟨q1, q2, a1, a2, a3, a4, a5⟩ := s4
          have f842 := E (x + 842) (x + 843) (by omega) (by omega)
          exact ⟨q1, q2, (fx.I (by omega) (by omega) _).trans a1, (f842.I (by omega) (by omega) _).trans a2, (f842.I (by omega) (by omega) _).trans a3, (fx.I (by omega) (by omega) _).trans a4, fun _ => c3⟩
      · rw [f2, Option.bind_some, if_pos rfl, zb0]
        refine ⟨h1, σ.1, gr, d1, Or.inr ⟨?_, rfl, rfl⟩⟩
        rintro ⟨M', -, z, ez, fz, -⟩
        rw [← Option.some.inj ez] at fz
        exact fit fz
  · rw [if_neg ct, if_pos rfl, zb0]
    refine ⟨h, σ.1, zGr.rf, d, Or.inr ⟨?_, rfl, rfl⟩⟩
    rintro ⟨M, c, -⟩
    exact ct c
end XD1
