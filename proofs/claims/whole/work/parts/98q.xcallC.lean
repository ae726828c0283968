/-! The class: sequential and what tells of it. -/
section XC1
variable {h h' : zM} {x : Nat}
theorem SI.SS {h : zM} {x : Nat} {M : zMa} {X : zSs} (s : SI h x M X) : SS h x := s.1
/-- the fields of the object -/
theorem XI.fld {σ : zTa} (d : XI h x σ) {j : Nat} : zgI h x 11 j = some (zI h x j) := zgI_ok d.1.1.1
theorem twJ_2 (M : zMa) : (twJ M).1 ≤ 2 := by
  have : ∀ f start lv (S : zTs), (twRun M (twLim M) f start lv S).1 ≤ 2 := by
    intro f
    induction f with
    | zero => intro start lv S; exact (by decide : 1 ≤ 2)
    | succ f ih =>
      intro start lv S
      unfold twRun
      split
      · split
        · exact (by decide : 0 ≤ 2)
        · split
          · exact (by decide : 2 ≤ 2)
          · exact ih _ _ _
      · exact (by decide : 1 ≤ 2)
  exact this 1002 0 0 (twIni M (twLim M))
/-- twins, sets, least -/
theorem s_xmake {σ : zTa} {t A : Nat} (d : XI h x σ) (ht : t < 2) (hA : A = x + 2 + 6 * t) (hf : difW FT (σ.1 t) (σ.1 t) = none) :
    ∃ h', zf nX11_makeSequential [.inr x, .inr A] h = some (nI (sqA (σ.1 t)), 0, h') ∧ zGr x (x + 8091) h h' ∧ zI h' x 12 = zI h x 12 ∧ XI (zsI h' x 13 (nI (sqA (σ.1 t)))) x (σ.1, σ.2.1, σ.2.2.1, σ.2.2.2.1, some (σ.1 t), σ.2.2.2.2.2) := by
  subst hA
  obtain ⟨m1, m2⟩ := d.mc ht
  generalize hM : σ.1 t = M at *
  have fa : zFr x (x + 1) h (zsI h x 14 (-1)) := zFr_sI (by omega) (by omega)
  rw [e_X11_makeSequential, zpI_ok d.k, Option.bind_some]
  have ea : ∀ j, j ≠ 14 → zI (zsI h x 14 (-1)) x j = zI h x j := fun j hj => zI_sI_k hj
  have ea14 : zI (zsI h x 14 (-1)) x 14 = -1 := zI_sI
  have fxa : zF (zsI h x 14 (-1)) x = zF h x := funext fun j => fa.F x j
  obtain ⟨d1, d2, d3, d4, d5, d6, d7, ⟨s1, s2, s3, -⟩, d9⟩ := d
  generalize zsI h x 14 (-1) = h1 at *
  have d2a := d2.of (fa.2.2 x).2
  have g5 : zgF h1 x 11 5 = some (x + 842) := (zgF_ok ((fa.K x).trans d1.1.1)).trans (congrArg some d2a.1.2.2.2.2.1)
  have tw := s1.eq (fa.eq (by omega))
  obtain ⟨h2, a1, a2, a3, a4, a5⟩ := s_Tjudge (m1.keep fa (by omega)) m2 (by omega) tw
  rw [g5, Option.bind_some, zif_ok tw.1.1.1, a1, Option.bind_some]
  dsimp only
  -- all that isn't touched by what follows
  have out : ∀ (h' : zM), zFr x (x + 1) h1 h' ∨ True → zEq (x + 1) (x + 842) h h' → zEq (x + 8083) (x + 8091) h h' → (∀ j, zF h' x j = zF h x j) → zK h' x = zK h x → (h'.2.2.2 x = h.2.2.2 x) → zI h' x 12 = zI h x 12 → TS h' (x + 842) → SS h' (x + 5856) → YS h' (x + 5856) (x + 7674) → zI h' x 14 = sqS M → zI h' (x + 842) 0 = nI (twJ M).2.1 → zI h' (x + 842) 1 = nI (twJ M).2.2.1.length → (sqA M = 1 → LF h' (x + 5856) (x + 7674) M) → XI (zsI h' x 13 (nI (sqA M))) x (σ.1, σ.2.1, σ.2.2.1, σ.2.2.2.1, some M, σ.2.2.2.2.2) := fun h' _ f1 f2 fF fK fR e12 t1 t2 t3 e14 l0 l1 lf => by
    have fb : zFr x (x + 1) h' (zsI h' x 13 (nI (sqA M))) := zFr_sI (by omega) (by omega)
    have eb : ∀ j, j ≠ 13 → zI (zsI h' x 13 (nI (sqA M))) x j = zI h' x j := fun j hj => zI_sI_k hj
    have eb13 : zI (zsI h' x 13 (nI (sqA M))) x 13 = nI (sqA M) := zI_sI
    generalize zsI h' x 13 (nI (sqA M)) = h3 at *
    have f1 := f1.tr (fb.eq (Or.inr (Nat.le_refl _)))
    have f2 := f2.tr (fb.eq (Or.inr (by omega)))
    refine ⟨d1.eq ((fb.F x 0).trans (fF 0)) (f1.sub (Nat.le_refl _) (by omega)), d2.of ((fb.2.2 x).2.trans fR), d3.eq (f1.sub (by omega) (by omega)), d4.eq (f1.sub (by omega) (by omega)), d5.eq (f1.sub (by omega) (by omega)), d6.eq (f1.sub (by omega) (by omega)), ⟨((eb 12 (by omega)).trans e12).trans d7.1, d7.2⟩, ⟨t1.eq (fb.eq (by omega)), t2.eq (fb.eq (by omega)), t3.eq (fb.eq (by omega)), m2, hf, eb13, (fb.I (by omega) _).trans l0, (fb.I (by omega) _).trans l1, (eb 14 (by omega)).trans e14, fun e => (lf e).eq (sqA_good m2 hf e) (fb.eq (by omega)) (fb.eq (by omega))⟩, d9.eq f2⟩
  by_cases c : (twJ M).1 = 1
  · rw [if_pos (by rw [c]; rfl)]
    have d2b := d2a.of (a2.2.2 x).2
    have k2 : zK h2 x = 12 := (a2.K x).trans ((fa.K x).trans d1.1.1)
    have g6 : zgF h2 x 11 6 = some (x + 5856) := (zgF_ok k2).trans (congrArg some d2b.1.2.2.2.2.2)
    have ss := (s2.eq (fa.eq (by omega))).eq (a2.eq (by omega))
    have m3 := (m1.keep fa (by omega)).keep a2 (by omega)
    rw [g6, Option.bind_some, zif_ok ss.1.1.1]
    obtain ⟨h3, b1, b2⟩ := s_Smake m3 m2 c (by omega) ss
    have d2c := d2b.of (b1.2.2 x).2
    have k3 : zK h3 x = 12 := (b1.K x).trans k2
    have g6c : zgF h3 x 11 6 = some (x + 5856) := (zgF_ok k3).trans (congrArg some d2c.1.2.2.2.2.2)
    have sqs : sqS M = nI (sMake M).1.length := if_pos c
    have fc : ∀ v, zFr x (x + 1) h3 (zsI h3 x 14 v) := fun v => zFr_sI (by omega) (by omega)
    -- what has changed up to there
    have E : ∀ a b v, x + 1 ≤ a → (b ≤ x + 842 ∨ x + 5856 ≤ a) → (b ≤ x + 5856 ∨ x + 7674 ≤ a) → zEq a b h (zsI h3 x 14 v) := fun a b v q0 q1 q2 => (fa.eq (by omega)).tr ((a2.eq (by omega)).tr ((b1.eq (by omega)).tr ((fc v).eq (by omega))))
    have F0 : ∀ j v, zF (zsI h3 x 14 v) x j = zF h x j := fun j v => ((fc v).F x j).trans ((b1.F x j).trans ((a2.F x j).trans (fa.F x j)))
    have R0 : ∀ v, (zsI h3 x 14 v).2.2.2 x = h.2.2.2 x := fun v => ((fc v).2.2 x).2.trans ((b1.2.2 x).2.trans ((a2.2.2 x).2.trans (fa.2.2 x).2))
    have K0 : ∀ v, zK (zsI h3 x 14 v) x = zK h x := fun v => ((fc v).K x).trans ((b1.K x).trans ((a2.K x).trans (fa.K x)))
    have I12 : ∀ v, zI (zsI h3 x 14 v) x 12 = zI h x 12 := fun v => (zI_sI_k (by omega)).trans ((b1.I (by omega) _).trans ((a2.I (by omega) _).trans (ea 12 (by omega))))
    have G0 : ∀ v, zGr x (x + 8091) h (zsI h3 x 14 v) := fun v => (fa.gr.wide (by omega) (by omega)).tr ((a2.gr.wide (by omega) (by omega)).tr ((b1.gr.wide (by omega) (by omega)).tr ((fc v).gr.wide (by omega) (by omega))))
    have T3 : ∀ v, TS (zsI h3 x 14 v) (x + 842) := fun v => (a5.eq (b1.eq (by omega))).eq ((fc v).eq (by omega))
    have L0 : ∀ v, zI (zsI h3 x 14 v) (x + 842) 0 = nI (twJ M).2.1 := fun v => ((fc v).I (by omega) _).trans ((b1.I (by omega) _).trans a3)
    have L1 : ∀ v, zI (zsI h3 x 14 v) (x + 842) 1 = nI (twJ M).2.2.1.length := fun v => ((fc v).I (by omega) _).trans ((b1.I (by omega) _).trans a4)
    have Y3 : ∀ v, YS (zsI h3 x 14 v) (x + 5856) (x + 7674) := fun v => s3.eq (E _ _ v (by omega) (by omega) (by omega))
    rcases b2 with ⟨hl, b3, b4⟩ | ⟨hl, b3, b4, b5⟩
    · rw [b3, Option.bind_some]
      dsimp only
      have e0 : zI h3 (x + 5856) 0 = nI (sMake M).1.length := b4.2.2.1.1
      rw [g6c, Option.bind_some, zgI_ok b4.1.1.1.1, e0, Option.bind_some, zpI_ok k3, Option.bind_some, if_neg (by decide)]
      have sa : sqA M = 1 := (if_pos c).trans (if_pos hl)
      have g : sGood M := ⟨m2, hf, c, hl⟩
      have li : LI (zsI h3 x 14 (nI (sMake M).1.length)) (x + 5856) (x + 7674) M := by
        have q := (fc (nI (sMake M).1.length))
        refine LI.eq (h := h3) ⟨b4, ?_⟩ g (q.eq (by omega)) (q.eq (by omega))
        exact s3.eq ((fa.eq (by omega)).tr ((a2.eq (by omega)).tr (b1.eq (by omega))))
      have g7 : zgF (zsI h3 x 14 (nI (sMake M).1.length)) x 11 7 = some (x + 7674) := (zgF_ok ((K0 _).trans d1.1.1)).trans (congrArg some ((F0 7 _).trans d2.2.1))
      have m4 : MC (zsI h3 x 14 (nI (sMake M).1.length)) (x + 2 + 6 * t) M := m1.eq (E _ _ _ (by omega) (by omega) (by omega))
      have q14 : zI (zsI h3 x 14 (nI (sMake M).1.length)) x 14 = nI (sMake M).1.length := zI_sI
      have E := fun a b => E a b (nI (sMake M).1.length)
      have F0 := fun j => F0 j (nI (sMake M).1.length)
      have R0 := R0 (nI (sMake M).1.length)
      have K0 := K0 (nI (sMake M).1.length)
      have I12 := I12 (nI (sMake M).1.length)
      have G0 := G0 (nI (sMake M).1.length)
      have T3 := T3 (nI (sMake M).1.length)
      have L0 := L0 (nI (sMake M).1.length)
      have L1 := L1 (nI (sMake M).1.length)
      generalize zsI h3 x 14 (nI (sMake M).1.length) = h4 at *
      obtain ⟨h5, c1, c2, c3, c4⟩ := s_Lmake m4 g (by omega) (by omega) li
      rw [g7, Option.bind_some, zif_ok li.2.1.1.1, c1, Option.bind_some, sa]
      refine ⟨h5, rfl, G0.tr (c2.gr.wide (by omega) (by omega)), (c2.I (by omega) _).trans I12, ?_⟩
      have := out h5 (Or.inr trivial) ((E _ _ (by omega) (by omega) (by omega)).tr (c2.eq (by omega))) ((E _ _ (by omega) (by omega) (by omega)).tr (c2.eq (by omega))) (fun j => (c2.F x j).trans (F0 j)) ((c2.K x).trans K0) ((c2.2.2 x).2.trans R0) ((c2.I (by omega) _).trans I12) (T3.eq (c2.eq (by omega))) c4.1.1.1 c4.1.1.2.2 ((c2.I (by omega) _).trans (q14.trans sqs.symm)) ((c2.I (by omega) _).trans L0) ((c2.I (by omega) _).trans L1) (fun _ => c4)
      rw [sa] at this
      exact this
    · rw [b3, Option.bind_some]
      dsimp only
      rw [g6c, Option.bind_some, zgI_ok b5.1.1.1, b4, Option.bind_some, zpI_ok k3, Option.bind_some, if_pos rfl]
      have sa : sqA M = 2 := (if_pos c).trans (if_neg (by omega))
      have q14 : zI (zsI h3 x 14 101) x 14 = sqS M := by rw [zI_sI, sqs, hl]; rfl
      rw [sa]
      refine ⟨_, rfl, G0 _, I12 _, ?_⟩
      have := out _ (Or.inr trivial) (E _ _ 101 (by omega) (by omega) (by omega)) (E _ _ 101 (by omega) (by omega) (by omega)) (fun j => F0 j 101) (K0 101) (R0 101) (I12 101) (T3 101) (b5.eq ((fc 101).eq (by omega))) (Y3 101) q14 (L0 101) (L1 101) (fun e => by rw [sa] at e; cases e)
      rw [sa] at this
      exact this
  · have hj : sqA M = (twJ M).1 := if_neg c
    have hs : sqS M = -1 := if_neg c
    have hb : (twJ M).1 < 2 ^ 31 := by
      have := twJ_2 M
      omega
    rw [if_neg (by rw [n1, nI_eq hb (by omega)]; exact c), hj]
    refine ⟨h2, rfl, (fa.gr.wide (by omega) (by omega)).tr (a2.gr.wide (by omega) (by omega)), (a2.I (by omega) _).trans (ea 12 (by omega)), ?_⟩
    have := out h2 (Or.inr trivial) ((fa.eq (by omega)).tr (a2.eq (by omega))) ((fa.eq (by omega)).tr (a2.eq (by omega))) (fun j => (a2.F x j).trans (fa.F x j)) ((a2.K x).trans (fa.K x)) ((a2.2.2 x).2.trans (fa.2.2 x).2) ((a2.I (by omega) _).trans (ea 12 (by omega))) a5 ((s2.eq (fa.eq (by omega))).eq (a2.eq (by omega))) ((s3.eq (fa.eq (by omega))).eq (a2.eq (by omega))) ((a2.I (by omega) _).trans (ea14.trans hs.symm)) a3 a4 (fun e => absurd (hj.symm.trans e) c)
    rw [hj] at this
    exact this
theorem tstF_n {M : zMa} {w : zWt} (e : (tstF M w).1 = true) : difW FT M M = none := by
  cases e2 : difW FT M M with
  | none => rfl
  | some us =>
    have q : tstF M w = tsAn (some us) M w := congrArg (fun o => tsAn o M w) e2
    rw [q] at e
    cases e
theorem s_xsequential {σ : zTa} (d : XI h x σ) (t : Int32) : ∃ h', zf nX11_sequential [.inr x, .inl t] h = some ((aSeq σ.1 σ.2.2.1 σ.2.2.2.1 σ.2.2.2.2.1 t).1, 0, h') ∧ zGr x (x + 8091) h h' ∧ XI h' x (σ.1, σ.2.1, (aSeq σ.1 σ.2.2.1 σ.2.2.2.1 σ.2.2.2.2.1 t).2.1, (aSeq σ.1 σ.2.2.1 σ.2.2.2.1 σ.2.2.2.2.1 t).2.2.1, (aSeq σ.1 σ.2.2.1 σ.2.2.2.1 σ.2.2.2.2.1 t).2.2.2, σ.2.2.2.2.2) := by
  rw [e_X11_sequential, zif_ok d.k, s_isMachine, Option.bind_some]
  dsimp only
  by_cases ct : isT t = true
  · obtain ⟨j, hj, rfl⟩ := isT_of ct
    have h24 := d.2.2.2.2.2.2.1.2
    rw [if_pos ct, if_neg (by decide), d.fld, d.2.2.2.2.2.2.1.1, Option.bind_some]
    by_cases c24 : σ.2.2.2.1 < 24
    · rw [if_pos (by rw [show (24 : Int32) = nI 24 from rfl, nI_ltI (by omega) (by omega)]; exact c24)]
      simp only [d.g0, d.el hj, Option.bind_some]
      obtain ⟨z, a1, a2, a3⟩ := s_xtest d hj rfl
      rw [zif_ok d.k, a1, Option.bind_some]
      dsimp only
      cases e1 : (tstF (σ.1 j) σ.2.2.1).1 with
      | false =>
        have ea : aSeq σ.1 σ.2.2.1 σ.2.2.2.1 σ.2.2.2.2.1 (nI j) = (-1, (tstF (σ.1 j) σ.2.2.1).2, σ.2.2.2.1, σ.2.2.2.2.1) := by
          unfold aSeq
          rw [if_pos ct, if_pos c24, nI_clamp (by omega), if_neg (by rw [e1]; decide)]
        rw [if_pos (show bI false = 0 from rfl), ea]
        dsimp only
        exact ⟨z, rfl, a2, a3⟩
      | true =>
        have ea : aSeq σ.1 σ.2.2.1 σ.2.2.2.1 σ.2.2.2.2.1 (nI j) = (nI (sqA (σ.1 j)), (tstF (σ.1 j) σ.2.2.1).2, σ.2.2.2.1 + 1, some (σ.1 j)) := by
          unfold aSeq
          rw [if_pos ct, if_pos c24, nI_clamp (by omega), if_pos e1]
        have hf := tstF_n e1
        rw [if_neg (show ¬ bI true = 0 by decide), ea, a3.fld, a3.2.2.2.2.2.2.1.1, Option.bind_some, nI_1, zpI_ok a3.k, Option.bind_some]
        generalize (tstF (σ.1 j) σ.2.2.1).2 = W at *
        have fa : zFr x (x + 1) z (zsI z x 12 (nI (σ.2.2.2.1 + 1))) := zFr_sI (by omega) (by omega)
        have d2 : XI (zsI z x 12 (nI (σ.2.2.2.1 + 1))) x (σ.1, σ.2.1, W, σ.2.2.2.1 + 1, σ.2.2.2.2.1, σ.2.2.2.2.2) := by
          obtain ⟨d1, d2, d3, d4, d5, d6, d7, d8, d9⟩ := a3
          exact ⟨d1.eq (fa.F x 0) (fa.eq (by omega)), d2.of (fa.2.2 x).2, d3.eq (fa.eq (by omega)), d4.eq (fa.eq (by omega)), d5.eq (fa.eq (by omega)), d6.eq (fa.eq (by omega)), ⟨zI_sI, by show σ.2.2.2.1 + 1 ≤ 24; omega⟩, d8.eq (zI_sI_k (by omega)) (zI_sI_k (by omega)) (fa.eq (by omega)), d9.eq (fa.eq (by omega))⟩
        generalize zsI z x 12 (nI (σ.2.2.2.1 + 1)) = z2 at *
        simp only [d2.g0, d2.el hj, Option.bind_some]
        obtain ⟨z3, b1, b2, b3, b4⟩ := s_xmake d2 hj rfl hf
        have k3 : zK z3 x = 12 := (b2.K x).trans d2.k
        rw [zif_ok d2.k, b1, Option.bind_some]
        dsimp only
        rw [zpI_ok k3, Option.bind_some, zgI_ok (show zK (zsI z3 x 13 (nI (sqA (σ.1 j)))) x = 11 + 1 from b4.k), zI_sI, Option.bind_some]
        exact ⟨_, rfl, (a2.tr ((fa.gr.wide (by omega) (by omega)).tr b2)).tr (zGr_sI (by omega) (by omega)), b4⟩
    · have ea : aSeq σ.1 σ.2.2.1 σ.2.2.2.1 σ.2.2.2.2.1 (nI j) = (-2, σ.2.2.1, σ.2.2.2.1, σ.2.2.2.2.1) := by
        unfold aSeq
        rw [if_pos ct, if_neg c24]
      rw [if_neg (by rw [show (24 : Int32) = nI 24 from rfl, nI_ltI (by omega) (by omega)]; exact c24), ea]
      exact ⟨h, rfl, zGr.rf, d⟩
  · have ea : aSeq σ.1 σ.2.2.1 σ.2.2.2.1 σ.2.2.2.2.1 t = (-1, σ.2.2.1, σ.2.2.2.1, σ.2.2.2.2.1) := by
      unfold aSeq
      rw [if_neg ct]
    rw [if_neg ct, if_pos rfl, ea]
    exact ⟨h, rfl, zGr.rf, d⟩
end XC1
