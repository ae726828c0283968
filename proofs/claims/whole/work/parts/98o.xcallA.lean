/-! The class: its state; apply, output, functional, readers. -/
theorem sqA_good {M : zMa} (k : MaOk M) (hf : difW FT M M = none) (h : sqA M = 1) : sGood M := by
  unfold sqA at h
  by_cases c : (twJ M).1 = 1
  · rw [if_pos c] at h
    by_cases c2 : (sMake M).1.length ≤ 100
    · exact ⟨k, hf, c, c2⟩
    · rw [if_neg c2] at h; cases h
  · rw [if_neg c] at h
    exact absurd h c
def XFl (h : zM) (x : Nat) : Prop := (zF h x 1 = x + 14 ∧ zF h x 2 = x + 382 ∧ zF h x 3 = x + 759 ∧ zF h x 4 = x + 764 ∧ zF h x 5 = x + 842 ∧ zF h x 6 = x + 5856) ∧ zF h x 7 = x + 7674 ∧ zF h x 8 = x + 8083 ∧ zF h x 9 = x + 8085 ∧ zF h x 10 = x + 8087 ∧ zF h x 11 = x + 8089
/-- twins, sets, the least machine -/
def XS (h : zM) (x : Nat) (L : Option zMa) : Prop := TS h (x + 842) ∧ SS h (x + 5856) ∧ YS h (x + 5856) (x + 7674) ∧ match L with
  | none => zI h x 13 = -1
  | some M => MaOk M ∧ difW FT M M = none ∧ zI h x 13 = nI (sqA M) ∧ zI h (x + 842) 0 = nI (twJ M).2.1 ∧ zI h (x + 842) 1 = nI (twJ M).2.2.1.length ∧ zI h x 14 = sqS M ∧ (sqA M = 1 → LF h (x + 5856) (x + 7674) M)
/-- the words of the bench -/
def XW (h : zM) (x : Nat) (u : zWo) : Prop := (∃ w, Wd h (x + 8083) 9 w) ∧ Wd h (x + 8085) 30 u ∧ (∃ w, Wd h (x + 8087) 128 w) ∧ ∃ w, Wd h (x + 8089) 128 w
/-- the class's object as it stands -/
def XI (h : zM) (x : Nat) (σ : zTa) : Prop := XMs h x σ.1 ∧ XFl h x ∧ OutP h (x + 14) σ.2.1 ∧ DS h (x + 382) ∧ RS h (x + 759) ∧ WT h (x + 764) σ.2.2.1 ∧ (zI h x 12 = nI σ.2.2.2.1 ∧ σ.2.2.2.1 ≤ 24) ∧ XS h x σ.2.2.2.2.1 ∧ XW h x σ.2.2.2.2.2
section XA1
variable {h h' : zM} {x : Nat}
theorem XFl.of (d : XFl h x) (e : h'.2.2.2 x = h.2.2.2 x) : XFl h' x := by
  have q : ∀ j, zF h' x j = zF h x j := fun j => congrFun e j
  obtain ⟨⟨a1, a2, a3, a4, a5, a6⟩, b1, b2, b3, b4, b5⟩ := d
  exact ⟨⟨(q 1).trans a1, (q 2).trans a2, (q 3).trans a3, (q 4).trans a4, (q 5).trans a5, (q 6).trans a6⟩, (q 7).trans b1, (q 8).trans b2, (q 9).trans b3, (q 10).trans b4, (q 11).trans b5⟩
theorem XS.eq {L : Option zMa} (d : XS h x L) (e13 : zI h' x 13 = zI h x 13) (e14 : zI h' x 14 = zI h x 14) (f : zEq (x + 842) (x + 8083) h h') : XS h' x L := by
  refine ⟨d.1.eq (f.sub (by omega) (by omega)), d.2.1.eq (f.sub (by omega) (by omega)), d.2.2.1.eq (f.sub (by omega) (by omega)), ?_⟩
  have d4 := d.2.2.2
  cases L with
  | none => exact e13.trans d4
  | some M =>
    obtain ⟨k, hf, a1, a2, a3, a4, a5⟩ := d4
    exact ⟨k, hf, e13.trans a1, (f.I (by omega) (by omega) _).trans a2, (f.I (by omega) (by omega) _).trans a3, e14.trans a4, fun e => (a5 e).eq (sqA_good k hf e) (f.sub (by omega) (by omega)) (f.sub (by omega) (by omega))⟩
theorem XW.eq {u : zWo} (d : XW h x u) (f : zEq (x + 8083) (x + 8091) h h') : XW h' x u := by
  obtain ⟨⟨a, ha⟩, hb, ⟨c, hc⟩, ⟨e, he⟩⟩ := d
  exact ⟨⟨a, ha.eq (f.sub (by omega) (by omega))⟩, hb.eq (f.sub (by omega) (by omega)), ⟨c, hc.eq (f.sub (by omega) (by omega))⟩, e, he.eq (f.sub (by omega) (by omega))⟩
theorem zGr.refs {lo hi : Nat} (f : zGr lo hi h h') {a : Nat} (ha : ¬ (lo ≤ a ∧ a < hi)) : h'.2.2.2 a = h.2.2.2 a := (f.2.2 a ha).2
theorem XI.mc {σ : zTa} (d : XI h x σ) {t : Nat} (ht : t < 2) : MC h (x + 2 + 6 * t) (σ.1 t) ∧ MaOk (σ.1 t) := d.1.2 t ht
section GET
variable {σ : zTa}
theorem XI.k (d : XI h x σ) : zK h x = 12 := d.1.1.1
theorem XI.g0 (d : XI h x σ) : zgF h x 11 0 = some (x + 1) := d.1.f0
theorem XI.g1 (d : XI h x σ) : zgF h x 11 1 = some (x + 14) := (zgF_ok d.1.1.1).trans (congrArg some d.2.1.1.1)
theorem XI.g2 (d : XI h x σ) : zgF h x 11 2 = some (x + 382) := (zgF_ok d.1.1.1).trans (congrArg some d.2.1.1.2.1)
theorem XI.g3 (d : XI h x σ) : zgF h x 11 3 = some (x + 759) := (zgF_ok d.1.1.1).trans (congrArg some d.2.1.1.2.2.1)
theorem XI.g4 (d : XI h x σ) : zgF h x 11 4 = some (x + 764) := (zgF_ok d.1.1.1).trans (congrArg some d.2.1.1.2.2.2.1)
theorem XI.g5 (d : XI h x σ) : zgF h x 11 5 = some (x + 842) := (zgF_ok d.1.1.1).trans (congrArg some d.2.1.1.2.2.2.2.1)
theorem XI.g6 (d : XI h x σ) : zgF h x 11 6 = some (x + 5856) := (zgF_ok d.1.1.1).trans (congrArg some d.2.1.1.2.2.2.2.2)
theorem XI.g7 (d : XI h x σ) : zgF h x 11 7 = some (x + 7674) := (zgF_ok d.1.1.1).trans (congrArg some d.2.1.2.1)
theorem XI.g8 (d : XI h x σ) : zgF h x 11 8 = some (x + 8083) := (zgF_ok d.1.1.1).trans (congrArg some d.2.1.2.2.1)
theorem XI.g9 (d : XI h x σ) : zgF h x 11 9 = some (x + 8085) := (zgF_ok d.1.1.1).trans (congrArg some d.2.1.2.2.2.1)
theorem XI.g10 (d : XI h x σ) : zgF h x 11 10 = some (x + 8087) := (zgF_ok d.1.1.1).trans (congrArg some d.2.1.2.2.2.2.1)
theorem XI.g11 (d : XI h x σ) : zgF h x 11 11 = some (x + 8089) := (zgF_ok d.1.1.1).trans (congrArg some d.2.1.2.2.2.2.2)
theorem XI.el (d : XI h x σ) {t : Nat} (ht : t < 2) : zaa h (x + 1) (nI t) = some (x + 2 + 6 * t) := d.1.el ht
end GET
theorem s_isInput (w : Int32) (h : zM) : zf nX11_isInput [.inl w] h = some (if isW 3 9 w = true then 1 else 0, 0, h) := by
  rw [e_X11_isInput, show ([.inl w, .inl (3 : Int32), .inl (9 : Int32)] : List zV) = [.inl w, .inl (nI 3), .inl (nI 9)] from rfl, s_isWord 3 9 (by decide) (by decide), Option.bind_some]
  dsimp only
  split
  · rw [zb1]
  · rw [zb0]
/-- asked reads a word -/
theorem XI.ask {σ : zTa} (d : XI h x σ) (w : Int32) (hw : isW 3 9 w = true) : zK h (x + 8083) = 11 ∧ ∃ h', zf nX10_read [.inr (x + 8083), .inl w] h = some (0, 0, h') ∧ zFr (x + 8083) (x + 8085) h h' ∧ XI h' x σ ∧ Wd h' (x + 8083) 9 ((usOf w).map nI) := by
  obtain ⟨a, ha⟩ := d.2.2.2.2.2.2.2.2.1
  obtain ⟨h', r1, r2, r3⟩ := s_read ha w
  obtain ⟨k, rfl, k2, k3, k4, k5, k6, k7, k8⟩ := isW_in hw
  have r3 : Wd h' (x + 8083) 9 ((usOf (nI k)).map nI) := by
    rw [k4]
    rw [List.take_of_length_le] at r3
    · exact r3
    · rw [← k4, List.length_map]
      exact k5
  obtain ⟨d1, d2, d3, d4, d5, d6, d7, d8, d9⟩ := d
  refine ⟨ha.1, h', r1, r2, ⟨d1.keep r2 (by omega), d2.of (r2.2.2 x).2, d3.eq (r2.eq (by omega)), d4.eq (r2.eq (by omega)), d5.eq (r2.eq (by omega)), d6.eq (r2.eq (by omega)), ⟨(r2.I (by omega) _).trans d7.1, d7.2⟩, d8.eq (r2.I (by omega) _) (r2.I (by omega) _) (r2.eq (by omega)), ⟨_, r3⟩, d9.2.1.eq (r2.eq (by omega)), ?_, ?_⟩, r3⟩
  · obtain ⟨c, hc⟩ := d9.2.2.1
    exact ⟨c, hc.eq (r2.eq (by omega))⟩
  · obtain ⟨c, hc⟩ := d9.2.2.2
    exact ⟨c, hc.eq (r2.eq (by omega))⟩
theorem OutP.k {o : Nat} {fs : List zWo} (d : OutP h o fs) : zK h o = 4 ∧ zI h o 0 = nI fs.length ∧ zF h o 1 = o + 1 ∧ fs.length ≤ 60 ∧ (∀ i, i < fs.length → ∃ a, zaa h (o + 1) (nI i) = some a ∧ Wd h a 30 (fs.getD i [])) := by
  obtain ⟨b1, b2, π, ⟨⟨o1, o2, o3, o4⟩, o5, o6, o7⟩, o8, o9⟩ := d
  refine ⟨o1, o7, o2.1, o8, fun i hi => ⟨o + 2 + 2 * π i, ?_, o9 i hi⟩⟩
  rw [zaa_ok (by omega) (by omega) (by omega), (o6.1 i (by omega)).2]
theorem s_xapply {σ : zTa} (d : XI h x σ) (t w : Int32) : ∃ h', zf nX11_apply [.inr x, .inl t, .inl w] h = some ((aApply σ.1 σ.2.1 t w).1, 0, h') ∧ zGr x (x + 8091) h h' ∧ XI h' x (σ.1, (aApply σ.1 σ.2.1 t w).2, σ.2.2) := by
  rw [e_X11_apply, zif_ok d.k, s_isMachine, Option.bind_some]
  dsimp only
  unfold aApply
  by_cases ct : isT t = true
  · obtain ⟨j, hj, rfl⟩ := isT_of ct
    rw [if_pos ct, if_neg (by decide), s_isInput, Option.bind_some]
    dsimp only
    by_cases cw : isW 3 9 w = true
    · rw [if_pos cw, if_neg (by decide), if_pos ⟨ct, cw⟩, nI_clamp (by omega)]
      obtain ⟨k1, h1, r1, r2, r3, r4⟩ := d.ask w cw
      obtain ⟨k, -, -, -, k4, k5, k6, -, -⟩ := isW_in cw
      simp only [d.g8, Option.bind_some, zif_ok k1, r1, r3.g1, r3.g0, r3.el hj, r3.g8]
      obtain ⟨m1, m2⟩ := r3.mc hj
      have fin : ∀ (z : zM) (fs' : List zWo), zGr (x + 14) (x + 14 + 368) h1 z → OutP z (x + 14) fs' → zGr x (x + 8091) h z ∧ XI z x (σ.1, fs', σ.2.2) := fun z fs' f o => by
        obtain ⟨d1, d2, d3, d4, d5, d6, d7, d8, d9⟩ := r3
        exact ⟨(r2.gr.wide (by omega) (by omega)).tr (f.wide (by omega) (by omega)), d1.eq (by unfold zF; rw [f.refs (by omega)]) (f.eq (by omega)), d2.of (f.refs (by omega)), o, d4.eq (f.eq (by omega)), d5.eq (f.eq (by omega)), d6.eq (f.eq (by omega)), ⟨(f.I (by omega) _).trans d7.1, d7.2⟩, d8.eq (f.I (by omega) _) (f.I (by omega) _) (f.eq (by omega)), d9.eq (f.eq (by omega))⟩
      rcases s_ogather m1 m2 (by omega) r3.2.2.1 r4 (by omega) ⟨k5, fun c hc => by have := k6 c hc; omega⟩ with ⟨e1, z, e2, e3, e4⟩ | ⟨fs', e1, z, e2, e3, e4⟩
      · rw [zif_ok r3.2.2.1.k.1, e2, Option.bind_some, e1]
        obtain ⟨q1, q2⟩ := fin z [] e3 e4
        exact ⟨z, rfl, q1, q2⟩
      · rw [zif_ok r3.2.2.1.k.1, e2, Option.bind_some, e1]
        obtain ⟨q1, q2⟩ := fin z fs' e3 e4
        dsimp only
        rw [if_neg (by decide), q2.g1, Option.bind_some, zgI_ok q2.2.2.1.k.1, q2.2.2.1.k.2.1, Option.bind_some]
        exact ⟨z, rfl, q1, q2⟩
    · rw [if_neg cw, if_pos rfl, if_neg (fun c => cw c.2)]
      exact ⟨h, rfl, zGr.rf, d⟩
  · rw [if_neg ct, if_pos rfl, if_neg (fun c => ct c.1)]
    exact ⟨h, rfl, zGr.rf, d⟩
theorem s_xoutput {σ : zTa} (d : XI h x σ) (i k : Int32) : zf nX11_output [.inr x, .inl i, .inl k] h = some (aOutput σ.2.1 i k, 0, h) := by
  rw [e_X11_output]
  unfold aOutput
  by_cases c0 : i < 0
  · rw [if_pos c0, if_neg (fun w => w.1 c0)]
  obtain ⟨o1, o2, o3, o4, o5⟩ := d.2.2.1.k
  rw [if_neg c0, d.g1, Option.bind_some, zgI_ok o1, o2, Option.bind_some]
  by_cases c1 : i < nI σ.2.1.length
  · obtain ⟨j, hj, rfl⟩ := i32_nn c0 c1 (by omega)
    obtain ⟨a, a1, a2⟩ := o5 j hj
    rw [if_pos c1, if_pos ⟨c0, c1⟩, Option.bind_some, zgF_ok o1, o3, Option.bind_some, a1, Option.bind_some, zif_ok a2.1, s_letterAt a2, Option.bind_some, nI_clamp (by omega)]
  · rw [if_neg c1, if_neg (fun w => c1 w.2)]
/-- the test of a machine -/
theorem s_xtest {σ : zTa} (d : XI h x σ) {t A : Nat} (ht : t < 2) (hA : A = x + 2 + 6 * t) : ∃ h', zf nX11_testFunctional [.inr x, .inr A] h = some (bI (tstF (σ.1 t) σ.2.2.1).1, 0, h') ∧ zGr x (x + 8091) h h' ∧ XI h' x (σ.1, σ.2.1, (tstF (σ.1 t) σ.2.2.1).2, σ.2.2.2) := by
  subst hA
  obtain ⟨m1, m2⟩ := d.mc ht
  obtain ⟨w0, hw0⟩ := d.2.2.2.2.2.2.2.2.2.2.1
  rw [e_X11_testFunctional, d.g2, Option.bind_some, d.g10, Option.bind_some, zif_ok d.2.2.2.1.1.1.1]
  unfold tstF
  rcases s_Ddiffer m1 m2 m1 m2 (by omega) (by omega) d.2.2.2.1 (by omega) hw0 with ⟨e1, z, e2, e3, e4⟩ | ⟨w, e1, z1, z, e2, e3, e4, e5, e6⟩
  · rw [e2, Option.bind_some, e1]
    dsimp only
    rw [if_pos rfl, zb1]
    obtain ⟨d1, d2, d3, d4, d5, d6, d7, d8, d9⟩ := d
    exact ⟨z, rfl, e3.gr.wide (by omega) (by omega), d1.keep e3 (by omega), d2.of (e3.2.2 x).2, d3.eq (e3.eq (by omega)), e4, d5.eq (e3.eq (by omega)), d6.eq (e3.eq (by omega)), ⟨(e3.I (by omega) _).trans d7.1, d7.2⟩, d8.eq (e3.I (by omega) _) (e3.I (by omega) _) (e3.eq (by omega)), d9.eq (e3.eq (by omega))⟩
  · rw [e2, Option.bind_some, e1]
    dsimp only
    have hlen := difW_len m2 m2 e1
    have dz : XI z x σ := by
      obtain ⟨d1, d2, d3, d4, d5, d6, d7, d8, d9⟩ := d
      refine ⟨(d1.keep e3 (by omega)).keep e4 (by omega), (d2.of (e3.2.2 x).2).of (e4.2.2 x).2, (d3.eq (e3.eq (by omega))).eq (e4.eq (by omega)), e5, (d5.eq (e3.eq (by omega))).eq (e4.eq (by omega)), (d6.eq (e3.eq (by omega))).eq (e4.eq (by omega)), ⟨(e4.I (by omega) _).trans ((e3.I (by omega) _).trans d7.1), d7.2⟩, (d8.eq (e3.I (by omega) _) (e3.I (by omega) _) (e3.eq (by omega))).eq (e4.I (by omega) _) (e4.I (by omega) _) (e4.eq (by omega)), ?_⟩
      have d9 := d9.eq (e3.eq (by omega))
      obtain ⟨a, ha⟩ := d9.1
      obtain ⟨c, hc⟩ := d9.2.2.2
      exact ⟨⟨a, ha.eq (e4.eq (by omega))⟩, d9.2.1.eq (e4.eq (by omega)), ⟨_, e6⟩, c, hc.eq (e4.eq (by omega))⟩
    have gr1 : zGr x (x + 8091) h z := (e3.gr.wide (by omega) (by omega)).tr (e4.gr.wide (by omega) (by omega))
    obtain ⟨m3, m4⟩ := dz.mc ht
    have wk : zK z (x + 764) = 10 := by
      obtain ⟨b1, b2, w0, -⟩ := dz.2.2.2.2.2.1
      exact w0.1.1
    rw [if_neg (by decide), dz.g4, Option.bind_some, dz.g10, Option.bind_some, zif_ok wk]
    obtain ⟨z3, a1, a2, a3⟩ := s_tellO m3 m4 (by omega) dz.2.2.2.2.2.1 (by omega) e6 (fun l hl => by have := hlen.2 l hl; omega)
    rw [a1, Option.bind_some, zb0]
    obtain ⟨d1, d2, d3, d4, d5, d6, d7, d8, d9⟩ := dz
    exact ⟨z3, rfl, gr1.tr (a2.wide (by omega) (by omega)), d1.eq (by unfold zF; rw [a2.refs (by omega)]) (a2.eq (by omega)), d2.of (a2.refs (by omega)), d3.eq (a2.eq (by omega)), d4.eq (a2.eq (by omega)), d5.eq (a2.eq (by omega)), a3, ⟨(a2.I (by omega) _).trans d7.1, d7.2⟩, d8.eq (a2.I (by omega) _) (a2.I (by omega) _) (a2.eq (by omega)), d9.eq (a2.eq (by omega))⟩
theorem s_xfunctional {σ : zTa} (d : XI h x σ) (t : Int32) : ∃ h', zf nX11_functional [.inr x, .inl t] h = some ((aFunctional σ.1 σ.2.2.1 t).1, 0, h') ∧ zGr x (x + 8091) h h' ∧ XI h' x (σ.1, σ.2.1, (aFunctional σ.1 σ.2.2.1 t).2, σ.2.2.2) := by
  rw [e_X11_functional, zif_ok d.k, s_isMachine, Option.bind_some]
  dsimp only
  unfold aFunctional
  by_cases ct : isT t = true
  · obtain ⟨j, hj, rfl⟩ := isT_of ct
    rw [if_pos ct, if_neg (by decide), if_pos ct, d.g0, Option.bind_some, d.el hj, Option.bind_some, zif_ok d.k, nI_clamp (by omega)]
    obtain ⟨z, a1, a2, a3⟩ := s_xtest d hj rfl
    rw [a1, Option.bind_some]
    dsimp only
    refine ⟨z, ?_, a2, a3⟩
    cases (tstF (σ.1 j) σ.2.2.1).1 with
    | true => rw [if_neg (by decide)]; rfl
    | false => rw [if_pos (show bI false = 0 from rfl)]; rfl
  · rw [if_neg ct, if_pos rfl, if_neg ct]
    exact ⟨h, rfl, zGr.rf, d⟩
end XA1
