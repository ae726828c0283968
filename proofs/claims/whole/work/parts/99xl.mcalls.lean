/-! The reference: take; its state, all calls. -/
section RCL
variable {h : zM} {m : Nat}
theorem i32_0lt {n : Nat} (hn : n < 2 ^ 31) : (0 : Int32) < nI n ↔ 0 < n := by
  rw [n0, nI_ltI (by omega) hn]
/-- what stands at one place of four -/
def szZ (Z : zLz) (i : Nat) : Option zWo := if i % 4 = 0 then Z.2.2.1 (i / 4) else (Z.2.2.2 (3 * (i / 4) + (i % 4 - 1))).map (·.1)
theorem szZ_ow {Z : zLz} (lz : LZm h m Z) {i : Nat} (hi : i < 4 * Z.1) : OWB h m 64 65 780 i (szZ Z i) := by
  unfold szZ
  by_cases c : i % 4 = 0
  · rw [if_pos c]
    have := (lz.2.2 (i / 4) (by omega)).1
    rw [show 4 * (i / 4) = i by omega] at this
    exact this
  · rw [if_neg c]
    have := ((lz.2.2 (i / 4) (by omega)).2 (i % 4 - 1) (by omega)).1
    rw [show 4 * (i / 4) + (i % 4 - 1 + 1) = i by omega] at this
    exact this
theorem szZ_fit {Z : zLz} : (∀ i, i < 4 * Z.1 → ∀ w, szZ Z i = some w → w.length ≤ 3) ↔ ∀ q, q < Z.1 → (∀ v, Z.2.2.1 q = some v → v.length ≤ 3) ∧ ∀ j, j < 3 → ∀ p, Z.2.2.2 (3 * q + j) = some p → p.1.length ≤ 3 := by
  constructor
  · intro hs q hq
    refine ⟨fun v e => hs (4 * q) (by omega) v ?_, fun j hj p e => hs (4 * q + (j + 1)) (by omega) p.1 ?_⟩
    · unfold szZ
      rw [if_pos (by omega), show 4 * q / 4 = q by omega, e]
    · unfold szZ
      rw [if_neg (by omega), show (4 * q + (j + 1)) / 4 = q by omega, show (4 * q + (j + 1)) % 4 - 1 = j by omega, e]
      rfl
  · intro hs i hi w e
    unfold szZ at e
    by_cases c : i % 4 = 0
    · rw [if_pos c] at e
      exact (hs (i / 4) (by omega)).1 w e
    · rw [if_neg c] at e
      cases e2 : Z.2.2.2 (3 * (i / 4) + (i % 4 - 1)) with
      | none => rw [e2] at e; cases e
      | some p =>
        rw [e2] at e
        have := (hs (i / 4) (by omega)).2 (i % 4 - 1) (by omega) p e2
        cases e
        exact this
theorem s_take34 {Z : zLz} {a1 : Int32} (lay : MLay h m) (lz : LZm h m Z) (hZ : Z.1 ≤ 100) :
    ((∀ i, i < 4 * Z.1 → ∀ w, szZ Z i = some w → w.length ≤ 3) ∧ zm_X12_take 34 [some (.inr m), some (.inl a1), some (.inl (0 : Int32)), none, none] [] h = zm_X12_take 34 [some (.inr m), some (.inl a1), some (.inl (nI (4 * Z.1))), none, none] [] h) ∨ ((¬ ∀ i, i < 4 * Z.1 → ∀ w, szZ Z i = some w → w.length ≤ 3) ∧ zm_X12_take 34 [some (.inr m), some (.inl a1), some (.inl (0 : Int32)), none, none] [] h = some (0, 0, h)) := by
  refine zlq (P := fun i z => z = h ∧ ∀ j, j < i → ∀ w, szZ Z j = some w → w.length ≤ 3) (g := fun i z => zm_X12_take 34 [some (.inr m), some (.inl a1), some (.inl (nI i)), none, none] [] z) (n := 4 * Z.1)
    (Q := fun y => ((∀ i, i < 4 * Z.1 → ∀ w, szZ Z i = some w → w.length ≤ 3) ∧ y = zm_X12_take 34 [some (.inr m), some (.inl a1), some (.inl (nI (4 * Z.1))), none, none] [] h) ∨ ((¬ ∀ i, i < 4 * Z.1 → ∀ w, szZ Z i = some w → w.length ≤ 3) ∧ y = some (0, 0, h))) ?_ ?_ 0 h (Nat.zero_le _) ⟨rfl, fun j hj => absurd hj (Nat.not_lt_zero _)⟩
  · rintro i z hi ⟨rfl, hs⟩
    have ow := szZ_ow lz hi
    have nx : (∀ w, szZ Z i = some w → w.length ≤ 3) → ∀ j, j < i + 1 → ∀ w, szZ Z j = some w → w.length ≤ 3 := fun hw j hj => by
      by_cases e : j = i
      · rw [e]; exact hw
      · exact hs j (by omega)
    rw [e_X12_take_34, mi79 lay, Option.bind_some, lz.1, n4, pk_mul, if_pos ((nI_ltI (by omega) (by omega)).mpr hi), mF81 lay, Option.bind_some, mr81 lay (by omega), Option.bind_some, nI_1]
    cases e : szZ Z i with
    | none =>
      rw [e] at ow
      rw [show zI z (m + 64) i = -1 from ow, if_neg (by decide)]
      exact Or.inr ⟨z, rfl, rfl, nx (fun w ew => by rw [e] at ew; cases ew)⟩
    | some w =>
      rw [e] at ow
      obtain ⟨o1, o2, o3, o4⟩ := (show zI z (m + 64) i = nI w.length ∧ Rw z (m + 65) (780 * i) w ∧ w.length ≤ 780 ∧ LOk w from ow)
      rw [o1, n3]
      by_cases c : 3 < w.length
      · rw [if_pos ((nI_ltI (by omega) (by omega)).mpr c), zb0]
        exact Or.inl (Or.inr ⟨fun q => by have := q i hi w e; omega, rfl⟩)
      · rw [if_neg (by rw [nI_ltI (by omega) (by omega)]; exact c)]
        exact Or.inr ⟨z, rfl, rfl, nx (fun w' ew => by
          rw [e] at ew
          cases ew
          omega)⟩
  · rintro z ⟨rfl, hs⟩
    exact Or.inl ⟨hs, rfl⟩
theorem s_rtake {Ms : Nat → zMa} {o : Option zLz} (d : MMs h m Ms) (hk : ∀ t, t < 2 → MaOk (Ms t)) (lo : LOm h m o) (t : Int32) :
    ∃ h' Ms', zFr (m + 1) (m + 9) h h' ∧ MMs h' m Ms' ∧ ((∃ M, tkO o t M ∧ zf nX12_take [.inr m, .inl t] h = some (1, 0, h') ∧ Ms' = va_up Ms t.toNatClampNeg M) ∨ ((¬ ∃ M, tkO o t M) ∧ zf nX12_take [.inr m, .inl t] h = some (0, 0, h') ∧ Ms' = Ms)) := by
  have lay := d.1
  rw [e_X12_take, s_misMachine, Option.bind_some]
  dsimp only
  by_cases ct : isT t = true
  · obtain ⟨j, hj, rfl⟩ := isT_of ct
    rw [if_pos ct, if_neg (by decide), mi78 lay, Option.bind_some, lo.1]
    have no : (∀ Z, o = some Z → ¬ fitZ Z) → ¬ ∃ M, tkO o (nI j) M := fun hn ⟨_, _, Z, e1, e2, _⟩ => hn Z e1 e2
    cases o with
    | none =>
      rw [if_pos (show bI (none : Option zLz).isSome = 0 from rfl), zb0]
      exact ⟨h, Ms, zFr.rf, d, Or.inr ⟨no (fun Z e => by cases e), rfl, rfl⟩⟩
    | some Z =>
      obtain ⟨lz, hZ, zk⟩ := lo.2 Z rfl
      rw [if_neg (show ¬ bI (some Z).isSome = 0 from (by decide : ¬ bI true = 0)), mi83 lay, Option.bind_some, lz.2.1.1]
      have b3 := lz.2.1.2.2.1
      by_cases c1 : 0 < Z.2.1.length
      · rw [if_pos ((i32_0lt (by omega)).mpr c1), zb0]
        exact ⟨h, Ms, zFr.rf, d, Or.inr ⟨no (fun Z' e f => by
          cases e
          rw [f.2.1] at c1
          exact absurd c1 (Nat.lt_irrefl _)), rfl, rfl⟩⟩
      · have eb : Z.2.1 = [] := List.length_eq_zero_iff.mp (by omega)
        rw [if_neg (fun w => c1 ((i32_0lt (by omega)).mp w)), mi79 lay, Option.bind_some, lz.1, n6]
        by_cases c2 : 6 < Z.1
        · rw [if_pos ((nI_ltI (by omega) (by omega)).mpr c2), zb0]
          exact ⟨h, Ms, zFr.rf, d, Or.inr ⟨no (fun Z' e f => by
            cases e
            have := f.1
            omega), rfl, rfl⟩⟩
        · rw [if_neg (by rw [nI_ltI (by omega) (by omega)]; exact c2)]
          rcases s_take34 (a1 := nI j) lay lz hZ with ⟨f1, f2⟩ | ⟨f1, f2⟩
          · have fit : fitZ Z := ⟨by omega, eb, szZ_fit.mp f1⟩
            obtain ⟨z1, r1, r2, r3⟩ := s_mmachine d hk (nI j) (nI Z.1)
            have eA : aMachine Ms (nI j) (nI Z.1) = (1, va_up Ms j (newM Z.1)) := by
              unfold aMachine
              rw [if_pos ⟨ct, nI_nn (by omega), by rw [n6, nI_ltI (by omega) (by omega)]; omega⟩, nI_clamp (by omega), nI_clamp (by omega)]
            rw [eA] at r1 r3
            rw [tk_new Z] at r3
            rw [f2, e_X12_take_34, mi79 lay, Option.bind_some, lz.1, n4, pk_mul, if_neg (by rw [nI_ltI (by omega) (by omega)]; omega), Option.bind_some, zif_ok lay.1, r1, Option.bind_some]
            dsimp only
            have lz1 := lz.o r2.of8 (by decide) (by decide)
            have loop := zlp (P := fun q z => zFr (m + 1) (m + 9) h z ∧ MMs z m (va_up Ms j (tkQ Z q (3 * q)))) (g := fun q z => zm_X12_take 74 [some (.inr m), some (.inl (nI j)), some (.inl (1 : Int32)), some (.inl (nI q)), none] [] z) (n := Z.1) (fun q z hq hP => by
              obtain ⟨z', g1, g2, g3⟩ := s_take74 (a2 := 1) hj zk fit hq (lz.o hP.1.of8 (by decide) (by decide)) hP.2 hk
              exact ⟨z', g1, hP.1.tr g2, g3⟩) 0 z1 (Nat.zero_le _) ⟨r2, r3⟩
            obtain ⟨z2, e1, e2, e3⟩ := loop
            refine ⟨z2, va_up Ms j (tkM Z), e2, e3, Or.inl ⟨tkM Z, ⟨ct, Z, rfl, fit, rfl⟩, ?_, by rw [nI_clamp (by omega)]⟩⟩
            refine (show _ = _ from e1).trans ?_
            rw [e_X12_take_74, mi79 e3.1, Option.bind_some, (lz.o e2.of8 (by decide) (by decide)).1, if_neg (by rw [nI_ltI (by omega) (by omega)]; omega), zb1]
          · rw [f2]
            exact ⟨h, Ms, zFr.rf, d, Or.inr ⟨no (fun Z' e f => by
              cases e
              exact f1 (szZ_fit.mpr f.2.2)), rfl, rfl⟩⟩
  · rw [if_neg ct, if_pos rfl, zb0]
    exact ⟨h, Ms, zFr.rf, d, Or.inr ⟨fun ⟨_, w, _⟩ => ct w, rfl, rfl⟩⟩
/-- the reference as it stands -/
def RI (h : zM) (m : Nat) (σ : zTa) : Prop := MMs h m σ.1 ∧ MO h m σ.2.1 ∧ WN h m σ.2.2.1 ∧ (zI h m 62 = nI σ.2.2.2.1 ∧ σ.2.2.2.1 ≤ 24) ∧ LTm h m σ.2.2.2.2.1 ∧ UAm h m σ.2.2.2.2.2
/-- the machines change alone -/
theorem RI.ms {h' : zM} {σ : zTa} {Ms' : Nat → zMa} (d : RI h m σ) (f : zFr (m + 1) (m + 9) h h') (d' : MMs h' m Ms') : RI h' m (Ms', σ.2) := by
  have o := f.of8
  exact ⟨d', d.2.1.o o (by decide) (by decide) (by decide), d.2.2.1.o o (by decide) (by decide), ⟨(o.J (by decide)).trans d.2.2.2.1.1, d.2.2.2.1.2⟩, d.2.2.2.2.1.o o (by decide) (by decide), d.2.2.2.2.2.k o (by decide) (by decide)⟩
theorem zFr.grm {h h' : zM} {m : Nat} (f : zFr (m + 1) (m + 9) h h') : zGr m (m + 74) h h' := f.gr.wide (by omega) (by omega)
theorem zFr.of11 {h h' : zM} {m : Nat} (f : zFr (m + 1) (m + 12) h h') : zOf m [1, 2, 3, 4, 5, 6, 7, 8, 9, 10, 11] [] h h' :=
  ⟨f.1, f.2.1, funext fun a => (f.2.2 a).2, fun a h0 hL => (f.2.2 a).1 (fun w => by
    have e1 := hL 1 (by decide)
    have e2 := hL 2 (by decide)
    have e3 := hL 3 (by decide)
    have e4 := hL 4 (by decide)
    have e5 := hL 5 (by decide)
    have e6 := hL 6 (by decide)
    have e7 := hL 7 (by decide)
    have e8 := hL 8 (by decide)
    have e9 := hL 9 (by decide)
    have e10 := hL 10 (by decide)
    have e11 := hL 11 (by decide)
    omega), fun j _ => f.I (by omega) j⟩
theorem RI.ms11 {h' : zM} {σ : zTa} (d : RI h m σ) (f : zFr (m + 1) (m + 12) h h') (d' : MMs h' m σ.1) : RI h' m σ := by
  have o := f.of11
  exact ⟨d', d.2.1.o o (by decide) (by decide) (by decide), d.2.2.1.o o (by decide) (by decide), ⟨(o.J (by decide)).trans d.2.2.2.1.1, d.2.2.2.1.2⟩, d.2.2.2.2.1.o o (by decide) (by decide), d.2.2.2.2.2.k o (by decide) (by decide)⟩
section CAL
variable {σ : zTa}
theorem s_rapply (d : RI h m σ) (hk : ∀ t, t < 2 → MaOk (σ.1 t)) (t w : Int32) : ∃ h', zf nX12_apply [.inr m, .inl t, .inl w] h = some ((aApply σ.1 σ.2.1 t w).1, 0, h') ∧ zGr m (m + 74) h h' ∧ RI h' m (σ.1, (aApply σ.1 σ.2.1 t w).2, σ.2.2) := by
  obtain ⟨h', r1, o, r3, r4⟩ := s_mapply d.1 hk d.2.1 t w
  exact ⟨h', r1, o.gr (by decide), r3, r4, d.2.2.1.o o (by decide) (by decide), ⟨(o.J (by decide)).trans d.2.2.2.1.1, d.2.2.2.1.2⟩, d.2.2.2.2.1.o o (by decide) (by decide), d.2.2.2.2.2.k o (by decide) (by decide)⟩
theorem RI.wn {h' : zM} {W : zWt} (d : RI h m σ) (o : zOf m Lx Jx h h') (w : WN h' m W) : RI h' m (σ.1, σ.2.1, W, σ.2.2.2) :=
  ⟨d.1.o2 o (by decide), d.2.1.o o (by decide) (by decide) (by decide), w, ⟨(o.J (by decide)).trans d.2.2.2.1.1, d.2.2.2.1.2⟩, d.2.2.2.2.1.o o (by decide) (by decide), d.2.2.2.2.2.k o (by decide) (by decide)⟩
theorem s_rfunctional (d : RI h m σ) (hk : ∀ t, t < 2 → MaOk (σ.1 t)) (t : Int32) : ∃ h', zf nX12_functional [.inr m, .inl t] h = some ((aFunctional σ.1 σ.2.2.1 t).1, 0, h') ∧ zGr m (m + 74) h h' ∧ RI h' m (σ.1, σ.2.1, (aFunctional σ.1 σ.2.2.1 t).2, σ.2.2.2) := by
  have r := s_mfunctional d.1 hk d.2.2.1 t
  generalize aFunctional σ.1 σ.2.2.1 t = X at *
  obtain ⟨h', r1, o, r3⟩ := r
  exact ⟨h', r1, o.gr (by decide), d.wn o r3⟩
theorem s_rreaders (d : RI h m σ) (hk : ∀ t, t < 2 → MaOk (σ.1 t)) : ∃ h', zf nX12_readers [.inr m] h = some ((aReaders σ.1 σ.2.2.1).1, 0, h') ∧ zGr m (m + 74) h h' ∧ RI h' m (σ.1, σ.2.1, (aReaders σ.1 σ.2.2.1).2, σ.2.2.2) := by
  have r := s_mreaders d.1 hk d.2.2.1
  generalize aReaders σ.1 σ.2.2.1 = X at *
  obtain ⟨h', r1, o, r3⟩ := r
  exact ⟨h', r1, o.gr (by decide), d.wn o r3⟩
theorem s_rsame (d : RI h m σ) (hk : ∀ t, t < 2 → MaOk (σ.1 t)) : ∃ h', zf nX12_same [.inr m] h = some ((aSame σ.1 σ.2.2.1).1, 0, h') ∧ zGr m (m + 74) h h' ∧ RI h' m (σ.1, σ.2.1, (aSame σ.1 σ.2.2.1).2, σ.2.2.2) := by
  have r := s_msame d.1 hk d.2.2.1
  generalize aSame σ.1 σ.2.2.1 = X at *
  obtain ⟨h', r1, o, r3⟩ := r
  exact ⟨h', r1, o.gr (by decide), d.wn o r3⟩
theorem s_ract2 (d : RI h m σ) (w : Int32) : ∃ h', zf nX12_act [.inr m, .inl w] h = some ((aAct (lzO σ.2.2.2.2.1) σ.2.2.2.2.2 w).1, 0, h') ∧ zGr m (m + 74) h h' ∧ RI h' m (σ.1, σ.2.1, σ.2.2.1, σ.2.2.2.1, σ.2.2.2.2.1, (aAct (lzO σ.2.2.2.2.1) σ.2.2.2.2.2 w).2) := by
  have r := s_ract d.1.1 d.2.2.2.2.1.lo d.2.2.2.2.2 w
  generalize aAct (lzO σ.2.2.2.2.1) σ.2.2.2.2.2 w = X at *
  obtain ⟨h', r1, o, r3⟩ := r
  exact ⟨h', r1, o.gr (by decide), d.1.o2 o (by decide), d.2.1.o o (by decide) (by decide) (by decide), d.2.2.1.o o (by decide) (by decide), ⟨(o.J (by decide)).trans d.2.2.2.1.1, d.2.2.2.1.2⟩, d.2.2.2.2.1.o o (by decide) (by decide), r3⟩
theorem s_rsequential (d : RI h m σ) (hk : ∀ t, t < 2 → MaOk (σ.1 t)) (t : Int32) : ∃ h', zf nX12_sequential [.inr m, .inl t] h = some ((aSeq σ.1 σ.2.2.1 σ.2.2.2.1 σ.2.2.2.2.1 t).1, 0, h') ∧ zGr m (m + 74) h h' ∧ RI h' m (σ.1, σ.2.1, (aSeq σ.1 σ.2.2.1 σ.2.2.2.1 σ.2.2.2.2.1 t).2.1, (aSeq σ.1 σ.2.2.1 σ.2.2.2.1 σ.2.2.2.2.1 t).2.2.1, (aSeq σ.1 σ.2.2.1 σ.2.2.2.1 σ.2.2.2.2.1 t).2.2.2, σ.2.2.2.2.2) := by
  obtain ⟨mm, mo, wn, ⟨e62, hn⟩, lt, ua⟩ := id d
  have lay := mm.1
  rw [e_X12_sequential, s_misMachine, Option.bind_some]
  dsimp only
  by_cases ct : isT t = true
  · obtain ⟨j, hj, rfl⟩ := isT_of ct
    obtain ⟨b, W, hT⟩ := ex_pr (tstF (σ.1 j) σ.2.2.1)
    rw [aSeq_lt hj hT, if_pos ct, if_neg (by decide), mi62 lay, Option.bind_some, e62]
    by_cases c24 : σ.2.2.2.1 < 24
    · rw [if_neg (by rw [show (24 : Int32) = nI 24 from rfl, nI_eq (by omega) (by omega)]; omega), if_pos c24]
      obtain ⟨z1, a1, a2, a3⟩ := s_mfun2 mm hk wn hj hT
      have d1 : RI z1 m (σ.1, σ.2.1, W, σ.2.2.2) := d.wn a2 a3
      rw [zif_ok lay.1, a1, Option.bind_some]
      dsimp only
      cases b with
      | false =>
        rw [if_pos (show bI false = 0 from rfl), if_neg (by decide)]
        exact ⟨z1, rfl, a2.gr (by decide), d1⟩
      | true =>
        have hf := tstF_t hT
        have l1 := d1.1.1
        rw [if_neg (show ¬ bI true = 0 by decide), if_pos rfl, zif_ok l1.1]
        obtain ⟨z2, b1, b2, b3, b4⟩ := s_muses d1.1 hk hj
        have o2 := b2.of9
        rw [b1, Option.bind_some]
        dsimp only
        rw [mp78 b3.1 (Or.inl rfl), Option.bind_some, mi62 b3.1.sI, Option.bind_some, zI_sI_k (by omega), o2.J (by decide), a2.J (by decide), e62, nI_1, mp62 b3.1.sI, Option.bind_some]
        have o3 : zOf m [] [62, 78] z2 (zsI (zsI z2 m 78 0) m 62 (nI (σ.2.2.2.1 + 1))) := (zOf_pI (by decide)).tr (zOf_pI (by decide))
        have w78 : zI (zsI (zsI z2 m 78 0) m 62 (nI (σ.2.2.2.1 + 1))) m 78 = 0 := by rw [zI_sI_k (by omega), zI_sI]
        have w62 : zI (zsI (zsI z2 m 78 0) m 62 (nI (σ.2.2.2.1 + 1))) m 62 = nI (σ.2.2.2.1 + 1) := zI_sI
        generalize zsI (zsI z2 m 78 0) m 62 (nI (σ.2.2.2.1 + 1)) = z3 at *
        have d3 := b3.o2 o3 (by decide)
        have u3 := b4.o o3 (by decide)
        obtain ⟨z4, f1, f2, f3, f4⟩ := s_mtwinsOf d3 hk hj u3
        have l4 := f2.lay d3.1
        rw [zif_ok d3.1.1, f1, Option.bind_some]
        dsimp only
        rw [mF63 l4, Option.bind_some, mi61 l4, Option.bind_some, f3, n0, mw63 l4 (by omega), Option.bind_some, mF63 l4.sI, Option.bind_some, mi54 l4.sI, Option.bind_some, zI_sI_a (by omega), f4, n1, mw63 l4.sI (by omega), Option.bind_some]
        have o5 : zOf m [50] [] z4 (zsI (zsI z4 (m + 50) 0 (nI (twJ (σ.1 j)).2.1)) (m + 50) 1 (nI (twJ (σ.1 j)).2.2.1.length)) := (zOf_sI (by decide) (by decide)).tr (zOf_sI (by decide) (by decide))
        have v0 : zI (zsI (zsI z4 (m + 50) 0 (nI (twJ (σ.1 j)).2.1)) (m + 50) 1 (nI (twJ (σ.1 j)).2.2.1.length)) (m + 50) 0 = nI (twJ (σ.1 j)).2.1 := by rw [zI_sI_k (by omega), zI_sI]
        have v1 : zI (zsI (zsI z4 (m + 50) 0 (nI (twJ (σ.1 j)).2.1)) (m + 50) 1 (nI (twJ (σ.1 j)).2.2.1.length)) (m + 50) 1 = nI (twJ (σ.1 j)).2.2.1.length := zI_sI
        generalize zsI (zsI z4 (m + 50) 0 (nI (twJ (σ.1 j)).2.1)) (m + 50) 1 (nI (twJ (σ.1 j)).2.2.1.length) = z5 at *
        have o35 : zOf m Lq Jq z3 z5 := (f2.wide (by decide) (by decide)).tr (o5.wide (by decide) (by decide))
        have v78 : zI z5 m 78 = 0 := ((o5.J (by decide)).trans (f2.J (by decide))).trans w78
        have v62 : zI z5 m 62 = nI (σ.2.2.2.1 + 1) := ((o5.J (by decide)).trans (f2.J (by decide))).trans w62
        have o13 : zOf m Lq Jq z1 z3 := (o2.wide (by decide) (by decide)).tr (o3.wide (by decide) (by decide))
        obtain ⟨h', q1, q2, q3, q4⟩ := s_seq79 (d3.o2 o35 (by decide)) hk hj ((u3.o f2 (by decide)).o o5 (by decide)) hf v0 v1 v78 (twRun_lt _ _ _ _ _ _)
        have oT : zOf m Lq Jq z1 h' := (o13.tr o35).tr q2
        refine ⟨h', q1, (a2.gr (by decide)).tr (oT.gr (by decide)), d1.1.o2 oT (by decide), d1.2.1.o oT (by decide) (by decide) (by decide), a3.o oT (by decide) (by decide), ⟨q3.trans v62, by show σ.2.2.2.1 + 1 ≤ 24; omega⟩, q4, d1.2.2.2.2.2.k oT (by decide) (by decide)⟩
    · rw [if_pos (by rw [show σ.2.2.2.1 = 24 by omega]; rfl), if_neg c24]
      exact ⟨h, rfl, zGr.rf, mm, mo, wn, ⟨e62, hn⟩, lt, ua⟩
  · rw [aSeq_no ct, if_neg ct, if_pos rfl]
    exact ⟨h, rfl, zGr.rf, mm, mo, wn, ⟨e62, hn⟩, lt, ua⟩
end CAL
end RCL
