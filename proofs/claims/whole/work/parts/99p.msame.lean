/-! The reference: functional, readers, same. -/
abbrev Lx : List Nat := [21, 22, 23, 24, 25, 26, 27, 28, 29, 30, 31, 32, 33, 34, 35, 36, 37, 38, 39, 40, 41, 42, 43, 44, 45]
abbrev Jx : List Nat := [23, 32, 45, 46, 47, 48]
/-- the witness as it stands -/
def WN (h : zM) (m : Nat) (st : zWt) : Prop := match st with
  | none => zI h m 23 = -2 ∧ ∀ w, w < 2 → zI h (m + 22) w = -2
  | some p => SN h m p.1 ∧ ∀ w, w < 2 → WRt h m w (p.2 w)
theorem WN.o {h h' : zM} {m : Nat} {st : zWt} {L J : List Nat} (d : WN h m st) (f : zOf m L J h h') (h1 : 21 ∉ L ∧ 22 ∉ L ∧ 23 ∉ L) (h2 : 23 ∉ J) : WN h' m st := by
  cases st with
  | none => exact ⟨(f.J h2).trans d.1, fun w hw => (f.C (by omega) h1.2.1 _).trans (d.2 w hw)⟩
  | some p => exact ⟨d.1.o f h1.1 h2, fun w hw => (d.2 w hw).o f h1.2.1 h1.2.2⟩
theorem s_mwitness {h : zM} {m : Nat} {st : zWt} (lay : MLay h m) (d : WN h m st) (k : Int32) : zf nX12_witness [.inr m, .inl k] h = some (aWitness st k, 0, h) := by
  rw [e_X12_witness, mi23 lay, Option.bind_some]
  cases st with
  | none =>
    rw [d.1, if_pos (by decide)]
    rfl
  | some p =>
    obtain ⟨⟨s1, s2, s3⟩, -⟩ := d
    rw [s1, if_neg (nI_nn (by omega))]
    show _ = some (wAt (p.1.map nI) k, 0, h)
    unfold wAt
    rw [List.length_map]
    by_cases k0 : k < 0
    · rw [if_pos k0, if_pos k0]
    · rw [if_neg k0, if_neg k0, Option.bind_some]
      by_cases k1 : k < nI p.1.length
      · obtain ⟨j, hj, rfl⟩ := i32_nn k0 k1 (by omega)
        have := s2 j (by rw [List.length_map]; exact hj)
        rw [Nat.zero_add] at this
        rw [if_pos k1, if_pos k1, mF24 lay, Option.bind_some, mr24 lay (by omega), Option.bind_some, this, nI_clamp (by omega)]
      · rw [if_neg k1, if_neg k1]
theorem s_mwrote {h : zM} {m : Nat} {st : zWt} (lay : MLay h m) (d : WN h m st) (t k : Int32) : zf nX12_wrote [.inr m, .inl t, .inl k] h = some (aWrote st t k, 0, h) := by
  rw [e_X12_wrote]
  by_cases c0 : t < 0
  · rw [if_pos c0]
    cases st with
    | none => rfl
    | some p =>
      show _ = some ((if ¬ t < 0 ∧ t < 2 then _ else (-2 : Int32)), 0, h)
      rw [if_neg (fun w => w.1 c0)]
  rw [if_neg c0]
  by_cases c2 : t < nI 2
  · obtain ⟨j, hj, rfl⟩ := i32_nn (n := 2) c0 c2 (by omega)
    rw [if_neg (by rw [n1, nI_ltI (by omega) (by omega)]; omega), mF25 lay, Option.bind_some, mr25 lay hj, Option.bind_some]
    cases st with
    | none =>
      rw [d.2 j hj, if_pos (by decide)]
      rfl
    | some p =>
      have wr := d.2 j hj
      have ea : aWrote (some p) (nI j) k = (match p.2 j with | none => -2 | some u => wAt u k) := by
        unfold aWrote
        dsimp only
        rw [if_pos ⟨c0, c2⟩, nI_clamp (by omega)]
        rfl
      rw [ea]
      cases e : p.2 j with
      | none =>
        rw [e] at wr
        rw [show zI h (m + 22) j = -2 from wr, if_pos (by decide)]
      | some x =>
        rw [e] at wr
        obtain ⟨w1, w2, w3⟩ := wr
        rw [w1, if_neg (nI_nn (by omega))]
        dsimp only
        unfold wAt
        by_cases k0 : k < 0
        · rw [if_pos k0, if_pos k0]
        · rw [if_neg k0, if_neg k0, Option.bind_some, mr25 lay hj, Option.bind_some, w1]
          by_cases k1 : k < nI x.length
          · obtain ⟨q, hq, rfl⟩ := i32_nn k0 k1 (by omega)
            rw [if_pos k1, if_pos k1, mF26 lay, Option.bind_some, n13000, pk_mul, nI_add, mr26 lay (by omega), Option.bind_some, w2 q hq, nI_clamp (by omega)]
          · rw [if_neg k1, if_neg k1]
  · have e : ¬ t < nI 2 → 1 < t := fun w => by
      rw [Int32.lt_iff_toInt_lt] at w c0 ⊢
      have e2 : (nI 2).toInt = 2 := by decide
      have e1 : (1 : Int32).toInt = 1 := by decide
      omega
    rw [if_pos (e c2)]
    cases st with
    | none => rfl
    | some p =>
      show _ = some ((if ¬ t < 0 ∧ t < 2 then _ else (-2 : Int32)), 0, h)
      rw [if_neg (fun w => c2 w.2)]
/-- the word and both outputs of one machine -/
theorem s_mleast1 {h : zM} {m t : Nat} {Ms : Nat → zMa} {us : List Nat} (d : MMs h m Ms) (hk : ∀ t, t < 2 → MaOk (Ms t)) (ht : t < 2) (sn : SN h m us) (hus : ∀ l ∈ us, l < 4) :
    ∃ h', zf nX12_leasts [.inr m, .inl (nI t)] h = some (0, 0, h') ∧ zOf m [24, 25, 26, 27, 28] [] h h' ∧ ∀ k, k < 2 → slR h' m 25 27 k (wtOut (Ms t) us)[k]? := by
  obtain ⟨h', r1, r2, r3⟩ := s_mleasts d hk ht sn hus
  refine ⟨h', r1, r2, fun k hk2 => ?_⟩
  have := (r3 0 (by omega)).2.2 k hk2
  rw [va_up_both, if_pos rfl, show 2 * 0 + k = k by omega] at this
  exact this
theorem s_mfunctional {h : zM} {m : Nat} {Ms : Nat → zMa} {st : zWt} (d : MMs h m Ms) (hk : ∀ t, t < 2 → MaOk (Ms t)) (wn : WN h m st) (t : Int32) : ∃ h', zf nX12_functional [.inr m, .inl t] h = some ((aFunctional Ms st t).1, 0, h') ∧ zOf m Lx Jx h h' ∧ WN h' m (aFunctional Ms st t).2 := by
  rw [e_X12_functional, s_misMachine, Option.bind_some]
  dsimp only
  by_cases ct : isT t = true
  · obtain ⟨j, hj, rfl⟩ := isT_of ct
    have kM := hk j hj
    have ea : aFunctional Ms st (nI j) = (bI (tstF (Ms j) st).1, (tstF (Ms j) st).2) := by
      unfold aFunctional
      rw [if_pos ct, nI_clamp (by omega)]
    rw [if_pos ct, if_neg (by decide), zif_ok d.1.1, ea]
    rcases s_munlike d hk hj hj with ⟨e1, h1, e2, e3⟩ | ⟨w, c, h1, S, K, Ws, Rs, e1, e2, e3, e4, e5, e6, e7⟩
    · have et : tstF (Ms j) st = (true, st) := congrArg (fun o => tsAn o (Ms j) st) e1
      rw [e2, Option.bind_some, et]
      dsimp only
      rw [if_pos (by decide)]
      exact ⟨h1, rfl, e3.wide (by decide) (by decide), wn.o e3 (by decide) (by decide)⟩
    · have et : tstF (Ms j) st = (false, some (w, fun i => (wtOut (Ms j) w)[i]?)) := congrArg (fun o => tsAn o (Ms j) st) e1
      have hl := difW_len kM kM e1
      rw [e2, Option.bind_some, et]
      dsimp only
      rw [if_neg (nI_nn (by omega))]
      have d1 := d.o2 e3 (by decide)
      rw [zif_ok d1.1.1]
      obtain ⟨h2, a1, a2, a3⟩ := s_mwordOf d1.1 e4 e6 e5 (by rw [e7]; omega)
      rw [e7] at a3
      have d2 := d1.o2 a2 (by decide)
      rw [a1, Option.bind_some]
      dsimp only
      rw [zif_ok d2.1.1]
      obtain ⟨h3, b1, b2, b3⟩ := s_mleast1 d2 hk hj a3 (fun l hl' => by have := hl.2 l hl'; omega)
      have d3 := d2.o2 b2 (by decide)
      rw [b1, Option.bind_some]
      dsimp only
      rw [zif_ok d3.1.1]
      obtain ⟨h4, c1, c2, c3, c4⟩ := s_mkeeps d3.1 (w := 0) (by omega) (show 0 < 12 by omega) (b3 0 (by omega))
      have d4 := d3.o2 c2 (by decide)
      rw [show zf nX12_keepsOutput [.inr m, .inl (0 : Int32), .inl (0 : Int32)] h3 = _ from c1, Option.bind_some]
      dsimp only
      rw [zif_ok d4.1.1]
      obtain ⟨h5, f1, f2, f3, f4⟩ := s_mkeeps d4.1 (w := 1) (by omega) (show 1 < 12 by omega) ((b3 1 (by omega)).o c2 (by decide) (by decide))
      rw [show zf nX12_keepsOutput [.inr m, .inl (1 : Int32), .inl (1 : Int32)] h4 = _ from f1, Option.bind_some]
      refine ⟨h5, rfl, ((((e3.wide (by decide) (by decide)).tr (a2.wide (by decide) (by decide))).tr (b2.wide (by decide) (by decide))).tr (c2.wide (by decide) (by decide))).tr (f2.wide (by decide) (by decide)), ((a3.o b2 (by decide) (by decide)).o c2 (by decide) (by decide)).o f2 (by decide) (by decide), fun v hv => ?_⟩
      by_cases v0 : v = 0
      · rw [v0]
        exact f4 0 (by omega) _ c3
      · rw [show v = 1 by omega]
        exact f3
  · have ea : aFunctional Ms st t = (-1, st) := by
      unfold aFunctional
      rw [if_neg ct]
    rw [if_neg ct, if_pos rfl, ea]
    exact ⟨h, rfl, zOf.rf, wn⟩
theorem s_mboth {h : zM} {m : Nat} {Ms : Nat → zMa} {us : List Nat} (d : MMs h m Ms) (hk : ∀ t, t < 2 → MaOk (Ms t)) (sn : SN h m us) (hus : ∀ l ∈ us, l < 4) : ∃ h', zf nX12_bothWrote [.inr m] h = some (0, 0, h') ∧ zOf m Lx Jx h h' ∧ WN h' m (two2 Ms us) := by
  rw [e_X12_bothWrote, zif_ok d.1.1]
  obtain ⟨h1, a1, a2, a3⟩ := s_mleast1 d hk (t := 0) (by omega) sn hus
  have d1 := d.o2 a2 (by decide)
  rw [show zf nX12_leasts [.inr m, .inl (0 : Int32)] h = _ from a1, Option.bind_some]
  dsimp only
  rw [zif_ok d1.1.1]
  obtain ⟨h2, b1, b2, b3, b4⟩ := s_mkeeps d1.1 (w := 0) (by omega) (show 0 < 12 by omega) (a3 0 (by omega))
  have d2 := d1.o2 b2 (by decide)
  have sn2 := (sn.o a2 (by decide) (by decide)).o b2 (by decide) (by decide)
  rw [show zf nX12_keepsOutput [.inr m, .inl (0 : Int32), .inl (0 : Int32)] h1 = _ from b1, Option.bind_some]
  dsimp only
  rw [zif_ok d2.1.1]
  obtain ⟨h3, c1, c2, c3⟩ := s_mleast1 d2 hk (t := 1) (by omega) sn2 hus
  have d3 := d2.o2 c2 (by decide)
  rw [show zf nX12_leasts [.inr m, .inl (1 : Int32)] h2 = _ from c1, Option.bind_some]
  dsimp only
  rw [zif_ok d3.1.1]
  obtain ⟨h4, e1, e2, e3, e4⟩ := s_mkeeps d3.1 (w := 1) (by omega) (show 0 < 12 by omega) (c3 0 (by omega))
  rw [show zf nX12_keepsOutput [.inr m, .inl (1 : Int32), .inl (0 : Int32)] h3 = _ from e1, Option.bind_some]
  refine ⟨h4, rfl, (((a2.wide (by decide) (by decide)).tr (b2.wide (by decide) (by decide))).tr (c2.wide (by decide) (by decide))).tr (e2.wide (by decide) (by decide)), (sn2.o c2 (by decide) (by decide)).o e2 (by decide) (by decide), fun v hv => ?_⟩
  by_cases v0 : v = 0
  · rw [v0]
    show WRt h4 m 0 (wtOut (Ms 0) us)[0]?
    exact e4 0 (by omega) _ (b3.o c2 (by decide) (by decide))
  · rw [show v = 1 by omega]
    show WRt h4 m 1 (wtOut (Ms 1) us)[0]?
    exact e3
theorem s_mdeep {h : zM} {m : Nat} {Q : List zRd} (lay : MLay h m) (q : QS h m Q) (hl : Q.length ≤ 4096) : ∀ (f c n : Nat) (a1 : Int32), c ≤ f → c < Q.length → n + (qAt Q c).2.2.length < 5000 → zm_X12_deepOf 9 [some (.inr m), some (.inl a1), some (.inl (nI n)), some (.inl (zI h (m + 42) c))] [] h = some (nI (n + (qAt Q c).2.2.length), 0, h) := by
  intro f
  induction f with
  | zero =>
    intro c n a1 hc hK hn
    obtain ⟨-, w⟩ := q.2.1 c hK
    rcases w with ⟨q1, q2⟩ | ⟨j, l, q1, -⟩
    · rw [e_X12_deepOf_9, q1, if_pos (by decide), q2]
      rfl
    · omega
  | succ f ih =>
    intro c n a1 hc hK hn
    obtain ⟨-, w⟩ := q.2.1 c hK
    rcases w with ⟨q1, q2⟩ | ⟨j, l, q1, q2, q3, q4⟩
    · rw [e_X12_deepOf_9, q1, if_pos (by decide), q2]
      rfl
    · rw [q4, List.length_append, List.length_singleton] at hn ⊢
      rw [e_X12_deepOf_9, q2, if_neg (nI_nn (by omega)), mF50 lay, Option.bind_some, mr50 lay (by omega), Option.bind_some, nI_1, ih j (n + 1) a1 (by omega) (by omega) (by omega), show n + 1 + (qAt Q j).2.2.length = n + ((qAt Q j).2.2.length + 1) by omega]
theorem s_mdeepOf {h : zM} {m c : Nat} {Q : List zRd} (lay : MLay h m) (q : QS h m Q) (hl : Q.length ≤ 4096) (hc : c < Q.length) (hw : (qAt Q c).2.2.length ≤ 128) : zf nX12_deepOf [.inr m, .inl (nI c)] h = some (nI (qAt Q c).2.2.length, 0, h) := by
  rw [e_X12_deepOf, mF50 lay, Option.bind_some, mr50 lay (by omega), Option.bind_some]
  have := s_mdeep lay q hl c c 0 (nI c) (Nat.le_refl _) hc (by omega)
  rw [Nat.zero_add] at this
  exact this
theorem s_mwordOfSet {h : zM} {m c : Nat} {Q : List zRd} (lay : MLay h m) (q : QS h m Q) (hl : Q.length ≤ 4096) (hc : c < Q.length) (hw : (qAt Q c).2.2.length ≤ 128) :
    ∃ h', zf nX12_wordOfSet [.inr m, .inl (nI c)] h = some (0, 0, h') ∧ zOf m [21] [23] h h' ∧ SN h' m (qAt Q c).2.2 := by
  rw [e_X12_wordOfSet, zif_ok lay.1, s_mdeepOf lay q hl hc hw, Option.bind_some]
  dsimp only
  generalize hu : (qAt Q c).2.2 = us at *
  have o1 : zOf m [21] [23] h (zsI h m 23 (nI us.length)) := zOf_pI (by decide)
  have l1 := o1.lay lay
  rw [mp23 lay, Option.bind_some, mi23 l1, Option.bind_some, zI_sI]
  have q1 := q.o o1 (by decide) (by decide)
  have loop : ∀ (i k : Nat) (z : zM), k < Q.length → (qAt Q k).2.2 = us.take i → i ≤ us.length → zOf m [21] [23] h z → QS z m Q → zI z m 23 = nI us.length → (∀ j, i ≤ j → j < us.length → zI z (m + 21) j = nI (us.getD j 0)) →
      ∃ h', zm_X12_wordOfSet 18 [some (.inr m), some (.inl (nI c)), some (.inl (nI k)), some (.inl (nI i - 1))] [] z = some (0, 0, h') ∧ zOf m [21] [23] h h' ∧ SN h' m us := by
    intro i
    induction i with
    | zero =>
      intro k z hk hW hi oz qz e23 hj
      rw [e_X12_wordOfSet_18, if_pos (by decide)]
      refine ⟨z, rfl, oz, e23, fun j hj2 => ?_, hw⟩
      rw [List.length_map] at hj2
      rw [Nat.zero_add, hj j (Nat.zero_le _) hj2, List.getD_eq_getElem?_getD, List.getD_eq_getElem?_getD, List.getElem?_map, List.getElem?_eq_getElem hj2]
      rfl
    | succ i ih =>
      intro k z hk hW hi oz qz e23 hj
      have lz := oz.lay lay
      obtain ⟨-, w⟩ := qz.2.1 k hk
      have hlen : (us.take (i + 1)).length = i + 1 := by rw [List.length_take]; omega
      rcases w with ⟨q1, q2⟩ | ⟨j, l, q1, q2, q3, q4⟩
      · rw [q2] at hW
        rw [← hW] at hlen
        cases hlen
      · rw [hW] at q4
        have ei : us.take (i + 1) = us.take i ++ [us.getD i 0] := by
          rw [List.take_add_one, List.getD_eq_getElem?_getD, List.getElem?_eq_getElem (show i < us.length by omega)]
          rfl
        rw [ei] at q4
        obtain ⟨w1, w2⟩ := List.append_inj' q4 rfl
        have w2 : us.getD i 0 = l := by cases w2; rfl
        rw [e_X12_wordOfSet_18, show nI (i + 1) - 1 = nI i from by rw [n1, pk_sub (by omega)]; rfl, if_neg (nI_nn (by omega)), mF24 lz, Option.bind_some, mF51 lz, Option.bind_some, mr51 lz (by omega), Option.bind_some, q3, mw24 lz (by omega), Option.bind_some]
        have o2 : zOf m [21] [23] z (zsI z (m + 21) i (nI l)) := zOf_sI (by decide) (by decide)
        have l2 := o2.lay lz
        rw [mF50 l2, Option.bind_some, mr50 l2 (by omega), Option.bind_some, zI_sI_a (by omega), q2, show nI i + (-1 : Int32) = nI i - 1 from (Int32.sub_eq_add_neg _ _).symm]
        refine ih j _ (by omega) w1.symm (by omega) (oz.tr o2) (qz.o o2 (by decide) (by decide)) ((zI_sI_a (by omega)).trans e23) (fun j' h1 h2 => ?_)
        by_cases e : j' = i
        · rw [e, zI_sI, w2]
        · rw [zI_sI_k e]
          exact hj j' (by omega) h2
  exact loop us.length c _ hc (by rw [List.take_length]; exact hu) (Nat.le_refl _) o1 q1 zI_sI (fun j h1 h2 => by omega)
theorem s_mreaders {h : zM} {m : Nat} {Ms : Nat → zMa} {st : zWt} (d : MMs h m Ms) (hk : ∀ t, t < 2 → MaOk (Ms t)) (wn : WN h m st) : ∃ h', zf nX12_readers [.inr m] h = some ((aReaders Ms st).1, 0, h') ∧ zOf m Lx Jx h h' ∧ WN h' m (aReaders Ms st).2 := by
  rw [e_X12_readers, zif_ok d.1.1]
  rcases s_malone d hk with ⟨e1, h1, e2, e3⟩ | ⟨h1, Q, i, e2, e3, e4, e5, e6, e1⟩
  · rw [e2, Option.bind_some, aReaders_n e1]
    dsimp only
    rw [if_pos (by decide)]
    exact ⟨h1, rfl, e3.wide (by decide) (by decide), wn.o e3 (by decide) (by decide)⟩
  · have hl := rdW_len (hk 0 (by omega)) (hk 1 (by omega)) e1
    rw [e2, Option.bind_some, aReaders_s e1]
    dsimp only
    rw [if_neg (nI_nn (by omega))]
    have d1 := d.o2 e3 (by decide)
    rw [zif_ok d1.1.1]
    obtain ⟨h2, a1, a2, a3⟩ := s_mwordOfSet d1.1 e4 e6 e5 (by omega)
    have d2 := d1.o2 a2 (by decide)
    rw [a1, Option.bind_some]
    dsimp only
    rw [zif_ok d2.1.1]
    obtain ⟨h3, b1, b2, b3⟩ := s_mboth d2 hk a3 (fun l hl' => by have := hl.2 l hl'; omega)
    rw [b1, Option.bind_some]
    exact ⟨h3, rfl, ((e3.wide (by decide) (by decide)).tr (a2.wide (by decide) (by decide))).tr b2, b3⟩
/-- what is read from the place i on -/
theorem lex_drop {b a : zWo} {i : Nat} (hi : i < b.length) (hl : b.length = a.length) : lexlt (b.drop i) (a.drop i) = (if b.getD i 0 = a.getD i 0 then lexlt (b.drop (i + 1)) (a.drop (i + 1)) else decide (b.getD i 0 < a.getD i 0)) ∧ (b.drop i = a.drop i ↔ b.getD i 0 = a.getD i 0 ∧ b.drop (i + 1) = a.drop (i + 1)) := by
  have e1 : b.drop i = b.getD i 0 :: b.drop (i + 1) := by
    rw [List.drop_eq_getElem_cons hi, List.getD_eq_getElem?_getD, List.getElem?_eq_getElem hi]
    rfl
  have e2 : a.drop i = a.getD i 0 :: a.drop (i + 1) := by
    rw [List.drop_eq_getElem_cons (show i < a.length by omega), List.getD_eq_getElem?_getD, List.getElem?_eq_getElem (show i < a.length by omega)]
    rfl
  rw [e1, e2]
  exact ⟨rfl, by rw [List.cons.injEq]⟩
/-- whether a pair's word is less than a set's -/
theorem s_misAhead {h : zM} {m c k : Nat} {S : Nat → Bool} {K : List zCf} {Ws : List (List Nat)} {Rs : List Nat} {Q : List zRd} {st : zWt} (lay : MLay h m) (fl : FL h m S K Ws Rs) (hl : K.length ≤ 72) (hc : c < K.length) (hw : (Ws.getD c []).length ≤ 128) (q : QS h m Q) (hQ : Q.length ≤ 4096) (hk : k < Q.length) (hv : (qAt Q k).2.2.length ≤ 128) (wn : WN h m st) :
    ∃ h', zf nX12_isAhead [.inr m, .inl (nI c), .inl (nI k)] h = some (bI (wlt ((Ws.getD c []).map nI) ((qAt Q k).2.2.map nI)), 0, h') ∧ zOf m [21, 45] [23] h h' ∧ WN h' m st := by
  rw [e_X12_isAhead, zif_ok lay.1, s_mdepth0 lay fl hl hc (by omega), Option.bind_some]
  dsimp only
  rw [zif_ok lay.1, s_mdeepOf lay q hQ hk hv, Option.bind_some]
  dsimp only
  generalize hb : Ws.getD c [] = b at *
  generalize ha : (qAt Q k).2.2 = a at *
  by_cases cl : b.length = a.length
  · rw [if_pos (by rw [cl]), mi23 lay, Option.bind_some]
    -- how many letters were there
    have was : ∃ n, n ≤ 128 ∧ (zI h m 23 = nI n ∨ (n = 0 ∧ zI h m 23 = -2)) ∧ ∀ h' : zM, zI h' m 23 = zI h m 23 → (∀ j, j < n → zI h' (m + 21) j = zI h (m + 21) j) → (∀ j, zI h' (m + 22) j = zI h (m + 22) j) → (∀ j, zI h' (m + 23) j = zI h (m + 23) j) → WN h' m st := by
      cases st with
      | none => exact ⟨0, by omega, Or.inr ⟨rfl, wn.1⟩, fun h' e1 _ e2 _ => ⟨e1.trans wn.1, fun w hw => (e2 w).trans (wn.2 w hw)⟩⟩
      | some p =>
        obtain ⟨⟨s1, s2, s3⟩, w2⟩ := wn
        refine ⟨p.1.length, s3, Or.inl s1, fun h' e1 e0 e2 e3 => ⟨⟨e1.trans s1, s2.of (fun j hj => ?_), s3⟩, fun w hw => ?_⟩⟩
        · rw [List.length_map] at hj
          rw [Nat.zero_add]
          exact e0 j hj
        · have := w2 w hw
          cases e : p.2 w with
          | none => rw [e] at this; exact (e2 w).trans this
          | some x => rw [e] at this; exact ⟨(e2 w).trans this.1, this.2.1.of (fun j _ => e3 _), this.2.2⟩
    obtain ⟨n, hn, w1, wfin⟩ := was
    -- the comparison of a counter with them
    have ltn : ∀ i, i ≤ 128 → (nI i < zI h m 23 ↔ i < n) := fun i hi => by
      rcases w1 with e | ⟨e0, e⟩
      · rw [e, nI_ltI (by omega) (by omega)]
      · rw [e, e0]
        refine ⟨fun w => ?_, fun w => absurd w (Nat.not_lt_zero _)⟩
        rw [Int32.lt_iff_toInt_lt, toInt_nI (by omega)] at w
        have e1 : (-2 : Int32).toInt = -2 := by decide
        omega
    -- they are kept
    have keep := zlp (P := fun i z => zOf m [45] [] h z ∧ ∀ j, j < i → zI z (m + 45) j = zI h (m + 21) j) (g := fun i z => zm_X12_isAhead 40 [some (.inr m), some (.inl (nI c)), some (.inl (nI k)), some (.inl (zI h m 23)), some (.inl (nI i)), none, none, none, none] [] z) (n := n) ?_ 0 h (Nat.zero_le _) ⟨zOf.rf, fun j hj => absurd hj (Nat.not_lt_zero _)⟩
    · obtain ⟨z1, e1, o1, k1⟩ := keep
      have l1 := o1.lay lay
      rw [n0, show zm_X12_isAhead 40 [some (.inr m), some (.inl (nI c)), some (.inl (nI k)), some (.inl (zI h m 23)), some (.inl (nI 0)), none, none, none, none] [] h = _ from e1, e_X12_isAhead_40, if_neg (fun w => Nat.lt_irrefl _ ((ltn n hn).mp w)), zif_ok l1.1]
      have fl1 := fl.o o1 (by decide) (by decide)
      have q1 := q.o o1 (by decide) (by decide)
      obtain ⟨z2, a1, a2, a3⟩ := s_mwordOf l1 fl1 hl hc (by rw [hb]; exact hw)
      rw [hb] at a3
      have l2 := a2.lay l1
      have q2 := q1.o a2 (by decide) (by decide)
      rw [a1, Option.bind_some]
      dsimp only
      rw [mi23 l2, Option.bind_some, a3.1]
      have k2 : ∀ j, j < n → zI z2 (m + 45) j = zI h (m + 21) j := fun j hj => (a2.C (by decide) (by decide) _).trans (k1 j hj)
      have sn3 := a3.2.1
      have alm : (a.map nI).length = a.length := List.length_map ..
      have blm : (b.map nI).length = b.length := List.length_map ..
      -- letter by letter from the end
      have main : ∀ (i k' : Nat), i ≤ b.length → k' < Q.length → (qAt Q k').2.2 = a.take i →
          ∃ v : Int32, zm_X12_isAhead 92 [some (.inr m), some (.inl (nI c)), some (.inl (nI k)), some (.inl (zI h m 23)), some (.inl (nI b.length)), some (.inl (bI (decide (¬ (b.map nI).drop i = (a.map nI).drop i) && lexlt ((b.map nI).drop i) ((a.map nI).drop i)))), some (.inl (bI (decide (¬ (b.map nI).drop i = (a.map nI).drop i)))), some (.inl (nI k')), some (.inl (nI i - 1))] [] z2 = zm_X12_isAhead 164 [some (.inr m), some (.inl (nI c)), some (.inl (nI k)), some (.inl (zI h m 23)), some (.inl (nI b.length)), some (.inl (bI (decide (¬ (b.map nI) = (a.map nI)) && lexlt (b.map nI) (a.map nI)))), some (.inl (bI (decide (¬ (b.map nI) = (a.map nI))))), some (.inl v), some (.inl (0 : Int32))] [] (zsI z2 m 23 (zI h m 23)) := by
        intro i
        induction i with
        | zero =>
          intro k' _ _ _
          refine ⟨nI k', ?_⟩
          rw [e_X12_isAhead_92, if_pos (by decide), mp23 l2, Option.bind_some, List.drop_zero, List.drop_zero]
        | succ i ih =>
          intro k' hi hk' hW
          obtain ⟨-, w⟩ := q2.2.1 k' hk'
          have hlen : (a.take (i + 1)).length = i + 1 := by rw [List.length_take]; omega
          have ei : a.take (i + 1) = a.take i ++ [a.getD i 0] := by
            rw [List.take_add_one, List.getD_eq_getElem?_getD, List.getElem?_eq_getElem (show i < a.length by omega)]
            rfl
          rcases w with ⟨_, p2⟩ | ⟨j, l, p1, p2, p3, p4⟩
          · rw [p2] at hW
            rw [← hW] at hlen
            cases hlen
          · rw [hW, ei] at p4
            obtain ⟨v1, v2⟩ := List.append_inj' p4 rfl
            have v2 : a.getD i 0 = l := by cases v2; rfl
            have rb : zI z2 (m + 21) i = (b.map nI).getD i 0 := by
              have := sn3 i (by rw [blm]; omega)
              rw [Nat.zero_add] at this
              exact this
            have ra : nI l = (a.map nI).getD i 0 := by
              rw [← v2, List.getD_eq_getElem?_getD, List.getD_eq_getElem?_getD, List.getElem?_map, List.getElem?_eq_getElem (show i < a.length by omega)]
              rfl
            obtain ⟨x1, x2⟩ := lex_drop (b := b.map nI) (a := a.map nI) (i := i) (by rw [blm]; omega) (by rw [blm, alm, cl])
            have step := ih j (by omega) (by omega) v1.symm
            rw [e_X12_isAhead_92, show nI (i + 1) - 1 = nI i from by rw [n1, pk_sub (by omega)]; rfl, if_neg (nI_nn (by omega))]
            simp only [mF24 l2, mF50 l2, mF51 l2, Option.bind_some, mr24 l2 (show i < 4200 by omega), mr51 l2 (show k' < 4096 by omega), mr50 l2 (show k' < 4096 by omega), rb, p3, ra, p2]
            rw [x1] at step
            have sub1 : nI i + (-1 : Int32) = nI i - 1 := (Int32.sub_eq_add_neg _ _).symm
            rw [sub1]
            by_cases ce : (b.map nI).getD i 0 = (a.map nI).getD i 0
            · rw [if_pos ce]
              rw [if_pos ce] at step
              have ed : decide (¬ (b.map nI).drop i = (a.map nI).drop i) = decide (¬ (b.map nI).drop (i + 1) = (a.map nI).drop (i + 1)) := by
                apply decide_eq_decide.mpr
                rw [x2]
                exact ⟨fun w w2 => w ⟨ce, w2⟩, fun w w2 => w w2.2⟩
              rw [ed] at step
              exact step
            · rw [if_neg ce]
              rw [if_neg ce] at step
              have ed : decide (¬ (b.map nI).drop i = (a.map nI).drop i) = true := decide_eq_true (fun w => ce (x2.mp w).1)
              rw [ed, Bool.true_and] at step
              by_cases lt : (b.map nI).getD i 0 < (a.map nI).getD i 0
              · rw [if_pos lt]
                rw [decide_eq_true lt] at step
                exact step
              · rw [if_neg lt]
                rw [decide_eq_false lt] at step
                exact step
      obtain ⟨v, em⟩ := main b.length k (Nat.le_refl _) hk (by rw [ha, cl, List.take_length])
      have d1 : (b.map nI).drop b.length = [] := List.drop_eq_nil_iff.mpr (by rw [blm]; exact Nat.le_refl _)
      have d2 : (a.map nI).drop b.length = [] := List.drop_eq_nil_iff.mpr (by rw [alm]; omega)
      rw [d1, d2] at em
      have em' : zm_X12_isAhead 92 [some (.inr m), some (.inl (nI c)), some (.inl (nI k)), some (.inl (zI h m 23)), some (.inl (nI b.length)), some (.inl (0 : Int32)), some (.inl (0 : Int32)), some (.inl (nI k)), some (.inl (nI b.length - 1))] [] z2 = _ := em
      rw [em']
      -- they come back
      have lr := l2
      have o3 : zOf m [21, 45] [23] h (zsI z2 m 23 (zI h m 23)) := ((o1.wide (by decide) (by decide)).tr (a2.wide (by decide) (by decide))).tr (zOf_pI (by decide))
      have back := zlp (P := fun i z => zOf m [21, 45] [23] h z ∧ zI z m 23 = zI h m 23 ∧ (∀ j, j < n → zI z (m + 45) j = zI h (m + 21) j) ∧ ∀ j, j < i → zI z (m + 21) j = zI h (m + 21) j) (g := fun i z => zm_X12_isAhead 164 [some (.inr m), some (.inl (nI c)), some (.inl (nI k)), some (.inl (zI h m 23)), some (.inl (nI b.length)), some (.inl (bI (decide (¬ (b.map nI) = (a.map nI)) && lexlt (b.map nI) (a.map nI)))), some (.inl (bI (decide (¬ (b.map nI) = (a.map nI))))), some (.inl v), some (.inl (nI i))] [] z) (n := n) ?_ 0 (zsI z2 m 23 (zI h m 23)) (Nat.zero_le _) ⟨o3, zI_sI, fun j hj => (zI_sI_a (by omega)).trans (k2 j hj), fun j hj => absurd hj (Nat.not_lt_zero _)⟩
      · obtain ⟨z3, e3, o4, f23, -, f21⟩ := back
        have hlt : wlt (b.map nI) (a.map nI) = (decide (¬ (b.map nI) = (a.map nI)) && lexlt (b.map nI) (a.map nI)) := by
          rw [wlt_eq, decide_eq_false (show ¬ (b.map nI).length < (a.map nI).length by rw [blm, alm]; omega), decide_eq_true (show (b.map nI).length = (a.map nI).length by rw [blm, alm, cl]), Bool.false_or, Bool.true_and]
          by_cases e : b.map nI = a.map nI
          · rw [e, lexlt_irr, Bool.and_false]
          · rw [decide_eq_true e, Bool.true_and]
        refine ⟨z3, ?_, o4, wfin z3 f23 f21 (fun j => o4.C (by decide) (by decide) _) (fun j => o4.C (by decide) (by decide) _)⟩
        rw [n0, show zm_X12_isAhead 164 [some (.inr m), some (.inl (nI c)), some (.inl (nI k)), some (.inl (zI h m 23)), some (.inl (nI b.length)), some (.inl (bI (decide (¬ (b.map nI) = (a.map nI)) && lexlt (b.map nI) (a.map nI)))), some (.inl (bI (decide (¬ (b.map nI) = (a.map nI))))), some (.inl v), some (.inl (nI 0))] [] (zsI z2 m 23 (zI h m 23)) = _ from e3, e_X12_isAhead_164, if_neg (fun w => Nat.lt_irrefl _ ((ltn n hn).mp w)), hlt]
        by_cases e : b.map nI = a.map nI
        · rw [decide_eq_false (fun w => w e), if_pos (show bI false = 0 from rfl), zb0]
          rfl
        · rw [decide_eq_true e, if_neg (show ¬ bI true = 0 by decide), Bool.true_and]
          cases lexlt (b.map nI) (a.map nI) with
          | true => rw [if_neg (show ¬ bI true = 0 by decide), zb1]; rfl
          | false => rw [if_pos (show bI false = 0 from rfl), zb0]; rfl
      · rintro i z hi ⟨oz, f23, f45, f21⟩
        have lz := oz.lay lay
        rw [e_X12_isAhead_164, if_pos ((ltn i (by omega)).mpr hi), mF24 lz, Option.bind_some, mF53 lz, Option.bind_some, mr53 lz (by omega), Option.bind_some, f45 i hi, mw24 lz (by omega), Option.bind_some, nI_1]
        refine ⟨_, rfl, oz.tr (zOf_sI (by decide) (by decide)), (zI_sI_a (by omega)).trans f23, fun j hj => (zI_sI_a (by omega)).trans (f45 j hj), fun j hj => ?_⟩
        by_cases e : j = i
        · rw [e, zI_sI]
        · rw [zI_sI_k e]; exact f21 j (by omega)
    · rintro i z hi ⟨oz, kz⟩
      have lz := oz.lay lay
      rw [e_X12_isAhead_40, if_pos ((ltn i (by omega)).mpr hi), mF53 lz, Option.bind_some, mF24 lz, Option.bind_some, mr24 lz (by omega), Option.bind_some, mw53 lz (by omega), Option.bind_some, nI_1]
      refine ⟨_, rfl, oz.tr (zOf_sI (by decide) (by decide)), fun j hj => ?_⟩
      by_cases e : j = i
      · rw [e, zI_sI]; exact oz.C (by decide) (by decide) _
      · rw [zI_sI_k e]; exact kz j (by omega)
  · have hlt : wlt (b.map nI) (a.map nI) = decide (b.length < a.length) := by
      rw [wlt_eq, List.length_map, List.length_map, decide_eq_false cl, Bool.false_and, Bool.or_false]
    rw [if_neg (by rw [nI_eq (by omega) (by omega)]; exact cl), zif_ok lay.1, s_mdepth0 lay fl hl hc (by rw [hb]; omega), Option.bind_some]
    dsimp only
    rw [zif_ok lay.1, s_mdeepOf lay q hQ hk (by rw [ha]; exact hv), Option.bind_some, hb, ha, hlt]
    dsimp only
    refine ⟨h, ?_, zOf.rf, wn⟩
    by_cases c2 : b.length < a.length
    · rw [if_pos ((nI_ltI (by omega) (by omega)).mpr c2), zb1, decide_eq_true c2]; rfl
    · rw [if_neg (by rw [nI_ltI (by omega) (by omega)]; exact c2), zb0, decide_eq_false c2]; rfl
theorem wlt_eqw {w v : List Nat} (lt : wlt (w.map nI) (v.map nI) = false) (q : ¬ wlt (v.map nI) (w.map nI) = true) (hw : ∀ l ∈ w, l < 2 ^ 31) (hv : ∀ l ∈ v, l < 2 ^ 31) : w = v := by
  have e3 : w.map nI = v.map nI := by
    apply Classical.byContradiction
    intro ne
    rcases wlt_tot ne with x | x
    · rw [lt] at x; cases x
    · exact q x
  have len : w.length = v.length := by
    have := congrArg List.length e3
    rw [List.length_map, List.length_map] at this
    exact this
  refine List.ext_getElem len (fun i h1 h2 => ?_)
  have e4 : (w.map nI)[i]? = (v.map nI)[i]? := by rw [e3]
  rw [List.getElem?_map, List.getElem?_map, List.getElem?_eq_getElem h1, List.getElem?_eq_getElem h2] at e4
  have e5 : nI w[i] = nI v[i] := Option.some.inj e4
  have x1 := hw _ (List.getElem_mem h1)
  have x2 := hv _ (List.getElem_mem h2)
  exact (nI_eq (by omega) (by omega)).mp e5
theorem ex_pr {α β : Type} (p : α × β) : ∃ a b, p = (a, b) := ⟨p.1, p.2, rfl⟩
theorem aFun_lt {Ms : Nat → zMa} {st : zWt} {j : Nat} (hj : j < 2) {b : Bool} {w : zWt} (e : tstF (Ms j) st = (b, w)) : aFunctional Ms st (nI j) = (bI b, w) := by
  have ct : isT (nI j) = true := by
    rcases (show j = 0 ∨ j = 1 by omega) with rfl | rfl <;> decide
  unfold aFunctional
  rw [if_pos ct, nI_clamp (by omega), e]
theorem s_mfun2 {h : zM} {m : Nat} {Ms : Nat → zMa} {st : zWt} (d : MMs h m Ms) (hk : ∀ t, t < 2 → MaOk (Ms t)) (wn : WN h m st) {j : Nat} (hj : j < 2) {b : Bool} {w : zWt} (e : tstF (Ms j) st = (b, w)) : ∃ h', zf nX12_functional [.inr m, .inl (nI j)] h = some (bI b, 0, h') ∧ zOf m Lx Jx h h' ∧ WN h' m w := by
  have := s_mfunctional d hk wn (nI j)
  rw [aFun_lt hj e] at this
  exact this
theorem FL.oo {h h' : zM} {m : Nat} {S : Nat → Bool} {K : List zCf} {Ws : List (List Nat)} {Rs : List Nat} {L J : List Nat} (d : FL h m S K Ws Rs) (o : zOf m L J h h') (hL : ∀ k ∈ L, k < 29 ∨ 38 < k) (hJ : 32 ∉ J) : FL h' m S K Ws Rs := by
  have no : ∀ k, 29 ≤ k → k ≤ 38 → k ∉ L := fun k h0 h1 hm => by have := hL k hm; omega
  refine ⟨⟨(o.J hJ).trans d.1.1, fun i hi => (d.1.2.1 i hi).o o (fun k hk => by have := hL k hk; omega), fun p q hp hq => (o.C (by omega) (no 38 (by omega) (by omega)) _).trans (d.1.2.2.1 p q hp hq), fun k hk => (o.C (by omega) (no 37 (by omega) (by omega)) _).trans (d.1.2.2.2 k hk)⟩, d.2.1, d.2.2.1, fun i hi => ?_⟩
  rw [o.C (by omega) (no 36 (by omega) (by omega)), o.C (by omega) (no 34 (by omega) (by omega)), o.C (by omega) (no 35 (by omega) (by omega))]
  exact d.2.2.2 i hi
theorem s_msame {h : zM} {m : Nat} {Ms : Nat → zMa} {st : zWt} (d : MMs h m Ms) (hk : ∀ t, t < 2 → MaOk (Ms t)) (wn : WN h m st) : ∃ h', zf nX12_same [.inr m] h = some ((aSame Ms st).1, 0, h') ∧ zOf m Lx Jx h h' ∧ WN h' m (aSame Ms st).2 := by
  have kM := hk 0 (by omega)
  have kN := hk 1 (by omega)
  obtain ⟨b1, W1, hT1⟩ : ∃ b W, tstF (Ms 0) st = (b, W) := ex_pr _
  obtain ⟨z1, a1, a2, a3⟩ := s_mfun2 d hk wn (j := 0) (by omega) hT1
  have d1 := d.o2 a2 (by decide)
  rw [e_X12_same, zif_ok d.1.1, show zf nX12_functional [.inr m, .inl (0 : Int32)] h = _ from a1, Option.bind_some]
  dsimp only
  have e1 : (tstF (Ms 0) st).1 = b1 := congrArg Prod.fst hT1
  have f1 : (tstF (Ms 0) st).2 = W1 := congrArg Prod.snd hT1
  cases b1 with
  | false =>
    rw [if_pos (show bI false = 0 from rfl), aSame_a e1, f1]
    dsimp only
    exact ⟨z1, rfl, a2, a3⟩
  | true =>
    rw [if_neg (show ¬ bI true = 0 by decide), zif_ok d1.1.1]
    obtain ⟨b2', W2, hT2⟩ : ∃ b W, tstF (Ms 1) W1 = (b, W) := ex_pr _
    obtain ⟨z2, b1, b2, b3⟩ := s_mfun2 d1 hk a3 (j := 1) (by omega) hT2
    have d2 := d1.o2 b2 (by decide)
    rw [show zf nX12_functional [.inr m, .inl (1 : Int32)] z1 = _ from b1, Option.bind_some]
    dsimp only
    rw [← f1] at hT2
    have e2 : (tstF (Ms 1) (tstF (Ms 0) st).2).1 = b2' := congrArg Prod.fst hT2
    have hW : (tstF (Ms 1) (tstF (Ms 0) st).2).2 = W2 := congrArg Prod.snd hT2
    cases b2' with
    | false =>
      rw [if_pos (show bI false = 0 from rfl), aSame_b e1 e2, hW]
      dsimp only
      exact ⟨z2, rfl, a2.tr b2, b3⟩
    | true =>
      rw [if_neg (show ¬ bI true = 0 by decide), zif_ok d2.1.1]
      have lr := fun w => rdW_len (M := Ms 0) (N := Ms 1) (w := w) kM kN
      have ld := fun w => difW_len (F := FT) (M := Ms 0) (N := Ms 1) (w := w) kM kN
      have i10' : ((1 : Int32) = 0) = False := eq_false (by decide)
      have ul := s_munlike d2 hk (t := 0) (o := 1) (by omega) (by omega)
      -- the end by one word or the other
      have fin : ∀ (z : zM) (us : List Nat), MMs z m Ms → zOf m Lx Jx h z → SN z m us → (∀ l ∈ us, 1 ≤ l ∧ l ≤ 3) → ∃ h', (zif (zK z m = 13) ((zf nX12_bothWrote [.inr m] z).bind fun u6 => some ((0 : Int32), 0, u6.2.2))) = some (0, 0, h') ∧ zOf m Lx Jx h h' ∧ WN h' m (two2 Ms us) := fun z us dz oz sz hus => by
        obtain ⟨h', p1, p2, p3⟩ := s_mboth dz hk sz (fun l hl => by have := hus l hl; omega)
        rw [zif_ok dz.1.1, p1, Option.bind_some]
        exact ⟨h', rfl, oz.tr p2, p3⟩
      have byPair : ∀ (z : zM) (c : Nat) (S : Nat → Bool) (K : List zCf) (Ws : List (List Nat)) (Rs : List Nat) (w : List Nat), MMs z m Ms → zOf m Lx Jx h z → FL z m S K Ws Rs → c < K.length → K.length ≤ 72 → Ws.getD c [] = w → w.length ≤ 128 → (∀ l ∈ w, 1 ≤ l ∧ l ≤ 3) → ∃ h', (zif (zK z m = 13) ((zf nX12_wordOf [.inr m, .inl (nI c)] z).bind fun u7 => zif (zK u7.2.2 m = 13) ((zf nX12_bothWrote [.inr m] u7.2.2).bind fun u8 => some ((0 : Int32), 0, u8.2.2)))) = some (0, 0, h') ∧ zOf m Lx Jx h h' ∧ WN h' m (two2 Ms w) := fun z c S K Ws Rs w dz oz fz hc hK hw hl hus => by
        obtain ⟨h', p1, p2, p3⟩ := s_mwordOf dz.1 fz hK hc (by rw [hw]; exact hl)
        rw [hw] at p3
        rw [zif_ok dz.1.1, p1, Option.bind_some]
        exact fin h' w (dz.o2 p2 (by decide)) (oz.tr (p2.wide (by decide) (by decide))) p3 hus
      have bySet : ∀ (z : zM) (k : Nat) (Q : List zRd) (w : List Nat), MMs z m Ms → zOf m Lx Jx h z → QS z m Q → k < Q.length → Q.length ≤ 4096 → (qAt Q k).2.2 = w → w.length ≤ 128 → (∀ l ∈ w, 1 ≤ l ∧ l ≤ 3) → ∃ h', (zif (zK z m = 13) ((zf nX12_wordOfSet [.inr m, .inl (nI k)] z).bind fun u7 => zif (zK u7.2.2 m = 13) ((zf nX12_bothWrote [.inr m] u7.2.2).bind fun u8 => some ((0 : Int32), 0, u8.2.2)))) = some (0, 0, h') ∧ zOf m Lx Jx h h' ∧ WN h' m (two2 Ms w) := fun z k Q w dz oz qz hk' hQ hw hl hus => by
        obtain ⟨h', p1, p2, p3⟩ := s_mwordOfSet dz.1 qz hQ hk' (by rw [hw]; exact hl)
        rw [hw] at p3
        rw [zif_ok dz.1.1, p1, Option.bind_some]
        exact fin h' w (dz.o2 p2 (by decide)) (oz.tr (p2.wide (by decide) (by decide))) p3 hus
      rcases ul with ⟨hD, z3, c1, c2⟩ | ⟨w, c, z3, S, K, Ws, Rs, hD, c1, c2, c3, c4, c5, c6⟩
      · have d3 := d2.o2 c2 (by decide)
        have o3 := (a2.tr b2).tr (c2.wide (L' := Lx) (J' := Jx) (by decide) (by decide))
        rw [show zf nX12_unlike [.inr m, .inl (0 : Int32), .inl (1 : Int32)] z2 = _ from c1, Option.bind_some]
        dsimp only
        rw [zif_ok d3.1.1]
        rcases s_malone d3 hk with ⟨hR, z4, f1, f2⟩ | ⟨z4, Q, k, f1, f2, f3, f4, f5, hR⟩
        · rw [f1, Option.bind_some, aSame_n e1 e2 (by rw [hR, hD]; rfl), hW]
          dsimp only
          rw [if_pos (by decide), if_pos (by decide)]
          exact ⟨z4, rfl, o3.tr (f2.wide (by decide) (by decide)), ((b3.o c2 (by decide) (by decide)).o f2 (by decide) (by decide))⟩
        · have l1 := lr _ hR
          have kb : ¬ nI k < 0 := nI_nn (by omega)
          rw [f1, Option.bind_some, aSame_s e1 e2 (us := (qAt Q k).2.2) (by rw [hR, hD]; rfl)]
          have m10 : ((-1 : Int32) < 0) = True := eq_true (by decide)
          simp only [m10, if_true, if_neg kb]
          exact bySet z4 k Q _ (d3.o2 f2 (by decide)) (o3.tr (f2.wide (by decide) (by decide))) f3 f4 f5 rfl (by omega) l1.2
      · have d3 := d2.o2 c2 (by decide)
        have o3 := (a2.tr b2).tr (c2.wide (L' := Lx) (J' := Jx) (by decide) (by decide))
        have l2 := ld _ hD
        have cb : ¬ nI c < 0 := nI_nn (by omega)
        rw [show zf nX12_unlike [.inr m, .inl (0 : Int32), .inl (1 : Int32)] z2 = _ from c1, Option.bind_some]
        dsimp only
        rw [zif_ok d3.1.1]
        rcases s_malone d3 hk with ⟨hR, z4, f1, f2⟩ | ⟨z4, Q, k, f1, f2, f3, f4, f5, hR⟩
        · have m10 : ((-1 : Int32) < 0) = True := eq_true (by decide)
          rw [f1, Option.bind_some, aSame_s e1 e2 (us := w) (by rw [hR, hD]; rfl)]
          simp only [m10, if_true, if_neg cb, i10', if_false]
          exact byPair z4 c S K Ws Rs w (d3.o2 f2 (by decide)) (o3.tr (f2.wide (by decide) (by decide))) (c3.o f2 (by decide) (by decide)) c4 c5 c6 (by omega) l2.2
        · have l1 := lr _ hR
          have kb : ¬ nI k < 0 := nI_nn (by omega)
          have d4 := d3.o2 f2 (by decide)
          have fl4 := c3.o f2 (by decide) (by decide)
          obtain ⟨z5, g1, g2, g3⟩ := s_misAhead (k := k) d4.1 fl4 c5 c4 (by rw [c6]; omega) f3 f5 f4 (by omega) ((b3.o c2 (by decide) (by decide)).o f2 (by decide) (by decide))
          rw [c6] at g1
          have d5 := d4.o2 g2 (by decide)
          have o5 := (o3.tr (f2.wide (L' := Lx) (J' := Jx) (by decide) (by decide))).tr (g2.wide (L' := Lx) (J' := Jx) (by decide) (by decide))
          rw [f1, Option.bind_some]
          simp only [if_neg cb, if_neg kb, zif_ok d4.1.1, g1, Option.bind_some]
          cases lt : wlt (w.map nI) ((qAt Q k).2.2.map nI) with
          | true =>
            rw [aSame_s e1 e2 (us := w) (by
              rw [hR, hD]
              refine if_neg (fun q => ?_)
              have := wlt_asym lt
              rw [wcmp_wlt] at q
              rw [this] at q
              cases q)]
            rw [if_neg (show ¬ bI true = 0 by decide)]
            simp only [i10', if_false]
            exact byPair z5 c S K Ws Rs w d5 o5 (fl4.oo g2 (by decide) (by decide)) c4 c5 c6 (by omega) l2.2
          | false =>
            have hq := f3.o g2 (by decide) (by decide)
            rw [if_pos (show bI false = 0 from rfl)]
            simp only [if_true]
            have res := bySet z5 k Q _ d5 o5 hq f4 f5 rfl (by omega) l1.2
            by_cases q : wcmp ((qAt Q k).2.2.map nI) (w.map nI) < 0
            · rw [aSame_s e1 e2 (us := (qAt Q k).2.2) (by rw [hR, hD]; exact if_pos q)]
              exact res
            · have ew : w = (qAt Q k).2.2 := by
                rw [wcmp_wlt] at q
                exact wlt_eqw lt q (fun l hl => by have := l2.2 l hl; omega) (fun l hl => by have := l1.2 l hl; omega)
              rw [aSame_s e1 e2 (us := (qAt Q k).2.2) (by rw [hR, hD, ← ew]; exact if_neg (by rw [ew]; rw [ew] at q; exact q))]
              exact res
