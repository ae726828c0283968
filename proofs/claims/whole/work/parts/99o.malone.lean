/-! The reference: the sets of both machines that are come to. -/
def mKey (e : zRd) : Nat := 64 * e.2.1 + e.1
def mSeen (Q : List zRd) (p : Nat) : Bool := Q.any fun k => decide (mKey k = p)
def mWay (before letter : Int32) (Q : List zRd) (i : Nat) (w : List Nat) : Prop := (before = -1 ∧ w = []) ∨ ∃ b l, b < i ∧ before = nI b ∧ letter = nI l ∧ w = (qAt Q b).2.2 ++ [l]
def QS (h : zM) (m : Nat) (Q : List zRd) : Prop := zI h m 48 = nI Q.length ∧ (∀ i, i < Q.length → zI h (m + 41) i = nI (mKey (qAt Q i)) ∧ mWay (zI h (m + 42) i) (zI h (m + 43) i) Q i (qAt Q i).2.2) ∧ ∀ p, p < 4096 → zI h (m + 44) p = bI (mSeen Q p)
theorem QS.o {h h' : zM} {m : Nat} {Q : List zRd} {L J : List Nat} (d : QS h m Q) (f : zOf m L J h h') (h1 : ∀ k ∈ L, k < 41 ∨ 44 < k) (h2 : 48 ∉ J) : QS h' m Q := by
  have no : ∀ k, 41 ≤ k → k ≤ 44 → k ∉ L := fun k a b hm => by have := h1 k hm; omega
  refine ⟨(f.J h2).trans d.1, fun i hi => ?_, fun p hp => (f.C (by omega) (no 44 (by omega) (by omega)) _).trans (d.2.2 p hp)⟩
  rw [f.C (by omega) (no 41 (by omega) (by omega)), f.C (by omega) (no 42 (by omega) (by omega)), f.C (by omega) (no 43 (by omega) (by omega))]
  exact d.2.1 i hi
theorem mKey_eq {a b : zRd} (ha : a.1 < 64 ∧ a.2.1 < 64) (hb : b.1 < 64 ∧ b.2.1 < 64) : mKey a = mKey b ↔ a.1 = b.1 ∧ a.2.1 = b.2.1 := by
  unfold mKey
  omega
theorem rAdd_mseen {Q : List zRd} {c : zRd} (hq : ∀ k ∈ Q, k.1 < 64 ∧ k.2.1 < 64) (hc : c.1 < 64 ∧ c.2.1 < 64) : rAdd c Q = if mSeen Q (mKey c) = true then Q else Q ++ [c] := by
  unfold rAdd mSeen
  have e : Q.any (fun k => decide (k.1 = c.1 ∧ k.2.1 = c.2.1)) = Q.any (fun k => decide (mKey k = mKey c)) := by
    rw [Bool.eq_iff_iff, List.any_eq_true, List.any_eq_true]
    constructor
    · rintro ⟨k, hk, h⟩
      exact ⟨k, hk, decide_eq_true ((mKey_eq (hq k hk) hc).mpr (of_decide_eq_true h))⟩
    · rintro ⟨k, hk, h⟩
      exact ⟨k, hk, decide_eq_true ((mKey_eq (hq k hk) hc).mp (of_decide_eq_true h))⟩
  rw [e]
theorem s_mset {h : zM} {m : Nat} {Q : List zRd} {c : zRd} {vb vl : Int32} (lay : MLay h m) (q : QS h m Q) (hq : ∀ k ∈ Q, k.1 < 64 ∧ k.2.1 < 64) (hc : c.1 < 64 ∧ c.2.1 < 64) (h4 : (rAdd c Q).length ≤ 4096) (hw : mWay vb vl Q Q.length c.2.2) :
    ∃ h', zf nX12_set [.inr m, .inl (nI (mKey c)), .inl vb, .inl vl] h = some (0, 0, h') ∧ zOf m [41, 42, 43, 44] [48] h h' ∧ QS h' m (rAdd c Q) := by
  have hk : mKey c < 4096 := by unfold mKey; omega
  obtain ⟨q1, q2, q3⟩ := q
  rw [e_X12_set, mF52 lay, Option.bind_some, mr52 lay hk, Option.bind_some, q3 _ hk]
  rw [rAdd_mseen hq hc] at h4 ⊢
  cases e : mSeen Q (mKey c) with
  | true =>
    rw [if_neg (show ¬ bI true = 0 by decide)]
    exact ⟨h, rfl, zOf.rf, by rw [if_pos rfl]; exact ⟨q1, q2, q3⟩⟩
  | false =>
    rw [e] at h4
    simp only [Bool.false_eq_true, if_false] at h4 ⊢
    rw [List.length_append, List.length_singleton] at h4
    rw [if_pos (show bI false = 0 from rfl), Option.bind_some, mw52 lay hk (Or.inr rfl), Option.bind_some]
    have lA : MLay (zsI h (m + 44) (mKey c) 1) m := lay.sI
    have eA : zI (zsI h (m + 44) (mKey c) 1) m 48 = nI Q.length := (zI_sI_a (by omega)).trans q1
    rw [mF49 lA, Option.bind_some, mi48 lA, Option.bind_some, eA, mw49 lA (by omega), Option.bind_some]
    have lB : MLay (zsI (zsI h (m + 44) (mKey c) 1) (m + 41) Q.length (nI (mKey c))) m := lA.sI
    have eB : zI (zsI (zsI h (m + 44) (mKey c) 1) (m + 41) Q.length (nI (mKey c))) m 48 = nI Q.length := (zI_sI_a (by omega)).trans eA
    rw [mF50 lB, Option.bind_some, mi48 lB, Option.bind_some, eB, mw50 lB (by omega), Option.bind_some]
    have lC : MLay (zsI (zsI (zsI h (m + 44) (mKey c) 1) (m + 41) Q.length (nI (mKey c))) (m + 42) Q.length vb) m := lB.sI
    have eC : zI (zsI (zsI (zsI h (m + 44) (mKey c) 1) (m + 41) Q.length (nI (mKey c))) (m + 42) Q.length vb) m 48 = nI Q.length := (zI_sI_a (by omega)).trans eB
    rw [mF51 lC, Option.bind_some, mi48 lC, Option.bind_some, eC, mw51 lC (by omega), Option.bind_some]
    have lD : MLay (zsI (zsI (zsI (zsI h (m + 44) (mKey c) 1) (m + 41) Q.length (nI (mKey c))) (m + 42) Q.length vb) (m + 43) Q.length vl) m := lC.sI
    have eD : zI (zsI (zsI (zsI (zsI h (m + 44) (mKey c) 1) (m + 41) Q.length (nI (mKey c))) (m + 42) Q.length vb) (m + 43) Q.length vl) m 48 = nI Q.length := (zI_sI_a (by omega)).trans eC
    rw [mi48 lD, Option.bind_some, eD, nI_1, mp48 lD, Option.bind_some]
    refine ⟨_, rfl, ((((zOf_sI (by decide) (by decide)).tr (zOf_sI (by decide) (by decide))).tr (zOf_sI (by decide) (by decide))).tr (zOf_sI (by decide) (by decide))).tr (zOf_pI (by decide)), ?_, fun i hi => ?_, fun p hp => ?_⟩
    · rw [zI_sI, List.length_append]; rfl
    · rw [List.length_append, List.length_singleton] at hi
      rw [zI_sI_a (by omega), zI_sI_a (by omega), zI_sI_a (by omega), zI_sI_a (by omega) (b := m + 42), zI_sI_a (by omega) (b := m + 42), zI_sI_a (by omega) (b := m + 43)]
      by_cases ei : i = Q.length
      · rw [ei, qAt_n, zI_sI, zI_sI, zI_sI]
        refine ⟨rfl, ?_⟩
        rcases hw with w | ⟨b, l, b1, b2, b3, b4⟩
        · exact Or.inl w
        · exact Or.inr ⟨b, l, b1, b2, b3, by rw [qAt_l b1]; exact b4⟩
      · have hi2 : i < Q.length := by omega
        rw [qAt_l hi2, zI_sI_k ei, zI_sI_a (by omega), zI_sI_k ei, zI_sI_a (by omega), zI_sI_a (by omega), zI_sI_k ei, zI_sI_a (by omega), zI_sI_a (by omega), zI_sI_a (by omega)]
        obtain ⟨a1, a2⟩ := q2 i hi2
        refine ⟨a1, ?_⟩
        rcases a2 with w | ⟨b, l, b1, b2, b3, b4⟩
        · exact Or.inl w
        · exact Or.inr ⟨b, l, b1, b2, b3, by rw [qAt_l (by omega)]; exact b4⟩
    · rw [zI_sI_a (by omega), zI_sI_a (by omega), zI_sI_a (by omega), zI_sI_a (by omega)]
      unfold mSeen
      rw [List.any_append]
      by_cases ep : p = mKey c
      · rw [ep, zI_sI]
        simp [bI]
      · rw [zI_sI_k ep, q3 p hp]
        unfold mSeen
        simp [Ne.symm ep]
theorem s_mgoesBy {h : zM} {m t B l : Nat} {Ms : Nat → zMa} (d : MMs h m Ms) (hk : ∀ t, t < 2 → MaOk (Ms t)) (ht : t < 2) (hB : B < 64) (hl : l < 4) : zf nX12_goesBy [.inr m, .inl (nI t), .inl (nI B), .inl (nI l)] h = some (nI (folB (Ms t) B l), 0, h) := by
  have kM := hk t ht
  have k6 := kM.1
  have h30 := kM.2.2.2.1
  rw [e_X12_goesBy, show (30 : Int32) = nI 30 from rfl, pk_mul]
  have main := zlp (P := fun i z => z = h) (g := fun i z => zm_X12_goesBy 9 [some (.inr m), some (.inl (nI t)), some (.inl (nI B)), some (.inl (nI l)), some (.inl (nI (((Ms t).2.2.2.take i).foldl (folF B l) 0))), some (.inl (nI (30 * t + i)))] [] z) (n := (Ms t).2.2.2.length) ?_ 0 h (Nat.zero_le _) rfl
  · obtain ⟨h', e1, rfl⟩ := main
    rw [List.take_length] at e1
    refine Eq.trans e1 ?_
    rw [e_X12_goesBy_9, mF3 d.1, Option.bind_some, d.arcs ht, Option.bind_some, show (30 : Int32) = nI 30 from rfl, pk_mul, nI_add, if_neg (by rw [nI_ltI (by omega) (by omega)]; omega)]
    rfl
  · rintro i z hi rfl
    have ka := kM.at2 hi
    have lt := fol_take_lt kM B l i
    refine ⟨z, ?_, rfl⟩
    rw [fold_take _ _ _ i _ (arc_get hi), e_X12_goesBy_9, mF3 d.1, Option.bind_some, d.arcs ht, Option.bind_some, show (30 : Int32) = nI 30 from rfl, pk_mul, nI_add, if_pos ((nI_ltI (by omega) (by omega)).mpr (by omega)), mF5 d.1, Option.bind_some, d.by ht kM hi, Option.bind_some, nI_1]
    generalize ((Ms t).2.2.2.take i).foldl (folF B l) 0 = s at *
    by_cases c1 : (arcAt (Ms t) i).2.1 = l
    · rw [if_pos (by rw [c1]), mF4 d.1, Option.bind_some, d.from ht kM hi, Option.bind_some, bit_get _ hB _ (by omega)]
      cases c2 : B.testBit (arcAt (Ms t) i).1 with
      | true =>
        rw [if_pos rfl, if_pos rfl, mF6 d.1, Option.bind_some, d.to ht kM hi, Option.bind_some, bit_or _ lt _ (by omega), show folF B l s (arcAt (Ms t) i) = s ||| 2 ^ (arcAt (Ms t) i).2.2.1 from if_pos ⟨c1, c2⟩]
        rfl
      | false =>
        rw [if_neg (by decide), show folF B l s (arcAt (Ms t) i) = s from if_neg (fun w => by rw [c2] at w; cases w.2)]
        rfl
    · rw [if_neg (by rw [nI_eq (by omega) (by omega)]; exact c1), show folF B l s (arcAt (Ms t) i) = s from if_neg (fun w => c1 w.1)]
      rfl
theorem rdO_iff {M : zMa} (k : MaOk M) {B : Nat} (hB : B < 64) : rdO M B = true ↔ ∃ q, q < M.1 ∧ B.testBit q = true ∧ (M.2.2.1 q).isSome = true := by
  have k6 := k.1
  unfold rdO
  rw [decide_eq_true_iff]
  have he := endB_lt k
  have tb : ∀ q, (B &&& endB M).testBit q = (B.testBit q && (endB M).testBit q) := fun q => Nat.testBit_and B (endB M) q
  constructor
  · intro ne
    apply Classical.byContradiction
    intro no
    apply ne
    refine bits_64 (and_bit64 hB he) (by decide) (fun q hq => ?_)
    rw [tb, Nat.zero_testBit]
    cases e1 : B.testBit q with
    | false => rfl
    | true =>
      rw [endB_bit k hq]
      cases e2 : (M.2.2.1 q).isSome with
      | false => rfl
      | true =>
        refine absurd ⟨q, ?_, e1, e2⟩ no
        cases e3 : M.2.2.1 q with
        | none => rw [e3] at e2; cases e2
        | some w => exact (k.2.2.1 q w e3).1
  · rintro ⟨q, hq, e1, e2⟩ z
    have := tb q
    rw [z, Nat.zero_testBit, e1, endB_bit k (by omega), e2] at this
    cases this
theorem s_mreads {h : zM} {m t B : Nat} {Ms : Nat → zMa} (d : MMs h m Ms) (hk : ∀ t, t < 2 → MaOk (Ms t)) (ht : t < 2) (hB : B < 64) : zf nX12_reads [.inr m, .inl (nI t), .inl (nI B)] h = some (bI (rdO (Ms t) B), 0, h) := by
  have kM := hk t ht
  have k6 := kM.1
  have it := rdO_iff kM hB
  rw [e_X12_reads, n0]
  refine zlq (P := fun q z => z = h ∧ ∀ j, j < q → ¬ (B.testBit j = true ∧ ((Ms t).2.2.1 j).isSome = true)) (g := fun q z => zm_X12_reads 2 [some (.inr m), some (.inl (nI t)), some (.inl (nI B)), some (.inl (nI q))] [] z) (n := (Ms t).1) (Q := fun y => y = some (bI (rdO (Ms t) B), nI 0 |>.toNatClampNeg, h)) ?_ ?_ 0 h (Nat.zero_le _) ⟨rfl, fun j hj => absurd hj (Nat.not_lt_zero _)⟩
  · rintro q z hq ⟨rfl, hj⟩
    rw [e_X12_reads_2, mF0 d.1, Option.bind_some, d.many ht, Option.bind_some, if_pos ((nI_ltI (by omega) (by omega)).mpr hq), bit_get _ hB _ (by omega), nI_1]
    have next : ¬ (B.testBit q = true ∧ ((Ms t).2.2.1 q).isSome = true) → ∀ j, j < q + 1 → ¬ (B.testBit j = true ∧ ((Ms t).2.2.1 j).isSome = true) := fun e j hj2 => by
      by_cases ej : j = q
      · rw [ej]; exact e
      · exact hj j (by omega)
    cases c1 : B.testBit q with
    | false =>
      right
      rw [if_neg (by decide)]
      exact ⟨z, rfl, rfl, next (fun w => by rw [c1] at w; cases w.1)⟩
    | true =>
      rw [if_pos rfl, if_pos rfl, mF2 d.1, Option.bind_some, n6, pk_mul, nI_add, d.ende ht (by omega) hq, Option.bind_some]
      cases c2 : (Ms t).2.2.1 q with
      | none =>
        right
        rw [if_pos (show eI none = -1 from rfl)]
        exact ⟨z, rfl, rfl, next (fun w => by rw [c2] at w; cases w.2)⟩
      | some e =>
        left
        have := ((kM.2.2.1 q e c2).2).lt
        rw [if_neg (show ¬ eI (some e) = -1 from nneg (by omega)), zb1, it.mpr ⟨q, hq, c1, by rw [c2]; rfl⟩]
        rfl
  · rintro z ⟨rfl, hj⟩
    rw [e_X12_reads_2, mF0 d.1, Option.bind_some, d.many ht, Option.bind_some, if_neg (by rw [nI_ltI (by omega) (by omega)]; omega), zb0]
    have : rdO (Ms t) B = false := by
      cases e : rdO (Ms t) B with
      | false => rfl
      | true =>
        obtain ⟨q, hq, a, b⟩ := it.mp e
        exact absurd ⟨a, b⟩ (hj q hq)
    rw [this]
    rfl
theorem or_sym (a b : Int32) : a ||| b = b ||| a := Int32.or_comm a b
/-- both machines' beginning states, bit by bit -/
theorem st_step : ∀ q, q < 6 → ∀ x, x < 2 ^ q → ∀ y, y < 2 ^ q → ∀ a b : Bool, nI (64 * x + y) ||| ((if a then (1 : Int32) <<< (nI q &&& 31) else 0) ||| (if b then (64 : Int32) <<< (nI q &&& 31) else 0)) = nI (64 * (x + 2 ^ q * b.toNat) + (y + 2 ^ q * a.toNat)) := by decide +kernel
theorem mod2_s (x q : Nat) : x % 2 ^ (q + 1) = x % 2 ^ q + 2 ^ q * (x.testBit q).toNat := by
  rw [Nat.mod_pow_succ, Nat.toNat_testBit]
/-- what alone answers -/
def AlQ (Ms : Nat → zMa) (h : zM) (m : Nat) (y : Option zR) : Prop := (rdW (Ms 0) (Ms 1) = none ∧ ∃ h', y = some (-1, 0, h') ∧ zOf m [41, 42, 43, 44] [48] h h') ∨ ∃ h' Q i, y = some (nI i, 0, h') ∧ zOf m [41, 42, 43, 44] [48] h h' ∧ QS h' m Q ∧ i < Q.length ∧ Q.length ≤ 4096 ∧ rdW (Ms 0) (Ms 1) = some (qAt Q i).2.2
theorem s_malone {h : zM} {m : Nat} {Ms : Nat → zMa} (d : MMs h m Ms) (hk : ∀ t, t < 2 → MaOk (Ms t)) : AlQ Ms h m (zf nX12_alone [.inr m] h) := by
  have kM := hk 0 (by omega)
  have kN := hk 1 (by omega)
  have k6 := kM.1
  have k6' := kN.1
  have hpre := rdStep_pre (Ms 0) (Ms 1)
  rw [e_X12_alone, n0]
  have clean := zlp (P := fun k z => zOf m [41, 42, 43, 44] [48] h z ∧ ∀ j, j < k → zI z (m + 44) j = 0) (g := fun k z => zm_X12_alone 2 [some (.inr m), some (.inl (nI k)), none, none] [] z) (n := 4096) ?_ 0 h (Nat.zero_le _) ⟨zOf.rf, fun j hj => absurd hj (Nat.not_lt_zero _)⟩
  · obtain ⟨z1, e1, o1, c1⟩ := clean
    have d1 := d.o2 o1 (by decide)
    rw [show zm_X12_alone 2 [some (.inr m), some (.inl (nI 0)), none, none] [] h = _ from e1, e_X12_alone_2, if_neg (by decide), mp48 d1.1, Option.bind_some, n0]
    have o2 : zOf m [41, 42, 43, 44] [48] h (zsI z1 m 48 (nI 0)) := o1.tr (zOf_pI (by decide))
    have q0 : QS (zsI z1 m 48 (nI 0)) m [] := ⟨zI_sI, fun i hi => absurd hi (Nat.not_lt_zero _), fun p hp => (zI_sI_a (by omega)).trans (c1 p hp)⟩
    generalize zsI z1 m 48 (nI 0) = z2 at *
    have d2 := d.o2 o2 (by decide)
    -- the first sets
    have first : ∀ q, q ≤ 6 → zm_X12_alone 31 [some (.inr m), some (.inl (nI 0)), some (.inl (nI 0)), none] [] z2 = zm_X12_alone 31 [some (.inr m), some (.inl (nI (64 * ((Ms 1).2.1 % 2 ^ q) + (Ms 0).2.1 % 2 ^ q))), some (.inl (nI q)), none] [] z2 := by
      intro q
      induction q with
      | zero =>
        intro _
        rw [show (Ms 1).2.1 % 2 ^ 0 = 0 from Nat.mod_one _, show (Ms 0).2.1 % 2 ^ 0 = 0 from Nat.mod_one _]
      | succ q ih =>
        intro hq
        rw [ih (by omega)]
        have st := st_step q (by omega) ((Ms 1).2.1 % 2 ^ q) (Nat.mod_lt _ (Nat.two_pow_pos _)) ((Ms 0).2.1 % 2 ^ q) (Nat.mod_lt _ (Nat.two_pow_pos _))
        have s1 : (Ms 1).2.1 % 2 ^ (q + 1) = (Ms 1).2.1 % 2 ^ q + 2 ^ q * ((Ms 1).2.1.testBit q).toNat := mod2_s _ _
        have s0 : (Ms 0).2.1 % 2 ^ (q + 1) = (Ms 0).2.1 % 2 ^ q + 2 ^ q * ((Ms 0).2.1.testBit q).toNat := mod2_s _ _
        rw [s1, s0, ← st]
        have m0 := d2.many (t := 0) (by omega)
        have m1 := d2.many (t := 1) (by omega)
        have f0 := d2.first (t := 0) (by omega) (q := q) (by omega)
        have f1 := d2.first (t := 1) (by omega) (q := q) (by omega)
        rw [show 6 * 0 + q = q by omega] at f0
        rw [show 6 * 1 + q = 6 + q by omega] at f1
        have b0 : ¬ q < (Ms 0).1 → (Ms 0).2.1.testBit q = false := fun w => bit_big _ k6 _ kM.2.1 q (by omega) (by omega)
        have b1 : ¬ q < (Ms 1).1 → (Ms 1).2.1.testBit q = false := fun w => bit_big _ k6' _ kN.2.1 q (by omega) (by omega)
        rw [e_X12_alone_31, if_pos (by rw [n6, nI_ltI (by omega) (by omega)]; omega)]
        simp only [mF0 d2.1, mF1 d2.1, Option.bind_some, n0, n1, n6, m0, m1, f0, f1, nI_add, nI_ltI (show q < 2 ^ 31 by omega) (show (Ms 0).1 < 2 ^ 31 by omega), nI_ltI (show q < 2 ^ 31 by omega) (show (Ms 1).1 < 2 ^ 31 by omega)]
        by_cases c0 : q < (Ms 0).1
        · rw [if_pos c0]
          cases e0 : (Ms 0).2.1.testBit q with
          | false =>
            rw [if_pos (show bI false = nI 0 from rfl)]
            by_cases c1 : q < (Ms 1).1
            · rw [if_pos c1]
              cases e1 : (Ms 1).2.1.testBit q with
              | false => rw [if_pos (show bI false = nI 0 from rfl)]; rfl
              | true => rw [if_neg (show ¬ bI true = nI 0 by decide)]; rfl
            · rw [if_neg c1, b1 c1]; rfl
          | true =>
            rw [if_neg (show ¬ bI true = nI 0 by decide)]
            by_cases c1 : q < (Ms 1).1
            · rw [if_pos c1]
              cases e1 : (Ms 1).2.1.testBit q with
              | false => rw [if_pos (show bI false = nI 0 from rfl)]; rfl
              | true => rw [if_neg (show ¬ bI true = nI 0 by decide)]; rfl
            · rw [if_neg c1, b1 c1]; rfl
        · rw [if_neg c0, b0 c0]
          by_cases c1 : q < (Ms 1).1
          · rw [if_pos c1]
            cases e1 : (Ms 1).2.1.testBit q with
            | false => rw [if_pos (show bI false = nI 0 from rfl)]; rfl
            | true => rw [if_neg (show ¬ bI true = nI 0 by decide)]; rfl
          · rw [if_neg c1, b1 c1]; rfl
    have h64 := kM.beg64
    have h64' := kN.beg64
    rw [first 6 (Nat.le_refl _), Nat.mod_eq_of_lt (show (Ms 0).2.1 < 2 ^ 6 from h64), Nat.mod_eq_of_lt (show (Ms 1).2.1 < 2 ^ 6 from h64'), e_X12_alone_31, if_neg (by decide), zif_ok d2.1.1]
    obtain ⟨z3, r1, r2, r3⟩ := s_mset (c := ((Ms 0).2.1, (Ms 1).2.1, [])) (vb := -1) (vl := 0) d2.1 q0 (fun k hk => by cases hk) ⟨h64, h64'⟩ (by show (1 : Nat) ≤ 4096; omega) (Or.inl ⟨rfl, rfl⟩)
    have e0 : rAdd ((Ms 0).2.1, (Ms 1).2.1, []) [] = rdSeq (Ms 0) (Ms 1) 0 := rfl
    rw [e0] at r3
    rw [show zf nX12_set [.inr m, .inl (nI (64 * (Ms 1).2.1 + (Ms 0).2.1)), .inl (-1 : Int32), .inl (0 : Int32)] z2 = _ from r1, Option.bind_some]
    dsimp only
    have o3 := o2.tr r2
    generalize hs : nI (64 * (Ms 1).2.1 + (Ms 0).2.1) = s0
    refine zlq (P := fun i z => zOf m [41, 42, 43, 44] [48] h z ∧ QS z m (rdSeq (Ms 0) (Ms 1) i) ∧ ∀ j e, j < i → (rdSeq (Ms 0) (Ms 1) i)[j]? = some e → rdS (Ms 0) (Ms 1) e = false) (g := fun i z => zm_X12_alone 112 [some (.inr m), some (.inl s0), some (.inl (nI i)), none] [] z) (n := 4096) (Q := fun y => AlQ Ms h m y) ?_ ?_ 0 z3 (Nat.zero_le _) ⟨o3, r3, fun j e hj => absurd hj (Nat.not_lt_zero _)⟩
    · rintro i z hi ⟨f, qz, hn⟩
      have ok := rdSeq_ok kM kN i
      have hlen := rOk_len kM kN ok
      have dz := d.o2 f (by decide)
      rw [e_X12_alone_112, mi48 dz.1, Option.bind_some, qz.1]
      by_cases c : i < (rdSeq (Ms 0) (Ms 1) i).length
      · have hget := qAt_get c
        have hb := ok.1 _ (qAt_mem c)
        have b1 := kM.p64 hb.1
        have b2 := kN.p64 hb.2.1
        have hkey := (qz.2.1 i c).1
        have hi1 : nI (mKey (qAt (rdSeq (Ms 0) (Ms 1) i) i)) >>> ((6 : Int32) &&& 31) = nI (qAt (rdSeq (Ms 0) (Ms 1) i) i).2.1 := pr_hi _ b2 _ b1
        have lo1 : nI (mKey (qAt (rdSeq (Ms 0) (Ms 1) i) i)) &&& (63 : Int32) = nI (qAt (rdSeq (Ms 0) (Ms 1) i) i).1 := pr_lo _ b2 _ b1
        have rd0 := s_mreads dz hk (t := 0) (by omega) b1
        have rd1 := s_mreads dz hk (t := 1) (by omega) b2
        rw [if_pos ((nI_ltI (by omega) (by omega)).mpr c)]
        simp only [mF49 dz.1, mr49 dz.1 hi, hkey, Option.bind_some, zif_ok dz.1.1, lo1, hi1, n0, n1, rd0, rd1]
        have eS : rdS (Ms 0) (Ms 1) (qAt (rdSeq (Ms 0) (Ms 1) i) i) = (rdO (Ms 0) (qAt (rdSeq (Ms 0) (Ms 1) i) i).1 != rdO (Ms 1) (qAt (rdSeq (Ms 0) (Ms 1) i) i).2.1) := rfl
        by_cases z1 : rdO (Ms 0) (qAt (rdSeq (Ms 0) (Ms 1) i) i).1 = rdO (Ms 1) (qAt (rdSeq (Ms 0) (Ms 1) i) i).2.1
        · right
          have hs' : rdS (Ms 0) (Ms 1) (qAt (rdSeq (Ms 0) (Ms 1) i) i) = false := by rw [eS, z1]; simp
          rw [if_pos (by rw [z1])]
          have hstep : rdSeq (Ms 0) (Ms 1) (i + 1) = rdStep (Ms 0) (Ms 1) (qAt (rdSeq (Ms 0) (Ms 1) i) i) (rdSeq (Ms 0) (Ms 1) i) := qSeq_some hget
          obtain ⟨t, et⟩ := hpre (qAt (rdSeq (Ms 0) (Ms 1) i) i) (rdSeq (Ms 0) (Ms 1) i)
          have hlast : ∀ j e, j < i + 1 → (rdSeq (Ms 0) (Ms 1) (i + 1))[j]? = some e → rdS (Ms 0) (Ms 1) e = false := by
            intro j e hj he
            rw [hstep, et, List.getElem?_append_left (by omega)] at he
            by_cases ej : j = i
            · subst ej
              rw [hget] at he
              cases he
              exact hs'
            · exact hn j e (by omega) he
          generalize hE : qAt (rdSeq (Ms 0) (Ms 1) i) i = E at *
          have one : ∀ (l : Nat) (y : zM) (Q : List zRd), 1 ≤ l ∧ l ≤ 3 → zOf m [41, 42, 43, 44] [48] h y → QS y m Q → rOk (Ms 0) (Ms 1) Q → i < Q.length → qAt Q i = E → ∃ y', zm_X12_alone 155 [some (.inr m), some (.inl s0), some (.inl (nI i)), some (.inl (nI l))] [] y = zm_X12_alone 155 [some (.inr m), some (.inl s0), some (.inl (nI i)), some (.inl (nI (l + 1)))] [] y' ∧ zOf m [41, 42, 43, 44] [48] h y' ∧ QS y' m (rdL (Ms 0) (Ms 1) l E Q) ∧ rOk (Ms 0) (Ms 1) (rdL (Ms 0) (Ms 1) l E Q) ∧ i < (rdL (Ms 0) (Ms 1) l E Q).length ∧ qAt (rdL (Ms 0) (Ms 1) l E Q) i = E := by
            intro l y Q hl fy qy oky hiQ heQ
            have dy := d.o2 fy (by decide)
            have ok2 := rdSeq_ok1 kM kN hl oky hiQ
            rw [heQ] at ok2
            have hc1 := kM.p64 (folB_lt kM E.1 l)
            have hc2 := kN.p64 (folB_lt kN E.2.1 l)
            have hky := (qy.2.1 i hiQ).1
            rw [heQ] at hky
            have g0 := s_mgoesBy dy hk (t := 0) (l := l) (by omega) b1 (by omega)
            have g1 := s_mgoesBy dy hk (t := 1) (l := l) (by omega) b2 (by omega)
            have por : nI (folB (Ms 0) E.1 l) ||| (nI (folB (Ms 1) E.2.1 l) <<< ((6 : Int32) &&& 31)) = nI (mKey (folB (Ms 0) E.1 l, folB (Ms 1) E.2.1 l, E.2.2 ++ [l])) := by
              rw [or_sym]
              exact pr_or _ hc2 _ hc1
            obtain ⟨y', r1, r2, r3⟩ := s_mset (c := (folB (Ms 0) E.1 l, folB (Ms 1) E.2.1 l, E.2.2 ++ [l])) (vb := nI i) (vl := nI l) dy.1 qy (fun k hk => by
              have := oky.1 k hk
              exact ⟨kM.p64 this.1, kN.p64 this.2.1⟩) ⟨hc1, hc2⟩ (rOk_len kM kN ok2) (Or.inr ⟨i, l, hiQ, rfl, rfl, by rw [heQ]⟩)
            obtain ⟨t', et'⟩ := rAdd_pre (folB (Ms 0) E.1 l, folB (Ms 1) E.2.1 l, E.2.2 ++ [l]) Q
            have et' : rdL (Ms 0) (Ms 1) l E Q = Q ++ t' := et'
            refine ⟨y', ?_, fy.tr r2, r3, ok2, by rw [et', List.length_append]; omega, by rw [et', qAt_l hiQ]; exact heQ⟩
            rw [e_X12_alone_155, if_pos (by rw [n4, nI_ltI (by omega) (by omega)]; omega)]
            simp only [mF49 dy.1, mr49 dy.1 hi, hky, Option.bind_some, zif_ok dy.1.1, lo1, hi1, n0, n1, g0, g1]
            rw [por, r1, Option.bind_some, nI_add]
          obtain ⟨y1, a1, a2, a3, a4, a5, a6⟩ := one 1 z _ (by decide) f qz ok c hE
          obtain ⟨y2, c1, c2, c3, c4, c5, c6⟩ := one 2 y1 _ (by decide) a2 a3 a4 a5 a6
          obtain ⟨y3, d1, d2, d3, d4, d5, d6⟩ := one 3 y2 _ (by decide) c2 c3 c4 c5 c6
          refine ⟨y3, ?_, d2, by rw [hstep]; exact d3, hlast⟩
          rw [a1, c1, d1, e_X12_alone_155, if_neg (by decide), nI_1]
        · left
          have hs' : rdS (Ms 0) (Ms 1) (qAt (rdSeq (Ms 0) (Ms 1) i) i) = true := by rw [eS]; simp [z1]
          have zb' : ∀ a b : Bool, bI a = bI b → a = b := by decide
          rw [if_neg (fun w => z1 (zb' _ _ w))]
          right
          refine ⟨z, _, i, rfl, f, qz, c, hlen, ?_⟩
          have hfin : (rdSeq (Ms 0) (Ms 1) 4096)[i]? = some (qAt (rdSeq (Ms 0) (Ms 1) i) i) := by
            show (qSeq _ _ 4096)[i]? = _
            rw [qSeq_get hpre (show i ≤ 4096 by omega) c]
            exact hget
          unfold rdW
          rw [find_at hfin hs' (fun j y hj hy => ?_)]
          · rfl
          · have e : (qSeq (rdStep (Ms 0) (Ms 1)) [((Ms 0).2.1, (Ms 1).2.1, [])] 4096)[j]? = (qSeq (rdStep (Ms 0) (Ms 1)) [((Ms 0).2.1, (Ms 1).2.1, [])] i)[j]? := qSeq_get hpre (show i ≤ 4096 by omega) (show j < (rdSeq (Ms 0) (Ms 1) i).length by omega)
            exact hn j y hj (e.symm.trans hy)
      · left
        left
        rw [if_neg (by rw [nI_ltI (by omega) (by omega)]; exact c)]
        refine ⟨?_, z, rfl, f⟩
        have estop : rdSeq (Ms 0) (Ms 1) 4096 = rdSeq (Ms 0) (Ms 1) i := qSeq_stop2 (show (rdSeq (Ms 0) (Ms 1) i).length ≤ i by omega) (by omega)
        unfold rdW
        rw [estop, find_no (fun j y hj hy => hn j y (by omega) hy)]
        rfl
    · rintro z ⟨f, qz, hn⟩
      have ok := rdSeq_ok kM kN 4096
      have hlen := rOk_len kM kN ok
      have dz := d.o2 f (by decide)
      left
      rw [e_X12_alone_112, mi48 dz.1, Option.bind_some, qz.1, if_neg (by rw [nI_ltI (by omega) (by omega)]; omega)]
      refine ⟨?_, z, rfl, f⟩
      unfold rdW
      rw [find_no (fun j y hj hy => hn j y (by omega) hy)]
      rfl
  · rintro k z hk4 ⟨oz, cz⟩
    have lz := oz.lay d.1
    rw [e_X12_alone_2, if_pos (by rw [n4096, nI_ltI (by omega) (by omega)]; exact hk4), mF52 lz, Option.bind_some, mw52 lz hk4 (Or.inl rfl), Option.bind_some, nI_1]
    refine ⟨_, rfl, oz.tr (zOf_sI (by decide) (by decide)), fun j hj => ?_⟩
    by_cases e : j = k
    · rw [e, zI_sI]
    · rw [zI_sI_k e]; exact cz j (by omega)
