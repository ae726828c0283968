/-! The reference: take. -/
theorem zFr.of8 {h h' : zM} {m : Nat} (f : zFr (m + 1) (m + 9) h h') : zOf m [1, 2, 3, 4, 5, 6, 7, 8] [] h h' :=
  ⟨f.1, f.2.1, funext fun a => (f.2.2 a).2, fun a h0 hL => (f.2.2 a).1 (fun w => by
    have e1 := hL 1 (by decide)
    have e2 := hL 2 (by decide)
    have e3 := hL 3 (by decide)
    have e4 := hL 4 (by decide)
    have e5 := hL 5 (by decide)
    have e6 := hL 6 (by decide)
    have e7 := hL 7 (by decide)
    have e8 := hL 8 (by decide)
    omega), fun j _ => f.I (by omega) j⟩
theorem va_up2x {α : Type} {f : Nat → α} {a : Nat} {x y : α} : va_up (va_up f a x) a y = va_up f a y := by
  funext k
  by_cases e : k = a
  · rw [e, va_up_self, va_up_self]
  · rw [va_up_ne _ _ e, va_up_ne _ _ e, va_up_ne _ _ e]
section TAK
variable {h : zM} {m t q n : Nat} {Ms : Nat → zMa} {Z : zLz}
theorem MMs.beg (d : MMs h m Ms) (hk : ∀ t, t < 2 → MaOk (Ms t)) (ht : t < 2) (hq : q < 6) {is : Int32} (his : is = 0 ∨ is = 1) : MMs (zsI h (m + 2) (6 * t + q) is) m (va_up Ms t (begM (Ms t) q (decide (is ≠ 0)))) := by
  obtain ⟨a1, a2, a3, a4⟩ := d.2 t ht
  have kM := hk t ht
  have f : zFr (m + 2) (m + 3) h (zsI h (m + 2) (6 * t + q) is) := zFr_sI (by omega) (by omega)
  have b64 := kM.beg64
  refine d.put ht d.1 ?_ ?_ (fun r hr => ?_) (fun i hi => ?_) (fun s hs hst => ?_) (fun s r hs hr hst => ?_) (fun s i hs hi hst => ?_) hk
  · rw [f.I (by omega)]; exact a1
  · rw [f.I (by omega)]; exact a2
  · refine ⟨?_, by rw [f.I (by omega)]; exact (a3 r hr).2⟩
    show _ = bI ((if decide (is ≠ 0) = true then (Ms t).2.1 ||| 2 ^ q else (Ms t).2.1 - ((Ms t).2.1 &&& 2 ^ q)).testBit r)
    rcases his with e | e
    · rw [e, if_neg (by decide), bit_off_t _ b64 q hq r hr]
      by_cases c : r = q
      · rw [c, zI_sI, decide_eq_false (fun w => w rfl), Bool.and_false]
        rfl
      · rw [zI_sI_k (by omega), decide_eq_true c, Bool.and_true]
        exact (a3 r hr).1
    · rw [e, if_pos (by decide), bit_or_t _ b64 q hq r hr]
      by_cases c : r = q
      · rw [c, zI_sI, decide_eq_true rfl, Bool.or_true]
        rfl
      · rw [zI_sI_k (by omega), decide_eq_false c, Bool.or_false]
        exact (a3 r hr).1
  · rw [f.I (by omega), f.I (by omega), f.I (by omega), f.I (by omega)]; exact a4 i hi
  · rw [f.I (by omega), f.I (by omega)]; exact ⟨rfl, rfl⟩
  · rw [zI_sI_k (by omega), f.I (by omega)]; exact ⟨rfl, rfl⟩
  · rw [f.I (by omega), f.I (by omega), f.I (by omega), f.I (by omega)]; exact ⟨rfl, rfl, rfl, rfl⟩
theorem MMs.endE (d : MMs h m Ms) (hk : ∀ t, t < 2 → MaOk (Ms t)) (ht : t < 2) (hq : q < 6) {o : Option Nat} : MMs (zsI h (m + 3) (6 * t + q) (eI o)) m (va_up Ms t (setE (Ms t) q o)) := by
  obtain ⟨a1, a2, a3, a4⟩ := d.2 t ht
  have f : zFr (m + 3) (m + 4) h (zsI h (m + 3) (6 * t + q) (eI o)) := zFr_sI (by omega) (by omega)
  refine d.put ht d.1 ?_ ?_ (fun r hr => ?_) (fun i hi => ?_) (fun s hs hst => ?_) (fun s r hs hr hst => ?_) (fun s i hs hi hst => ?_) hk
  · rw [f.I (by omega)]; exact a1
  · rw [f.I (by omega)]; exact a2
  · refine ⟨by rw [f.I (by omega)]; exact (a3 r hr).1, fun hrc => ?_⟩
    by_cases e : r = q
    · rw [e, zI_sI]
      show eI o = eI (va_up (Ms t).2.2.1 q o q)
      rw [va_up_self]
    · rw [zI_sI_k (by omega), (a3 r hr).2 hrc]
      show _ = eI (va_up (Ms t).2.2.1 q o r)
      rw [va_up_ne _ _ e]
  · rw [f.I (by omega), f.I (by omega), f.I (by omega), f.I (by omega)]; exact a4 i hi
  · rw [f.I (by omega), f.I (by omega)]; exact ⟨rfl, rfl⟩
  · rw [zI_sI_k (by omega), f.I (by omega)]; exact ⟨rfl, rfl⟩
  · rw [f.I (by omega), f.I (by omega), f.I (by omega), f.I (by omega)]; exact ⟨rfl, rfl, rfl, rfl⟩
theorem s_rnumber {e : Nat} {w : zWo} (lay : MLay h m) (he : e < 404) (ow : OWB h m 64 65 780 e (some w)) : zf nX12_wordOfLeast [.inr m, .inl (nI e)] h = some (wnum w, 0, h) := by
  obtain ⟨w1, w2, w3, w4⟩ := ow
  have s1 : zia h (m + 64) (nI e) = some (nI w.length) := by rw [mr81 lay he, w1]
  have loop := zlp (P := fun _ z => z = h) (g := fun i z => zm_X12_wordOfLeast 4 [some (.inr m), some (.inl (nI e)), some (.inl (wnum (w.take i))), some (.inl (nI i))] [] z) (n := w.length) (fun i z hi hz => ⟨z, by
    subst hz
    have x1 : zba z (m + 65) (nI (780 * e + i)) = some (w.getD i 0) := by rw [mr82 lay (by omega), w2 i hi]
    have et : w.take (i + 1) = w.take i ++ [w.getD i 0] := by
      rw [List.take_add_one, List.getD_eq_getElem?_getD, List.getElem?_eq_getElem hi]
      rfl
    rw [e_X12_wordOfLeast_4, mF81 lay, Option.bind_some, s1, Option.bind_some, if_pos ((nI_ltI (by omega) (by omega)).mpr hi), mF82 lay, Option.bind_some, n780, pk_mul, nI_add, x1, Option.bind_some, nI_1, et, wnum_app, Int32.mul_comm], hz⟩) 0 h (Nat.zero_le _) rfl
  obtain ⟨z, e1, rfl⟩ := loop
  rw [e_X12_wordOfLeast]
  refine (show _ = _ from e1).trans ?_
  rw [e_X12_wordOfLeast_4, mF81 lay, Option.bind_some, s1, Option.bind_some, if_neg (by rw [nI_ltI (by omega) (by omega)]; omega), List.take_length]
/-- one way -/
theorem s_take134 {j : Nat} (ht : t < 2) (zk : zOk Z) (fit : fitZ Z) (hq : q < Z.1) (hj : j < 3) (lz : LZm h m Z) {a2 : Int32} (d : MMs h m (va_up Ms t (tkQ Z (q + 1) (3 * q + j)))) (hk : ∀ t, t < 2 → MaOk (Ms t)) :
    ∃ h', zm_X12_take 134 [some (.inr m), some (.inl (nI t)), some (.inl a2), some (.inl (nI q)), some (.inl (nI (j + 1)))] [] h = zm_X12_take 134 [some (.inr m), some (.inl (nI t)), some (.inl a2), some (.inl (nI q)), some (.inl (nI (j + 1 + 1)))] [] h' ∧ zFr (m + 1) (m + 9) h h' ∧ MMs h' m (va_up Ms t (tkQ Z (q + 1) (3 * q + (j + 1)))) := by
  have h6 := fit.1
  have lay := d.1
  obtain ⟨w1, w2⟩ := (lz.2.2 q hq).2 j hj
  have hk' : ∀ s, s < 2 → MaOk ((va_up Ms t (tkQ Z (q + 1) (3 * q + j))) s) := fun s hs => by
    by_cases e : s = t
    · rw [e, va_up_self]
      exact tkQ_ok zk fit (by omega) (by omega)
    · rw [va_up_ne _ _ e]
      exact hk s hs
  rw [e_X12_take_134, if_pos (by rw [n4, nI_ltI (by omega) (by omega)]; omega), mF80 lay, Option.bind_some, n4, pk_mul, nI_add, mr80 lay (by omega), Option.bind_some, nI_1]
  cases eZ : Z.2.2.2 (3 * q + j) with
  | none =>
    rw [eZ] at w2
    dsimp only at w2
    rw [w2, if_pos (by decide)]
    refine ⟨h, rfl, zFr.rf, ?_⟩
    rw [show 3 * q + (j + 1) = 3 * q + j + 1 from rfl, tk_none eZ]
    exact d
  | some p =>
    rw [eZ] at w1 w2
    dsimp only at w2
    obtain ⟨po, plt⟩ := zk.2 _ p (show 3 * q + j < 3 * Z.1 by omega) eZ
    have p3 := (fit.2.2 q hq).2 j hj p eZ
    have nw := numW_ok po p3
    have w1' : OWB h m 64 65 780 (4 * q + (j + 1)) (some p.1) := w1
    have al := tkA_len Z (3 * q + j)
    obtain ⟨h', r1, r2, r3⟩ := s_mcomes (t := t) d hk' ht (by rw [va_up_self]; show (tkA Z (3 * q + j)).length < 30; omega) (q, j + 1, p.2, numW p.1)
    rw [w2, if_neg (nI_nn (by omega)), Option.bind_some, mr80 lay (by omega), Option.bind_some, w2, zif_ok lay.1, s_rnumber lay (by omega) w1', Option.bind_some]
    dsimp only
    rw [zif_ok lay.1, nw.1, show zf nX12_comes [.inr m, .inl (nI t), .inl (nI q), .inl (nI (j + 1)), .inl (nI p.2), .inl (nI (numW p.1))] h = _ from r1, Option.bind_some]
    refine ⟨h', rfl, r2, ?_⟩
    rw [va_up_self, va_up2x] at r3
    have et : tkA Z (3 * q + (j + 1)) = tkA Z (3 * q + j) ++ [(q, j + 1, p.2, numW p.1)] := by
      rw [show 3 * q + (j + 1) = 3 * q + j + 1 from rfl, tkA_s, eZ]
      dsimp only
      rw [show (3 * q + j) / 3 = q by omega, show (3 * q + j) % 3 = j by omega]
    have ek : tkQ Z (q + 1) (3 * q + (j + 1)) = ((tkQ Z (q + 1) (3 * q + j)).1, (tkQ Z (q + 1) (3 * q + j)).2.1, (tkQ Z (q + 1) (3 * q + j)).2.2.1, (tkQ Z (q + 1) (3 * q + j)).2.2.2 ++ [(q, j + 1, p.2, numW p.1)]) := by
      show (Z.1, _, _, tkA Z (3 * q + (j + 1))) = (Z.1, _, _, tkA Z (3 * q + j) ++ [(q, j + 1, p.2, numW p.1)])
      rw [et]
      rfl
    rw [ek]
    exact r3
/-- one state -/
theorem s_take74 (ht : t < 2) (zk : zOk Z) (fit : fitZ Z) (hq : q < Z.1) (lz : LZm h m Z) {a2 : Int32} (d : MMs h m (va_up Ms t (tkQ Z q (3 * q)))) (hk : ∀ t, t < 2 → MaOk (Ms t)) :
    ∃ h', zm_X12_take 74 [some (.inr m), some (.inl (nI t)), some (.inl a2), some (.inl (nI q)), none] [] h = zm_X12_take 74 [some (.inr m), some (.inl (nI t)), some (.inl a2), some (.inl (nI (q + 1))), none] [] h' ∧ zFr (m + 1) (m + 9) h h' ∧ MMs h' m (va_up Ms t (tkQ Z (q + 1) (3 * (q + 1)))) := by
  have h6 := fit.1
  have lay := d.1
  have hkx : ∀ (X : zMa), MaOk X → ∀ s, s < 2 → MaOk ((va_up Ms t X) s) := fun X hX s hs => by
    by_cases e : s = t
    · rw [e, va_up_self]; exact hX
    · rw [va_up_ne _ _ e]; exact hk s hs
  have okQ : MaOk (tkQ Z q (3 * q)) := tkQ_ok zk fit (by omega) (by omega)
  -- the ways
  have ways : ∀ z, zFr (m + 1) (m + 9) h z → MMs z m (va_up Ms t (tkQ Z (q + 1) (3 * q))) → ∃ h', zm_X12_take 134 [some (.inr m), some (.inl (nI t)), some (.inl a2), some (.inl (nI q)), some (.inl (1 : Int32))] [] z = zm_X12_take 74 [some (.inr m), some (.inl (nI t)), some (.inl a2), some (.inl (nI (q + 1))), none] [] h' ∧ zFr (m + 1) (m + 9) h h' ∧ MMs h' m (va_up Ms t (tkQ Z (q + 1) (3 * (q + 1)))) := fun z fz dz => by
    obtain ⟨z1, a1, b1, c1⟩ := s_take134 (a2 := a2) (j := 0) ht zk fit hq (by omega) (lz.o fz.of8 (by decide) (by decide)) dz hk
    have f1 := fz.tr b1
    obtain ⟨z2, a2', b2, c2⟩ := s_take134 (a2 := a2) (j := 1) ht zk fit hq (by omega) (lz.o f1.of8 (by decide) (by decide)) c1 hk
    have f2 := f1.tr b2
    obtain ⟨z3, a3, b3, c3⟩ := s_take134 (a2 := a2) (j := 2) ht zk fit hq (by omega) (lz.o f2.of8 (by decide) (by decide)) c2 hk
    refine ⟨z3, ?_, f2.tr b3, c3⟩
    rw [show zm_X12_take 134 [some (.inr m), some (.inl (nI t)), some (.inl a2), some (.inl (nI q)), some (.inl (1 : Int32))] [] z = _ from a1, show zm_X12_take 134 [some (.inr m), some (.inl (nI t)), some (.inl a2), some (.inl (nI q)), some (.inl (nI (0 + 1 + 1)))] [] z1 = _ from a2', show zm_X12_take 134 [some (.inr m), some (.inl (nI t)), some (.inl a2), some (.inl (nI q)), some (.inl (nI (1 + 1 + 1)))] [] z2 = _ from a3, e_X12_take_134, if_neg (by decide), nI_1]
  -- beginning and end
  have main : ∀ is : Int32, (is = if q = 0 then 1 else 0) → ∃ h', ((zbs h (m + 2) (nI (6 * t + q)) is).bind fun h1 => (zgF h1 m 12 81).bind fun r2 => (zia h1 r2 ((4 : Int32) * nI q)).bind fun v2 => if v2 < 0 then zm_X12_take 134 [some (.inr m), some (.inl (nI t)), some (.inl a2), some (.inl (nI q)), some (.inl (1 : Int32))] [] h1 else (zgF h1 m 12 2).bind fun r3 => zif (zK h1 m = 13) ((zf nX12_wordOfLeast [.inr m, .inl ((4 : Int32) * nI q)] h1).bind fun u1 => (zis u1.2.2 r3 (((6 : Int32) * nI t) + nI q) u1.1).bind fun h2 => zm_X12_take 134 [some (.inr m), some (.inl (nI t)), some (.inl a2), some (.inl (nI q)), some (.inl (1 : Int32))] [] h2)) = zm_X12_take 74 [some (.inr m), some (.inl (nI t)), some (.inl a2), some (.inl (nI (q + 1))), none] [] h' ∧ zFr (m + 1) (m + 9) h h' ∧ MMs h' m (va_up Ms t (tkQ Z (q + 1) (3 * (q + 1)))) := fun is his => by
    have his2 : is = 0 ∨ is = 1 := by
      rw [his]
      split
      · exact Or.inr rfl
      · exact Or.inl rfl
    have d1 := MMs.beg (q := q) d (hkx _ okQ) ht (by omega) his2
    rw [va_up_self, va_up2x, tk_beg (by omega) his] at d1
    rw [mw1 lay (by omega) his2, Option.bind_some]
    have f1 : zFr (m + 1) (m + 9) h (zsI h (m + 2) (6 * t + q) is) := zFr_sI (by omega) (by omega)
    generalize zsI h (m + 2) (6 * t + q) is = z1 at *
    have l1 := d1.1
    have lz1 := lz.o f1.of8 (by decide) (by decide)
    have oe := (lz1.2.2 q hq).1
    have okB : MaOk (tkB Z q (3 * q)) := by
      rw [← tk_beg (Z := Z) (q := q) (n := 3 * q) (by omega) his]
      exact begM_ok okQ (by exact hq) _
    rw [mF81 l1, Option.bind_some, n4, pk_mul, mr81 l1 (by omega), Option.bind_some]
    cases eZ : Z.2.2.1 q with
    | none =>
      rw [eZ] at oe
      rw [show zI z1 (m + 64) (4 * q) = -1 from oe, if_pos (by decide)]
      refine ways z1 f1 ?_
      have e : tkB Z q (3 * q) = tkQ Z (q + 1) (3 * q) := by
        rw [← tk_end (Z := Z) (q := q) (n := 3 * q) eZ]
        show (Z.1, 1, _, tkA Z (3 * q)) = (Z.1, 1, va_up (fun r => if r < q then (Z.2.2.1 r).map numW else none) q none, tkA Z (3 * q))
        have : va_up (fun r => if r < q then (Z.2.2.1 r).map numW else none) q none = fun r => if r < q then (Z.2.2.1 r).map numW else none := by
          funext r
          by_cases c : r = q
          · rw [c, va_up_self, if_neg (Nat.lt_irrefl _)]
          · rw [va_up_ne _ _ c]
        rw [this]
      rw [← e]
      exact d1
    | some v =>
      rw [eZ] at oe
      have oe' : OWB z1 m 64 65 780 (4 * q) (some v) := oe
      have vl := oe'.2.2.1
      have v3 := (fit.2.2 q hq).1 v eZ
      have nw := numW_ok oe'.2.2.2 v3
      have d2 := MMs.endE (q := q) (o := some (numW v)) d1 (hkx _ okB) ht (by omega)
      rw [va_up_self, va_up2x, show (some (numW v) : Option Nat) = (some v).map numW from rfl, tk_end eZ] at d2
      rw [oe'.1, if_neg (nI_nn (by omega)), mF2 l1, Option.bind_some, zif_ok l1.1, s_rnumber l1 (by omega) oe', Option.bind_some]
      dsimp only
      rw [n6, pk_mul, nI_add, mw2 l1 (by omega), Option.bind_some, nw.1]
      exact ways _ (f1.tr (zFr_sI (by omega) (by omega))) d2
  rw [e_X12_take_74, mi79 lay, Option.bind_some, lz.1, if_pos ((nI_ltI (by omega) (by omega)).mpr hq), mF1 lay, Option.bind_some]
  by_cases c : q = 0
  · rw [if_pos (show nI q = (0 : Int32) by rw [c]; rfl)]
    have := main 1 (by rw [if_pos c])
    rw [show (6 : Int32) * nI t + nI q = nI (6 * t + q) by rw [n6, pk_mul, nI_add]] at *
    exact this
  · rw [if_neg (show ¬ nI q = (0 : Int32) by rw [n0, nI_eq (by omega) (by omega)]; exact c)]
    have := main 0 (by rw [if_neg c])
    rw [show (6 : Int32) * nI t + nI q = nI (6 * t + q) by rw [n6, pk_mul, nI_add]] at *
    exact this
end TAK
