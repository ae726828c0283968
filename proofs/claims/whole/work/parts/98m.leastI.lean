/-! The class Least: fill. -/
section LFI
variable {h h' : zM} {x y : Nat} {M : zMa}
theorem tkA_new {Z : zLz} {n : Nat} {p : Nat} {w : Nat} : (n / 3, n % 3 + 1, p, w) ∉ tkA Z n := fun h => by
  obtain ⟨i, p', hi, e, e2⟩ := tkA_mem h
  have e3 := congrArg (fun a : zArc => a.1) e2
  have e4 := congrArg (fun a : zArc => a.2.1) e2
  dsimp only at e3 e4
  omega
theorem bit_1 : ∀ q, q < 6 → 0 < q → 1 - (1 &&& 2 ^ q) = 1 := by decide
theorem tkQ_lt {Z : zLz} {q r n : Nat} (h : r < Z.1) : r < (tkQ Z q n).1 := h
theorem tk_new (Z : zLz) : newM Z.1 = tkQ Z 0 (3 * 0) := by
  unfold newM tkQ
  refine congrArg (fun f => (Z.1, 0, f, [])) (funext fun r => ?_)
  rw [if_neg (Nat.not_lt_zero _)]
/-- a state's beginning is told, not yet its end -/
def tkB (Z : zLz) (q n : Nat) : zMa := (Z.1, 1, fun r => if r < q then (Z.2.2.1 r).map numW else none, tkA Z n)
theorem tk_beg {Z : zLz} {q n : Nat} (h6 : q < 6) {is : Int32} (his : is = if q = 0 then 1 else 0) : begM (tkQ Z q n) q (decide (is ≠ 0)) = tkB Z q n := by
  unfold begM tkQ tkB
  by_cases c : q = 0
  · rw [if_pos c] at his
    subst his
    subst c
    rw [decide_eq_true (show (1 : Int32) ≠ 0 by decide), if_pos rfl, if_neg (Nat.lt_irrefl 0)]
    dsimp only
    rw [show (0 : Nat) ||| 2 ^ 0 = 1 from by decide]
  · rw [if_neg c] at his
    subst his
    have c2 : 0 < q := by omega
    simp only [c2, if_true, ne_eq, not_true, decide_false, Bool.false_eq_true, if_false]
    rw [bit_1 q h6 c2]
theorem tk_end {Z : zLz} {q n : Nat} {o : Option zWo} (eo : Z.2.2.1 q = o) : setE (tkB Z q n) q (o.map numW) = tkQ Z (q + 1) n := by
  unfold setE tkQ tkB
  rw [if_pos (Nat.succ_pos q)]
  refine congrArg (fun f => (Z.1, 1, f, tkA Z n)) (funext fun r => ?_)
  rw [va_up_both]
  by_cases c : r = q
  · rw [if_pos c, if_pos (by omega), c, eo]
  · rw [if_neg c]
    dsimp only
    by_cases c2 : r < q
    · rw [if_pos c2, if_pos (by omega)]
    · rw [if_neg c2, if_neg (by omega)]
theorem tk_none {Z : zLz} {q n : Nat} (e : Z.2.2.2 n = none) : tkQ Z q (n + 1) = tkQ Z q n := by
  unfold tkQ
  rw [tkA_s, e, List.append_nil]
theorem tk_some {Z : zLz} {q n : Nat} {p : zWo × Nat} (e : Z.2.2.2 n = some p) (h30 : n < 30) : addA (tkQ Z q n) (n / 3, n % 3 + 1, p.2, numW p.1) = (nI ((tkA Z n).length + 1), tkQ Z q (n + 1)) := by
  have hl := tkA_len Z n
  unfold addA
  have hnew : (n / 3, n % 3 + 1, p.2, numW p.1) ∉ (tkQ Z q n).2.2.2 := tkA_new
  have hlen : (tkQ Z q n).2.2.2.length < 30 := by show (tkA Z n).length < 30; omega
  rw [if_neg hnew, if_pos hlen]
  unfold tkQ
  rw [tkA_s, e]
theorem s_Lfill (g : sGood M) (hxy : x + 1818 ≤ y) (d : LF h x y M) (fit : fitZ (lsZ M)) {A : Nat} {M0 : zMa} (mM : MC h A M0) (hA : A + 6 ≤ x ∨ y + 409 ≤ A) :
    ∃ h', zf nX1_fill [.inr y, .inr A] h = some (0, 0, h') ∧ zF2 (y + 204) (y + 206) A (A + 6) h h' ∧ LF h' x y M ∧ MC h' A (tkM (lsZ M)) := by
  have hn : lsN M ≤ 100 := g.2.2.2
  have hPl := lsP_len g
  have zok := lsZ_ok g
  have hZ1 : (lsZ M).1 = (lsP M).length := lsZ_1
  have hZ6 := fit.1
  have hZ : (lsZ M).1 < 2 ^ 30 := by omega
  rw [e_X1_fill, d.st, Option.bind_some, zif_ok mM.1.1]
  obtain ⟨h1, a1, a2, a3⟩ := s_renew mM.1 (lsP M).length
  have d1 := d.eq g (a2.eq (by omega)) (a2.eq (by omega))
  rw [a1, Option.bind_some]
  dsimp only
  have e0 : newM (lsP M).length = tkQ (lsZ M) 0 (3 * 0) := by rw [← hZ1]; exact tk_new _
  rw [e0] at a3
  have main := zlp (P := fun q z => zF2 (y + 204) (y + 206) A (A + 6) h z ∧ LF z x y M ∧ MC z A (tkQ (lsZ M) q (3 * q))) (g := fun q z => zm_X1_fill 10 [some (.inr y), some (.inr A), some (.inl (nI q)), none, none, none] [] z) (n := (lsP M).length) ?_ 0 h1 (Nat.zero_le _) ⟨zF2.r a2, d1, a3⟩
  · obtain ⟨h', e1, e2, e3, e4⟩ := main
    refine ⟨h', Eq.trans e1 ?_, e2, e3, ?_⟩
    · rw [e_X1_fill_10, e3.st, Option.bind_some, if_neg (by rw [nI_ltI (by omega) (by omega)]; omega)]
    · unfold tkM
      rw [hZ1]
      exact e4
  · rintro q z hq ⟨fr, dz, mz⟩
    have hZq : q < (lsZ M).1 := by omega
    have ok0 := tkQ_ok zok fit (q := q) (n := 3 * q) (by omega) (by omega)
    -- beginning, end
    have hstart : ∃ z1 r1, zm_X1_fill 10 [some (.inr y), some (.inr A), some (.inl (nI q)), none, none, none] [] z = zm_X1_fill 60 [some (.inr y), some (.inr A), some (.inl (nI q)), some (.inr r1), some (.inl (1 : Int32)), none] [] z1 ∧ zF2 (y + 204) (y + 206) A (A + 6) h z1 ∧ LF z1 x y M ∧ MC z1 A (tkQ (lsZ M) (q + 1) (3 * q)) := by
      have beg : ∀ is : Int32, (is = if q = 0 then 1 else 0) → ∃ z2, zf nX2_setBeginning [.inr A, .inl (nI q), .inl is] z = some (0, 0, z2) ∧ zFr A (A + 6) z z2 ∧ MC z2 A (tkB (lsZ M) q (3 * q)) := fun is his => by
        obtain ⟨z2, b1, b2, b3⟩ := s_setBeginning mz ok0 (q := q) (tkQ_lt hZq) is
        refine ⟨z2, b1, b2, ?_⟩
        have e := tk_beg (Z := lsZ M) (q := q) (n := 3 * q) (by omega) his
        rw [e] at b3
        exact b3
      have rest : ∀ z2, zFr A (A + 6) z z2 → MC z2 A (tkB (lsZ M) q (3 * q)) → ∃ z1 r1, (zif (zK z2 y = 2) ((zf nX1_wordOf [.inr y, .inl (nI q), .inl (0 : Int32)] z2).bind fun u2 => (zgF u2.2.2 A 2 3).bind fun r1 => if u2.2.1 = 0 then (zis u2.2.2 r1 (nI q) (-1 : Int32)).bind fun h2 => zm_X1_fill 60 [some (.inr y), some (.inr A), some (.inl (nI q)), some (.inr u2.2.1), some (.inl (1 : Int32)), none] [] h2 else zif (zK u2.2.2 u2.2.1 = 11) ((zf nX10_number [.inr u2.2.1] u2.2.2).bind fun u3 => (zis u3.2.2 r1 (nI q) u3.1).bind fun h1 => zm_X1_fill 60 [some (.inr y), some (.inr A), some (.inl (nI q)), some (.inr u2.2.1), some (.inl (1 : Int32)), none] [] h1))) = zm_X1_fill 60 [some (.inr y), some (.inr A), some (.inl (nI q)), some (.inr r1), some (.inl (1 : Int32)), none] [] z1 ∧ zF2 (y + 204) (y + 206) A (A + 6) h z1 ∧ LF z1 x y M ∧ MC z1 A (tkQ (lsZ M) (q + 1) (3 * q)) := fun z2 f2 m2 => by
        have d2 := dz.eq g (f2.eq (by omega)) (f2.eq (by omega))
        rw [zif_ok d2.1.1.2.2.1.1.1]
        obtain ⟨z3, f3, d3, w3⟩ := s_wordOf g hxy d2 (nI q) 0
        rw [aWord_0 hZ hZq] at w3
        have m3 := m2.keep f3 (by omega)
        have k1 := m3.k1
        have fin : ∀ (o : Option zWo), (lsZ M).2.2.1 q = o → MC (zsI z3 (A + 1) q (eI (o.map numW))) A (tkQ (lsZ M) (q + 1) (3 * q)) ∧ zF2 (y + 204) (y + 206) A (A + 6) h (zsI z3 (A + 1) q (eI (o.map numW))) ∧ LF (zsI z3 (A + 1) q (eI (o.map numW))) x y M := fun o eo => by
          have f4 : zFr (A + 1) (A + 2) z3 (zsI z3 (A + 1) q (eI (o.map numW))) := zFr_sI (by omega) (by omega)
          refine ⟨?_, (fr.tr (zF2.r f2)).tr ((zF2.l f3).tr (zF2.r (f4.wide (by omega) (by omega)))), d3.eq g (f4.eq (by omega)) (f4.eq (by omega))⟩
          have m4 := m3.setE q (o.map numW)
          have e := tk_end (Z := lsZ M) (q := q) (n := 3 * q) eo
          rw [e] at m4
          exact m4
        cases e : (lsZ M).2.2.1 q with
        | none =>
          rw [e] at w3
          rw [show zf nX1_wordOf [.inr y, .inl (nI q), .inl (0 : Int32)] z2 = some (0, 0, z3) from w3, Option.bind_some]
          dsimp only
          rw [m3.f3, Option.bind_some, if_pos rfl, zis_ok k1.1 (by rw [k1.2]; omega) (by rw [k1.2]; decide), Option.bind_some]
          obtain ⟨r1, r2, r3⟩ := fin none e
          exact ⟨_, 0, rfl, r2, r3, r1⟩
        | some v =>
          rw [e] at w3
          obtain ⟨a, n, w4, w5, w6⟩ := w3
          have w51 : x + 1205 ≤ a := w5.1
          rw [w4, Option.bind_some]
          dsimp only
          obtain ⟨nw1, nw2⟩ := numW_ok (zok.1 q v hZq e) ((fit.2.2 q hZq).1 v e)
          rw [m3.f3, Option.bind_some, if_neg (by omega), zif_ok w6.1, s_number w6, Option.bind_some]
          dsimp only
          rw [zis_ok k1.1 (by rw [k1.2]; omega) (by rw [k1.2]; decide), Option.bind_some, nw1]
          obtain ⟨r1, r2, r3⟩ := fin (some v) e
          exact ⟨_, a, rfl, r2, r3, r1⟩
      rw [e_X1_fill_10, dz.st, Option.bind_some, if_pos ((nI_ltI (by omega) (by omega)).mpr hq)]
      by_cases c : q = 0
      · rw [if_pos (by rw [c]; rfl), zif_ok mz.1.1]
        obtain ⟨z2, b1, b2, b3⟩ := beg 1 (by rw [if_pos c])
        rw [b1, Option.bind_some]
        exact rest z2 b2 b3
      · rw [if_neg (by rw [n0, nI_eq (by omega) (by omega)]; exact c), zif_ok mz.1.1]
        obtain ⟨z2, b1, b2, b3⟩ := beg 0 (by rw [if_neg c])
        rw [b1, Option.bind_some]
        exact rest z2 b2 b3
    obtain ⟨z1, r1, e1, fr1, dz1, mz1⟩ := hstart
    have main2 := zlp (P := fun j z => zF2 (y + 204) (y + 206) A (A + 6) h z ∧ LF z x y M ∧ MC z A (tkQ (lsZ M) (q + 1) (3 * q + j))) (g := fun j z => zm_X1_fill 60 [some (.inr y), some (.inr A), some (.inl (nI q)), some (.inr r1), some (.inl (nI (j + 1))), none] [] z) (n := 3) ?_ 0 z1 (Nat.zero_le _) ⟨fr1, dz1, mz1⟩
    · obtain ⟨h', e2, e3, e4, e5⟩ := main2
      refine ⟨h', e1.trans (Eq.trans e2 ?_), e3, e4, e5⟩
      rw [e_X1_fill_60, if_pos (by decide), nI_1]
    · rintro j z2 hj ⟨fr2, dz2, mz2⟩
      have okj := tkQ_ok zok fit (q := q + 1) (n := 3 * q + j) (by omega) (by omega)
      rw [e_X1_fill_60, if_neg (by rw [n3, nI_ltI (by omega) (by omega)]; omega), zif_ok dz2.1.1.2.2.1.1.1]
      obtain ⟨z3, f3, d3, w3⟩ := s_wordOf g hxy dz2 (nI q) (nI (j + 1))
      rw [aWord_l hZ hZq (by omega), show j + 1 - 1 = j by omega] at w3
      have m3 := mz2.keep f3 (by omega)
      cases e : (lsZ M).2.2.2 (3 * q + j) with
      | none =>
        rw [e] at w3
        rw [show zf nX1_wordOf [.inr y, .inl (nI q), .inl (nI (j + 1))] z2 = some (0, 0, z3) from w3, Option.bind_some, if_pos rfl, nI_1]
        refine ⟨z3, rfl, fr2.tr (zF2.l f3), d3, ?_⟩
        rw [show 3 * q + (j + 1) = 3 * q + j + 1 by omega, tk_none e]
        exact m3
      | some p =>
        rw [e] at w3
        obtain ⟨a, n, w4, w5, w6⟩ := w3
        have w51 : x + 1205 ≤ a := w5.1
        have hp := zok.2 (3 * q + j) p (by omega) e
        obtain ⟨nw1, nw2⟩ := numW_ok hp.1 ((fit.2.2 q hZq).2 j hj p e)
        rw [w4, Option.bind_some]
        dsimp only
        rw [if_neg (by omega), zif_ok d3.1.1.2.2.1.1.1, s_stateBehind g d3, Option.bind_some, aGoes_n hZ hZq (by omega), show j + 1 - 1 = j by omega, e]
        dsimp only
        rw [zif_ok w6.1, s_number w6, Option.bind_some, nw1]
        dsimp only
        rw [zif_ok m3.1.1]
        have hx : ((q, j + 1, p.2, numW p.1) : zArc).1 < (tkQ (lsZ M) (q + 1) (3 * q + j)).1 ∧ (1 ≤ ((q, j + 1, p.2, numW p.1) : zArc).2.1 ∧ ((q, j + 1, p.2, numW p.1) : zArc).2.1 ≤ 3) ∧ ((q, j + 1, p.2, numW p.1) : zArc).2.2.1 < (tkQ (lsZ M) (q + 1) (3 * q + j)).1 ∧ ((q, j + 1, p.2, numW p.1) : zArc).2.2.2 < 1000 := ⟨tkQ_lt hZq, ⟨by show 1 ≤ j + 1; omega, by show j + 1 ≤ 3; omega⟩, tkQ_lt hp.2, nw2.lt⟩
        obtain ⟨z4, c1, c2, c3⟩ := s_addArc m3 okj hx
        have ea := tk_some (q := q + 1) e (show 3 * q + j < 30 by omega)
        rw [show (3 * q + j) / 3 = q by omega, show (3 * q + j) % 3 = j by omega] at ea
        rw [ea] at c1 c3
        rw [c1, Option.bind_some, nI_1]
        exact ⟨z4, rfl, fr2.tr ((zF2.l f3).tr (zF2.r c2)), d3.eq g (c2.eq (by omega)) (c2.eq (by omega)), c3⟩
end LFI
