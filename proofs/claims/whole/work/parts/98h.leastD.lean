/-! The class Least: parted. -/
section LPT
variable {h h' : zM} {x y : Nat} {M : zMa}
def LQ (h : zM) (x y : Nat) (M : zMa) : Prop := LE h x y M ∧ EN h y (lsN M) (lsE M) ∧ CM h y (lsN M) (hdW M) ∧ GF h x (lsN M) (lsW M)
theorem LQ.int {a : Nat} (hn : lsN M ≤ 100) (hxy : x + 1818 ≤ y) (d : LQ h x y M) (f : zFr a (a + 1) h h') (ha : a = y ∨ y + 404 ≤ a) : LQ h' x y M :=
  ⟨⟨d.1.1.eq (f.eq (by omega)), by rw [f.I (by omega)]; exact d.1.2.1, d.1.2.2.int f (by omega)⟩, d.2.1.eq hn (f.eq (by omega)), d.2.2.1.eq hn (f.eq (by omega)), d.2.2.2.eq hn (f.eq (by omega))⟩
def BL (h : zM) (a n : Nat) (B : Nat → Nat) : Prop := ∀ s, s < n → zI h a s = nI (B s)
theorem BL.keep {a n lo hi : Nat} {B : Nat → Nat} (d : BL h a n B) (f : zFr lo hi h h') (ha : a < lo ∨ hi ≤ a) : BL h' a n B := fun s hs => by rw [f.I (by omega)]; exact d s hs
theorem lt3 {j : Nat} (hj : j < 3) : nI j < (3 : Int32) := by
  rw [n3, nI_ltI (by omega) (by omega)]
  exact hj
theorem i10 : ((1 : Int32) = 0) = False := eq_false (by decide)
theorem i01 : ((0 : Int32) = 1) = False := eq_false (by decide)
theorem or0 (c : Bool) : bI c ||| 0 = bI c := by cases c <;> decide
theorem or1 (c : Bool) : bI c ||| 1 = bI true := by cases c <;> decide
theorem LE.gt (l : LE h x y M) {i : Nat} (hi : i < 300) : zia h (x + 1203) (nI i) = some (zI h (x + 1203) i) := by
  have X := l.1.1
  exact zia_ok X.k3.1 (by rw [X.k3.2]; exact hi) (by rw [X.k3.2]; omega)
theorem LE.gw (l : LE h x y M) {i : Nat} (hi : i < 300) : zaa h (x + 1204) (nI i) = some (x + 1205 + 2 * i) := by
  have X := l.1.1
  rw [X.2.2.2.1.el hi, wExt]
theorem s_writeAlike {a b : Nat} (g : sGood M) (d : LQ h x y M) (ha : a < lsN M) (hb : b < lsN M) : zf nX1_writeAlike [.inr y, .inl (nI a), .inl (nI b)] h = some (bI (wAl (lsE M) (lsW M) a b), 0, h) := by
  have hn : lsN M ≤ 100 := g.2.2.2
  have ha1 : a < 100 := by omega
  have hb1 : b < 100 := by omega
  have hlt := lsW_lt g
  obtain ⟨dl, de, -, dg⟩ := d
  have Y := dl.2.2.1
  have X := dl.1.1
  have ea := de a ha
  have eb := de b hb
  have loop : lsE M a = lsE M b → zm_X1_writeAlike 46 [some (.inr y), some (.inl (nI a)), some (.inl (nI b)), some (.inl (nI 0)), none, none] [] h = some (bI (wAl (lsE M) (lsW M) a b), 0, h) := by
    intro hE
    refine zlq (P := fun j z => z = h ∧ ∀ i, i < j → (lsW M (3 * a + i)).map (·.1) = (lsW M (3 * b + i)).map (·.1)) (g := fun j z => zm_X1_writeAlike 46 [some (.inr y), some (.inl (nI a)), some (.inl (nI b)), some (.inl (nI j)), none, none] [] z) (n := 3) (Q := fun o => o = some (bI (wAl (lsE M) (lsW M) a b), 0, h)) ?_ ?_ 0 h (Nat.zero_le _) ⟨rfl, fun i hi => absurd hi (Nat.not_lt_zero _)⟩
    · rintro j z hj ⟨rfl, hi⟩
      have ia : nI a * 3 + nI j = nI (3 * a + j) := by rw [n3, pk_mul, nI_add]; congr 1; omega
      have ib : nI b * 3 + nI j = nI (3 * b + j) := by rw [n3, pk_mul, nI_add]; congr 1; omega
      have ra := dl.gt (i := 3 * a + j) (by omega)
      have rb := dl.gt (i := 3 * b + j) (by omega)
      have wa := dl.gw (i := 3 * a + j) (by omega)
      have wb := dl.gw (i := 3 * b + j) (by omega)
      have no : ¬ (lsW M (3 * a + j)).map (·.1) = (lsW M (3 * b + j)).map (·.1) → wAl (lsE M) (lsW M) a b = false := fun ne => by
        cases e : wAl (lsE M) (lsW M) a b with
        | false => rfl
        | true => exact absurd ((wAl_iff.mp e).2 j hj) ne
      have yes : (lsW M (3 * a + j)).map (·.1) = (lsW M (3 * b + j)).map (·.1) → ∀ i, i < j + 1 → (lsW M (3 * a + i)).map (·.1) = (lsW M (3 * b + i)).map (·.1) := fun e i hi2 => by
        by_cases q : i = j
        · rw [q]; exact e
        · exact hi i (by omega)
      rw [e_X1_writeAlike_46, if_pos (lt3 hj)]
      cases e1 : lsW M (3 * a + j) with
      | none =>
        have g1 := dg.none (by omega) e1
        cases e2 : lsW M (3 * b + j) with
        | none =>
          have g2 := dg.none (by omega) e2
          right
          refine ⟨z, ?_, rfl, yes (by rw [e1, e2])⟩
          simp only [ia, ib, Y.g2, X.g3, X.g4, ra, rb, wa, wb, Option.bind_some, g1.1, g2.1, if_true, zif_ok g1.2.1, s_isAlike g1.2 g2.2, nI_1, i10, if_false]
        | some q =>
          have g2 := dg.some (by omega) e2
          have := hlt _ _ e2
          left
          rw [no (by rw [e1, e2]; simp)]
          simp only [ia, ib, Y.g2, X.g3, X.g4, ra, rb, wa, wb, Option.bind_some, g1.1, g2.1, if_true, eq_false (nneg (show q.2 < 2 ^ 31 by omega)), i10, if_false]
          exact zb0
      | some p =>
        have g1 := dg.some (by omega) e1
        have hp := hlt _ _ e1
        cases e2 : lsW M (3 * b + j) with
        | none =>
          have g2 := dg.none (by omega) e2
          left
          rw [no (by rw [e1, e2]; simp)]
          simp only [ia, ib, Y.g2, X.g3, X.g4, ra, rb, wa, wb, Option.bind_some, g1.1, g2.1, if_true, eq_false (nneg (show p.2 < 2 ^ 31 by omega)), i01, if_false]
          exact zb0
        | some q =>
          have g2 := dg.some (by omega) e2
          have := hlt _ _ e2
          by_cases c : p.1 = q.1
          · right
            refine ⟨z, ?_, rfl, yes (by rw [e1, e2]; exact congrArg some c)⟩
            simp only [ia, ib, Y.g2, X.g3, X.g4, ra, rb, wa, wb, Option.bind_some, g1.1, g2.1, if_true, eq_false (nneg (show p.2 < 2 ^ 31 by omega)), eq_false (nneg (show q.2 < 2 ^ 31 by omega)), if_false, zif_ok g1.2.1, s_isAlike g1.2 g2.2, nI_1, i10, c]
          · left
            rw [no (by rw [e1, e2]; exact fun w => c (Option.some.inj w))]
            simp only [ia, ib, Y.g2, X.g3, X.g4, ra, rb, wa, wb, Option.bind_some, g1.1, g2.1, if_true, eq_false (nneg (show p.2 < 2 ^ 31 by omega)), eq_false (nneg (show q.2 < 2 ^ 31 by omega)), if_false, zif_ok g1.2.1, s_isAlike g1.2 g2.2, nI_1, eq_false c]
            exact zb0
    · rintro z ⟨rfl, hi⟩
      rw [e_X1_writeAlike_46, if_neg (by decide), zb1, wAl_iff.mpr ⟨hE, hi⟩]
      rfl
  have no : ¬ lsE M a = lsE M b → wAl (lsE M) (lsW M) a b = false := fun ne => by
    cases e : wAl (lsE M) (lsW M) a b with
    | false => rfl
    | true => exact absurd (wAl_iff.mp e).1 ne
  rw [e_X1_writeAlike]
  simp only [Y.g3, Option.bind_some, Y.rb ha1, Y.rb hb1, ea.1, eb.1]
  cases e1 : lsE M a with
  | none =>
    cases e2 : lsE M b with
    | none =>
      rw [if_pos rfl, if_pos (show bI (none : Option zWo).isSome = 0 from rfl)]
      exact loop (by rw [e1, e2])
    | some w =>
      rw [if_neg (show ¬ bI (none : Option zWo).isSome = bI (some w).isSome from (by decide : ¬ bI false = bI true)), zb0, no (by rw [e1, e2]; simp)]
      rfl
  | some v =>
    cases e2 : lsE M b with
    | none =>
      rw [if_neg (show ¬ bI (some v).isSome = bI (none : Option zWo).isSome from (by decide : ¬ bI true = bI false)), zb0, no (by rw [e1, e2]; simp)]
      rfl
    | some w =>
      have w1 := ea.2 v e1
      have w2 := eb.2 w e2
      rw [if_pos (show bI (some v).isSome = bI (some w).isSome from rfl), if_neg (show ¬ bI (some v).isSome = 0 from (by decide : ¬ bI true = 0)), Y.g4, Option.bind_some, Y.e4 ha1, Option.bind_some, Option.bind_some, Y.e4 hb1, Option.bind_some, zif_ok w1.1, s_isAlike w1 w2, Option.bind_some]
      dsimp only
      by_cases c : v = w
      · rw [if_pos c, if_neg (by decide)]
        exact loop (by rw [e1, e2, c])
      · rw [if_neg c, if_pos rfl, zb0, no (by rw [e1, e2]; exact fun q => c (Option.some.inj q))]
        rfl
theorem s_goAlike {a b : Nat} {B : Nat → Nat} (g : sGood M) (d : LQ h x y M) (bl : BL h (y + 405) (lsN M) B) (hB : ∀ s, s < lsN M → B s < 100) (ha : a < lsN M) (hb : b < lsN M) : zf nX1_goAlike [.inr y, .inl (nI a), .inl (nI b)] h = some (bI (gAl B (lsW M) a b), 0, h) := by
  have hn : lsN M ≤ 100 := g.2.2.2
  have hlt := lsW_lt g
  obtain ⟨dl, -, -, dg⟩ := d
  have Y := dl.2.2.1
  have X := dl.1.1
  rw [e_X1_goAlike]
  refine zlq (P := fun j z => z = h ∧ ∀ i, i < j → gA1 B (lsW M (3 * a + i)) (lsW M (3 * b + i)) = true) (g := fun j z => zm_X1_goAlike 2 [some (.inr y), some (.inl (nI a)), some (.inl (nI b)), some (.inl (nI j)), none, none] [] z) (n := 3) (Q := fun o => o = some (bI (gAl B (lsW M) a b), 0, h)) ?_ ?_ 0 h (Nat.zero_le _) ⟨rfl, fun i hi => absurd hi (Nat.not_lt_zero _)⟩
  · rintro j z hj ⟨rfl, hi⟩
    have ia : nI a * 3 + nI j = nI (3 * a + j) := by rw [n3, pk_mul, nI_add]; congr 1; omega
    have ib : nI b * 3 + nI j = nI (3 * b + j) := by rw [n3, pk_mul, nI_add]; congr 1; omega
    have ra := dl.gt (i := 3 * a + j) (by omega)
    have rb := dl.gt (i := 3 * b + j) (by omega)
    have yes : gA1 B (lsW M (3 * a + j)) (lsW M (3 * b + j)) = true → ∀ i, i < j + 1 → gA1 B (lsW M (3 * a + i)) (lsW M (3 * b + i)) = true := fun e i hi2 => by
      by_cases q : i = j
      · rw [q]; exact e
      · exact hi i (by omega)
    rw [e_X1_goAlike_2, if_pos (lt3 hj)]
    cases e1 : lsW M (3 * a + j) with
    | none =>
      have g1 := dg.none (by omega) e1
      right
      refine ⟨z, ?_, rfl, yes (by rw [e1]; rfl)⟩
      simp only [ia, ib, Y.g2, X.g3, ra, rb, Option.bind_some, g1.1, if_true, nI_1]
    | some p =>
      have g1 := dg.some (by omega) e1
      have hp := hlt _ _ e1
      cases e2 : lsW M (3 * b + j) with
      | none =>
        have g2 := dg.none (by omega) e2
        right
        refine ⟨z, ?_, rfl, yes (by rw [e1, e2]; rfl)⟩
        simp only [ia, ib, Y.g2, X.g3, ra, rb, Option.bind_some, g1.1, g2.1, if_true, eq_false (nneg (show p.2 < 2 ^ 31 by omega)), if_false, nI_1]
      | some q =>
        have g2 := dg.some (by omega) e2
        have hq := hlt _ _ e2
        have b1 := hB _ hp
        have b2 := hB _ hq
        by_cases c : B p.2 = B q.2
        · right
          refine ⟨z, ?_, rfl, yes (by rw [e1, e2]; exact decide_eq_true c)⟩
          simp only [ia, ib, Y.g2, X.g3, ra, rb, Option.bind_some, g1.1, g2.1, eq_false (nneg (show p.2 < 2 ^ 31 by omega)), eq_false (nneg (show q.2 < 2 ^ 31 by omega)), if_false, Y.g7, Y.rd (j := 405) (by omega) (show p.2 < 100 by omega), Y.rd (j := 405) (by omega) (show q.2 < 100 by omega), bl _ hp, bl _ hq, c, if_true, nI_1]
        · left
          have hno : gAl B (lsW M) a b = false := by
            cases e : gAl B (lsW M) a b with
            | false => rfl
            | true =>
              have := gAl_iff.mp e j hj
              rw [e1, e2] at this
              exact absurd (of_decide_eq_true this) c
          rw [hno]
          simp only [ia, ib, Y.g2, X.g3, ra, rb, Option.bind_some, g1.1, g2.1, eq_false (nneg (show p.2 < 2 ^ 31 by omega)), eq_false (nneg (show q.2 < 2 ^ 31 by omega)), if_false, Y.g7, Y.rd (j := 405) (by omega) (show p.2 < 100 by omega), Y.rd (j := 405) (by omega) (show q.2 < 100 by omega), bl _ hp, bl _ hq]
          rw [if_neg (by rw [nI_eq (by omega) (by omega)]; exact c), zb0]
          rfl
  · rintro z ⟨rfl, hi⟩
    rw [e_X1_goAlike_2, if_neg (by decide), zb1, gAl_iff.mpr hi]
    rfl
theorem s_refine {B : Nat → Nat} (g : sGood M) (hxy : x + 1818 ≤ y) (d : LQ h x y M) (bl : BL h (y + 405) (lsN M) B) (hB : ∀ s, s < lsN M → B s < 100) :
    ∃ h' c, zf nX1_refine [.inr y] h = some (bI c, 0, h') ∧ zFr (y + 405) (y + 407) h h' ∧ LQ h' x y M ∧ BL h' (y + 405) (lsN M) (pRf (lsW M) B) ∧ (c = false → ∀ s, s < lsN M → B s = pRf (lsW M) B s) := by
  have hn : lsN M ≤ 100 := g.2.2.2
  have loop : ∀ (f s : Nat) (c : Bool) (z : zM), f + s = lsN M → zFr (y + 406) (y + 407) h z → LQ z x y M → BL z (y + 405) (lsN M) B → BL z (y + 406) s (pRf (lsW M) B) → (c = false → ∀ t, t < s → B t = pRf (lsW M) B t) →
      ∃ h' c', zm_X1_refine 4 [some (.inr y), some (.inl (bI c)), some (.inl (nI s)), none] [] z = some (bI c', 0, h') ∧ zFr (y + 405) (y + 407) h h' ∧ LQ h' x y M ∧ BL h' (y + 405) (lsN M) (pRf (lsW M) B) ∧ (c' = false → ∀ t, t < lsN M → B t = pRf (lsW M) B t) := by
    intro f
    induction f with
    | zero =>
      intro s c z hf fr dz b1 b2 hc
      have hs : s = lsN M := by omega
      subst hs
      have Y := dz.1.2.2.1
      have k5 := Y.k (j := 405) (by omega)
      have k6 := Y.k (j := 406) (by omega)
      rw [e_X1_refine_4, Y.g2, Option.bind_some, dz.1.gl, Option.bind_some, if_neg (by rw [nI_ltI (by omega) (by omega)]; omega), Y.g8, Option.bind_some, Y.g7, Option.bind_some, n100, zcp_ok k6.1 k5.1 (by omega) (by omega) (by omega), Option.bind_some]
      have f2 : zFr (y + 405) (y + 405 + 1) z (zWr z (y + 405) 0 100 (zI z (y + 406))) := zFr_Wr (by omega) (by omega)
      have e2 : ∀ t, t < 100 → zI (zWr z (y + 405) 0 100 (zI z (y + 406))) (y + 405) t = zI z (y + 406) t := fun t ht => by
        rw [zI_Wr_in (Nat.zero_le _) (by omega)]
        rfl
      generalize zWr z (y + 405) 0 100 (zI z (y + 406)) = z2 at *
      refine ⟨z2, c, by cases c <;> rfl, (fr.wide (by omega) (by omega)).tr (f2.wide (by omega) (by omega)), dz.int hn hxy f2 (by omega), fun t ht => by rw [e2 t (by omega)]; exact b2 t ht, hc⟩
    | succ f ih =>
      intro s c z hf fr dz b1 b2 hc
      have hs : s < lsN M := by omega
      have hs100 : s < 100 := by omega
      have Y := dz.1.2.2.1
      have hbs := hB s hs
      rw [e_X1_refine_4, Y.g2, Option.bind_some, dz.1.gl, Option.bind_some, if_pos ((nI_ltI (by omega) (by omega)).mpr hs)]
      have hle : pRf (lsW M) B s ≤ s := fstS_le _ _
      have key : zm_X1_refine 17 [some (.inr y), some (.inl (bI c)), some (.inl (nI s)), some (.inl (nI 0))] [] z = zm_X1_refine 4 [some (.inr y), some (.inl (bI (c || decide (¬ pRf (lsW M) B s = B s)))), some (.inl (nI (s + 1))), none] [] (zsI z (y + 406) s (nI (pRf (lsW M) B s))) := by
        have wr : ∀ f, pRf (lsW M) B s = f → ((zis z (y + 406) (nI s) (nI f)).bind fun h1 => (zgF h1 y 1 7).bind fun r4 => (zia h1 r4 (nI s)).bind fun v3 => if nI f = v3 then zm_X1_refine 4 [some (.inr y), some (.inl (bI c ||| (0 : Int32))), some (.inl (nI s + (1 : Int32))), none] [] h1 else zm_X1_refine 4 [some (.inr y), some (.inl (bI c ||| (1 : Int32))), some (.inl (nI s + (1 : Int32))), none] [] h1) = zm_X1_refine 4 [some (.inr y), some (.inl (bI (c || decide (¬ pRf (lsW M) B s = B s)))), some (.inl (nI (s + 1))), none] [] (zsI z (y + 406) s (nI (pRf (lsW M) B s))) := by
          rintro f rfl
          have f2 : zFr (y + 406) (y + 407) z (zsI z (y + 406) s (nI (pRf (lsW M) B s))) := zFr_sI (by omega) (by omega)
          have Y2 := Y.keep f2
          rw [Y.w (j := 406) (by omega) hs100, Option.bind_some, Y2.g7, Option.bind_some, Y2.rd (j := 405) (by omega) hs100, Option.bind_some, f2.I (by omega), b1 s hs, or0, or1, nI_1]
          by_cases q : pRf (lsW M) B s = B s
          · rw [if_pos (by rw [q])]
            simp [q]
          · rw [if_neg (by rw [nI_eq (by omega) (by omega)]; exact q)]
            simp [q]
        refine zlq (P := fun f z' => z' = z ∧ f ≤ s ∧ ∀ i, i < f → (decide (B i = B s) && gAl B (lsW M) i s) = false) (g := fun f z' => zm_X1_refine 17 [some (.inr y), some (.inl (bI c)), some (.inl (nI s)), some (.inl (nI f))] [] z') (n := s) (Q := fun o => o = zm_X1_refine 4 [some (.inr y), some (.inl (bI (c || decide (¬ pRf (lsW M) B s = B s)))), some (.inl (nI (s + 1))), none] [] (zsI z (y + 406) s (nI (pRf (lsW M) B s)))) ?_ ?_ 0 z (Nat.zero_le _) ⟨rfl, Nat.zero_le _, fun i hi => absurd hi (Nat.not_lt_zero _)⟩
        · rintro f z' hfs ⟨rfl, hf1, hi⟩
          have hbf := hB f (by omega)
          have yes : (decide (B f = B s) && gAl B (lsW M) f s) = false → f + 1 ≤ s ∧ ∀ i, i < f + 1 → (decide (B i = B s) && gAl B (lsW M) i s) = false := fun e => ⟨hfs, fun i hi2 => by
            by_cases q : i = f
            · rw [q]; exact e
            · exact hi i (by omega)⟩
          rw [e_X1_refine_17, if_pos ((nI_ltI (by omega) (by omega)).mpr hfs)]
          simp only [Y.g7, Y.g8, Option.bind_some, Y.rd (j := 405) (by omega) (show f < 100 by omega), Y.rd (j := 405) (by omega) hs100, b1 s hs, b1 f (by omega)]
          by_cases q : B f = B s
          · rw [if_pos (by rw [q]), zif_ok Y.1.1, s_goAlike g dz b1 hB (by omega) hs, Option.bind_some]
            dsimp only
            cases eg : gAl B (lsW M) f s with
            | true =>
              left
              rw [if_neg (show ¬ bI true = 0 by decide), Y.g8, Option.bind_some]
              exact wr f (fstS_eq (fun _ => by rw [q, eg]; simp) hf1 hi)
            | false =>
              right
              rw [if_pos (show bI false = 0 from rfl), nI_1]
              exact ⟨z', rfl, rfl, yes (by rw [eg]; simp)⟩
          · right
            rw [if_neg (by rw [nI_eq (by omega) (by omega)]; exact q), nI_1]
            exact ⟨z', rfl, rfl, yes (by rw [decide_eq_false q]; rfl)⟩
        · rintro z' ⟨rfl, -, hi⟩
          rw [e_X1_refine_17, if_neg (by rw [nI_ltI (by omega) (by omega)]; omega), Y.g8, Option.bind_some]
          exact wr s (fstS_eq (fun q => absurd q (Nat.lt_irrefl _)) (Nat.le_refl _) hi)
      have f2 : zFr (y + 406) (y + 406 + 1) z (zsI z (y + 406) s (nI (pRf (lsW M) B s))) := zFr_sI (by omega) (by omega)
      have v2 : ∀ t, zI (zsI z (y + 406) s (nI (pRf (lsW M) B s))) (y + 406) t = if t = s then nI (pRf (lsW M) B s) else zI z (y + 406) t := fun t => by
        by_cases e : t = s
        · rw [if_pos e, e, zI_sI]
        · rw [if_neg e, zI_sI_k e]
      refine Exists.elim (ih (s + 1) (c || decide (¬ pRf (lsW M) B s = B s)) _ (by omega) (fr.tr f2) (dz.int hn hxy f2 (by omega)) (b1.keep f2 (by omega)) (fun t ht => ?_) (fun hcf t ht => ?_)) (fun h' hh => ⟨h', ?_⟩)
      · rw [v2]
        by_cases e : t = s
        · rw [if_pos e, e]
        · rw [if_neg e]; exact b2 t (by omega)
      · rw [Bool.or_eq_false_iff] at hcf
        by_cases e : t = s
        · have := of_decide_eq_false hcf.2
          rw [e]
          exact (Classical.not_not.mp this).symm
        · exact hc hcf.1 t (by omega)
      · obtain ⟨c', r1, r2⟩ := hh
        exact ⟨c', key.trans r1, r2⟩
  obtain ⟨h', c, r⟩ := loop (lsN M) 0 false h rfl zFr.rf d bl (fun t ht => absurd ht (Nat.not_lt_zero _)) (fun _ t ht => absurd ht (Nat.not_lt_zero _))
  exact ⟨h', c, by rw [e_X1_refine]; exact r.1, r.2⟩
end LPT
