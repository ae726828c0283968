/-! The class Witness: write. -/
/-- what write may change -/
def wF (w : Nat) (h h' : zM) : Prop := h'.1 = h.1 ∧ h'.2.1 = h.2.1 ∧ (∀ a, ¬ (w + 9 ≤ a ∧ a < w + 78) → h'.2.2.1 a = h.2.2.1 a) ∧ ∀ a, a ≠ w → h'.2.2.2 a = h.2.2.2 a
theorem wF.rf {w : Nat} {h : zM} : wF w h h := ⟨rfl, rfl, fun _ _ => rfl, fun _ _ => rfl⟩
theorem wF.tr {w : Nat} {h h1 h2 : zM} (a : wF w h h1) (b : wF w h1 h2) : wF w h h2 := ⟨b.1.trans a.1, b.2.1.trans a.2.1, fun q hq => (b.2.2.1 q hq).trans (a.2.2.1 q hq), fun q hq => (b.2.2.2 q hq).trans (a.2.2.2 q hq)⟩
theorem wF.of {w lo hi : Nat} {h h' : zM} (f : zFr lo hi h h') (h1 : w + 9 ≤ lo) (h2 : hi ≤ w + 78) : wF w h h' := ⟨f.1, f.2.1, fun q hq => (f.2.2 q).1 (by omega), fun q _ => (f.2.2 q).2⟩
theorem wF.eq {w a b : Nat} {h h' : zM} (f : wF w h h') (hd : b ≤ w ∨ w + 78 ≤ a) : zEq a b h h' := ⟨f.2.1, fun q h1 h2 => ⟨f.2.2.1 q (by omega), f.2.2.2 q (by omega)⟩⟩
theorem wF.eq2 {w a b : Nat} {h h' : zM} (f : wF w h h') (ha : w < a) (hb : b ≤ w + 9) : zEq a b h h' := ⟨f.2.1, fun q h1 h2 => ⟨f.2.2.1 q (by omega), f.2.2.2 q (by omega)⟩⟩
theorem wF.I {w : Nat} {h h' : zM} (f : wF w h h') {a : Nat} (ha : ¬ (w + 9 ≤ a ∧ a < w + 78)) (k : Nat) : zI h' a k = zI h a k := by unfold zI; rw [f.2.2.1 a ha]
theorem ofQ.wF {w b1 b2 s g : Nat} {S G : List zWo} {h h' : zM} (q : ofQ w b1 b2 s g S G h h') (hg : w + 9 ≤ g ∧ g + 5 ≤ w + 78) (hk : h'.2.1 = h.2.1) : wF w h h' := by
  obtain ⟨f, r1, r2, _⟩ := q
  refine ⟨r1, hk, fun a ha => ?_, fun a _ => by rw [r2]⟩
  exact ((f a (a + 1) (by omega) (by omega)).2 a (Nat.le_refl _) (by omega)).1
/-- all of the object that write needs -/
def W0 (h : zM) (w b1 b2 : Nat) : Prop := WL h w b1 b2 ∧ (∀ b, b = 16 ∨ b = 17 → ∀ q, q < 6 → ∃ l, TLC h (tl w b q) 387 l) ∧ (∃ l, TLC h (w + 9) 387 l) ∧ ∃ u, Wd h (w + 14) 387 u
theorem W0.keep {h h' : zM} {w b1 b2 lo hi : Nat} (x : W0 h w b1 b2) (f : zFr lo hi h h') (hd : hi ≤ w + 9 ∨ w + 78 ≤ lo) : W0 h' w b1 b2 := by
  obtain ⟨a, b, ⟨l, c⟩, u, e⟩ := x
  exact ⟨a.keep f, fun b' hb q hq => by
    obtain ⟨l, hl⟩ := b b' hb q hq
    have := tl_in (w := w) hb hq
    exact ⟨l, hl.keep f (by omega)⟩, ⟨l, c.keep f (by omega)⟩, u, e.keep f (by omega)⟩
theorem s_wbegin {h : zM} {w b1 b2 A : Nat} {M : zMa} (mM : MC h A M) (kM : MaOk M) (hA : A + 6 ≤ w ∨ w + 78 ≤ A) (x : W0 h w b1 b2) : ∃ h', zf nX9_begin [.inr w, .inr A] h = some (0, 0, h') ∧ wF w h h' ∧ ∃ tot, WA h' w b1 b2 (wtIni M) (fun _ => []) tot := by
  have k6 := kM.1
  obtain ⟨d, tq, ⟨l9, t9⟩, u, hu⟩ := x
  obtain ⟨hb1, hb2, hne⟩ := d.b
  rw [e_X9_begin, d.g5, Option.bind_some, zif_ok hu.1]
  obtain ⟨h1, a1, a2, a3⟩ := s_clear hu
  rw [a1, Option.bind_some]
  have main := zlp (P := fun q z => wF w h z ∧ WL z w b1 b2 ∧ (∀ j, j < 6 → ∃ l, TLC z (tl w b1 j) 387 l ∧ (j < q → l = wtIni M j)) ∧ (∀ j, j < 6 → ∃ l, TLC z (tl w b2 j) 387 l ∧ (j < q → l = [])) ∧ TLC z (w + 9) 387 l9 ∧ Wd z (w + 14) 387 []) (g := fun q z => zm_X9_begin 9 [some (.inr w), some (.inr A), some (.inl (nI q))] [] z) (n := 6) ?_ 0 h1 (Nat.zero_le _) ⟨wF.of a2 (by omega) (by omega), d.keep a2, fun j hj => by
      obtain ⟨l, hl⟩ := tq b1 hb1 j hj
      have := tl_in (w := w) hb1 hj
      exact ⟨l, hl.keep a2 (by omega), fun z => absurd z (Nat.not_lt_zero _)⟩, fun j hj => by
      obtain ⟨l, hl⟩ := tq b2 hb2 j hj
      have := tl_in (w := w) hb2 hj
      exact ⟨l, hl.keep a2 (by omega), fun z => absurd z (Nat.not_lt_zero _)⟩, t9.keep a2 (by omega), a3⟩
  · obtain ⟨z, e1, e2, e3, e4, e5, e6, e7⟩ := main
    refine ⟨z, ?_, e2, l9, e3, fun q hq => ?_, fun q hq => ?_, e6, _, e7⟩
    · dsimp only
      rw [n0, e1, e_X9_begin_9, if_neg (by decide)]
      rfl
    · obtain ⟨l, k1, k2⟩ := e4 q hq
      rw [← k2 hq]; exact k1
    · obtain ⟨l, k1, k2⟩ := e5 q hq
      rw [← k2 hq]; exact k1
  · rintro q z hq ⟨f, dz, e4, e5, t9z, uz⟩
    have i1 := tl_in (w := w) hb1 hq
    have i2 := tl_in (w := w) hb2 hq
    obtain ⟨lb, kb, _⟩ := e5 q hq
    obtain ⟨ln, kn, _⟩ := e4 q hq
    have mz := mM.eq (f.eq (by omega))
    rw [e_X9_begin_9, if_pos (by rw [n6, nI_ltI (by omega) (by omega)]; exact hq), dz.g7, Option.bind_some, dz.el hb2 hq, Option.bind_some, zif_ok kb.1.1]
    obtain ⟨z1, c1, c2, c3⟩ := s_TLclear kb
    have d1 := dz.keep c2
    have ne12 := tl_ne (w := w) (q := q) (q' := q) hb1 hb2 (Or.inl hne)
    have kn1 := kn.keep c2 ne12
    rw [c1, Option.bind_some]
    dsimp only
    rw [d1.g6, Option.bind_some, d1.el hb1 hq, Option.bind_some, zif_ok kn1.1.1]
    obtain ⟨z2, o1, o2, o3⟩ := s_TLclear kn1
    have d2 := d1.keep o2
    have m2 := (mz.keep c2 (by omega)).keep o2 (by omega)
    have u2 := (uz.keep c2 (by omega)).keep o2 (by omega)
    rw [o1, Option.bind_some]
    dsimp only
    rw [m2.beg, Option.bind_some, s_holds kM.beg64 hq, Option.bind_some]
    dsimp only
    have f2 := (f.tr (wF.of c2 (by omega) (by omega))).tr (wF.of o2 (by omega) (by omega))
    have fin : ∀ (z3 : zM) (l : List zWo), zFr (tl w b1 q) (tl w b1 q + 5) z2 z3 → TLC z3 (tl w b1 q) 387 l → l = wtIni M q → wF w h z3 ∧ WL z3 w b1 b2 ∧ (∀ j, j < 6 → ∃ l, TLC z3 (tl w b1 j) 387 l ∧ (j < q + 1 → l = wtIni M j)) ∧ (∀ j, j < 6 → ∃ l, TLC z3 (tl w b2 j) 387 l ∧ (j < q + 1 → l = [])) ∧ TLC z3 (w + 9) 387 l9 ∧ Wd z3 (w + 14) 387 [] := by
      intro z3 l f3 kl el
      refine ⟨f2.tr (wF.of f3 (by omega) (by omega)), d2.keep f3, fun j hj => ?_, fun j hj => ?_, ((t9z.keep c2 (by omega)).keep o2 (by omega)).keep f3 (by omega), u2.keep f3 (by omega)⟩
      · by_cases e : j = q
        · subst e
          exact ⟨l, kl, fun _ => el⟩
        · obtain ⟨l', k1, k2⟩ := e4 j hj
          have n1 := tl_ne (w := w) (q := j) (q' := q) hb1 hb2 (Or.inl hne)
          have n2 := tl_ne (w := w) (q := j) (q' := q) hb1 hb1 (Or.inr e)
          exact ⟨l', ((k1.keep c2 n1).keep o2 n2).keep f3 n2, fun z => k2 (by omega)⟩
      · have n3 := tl_ne (w := w) (q := j) (q' := q) hb2 hb1 (Or.inl (Ne.symm hne))
        by_cases e : j = q
        · subst e
          exact ⟨[], (c3.keep o2 n3).keep f3 n3, fun _ => rfl⟩
        · obtain ⟨l', k1, k2⟩ := e5 j hj
          have n1 := tl_ne (w := w) (q := j) (q' := q) hb2 hb2 (Or.inr e)
          exact ⟨l', ((k1.keep c2 n1).keep o2 n3).keep f3 n3, fun z => k2 (by omega)⟩
    cases hbit : M.2.1.testBit q with
    | false =>
      rw [if_pos (by decide), nI_1]
      exact ⟨z2, rfl, fin z2 [] zFr.rf o3 (by unfold wtIni; rw [hbit]; rfl)⟩
    | true =>
      rw [if_neg (by decide), d2.g6, Option.bind_some, d2.el hb1 hq, Option.bind_some, d2.g5, Option.bind_some, zif_ok o3.1.1]
      obtain ⟨z3, p1, p2, p3⟩ := s_TLoffer o3 u2 (by simp) (by omega)
      rw [p1, Option.bind_some, nI_1]
      exact ⟨z3, rfl, fin z3 _ p2 p3 (by unfold wtIni; rw [hbit]; rfl)⟩
theorem s_wturn {h : zM} {w b1 b2 : Nat} {now beh : zTl} {tot : List zWo} (x : WA h w b1 b2 now beh tot) : ∃ h', zf nX9_turn [.inr w] h = some (0, 0, h') ∧ wF w h h' ∧ WA h' w b2 b1 beh (fun _ => []) tot := by
  obtain ⟨d, tn, tb, tt, u, hu⟩ := x
  obtain ⟨hb1, hb2, hne⟩ := d.b
  rw [e_X9_turn, d.g6, Option.bind_some, d.g7, Option.bind_some, zpF_ok d.1, Option.bind_some, zpF_ok (show zK (zsF h w 6 (w + b2)) w = 9 + 1 from d.1), Option.bind_some]
  have hF : ∀ a k, zF (zsF (zsF h w 6 (w + b2)) w 7 (w + b1)) a k = if a = w ∧ k = 7 then w + b1 else if a = w ∧ k = 6 then w + b2 else zF h a k := fun a k => by rw [zF_sF, zF_sF]
  have f1 : wF w h (zsF (zsF h w 6 (w + b2)) w 7 (w + b1)) := ⟨rfl, rfl, fun a _ => rfl, fun a ha => by
    show va_up _ w _ a = _
    rw [va_up_ne _ _ ha]
    exact va_up_ne _ _ ha⟩
  have hI : ∀ a k, zI (zsF (zsF h w 6 (w + b2)) w 7 (w + b1)) a k = zI h a k := fun _ _ => rfl
  have hEq : ∀ a b, w < a → zEq a b h (zsF (zsF h w 6 (w + b2)) w 7 (w + b1)) := fun a b ha => ⟨rfl, fun q h1 _ => ⟨rfl, f1.2.2.2 q (by omega)⟩⟩
  have d1 : WL (zsF (zsF h w 6 (w + b2)) w 7 (w + b1)) w b2 b1 := by
    obtain ⟨a, ⟨c1, c2, c3, c4, c5, c6, c7⟩, ⟨e1, e2, e3⟩, ⟨g1, g2⟩, i, j⟩ := d
    refine ⟨a, ⟨?_, ?_, ?_, ?_, ?_, ?_, ?_⟩, ⟨e1, e2, fun t ht => ?_⟩, ⟨g1, g2⟩, fun b hb => ⟨(i b hb).1, (i b hb).2.1, fun q hq => ?_⟩, by omega⟩
    · rw [hF, if_neg (by omega), if_neg (by omega)]; exact c1
    · rw [hF, if_neg (by omega), if_neg (by omega)]; exact c2
    · rw [hF, if_neg (by omega), if_neg (by omega)]; exact c3
    · rw [hF, if_neg (by omega), if_neg (by omega)]; exact c4
    · rw [hF, if_neg (by omega), if_neg (by omega)]; exact c5
    · rw [hF, if_neg (by omega), if_pos ⟨rfl, rfl⟩]
    · rw [hF, if_pos ⟨rfl, rfl⟩]
    · rw [hF, if_neg (by omega), if_neg (by omega)]; exact e3 t ht
    · rw [hF, if_neg (by omega), if_neg (by omega)]; exact (i b hb).2.2 q hq
  generalize hh1 : zsF (zsF h w 6 (w + b2)) w 7 (w + b1) = h1 at *
  have main := zlp (P := fun q z => wF w h z ∧ WL z w b2 b1 ∧ (∀ j, j < 6 → TLC z (tl w b2 j) 387 (beh j)) ∧ (∀ j, j < 6 → ∃ l, TLC z (tl w b1 j) 387 l ∧ (j < q → l = [])) ∧ TLC z (w + 9) 387 tot ∧ Wd z (w + 14) 387 u) (g := fun q z => zm_X9_turn 20 [some (.inr w), some (.inr (w + b1)), some (.inl (nI q))] [] z) (n := 6) ?_ 0 h1 (Nat.zero_le _) ⟨f1, d1, fun j hj => (tb j hj).eq (hEq _ _ (by have := tl_in (w := w) hb2 hj; omega)), fun j hj => ⟨now j, (tn j hj).eq (hEq _ _ (by have := tl_in (w := w) hb1 hj; omega)), fun z => absurd z (Nat.not_lt_zero _)⟩, tt.eq (hEq _ _ (by omega)), hu.eq (hEq _ _ (by omega))⟩
  · obtain ⟨z, e1, e2, e3, e4, e5, e6, e7⟩ := main
    refine ⟨z, ?_, e2, e3, e4, fun q hq => ?_, e6, _, e7⟩
    · rw [n0, e1, e_X9_turn_20, if_neg (by decide)]
      rfl
    · obtain ⟨l, k1, k2⟩ := e5 q hq
      rw [← k2 hq]; exact k1
  · rintro q z hq ⟨f, dz, e4, e5, t9z, uz⟩
    have i1 := tl_in (w := w) hb1 hq
    obtain ⟨lb, kb, _⟩ := e5 q hq
    rw [e_X9_turn_20, if_pos (by rw [n6, nI_ltI (by omega) (by omega)]; exact hq), dz.g7, Option.bind_some, dz.el hb1 hq, Option.bind_some, zif_ok kb.1.1]
    obtain ⟨z1, c1, c2, c3⟩ := s_TLclear kb
    rw [c1, Option.bind_some, nI_1]
    refine ⟨z1, rfl, f.tr (wF.of c2 (by omega) (by omega)), dz.keep c2, fun j hj => (e4 j hj).keep c2 (tl_ne hb2 hb1 (Or.inl (Ne.symm hne))), fun j hj => ?_, t9z.keep c2 (by omega), uz.keep c2 (by omega)⟩
    by_cases e : j = q
    · subst e
      exact ⟨[], c3, fun _ => rfl⟩
    · obtain ⟨l', k1, k2⟩ := e5 j hj
      exact ⟨l', k1.keep c2 (tl_ne hb1 hb1 (Or.inr e)), fun z => k2 (by omega)⟩
theorem ofQ.K {w b1 b2 s g : Nat} {S G : List zWo} {h h' : zM} (q : ofQ w b1 b2 s g S G h h') : h'.2.1 = h.2.1 := (q.1 0 0 (Or.inl (Nat.zero_le _)) (Or.inl (Nat.zero_le _))).1
/-- the write's loops -/
theorem s_wwrite {h : zM} {w b1 b2 A : Nat} {M : zMa} {us : List Nat} (mM : MC h A M) (kM : MaOk M) (hA : A + 6 ≤ w ∨ w + 78 ≤ A) (x : W0 h w b1 b2) (hw : Wd h (w + 1) 128 (us.map nI)) (hus : ∀ l ∈ us, l < 4) :
    ∃ h', zf nX9_write [.inr w, .inr A] h = some (0, 0, h') ∧ wF w h h' ∧ ∃ b1 b2 now beh, WA h' w b1 b2 now beh (wtOut M us) := by
  have k6 := kM.1
  have h30 := kM.2.2.2.1
  have hul : us.length ≤ 128 := by have := hw.small.2.2; rw [List.length_map] at this; exact this
  rw [e_X9_write, zif_ok x.1.1]
  obtain ⟨h1, a1, a2, tot0, a3⟩ := s_wbegin mM kM hA x
  rw [a1, Option.bind_some]
  have main := zlp (P := fun k z => wF w h z ∧ ∃ b1 b2, WA z w b1 b2 ((us.take k).foldl (wtStep M) (wtIni M)) (fun _ => []) tot0) (g := fun k z => zm_X9_write 7 [some (.inr w), some (.inr A), some (.inl (nI k)), none] [] z) (n := us.length) ?_ 0 h1 (Nat.zero_le _) ⟨a2, b1, b2, a3⟩
  · obtain ⟨z, e1, f, b1, b2, wa⟩ := main
    rw [List.take_length] at wa
    obtain ⟨d, tn, tb, tt, u, hu⟩ := id wa
    obtain ⟨hb1, hb2, hne⟩ := d.b
    have hwz := hw.eq (f.eq2 (by omega) (by omega))
    have tok := wtRun_ok kM us 0 _ (wtIni_ok M)
    rw [Nat.zero_add] at tok
    dsimp only
    rw [n0, e1, e_X9_write_7, d.g1, Option.bind_some, hwz.len, Option.bind_some, List.length_map, if_neg (by rw [nI_ltI (by omega) (by omega)]; omega), d.g4, Option.bind_some, zif_ok tt.1.1]
    obtain ⟨z1, c1, c2, c3⟩ := s_TLclear tt
    rw [c1, Option.bind_some]
    have f1 := f.tr (wF.of c2 (by omega) (by omega))
    have d1 := d.keep c2
    have wa1 : WA z1 w b1 b2 (us.foldl (wtStep M) (wtIni M)) (fun _ => []) [] := ⟨d1, fun q hq => (tn q hq).keep c2 (by have := tl_in (w := w) hb1 hq; omega), fun q hq => (tb q hq).keep c2 (by have := tl_in (w := w) hb2 hq; omega), c3, u, hu.keep c2 (by omega)⟩
    generalize hnow : us.foldl (wtStep M) (wtIni M) = now at *
    have fin := zlp (P := fun q y => wF w h y ∧ WA y w b1 b2 now (fun _ => []) ((List.range q).foldl (wtE M now) [])) (g := fun q y => zm_X9_write 103 [some (.inr w), some (.inr A), some (.inl (nI q)), none] [] y) (n := M.1) ?_ 0 z1 (Nat.zero_le _) ⟨f1, wa1⟩
    · obtain ⟨y, i1, i2, i3⟩ := fin
      have my := mM.eq (i2.eq (by omega))
      refine ⟨y, ?_, i2, b1, b2, now, _, by unfold wtOut; rw [hnow]; exact i3⟩
      dsimp only
      rw [n0, i1, e_X9_write_103, my.n, Option.bind_some, if_neg (by rw [nI_ltI (by omega) (by omega)]; omega)]
      rfl
    · rintro q y hq ⟨fy, way⟩
      obtain ⟨dy, ny, by', ty, uy⟩ := id way
      have my := mM.eq (fy.eq (by omega))
      have hr : (List.range (q + 1)).foldl (wtE M now) [] = wtE M now ((List.range q).foldl (wtE M now) []) q := by rw [List.range_succ, List.foldl_append]; rfl
      rw [hr]
      rw [e_X9_write_103, my.n, Option.bind_some, if_pos ((nI_ltI (by omega) (by omega)).mpr hq), zif_ok my.1.1, s_hasEnd my kM (by omega), Option.bind_some]
      dsimp only
      have hend := my.rend (q := q) (by omega)
      cases hE : M.2.2.1 q with
      | none =>
        simp only [Option.isSome_none, Bool.false_eq_true, if_false, if_true]
        have : wtE M now ((List.range q).foldl (wtE M now) []) q = (List.range q).foldl (wtE M now) [] := by unfold wtE; rw [hE]
        rw [this, nI_1]
        exact ⟨y, rfl, fy, way⟩
      | some e =>
        have we := (kM.2.2.1 _ e hE).2
        rw [hE] at hend
        have hend : zia y (A + 1) (nI q) = some (nI e) := hend
        simp only [Option.isSome_some, if_true]
        rw [if_neg (by decide), dy.g6, Option.bind_some, dy.el hb1 (by omega), Option.bind_some, my.f3, Option.bind_some, hend, Option.bind_some, dy.g4, Option.bind_some, zif_ok dy.1]
        have i1 := tl_in (w := w) (q := q) hb1 (by omega)
        obtain ⟨y1, r1, r2⟩ := s_offerAll dy (ny q (by omega)) ty uy (by omega) (by omega) (by omega) we (fun v hv => by have := ((tok q).2 v hv).1; omega)
        rw [r1, Option.bind_some, nI_1]
        have : wtE M now ((List.range q).foldl (wtE M now) []) q = ofA (now q) ((List.range q).foldl (wtE M now) []) e := by unfold wtE; rw [hE]
        rw [this]
        have fq := r2.wF (by omega) r2.K
        obtain ⟨r3, _, _, r4, r5, r6, r7⟩ := r2
        refine ⟨y1, rfl, fy.tr fq, r4, fun j hj => ?_, fun j hj => ?_, r6, r7⟩
        · have := tl_in (w := w) hb1 hj
          exact (ny j hj).eq (r3 _ _ (by omega) (by omega))
        · have := tl_in (w := w) hb2 hj
          exact (by' j hj).eq (r3 _ _ (by omega) (by omega))
  · rintro k z hk ⟨f, b1, b2, wa⟩
    have hget : us[k]? = some us[k] := List.getElem?_eq_getElem hk
    rw [fold_take _ _ _ k _ hget]
    have hwz := hw.eq (f.eq2 (by omega) (by omega))
    obtain ⟨d, tn, tb, tt, u, hu⟩ := id wa
    obtain ⟨hb1, hb2, hne⟩ := d.b
    have tok := wtRun_ok kM (us.take k) 0 _ (wtIni_ok M)
    rw [Nat.zero_add, List.length_take] at tok
    have hc4 : us[k] < 4 := hus _ (List.getElem_mem hk)
    have hat : (us.map nI).getD k 0 = nI us[k] := by simp [List.getD_eq_getElem?_getD, hk]
    generalize hnow : (us.take k).foldl (wtStep M) (wtIni M) = now at *
    rw [e_X9_write_7, d.g1, Option.bind_some, hwz.len, Option.bind_some, List.length_map, if_pos ((nI_ltI (by omega) (by omega)).mpr hk)]
    have inner := zlp (P := fun i y => wF w h y ∧ WA y w b1 b2 now ((M.2.2.2.take i).foldl (wtF us[k] now) (fun _ => [])) tot0) (g := fun i y => zm_X9_write 20 [some (.inr w), some (.inr A), some (.inl (nI k)), some (.inl (nI i))] [] y) (n := M.2.2.2.length) ?_ 0 z (Nat.zero_le _) ⟨f, wa⟩
    · obtain ⟨y, i1, i2, i3⟩ := inner
      rw [List.take_length] at i3
      have my := mM.eq (i2.eq (by omega))
      obtain ⟨y1, r1, r2, r3⟩ := s_wturn i3
      refine ⟨y1, ?_, i2.tr r2, b2, b1, r3⟩
      rw [n0, i1, e_X9_write_20, my.arcs, Option.bind_some, if_neg (by rw [nI_ltI (by omega) (by omega)]; omega), zif_ok i3.1.1, r1, Option.bind_some, nI_1]
    · rintro i y hi ⟨fy, way⟩
      rw [fold_take _ _ _ i _ (arc_get hi)]
      obtain ⟨dy, ny, by', ty, uy⟩ := id way
      have my := mM.eq (fy.eq (by omega))
      have hwy := hw.eq (fy.eq2 (by omega) (by omega))
      have ka := kM.at hi
      have ka2 := kM.at2 hi
      rw [e_X9_write_20, my.arcs, Option.bind_some, if_pos ((nI_ltI (by omega) (by omega)).mpr hi)]
      simp only [my.f5, my.rlet kM hi, dy.g1, hwy.arr, hwy.at (show k < (us.map nI).length by rw [List.length_map]; exact hk), hat, Option.bind_some, nI_1]
      by_cases c1 : (arcAt M i).2.1 = us[k]
      · rw [if_pos (by rw [c1])]
        simp only [dy.g6, my.f4, my.rfrom kM hi, dy.el hb1 (show (arcAt M i).1 < 6 by omega), my.f7, my.rword kM hi, dy.g7, my.f6, my.rto kM hi, dy.el hb2 (show (arcAt M i).2.2.1 < 6 by omega), Option.bind_some]
        rw [zif_ok dy.1]
        have i1 := tl_in (w := w) (q := (arcAt M i).1) hb1 (by omega)
        have i2 := tl_in (w := w) (q := (arcAt M i).2.2.1) hb2 (by omega)
        obtain ⟨y1, r1, r2⟩ := s_offerAll dy (ny _ (show (arcAt M i).1 < 6 by omega)) (by' _ (show (arcAt M i).2.2.1 < 6 by omega)) uy (tl_ne hb1 hb2 (Or.inl hne)) (by omega) (by omega) ka2.2.2.2 (fun v hv => by have := ((tok _).2 v hv).1; omega)
        rw [r1, Option.bind_some]
        have fq := r2.wF (by omega) r2.K
        obtain ⟨r3, _, _, r4, r5, r6, r7⟩ := r2
        have ex : ∀ B, wtF us[k] now B (arcAt M i) = va_up B (arcAt M i).2.2.1 (ofA (now (arcAt M i).1) (B (arcAt M i).2.2.1) (arcAt M i).2.2.2) := fun B => if_pos c1
        rw [ex]
        refine ⟨y1, rfl, fy.tr fq, r4, fun j hj => ?_, fun j hj => ?_, ty.eq (r3 _ _ (by omega) (by omega)), r7⟩
        · have := tl_in (w := w) hb1 hj
          have n1 := tl_ne (w := w) (q := j) (q' := (arcAt M i).2.2.1) hb1 hb2 (Or.inl hne)
          exact (ny j hj).eq (r3 _ _ n1 (by omega))
        · by_cases e : j = (arcAt M i).2.2.1
          · subst e
            rw [up_at]
            exact r6
          · rw [va_up_ne _ _ e]
            have := tl_in (w := w) hb2 hj
            have n1 := tl_ne (w := w) (q := j) (q' := (arcAt M i).2.2.1) hb2 hb2 (Or.inr e)
            exact (by' j hj).eq (r3 _ _ n1 (by omega))
      · rw [if_neg (by rw [nI_eq (by omega) (by omega)]; exact c1)]
        have ex : ∀ B, wtF us[k] now B (arcAt M i) = B := fun B => if_neg c1
        rw [ex]
        exact ⟨y, rfl, fy, way⟩
