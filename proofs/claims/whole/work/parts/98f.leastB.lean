/-! The class Least: one thing of each set, shortened. -/
section LB
variable {h h' : zM} {x y : Nat} {M : zMa}
theorem LI.eq (l : LI h x y M) (g : sGood M) (f1 : zEq x (x + 1818) h h') (f2 : zEq y (y + 409) h h') : LI h' x y M := by
  obtain ⟨si, ys⟩ := l
  have hn := g.2.2.2
  have hg := g.gos
  exact ⟨⟨si.1.eq f1, by rw [f1.I (by omega) (by omega)]; exact si.2.1, si.2.2.1.eq hn (f1.I (by omega) (by omega) _) (f1.sub (by omega) (by omega)), si.2.2.2.eq (by omega) (f1.sub (by omega) (by omega))⟩, ys.eq f2⟩
theorem LI.gl (l : LI h x y M) : zgI h x 6 0 = some (nI (lsN M)) := l.1.gl
theorem LI.int {a : Nat} (l : LI h x y M) (g : sGood M) (hxy : x + 1818 ≤ y) (f : zFr a (a + 1) h h') (ha : a = y ∨ a = y + 1 ∨ (y + 404 ≤ a ∧ a < y + 409)) : LI h' x y M := by
  obtain ⟨si, ys⟩ := l
  have hn := g.2.2.2
  have hg := g.gos
  have f1 : zEq x (x + 1818) h h' := f.eq (by omega)
  exact ⟨⟨si.1.eq f1, by rw [f1.I (by omega) (by omega)]; exact si.2.1, si.2.2.1.eq hn (f1.I (by omega) (by omega) _) (f1.sub (by omega) (by omega)), si.2.2.2.eq (by omega) (f1.sub (by omega) (by omega))⟩, ys.int f (by omega)⟩
theorem LI.com {i : Nat} {w : zWo} (l : LI h x y M) (g : sGood M) (hxy : x + 1818 ≤ y) (hi : i < 100) (f : zFr (y + 204 + 2 * i) (y + 204 + 2 * i + 2) h h') (hw : Wd h' (y + 204 + 2 * i) 129 w) : LI h' x y M := by
  obtain ⟨si, ys⟩ := l
  have hn := g.2.2.2
  have hg := g.gos
  have f1 : zEq x (x + 1818) h h' := f.eq (by omega)
  exact ⟨⟨si.1.eq f1, by rw [f1.I (by omega) (by omega)]; exact si.2.1, si.2.2.1.eq hn (f1.I (by omega) (by omega) _) (f1.sub (by omega) (by omega)), si.2.2.2.eq (by omega) (f1.sub (by omega) (by omega))⟩, ys.coms hi f hw⟩
abbrev lsEn (M : zMa) (s : Nat) : Option zWo := stEnd M (seAt (sMake M) s)
/-- known, things, how many known -/
def GS (h : zM) (x y : Nat) (M : zMa) (S : zGu) : Prop := LI h x y M ∧ EN h y (lsN M) (lsEn M) ∧ KN h y (lsN M) S.1
theorem KN.put {n t : Nat} {K : Nat → Option Nat} {o : Option Nat} (k : KN h y n K) (ht : t < n) : KN (zsI h (y + 404) t (kI o)) y n (va_up K t o) := fun s hs => by
  by_cases e : s = t
  · subst e; rw [up_at, zI_sI]
  · rw [va_up_ne _ _ e, zI_sI_k e]; exact k s hs
theorem s_guess {s r : Nat} {S : zGu} (g : sGood M) (hxy : x + 1818 ≤ y) (gs : GS h x y M S) (cm : ∀ t, t < lsN M → S.1 t ≠ none → Wd h (y + 204 + 2 * t) 129 (S.2.1 t)) (ok : guOk M (r + 1) s S) (hs : s < lsN M) (hr : r < 100) (hns : S.1 s = none) :
    ∃ h', zf nX1_guess [.inr y, .inl (nI s), .inl (nI (r + 1))] h = some (if (gsJ (sMake M) S.1 (r + 1) s 3 0).isSome then 1 else 0, 0, h') ∧ zFr y (y + 409) h h' ∧ GS h' x y M (guS (sMake M) (r + 1) S s) ∧ ∀ t, t < lsN M → (guS (sMake M) (r + 1) S s).1 t ≠ none → Wd h' (y + 204 + 2 * t) 129 ((guS (sMake M) (r + 1) S s).2.1 t) := by
  obtain ⟨l, en, kn⟩ := id gs
  have hn := g.2.2.2
  have hs100 : s < 100 := Nat.lt_of_lt_of_le hs hn
  have hn100 : lsN M ≤ 100 := hn
  have gf := l.gf g
  have Y := l.2.1
  have X := l.1.1.1
  rw [e_X1_guess]
  have e3 : (nI s + 1) * 3 = nI (3 * s + 3) := by rw [nI_1, n3, pk_mul]; congr 1; omega
  have e0 : nI s * 3 = nI (3 * s + 0) := by rw [n3, pk_mul]; congr 1; omega
  rw [e0]
  have hguS : guS (sMake M) (r + 1) S s = match gsJ (sMake M) S.1 (r + 1) s 3 0 with
    | some (o, g) => (va_up S.1 s (some (r + 1)), va_up S.2.1 s (o ++ S.2.1 g), S.2.2 + 1)
    | none => S := if_pos hns
  rw [hguS]
  have recu : ∀ (f j : Nat), f + j = 3 → gsJ (sMake M) S.1 (r + 1) s 3 0 = gsJ (sMake M) S.1 (r + 1) s f j →
      ∃ h', zm_X1_guess 4 [some (.inr y), some (.inl (nI s)), some (.inl (nI (r + 1))), some (.inl (nI (3 * s + j))), none] [] h = some (if (gsJ (sMake M) S.1 (r + 1) s f j).isSome then 1 else 0, 0, h') ∧ zFr y (y + 409) h h' ∧ GS h' x y M (match gsJ (sMake M) S.1 (r + 1) s f j with
    | some (o, g) => (va_up S.1 s (some (r + 1)), va_up S.2.1 s (o ++ S.2.1 g), S.2.2 + 1)
    | none => S) ∧ ∀ t, t < lsN M → (match gsJ (sMake M) S.1 (r + 1) s f j with
    | some (o, g) => (va_up S.1 s (some (r + 1)), va_up S.2.1 s (o ++ S.2.1 g), S.2.2 + 1)
    | none => S).1 t ≠ none → Wd h' (y + 204 + 2 * t) 129 ((match gsJ (sMake M) S.1 (r + 1) s f j with
    | some (o, g) => (va_up S.1 s (some (r + 1)), va_up S.2.1 s (o ++ S.2.1 g), S.2.2 + 1)
    | none => S).2.1 t) := by
    intro f
    induction f with
    | zero =>
      intro j hj eq
      rw [e_X1_guess_4, e3, if_neg (by rw [nI_ltI (by omega) (by omega)]; omega), zb0]
      exact ⟨h, rfl, zFr.rf, gs, cm⟩
    | succ f ih =>
      intro j hj eq
      have hi : 3 * s + j < 3 * lsN M := by omega
      have hi300 : 3 * s + j < 300 := by omega
      rw [e_X1_guess_4, e3, if_pos ((nI_ltI (by omega) (by omega)).mpr (by omega)), Y.g2, Option.bind_some, X.g3, Option.bind_some, zia_ok X.k3.1 (by rw [X.k3.2]; exact hi300) (by rw [X.k3.2]; omega), Option.bind_some]
      have hun : gsJ (sMake M) S.1 (r + 1) s (f + 1) j = match goAt (sMake M) (3 * s + j) with
        | some (o, g) => if S.1 g = some r then some (o, g) else gsJ (sMake M) S.1 (r + 1) s f (j + 1)
        | none => gsJ (sMake M) S.1 (r + 1) s f (j + 1) := rfl
      cases eg : goAt (sMake M) (3 * s + j) with
      | none =>
        have hg := gf.none hi eg
        rw [eg] at hun
        dsimp only at hun
        rw [hun] at eq ⊢
        rw [hg.1, if_pos rfl, nI_1, Nat.add_assoc]
        exact ih (j + 1) (by omega) eq
      | some p =>
        obtain ⟨o, gg⟩ := p
        have hg := gf.some hi eg
        dsimp only at hg
        have hgl := g.go_lt eg (by omega)
        have hg100 : gg < 100 := by omega
        rw [eg] at hun
        dsimp only at hun
        rw [hg.1, if_neg (nneg (by omega)), Y.g6, Option.bind_some, Y.rd (Or.inl rfl) hg100, kn gg hgl.2, Option.bind_some, n1, pk_sub (by omega), show r + 1 - 1 = r by omega]
        by_cases c : S.1 gg = some r
        · rw [if_pos c] at hun
          rw [hun] at eq ⊢
          obtain ⟨_, q2, q3, q4⟩ := guS_len g hs ok hns eq
          have hge : gg ≠ s := fun z => by rw [z, hns] at c; cases c
          rw [c, if_pos (show kI (some r) = nI r from rfl), Option.bind_some, Y.w (Or.inl rfl) hs100, Option.bind_some]
          have f1 : zFr (y + 404) (y + 405) h (zsI h (y + 404) s (nI (r + 1))) := zFr_sI (by omega) (by omega)
          have kn1 : KN (zsI h (y + 404) s (nI (r + 1))) y (lsN M) (va_up S.1 s (some (r + 1))) := kn.put (o := some (r + 1)) hs
          generalize hh1 : zsI h (y + 404) s (nI (r + 1)) = h1 at *
          have l1 := l.int g hxy f1 (by omega)
          have Y1 := l1.2.1
          have X1 := l1.1.1.1
          obtain ⟨w0, hw0⟩ := l1.2.comAt hs100
          have hwr := hg.2.keep f1 (by omega)
          obtain ⟨h2, a1, a2, a3⟩ := s_become hw0 hwr (by omega)
          have lo := (go_len g (by omega) eg).1
          rw [List.take_of_length_le (by omega)] at a3
          have l2 := l1.com g hxy hs100 a2 a3
          have Y2 := l2.2.1
          have hcg := ((cm gg hgl.2 (by rw [c]; intro z; cases z)).keep f1 (by omega)).keep a2 (by omega)
          obtain ⟨h3, c1, c2, c3⟩ := s_addWord a3 hcg (by omega)
          rw [List.take_of_length_le q3] at c3
          have l3 := l2.com g hxy hs100 c2 c3
          have ea : x + 1204 + 1 + 2 * (3 * s + j) = x + 1205 + 2 * (3 * s + j) := by omega
          rw [Y1.g5, Option.bind_some, Y1.e5 hs100, Option.bind_some, Y1.g2, Option.bind_some, X1.g4, Option.bind_some, X1.2.2.2.1.el hi300, ea, Option.bind_some, zif_ok hw0.1, a1, Option.bind_some]
          dsimp only
          rw [Y2.g5, Option.bind_some, Y2.e5 hs100, Option.bind_some, Option.bind_some, Y2.e5 hg100, Option.bind_some, zif_ok a3.1, c1, Option.bind_some]
          dsimp only
          rw [show zb (nI 1) h3 = some (1, 0, h3) from zb1]
          have f3 : zFr (y + 204 + 2 * s) (y + 204 + 2 * s + 2) h1 h3 := a2.tr c2
          refine ⟨h3, rfl, (f1.wide (by omega) (by omega)).tr (f3.wide (by omega) (by omega)), ⟨l3, (en.eq hn (f1.eq (by omega))).eq hn (f3.eq (by omega)), fun t ht => by rw [f3.I (by omega)]; exact kn1 t ht⟩, fun t ht hk => ?_⟩
          by_cases e : t = s
          · subst e
            rw [up_at]
            exact c3
          · rw [va_up_ne _ _ e] at hk ⊢
            exact ((cm t ht hk).keep f1 (by omega)).keep f3 (by omega)
        · rw [if_neg c] at hun
          rw [hun] at eq ⊢
          have hkn : ¬ kI (S.1 gg) = nI r := by
            cases e : S.1 gg with
            | none => exact fun z => nneg (by omega) z.symm
            | some k =>
              rw [e] at c
              have hk := (ok.1 gg k hgl.2 e).1
              intro z
              have z : nI k = nI r := z
              rw [nI_eq (by omega) (by omega)] at z
              exact c (by rw [z])
          rw [if_neg hkn, nI_add]
          have := ih (j + 1) (by omega) eq
          rw [Nat.add_assoc]
          exact this
  exact recu 3 0 rfl rfl
theorem guS_len2 {S : zGu} {n r s : Nat} : (guS (sMake M) r S s).2.2 ≤ S.2.2 + 1 := by
  unfold guS
  split
  · split
    · exact Nat.le_refl _
    · omega
  · omega
/-- all that guessCommons does -/
theorem s_guessCommons (g : sGood M) (hxy : x + 1818 ≤ y) (l : LI h x y M) (en : EN h y (lsN M) (lsEn M)) :
    ∃ h' C, zf nX1_guessCommons [.inr y] h = some (0, 0, h') ∧ zFr y (y + 409) h h' ∧ LI h' x y M ∧ EN h' y (lsN M) (lsEn M) ∧ CM h' y (lsN M) C ∧ guD M C := by
  have hn := g.2.2.2
  have hn100 : lsN M ≤ 100 := hn
  have hN : (sMake M).1.length = lsN M := rfl
  rw [e_X1_guessCommons]
  have cl : ∀ (t : Nat) (S : zGu), gi M t S → t ≤ lsN M → S.2.2 ≤ 100 := fun t S hS ht => by
    rw [hS.2]
    have := cntP_le t (fun s => (S.1 s).isSome)
    omega
  have main := zlp (P := fun t z => zFr y (y + 409) h z ∧ ∃ S : zGu, S = (List.range t).foldl (guI M (sMake M)) ((fun _ => none), (fun _ => []), 0) ∧ LI z x y M ∧ EN z y (lsN M) (lsEn M) ∧ KN z y t S.1 ∧ ∀ j, j < t → S.1 j ≠ none → Wd z (y + 204 + 2 * j) 129 (S.2.1 j)) (g := fun t z => zm_X1_guessCommons 4 [some (.inr y), some (.inl (nI ((List.range t).foldl (guI M (sMake M)) ((fun _ => none), (fun _ => []), 0)).2.2)), some (.inl (nI t)), none] [] z) (n := lsN M) ?_ 0 h (Nat.zero_le _) ⟨zFr.rf, _, rfl, l, en, fun s hs => absurd hs (Nat.not_lt_zero _), fun j hj => absurd hj (Nat.not_lt_zero _)⟩
  · obtain ⟨z, e1, f, S, eS, lz, enz, knz, cmz⟩ := main
    have giS : gi M (lsN M) S := by
      rw [eS]
      exact fold_range (P := fun t S => gi M t S) (f := guI M (sMake M)) (n := lsN M) (fun t S _ hS => guI_ok hS) _ ⟨fun s hs => absurd hs (Nat.not_lt_zero _), rfl⟩
    have okS := gi_ok giS
    rw [← eS] at e1
    have e1 : zm_X1_guessCommons 4 [some (.inr y), some (.inl 0), some (.inl 0), none] [] h = zm_X1_guessCommons 4 [some (.inr y), some (.inl (nI S.2.2)), some (.inl (nI (lsN M))), none] [] z := e1
    rw [e1, e_X1_guessCommons_4, lz.2.1.g2, Option.bind_some, lz.gl, Option.bind_some, if_neg (by rw [nI_ltI (by omega) (by omega)]; omega)]
    -- the rounds
    have loop : ∀ (f r : Nat) (S : zGu) (z : zM), guOk M (r + 1) 0 S → lsN M < f + r + 1 → r ≤ lsN M → zFr y (y + 409) h z → GS z x y M S → (∀ t, t < lsN M → S.1 t ≠ none → Wd z (y + 204 + 2 * t) 129 (S.2.1 t)) → S.2.2 ≤ 100 →
        ∃ h', zm_X1_guessCommons 64 [some (.inr y), some (.inl (nI S.2.2)), some (.inl (nI (r + 1))), none] [] z = some (0, 0, h') ∧ zFr y (y + 409) h h' ∧ ∃ S', S' = guL (sMake M) (lsN M) f (r + 1) S ∧ GS h' x y M S' ∧ ∀ t, t < lsN M → S'.1 t ≠ none → Wd h' (y + 204 + 2 * t) 129 (S'.2.1 t) := by
      intro f
      induction f with
      | zero =>
        intro r S z ok hf hr fr gs cm h100
        rw [e_X1_guessCommons_64, gs.1.2.1.g2, Option.bind_some, gs.1.gl, Option.bind_some, if_pos ((nI_ltI (by omega) (by omega)).mpr (by omega))]
        exact ⟨z, rfl, fr, S, rfl, gs, cm⟩
      | succ f ih =>
        intro r S z ok hf hr fr gs cm h100
        rw [e_X1_guessCommons_64, gs.1.2.1.g2, Option.bind_some, gs.1.gl, Option.bind_some]
        unfold guL
        by_cases c1 : r + 1 ≤ lsN M
        · rw [if_neg (by rw [nI_ltI (by omega) (by omega)]; omega), Option.bind_some, gs.1.gl, Option.bind_some]
          by_cases c2 : S.2.2 < lsN M
          · rw [if_pos ((nI_ltI (by omega) (by omega)).mpr c2), if_pos ⟨c1, c2⟩]
            have inner := zlp (P := fun t w => zFr y (y + 409) h w ∧ guOk M (r + 1) t ((List.range t).foldl (guS (sMake M) (r + 1)) S) ∧ GS w x y M ((List.range t).foldl (guS (sMake M) (r + 1)) S) ∧ (∀ j, j < lsN M → ((List.range t).foldl (guS (sMake M) (r + 1)) S).1 j ≠ none → Wd w (y + 204 + 2 * j) 129 (((List.range t).foldl (guS (sMake M) (r + 1)) S).2.1 j))) (g := fun t w => zm_X1_guessCommons 88 [some (.inr y), some (.inl (nI ((List.range t).foldl (guS (sMake M) (r + 1)) S).2.2)), some (.inl (nI (r + 1))), some (.inl (nI t))] [] w) (n := lsN M) ?_ 0 z (Nat.zero_le _) ⟨fr, ok, gs, cm⟩
            · obtain ⟨w, i1, i2, i3, i4, i5⟩ := inner
              have i1 : zm_X1_guessCommons 88 [some (.inr y), some (.inl (nI S.2.2)), some (.inl (nI (r + 1))), some (.inl 0)] [] z = _ := i1
              rw [i1, e_X1_guessCommons_88, i4.1.2.1.g2, Option.bind_some, i4.1.gl, Option.bind_some, if_neg (by rw [nI_ltI (by omega) (by omega)]; omega), nI_1]
              have okR := guR_ok g ok
              have eR : (List.range (lsN M)).foldl (guS (sMake M) (r + 1)) S = guR (sMake M) (lsN M) (r + 1) S := rfl
              rw [eR] at i4 i5 ⊢
              refine ih (r + 1) _ w okR (by omega) c1 i2 i4 i5 ?_
              rw [okR.2.2.2]
              exact Nat.le_trans (cntP_le _ _) hn
            · rintro t w ht ⟨fw, okt, gst, cmt⟩
              have ht100 : t < 100 := by omega
              have hr' : (List.range (t + 1)).foldl (guS (sMake M) (r + 1)) S = guS (sMake M) (r + 1) ((List.range t).foldl (guS (sMake M) (r + 1)) S) t := by rw [List.range_succ, List.foldl_append]; rfl
              rw [hr']
              generalize (List.range t).foldl (guS (sMake M) (r + 1)) S = R at *
              have okn := guS_ok g ht okt
              rw [e_X1_guessCommons_88, gst.1.2.1.g2, Option.bind_some, gst.1.gl, Option.bind_some, if_pos ((nI_ltI (by omega) (by omega)).mpr ht), gst.1.2.1.g6, Option.bind_some, gst.1.2.1.rd (Or.inl rfl) ht100, gst.2.2 t ht, Option.bind_some]
              cases eR : R.1 t with
              | some k =>
                have hk := (okt.1 t k ht eR).1
                have es : guS (sMake M) (r + 1) R t = R := if_neg (by rw [eR]; intro z; cases z)
                rw [if_neg (show ¬ kI (some k) = -1 from nneg (by omega)), nI_1]
                rw [es] at okn ⊢
                exact ⟨w, rfl, fw, okn, gst, cmt⟩
              | none =>
                rw [if_pos (show kI none = -1 from rfl), zif_ok gst.1.2.1.1.1]
                obtain ⟨w', q1, q2, q3, q4⟩ := s_guess g hxy gst cmt okt ht (by omega) eR
                rw [q1, Option.bind_some]
                dsimp only
                have es : guS (sMake M) (r + 1) R t = match gsJ (sMake M) R.1 (r + 1) t 3 0 with
                  | some (o, g) => (va_up R.1 t (some (r + 1)), va_up R.2.1 t (o ++ R.2.1 g), R.2.2 + 1)
                  | none => R := if_pos eR
                cases ej : gsJ (sMake M) R.1 (r + 1) t 3 0 with
                | none =>
                  rw [ej] at es
                  have e2 : (guS (sMake M) (r + 1) R t).2.2 = R.2.2 := by rw [es]
                  rw [e2, if_pos (by decide), nI_1]
                  exact ⟨w', rfl, fw.tr q2, okn, q3, q4⟩
                | some p =>
                  rw [ej] at es
                  have e2 : (guS (sMake M) (r + 1) R t).2.2 = R.2.2 + 1 := by rw [es]
                  rw [e2, isS1, if_neg (by decide), nI_1, nI_1]
                  exact ⟨w', rfl, fw.tr q2, okn, q3, q4⟩
          · rw [if_neg (by rw [nI_ltI (by omega) (by omega)]; exact c2), if_neg (fun q => c2 q.2)]
            exact ⟨z, rfl, fr, S, rfl, gs, cm⟩
        · rw [if_pos ((nI_ltI (by omega) (by omega)).mpr (by omega)), if_neg (fun q => c1 q.1)]
          exact ⟨z, rfl, fr, S, rfl, gs, cm⟩
    obtain ⟨h', r1, r2, S', eS', r3, r4⟩ := loop (lsN M + 1) 0 S z okS (by omega) (Nat.zero_le _) f ⟨lz, enz, knz⟩ cmz (cl _ _ giS (Nat.le_refl _))
    refine ⟨h', S'.2.1, by rw [n1]; exact r1, r2, r3.1, r3.2.1, fun s hs => r4 s hs ?_, by rw [eS']; exact guL_ok g (lsN M + 1) 0 S okS (by show (sMake M).1.length < _; omega)⟩
    -- all are known at the end
    have hD := guL_ok g (lsN M + 1) 0 S okS (by show (sMake M).1.length < _; omega)
    have hall : ∀ (f r : Nat) (S : zGu), guOk M (r + 1) 0 S → (sMake M).1.length < f + r + 1 → ∀ s, s < lsN M → (guL (sMake M) (sMake M).1.length f (r + 1) S).1 s ≠ none := by
      intro f
      induction f with
      | zero =>
        intro r S ok hf s hs
        obtain ⟨k, v, hk, hv⟩ := lg_few g hs
        obtain ⟨k', _, k2⟩ := ok.2.1 s k v hs (by omega) hv
        show S.1 s ≠ none
        rw [k2]; intro z; cases z
      | succ f ih =>
        intro r S ok hf s hs
        unfold guL
        by_cases c : r + 1 ≤ (sMake M).1.length ∧ S.2.2 < (sMake M).1.length
        · rw [if_pos c]
          exact ih (r + 1) _ (guR_ok g ok) (by omega) s hs
        · rw [if_neg c]
          by_cases q : r + 1 ≤ (sMake M).1.length
          · have hfull : (sMake M).1.length ≤ cntP (sMake M).1.length (fun s => (S.1 s).isSome) := by
              rw [← ok.2.2.2]
              omega
            have := cntP_full hfull s hs
            intro z
            rw [z] at this
            cases this
          · obtain ⟨k, v, hk, hv⟩ := lg_few g hs
            obtain ⟨k', _, k2⟩ := ok.2.1 s k v hs (by omega) hv
            rw [k2]; intro z; cases z
    rw [eS']
    exact hall _ _ _ okS (by show (sMake M).1.length < _; omega) s hs
  · rintro t z ht ⟨f, S, eS, lz, enz, knz, cmz⟩
    have ht100 : t < 100 := by omega
    have hr' : (List.range (t + 1)).foldl (guI M (sMake M)) ((fun _ => none), (fun _ => []), 0) = guI M (sMake M) ((List.range t).foldl (guI M (sMake M)) ((fun _ => none), (fun _ => []), 0)) t := by rw [List.range_succ, List.foldl_append]; rfl
    rw [hr']
    rw [← eS]
    have Y := lz.2.1
    rw [e_X1_guessCommons_4, Y.g2, Option.bind_some, lz.gl, Option.bind_some, if_pos ((nI_ltI (by omega) (by omega)).mpr ht), Y.g6, Option.bind_some, Y.w (Or.inl rfl) ht100, Option.bind_some]
    have f1 : zFr (y + 404) (y + 405) z (zsI z (y + 404) t (-1)) := zFr_sI (by omega) (by omega)
    have v1 : ∀ s, zI (zsI z (y + 404) t (-1)) (y + 404) s = if s = t then -1 else zI z (y + 404) s := fun s => by
      by_cases e : s = t
      · rw [if_pos e, e, zI_sI]
      · rw [if_neg e, zI_sI_k e]
    have l1 := lz.int g hxy f1 (by omega)
    have en1 := enz.eq hn (f1.eq (by omega))
    generalize hz1 : zsI z (y + 404) t (-1) = z1 at *
    have Y1 := l1.2.1
    rw [Y1.g3, Option.bind_some, Y1.rb ht100, (en1 t ht).1, Option.bind_some]
    cases ee : lsEn M t with
    | none =>
      have eI : guI M (sMake M) S t = (va_up S.1 t none, S.2.1, S.2.2) := by unfold guI; rw [show stEnd M (seAt (sMake M) t) = none from ee]
      rw [if_pos (by decide), nI_1, eI]
      refine ⟨z1, rfl, f.tr (f1.wide (by omega) (by omega)), _, rfl, l1, en1, fun s hs => ?_, fun j hj hk => ?_⟩
      · dsimp only
        rw [v1]
        by_cases e : s = t
        · rw [if_pos e, e, up_at]; rfl
        · rw [if_neg e, va_up_ne _ _ e]; exact knz s (by omega)
      · dsimp only at hk ⊢
        by_cases e : j = t
        · subst e; rw [up_at] at hk; exact absurd rfl hk
        · rw [va_up_ne _ _ e] at hk
          exact (cmz j (by omega) hk).keep f1 (by omega)
    | some v =>
      have eI : guI M (sMake M) S t = (va_up S.1 t (some 0), va_up S.2.1 t v, S.2.2 + 1) := by unfold guI; rw [show stEnd M (seAt (sMake M) t) = some v from ee]
      rw [if_neg (show ¬ bI (some v).isSome = 0 from (by decide : ¬ (1 : Int32) = 0)), Y1.g6, Option.bind_some, Y1.w (Or.inl rfl) ht100, Option.bind_some]
      have f2 : zFr (y + 404) (y + 405) z1 (zsI z1 (y + 404) t 0) := zFr_sI (by omega) (by omega)
      have v2 : ∀ s, zI (zsI z1 (y + 404) t 0) (y + 404) s = if s = t then 0 else zI z1 (y + 404) s := fun s => by
        by_cases e : s = t
        · rw [if_pos e, e, zI_sI]
        · rw [if_neg e, zI_sI_k e]
      have l2 := l1.int g hxy f2 (by omega)
      have en2 := en1.eq hn (f2.eq (by omega))
      generalize hz2 : zsI z1 (y + 404) t 0 = z2 at *
      have Y2 := l2.2.1
      obtain ⟨w0, hw0⟩ := l2.2.comAt ht100
      have hv := (en2 t ht).2 v ee
      obtain ⟨z3, a1, a2, a3⟩ := s_become hw0 hv (by omega)
      have hvl := hv.small
      rw [List.take_of_length_le (by omega)] at a3
      have l3 := l2.com g hxy ht100 a2 a3
      rw [Y2.g5, Option.bind_some, Y2.e5 ht100, Option.bind_some, Y2.g4, Option.bind_some, Y2.e4 ht100, Option.bind_some, zif_ok hw0.1, a1, Option.bind_some, nI_1, nI_1, eI]
      refine ⟨z3, rfl, f.tr ((f1.wide (by omega) (by omega)).tr ((f2.wide (by omega) (by omega)).tr (a2.wide (by omega) (by omega)))), _, rfl, l3, en2.eq hn (a2.eq (by omega)), fun s hs => ?_, fun j hj hk => ?_⟩
      · dsimp only
        rw [a2.I (by omega), v2]
        by_cases e : s = t
        · rw [if_pos e, e, up_at]; rfl
        · rw [if_neg e, v1, if_neg e, va_up_ne _ _ e]; exact knz s (by omega)
      · dsimp only at hk ⊢
        by_cases e : j = t
        · subst e; rw [up_at]; exact a3
        · rw [va_up_ne _ _ e] at hk ⊢
          exact (((cmz j (by omega) hk).keep f1 (by omega)).keep f2 (by omega)).keep a2 (by omega)
end LB
