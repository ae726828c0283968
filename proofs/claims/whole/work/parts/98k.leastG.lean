/-! The class Least: act and take. -/
/-- ints have changed in two places alone -/
def zF2 (a b c d : Nat) (h h' : zM) : Prop := h'.1 = h.1 ∧ h'.2.1 = h.2.1 ∧ ∀ q, (¬ (a ≤ q ∧ q < b) → ¬ (c ≤ q ∧ q < d) → h'.2.2.1 q = h.2.2.1 q) ∧ h'.2.2.2 q = h.2.2.2 q
theorem zF2.rf {a b c d : Nat} {h : zM} : zF2 a b c d h h := ⟨rfl, rfl, fun _ => ⟨fun _ _ => rfl, rfl⟩⟩
theorem zF2.tr {a b c d : Nat} {h h1 h2 : zM} (f : zF2 a b c d h h1) (g : zF2 a b c d h1 h2) : zF2 a b c d h h2 :=
  ⟨g.1.trans f.1, g.2.1.trans f.2.1, fun q => ⟨fun u v => ((g.2.2 q).1 u v).trans ((f.2.2 q).1 u v), (g.2.2 q).2.trans (f.2.2 q).2⟩⟩
theorem zF2.l {a b c d : Nat} {h h' : zM} (f : zFr a b h h') : zF2 a b c d h h' := ⟨f.1, f.2.1, fun q => ⟨fun u _ => (f.2.2 q).1 u, (f.2.2 q).2⟩⟩
theorem zF2.r {a b c d : Nat} {h h' : zM} (f : zFr c d h h') : zF2 a b c d h h' := ⟨f.1, f.2.1, fun q => ⟨fun _ v => (f.2.2 q).1 v, (f.2.2 q).2⟩⟩
theorem zF2.eq {a b c d u v : Nat} {h h' : zM} (f : zF2 a b c d h h') (h1 : v ≤ a ∨ b ≤ u) (h2 : v ≤ c ∨ d ≤ u) : zEq u v h h' := ⟨f.2.1, fun q q1 q2 => ⟨(f.2.2 q).1 (by omega) (by omega), (f.2.2 q).2⟩⟩
section LAC
variable {h h' : zM} {x y : Nat} {M : zMa}
theorem LF.eq (g : sGood M) (d : LF h x y M) (f1 : zEq x (x + 1818) h h') (f2 : zEq y (y + 409) h h') : LF h' x y M := by
  have hn : lsN M ≤ 100 := g.2.2.2
  exact ⟨⟨⟨d.1.1.1.eq f1, by rw [f1.I (Nat.le_refl _) (by omega)]; exact d.1.1.2.1, d.1.1.2.2.eq f2⟩, d.1.2.1.eq hn (f2.sub (by omega) (by omega)), d.1.2.2.1.eq hn (f2.sub (by omega) (by omega)), d.1.2.2.2.eq hn (f1.sub (by omega) (by omega))⟩, fun s hs => by rw [f2.I (by omega) (by omega)]; exact d.2.1 s hs, ⟨by rw [f2.I (Nat.le_refl _) (by omega)]; exact d.2.2.1.1, fun c hc => by rw [f2.I (by omega) (by omega)]; exact d.2.2.1.2.1 c hc, fun q hq => by rw [f2.I (by omega) (by omega)]; exact d.2.2.1.2.2 q hq⟩, by rw [f2.I (Nat.le_refl _) (by omega)]; exact d.2.2.2⟩
theorem lsZ_lt (g : sGood M) {q j : Nat} {p : zWo × Nat} (hq : q < (lsP M).length) (hj : j < 3) (e : (lsZ M).2.2.2 (3 * q + j) = some p) : p.2 < (lsP M).length := by
  have hm : (lsP M).getD q 0 ∈ lsP M := by
    rw [List.getD_eq_getElem?_getD, List.getElem?_eq_getElem hq]
    exact List.getElem_mem hq
  obtain ⟨k1, k2⟩ := (lsP_ok g).2 _ hm
  obtain ⟨w1, w2⟩ := lz_way g k1 hj (by rw [k2]; exact hm)
  rw [lsV_of g hq] at w1
  rw [w1] at e
  cases e2 : lsW M (3 * (lsP M).getD q 0 + j) with
  | none => rw [e2] at e; cases e
  | some p0 =>
    rw [e2, Option.map_some] at e
    have e := Option.some.inj e
    have h7 : lsB M p0.2 ∈ lsP M := w2 p0 e2
    have h8 : lsV M p0.2 < (lsP M).length := (lsV_get h7).1
    have h9 : p.2 = lsV M p0.2 := by rw [← e]
    rw [h9]
    exact h8
/-- a WORD is read, or not -/
theorem s_accepts (g : sGood M) (hxy : x + 1818 ≤ y) (d : LF h x y M) {v N : Nat} {us : List Nat} (hv : Wd h v N (us.map nI)) (hvd : v + 2 ≤ y + 204 ∨ y + 206 ≤ v) (hus : ∀ l ∈ us, 1 ≤ l ∧ l ≤ 3) (h9 : us.length ≤ 9) :
    ∃ h', zf nX1_accepts [.inr y, .inr v] h = some (bI (acF (lsZ M) us).isSome, 0, h') ∧ zFr (y + 204) (y + 206) h h' ∧ LF h' x y M := by
  have hn : lsN M ≤ 100 := g.2.2.2
  have hPl := lsP_len g
  rw [e_X1_accepts, d.st, Option.bind_some]
  have hlen : zgI h v 10 1 = some (nI us.length) := by rw [hv.len, List.length_map]
  by_cases c : (lsP M).length = 0
  · rw [if_neg (by rw [c]; decide), e_X1_accepts_15, hlen, Option.bind_some]
    have hac : acF (lsZ M) us = none := by
      unfold acF
      rw [if_pos (by rw [lsZ_1]; exact c)]
    rw [hac]
    refine ⟨h, ?_, zFr.rf, d⟩
    split
    · rw [if_pos rfl, if_pos rfl, zb0]; rfl
    · rw [if_pos rfl, zb0]; rfl
  · rw [if_pos (by rw [n0, nI_ltI (by omega) (by omega)]; omega)]
    have hac : (acF (lsZ M) us).isSome = (acZ (lsZ M) 0 us).isSome := by
      unfold acF
      rw [if_neg (by rw [lsZ_1]; exact c), Option.isSome_map]
    rw [hac]
    have fin : ∀ (q : Nat), q < (lsP M).length → ∃ h', (zif (zK h y = 2) ((zf nX1_wordOf [.inr y, .inl (nI q), .inl (0 : Int32)] h).bind fun u1 => if u1.2.1 = 0 then zb (0 : Int32) u1.2.2 else zb (1 : Int32) u1.2.2)) = some (bI ((lsZ M).2.2.1 q).isSome, 0, h') ∧ zFr (y + 204) (y + 206) h h' ∧ LF h' x y M := fun q hq => by
      rw [zif_ok d.1.1.2.2.1.1.1]
      obtain ⟨h', f, d', w⟩ := s_wordOf g hxy d (nI q) 0
      rw [aWord_0 (by rw [lsZ_1]; omega) (by rw [lsZ_1]; exact hq)] at w
      cases e : (lsZ M).2.2.1 q with
      | none =>
        rw [e] at w
        rw [show zf nX1_wordOf [.inr y, .inl (nI q), .inl (0 : Int32)] h = some (0, 0, h') from w, Option.bind_some, if_pos rfl, zb0]
        exact ⟨h', rfl, f, d'⟩
      | some u =>
        rw [e] at w
        obtain ⟨a, n, w1, w2, w3⟩ := w
        rw [w1, Option.bind_some]
        dsimp only
        rw [if_neg (by have w21 : x + 1205 ≤ a := w2.1; omega), zb1]
        exact ⟨h', rfl, f, d'⟩
    have loop : ∀ (rest : List Nat) (k q : Nat), us.drop k = rest → k ≤ us.length → q < (lsP M).length → ∃ h', zm_X1_accepts 15 [some (.inr y), some (.inr v), some (.inl (nI q)), some (.inl (nI k))] [] h = some (bI (acZ (lsZ M) q rest).isSome, 0, h') ∧ zFr (y + 204) (y + 206) h h' ∧ LF h' x y M := by
      intro rest
      induction rest with
      | nil =>
        intro k q hd hk hq
        have hk2 : us.length ≤ k := List.drop_eq_nil_iff.mp hd
        rw [e_X1_accepts_15, hlen, Option.bind_some, if_neg (by rw [nI_ltI (by omega) (by omega)]; omega), if_neg (nneg (by omega)), acZ_nil]
        exact fin q hq
      | cons l rest ih =>
        intro k q hd hk hq
        have hk2 : k < us.length := by
          apply Classical.byContradiction
          intro w
          rw [List.drop_eq_nil_iff.mpr (by omega)] at hd
          cases hd
        have hkl : us[k]? = some l := by
          have := List.getElem?_drop (xs := us) (i := k) (j := 0)
          rw [hd] at this
          exact this.symm
        have hl := hus l (List.mem_of_getElem? hkl)
        have hat : zia h (v + 1) (nI k) = some (nI l) := by
          rw [hv.at (by rw [List.length_map]; exact hk2), List.getD_eq_getElem?_getD, List.getElem?_map, hkl]
          rfl
        rw [e_X1_accepts_15, hlen, Option.bind_some, if_pos ((nI_ltI (by omega) (by omega)).mpr hk2), if_neg (nneg (by omega)), hv.arr, Option.bind_some, hat, Option.bind_some, zif_ok d.1.1.2.2.1.1.1, s_stateBehind g d, Option.bind_some, aGoes_n (by rw [lsZ_1]; omega) (by rw [lsZ_1]; exact hq) hl, acZ_cons, nI_1]
        cases e : (lsZ M).2.2.2 (3 * q + (l - 1)) with
        | none =>
          dsimp only
          rw [e_X1_accepts_15, hlen, Option.bind_some]
          refine ⟨h, ?_, zFr.rf, d⟩
          split
          · rw [if_pos rfl, if_pos rfl, zb0]; rfl
          · rw [if_pos rfl, zb0]; rfl
        | some p =>
          dsimp only
          rw [Option.isSome_map]
          have hd2 : us.drop (k + 1) = rest := by
            rw [← List.drop_drop, hd]
            rfl
          exact ih (k + 1) p.2 hd2 (by omega) (lsZ_lt g hq (by omega) e)
    exact loop us 0 0 rfl (Nat.zero_le _) (by omega)
theorem s_addWordOf (g : sGood M) (hxy : x + 1818 ≤ y) (d : LF h x y M) {q l : Int32} {t : Nat} {w u : zWo} (hw : aWord (lsZ M) q l = some u) (ht : Wd h t 30 w) (htd : t + 2 ≤ x ∨ y + 409 ≤ t) :
    ∃ h', zf nX1_addWordOf [.inr y, .inl q, .inl l, .inr t] h = some (0, 0, h') ∧ zF2 (y + 204) (y + 206) t (t + 2) h h' ∧ LF h' x y M ∧ Wd h' t 30 ((w ++ u).take 30) := by
  rw [e_X1_addWordOf, zif_ok d.1.1.2.2.1.1.1]
  obtain ⟨h1, f1, d1, w1⟩ := s_wordOf g hxy d q l
  rw [hw] at w1
  obtain ⟨a, n, w1, w2, w3⟩ := w1
  have ht1 := ht.keep f1 (by omega)
  rw [w1, Option.bind_some]
  dsimp only
  have w21 : x + 1205 ≤ a := w2.1
  have w22 : a + 2 ≤ y + 404 := w2.2
  rw [if_neg (by omega), zif_ok ht1.1]
  obtain ⟨h2, b1, b2, b3⟩ := s_addWord ht1 w3 (by omega)
  rw [b1, Option.bind_some]
  exact ⟨h2, rfl, (zF2.l f1).tr (zF2.r b2), d1.eq g (b2.eq (by omega)) (b2.eq (by omega)), b3⟩
theorem s_translate (g : sGood M) (hxy : x + 1818 ≤ y) (d : LF h x y M) {v N t : Nat} {us : List Nat} {w0 out : zWo} (hv : Wd h v N (us.map nI)) (hvd : v + 2 ≤ x ∨ y + 409 ≤ v) (hus : ∀ l ∈ us, 1 ≤ l ∧ l ≤ 3) (h9 : us.length ≤ 9) (ht : Wd h t 30 w0) (htd : t + 2 ≤ x ∨ y + 409 ≤ t) (hvt : v + 2 ≤ t ∨ t + 2 ≤ v) (ho : acF (lsZ M) us = some out) :
    ∃ h', zf nX1_translate [.inr y, .inr v, .inr t] h = some (0, 0, h') ∧ zF2 (y + 204) (y + 206) t (t + 2) h h' ∧ LF h' x y M ∧ Wd h' t 30 out := by
  have hn : lsN M ≤ 100 := g.2.2.2
  have hPl := lsP_len g
  have hout := acF_len g hus ho
  have hP0 : (lsP M).length ≠ 0 := fun e => by
    unfold acF at ho
    rw [if_pos (by rw [lsZ_1]; exact e)] at ho
    cases ho
  have hZ : (lsZ M).1 < 2 ^ 30 := by rw [lsZ_1]; omega
  unfold acF at ho
  rw [if_neg (by rw [lsZ_1]; exact hP0)] at ho
  cases eo : acZ (lsZ M) 0 us with
  | none => rw [eo] at ho; cases ho
  | some o =>
    rw [eo] at ho
    cases ho
    rw [e_X1_translate, zif_ok d.1.1.2.2.1.1.1]
    obtain ⟨h1, a1, a2, a3, a4⟩ := s_beginWord g hxy d
    have ht1 := ht.keep a2 (by omega)
    have hv1 := hv.keep a2 (by omega)
    rw [a1, Option.bind_some]
    dsimp only
    rw [zif_ok ht1.1]
    obtain ⟨h2, b1, b2, b3⟩ := s_become ht1 a4 (by omega)
    have hv2 := hv1.keep b2 (by omega)
    have d2 := a3.eq g (b2.eq (by omega)) (b2.eq (by omega))
    rw [b1, Option.bind_some]
    dsimp only
    have loop : ∀ (rest : List Nat) (k q : Nat) (pre o : zWo) (z : zM), us.drop k = rest → k ≤ us.length → q < (lsP M).length → acZ (lsZ M) q rest = some o → LF z x y M → Wd z v N (us.map nI) → Wd z t 30 (pre.take 30) → ∃ h', zm_X1_translate 13 [some (.inr y), some (.inr v), some (.inr t), some (.inl (nI q)), some (.inl (nI k))] [] z = some (0, 0, h') ∧ zF2 (y + 204) (y + 206) t (t + 2) z h' ∧ LF h' x y M ∧ Wd h' t 30 ((pre ++ o).take 30) := by
      intro rest
      induction rest with
      | nil =>
        intro k q pre o z hd hk hq ho dz vz tz
        have hk2 : us.length ≤ k := List.drop_eq_nil_iff.mp hd
        have hlen : zgI z v 10 1 = some (nI us.length) := by rw [vz.len, List.length_map]
        rw [acZ_nil] at ho
        rw [e_X1_translate_13, hlen, Option.bind_some, if_neg (by rw [nI_ltI (by omega) (by omega)]; omega), zif_ok dz.1.1.2.2.1.1.1]
        obtain ⟨h', r1, r2, r3, r4⟩ := s_addWordOf g hxy dz (q := nI q) (l := 0) (by rw [aWord_0 hZ (by rw [lsZ_1]; exact hq)]; exact ho) tz htd
        rw [r1, Option.bind_some]
        rw [take_take_app] at r4
        exact ⟨h', rfl, r2, r3, r4⟩
      | cons l rest ih =>
        intro k q pre o z hd hk hq ho dz vz tz
        have hlen : zgI z v 10 1 = some (nI us.length) := by rw [vz.len, List.length_map]
        have hk2 : k < us.length := by
          apply Classical.byContradiction
          intro w
          rw [List.drop_eq_nil_iff.mpr (by omega)] at hd
          cases hd
        have hkl : us[k]? = some l := by
          have := List.getElem?_drop (xs := us) (i := k) (j := 0)
          rw [hd] at this
          exact this.symm
        have hl := hus l (List.mem_of_getElem? hkl)
        have hat : ∀ {z : zM}, Wd z v N (us.map nI) → zia z (v + 1) (nI k) = some (nI l) := fun vz => by
          rw [vz.at (by rw [List.length_map]; exact hk2), List.getD_eq_getElem?_getD, List.getElem?_map, hkl]
          rfl
        rw [acZ_cons] at ho
        cases e : (lsZ M).2.2.2 (3 * q + (l - 1)) with
        | none => rw [e] at ho; cases ho
        | some p =>
          rw [e] at ho
          dsimp only at ho
          cases e2 : acZ (lsZ M) p.2 rest with
          | none => rw [e2] at ho; cases ho
          | some o2 =>
            rw [e2] at ho
            cases ho
            rw [e_X1_translate_13, hlen, Option.bind_some, if_pos ((nI_ltI (by omega) (by omega)).mpr hk2), vz.arr, Option.bind_some, hat vz, Option.bind_some, zif_ok dz.1.1.2.2.1.1.1]
            obtain ⟨z1, r1, r2, r3, r4⟩ := s_addWordOf g hxy dz (q := nI q) (l := nI l) (u := p.1) (by rw [aWord_l hZ (by rw [lsZ_1]; exact hq) hl, e]; rfl) tz htd
            have vz1 := vz.eq (r2.eq (by omega) (by omega))
            rw [r1, Option.bind_some]
            dsimp only
            rw [vz1.arr, Option.bind_some, hat vz1, Option.bind_some, zif_ok r3.1.1.2.2.1.1.1, s_stateBehind g r3, Option.bind_some, aGoes_n hZ (by rw [lsZ_1]; exact hq) hl, e, nI_1]
            dsimp only
            rw [take_take_app] at r4
            have hd2 : us.drop (k + 1) = rest := by
              rw [← List.drop_drop, hd]
              rfl
            obtain ⟨h', s1, s2, s3, s4⟩ := ih (k + 1) p.2 (pre ++ p.1) o2 z1 hd2 (by omega) (lsZ_lt g hq (by omega) e) e2 r3 vz1 r4
            refine ⟨h', s1, r2.tr s2, s3, ?_⟩
            rw [List.append_assoc] at s4
            exact s4
    obtain ⟨h', r1, r2, r3, r4⟩ := loop us 0 0 (lsZ M).2.1 o h2 rfl (Nat.zero_le _) (by omega) eo d2 hv2 b3
    refine ⟨h', r1, ((zF2.l a2).tr (zF2.r b2)).tr r2, r3, ?_⟩
    have hout : ((lsZ M).2.1 ++ o).length ≤ 3 * us.length + 3 := hout
    rw [List.take_of_length_le (by omega)] at r4
    exact r4
end LAC
