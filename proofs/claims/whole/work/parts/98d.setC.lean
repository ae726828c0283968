/-! The class Sets: make. -/
theorem sLead_frozen {M : zMa} {l : Nat} {s : zSe} {X : zSs} (h : 100 < X.1.length) : sLead M l s X = X := if_pos h
theorem sAll_frozen {M : zMa} : ∀ (f i : Nat) (X : zSs), 100 < X.1.length → sAll M f i X = X
  | 0, i, X, _ => rfl
  | f + 1, i, X, h => by
    unfold sAll
    split
    · rw [sLead_frozen h, sLead_frozen h, sLead_frozen h, sAll_frozen f (i + 1) X h]
    · rfl
/-- told, or too many -/
def SR (h : zM) (x : Nat) (M : zMa) (X : zSs) : Prop := (X.1.length ≤ 100 ∧ SI h x M X) ∨ (X.1.length = 101 ∧ zI h x 0 = 101 ∧ SS h x)
theorem GC.app_none {h : zM} {x : Nat} {gs : List (Option (zWo × Nat))} (g : GC h x gs) (e1 : zI h (x + 1203) gs.length = -1) (e2 : Wd h (x + 1205 + 2 * gs.length) 240 []) : GC h x (gs ++ [none]) := fun i hi => by
  rw [List.length_append] at hi
  have hi : i < gs.length + 1 := hi
  by_cases c : i < gs.length
  · have e : (gs ++ [none]).getD i none = gs.getD i none := by rw [List.getD_eq_getElem?_getD, List.getElem?_append_left c, ← List.getD_eq_getElem?_getD]
    rw [e]
    exact g i c
  · have : i = gs.length := by omega
    subst this
    have e : (gs ++ [none]).getD gs.length none = none := by rw [List.getD_eq_getElem?_getD, List.getElem?_append_right (Nat.le_refl _), Nat.sub_self]; rfl
    rw [e]
    exact ⟨e1, e2⟩
theorem GC.app_some {h : zM} {x : Nat} {gs : List (Option (zWo × Nat))} {p : zWo × Nat} (g : GC h x gs) (e1 : zI h (x + 1203) gs.length = nI p.2) (e2 : Wd h (x + 1205 + 2 * gs.length) 240 p.1) : GC h x (gs ++ [some p]) := fun i hi => by
  rw [List.length_append] at hi
  have hi : i < gs.length + 1 := hi
  by_cases c : i < gs.length
  · have e : (gs ++ [some p]).getD i none = gs.getD i none := by rw [List.getD_eq_getElem?_getD, List.getElem?_append_left c, ← List.getD_eq_getElem?_getD]
    rw [e]
    exact g i c
  · have : i = gs.length := by omega
    subst this
    have e : (gs ++ [some p]).getD gs.length none = some p := by rw [List.getD_eq_getElem?_getD, List.getElem?_append_right (Nat.le_refl _), Nat.sub_self]; rfl
    rw [e]
    exact ⟨e1, e2⟩
theorem s_Slead {h : zM} {x A s l : Nat} {M : zMa} {X : zSs} (mM : MC h A M) (kM : MaOk M) (hA : A + 6 ≤ x ∨ x + 1818 ≤ A) (si : SI h x M X) (hl : X.1.length ≤ 100) (hs : s < X.1.length) (hl3 : 1 ≤ l ∧ l ≤ 3) (hw : X.2.length = 3 * s + l - 1) (hlen : ∀ q r, stAt (seAt X s) q = some r → r.length ≤ 108) :
    ∃ h', zf nX6_lead [.inr x, .inr A, .inl (nI s), .inl (nI l)] h = some (0, 0, h') ∧ zFr x (x + 1818) h h' ∧ SR h' x M (sLead M l (seAt X s) X) := by
  obtain ⟨d, hu, sc, gc⟩ := si
  have X0 := d.1
  have hway : s * 3 + l - 1 < 300 := by omega
  have eidx : nI s * 3 + nI l - 1 = nI (s * 3 + l - 1) := by rw [n3, pk_mul, nI_add, n1, pk_sub (by omega)]
  have ew : s * 3 + l - 1 = X.2.length := by omega
  rw [ew] at eidx hway
  rw [e_X6_lead]
  simp only [eidx, X0.g3, zis_ok X0.k3.1 (show X.2.length < zN h (x + 1203) by rw [X0.k3.2]; exact hway) (show zN h (x + 1203) < 2 ^ 31 by rw [X0.k3.2]; omega), Option.bind_some]
  have f1 : zFr (x + 1203) (x + 1204) h (zsI h (x + 1203) X.2.length (-1)) := zFr_sI (by omega) (by omega)
  have d1 := d.int f1 (by omega)
  have g1 : GC (zsI h (x + 1203) X.2.length (-1)) x X.2 := fun i hi => by
    have := gc i hi
    split at this
    · exact ⟨by rw [zI_sI_k (by omega)]; exact this.1, this.2.keep f1 (by omega)⟩
    · exact ⟨by rw [zI_sI_k (by omega)]; exact this.1, this.2.keep f1 (by omega)⟩
  have v1 : zI (zsI h (x + 1203) X.2.length (-1)) (x + 1203) X.2.length = -1 := zI_sI
  have sc1 : SC (zsI h (x + 1203) X.2.length (-1)) x X.1 := sc.eq hl (f1.I (by omega) _) (f1.eq (by omega))
  have u1 : zI (zsI h (x + 1203) X.2.length (-1)) x 7 = nI (useB M) := by rw [f1.I (by omega)]; exact hu
  generalize hh1 : zsI h (x + 1203) X.2.length (-1) = h1 at *
  have elW : ∀ {z : zM}, SX z x → zaa z (x + 1204) (nI X.2.length) = some (x + 1205 + 2 * X.2.length) := fun {z} Xz => by rw [Xz.2.2.2.1.el hway]
  obtain ⟨w0, hw0⟩ := d1.2.2.1 X.2.length hway
  have hw0 : Wd h1 (x + 1205 + 2 * X.2.length) 240 w0 := by
    have e : x + 1204 + 1 + 2 * X.2.length = x + 1205 + 2 * X.2.length := by omega
    rw [e] at hw0; exact hw0
  obtain ⟨h2, a1, a2, a3⟩ := s_clear hw0
  have d2 := d1.writ hway a2 a3
  have g2 : GC h2 x X.2 := fun i hi => by
    have := g1 i hi
    split at this
    · exact ⟨by rw [a2.I (by omega)]; exact this.1, this.2.keep a2 (by omega)⟩
    · exact ⟨by rw [a2.I (by omega)]; exact this.1, this.2.keep a2 (by omega)⟩
  have sc2 := sc1.eq hl (a2.I (by omega) _) (a2.eq (by omega))
  have u2 : zI h2 x 7 = nI (useB M) := by rw [a2.I (by omega)]; exact u1
  have v2 : zI h2 (x + 1203) X.2.length = -1 := by rw [a2.I (by omega)]; exact v1
  have f2 : zFr x (x + 1818) h h2 := (f1.wide (by omega) (by omega)).tr (a2.wide (by omega) (by omega))
  simp only [d1.1.g4, elW d1.1, Option.bind_some, zif_ok hw0.1]
  rw [a1, Option.bind_some]
  dsimp only
  rw [zif_ok d2.1.1.1]
  obtain ⟨h3, b1, b2, b3, b4, b5, b6⟩ := s_gather (mM.keep f2 (by omega)) kM hA d2 u2 sc2 hl hs (show l < 4 by omega) hlen
  rw [b1, Option.bind_some]
  dsimp only
  have g3 : GC h3 x X.2 := g2.eq (by omega) (b3.sub (by omega) (by omega))
  have sc3 := sc2.eq hl (b4 0 (by decide)) (b3.sub (by omega) (by omega))
  have u3 : zI h3 x 7 = nI (useB M) := by rw [b4 7 (by decide)]; exact u2
  have v3 : zI h3 (x + 1203) X.2.length = -1 := by rw [b3.I (by omega) (by omega)]; exact v2
  have w3 : Wd h3 (x + 1205 + 2 * X.2.length) 240 [] := a3.eq (b3.sub (by omega) (by omega))
  have f3 := f2.tr b2
  have es : seAt X s = X.1.getD s [] := rfl
  rw [es]
  obtain ⟨⟨B, bt, bi⟩, _⟩ := id b6
  have X3 := b5.1
  unfold sLead
  rw [if_neg (show ¬ 100 < X.1.length by omega), zgI_ok X3.1.1, bi, Option.bind_some]
  have hb0 := bts_0 bt
  have hb64 := bt.2.1
  by_cases c : stNo (gath M (X.1.getD s []) l) = true
  · rw [if_pos c, if_pos (by rw [hb0.mpr c]; rfl)]
    exact ⟨h3, rfl, f3, Or.inl ⟨hl, b5, u3, sc3, g3.app_none v3 w3⟩⟩
  · have cf : stNo (gath M (X.1.getD s []) l) = false := by simpa using c
    rw [if_neg c, if_neg (by rw [n0, nI_eq (by omega) (by decide)]; exact fun z => c (hb0.mp z))]
    generalize gath M (X.1.getD s []) l = m at *
    rw [X3.g4, Option.bind_some, elW X3, Option.bind_some, zif_ok X3.1.1]
    obtain ⟨h4, o1, o2, o3, o4, o5, o6⟩ := s_writeCommon b5 b6 cf hway
    rw [o1, Option.bind_some]
    dsimp only
    have X4 := o4.1
    have sc4 := sc3.eq hl (o2.I (by omega) _) (o2.eq (by omega))
    rw [X4.g3, Option.bind_some, zif_ok X4.1.1]
    obtain ⟨h5, p1, p2, p3, p4⟩ := s_place o4 o5 sc4 hl
    have f5 : zFr x (x + 1818) h h5 := f3.tr ((o2.wide (by omega) (by omega)).tr (p1.wide (by omega) (by omega)))
    have g5 : GC h5 x X.2 := fun i hi => by
      have := g3 i hi
      split at this
      · exact ⟨by rw [p1.I (by omega), o2.I (by omega)]; exact this.1, (this.2.eq (o3.sub (by omega) (by omega))).keep p1 (by omega)⟩
      · exact ⟨by rw [p1.I (by omega), o2.I (by omega)]; exact this.1, (this.2.eq (o3.sub (by omega) (by omega))).keep p1 (by omega)⟩
    have w5 := o6.keep p1 (show x + 1205 + 2 * X.2.length + 1 < x ∨ x + 1203 ≤ x + 1205 + 2 * X.2.length by omega)
    have u5 : zI h5 x 7 = nI (useB M) := by rw [p3 7 (by decide), o2.I (by omega)]; exact u3
    have X5 := p2.1
    have fin : ∀ v : Int32, ∃ h', ((zis h5 (x + 1203) (nI X.2.length) v).bind fun h2 => some (((0, 0, h2) : zR))) = some (0, 0, h') ∧ h' = zsI h5 (x + 1203) X.2.length v := fun v => ⟨_, by rw [zis_ok X5.k3.1 (by rw [X5.k3.2]; exact hway) (by rw [X5.k3.2]; omega)]; rfl, rfl⟩
    have f6 : ∀ v, zFr (x + 1203) (x + 1204) h5 (zsI h5 (x + 1203) X.2.length v) := fun v => zFr_sI (by omega) (by omega)
    rcases p4 with ⟨q1, q2, q3⟩ | ⟨q1, q2, q3⟩
    · rw [q2, Option.bind_some]
      dsimp only
      obtain ⟨h', r1, rfl⟩ := fin (nI (sPlace (stDrop (drw m) m) X.1).1)
      refine ⟨_, r1, f5.tr ((f6 _).wide (by omega) (by omega)), Or.inl ⟨q1, p2.int (f6 _) (by omega), by rw [(f6 _).I (by omega)]; exact u5, q3.eq q1 ((f6 _).I (by omega) _) ((f6 _).eq (by omega)), ?_⟩⟩
      refine GC.app_some (fun i hi => ?_) zI_sI (w5.keep (f6 _) (by omega))
      have := g5 i hi
      split at this
      · exact ⟨by rw [zI_sI_k (by omega)]; exact this.1, this.2.keep (f6 _) (by omega)⟩
      · exact ⟨by rw [zI_sI_k (by omega)]; exact this.1, this.2.keep (f6 _) (by omega)⟩
    · rw [q2, Option.bind_some]
      dsimp only
      obtain ⟨h', r1, rfl⟩ := fin (-1)
      exact ⟨_, r1, f5.tr ((f6 _).wide (by omega) (by omega)), Or.inr ⟨q1, by rw [(f6 _).I (by omega)]; exact q3, p2.int (f6 _) (by omega)⟩⟩
theorem SI.gl {h : zM} {x : Nat} {M : zMa} {X : zSs} (s : SI h x M X) : zgI h x 6 0 = some (nI X.1.length) := (zgI_ok s.1.1.1.1).trans (congrArg some s.2.2.1.1)
/-- what make answers -/
def SQ (M : zMa) (h : zM) (x : Nat) (X : zSs) (y : Option zR) : Prop := ∃ h', zFr x (x + 1818) h h' ∧ ((X.1.length ≤ 100 ∧ y = some (1, 0, h') ∧ SI h' x M X) ∨ (X.1.length = 101 ∧ y = some (0, 0, h') ∧ zI h' x 0 = 101 ∧ SS h' x))
theorem s_Smake_loop {h0 : zM} {x A : Nat} {M : zMa} (mM : MC h0 A M) (kM : MaOk M) (ht : (twJ M).1 = 1) (hA : A + 6 ≤ x ∨ x + 1818 ≤ A) : ∀ (f i : Nat) (X : zSs) (h : zM), 101 ≤ f + i → X.1.length ≤ 100 → i ≤ X.1.length → ssOk M (3 * i) X → SI h x M X → zFr x (x + 1818) h0 h →
    SQ M h0 x (sAll M f i X) (zm_X6_make 65 [some (.inr x), some (.inr A), some (.inl (nI i)), none] [] h)
  | 0, i, X, h, hf, hl, hi, _, _, _ => by omega
  | f + 1, i, X, h, hf, hl, hi, ok, si, fr => by
    rw [e_X6_make_65, si.gl, Option.bind_some]
    unfold sAll
    cases e : X.1[i]? with
    | none =>
      have := List.getElem?_eq_none_iff.mp e
      rw [if_neg (by rw [nI_ltI (by omega) (by omega)]; omega), zb1]
      exact ⟨h, fr, Or.inl ⟨hl, rfl, si⟩⟩
    | some s =>
      have hlt := (List.getElem?_eq_some_iff.mp e).1
      dsimp only
      rw [if_pos ((nI_ltI (by omega) (by omega)).mpr hlt), if_pos (by rw [n100, nI_ltI (by omega) (by omega)]; omega)]
      -- one letter
      have one : ∀ (l : Nat) (Y : zSs) (z : zM), 1 ≤ l → l ≤ 3 → Y.1.length ≤ 100 → Y.1[i]? = some s → ssOk M (3 * i + (l - 1)) Y → SI z x M Y → zFr x (x + 1818) h0 z →
          (∃ z', zm_X6_make 81 [some (.inr x), some (.inr A), some (.inl (nI i)), some (.inl (nI l))] [] z = zm_X6_make 81 [some (.inr x), some (.inr A), some (.inl (nI i)), some (.inl (nI (l + 1)))] [] z' ∧ zFr x (x + 1818) h0 z' ∧ SI z' x M (sLead M l s Y) ∧ (sLead M l s Y).1.length ≤ 100) ∨
          ((sLead M l s Y).1.length = 101 ∧ ∃ z', zm_X6_make 81 [some (.inr x), some (.inr A), some (.inl (nI i)), some (.inl (nI l))] [] z = some (0, 0, z') ∧ zFr x (x + 1818) h0 z' ∧ zI z' x 0 = 101 ∧ SS z' x) := by
        intro l Y z h1 h3 hY hg okY siY frz
        have hiY := (List.getElem?_eq_some_iff.mp hg).1
        have hse : seAt Y i = s := seAt_of hg
        have hway := (okY.2.2 hY).1
        obtain ⟨z', r1, r2, r3⟩ := s_Slead (mM.keep frz hA) kM hA siY hY hiY ⟨h1, h3⟩ (by omega) (fun q r hr => (se_len kM ht (okY.1 s (List.mem_of_getElem? hg)) (by rw [← hse]; exact hr)).1)
        rw [hse] at r3
        rw [e_X6_make_81, if_neg (by rw [n3, nI_ltI (by omega) (by omega)]; omega), zif_ok siY.1.1.1.1, r1, Option.bind_some]
        dsimp only
        rcases r3 with ⟨q1, q2⟩ | ⟨q1, q2, q3⟩
        · left
          rw [q2.gl, Option.bind_some, if_neg (by rw [n100, nI_ltI (by omega) (by omega)]; omega), nI_1]
          exact ⟨z', rfl, frz.tr r2, q2, q1⟩
        · right
          rw [zgI_ok q3.1.1.1, q2, Option.bind_some, if_pos (by decide), zb0]
          exact ⟨q1, z', rfl, frz.tr r2, q2, q3⟩
      have froz : ∀ Z : zSs, Z.1.length = 101 → (∃ z', zm_X6_make 81 [some (.inr x), some (.inr A), some (.inl (nI i)), some (.inl (nI 1))] [] h = some (0, 0, z') ∧ zFr x (x + 1818) h0 z' ∧ zI z' x 0 = 101 ∧ SS z' x) → SQ M h0 x Z (zm_X6_make 81 [some (.inr x), some (.inr A), some (.inl (nI i)), some (.inl (nI 1))] [] h) := fun Z hZ hz => by
        obtain ⟨z', q1, q2, q3, q4⟩ := hz
        exact ⟨z', q2, Or.inr ⟨hZ, q1, q3, q4⟩⟩
      rw [n1]
      rcases one 1 X h (by decide) (by decide) hl e (by simpa using ok) si fr with ⟨z1, a1, a2, a3, a4⟩ | ⟨b1, b2⟩
      · have ok1 := sLead_ok kM (l := 0) (by decide) e ok
        have g1 := sLead_keep (M := M) (l := 1) (s := s) e
        rcases one 2 _ z1 (by decide) (by decide) a4 g1 (by simpa using ok1) a3 a2 with ⟨z2, c1, c2, c3, c4⟩ | ⟨d1, d2⟩
        · have ok2 := sLead_ok kM (l := 1) (by decide) g1 ok1
          have g2 := sLead_keep (M := M) (l := 2) (s := s) g1
          rcases one 3 _ z2 (by decide) (by decide) c4 g2 (by simpa using ok2) c3 c2 with ⟨z3, p1, p2, p3, p4⟩ | ⟨q1, q2⟩
          · have ok3 := sLead3_ok kM e ok
            rw [a1, c1, p1, e_X6_make_81, if_pos (by decide), nI_1]
            obtain ⟨t, et⟩ := sLead3_pre M s X
            exact s_Smake_loop mM kM ht hA f (i + 1) _ z3 (by omega) p4 (by rw [et, List.length_append]; omega) ok3 p3 p2
          · rw [sAll_frozen _ _ _ (by omega)]
            obtain ⟨z', y1, y2⟩ := q2
            exact froz _ q1 ⟨z', by rw [a1, c1, y1], y2⟩
        · have e3 : sLead M 3 s (sLead M 2 s (sLead M 1 s X)) = sLead M 2 s (sLead M 1 s X) := sLead_frozen (by omega)
          rw [e3, sAll_frozen _ _ _ (by omega)]
          obtain ⟨z', y1, y2⟩ := d2
          exact froz _ d1 ⟨z', by rw [a1, y1], y2⟩
      · have e2 : sLead M 2 s (sLead M 1 s X) = sLead M 1 s X := sLead_frozen (by omega)
        have e3 : sLead M 3 s (sLead M 1 s X) = sLead M 1 s X := sLead_frozen (by omega)
        rw [e2, e3, sAll_frozen _ _ _ (by omega)]
        exact froz _ b1 b2
theorem sIni_len (M : zMa) : (sIni M).length = 6 := by unfold sIni; simp
theorem bts_ini {M : zMa} (k : MaOk M) : bts (M.2.1 &&& useB M) (sIni M) := by
  refine ⟨sIni_len M, and_bit64 k.beg64 (useB_lt k), fun q hq => ?_⟩
  rw [Nat.testBit_and]
  show begF M q = _
  cases e : stAt (sIni M) q with
  | none =>
    cases b : begF M q with
    | false => rfl
    | true =>
      exfalso
      unfold begF at b
      rw [Bool.and_eq_true] at b
      have := (sIni_at k (q := q) (r := [])).mpr ⟨mem_begU.mpr ⟨isU_lt k b.2, b.1, b.2⟩, rfl⟩
      rw [e] at this
      cases this
  | some r =>
    have := (mem_begU.mp ((sIni_at k).mp e).1)
    unfold begF
    rw [this.2.1, this.2.2]
    rfl
theorem s_Smake {h : zM} {x A : Nat} {M : zMa} (mM : MC h A M) (kM : MaOk M) (ht : (twJ M).1 = 1) (hA : A + 6 ≤ x ∨ x + 1818 ≤ A) (d : SS h x) : SQ M h x (sMake M) (zf nX6_make [.inr x, .inr A] h) := by
  have hU := useB_lt kM
  have X := d.1
  have bt := bts_ini kM
  rw [e_X6_make, zpI_ok X.1.1, Option.bind_some]
  have f1 : zFr x (x + 1) h (zsI h x 0 0) := zFr_sI (by omega) (by omega)
  have m1 := mM.keep f1 (by omega)
  rw [zif_ok m1.1.1, s_useful m1 kM, Option.bind_some]
  dsimp only
  have k1 : zK (zsI h x 0 0) x = 6 + 1 := X.1.1
  rw [zpI_ok k1, Option.bind_some]
  have f2 : zFr x (x + 1) h (zsI (zsI h x 0 0) x 7 (nI (useB M))) := f1.tr (zFr_sI (by omega) (by omega))
  have m2 := mM.keep f2 (by omega)
  have k2 : zK (zsI (zsI h x 0 0) x 7 (nI (useB M))) x = 6 + 1 := X.1.1
  rw [m2.beg, Option.bind_some, zgI_ok k2, zI_sI, Option.bind_some, bit_and _ kM.beg64 _ hU, zpI_ok k2, Option.bind_some]
  have f3 : zFr x (x + 1) h (zsI (zsI (zsI h x 0 0) x 7 (nI (useB M))) x 6 (nI (M.2.1 &&& useB M))) := f2.tr (zFr_sI (by omega) (by omega))
  have v0 : zI (zsI (zsI (zsI h x 0 0) x 7 (nI (useB M))) x 6 (nI (M.2.1 &&& useB M))) x 0 = 0 := by rw [zI_sI_k (by decide), zI_sI_k (by decide), zI_sI]
  have v7 : zI (zsI (zsI (zsI h x 0 0) x 7 (nI (useB M))) x 6 (nI (M.2.1 &&& useB M))) x 7 = nI (useB M) := by rw [zI_sI_k (by decide), zI_sI]
  have v6 : zI (zsI (zsI (zsI h x 0 0) x 7 (nI (useB M))) x 6 (nI (M.2.1 &&& useB M))) x 6 = nI (M.2.1 &&& useB M) := zI_sI
  generalize hh3 : zsI (zsI (zsI h x 0 0) x 7 (nI (useB M))) x 6 (nI (M.2.1 &&& useB M)) = h3 at *
  have d3 := d.int f3 (Or.inl rfl)
  rw [zgI_ok d3.1.1.1, v6, Option.bind_some]
  have hb64 := bt.2.1
  have sc3 : SC h3 x [] := ⟨v0, fun s hs => absurd hs (Nat.not_lt_zero _)⟩
  have gc3 : GC h3 x [] := fun i hi => absurd hi (Nat.not_lt_zero _)
  unfold sMake
  by_cases c : stNo (sIni M) = true
  · rw [if_pos c, if_pos (by rw [(bts_0 bt).mpr c]; rfl), zb1]
    exact ⟨h3, f3.wide (by omega) (by omega), Or.inl ⟨Nat.zero_le _, rfl, d3, v7, sc3, gc3⟩⟩
  · rw [if_neg c, if_neg (by rw [n0, nI_eq (by omega) (by decide)]; exact fun z => c ((bts_0 bt).mp z))]
    have main := zlp (P := fun q y => zFr (x + 1806) (x + 1818) h3 y ∧ SS y x ∧ ∀ j, j < q → Wd y (x + 1806 + 2 * j) 111 []) (g := fun q y => zm_X6_make 37 [some (.inr x), some (.inr A), some (.inl (nI q)), none] [] y) (n := 6) ?_ 0 h3 (Nat.zero_le _) ⟨zFr.rf, d3, fun j hj => absurd hj (Nat.not_lt_zero _)⟩
    · obtain ⟨y, e1, e2, e3, e4⟩ := main
      rw [n0, e1, e_X6_make_37, if_neg (by decide), zif_ok e3.1.1.1]
      have mdy : MD y x (sIni M) := ⟨⟨_, bt, by rw [e2.I (by omega)]; exact v6⟩, fun q v hv => by
        obtain ⟨h1, h2⟩ := (sIni_at kM).mp hv
        rw [h2]
        have := (mem_begU.mp h1).1
        have := kM.1
        exact e4 q (by omega)⟩
      have scy := sc3.eq (Nat.zero_le _) (e2.I (by omega) _) (e2.eq (by omega))
      obtain ⟨z, p1, p2, p3, p4⟩ := s_place e3 mdy scy (Nat.zero_le _)
      have ep : sPlace (sIni M) [] = (0, [sIni M]) := rfl
      rw [ep] at p4
      rcases p4 with ⟨q1, q2, q3⟩ | ⟨q1, _⟩
      · rw [q2, Option.bind_some]
        have fz : zFr x (x + 1818) h z := (f3.wide (by omega) (by omega)).tr ((e2.wide (by omega) (by omega)).tr (p1.wide (by omega) (by omega)))
        have si : SI z x M ([sIni M], []) := ⟨p2, by rw [p3 7 (by decide), e2.I (by omega)]; exact v7, q3, fun i hi => absurd hi (Nat.not_lt_zero _)⟩
        exact s_Smake_loop mM kM ht hA 101 0 _ z (by decide) (by simp) (Nat.zero_le _) ⟨fun s hs => by
          rw [List.mem_singleton.mp hs]
          exact (sIni_ok kM (by simpa using c)).1, by simp, fun _ => ⟨rfl, fun i g h => by simp at h⟩⟩ si fz
      · exact absurd q1 (by simp)
    · rintro q y hq ⟨f, dy, hw⟩
      obtain ⟨w0, hw0⟩ := dy.2.2.2 q hq
      have eb : x + 1805 + 1 + 2 * q = x + 1806 + 2 * q := by omega
      rw [eb] at hw0
      obtain ⟨y1, o1, o2, o3⟩ := s_clear hw0
      rw [e_X6_make_37, if_pos (by rw [n6, nI_ltI (by omega) (by omega)]; exact hq), dy.1.g5, Option.bind_some, dy.1.2.2.2.2.el hq, Option.bind_some, eb, zif_ok hw0.1, o1, Option.bind_some, nI_1]
      refine ⟨y1, rfl, f.tr (o2.wide (by omega) (by omega)), dy.made hq o2 o3, fun j hj => ?_⟩
      by_cases z : j = q
      · subst z; exact o3
      · exact (hw j (by omega)).keep o2 (by omega)
