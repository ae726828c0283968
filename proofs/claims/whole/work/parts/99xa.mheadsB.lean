/-! The reference: heads. -/
theorem getD_some_at {g : Option (zWo × Nat)} {X : zSs} {k : Nat} (h : goAt X k = g) : X.2.getD k none = g := h
section HDB
variable {h h0 : zM} {m t s : Nat} {M : zMa} {H : Nat → Option zWo} {T : Option zWo}
/-- a way as it stands -/
theorem SZm.go (sg : sGood M) (sz : SZm h m (sMake M)) {s j : Nat} (hs : s < (sMake M).1.length) (hj : j < 3) : GWy h m (4 * s + (j + 1)) (goAt (sMake M) (3 * s + j)) := by
  have := sz.2 (3 * s + j) (by rw [sg.gos]; omega)
  rw [show 4 * ((3 * s + j) / 3) + ((3 * s + j) % 3 + 1) = 4 * s + (j + 1) by omega] at this
  exact this
theorem s_head77 {a1 : Int32} {j : Nat} (sg : sGood M) (lay : MLay h m) (sz : SZm h m (sMake M)) (hH : rhOk M H) (hd : HDs h m (sMake M).1.length H) (hs : s < (sMake M).1.length) (hj : j < 3) (tr : TRl h m T) :
    ∃ h', zm_X12_heads 77 [some (.inr m), some (.inl a1), some (.inl (nI s)), some (.inl (nI (j + 1))), none] [] h = zm_X12_heads 77 [some (.inr m), some (.inl a1), some (.inl (nI s)), some (.inl (nI (j + 1 + 1))), none] [] h' ∧ zOf m [62] [74] h h' ∧ TRl h' m (hdJ (sMake M) H s T j) := by
  have hN := sg.2.2.2
  have gw := sz.go sg hs hj
  rw [e_X12_heads_77, if_pos (by rw [n4, nI_ltI (by omega) (by omega)]; omega), mF67 lay, Option.bind_some, n4, pk_mul, nI_add, mr67 lay (by omega), Option.bind_some, nI_1]
  unfold hdJ
  cases eg : goAt (sMake M) (3 * s + j) with
  | none =>
    rw [eg] at gw
    rw [show zI h (m + 53) (4 * s + (j + 1)) = -1 from gw, if_pos (by decide)]
    exact ⟨h, rfl, zOf.rf, tr⟩
  | some p =>
    obtain ⟨o, g⟩ := p
    rw [eg] at gw
    obtain ⟨w1, w2, w3, w4, w5, w6⟩ := (show zI h (m + 53) (4 * s + (j + 1)) = nI g ∧ zI h (m + 54) (4 * s + (j + 1)) = nI o.length ∧ Rw h (m + 55) (260 * (4 * s + (j + 1))) o ∧ o.length ≤ 111 ∧ LOk o ∧ g < 102 from gw)
    have glt := (sg.go_lt eg hj).2
    have hg := hd g glt
    rw [w1, if_neg (nI_nn (by omega)), mF75 lay, Option.bind_some, mr75 lay (by omega), Option.bind_some]
    dsimp only
    cases eh : H g with
    | none =>
      rw [eh] at hg
      rw [show zI h (m + 60) g = -1 from hg, if_pos (by decide)]
      exact ⟨h, rfl, zOf.rf, tr⟩
    | some w =>
      rw [eh] at hg
      have hg' : OWB h m 60 61 520 g (some w) := hg
      have wl := (rh_len sg hH glt eh).1
      obtain ⟨h', r1, r2, r3⟩ := s_mtriesG (e := 4 * s + (j + 1)) lay (by omega) (by omega) w3 w4 w5 hg' wl tr
      rw [hg'.1, if_neg (nI_nn (by omega)), mF69 lay, Option.bind_some, mF68 lay, Option.bind_some, mr68 lay (by omega), Option.bind_some, w2, zif_ok lay.1, n260, pk_mul, r1, Option.bind_some]
      exact ⟨h', rfl, r2, r3⟩
/-- nothing changes -/
theorem s_head166e {a1 : Int32} (lay : MLay h m) (hs : s < 101) (tr : TRl h m T) (hh : OWB h m 60 61 520 s T) :
    zm_X12_heads 166 [some (.inr m), some (.inl a1), some (.inl (nI s)), some (.inl (1 : Int32)), some (.inl (nI 0))] [] h = zm_X12_heads 33 [some (.inr m), some (.inl a1), some (.inl (nI (s + 1))), none, none] [] h := by
  cases T with
  | none =>
    rw [e_X12_heads_166, if_neg (by decide), mi74 lay, Option.bind_some, show zI h m 74 = -1 from tr, if_neg (by decide), if_neg (by decide), nI_1]
  | some w =>
    obtain ⟨t1, t2, t3, t4⟩ := (show zI h m 74 = nI w.length ∧ Rw h (m + 62) 0 w ∧ w.length ≤ 520 ∧ LOk w from tr)
    obtain ⟨v1, v2, v3, v4⟩ := (show zI h (m + 60) s = nI w.length ∧ Rw h (m + 61) (520 * s) w ∧ w.length ≤ 520 ∧ LOk w from hh)
    have loop := zlp (P := fun _ z => z = h) (g := fun j z => zm_X12_heads 166 [some (.inr m), some (.inl a1), some (.inl (nI s)), some (.inl (1 : Int32)), some (.inl (nI j))] [] z) (n := w.length) (fun j z hj hz => ⟨z, by
      subst hz
      have x1 : zba z (m + 62) (nI j) = some (w.getD j 0) := by rw [mr77 lay (by omega), ← t2 j hj, Nat.zero_add]
      have x2 : zba z (m + 61) (nI (520 * s + j)) = some (w.getD j 0) := by rw [mr76 lay (by omega), v2 j hj]
      rw [e_X12_heads_166, if_neg (by decide), mi74 lay, Option.bind_some, t1, if_pos ((nI_ltI (by omega) (by omega)).mpr hj), mF77 lay, Option.bind_some, x1, Option.bind_some, mF76 lay, Option.bind_some, n520, pk_mul, nI_add, x2, Option.bind_some, if_pos rfl, nI_1], hz⟩) 0 h (Nat.zero_le _) rfl
    obtain ⟨z, e, rfl⟩ := loop
    rw [e, e_X12_heads_166, if_neg (by decide), mi74 lay, Option.bind_some, t1, if_neg (by rw [nI_ltI (by omega) (by omega)]; omega), if_neg (by decide), nI_1]
/-- the new head is written -/
theorem s_head234 {a1 a3 : Int32} {w : zWo} (lay : MLay h m) (hs : s < 101) (tr : TRl h m (some w)) :
    ∃ h', ((zgF h m 12 75).bind fun r1 => (zgI h m 12 74).bind fun v1 => (zis h r1 (nI s) v1).bind fun h1 => zm_X12_heads 234 [some (.inr m), some (.inl a1), some (.inl (nI s)), some (.inl a3), some (.inl (0 : Int32))] [] h1) = zm_X12_heads 33 [some (.inr m), some (.inl (1 : Int32)), some (.inl (nI (s + 1))), none, none] [] h' ∧ zOf m [60, 61] [] h h' ∧ OWB h' m 60 61 520 s (some w) ∧ (∀ j, j ≠ s → zI h' (m + 60) j = zI h (m + 60) j) ∧ ∀ j, ¬ (520 * s ≤ j ∧ j < 520 * s + 520) → zI h' (m + 61) j = zI h (m + 61) j := by
  obtain ⟨t1, t2, t3, t4⟩ := (show zI h m 74 = nI w.length ∧ Rw h (m + 62) 0 w ∧ w.length ≤ 520 ∧ LOk w from tr)
  rw [mF75 lay, Option.bind_some, mi74 lay, Option.bind_some, t1, mw75 lay hs, Option.bind_some]
  have o1 : zOf m [60, 61] [] h (zsI h (m + 60) s (nI w.length)) := zOf_sI (by decide) (by decide)
  have v60 : ∀ j, zI (zsI h (m + 60) s (nI w.length)) (m + 60) j = if j = s then nI w.length else zI h (m + 60) j := fun j => by
    by_cases e : j = s
    · rw [if_pos e, e, zI_sI]
    · rw [if_neg e, zI_sI_k e]
  have v61 : ∀ j, zI (zsI h (m + 60) s (nI w.length)) (m + 61) j = zI h (m + 61) j := fun j => zI_sI_a (by omega)
  generalize zsI h (m + 60) s (nI w.length) = z1 at *
  have l1 := o1.lay lay
  have cp := zwr (g := fun j z => zm_X12_heads 234 [some (.inr m), some (.inl a1), some (.inl (nI s)), some (.inl a3), some (.inl (nI j))] [] z) (h := z1) (a := m + 61) (p := 520 * s) (n := w.length) (f := fun j => w.getD j 0) (fun j hj => by
    have oz : zOf m [61] [] z1 (zWr z1 (m + 61) (520 * s) j fun j => w.getD j 0) := zOf_Wr (by decide) (by decide)
    have lz := oz.lay l1
    have f74 : zI (zWr z1 (m + 61) (520 * s) j fun j => w.getD j 0) m 74 = nI w.length := (oz.J (by decide)).trans ((o1.J (by decide)).trans t1)
    have x1 : zba (zWr z1 (m + 61) (520 * s) j fun j => w.getD j 0) (m + 62) (nI j) = some (w.getD j 0) := by rw [mr77 lz (by omega), oz.C (by decide) (by decide), o1.C (by decide) (by decide), ← t2 j hj, Nat.zero_add]
    rw [e_X12_heads_234, mi74 lz, Option.bind_some, f74, if_pos ((nI_ltI (by omega) (by omega)).mpr hj), mF76 lz, Option.bind_some, mF77 lz, Option.bind_some, x1, Option.bind_some, n520, pk_mul, nI_add, mw76 lz (by omega), Option.bind_some, nI_1, t4.byte hj])
  have o2 : zOf m [60, 61] [] z1 (zWr z1 (m + 61) (520 * s) w.length fun j => w.getD j 0) := zOf_Wr (by decide) (by decide)
  refine Exists.elim (show ∃ z, z = zWr z1 (m + 61) (520 * s) w.length fun j => w.getD j 0 from ⟨_, rfl⟩) fun z2 hz2 => ?_
  rw [← hz2] at cp o2
  refine ⟨z2, ?_, o1.tr o2, ⟨by rw [hz2, zI_Wr_a (by omega), v60, if_pos rfl], fun j hj => by rw [hz2, zI_Wr_at hj], t3, t4⟩, fun j hj => by rw [hz2, zI_Wr_a (by omega), v60, if_neg hj], fun j hj => by rw [hz2, zI_Wr_out (by omega), v61]⟩
  refine (show _ = _ from cp).trans ?_
  rw [e_X12_heads_234, mi74 (o2.lay l1), Option.bind_some, o2.J (by decide), o1.J (by decide), t1, if_neg (by rw [nI_ltI (by omega) (by omega)]; omega), nI_1]
/-- it has changed -/
theorem s_head166n {a1 : Int32} {w : zWo} {H1 : Option zWo} (lay : MLay h m) (hs : s < 101) (tr : TRl h m (some w)) (hh : OWB h m 60 61 520 s H1) (hne : some w ≠ H1) :
    ∃ h', (if zI h m 74 = zI h (m + 60) s then zm_X12_heads 166 [some (.inr m), some (.inl a1), some (.inl (nI s)), some (.inl (1 : Int32)), some (.inl (0 : Int32))] [] h else zm_X12_heads 166 [some (.inr m), some (.inl a1), some (.inl (nI s)), some (.inl (0 : Int32)), some (.inl (0 : Int32))] [] h) = zm_X12_heads 33 [some (.inr m), some (.inl (1 : Int32)), some (.inl (nI (s + 1))), none, none] [] h' ∧ zOf m [60, 61] [] h h' ∧ OWB h' m 60 61 520 s (some w) ∧ (∀ j, j ≠ s → zI h' (m + 60) j = zI h (m + 60) j) ∧ ∀ j, ¬ (520 * s ≤ j ∧ j < 520 * s + 520) → zI h' (m + 61) j = zI h (m + 61) j := by
  obtain ⟨t1, t2, t3, t4⟩ := id (show zI h m 74 = nI w.length ∧ Rw h (m + 62) 0 w ∧ w.length ≤ 520 ∧ LOk w from tr)
  have flag0 : ∀ j : Int32, ∃ h', zm_X12_heads 166 [some (.inr m), some (.inl a1), some (.inl (nI s)), some (.inl (0 : Int32)), some (.inl j)] [] h = zm_X12_heads 33 [some (.inr m), some (.inl (1 : Int32)), some (.inl (nI (s + 1))), none, none] [] h' ∧ zOf m [60, 61] [] h h' ∧ OWB h' m 60 61 520 s (some w) ∧ (∀ j, j ≠ s → zI h' (m + 60) j = zI h (m + 60) j) ∧ ∀ j, ¬ (520 * s ≤ j ∧ j < 520 * s + 520) → zI h' (m + 61) j = zI h (m + 61) j := fun j => by
    rw [e_X12_heads_166, if_pos rfl, if_pos rfl]
    exact s_head234 lay hs tr
  cases H1 with
  | none =>
    rw [t1, show zI h (m + 60) s = -1 from hh, if_neg (nneg (by omega))]
    exact flag0 0
  | some v =>
    obtain ⟨v1, v2, v3, v4⟩ := (show zI h (m + 60) s = nI v.length ∧ Rw h (m + 61) (520 * s) v ∧ v.length ≤ 520 ∧ LOk v from hh)
    rw [t1, v1]
    by_cases c : w.length = v.length
    · rw [if_pos (by rw [c])]
      refine zlq (P := fun j z => z = h ∧ ∀ j', j' < j → w.getD j' 0 = v.getD j' 0) (g := fun j z => zm_X12_heads 166 [some (.inr m), some (.inl a1), some (.inl (nI s)), some (.inl (1 : Int32)), some (.inl (nI j))] [] z) (n := w.length)
        (Q := fun y => ∃ h', y = zm_X12_heads 33 [some (.inr m), some (.inl (1 : Int32)), some (.inl (nI (s + 1))), none, none] [] h' ∧ zOf m [60, 61] [] h h' ∧ OWB h' m 60 61 520 s (some w) ∧ (∀ j, j ≠ s → zI h' (m + 60) j = zI h (m + 60) j) ∧ ∀ j, ¬ (520 * s ≤ j ∧ j < 520 * s + 520) → zI h' (m + 61) j = zI h (m + 61) j) ?_ ?_ 0 h (Nat.zero_le _) ⟨rfl, fun j hj => absurd hj (Nat.not_lt_zero _)⟩
      · rintro j z hj ⟨rfl, he⟩
        have x1 : zba z (m + 62) (nI j) = some (w.getD j 0) := by rw [mr77 lay (by omega), ← t2 j hj, Nat.zero_add]
        have x2 : zba z (m + 61) (nI (520 * s + j)) = some (v.getD j 0) := by rw [mr76 lay (by omega), v2 j (by omega)]
        rw [e_X12_heads_166, if_neg (by decide), mi74 lay, Option.bind_some, t1, if_pos ((nI_ltI (by omega) (by omega)).mpr hj), mF77 lay, Option.bind_some, x1, Option.bind_some, mF76 lay, Option.bind_some, n520, pk_mul, nI_add, x2, Option.bind_some, nI_1]
        by_cases q : w.getD j 0 = v.getD j 0
        · right
          rw [if_pos q]
          refine ⟨z, rfl, rfl, fun j' h2 => ?_⟩
          by_cases e : j' = j
          · rw [e]; exact q
          · exact he j' (by omega)
        · left
          rw [if_neg q]
          exact flag0 _
      · rintro z ⟨rfl, he⟩
        exact absurd (congrArg some (ext_getD c (fun j hj => he j (by omega)))) hne
    · rw [if_neg (by rw [nI_eq (by omega) (by omega)]; exact c)]
      exact flag0 0
/-- one set -/
theorem s_head33 {b : Bool} (sg : sGood M) (lay : MLay h m) (sz : SZm h m (sMake M)) (en : ∀ s, s < (sMake M).1.length → OWB h m 58 59 260 s (stEnd M (seAt (sMake M) s))) (hH : rhOk M H) (hd : HDs h m (sMake M).1.length H) (hs : s < (sMake M).1.length) :
    ∃ h', zm_X12_heads 33 [some (.inr m), some (.inl (bI b)), some (.inl (nI s)), none, none] [] h = zm_X12_heads 33 [some (.inr m), some (.inl (bI (hdS M (sMake M) (H, b) s).2)), some (.inl (nI (s + 1))), none, none] [] h' ∧ zOf m [60, 61, 62] [74] h h' ∧ HDs h' m (sMake M).1.length (hdS M (sMake M) (H, b) s).1 ∧ rhOk M (hdS M (sMake M) (H, b) s).1 := by
  have hN := sg.2.2.2
  have es := en s hs
  rw [e_X12_heads_33, mi64 lay, Option.bind_some, sz.1.1, if_pos ((nI_ltI (by omega) (by omega)).mpr hs), mp74 lay, Option.bind_some]
  have o1 : zOf m [62] [74] h (zsI h m 74 (-1)) := zOf_pI (by decide)
  have t1 : TRl (zsI h m 74 (-1)) m none := zI_sI
  generalize zsI h m 74 (-1) = z1 at *
  have l1 := o1.lay lay
  have es1 := es.o o1 (by decide) (by decide) (by decide)
  -- the end
  have main : ∀ z2, zOf m [62] [74] h z2 → TRl z2 m (stEnd M (seAt (sMake M) s)) → ∃ h', zm_X12_heads 77 [some (.inr m), some (.inl (bI b)), some (.inl (nI s)), some (.inl (1 : Int32)), none] [] z2 = zm_X12_heads 33 [some (.inr m), some (.inl (bI (hdS M (sMake M) (H, b) s).2)), some (.inl (nI (s + 1))), none, none] [] h' ∧ zOf m [60, 61, 62] [74] h h' ∧ HDs h' m (sMake M).1.length (hdS M (sMake M) (H, b) s).1 ∧ rhOk M (hdS M (sMake M) (H, b) s).1 := by
    intro z2 o2 t2
    have l2 := o2.lay lay
    obtain ⟨z3, a1, a2, a3⟩ := s_head77 (a1 := bI b) (j := 0) sg l2 (sz.o o2 (by decide) (by decide)) hH (hd.o o2 (by decide) (by decide)) hs (by omega) t2
    have o3 := o2.tr a2
    obtain ⟨z4, b1, b2, b3⟩ := s_head77 (a1 := bI b) (j := 1) sg (o3.lay lay) (sz.o o3 (by decide) (by decide)) hH (hd.o o3 (by decide) (by decide)) hs (by omega) a3
    have o4 := o3.tr b2
    obtain ⟨z5, c1, c2, c3⟩ := s_head77 (a1 := bI b) (j := 2) sg (o4.lay lay) (sz.o o4 (by decide) (by decide)) hH (hd.o o4 (by decide) (by decide)) hs (by omega) b3
    have o5 := o4.tr c2
    have l5 := o5.lay lay
    have ef : hdJ (sMake M) H s (hdJ (sMake M) H s (hdJ (sMake M) H s (stEnd M (seAt (sMake M) s)) 0) 1) 2 = hdF M (sMake M) H s := rfl
    rw [ef] at c3
    have hd5 := hd.o o5 (by decide) (by decide)
    have hs5 := hd5 s hs
    rw [show zm_X12_heads 77 [some (.inr m), some (.inl (bI b)), some (.inl (nI s)), some (.inl (1 : Int32)), none] [] z2 = _ from a1, b1, c1, e_X12_heads_77, if_neg (by decide), mi74 l5, Option.bind_some, mF75 l5, Option.bind_some, mr75 l5 (by omega), Option.bind_some]
    have hfix : hdS M (sMake M) (H, b) s = if hdF M (sMake M) H s = H s then (H, b) else (va_up H s (hdF M (sMake M) H s), true) := rfl
    have hok := hdS_ok sg hs hH
    rw [hfix]
    by_cases c : hdF M (sMake M) H s = H s
    · rw [if_pos c]
      rw [c] at c3
      have eq : zI z5 m 74 = zI z5 (m + 60) s := by
        cases e : H s with
        | none =>
          rw [e] at c3 hs5
          rw [show zI z5 m 74 = -1 from c3, show zI z5 (m + 60) s = -1 from hs5]
        | some w =>
          rw [e] at c3 hs5
          rw [(show zI z5 m 74 = nI w.length ∧ _ from c3).1, (show zI z5 (m + 60) s = nI w.length ∧ _ from hs5).1]
      rw [if_pos eq]
      exact ⟨z5, s_head166e l5 (by omega) c3 hs5, o5.wide (by decide) (by decide), hd5, hH⟩
    · rw [if_neg c]
      cases eT : hdF M (sMake M) H s with
      | none =>
        have : H s = none := by
          cases e : H s with
          | none => rfl
          | some w =>
            obtain ⟨w', e', -⟩ := hH.2 s w hs e
            rw [eT] at e'
            cases e'
        exact absurd (eT.trans this.symm) c
      | some w =>
        rw [eT] at c3 c hok
        obtain ⟨z6, f1, f2, f3, f4, f5⟩ := s_head166n (a1 := bI b) l5 (by omega) c3 hs5 c
        refine ⟨z6, f1, (o5.wide (by decide) (by decide)).tr (f2.wide (by decide) (by decide)), fun s' hs' => ?_, hok⟩
        by_cases e : s' = s
        · rw [e]
          show OWB z6 m 60 61 520 s (va_up H s (some w) s)
          rw [up_at]
          exact f3
        · show OWB z6 m 60 61 520 s' (va_up H s (some w) s')
          rw [va_up_ne _ _ e]
          exact (hd5 s' hs').of (f4 s' e) (fun j hj => f5 _ (by omega))
  rw [mF72 l1, Option.bind_some, mr72 l1 (by omega), Option.bind_some]
  cases ee : stEnd M (seAt (sMake M) s) with
  | none =>
    rw [ee] at es1 main
    rw [show zI z1 (m + 58) s = -1 from es1, if_pos (by decide)]
    exact main z1 o1 t1
  | some v =>
    rw [ee] at es1 main
    have es1' : OWB z1 m 58 59 260 s (some v) := es1
    have vl := (end_len sg hs ee).1
    obtain ⟨z2, r1, r2, r3⟩ := s_mtriesE l1 (show s < 101 by omega) es1' vl t1
    rw [es1'.1, if_neg (nI_nn (by omega)), mF73 l1, Option.bind_some, Option.bind_some, mr72 l1 (by omega), Option.bind_some, es1'.1, zif_ok l1.1, n260, pk_mul, r1, Option.bind_some]
    exact main z2 (o1.tr r2) r3
end HDB
