/-! The reference: what may end a set; one try of a head. -/
/-- one word, or none, in rows of W places -/
def OWB (h : zM) (m A B W i : Nat) (o : Option zWo) : Prop := match o with
  | none => zI h (m + A) i = -1
  | some r => zI h (m + A) i = nI r.length ∧ Rw h (m + B) (W * i) r ∧ r.length ≤ W ∧ LOk r
theorem OWB.of {h h' : zM} {m A B W i : Nat} {o : Option zWo} (d : OWB h m A B W i o) (e1 : zI h' (m + A) i = zI h (m + A) i) (e2 : ∀ j, j < W → zI h' (m + B) (W * i + j) = zI h (m + B) (W * i + j)) : OWB h' m A B W i o := by
  cases o with
  | none => exact e1.trans d
  | some r => exact ⟨e1.trans d.1, d.2.1.of (fun j hj => e2 j (by have := d.2.2.1; omega)), d.2.2⟩
theorem OWB.o {h h' : zM} {m A B W i : Nat} {o : Option zWo} {L J : List Nat} (d : OWB h m A B W i o) (f : zOf m L J h h') (h0 : 0 < A ∧ 0 < B) (hA : A ∉ L) (hB : B ∉ L) : OWB h' m A B W i o := d.of (f.C h0.1 hA _) (fun _ _ => f.C h0.2 hB _)
section HDA
variable {h h0 : zM} {m i t : Nat} {Ms : Nat → zMa}
/-- one state that may end -/
theorem s_end77 {q e : Nat} {r : zWo} {s : zSe} (d : MMs h m Ms) (kM : MaOk (Ms t)) (ht : t < 2) (hi : i < 101) (hq : q < 6) (sc : SeC h m i s) (er : stAt s q = some r) (hr : r.length ≤ 108) (ee : (Ms t).2.2.1 q = some e) :
    ∃ h', zm_X12_endsOf 77 [some (.inr m), some (.inl (nI t)), some (.inl (nI i)), some (.inl (nI q)), some (.inl (nI r.length)), some (.inl (nI 0)), none] [] h = zm_X12_endsOf 19 [some (.inr m), some (.inl (nI t)), some (.inl (nI i)), some (.inl (nI (q + 1))), none, none, none] [] h' ∧ zOf m [58, 59] [] h h' ∧ OWB h' m 58 59 260 i (some (r ++ dgs e)) ∧ (∀ j, j ≠ i → zI h' (m + 58) j = zI h (m + 58) j) ∧ ∀ j, ¬ (260 * i ≤ j ∧ j < 260 * i + 260) → zI h' (m + 59) j = zI h (m + 59) j := by
  have lay := d.1
  have we := (kM.2.2.1 q e ee).2
  have wl := we.len
  have wlt := we.lt
  have rd : ∀ {z : zM}, MMs z m Ms → zia z (m + 3) (nI (6 * t + q)) = some (nI e) := fun dz => by rw [dz.ende ht hq (kM.2.2.1 q e ee).1, ee]; rfl
  have sq := sc.2 q hq
  rw [er] at sq
  obtain ⟨s1, s2, s3, s4⟩ := (show OWR h m 51 52 120 (6 * i + q) (some r) from sq)
  have cp := zwr (g := fun j z => zm_X12_endsOf 77 [some (.inr m), some (.inl (nI t)), some (.inl (nI i)), some (.inl (nI q)), some (.inl (nI r.length)), some (.inl (nI j)), none] [] z) (h := h) (a := m + 59) (p := 260 * i) (n := r.length) (f := fun j => r.getD j 0) (fun j hj => by
    have lz : MLay (zWr h (m + 59) (260 * i) j fun j => r.getD j 0) m := (zOf_Wr (L := [59]) (J := []) (by decide) (by decide)).lay lay
    have r1 : zba (zWr h (m + 59) (260 * i) j fun j => r.getD j 0) (m + 52) (nI (120 * (6 * i + q) + j)) = some (r.getD j 0) := by rw [mr66 lz (by omega), zI_Wr_a (by omega), s2 j hj]
    rw [e_X12_endsOf_77, if_pos ((nI_ltI (by omega) (by omega)).mpr hj), mF73 lz, Option.bind_some, mF66 lz, Option.bind_some, n120, n6, pk_mul, nI_add, pk_mul, nI_add, r1, Option.bind_some, n260, pk_mul, nI_add, mw73 lz (by omega), Option.bind_some, nI_1, s4.byte hj])
  have o1 : zOf m [58, 59] [] h (zWr h (m + 59) (260 * i) r.length fun j => r.getD j 0) := zOf_Wr (by decide) (by decide)
  refine Exists.elim (show ∃ z, z = zWr h (m + 59) (260 * i) r.length fun j => r.getD j 0 from ⟨_, rfl⟩) fun z1 hz1 => ?_
  rw [← hz1] at cp o1
  have d1 := d.o2 o1 (by decide)
  have l1 := o1.lay lay
  have elw : dl (dgs e).length e = dgs e := by unfold dgs; rw [dl_len]
  have step : zm_X12_endsOf 77 [some (.inr m), some (.inl (nI t)), some (.inl (nI i)), some (.inl (nI q)), some (.inl (nI r.length)), some (.inl (nI r.length)), none] [] z1 = zm_X12_endsOf 141 [some (.inr m), some (.inl (nI t)), some (.inl (nI i)), some (.inl (nI q)), some (.inl (nI r.length)), some (.inl (nI (dgs e).length)), some (.inl (nI 0))] [] z1 := by
    rw [e_X12_endsOf_77, if_neg (by rw [nI_ltI (by omega) (by omega)]; omega), mF2 l1, Option.bind_some, n6, pk_mul, nI_add, rd d1, Option.bind_some, n9, s_letters 9 (by decide), Option.bind_some, we.ltr]
    rfl
  have cp2 := zwr (g := fun j z => zm_X12_endsOf 141 [some (.inr m), some (.inl (nI t)), some (.inl (nI i)), some (.inl (nI q)), some (.inl (nI r.length)), some (.inl (nI (dgs e).length)), some (.inl (nI j))] [] z) (h := z1) (a := m + 59) (p := 260 * i + r.length) (n := (dgs e).length) (f := fun j => (dgs e).getD j 0) (fun j hj => by
    have oz : zOf m [59] [] z1 (zWr z1 (m + 59) (260 * i + r.length) j fun j => (dgs e).getD j 0) := zOf_Wr (by decide) (by decide)
    have lz := oz.lay l1
    rw [e_X12_endsOf_141, if_pos ((nI_ltI (by omega) (by omega)).mpr hj), mF73 lz, Option.bind_some, mF2 lz, Option.bind_some, n6, pk_mul, nI_add, rd (d1.o2 oz (by decide)), Option.bind_some, s_mletter (by omega) hj (by omega), Option.bind_some, elw]
    dsimp only
    rw [n260, pk_mul, nI_add, nI_add, mw73 lz (by omega), Option.bind_some, nI_1, we.dig.byte hj, we.dig.byte hj])
  have o2 : zOf m [58, 59] [] z1 (zWr z1 (m + 59) (260 * i + r.length) (dgs e).length fun j => (dgs e).getD j 0) := zOf_Wr (by decide) (by decide)
  refine Exists.elim (show ∃ z, z = zWr z1 (m + 59) (260 * i + r.length) (dgs e).length fun j => (dgs e).getD j 0 from ⟨_, rfl⟩) fun z2 hz2 => ?_
  rw [← hz2] at cp2 o2
  have l2 := o2.lay l1
  have ul : (r ++ dgs e).length = r.length + (dgs e).length := List.length_append
  have b59 : ∀ j, zI (zsI z2 (m + 58) i (nI (r.length + (dgs e).length))) (m + 59) j = zI z2 (m + 59) j := fun j => zI_sI_a (by omega)
  refine ⟨zsI z2 (m + 58) i (nI (r.length + (dgs e).length)), ?_, (o1.tr o2).tr (zOf_sI (by decide) (by decide)), ⟨by rw [ul]; exact zI_sI, Rw.app (fun j hj => ?_) (fun j hj => ?_), by rw [ul]; omega, s4.app we.dig⟩, fun j hj => ?_, fun j hj => ?_⟩
  · refine (show _ = _ from cp).trans (step.trans (cp2.trans ?_))
    rw [e_X12_endsOf_141, if_neg (by rw [nI_ltI (by omega) (by omega)]; omega), mF72 l2, Option.bind_some, nI_add, mw72 l2 hi, Option.bind_some, nI_1]
  · rw [b59, hz2, zI_Wr_out (by omega), hz1, zI_Wr_at hj]
  · rw [b59, hz2, zI_Wr_at hj]
  · rw [zI_sI_k hj, hz2, zI_Wr_a (by omega), hz1, zI_Wr_a (by omega)]
  · rw [b59, hz2, zI_Wr_out (by omega), hz1, zI_Wr_out (by omega)]
theorem s_end19 {s : zSe} (d : MMs h m Ms) (kM : MaOk (Ms t)) (ht : t < 2) (hf : difW FT (Ms t) (Ms t) = none) (tw : (twJ (Ms t)).1 = 1) (se : seOk (Ms t) s) (hi : i < 101) (sc : SeC h m i s) (p0 : OWB h m 58 59 260 i none) :
    ∃ h', zm_X12_endsOf 19 [some (.inr m), some (.inl (nI t)), some (.inl (nI i)), some (.inl (nI 0)), none, none, none] [] h = zm_X12_endsOf 2 [some (.inr m), some (.inl (nI t)), some (.inl (nI (i + 1))), none, none, none, none] [] h' ∧ zOf m [58, 59] [] h h' ∧ OWB h' m 58 59 260 i (stEnd (Ms t) s) ∧ (∀ j, j ≠ i → zI h' (m + 58) j = zI h (m + 58) j) ∧ ∀ j, ¬ (260 * i ≤ j ∧ j < 260 * i + 260) → zI h' (m + 59) j = zI h (m + 59) j := by
  have k6 := kM.1
  obtain ⟨s6, -, -, w0, c0, swd⟩ := id se
  have inner := zlp (P := fun q y => zOf m [58, 59] [] h y ∧ ((OWB y m 58 59 260 i none ∧ ∀ j, j < q → ¬ ((stAt s j).isSome = true ∧ ((Ms t).2.2.1 j).isSome = true)) ∨ OWB y m 58 59 260 i (stEnd (Ms t) s)) ∧ (∀ j, j ≠ i → zI y (m + 58) j = zI h (m + 58) j) ∧ ∀ j, ¬ (260 * i ≤ j ∧ j < 260 * i + 260) → zI y (m + 59) j = zI h (m + 59) j) (g := fun q y => zm_X12_endsOf 19 [some (.inr m), some (.inl (nI t)), some (.inl (nI i)), some (.inl (nI q)), none, none, none] [] y) (n := (Ms t).1) ?_ 0 h (Nat.zero_le _) ⟨zOf.rf, Or.inl ⟨p0, fun j hj => absurd hj (Nat.not_lt_zero _)⟩, fun _ _ => rfl, fun _ _ => rfl⟩
  · obtain ⟨y, f1, f2, f4, f5, f6⟩ := inner
    refine ⟨y, ?_, f2, ?_, f5, f6⟩
    · rw [f1, e_X12_endsOf_19, mF0 (f2.lay d.1), Option.bind_some, (d.o2 f2 (by decide)).many ht, Option.bind_some, if_neg (by rw [nI_ltI (by omega) (by omega)]; omega), nI_1]
    · rcases f4 with ⟨g1, g2⟩ | g1
      · have en : stEnd (Ms t) s = none := by
          cases c2 : stEnd (Ms t) s with
          | none => rfl
          | some v =>
            obtain ⟨q, r, e, h1, h2, -⟩ := stEnd_in c2
            exact absurd ⟨by rw [h1]; rfl, by rw [h2]; rfl⟩ (g2 q (kM.2.2.1 q e h2).1)
        rw [en]
        exact g1
      · exact g1
  · rintro q y hq ⟨oy, inv, y5, y6⟩
    have ly := oy.lay d.1
    have dy := d.o2 oy (by decide)
    have scy := sc.o oy (by decide) (by decide)
    have sq := scy.2 q (by omega)
    rw [e_X12_endsOf_19, mF0 ly, Option.bind_some, dy.many ht, Option.bind_some, if_pos ((nI_ltI (by omega) (by omega)).mpr hq), mF65 ly, Option.bind_some, n6, pk_mul, nI_add, mr65 ly (by omega), Option.bind_some, nI_1]
    have skip : ¬ ((stAt s q).isSome = true ∧ ((Ms t).2.2.1 q).isSome = true) → ∃ h', zm_X12_endsOf 19 [some (.inr m), some (.inl (nI t)), some (.inl (nI i)), some (.inl (nI (q + 1))), none, none, none] [] y = zm_X12_endsOf 19 [some (.inr m), some (.inl (nI t)), some (.inl (nI i)), some (.inl (nI (q + 1))), none, none, none] [] h' ∧ zOf m [58, 59] [] h h' ∧ ((OWB h' m 58 59 260 i none ∧ ∀ j, j < q + 1 → ¬ ((stAt s j).isSome = true ∧ ((Ms t).2.2.1 j).isSome = true)) ∨ OWB h' m 58 59 260 i (stEnd (Ms t) s)) ∧ (∀ j, j ≠ i → zI h' (m + 58) j = zI h (m + 58) j) ∧ ∀ j, ¬ (260 * i ≤ j ∧ j < 260 * i + 260) → zI h' (m + 59) j = zI h (m + 59) j := fun hno => by
      refine ⟨y, rfl, oy, ?_, y5, y6⟩
      rcases inv with ⟨g1, g2⟩ | g1
      · refine Or.inl ⟨g1, fun j hj => ?_⟩
        by_cases c : j = q
        · rw [c]; exact hno
        · exact g2 j (by omega)
      · exact Or.inr g1
    cases es : stAt s q with
    | none =>
      rw [es] at sq skip
      rw [show zI y (m + 51) (6 * i + q) = -1 from sq, if_pos (by decide)]
      exact skip (fun w => by cases w.1)
    | some r =>
      rw [es] at sq skip
      have sq' : OWR y m 51 52 120 (6 * i + q) (some r) := sq
      have rl := (se_len kM tw se es).1
      rw [sq'.1, if_neg (nI_nn (by omega)), mF2 ly, Option.bind_some, pk_mul, nI_add, dy.ende ht (show q < 6 by omega) hq, Option.bind_some]
      cases ee : (Ms t).2.2.1 q with
      | none =>
        rw [ee] at skip
        rw [show eI none = -1 from rfl, if_pos rfl]
        exact skip (fun w => by cases w.2)
      | some e =>
        have wlt := (kM.2.2.1 q e ee).2.lt
        rw [show eI (some e) = nI e from rfl, if_neg (nneg (by omega)), Option.bind_some, mr65 ly (by omega), Option.bind_some, sq'.1]
        obtain ⟨y', g1, g2, g3, g4, g5⟩ := s_end77 dy kM ht hi (show q < 6 by omega) scy es rl ee
        rw [← stEnd_of kM hf swd es ee] at g3
        exact ⟨y', g1, oy.tr g2, Or.inr g3, fun j hj => (g4 j hj).trans (y5 j hj), fun j hj => (g5 j hj).trans (y6 j hj)⟩
theorem s_mendsOf (d : MMs h m Ms) (ht : t < 2) (sg : sGood (Ms t)) (sz : SeL h m (sMake (Ms t)).1) :
    ∃ h', zf nX12_endsOf [.inr m, .inl (nI t)] h = some (0, 0, h') ∧ zOf m [58, 59] [] h h' ∧ ∀ s, s < (sMake (Ms t)).1.length → OWB h' m 58 59 260 s (stEnd (Ms t) (seAt (sMake (Ms t)) s)) := by
  have kM := sg.1
  have hN := sg.2.2.2
  have loop := zlp (P := fun i z => zOf m [58, 59] [] h z ∧ ∀ s, s < i → OWB z m 58 59 260 s (stEnd (Ms t) (seAt (sMake (Ms t)) s))) (g := fun i z => zm_X12_endsOf 2 [some (.inr m), some (.inl (nI t)), some (.inl (nI i)), none, none, none, none] [] z) (n := (sMake (Ms t)).1.length) ?_ 0 h (Nat.zero_le _) ⟨zOf.rf, fun s hs => absurd hs (Nat.not_lt_zero _)⟩
  · obtain ⟨z, e1, e2, e3⟩ := loop
    refine ⟨z, ?_, e2, e3⟩
    rw [e_X12_endsOf, n0, e1, e_X12_endsOf_2, mi64 (e2.lay d.1), Option.bind_some, e2.J (by decide), sz.1, if_neg (by rw [nI_ltI (by omega) (by omega)]; omega)]
    rfl
  · rintro i z hi ⟨oz, hz⟩
    have lz := oz.lay d.1
    rw [e_X12_endsOf_2, mi64 lz, Option.bind_some, oz.J (by decide), sz.1, if_pos ((nI_ltI (by omega) (by omega)).mpr hi), mF72 lz, Option.bind_some, mw72 lz (by omega), Option.bind_some]
    have o1 : zOf m [58, 59] [] h (zsI z (m + 58) i (-1)) := oz.tr (zOf_sI (by decide) (by decide))
    have p0 : OWB (zsI z (m + 58) i (-1)) m 58 59 260 i none := zI_sI
    have p1 : ∀ j, j < i → OWB (zsI z (m + 58) i (-1)) m 58 59 260 j (stEnd (Ms t) (seAt (sMake (Ms t)) j)) := fun j hj => (hz j hj).of (zI_sI_k (by omega)) (fun j' _ => zI_sI_a (by omega))
    generalize zsI z (m + 58) i (-1) = z1 at *
    obtain ⟨y, f1, f2, f3, f4, f5⟩ := s_end19 (d.o2 o1 (by decide)) kM ht sg.2.1 sg.2.2.1 (sg.se hi) (show i < 101 by omega) ((sz.2.2 i hi).o o1 (by decide) (by decide)) p0
    refine ⟨y, f1, o1.tr f2, fun j hj => ?_⟩
    by_cases c : j = i
    · rw [c]; exact f3
    · exact (p1 j (by omega)).of (f4 j c) (fun j' hj' => f5 _ (by omega))
/-- what is tried so far -/
def TRl (h : zM) (m : Nat) (T : Option zWo) : Prop := match T with
  | none => zI h m 74 = -1
  | some w => zI h m 74 = nI w.length ∧ Rw h (m + 62) 0 w ∧ w.length ≤ 520 ∧ LOk w
theorem getD_take {w : zWo} {n j : Nat} (h : j < n) : (w.take n).getD j 0 = w.getD j 0 := by
  rw [List.getD_eq_getElem?_getD, List.getD_eq_getElem?_getD, List.getElem?_take_of_lt h]
theorem s_try26 {A : Nat} {a2 a4 : Int32} {o w : zWo} {T : Option zWo} (lay : MLay h m) (ow : LOk w) (hol : o.length ≤ w.length) (hw : w.length ≤ 520) (tr : TRl h m T)
    (r1 : ∀ z j, zOf m [62] [] h z → j < o.length → zba z A (a2 + nI j) = some (w.getD j 0))
    (r2 : ∀ z j, zOf m [62] [] h z → ¬ j < o.length → j < w.length → zba z (m + 61) ((((520 : Int32) * a4) + nI j) - nI o.length) = some (w.getD j 0)) :
    ∃ h', zm_X12_tries 26 [some (.inr m), some (.inr A), some (.inl a2), some (.inl (nI o.length)), some (.inl a4), some (.inl (nI w.length)), some (.inl (nI 0)), some (.inl (1 : Int32)), none] [] h = some (0, 0, h') ∧ zOf m [62] [74] h h' ∧ TRl h' m (tri T w) := by
  have oW : ∀ j, zOf m [62] [] h (zWr h (m + 62) 0 j fun j => w.getD j 0) := fun j => zOf_Wr (by decide) (by decide)
  cases T with
  | none =>
    have e74 : zI h m 74 = -1 := tr
    have cp := zwr (g := fun j z => zm_X12_tries 26 [some (.inr m), some (.inr A), some (.inl a2), some (.inl (nI o.length)), some (.inl a4), some (.inl (nI w.length)), some (.inl (nI j)), some (.inl (1 : Int32)), none] [] z) (h := h) (a := m + 62) (p := 0) (n := w.length) (f := fun j => w.getD j 0) (fun j hj => by
      have oz := oW j
      have x1 := r1 _ j oz
      have x2 := r2 _ j oz
      have f74 : zI (zWr h (m + 62) 0 j fun j => w.getD j 0) m 74 = -1 := (zI_Wr_a (by omega)).trans e74
      generalize hz : (zWr h (m + 62) 0 j fun j => w.getD j 0) = z at *
      have lz := oz.lay lay
      rw [e_X12_tries_26, if_neg (by decide), if_pos ((nI_ltI (by omega) (by omega)).mpr hj), mi74 lz, Option.bind_some, f74, if_pos rfl]
      by_cases c : j < o.length
      · rw [if_pos ((nI_ltI (by omega) (by omega)).mpr c), x1 c, Option.bind_some, Option.bind_some, if_pos rfl, if_neg (by decide), mF77 lz, Option.bind_some, mw77 lz (by omega), Option.bind_some, nI_1, ow.byte hj, Nat.zero_add]
      · rw [if_neg (by rw [nI_ltI (by omega) (by omega)]; exact c), mF76 lz, Option.bind_some, x2 c hj, Option.bind_some, Option.bind_some, if_pos rfl, if_neg (by decide), mF77 lz, Option.bind_some, mw77 lz (by omega), Option.bind_some, nI_1, ow.byte hj, Nat.zero_add])
    have oz := oW w.length
    refine Exists.elim (show ∃ z, z = zWr h (m + 62) 0 w.length fun j => w.getD j 0 from ⟨_, rfl⟩) fun z hz => ?_
    rw [← hz] at cp oz
    have lz := oz.lay lay
    refine ⟨zsI z m 74 (nI w.length), ?_, (oz.wide (by decide) (by decide)).tr (zOf_pI (by decide)), zI_sI, fun j hj => ?_, hw, ow⟩
    · rw [cp, e_X12_tries_26, if_neg (by decide), if_neg (by rw [nI_ltI (by omega) (by omega)]; omega), mp74 lz, Option.bind_some]
    · rw [zI_sI_a (by omega), hz, zI_Wr_at hj]
  | some t =>
    obtain ⟨e74, t2, t3, t4⟩ := (show zI h m 74 = nI t.length ∧ Rw h (m + 62) 0 t ∧ t.length ≤ 520 ∧ LOk t from tr)
    have hle := lcp_le t w
    have cp := zwr (g := fun j z => zm_X12_tries 26 [some (.inr m), some (.inr A), some (.inl a2), some (.inl (nI o.length)), some (.inl a4), some (.inl (nI w.length)), some (.inl (nI j)), some (.inl (1 : Int32)), none] [] z) (h := h) (a := m + 62) (p := 0) (n := lcp t w) (f := fun j => w.getD j 0) (fun j hj => by
      have sp := (lcp_spec t w j (by omega)).mpr hj
      have oz := oW j
      have x1 := r1 _ j oz
      have x2 := r2 _ j oz
      have f74 : zI (zWr h (m + 62) 0 j fun j => w.getD j 0) m 74 = nI t.length := (zI_Wr_a (by omega)).trans e74
      have f62 : zI (zWr h (m + 62) 0 j fun j => w.getD j 0) (m + 62) j = w.getD j 0 := by
        rw [zI_Wr_out (by omega)]
        have := t2 j sp.1
        rw [Nat.zero_add] at this
        rw [this, sp.2.2]
      generalize hz : (zWr h (m + 62) 0 j fun j => w.getD j 0) = z at *
      have lz := oz.lay lay
      rw [e_X12_tries_26, if_neg (by decide), if_pos ((nI_ltI (by omega) (by omega)).mpr sp.2.1), mi74 lz, Option.bind_some, f74, if_neg (nneg (by omega)), Option.bind_some, if_pos ((nI_ltI (by omega) (by omega)).mpr sp.1)]
      by_cases c : j < o.length
      · rw [if_pos ((nI_ltI (by omega) (by omega)).mpr c), x1 c, Option.bind_some, Option.bind_some, if_neg (nneg (by omega)), mF77 lz, Option.bind_some, mr77 lz (by omega), Option.bind_some, f62, if_pos rfl, if_neg (by decide), Option.bind_some, mw77 lz (by omega), Option.bind_some, nI_1, ow.byte sp.2.1, Nat.zero_add]
      · rw [if_neg (by rw [nI_ltI (by omega) (by omega)]; exact c), mF76 lz, Option.bind_some, x2 c sp.2.1, Option.bind_some, Option.bind_some, if_neg (nneg (by omega)), mF77 lz, Option.bind_some, mr77 lz (by omega), Option.bind_some, f62, if_pos rfl, if_neg (by decide), Option.bind_some, mw77 lz (by omega), Option.bind_some, nI_1, ow.byte sp.2.1, Nat.zero_add])
    have oz := oW (lcp t w)
    have x1 := r1 _ (lcp t w) oz
    have x2 := r2 _ (lcp t w) oz
    have f62 : lcp t w < t.length → zI (zWr h (m + 62) 0 (lcp t w) fun j => w.getD j 0) (m + 62) (lcp t w) = t.getD (lcp t w) 0 := fun c => by
      rw [zI_Wr_out (by omega)]
      have := t2 _ c
      rw [Nat.zero_add] at this
      exact this
    refine Exists.elim (show ∃ z, z = zWr h (m + 62) 0 (lcp t w) fun j => w.getD j 0 from ⟨_, rfl⟩) fun z hz => ?_
    rw [← hz] at cp oz x1 x2 f62
    have lz := oz.lay lay
    have f74 : zI z m 74 = nI t.length := (oz.J (by decide)).trans e74
    have fin : zm_X12_tries 26 [some (.inr m), some (.inr A), some (.inl a2), some (.inl (nI o.length)), some (.inl a4), some (.inl (nI w.length)), some (.inl (nI (lcp t w))), some (.inl (1 : Int32)), none] [] z = some (0, 0, zsI z m 74 (nI (lcp t w))) := by
      have flag0 : zm_X12_tries 26 [some (.inr m), some (.inr A), some (.inl a2), some (.inl (nI o.length)), some (.inl a4), some (.inl (nI w.length)), some (.inl (nI (lcp t w))), some (.inl (0 : Int32)), none] [] z = some (0, 0, zsI z m 74 (nI (lcp t w))) := by
        rw [e_X12_tries_26, if_pos rfl, mp74 lz, Option.bind_some]
      rw [e_X12_tries_26, if_neg (by decide)]
      by_cases c1 : lcp t w < w.length
      · rw [if_pos ((nI_ltI (by omega) (by omega)).mpr c1), mi74 lz, Option.bind_some, f74, if_neg (nneg (by omega)), Option.bind_some]
        by_cases c2 : lcp t w < t.length
        · have ne : ¬ t.getD (lcp t w) 0 = w.getD (lcp t w) 0 := fun q => Nat.lt_irrefl _ ((lcp_spec t w (lcp t w) (Nat.le_refl _)).mp ⟨c2, c1, q⟩)
          rw [if_pos ((nI_ltI (by omega) (by omega)).mpr c2)]
          by_cases c : lcp t w < o.length
          · rw [if_pos ((nI_ltI (by omega) (by omega)).mpr c), x1 c, Option.bind_some, Option.bind_some, if_neg (nneg (by omega)), mF77 lz, Option.bind_some, mr77 lz (by omega), Option.bind_some, f62 c2, if_neg ne, if_pos rfl]
            exact flag0
          · rw [if_neg (by rw [nI_ltI (by omega) (by omega)]; exact c), mF76 lz, Option.bind_some, x2 c c1, Option.bind_some, Option.bind_some, if_neg (nneg (by omega)), mF77 lz, Option.bind_some, mr77 lz (by omega), Option.bind_some, f62 c2, if_neg ne, if_pos rfl]
            exact flag0
        · rw [if_neg (by rw [nI_ltI (by omega) (by omega)]; exact c2), mp74 lz, Option.bind_some]
      · rw [if_neg (by rw [nI_ltI (by omega) (by omega)]; exact c1), mp74 lz, Option.bind_some]
    have tl : (t.take (lcp t w)).length = lcp t w := by rw [List.length_take]; omega
    refine ⟨zsI z m 74 (nI (lcp t w)), cp.trans fin, (oz.wide (by decide) (by decide)).tr (zOf_pI (by decide)), by rw [tl]; exact zI_sI, fun j hj => ?_, by rw [tl]; omega, t4.take _⟩
    rw [tl] at hj
    have sp := (lcp_spec t w j (by omega)).mpr hj
    rw [zI_sI_a (by omega), hz, zI_Wr_at hj, getD_take hj, sp.2.2]
/-- heads -/
def HDs (h : zM) (m n : Nat) (H : Nat → Option zWo) : Prop := ∀ s, s < n → OWB h m 60 61 520 s (H s)
theorem HDs.o {h h' : zM} {m n : Nat} {H : Nat → Option zWo} {L J : List Nat} (d : HDs h m n H) (f : zOf m L J h h') (hA : 60 ∉ L) (hB : 61 ∉ L) : HDs h' m n H := fun s hs => (d s hs).o f (by decide) hA hB
/-- the end of a set is tried -/
theorem s_mtriesE {s : Nat} {v : zWo} (lay : MLay h m) (hs : s < 101) (e : OWB h m 58 59 260 s (some v)) (hv : v.length ≤ 111) (tr : TRl h m none) :
    ∃ h', zf nX12_tries [.inr m, .inr (m + 59), .inl (nI (260 * s)), .inl (nI v.length), .inl (-1 : Int32)] h = some (0, 0, h') ∧ zOf m [62] [74] h h' ∧ TRl h' m (some v) := by
  obtain ⟨v1, v2, v3, v4⟩ := e
  rw [e_X12_tries, if_pos (by decide), Int32.add_zero]
  exact s_try26 (a2 := nI (260 * s)) (a4 := -1) (o := v) lay v4 (Nat.le_refl _) (by omega) tr (fun z j oz hj => by
    rw [nI_add, mr73 (oz.lay lay) (by omega), oz.C (by decide) (by decide), v2 j hj]) (fun z j oz h1 h2 => absurd h2 h1)
theorem s_mtriesG {e g : Nat} {o hd : zWo} {T : Option zWo} (lay : MLay h m) (he : e < 400) (hg : g < 101) (go : Rw h (m + 55) (260 * e) o) (ol : o.length ≤ 111) (oo : LOk o) (hh : OWB h m 60 61 520 g (some hd)) (hl : hd.length ≤ 408) (tr : TRl h m T) :
    ∃ h', zf nX12_tries [.inr m, .inr (m + 55), .inl (nI (260 * e)), .inl (nI o.length), .inl (nI g)] h = some (0, 0, h') ∧ zOf m [62] [74] h h' ∧ TRl h' m (tri T (o ++ hd)) := by
  obtain ⟨v1, v2, v3, v4⟩ := hh
  have al : (o ++ hd).length = o.length + hd.length := List.length_append
  rw [e_X12_tries, if_neg (nI_nn (by omega)), mF75 lay, Option.bind_some, mr75 lay hg, Option.bind_some, v1, nI_add, ← al]
  exact s_try26 (a2 := nI (260 * e)) (a4 := nI g) (o := o) lay (oo.app v4) (by omega) (by omega) tr (fun z j oz hj => by
    rw [nI_add, mr69 (oz.lay lay) (by omega), oz.C (by decide) (by decide), go j hj, getD_app_l hj]) (fun z j oz h1 h2 => by
    have ej : j = o.length + (j - o.length) := by omega
    rw [n520, pk_mul, nI_add, pk_sub (by omega), show 520 * g + j - o.length = 520 * g + (j - o.length) by omega, mr76 (oz.lay lay) (by omega), oz.C (by decide) (by decide), v2 _ (by omega)]
    rw [show (o ++ hd).getD j 0 = (o ++ hd).getD (o.length + (j - o.length)) 0 by rw [← ej], getD_app_r])
end HDA
