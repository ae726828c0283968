/-! The reference: what all sets write, in full. -/
def FOut (h h' : zM) (m e : Nat) : Prop := (∀ j, j ≠ e → zI h' (m + 67) j = zI h (m + 67) j) ∧ ∀ k, ¬ (780 * e ≤ k ∧ k < 780 * e + 780) → zI h' (m + 68) k = zI h (m + 68) k
theorem FUw.out {h h' : zM} {m e e' : Nat} {o : Option zWo} (d : FUw h m e' o) (f : FOut h h' m e) (he : e' ≠ e) : FUw h' m e' o := OWB.of d (f.1 e' he) (fun j hj => f.2 _ (by omega))
theorem FUw.o {h h' : zM} {m e : Nat} {o : Option zWo} {L J : List Nat} (d : FUw h m e o) (f : zOf m L J h h') (hA : 67 ∉ L) (hB : 68 ∉ L) : FUw h' m e o := OWB.o d f (by decide) hA hB
theorem FOut.tr {h h1 h2 : zM} {m e : Nat} (a : FOut h h1 m e) (b : FOut h1 h2 m e) : FOut h h2 m e := ⟨fun j hj => (b.1 j hj).trans (a.1 j hj), fun k hk => (b.2 k hk).trans (a.2 k hk)⟩
section FUL
variable {h h0 : zM} {m t s : Nat} {M : zMa}
theorem lsW_at (s j : Nat) (hj : j < 3) : lsW M (3 * s + j) = (goAt (sMake M) (3 * s + j)).map fun p => ((p.1 ++ hdW M p.2).drop (hdW M s).length, p.2) := by
  unfold lsW
  rw [show (3 * s + j) / 3 = s by omega]
theorem hd_way (sg : sGood M) {s j g : Nat} {o : zWo} (hs : s < lsN M) (hj : j < 3) (e : goAt (sMake M) (3 * s + j) = some (o, g)) : (hdW M s).length ≤ (o ++ hdW M g).length :=
  (pre_go sg (hdW_ok sg hs).1 hj e (hdW_ok sg (sg.go_lt e hj).2).2).length_le
theorem hd_end (sg : sGood M) {s : Nat} {v : zWo} (hs : s < lsN M) (e : stEnd M (seAt (sMake M) s) = some v) : (hdW M s).length ≤ v.length := ((hdW_ok sg hs).1 0 v e).length_le
theorem s_full102 {j : Nat} (sg : sGood M) (fb : FBase h m M) (hs : s < (sMake M).1.length) (hj : j < 3) :
    ∃ h', zm_X12_fulls 102 [some (.inr m), some (.inl (nI s)), some (.inl (nI (j + 1))), none, none, none, none, none] [] h = zm_X12_fulls 102 [some (.inr m), some (.inl (nI s)), some (.inl (nI (j + 1 + 1))), none, none, none, none, none] [] h' ∧ zOf m [67, 68] [] h h' ∧ FUw h' m (4 * s + (j + 1)) ((lsW M (3 * s + j)).map (·.1)) ∧ FOut h h' m (4 * s + (j + 1)) := by
  have hN := sg.2.2.2
  have lay := fb.1.1
  have gw := fb.1.2.1.go sg hs hj
  rw [lsW_at s j hj, e_X12_fulls_102, if_pos (by rw [n4, nI_ltI (by omega) (by omega)]; omega), mF67 lay, Option.bind_some, n4, pk_mul, nI_add, mr67 lay (by omega), Option.bind_some, mF85 lay, Option.bind_some, mw85 lay (by omega), Option.bind_some, nI_1]
  have o1 : zOf m [67] [] h (zsI h (m + 67) (4 * s + (j + 1)) (-1)) := zOf_sI (by decide) (by decide)
  have v67 : ∀ k, zI (zsI h (m + 67) (4 * s + (j + 1)) (-1)) (m + 67) k = if k = 4 * s + (j + 1) then -1 else zI h (m + 67) k := fun k => by
    by_cases e : k = 4 * s + (j + 1)
    · rw [if_pos e, e, zI_sI]
    · rw [if_neg e, zI_sI_k e]
  generalize zsI h (m + 67) (4 * s + (j + 1)) (-1) = z1 at *
  have l1 := o1.lay lay
  have fb1 := fb.o o1 (by decide) (by decide)
  have out1 : FOut h z1 m (4 * s + (j + 1)) := ⟨fun k hk => by rw [v67, if_neg hk], fun k _ => o1.C (by decide) (by decide) k⟩
  cases eg : goAt (sMake M) (3 * s + j) with
  | none =>
    rw [eg] at gw
    rw [show zI h (m + 53) (4 * s + (j + 1)) = -1 from gw, if_pos (by decide)]
    refine ⟨z1, rfl, o1.wide (by decide) (by decide), ?_, out1⟩
    show zI z1 (m + 67) (4 * s + (j + 1)) = -1
    rw [v67, if_pos rfl]
  | some p =>
    obtain ⟨o, g⟩ := p
    rw [eg] at gw
    obtain ⟨w1, w2, w3, w4, w5, w6⟩ := (show zI h (m + 53) (4 * s + (j + 1)) = nI g ∧ zI h (m + 54) (4 * s + (j + 1)) = nI o.length ∧ Rw h (m + 55) (260 * (4 * s + (j + 1))) o ∧ o.length ≤ 111 ∧ LOk o ∧ g < 102 from gw)
    have glt := (sg.go_lt eg hj).2
    have hgl := (hdW_len sg glt).1
    have hsl := (hdW_len sg hs).1
    have hle := hd_way sg hs hj eg
    have al : (o ++ hdW M g).length = o.length + (hdW M g).length := List.length_append
    have g1 := (fb1.hd glt).1
    have s1 := (fb1.hd hs).1
    have w2' : zI z1 (m + 54) (4 * s + (j + 1)) = nI o.length := (o1.C (by decide) (by decide) _).trans w2
    rw [w1, if_neg (nI_nn (by omega)), mF68 l1, Option.bind_some, mr68 l1 (by omega), Option.bind_some, w2', mF75 l1, Option.bind_some, mr75 l1 (by omega), Option.bind_some, g1, mF85 l1, Option.bind_some, Option.bind_some, mr75 l1 (by omega), Option.bind_some, s1, nI_add, ← al, pk_sub hle, mw85 l1 (by omega), Option.bind_some]
    have o2 : zOf m [67] [] z1 (zsI z1 (m + 67) (4 * s + (j + 1)) (nI ((o ++ hdW M g).length - (hdW M s).length))) := zOf_sI (by decide) (by decide)
    have u67 : ∀ k, zI (zsI z1 (m + 67) (4 * s + (j + 1)) (nI ((o ++ hdW M g).length - (hdW M s).length))) (m + 67) k = if k = 4 * s + (j + 1) then nI ((o ++ hdW M g).length - (hdW M s).length) else zI z1 (m + 67) k := fun k => by
      by_cases e : k = 4 * s + (j + 1)
      · rw [if_pos e, e, zI_sI]
      · rw [if_neg e, zI_sI_k e]
    generalize zsI z1 (m + 67) (4 * s + (j + 1)) (nI ((o ++ hdW M g).length - (hdW M s).length)) = z2 at *
    have l2 := o2.lay l1
    have fb2 := fb1.o o2 (by decide) (by decide)
    obtain ⟨z3, r1, r2, r3, r4⟩ := s_full179 sg fb2 hs hj eg (by rw [u67, if_pos rfl]) hle
    rw [mF75 l2, Option.bind_some, mr75 l2 (by omega), Option.bind_some, (fb2.hd hs).1]
    refine ⟨z3, r1, ((o1.tr o2).wide (by decide) (by decide)).tr (r2.wide (by decide) (by decide)), r3, out1.tr ⟨fun k hk => ?_, fun k hk => ?_⟩⟩
    · rw [r2.C (by decide) (by decide), u67, if_neg hk]
    · rw [r4 k hk, o2.C (by decide) (by decide)]
/-- all that one set writes -/
def FUs (h : zM) (m : Nat) (M : zMa) (s : Nat) : Prop := FUw h m (4 * s) (lsE M s) ∧ ∀ j, j < 3 → FUw h m (4 * s + (j + 1)) ((lsW M (3 * s + j)).map (·.1))
theorem FUs.o {h' : zM} {L J : List Nat} (d : FUs h m M s) (f : zOf m L J h h') (hA : 67 ∉ L) (hB : 68 ∉ L) : FUs h' m M s := ⟨d.1.o f hA hB, fun j hj => (d.2 j hj).o f hA hB⟩
theorem FUs.out {h' : zM} {e s' : Nat} (d : FUs h m M s') (f : FOut h h' m e) (he : e / 4 ≠ s') : FUs h' m M s' := ⟨d.1.out f (by omega), fun j hj => (d.2 j hj).out f (by omega)⟩
theorem s_full2 (sg : sGood M) (fb : FBase h m M) (hs : s < (sMake M).1.length) (old : ∀ s', s' < s → FUs h m M s') :
    ∃ h', zm_X12_fulls 2 [some (.inr m), some (.inl (nI s)), none, none, none, none, none, none] [] h = zm_X12_fulls 2 [some (.inr m), some (.inl (nI (s + 1))), none, none, none, none, none, none] [] h' ∧ zOf m [67, 68] [] h h' ∧ ∀ s', s' < s + 1 → FUs h' m M s' := by
  have hN := sg.2.2.2
  have lay := fb.1.1
  -- the ways
  have ways : ∀ z, zOf m [67, 68] [] h z → FUw z m (4 * s) (lsE M s) → (∀ s', s' < s → FUs z m M s') → ∃ h', zm_X12_fulls 102 [some (.inr m), some (.inl (nI s)), some (.inl (1 : Int32)), none, none, none, none, none] [] z = zm_X12_fulls 2 [some (.inr m), some (.inl (nI (s + 1))), none, none, none, none, none, none] [] h' ∧ zOf m [67, 68] [] h h' ∧ ∀ s', s' < s + 1 → FUs h' m M s' := fun z oz fz hz => by
    obtain ⟨z1, a1, a2, a3, a4⟩ := s_full102 (j := 0) sg (fb.o oz (by decide) (by decide)) hs (by omega)
    have o1 := oz.tr a2
    obtain ⟨z2, b1, b2, b3, b4⟩ := s_full102 (j := 1) sg (fb.o o1 (by decide) (by decide)) hs (by omega)
    have o2 := o1.tr b2
    obtain ⟨z3, c1, c2, c3, c4⟩ := s_full102 (j := 2) sg (fb.o o2 (by decide) (by decide)) hs (by omega)
    refine ⟨z3, ?_, o2.tr c2, fun s' hs' => ?_⟩
    · rw [show zm_X12_fulls 102 [some (.inr m), some (.inl (nI s)), some (.inl (1 : Int32)), none, none, none, none, none] [] z = _ from a1, b1, c1, e_X12_fulls_102, if_neg (by decide), nI_1]
    · by_cases e : s' = s
      · rw [e]
        refine ⟨((fz.out a4 (by omega)).out b4 (by omega)).out c4 (by omega), fun j hj => ?_⟩
        rcases (show j = 0 ∨ j = 1 ∨ j = 2 by omega) with q | q | q
        · rw [q]; exact (a3.out b4 (by omega)).out c4 (by omega)
        · rw [q]; exact b3.out c4 (by omega)
        · rw [q]; exact c3
      · exact (((hz s' (by omega)).out a4 (by omega)).out b4 (by omega)).out c4 (by omega)
  rw [e_X12_fulls_2, mi64 lay, Option.bind_some, fb.1.2.1.1.1, if_pos ((nI_ltI (by omega) (by omega)).mpr hs), mF85 lay, Option.bind_some, n4, pk_mul, mw85 lay (by omega), Option.bind_some]
  have o1 : zOf m [67] [] h (zsI h (m + 67) (4 * s) (-1)) := zOf_sI (by decide) (by decide)
  have v67 : ∀ k, zI (zsI h (m + 67) (4 * s) (-1)) (m + 67) k = if k = 4 * s then -1 else zI h (m + 67) k := fun k => by
    by_cases e : k = 4 * s
    · rw [if_pos e, e, zI_sI]
    · rw [if_neg e, zI_sI_k e]
  generalize zsI h (m + 67) (4 * s) (-1) = z1 at *
  have l1 := o1.lay lay
  have fb1 := fb.o o1 (by decide) (by decide)
  have out1 : FOut h z1 m (4 * s) := ⟨fun k hk => by rw [v67, if_neg hk], fun k _ => o1.C (by decide) (by decide) k⟩
  have es := fb1.1.2.2 s hs
  rw [mF72 l1, Option.bind_some, mr72 l1 (by omega), Option.bind_some]
  cases ee : stEnd M (seAt (sMake M) s) with
  | none =>
    rw [ee] at es
    have eE : lsE M s = none := by unfold lsE; rw [ee]; rfl
    rw [show zI z1 (m + 58) s = -1 from es, if_pos (by decide)]
    refine ways z1 (o1.wide (by decide) (by decide)) ?_ (fun s' hs' => (old s' hs').out out1 (by omega))
    rw [eE]
    show zI z1 (m + 67) (4 * s) = -1
    rw [v67, if_pos rfl]
  | some v =>
    rw [ee] at es
    have eE : lsE M s = some (v.drop (hdW M s).length) := by unfold lsE; rw [ee]; rfl
    obtain ⟨v1, v2, v3, v4⟩ := (show zI z1 (m + 58) s = nI v.length ∧ Rw z1 (m + 59) (260 * s) v ∧ v.length ≤ 260 ∧ LOk v from es)
    have hle := hd_end sg hs ee
    have hsl := (hdW_len sg hs).1
    have dl : (v.drop (hdW M s).length).length = v.length - (hdW M s).length := List.length_drop
    have dok : LOk (v.drop (hdW M s).length) := v4.drop _
    rw [v1, if_neg (nI_nn (by omega)), mF85 l1, Option.bind_some, Option.bind_some, mr72 l1 (by omega), Option.bind_some, v1, mF75 l1, Option.bind_some, mr75 l1 (by omega), Option.bind_some, (fb1.hd hs).1, pk_sub hle, mw85 l1 (by omega), Option.bind_some]
    have o2 : zOf m [67] [] z1 (zsI z1 (m + 67) (4 * s) (nI (v.length - (hdW M s).length))) := zOf_sI (by decide) (by decide)
    have u67 : ∀ k, zI (zsI z1 (m + 67) (4 * s) (nI (v.length - (hdW M s).length))) (m + 67) k = if k = 4 * s then nI (v.length - (hdW M s).length) else zI z1 (m + 67) k := fun k => by
      by_cases e : k = 4 * s
      · rw [if_pos e, e, zI_sI]
      · rw [if_neg e, zI_sI_k e]
    generalize zsI z1 (m + 67) (4 * s) (nI (v.length - (hdW M s).length)) = z2 at *
    have l2 := o2.lay l1
    have fb2 := fb1.o o2 (by decide) (by decide)
    have cp := zwr (g := fun k z => zm_X12_fulls 51 [some (.inr m), some (.inl (nI s)), some (.inl (nI k)), none, none, none, none, none] [] z) (h := z2) (a := m + 68) (p := 780 * (4 * s)) (n := v.length - (hdW M s).length) (f := fun k => (v.drop (hdW M s).length).getD k 0) (fun k hk => by
      have oz : zOf m [68] [] z2 (zWr z2 (m + 68) (780 * (4 * s)) k fun k => (v.drop (hdW M s).length).getD k 0) := zOf_Wr (by decide) (by decide)
      generalize hz : (zWr z2 (m + 68) (780 * (4 * s)) k fun k => (v.drop (hdW M s).length).getD k 0) = z at *
      have lz := oz.lay l2
      have s67 : zia z (m + 67) (nI (4 * s)) = some (nI (v.length - (hdW M s).length)) := by rw [mr85 lz (by omega), oz.C (by decide) (by decide), u67, if_pos rfl]
      have s60 : zia z (m + 60) (nI s) = some (nI (hdW M s).length) := by rw [mr75 lz (by omega), oz.C (by decide) (by decide), (fb2.hd hs).1]
      have x1 : zba z (m + 59) (nI (260 * s + (hdW M s).length + k)) = some ((v.drop (hdW M s).length).getD k 0) := by rw [mr73 lz (by omega), oz.C (by decide) (by decide), o2.C (by decide) (by decide), Nat.add_assoc, v2 _ (by omega), getD_drop]
      rw [e_X12_fulls_51, mF85 lz, Option.bind_some, n4, pk_mul, s67, Option.bind_some, if_pos ((nI_ltI (by omega) (by omega)).mpr hk), mF86 lz, Option.bind_some, mF73 lz, Option.bind_some, mF75 lz, Option.bind_some, s60, Option.bind_some, n260, pk_mul, nI_add, nI_add, x1, Option.bind_some, show (3120 : Int32) = nI 3120 from rfl, pk_mul, nI_add, show 3120 * s + k = 780 * (4 * s) + k by omega, mw86 lz (by omega), Option.bind_some, nI_1, dok.byte (by omega)])
    have o3 : zOf m [68] [] z2 (zWr z2 (m + 68) (780 * (4 * s)) (v.length - (hdW M s).length) fun k => (v.drop (hdW M s).length).getD k 0) := zOf_Wr (by decide) (by decide)
    refine Exists.elim (show ∃ z, z = zWr z2 (m + 68) (780 * (4 * s)) (v.length - (hdW M s).length) fun k => (v.drop (hdW M s).length).getD k 0 from ⟨_, rfl⟩) fun z3 hz3 => ?_
    rw [← hz3] at cp o3
    have l3 := o3.lay l2
    have step : zm_X12_fulls 51 [some (.inr m), some (.inl (nI s)), some (.inl (0 : Int32)), none, none, none, none, none] [] z2 = zm_X12_fulls 102 [some (.inr m), some (.inl (nI s)), some (.inl (1 : Int32)), none, none, none, none, none] [] z3 := by
      refine (show _ = _ from cp).trans ?_
      have s67 : zia z3 (m + 67) (nI (4 * s)) = some (nI (v.length - (hdW M s).length)) := by rw [mr85 l3 (by omega), o3.C (by decide) (by decide), u67, if_pos rfl]
      rw [e_X12_fulls_51, mF85 l3, Option.bind_some, n4, pk_mul, s67, Option.bind_some, if_neg (by rw [nI_ltI (by omega) (by omega)]; omega)]
    rw [step]
    have out2 : FOut h z3 m (4 * s) := out1.tr ⟨fun k hk => by rw [o3.C (by decide) (by decide), u67, if_neg hk], fun k hk => by rw [hz3, zI_Wr_out (by omega), o2.C (by decide) (by decide)]⟩
    refine ways z3 (((o1.tr o2).wide (by decide) (by decide)).tr (o3.wide (by decide) (by decide))) ?_ (fun s' hs' => (old s' hs').out out2 (by omega))
    rw [eE]
    refine ⟨by rw [o3.C (by decide) (by decide), u67, if_pos rfl, dl], fun k hk => ?_, by rw [dl]; omega, dok⟩
    rw [dl] at hk
    rw [hz3, zI_Wr_at hk]
theorem s_mfulls (sg : sGood M) (fb : FBase h m M) :
    ∃ h', zf nX12_fulls [.inr m] h = some (0, 0, h') ∧ zOf m [67, 68] [] h h' ∧ ∀ s, s < (sMake M).1.length → FUs h' m M s := by
  have hN := sg.2.2.2
  have loop := zlp (P := fun i z => zOf m [67, 68] [] h z ∧ ∀ s, s < i → FUs z m M s) (g := fun i z => zm_X12_fulls 2 [some (.inr m), some (.inl (nI i)), none, none, none, none, none, none] [] z) (n := (sMake M).1.length) (fun i z hi hP => by
    obtain ⟨h', r1, r2, r3⟩ := s_full2 sg (fb.o hP.1 (by decide) (by decide)) hi hP.2
    exact ⟨h', r1, hP.1.tr r2, r3⟩) 0 h (Nat.zero_le _) ⟨zOf.rf, fun s hs => absurd hs (Nat.not_lt_zero _)⟩
  obtain ⟨z, e1, e2, e3⟩ := loop
  refine ⟨z, ?_, e2, e3⟩
  rw [e_X12_fulls, n0, e1, e_X12_fulls_2, mi64 (e2.lay fb.1.1), Option.bind_some, e2.J (by decide), fb.1.2.1.1.1, if_neg (by rw [nI_ltI (by omega) (by omega)]; omega)]
  rfl
end FUL
