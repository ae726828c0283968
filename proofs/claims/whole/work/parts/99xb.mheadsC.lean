/-! The reference: heads of all sets; what is written in full. -/
section HDC
variable {h h0 : zM} {m t s : Nat} {M : zMa} {H : Nat → Option zWo}
abbrev Lh : List Nat := [60, 61, 62]
/-- what doesn't change meanwhile -/
def HBase (h : zM) (m : Nat) (M : zMa) : Prop := MLay h m ∧ SZm h m (sMake M) ∧ ∀ s, s < (sMake M).1.length → OWB h m 58 59 260 s (stEnd M (seAt (sMake M) s))
theorem HBase.o {h' : zM} {L J : List Nat} (d : HBase h m M) (f : zOf m L J h h') (hL : ∀ k ∈ L, 59 < k) (hJ : 64 ∉ J) : HBase h' m M := by
  have no : ∀ k, k ≤ 59 → k ∉ L := fun k h1 hm => by have := hL k hm; omega
  exact ⟨f.lay d.1, d.2.1.o f (fun k hk => by have := hL k hk; omega) hJ, fun s hs => (d.2.2 s hs).o f (by decide) (no 58 (by omega)) (no 59 (by omega))⟩
theorem hdR_take (X : zSs) (n : Nat) (H : Nat → Option zWo) (i : Nat) : (List.range (i + 1)).foldl (hdS M X) (H, false) = hdS M X ((List.range i).foldl (hdS M X) (H, false)) i := by
  rw [List.range_succ, List.foldl_append]
  rfl
theorem s_head25 (sg : sGood M) : ∀ (f : Nat) (H : Nat → Option zWo) (h : zM), totH (sMake M).1.length H < f → HBase h m M → rhOk M H → HDs h m (sMake M).1.length H →
    ∃ h' H', zm_X12_heads 25 [some (.inr m), some (.inl (1 : Int32)), none, none, none] [] h = some (0, 0, h') ∧ zOf m Lh [74] h h' ∧ rhOk M H' ∧ (∀ s, s < (sMake M).1.length → hdF M (sMake M) H' s = H' s) ∧ HDs h' m (sMake M).1.length H' := by
  have hN := sg.2.2.2
  intro f
  induction f with
  | zero => intro H h hf; omega
  | succ f ih =>
    intro H h hf hb hH hd
    rw [e_X12_heads_25, if_neg (by decide)]
    have loop := zlp (P := fun i z => zOf m Lh [74] h z ∧ HDs z m (sMake M).1.length ((List.range i).foldl (hdS M (sMake M)) (H, false)).1 ∧ rhOk M ((List.range i).foldl (hdS M (sMake M)) (H, false)).1) (g := fun i z => zm_X12_heads 33 [some (.inr m), some (.inl (bI ((List.range i).foldl (hdS M (sMake M)) (H, false)).2)), some (.inl (nI i)), none, none] [] z) (n := (sMake M).1.length) (fun i z hi hP => by
      obtain ⟨oz, dz, rz⟩ := hP
      have hbz := hb.o oz (by decide) (by decide)
      rw [hdR_take _ (sMake M).1.length]
      generalize (List.range i).foldl (hdS M (sMake M)) (H, false) = S at *
      obtain ⟨K, b⟩ := S
      obtain ⟨h', r1, r2, r3, r4⟩ := s_head33 (b := b) sg hbz.1 hbz.2.1 hbz.2.2 rz dz hi
      exact ⟨h', r1, oz.tr (r2.wide (by decide) (by decide)), r3, r4⟩) 0 h (Nat.zero_le _) ⟨zOf.rf, hd, hH⟩
    obtain ⟨z, e1, e2, e3, e4⟩ := loop
    have ok := hdR_ok sg hH
    have eR : hdR M (sMake M) (sMake M).1.length H = (List.range (sMake M).1.length).foldl (hdS M (sMake M)) (H, false) := rfl
    rw [eR] at ok
    generalize (List.range (sMake M).1.length).foldl (hdS M (sMake M)) (H, false) = S at *
    obtain ⟨K, b⟩ := S
    dsimp only at e1 e3 e4 ok
    have lz := e2.lay hb.1
    have start : zm_X12_heads 33 [some (.inr m), some (.inl (0 : Int32)), some (.inl (0 : Int32)), none, none] [] h = zm_X12_heads 25 [some (.inr m), some (.inl (bI b)), none, none, none] [] z := by
      refine (show _ = _ from e1).trans ?_
      rw [e_X12_heads_33, mi64 lz, Option.bind_some, e2.J (by decide), hb.2.1.1.1, if_neg (by rw [nI_ltI (by omega) (by omega)]; omega)]
    rw [start]
    cases b with
    | true =>
      have dec := ok.2.1 rfl
      obtain ⟨h', H', q1, q2, q3, q4, q5⟩ := ih K z (by omega) (hb.o e2 (by decide) (by decide)) e4 e3
      exact ⟨h', H', q1, e2.tr q2, q3, q4, q5⟩
    | false =>
      have fx := ok.2.2 rfl
      rw [show bI false = 0 from rfl, e_X12_heads_25, if_pos rfl]
      rw [fx.1] at e3 e4
      exact ⟨z, H, rfl, e2, e4, fx.2, e3⟩
theorem s_mheads (sg : sGood M) (hb : HBase h m M) :
    ∃ h', zf nX12_heads [.inr m] h = some (0, 0, h') ∧ zOf m Lh [74] h h' ∧ HDs h' m (sMake M).1.length (fun s => some (hdW M s)) := by
  have hN := sg.2.2.2
  have cp := zwr (g := fun i z => zm_X12_heads 2 [some (.inr m), some (.inl (nI i)), none, none, none] [] z) (h := h) (a := m + 60) (p := 0) (n := (sMake M).1.length) (f := fun _ => -1) (fun i hi => by
    have oz : zOf m [60] [] h (zWr h (m + 60) 0 i fun _ => -1) := zOf_Wr (by decide) (by decide)
    have lz := oz.lay hb.1
    rw [e_X12_heads_2, mi64 lz, Option.bind_some, oz.J (by decide), hb.2.1.1.1, if_pos ((nI_ltI (by omega) (by omega)).mpr hi), mF75 lz, Option.bind_some, mw75 lz (by omega), Option.bind_some, nI_1, Nat.zero_add])
  have o1 : zOf m Lh [74] h (zWr h (m + 60) 0 (sMake M).1.length fun _ => -1) := zOf_Wr (by decide) (by decide)
  refine Exists.elim (show ∃ z, z = zWr h (m + 60) 0 (sMake M).1.length fun _ => -1 from ⟨_, rfl⟩) fun z hz => ?_
  rw [← hz] at cp o1
  have hd0 : HDs z m (sMake M).1.length (fun _ => none) := fun s hs => by
    show zI z (m + 60) s = -1
    rw [hz]
    exact zI_Wr_in (by omega) (by omega)
  obtain ⟨h', H', r1, r2, r3, r4, r5⟩ := s_head25 sg (totH (sMake M).1.length (fun _ => none) + 1) (fun _ => none) z (Nat.lt_succ_self _) (hb.o o1 (by decide) (by decide)) (rh_0 _ (fun _ _ => rfl)) hd0
  refine ⟨h', ?_, o1.tr r2, fun s hs => ?_⟩
  · rw [e_X12_heads]
    refine (show _ = _ from cp).trans ?_
    rw [e_X12_heads_2, mi64 (o1.lay hb.1), Option.bind_some, o1.J (by decide), hb.2.1.1.1, if_neg (by rw [nI_ltI (by omega) (by omega)]; omega)]
    exact r1
  · obtain ⟨w, e1, e2⟩ := rh_fix sg r3 r4 s hs
    have := r5 s hs
    rw [e1, hdW_eq sg hs e2] at this
    exact this
/-- one thing that is written in full, at the place e -/
def FUw (h : zM) (m e : Nat) (o : Option zWo) : Prop := OWB h m 67 68 780 e o
/-- with all heads -/
def FBase (h : zM) (m : Nat) (M : zMa) : Prop := HBase h m M ∧ HDs h m (sMake M).1.length (fun s => some (hdW M s))
theorem FBase.o {h' : zM} {L J : List Nat} (d : FBase h m M) (f : zOf m L J h h') (hL : ∀ k ∈ L, 61 < k) (hJ : 64 ∉ J) : FBase h' m M := by
  have no : ∀ k, k ≤ 61 → k ∉ L := fun k h1 hm => by have := hL k hm; omega
  exact ⟨d.1.o f (fun k hk => by have := hL k hk; omega) hJ, d.2.o f (no 60 (by omega)) (no 61 (by omega))⟩
theorem FBase.hd (d : FBase h m M) {s : Nat} (hs : s < (sMake M).1.length) : zI h (m + 60) s = nI (hdW M s).length ∧ Rw h (m + 61) (520 * s) (hdW M s) ∧ LOk (hdW M s) :=
  ⟨(d.2 s hs).1, (d.2 s hs).2.1, (d.2 s hs).2.2.2⟩
/-- a way, written in full -/
theorem s_full179 {j g : Nat} {o : zWo} (sg : sGood M) (fb : FBase h m M) (hs : s < (sMake M).1.length) (hj : j < 3) (eg : goAt (sMake M) (3 * s + j) = some (o, g)) (e67 : zI h (m + 67) (4 * s + (j + 1)) = nI ((o ++ hdW M g).length - (hdW M s).length)) (hle : (hdW M s).length ≤ (o ++ hdW M g).length) :
    ∃ h', zm_X12_fulls 179 [some (.inr m), some (.inl (nI s)), some (.inl (nI (j + 1))), some (.inl (nI (4 * s + (j + 1)))), some (.inl (nI g)), some (.inl (nI o.length)), some (.inl (nI (o ++ hdW M g).length)), some (.inl (nI (hdW M s).length))] [] h = zm_X12_fulls 102 [some (.inr m), some (.inl (nI s)), some (.inl (nI (j + 1 + 1))), none, none, none, none, none] [] h' ∧ zOf m [68] [] h h' ∧ FUw h' m (4 * s + (j + 1)) (some ((o ++ hdW M g).drop (hdW M s).length)) ∧ ∀ k, ¬ (780 * (4 * s + (j + 1)) ≤ k ∧ k < 780 * (4 * s + (j + 1)) + 780) → zI h' (m + 68) k = zI h (m + 68) k := by
  have hN := sg.2.2.2
  have gw := fb.1.2.1.go sg hs hj
  rw [eg] at gw
  obtain ⟨w1, w2, w3, w4, w5, w6⟩ := (show zI h (m + 53) (4 * s + (j + 1)) = nI g ∧ zI h (m + 54) (4 * s + (j + 1)) = nI o.length ∧ Rw h (m + 55) (260 * (4 * s + (j + 1))) o ∧ o.length ≤ 111 ∧ LOk o ∧ g < 102 from gw)
  have glt := (sg.go_lt eg hj).2
  have al : (o ++ hdW M g).length = o.length + (hdW M g).length := List.length_append
  have hgl := (hdW_len sg glt).1
  have hsl := (hdW_len sg hs).1
  obtain ⟨g1, g2, g3⟩ := fb.hd glt
  obtain ⟨s1, s2, s3⟩ := fb.hd hs
  have lay := fb.1.1
  have dl : ((o ++ hdW M g).drop (hdW M s).length).length = (o ++ hdW M g).length - (hdW M s).length := List.length_drop
  have dok : LOk ((o ++ hdW M g).drop (hdW M s).length) := (w5.app g3).drop _
  have cp := zwr (g := fun k z => zm_X12_fulls 179 [some (.inr m), some (.inl (nI s)), some (.inl (nI (j + 1))), some (.inl (nI (4 * s + (j + 1)))), some (.inl (nI g)), some (.inl (nI o.length)), some (.inl (nI (o ++ hdW M g).length)), some (.inl (nI ((hdW M s).length + k)))] [] z) (h := h) (a := m + 68) (p := 780 * (4 * s + (j + 1))) (n := (o ++ hdW M g).length - (hdW M s).length) (f := fun k => ((o ++ hdW M g).drop (hdW M s).length).getD k 0) (fun k hk => by
    have oz : zOf m [68] [] h (zWr h (m + 68) (780 * (4 * s + (j + 1))) k fun k => ((o ++ hdW M g).drop (hdW M s).length).getD k 0) := zOf_Wr (by decide) (by decide)
    generalize hz : (zWr h (m + 68) (780 * (4 * s + (j + 1))) k fun k => ((o ++ hdW M g).drop (hdW M s).length).getD k 0) = z at *
    have lz := oz.lay lay
    have sz60 : zia z (m + 60) (nI s) = some (nI (hdW M s).length) := by rw [mr75 lz (by omega), oz.C (by decide) (by decide), s1]
    rw [e_X12_fulls_179, if_pos ((nI_ltI (by omega) (by omega)).mpr (by omega)), mF86 lz, Option.bind_some, mF75 lz, Option.bind_some, sz60, Option.bind_some]
    have by8 := dok.byte (j := k) (by omega)
    rw [getD_drop] at by8
    rw [getD_drop]
    by_cases c : (hdW M s).length + k < o.length
    · have x1 : zba z (m + 55) (nI (260 * (4 * s + (j + 1)) + ((hdW M s).length + k))) = some ((o ++ hdW M g).getD ((hdW M s).length + k) 0) := by rw [mr69 lz (by omega), oz.C (by decide) (by decide), w3 _ c, getD_app_l c]
      rw [if_pos ((nI_ltI (by omega) (by omega)).mpr c), mF69 lz, Option.bind_some, n260, pk_mul, nI_add, x1, Option.bind_some, n780, pk_mul, nI_add, pk_sub (by omega), show 780 * (4 * s + (j + 1)) + ((hdW M s).length + k) - (hdW M s).length = 780 * (4 * s + (j + 1)) + k by omega, mw86 lz (by omega), Option.bind_some, nI_1, by8]
      rfl
    · have x1 : zba z (m + 61) (nI (520 * g + ((hdW M s).length + k) - o.length)) = some ((o ++ hdW M g).getD ((hdW M s).length + k) 0) := by
        have ej : (hdW M s).length + k = o.length + ((hdW M s).length + k - o.length) := by omega
        rw [show 520 * g + ((hdW M s).length + k) - o.length = 520 * g + ((hdW M s).length + k - o.length) by omega, mr76 lz (by omega), oz.C (by decide) (by decide), g2 _ (by omega)]
        rw [show (o ++ hdW M g).getD ((hdW M s).length + k) 0 = (o ++ hdW M g).getD (o.length + ((hdW M s).length + k - o.length)) 0 by rw [← ej], getD_app_r]
      rw [if_neg (by rw [nI_ltI (by omega) (by omega)]; exact c), mF76 lz, Option.bind_some, n520, pk_mul, nI_add, pk_sub (by omega), x1, Option.bind_some, n780, pk_mul, nI_add, pk_sub (by omega), show 780 * (4 * s + (j + 1)) + ((hdW M s).length + k) - (hdW M s).length = 780 * (4 * s + (j + 1)) + k by omega, mw86 lz (by omega), Option.bind_some, nI_1, by8]
      rfl)
  have o1 : zOf m [68] [] h (zWr h (m + 68) (780 * (4 * s + (j + 1))) ((o ++ hdW M g).length - (hdW M s).length) fun k => ((o ++ hdW M g).drop (hdW M s).length).getD k 0) := zOf_Wr (by decide) (by decide)
  refine ⟨_, ?_, o1, ⟨?_, fun k hk => ?_, by rw [dl]; omega, dok⟩, fun k hk => ?_⟩
  · refine (show _ = _ from cp).trans ?_
    rw [Nat.add_sub_cancel' hle, e_X12_fulls_179, if_neg (by rw [nI_ltI (by omega) (by omega)]; omega), nI_1]
  · rw [zI_Wr_a (by omega), e67, dl]
  · rw [dl] at hk
    rw [zI_Wr_at hk]
  · rw [zI_Wr_out (by omega)]
end HDC
