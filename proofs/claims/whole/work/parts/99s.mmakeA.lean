/-! The reference: what is gathered, how much of it is drawn, its set. -/
/-- one word, or none: its size in the array A, its letters in rows of W in the array B -/
def OWR (h : zM) (m A B W i : Nat) (o : Option zWo) : Prop := match o with
  | none => zI h (m + A) i = -1
  | some r => zI h (m + A) i = nI r.length ∧ Rw h (m + B) (W * i) r ∧ r.length ≤ 111 ∧ LOk r
theorem OWR.of {h h' : zM} {m A B W i : Nat} {o : Option zWo} (d : OWR h m A B W i o) (hW : 111 ≤ W) (e1 : zI h' (m + A) i = zI h (m + A) i) (e2 : ∀ j, j < W → zI h' (m + B) (W * i + j) = zI h (m + B) (W * i + j)) : OWR h' m A B W i o := by
  cases o with
  | none => exact e1.trans d
  | some r => exact ⟨e1.trans d.1, d.2.1.of (fun j hj => e2 j (by have := d.2.2.1; omega)), d.2.2⟩
theorem OWR.o {h h' : zM} {m A B W i : Nat} {o : Option zWo} {L J : List Nat} (d : OWR h m A B W i o) (f : zOf m L J h h') (h0 : 0 < A ∧ 0 < B) (hA : A ∉ L) (hB : B ∉ L) : OWR h' m A B W i o := by
  cases o with
  | none => exact (f.C h0.1 hA _).trans d
  | some r => exact ⟨(f.C h0.1 hA _).trans d.1, d.2.1.of (fun j _ => f.C h0.2 hB _), d.2.2⟩
/-- what is gathered -/
def NOW (h : zM) (m : Nat) (g : zSe) : Prop := g.length = 6 ∧ ∀ q, q < 6 → OWR h m 56 57 120 q (stAt g q)
/-- a set -/
def SeC (h : zM) (m i : Nat) (s : zSe) : Prop := s.length = 6 ∧ ∀ q, q < 6 → OWR h m 51 52 120 (6 * i + q) (stAt s q)
def SeL (h : zM) (m : Nat) (Ss : List zSe) : Prop := zI h m 64 = nI Ss.length ∧ Ss.length ≤ 101 ∧ ∀ i, i < Ss.length → SeC h m i (Ss.getD i [])
theorem NOW.o {h h' : zM} {m : Nat} {g : zSe} {L J : List Nat} (d : NOW h m g) (f : zOf m L J h h') (hA : 56 ∉ L) (hB : 57 ∉ L) : NOW h' m g := ⟨d.1, fun q hq => (d.2 q hq).o f (by decide) hA hB⟩
theorem SeC.o {h h' : zM} {m i : Nat} {s : zSe} {L J : List Nat} (d : SeC h m i s) (f : zOf m L J h h') (hA : 51 ∉ L) (hB : 52 ∉ L) : SeC h' m i s := ⟨d.1, fun q hq => (d.2 q hq).o f (by decide) hA hB⟩
theorem SeL.o {h h' : zM} {m : Nat} {Ss : List zSe} {L J : List Nat} (d : SeL h m Ss) (f : zOf m L J h h') (hA : 51 ∉ L) (hB : 52 ∉ L) (hJ : 64 ∉ J) : SeL h' m Ss := ⟨(f.J hJ).trans d.1, d.2.1, fun i hi => (d.2.2 i hi).o f hA hB⟩
section MKA
variable {h : zM} {m n i q : Nat} {g s : zSe} {Ss : List zSe}
theorem s_draw40 {f : Nat} {wq wf : zWo} (lay : MLay h m) (rq : OWR h m 56 57 120 q (some wq)) (rf : OWR h m 56 57 120 f (some wf)) (hq : q < 6) (hf : f < 6) (hn : n ≤ wf.length) :
    zm_X12_draws 40 [some (.inr m), some (.inl (nI n)), some (.inl (nI f)), some (.inl (nI q)), some (.inl (nI 0))] [] h = zm_X12_draws 6 [some (.inr m), some (.inl (nI (min n (lcp wf wq)))), some (.inl (nI f)), some (.inl (nI (q + 1))), none] [] h := by
  obtain ⟨q1, q2, q3, q4⟩ := rq
  obtain ⟨f1, f2, f3, f4⟩ := rf
  have hle := lcp_le wf wq
  refine zlq (P := fun i z => z = h) (g := fun i z => zm_X12_draws 40 [some (.inr m), some (.inl (nI n)), some (.inl (nI f)), some (.inl (nI q)), some (.inl (nI i))] [] z) (n := min n (lcp wf wq)) (Q := fun y => y = zm_X12_draws 6 [some (.inr m), some (.inl (nI (min n (lcp wf wq)))), some (.inl (nI f)), some (.inl (nI (q + 1))), none] [] h) ?_ ?_ 0 h (Nat.zero_le _) rfl
  · rintro i z hi rfl
    have sp := (lcp_spec wf wq i (by omega)).mpr (by omega)
    right
    refine ⟨z, ?_, rfl⟩
    have r1 : zba z (m + 57) (nI (120 * q + i)) = some (wq.getD i 0) := by rw [mr71 lay (by omega), q2 i sp.2.1]
    have r2 : zba z (m + 57) (nI (120 * f + i)) = some (wf.getD i 0) := by rw [mr71 lay (by omega), f2 i sp.1]
    rw [e_X12_draws_40, if_pos ((nI_ltI (by omega) (by omega)).mpr (by omega)), mF70 lay, Option.bind_some, mr70 lay hq, Option.bind_some, q1, if_pos ((nI_ltI (by omega) (by omega)).mpr sp.2.1), mF71 lay, Option.bind_some, n120, pk_mul, nI_add, r1, Option.bind_some, Option.bind_some, pk_mul, nI_add, r2, Option.bind_some, if_pos sp.2.2.symm, nI_1]
  · rintro z rfl
    have key : ∀ i, i = min n (lcp wf wq) → zm_X12_draws 40 [some (.inr m), some (.inl (nI n)), some (.inl (nI f)), some (.inl (nI q)), some (.inl (nI i))] [] z = zm_X12_draws 6 [some (.inr m), some (.inl (nI i)), some (.inl (nI f)), some (.inl (nI (q + 1))), none] [] z := fun i hi => by
      rw [e_X12_draws_40, nI_1 q]
      by_cases c1 : i < n
      · have sp := lcp_spec wf wq i (by omega)
        have i2 : ¬ i < lcp wf wq := by omega
        rw [if_pos ((nI_ltI (by omega) (by omega)).mpr c1), mF70 lay, Option.bind_some, mr70 lay hq, Option.bind_some, q1]
        by_cases c2 : i < wq.length
        · have r1 : zba z (m + 57) (nI (120 * q + i)) = some (wq.getD i 0) := by rw [mr71 lay (by omega), q2 i c2]
          have r2 : zba z (m + 57) (nI (120 * f + i)) = some (wf.getD i 0) := by rw [mr71 lay (by omega), f2 i (by omega)]
          rw [if_pos ((nI_ltI (by omega) (by omega)).mpr c2), mF71 lay, Option.bind_some, n120, pk_mul, nI_add, r1, Option.bind_some, Option.bind_some, pk_mul, nI_add, r2, Option.bind_some, if_neg (fun w => i2 (sp.mp ⟨by omega, c2, w.symm⟩))]
        · rw [if_neg (by rw [nI_ltI (by omega) (by omega)]; exact c2)]
      · rw [if_neg (by rw [nI_ltI (by omega) (by omega)]; exact c1)]
    exact key _ rfl
theorem st_get (hg : g.length = 6) (hq : q < 6) : g[q]? = some (stAt g q) := by
  unfold stAt
  rw [List.getD_eq_getElem?_getD, List.getElem?_eq_getElem (by omega)]
  rfl
theorem dr_none {w : zWo} (hg : g.length = 6) : ∀ q, q ≤ 6 → (∀ j, j < q → stAt g j = none) → (g.take q).foldl (drF w) n = n := by
  intro q
  induction q with
  | zero => intro _ _; rfl
  | succ q ih =>
    intro h1 h2
    rw [fold_take _ _ _ q _ (st_get hg (by omega)), ih (by omega) (fun j hj => h2 j (by omega)), h2 q (by omega)]
    rfl
theorem s_mdraws (lay : MLay h m) (d : NOW h m g) (hn : stNo g = false) : zf nX12_draws [.inr m] h = some (nI (drw g), 0, h) := by
  obtain ⟨hg, d⟩ := d
  rw [e_X12_draws]
  have main : ∀ (f q : Nat) (a1 a2 : Int32), q + f = 6 → ((a1 = -1 ∧ a2 = -1 ∧ ∀ j, j < q → stAt g j = none) ∨ ∃ p, p < q ∧ a2 = nI p ∧ stAt g p = some (w1st g) ∧ a1 = nI ((g.take q).foldl (drF (w1st g)) (w1st g).length)) →
      zm_X12_draws 6 [some (.inr m), some (.inl a1), some (.inl a2), some (.inl (nI q)), none] [] h = some (nI (drw g), 0, h) := by
    intro f
    induction f with
    | zero =>
      intro q a1 a2 hq inv
      have q6 : q = 6 := by omega
      rw [e_X12_draws_6, if_neg (by rw [n6, nI_ltI (by omega) (by omega)]; omega)]
      rcases inv with ⟨-, -, e⟩ | ⟨p, -, -, -, e⟩
      · obtain ⟨j, r, hr⟩ := stNo_not hn
        have := stAt_some hr
        rw [e j (by omega)] at hr
        cases hr
      · rw [e, List.take_of_length_le (by omega)]
        rfl
    | succ f ih =>
      intro q a1 a2 hq inv
      have dq := d q (by omega)
      rw [e_X12_draws_6, if_pos (by rw [n6, nI_ltI (by omega) (by omega)]; omega), mF70 lay, Option.bind_some, mr70 lay (by omega), Option.bind_some, nI_1]
      have ft := fold_take (drF (w1st g)) g (w1st g).length q _ (st_get hg (show q < 6 by omega))
      cases e : stAt g q with
      | none =>
        rw [e] at dq ft
        rw [show zI h (m + 56) q = -1 from dq, if_pos (by decide)]
        refine ih (q + 1) a1 a2 (by omega) ?_
        rcases inv with ⟨e1, e2, e3⟩ | ⟨p, e1, e2, e3, e4⟩
        · refine Or.inl ⟨e1, e2, fun j hj => ?_⟩
          by_cases c : j = q
          · rw [c]; exact e
          · exact e3 j (by omega)
        · refine Or.inr ⟨p, by omega, e2, e3, ?_⟩
          rw [ft]
          exact e4
      | some w =>
        rw [e] at dq ft
        have dq' : OWR h m 56 57 120 q (some w) := dq
        rw [dq'.1, if_neg (nI_nn (by have := dq'.2.2.1; omega))]
        rcases inv with ⟨e1, e2, e3⟩ | ⟨p, e1, e2, e3, e4⟩
        · have ew := w1st_at e e3
          have wl := dq'.2.2.1
          have step := s_draw40 (n := w.length) (q := q) (f := q) lay dq' dq' (by omega) (by omega) (Nat.le_refl _)
          rw [e2, if_pos (by decide), Option.bind_some, mr70 lay (by omega), Option.bind_some, dq'.1]
          refine (show _ = _ from step).trans (ih (q + 1) _ _ (by omega) (Or.inr ⟨q, by omega, rfl, by rw [ew]; exact e, ?_⟩))
          rw [ft, dr_none hg q (by omega) e3, ew]
          rfl
        · have pw := d p (by omega)
          rw [e3] at pw
          have hle := (drF_fold (w1st g) (g.take q) (w1st g).length).1
          have step := s_draw40 (q := q) (f := p) (n := (g.take q).foldl (drF (w1st g)) (w1st g).length) lay dq' pw (by omega) (by omega) hle
          rw [e2, if_neg (nI_nn (by omega)), e4]
          refine (show _ = _ from step).trans (ih (q + 1) _ _ (by omega) (Or.inr ⟨p, by omega, rfl, e3, ?_⟩))
          rw [ft]
          rfl
  exact main 6 0 (-1) (-1) rfl (Or.inl ⟨rfl, rfl, fun j hj => absurd hj (Nat.not_lt_zero _)⟩)
/-- the letters of one state -/
theorem s_set77 {r w : zWo} (lay : MLay h m) (hi : i < 101) (hq : q < 6) (rr : OWR h m 51 52 120 (6 * i + q) (some r)) (rw' : OWR h m 56 57 120 q (some w)) (hn : n ≤ w.length) (hl : r.length = w.length - n) :
    zm_X12_setOfNow 77 [some (.inr m), some (.inl (nI n)), some (.inl (nI i)), some (.inl (1 : Int32)), some (.inl (nI q)), some (.inl (nI (w.length - n))), some (.inl (nI 0))] [] h = zm_X12_setOfNow 15 [some (.inr m), some (.inl (nI n)), some (.inl (nI i)), some (.inl (if r = w.drop n then (1 : Int32) else 0)), some (.inl (nI (q + 1))), none, none] [] h := by
  obtain ⟨r1, r2, r3, r4⟩ := rr
  obtain ⟨w1, w2, w3, w4⟩ := rw'
  refine zlq (P := fun j z => z = h ∧ ∀ j', j' < j → r.getD j' 0 = (w.drop n).getD j' 0) (g := fun j z => zm_X12_setOfNow 77 [some (.inr m), some (.inl (nI n)), some (.inl (nI i)), some (.inl (1 : Int32)), some (.inl (nI q)), some (.inl (nI (w.length - n))), some (.inl (nI j))] [] z) (n := w.length - n)
    (Q := fun y => y = zm_X12_setOfNow 15 [some (.inr m), some (.inl (nI n)), some (.inl (nI i)), some (.inl (if r = w.drop n then (1 : Int32) else 0)), some (.inl (nI (q + 1))), none, none] [] h) ?_ ?_ 0 h (Nat.zero_le _) ⟨rfl, fun j hj => absurd hj (Nat.not_lt_zero _)⟩
  · rintro j z hj ⟨rfl, hs⟩
    have x1 : zba z (m + 52) (nI (120 * (6 * i + q) + j)) = some (r.getD j 0) := by rw [mr66 lay (by omega), r2 j (by omega)]
    have x2 : zba z (m + 57) (nI (120 * q + n + j)) = some ((w.drop n).getD j 0) := by rw [mr71 lay (by omega), Nat.add_assoc, w2 (n + j) (by omega), getD_drop]
    rw [e_X12_setOfNow_77, if_neg (by decide), if_pos ((nI_ltI (by omega) (by omega)).mpr hj), mF66 lay, Option.bind_some, n120, n6, pk_mul, nI_add, pk_mul, nI_add, x1, Option.bind_some, mF71 lay, Option.bind_some, pk_mul, nI_add, nI_add, x2, Option.bind_some, nI_1]
    by_cases c : r.getD j 0 = (w.drop n).getD j 0
    · right
      rw [if_pos c]
      refine ⟨z, rfl, rfl, fun j' h2 => ?_⟩
      by_cases e : j' = j
      · rw [e]; exact c
      · exact hs j' (by omega)
    · left
      rw [if_neg c, e_X12_setOfNow_77, if_pos rfl, nI_1, if_neg (fun y => c (by rw [y]))]
  · rintro z ⟨rfl, hs⟩
    have e : r = w.drop n := ext_getD (by rw [hl, List.length_drop]) (fun j hj => hs j (by rw [List.length_drop] at hj; exact hj))
    rw [e_X12_setOfNow_77, if_neg (by decide), if_neg (by rw [nI_ltI (by omega) (by omega)]; omega), if_pos e, nI_1]
theorem s_set15 (lay : MLay h m) (hi : i < 101) (hq : q < 6) (sc : SeC h m i s) (nw : NOW h m g) (hn : ∀ q w, stAt g q = some w → n ≤ w.length) (hn2 : n ≤ 111) :
    zm_X12_setOfNow 15 [some (.inr m), some (.inl (nI n)), some (.inl (nI i)), some (.inl (1 : Int32)), some (.inl (nI q)), none, none] [] h = zm_X12_setOfNow 15 [some (.inr m), some (.inl (nI n)), some (.inl (nI i)), some (.inl (if stAt s q = stAt (stDrop n g) q then (1 : Int32) else 0)), some (.inl (nI (q + 1))), none, none] [] h := by
  have sq := sc.2 q hq
  have gq := nw.2 q hq
  rw [stDrop_at]
  have e77 : ∀ a3 a5 : Int32, a5 < 0 ∨ a5 = 0 → zm_X12_setOfNow 77 [some (.inr m), some (.inl (nI n)), some (.inl (nI i)), some (.inl a3), some (.inl (nI q)), some (.inl a5), some (.inl (0 : Int32))] [] h = zm_X12_setOfNow 15 [some (.inr m), some (.inl (nI n)), some (.inl (nI i)), some (.inl a3), some (.inl (nI (q + 1))), none, none] [] h := fun a3 a5 h5 => by
    rw [e_X12_setOfNow_77, nI_1]
    by_cases c : a3 = 0
    · rw [if_pos c]
    · rw [if_neg c, if_neg (fun w => by
        rcases h5 with h5 | h5
        · exact absurd (Int32.lt_trans w h5) (by decide)
        · rw [h5] at w
          exact absurd w (by decide))]
  have e0 : ∀ a5 : Int32, zm_X12_setOfNow 77 [some (.inr m), some (.inl (nI n)), some (.inl (nI i)), some (.inl (0 : Int32)), some (.inl (nI q)), some (.inl a5), some (.inl (0 : Int32))] [] h = zm_X12_setOfNow 15 [some (.inr m), some (.inl (nI n)), some (.inl (nI i)), some (.inl (0 : Int32)), some (.inl (nI (q + 1))), none, none] [] h := fun a5 => by
    rw [e_X12_setOfNow_77, if_pos rfl, nI_1]
  rw [e_X12_setOfNow_15, if_neg (by decide), if_pos (by rw [n6, nI_ltI (by omega) (by omega)]; omega), mF70 lay, Option.bind_some, mr70 lay hq, Option.bind_some]
  cases eg : stAt g q with
  | none =>
    rw [eg] at gq
    rw [show zI h (m + 56) q = -1 from gq, if_pos (by decide), mF65 lay, Option.bind_some, n6, pk_mul, nI_add, mr65 lay (by omega), Option.bind_some, e77 _ _ (Or.inl (by decide)), e77 _ _ (Or.inl (by decide))]
    cases es : stAt s q with
    | none =>
      rw [es] at sq
      have e : (none : Option zWo) = Option.map (fun x => List.drop n x) none := rfl
      rw [show zI h (m + 51) (6 * i + q) = -1 from sq, if_pos rfl, if_pos e]
    | some r =>
      rw [es] at sq
      have sq' : OWR h m 51 52 120 (6 * i + q) (some r) := sq
      rw [sq'.1, if_neg (nneg (by have := sq'.2.2.1; omega)), if_neg (fun w => by cases w)]
  | some w =>
    rw [eg] at gq
    have gq' : OWR h m 56 57 120 q (some w) := gq
    have wl := gq'.2.2.1
    have hnw := hn q w eg
    rw [gq'.1, if_neg (nI_nn (by omega)), Option.bind_some, mr70 lay hq, Option.bind_some, gq'.1, mF65 lay, Option.bind_some, n6, pk_mul, nI_add, mr65 lay (by omega), Option.bind_some, pk_sub hnw]
    cases es : stAt s q with
    | none =>
      rw [es] at sq
      rw [show zI h (m + 51) (6 * i + q) = -1 from sq, if_neg (fun y => nneg (n := w.length - n) (by omega) y.symm), e0, if_neg (fun y => by cases y)]
    | some r =>
      rw [es] at sq
      have sq' : OWR h m 51 52 120 (6 * i + q) (some r) := sq
      have rl := sq'.2.2.1
      rw [sq'.1]
      by_cases c : r.length = w.length - n
      · rw [if_pos (by rw [c]), show ((0 : Int32)) = nI 0 from rfl, s_set77 lay hi hq sq' gq' hnw c]
        by_cases e : r = w.drop n
        · rw [if_pos e, if_pos (by rw [e]; rfl)]
        · rw [if_neg e, if_neg (fun y => e (by injection y))]
          rfl
      · rw [if_neg (by rw [nI_eq (by omega) (by omega)]; exact c), e0, if_neg (fun y => c (by
          have : r = w.drop n := by injection y
          rw [this, List.length_drop]))]
theorem s_set2 (lay : MLay h m) (sl : SeL h m Ss) (hi : i < Ss.length) (nw : NOW h m g) (hn : ∀ q w, stAt g q = some w → n ≤ w.length) (hn2 : n ≤ 111) :
    zm_X12_setOfNow 2 [some (.inr m), some (.inl (nI n)), some (.inl (nI i)), none, none, none, none] [] h = if Ss.getD i [] = stDrop n g then some (nI i, 0, h) else zm_X12_setOfNow 2 [some (.inr m), some (.inl (nI n)), some (.inl (nI (i + 1))), none, none, none, none] [] h := by
  have hl := sl.2.1
  have sc := sl.2.2 i hi
  have gl : (stDrop n g).length = 6 := by unfold stDrop; rw [List.length_map, nw.1]
  generalize Ss.getD i [] = s at *
  have no : ∀ q : Int32, zm_X12_setOfNow 15 [some (.inr m), some (.inl (nI n)), some (.inl (nI i)), some (.inl (0 : Int32)), some (.inl q), none, none] [] h = zm_X12_setOfNow 2 [some (.inr m), some (.inl (nI n)), some (.inl (nI (i + 1))), none, none, none, none] [] h := fun q => by
    rw [e_X12_setOfNow_15, if_pos rfl, if_pos rfl, nI_1]
  rw [e_X12_setOfNow_2, mi64 lay, Option.bind_some, sl.1, if_pos ((nI_ltI (by omega) (by omega)).mpr hi)]
  refine zlq (P := fun q z => z = h ∧ ∀ j, j < q → stAt s j = stAt (stDrop n g) j) (g := fun q z => zm_X12_setOfNow 15 [some (.inr m), some (.inl (nI n)), some (.inl (nI i)), some (.inl (1 : Int32)), some (.inl (nI q)), none, none] [] z) (n := 6)
    (Q := fun y => y = if s = stDrop n g then some (nI i, 0, h) else zm_X12_setOfNow 2 [some (.inr m), some (.inl (nI n)), some (.inl (nI (i + 1))), none, none, none, none] [] h) ?_ ?_ 0 h (Nat.zero_le _) ⟨rfl, fun j hj => absurd hj (Nat.not_lt_zero _)⟩
  · rintro q z hq ⟨rfl, hs⟩
    rw [s_set15 lay (by omega) hq sc nw hn hn2]
    by_cases c : stAt s q = stAt (stDrop n g) q
    · right
      rw [if_pos c]
      refine ⟨z, rfl, rfl, fun j hj => ?_⟩
      by_cases e : j = q
      · rw [e]; exact c
      · exact hs j (by omega)
    · left
      rw [if_neg c, no, if_neg (fun y => c (by rw [y]))]
  · rintro z ⟨rfl, hs⟩
    rw [e_X12_setOfNow_15, if_neg (by decide), if_neg (by decide), if_neg (by decide), if_pos (stAt_ext sc.1 gl hs)]
end MKA
