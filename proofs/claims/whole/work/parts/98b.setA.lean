/-! The class Sets: what stands where; the set that is made. -/
/-- an array of words, one behind the other -/
def WAr (h : zM) (a n : Nat) : Prop := zK h a = 104 ∧ zN h a = n ∧ n < 2 ^ 30 ∧ ∀ i, i < n → zF h a i = a + 1 + 2 * i
theorem WAr.keep {h h' : zM} {a n lo hi : Nat} (d : WAr h a n) (f : zFr lo hi h h') : WAr h' a n := ⟨by rw [f.K]; exact d.1, by rw [f.N]; exact d.2.1, d.2.2.1, fun i hi => by rw [f.F]; exact d.2.2.2 i hi⟩
theorem WAr.eq {h h' : zM} {a n : Nat} (d : WAr h a n) (f : zEq a (a + 1) h h') : WAr h' a n := ⟨by rw [f.K]; exact d.1, by rw [f.N]; exact d.2.1, d.2.2.1, fun i hi => by rw [f.F (by omega) (by omega)]; exact d.2.2.2 i hi⟩
theorem WAr.el {h : zM} {a n i : Nat} (d : WAr h a n) (hi : i < n) : zaa h a (nI i) = some (a + 1 + 2 * i) := by
  have := d.2.2.1
  rw [zaa_ok (by rw [d.1]; omega) (by rw [d.2.1]; exact hi) (by rw [d.2.1]; omega), d.2.2.2 i hi]
/-- its words stand -/
def WEx (h : zM) (a n r : Nat) : Prop := ∀ i, i < n → ∃ w, Wd h (a + 1 + 2 * i) r w
theorem WEx.eq {h h' : zM} {a n r : Nat} (d : WEx h a n r) (f : zEq (a + 1) (a + 1 + 2 * n) h h') : WEx h' a n r := fun i hi => by
  obtain ⟨w, hw⟩ := d i hi
  exact ⟨w, hw.eq (f.sub (by omega) (by omega))⟩
theorem WEx.put {h h' : zM} {a n r i : Nat} {w : zWo} (d : WEx h a n r) (f : zFr (a + 1 + 2 * i) (a + 1 + 2 * i + 2) h h') (hw : Wd h' (a + 1 + 2 * i) r w) : WEx h' a n r := fun j hj => by
  by_cases e : j = i
  · subst e; exact ⟨w, hw⟩
  · obtain ⟨v, hv⟩ := d j hj
    exact ⟨v, hv.keep f (by omega)⟩
def T6 : List (Nat × Nat × Nat × Nat) := [(1, 1, 101, 100), (3, 1203, 101, 300)]
def SX (h : zM) (x : Nat) : Prop := Lay T6 6 h x ∧ (zF h x 2 = x + 2 ∧ zF h x 4 = x + 1204 ∧ zF h x 5 = x + 1805) ∧ WAr h (x + 2) 600 ∧ WAr h (x + 1204) 300 ∧ WAr h (x + 1805) 6
section SXR
variable {h h' : zM} {x : Nat}
theorem SX.keep {lo hi : Nat} (d : SX h x) (f : zFr lo hi h h') : SX h' x := ⟨d.1.keep f, ⟨by rw [f.F]; exact d.2.1.1, by rw [f.F]; exact d.2.1.2.1, by rw [f.F]; exact d.2.1.2.2⟩, d.2.2.1.keep f, d.2.2.2.1.keep f, d.2.2.2.2.keep f⟩
theorem SX.eq (d : SX h x) (f : zEq x (x + 1818) h h') : SX h' x := ⟨d.1.eq (f.sub (by omega) (by omega)), ⟨by rw [f.F (by omega) (by omega)]; exact d.2.1.1, by rw [f.F (by omega) (by omega)]; exact d.2.1.2.1, by rw [f.F (by omega) (by omega)]; exact d.2.1.2.2⟩, d.2.2.1.eq (f.sub (by omega) (by omega)), d.2.2.2.1.eq (f.sub (by omega) (by omega)), d.2.2.2.2.eq (f.sub (by omega) (by omega))⟩
theorem SX.g1 (d : SX h x) : zgF h x 6 1 = some (x + 1) := (zgF_ok d.1.1).trans (congrArg some (d.1.2 (1, 1, 101, 100) (by decide)).1)
theorem SX.g2 (d : SX h x) : zgF h x 6 2 = some (x + 2) := (zgF_ok d.1.1).trans (congrArg some d.2.1.1)
theorem SX.g3 (d : SX h x) : zgF h x 6 3 = some (x + 1203) := (zgF_ok d.1.1).trans (congrArg some (d.1.2 (3, 1203, 101, 300) (by decide)).1)
theorem SX.g4 (d : SX h x) : zgF h x 6 4 = some (x + 1204) := (zgF_ok d.1.1).trans (congrArg some d.2.1.2.1)
theorem SX.g5 (d : SX h x) : zgF h x 6 5 = some (x + 1805) := (zgF_ok d.1.1).trans (congrArg some d.2.1.2.2)
theorem SX.k1 (d : SX h x) : zK h (x + 1) = 101 ∧ zN h (x + 1) = 100 := (d.1.2 (1, 1, 101, 100) (by decide)).2
theorem SX.k3 (d : SX h x) : zK h (x + 1203) = 101 ∧ zN h (x + 1203) = 300 := (d.1.2 (3, 1203, 101, 300) (by decide)).2
end SXR
/-- the object as it may stand -/
def SS (h : zM) (x : Nat) : Prop := SX h x ∧ WEx h (x + 2) 600 111 ∧ WEx h (x + 1204) 300 240 ∧ WEx h (x + 1805) 6 111
theorem SS.eq {h h' : zM} {x : Nat} (d : SS h x) (f : zEq x (x + 1818) h h') : SS h' x := ⟨d.1.eq f, d.2.1.eq (f.sub (by omega) (by omega)), d.2.2.1.eq (f.sub (by omega) (by omega)), d.2.2.2.eq (f.sub (by omega) (by omega))⟩
/-- ints of the object change, no word -/
theorem SS.int {h h' : zM} {x a : Nat} (d : SS h x) (f : zFr a (a + 1) h h') (ha : a = x ∨ a = x + 1 ∨ a = x + 1203) : SS h' x := ⟨d.1.keep f, d.2.1.eq (f.eq (by omega)), d.2.2.1.eq (f.eq (by omega)), d.2.2.2.eq (f.eq (by omega))⟩
theorem SS.rest {h h' : zM} {x i : Nat} {w : zWo} (d : SS h x) (hi : i < 600) (f : zFr (x + 3 + 2 * i) (x + 3 + 2 * i + 2) h h') (hw : Wd h' (x + 3 + 2 * i) 111 w) : SS h' x := ⟨d.1.keep f, d.2.1.put (i := i) f hw, d.2.2.1.eq (f.eq (by omega)), d.2.2.2.eq (f.eq (by omega))⟩
theorem SS.writ {h h' : zM} {x i : Nat} {w : zWo} (d : SS h x) (hi : i < 300) (f : zFr (x + 1205 + 2 * i) (x + 1205 + 2 * i + 2) h h') (hw : Wd h' (x + 1205 + 2 * i) 240 w) : SS h' x := ⟨d.1.keep f, d.2.1.eq (f.eq (by omega)), d.2.2.1.put (i := i) f hw, d.2.2.2.eq (f.eq (by omega))⟩
theorem SS.made {h h' : zM} {x i : Nat} {w : zWo} (d : SS h x) (hi : i < 6) (f : zFr (x + 1806 + 2 * i) (x + 1806 + 2 * i + 2) h h') (hw : Wd h' (x + 1806 + 2 * i) 111 w) : SS h' x := ⟨d.1.keep f, d.2.1.eq (f.eq (by omega)), d.2.2.1.eq (f.eq (by omega)), d.2.2.2.put (i := i) f hw⟩
/-- the bits of a set -/
def bts (B : Nat) (m : zSe) : Prop := m.length = 6 ∧ B < 64 ∧ ∀ q, q < 6 → B.testBit q = (stAt m q).isSome
theorem bts_eq {B C : Nat} {m k : zSe} (h : bts B m) (g : bts C k) : B = C ↔ ∀ q, q < 6 → (stAt m q).isSome = (stAt k q).isSome := by
  constructor
  · intro e q hq
    rw [← h.2.2 q hq, ← g.2.2 q hq, e]
  · intro e
    exact bits_64 h.2.1 g.2.1 (fun q hq => by rw [h.2.2 q hq, g.2.2 q hq, e q hq])
theorem bts_0 {B : Nat} {m : zSe} (h : bts B m) : B = 0 ↔ stNo m = true := by
  constructor
  · intro e
    refine stNo_iff.mpr (fun q => ?_)
    cases r : stAt m q with
    | none => rfl
    | some v =>
      have hq := stAt_some r
      rw [h.1] at hq
      have := h.2.2 q hq
      rw [e, r, Nat.zero_testBit] at this
      cases this
  · intro e
    refine bits_64 h.2.1 (by decide) (fun q hq => ?_)
    rw [h.2.2 q hq, stNo_iff.mp e q, Nat.zero_testBit]
    rfl
/-- the set that is made -/
def MD (h : zM) (x : Nat) (m : zSe) : Prop := (∃ B, bts B m ∧ zI h x 6 = nI B) ∧ ∀ q v, stAt m q = some v → Wd h (x + 1806 + 2 * q) 111 v
theorem MD.eq {h h' : zM} {x : Nat} {m : zSe} (d : MD h x m) (e : zI h' x 6 = zI h x 6) (f : zEq (x + 1806) (x + 1818) h h') : MD h' x m := by
  obtain ⟨⟨B, b1, b2⟩, c⟩ := d
  refine ⟨⟨B, b1, e.trans b2⟩, fun q v hv => ?_⟩
  have := stAt_some hv
  have := b1.1
  exact (c q v hv).eq (f.sub (by omega) (by omega))
/-- the sets that are told -/
def SC (h : zM) (x : Nat) (Ss : List zSe) : Prop := zI h x 0 = nI Ss.length ∧ ∀ s, s < Ss.length → ∃ B, bts B (Ss.getD s []) ∧ zI h (x + 1) s = nI B ∧ ∀ q v, stAt (Ss.getD s []) q = some v → Wd h (x + 3 + 2 * (6 * s + q)) 111 v
theorem SC.eq {h h' : zM} {x : Nat} {Ss : List zSe} (d : SC h x Ss) (hl : Ss.length ≤ 100) (e : zI h' x 0 = zI h x 0) (f : zEq (x + 1) (x + 1203) h h') : SC h' x Ss := by
  refine ⟨e.trans d.1, fun s hs => ?_⟩
  obtain ⟨B, b1, b2, b3⟩ := d.2 s hs
  refine ⟨B, b1, by rw [f.I (by omega) (by omega)]; exact b2, fun q v hv => ?_⟩
  have := stAt_some hv
  have := b1.1
  exact (b3 q v hv).eq (f.sub (by omega) (by omega))
/-- the ways that are told -/
def GC (h : zM) (x : Nat) (gs : List (Option (zWo × Nat))) : Prop := ∀ i, i < gs.length → match gs.getD i none with
  | none => zI h (x + 1203) i = -1 ∧ Wd h (x + 1205 + 2 * i) 240 []
  | some p => zI h (x + 1203) i = nI p.2 ∧ Wd h (x + 1205 + 2 * i) 240 p.1
theorem GC.eq {h h' : zM} {x : Nat} {gs : List (Option (zWo × Nat))} (d : GC h x gs) (hl : gs.length ≤ 300) (f : zEq (x + 1203) (x + 1805) h h') : GC h' x gs := fun i hi => by
  have := d i hi
  split at this
  · exact ⟨by rw [f.I (by omega) (by omega)]; exact this.1, this.2.eq (f.sub (by omega) (by omega))⟩
  · exact ⟨by rw [f.I (by omega) (by omega)]; exact this.1, this.2.eq (f.sub (by omega) (by omega))⟩
theorem isS1 {α : Type} {v : α} : (if (some v).isSome = true then (1 : Int32) else 0) = 1 := rfl
theorem s_isMade {h : zM} {x s : Nat} {m : zSe} {Ss : List zSe} (d : SX h x) (hm : MD h x m) (hs : SC h x Ss) (h100 : s < 100) (hl : s < Ss.length) : zf nX6_isMade [.inr x, .inl (nI s)] h = some (if Ss.getD s [] = m then 1 else 0, 0, h) := by
  obtain ⟨⟨B, b1, b2⟩, b3⟩ := hm
  obtain ⟨C, c1, c2, c3⟩ := hs.2 s hl
  generalize Ss.getD s [] = k at *
  have hBC := bts_eq c1 b1
  have k1 := d.k1
  have hb64 := b1.2.1
  have hc64 := c1.2.1
  rw [e_X6_isMade, d.g1, Option.bind_some, zia_ok k1.1 (by rw [k1.2]; exact h100) (by rw [k1.2]; omega), c2, Option.bind_some, zgI_ok d.1.1, b2, Option.bind_some]
  by_cases e : C = B
  · rw [if_pos (by rw [e])]
    refine zlq (P := fun q g => g = h ∧ ∀ j, j < q → stAt k j = stAt m j) (g := fun q g => zm_X6_isMade 17 [some (.inr x), some (.inl (nI s)), some (.inl (nI q))] [] g) (n := 6) (Q := fun y => y = some (if k = m then 1 else 0, 0, h)) ?_ ?_ 0 h (Nat.zero_le _) ⟨rfl, fun j hj => absurd hj (Nat.not_lt_zero _)⟩
    · rintro q g hq ⟨rfl, hj⟩
      rw [e_X6_isMade_17, if_pos (by rw [n6, nI_ltI (by omega) (by omega)]; exact hq), zgI_ok d.1.1, b2, Option.bind_some, s_holds hb64 hq, Option.bind_some]
      dsimp only
      have hsome := hBC.mp e q hq
      rw [b1.2.2 q hq]
      have next : stAt k q = stAt m q → ∀ j, j < q + 1 → stAt k j = stAt m j := fun z j hj2 => by
        by_cases e : j = q
        · subst e; exact z
        · exact hj j (by omega)
      cases e1 : stAt m q with
      | none =>
        right
        rw [e1] at hsome
        have e2 : stAt k q = none := by
          cases z : stAt k q with
          | none => rfl
          | some v => rw [z] at hsome; cases hsome
        rw [if_pos (by decide), nI_1]
        exact ⟨g, rfl, rfl, next (by rw [e2, e1])⟩
      | some v =>
        rw [e1] at hsome
        obtain ⟨u, e2⟩ := Option.isSome_iff_exists.mp hsome
        have hu := c3 q u e2
        have hv := b3 q v e1
        rw [isS1, if_neg (by decide), d.g2, Option.bind_some, n6, pk_mul, nI_add, d.2.2.1.el (show s * 6 + q < 600 by omega), Option.bind_some, d.g5, Option.bind_some, d.2.2.2.2.el hq, Option.bind_some]
        have ea : x + 2 + 1 + 2 * (s * 6 + q) = x + 3 + 2 * (6 * s + q) := by omega
        have eb : x + 1805 + 1 + 2 * q = x + 1806 + 2 * q := by omega
        rw [ea, eb, zif_ok hu.1, s_isAlike hu hv, Option.bind_some]
        dsimp only
        by_cases z : u = v
        · right
          rw [if_pos z, if_neg (by decide), nI_1]
          exact ⟨g, rfl, rfl, next (by rw [e2, e1, z])⟩
        · left
          rw [if_neg z, if_pos rfl, zb0, if_neg (fun y => z (by rw [y, e1] at e2; exact (Option.some.inj e2).symm))]
    · rintro g ⟨rfl, hj⟩
      rw [e_X6_isMade_17, if_neg (by decide), zb1, if_pos (stAt_ext c1.1 b1.1 hj)]
  · rw [if_neg (by rw [nI_eq (by omega) (by omega)]; exact e), zb0, if_neg (fun y => e (hBC.mpr (fun q _ => by rw [y])))]
/-- the set is looked up, or put behind -/
theorem s_place {h : zM} {x : Nat} {m : zSe} {Ss : List zSe} (d : SS h x) (hm : MD h x m) (hs : SC h x Ss) (hl : Ss.length ≤ 100) :
    ∃ h', zFr x (x + 1203) h h' ∧ SS h' x ∧ (∀ j, j ≠ 0 → zI h' x j = zI h x j) ∧ (((sPlace m Ss).2.length ≤ 100 ∧ zf nX6_place [.inr x] h = some (nI (sPlace m Ss).1, 0, h') ∧ SC h' x (sPlace m Ss).2) ∨ ((sPlace m Ss).2.length = 101 ∧ zf nX6_place [.inr x] h = some (-1, 0, h') ∧ zI h' x 0 = 101)) := by
  have X := d.1
  obtain ⟨⟨B, b1, b2⟩, b3⟩ := id hm
  have gI6 : zgI h x 6 6 = some (nI B) := (zgI_ok X.1.1).trans (congrArg some b2)
  have gI0 : zgI h x 6 0 = some (nI Ss.length) := (zgI_ok X.1.1).trans (congrArg some hs.1)
  rw [e_X6_place]
  refine zlq (P := fun s g => g = h ∧ ∀ (j : Nat) (k : zSe), j < s → Ss[j]? = some k → decide (k = m) = false) (g := fun s g => zm_X6_place 2 [some (.inr x), some (.inl (nI s))] [] g) (n := Ss.length)
    (Q := fun y => ∃ h', zFr x (x + 1203) h h' ∧ SS h' x ∧ (∀ j, j ≠ 0 → zI h' x j = zI h x j) ∧ (((sPlace m Ss).2.length ≤ 100 ∧ y = some (nI (sPlace m Ss).1, 0, h') ∧ SC h' x (sPlace m Ss).2) ∨ ((sPlace m Ss).2.length = 101 ∧ y = some (-1, 0, h') ∧ zI h' x 0 = 101))) ?_ ?_ 0 h (Nat.zero_le _) ⟨rfl, fun j k hj => absurd hj (Nat.not_lt_zero _)⟩
  · rintro s g hlt ⟨rfl, hn⟩
    have hget : Ss[s]? = some (Ss.getD s []) := by rw [List.getD_eq_getElem?_getD, List.getElem?_eq_getElem hlt]; rfl
    rw [e_X6_place_2, gI0, Option.bind_some, if_pos ((nI_ltI (by omega) (by omega)).mpr hlt), zif_ok X.1.1, s_isMade X hm hs (by omega) hlt, Option.bind_some]
    dsimp only
    by_cases e : Ss.getD s [] = m
    · left
      rw [if_pos e, if_neg (by decide)]
      have ef : fdx (fun k => decide (k = m)) Ss = s := fdx_at hget (decide_eq_true e) hn
      have e1 : sPlace m Ss = (s, Ss) := by unfold sPlace; rw [ef, if_pos hlt]
      rw [e1]
      exact ⟨g, zFr.rf, d, fun _ _ => rfl, Or.inl ⟨hl, rfl, hs⟩⟩
    · right
      rw [if_neg e, if_pos rfl, nI_1]
      refine ⟨g, rfl, rfl, fun j k hj hk => ?_⟩
      by_cases z : j = s
      · subst z
        rw [hget] at hk
        cases hk
        exact decide_eq_false e
      · exact hn j k (by omega) hk
  · rintro g ⟨rfl, hn⟩
    have ef : fdx (fun k => decide (k = m)) Ss = Ss.length := fdx_no (fun j k hk => hn j k (List.getElem?_eq_some_iff.mp hk).1 hk)
    have e1 : sPlace m Ss = (Ss.length, Ss ++ [m]) := by unfold sPlace; rw [ef, if_neg (Nat.lt_irrefl _)]
    rw [e1]
    rw [e_X6_place_2, gI0, Option.bind_some, if_neg (by rw [nI_ltI (by omega) (by omega)]; omega), Option.bind_some]
    by_cases c : Ss.length < 100
    · rw [if_pos (by rw [n100, nI_ltI (by omega) (by omega)]; exact c), X.g1, Option.bind_some, Option.bind_some, gI6, Option.bind_some, zis_ok X.k1.1 (by rw [X.k1.2]; exact c) (by rw [X.k1.2]; omega), Option.bind_some]
      have f1 : zFr (x + 1) (x + 2) g (zsI g (x + 1) Ss.length (nI B)) := zFr_sI (by omega) (by omega)
      have d1 := d.int f1 (by omega)
      have v1 : zI (zsI g (x + 1) Ss.length (nI B)) (x + 1) Ss.length = nI B := zI_sI
      have w1 : ∀ i, i ≠ Ss.length → zI (zsI g (x + 1) Ss.length (nI B)) (x + 1) i = zI g (x + 1) i := fun i hi => zI_sI_k hi
      generalize hg1 : zsI g (x + 1) Ss.length (nI B) = g1 at *
      have main := zlp (P := fun q y => zFr (x + 1) (x + 1203) g y ∧ zEq (x + 1) (x + 2) g1 y ∧ zEq (x + 3) (x + 3 + 12 * Ss.length) g y ∧ SS y x ∧ ∀ j v, j < q → stAt m j = some v → Wd y (x + 3 + 2 * (6 * Ss.length + j)) 111 v) (g := fun q y => zm_X6_place 58 [some (.inr x), some (.inl (nI q))] [] y) (n := 6) ?_ 0 g1 (Nat.zero_le _) ⟨f1.wide (by omega) (by omega), zEq.rf, f1.eq (by omega), d1, fun j v hj => absurd hj (Nat.not_lt_zero _)⟩
      · obtain ⟨y, e2, f2, q1, q2, d2, hw⟩ := main
        have Xy := d2.1
        have i0 : zI y x 0 = nI Ss.length := by rw [f2.I (by omega), hs.1]
        have f3 : zFr x (x + 1) y (zsI y x 0 (nI (Ss.length + 1))) := zFr_sI (by omega) (by omega)
        refine ⟨zsI y x 0 (nI (Ss.length + 1)), (f2.wide (by omega) (by omega)).tr (f3.wide (by omega) (by omega)), d2.int f3 (Or.inl rfl), fun j hj => by rw [zI_sI_k hj, f2.I (by omega)], Or.inl ⟨by rw [List.length_append]; exact c, ?_, by rw [zI_sI]; simp, fun s hlt => ?_⟩⟩
        · rw [n0, e2, e_X6_place_58, if_neg (by decide), zgI_ok Xy.1.1, i0, Option.bind_some, nI_1, zpI_ok Xy.1.1, Option.bind_some, zgI_ok (show zK (zsI y x 0 (nI (Ss.length + 1))) x = 6 + 1 from Xy.1.1), zI_sI, Option.bind_some, n1, pk_sub (by omega)]
          rfl
        · rw [List.length_append] at hlt
          have hlt : s < Ss.length + 1 := hlt
          by_cases e : s < Ss.length
          · have eg : (Ss ++ [m]).getD s [] = Ss.getD s [] := by rw [List.getD_eq_getElem?_getD, List.getElem?_append_left e, ← List.getD_eq_getElem?_getD]
            rw [eg]
            obtain ⟨C, c1, c2, c3⟩ := hs.2 s e
            refine ⟨C, c1, by rw [zI_sI_a (by omega), q1.I (by omega) (by omega), w1 s (by omega)]; exact c2, fun q v hv => ?_⟩
            have := stAt_some hv
            have := c1.1
            exact ((c3 q v hv).eq (q2.sub (by omega) (by omega))).eq (f3.eq (by omega))
          · have : s = Ss.length := by omega
            subst this
            have eg : (Ss ++ [m]).getD Ss.length [] = m := by rw [List.getD_eq_getElem?_getD, List.getElem?_append_right (Nat.le_refl _), Nat.sub_self]; rfl
            rw [eg]
            refine ⟨B, b1, by rw [zI_sI_a (by omega), q1.I (by omega) (by omega)]; exact v1, fun q v hv => ?_⟩
            have := stAt_some hv
            rw [b1.1] at this
            exact (hw q v this hv).eq (f3.eq (by omega))
      · rintro q y hq ⟨f2, q1, q2, d2, hw⟩
        have Xy := d2.1
        have i6 : zI y x 6 = nI B := by rw [f2.I (by omega)]; exact b2
        have i0 : zI y x 0 = nI Ss.length := by rw [f2.I (by omega), hs.1]
        rw [e_X6_place_58, if_pos (by rw [n6, nI_ltI (by omega) (by omega)]; exact hq), zgI_ok Xy.1.1, i6, Option.bind_some, s_holds b1.2.1 hq, Option.bind_some]
        dsimp only
        rw [b1.2.2 q hq]
        cases e1 : stAt m q with
        | none =>
          rw [if_pos (by decide), nI_1]
          refine ⟨y, rfl, f2, q1, q2, d2, fun j v hj hv => ?_⟩
          by_cases z : j = q
          · subst z; rw [e1] at hv; cases hv
          · exact hw j v (by omega) hv
        | some v =>
          have hv := (b3 q v e1).eq (f2.eq (a := x + 1806 + 2 * q) (b := x + 1806 + 2 * q + 2) (by omega))
          obtain ⟨w0, hw0⟩ := d2.2.1 (6 * Ss.length + q) (by omega)
          have hw0 : Wd y (x + 3 + 2 * (6 * Ss.length + q)) 111 w0 := by
            have e : x + 2 + 1 + 2 * (6 * Ss.length + q) = x + 3 + 2 * (6 * Ss.length + q) := by omega
            rw [e] at hw0; exact hw0
          rw [isS1, if_neg (by decide), Xy.g2, Option.bind_some, zgI_ok Xy.1.1, i0, Option.bind_some, n6, pk_mul, nI_add, show Ss.length * 6 + q = 6 * Ss.length + q by omega, Xy.2.2.1.el (by omega), Option.bind_some, Xy.g5, Option.bind_some, Xy.2.2.2.2.el hq, Option.bind_some]
          have ea : x + 2 + 1 + 2 * (6 * Ss.length + q) = x + 3 + 2 * (6 * Ss.length + q) := by omega
          have eb : x + 1805 + 1 + 2 * q = x + 1806 + 2 * q := by omega
          obtain ⟨y1, a1, a2, a3⟩ := s_become hw0 hv (by omega)
          rw [List.take_of_length_le hv.small.2.2] at a3
          rw [ea, eb, zif_ok hw0.1, a1, Option.bind_some, nI_1]
          refine ⟨y1, rfl, f2.tr (a2.wide (by omega) (by omega)), q1.tr (a2.eq (by omega)), q2.tr (a2.eq (by omega)), d2.rest (by omega) a2 a3, fun j u hj hu => ?_⟩
          by_cases z : j = q
          · subst z
            rw [e1] at hu
            cases hu
            exact a3
          · exact (hw j u (by omega) hu).keep a2 (by omega)
    · rw [if_neg (by rw [n100, nI_ltI (by omega) (by omega)]; exact c), zpI_ok X.1.1, Option.bind_some]
      have f1 : zFr x (x + 1) g (zsI g x 0 101) := zFr_sI (by omega) (by omega)
      exact ⟨_, f1.wide (by omega) (by omega), d.int f1 (Or.inl rfl), fun j hj => zI_sI_k hj, Or.inr ⟨by rw [List.length_append]; show Ss.length + 1 = 101; omega, rfl, zI_sI⟩⟩
