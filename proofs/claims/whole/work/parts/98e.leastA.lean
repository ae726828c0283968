/-! The class Least: what stands where; ends; one thing of each set. -/
def T1 : List (Nat × Nat × Nat × Nat) := [(3, 1, 103, 100), (6, 404, 101, 100), (7, 405, 101, 100), (8, 406, 101, 100), (9, 407, 101, 100), (10, 408, 101, 100)]
def YX (h : zM) (x y : Nat) : Prop := Lay T1 1 h y ∧ (zF h y 2 = x ∧ zF h y 4 = y + 2 ∧ zF h y 5 = y + 203) ∧ WAr h (y + 2) 100 ∧ WAr h (y + 203) 100
section YXR
variable {h h' : zM} {x y : Nat}
theorem YX.keep {lo hi : Nat} (d : YX h x y) (f : zFr lo hi h h') : YX h' x y := ⟨d.1.keep f, ⟨by rw [f.F]; exact d.2.1.1, by rw [f.F]; exact d.2.1.2.1, by rw [f.F]; exact d.2.1.2.2⟩, d.2.2.1.keep f, d.2.2.2.keep f⟩
theorem YX.eq (d : YX h x y) (f : zEq y (y + 409) h h') : YX h' x y := ⟨d.1.eq (f.sub (by omega) (by omega)), ⟨by rw [f.F (by omega) (by omega)]; exact d.2.1.1, by rw [f.F (by omega) (by omega)]; exact d.2.1.2.1, by rw [f.F (by omega) (by omega)]; exact d.2.1.2.2⟩, d.2.2.1.eq (f.sub (by omega) (by omega)), d.2.2.2.eq (f.sub (by omega) (by omega))⟩
theorem YX.g2 (d : YX h x y) : zgF h y 1 2 = some x := (zgF_ok d.1.1).trans (congrArg some d.2.1.1)
theorem YX.g3 (d : YX h x y) : zgF h y 1 3 = some (y + 1) := (zgF_ok d.1.1).trans (congrArg some (d.1.2 (3, 1, 103, 100) (by decide)).1)
theorem YX.g4 (d : YX h x y) : zgF h y 1 4 = some (y + 2) := (zgF_ok d.1.1).trans (congrArg some d.2.1.2.1)
theorem YX.g5 (d : YX h x y) : zgF h y 1 5 = some (y + 203) := (zgF_ok d.1.1).trans (congrArg some d.2.1.2.2)
theorem YX.g6 (d : YX h x y) : zgF h y 1 6 = some (y + 404) := (zgF_ok d.1.1).trans (congrArg some (d.1.2 (6, 404, 101, 100) (by decide)).1)
theorem YX.g7 (d : YX h x y) : zgF h y 1 7 = some (y + 405) := (zgF_ok d.1.1).trans (congrArg some (d.1.2 (7, 405, 101, 100) (by decide)).1)
theorem YX.g8 (d : YX h x y) : zgF h y 1 8 = some (y + 406) := (zgF_ok d.1.1).trans (congrArg some (d.1.2 (8, 406, 101, 100) (by decide)).1)
theorem YX.g9 (d : YX h x y) : zgF h y 1 9 = some (y + 407) := (zgF_ok d.1.1).trans (congrArg some (d.1.2 (9, 407, 101, 100) (by decide)).1)
theorem YX.g10 (d : YX h x y) : zgF h y 1 10 = some (y + 408) := (zgF_ok d.1.1).trans (congrArg some (d.1.2 (10, 408, 101, 100) (by decide)).1)
theorem YX.k1 (d : YX h x y) : zK h (y + 1) = 103 ∧ zN h (y + 1) = 100 := (d.1.2 (3, 1, 103, 100) (by decide)).2
theorem YX.k (d : YX h x y) {j : Nat} (hj : j = 404 ∨ j = 405 ∨ j = 406 ∨ j = 407 ∨ j = 408) : zK h (y + j) = 101 ∧ zN h (y + j) = 100 := by
  rcases hj with rfl | rfl | rfl | rfl | rfl
  · exact (d.1.2 (6, 404, 101, 100) (by decide)).2
  · exact (d.1.2 (7, 405, 101, 100) (by decide)).2
  · exact (d.1.2 (8, 406, 101, 100) (by decide)).2
  · exact (d.1.2 (9, 407, 101, 100) (by decide)).2
  · exact (d.1.2 (10, 408, 101, 100) (by decide)).2
theorem YX.rd (d : YX h x y) {j i : Nat} (hj : j = 404 ∨ j = 405 ∨ j = 406 ∨ j = 407 ∨ j = 408) (hi : i < 100) : zia h (y + j) (nI i) = some (zI h (y + j) i) := by
  have := d.k hj
  exact zia_ok this.1 (by omega) (by omega)
theorem YX.w (d : YX h x y) {j i : Nat} (hj : j = 404 ∨ j = 405 ∨ j = 406 ∨ j = 407 ∨ j = 408) (hi : i < 100) (v : Int32) : zis h (y + j) (nI i) v = some (zsI h (y + j) i v) := by
  have := d.k hj
  exact zis_ok this.1 (by omega) (by omega)
theorem YX.rb (d : YX h x y) {i : Nat} (hi : i < 100) : zba h (y + 1) (nI i) = some (zI h (y + 1) i) := zba_ok (Or.inr d.k1.1) (by rw [d.k1.2]; exact hi) (by rw [d.k1.2]; omega)
theorem YX.wb (d : YX h x y) {i : Nat} (hi : i < 100) {v : Int32} (hv : v = 0 ∨ v = 1) : zbs h (y + 1) (nI i) v = some (zsI h (y + 1) i v) := zbs_ok d.k1.1 (by rw [d.k1.2]; exact hi) (by rw [d.k1.2]; omega) hv
theorem YX.e4 (d : YX h x y) {i : Nat} (hi : i < 100) : zaa h (y + 2) (nI i) = some (y + 3 + 2 * i) := by rw [d.2.2.1.el hi]
theorem YX.e5 (d : YX h x y) {i : Nat} (hi : i < 100) : zaa h (y + 203) (nI i) = some (y + 204 + 2 * i) := by rw [d.2.2.2.el hi]
end YXR
/-- the object as it may stand -/
def YS (h : zM) (x y : Nat) : Prop := YX h x y ∧ WEx h (y + 2) 100 111 ∧ WEx h (y + 203) 100 129
theorem YS.eq {h h' : zM} {x y : Nat} (d : YS h x y) (f : zEq y (y + 409) h h') : YS h' x y := ⟨d.1.eq f, d.2.1.eq (f.sub (by omega) (by omega)), d.2.2.eq (f.sub (by omega) (by omega))⟩
theorem YS.int {h h' : zM} {x y a : Nat} (d : YS h x y) (f : zFr a (a + 1) h h') (ha : a ≤ y + 1 ∨ y + 404 ≤ a) : YS h' x y := ⟨d.1.keep f, d.2.1.eq (f.eq (by omega)), d.2.2.eq (f.eq (by omega))⟩
theorem YS.out {h h' : zM} {x y lo hi : Nat} (d : YS h x y) (f : zFr lo hi h h') (ha : hi ≤ y ∨ y + 409 ≤ lo) : YS h' x y := ⟨d.1.keep f, d.2.1.eq (f.eq (by omega)), d.2.2.eq (f.eq (by omega))⟩
theorem YS.ends {h h' : zM} {x y i : Nat} {w : zWo} (d : YS h x y) (hi : i < 100) (f : zFr (y + 3 + 2 * i) (y + 3 + 2 * i + 2) h h') (hw : Wd h' (y + 3 + 2 * i) 111 w) : YS h' x y := ⟨d.1.keep f, d.2.1.put (i := i) f hw, d.2.2.eq (f.eq (by omega))⟩
theorem YS.coms {h h' : zM} {x y i : Nat} {w : zWo} (d : YS h x y) (hi : i < 100) (f : zFr (y + 204 + 2 * i) (y + 204 + 2 * i + 2) h h') (hw : Wd h' (y + 204 + 2 * i) 129 w) : YS h' x y := ⟨d.1.keep f, d.2.1.eq (f.eq (by omega)), d.2.2.put (i := i) f hw⟩
theorem YS.endAt {h : zM} {x y i : Nat} (d : YS h x y) (hi : i < 100) : ∃ w, Wd h (y + 3 + 2 * i) 111 w := d.2.1 i hi
theorem YS.comAt {h : zM} {x y i : Nat} (d : YS h x y) (hi : i < 100) : ∃ w, Wd h (y + 204 + 2 * i) 129 w := d.2.2 i hi
/-- ends of sets -/
def EN (h : zM) (y n : Nat) (e : Nat → Option zWo) : Prop := ∀ s, s < n → zI h (y + 1) s = bI (e s).isSome ∧ ∀ v, e s = some v → Wd h (y + 3 + 2 * s) 111 v
theorem EN.eq {h h' : zM} {y n : Nat} {e : Nat → Option zWo} (d : EN h y n e) (hn : n ≤ 100) (f : zEq (y + 1) (y + 203) h h') : EN h' y n e := fun s hs => ⟨by rw [f.I (by omega) (by omega)]; exact (d s hs).1, fun v hv => ((d s hs).2 v hv).eq (f.sub (by omega) (by omega))⟩
/-- beginnings of sets -/
def CM (h : zM) (y n : Nat) (C : Nat → zWo) : Prop := ∀ s, s < n → Wd h (y + 204 + 2 * s) 129 (C s)
theorem CM.eq {h h' : zM} {y n : Nat} {C : Nat → zWo} (d : CM h y n C) (hn : n ≤ 100) (f : zEq (y + 204) (y + 404) h h') : CM h' y n C := fun s hs => (d s hs).eq (f.sub (by omega) (by omega))
theorem CM.put {h h' : zM} {y n t : Nat} {C : Nat → zWo} {w : zWo} (d : CM h y n C) (f : zFr (y + 204 + 2 * t) (y + 204 + 2 * t + 2) h h') (hw : Wd h' (y + 204 + 2 * t) 129 w) : CM h' y n (va_up C t w) := fun s hs => by
  by_cases e : s = t
  · subst e; rw [up_at]; exact hw
  · rw [va_up_ne _ _ e]; exact (d s hs).keep f (by omega)
def kI (o : Option Nat) : Int32 := match o with
  | none => -1
  | some k => nI k
def KN (h : zM) (y n : Nat) (K : Nat → Option Nat) : Prop := ∀ s, s < n → zI h (y + 404) s = kI (K s)
/-- ways by numbers -/
def GF (h : zM) (x n : Nat) (W : Nat → Option (zWo × Nat)) : Prop := ∀ i, i < 3 * n → match W i with
  | none => zI h (x + 1203) i = -1 ∧ Wd h (x + 1205 + 2 * i) 240 []
  | some p => zI h (x + 1203) i = nI p.2 ∧ Wd h (x + 1205 + 2 * i) 240 p.1
theorem GF.eq {h h' : zM} {x n : Nat} {W : Nat → Option (zWo × Nat)} (d : GF h x n W) (hn : n ≤ 100) (f : zEq (x + 1203) (x + 1805) h h') : GF h' x n W := fun i hi => by
  have := d i hi
  split at this
  · exact ⟨by rw [f.I (by omega) (by omega)]; exact this.1, this.2.eq (f.sub (by omega) (by omega))⟩
  · exact ⟨by rw [f.I (by omega) (by omega)]; exact this.1, this.2.eq (f.sub (by omega) (by omega))⟩
theorem GF.none {h : zM} {x n i : Nat} {W : Nat → Option (zWo × Nat)} (d : GF h x n W) (hi : i < 3 * n) (e : W i = none) : zI h (x + 1203) i = -1 ∧ Wd h (x + 1205 + 2 * i) 240 [] := by
  have := d i hi
  rw [e] at this
  exact this
theorem GF.some {h : zM} {x n i : Nat} {W : Nat → Option (zWo × Nat)} {p : zWo × Nat} (d : GF h x n W) (hi : i < 3 * n) (e : W i = some p) : zI h (x + 1203) i = nI p.2 ∧ Wd h (x + 1205 + 2 * i) 240 p.1 := by
  have := d i hi
  rw [e] at this
  exact this
/-- the sets stand, of a machine that is sequential -/
def LI (h : zM) (x y : Nat) (M : zMa) : Prop := SI h x M (sMake M) ∧ YS h x y
theorem LI.gf {h : zM} {x y : Nat} {M : zMa} (l : LI h x y M) (g : sGood M) : GF h x (lsN M) (goAt (sMake M)) := fun i hi => l.1.2.2.2 i (by rw [g.gos]; exact hi)
theorem s_setEnd {h : zM} {x y A s : Nat} {M : zMa} (mM : MC h A M) (g : sGood M) (hA : A + 6 ≤ y ∨ y + 409 ≤ A) (hxy : x + 1818 ≤ y) (l : LI h x y M) (hs : s < lsN M) :
    ∃ h', zf nX1_setEnd [.inr y, .inr A, .inl (nI s)] h = some (0, 0, h') ∧ zFr y (y + 409) h h' ∧ LI h' x y M ∧ zI h' (y + 1) s = bI (stEnd M (seAt (sMake M) s)).isSome ∧ (∀ v, stEnd M (seAt (sMake M) s) = some v → Wd h' (y + 3 + 2 * s) 111 v) ∧ ∀ t, t ≠ s → zI h' (y + 1) t = zI h (y + 1) t ∧ (t < 100 → zEq (y + 3 + 2 * t) (y + 5 + 2 * t) h h') := by
  have kM := g.1
  have k6 := kM.1
  have hn := g.2.2.2
  have hs100 : s < 100 := Nat.lt_of_lt_of_le hs hn
  obtain ⟨si, ys⟩ := l
  have Y := ys.1
  have X := si.1.1
  obtain ⟨B, b1, b2, b3⟩ := si.2.2.1.2 s hs
  have b1 : bts B (seAt (sMake M) s) := b1
  have b3 : ∀ q v, stAt (seAt (sMake M) s) q = some v → Wd h (x + 3 + 2 * (6 * s + q)) 111 v := b3
  have hlen : ∀ q v, stAt (seAt (sMake M) s) q = some v → v.length ≤ 108 := fun q v hv => (se_len kM g.2.2.1 (g.se hs) hv).1
  rw [e_X1_setEnd, Y.g3, Option.bind_some, Y.wb hs100 (Or.inl rfl), Option.bind_some]
  have f1 : zFr (y + 1) (y + 2) h (zsI h (y + 1) s 0) := zFr_sI (by omega) (by omega)
  have v1 : ∀ t, zI (zsI h (y + 1) s 0) (y + 1) t = if t = s then 0 else zI h (y + 1) t := fun t => by
    by_cases e : t = s
    · rw [if_pos e, e, zI_sI]
    · rw [if_neg e, zI_sI_k e]
  have ys1 := ys.int f1 (by omega)
  have siF : ∀ {z z' : zM}, SI z x M (sMake M) → zEq x (x + 1818) z z' → SI z' x M (sMake M) := fun {z z'} q f => ⟨q.1.eq f, by rw [f.I (by omega) (by omega)]; exact q.2.1, q.2.2.1.eq hn (f.I (by omega) (by omega) _) (f.sub (by omega) (by omega)), q.2.2.2.eq (by rw [g.gos]; have : lsN M ≤ 100 := hn; omega) (f.sub (by omega) (by omega))⟩
  have si1 := siF si (f1.eq (by omega))
  generalize hh1 : zsI h (y + 1) s 0 = h1 at *
  have f1' : zFr y (y + 409) h h1 := f1.wide (by omega) (by omega)
  generalize hk : seAt (sMake M) s = k at *
  -- what find? tells
  have hfind : ∀ q, q < 6 → (stAt k q).isSome = true → (M.2.2.1 q).isSome = true → (∀ j, j < q → ((stAt k j).isSome && (M.2.2.1 j).isSome) = false) → stEnd M k = (stAt k q).bind fun r => (M.2.2.1 q).map fun e => r ++ dgs e := fun q hq h1 h2 hj => by
    have : (List.range 6).find? (fun q => (stAt k q).isSome && (M.2.2.1 q).isSome) = some q := find_at (List.getElem?_range hq) (by rw [h1, h2]; rfl) (fun j z hj2 hz => by
      rw [List.getElem?_range (by omega)] at hz
      cases hz
      exact hj j hj2)
    unfold stEnd
    rw [this]
  have hnone : (∀ j, j < 6 → ((stAt k j).isSome && (M.2.2.1 j).isSome) = false) → stEnd M k = none := fun hj => by
    have : (List.range 6).find? (fun q => (stAt k q).isSome && (M.2.2.1 q).isSome) = none := find_no (fun j z hj2 hz => by
      rw [List.length_range] at hj2
      rw [List.getElem?_range hj2] at hz
      cases hz
      exact hj j hj2)
    unfold stEnd
    rw [this]
  refine zlq (P := fun q z => z = h1 ∧ ∀ j, j < q → ((stAt k j).isSome && (M.2.2.1 j).isSome) = false) (g := fun q z => zm_X1_setEnd 9 [some (.inr y), some (.inr A), some (.inl (nI s)), some (.inl (nI q))] [] z) (n := M.1)
    (Q := fun o => ∃ h', o = some (0, 0, h') ∧ zFr y (y + 409) h h' ∧ LI h' x y M ∧ zI h' (y + 1) s = bI (stEnd M k).isSome ∧ (∀ v, stEnd M k = some v → Wd h' (y + 3 + 2 * s) 111 v) ∧ ∀ t, t ≠ s → zI h' (y + 1) t = zI h (y + 1) t ∧ (t < 100 → zEq (y + 3 + 2 * t) (y + 5 + 2 * t) h h')) ?_ ?_ 0 h1 (Nat.zero_le _) ⟨rfl, fun j hj => absurd hj (Nat.not_lt_zero _)⟩
  · rintro q z hq ⟨rfl, hj⟩
    have mz := mM.keep f1 (by omega)
    have Yz := ys1.1
    have Xz := si1.1.1
    have next : ((stAt k q).isSome && (M.2.2.1 q).isSome) = false → ∀ j, j < q + 1 → ((stAt k j).isSome && (M.2.2.1 j).isSome) = false := fun e j hj2 => by
      by_cases w : j = q
      · subst w; exact e
      · exact hj j (by omega)
    rw [e_X1_setEnd_9, mz.n, Option.bind_some, if_pos ((nI_ltI (by omega) (by omega)).mpr hq), Yz.g3, Option.bind_some, Yz.rb hs100, v1 s, if_pos rfl, Option.bind_some, if_pos rfl, Yz.g2, Option.bind_some, Xz.g1, Option.bind_some, zia_ok Xz.k1.1 (by rw [Xz.k1.2]; exact hs100) (by rw [Xz.k1.2]; omega), f1.I (by omega), b2, Option.bind_some, s_holds b1.2.1 (by omega), Option.bind_some]
    dsimp only
    rw [b1.2.2 q (by omega)]
    cases e1 : stAt k q with
    | none =>
      right
      rw [if_pos (by decide), nI_1]
      exact ⟨z, rfl, rfl, next (by rw [e1]; rfl)⟩
    | some r =>
      rw [isS1, if_neg (by decide), zif_ok mz.1.1, s_hasEnd mz kM (by omega), Option.bind_some]
      dsimp only
      cases e2 : M.2.2.1 q with
      | none =>
        right
        rw [if_pos (by decide), nI_1]
        exact ⟨z, rfl, rfl, next (by rw [e1, e2]; rfl)⟩
      | some e =>
        left
        have we := (kM.2.2.1 q e e2).2
        have w9 := we.lt
        have w3 := we.len
        have hst : stEnd M k = some (r ++ dgs e) := by
          rw [hfind q (by omega) (by rw [e1]; rfl) (by rw [e2]; rfl) hj, e1, e2]
          rfl
        rw [isS1, if_neg (by decide), Yz.g3, Option.bind_some, Yz.wb hs100 (Or.inr rfl), Option.bind_some]
        have f2 : zFr (y + 1) (y + 2) z (zsI z (y + 1) s 1) := zFr_sI (by omega) (by omega)
        have v2 : ∀ t, zI (zsI z (y + 1) s 1) (y + 1) t = if t = s then 1 else zI z (y + 1) t := fun t => by
          by_cases e : t = s
          · rw [if_pos e, e, zI_sI]
          · rw [if_neg e, zI_sI_k e]
        have ys2 := ys1.int f2 (by omega)
        have si2 := siF si1 (f2.eq (by omega))
        generalize hz2 : zsI z (y + 1) s 1 = z2 at *
        have Y2 := ys2.1
        have X2 := si2.1.1
        obtain ⟨w0, hw0⟩ := ys2.endAt hs100
        have hr := (((b3 q r e1).keep f1 (by omega)).keep f2 (by omega))
        obtain ⟨z3, a1, a2, a3⟩ := s_become hw0 hr (by omega)
        have hrl := hlen q r e1
        rw [List.take_of_length_le (by omega)] at a3
        have m3 := (mz.keep f2 (by omega)).keep a2 (by omega)
        have Y3 := Y2.keep a2
        have hend := m3.rend (q := q) (by omega)
        rw [e2] at hend
        have hend : zia z3 (A + 1) (nI q) = some (nI e) := hend
        obtain ⟨z4, c1, c2, c3⟩ := s_addNumber a3 (nI e)
        rw [dn_nI (by omega), List.take_of_length_le (by rw [List.length_append]; omega)] at c3
        have ea : x + 2 + 1 + 2 * (6 * s + q) = x + 3 + 2 * (6 * s + q) := by omega
        rw [Y2.g4, Option.bind_some, Y2.e4 hs100, Option.bind_some, Y2.g2, Option.bind_some, X2.g2, Option.bind_some, n6, pk_mul, nI_add, show s * 6 + q = 6 * s + q by omega, X2.2.2.1.el (by omega), ea, Option.bind_some, zif_ok hw0.1, a1, Option.bind_some]
        dsimp only
        rw [Y3.g4, Option.bind_some, Y3.e4 hs100, Option.bind_some, m3.f3, Option.bind_some, hend, Option.bind_some, zif_ok a3.1, c1, Option.bind_some]
        dsimp only
        have f4 : zFr (y + 3 + 2 * s) (y + 3 + 2 * s + 2) z2 z4 := a2.tr c2
        have ys4 := ys2.ends hs100 f4 c3
        have si4 := siF si2 (f4.eq (by omega))
        have m4 := m3.keep c2 (by omega)
        -- the loop ends: it has an end now
        have stop : zm_X1_setEnd 9 [some (.inr y), some (.inr A), some (.inl (nI s)), some (.inl (nI q + 1))] [] z4 = some (0, 0, z4) := by
          rw [nI_1, e_X1_setEnd_9, m4.n, Option.bind_some]
          by_cases c : q + 1 < M.1
          · rw [if_pos ((nI_ltI (by omega) (by omega)).mpr c), ys4.1.g3, Option.bind_some, ys4.1.rb hs100, f4.I (by omega), v2, if_pos rfl, Option.bind_some, if_neg (by decide)]
          · rw [if_neg (by rw [nI_ltI (by omega) (by omega)]; exact c)]
        rw [stop]
        refine ⟨z4, rfl, f1'.tr ((f2.wide (by omega) (by omega)).tr (f4.wide (by omega) (by omega))), ⟨si4, ys4⟩, by rw [f4.I (by omega), v2, if_pos rfl, hst]; rfl, fun v hv => ?_, fun t ht => ⟨by rw [f4.I (by omega), v2, if_neg ht, v1, if_neg ht], fun _ => (f1.eq (by omega)).tr ((f2.eq (by omega)).tr (f4.eq (by omega)))⟩⟩
        rw [hst] at hv
        cases hv
        exact c3
  · rintro z ⟨rfl, hj⟩
    have mz := mM.keep f1 (by omega)
    have hst : stEnd M k = none := hnone (fun j hj6 => by
      by_cases c : j < M.1
      · exact hj j c
      · cases e : M.2.2.1 j with
        | none => simp
        | some w => exact absurd (kM.2.2.1 j w e).1 c)
    rw [e_X1_setEnd_9, mz.n, Option.bind_some, if_neg (by rw [nI_ltI (by omega) (by omega)]; omega), hst]
    exact ⟨z, rfl, f1', ⟨si1, ys1⟩, by rw [v1, if_pos rfl]; rfl, fun v hv => (by cases hv), fun t ht => ⟨by rw [v1, if_neg ht], fun _ => f1.eq (by omega)⟩⟩
