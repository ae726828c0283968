/-! The class Difference: what stands where; keep. -/
def kAt (K : List zCf) (i : Nat) : zCf := K.getD i ((0, 0), [], [])
theorem kAt_get {K : List zCf} {i : Nat} (h : i < K.length) : K[i]? = some (kAt K i) := by
  unfold kAt
  rw [List.getD_eq_getElem?_getD, List.getElem?_eq_getElem h]
  rfl
theorem kAt_mem {K : List zCf} {i : Nat} (h : i < K.length) : kAt K i ∈ K := List.mem_of_getElem? (kAt_get h)
theorem kAt_l {K t : List zCf} {i : Nat} (h : i < K.length) : kAt (K ++ t) i = kAt K i := by
  unfold kAt
  rw [List.getD_eq_getElem?_getD, List.getElem?_append_left h, ← List.getD_eq_getElem?_getD]
theorem kAt_r {K t : List zCf} {i : Nat} : kAt (K ++ t) (K.length + i) = kAt t i := by
  unfold kAt
  rw [List.getD_eq_getElem?_getD, List.getElem?_append_right (by omega), Nat.add_sub_cancel_left, ← List.getD_eq_getElem?_getD]
def cntK (K : List zCf) (pq : Nat × Nat) : Nat := (K.filter fun k => decide (k.1 = pq)).length
theorem cntK_app (K : List zCf) (c : zCf) (pq : Nat × Nat) : cntK (K ++ [c]) pq = cntK K pq + if c.1 = pq then 1 else 0 := by
  unfold cntK
  rw [List.filter_append, List.length_append]
  by_cases e : c.1 = pq
  · rw [if_pos e]; simp [e]
  · rw [if_neg e]; simp [e]
theorem rejC_f (K : List zCf) (c : zCf) : rejC K c = (decide (2 ≤ cntK K c.1) || (K.filter fun k => decide (k.1 = c.1)).any fun k => apt k || decide (k = c)) := by
  unfold rejC cntK
  rw [List.any_filter]
theorem rej_0 {K : List zCf} {c : zCf} (h : cntK K c.1 = 0) : rejC K c = false := by
  rw [rejC_f, h]
  unfold cntK at h
  rw [List.length_eq_zero_iff.mp h]
  rfl
theorem rej_1 {K : List zCf} {c k : zCf} (h : cntK K c.1 = 1) (hk : k ∈ K) (e : k.1 = c.1) : rejC K c = (apt k || decide (k = c)) := by
  rw [rejC_f, h]
  unfold cntK at h
  obtain ⟨x, hx⟩ := List.length_eq_one_iff.mp h
  have hm : k ∈ K.filter fun k => decide (k.1 = c.1) := List.mem_filter.mpr ⟨hk, decide_eq_true e⟩
  rw [hx] at hm ⊢
  rw [List.mem_singleton.mp hm]
  simp
theorem rej_2 {K : List zCf} {c : zCf} (h : 2 ≤ cntK K c.1) : rejC K c = true := by
  rw [rejC_f, decide_eq_true h]
  rfl
theorem cnt_pos {K : List zCf} {i : Nat} (h : i < K.length) : 1 ≤ cntK K (kAt K i).1 := by
  unfold cntK
  exact List.length_pos_of_mem (List.mem_filter.mpr ⟨kAt_mem h, decide_eq_true rfl⟩)
def T0 : List (Nat × Nat × Nat × Nat) := [(2, 367, 101, 36), (3, 368, 101, 36), (4, 369, 101, 73), (5, 370, 101, 73), (6, 371, 101, 73), (7, 372, 101, 73)]
def DX (h : zM) (d : Nat) : Prop := Lay T0 0 h d ∧ (zF h d 0 = d + 1 ∧ zF h d 9 = d + 373 ∧ zF h d 10 = d + 375) ∧ zK h (d + 1) = 106 ∧ zN h (d + 1) = 73 ∧ ∀ i, i < 73 → zF h (d + 1) i = d + 2 + 5 * i
theorem DX.keep {h h' : zM} {d lo hi : Nat} (x : DX h d) (f : zFr lo hi h h') : DX h' d :=
  ⟨x.1.keep f, ⟨by rw [f.F]; exact x.2.1.1, by rw [f.F]; exact x.2.1.2.1, by rw [f.F]; exact x.2.1.2.2⟩, by rw [f.K]; exact x.2.2.1, by rw [f.N]; exact x.2.2.2.1, fun i hi => by rw [f.F]; exact x.2.2.2.2 i hi⟩
theorem DX.eq {h h' : zM} {d : Nat} (x : DX h d) (f : zEq d (d + 2) h h') : DX h' d :=
  ⟨x.1.eq (f.sub (by omega) (by omega)), ⟨by rw [f.F (by omega) (by omega)]; exact x.2.1.1, by rw [f.F (by omega) (by omega)]; exact x.2.1.2.1, by rw [f.F (by omega) (by omega)]; exact x.2.1.2.2⟩, by rw [f.K]; exact x.2.2.1, by rw [f.N]; exact x.2.2.2.1, fun i hi => by rw [f.F (by omega) (by omega)]; exact x.2.2.2.2 i hi⟩
section DXR
variable {h : zM} {d : Nat}
theorem DX.g0 (x : DX h d) : zgF h d 0 0 = some (d + 1) := (zgF_ok x.1.1).trans (congrArg some x.2.1.1)
theorem DX.g9 (x : DX h d) : zgF h d 0 9 = some (d + 373) := (zgF_ok x.1.1).trans (congrArg some x.2.1.2.1)
theorem DX.g10 (x : DX h d) : zgF h d 0 10 = some (d + 375) := (zgF_ok x.1.1).trans (congrArg some x.2.1.2.2)
theorem DX.g2 (x : DX h d) : zgF h d 0 2 = some (d + 367) := (zgF_ok x.1.1).trans (congrArg some (x.1.2 (2, 367, 101, 36) (by decide)).1)
theorem DX.g3 (x : DX h d) : zgF h d 0 3 = some (d + 368) := (zgF_ok x.1.1).trans (congrArg some (x.1.2 (3, 368, 101, 36) (by decide)).1)
theorem DX.g4 (x : DX h d) : zgF h d 0 4 = some (d + 369) := (zgF_ok x.1.1).trans (congrArg some (x.1.2 (4, 369, 101, 73) (by decide)).1)
theorem DX.g5 (x : DX h d) : zgF h d 0 5 = some (d + 370) := (zgF_ok x.1.1).trans (congrArg some (x.1.2 (5, 370, 101, 73) (by decide)).1)
theorem DX.g6 (x : DX h d) : zgF h d 0 6 = some (d + 371) := (zgF_ok x.1.1).trans (congrArg some (x.1.2 (6, 371, 101, 73) (by decide)).1)
theorem DX.g7 (x : DX h d) : zgF h d 0 7 = some (d + 372) := (zgF_ok x.1.1).trans (congrArg some (x.1.2 (7, 372, 101, 73) (by decide)).1)
theorem DX.k (x : DX h d) {j : Nat} (hj : j = 369 ∨ j = 370 ∨ j = 371 ∨ j = 372) : zK h (d + j) = 101 ∧ zN h (d + j) = 73 := by
  rcases hj with rfl | rfl | rfl | rfl
  · exact (x.1.2 (4, 369, 101, 73) (by decide)).2
  · exact (x.1.2 (5, 370, 101, 73) (by decide)).2
  · exact (x.1.2 (6, 371, 101, 73) (by decide)).2
  · exact (x.1.2 (7, 372, 101, 73) (by decide)).2
theorem DX.k6 (x : DX h d) {j : Nat} (hj : j = 367 ∨ j = 368) : zK h (d + j) = 101 ∧ zN h (d + j) = 36 := by
  rcases hj with rfl | rfl
  · exact (x.1.2 (2, 367, 101, 36) (by decide)).2
  · exact (x.1.2 (3, 368, 101, 36) (by decide)).2
theorem DX.r (x : DX h d) {j i : Nat} (hj : j = 369 ∨ j = 370 ∨ j = 371 ∨ j = 372) (hi : i < 73) : zia h (d + j) (nI i) = some (zI h (d + j) i) := by
  have := x.k hj
  exact zia_ok this.1 (by omega) (by omega)
theorem DX.w (x : DX h d) {j i : Nat} (hj : j = 369 ∨ j = 370 ∨ j = 371 ∨ j = 372) (hi : i < 73) (y : Int32) : zis h (d + j) (nI i) y = some (zsI h (d + j) i y) := by
  have := x.k hj
  exact zis_ok this.1 (by omega) (by omega)
theorem DX.r6 (x : DX h d) {j i : Nat} (hj : j = 367 ∨ j = 368) (hi : i < 36) : zia h (d + j) (nI i) = some (zI h (d + j) i) := by
  have := x.k6 hj
  exact zia_ok this.1 (by omega) (by omega)
theorem DX.w6 (x : DX h d) {j i : Nat} (hj : j = 367 ∨ j = 368) (hi : i < 36) (y : Int32) : zis h (d + j) (nI i) y = some (zsI h (d + j) i y) := by
  have := x.k6 hj
  exact zis_ok this.1 (by omega) (by omega)
theorem DX.p (x : DX h d) {i : Nat} (hi : i < 73) : zaa h (d + 1) (nI i) = some (d + 2 + 5 * i) := by
  rw [zaa_ok (by rw [x.2.2.1]; omega) (by rw [x.2.2.2.1]; exact hi) (by rw [x.2.2.2.1]; omega), x.2.2.2.2 i hi]
end DXR
/-- the object as it may stand -/
def DS (h : zM) (d : Nat) : Prop := DX h d ∧ (∀ i, i < 73 → ∃ c, PrC h (d + 2 + 5 * i) 222 c) ∧ (∃ w, Wd h (d + 373) 225 w) ∧ ∃ w, Wd h (d + 375) 225 w
theorem DS.eq {h h' : zM} {d : Nat} (x : DS h d) (f : zEq d (d + 377) h h') : DS h' d := by
  obtain ⟨a, b, ⟨w, hw⟩, w2, hw2⟩ := x
  exact ⟨a.eq (f.sub (by omega) (by omega)), fun i hi => by
    obtain ⟨c, hc⟩ := b i hi
    exact ⟨c, hc.eq (f.sub (by omega) (by omega))⟩, ⟨w, hw.eq (f.sub (by omega) (by omega))⟩, w2, hw2.eq (f.sub (by omega) (by omega))⟩
/-- changes outside pairs and words -/
theorem DS.out {h h' : zM} {d : Nat} (x : DS h d) (f : zFr d (d + 377) h h') (e1 : zEq (d + 2) (d + 367) h h') (e2 : zEq (d + 373) (d + 377) h h') : DS h' d := by
  obtain ⟨a, b, ⟨w, hw⟩, w2, hw2⟩ := x
  exact ⟨a.keep f, fun i hi => by
    obtain ⟨c, hc⟩ := b i hi
    exact ⟨c, hc.eq (e1.sub (by omega) (by omega))⟩, ⟨w, hw.eq (e2.sub (by omega) (by omega))⟩, w2, hw2.eq (e2.sub (by omega) (by omega))⟩
/-- one pair's place is written -/
theorem DS.pair {h h' : zM} {d i : Nat} {c : zCf} (x : DS h d) (hi : i < 73) (f : zFr (d + 2 + 5 * i) (d + 2 + 5 * i + 5) h h') (hc : PrC h' (d + 2 + 5 * i) 222 c) : DS h' d := by
  obtain ⟨a, b, ⟨w, hw⟩, w2, hw2⟩ := x
  refine ⟨a.keep f, fun j hj => ?_, ⟨w, hw.eq (f.eq (by omega))⟩, w2, hw2.eq (f.eq (by omega))⟩
  by_cases e : j = i
  · subst e; exact ⟨c, hc⟩
  · obtain ⟨c', hc'⟩ := b j hj
    exact ⟨c', hc'.keep f (by omega)⟩
/-- the pairs that are kept -/
def DK (h : zM) (d : Nat) (K : List zCf) : Prop := zI h d 1 = nI K.length ∧ (∀ i, i < K.length → PrC h (d + 2 + 5 * i) 222 (kAt K i)) ∧ (∀ p q, p < 6 → q < 6 → zI h (d + 368) (p * 6 + q) = nI (cntK K (p, q))) ∧
  ∀ p q, p < 6 → q < 6 → 0 < cntK K (p, q) → ∃ i, i < K.length ∧ zI h (d + 367) (p * 6 + q) = nI i ∧ (kAt K i).1 = (p, q)
theorem DK.eq {h h' : zM} {d : Nat} {K : List zCf} (k : DK h d K) (hl : K.length ≤ 73) (e0 : zI h' d 1 = zI h d 1) (e1 : zEq (d + 2) (d + 369) h h') : DK h' d K :=
  ⟨e0.trans k.1, fun i hi => (k.2.1 i hi).eq (e1.sub (by omega) (by omega)), fun p q hp hq => by rw [e1.I (by omega) (by omega)]; exact k.2.2.1 p q hp hq, fun p q hp hq hc => by
    obtain ⟨i, h1, h2, h3⟩ := k.2.2.2 p q hp hq hc
    exact ⟨i, h1, by rw [e1.I (by omega) (by omega)]; exact h2, h3⟩⟩
/-- the place behind the kept pairs is written -/
theorem DK.pair {h h' : zM} {d : Nat} {K : List zCf} (k : DK h d K) (f : zFr (d + 2 + 5 * K.length) (d + 2 + 5 * K.length + 5) h h') (hl : K.length ≤ 72) : DK h' d K :=
  ⟨(f.I (by omega) _).trans k.1, fun i hi => (k.2.1 i hi).keep f (by omega), fun p q hp hq => by rw [f.I (by omega)]; exact k.2.2.1 p q hp hq, fun p q hp hq hc => by
    obtain ⟨i, h1, h2, h3⟩ := k.2.2.2 p q hp hq hc
    exact ⟨i, h1, by rw [f.I (by omega)]; exact h2, h3⟩⟩
theorem s_Dkeep {h : zM} {d : Nat} {K : List zCf} {c : zCf} (x : DS h d) (k : DK h d K) (t : two K) (hl : K.length ≤ 72) (hc : PrC h (d + 2 + 5 * K.length) 222 c) (h6 : c.1.1 < 6 ∧ c.1.2 < 6) :
    ∃ h', zf nX0_keep [.inr d] h = some (0, 0, h') ∧ zFr d (d + 377) h h' ∧ zEq (d + 369) (d + 377) h h' ∧ zI h' d 8 = zI h d 8 ∧ DS h' d ∧ DK h' d (addC FT K c) := by
  have X := x.1
  have k0 : zgI h d 0 1 = some (nI K.length) := (zgI_ok X.1.1).trans (congrArg some k.1)
  have hcnt := t (c.1.1, c.1.2)
  have hcnt : cntK K (c.1.1, c.1.2) ≤ 2 := hcnt
  have hidx : c.1.1 * 6 + c.1.2 < 36 := by omega
  have rk : zia h (d + 368) (nI (c.1.1 * 6 + c.1.2)) = some (nI (cntK K (c.1.1, c.1.2))) := by rw [X.r6 (Or.inr rfl) hidx, k.2.2.1 _ _ h6.1 h6.2]
  have e6 : nI c.1.1 * 6 + nI c.1.2 = nI (c.1.1 * 6 + c.1.2) := by rw [n6, pk_mul, nI_add]
  -- the pair comes behind the others
  have app : ∀ g : zM, zFr d (d + 377) h g → zEq (d + 2) (d + 367) h g → zEq (d + 369) (d + 377) h g → zI g d 8 = zI h d 8 → zI g d 1 = zI h d 1 → (∀ i, i ≠ c.1.1 * 6 + c.1.2 → zI g (d + 367) i = zI h (d + 367) i ∧ zI g (d + 368) i = zI h (d + 368) i) → zI g (d + 368) (c.1.1 * 6 + c.1.2) = nI (cntK K (c.1.1, c.1.2) + 1) → (∃ i, i < K.length + 1 ∧ zI g (d + 367) (c.1.1 * 6 + c.1.2) = nI i ∧ (kAt (K ++ [c]) i).1 = (c.1.1, c.1.2)) → rejC K c = false →
      ∃ h', ((zgI g d 0 1).bind fun v8 => (zpI g d 0 1 (v8 + (1 : Int32))).bind fun h3 => some (((0, 0, h3) : zR))) = some (0, 0, h') ∧ zFr d (d + 377) h h' ∧ zEq (d + 369) (d + 377) h h' ∧ zI h' d 8 = zI h d 8 ∧ DS h' d ∧ DK h' d (addC FT K c) := by
    intro g f e1 e2 e8 e9 e3 e4 e5 hr
    have ea : addC FT K c = K ++ [c] := if_pos ⟨rfl, hr⟩
    have Xg := X.keep f
    have fz : zFr d (d + 1) g (zsI g d 1 (nI (K.length + 1))) := zFr_sI (by omega) (by omega)
    have ff := f.tr (fz.wide (lo' := d) (hi' := d + 377) (by omega) (by omega))
    have d1 : zEq (d + 2) (d + 367) h (zsI g d 1 (nI (K.length + 1))) := e1.tr (fz.eq (by omega))
    have d2 : zEq (d + 369) (d + 377) h (zsI g d 1 (nI (K.length + 1))) := e2.tr (fz.eq (by omega))
    refine ⟨zsI g d 1 (nI (K.length + 1)), ?_, ff, d2, by rw [zI_sI_k (by decide)]; exact e8, x.out ff d1 (d2.sub (by omega) (by omega)), ?_⟩
    · rw [zgI_ok Xg.1.1, e9, k.1, Option.bind_some, nI_1, zpI_ok Xg.1.1]
      rfl
    · rw [ea]
      refine ⟨by rw [zI_sI]; simp, fun i hi => ?_, fun p q hp hq => ?_, fun p q hp hq hpos => ?_⟩
      · rw [List.length_append] at hi
        by_cases ei : i < K.length
        · rw [kAt_l ei]
          exact (k.2.1 i ei).eq (d1.sub (by omega) (by omega))
        · have : i = K.length := by simp at hi; omega
          subst this
          have := kAt_r (K := K) (t := [c]) (i := 0)
          rw [Nat.add_zero] at this
          rw [this]
          exact hc.eq (d1.sub (by omega) (by omega))
      · rw [zI_sI_a (by omega), cntK_app]
        by_cases ep : c.1 = (p, q)
        · rw [if_pos ep]
          have e1' : c.1.1 = p := congrArg Prod.fst ep
          have e2' : c.1.2 = q := congrArg Prod.snd ep
          rw [← e1', ← e2']
          exact e4
        · rw [if_neg ep, Nat.add_zero, (e3 _ (fun z => ep (Prod.ext (by show c.1.1 = p; omega) (by show c.1.2 = q; omega)))).2]
          exact k.2.2.1 p q hp hq
      · rw [zI_sI_a (by omega), List.length_append]
        by_cases ep : c.1 = (p, q)
        · have e1' : c.1.1 = p := congrArg Prod.fst ep
          have e2' : c.1.2 = q := congrArg Prod.snd ep
          rw [← e1', ← e2']
          exact e5
        · rw [cntK_app, if_neg ep, Nat.add_zero] at hpos
          obtain ⟨i, h1, h2, h3⟩ := k.2.2.2 p q hp hq hpos
          refine ⟨i, by omega, ?_, by rw [kAt_l h1]; exact h3⟩
          rw [(e3 _ (fun z => ep (Prod.ext (by show c.1.1 = p; omega) (by show c.1.2 = q; omega)))).1]
          exact h2
  have no : rejC K c = true → addC FT K c = K := fun hr => if_neg (fun z => by rw [hr] at z; cases z.2)
  have stay : rejC K c = true → ∃ h', some (((0, 0, h) : zR)) = some (0, 0, h') ∧ zFr d (d + 377) h h' ∧ zEq (d + 369) (d + 377) h h' ∧ zI h' d 8 = zI h d 8 ∧ DS h' d ∧ DK h' d (addC FT K c) := fun hr => by
    rw [no hr]
    exact ⟨h, rfl, zFr.rf, zEq.rf, rfl, x, k⟩
  rw [e_X0_keep]
  simp only [X.g0, k0, X.p (show K.length < 73 by omega), hc.i0, hc.i1, X.g3, X.g2, Option.bind_some, e6, rk]
  by_cases c2 : cntK K (c.1.1, c.1.2) < 2
  · rw [if_pos (by rw [n2, nI_ltI (by omega) (by omega)]; exact c2)]
    by_cases c0 : cntK K (c.1.1, c.1.2) = 0
    · rw [if_pos (by rw [c0]; rfl), X.w6 (Or.inl rfl) hidx, Option.bind_some]
      have f1 : zFr (d + 367) (d + 368) h (zsI h (d + 367) (c.1.1 * 6 + c.1.2) (nI K.length)) := zFr_sI (by omega) (by omega)
      have X1 := X.keep f1
      rw [X1.g3, Option.bind_some, X1.r6 (Or.inr rfl) hidx, zI_sI_a (by omega), k.2.2.1 _ _ h6.1 h6.2, Option.bind_some, nI_1, X1.w6 (Or.inr rfl) hidx, Option.bind_some]
      have f2 := f1.tr (zFr_sI (lo := d + 367) (hi := d + 368) (a := d + 367) (k := 0) (x := zI (zsI h (d + 367) (c.1.1 * 6 + c.1.2) (nI K.length)) (d + 367) 0) (by omega) (by omega))
      clear f2
      have f3 : zFr (d + 367) (d + 369) h (zsI (zsI h (d + 367) (c.1.1 * 6 + c.1.2) (nI K.length)) (d + 368) (c.1.1 * 6 + c.1.2) (nI (cntK K (c.1.1, c.1.2) + 1))) := (f1.wide (by omega) (by omega)).tr (zFr_sI (by omega) (by omega))
      refine app _ (f3.wide (by omega) (by omega)) (f3.eq (by omega)) (f3.eq (by omega)) (f3.I (by omega) _) (f3.I (by omega) _) (fun i hi => ⟨?_, ?_⟩) zI_sI ⟨K.length, by omega, ?_, ?_⟩ (rej_0 c0)
      · rw [zI_sI_a (by omega), zI_sI_k hi]
      · rw [zI_sI_k hi, zI_sI_a (by omega)]
      · rw [zI_sI_a (by omega), zI_sI]
      · have := kAt_r (K := K) (t := [c]) (i := 0)
        rw [Nat.add_zero] at this
        rw [this]
        rfl
    · have c1 : cntK K (c.1.1, c.1.2) = 1 := by omega
      obtain ⟨i, i1, i2, i3⟩ := k.2.2.2 _ _ h6.1 h6.2 (by omega)
      have ki := k.2.1 i i1
      have rf : zia h (d + 367) (nI (c.1.1 * 6 + c.1.2)) = some (nI i) := by rw [X.r6 (Or.inl rfl) hidx, i2]
      have hrej := rej_1 (K := K) (c := c) c1 (kAt_mem i1) i3
      rw [if_neg (by rw [c1]; decide)]
      simp only [rf, X.p (show i < 73 by omega), Option.bind_some, zif_ok ki.1.1, s_PisApart ki]
      cases ap : apt (kAt K i) with
      | true =>
        rw [ap] at hrej
        rw [if_neg (by decide)]
        exact stay hrej
      | false =>
        rw [ap, Bool.false_or] at hrej
        have hi6 : (kAt K i).1.1 < 2 ^ 30 ∧ (kAt K i).1.2 < 2 ^ 30 := by rw [i3]; dsimp only; omega
        simp only [Bool.false_eq_true, if_false, if_true, X.g0, X.g2, rf, X.p (show i < 73 by omega), Option.bind_some, zif_ok ki.1.1, s_PisAlike ki hc hi6 (by omega)]
        by_cases ea : kAt K i = c
        · rw [if_pos ea, if_neg (by decide)]
          exact stay (by rw [hrej, decide_eq_true ea])
        · rw [if_neg ea, if_pos rfl]
          simp only [X.g3, Option.bind_some, rk, nI_1, X.w6 (Or.inr rfl) hidx]
          have f3 : zFr (d + 368) (d + 369) h (zsI h (d + 368) (c.1.1 * 6 + c.1.2) (nI (cntK K (c.1.1, c.1.2) + 1))) := zFr_sI (by omega) (by omega)
          refine app _ (f3.wide (by omega) (by omega)) (f3.eq (by omega)) (f3.eq (by omega)) (f3.I (by omega) _) (f3.I (by omega) _) (fun i hi => ⟨?_, ?_⟩) zI_sI ⟨i, by omega, ?_, ?_⟩ (by rw [hrej, decide_eq_false ea])
          · rw [zI_sI_a (by omega)]
          · rw [zI_sI_k hi]
          · rw [zI_sI_a (by omega)]; exact i2
          · rw [kAt_l i1]; exact i3
  · rw [if_neg (by rw [n2, nI_ltI (by omega) (by omega)]; exact c2)]
    exact stay (rej_2 (by show 2 ≤ cntK K (c.1.1, c.1.2); omega))
