/-! The reference: sequential. -/
theorem tsAn_t {o : Option (List Nat)} {M : zMa} {w W : zWt} (h : tsAn o M w = (true, W)) : o = none := by
  cases o with
  | none => rfl
  | some us => cases h
theorem tstF_t {M : zMa} {w W : zWt} (h : tstF M w = (true, W)) : difW FT M M = none := by
  unfold tstF at h
  exact tsAn_t h
theorem aSeq_lt {Ms : Nat → zMa} {st : zWt} {n j : Nat} {L : Option zMa} (hj : j < 2) {b : Bool} {W : zWt} (e : tstF (Ms j) st = (b, W)) : aSeq Ms st n L (nI j) = if n < 24 then (if b = true then (nI (sqA (Ms j)), W, n + 1, some (Ms j)) else (-1, W, n, L)) else (-2, st, n, L) := by
  have ct : isT (nI j) = true := by
    rcases (show j = 0 ∨ j = 1 by omega) with rfl | rfl <;> decide
  unfold aSeq
  rw [if_pos ct, nI_clamp (by omega), e]
theorem aSeq_no {Ms : Nat → zMa} {st : zWt} {n : Nat} {L : Option zMa} {t : Int32} (h : ¬ isT t = true) : aSeq Ms st n L t = (-1, st, n, L) := by
  unfold aSeq
  rw [if_neg h]
theorem zFr.of9 {h h' : zM} {m : Nat} (f : zFr (m + 9) (m + 12) h h') : zOf m [9, 10, 11] [] h h' :=
  ⟨f.1, f.2.1, funext fun a => (f.2.2 a).2, fun a h0 hL => (f.2.2 a).1 (fun w => by
    have e9 := hL 9 (by decide)
    have e10 := hL 10 (by decide)
    have e11 := hL 11 (by decide)
    omega), fun j _ => f.I (by omega) j⟩
abbrev Lq : List Nat := [9, 10, 11, 39, 40, 46, 47, 48, 49, 50, 51, 52, 53, 54, 55, 56, 57, 58, 59, 60, 61, 62, 63, 64, 65, 66, 67, 68, 69, 70, 71]
abbrev Jq : List Nat := [45, 46, 47, 54, 59, 60, 61, 62, 64, 74, 78, 79, 83]
/-- what is told of the latest machine -/
def LTm (h : zM) (m : Nat) (L : Option zMa) : Prop := (∀ w, w < 5 → zI h (m + 50) w = aTold L (nI w)) ∧ zI h m 78 = bI (lzO L).isSome ∧ ∀ M, L = some M → MaOk M ∧ difW FT M M = none ∧ (sqA M = 1 → LZm h m (lsZ M))
theorem LTm.o {h h' : zM} {m : Nat} {L : Option zMa} {K J : List Nat} (d : LTm h m L) (f : zOf m K J h h') (hL : ∀ k ∈ K, k < 50 ∨ 66 < k) (hJ : 78 ∉ J ∧ 79 ∉ J ∧ 83 ∉ J) : LTm h' m L :=
  ⟨fun w hw => (f.C (by decide) (fun hm => by have := hL 50 hm; omega) _).trans (d.1 w hw), (f.J hJ.1).trans d.2.1, fun M e => ⟨(d.2.2 M e).1, (d.2.2 M e).2.1, fun s => ((d.2.2 M e).2.2 s).o f (fun k hk => by have := hL k hk; omega) hJ.2⟩⟩
/-- how many ways among the first i places of four -/
def cnt4 (S : Nat → Bool) : Nat → Nat
  | 0 => 0
  | i + 1 => cnt4 S i + if i % 4 ≠ 0 ∧ S (3 * (i / 4) + (i % 4 - 1)) = true then 1 else 0
theorem cnt4_3 (S : Nat → Bool) : ∀ n, cnt4 S (4 * n) = cntP (3 * n) S
  | 0 => rfl
  | n + 1 => by
    have e4 : cnt4 S (4 * (n + 1)) = cnt4 S (4 * n + 1 + 1 + 1 + 1) := rfl
    have e3 : cntP (3 * (n + 1)) S = cntP (3 * n + 1 + 1 + 1) S := rfl
    have f0 : cnt4 S (4 * n + 1) = cnt4 S (4 * n) := by
      show cnt4 S (4 * n) + (if 4 * n % 4 ≠ 0 ∧ _ then 1 else 0) = _
      rw [if_neg (fun w => w.1 (by omega)), Nat.add_zero]
    have st : ∀ j, j < 3 → cnt4 S (4 * n + (j + 1) + 1) = cnt4 S (4 * n + (j + 1)) + if S (3 * n + j) = true then 1 else 0 := fun j hj => by
      show cnt4 S (4 * n + (j + 1)) + (if (4 * n + (j + 1)) % 4 ≠ 0 ∧ S (3 * ((4 * n + (j + 1)) / 4) + ((4 * n + (j + 1)) % 4 - 1)) = true then 1 else 0) = _
      rw [show (4 * n + (j + 1)) / 4 = n by omega, show (4 * n + (j + 1)) % 4 - 1 = j by omega]
      by_cases c : S (3 * n + j) = true
      · rw [if_pos c, if_pos ⟨by omega, c⟩]
      · rw [if_neg c, if_neg (fun w => c w.2)]
    rw [e4, e3, show 4 * n + 1 + 1 + 1 + 1 = 4 * n + (2 + 1) + 1 from rfl, st 2 (by omega), show 4 * n + (2 + 1) = 4 * n + (1 + 1) + 1 from rfl, st 1 (by omega), show 4 * n + (1 + 1) = 4 * n + (0 + 1) + 1 from rfl, st 0 (by omega), show 4 * n + (0 + 1) = 4 * n + 1 from rfl, f0, cnt4_3 S n, Nat.add_zero, cntP_succ, cntP_succ, cntP_succ]
theorem n_div4 : ∀ k, k < 404 → nI k / (4 : Int32) = nI (k / 4) ∧ nI k - nI k / (4 : Int32) * (4 : Int32) = nI (k % 4) := by decide +kernel
section SEQ
variable {h : zM} {m : Nat} {M : zMa}
theorem cnt4_le (S : Nat → Bool) : ∀ n, cnt4 S n ≤ n
  | 0 => Nat.le_refl _
  | n + 1 => by
    have := cnt4_le S n
    show cnt4 S n + _ ≤ n + 1
    split <;> omega
/-- the ways are counted -/
theorem s_seq168 {a1 a2 a3 : Int32} (sg : sGood M) (lay : MLay h m) (lz : LZm h m (lsZ M)) (e4 : zI h (m + 50) 4 = 0) :
    ∃ h', zm_X12_sequential 168 [some (.inr m), some (.inl a1), some (.inl a2), some (.inl a3), some (.inl (0 : Int32))] [] h = some (1, 0, h') ∧ zOf m [50] [] h h' ∧ zI h' (m + 50) 4 = nI (lsA M) ∧ ∀ w, w ≠ 4 → zI h' (m + 50) w = zI h (m + 50) w := by
  have hN := sg.2.2.2
  have lp : (lsP M).length ≤ (sMake M).1.length := lsP_len sg
  have z1 : (lsZ M).1 = (lsP M).length := lsZ_1
  have loop := zlp (P := fun i z => zOf m [50] [] h z ∧ zI z (m + 50) 4 = nI (cnt4 (fun i => ((lsZ M).2.2.2 i).isSome) i) ∧ ∀ w, w ≠ 4 → zI z (m + 50) w = zI h (m + 50) w) (g := fun i z => zm_X12_sequential 168 [some (.inr m), some (.inl a1), some (.inl a2), some (.inl a3), some (.inl (nI i))] [] z) (n := 4 * (lsP M).length) (fun i z hi hP => by
    obtain ⟨oz, hz4, hzw⟩ := hP
    have lz' := lz.o oz (by decide) (by decide)
    have ly := oz.lay lay
    have dv := n_div4 i (by omega)
    have c4 := cnt4_le (fun i => ((lsZ M).2.2.2 i).isSome) i
    have add : ∀ x : Int32, ∀ c' : Nat, nI (cnt4 (fun i => ((lsZ M).2.2.2 i).isSome) i) + x = nI c' → c' = cnt4 (fun i => ((lsZ M).2.2.2 i).isSome) (i + 1) → ∃ h', ((zis z (m + 50) (nI 4) (nI (cnt4 (fun i => ((lsZ M).2.2.2 i).isSome) i) + x)).bind fun h1 => zm_X12_sequential 168 [some (.inr m), some (.inl a1), some (.inl a2), some (.inl a3), some (.inl (nI (i + 1)))] [] h1) = zm_X12_sequential 168 [some (.inr m), some (.inl a1), some (.inl a2), some (.inl a3), some (.inl (nI (i + 1)))] [] h' ∧ zOf m [50] [] h h' ∧ zI h' (m + 50) 4 = nI (cnt4 (fun i => ((lsZ M).2.2.2 i).isSome) (i + 1)) ∧ ∀ w, w ≠ 4 → zI h' (m + 50) w = zI h (m + 50) w := fun x c' hx hc => by
      rw [mw63 ly (by omega), Option.bind_some, hx, hc]
      exact ⟨_, rfl, oz.tr (zOf_sI (by decide) (by decide)), zI_sI, fun w hw => (zI_sI_k hw).trans (hzw w hw)⟩
    have cs : cnt4 (fun i => ((lsZ M).2.2.2 i).isSome) (i + 1) = cnt4 (fun i => ((lsZ M).2.2.2 i).isSome) i + if i % 4 ≠ 0 ∧ ((lsZ M).2.2.2 (3 * (i / 4) + (i % 4 - 1))).isSome = true then 1 else 0 := rfl
    rw [e_X12_sequential_168, mi79 ly, Option.bind_some, lz'.1, z1, n4, pk_mul, if_pos ((nI_ltI (by omega) (by omega)).mpr hi), mF63 ly, Option.bind_some, mr63 ly (by omega), Option.bind_some, hz4, if_neg (by decide), ← n4, dv.2, nI_1, n4]
    by_cases c0 : i % 4 = 0
    · rw [c0, if_neg (by decide)]
      exact add 0 _ (Int32.add_zero _) (by rw [cs, if_neg (fun w => w.1 c0), Nat.add_zero])
    · rw [if_pos (by rw [n0, nI_ltI (by omega) (by omega)]; omega), mF80 ly, Option.bind_some, mr80 ly (by omega), Option.bind_some]
      have hw := (lz'.2.2 (i / 4) (by omega)).2 (i % 4 - 1) (by omega)
      rw [show 4 * (i / 4) + (i % 4 - 1 + 1) = i by omega] at hw
      have hw2 := hw.2
      cases eg : (lsZ M).2.2.2 (3 * (i / 4) + (i % 4 - 1)) with
      | none =>
        rw [eg] at hw2
        dsimp only at hw2
        rw [hw2, if_pos (by decide)]
        exact add 0 _ (Int32.add_zero _) (by rw [cs, if_neg (fun w => by rw [eg] at w; cases w.2), Nat.add_zero])
      | some p =>
        rw [eg] at hw2
        dsimp only at hw2
        have plt := lsZ_lt sg (show i / 4 < (lsP M).length by omega) (show i % 4 - 1 < 3 by omega) eg
        rw [hw2, if_neg (nI_nn (by omega))]
        exact add 1 _ (nI_1 _) (by rw [cs, if_pos ⟨c0, by rw [eg]; rfl⟩])) 0 h (Nat.zero_le _) ⟨zOf.rf, e4, fun _ _ => rfl⟩
  obtain ⟨z, e1, e2, e3, e5⟩ := loop
  have ly := e2.lay lay
  refine ⟨z, ?_, e2, ?_, e5⟩
  · refine (show _ = _ from e1).trans ?_
    rw [e_X12_sequential_168, mi79 ly, Option.bind_some, e2.J (by decide), lz.1, z1, n4, pk_mul, if_neg (by rw [nI_ltI (by omega) (by omega)]; omega)]
  · rw [e3, cnt4_3]
    rfl
theorem twRun_lt (M : zMa) (lim : Nat) : ∀ (f start lv : Nat) (S : zTs), (twRun M lim f start lv S).1 < 3
  | 0, _, _, _ => (by decide : 1 < 3)
  | f + 1, start, lv, S => by
    show (if start < S.1.length then (if S.2 = true then (0, lv + 1, S) else if 1000 < S.1.length then (2, lv + 1, S) else twRun M lim f S.1.length (lv + 1) (twLv M lim start S)) else (1, lv, S)).1 < 3
    split
    · split
      · exact (by decide : 0 < 3)
      · split
        · exact (by decide : 2 < 3)
        · exact twRun_lt M lim f _ _ _
    · exact (by decide : 1 < 3)
/-- all that is told -/
theorem told5 {P : Nat → Prop} (h0 : P 0) (h1 : P 1) (h2 : P 2) (h3 : P 3) (h4 : P 4) : ∀ w, w < 5 → P w := fun w hw => by
  rcases (show w = 0 ∨ w = 1 ∨ w = 2 ∨ w = 3 ∨ w = 4 by omega) with e | e | e | e | e <;> rw [e] <;> assumption
theorem aTold_0 : aTold (some M) (nI 0) = nI (twJ M).2.1 := by
  unfold aTold
  dsimp only
  rw [if_pos (show nI 0 = 0 by decide)]
theorem aTold_1 : aTold (some M) (nI 1) = nI (twJ M).2.2.1.length := by
  unfold aTold
  dsimp only
  rw [if_neg (show ¬ nI 1 = 0 by decide), if_pos (show nI 1 = 1 by decide)]
theorem aTold_2 : aTold (some M) (nI 2) = sqS M := by
  unfold aTold
  dsimp only
  rw [if_neg (show ¬ nI 2 = 0 by decide), if_neg (show ¬ nI 2 = 1 by decide), if_pos (show nI 2 = 2 by decide)]
theorem aTold_3 : aTold (some M) (nI 3) = if sqA M = 1 then nI (lsP M).length else -1 := by
  unfold aTold
  dsimp only
  rw [if_neg (show ¬ nI 3 = 0 by decide), if_neg (show ¬ nI 3 = 1 by decide), if_neg (show ¬ nI 3 = 2 by decide), if_pos (show nI 3 = 3 by decide)]
theorem aTold_4 : aTold (some M) (nI 4) = if sqA M = 1 then nI (lsA M) else -1 := by
  unfold aTold
  dsimp only
  rw [if_neg (show ¬ nI 4 = 0 by decide), if_neg (show ¬ nI 4 = 1 by decide), if_neg (show ¬ nI 4 = 2 by decide), if_neg (show ¬ nI 4 = 3 by decide), if_pos (show nI 4 = 4 by decide)]
theorem lzO_1 (e : sqA M = 1) : lzO (some M) = some (lsZ M) := if_pos e
theorem lzO_n (e : sqA M ≠ 1) : lzO (some M) = none := if_neg e
theorem sqA_no (e : (twJ M).1 ≠ 1) : sqA M = (twJ M).1 := if_neg e
theorem sqA_1 (e : (twJ M).1 = 1) (f : (sMake M).1.length ≤ 100) : sqA M = 1 := (if_pos e).trans (if_pos f)
theorem sqA_2 (e : (twJ M).1 = 1) (f : ¬ (sMake M).1.length ≤ 100) : sqA M = 2 := (if_pos e).trans (if_neg f)
theorem sqS_1 (e : (twJ M).1 = 1) : sqS M = nI (sMake M).1.length := if_pos e
theorem sqS_n (e : (twJ M).1 ≠ 1) : sqS M = -1 := if_neg e
/-- behind the twins -/
theorem s_seq79 {t : Nat} {Ms : Nat → zMa} (d : MMs h m Ms) (hk : ∀ t, t < 2 → MaOk (Ms t)) (ht : t < 2) (us : MUs h m t (Ms t)) (hf : difW FT (Ms t) (Ms t) = none) (e0 : zI h (m + 50) 0 = nI (twJ (Ms t)).2.1) (e1 : zI h (m + 50) 1 = nI (twJ (Ms t)).2.2.1.length) (e78 : zI h m 78 = 0) (htw : (twJ (Ms t)).1 < 3) :
    ∃ h', zm_X12_sequential 79 [some (.inr m), some (.inl (nI t)), some (.inl (nI (twJ (Ms t)).1)), some (.inl (2 : Int32)), none] [] h = some (nI (sqA (Ms t)), 0, h') ∧ zOf m Lq Jq h h' ∧ zI h' m 62 = zI h m 62 ∧ LTm h' m (some (Ms t)) := by
  have kM := hk t ht
  have lay := d.1
  have cp := zwr (g := fun i z => zm_X12_sequential 79 [some (.inr m), some (.inl (nI t)), some (.inl (nI (twJ (Ms t)).1)), some (.inl (nI (2 + i))), none] [] z) (h := h) (a := m + 50) (p := 2) (n := 3) (f := fun _ => -1) (fun i hi => by
    have oz : zOf m [50] [] h (zWr h (m + 50) 2 i fun _ => -1) := zOf_Wr (by decide) (by decide)
    have lz := oz.lay lay
    rw [e_X12_sequential_79, if_pos (by rw [show (5 : Int32) = nI 5 from rfl, nI_ltI (by omega) (by omega)]; omega), mF63 lz, Option.bind_some, mw63 lz (by omega), Option.bind_some, nI_1]
    rfl)
  have o1 : zOf m [50] [] h (zWr h (m + 50) 2 3 fun _ => -1) := zOf_Wr (by decide) (by decide)
  refine Exists.elim (show ∃ z, z = zWr h (m + 50) 2 3 fun _ => -1 from ⟨_, rfl⟩) fun z1 hz1 => ?_
  rw [← hz1] at cp o1
  have l1 := o1.lay lay
  have w0 : zI z1 (m + 50) 0 = nI (twJ (Ms t)).2.1 := by rw [hz1, zI_Wr_out (by omega), e0]
  have w1 : zI z1 (m + 50) 1 = nI (twJ (Ms t)).2.2.1.length := by rw [hz1, zI_Wr_out (by omega), e1]
  have w2 : zI z1 (m + 50) 2 = -1 := by rw [hz1]; exact zI_Wr_in (by omega) (by omega)
  have w3 : zI z1 (m + 50) 3 = -1 := by rw [hz1]; exact zI_Wr_in (by omega) (by omega)
  have w4 : zI z1 (m + 50) 4 = -1 := by rw [hz1]; exact zI_Wr_in (by omega) (by omega)
  have w78 : zI z1 m 78 = 0 := (o1.J (by decide)).trans e78
  have o1q : zOf m Lq Jq h z1 := o1.wide (by decide) (by decide)
  have start : zm_X12_sequential 79 [some (.inr m), some (.inl (nI t)), some (.inl (nI (twJ (Ms t)).1)), some (.inl (2 : Int32)), none] [] h = zm_X12_sequential 79 [some (.inr m), some (.inl (nI t)), some (.inl (nI (twJ (Ms t)).1)), some (.inl (nI (2 + 3))), none] [] z1 := cp
  rw [start, e_X12_sequential_79, if_neg (by decide)]
  by_cases c : (twJ (Ms t)).1 = 1
  · rw [if_pos (show nI (twJ (Ms t)).1 = (1 : Int32) by rw [c]; rfl), zif_ok l1.1]
    have d1 := d.o2 o1 (by decide)
    obtain ⟨z2, a1, a2, a3⟩ := s_mmakes d1 hk ht (us.o o1 (by decide)) hf c
    have l2 := a2.lay l1
    have e64 : zI z2 m 64 = nI (sMake (Ms t)).1.length := a3.1.1
    rw [a1, Option.bind_some]
    dsimp only
    rw [mF63 l2, Option.bind_some, mi64 l2, Option.bind_some, e64, n2, mw63 l2 (by omega), Option.bind_some]
    have o3 : zOf m [50] [] z2 (zsI z2 (m + 50) 2 (nI (sMake (Ms t)).1.length)) := zOf_sI (by decide) (by decide)
    have u50 : ∀ w, zI (zsI z2 (m + 50) 2 (nI (sMake (Ms t)).1.length)) (m + 50) w = if w = 2 then nI (sMake (Ms t)).1.length else zI z1 (m + 50) w := fun w => by
      by_cases e : w = 2
      · rw [if_pos e, e, zI_sI]
      · rw [if_neg e, zI_sI_k e, a2.C (by decide) (by decide)]
    generalize zsI z2 (m + 50) 2 (nI (sMake (Ms t)).1.length) = z3 at *
    have l3 := o3.lay l2
    have o23 : zOf m Lq Jq z1 z3 := (a2.wide (by decide) (by decide)).tr (o3.wide (by decide) (by decide))
    have o03 := o1q.tr o23
    have f78 : zI z3 m 78 = 0 := ((o3.J (by decide)).trans (a2.J (by decide))).trans w78
    by_cases c2 : (sMake (Ms t)).1.length ≤ 100
    · have sg : sGood (Ms t) := ⟨kM, hf, c, c2⟩
      rw [if_pos c2, if_neg (by decide), zif_ok l3.1, sqA_1 c c2]
      have sz3 : SZm z3 m (sMake (Ms t)) := a3.o o3 (by decide) (by decide) |> fun w => w
      obtain ⟨z4, b1, b2, b3⟩ := s_mendsOf (d.o2 o03 (by decide)) ht sg sz3.1
      have l4 := b2.lay l3
      have hb : HBase z4 m (Ms t) := ⟨l4, sz3.o b2 (by decide) (by decide), b3⟩
      obtain ⟨z5, c1, c2', c3⟩ := s_mheads sg hb
      have fb : FBase z5 m (Ms t) := ⟨hb.o c2' (by decide) (by decide), c3⟩
      obtain ⟨z6, f1, f2, f3⟩ := s_mfulls sg fb
      have gb : GBase z6 m (Ms t) := ⟨fb.o f2 (by decide) (by decide), f3⟩
      obtain ⟨z7, g1, g2, g3⟩ := s_mleast sg gb
      have l5 := c2'.lay l4
      have l6 := f2.lay l5
      have l7 := g2.lay l6
      have o37 : zOf m Lq Jq z3 z7 := ((((b2.wide (by decide) (by decide)).tr (c2'.wide (by decide) (by decide))).tr (f2.wide (by decide) (by decide))).tr (g2.wide (by decide) (by decide)))
      have k50 : ∀ w, zI z7 (m + 50) w = zI z3 (m + 50) w := fun w => by
        rw [g2.C (by decide) (by decide), f2.C (by decide) (by decide), c2'.C (by decide) (by decide), b2.C (by decide) (by decide)]
      have k62 : zI z7 m 62 = zI z3 m 62 := by
        rw [g2.J (by decide), f2.J (by decide), c2'.J (by decide), b2.J (by decide)]
      rw [b1, Option.bind_some]
      dsimp only
      rw [zif_ok l4.1, c1, Option.bind_some]
      dsimp only
      rw [zif_ok l5.1, f1, Option.bind_some]
      dsimp only
      rw [zif_ok l6.1, g1, Option.bind_some]
      dsimp only
      have e79 := g3.1
      rw [lsZ_1] at e79
      rw [mp78 l7 (Or.inr rfl), Option.bind_some]
      have o8 : zOf m [] [78] z7 (zsI z7 m 78 1) := zOf_pI (by decide)
      have x78 : zI (zsI z7 m 78 1) m 78 = 1 := zI_sI
      generalize zsI z7 m 78 1 = z8 at *
      have l8 := o8.lay l7
      have g8 := g3.o o8 (by decide) (by decide)
      rw [mF63 l8, Option.bind_some, mi79 l8, Option.bind_some, o8.J (by decide), e79, n3, mw63 l8 (by omega), Option.bind_some, mF63 l8.sI, Option.bind_some, n4, mw63 l8.sI (by omega), Option.bind_some]
      have o9 : zOf m [50] [] z8 (zsI (zsI z8 (m + 50) 3 (nI (lsP (Ms t)).length)) (m + 50) 4 0) := (zOf_sI (by decide) (by decide)).tr (zOf_sI (by decide) (by decide))
      have x50 : ∀ w, zI (zsI (zsI z8 (m + 50) 3 (nI (lsP (Ms t)).length)) (m + 50) 4 0) (m + 50) w = if w = 4 then 0 else if w = 3 then nI (lsP (Ms t)).length else zI z8 (m + 50) w := fun w => by
        by_cases e : w = 4
        · rw [if_pos e, e, zI_sI]
        · rw [if_neg e, zI_sI_k e]
          by_cases e3 : w = 3
          · rw [if_pos e3, e3, zI_sI]
          · rw [if_neg e3, zI_sI_k e3]
      generalize zsI (zsI z8 (m + 50) 3 (nI (lsP (Ms t)).length)) (m + 50) 4 0 = z9 at *
      have l9 := o9.lay l8
      have g9 := g8.o o9 (by decide) (by decide)
      obtain ⟨z10, q1, q2, q3, q4⟩ := s_seq168 (a1 := nI t) (a2 := nI (twJ (Ms t)).1) (a3 := if (sMake (Ms t)).1.length ≤ 100 then 1 else 0) sg l9 g9 (by rw [x50, if_pos rfl])
      have k8 : ∀ w, zI z8 (m + 50) w = zI z3 (m + 50) w := fun w => by rw [o8.C (by decide) (by decide), k50]
      rw [if_pos c2] at q1
      refine ⟨z10, q1, o03.tr (((o37.tr (o8.wide (by decide) (by decide))).tr (o9.wide (by decide) (by decide))).tr (q2.wide (by decide) (by decide))), ?_, told5 ?_ ?_ ?_ ?_ ?_, ?_, ?_⟩
      · rw [q2.J (by decide), o9.J (by decide), o8.J (by decide), k62, o3.J (by decide), a2.J (by decide), o1.J (by decide)]
      · rw [aTold_0, q4 0 (by omega), x50, if_neg (by omega), if_neg (by omega), k8, u50, if_neg (by omega), w0]
      · rw [aTold_1, q4 1 (by omega), x50, if_neg (by omega), if_neg (by omega), k8, u50, if_neg (by omega), w1]
      · rw [aTold_2, sqS_1 c, q4 2 (by omega), x50, if_neg (by omega), if_neg (by omega), k8, u50, if_pos rfl]
      · rw [aTold_3, if_pos (sqA_1 c c2), q4 3 (by omega), x50, if_neg (by omega), if_pos rfl]
      · rw [aTold_4, if_pos (sqA_1 c c2), q3]
      · rw [lzO_1 (sqA_1 c c2), q2.J (by decide), o9.J (by decide), x78]
        rfl
      · intro M' eM
        cases eM
        exact ⟨kM, hf, fun _ => g9.o q2 (by decide) (by decide)⟩
    · rw [if_neg c2, if_pos rfl, sqA_2 c c2]
      refine ⟨z3, rfl, o03, ?_, told5 ?_ ?_ ?_ ?_ ?_, ?_, ?_⟩
      · rw [o3.J (by decide), a2.J (by decide), o1.J (by decide)]
      · rw [aTold_0, u50, if_neg (by omega), w0]
      · rw [aTold_1, u50, if_neg (by omega), w1]
      · rw [aTold_2, sqS_1 c, u50, if_pos rfl]
      · rw [aTold_3, if_neg (by rw [sqA_2 c c2]; decide), u50, if_neg (by omega), w3]
      · rw [aTold_4, if_neg (by rw [sqA_2 c c2]; decide), u50, if_neg (by omega), w4]
      · rw [lzO_n (by rw [sqA_2 c c2]; decide), f78]
        rfl
      · intro M' eM
        cases eM
        exact ⟨kM, hf, fun e => by rw [sqA_2 c c2] at e; cases e⟩
  · have sn : sqA (Ms t) ≠ 1 := by rw [sqA_no c]; exact c
    rw [if_neg (show ¬ nI (twJ (Ms t)).1 = (1 : Int32) by rw [n1, nI_eq (by omega) (by omega)]; exact c), sqA_no c]
    refine ⟨z1, rfl, o1q, o1.J (by decide), told5 ?_ ?_ ?_ ?_ ?_, ?_, ?_⟩
    · rw [aTold_0, w0]
    · rw [aTold_1, w1]
    · rw [aTold_2, sqS_n c, w2]
    · rw [aTold_3, if_neg sn, w3]
    · rw [aTold_4, if_neg sn, w4]
    · rw [lzO_n sn, w78]
      rfl
    · intro M' eM
      cases eM
      exact ⟨kM, hf, fun e => absurd e sn⟩
end SEQ
