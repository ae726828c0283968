/-! The reference: what was written, sorted. -/
/-- one row: its size in the array S, its letters in the array L -/
def rowR (h : zM) (m S L i : Nat) (w : zWo) : Prop := zI h (m + S) i = nI w.length ∧ Rw h (m + L) (32 * i) w ∧ w.length ≤ 32
/-- the outputs fs -/
def OTr (h : zM) (m : Nat) (fs : List zWo) : Prop := fs.length ≤ 60 ∧ ∀ i, i < fs.length → rowR h m 18 19 i (fs.getD i [])
theorem rowR.o {h h' : zM} {m S L i : Nat} {w : zWo} {K J : List Nat} (d : rowR h m S L i w) (o : zOf m K J h h') (hS : 0 < S ∧ S ∉ K) (hL : 0 < L ∧ L ∉ K) : rowR h' m S L i w :=
  ⟨(o.C hS.1 hS.2 _).trans d.1, d.2.1.of (fun j _ => o.C hL.1 hL.2 _), d.2.2⟩
theorem OTr.o {h h' : zM} {m : Nat} {fs : List zWo} {K J : List Nat} (d : OTr h m fs) (o : zOf m K J h h') (h1 : 18 ∉ K) (h2 : 19 ∉ K) : OTr h' m fs :=
  ⟨d.1, fun i hi => (d.2 i hi).o o ⟨by omega, h1⟩ ⟨by omega, h2⟩⟩
theorem LTr.row {h : zM} {m k : Nat} {l : List (Nat × zWo)} (d : LTr h m l) (hk : k < l.length) : rowR h m 16 17 k (pAt l k).2 := by
  obtain ⟨a1, a2, a3, a4, a5⟩ := d.2.2 k hk
  exact ⟨a2, a3, a4⟩
theorem s_isLess {h : zM} {m k o : Nat} {w v : zWo} (lay : MLay h m) (hk : k < 61) (ho : o < 61) (a : rowR h m 16 17 k w) (b : rowR h m 18 19 o v) : zf nX12_isLess [.inr m, .inl (nI k), .inl (nI o)] h = some (bI (wlt w v), 0, h) := by
  obtain ⟨a1, a2, a3⟩ := a
  obtain ⟨b1, b2, b3⟩ := b
  rw [e_X12_isLess]
  simp only [mF17 lay, mF20 lay, Option.bind_some, mr17 lay hk, mr20 lay ho, a1, b1]
  by_cases c : w.length = v.length
  · rw [if_pos (by rw [c])]
    have hw := lexlt_lcp w v c
    have hlt : wlt w v = decide (lcp w v < w.length ∧ w.getD (lcp w v) 0 < v.getD (lcp w v) 0) := by
      rw [wlt_eq, decide_eq_false (show ¬ w.length < v.length by omega), decide_eq_true c, Bool.false_or, Bool.true_and, hw]
    rw [hlt]
    have hle := lcp_le w v
    have loop : ∀ (f i : Nat), f + i = lcp w v → zm_X12_isLess 38 [some (.inr m), some (.inl (nI k)), some (.inl (nI o)), some (.inl (nI i))] [] h = some (bI (decide (lcp w v < w.length ∧ w.getD (lcp w v) 0 < v.getD (lcp w v) 0)), 0, h) := by
      intro f
      induction f with
      | zero =>
        intro i hi
        have hi : i = lcp w v := by omega
        subst hi
        have sp := lcp_spec w v (lcp w v) (Nat.le_refl _)
        rw [e_X12_isLess_38]
        simp only [mF17 lay, Option.bind_some, mr17 lay hk, a1]
        by_cases c2 : lcp w v < w.length
        · rw [if_pos ((nI_ltI (by omega) (by omega)).mpr c2)]
          simp only [mF18 lay, mF21 lay, Option.bind_some, n32, pk_mul, nI_add, mr18 lay (show 32 * k + lcp w v < 1952 by omega), mr21 lay (show 32 * o + lcp w v < 1952 by omega), a2 _ c2, b2 _ (show lcp w v < v.length by omega)]
          have hne : ¬ w.getD (lcp w v) 0 = v.getD (lcp w v) 0 := fun e => Nat.lt_irrefl _ (sp.mp ⟨c2, by omega, e⟩)
          rw [if_neg hne]
          by_cases c3 : w.getD (lcp w v) 0 < v.getD (lcp w v) 0
          · rw [if_pos c3, zb1, decide_eq_true ⟨c2, c3⟩]; rfl
          · rw [if_neg c3, zb0, decide_eq_false (fun z => c3 z.2)]; rfl
        · rw [if_neg (by rw [nI_ltI (by omega) (by omega)]; exact c2), zb0, decide_eq_false (fun z => c2 z.1)]
          rfl
      | succ f ih =>
        intro i hi
        have sp := (lcp_spec w v i (by omega)).mpr (by omega)
        rw [e_X12_isLess_38]
        simp only [mF17 lay, Option.bind_some, mr17 lay hk, a1]
        rw [if_pos ((nI_ltI (by omega) (by omega)).mpr sp.1)]
        simp only [mF18 lay, mF21 lay, Option.bind_some, n32, pk_mul, nI_add, mr18 lay (show 32 * k + i < 1952 by omega), mr21 lay (show 32 * o + i < 1952 by omega), a2 _ sp.1, b2 _ sp.2.1]
        rw [if_pos sp.2.2, nI_1]
        exact ih (i + 1) (by omega)
    exact loop (lcp w v) 0 rfl
  · rw [if_neg (by rw [nI_eq (by omega) (by omega)]; exact c)]
    have hlt : wlt w v = decide (w.length < v.length) := by
      rw [wlt_eq, decide_eq_false c, Bool.false_and, Bool.or_false]
    rw [hlt]
    by_cases c2 : w.length < v.length
    · rw [if_pos ((nI_ltI (by omega) (by omega)).mpr c2), zb1, decide_eq_true c2]; rfl
    · rw [if_neg (by rw [nI_ltI (by omega) (by omega)]; exact c2), zb0, decide_eq_false c2]; rfl
/-- rows with a gap at p -/
def gapR (h : zM) (m p : Nat) (fs : List zWo) : Prop := (∀ j, j < p → rowR h m 18 19 j (fs.getD j [])) ∧ ∀ j, p < j → j ≤ fs.length → rowR h m 18 19 j (fs.getD (j - 1) [])
/-- the row p is written -/
theorem s_rowW {h : zM} {m k p : Nat} {w : zWo} {fs : List zWo} (lay : MLay h m) (hk : k < 61) (hp : p ≤ fs.length) (hl : fs.length < 60) (a : rowR h m 16 17 k w) (g : gapR h m p fs) (e19 : zI h m 19 = nI fs.length) :
    ∃ h', ((zgF h m 12 20).bind fun r5 => (zgF h m 12 17).bind fun r6 => (zia h r6 (nI k)).bind fun v3 => (zis h r5 (nI p) v3).bind fun h3 => zm_X12_sorts 107 [some (.inr m), some (.inl (nI k)), some (.inl (nI p)), some (.inl (0 : Int32))] [] h3) = zm_X12_sorts 7 [some (.inr m), some (.inl (nI (k + 1))), none, none] [] h' ∧ zOf m [18, 19] [19] h h' ∧ zI h' m 19 = nI (fs.length + 1) ∧ ∀ j, j ≤ fs.length → rowR h' m 18 19 j ((fs.take p ++ w :: fs.drop p).getD j []) := by
  obtain ⟨a1, a2, a3⟩ := a
  simp only [mF20 lay, mF17 lay, Option.bind_some, mr17 lay hk, a1, mw20 lay (show p < 61 by omega)]
  generalize hg : zsI h (m + 18) p (nI w.length) = g1
  have o1 : zOf m [18, 19] [19] h g1 := by rw [← hg]; exact zOf_sI (by decide) (by decide)
  have lay1 := o1.lay lay
  have a2' : ∀ i, zI g1 (m + 17) i = zI h (m + 17) i := fun i => o1.C (by decide) (by decide) i
  have cp := zwr (g := fun i z => zm_X12_sorts 107 [some (.inr m), some (.inl (nI k)), some (.inl (nI p)), some (.inl (nI i))] [] z) (h := g1) (a := m + 19) (p := 32 * p) (n := 32) (f := fun i => zI h (m + 17) (32 * k + i)) (fun i hi => by
    have layz : MLay (zWr g1 (m + 19) (32 * p) i fun i => zI h (m + 17) (32 * k + i)) m := (zOf_Wr (L := [19]) (J := []) (by decide) (by decide)).lay lay1
    rw [e_X12_sorts_107, if_pos (by rw [n32, nI_ltI (by omega) (by omega)]; exact hi)]
    simp only [mF21 layz, mF18 layz, Option.bind_some, n32, pk_mul, nI_add, mr18 layz (show 32 * k + i < 1952 by omega), zI_Wr_a (show m + 17 ≠ m + 19 by omega), a2', mw21 layz (show 32 * p + i < 1952 by omega), nI_1])
  generalize hz : zWr g1 (m + 19) (32 * p) 32 (fun i => zI h (m + 17) (32 * k + i)) = z at cp
  have o2 : zOf m [18, 19] [19] g1 z := by rw [← hz]; exact zOf_Wr (by decide) (by decide)
  have layz := o2.lay lay1
  have e19z : zI z m 19 = nI fs.length := by rw [← hz, zI_Wr_a (by omega), ← hg, zI_sI_a (by omega)]; exact e19
  refine ⟨zsI z m 19 (nI (fs.length + 1)), ?_, (o1.tr o2).tr (zOf_pI (by decide)), zI_sI, fun j hj => ?_⟩
  · rw [n0]
    refine Eq.trans cp ?_
    rw [e_X12_sorts_107, if_neg (by decide), mi19 layz, Option.bind_some, e19z, nI_1, mp19 layz, Option.bind_some, nI_1]
  · have oz : zOf m [] [19] z (zsI z m 19 (nI (fs.length + 1))) := zOf_pI (by decide)
    refine rowR.o (h := z) ?_ oz (by simp) (by simp)
    have s18 : ∀ i, zI z (m + 18) i = if i = p then nI w.length else zI h (m + 18) i := fun i => by
      rw [← hz, zI_Wr_a (by omega), ← hg]
      by_cases e : i = p
      · rw [if_pos e, e, zI_sI]
      · rw [if_neg e, zI_sI_k e]
    have s19 : ∀ i, ¬ (32 * p ≤ i ∧ i < 32 * p + 32) → zI z (m + 19) i = zI h (m + 19) i := fun i hi => by
      rw [← hz, zI_Wr_out hi, ← hg, zI_sI_a (by omega)]
    have tl : (fs.take p).length = p := by rw [List.length_take]; omega
    have keep : ∀ u, j ≠ p → rowR h m 18 19 j u → rowR z m 18 19 j u := fun u hne r => ⟨by rw [s18, if_neg hne]; exact r.1, r.2.1.of (fun i hi => by have := r.2.2; exact s19 _ (by omega)), r.2.2⟩
    by_cases c : j < p
    · have e : (fs.take p ++ w :: fs.drop p).getD j [] = fs.getD j [] := by
        rw [List.getD_eq_getElem?_getD, List.getD_eq_getElem?_getD, List.getElem?_append_left (by omega), List.getElem?_take, if_pos c]
      rw [e]
      exact keep _ (by omega) (g.1 j c)
    · by_cases c2 : j = p
      · have e : (fs.take p ++ w :: fs.drop p).getD j [] = w := by
          rw [List.getD_eq_getElem?_getD, List.getElem?_append_right (by omega), tl, c2, Nat.sub_self]
          rfl
        rw [e, c2]
        refine ⟨by rw [s18, if_pos rfl], fun i hi => ?_, a3⟩
        rw [← hz, zI_Wr_in (by omega) (by omega), show 32 * p + i - 32 * p = i by omega]
        exact a2 i hi
      · have e : (fs.take p ++ w :: fs.drop p).getD j [] = fs.getD (j - 1) [] := by
          rw [List.getD_eq_getElem?_getD, List.getD_eq_getElem?_getD, List.getElem?_append_right (by omega), tl, show j - p = (j - 1 - p) + 1 by omega, List.getElem?_cons_succ, List.getElem?_drop, show p + (j - 1 - p) = j - 1 by omega]
        rw [e]
        exact keep _ c2 (g.2 j (by omega) hj)
/-- one word is put in from the end -/
theorem s_sortIn1 {h : zM} {m k : Nat} {w : zWo} {fs : List zWo} (lay : MLay h m) (hk : k < 61) (hl : fs.length < 60) (a : rowR h m 16 17 k w) (hs : srt fs) (hw : w ∉ fs) (e19 : zI h m 19 = nI fs.length) (d : OTr h m fs) :
    ∃ h', zm_X12_sorts 20 [some (.inr m), some (.inl (nI k)), some (.inl (nI fs.length)), none] [] h = zm_X12_sorts 7 [some (.inr m), some (.inl (nI (k + 1))), none, none] [] h' ∧ zOf m [18, 19] [19] h h' ∧ zI h' m 19 = nI (insU w fs).length ∧ OTr h' m (insU w fs) := by
  have loop : ∀ (p : Nat) (z : zM), p ≤ fs.length → zOf m [18, 19] [19] h z → zI z m 19 = nI fs.length → gapR z m p fs → (∀ j, p ≤ j → j < fs.length → wlt w (fs.getD j []) = true) →
      ∃ h', zm_X12_sorts 20 [some (.inr m), some (.inl (nI k)), some (.inl (nI p)), none] [] z = zm_X12_sorts 7 [some (.inr m), some (.inl (nI (k + 1))), none, none] [] h' ∧ zOf m [18, 19] [19] h h' ∧ zI h' m 19 = nI (insU w fs).length ∧ OTr h' m (insU w fs) := by
    intro p
    induction p with
    | zero =>
      intro z hp o e19 g hj
      have layz := o.lay lay
      have ei := insU_end hs hw (Nat.zero_le _) hj (fun q => absurd q (Nat.lt_irrefl _))
      obtain ⟨h', r1, r2, r3, r4⟩ := s_rowW layz hk (Nat.zero_le _) hl (a.o o (by decide) (by decide)) g e19
      rw [← ei] at r4
      have hlen : (insU w fs).length = fs.length + 1 := by rw [ei]; simp
      refine ⟨h', ?_, o.tr r2, by rw [hlen]; exact r3, by omega, fun i hi => r4 i (by omega)⟩
      rw [e_X12_sorts_20, if_neg (by decide)]
      exact r1
    | succ p ih =>
      intro z hp o e19 g hj
      have layz := o.lay lay
      have rp := g.1 p (by omega)
      have az := a.o o (by decide) (by decide)
      rw [e_X12_sorts_20, if_pos (by rw [n0, nI_ltI (by omega) (by omega)]; omega), zif_ok layz.1, n1, pk_sub (by omega), show p + 1 - 1 = p by omega, s_isLess layz hk (by omega) az rp, Option.bind_some]
      dsimp only
      cases c : wlt w (fs.getD p []) with
      | false =>
        have ei := insU_end hs hw hp hj (fun _ => c)
        obtain ⟨h', r1, r2, r3, r4⟩ := s_rowW layz hk hp hl az g e19
        rw [← ei] at r4
        have hlen : (insU w fs).length = fs.length + 1 := by rw [ei]; simp; omega
        refine ⟨h', ?_, o.tr r2, by rw [hlen]; exact r3, by omega, fun i hi => r4 i (by omega)⟩
        rw [if_pos (show bI false = 0 from rfl)]
        exact r1
      | true =>
        rw [if_neg (show ¬ bI true = 0 by decide)]
        obtain ⟨p1, p2, p3⟩ := rp
        simp only [mF20 layz, Option.bind_some, mr20 layz (show p < 61 by omega), p1, mw20 layz (show p + 1 < 61 by omega)]
        generalize hg : zsI z (m + 18) (p + 1) (nI (fs.getD p []).length) = g1
        have o1 : zOf m [18, 19] [19] z g1 := by rw [← hg]; exact zOf_sI (by decide) (by decide)
        have lay1 := o1.lay layz
        have cp := zwr (g := fun i z => zm_X12_sorts 51 [some (.inr m), some (.inl (nI k)), some (.inl (nI (p + 1))), some (.inl (nI i))] [] z) (h := g1) (a := m + 19) (p := 32 * (p + 1)) (n := 32) (f := fun i => zI z (m + 19) (32 * p + i)) (fun i hi => by
          have layw : MLay (zWr g1 (m + 19) (32 * (p + 1)) i fun i => zI z (m + 19) (32 * p + i)) m := (zOf_Wr (L := [19]) (J := []) (by decide) (by decide)).lay lay1
          have rd : zI (zWr g1 (m + 19) (32 * (p + 1)) i fun i => zI z (m + 19) (32 * p + i)) (m + 19) (32 * p + i) = zI z (m + 19) (32 * p + i) := by rw [zI_Wr_out (by omega), ← hg, zI_sI_a (by omega)]
          rw [e_X12_sorts_51, if_pos (by rw [n32, nI_ltI (by omega) (by omega)]; exact hi)]
          simp only [mF21 layw, Option.bind_some, n32, n1, pk_sub (show 1 ≤ p + 1 by omega), show p + 1 - 1 = p by omega, pk_mul, nI_add, mr21 layw (show 32 * p + i < 1952 by omega), rd, mw21 layw (show 32 * (p + 1) + i < 1952 by omega)])
        generalize hz : zWr g1 (m + 19) (32 * (p + 1)) 32 (fun i => zI z (m + 19) (32 * p + i)) = z2 at cp
        have o2 : zOf m [18, 19] [19] g1 z2 := by rw [← hz]; exact zOf_Wr (by decide) (by decide)
        have e19z : zI z2 m 19 = nI fs.length := by rw [← hz, zI_Wr_a (by omega), ← hg, zI_sI_a (by omega)]; exact e19
        have s18 : ∀ i, zI z2 (m + 18) i = if i = p + 1 then nI (fs.getD p []).length else zI z (m + 18) i := fun i => by
          rw [← hz, zI_Wr_a (by omega), ← hg]
          by_cases e : i = p + 1
          · rw [if_pos e, e, zI_sI]
          · rw [if_neg e, zI_sI_k e]
        have s19 : ∀ i, ¬ (32 * (p + 1) ≤ i ∧ i < 32 * (p + 1) + 32) → zI z2 (m + 19) i = zI z (m + 19) i := fun i hi => by
          rw [← hz, zI_Wr_out hi, ← hg, zI_sI_a (by omega)]
        have keep : ∀ j u, j ≠ p + 1 → rowR z m 18 19 j u → rowR z2 m 18 19 j u := fun j u hne r => ⟨by rw [s18, if_neg hne]; exact r.1, r.2.1.of (fun i hi => by have := r.2.2; exact s19 _ (by omega)), r.2.2⟩
        have g2 : gapR z2 m p fs := by
          refine ⟨fun j hj => keep j _ (by omega) (g.1 j (by omega)), fun j hj1 hj2 => ?_⟩
          by_cases c2 : j = p + 1
          · rw [c2, show p + 1 - 1 = p by omega]
            refine ⟨by rw [s18, if_pos rfl], fun i hi => ?_, p3⟩
            rw [← hz, zI_Wr_in (by omega) (by omega), show 32 * (p + 1) + i - 32 * (p + 1) = i by omega]
            exact p2 i hi
          · exact keep j _ c2 (g.2 j (by omega) hj2)
        obtain ⟨h', q1, q2⟩ := ih z2 (by omega) (o.tr (o1.tr o2)) e19z g2 (fun j q1 q2 => by
          by_cases e : j = p
          · rw [e]; exact c
          · exact hj j (by omega) q2)
        refine ⟨h', ?_, q2⟩
        rw [n0]
        refine Eq.trans (Eq.trans cp ?_) q1
        rw [e_X12_sorts_51, if_neg (by decide), nI_dec]
  exact loop fs.length h (Nat.le_refl _) zOf.rf e19 ⟨d.2, fun j h1 h2 => by omega⟩ (fun j h1 h2 => by omega)
theorem s_sorts {h : zM} {m : Nat} {l : List (Nat × zWo)} (lay : MLay h m) (d : LTr h m l) (hnd : (l.map (·.2)).Nodup) :
    ∃ h', zf nX12_sorts [.inr m] h = some (0, 0, h') ∧ zOf m [18, 19] [19] h h' ∧ zI h' m 19 = nI ((l.map (·.2)).foldl (fun s c => insU c s) []).length ∧ OTr h' m ((l.map (·.2)).foldl (fun s c => insU c s) []) := by
  have hl := d.2.1
  have o1 : zOf m [18, 19] [19] h (zsI h m 19 0) := zOf_pI (by decide)
  rw [e_X12_sorts, mp19 lay, Option.bind_some]
  have lenF : ∀ k, k ≤ l.length → (((l.map (·.2)).take k).foldl (fun s c => insU c s) []).length ≤ k := fun k => by
    induction k with
    | zero => intro _; simp
    | succ k ih =>
      intro hk
      have := ih (by omega)
      have e : (l.map (·.2))[k]? = some (pAt l k).2 := by rw [List.getElem?_map, pAt_get (by omega)]; rfl
      rw [fold_take _ _ _ k _ e]
      have := insU_len (pAt l k).2 (((l.map (·.2)).take k).foldl (fun s c => insU c s) [])
      omega
  have main := zlp (P := fun k z => zOf m [18, 19] [19] h z ∧ zI z m 19 = nI (((l.map (·.2)).take k).foldl (fun s c => insU c s) []).length ∧ OTr z m (((l.map (·.2)).take k).foldl (fun s c => insU c s) [])) (g := fun k z => zm_X12_sorts 7 [some (.inr m), some (.inl (nI k)), none, none] [] z) (n := l.length) ?_ 0 (zsI h m 19 0) (Nat.zero_le _) ⟨o1, zI_sI, by simp, fun i hi => absurd hi (Nat.not_lt_zero _)⟩
  · obtain ⟨h', e1, e2, e3, e4⟩ := main
    have hll : l.length = (l.map (·.2)).length := by rw [List.length_map]
    have dz := d.o e2 (by decide) (by decide) (by decide) (by decide)
    refine ⟨h', Eq.trans e1 ?_, e2, ?_, ?_⟩
    · rw [e_X12_sorts_7, mi15 (e2.lay lay), Option.bind_some, dz.1, if_neg (by rw [nI_ltI (by omega) (by omega)]; omega)]
    · rw [hll, List.take_length] at e3; exact e3
    · rw [hll, List.take_length] at e4; exact e4
  · rintro k z hk ⟨o, e19, ot⟩
    have layz := o.lay lay
    have dz := d.o o (by decide) (by decide) (by decide) (by decide)
    have e : (l.map (·.2))[k]? = some (pAt l k).2 := by rw [List.getElem?_map, pAt_get hk]; rfl
    have hlen := lenF k (by omega)
    rw [fold_take _ _ _ k _ e]
    have hs := fold_insU_srt ((l.map (·.2)).take k) [] List.Pairwise.nil
    have hn : (pAt l k).2 ∉ ((l.map (·.2)).take k).foldl (fun s c => insU c s) [] := fun hm => by
      rcases (fold_insU_mem _ _ _).mp hm with q | q
      · obtain ⟨i, hi, ei⟩ := List.getElem_of_mem q
        rw [List.getElem_take] at ei
        rw [List.length_take] at hi
        have e' := e
        rw [List.getElem?_eq_getElem (by rw [List.length_map]; exact hk)] at e'
        have := (List.getElem_inj hnd).mp (ei.trans (Option.some.inj e').symm)
        omega
      · cases q
    rw [e_X12_sorts_7, mi15 layz, Option.bind_some, dz.1, if_pos ((nI_ltI (by omega) (by omega)).mpr hk), mi19 layz, Option.bind_some, e19]
    obtain ⟨h', r1, r2, r3, r4⟩ := s_sortIn1 (fs := ((l.map (·.2)).take k).foldl (fun s c => insU c s) []) layz (by omega) (by omega) (LTr.row dz hk) hs hn e19 ot
    exact ⟨h', r1, o.tr r2, r3, r4⟩
