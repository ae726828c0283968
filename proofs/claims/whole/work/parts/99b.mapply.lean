/-! The reference: apply, output. -/
theorem MMs.o2 {m : Nat} {h h' : zM} {Ms : Nat → zMa} {L J : List Nat} (d : MMs h m Ms) (a : zOf m L J h h') (hL : ∀ k ∈ L, 8 < k) : MMs h' m Ms := d.o a (fun k _ h8 hk => by have := hL k hk; omega)
theorem isN {α : Type} : (if (none : Option α).isSome = true then (1 : Int32) else 0) = 0 := rfl
theorem isS {α : Type} {a : α} : ¬ (if (some a).isSome = true then (1 : Int32) else 0) = 0 := (by decide : ¬ (1 : Int32) = 0)
def MO (h : zM) (m : Nat) (fs : List zWo) : Prop := OTr h m fs ∧ (zI h m 19 = nI fs.length ∨ (fs = [] ∧ (zI h m 19 = -1 ∨ zI h m 19 = -2)))
theorem MO.o {h h' : zM} {m : Nat} {fs : List zWo} {K J : List Nat} (d : MO h m fs) (o : zOf m K J h h') (h1 : 18 ∉ K) (h2 : 19 ∉ K) (h3 : 19 ∉ J) : MO h' m fs :=
  ⟨d.1.o o h1 h2, by rw [o.J h3]; exact d.2⟩
theorem s_moutput {h : zM} {m : Nat} {fs : List zWo} (lay : MLay h m) (d : MO h m fs) (i k : Int32) : zf nX12_output [.inr m, .inl i, .inl k] h = some (aOutput fs i k, 0, h) := by
  rw [e_X12_output]
  by_cases c0 : i < 0
  · rw [if_pos c0]
    unfold aOutput
    rw [if_neg (fun w => w.1 c0)]
  rw [if_neg c0, mi19 lay, Option.bind_some]
  have hl := d.1.1
  rcases d.2 with e | ⟨rfl, e⟩
  · rw [e]
    by_cases c1 : i < nI fs.length
    · obtain ⟨j, hj, rfl⟩ := i32_nn c0 c1 (by omega)
      obtain ⟨r1, r2, r3⟩ := d.1.2 j hj
      have ea : aOutput fs (nI j) k = wAt (fs.getD j []) k := by
        unfold aOutput
        rw [if_pos ⟨c0, c1⟩, nI_clamp (by omega)]
      rw [if_pos c1, ea]
      unfold wAt
      by_cases k0 : k < 0
      · rw [if_pos k0, if_pos k0]
      rw [if_neg k0, if_neg k0, mF20 lay, Option.bind_some, mr20 lay (by omega), Option.bind_some, r1]
      by_cases k1 : k < nI (fs.getD j []).length
      · obtain ⟨q, hq, rfl⟩ := i32_nn k0 k1 (by omega)
        rw [if_pos k1, if_pos k1, nI_clamp (by omega), mF21 lay, Option.bind_some, n32, pk_mul, nI_add, mr21 lay (by omega), Option.bind_some, r2 q hq]
      · rw [if_neg k1, if_neg k1]
    · rw [if_neg c1]
      unfold aOutput
      rw [if_neg (fun w => c1 w.2)]
  · have c1 : ¬ i < nI ([] : List zWo).length := c0
    rw [if_neg (show ¬ i < zI h m 19 by
      intro w
      apply c0
      rcases e with e | e <;> (rw [e] at w; rw [Int32.lt_iff_toInt_lt] at w ⊢)
      · have e1 : (-1 : Int32).toInt = -1 := by decide
        have e0 : (0 : Int32).toInt = 0 := by decide
        omega
      · have e1 : (-2 : Int32).toInt = -2 := by decide
        have e0 : (0 : Int32).toInt = 0 := by decide
        omega)]
    unfold aOutput
    rw [if_neg (fun w => c1 w.2)]
/-- what apply answers -/
def ApQ (Ms : Nat → zMa) (h0 : zM) (m : Nat) (o : Option (List zWo)) (y : Option zR) : Prop := ∃ h', y = some ((apAn o).1, 0, h') ∧ zOf m [12, 13, 14, 15, 16, 17, 18, 19, 20] [11, 15, 19] h0 h' ∧ MO h' m (apAn o).2
theorem apQ_no {Ms : Nat → zMa} {h0 h' : zM} {m : Nat} (o : zOf m [12, 13, 14, 15, 16, 17, 18, 19, 20] [11, 15, 19] h0 h') (e : zI h' m 19 = -2) : ApQ Ms h0 m none (some (-2, 0, h')) :=
  ⟨h', rfl, o, ⟨by simp [apAn], fun i hi => absurd hi (Nat.not_lt_zero _)⟩, Or.inr ⟨rfl, Or.inr e⟩⟩
/-- all the laters, each once, of state 0 -/
theorem s_mapply_end {h0 h : zM} {m t n : Nat} {Ms : Nat → zMa} {l : List (Nat × zWo)} {a2 a3 : Int32} (d : MMs h0 m Ms) (hk : ∀ t, t < 2 → MaOk (Ms t)) (ht : t < 2) (o : zOf m [12, 13, 14, 15, 16, 17, 18, 19, 20] [11, 15, 19] h0 h) (dl : PRs h m l) (dn : LTr h m []) (pl : pOk (Ms t) n l) (hn : n ≤ 9) :
    ApQ Ms h0 m (some (outFin (Ms t) l)) (zm_X12_apply 227 [some (.inr m), some (.inl (nI t)), some (.inl a2), some (.inl a3), some (.inl (nI 0)), none, none, none] [] h) := by
  have hl := dl.2.1
  refine zlq (P := fun i z => zOf m [12, 13, 14, 15, 16, 17, 18, 19, 20] [11, 15, 19] h0 z ∧ PRs z m l ∧ ∃ D, LTr z m D ∧ D.length ≤ i ∧ (D.map (·.2)).Nodup ∧ (∀ c ∈ D, c.1 = 0) ∧ (D.map (·.2)).foldl (fun s c => insU c s) [] = outFin (Ms t) (l.take i)) (g := fun i z => zm_X12_apply 227 [some (.inr m), some (.inl (nI t)), some (.inl a2), some (.inl a3), some (.inl (nI i)), none, none, none] [] z) (n := l.length) (Q := fun y => ApQ Ms h0 m (some (outFin (Ms t) l)) y) ?_ ?_ 0 h (Nat.zero_le _) ⟨o, dl, [], dn, Nat.le_refl _, List.nodup_nil, fun c hc => (by cases hc), rfl⟩
  · rintro i z hi ⟨oz, dz, D, lt, hD, nd, d0, eq⟩
    right
    have dm := d.o2 oz (by decide)
    have lay := dm.1
    obtain ⟨a1, -, -, -, a5⟩ := dz.2.2 i hi
    have hp := pl.2 _ (pAt_mem hi)
    rw [e_X12_apply_227, mi11 lay, Option.bind_some, dz.1, if_pos ((nI_ltI (by omega) (by omega)).mpr hi), mF2 lay, Option.bind_some, mF12 lay, Option.bind_some, mr12 lay (by omega), Option.bind_some, a1, n6, pk_mul, nI_add, dm.ende ht (by omega) (by omega), Option.bind_some, outFin_take hi]
    unfold outEnd
    cases e : (Ms t).2.2.1 (pAt l i).1 with
    | none =>
      rw [if_pos (show eI none = -1 from rfl), nI_1]
      exact ⟨z, rfl, oz, dz, D, lt, by omega, nd, d0, eq⟩
    | some w =>
      have hw := ((hk t ht).2.2.1 _ _ e).2
      have w9 := hw.lt
      have w3 := hw.len
      rw [if_neg (show ¬ eI (some w) = -1 from nneg (by omega)), zif_ok lay.1]
      obtain ⟨z1, r1, r2, r3⟩ := s_mjoined (w := w) lay dz hi hw (by omega)
      rw [show zf nX12_joined [.inr m, .inl (nI i), .inl (eI (some w))] z = _ from r1, Option.bind_some]
      have lay1 := r2.lay lay
      have lt1 := lt.o r2 (by decide) (by decide) (by decide) (by decide)
      dsimp only
      rw [zif_ok lay1.1]
      have hlen : ((pAt l i).2 ++ dgs w).length ≤ 32 := by rw [List.length_append]; omega
      obtain ⟨z2, q1, q2, q3⟩ := s_mlater lay1 lt1 r3 hlen (q := 0) (by omega)
      rw [show zf nX12_later [.inr m, .inl (0 : Int32), .inl (nI ((pAt l i).2 ++ dgs w).length)] z1 = _ from q1, Option.bind_some, nI_1]
      dsimp only [Option.map_some]
      refine ⟨z2, rfl, (oz.tr (r2.wide (by decide) (by decide))).tr (q2.wide (by decide) (by decide)), (dz.o r2 (by decide) (by decide) (by decide) (by decide)).o q2 (by decide) (by decide) (by decide) (by decide), _, q3, ?_⟩
      generalize (pAt l i).2 ++ dgs w = u at *
      unfold outAdd
      by_cases c : (0, u) ∈ D
      · rw [if_pos c]
        have cu : u ∈ D.map (·.2) := List.mem_map.mpr ⟨_, c, rfl⟩
        refine ⟨by show D.length ≤ i + 1; omega, nd, d0, ?_⟩
        show (D.map (·.2)).foldl (fun s c => insU c s) [] = _
        rw [← eq]
        generalize D.map (fun x => x.2) = E at *
        exact (insU_in (fold_insU_srt E [] List.Pairwise.nil) ((fold_insU_mem E u []).mpr (Or.inl cu))).symm
      · rw [if_neg c, if_pos (by omega)]
        show (D ++ [(0, u)]).length ≤ i + 1 ∧ ((D ++ [(0, u)]).map (fun x : Nat × zWo => x.2)).Nodup ∧ (∀ c ∈ D ++ [(0, u)], c.1 = 0) ∧ ((D ++ [(0, u)]).map (fun x : Nat × zWo => x.2)).foldl (fun s c => insU c s) [] = _
        have cu : u ∉ D.map (·.2) := fun w => by
          obtain ⟨x, hx, ex⟩ := List.mem_map.mp w
          apply c
          have := d0 x hx
          rw [← ex, ← this]
          exact hx
        refine ⟨by rw [List.length_append]; simp; omega, ?_, fun c hc => ?_, ?_⟩
        · rw [List.map_append]
          refine List.nodup_append.mpr ⟨nd, by simp, ?_⟩
          rintro a ha b hb rfl
          rw [List.map_cons, List.map_nil, List.mem_singleton] at hb
          rw [hb] at ha
          exact cu ha
        · rcases List.mem_append.mp hc with q | q
          · exact d0 c q
          · rw [List.mem_singleton.mp q]
        · rw [List.map_append, List.foldl_append, eq]
          rfl
  · rintro z ⟨oz, dz, D, lt, hD, nd, d0, eq⟩
    have lay := oz.lay d.1
    rw [e_X12_apply_227, mi11 lay, Option.bind_some, dz.1, if_neg (by rw [nI_ltI (by omega) (by omega)]; omega), zif_ok lay.1]
    obtain ⟨z1, r1, r2, r3, r4⟩ := s_sorts lay lt nd
    rw [r1, Option.bind_some, mi19 (r2.lay lay), Option.bind_some, r3]
    rw [List.take_length] at eq
    rw [eq] at r3 r4 ⊢
    exact ⟨z1, rfl, oz.tr (r2.wide (by decide) (by decide)), r4, Or.inl r3⟩
/-- one pair's arcs -/
theorem s_mapply_arcs {h0 h : zM} {m t n p k0 kk c : Nat} {Ms : Nat → zMa} {l r : List (Nat × zWo)} {tot : Option (List zWo)} (d : MMs h0 m Ms) (hk : ∀ t, t < 2 → MaOk (Ms t)) (ht : t < 2) (o : zOf m [12, 13, 14, 15, 16, 17, 18, 19, 20] [11, 15, 19] h0 h) (e19 : zI h m 19 = -2) (dl' : PRs h m l) (dr : LTr h m r) (pl : pOk (Ms t) n l) (pr : pOk (Ms t) (n + 1) r) (hn : n < 9) (hp : p < l.length) (hx : k0 < 10 ^ 9) (hkk : kk < nd k0) (hc : (dl (nd k0) k0).getD kk 0 = nI c) (hc4 : c < 4) (hnd : nd k0 ≤ 9)
    (htot : outPair (Ms t) c r (pAt l p) = none → tot = none) :
    ApQ Ms h0 m tot (zm_X12_apply 115 [some (.inr m), some (.inl (nI t)), some (.inl (nI k0)), some (.inl (nI (nd k0))), some (.inl (nI kk)), some (.inl (nI p)), some (.inl (nI (30 * t + 0))), none] [] h) ∨ ∃ h' r', outPair (Ms t) c r (pAt l p) = some r' ∧ zm_X12_apply 115 [some (.inr m), some (.inl (nI t)), some (.inl (nI k0)), some (.inl (nI (nd k0))), some (.inl (nI kk)), some (.inl (nI p)), some (.inl (nI (30 * t + 0))), none] [] h = zm_X12_apply 100 [some (.inr m), some (.inl (nI t)), some (.inl (nI k0)), some (.inl (nI (nd k0))), some (.inl (nI kk)), some (.inl (nI (p + 1))), none, none] [] h' ∧ zOf m [12, 13, 14, 15, 16, 17, 18, 19, 20] [11, 15, 19] h0 h' ∧ zI h' m 19 = -2 ∧ PRs h' m l ∧ LTr h' m r' := by
  have kM := hk t ht
  have h30 := kM.2.2.2.1
  have hpp := pl.2 _ (pAt_mem hp)
  have k6 := kM.1
  refine zlq (P := fun i z => zOf m [12, 13, 14, 15, 16, 17, 18, 19, 20] [11, 15, 19] h0 z ∧ zI z m 19 = -2 ∧ PRs z m l ∧ ∃ r', ((Ms t).2.2.2.take i).foldlM (outArc c (pAt l p)) r = some r' ∧ LTr z m r' ∧ pOk (Ms t) (n + 1) r') (g := fun i z => zm_X12_apply 115 [some (.inr m), some (.inl (nI t)), some (.inl (nI k0)), some (.inl (nI (nd k0))), some (.inl (nI kk)), some (.inl (nI p)), some (.inl (nI (30 * t + i))), none] [] z) (n := (Ms t).2.2.2.length) (Q := fun y => ApQ Ms h0 m tot y ∨ ∃ h' r', outPair (Ms t) c r (pAt l p) = some r' ∧ y = zm_X12_apply 100 [some (.inr m), some (.inl (nI t)), some (.inl (nI k0)), some (.inl (nI (nd k0))), some (.inl (nI kk)), some (.inl (nI (p + 1))), none, none] [] h' ∧ zOf m [12, 13, 14, 15, 16, 17, 18, 19, 20] [11, 15, 19] h0 h' ∧ zI h' m 19 = -2 ∧ PRs h' m l ∧ LTr h' m r') ?_ ?_ 0 h (Nat.zero_le _) ⟨o, e19, dl', r, rfl, dr, pr⟩
  · rintro i z hi ⟨oz, ez, dz, r', er, lr, pr'⟩
    have dm := d.o2 oz (by decide)
    have lay := dm.1
    have ka := kM.at2 hi
    obtain ⟨a1, -, -, -, a5⟩ := dz.2.2 p hp
    have hl := dz.2.1
    have hget := arc_get hi
    rw [e_X12_apply_115, mF3 lay, Option.bind_some, dm.arcs ht, Option.bind_some, show (30 : Int32) = nI 30 from rfl, pk_mul, nI_add, if_pos ((nI_ltI (by omega) (by omega)).mpr (by omega)), mF4 lay, Option.bind_some, dm.from ht kM hi, Option.bind_some, mF12 lay, Option.bind_some, mr12 lay (by omega), Option.bind_some, a1, nI_1]
    have skip : ¬ ((arcAt (Ms t) i).1 = (pAt l p).1 ∧ (arcAt (Ms t) i).2.1 = c) → ((Ms t).2.2.2.take (i + 1)).foldlM (outArc c (pAt l p)) r = some r' := fun w => by
      rw [fm_take hget er]
      unfold outArc
      rw [if_neg w]
    by_cases c1 : (arcAt (Ms t) i).1 = (pAt l p).1
    · rw [if_pos (by rw [c1]), mF5 lay, Option.bind_some, dm.by ht kM hi, Option.bind_some, s_mletter (by omega) hkk (by omega), Option.bind_some, hc]
      dsimp only
      by_cases c2 : (arcAt (Ms t) i).2.1 = c
      · rw [if_pos (by rw [c2]), mF7 lay, Option.bind_some, dm.word ht kM hi, Option.bind_some, zif_ok lay.1]
        obtain ⟨z1, b1, b2, b3⟩ := s_mjoined lay dz hp ka.2.2.2 (by omega)
        have w3 := ka.2.2.2.len
        have lay1 := b2.lay lay
        have dm1 := dm.o2 b2 (by decide)
        have lr1 := lr.o b2 (by decide) (by decide) (by decide) (by decide)
        rw [b1, Option.bind_some]
        dsimp only
        rw [mF6 lay1, Option.bind_some, dm1.to ht kM hi, Option.bind_some, zif_ok lay1.1]
        have hlen : ((pAt l p).2 ++ dgs (arcAt (Ms t) i).2.2.2).length ≤ 32 := by rw [List.length_append]; omega
        obtain ⟨z2, q1, q2, q3⟩ := s_mlater lay1 lr1 b3 hlen (q := (arcAt (Ms t) i).2.2.1) (by omega)
        have oz2 := (oz.tr (b2.wide (by decide) (by decide))).tr (q2.wide (L' := [12, 13, 14, 15, 16, 17, 18, 19, 20]) (J' := [11, 15, 19]) (by decide) (by decide))
        have ez2 : zI z2 m 19 = -2 := (q2.J (by decide)).trans ((b2.J (by decide)).trans ez)
        rw [q1, Option.bind_some]
        dsimp only
        have ea : outArc c (pAt l p) r' (arcAt (Ms t) i) = outAdd ((arcAt (Ms t) i).2.2.1, (pAt l p).2 ++ dgs (arcAt (Ms t) i).2.2.2) r' := if_pos ⟨c1, c2⟩
        cases e : outAdd ((arcAt (Ms t) i).2.2.1, (pAt l p).2 ++ dgs (arcAt (Ms t) i).2.2.2) r' with
        | none =>
          left
          left
          rw [if_pos isN]
          have hn : ((Ms t).2.2.2.take (i + 1)).foldlM (outArc c (pAt l p)) r = none := by rw [fm_take hget er, ea, e]
          rw [htot (fm_none hn)]
          exact apQ_no oz2 ez2
        | some r2 =>
          right
          rw [if_neg isS]
          rw [e] at q3
          exact ⟨z2, rfl, oz2, ez2, (dz.o b2 (by decide) (by decide) (by decide) (by decide)).o q2 (by decide) (by decide) (by decide) (by decide), r2, by rw [fm_take hget er, ea, e], q3, outArc_ok kM (ea.trans e) pr' hpp.2 (List.mem_of_getElem? hget)⟩
      · right
        rw [if_neg (by rw [nI_eq (by omega) (by omega)]; exact c2)]
        exact ⟨z, rfl, oz, ez, dz, r', skip (fun w => c2 w.2), lr, pr'⟩
    · right
      rw [if_neg (by rw [nI_eq (by omega) (by omega)]; exact c1)]
      exact ⟨z, rfl, oz, ez, dz, r', skip (fun w => c1 w.1), lr, pr'⟩
  · rintro z ⟨oz, ez, dz, r', er, lr, pr'⟩
    have dm := d.o2 oz (by decide)
    have lay := dm.1
    right
    rw [List.take_length] at er
    refine ⟨z, r', er, ?_, oz, ez, dz, lr⟩
    rw [e_X12_apply_115, mF3 lay, Option.bind_some, dm.arcs ht, Option.bind_some, show (30 : Int32) = nI 30 from rfl, pk_mul, nI_add, if_neg (by rw [nI_ltI (by omega) (by omega)]; omega), nI_1]
/-- one letter -/
theorem s_mapply_step {h0 h : zM} {m t n k0 kk c : Nat} {Ms : Nat → zMa} {l : List (Nat × zWo)} {tot : Option (List zWo)} (d : MMs h0 m Ms) (hk : ∀ t, t < 2 → MaOk (Ms t)) (ht : t < 2) (o : zOf m [12, 13, 14, 15, 16, 17, 18, 19, 20] [11, 15, 19] h0 h) (e19 : zI h m 19 = -2) (dl' : PRs h m l) (dr : LTr h m []) (pl : pOk (Ms t) n l) (hn : n < 9) (hx : k0 < 10 ^ 9) (hkk : kk < nd k0) (hc : (dl (nd k0) k0).getD kk 0 = nI c) (hc4 : c < 4) (hnd : nd k0 ≤ 9) (htot : outStep (Ms t) l c = none → tot = none) :
    ApQ Ms h0 m tot (zm_X12_apply 100 [some (.inr m), some (.inl (nI t)), some (.inl (nI k0)), some (.inl (nI (nd k0))), some (.inl (nI kk)), some (.inl (nI 0)), none, none] [] h) ∨ ∃ h' r', outStep (Ms t) l c = some r' ∧ zm_X12_apply 100 [some (.inr m), some (.inl (nI t)), some (.inl (nI k0)), some (.inl (nI (nd k0))), some (.inl (nI kk)), some (.inl (nI 0)), none, none] [] h = zm_X12_apply 87 [some (.inr m), some (.inl (nI t)), some (.inl (nI k0)), some (.inl (nI (nd k0))), some (.inl (nI (kk + 1))), none, none, none] [] h' ∧ zOf m [12, 13, 14, 15, 16, 17, 18, 19, 20] [11, 15, 19] h0 h' ∧ zI h' m 19 = -2 ∧ LTr h' m r' := by
  have kM := hk t ht
  have hl := dl'.2.1
  refine zlq (P := fun p z => zOf m [12, 13, 14, 15, 16, 17, 18, 19, 20] [11, 15, 19] h0 z ∧ zI z m 19 = -2 ∧ PRs z m l ∧ ∃ r', (l.take p).foldlM (outPair (Ms t) c) [] = some r' ∧ LTr z m r' ∧ pOk (Ms t) (n + 1) r') (g := fun p z => zm_X12_apply 100 [some (.inr m), some (.inl (nI t)), some (.inl (nI k0)), some (.inl (nI (nd k0))), some (.inl (nI kk)), some (.inl (nI p)), none, none] [] z) (n := l.length) (Q := fun y => ApQ Ms h0 m tot y ∨ ∃ h' r', outStep (Ms t) l c = some r' ∧ y = zm_X12_apply 87 [some (.inr m), some (.inl (nI t)), some (.inl (nI k0)), some (.inl (nI (nd k0))), some (.inl (nI (kk + 1))), none, none, none] [] h' ∧ zOf m [12, 13, 14, 15, 16, 17, 18, 19, 20] [11, 15, 19] h0 h' ∧ zI h' m 19 = -2 ∧ LTr h' m r') ?_ ?_ 0 h (Nat.zero_le _) ⟨o, e19, dl', [], rfl, dr, pOk_nil⟩
  · rintro p z hp ⟨oz, ez, dz, r', er, lr, pr'⟩
    have lay := oz.lay d.1
    have hget := pAt_get hp
    rw [e_X12_apply_100, mi11 lay, Option.bind_some, dz.1, if_pos ((nI_ltI (by omega) (by omega)).mpr hp), show (30 : Int32) = nI 30 from rfl, pk_mul]
    rcases s_mapply_arcs (tot := tot) d hk ht oz ez dz lr pl pr' hn hp hx hkk hc hc4 hnd (fun e => htot (fm_none (i := p + 1) (by rw [fm_take hget er]; exact e))) with q | ⟨h', r2, e1, e2, e3, e4, e5, e6⟩
    · left
      left
      exact q
    · right
      refine ⟨h', e2, e3, e4, e5, r2, by rw [fm_take hget er]; exact e1, e6, outPair_ok kM e1 pr' (pl.2 _ (pAt_mem hp)).2⟩
  · rintro z ⟨oz, ez, dz, r', er, lr, pr'⟩
    have lay := oz.lay d.1
    right
    rw [List.take_length] at er
    refine ⟨z, r', er, ?_, oz, ez, lr⟩
    rw [e_X12_apply_100, mi11 lay, Option.bind_some, dz.1, if_neg (by rw [nI_ltI (by omega) (by omega)]; omega), nI_1]
theorem s_mapply {h : zM} {m : Nat} {Ms : Nat → zMa} {fs : List zWo} (d : MMs h m Ms) (hk : ∀ t, t < 2 → MaOk (Ms t)) (mo : MO h m fs) (t w : Int32) : ∃ h', zf nX12_apply [.inr m, .inl t, .inl w] h = some ((aApply Ms fs t w).1, 0, h') ∧ zOf m [12, 13, 14, 15, 16, 17, 18, 19, 20] [11, 15, 19] h h' ∧ MMs h' m Ms ∧ MO h' m (aApply Ms fs t w).2 := by
  have lay := d.1
  rw [e_X12_apply, n3, s_letters 3 (by decide), Option.bind_some]
  dsimp only
  rw [s_misMachine, Option.bind_some]
  dsimp only
  by_cases ct : isT t = true
  · obtain ⟨j, hj, rfl⟩ := isT_of ct
    have kM := hk j hj
    rw [if_pos ct, if_neg (by decide)]
    by_cases cw : isW 3 9 w = true
    · have ea : aApply Ms fs (nI j) w = apAn (outRun (Ms j) (usOf w)) := by
        unfold aApply
        rw [if_pos ⟨ct, cw⟩, nI_clamp (by omega)]
      have hlt := (isW_lt 3).mp cw
      obtain ⟨k0, rfl, k2, k3, k4, k5, k6, k7, k8⟩ := isW_in cw
      rw [if_neg hlt.1, if_neg hlt.2, k7, mp19 lay, Option.bind_some, mp15 lay.sI, Option.bind_some, ea]
      generalize hus : usOf (nI k0) = us at *
      have o1 : zOf m [12, 13, 14, 15, 16, 17, 18, 19, 20] [11, 15, 19] h (zsI (zsI h m 19 (-2)) m 15 0) := (zOf_pI (by decide)).tr (zOf_pI (by decide))
      have e19 : zI (zsI (zsI h m 19 (-2)) m 15 0) m 19 = -2 := by rw [zI_sI_k (by omega), zI_sI]
      have l0 : LTr (zsI (zsI h m 19 (-2)) m 15 0) m [] := RLs.nil zI_sI
      generalize zsI (zsI h m 19 (-2)) m 15 0 = z0 at *
      rw [← k8]
      have fin : ∀ y, ApQ Ms h m (outRun (Ms j) us) y → ∃ h', y = some ((apAn (outRun (Ms j) us)).1, 0, h') ∧ zOf m [12, 13, 14, 15, 16, 17, 18, 19, 20] [11, 15, 19] h h' ∧ MMs h' m Ms ∧ MO h' m (apAn (outRun (Ms j) us)).2 := fun y ⟨h', q1, q2, q3⟩ => ⟨h', q1, q2, d.o2 q2 (by decide), q3⟩
      apply fin
      -- the beginning states
      have h6 := kM.1
      have start := zlp (P := fun q z => zOf m [12, 13, 14, 15, 16, 17, 18, 19, 20] [11, 15, 19] h z ∧ zI z m 19 = -2 ∧ LTr z m (((List.range q).filter fun q => (Ms j).2.1.testBit q).map fun q => (q, []))) (g := fun q z => zm_X12_apply 39 [some (.inr m), some (.inl (nI j)), some (.inl (nI k0)), some (.inl (nI (nd k0))), some (.inl (nI q)), none, none, none] [] z) (n := (Ms j).1) ?_ 0 z0 (Nat.zero_le _) ⟨o1, e19, l0⟩
      · obtain ⟨z1, s1, s2, s3, s4⟩ := start
        have dm := d.o2 s2 (by decide)
        rw [n0]
        rw [show zm_X12_apply 39 [some (.inr m), some (.inl (nI j)), some (.inl (nI k0)), some (.inl (nI (nd k0))), some (.inl (nI 0)), none, none, none] [] z0 = _ from s1, e_X12_apply_39, mF0 dm.1, Option.bind_some, dm.many hj, Option.bind_some, if_neg (by rw [nI_ltI (by omega) (by omega)]; omega)]
        -- letter by letter
        refine zlq (P := fun k z => zOf m [12, 13, 14, 15, 16, 17, 18, 19, 20] [11, 15, 19] h z ∧ zI z m 19 = -2 ∧ ∃ l, (us.take k).foldlM (outStep (Ms j)) (outInit (Ms j)) = some l ∧ LTr z m l ∧ pOk (Ms j) k l) (g := fun k z => zm_X12_apply 87 [some (.inr m), some (.inl (nI j)), some (.inl (nI k0)), some (.inl (nI (nd k0))), some (.inl (nI k)), none, none, none] [] z) (n := us.length) (Q := fun y => ApQ Ms h m (outRun (Ms j) us) y) ?_ ?_ 0 z1 (Nat.zero_le _) ⟨s2, s3, outInit (Ms j), rfl, s4, outInit_ok kM⟩
        · rintro k z hku ⟨oz, ez, l, el, ll, pl⟩
          have lay2 := oz.lay d.1
          have hget : us[k]? = some (us.getD k 0) := by rw [List.getD_eq_getElem?_getD, List.getElem?_eq_getElem hku]; rfl
          have hc4 := k6 _ (List.mem_of_getElem? hget)
          have hc : (dl (nd k0) k0).getD k 0 = nI (us.getD k 0) := by
            have e1 : dl (nd k0) k0 = us.map nI := by rw [k4, k3]; rfl
            rw [e1, List.getD_eq_getElem?_getD, List.getElem?_map, hget]
            rfl
          rw [e_X12_apply_87, if_pos ((nI_ltI (by omega) (by omega)).mpr (by omega)), zif_ok lay2.1]
          obtain ⟨z2, q1, q2, q3, q4⟩ := s_mnow lay2 ll
          rw [q1, Option.bind_some]
          dsimp only
          have oz2 := oz.tr (q2.wide (L' := [12, 13, 14, 15, 16, 17, 18, 19, 20]) (J' := [11, 15, 19]) (by decide) (by decide))
          rcases s_mapply_step (tot := outRun (Ms j) us) d hk hj oz2 ((q2.J (by decide)).trans ez) q3 q4 pl (by omega) k2 (by omega) hc (by omega) (by omega) (fun e => by
            have : us.foldlM (outStep (Ms j)) (outInit (Ms j)) = none := fm_none (i := k + 1) (by rw [fm_take hget el]; exact e)
            unfold outRun
            rw [this]
            rfl) with q | ⟨h', r2, p1, p2, p3, p4, p5⟩
          · left
            exact q
          · right
            exact ⟨h', p2, p3, p4, r2, by rw [fm_take hget el]; exact p1, p5, outStep_ok kM p1 pl⟩
        · rintro z ⟨oz, ez, l, el, ll, pl⟩
          have lay2 := oz.lay d.1
          rw [List.take_length] at el
          rw [e_X12_apply_87, if_neg (by rw [nI_ltI (by omega) (by omega)]; omega), zif_ok lay2.1]
          obtain ⟨z2, q1, q2, q3, q4⟩ := s_mnow lay2 ll
          rw [q1, Option.bind_some]
          dsimp only
          have oz2 := oz.tr (q2.wide (L' := [12, 13, 14, 15, 16, 17, 18, 19, 20]) (J' := [11, 15, 19]) (by decide) (by decide))
          have er : outRun (Ms j) us = some (outFin (Ms j) l) := by unfold outRun; rw [el]; rfl
          rw [er]
          exact s_mapply_end d hk hj oz2 q3 q4 pl k5
      · rintro q z hq ⟨oz, ez, lz⟩
        have dm := d.o2 oz (by decide)
        rw [e_X12_apply_39, mF0 dm.1, Option.bind_some, dm.many hj, Option.bind_some, if_pos ((nI_ltI (by omega) (by omega)).mpr hq), mF1 dm.1, Option.bind_some, n6, pk_mul, nI_add, dm.first hj (by omega), Option.bind_some, nI_1, rng_s]
        cases e : (Ms j).2.1.testBit q with
        | false =>
          rw [if_pos (show bI false = 0 from rfl)]
          simp only [Bool.false_eq_true, if_false, List.append_nil]
          exact ⟨z, rfl, oz, ez, lz⟩
        | true =>
          rw [if_neg (show ¬ bI true = 0 by decide), zif_ok dm.1.1]
          simp only [if_true, List.map_append, List.map_cons, List.map_nil]
          generalize hL : ((List.range q).filter fun q => (Ms j).2.1.testBit q).map (fun q => (q, ([] : zWo))) = L at *
          obtain ⟨z2, q1, q2, q3⟩ := s_mlater (w := []) (q := q) dm.1 lz Rw.nil (by decide) (by omega)
          rw [show zf nX12_later [.inr m, .inl (nI q), .inl (0 : Int32)] z = _ from q1, Option.bind_some]
          have hno : (q, ([] : zWo)) ∉ L := fun hm => by
            rw [← hL] at hm
            obtain ⟨a, ha, ea⟩ := List.mem_map.mp hm
            have := List.mem_range.mp (List.mem_filter.mp ha).1
            have e2 : a = q := congrArg Prod.fst ea
            omega
          have hlen : L.length < 60 := by
            have h1 : ((List.range q).filter fun q => (Ms j).2.1.testBit q).length ≤ (List.range q).length := List.length_filter_le _ _
            rw [List.length_range] at h1
            rw [← hL, List.length_map]
            omega
          have eo : outAdd (q, ([] : zWo)) L = some (L ++ [(q, [])]) := by
            unfold outAdd
            rw [if_neg hno, if_pos hlen]
          rw [eo] at q3 ⊢
          dsimp only
          rw [if_neg isS]
          exact ⟨z2, rfl, oz.tr (q2.wide (by decide) (by decide)), (q2.J (by decide)).trans ez, q3⟩
    · have ea : aApply Ms fs (nI j) w = (-1, fs) := by
        unfold aApply
        rw [if_neg (fun z => cw z.2)]
      have hlt : ltI 3 w < 0 ∨ 9 < ltI 3 w := by
        apply Classical.byContradiction
        intro z
        exact cw ((isW_lt 3).mpr ⟨fun q => z (Or.inl q), fun q => z (Or.inr q)⟩)
      rw [ea]
      by_cases c1 : ltI 3 w < 0
      · rw [if_pos c1]
        exact ⟨h, rfl, zOf.rf, d, mo⟩
      · rw [if_neg c1, if_pos (hlt.resolve_left c1)]
        exact ⟨h, rfl, zOf.rf, d, mo⟩
  · have ea : aApply Ms fs t w = (-1, fs) := by
      unfold aApply
      rw [if_neg (fun z => ct z.1)]
    rw [if_neg ct, if_pos rfl, ea]
    exact ⟨h, rfl, zOf.rf, d, mo⟩
