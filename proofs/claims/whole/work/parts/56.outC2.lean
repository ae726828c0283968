/-! The class Outputs: a step, the end, the whole. -/
theorem MaOk.w3 {M : zMa} (k : MaOk M) {i : Nat} (hi : i < M.2.2.2.length) : (dgs (arcAt M i).2.2.2).length ≤ 3 ∧ (arcAt M i).2.2.2 < 1000 := ⟨(k.at2 hi).2.2.2.len, (k.at2 hi).2.2.2.lt⟩
theorem s_ostep_in {h : zM} {o b1 b2 a n i ch : Nat} {π : Nat → Nat} {c : Int32} {M : zMa} {l r : List (Nat × zWo)} (m : MC h a M) (k : MaOk M) (hd : a + 6 ≤ o ∨ o + 368 ≤ a) (d : OS0 h o b1 b2 π c) (d1 : OS1 h o b1 l) (d2 : OS2 h o b2 r)
    (pl : pOk M n l) (pr : pOk M (n + 1) r) (hn : n < 9) (hi : i < l.length) (hc : ch < 4) :
    (outPair M ch r (pAt l i) = none ∧ ∃ h' r', zm_X3_step 18 [some (.inr o), some (.inr a), some (.inl (nI ch)), some (.inl (nI i)), some (.inl (nI 0))] [] h = some (0, 0, h') ∧ zFr o (o + 368) h h' ∧ OS0 h' o b1 b2 π c ∧ OS1 h' o b1 l ∧ OS2 h' o b2 r') ∨
    (∃ r', outPair M ch r (pAt l i) = some r' ∧ ∃ h', zm_X3_step 18 [some (.inr o), some (.inr a), some (.inl (nI ch)), some (.inl (nI i)), some (.inl (nI 0))] [] h = zm_X3_step 7 [some (.inr o), some (.inr a), some (.inl (nI ch)), some (.inl (nI (i + 1))), none] [] h' ∧ zFr o (o + 368) h h' ∧ OS0 h' o b1 b2 π c ∧ OS1 h' o b1 l ∧ OS2 h' o b2 r') := by
  have k6 := k.1
  have k30 := k.2.2.2.1
  have hl := d1.2.2
  have hp := pl.2 _ (pAt_mem hi)
  refine zlq (P := fun j g => ∃ acc, (M.2.2.2.take j).foldlM (outArc ch (pAt l i)) r = some acc ∧ pOk M (n + 1) acc ∧ zFr o (o + 368) h g ∧ OS0 g o b1 b2 π c ∧ OS1 g o b1 l ∧ OS2 g o b2 acc)
    (g := fun j g => zm_X3_step 18 [some (.inr o), some (.inr a), some (.inl (nI ch)), some (.inl (nI i)), some (.inl (nI j))] [] g) (n := M.2.2.2.length)
    (Q := fun x => (outPair M ch r (pAt l i) = none ∧ ∃ h' r', x = some (0, 0, h') ∧ zFr o (o + 368) h h' ∧ OS0 h' o b1 b2 π c ∧ OS1 h' o b1 l ∧ OS2 h' o b2 r') ∨
    (∃ r', outPair M ch r (pAt l i) = some r' ∧ ∃ h', x = zm_X3_step 7 [some (.inr o), some (.inr a), some (.inl (nI ch)), some (.inl (nI (i + 1))), none] [] h' ∧ zFr o (o + 368) h h' ∧ OS0 h' o b1 b2 π c ∧ OS1 h' o b1 l ∧ OS2 h' o b2 r'))
    ?_ ?_ 0 h (Nat.zero_le _) ⟨r, rfl, pr, zFr.rf, d, d1, d2⟩
  · rintro j g hj ⟨acc, ha, pa, f, e0, e1, e2⟩
    have mg := m.keep f (by omega)
    have ka := k.at hj
    have dl := e0.1
    have hb := dl.h1
    obtain ⟨q1, q2⟩ := e1.2.1 i hi
    have ft := fm_take (f := outArc ch (pAt l i)) (s := r) (arc_get hj) ha
    rw [e_X3_step_18]
    simp only [mg.arcs, mg.f4, mg.f5, mg.f6, mg.f7, dl.f2, dl.f3, dl.f4, mg.rfrom k hj, mg.rlet k hj, dl.ri hb (show i < 60 by omega), dl.rt hb (show i < 60 by omega), Option.bind_some, q1, nI_1]
    rw [if_pos ((nI_ltI (by omega) (by omega)).mpr hj)]
    by_cases c1 : (arcAt M j).1 = (pAt l i).1
    · rw [if_pos (by rw [c1])]
      by_cases c2 : (arcAt M j).2.1 = ch
      · rw [if_pos (by rw [c2])]
        have eo : outArc ch (pAt l i) acc (arcAt M j) = outAdd ((arcAt M j).2.2.1, (pAt l i).2 ++ dgs (arcAt M j).2.2.2) acc := by unfold outArc; rw [if_pos ⟨c1, c2⟩]
        obtain ⟨w3, w4⟩ := k.w3 hj
        obtain ⟨w0, hw0⟩ := e0.candW
        obtain ⟨h1, g1, g2, g3⟩ := s_become hw0 q2 (by omega)
        rw [List.take_of_length_le q2.small.2.2] at g3
        have m1 := mg.keep g2 (by omega)
        have c0 := e0.cand g2 g3
        rw [zif_ok hw0.1, g1, Option.bind_some]
        obtain ⟨h2, i1, i2, i3⟩ := s_addNumber g3 (nI (arcAt M j).2.2.2)
        rw [dn_nI (by omega), List.take_of_length_le (by rw [List.length_append]; omega)] at i3
        simp only [c0.1.f2, m1.f7, m1.rword k hj, Option.bind_some]
        rw [zif_ok g3.1, i1, Option.bind_some]
        have m2 := m1.keep i2 (by omega)
        have c1' := c0.cand i2 i3
        simp only [m2.f6, m2.rto k hj, Option.bind_some]
        obtain ⟨h3, j1, j2, j3, j4, j5⟩ := s_oreach k ka.2.2.1 pa c1' ((e1.cand hb g2).cand hb i2) ((e2.cand dl.h2 g2).cand dl.h2 i2) i3
        rw [zif_ok c1'.1.1, j1, Option.bind_some]
        have F : zFr o (o + 368) h h3 := f.tr ((g2.wide (by omega) (by omega)).tr ((i2.wide (by omega) (by omega)).tr j2))
        cases hA : outAdd ((arcAt M j).2.2.1, (pAt l i).2 ++ dgs (arcAt M j).2.2.2) acc with
        | none =>
          left
          left
          simp only [Option.isSome_none, Bool.false_eq_true, if_false, if_true]
          rw [zb0]
          refine ⟨?_, h3, _, rfl, F, j3, j4, j5⟩
          rw [eo, hA] at ft
          exact fm_none ft
        | some acc' =>
          right
          simp only [Option.isSome_some, if_true]
          rw [if_neg (by decide)]
          rw [eo, hA] at ft
          rw [hA] at j5
          exact ⟨h3, rfl, acc', ft, outArc_ok k (eo.trans hA) pa hp.2 (List.mem_of_getElem? (arc_get hj)), F, j3, j4, j5⟩
      · rw [if_neg (by rw [nI_eq (by omega) (by omega)]; exact c2)]
        right
        have eo : outArc ch (pAt l i) acc (arcAt M j) = some acc := by unfold outArc; rw [if_neg (fun z => c2 z.2)]
        exact ⟨g, rfl, acc, ft.trans eo, pa, f, e0, e1, e2⟩
    · rw [if_neg (by rw [nI_eq (by omega) (by omega)]; exact c1)]
      right
      have eo : outArc ch (pAt l i) acc (arcAt M j) = some acc := by unfold outArc; rw [if_neg (fun z => c1 z.1)]
      exact ⟨g, rfl, acc, ft.trans eo, pa, f, e0, e1, e2⟩
  · rintro g ⟨acc, ha, pa, f, e0, e1, e2⟩
    right
    rw [List.take_length] at ha
    refine ⟨acc, ha, g, ?_, f, e0, e1, e2⟩
    rw [e_X3_step_18, (m.keep f (by omega)).arcs, Option.bind_some, if_neg (by rw [nI_ltI (by omega) (by omega)]; omega), nI_1]
theorem s_ostep {h : zM} {o b1 b2 a n ch : Nat} {π : Nat → Nat} {c : Int32} {M : zMa} {l : List (Nat × zWo)} (m : MC h a M) (k : MaOk M) (hd : a + 6 ≤ o ∨ o + 368 ≤ a) (d : OS0 h o b1 b2 π c) (d1 : OS1 h o b1 l) (pl : pOk M n l) (hn : n < 9) (hc : ch < 4) :
    (outStep M l ch = none ∧ ∃ h', zf nX3_step [.inr o, .inr a, .inl (nI ch)] h = some (0, 0, h') ∧ zGr o (o + 368) h h' ∧ OS0 h' o b1 b2 π c) ∨
    (∃ r, outStep M l ch = some r ∧ ∃ h', zf nX3_step [.inr o, .inr a, .inl (nI ch)] h = some (1, 0, h') ∧ zGr o (o + 368) h h' ∧ OS0 h' o b2 b1 π c ∧ OS1 h' o b2 r) := by
  have hl := d1.2.2
  rw [e_X3_step, zpI_ok d.1.1, Option.bind_some]
  have f1 : zFr o (o + 1) h (zsI h o 8 0) := zFr_sI (by omega) (by omega)
  have s0 : OS0 (zsI h o 8 0) o b1 b2 π c := ⟨d.1.keep f1, d.2.1.keep f1 (by omega) (fun k _ _ _ => by omega), d.2.2.1.keep f1, by rw [zI_sI_k (by omega)]; exact d.2.2.2⟩
  have s1 : OS1 (zsI h o 8 0) o b1 l := ⟨by rw [zI_sI_k (by omega)]; exact d1.1, d1.2.1.keep hl (f1.eq (by have := d.1.h1; omega)), hl⟩
  refine zlq (P := fun i g => ∃ acc, (l.take i).foldlM (outPair M ch) [] = some acc ∧ pOk M (n + 1) acc ∧ zFr o (o + 368) h g ∧ OS0 g o b1 b2 π c ∧ OS1 g o b1 l ∧ OS2 g o b2 acc)
    (g := fun i g => zm_X3_step 7 [some (.inr o), some (.inr a), some (.inl (nI ch)), some (.inl (nI i)), none] [] g) (n := l.length)
    (Q := fun x => (outStep M l ch = none ∧ ∃ h', x = some (0, 0, h') ∧ zGr o (o + 368) h h' ∧ OS0 h' o b1 b2 π c) ∨ (∃ r, outStep M l ch = some r ∧ ∃ h', x = some (1, 0, h') ∧ zGr o (o + 368) h h' ∧ OS0 h' o b2 b1 π c ∧ OS1 h' o b2 r))
    ?_ ?_ 0 (zsI h o 8 0) (Nat.zero_le _) ⟨[], rfl, pOk_nil, f1.wide (by omega) (by omega), s0, s1, zI_sI, RP.nil, Nat.zero_le _⟩
  · rintro i g hi ⟨acc, ha, pa, f, e0, e1, e2⟩
    rw [e_X3_step_7, zgI_ok e0.1.1, Option.bind_some, e1.1, if_pos ((nI_ltI (by omega) (by omega)).mpr hi)]
    have ft := fm_take (f := outPair M ch) (s := []) (pAt_get hi) ha
    rcases s_ostep_in (m.keep f (by omega)) k hd e0 e1 e2 pl pa hn hi hc with ⟨p1, h', r', p2, p3, p4, p5, p6⟩ | ⟨r', p1, h', p2, p3, p4, p5, p6⟩
    · left
      left
      rw [p1] at ft
      exact ⟨fm_none ft, h', p2, (f.tr p3).gr, p4⟩
    · right
      rw [p1] at ft
      exact ⟨h', p2, r', ft, outPair_ok k p1 pa (pl.2 _ (pAt_mem hi)).2, f.tr p3, p4, p5, p6⟩
  · rintro g ⟨acc, ha, pa, f, e0, e1, e2⟩
    right
    rw [List.take_length] at ha
    obtain ⟨h', g1, g2, g3, g4⟩ := s_oturn e0 e2
    refine ⟨acc, ha, h', ?_, f.gr.tr (g2.wide (by omega) (by omega)), g3, g4⟩
    rw [e_X3_step_7, zgI_ok e0.1.1, Option.bind_some, e1.1, if_neg (by rw [nI_ltI (by omega) (by omega)]; omega), zif_ok e0.1.1, g1, Option.bind_some, zb1]
