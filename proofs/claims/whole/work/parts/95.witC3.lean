/-! The class Witness: what it is told. -/
theorem wF.gr {w : Nat} {h h' : zM} (f : wF w h h') : zGr w (w + 78) h h' := ⟨f.1, f.2.1, fun a ha => ⟨f.2.2.1 a (by omega), f.2.2.2 a (by omega)⟩⟩
theorem WA.W0 {h : zM} {w b1 b2 : Nat} {now beh : zTl} {tot : List zWo} (x : WA h w b1 b2 now beh tot) : W0 h w b1 b2 := by
  obtain ⟨d, tn, tb, tt, u, hu⟩ := x
  have := d.b
  refine ⟨d, fun b hb q hq => ?_, ⟨tot, tt⟩, u, hu⟩
  by_cases e : b = b1
  · subst e; exact ⟨_, tn q hq⟩
  · have : b = b2 := by omega
    subst this; exact ⟨_, tb q hq⟩
abbrev zWt : Type := Option (List Nat × (Nat → Option zWo))
/-- the words of both outputs' places -/
def WP (h : zM) (w : Nat) : Prop := ∀ t, t < 2 → ∃ u, Wd h (w + 4 + 2 * t) 387 u
def WT (h : zM) (w : Nat) (st : zWt) : Prop := ∃ b1 b2, W0 h w b1 b2 ∧ (∃ u, Wd h (w + 1) 128 u) ∧ WP h w ∧ match st with
  | none => zI h w 0 = 0
  | some p => zI h w 0 = 1 ∧ Wd h (w + 1) 128 (p.1.map nI) ∧ ∀ t, t < 2 → zI h (w + 8) t = bI (p.2 t).isSome ∧ ∀ x, p.2 t = some x → Wd h (w + 4 + 2 * t) 387 x
theorem WT.eq {h h' : zM} {w : Nat} {st : zWt} (x : WT h w st) (f : zEq w (w + 78) h h') : WT h' w st := by
  obtain ⟨b1, b2, ⟨d, t1, ⟨l9, t9⟩, u, hu⟩, ⟨v, hv⟩, p, m⟩ := x
  refine ⟨b1, b2, ⟨d.eq (f.sub (by omega) (by omega)), fun b hb q hq => ?_, ⟨l9, t9.eq (f.sub (by omega) (by omega))⟩, u, hu.eq (f.sub (by omega) (by omega))⟩, ⟨v, hv.eq (f.sub (by omega) (by omega))⟩, fun t ht => ?_, ?_⟩
  · obtain ⟨l, hl⟩ := t1 b hb q hq
    have := tl_in (w := w) hb hq
    exact ⟨l, hl.eq (f.sub (by omega) (by omega))⟩
  · obtain ⟨y, hy⟩ := p t ht
    exact ⟨y, hy.eq (f.sub (by omega) (by omega))⟩
  · cases st with
    | none => exact (f.I (by omega) (by omega) _).trans m
    | some p =>
      obtain ⟨m1, m2, m3⟩ := m
      exact ⟨(f.I (by omega) (by omega) _).trans m1, m2.eq (f.sub (by omega) (by omega)), fun t ht => ⟨(f.I (by omega) (by omega) _).trans (m3 t ht).1, fun x hx => ((m3 t ht).2 x hx).eq (f.sub (by omega) (by omega))⟩⟩
theorem s_wput {z : zM} {w b1 b2 t j : Nat} {now beh : zTl} {tot : List zWo} (ht : t < 2) (hj : j < 2) (wa : WA z w b1 b2 now beh tot) (p : WP z w) :
    ∃ z1 z2, zbs z (w + 8) (nI t) (bI (tot[j]?).isSome) = some z1 ∧ zgF z1 w 9 2 = some (w + 3) ∧ zaa z1 (w + 3) (nI t) = some (w + 4 + 2 * t) ∧ zgF z1 w 9 4 = some (w + 9) ∧ zgF z1 (w + 9) 8 (j + 1) = some (w + 10 + 2 * j) ∧ zK z1 (w + 4 + 2 * t) = 11 ∧ zf nX10_become [.inr (w + 4 + 2 * t), .inr (w + 10 + 2 * j)] z1 = some (0, 0, z2) ∧
    zFr (w + 4) (w + 9) z z2 ∧ WA z2 w b1 b2 now beh tot ∧ WP z2 w ∧ zI z2 (w + 8) t = bI (tot[j]?).isSome ∧ (∀ x, tot[j]? = some x → Wd z2 (w + 4 + 2 * t) 387 x) ∧ (∀ t', t' ≠ t → zI z2 (w + 8) t' = zI z (w + 8) t') ∧ ∀ t', t' ≠ t → t' < 2 → zEq (w + 4 + 2 * t') (w + 6 + 2 * t') z z2 := by
  obtain ⟨d, tn, tb, tt, u, hu⟩ := id wa
  obtain ⟨hb1, hb2, hne⟩ := d.b
  have k8 := d.2.2.2.1
  have f1 : zFr (w + 4) (w + 9) z (zsI z (w + 8) t (bI (tot[j]?).isSome)) := zFr_sI (by omega) (by omega)
  have f1' : zFr (w + 8) (w + 9) z (zsI z (w + 8) t (bI (tot[j]?).isSome)) := zFr_sI (by omega) (by omega)
  have d1 := d.keep f1
  have t1 := tt.keep f1 (by omega)
  obtain ⟨v, hv⟩ := p t ht
  have hv1 := hv.keep f1' (by omega)
  have src : zgF (zsI z (w + 8) t (bI (tot[j]?).isSome)) (w + 9) 8 (j + 1) = some (w + 10 + 2 * j) ∧ ∃ y, Wd (zsI z (w + 8) t (bI (tot[j]?).isSome)) (w + 10 + 2 * j) 387 y ∧ ∀ x, tot[j]? = some x → y = x := by
    rcases (show j = 0 ∨ j = 1 by omega) with rfl | rfl
    · exact ⟨t1.f1, t1.2.2.2.1⟩
    · exact ⟨t1.f2, t1.2.2.2.2⟩
  obtain ⟨s1, y, s2, s3⟩ := src
  obtain ⟨z2, a1, a2, a3⟩ := s_become hv1 s2 (by omega)
  rw [List.take_of_length_le s2.small.2.2] at a3
  have f2 : zFr (w + 4) (w + 9) z z2 := f1.tr (a2.wide (by omega) (by omega))
  refine ⟨_, z2, zbs_ok k8.1 (by rw [k8.2]; exact ht) (by rw [k8.2]; omega) (bI01 _), d1.g2, d1.wr ht, d1.g4, s1, hv1.1, a1, f2, ⟨d.keep f2, fun q hq => (tn q hq).keep f2 (by have := tl_in (w := w) hb1 hq; omega), fun q hq => (tb q hq).keep f2 (by have := tl_in (w := w) hb2 hq; omega), tt.keep f2 (by omega), u, hu.keep f2 (by omega)⟩, fun t' ht' => ?_, ?_, fun x hx => ?_, fun t' ht' => ?_, fun t' h1 h2 => (f1'.eq (by omega)).tr (a2.eq (by omega))⟩
  · by_cases e : t' = t
    · subst e; exact ⟨y, a3⟩
    · obtain ⟨v', hv'⟩ := p t' ht'
      exact ⟨v', (hv'.keep f1' (by omega)).keep a2 (by omega)⟩
  · rw [a2.I (by omega), zI_sI]
  · rw [← s3 x hx]; exact a3
  · rw [a2.I (by omega), zI_sI_k ht']
theorem get_len {tot : List zWo} {j : Nat} : (tot[j]?).isSome = true ↔ j < tot.length := by
  rw [Option.isSome_iff_exists]
  constructor
  · rintro ⟨x, h⟩; exact (List.getElem?_eq_some_iff.mp h).1
  · intro h; exact ⟨_, List.getElem?_eq_getElem h⟩
theorem get_some {tot : List zWo} {j : Nat} (h : j < tot.length) : bI (tot[j]?).isSome = 1 := by rw [get_len.mpr h]; rfl
theorem get_none {tot : List zWo} {j : Nat} (h : ¬ j < tot.length) : bI (tot[j]?).isSome = 0 := by
  have : (tot[j]?).isSome = false := by
    cases e : (tot[j]?).isSome with
    | false => rfl
    | true => exact absurd (get_len.mp e) h
  rw [this]; rfl
theorem s_wstart {h : zM} {w s : Nat} {st : zWt} {us : List Nat} (x : WT h w st) (hs : s + 2 ≤ w ∨ w + 78 ≤ s) (hw : Wd h s 128 (us.map nI)) :
    ∃ h1, zpZ h w 9 0 1 = some (zsI h w 0 1) ∧ zgF (zsI h w 0 1) w 9 1 = some (w + 1) ∧ zK (zsI h w 0 1) (w + 1) = 11 ∧ zf nX10_become [.inr (w + 1), .inr s] (zsI h w 0 1) = some (0, 0, h1) ∧ zFr w (w + 3) h h1 ∧ zI h1 w 0 = 1 ∧ Wd h1 (w + 1) 128 (us.map nI) ∧ WP h1 w ∧ ∃ b1 b2, W0 h1 w b1 b2 := by
  obtain ⟨b1, b2, x0, ⟨v, hv⟩, p, _⟩ := x
  have f1 : zFr w (w + 1) h (zsI h w 0 1) := zFr_sI (by omega) (by omega)
  have hv1 := hv.keep f1 (by omega)
  obtain ⟨h1, a1, a2, a3⟩ := s_become hv1 (hw.keep f1 (by omega)) (by omega)
  rw [List.take_of_length_le hw.small.2.2] at a3
  have f2 : zFr w (w + 3) h h1 := (f1.wide (by omega) (by omega)).tr (a2.wide (by omega) (by omega))
  refine ⟨h1, zpZ_ok x0.1.1 (Or.inr rfl), (x0.1.keep f1).g1, hv1.1, a1, f2, by rw [a2.I (by omega), zI_sI], a3, fun t ht => ?_, b1, b2, x0.keep f2 (by omega)⟩
  obtain ⟨y, hy⟩ := p t ht
  exact ⟨y, hy.keep f2 (by omega)⟩
theorem s_tellO {h : zM} {w s A : Nat} {M : zMa} {st : zWt} {us : List Nat} (mM : MC h A M) (kM : MaOk M) (hA : A + 6 ≤ w ∨ w + 78 ≤ A) (x : WT h w st) (hs : s + 2 ≤ w ∨ w + 78 ≤ s) (hw : Wd h s 128 (us.map nI)) (hus : ∀ l ∈ us, l < 4) :
    ∃ h', zf nX9_tellOutputsApart [.inr w, .inr A, .inr s] h = some (0, 0, h') ∧ zGr w (w + 78) h h' ∧ WT h' w (some (us, fun t => (wtOut M us)[t]?)) := by
  obtain ⟨h1, a1, a2, a3, a4, f1, i1, w1, p1, b1, b2, x1⟩ := s_wstart x hs hw
  obtain ⟨h2, c1, f2, b1', b2', now, beh, wa⟩ := s_wwrite (mM.keep f1 (by omega)) kM hA x1 w1 hus
  have p2 : WP h2 w := fun t ht => by
    obtain ⟨y, hy⟩ := p1 t ht
    exact ⟨y, hy.eq (f2.eq2 (by omega) (by omega))⟩
  have ol := (wtOut_ok kM us).1
  generalize wtOut M us = tot at *
  obtain ⟨z1, z2, q1, q2, q3, q4, q5, q6, q7, q8, q9, q10, q11, q12, q13, q14⟩ := s_wput (t := 0) (j := 0) (by decide) (by decide) wa p2
  obtain ⟨y1, y2, r1, r2, r3, r4, r5, r6, r7, r8, r9, r10, r11, r12, r13, r14⟩ := s_wput (t := 1) (j := 1) (by decide) (by decide) q9 q10
  have d2 := wa.1
  have dz := q9.1
  have cz := q9.2.2.2.1.i0
  have fr : zFr w (w + 9) h2 y2 := (q8.wide (by omega) (by omega)).tr (r8.wide (by omega) (by omega))
  have fall : zGr w (w + 78) h y2 := (f1.gr.wide (by omega) (by omega)).tr (f2.gr.tr (fr.gr.wide (by omega) (by omega)))
  have fin : WT y2 w (some (us, fun t => tot[t]?)) := by
    refine ⟨b1', b2', r9.W0, ⟨_, (w1.eq (f2.eq2 (by omega) (by omega))).eq ((q8.eq (by omega)).tr (r8.eq (by omega)))⟩, r10, ?_, (w1.eq (f2.eq2 (by omega) (by omega))).eq ((q8.eq (by omega)).tr (r8.eq (by omega))), fun t ht => ?_⟩
    · rw [r8.I (by omega), q8.I (by omega), f2.I (by omega), i1]
    · rcases (show t = 0 ∨ t = 1 by omega) with rfl | rfl
      · exact ⟨(r13 0 (by decide)).trans q11, fun v hv => (q12 v hv).eq (r14 0 (by decide) (by decide))⟩
      · exact ⟨r11, fun v hv => r12 v hv⟩
  refine ⟨y2, ?_, fall, fin⟩
  rw [e_X9_tellOutputsApart, a1, Option.bind_some, a2, Option.bind_some, zif_ok a3, a4, Option.bind_some]
  dsimp only
  rw [zif_ok x1.1.1, c1, Option.bind_some]
  dsimp only
  rw [d2.g3, Option.bind_some, d2.g4, Option.bind_some, wa.2.2.2.1.i0, Option.bind_some]
  by_cases c0 : 0 < tot.length
  · rw [if_pos (by rw [n0, nI_ltI (by omega) (by omega)]; exact c0)]
    rw [get_some c0] at q1
    rw [show zbs h2 (w + 8) 0 _ = _ from q1, Option.bind_some, q2, Option.bind_some, show zaa z1 (w + 3) 0 = _ from q3, Option.bind_some, q4, Option.bind_some, show zgF z1 (w + 9) 8 1 = _ from q5, Option.bind_some, zif_ok q6, q7, Option.bind_some]
    dsimp only
    rw [dz.g3, Option.bind_some, dz.g4, Option.bind_some, cz, Option.bind_some]
    by_cases c1 : 1 < tot.length
    · rw [if_pos (by rw [n1, nI_ltI (by omega) (by omega)]; exact c1)]
      rw [get_some c1] at r1
      rw [show zbs z2 (w + 8) 1 _ = _ from r1, Option.bind_some, r2, Option.bind_some, show zaa y1 (w + 3) 1 = _ from r3, Option.bind_some, r4, Option.bind_some, show zgF y1 (w + 9) 8 2 = _ from r5, Option.bind_some, zif_ok r6, r7, Option.bind_some]
    · rw [if_neg (by rw [n1, nI_ltI (by omega) (by omega)]; exact c1)]
      rw [get_none c1] at r1
      rw [show zbs z2 (w + 8) 1 _ = _ from r1, Option.bind_some, r2, Option.bind_some, show zaa y1 (w + 3) 1 = _ from r3, Option.bind_some, r4, Option.bind_some, show zgF y1 (w + 9) 8 2 = _ from r5, Option.bind_some, zif_ok r6, r7, Option.bind_some]
  · rw [if_neg (by rw [n0, nI_ltI (by omega) (by omega)]; exact c0)]
    rw [get_none c0] at q1
    rw [show zbs h2 (w + 8) 0 _ = _ from q1, Option.bind_some, q2, Option.bind_some, show zaa z1 (w + 3) 0 = _ from q3, Option.bind_some, q4, Option.bind_some, show zgF z1 (w + 9) 8 1 = _ from q5, Option.bind_some, zif_ok q6, q7, Option.bind_some]
    dsimp only
    rw [dz.g3, Option.bind_some, dz.g4, Option.bind_some, cz, Option.bind_some]
    by_cases c1 : 1 < tot.length
    · rw [if_pos (by rw [n1, nI_ltI (by omega) (by omega)]; exact c1)]
      rw [get_some c1] at r1
      rw [show zbs z2 (w + 8) 1 _ = _ from r1, Option.bind_some, r2, Option.bind_some, show zaa y1 (w + 3) 1 = _ from r3, Option.bind_some, r4, Option.bind_some, show zgF y1 (w + 9) 8 2 = _ from r5, Option.bind_some, zif_ok r6, r7, Option.bind_some]
    · rw [if_neg (by rw [n1, nI_ltI (by omega) (by omega)]; exact c1)]
      rw [get_none c1] at r1
      rw [show zbs z2 (w + 8) 1 _ = _ from r1, Option.bind_some, r2, Option.bind_some, show zaa y1 (w + 3) 1 = _ from r3, Option.bind_some, r4, Option.bind_some, show zgF y1 (w + 9) 8 2 = _ from r5, Option.bind_some, zif_ok r6, r7, Option.bind_some]
theorem s_tellM {h : zM} {w s A B : Nat} {M N : zMa} {st : zWt} {us : List Nat} (mM : MC h A M) (kM : MaOk M) (hA : A + 6 ≤ w ∨ w + 78 ≤ A) (mN : MC h B N) (kN : MaOk N) (hB : B + 6 ≤ w ∨ w + 78 ≤ B) (x : WT h w st) (hs : s + 2 ≤ w ∨ w + 78 ≤ s) (hw : Wd h s 128 (us.map nI)) (hus : ∀ l ∈ us, l < 4) :
    ∃ h', zf nX9_tellMachinesApart [.inr w, .inr A, .inr B, .inr s] h = some (0, 0, h') ∧ zGr w (w + 78) h h' ∧ WT h' w (some (us, fun t => if t = 0 then (wtOut M us)[0]? else (wtOut N us)[0]?)) := by
  obtain ⟨h1, a1, a2, a3, a4, f1, i1, w1, p1, b1, b2, x1⟩ := s_wstart x hs hw
  obtain ⟨h2, c1, f2, b1', b2', now, beh, wa⟩ := s_wwrite (mM.keep f1 (by omega)) kM hA x1 w1 hus
  have p2 : WP h2 w := fun t ht => by
    obtain ⟨y, hy⟩ := p1 t ht
    exact ⟨y, hy.eq (f2.eq2 (by omega) (by omega))⟩
  have ol := (wtOut_ok kM us).1
  have on := (wtOut_ok kN us).1
  generalize wtOut M us = tot at *
  obtain ⟨z1, z2, q1, q2, q3, q4, q5, q6, q7, q8, q9, q10, q11, q12, q13, q14⟩ := s_wput (t := 0) (j := 0) (by decide) (by decide) wa p2
  have w2 := (w1.eq (f2.eq2 (by omega) (by omega))).keep q8 (by omega)
  obtain ⟨h3, g1, f3, b1'', b2'', now', beh', wb⟩ := s_wwrite (((mN.keep f1 (by omega)).eq (f2.eq (by omega))).keep q8 (by omega)) kN hB q9.W0 w2 hus
  have p3 : WP h3 w := fun t ht => by
    obtain ⟨y, hy⟩ := q10 t ht
    exact ⟨y, hy.eq (f3.eq2 (by omega) (by omega))⟩
  generalize wtOut N us = tot2 at *
  obtain ⟨y1, y2, r1, r2, r3, r4, r5, r6, r7, r8, r9, r10, r11, r12, r13, r14⟩ := s_wput (t := 1) (j := 0) (by decide) (by decide) wb p3
  have d2 := wa.1
  have d3 := wb.1
  have fall : zGr w (w + 78) h y2 := (f1.gr.wide (by omega) (by omega)).tr (f2.gr.tr ((q8.gr.wide (by omega) (by omega)).tr (f3.gr.tr (r8.gr.wide (by omega) (by omega)))))
  have w3 := (w2.eq (f3.eq2 (by omega) (by omega))).keep r8 (by omega)
  have fin : WT y2 w (some (us, fun t => if t = 0 then tot[0]? else tot2[0]?)) := by
    refine ⟨b1'', b2'', r9.W0, ⟨_, w3⟩, r10, ?_, w3, fun t ht => ?_⟩
    · rw [r8.I (by omega), f3.I (by omega), q8.I (by omega), f2.I (by omega), i1]
    · rcases (show t = 0 ∨ t = 1 by omega) with rfl | rfl
      · refine ⟨(r13 0 (by decide)).trans ((f3.I (by omega) _).trans q11), fun v hv => ((q12 v hv).eq (f3.eq2 (by omega) (by omega))).eq (r14 0 (by decide) (by decide))⟩
      · exact ⟨r11, fun v hv => r12 v hv⟩
  refine ⟨y2, ?_, fall, fin⟩
  rw [e_X9_tellMachinesApart, a1, Option.bind_some, a2, Option.bind_some, zif_ok a3, a4, Option.bind_some]
  dsimp only
  rw [zif_ok x1.1.1, c1, Option.bind_some]
  dsimp only
  rw [d2.g3, Option.bind_some, d2.g4, Option.bind_some, wa.2.2.2.1.i0, Option.bind_some]
  by_cases c0 : 0 < tot.length
  · rw [if_pos (by rw [n0, nI_ltI (by omega) (by omega)]; exact c0)]
    rw [get_some c0] at q1
    rw [show zbs h2 (w + 8) 0 _ = _ from q1, Option.bind_some, q2, Option.bind_some, show zaa z1 (w + 3) 0 = _ from q3, Option.bind_some, q4, Option.bind_some, show zgF z1 (w + 9) 8 1 = _ from q5, Option.bind_some, zif_ok q6, q7, Option.bind_some]
    dsimp only
    rw [zif_ok q9.1.1, g1, Option.bind_some]
    dsimp only
    rw [d3.g3, Option.bind_some, d3.g4, Option.bind_some, wb.2.2.2.1.i0, Option.bind_some]
    by_cases c1 : 0 < tot2.length
    · rw [if_pos (by rw [n0, nI_ltI (by omega) (by omega)]; exact c1)]
      rw [get_some c1] at r1
      rw [show zbs h3 (w + 8) 1 _ = _ from r1, Option.bind_some, r2, Option.bind_some, show zaa y1 (w + 3) 1 = _ from r3, Option.bind_some, r4, Option.bind_some, show zgF y1 (w + 9) 8 1 = _ from r5, Option.bind_some, zif_ok r6, r7, Option.bind_some]
    · rw [if_neg (by rw [n0, nI_ltI (by omega) (by omega)]; exact c1)]
      rw [get_none c1] at r1
      rw [show zbs h3 (w + 8) 1 _ = _ from r1, Option.bind_some, r2, Option.bind_some, show zaa y1 (w + 3) 1 = _ from r3, Option.bind_some, r4, Option.bind_some, show zgF y1 (w + 9) 8 1 = _ from r5, Option.bind_some, zif_ok r6, r7, Option.bind_some]
  · rw [if_neg (by rw [n0, nI_ltI (by omega) (by omega)]; exact c0)]
    rw [get_none c0] at q1
    rw [show zbs h2 (w + 8) 0 _ = _ from q1, Option.bind_some, q2, Option.bind_some, show zaa z1 (w + 3) 0 = _ from q3, Option.bind_some, q4, Option.bind_some, show zgF z1 (w + 9) 8 1 = _ from q5, Option.bind_some, zif_ok q6, q7, Option.bind_some]
    dsimp only
    rw [zif_ok q9.1.1, g1, Option.bind_some]
    dsimp only
    rw [d3.g3, Option.bind_some, d3.g4, Option.bind_some, wb.2.2.2.1.i0, Option.bind_some]
    by_cases c1 : 0 < tot2.length
    · rw [if_pos (by rw [n0, nI_ltI (by omega) (by omega)]; exact c1)]
      rw [get_some c1] at r1
      rw [show zbs h3 (w + 8) 1 _ = _ from r1, Option.bind_some, r2, Option.bind_some, show zaa y1 (w + 3) 1 = _ from r3, Option.bind_some, r4, Option.bind_some, show zgF y1 (w + 9) 8 1 = _ from r5, Option.bind_some, zif_ok r6, r7, Option.bind_some]
    · rw [if_neg (by rw [n0, nI_ltI (by omega) (by omega)]; exact c1)]
      rw [get_none c1] at r1
      rw [show zbs h3 (w + 8) 1 _ = _ from r1, Option.bind_some, r2, Option.bind_some, show zaa y1 (w + 3) 1 = _ from r3, Option.bind_some, r4, Option.bind_some, show zgF y1 (w + 9) 8 1 = _ from r5, Option.bind_some, zif_ok r6, r7, Option.bind_some]
