/-! The class Outputs. -/
theorem va_up_both {α : Type} (f : Nat → α) (a : Nat) (x : α) (b : Nat) : va_up f a x b = if b = a then x else f b := by
  by_cases c : b = a
  · subst c; rw [va_up_self, if_pos rfl]
  · rw [va_up_ne _ _ c, if_neg c]
theorem zF_sF {h : zM} {a k x b j : Nat} : zF (zsF h a k x) b j = if b = a ∧ j = k then x else zF h b j := by
  simp only [zF, zsF, va_up_both]
  by_cases c : b = a
  · subst c
    simp only [if_true, true_and, va_up_both]
  · simp only [if_neg c, if_neg (fun z : b = a ∧ j = k => c z.1)]
theorem zb_at {h : zM} {a : Nat} {c : Nat} (hk : zK h a = c + 1) (k : Nat) : zgI h a c k = some (zI h a k) := zgI_ok hk
/-- the object at o with its two halves b1, b2 (states, texts), its words -/
def OL (h : zM) (o b1 b2 : Nat) : Prop := zK h o = 4 ∧ (zF h o 1 = o + 1 ∧ zF h o 2 = o + 122 ∧ zF h o 3 = o + b1 ∧ zF h o 4 = o + b1 + 1 ∧ zF h o 6 = o + b2 ∧ zF h o 7 = o + b2 + 1) ∧ (zK h (o + 1) = 104 ∧ zN h (o + 1) = 60) ∧
  (∀ b, b = 124 ∨ b = 246 → zK h (o + b) = 101 ∧ zN h (o + b) = 60 ∧ zK h (o + b + 1) = 104 ∧ zN h (o + b + 1) = 60 ∧ ∀ i, i < 60 → zF h (o + b + 1) i = o + b + 2 + 2 * i) ∧ ((b1 = 124 ∧ b2 = 246) ∨ (b1 = 246 ∧ b2 = 124))
theorem OL.keep {o b1 b2 lo hi : Nat} {h h' : zM} (d : OL h o b1 b2) (f : zFr lo hi h h') : OL h' o b1 b2 := by
  obtain ⟨d1, ⟨d2, d3, d4, d5, d6, d7⟩, d8, d9, d10⟩ := d
  exact ⟨by rw [f.K]; exact d1, ⟨by rw [f.F]; exact d2, by rw [f.F]; exact d3, by rw [f.F]; exact d4, by rw [f.F]; exact d5, by rw [f.F]; exact d6, by rw [f.F]; exact d7⟩, by rw [f.K, f.N]; exact d8,
    fun b hb => by rw [f.K, f.N, f.K, f.N]; exact ⟨(d9 b hb).1, (d9 b hb).2.1, (d9 b hb).2.2.1, (d9 b hb).2.2.2.1, fun i hi => by rw [f.F]; exact (d9 b hb).2.2.2.2 i hi⟩, d10⟩
/-- all its places hold words -/
def OW (h : zM) (o : Nat) : Prop := ∀ k, k < 183 → k ≠ 61 → k ≠ 122 → ∃ w, Wd h (o + 2 + 2 * k) 30 w
theorem OW.keep {o lo hi : Nat} {h h' : zM} (d : OW h o) (f : zFr lo hi h h') (hd : hi ≤ lo + 1) (hw : ∀ k, k < 183 → k ≠ 61 → k ≠ 122 → o + 2 + 2 * k ≠ lo ∧ o + 3 + 2 * k ≠ lo) : OW h' o := fun k h1 h2 h3 => by
  obtain ⟨w, hw2⟩ := d k h1 h2 h3
  have := hw k h1 h2 h3
  exact ⟨w, hw2.keep f (by omega)⟩
theorem OW.put {o k : Nat} {h h' : zM} {w : zWo} (d : OW h o) (f : zFr (o + 2 + 2 * k) (o + 2 + 2 * k + 2) h h') (hw : Wd h' (o + 2 + 2 * k) 30 w) : OW h' o := fun j h1 h2 h3 => by
  by_cases e : j = k
  · subst e; exact ⟨w, hw⟩
  · obtain ⟨w2, hw2⟩ := d j h1 h2 h3
    exact ⟨w2, hw2.keep f (by omega)⟩
/-- the pairs l stand in the half b -/
def RP (h : zM) (o b : Nat) (l : List (Nat × zWo)) : Prop := ∀ i, i < l.length → zI h (o + b) i = nI (pAt l i).1 ∧ Wd h (o + b + 2 + 2 * i) 30 (pAt l i).2
theorem RP.keep {o b : Nat} {h h' : zM} {l : List (Nat × zWo)} (d : RP h o b l) (hl : l.length ≤ 60) (f : zEq (o + b) (o + b + 122) h h') : RP h' o b l := fun i hi =>
  ⟨by rw [f.I (by omega) (by omega)]; exact (d i hi).1, (d i hi).2.eq (f.sub (by omega) (by omega))⟩
theorem RP.nil {o b : Nat} {h : zM} : RP h o b [] := fun i hi => by cases hi
section OLR
variable {h : zM} {o b1 b2 : Nat}
theorem OL.f1 (d : OL h o b1 b2) : zgF h o 3 1 = some (o + 1) := (zgF_ok d.1).trans (congrArg some d.2.1.1)
theorem OL.f2 (d : OL h o b1 b2) : zgF h o 3 2 = some (o + 122) := (zgF_ok d.1).trans (congrArg some d.2.1.2.1)
theorem OL.f3 (d : OL h o b1 b2) : zgF h o 3 3 = some (o + b1) := (zgF_ok d.1).trans (congrArg some d.2.1.2.2.1)
theorem OL.f4 (d : OL h o b1 b2) : zgF h o 3 4 = some (o + b1 + 1) := (zgF_ok d.1).trans (congrArg some d.2.1.2.2.2.1)
theorem OL.f6 (d : OL h o b1 b2) : zgF h o 3 6 = some (o + b2) := (zgF_ok d.1).trans (congrArg some d.2.1.2.2.2.2.1)
theorem OL.f7 (d : OL h o b1 b2) : zgF h o 3 7 = some (o + b2 + 1) := (zgF_ok d.1).trans (congrArg some d.2.1.2.2.2.2.2)
theorem OL.h1 (d : OL h o b1 b2) : b1 = 124 ∨ b1 = 246 := by have := d.2.2.2.2; omega
theorem OL.h2 (d : OL h o b1 b2) : b2 = 124 ∨ b2 = 246 := by have := d.2.2.2.2; omega
theorem OL.ri (d : OL h o b1 b2) {b : Nat} (hb : b = 124 ∨ b = 246) {i : Nat} (hi : i < 60) : zia h (o + b) (nI i) = some (zI h (o + b) i) := by
  obtain ⟨k1, k2, -⟩ := d.2.2.2.1 b hb
  exact zia_ok k1 (by omega) (by omega)
theorem OL.wi (d : OL h o b1 b2) {b : Nat} (hb : b = 124 ∨ b = 246) {i : Nat} (hi : i < 60) (x : Int32) : zis h (o + b) (nI i) x = some (zsI h (o + b) i x) := by
  obtain ⟨k1, k2, -⟩ := d.2.2.2.1 b hb
  exact zis_ok k1 (by omega) (by omega)
theorem OL.rt (d : OL h o b1 b2) {b : Nat} (hb : b = 124 ∨ b = 246) {i : Nat} (hi : i < 60) : zaa h (o + b + 1) (nI i) = some (o + b + 2 + 2 * i) := by
  obtain ⟨k1, k2, k3, k4, k5⟩ := d.2.2.2.1 b hb
  rw [zaa_ok (by omega) (by omega) (by omega), k5 i hi]
end OLR
theorem OW.at {h : zM} {o b i : Nat} (d : OW h o) (hb : b = 124 ∨ b = 246) (hi : i < 60) : ∃ w, Wd h (o + b + 2 + 2 * i) 30 w := by
  rcases hb with rfl | rfl
  · have := d (62 + i) (by omega) (by omega) (by omega)
    rw [show o + 2 + 2 * (62 + i) = o + 124 + 2 + 2 * i by omega] at this
    exact this
  · have := d (123 + i) (by omega) (by omega) (by omega)
    rw [show o + 2 + 2 * (123 + i) = o + 246 + 2 + 2 * i by omega] at this
    exact this
theorem OW.putB {h h' : zM} {o b i : Nat} {w : zWo} (d : OW h o) (hb : b = 124 ∨ b = 246) (f : zFr (o + b + 2 + 2 * i) (o + b + 2 + 2 * i + 2) h h') (hw : Wd h' (o + b + 2 + 2 * i) 30 w) : OW h' o := by
  rcases hb with rfl | rfl
  · rw [show o + 124 + 2 + 2 * i = o + 2 + 2 * (62 + i) by omega] at f hw
    exact d.put f hw
  · rw [show o + 246 + 2 + 2 * i = o + 2 + 2 * (123 + i) by omega] at f hw
    exact d.put f hw
/-- one more pair in the half b -/
theorem RP.app {h h1 h2 : zM} {o b q : Nat} {l : List (Nat × zWo)} {w : zWo} (d : RP h o b l) (hl : l.length < 60) (e1 : h1 = zsI h (o + b) l.length (nI q)) (f : zFr (o + b + 2 + 2 * l.length) (o + b + 2 + 2 * l.length + 2) h1 h2) (hw : Wd h2 (o + b + 2 + 2 * l.length) 30 w) : RP h2 o b (l ++ [(q, w)]) := by
  intro i hi
  rw [List.length_append] at hi
  rw [pAt_app]
  by_cases c : i < l.length
  · rw [if_pos c, f.I (by omega), e1, zI_sI_k (by omega)]
    refine ⟨(d i c).1, ?_⟩
    have e : zEq (o + b + 2 + 2 * i) (o + b + 2 + 2 * i + 2) h (zsI h (o + b) l.length (nI q)) := (zFr_sI (lo := o + b) (hi := o + b + 1) (by omega) (by omega)).eq (by omega)
    rw [← e1] at e
    exact ((d i c).2.eq e).keep f (by omega)
  · have : i = l.length := by simp at hi; omega
    subst this
    rw [if_neg c, if_pos rfl, f.I (by omega), e1, zI_sI]
    exact ⟨rfl, hw⟩
/-- found is told by places -/
def OPi (h : zM) (o : Nat) (π : Nat → Nat) : Prop := (∀ i, i < 60 → π i < 60 ∧ zF h (o + 1) i = o + 2 + 2 * π i) ∧ ∀ i j, i < 60 → j < 60 → π i = π j → i = j
theorem OPi.keep {o lo hi : Nat} {π : Nat → Nat} {h h' : zM} (d : OPi h o π) (f : zFr lo hi h h') : OPi h' o π := ⟨fun i hi => by rw [f.F]; exact d.1 i hi, d.2⟩
/-- what stands while pairs are gone through -/
def OS0 (h : zM) (o b1 b2 : Nat) (π : Nat → Nat) (c : Int32) : Prop := OL h o b1 b2 ∧ OW h o ∧ OPi h o π ∧ zI h o 0 = c
def OS1 (h : zM) (o b1 : Nat) (l : List (Nat × zWo)) : Prop := zI h o 5 = nI l.length ∧ RP h o b1 l ∧ l.length ≤ 60
def OS2 (h : zM) (o b2 : Nat) (r : List (Nat × zWo)) : Prop := zI h o 8 = nI r.length ∧ RP h o b2 r ∧ r.length ≤ 60
theorem OS1.cand {h h' : zM} {o b1 : Nat} {l : List (Nat × zWo)} (d : OS1 h o b1 l) (hb : b1 = 124 ∨ b1 = 246) (f : zFr (o + 122) (o + 124) h h') : OS1 h' o b1 l := ⟨by rw [f.I (by omega)]; exact d.1, d.2.1.keep d.2.2 (f.eq (by omega)), d.2.2⟩
theorem OS2.cand {h h' : zM} {o b1 : Nat} {l : List (Nat × zWo)} (d : OS2 h o b1 l) (hb : b1 = 124 ∨ b1 = 246) (f : zFr (o + 122) (o + 124) h h') : OS2 h' o b1 l := ⟨by rw [f.I (by omega)]; exact d.1, d.2.1.keep d.2.2 (f.eq (by omega)), d.2.2⟩
theorem OS0.cand {h h' : zM} {o b1 b2 : Nat} {π : Nat → Nat} {c : Int32} {w : zWo} (d : OS0 h o b1 b2 π c) (f : zFr (o + 122) (o + 124) h h') (hw : Wd h' (o + 122) 30 w) : OS0 h' o b1 b2 π c :=
  ⟨d.1.keep f, d.2.1.put (k := 60) f hw, d.2.2.1.keep f, by rw [f.I (by omega)]; exact d.2.2.2⟩
theorem OS0.candW {h : zM} {o b1 b2 : Nat} {π : Nat → Nat} {c : Int32} (d : OS0 h o b1 b2 π c) : ∃ w, Wd h (o + 122) 30 w := d.2.1 60 (by omega) (by omega) (by omega)
/-- one more pair stands in the half b, and is counted in the field t -/
theorem s_opush {h h2 : zM} {o b1 b2 b t : Nat} {π : Nat → Nat} {c : Int32} {l : List (Nat × zWo)} {q : Nat} {w : zWo} (d : OS0 h o b1 b2 π c) (hb : b = 124 ∨ b = 246) (ht : t = 5 ∨ t = 8) (hl : l.length < 60) (hr : RP h o b l)
    (f : zFr (o + b + 2 + 2 * l.length) (o + b + 2 + 2 * l.length + 2) (zsI h (o + b) l.length (nI q)) h2) (hw : Wd h2 (o + b + 2 + 2 * l.length) 30 w) :
    zFr o (o + 368) h (zsI h2 o t (nI (l.length + 1))) ∧ OS0 (zsI h2 o t (nI (l.length + 1))) o b1 b2 π c ∧ zI (zsI h2 o t (nI (l.length + 1))) o t = nI (l ++ [(q, w)]).length ∧ RP (zsI h2 o t (nI (l.length + 1))) o b (l ++ [(q, w)]) ∧ (l ++ [(q, w)]).length ≤ 60 := by
  have fa : zFr (o + b) (o + b + 1) h (zsI h (o + b) l.length (nI q)) := zFr_sI (by omega) (by omega)
  have fc : zFr o (o + 1) h2 (zsI h2 o t (nI (l.length + 1))) := zFr_sI (by omega) (by omega)
  have la := d.1.keep fa
  have wa := d.2.1.keep fa (by omega) (fun k _ _ _ => by omega)
  have lb := la.keep f
  have wb := wa.putB hb f hw
  have hlen : (l ++ [(q, w)]).length = l.length + 1 := by simp
  refine ⟨(fa.wide (by omega) (by omega)).tr ((f.wide (by omega) (by omega)).tr (fc.wide (by omega) (by omega))), ⟨lb.keep fc, wb.keep fc (by omega) (fun k _ _ _ => by omega), ((d.2.2.1.keep fa).keep f).keep fc, ?_⟩, by rw [zI_sI, hlen], (hr.app hl rfl f hw).keep (by rw [hlen]; omega) (fc.eq (by omega)), by rw [hlen]; omega⟩
  rw [zI_sI_k (by omega), f.I (by omega), zI_sI_a (by omega)]
  exact d.2.2.2
theorem s_obegin {h : zM} {o b1 b2 a : Nat} {π : Nat → Nat} {c : Int32} {M : zMa} (m : MC h a M) (k : MaOk M) (hd : a + 6 ≤ o ∨ o + 368 ≤ a) (d : OS0 h o b1 b2 π c) : ∃ h', zf nX3_begin [.inr o, .inr a] h = some (0, 0, h') ∧ zFr o (o + 368) h h' ∧ OS0 h' o b1 b2 π c ∧ OS1 h' o b1 (outInit M) := by
  have k6 := k.1
  have k64 := k.beg64
  rw [e_X3_begin, zpI_ok d.1.1, Option.bind_some]
  have f1 : zFr o (o + 1) h (zsI h o 5 0) := zFr_sI (by omega) (by omega)
  have start : OS0 (zsI h o 5 0) o b1 b2 π c := ⟨d.1.keep f1, d.2.1.keep f1 (by omega) (fun k _ _ _ => by omega), d.2.2.1.keep f1, by rw [zI_sI_k (by omega)]; exact d.2.2.2⟩
  have main := zlp (P := fun q g => zFr o (o + 368) h g ∧ OS0 g o b1 b2 π c ∧ OS1 g o b1 (((List.range q).filter fun q => M.2.1.testBit q).map fun q => (q, []))) (g := fun q g => zm_X3_begin 7 [some (.inr o), some (.inr a), some (.inl (nI q))] [] g) (n := M.1) ?_ 0 (zsI h o 5 0) (Nat.zero_le _) ⟨f1.wide (by omega) (by omega), start, zI_sI, RP.nil, Nat.zero_le _⟩
  · obtain ⟨h', e1, e2, e3⟩ := main
    refine ⟨h', Eq.trans e1 ?_, e2, e3⟩
    rw [e_X3_begin_7, (m.keep e2 (by omega)).n, Option.bind_some, if_neg (by rw [nI_ltI (by omega) (by omega)]; omega)]
  · rintro q g hq ⟨f, d, d5, dr, hl⟩
    have dl := d.1
    have hb := dl.h1
    have mg := m.keep f (by omega)
    rw [e_X3_begin_7, mg.n, Option.bind_some, if_pos ((nI_ltI (by omega) (by omega)).mpr hq), mg.beg, Option.bind_some, s_holds k64 (by omega), Option.bind_some, nI_1]
    have hlen : (((List.range q).filter fun q => M.2.1.testBit q).map fun q => (q, ([] : zWo))).length ≤ 6 := by
      rw [List.length_map]
      have := List.length_filter_le (fun q => M.2.1.testBit q) (List.range q)
      rw [List.length_range] at this
      omega
    rw [List.range_succ, List.filter_append, List.map_append]
    generalize ((List.range q).filter fun q => M.2.1.testBit q).map (fun q => (q, ([] : zWo))) = L at *
    by_cases cb : M.2.1.testBit q = true
    · simp only [cb, if_true]
      rw [if_neg (by decide)]
      simp only [zgI_ok dl.1, Option.bind_some, d5, dl.f3]
      rw [if_pos (by rw [n60, nI_ltI (by omega) (by omega)]; omega), dl.wi hb (by omega), Option.bind_some]
      have fa : zFr (o + b1) (o + b1 + 1) g (zsI g (o + b1) L.length (nI q)) := zFr_sI (by omega) (by omega)
      have la := dl.keep fa
      obtain ⟨w0, hw0⟩ := (d.2.1.keep fa (by omega) (fun k _ _ _ => by omega)).at (i := L.length) hb (by omega)
      obtain ⟨h', g1, g2, g3⟩ := s_clear hw0
      rw [la.f4, Option.bind_some, zgI_ok la.1, Option.bind_some, zI_sI_a (by omega), d5, la.rt hb (by omega), Option.bind_some, zif_ok hw0.1, g1, Option.bind_some]
      have lb := la.keep g2
      have e5 : zI h' o 5 = nI L.length := by rw [g2.I (by omega), zI_sI_a (by omega)]; exact d5
      rw [zgI_ok lb.1, Option.bind_some, e5, nI_1, zpI_ok lb.1, Option.bind_some]
      obtain ⟨p1, p2, p3, p4, p5⟩ := s_opush (t := 5) d hb (Or.inl rfl) (by omega) dr g2 g3
      have e : (List.filter (fun q => M.2.1.testBit q) [q]).map (fun q => (q, ([] : zWo))) = [(q, [])] := by simp [cb]
      rw [e]
      exact ⟨_, rfl, f.tr p1, p2, p3, p4, p5⟩
    · have cb' : M.2.1.testBit q = false := by simpa using cb
      simp only [cb', Bool.false_eq_true, if_false, if_true]
      have e : (List.filter (fun q => M.2.1.testBit q) [q]).map (fun q => (q, ([] : zWo))) = [] := by simp [cb']
      rw [e, List.append_nil]
      exact ⟨g, rfl, f, d, d5, dr, hl⟩
theorem s_oreach {h : zM} {o b1 b2 n s : Nat} {π : Nat → Nat} {c : Int32} {M : zMa} {l r : List (Nat × zWo)} {w : zWo} (k : MaOk M) (hs : s < M.1) (pr : pOk M n r) (d : OS0 h o b1 b2 π c) (d1 : OS1 h o b1 l) (d2 : OS2 h o b2 r) (hw : Wd h (o + 122) 30 w) :
    ∃ h', zf nX3_reach [.inr o, .inl (nI s)] h = some (if (outAdd (s, w) r).isSome then 1 else 0, 0, h') ∧ zFr o (o + 368) h h' ∧ OS0 h' o b1 b2 π c ∧ OS1 h' o b1 l ∧ OS2 h' o b2 ((outAdd (s, w) r).getD r) := by
  have k6 := k.1
  have dl := d.1
  have hb := dl.h2
  have hb1 := dl.h1
  have hl := d2.2.2
  rw [e_X3_reach]
  have main := zlq (P := fun i g => g = h ∧ ∀ j, j < i → pAt r j ≠ (s, w)) (g := fun i g => zm_X3_reach 2 [some (.inr o), some (.inl (nI s)), some (.inl (nI i))] [] g) (n := r.length)
    (Q := fun x => ∃ h', x = some (if (outAdd (s, w) r).isSome then 1 else 0, 0, h') ∧ zFr o (o + 368) h h' ∧ OS0 h' o b1 b2 π c ∧ OS1 h' o b1 l ∧ OS2 h' o b2 ((outAdd (s, w) r).getD r)) ?_ ?_ 0 h (Nat.zero_le _) ⟨rfl, fun j hj => absurd hj (Nat.not_lt_zero _)⟩
  · exact main
  · rintro i g hi ⟨rfl, hn⟩
    obtain ⟨a1, a2⟩ := d2.2.1 i hi
    have hp := pr.2 _ (pAt_mem hi)
    rw [e_X3_reach_2]
    simp only [zgI_ok dl.1, Option.bind_some, d2.1, dl.f6, dl.f7, dl.f2]
    rw [if_pos ((nI_ltI (by omega) (by omega)).mpr hi), dl.ri hb (by omega), Option.bind_some, a1, nI_1]
    by_cases c1 : (pAt r i).1 = s
    · rw [if_pos (by rw [c1]), dl.rt hb (by omega), Option.bind_some, zif_ok a2.1, s_isAlike a2 hw, Option.bind_some]
      by_cases c2 : (pAt r i).2 = w
      · left
        have hm : (s, w) ∈ r := by
          have := pAt_mem hi
          rw [show pAt r i = (s, w) from Prod.ext c1 c2] at this
          exact this
        have ea : outAdd (s, w) r = some r := by unfold outAdd; rw [if_pos hm]
        rw [ea]
        simp only [c2, if_true, Option.isSome_some, Option.getD_some]
        rw [if_neg (by decide), zb1]
        exact ⟨g, rfl, zFr.rf, d, d1, d2⟩
      · right
        simp only [c2, if_false, if_true]
        refine ⟨g, rfl, rfl, fun j hj => ?_⟩
        by_cases e : j = i
        · subst e; exact fun z => c2 (by rw [z])
        · exact hn j (by omega)
    · right
      rw [if_neg (by rw [nI_eq (by omega) (by omega)]; exact c1)]
      refine ⟨g, rfl, rfl, fun j hj => ?_⟩
      by_cases e : j = i
      · subst e; exact fun z => c1 (by rw [z])
      · exact hn j (by omega)
  · rintro g ⟨rfl, hn⟩
    have hm : (s, w) ∉ r := fun z => by
      obtain ⟨i, hi, e⟩ := mem_pAt z
      exact hn i hi e
    rw [e_X3_reach_2]
    simp only [zgI_ok dl.1, Option.bind_some, d2.1, dl.f6]
    rw [if_neg (by rw [nI_ltI (by omega) (by omega)]; omega)]
    by_cases c3 : r.length < 60
    · have ea : outAdd (s, w) r = some (r ++ [(s, w)]) := by unfold outAdd; rw [if_neg hm, if_pos c3]
      rw [ea, if_pos (by rw [n60, nI_ltI (by omega) (by omega)]; exact c3), dl.wi hb (by omega), Option.bind_some]
      have fa : zFr (o + b2) (o + b2 + 1) g (zsI g (o + b2) r.length (nI s)) := zFr_sI (by omega) (by omega)
      have la := dl.keep fa
      obtain ⟨w0, hw0⟩ := (d.2.1.keep fa (by omega) (fun k _ _ _ => by omega)).at (i := r.length) hb (by omega)
      have hc : Wd (zsI g (o + b2) r.length (nI s)) (o + 122) 30 w := hw.keep fa (by omega)
      obtain ⟨h', g1, g2, g3⟩ := s_become hw0 hc (by omega)
      rw [List.take_of_length_le hc.small.2.2] at g3
      simp only [la.f7, la.f2, Option.bind_some, zgI_ok la.1]
      rw [zI_sI_a (by omega), d2.1, la.rt hb (by omega), Option.bind_some, zif_ok hw0.1, g1, Option.bind_some]
      have lb := la.keep g2
      have e8 : zI h' o 8 = nI r.length := by rw [g2.I (by omega), zI_sI_a (by omega)]; exact d2.1
      rw [zgI_ok lb.1, Option.bind_some, e8, nI_1, zpI_ok lb.1, Option.bind_some, zb1]
      obtain ⟨p1, p2, p3, p4, p5⟩ := s_opush (t := 8) d hb (Or.inr rfl) c3 d2.2.1 g2 g3
      refine ⟨_, rfl, p1, p2, ⟨?_, ?_, d1.2.2⟩, p3, p4, p5⟩
      · rw [zI_sI_k (by omega), g2.I (by omega), zI_sI_a (by omega)]; exact d1.1
      · have q1 := d1.2.1.keep d1.2.2 (fa.eq (by have := dl.2.2.2.2; omega))
        have q2 := q1.keep d1.2.2 (g2.eq (by have := dl.2.2.2.2; omega))
        exact q2.keep d1.2.2 ((zFr_sI (lo := o) (hi := o + 1) (by omega) (by omega)).eq (by omega))
    · have ea : outAdd (s, w) r = none := by unfold outAdd; rw [if_neg hm, if_neg c3]
      rw [ea, if_neg (by rw [n60, nI_ltI (by omega) (by omega)]; exact c3), zb0]
      exact ⟨g, rfl, zFr.rf, d, d1, d2⟩
theorem s_oturn {h : zM} {o b1 b2 : Nat} {π : Nat → Nat} {c : Int32} {r : List (Nat × zWo)} (d : OS0 h o b1 b2 π c) (d2 : OS2 h o b2 r) : ∃ h', zf nX3_turn [.inr o] h = some (0, 0, h') ∧ zGr o (o + 1) h h' ∧ OS0 h' o b2 b1 π c ∧ OS1 h' o b2 r := by
  obtain ⟨dl, dw, dp, dc⟩ := d
  have hb := dl.2.2.2.2
  rw [e_X3_turn]
  simp only [dl.f3, dl.f4, dl.f6, Option.bind_some]
  have K : ∀ (g : zM), g.2.1 = h.2.1 → zK g o = 3 + 1 := fun g e => by unfold zK; rw [e]; exact dl.1
  have e7 : zF (zsF h o 3 (o + b2)) o 7 = o + b2 + 1 := by rw [zF_sF, if_neg (by omega)]; exact dl.2.1.2.2.2.2.2
  have e8 : zI (zsF (zsF h o 3 (o + b2)) o 4 (o + b2 + 1)) o 8 = nI r.length := d2.1
  simp only [zgF, zpF, zgI, zpI, zK_sF, zK_sI, dl.1, if_true, Option.bind_some, e7, e8]
  generalize hh : zsF (zsF (zsI (zsF (zsF h o 3 (o + b2)) o 4 (o + b2 + 1)) o 5 (nI r.length)) o 6 (o + b1)) o 7 (o + b1 + 1) = g
  have f : zGr o (o + 1) h g := by
    rw [← hh]
    exact ((((zGr_sF (by omega) (by omega)).tr (zGr_sF (by omega) (by omega))).tr (zGr_sI (by omega) (by omega))).tr (zGr_sF (by omega) (by omega))).tr (zGr_sF (by omega) (by omega))
  have fv : ∀ j, zF g o j = if j = 7 then o + b1 + 1 else if j = 6 then o + b1 else if j = 4 then o + b2 + 1 else if j = 3 then o + b2 else zF h o j := by
    intro j
    rw [← hh]
    simp only [zF_sF, zF_sI, true_and]
  have iv : ∀ j, zI g o j = if j = 5 then nI r.length else zI h o j := by
    intro j
    rw [← hh]
    show zI (zsI (zsF (zsF h o 3 (o + b2)) o 4 (o + b2 + 1)) o 5 (nI r.length)) o j = _
    by_cases e : j = 5
    · rw [if_pos e, e, zI_sI]
    · rw [if_neg e, zI_sI_k e]
      rfl
  refine ⟨g, rfl, f, ⟨⟨by rw [f.K]; exact dl.1, ⟨?_, ?_, ?_, ?_, ?_, ?_⟩, by rw [f.K, f.N]; exact dl.2.2.1, fun b hb2 => ?_, by omega⟩, fun k h1 h2 h3 => ?_, ⟨fun i hi => ?_, dp.2⟩, ?_⟩, ?_, ?_, d2.2.2⟩
  · rw [fv, if_neg (by decide), if_neg (by decide), if_neg (by decide), if_neg (by decide)]; exact dl.2.1.1
  · rw [fv, if_neg (by decide), if_neg (by decide), if_neg (by decide), if_neg (by decide)]; exact dl.2.1.2.1
  · rw [fv, if_neg (by decide), if_neg (by decide), if_neg (by decide), if_pos rfl]
  · rw [fv, if_neg (by decide), if_neg (by decide), if_pos rfl]
  · rw [fv, if_neg (by decide), if_pos rfl]
  · rw [fv, if_pos rfl]
  · have := dl.2.2.2.1 b hb2
    rw [f.K, f.N, f.K, f.N]
    exact ⟨this.1, this.2.1, this.2.2.1, this.2.2.2.1, fun i hi => by rw [f.F (by omega)]; exact this.2.2.2.2 i hi⟩
  · obtain ⟨w, hw⟩ := dw k h1 h2 h3
    exact ⟨w, hw.g f (by omega)⟩
  · rw [f.F (by omega)]; exact dp.1 i hi
  · rw [iv, if_neg (by decide)]; exact dc
  · rw [iv, if_pos rfl]
  · exact d2.2.1.keep d2.2.2 (f.eq (by omega))
