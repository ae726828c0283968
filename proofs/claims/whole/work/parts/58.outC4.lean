/-! The class Outputs: gather. -/
theorem outFin_take {M : zMa} {l : List (Nat × zWo)} {i : Nat} (hi : i < l.length) : outFin M (l.take (i + 1)) = match outEnd M (pAt l i) with
    | none => outFin M (l.take i)
    | some w => insU w (outFin M (l.take i)) := by
  unfold outFin
  rw [List.take_add_one, pAt_get hi, List.filterMap_append, List.foldl_append]
  cases h : outEnd M (pAt l i) <;> simp [h]
theorem insU_len (w : zWo) : ∀ fs : List zWo, (insU w fs).length ≤ fs.length + 1
  | [] => by simp [insU]
  | x :: xs => by
    unfold insU
    have := insU_len w xs
    split
    · simp; omega
    · split <;> simp
theorem outFin_len {M : zMa} {l : List (Nat × zWo)} : ∀ i, i ≤ l.length → (outFin M (l.take i)).length ≤ i
  | 0, _ => by simp [outFin]
  | i + 1, h => by
    rw [outFin_take (by omega)]
    have := outFin_len (M := M) (l := l) i (by omega)
    split
    · omega
    · have q := insU_len (by assumption) (outFin M (l.take i))
      omega
/-- the object holds the outputs fs -/
def OutP (h : zM) (o : Nat) (fs : List zWo) : Prop := ∃ b1 b2 π, OS0 h o b1 b2 π (nI fs.length) ∧ OFd h o π fs
theorem s_ofinish {h : zM} {o b1 b2 a n : Nat} {π : Nat → Nat} {M : zMa} {l : List (Nat × zWo)} (m : MC h a M) (k : MaOk M) (hd : a + 6 ≤ o ∨ o + 368 ≤ a) (d : OS0 h o b1 b2 π 0) (d1 : OS1 h o b1 l) (pl : pOk M n l) (hn : n ≤ 9) :
    ∃ h', zf nX3_finish [.inr o, .inr a] h = some (0, 0, h') ∧ zGr o (o + 368) h h' ∧ OutP h' o (outFin M l) := by
  have k6 := k.1
  have hl := d1.2.2
  rw [e_X3_finish]
  have main := zlp (P := fun i g => zGr o (o + 368) h g ∧ OS1 g o b1 l ∧ ∃ π, OS0 g o b1 b2 π (nI (outFin M (l.take i)).length) ∧ OFd g o π (outFin M (l.take i)))
    (g := fun i g => zm_X3_finish 2 [some (.inr o), some (.inr a), some (.inl (nI i))] [] g) (n := l.length) ?_ 0 h (Nat.zero_le _) ⟨zGr.rf, d1, π, d, Nat.zero_le _, fun i hi => absurd hi (Nat.not_lt_zero _)⟩
  · obtain ⟨h', e1, e2, e3, π', e4, e5⟩ := main
    rw [List.take_length] at e4 e5
    refine ⟨h', Eq.trans e1 ?_, e2, b1, b2, π', e4, e5⟩
    rw [e_X3_finish_2, zgI_ok e4.1.1, Option.bind_some, e3.1, if_neg (by rw [nI_ltI (by omega) (by omega)]; omega)]
  · rintro i g hi ⟨f, e1, π, e0, e2⟩
    have hp := pl.2 _ (pAt_mem hi)
    have mg := m.eq (f.eq (by omega))
    have dl := e0.1
    have hb := dl.h1
    obtain ⟨q1, q2⟩ := e1.2.1 i hi
    have hlen := outFin_len (M := M) (l := l) i (by omega)
    rw [outFin_take hi]
    rw [e_X3_finish_2]
    simp only [zgI_ok dl.1, e1.1, dl.f3, dl.ri hb (show i < 60 by omega), q1, Option.bind_some, nI_1]
    rw [if_pos ((nI_ltI (by omega) (by omega)).mpr hi), zif_ok mg.1.1, s_hasEnd mg k (by omega), Option.bind_some]
    cases hE : M.2.2.1 (pAt l i).1 with
    | none =>
      have eo : outEnd M (pAt l i) = none := by unfold outEnd; rw [hE]; rfl
      simp only [Option.isSome_none, Bool.false_eq_true, if_false, if_true, eo]
      exact ⟨g, rfl, f, e1, π, e0, e2⟩
    | some w =>
      have eo : outEnd M (pAt l i) = some ((pAt l i).2 ++ dgs w) := by unfold outEnd; rw [hE]; rfl
      have hw3 := (k.2.2.1 _ w hE).2
      have hw9 := hw3.lt
      have hw0l := hw3.len
      simp only [Option.isSome_some, if_true, eo]
      rw [if_neg (by decide)]
      obtain ⟨w0, hw0⟩ := e0.candW
      obtain ⟨h1, g1, g2, g3⟩ := s_become hw0 q2 (by omega)
      rw [List.take_of_length_le q2.small.2.2] at g3
      have m1 := mg.keep g2 (by omega)
      have c0 := e0.cand g2 g3
      simp only [dl.f2, dl.f4, dl.rt hb (show i < 60 by omega), Option.bind_some]
      rw [zif_ok hw0.1, g1, Option.bind_some]
      have e1' := e1.cand hb g2
      obtain ⟨q1', q2'⟩ := e1'.2.1 i hi
      have hend := m1.rend (q := (pAt l i).1) (by omega)
      rw [hE] at hend
      simp only [c0.1.f2, c0.1.f3, m1.f3, c0.1.ri hb (show i < 60 by omega), q1', hend, Option.bind_some]
      obtain ⟨h2, i1, i2, i3⟩ := s_addNumber g3 (eI (some w))
      rw [show eI (some w) = nI w from rfl, dn_nI (by omega), List.take_of_length_le (by rw [List.length_append]; omega)] at i3
      have c1 := c0.cand i2 i3
      rw [zif_ok g3.1, i1, Option.bind_some]
      have eF : OFd h2 o π (outFin M (l.take i)) := (e2.eq e0.2.2.1 (g2.eq (by omega))).eq c0.2.2.1 (i2.eq (by omega))
      obtain ⟨h3, π', j1, j2, j3, j4, j5, j6⟩ := s_osortIn c1 eF i3 (by omega)
      rw [zif_ok c1.1.1, j1, Option.bind_some]
      have e1'' := e1'.cand hb i2
      refine ⟨h3, rfl, f.tr ((g2.gr.wide (by omega) (by omega)).tr ((i2.gr.wide (by omega) (by omega)).tr (j2.wide (by omega) (by omega)))), ⟨by rw [j3 5 (by decide)]; exact e1''.1, e1''.2.1.keep hl (j2.eq (by omega)), hl⟩, π', j4, j5⟩
theorem s_ogather {h : zM} {o a v N : Nat} {fs : List zWo} {M : zMa} {us : List Nat} (m : MC h a M) (k : MaOk M) (hd : a + 6 ≤ o ∨ o + 368 ≤ a) (d : OutP h o fs) (hv : Wd h v N (us.map nI)) (hvd : v + 2 ≤ o ∨ o + 368 ≤ v) (hu : us.length ≤ 9 ∧ ∀ c ∈ us, c < 4) :
    (outRun M us = none ∧ ∃ h', zf nX3_gather [.inr o, .inr a, .inr v] h = some (0, 0, h') ∧ zGr o (o + 368) h h' ∧ OutP h' o []) ∨
    (∃ fs', outRun M us = some fs' ∧ ∃ h', zf nX3_gather [.inr o, .inr a, .inr v] h = some (1, 0, h') ∧ zGr o (o + 368) h h' ∧ OutP h' o fs') := by
  obtain ⟨b1, b2, π, d0, d1⟩ := d
  rw [e_X3_gather, zpI_ok d0.1.1, Option.bind_some]
  have f1 : zFr o (o + 1) h (zsI h o 0 0) := zFr_sI (by omega) (by omega)
  have s0 : OS0 (zsI h o 0 0) o b1 b2 π 0 := ⟨d0.1.keep f1, d0.2.1.keep f1 (by omega) (fun k _ _ _ => by omega), d0.2.2.1.keep f1, zI_sI⟩
  obtain ⟨h1, i1, i2, i3, i4⟩ := s_obegin (m.keep f1 (by omega)) k hd s0
  rw [zif_ok s0.1.1, i1, Option.bind_some]
  have hlen : (us.map nI).length = us.length := List.length_map _
  refine zlq (P := fun i g => ∃ acc, (us.take i).foldlM (outStep M) (outInit M) = some acc ∧ pOk M i acc ∧ zGr o (o + 368) h g ∧ ∃ b1 b2, OS0 g o b1 b2 π 0 ∧ OS1 g o b1 acc)
    (g := fun i g => zm_X3_gather 12 [some (.inr o), some (.inr a), some (.inr v), some (.inl (nI i))] [] g) (n := us.length)
    (Q := fun x => (outRun M us = none ∧ ∃ h', x = some (0, 0, h') ∧ zGr o (o + 368) h h' ∧ OutP h' o []) ∨ (∃ fs', outRun M us = some fs' ∧ ∃ h', x = some (1, 0, h') ∧ zGr o (o + 368) h h' ∧ OutP h' o fs'))
    ?_ ?_ 0 h1 (Nat.zero_le _) ⟨outInit M, rfl, outInit_ok k, (f1.gr.wide (by omega) (by omega)).tr i2.gr, b1, b2, i3, i4⟩
  · rintro i g hi ⟨acc, ha, pa, f, b1, b2, e0, e1⟩
    have vg := hv.g f hvd
    have hc : us[i] < 4 := hu.2 _ (List.getElem_mem hi)
    have hat : (us.map nI).getD i 0 = nI us[i] := by simp [List.getD_eq_getElem?_getD, hi]
    have hget : us[i]? = some us[i] := List.getElem?_eq_getElem hi
    have ft := fm_take (f := outStep M) (s := outInit M) hget ha
    rw [e_X3_gather_12, vg.len, Option.bind_some, hlen, if_pos ((nI_ltI (by omega) (by omega)).mpr hi), vg.arr, Option.bind_some, vg.at (by rw [hlen]; exact hi), Option.bind_some, hat, zif_ok e0.1.1]
    rcases s_ostep (m.eq (f.eq (by omega))) k hd e0 e1 pa (by omega) hc with ⟨p1, h', p2, p3, p4⟩ | ⟨r, p1, h', p2, p3, p4, p5⟩
    · left
      left
      rw [p2, Option.bind_some]
      dsimp only
      rw [if_pos rfl, zb0]
      rw [p1] at ft
      refine ⟨?_, h', rfl, f.tr p3, b1, b2, π, p4, Nat.zero_le _, fun i hi => absurd hi (Nat.not_lt_zero _)⟩
      unfold outRun
      rw [fm_none ft]
      rfl
    · right
      rw [p2, Option.bind_some]
      dsimp only
      rw [if_neg (by decide), nI_1]
      rw [p1] at ft
      exact ⟨h', rfl, r, ft, outStep_ok k p1 pa, f.tr p3, b2, b1, p4, p5⟩
  · rintro g ⟨acc, ha, pa, f, b1, b2, e0, e1⟩
    right
    rw [List.take_length] at ha
    have vg := hv.g f hvd
    obtain ⟨h', g1, g2, g3⟩ := s_ofinish (m.eq (f.eq (by omega))) k hd e0 e1 pa hu.1
    refine ⟨outFin M acc, by unfold outRun; rw [ha]; rfl, h', ?_, f.tr g2, g3⟩
    rw [e_X3_gather_12, vg.len, Option.bind_some, hlen, if_neg (by rw [nI_ltI (by omega) (by omega)]; omega), zif_ok e0.1.1, g1, Option.bind_some, zb1]
theorem OutP.eq {h h' : zM} {o : Nat} {fs : List zWo} (d : OutP h o fs) (f : zEq o (o + 368) h h') : OutP h' o fs := by
  obtain ⟨b1, b2, π, ⟨dl, dw, dp, dc⟩, e⟩ := d
  refine ⟨b1, b2, π, ⟨⟨by rw [f.K]; exact dl.1, ?_, by rw [f.K, f.N]; exact dl.2.2.1, fun b hb => ?_, dl.2.2.2.2⟩, fun k h1 h2 h3 => ?_, ⟨fun i hi => ?_, dp.2⟩, ?_⟩, e.eq dp (f.sub (by omega) (by omega))⟩
  · rw [f.F (by omega) (by omega), f.F (by omega) (by omega), f.F (by omega) (by omega), f.F (by omega) (by omega), f.F (by omega) (by omega), f.F (by omega) (by omega)]; exact dl.2.1
  · have := dl.2.2.2.1 b hb
    rw [f.K, f.N, f.K, f.N]
    exact ⟨this.1, this.2.1, this.2.2.1, this.2.2.2.1, fun i hi => by rw [f.F (by omega) (by omega)]; exact this.2.2.2.2 i hi⟩
  · obtain ⟨w, hw⟩ := dw k h1 h2 h3
    exact ⟨w, hw.eq (f.sub (by omega) (by omega))⟩
  · rw [f.F (by omega) (by omega)]; exact dp.1 i hi
  · rw [f.I (by omega) (by omega)]; exact dc
