/-! The two least words; the class TwoLeast. -/
def ins2 (c : zWo) (l : List zWo) : List zWo := (insU c l).take 2
theorem ins2_len (c : zWo) (l : List zWo) : (ins2 c l).length ≤ 2 := by unfold ins2; rw [List.length_take]; omega
theorem ins2_mem {c x : zWo} {l : List zWo} (h : x ∈ ins2 c l) : x = c ∨ x ∈ l := insU_mem.mp (List.mem_of_mem_take h)
theorem wcmp_pos (c x : zWo) : 0 < wcmp c x ↔ (wlt c x = false ∧ c ≠ x) := by
  unfold wlt wcmp
  by_cases c1 : c.length < x.length
  · rw [if_pos c1]
    constructor
    · intro h; exact absurd h (by decide)
    · rintro ⟨h, _⟩; exact absurd h (by decide)
  · rw [if_neg c1]
    by_cases c2 : x.length < c.length
    · rw [if_pos c2]
      constructor
      · intro _
        exact ⟨by decide, fun e => by rw [e] at c2; omega⟩
      · intro _; decide
    · rw [if_neg c2]
      have hl : c.length = x.length := by omega
      by_cases c3 : lcp c x < c.length
      · rw [if_pos c3]
        by_cases c4 : c.getD (lcp c x) 0 < x.getD (lcp c x) 0
        · rw [if_pos c4]
          constructor
          · intro h; exact absurd h (by decide)
          · rintro ⟨h, _⟩; exact absurd h (by decide)
        · rw [if_neg c4]
          constructor
          · intro _
            exact ⟨by decide, fun e => by
              rw [(lcp_all hl).mpr e] at c3
              omega⟩
          · intro _; decide
      · rw [if_neg c3]
        constructor
        · intro h; exact absurd h (by decide)
        · rintro ⟨_, h⟩
          exact absurd ((lcp_all hl).mp (by have := (lcp_le c x).1; omega)) h
theorem ins2_0 (c : zWo) : ins2 c [] = [c] := rfl
theorem ins2_1 (c x : zWo) : ins2 c [x] = if wlt c x = true then [c, x] else if c = x then [x] else [x, c] := by
  unfold ins2 insU
  by_cases a : wlt c x = true
  · rw [if_pos a, if_neg (by rw [wlt_asym a]; decide), if_neg (fun e => by rw [e, wlt_irr] at a; cases a)]
    rfl
  · rw [if_neg a]
    by_cases b : c = x
    · rw [if_pos b, if_neg (by rw [b, wlt_irr]; decide), if_pos b.symm]
      rfl
    · rw [if_neg b]
      rcases wlt_tot b with q | q
      · exact absurd q a
      · rw [if_pos q]
        rfl
theorem ins2_2 (c x y : zWo) : ins2 c [x, y] = if wlt c x = true then [c, x] else if c = x then [x, y] else if wlt c y = true then [x, c] else [x, y] := by
  unfold ins2 insU
  by_cases a : wlt c x = true
  · rw [if_pos a, if_neg (by rw [wlt_asym a]; decide), if_neg (fun e => by rw [e, wlt_irr] at a; cases a)]
    rfl
  · rw [if_neg a]
    by_cases b : c = x
    · rw [if_pos b, if_neg (by rw [b, wlt_irr]; decide), if_pos b.symm]
      rfl
    · rw [if_neg b]
      rcases wlt_tot b with q | q
      · exact absurd q a
      · rw [if_pos q]
        unfold insU
        by_cases d : wlt c y = true
        · rw [if_pos d, if_neg (by rw [wlt_asym d]; decide), if_neg (fun e => by rw [e, wlt_irr] at d; cases d)]
          rfl
        · rw [if_neg d]
          by_cases e : y = c
          · rw [if_neg (by rw [e, wlt_irr]; decide), if_pos e]; rfl
          · rcases wlt_tot e with r | r
            · rw [if_pos r]; rfl
            · exact absurd r d
def TLC (h : zM) (a n : Nat) (l : List zWo) : Prop := (zK h a = 9 ∧ zF h a 1 = a + 1 ∧ zF h a 2 = a + 3) ∧ zI h a 0 = nI l.length ∧ l.length ≤ 2 ∧ (∃ u, Wd h (a + 1) n u ∧ ∀ x, l[0]? = some x → u = x) ∧ ∃ u, Wd h (a + 3) n u ∧ ∀ x, l[1]? = some x → u = x
theorem len1 (x : zWo) : nI [x].length = 1 := rfl
theorem len2 (x y : zWo) : nI [x, y].length = 2 := rfl
section TLR
variable {h h' : zM} {a n : Nat} {l : List zWo}
theorem TLC.f1 (d : TLC h a n l) : zgF h a 8 1 = some (a + 1) := (zgF_ok d.1.1).trans (congrArg some d.1.2.1)
theorem TLC.f2 (d : TLC h a n l) : zgF h a 8 2 = some (a + 3) := (zgF_ok d.1.1).trans (congrArg some d.1.2.2)
theorem TLC.i0 (d : TLC h a n l) : zgI h a 8 0 = some (nI l.length) := (zgI_ok d.1.1).trans (congrArg some d.2.1)
theorem TLC.eq (d : TLC h a n l) (f : zEq a (a + 5) h h') : TLC h' a n l := by
  obtain ⟨⟨a1, a2, a3⟩, b, c, ⟨u, u1, u2⟩, v, v1, v2⟩ := d
  exact ⟨⟨by rw [f.K]; exact a1, by rw [f.F (by omega) (by omega)]; exact a2, by rw [f.F (by omega) (by omega)]; exact a3⟩, by rw [f.I (by omega) (by omega)]; exact b, c, ⟨u, u1.eq (f.sub (by omega) (by omega)), u2⟩, v, v1.eq (f.sub (by omega) (by omega)), v2⟩
theorem TLC.keep {lo hi : Nat} (d : TLC h a n l) (f : zFr lo hi h h') (hd : a + 5 ≤ lo ∨ hi ≤ a) : TLC h' a n l := d.eq (f.eq hd)
theorem s_TLclear (d : TLC h a n l) : ∃ h', zf nX8_clear [.inr a] h = some (0, 0, h') ∧ zFr a (a + 5) h h' ∧ TLC h' a n [] := by
  obtain ⟨d1, b, c, ⟨u, u1, u2⟩, v, v1, v2⟩ := d
  have f : zFr a (a + 1) h (zsI h a 0 0) := zFr_sI (by omega) (by omega)
  refine ⟨zsI h a 0 0, ?_, f.wide (by omega) (by omega), d1, zI_sI, by simp, ⟨u, u1.eq (f.eq (by omega)), fun x hx => by simp at hx⟩, v, v1.eq (f.eq (by omega)), fun x hx => by simp at hx⟩
  rw [e_X8_clear, zpI_ok d1.1]
  rfl
/-- the words stand, and how many -/
theorem TLC.mk {u v : zWo} {k : List zWo} (d : TLC h a n l) (f : zFr (a + 1) (a + 5) h h') (hu : Wd h' (a + 1) n u) (hv : Wd h' (a + 3) n v) (hk : k.length ≤ 2) (h0 : ∀ x, k[0]? = some x → u = x) (h1 : ∀ x, k[1]? = some x → v = x) : TLC (zsI h' a 0 (nI k.length)) a n k := by
  have f2 : zFr a (a + 1) h' (zsI h' a 0 (nI k.length)) := zFr_sI (by omega) (by omega)
  refine ⟨⟨?_, ?_, ?_⟩, zI_sI, hk, ⟨u, hu.eq (f2.eq (by omega)), h0⟩, v, hv.eq (f2.eq (by omega)), h1⟩
  · rw [zK_sI, f.K]; exact d.1.1
  · rw [zF_sI, f.F]; exact d.1.2.1
  · rw [zF_sI, f.F]; exact d.1.2.2
theorem s_TLoffer {c m : Nat} {x : zWo} (d : TLC h a n l) (w : Wd h c m x) (hx : x.length ≤ n) (hd : a + 5 ≤ c ∨ c + 2 ≤ a) : ∃ h', zf nX8_offer [.inr a, .inr c] h = some (0, 0, h') ∧ zFr a (a + 5) h h' ∧ TLC h' a n (ins2 x l) := by
  have i0 := d.i0
  have f1 := d.f1
  have f2 := d.f2
  have hK : zK h a = 8 + 1 := d.1.1
  obtain ⟨_, _, hl, ⟨u, u1, u2⟩, v, v1, v2⟩ := id d
  have tk : ∀ {y : zWo} {m : Nat} {z : zM} {c : Nat}, Wd z c n y → y.take n = y := fun {y m z c} hy => List.take_of_length_le (by have := hy.small; omega)
  have setN : ∀ (z : zM) (y : zWo), zFr (a + 1) (a + 5) h z → zK z a = 8 + 1 := fun z y f => by rw [f.K]; exact hK
  rw [e_X8_offer, i0, Option.bind_some, f1]
  match l, hl, d, i0, u2, v2 with
  | [], _, d, i0, _, _ =>
    rw [if_pos (by decide), Option.bind_some, zif_ok u1.1]
    obtain ⟨h1, a1, a2, a3⟩ := s_become u1 w (by omega)
    rw [List.take_of_length_le hx] at a3
    have ff : zFr (a + 1) (a + 5) h h1 := a2.wide (by omega) (by omega)
    rw [a1, Option.bind_some, zpI_ok (by rw [ff.K]; exact hK), Option.bind_some, ins2_0]
    exact ⟨_, rfl, (ff.wide (by omega) (by omega)).tr (zFr_sI (by omega) (by omega)), d.mk (k := [x]) ff a3 (v1.eq (a2.eq (by omega))) (by simp) (fun y hy => by simpa using hy) (fun y hy => by simp at hy)⟩
  | [x1], _, d, i0, u2, _ =>
    have hu : u = x1 := u2 x1 rfl
    subst hu
    rw [len1] at i0
    rw [len1, if_neg (by decide)]
    simp only [Option.bind_some, f1, zif_ok w.1, s_compareWith w u1, f2]
    rw [ins2_1]
    by_cases q : wlt x u = true
    · rw [if_pos q, if_pos ((wcmp_wlt x u).mpr q), zif_ok v1.1]
      obtain ⟨h1, a1, a2, a3⟩ := s_become v1 u1 (by omega)
      rw [tk (m := 0) u1] at a3
      have d1 := d.f1
      have ff : zFr (a + 1) (a + 5) h h1 := a2.wide (by omega) (by omega)
      have w1 := w.keep a2 (by omega)
      have u1' := u1.keep a2 (by omega)
      rw [a1, Option.bind_some]
      dsimp only
      rw [zgF_ok (by rw [ff.K]; exact hK), ff.F, d.1.2.1, Option.bind_some, zif_ok u1'.1]
      obtain ⟨h2, b1, b2, b3⟩ := s_become u1' w1 (by omega)
      rw [List.take_of_length_le hx] at b3
      have ff2 : zFr (a + 1) (a + 5) h h2 := ff.tr (b2.wide (by omega) (by omega))
      rw [b1, Option.bind_some, zpI_ok (by rw [ff2.K]; exact hK), Option.bind_some]
      exact ⟨_, rfl, (ff2.wide (by omega) (by omega)).tr (zFr_sI (by omega) (by omega)), d.mk (k := [x, u]) ff2 b3 (a3.keep b2 (by omega)) (by simp) (fun y hy => by simpa using hy) (fun y hy => by simpa using hy)⟩
    · have q' : wlt x u = false := by simpa using q
      rw [if_neg q, if_neg (fun z => q ((wcmp_wlt x u).mp z))]
      by_cases e : x = u
      · rw [if_pos e, if_neg (fun z => ((wcmp_pos x u).mp z).2 e)]
        exact ⟨h, rfl, zFr.rf, d⟩
      · rw [if_neg e, if_pos ((wcmp_pos x u).mpr ⟨q', e⟩), i0, Option.bind_some, if_pos (by decide), zif_ok v1.1]
        obtain ⟨h1, a1, a2, a3⟩ := s_become v1 w (by omega)
        rw [List.take_of_length_le hx] at a3
        have ff : zFr (a + 1) (a + 5) h h1 := a2.wide (by omega) (by omega)
        rw [a1, Option.bind_some, zpI_ok (by rw [ff.K]; exact hK), Option.bind_some]
        exact ⟨_, rfl, (ff.wide (by omega) (by omega)).tr (zFr_sI (by omega) (by omega)), d.mk (k := [u, x]) ff (u1.keep a2 (by omega)) a3 (by simp) (fun y hy => by simpa using hy) (fun y hy => by simpa using hy)⟩
  | [x1, y1], _, d, i0, u2, v2 =>
    have hu : u = x1 := u2 x1 rfl
    have hv : v = y1 := v2 y1 rfl
    subst hu
    subst hv
    rw [len2] at i0
    rw [len2, if_neg (by decide)]
    simp only [Option.bind_some, f1, zif_ok w.1, s_compareWith w u1, f2]
    rw [ins2_2]
    by_cases q : wlt x u = true
    · rw [if_pos q, if_pos ((wcmp_wlt x u).mpr q), zif_ok v1.1]
      obtain ⟨h1, a1, a2, a3⟩ := s_become v1 u1 (by omega)
      rw [tk (m := 0) u1] at a3
      have ff : zFr (a + 1) (a + 5) h h1 := a2.wide (by omega) (by omega)
      have w1 := w.keep a2 (by omega)
      have u1' := u1.keep a2 (by omega)
      rw [a1, Option.bind_some]
      dsimp only
      rw [zgF_ok (by rw [ff.K]; exact hK), ff.F, d.1.2.1, Option.bind_some, zif_ok u1'.1]
      obtain ⟨h2, b1, b2, b3⟩ := s_become u1' w1 (by omega)
      rw [List.take_of_length_le hx] at b3
      have ff2 : zFr (a + 1) (a + 5) h h2 := ff.tr (b2.wide (by omega) (by omega))
      rw [b1, Option.bind_some, zpI_ok (by rw [ff2.K]; exact hK), Option.bind_some]
      exact ⟨_, rfl, (ff2.wide (by omega) (by omega)).tr (zFr_sI (by omega) (by omega)), d.mk (k := [x, u]) ff2 b3 (a3.keep b2 (by omega)) (by simp) (fun y hy => by simpa using hy) (fun y hy => by simpa using hy)⟩
    · have q' : wlt x u = false := by simpa using q
      rw [if_neg q, if_neg (fun z => q ((wcmp_wlt x u).mp z))]
      by_cases e : x = u
      · rw [if_pos e, if_neg (fun z => ((wcmp_pos x u).mp z).2 e)]
        exact ⟨h, rfl, zFr.rf, d⟩
      · rw [if_neg e, if_pos ((wcmp_pos x u).mpr ⟨q', e⟩), i0, Option.bind_some, if_neg (by decide)]
        rw [s_compareWith w v1, Option.bind_some]
        dsimp only
        by_cases r : wlt x v = true
        · rw [if_pos r, if_pos ((wcmp_wlt x v).mpr r), f2, Option.bind_some, zif_ok v1.1]
          obtain ⟨h1, a1, a2, a3⟩ := s_become v1 w (by omega)
          rw [List.take_of_length_le hx] at a3
          have ff : zFr (a + 1) (a + 5) h h1 := a2.wide (by omega) (by omega)
          rw [a1, Option.bind_some, zpI_ok (by rw [ff.K]; exact hK), Option.bind_some]
          exact ⟨_, rfl, (ff.wide (by omega) (by omega)).tr (zFr_sI (by omega) (by omega)), d.mk (k := [u, x]) ff (u1.keep a2 (by omega)) a3 (by simp) (fun y hy => by simpa using hy) (fun y hy => by simpa using hy)⟩
        · rw [if_neg r, if_neg (fun z => r ((wcmp_wlt x v).mp z))]
          exact ⟨h, rfl, zFr.rf, d⟩
  | x1 :: y1 :: z1 :: t, hl, _, _, _, _ => exact absurd hl (by simp)
end TLR
