/-! The class: pairs with their delays. -/
def PrC (h : zM) (a n : Nat) (c : zCf) : Prop := (zK h a = 5 ∧ zF h a 2 = a + 1 ∧ zF h a 3 = a + 3) ∧ zI h a 0 = nI c.1.1 ∧ zI h a 1 = nI c.1.2 ∧ Wd h (a + 1) n c.2.1 ∧ Wd h (a + 3) n c.2.2
section PRR
variable {h h' : zM} {a n : Nat} {c : zCf}
theorem PrC.f2 (d : PrC h a n c) : zgF h a 4 2 = some (a + 1) := (zgF_ok d.1.1).trans (congrArg some d.1.2.1)
theorem PrC.f3 (d : PrC h a n c) : zgF h a 4 3 = some (a + 3) := (zgF_ok d.1.1).trans (congrArg some d.1.2.2)
theorem PrC.i0 (d : PrC h a n c) : zgI h a 4 0 = some (nI c.1.1) := (zgI_ok d.1.1).trans (congrArg some d.2.1)
theorem PrC.i1 (d : PrC h a n c) : zgI h a 4 1 = some (nI c.1.2) := (zgI_ok d.1.1).trans (congrArg some d.2.2.1)
theorem PrC.wl (d : PrC h a n c) : Wd h (a + 1) n c.2.1 := d.2.2.2.1
theorem PrC.wr (d : PrC h a n c) : Wd h (a + 3) n c.2.2 := d.2.2.2.2
theorem PrC.eq (d : PrC h a n c) (f : zEq a (a + 5) h h') : PrC h' a n c :=
  ⟨⟨by rw [f.K]; exact d.1.1, by rw [f.F (by omega) (by omega)]; exact d.1.2.1, by rw [f.F (by omega) (by omega)]; exact d.1.2.2⟩, by rw [f.I (by omega) (by omega)]; exact d.2.1, by rw [f.I (by omega) (by omega)]; exact d.2.2.1, d.wl.eq (f.sub (by omega) (by omega)), d.wr.eq (f.sub (by omega) (by omega))⟩
theorem PrC.keep {lo hi : Nat} (d : PrC h a n c) (f : zFr lo hi h h') (hd : a + 5 ≤ lo ∨ hi ≤ a) : PrC h' a n c := d.eq (f.eq hd)
theorem PrC.setL {u : zWo} (d : PrC h a n c) (f : zFr (a + 1) (a + 3) h h') (hw : Wd h' (a + 1) n u) : PrC h' a n (c.1, u, c.2.2) :=
  ⟨⟨by rw [f.K]; exact d.1.1, by rw [f.F]; exact d.1.2.1, by rw [f.F]; exact d.1.2.2⟩, by rw [f.I (by omega)]; exact d.2.1, by rw [f.I (by omega)]; exact d.2.2.1, hw, d.wr.eq (f.eq (by omega))⟩
theorem PrC.setR {u : zWo} (d : PrC h a n c) (f : zFr (a + 3) (a + 5) h h') (hw : Wd h' (a + 3) n u) : PrC h' a n (c.1, c.2.1, u) :=
  ⟨⟨by rw [f.K]; exact d.1.1, by rw [f.F]; exact d.1.2.1, by rw [f.F]; exact d.1.2.2⟩, by rw [f.I (by omega)]; exact d.2.1, by rw [f.I (by omega)]; exact d.2.2.1, d.wl.eq (f.eq (by omega)), hw⟩
theorem PrC.set0 (d : PrC h a n c) (p : Nat) : PrC (zsI h a 0 (nI p)) a n ((p, c.1.2), c.2) :=
  have f : zFr a (a + 1) h (zsI h a 0 (nI p)) := zFr_sI (by omega) (by omega)
  ⟨d.1, zI_sI, (zI_sI_k (by decide)).trans d.2.2.1, d.wl.eq (f.eq (by omega)), d.wr.eq (f.eq (by omega))⟩
theorem PrC.set1 (d : PrC h a n c) (q : Nat) : PrC (zsI h a 1 (nI q)) a n ((c.1.1, q), c.2) :=
  have f : zFr a (a + 1) h (zsI h a 1 (nI q)) := zFr_sI (by omega) (by omega)
  ⟨d.1, (zI_sI_k (by decide)).trans d.2.1, zI_sI, d.wl.eq (f.eq (by omega)), d.wr.eq (f.eq (by omega))⟩
theorem s_Pbegin (d : PrC h a n c) (p q : Nat) : ∃ h', zf nX4_begin [.inr a, .inl (nI p), .inl (nI q)] h = some (0, 0, h') ∧ zFr a (a + 5) h h' ∧ PrC h' a n ((p, q), [], []) := by
  have d1 := d.set0 p
  have d2 := d1.set1 q
  have f0 : zFr a (a + 5) h (zsI (zsI h a 0 (nI p)) a 1 (nI q)) := (zFr_sI (by omega) (by omega)).tr (zFr_sI (by omega) (by omega))
  obtain ⟨h1, g1, g2, g3⟩ := s_clear d2.wl
  have d3 := d2.setL g2 g3
  obtain ⟨h2, k1, k2, k3⟩ := s_clear d3.wr
  have d4 := d3.setR k2 k3
  refine ⟨h2, ?_, f0.tr ((g2.wide (by omega) (by omega)).tr (k2.wide (by omega) (by omega))), d4⟩
  rw [e_X4_begin, zpI_ok d.1.1, Option.bind_some, zpI_ok d1.1.1, Option.bind_some, d2.f2, Option.bind_some, zif_ok d2.wl.1, g1, Option.bind_some]
  dsimp only
  rw [d3.f3, Option.bind_some, zif_ok d3.wr.1, k1, Option.bind_some]
theorem s_Pfollow {b : Nat} {e : zCf} {x y : Nat} (d : PrC h a n c) (k : PrC h b n e) (hd : a + 5 ≤ b ∨ b + 5 ≤ a) (hx : x < 1000 ∧ e.2.1.length + (dgs x).length ≤ n) (hy : y < 1000 ∧ e.2.2.length + (dgs y).length ≤ n) :
    ∃ h', zf nX4_follow [.inr a, .inr b, .inl (nI x), .inl (nI y)] h = some (0, 0, h') ∧ zFr a (a + 5) h h' ∧ PrC h' a n (c.1, dlyD (e.2.1 ++ dgs x) (e.2.2 ++ dgs y)) := by
  obtain ⟨h1, g1, g2, g3⟩ := s_become d.wl k.wl (by omega)
  rw [List.take_of_length_le k.wl.small.2.2] at g3
  have d1 := d.setL g2 g3
  have k1 := k.keep g2 (by omega)
  obtain ⟨h2, i1, i2, i3⟩ := s_addNumber g3 (nI x)
  rw [dn_nI (by omega), List.take_of_length_le (by rw [List.length_append]; omega)] at i3
  have d2 := d1.setL i2 i3
  have k2 := k1.keep i2 (by omega)
  obtain ⟨h3, j1, j2, j3⟩ := s_become d2.wr k2.wr (by omega)
  rw [List.take_of_length_le k2.wr.small.2.2] at j3
  have d3 := d2.setR j2 j3
  obtain ⟨h4, l1, l2, l3⟩ := s_addNumber j3 (nI y)
  rw [dn_nI (by omega), List.take_of_length_le (by rw [List.length_append]; omega)] at l3
  have d4 := d3.setR l2 l3
  have cw := s_commonWith d4.wl d4.wr
  have hl := lcp_le (e.2.1 ++ dgs x) (e.2.2 ++ dgs y)
  have hs := d4.wl.small
  have hl2 : lcp (e.2.1 ++ dgs x) (e.2.2 ++ dgs y) < 2 ^ 30 := Nat.lt_of_le_of_lt hl.1 hs.1
  obtain ⟨h5, m1, m2, m3⟩ := s_dropFirst d4.wl hl2
  have d5 := d4.setL m2 m3
  obtain ⟨h6, o1, o2, o3⟩ := s_dropFirst d5.wr hl2
  have d6 := d5.setR o2 o3
  refine ⟨h6, ?_, (g2.wide (by omega) (by omega)).tr ((i2.wide (by omega) (by omega)).tr ((j2.wide (by omega) (by omega)).tr ((l2.wide (by omega) (by omega)).tr ((m2.wide (by omega) (by omega)).tr (o2.wide (by omega) (by omega)))))), d6⟩
  rw [e_X4_follow]
  simp only [d.f2, k.f2, Option.bind_some, zif_ok d.wl.1, g1, d1.f2, zif_ok d1.wl.1, i1, d2.f3, k2.f3, zif_ok d2.wr.1, j1, d3.f3, zif_ok d3.wr.1, l1, d4.f2, d4.f3, zif_ok d4.wl.1]
  rw [cw]
  simp only [Option.bind_some, d4.f2, zif_ok d4.wl.1]
  rw [m1]
  simp only [Option.bind_some, d5.f3, zif_ok d5.wr.1]
  rw [o1]
  rfl
theorem s_PisApart (d : PrC h a n c) : zf nX4_isApart [.inr a] h = some (if apt c then 1 else 0, 0, h) := by
  have s1 := d.wl.small
  have s2 := d.wr.small
  rw [e_X4_isApart, d.f2, Option.bind_some, d.wl.len, Option.bind_some, d.f3]
  unfold apt
  by_cases c1 : 0 < c.2.1.length
  · rw [if_pos (by rw [n0, nI_ltI (by omega) (by omega)]; exact c1), Option.bind_some, d.wr.len, Option.bind_some]
    by_cases c2 : 0 < c.2.2.length
    · rw [if_pos (by rw [n0, nI_ltI (by omega) (by omega)]; exact c2), zb1, decide_eq_true (And.intro c1 c2)]; rfl
    · rw [if_neg (by rw [n0, nI_ltI (by omega) (by omega)]; exact c2), zb0, decide_eq_false (fun z : 0 < c.2.1.length ∧ 0 < c.2.2.length => c2 z.2)]; rfl
  · rw [if_neg (by rw [n0, nI_ltI (by omega) (by omega)]; exact c1), zb0, decide_eq_false (fun z : 0 < c.2.1.length ∧ 0 < c.2.2.length => c1 z.1)]; rfl
theorem s_Pforget (d : PrC h a n c) : ∃ h', zf nX4_forgetHowApart [.inr a] h = some (0, 0, h') ∧ zFr a (a + 5) h h' ∧ PrC h' a n (c.1, c.2.1.take 1, c.2.2.take 1) := by
  obtain ⟨h1, g1, g2, g3⟩ := s_shortenTo d.wl (c := 1) (by decide)
  have d1 := d.setL g2 g3
  obtain ⟨h2, k1, k2, k3⟩ := s_shortenTo d1.wr (c := 1) (by decide)
  refine ⟨h2, ?_, (g2.wide (by omega) (by omega)).tr (k2.wide (by omega) (by omega)), d1.setR k2 k3⟩
  rw [e_X4_forgetHowApart, n1]
  simp only [d.f2, Option.bind_some, zif_ok d.wl.1]
  rw [g1]
  simp only [d1.f3, Option.bind_some, zif_ok d1.wr.1]
  rw [k1]
  rfl
theorem s_PisAlike {b m : Nat} {e : zCf} (d : PrC h a n c) (k : PrC h b m e) (hc : c.1.1 < 2 ^ 30 ∧ c.1.2 < 2 ^ 30) (he : e.1.1 < 2 ^ 30 ∧ e.1.2 < 2 ^ 30) : zf nX4_isAlike [.inr a, .inr b] h = some (if c = e then 1 else 0, 0, h) := by
  rw [e_X4_isAlike]
  simp only [d.i0, d.i1, k.i0, k.i1, d.f2, d.f3, k.f2, k.f3, Option.bind_some, zif_ok d.wl.1, zif_ok d.wr.1, s_isAlike d.wl k.wl, s_isAlike d.wr k.wr]
  by_cases c1 : c.1.1 = e.1.1
  · rw [if_pos (by rw [c1])]
    by_cases c2 : c.1.2 = e.1.2
    · rw [if_pos (by rw [c2])]
      by_cases c3 : c.2.1 = e.2.1
      · rw [if_pos c3, if_neg (by decide)]
        by_cases c4 : c.2.2 = e.2.2
        · rw [if_pos c4, if_neg (by decide), zb1, if_pos (Prod.ext (Prod.ext c1 c2) (Prod.ext c3 c4))]
        · rw [if_neg c4, if_pos (by decide), zb0, if_neg (fun z => c4 (by rw [z]))]
      · rw [if_neg c3, if_pos (by decide), zb0, if_neg (fun z => c3 (by rw [z]))]
    · rw [if_neg (by rw [nI_eq (by omega) (by omega)]; exact c2), zb0, if_neg (fun z => c2 (by rw [z]))]
  · rw [if_neg (by rw [nI_eq (by omega) (by omega)]; exact c1), zb0, if_neg (fun z => c1 (by rw [z]))]
end PRR
