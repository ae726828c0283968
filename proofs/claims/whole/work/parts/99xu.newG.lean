/-! New cells: what stands apart stays; Difference, Twins. -/
section NWG0
variable {h h' : zM}
theorem DS.al {d : Nat} (s : DS h d) (f : zLo d (d + 377) h h') : DS h' d := by
  obtain ⟨⟨l, ⟨a1, a2, a3⟩, b1, b2, b3⟩, c, ⟨w, hw⟩, v, hv⟩ := s
  exact ⟨⟨Lay.al (n := 377) (by decide) (by decide) l f, ⟨(f.F (by omega) (by omega) _).trans a1, (f.F (by omega) (by omega) _).trans a2, (f.F (by omega) (by omega) _).trans a3⟩, (f.K (by omega) (by omega)).trans b1, (f.N (by omega) (by omega)).trans b2, fun i hi => (f.F (by omega) (by omega) _).trans (b3 i hi)⟩, fun i hi => by
    obtain ⟨k, hk⟩ := c i hi
    exact ⟨k, hk.al (f.sub (by omega) (by omega))⟩, ⟨w, hw.al (f.sub (by omega) (by omega))⟩, v, hv.al (f.sub (by omega) (by omega))⟩
theorem TS.al {t : Nat} (s : TS h t) (f : zLo t (t + 5014) h h') : TS h' t := by
  obtain ⟨⟨l, a1, b1, b2, b3⟩, c⟩ := s
  exact ⟨⟨Lay.al (n := 5014) (by decide) (by decide) l f, (f.F (by omega) (by omega) _).trans a1, (f.K (by omega) (by omega)).trans b1, (f.N (by omega) (by omega)).trans b2, fun i hi => (f.F (by omega) (by omega) _).trans (b3 i hi)⟩, fun i hi => by
    obtain ⟨k, hk⟩ := c i hi
    exact ⟨k, hk.al (f.sub (by omega) (by omega))⟩⟩
theorem RS.al {r : Nat} (s : RS h r) (f : zLo r (r + 5) h h') : RS h' r :=
  ⟨Lay.al (n := 5) (by decide) (by decide) s.1 f, fun p hp => (f.I (by omega) (by omega) _).trans (s.2 p hp)⟩
theorem WAr.al {lo hi a n : Nat} (d : WAr h a n) (f : zLo lo hi h h') (h1 : lo ≤ a) (h2 : a < hi) : WAr h' a n :=
  ⟨(f.K h1 h2).trans d.1, (f.N h1 h2).trans d.2.1, d.2.2.1, fun i hi => (f.F h1 h2 _).trans (d.2.2.2 i hi)⟩
theorem WEx.al {lo hi a n r : Nat} (d : WEx h a n r) (f : zLo lo hi h h') (h1 : lo ≤ a + 1) (h2 : a + 1 + 2 * n ≤ hi) : WEx h' a n r := fun i hi => by
  obtain ⟨w, hw⟩ := d i hi
  exact ⟨w, hw.al (f.sub (by omega) (by omega))⟩
theorem SS.al {x : Nat} (s : SS h x) (f : zLo x (x + 1818) h h') : SS h' x := by
  obtain ⟨⟨l, ⟨a1, a2, a3⟩, b1, b2, b3⟩, c1, c2, c3⟩ := s
  exact ⟨⟨Lay.al (n := 1818) (by decide) (by decide) l f, ⟨(f.F (by omega) (by omega) _).trans a1, (f.F (by omega) (by omega) _).trans a2, (f.F (by omega) (by omega) _).trans a3⟩, b1.al f (by omega) (by omega), b2.al f (by omega) (by omega), b3.al f (by omega) (by omega)⟩, c1.al f (by omega) (by omega), c2.al f (by omega) (by omega), c3.al f (by omega) (by omega)⟩
theorem YS.al {x y : Nat} (s : YS h x y) (f : zLo y (y + 409) h h') : YS h' x y := by
  obtain ⟨⟨l, ⟨a1, a2, a3⟩, b1, b2⟩, c1, c2⟩ := s
  exact ⟨⟨Lay.al (n := 409) (by decide) (by decide) l f, ⟨(f.F (by omega) (by omega) _).trans a1, (f.F (by omega) (by omega) _).trans a2, (f.F (by omega) (by omega) _).trans a3⟩, b1.al f (by omega) (by omega), b2.al f (by omega) (by omega)⟩, c1.al f (by omega) (by omega), c2.al f (by omega) (by omega)⟩
theorem OutP.al {o : Nat} (s : OutP h o []) (f : zLo o (o + 368) h h') : OutP h' o [] := by
  obtain ⟨b1, b2, π, ⟨⟨k1, ⟨f1, f2, f3, f4, f5, f6⟩, ⟨g1, g2⟩, bl, alt⟩, w, ⟨p1, p2⟩, z⟩, -⟩ := s
  refine ⟨b1, b2, π, ⟨⟨(f.K (by omega) (by omega)).trans k1, ⟨(f.F (by omega) (by omega) _).trans f1, (f.F (by omega) (by omega) _).trans f2, (f.F (by omega) (by omega) _).trans f3, (f.F (by omega) (by omega) _).trans f4, (f.F (by omega) (by omega) _).trans f5, (f.F (by omega) (by omega) _).trans f6⟩, ⟨(f.K (by omega) (by omega)).trans g1, (f.N (by omega) (by omega)).trans g2⟩, fun b hb => ?_, alt⟩, fun k h1 h2 h3 => ?_, ⟨fun i hi => ⟨(p1 i hi).1, (f.F (by omega) (by omega) _).trans (p1 i hi).2⟩, p2⟩, (f.I (by omega) (by omega) _).trans z⟩, Nat.zero_le _, fun i hi => absurd hi (Nat.not_lt_zero _)⟩
  · obtain ⟨q1, q2, q3, q4, q5⟩ := bl b hb
    exact ⟨(f.K (by omega) (by omega)).trans q1, (f.N (by omega) (by omega)).trans q2, (f.K (by omega) (by omega)).trans q3, (f.N (by omega) (by omega)).trans q4, fun i hi => (f.F (by omega) (by omega) _).trans (q5 i hi)⟩
  · obtain ⟨v, hv⟩ := w k h1 h2 h3
    exact ⟨v, hv.al (f.sub (by omega) (by omega))⟩
end NWG0
section NWG1
variable {h : zM} {y cl f a n : Nat}
/-- an array and what it holds -/
theorem p_U {k S ak ek : Nat} {E : zM → Nat → Prop} {NE : zM → zM → Prop} {g : Nat → zM → Option zR}
    (hk : zK h y = cl + 1) (ha : h.1.1 = a) (hy : y < a) (hn : n ≤ 2000) (hak : 104 ≤ ak ∧ ak < 108) (hek : ek = zel ak + 1)
    (mk : ∀ z : zM, 0 < z.1.1 → ∃ z1, NE z z1 ∧ zNw z.1.1 k S z z1 ∧ zK z1 z.1.1 = ek ∧ E z1 z.1.1)
    (al : ∀ (h h' : zM) (a : Nat), E h a → zLo a (a + k) h h' → E h' a)
    (st : ∀ (i : Nat) (z z1 z2 : zM), i < n → zgF z y cl f = some a → NE z z1 → zas z1 a (nI i) z.1.1 = some z2 → g i z = g (i + 1) z2) :
    ∃ z1 z2 z, zna h ak (nI n) = some z1 ∧ zpF z1 y cl f h.1.1 = some z2 ∧ g 0 z2 = g n z ∧ FRM y a [f] [] h z ∧ zF z y f = a ∧ (z.1.1 = a + (1 + k * n) ∧ z.1.2.1 = h.1.2.1 + (1 + k * n) ∧ z.1.2.2 = h.1.2.2 + (n + n * S)) ∧ zK z a = ak ∧ zN z a = n ∧ ∀ i, i < n → zF z a i = a + 1 + k * i ∧ E z (a + 1 + k * i) := by
  subst ha
  obtain ⟨h2, z, e1, e2, e3, e4, e5, e6, e7, e8, e9⟩ := u_loop (f := f) (E := E) (NE := NE) (g := g) hk hy hn hak hek mk al st
  exact ⟨_, h2, z, e1, e2, e3, e4, e5, ⟨congrArg (fun t : Nat × Nat × Nat => t.1) e6, congrArg (fun t : Nat × Nat × Nat => t.2.1) e6, congrArg (fun t : Nat × Nat × Nat => t.2.2) e6⟩, e7, e8, e9⟩
/-- an object -/
theorem p_O {c k S : Nat} {P : zM → Nat → Prop} {F : Nat → zM → Option zR} (hk : zK h y = cl + 1) (ha : h.1.1 = a) (hy : y < a)
    (mk : ∀ z : zM, zK z a = c → z.1.1 = a + 1 → (∀ i, zI z a i = 0) → ∃ z', F a z = some (0, 0, z') ∧ zNw a k S z z' ∧ P z' a)
    (al : ∀ z z' : zM, P z a → zLo a (a + 1 + k) z z' → P z' a) :
    ∃ z1 z, zK (zmk h c n) h.1.1 = c ∧ F h.1.1 (zmk h c n) = some (0, 0, z1) ∧ zpF z1 y cl f h.1.1 = some z ∧ FRM y a [f] [] h z ∧ zF z y f = a ∧ (z.1.1 = a + (1 + k) ∧ z.1.2.1 = h.1.2.1 + (1 + k) ∧ z.1.2.2 = h.1.2.2 + (n + S)) ∧ P z a := by
  subst ha
  obtain ⟨o1, o2, o3, o4⟩ := n_obj (h := h) (n := n) (k := c)
  obtain ⟨z', e1, e2, e3⟩ := mk (zmk h c n) o2 o4 o3
  obtain ⟨f1, f2, f3, f4, f5⟩ := stF (f := f) hk hy (o1.tr e2 (Nat.le_refl _))
  exact ⟨z', _, o2, e1, f1, f2, f3, ⟨congrArg (fun t : Nat × Nat × Nat => t.1) f4, congrArg (fun t : Nat × Nat × Nat => t.2.1) f4, congrArg (fun t : Nat × Nat × Nat => t.2.2) f4⟩, al _ _ e3 (f5 _)⟩
end NWG1
