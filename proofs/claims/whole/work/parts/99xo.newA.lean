/-! New cells: words, pairs, two words, machines. -/
theorem tup3 {a b c a' b' c' : Nat} (h1 : a = a') (h2 : b = b') (h3 : c = c') : (a, b, c) = (a', b', c') := by rw [h1, h2, h3]
theorem mkn {h : zM} {k n : Nat} : (zmk h k n).1 = (h.1.1 + 1, h.1.2.1 + 1, h.1.2.2 + n) := rfl
theorem mk_at {h : zM} {k n : Nat} : (zmk h k n).2.1 h.1.1 = (k, n) ∧ (zmk h k n).2.2.1 h.1.1 = (fun _ => 0) ∧ (zmk h k n).2.2.2 h.1.1 = fun _ => 0 := ⟨va_up_self _ _ _, va_up_self _ _ _, va_up_self _ _ _⟩
theorem mk_ne {h : zM} {k n b : Nat} (hb : b ≠ h.1.1) : (zmk h k n).2.1 b = h.2.1 b ∧ (zmk h k n).2.2.1 b = h.2.2.1 b ∧ (zmk h k n).2.2.2 b = h.2.2.2 b := ⟨va_up_ne _ _ hb, va_up_ne _ _ hb, va_up_ne _ _ hb⟩
theorem sF_ne {h : zM} {a f r b : Nat} (hb : b ≠ a) : (zsF h a f r).2.1 b = h.2.1 b ∧ (zsF h a f r).2.2.1 b = h.2.2.1 b ∧ (zsF h a f r).2.2.2 b = h.2.2.2 b := ⟨rfl, rfl, va_up_ne _ _ hb⟩
theorem sI_ne {h : zM} {a j b : Nat} {x : Int32} (hb : b ≠ a) : (zsI h a j x).2.1 b = h.2.1 b ∧ (zsI h a j x).2.2.1 b = h.2.2.1 b ∧ (zsI h a j x).2.2.2 b = h.2.2.2 b := ⟨rfl, va_up_ne _ _ hb, rfl⟩
theorem zF_sFx {h : zM} {a f r : Nat} : zF (zsF h a f r) a f = r := by simp [zF, zsF, va_up_self]
theorem zF_sFk {h : zM} {a f g r : Nat} (hg : g ≠ f) : zF (zsF h a f r) a g = zF h a g := by simp [zF, zsF, va_up_self, va_up_ne _ _ hg]
theorem nI_0' (n : Nat) (hn : n ≤ 1000000) {h : zM} {k : Nat} : zna h k (nI n) = some (zmk h k n) := by
  unfold zna
  have c := nI_clamp (n := n) (by omega)
  rw [if_neg (fun w => by
    rw [c] at w
    rcases w with w | w
    · exact nI_nn (by omega) w
    · omega), c]
/-- new cells are made, those below a are as they were -/
def zNw (a k S : Nat) (h h' : zM) : Prop := h'.1 = (h.1.1 + k, h.1.2.1 + k, h.1.2.2 + S) ∧ ∀ b, b < a → h'.2.1 b = h.2.1 b ∧ h'.2.2.1 b = h.2.2.1 b ∧ h'.2.2.2 b = h.2.2.2 b
theorem zNw.tr {a a' k k' S S' : Nat} {h h1 h2 : zM} (x : zNw a k S h h1) (y : zNw a' k' S' h1 h2) (ha : a ≤ a') : zNw a (k + k') (S + S') h h2 := by
  refine ⟨?_, fun b hb => ?_⟩
  · rw [y.1, x.1]
    dsimp only
    rw [Nat.add_assoc, Nat.add_assoc, Nat.add_assoc]
  · obtain ⟨p1, p2, p3⟩ := x.2 b hb
    obtain ⟨q1, q2, q3⟩ := y.2 b (by omega)
    exact ⟨q1.trans p1, q2.trans p2, q3.trans p3⟩
/-- the cells lo .. hi - 1 are as they were -/
def zLo (lo hi : Nat) (h h' : zM) : Prop := ∀ b, lo ≤ b → b < hi → h'.2.1 b = h.2.1 b ∧ h'.2.2.1 b = h.2.2.1 b ∧ h'.2.2.2 b = h.2.2.2 b
theorem zNw.lo {a k S lo hi : Nat} {h h' : zM} (x : zNw a k S h h') (hh : hi ≤ a) : zLo lo hi h h' := fun b _ h2 => x.2 b (by omega)
section ZLO
variable {lo hi q : Nat} {h h' : zM}
theorem zLo.K (f : zLo lo hi h h') (h1 : lo ≤ q) (h2 : q < hi) : zK h' q = zK h q := congrArg Prod.fst (f q h1 h2).1
theorem zLo.N (f : zLo lo hi h h') (h1 : lo ≤ q) (h2 : q < hi) : zN h' q = zN h q := congrArg Prod.snd (f q h1 h2).1
theorem zLo.I (f : zLo lo hi h h') (h1 : lo ≤ q) (h2 : q < hi) (j : Nat) : zI h' q j = zI h q j := congrFun (f q h1 h2).2.1 j
theorem zLo.F (f : zLo lo hi h h') (h1 : lo ≤ q) (h2 : q < hi) (j : Nat) : zF h' q j = zF h q j := congrFun (f q h1 h2).2.2 j
theorem zLo.sub {lo' hi' : Nat} (f : zLo lo hi h h') (h1 : lo ≤ lo') (h2 : hi' ≤ hi) : zLo lo' hi' h h' := fun b b1 b2 => f b (by omega) (by omega)
theorem zLo.tr {h2 : zM} (f : zLo lo hi h h') (g : zLo lo hi h' h2) : zLo lo hi h h2 := fun b b1 b2 => ⟨(g b b1 b2).1.trans (f b b1 b2).1, (g b b1 b2).2.1.trans (f b b1 b2).2.1, (g b b1 b2).2.2.trans (f b b1 b2).2.2⟩
theorem zLo_sF {a k r : Nat} (ha : a < lo ∨ hi ≤ a) : zLo lo hi h (zsF h a k r) := fun b b1 b2 => sF_ne (by omega)
theorem zLo_sI {a k : Nat} {x : Int32} (ha : a < lo ∨ hi ≤ a) : zLo lo hi h (zsI h a k x) := fun b b1 b2 => sI_ne (by omega)
theorem Wd.al {a n : Nat} {w : zWo} (d : Wd h a n w) (f : zLo a (a + 2) h h') : Wd h' a n w := by
  obtain ⟨d1, d2, d3, d4, d5, d6, d7, d8⟩ := d
  exact ⟨(f.K (by omega) (by omega)).trans d1, (f.F (by omega) (by omega) _).trans d2, (f.K (by omega) (by omega)).trans d3, (f.N (by omega) (by omega)).trans d4, d5, (f.I (by omega) (by omega) _).trans d6, d7, fun i hi => (f.I (by omega) (by omega) _).trans (d8 i hi)⟩
theorem PrC.al {a n : Nat} {c : zCf} (d : PrC h a n c) (f : zLo a (a + 5) h h') : PrC h' a n c := by
  obtain ⟨⟨d1, d2, d3⟩, d4, d5, d6, d7⟩ := d
  exact ⟨⟨(f.K (by omega) (by omega)).trans d1, (f.F (by omega) (by omega) _).trans d2, (f.F (by omega) (by omega) _).trans d3⟩, (f.I (by omega) (by omega) _).trans d4, (f.I (by omega) (by omega) _).trans d5, d6.al (f.sub (by omega) (by omega)), d7.al (f.sub (by omega) (by omega))⟩
theorem TLC.al {a n : Nat} {l : List zWo} (d : TLC h a n l) (f : zLo a (a + 5) h h') : TLC h' a n l := by
  obtain ⟨⟨d1, d2, d3⟩, d4, d5, ⟨u, d6, d7⟩, v, d8, d9⟩ := d
  exact ⟨⟨(f.K (by omega) (by omega)).trans d1, (f.F (by omega) (by omega) _).trans d2, (f.F (by omega) (by omega) _).trans d3⟩, (f.I (by omega) (by omega) _).trans d4, d5, ⟨u, d6.al (f.sub (by omega) (by omega)), d7⟩, v, d8.al (f.sub (by omega) (by omega)), d9⟩
theorem Lay.al {T : List (Nat × Nat × Nat × Nat)} {c a n : Nat} (hT : ∀ e ∈ T, e.2.1 < n) (hn : 0 < n) (l : Lay T c h a) (f : zLo a (a + n) h h') : Lay T c h' a := by
  refine ⟨(f.K (by omega) (by omega)).trans l.1, fun e he => ?_⟩
  obtain ⟨l1, l2, l3⟩ := l.2 e he
  have := hT e he
  exact ⟨(f.F (by omega) (by omega) _).trans l1, (f.K (by omega) (by omega)).trans l2, (f.N (by omega) (by omega)).trans l3⟩
theorem MC.al {a : Nat} {M : zMa} (m : MC h a M) (f : zLo a (a + 6) h h') : MC h' a M := by
  obtain ⟨l, m1, m2, m3, m4, m5⟩ := m
  refine ⟨Lay.al (n := 6) (by decide) (by decide) l f, (f.I (by omega) (by omega) _).trans m1, (f.I (by omega) (by omega) _).trans m2, (f.I (by omega) (by omega) _).trans m3, fun q hq => (f.I (by omega) (by omega) _).trans (m4 q hq), fun i hi => ?_⟩
  have := m5 i hi
  rw [f.I (by omega) (by omega), f.I (by omega) (by omega), f.I (by omega) (by omega), f.I (by omega) (by omega)]
  exact this
end ZLO
/-- cells below c but y are as they were; of y all fields but fs and js -/
def FRM (y c : Nat) (fs js : List Nat) (h h' : zM) : Prop := (∀ b, b ≠ y → b < c → h'.2.1 b = h.2.1 b ∧ h'.2.2.1 b = h.2.2.1 b ∧ h'.2.2.2 b = h.2.2.2 b) ∧ h'.2.1 y = h.2.1 y ∧ (∀ f, f ∉ fs → zF h' y f = zF h y f) ∧ ∀ j, j ∉ js → zI h' y j = zI h y j
section FRR
variable {y c c' : Nat} {fs js fs' js' : List Nat} {h h1 h2 : zM}
theorem FRM.tr (a : FRM y c fs js h h1) (b : FRM y c' fs' js' h1 h2) (hc : c ≤ c') : FRM y c (fs ++ fs') (js ++ js') h h2 := by
  refine ⟨fun q h3 h4 => ?_, b.2.1.trans a.2.1, fun f hf => (b.2.2.1 f (fun w => hf (List.mem_append_right _ w))).trans (a.2.2.1 f (fun w => hf (List.mem_append_left _ w))), fun j hj => (b.2.2.2 j (fun w => hj (List.mem_append_right _ w))).trans (a.2.2.2 j (fun w => hj (List.mem_append_left _ w)))⟩
  obtain ⟨p1, p2, p3⟩ := a.1 q h3 h4
  obtain ⟨q1, q2, q3⟩ := b.1 q h3 (by omega)
  exact ⟨q1.trans p1, q2.trans p2, q3.trans p3⟩
theorem FRM.rf : FRM y c [] [] h h := ⟨fun _ _ _ => ⟨rfl, rfl, rfl⟩, rfl, fun _ _ => rfl, fun _ _ => rfl⟩
theorem FRM.lo (a : FRM y c fs js h h1) {lo hi : Nat} (h3 : y < lo) (h4 : hi ≤ c) : zLo lo hi h h1 := fun b b1 b2 => a.1 b (by omega) (by omega)
theorem FRM.k (a : FRM y c fs js h h1) : zK h1 y = zK h y := congrArg Prod.fst a.2.1
theorem FRM.f (a : FRM y c fs js h h1) {f : Nat} (hf : f ∉ fs) : zF h1 y f = zF h y f := a.2.2.1 f hf
theorem FRM.i (a : FRM y c fs js h h1) {j : Nat} (hj : j ∉ js) : zI h1 y j = zI h y j := a.2.2.2 j hj
theorem FRM.nw (a : FRM y c fs js h h1) {k S : Nat} (e : h1.1 = (h.1.1 + k, h.1.2.1 + k, h.1.2.2 + S)) (hy : y < c) : zNw y k S h h1 := ⟨e, fun b hb => a.1 b (by omega) (by omega)⟩
/-- a field that isn't a reference -/
theorem stI {cl : Nat} {j : Nat} {x : Int32} (hk : zK h y = cl + 1) : zpI h y cl j x = some (zsI h y j x) ∧ FRM y h.1.1 [] [j] h (zsI h y j x) ∧ zI (zsI h y j x) y j = x ∧ (zsI h y j x).1 = (h.1.1 + 0, h.1.2.1 + 0, h.1.2.2 + 0) :=
  ⟨zpI_ok hk, ⟨fun b hb _ => sI_ne hb, rfl, fun _ _ => rfl, fun i hi => zI_sI_k (fun e => hi (by rw [e]; exact List.mem_singleton.mpr rfl))⟩, zI_sI, rfl⟩
theorem stZ {cl : Nat} {j : Nat} {x : Int32} (hk : zK h y = cl + 1) (hx : x = 0 ∨ x = 1) : zpZ h y cl j x = some (zsI h y j x) := zpZ_ok hk hx
/-- a field that tells what is new -/
theorem stF {cl f k S : Nat} (hk : zK h y = cl + 1) (hy : y < h.1.1) (nw : zNw h.1.1 k S h h1) : zpF h1 y cl f h.1.1 = some (zsF h1 y f h.1.1) ∧ FRM y h.1.1 [f] [] h (zsF h1 y f h.1.1) ∧ zF (zsF h1 y f h.1.1) y f = h.1.1 ∧ (zsF h1 y f h.1.1).1 = (h.1.1 + k, h.1.2.1 + k, h.1.2.2 + S) ∧ ∀ hi, zLo h.1.1 hi h1 (zsF h1 y f h.1.1) := by
  have e := nw.2 y hy
  have k1 : zK h1 y = cl + 1 := (congrArg Prod.fst e.1).trans hk
  refine ⟨if_pos k1, ⟨fun b hb hc => ?_, e.1, fun g hg => ?_, fun j _ => congrFun e.2.1 j⟩, zF_sFx, nw.1, fun hi => zLo_sF (Or.inl hy)⟩
  · obtain ⟨q1, q2, q3⟩ := nw.2 b hc
    exact ⟨q1, q2, (va_up_ne _ _ hb).trans q3⟩
  · rw [zF_sFk (fun w => hg (by rw [w]; exact List.mem_singleton.mpr rfl))]
    exact congrFun e.2.2 g
end FRR
section NEW
variable {h : zM} {n r : Nat}
/-- an array -/
theorem n_arr {k : Nat} (hn : n ≤ 1000000) : zna h k (nI n) = some (zmk h k n) ∧ zNw h.1.1 1 n h (zmk h k n) ∧ zK (zmk h k n) h.1.1 = k ∧ zN (zmk h k n) h.1.1 = n ∧ (∀ i, zI (zmk h k n) h.1.1 i = 0) ∧ ∀ i, zF (zmk h k n) h.1.1 i = 0 :=
  ⟨nI_0' n hn, ⟨rfl, fun b hb => mk_ne (by omega)⟩, congrArg Prod.fst mk_at.1, congrArg Prod.snd mk_at.1, fun i => congrFun mk_at.2.1 i, fun i => congrFun mk_at.2.2 i⟩
/-- an object's cell -/
theorem n_obj {k : Nat} : zNw h.1.1 1 n h (zmk h k n) ∧ zK (zmk h k n) h.1.1 = k ∧ (∀ i, zI (zmk h k n) h.1.1 i = 0) ∧ (zmk h k n).1.1 = h.1.1 + 1 :=
  ⟨⟨rfl, fun b hb => mk_ne (by omega)⟩, congrArg Prod.fst mk_at.1, fun i => congrFun mk_at.2.1 i, rfl⟩
/-- a word's places -/
theorem n_wordI {a : Nat} (ha : 0 < a) (hk : zK h a = 11) (hy : h.1.1 = a + 1) (hn : n ≤ 1000000) (h0 : ∀ i, zI h a i = 0) : ∃ h', zf nX10_init [.inr a, .inl (nI n)] h = some (0, 0, h') ∧ zNw a 1 n h h' ∧ Wd h' a n [] := by
  obtain ⟨e1, e2, e3, e4, -⟩ := n_arr (h := h) (k := 101) hn
  obtain ⟨f1, f2, f3, f4, f5⟩ := stF (cl := 10) (f := 0) (y := a) hk (by omega) e2
  rw [hy] at f1 f3
  have k2 : zK (zsF (zmk h 101 n) a 0 (a + 1)) a = 10 + 1 := by rw [← hy]; exact f2.k.trans hk
  obtain ⟨g1, g2, g3, g4⟩ := stI (y := a) (cl := 10) (j := 1) (x := 0) k2
  refine ⟨zsI (zsF (zmk h 101 n) a 0 (a + 1)) a 1 0, ?_, ⟨rfl, fun b hb => ?_⟩, ?_⟩
  · rw [e_X10_init, if_neg (by omega), e1, Option.bind_some, hy, f1, Option.bind_some, g1, Option.bind_some]
  · obtain ⟨p1, p2, p3⟩ := e2.2 b (by omega)
    exact ⟨p1, (va_up_ne _ _ (by omega)).trans p2, (va_up_ne _ _ (by omega)).trans p3⟩
  · refine ⟨k2, f3, ?_, ?_, by omega, g3, Nat.zero_le _, fun i hi => absurd hi (Nat.not_lt_zero _)⟩
    · rw [← hy]; exact e3
    · rw [← hy]; exact e4
theorem n_word (h0 : 0 < h.1.1) (hn : n ≤ 1000000) : ∃ h', zK (zmk h 11 2) h.1.1 = 11 ∧ zf nX10_init [.inr h.1.1, .inl (nI n)] (zmk h 11 2) = some (0, 0, h') ∧ zNw h.1.1 2 (2 + n) h h' ∧ Wd h' h.1.1 n [] := by
  obtain ⟨o1, o2, o3, o4⟩ := n_obj (h := h) (n := 2) (k := 11)
  obtain ⟨h', e1, e2, e3⟩ := n_wordI h0 o2 o4 hn o3
  exact ⟨h', o2, e1, o1.tr e2 (Nat.le_refl _), e3⟩
/-- an array of words -/
theorem n_words (h0 : 0 < h.1.1) (hn : n ≤ 1000) (hr : r ≤ 1000000) : ∃ h', zf nX11_makeWords [.inl (nI n), .inl (nI r)] h = some (0, h.1.1, h') ∧ zNw h.1.1 (1 + 2 * n) (n + n * (2 + r)) h h' ∧ WAr h' h.1.1 n ∧ ∀ i, i < n → Wd h' (h.1.1 + 1 + 2 * i) r [] := by
  obtain ⟨e1, e2, e3, e4, -⟩ := n_arr (h := h) (n := n) (k := 104) (by omega)
  rw [e_X11_makeWords, e1, Option.bind_some]
  have loop := zlp (P := fun i z => zNw h.1.1 (1 + 2 * i) (n + i * (2 + r)) h z ∧ zK z h.1.1 = 104 ∧ zN z h.1.1 = n ∧ ∀ j, j < i → zF z h.1.1 j = h.1.1 + 1 + 2 * j ∧ Wd z (h.1.1 + 1 + 2 * j) r []) (g := fun i z => zm_X11_makeWords 7 [some (.inl (nI n)), some (.inl (nI r)), some (.inr h.1.1), some (.inl (nI i))] [] z) (n := n) (fun i z hi hP => by
    obtain ⟨p1, p2, p3, p4⟩ := hP
    have nx : z.1.1 = h.1.1 + 1 + 2 * i := by rw [p1.1]; dsimp only; omega
    obtain ⟨z1, w1, w2, w3, w4⟩ := n_word (h := z) (n := r) (by omega) hr
    have ky : z1.2.1 h.1.1 = z.2.1 h.1.1 := (w3.2 h.1.1 (by omega)).1
    have k1 : zK z1 h.1.1 = 104 := (congrArg Prod.fst ky).trans p2
    have k2 : zN z1 h.1.1 = n := (congrArg Prod.snd ky).trans p3
    have as : zas z1 h.1.1 (nI i) z.1.1 = some (zsF z1 h.1.1 i z.1.1) := by
      unfold zas
      have c := nI_clamp (n := i) (by omega)
      rw [if_pos ⟨by rw [k1]; decide, zix (by rw [k2]; exact hi) (by rw [k2]; omega), by rw [k1]; exact w4.1⟩, c]
    refine ⟨zsF z1 h.1.1 i z.1.1, ?_, ⟨?_, fun b hb => ?_⟩, k1, k2, fun j hj => ?_⟩
    · rw [e_X11_makeWords_7, if_pos ((nI_ltI (by omega) (by omega)).mpr hi), zif_ok w1, w2, Option.bind_some]
      dsimp only
      rw [as, Option.bind_some, nI_1]
    · show z1.1 = _
      rw [(p1.tr w3 (by omega)).1, show (i + 1) * (2 + r) = i * (2 + r) + (2 + r) from Nat.succ_mul _ _, show 1 + 2 * i + 2 = 1 + 2 * (i + 1) by omega, Nat.add_assoc n]
    · obtain ⟨q1, q2, q3⟩ := (p1.tr w3 (by omega)).2 b hb
      exact ⟨q1, q2, (va_up_ne _ _ (by omega)).trans q3⟩
    · by_cases e : j = i
      · rw [e]
        refine ⟨zF_sFx.trans nx, ?_⟩
        rw [← nx]
        exact w4.al (zLo_sF (Or.inl (by omega)))
      · obtain ⟨q1, q2⟩ := p4 j (by omega)
        refine ⟨?_, (q2.al (w3.lo (by omega))).al (zLo_sF (Or.inl (by omega)))⟩
        rw [zF_sFk e, ← q1]
        exact congrFun (w3.2 h.1.1 (by omega)).2.2 j) 0 (zmk h 104 n) (Nat.zero_le _) ⟨by rw [Nat.zero_mul]; exact e2, e3, e4, fun j hj => absurd hj (Nat.not_lt_zero _)⟩
  obtain ⟨z, g1, g2, g3, g4, g5⟩ := loop
  refine ⟨z, ?_, g2, ⟨g3, g4, by omega, fun i hi => (g5 i hi).1⟩, fun i hi => (g5 i hi).2⟩
  refine (show _ = _ from g1).trans ?_
  rw [e_X11_makeWords_7, if_neg (by rw [nI_ltI (by omega) (by omega)]; omega)]
/-- a pair -/
theorem n_pair (h0 : 0 < h.1.1) (hn : n ≤ 1000000) : ∃ h', zK (zmk h 5 4) h.1.1 = 5 ∧ zf nX4_init [.inr h.1.1, .inl (nI n)] (zmk h 5 4) = some (0, 0, h') ∧ zNw h.1.1 5 (4 + ((2 + n) + (2 + n))) h h' ∧ PrC h' h.1.1 n ((0, 0), [], []) := by
  obtain ⟨o1, o2, o3, o4⟩ := n_obj (h := h) (n := 4) (k := 5)
  generalize zmk h 5 4 = z0 at *
  obtain ⟨z1, a1, a2, a3, a4⟩ := n_word (h := z0) (n := n) (by omega) hn
  obtain ⟨b1, b2, b3, b4, b5⟩ := stF (cl := 4) (f := 2) (y := h.1.1) o2 (by omega) a3
  have aw := a4.al (b5 _)
  generalize zsF z1 h.1.1 2 z0.1.1 = z2 at *
  have n2' : z2.1.1 = h.1.1 + 3 := by rw [b4]; dsimp only; omega
  obtain ⟨z3, c1, c2, c3, c4⟩ := n_word (h := z2) (n := n) (by omega) hn
  obtain ⟨d1, d2, d3, d4, d5⟩ := stF (cl := 4) (f := 3) (y := h.1.1) (b2.k.trans o2) (by omega) c3
  have cw := c4.al (d5 _)
  generalize zsF z3 h.1.1 3 z2.1.1 = z4 at *
  have F := b2.tr d2 (by omega)
  refine ⟨z4, o2, ?_, ?_, ⟨F.k.trans o2, ?_, ?_⟩, ?_, ?_, ?_, ?_⟩
  · rw [e_X4_init, if_neg (by omega), zif_ok a1, a2, Option.bind_some]
    dsimp only
    rw [b1, Option.bind_some, zif_ok c1, c2, Option.bind_some]
    dsimp only
    rw [d1, Option.bind_some]
  · have nw2 : zNw h.1.1 (2 + 2) ((2 + n) + (2 + n)) z0 z4 := ⟨by rw [d4, b4]; dsimp only; rw [Nat.add_assoc, Nat.add_assoc, Nat.add_assoc], fun b hb => F.1 b (by omega) (by omega)⟩
    exact o1.tr nw2 (Nat.le_refl _)
  · rw [d2.f (by decide), b3, o4]
  · rw [d3, n2']
  · rw [F.i (by decide), o3]; rfl
  · rw [F.i (by decide), o3]; rfl
  · rw [← o4]
    exact aw.al (d2.lo (by omega) (by omega))
  · rw [← n2']
    exact cw
/-- two words -/
theorem n_two (h0 : 0 < h.1.1) (hn : n ≤ 1000000) : ∃ h', zK (zmk h 9 3) h.1.1 = 9 ∧ zf nX8_init [.inr h.1.1, .inl (nI n)] (zmk h 9 3) = some (0, 0, h') ∧ zNw h.1.1 5 (3 + ((2 + n) + (2 + n))) h h' ∧ TLC h' h.1.1 n [] := by
  obtain ⟨o1, o2, o3, o4⟩ := n_obj (h := h) (n := 3) (k := 9)
  generalize zmk h 9 3 = z0 at *
  obtain ⟨i1, i2, i3, i4⟩ := stI (y := h.1.1) (cl := 8) (j := 0) (x := 0) o2
  generalize zsI z0 h.1.1 0 0 = y0 at *
  have ny : y0.1.1 = h.1.1 + 1 := by rw [i4]; dsimp only; omega
  obtain ⟨z1, a1, a2, a3, a4⟩ := n_word (h := y0) (n := n) (by omega) hn
  obtain ⟨b1, b2, b3, b4, b5⟩ := stF (cl := 8) (f := 1) (y := h.1.1) (i2.k.trans o2) (by omega) a3
  have aw := a4.al (b5 _)
  generalize zsF z1 h.1.1 1 y0.1.1 = z2 at *
  have n2' : z2.1.1 = h.1.1 + 3 := by rw [b4]; dsimp only; omega
  have k2 := b2.k.trans (i2.k.trans o2)
  obtain ⟨z3, c1, c2, c3, c4⟩ := n_word (h := z2) (n := n) (by omega) hn
  obtain ⟨d1, d2, d3, d4, d5⟩ := stF (cl := 8) (f := 2) (y := h.1.1) k2 (by omega) c3
  have cw := c4.al (d5 _)
  generalize zsF z3 h.1.1 2 z2.1.1 = z4 at *
  have F := (i2.tr b2 (by omega)).tr d2 (by omega)
  refine ⟨z4, o2, ?_, ?_, ⟨d2.k.trans k2, ?_, ?_⟩, ?_, Nat.zero_le _, ⟨[], ?_, fun x e => by cases e⟩, [], ?_, fun x e => by cases e⟩
  · rw [e_X8_init, if_neg (by omega), i1, Option.bind_some, zif_ok a1, a2, Option.bind_some]
    dsimp only
    rw [b1, Option.bind_some, zif_ok c1, c2, Option.bind_some]
    dsimp only
    rw [d1, Option.bind_some]
  · have nw2 : zNw h.1.1 (2 + 2) ((2 + n) + (2 + n)) z0 z4 := ⟨by rw [d4, b4, i4]; exact tup3 (by dsimp only; try omega) (by dsimp only; try omega) (by dsimp only; try omega), fun b hb => F.1 b (by omega) (by omega)⟩
    exact o1.tr nw2 (Nat.le_refl _)
  · rw [d2.f (by decide), b3, ny]
  · rw [d3, n2']
  · rw [d2.i (by decide), b2.i (by decide), i3]; rfl
  · rw [← ny]
    exact aw.al (d2.lo (by omega) (by omega))
  · rw [← n2']
    exact cw
end NEW
