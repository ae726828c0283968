/-! The two machines of the class. -/
/-- an object's references and arrays: (field, how far behind the object, kind, length) -/
def Lay (T : List (Nat × Nat × Nat × Nat)) (c : Nat) (h : zM) (a : Nat) : Prop := zK h a = c + 1 ∧ ∀ e ∈ T, zF h a e.1 = a + e.2.1 ∧ zK h (a + e.2.1) = e.2.2.1 ∧ zN h (a + e.2.1) = e.2.2.2
theorem Lay.keep {T : List (Nat × Nat × Nat × Nat)} {c a lo hi : Nat} {h h' : zM} (l : Lay T c h a) (f : zFr lo hi h h') : Lay T c h' a :=
  ⟨by rw [f.K]; exact l.1, fun e he => ⟨by rw [f.F]; exact (l.2 e he).1, by rw [f.K]; exact (l.2 e he).2.1, by rw [f.N]; exact (l.2 e he).2.2⟩⟩
/-- how many letters a number has, each 1 to most; none if it is no word -/
def lf : Nat → Nat → Nat → Option Nat
  | 0, _, _ => some 0
  | f + 1, most, x => if x = 0 then some 0 else if x % 10 < 1 ∨ most < x % 10 then none else (lf f most (x / 10)).map (· + 1)
theorem lf_lt : ∀ (f most x k : Nat), x < 10 ^ f → lf f most x = some k → x < 10 ^ k
  | 0, most, x, k, h, e => by
    cases e
    simpa using h
  | f + 1, most, x, k, h, e => by
    unfold lf at e
    split at e
    · rename_i hx
      cases e
      omega
    · split at e
      · cases e
      · obtain ⟨j, hj, rfl⟩ := Option.map_eq_some_iff.mp e
        have := lf_lt f most (x / 10) j (by rw [Nat.pow_succ] at h; omega) hj
        rw [Nat.pow_succ]
        omega
/-- an output word of at most 3 letters -/
def wOk (w : Nat) : Prop := ∃ k, k ≤ 3 ∧ lf 11 9 w = some k ∧ w < 10 ^ 11
theorem wOk.lt {w : Nat} (h : wOk w) : w < 1000 := by
  obtain ⟨k, h1, h2, h3⟩ := h
  have := lf_lt 11 9 w k h3 h2
  have h4 : 10 ^ k ≤ 10 ^ 3 := Nat.pow_le_pow_right (by decide) h1
  omega
abbrev zArc : Type := Nat × Nat × Nat × Nat
abbrev zMa : Type := Nat × Nat × (Nat → Option Nat) × List zArc
def eI (o : Option Nat) : Int32 := match o with
  | none => -1
  | some w => nI w
def arcAt (M : zMa) (i : Nat) : zArc := M.2.2.2.getD i (0, 0, 0, 0)
/-- a machine as it may stand: at most 6 states, 30 arcs, bits and places below the number of states -/
def MaOk (M : zMa) : Prop := M.1 ≤ 6 ∧ M.2.1 < 2 ^ M.1 ∧ (∀ q w, M.2.2.1 q = some w → q < M.1 ∧ wOk w) ∧ M.2.2.2.length ≤ 30 ∧ ∀ a ∈ M.2.2.2, a.1 < M.1 ∧ (1 ≤ a.2.1 ∧ a.2.1 ≤ 3) ∧ a.2.2.1 < M.1 ∧ wOk a.2.2.2
theorem MaOk.at2 {M : zMa} (k : MaOk M) {i : Nat} (hi : i < M.2.2.2.length) : (arcAt M i).1 < M.1 ∧ (1 ≤ (arcAt M i).2.1 ∧ (arcAt M i).2.1 ≤ 3) ∧ (arcAt M i).2.2.1 < M.1 ∧ wOk (arcAt M i).2.2.2 := by
  refine k.2.2.2.2 _ ?_
  unfold arcAt
  rw [List.getD_eq_getElem?_getD, List.getElem?_eq_getElem hi]
  exact List.getElem_mem hi
theorem MaOk.at {M : zMa} (k : MaOk M) {i : Nat} (hi : i < M.2.2.2.length) : (arcAt M i).1 < M.1 ∧ (1 ≤ (arcAt M i).2.1 ∧ (arcAt M i).2.1 ≤ 3) ∧ (arcAt M i).2.2.1 < M.1 ∧ (arcAt M i).2.2.2 < 1000 :=
  have := k.at2 hi
  ⟨this.1, this.2.1, this.2.2.1, this.2.2.2.lt⟩
def T2 : List (Nat × Nat × Nat × Nat) := [(3, 1, 101, 6), (4, 2, 101, 30), (5, 3, 101, 30), (6, 4, 101, 30), (7, 5, 101, 30)]
/-- the machine M stands at a (cells a .. a + 5) -/
def MC (h : zM) (a : Nat) (M : zMa) : Prop := Lay T2 2 h a ∧ zI h a 0 = nI M.1 ∧ zI h a 1 = nI M.2.2.2.length ∧ zI h a 2 = nI M.2.1 ∧ (∀ q, q < 6 → zI h (a + 1) q = eI (M.2.2.1 q)) ∧
  ∀ i, i < M.2.2.2.length → zI h (a + 2) i = nI (arcAt M i).1 ∧ zI h (a + 3) i = nI (arcAt M i).2.1 ∧ zI h (a + 4) i = nI (arcAt M i).2.2.1 ∧ zI h (a + 5) i = nI (arcAt M i).2.2.2
theorem MC.keep {lo hi a : Nat} {h h' : zM} {M : zMa} (m : MC h a M) (f : zFr lo hi h h') (hd : a + 6 ≤ lo ∨ hi ≤ a) : MC h' a M := by
  obtain ⟨m1, m2, m3, m4, m5, m6⟩ := m
  have e : ∀ j, j < 6 → ¬ (lo ≤ a + j ∧ a + j < hi) := fun j hj => by omega
  have e0 := e 0 (by omega)
  rw [Nat.add_zero] at e0
  exact ⟨m1.keep f, by rw [f.I e0]; exact m2, by rw [f.I e0]; exact m3, by rw [f.I e0]; exact m4, fun q hq => by rw [f.I (e 1 (by omega))]; exact m5 q hq,
    fun i hi => by rw [f.I (e 2 (by omega)), f.I (e 3 (by omega)), f.I (e 4 (by omega)), f.I (e 5 (by omega))]; exact m6 i hi⟩
section MCR
variable {h : zM} {a : Nat} {M : zMa}
theorem MC.n (m : MC h a M) : zgI h a 2 0 = some (nI M.1) := (zgI_ok m.1.1).trans (congrArg some m.2.1)
theorem MC.arcs (m : MC h a M) : zgI h a 2 1 = some (nI M.2.2.2.length) := (zgI_ok m.1.1).trans (congrArg some m.2.2.1)
theorem MC.beg (m : MC h a M) : zgI h a 2 2 = some (nI M.2.1) := (zgI_ok m.1.1).trans (congrArg some m.2.2.2.1)
theorem MC.f3 (m : MC h a M) : zgF h a 2 3 = some (a + 1) := (zgF_ok m.1.1).trans (congrArg some (m.1.2 (3, 1, 101, 6) (by decide)).1)
theorem MC.f4 (m : MC h a M) : zgF h a 2 4 = some (a + 2) := (zgF_ok m.1.1).trans (congrArg some (m.1.2 (4, 2, 101, 30) (by decide)).1)
theorem MC.f5 (m : MC h a M) : zgF h a 2 5 = some (a + 3) := (zgF_ok m.1.1).trans (congrArg some (m.1.2 (5, 3, 101, 30) (by decide)).1)
theorem MC.f6 (m : MC h a M) : zgF h a 2 6 = some (a + 4) := (zgF_ok m.1.1).trans (congrArg some (m.1.2 (6, 4, 101, 30) (by decide)).1)
theorem MC.f7 (m : MC h a M) : zgF h a 2 7 = some (a + 5) := (zgF_ok m.1.1).trans (congrArg some (m.1.2 (7, 5, 101, 30) (by decide)).1)
theorem MC.k1 (m : MC h a M) : zK h (a + 1) = 101 ∧ zN h (a + 1) = 6 := (m.1.2 (3, 1, 101, 6) (by decide)).2
theorem MC.k2 (m : MC h a M) : zK h (a + 2) = 101 ∧ zN h (a + 2) = 30 := (m.1.2 (4, 2, 101, 30) (by decide)).2
theorem MC.k3 (m : MC h a M) : zK h (a + 3) = 101 ∧ zN h (a + 3) = 30 := (m.1.2 (5, 3, 101, 30) (by decide)).2
theorem MC.k4 (m : MC h a M) : zK h (a + 4) = 101 ∧ zN h (a + 4) = 30 := (m.1.2 (6, 4, 101, 30) (by decide)).2
theorem MC.k5 (m : MC h a M) : zK h (a + 5) = 101 ∧ zN h (a + 5) = 30 := (m.1.2 (7, 5, 101, 30) (by decide)).2
theorem MC.rend (m : MC h a M) {q : Nat} (hq : q < 6) : zia h (a + 1) (nI q) = some (eI (M.2.2.1 q)) := by
  rw [zia_ok m.k1.1 (by rw [m.k1.2]; omega) (by rw [m.k1.2]; omega), m.2.2.2.2.1 q hq]
theorem MC.rfrom (m : MC h a M) (k : MaOk M) {i : Nat} (hi : i < M.2.2.2.length) : zia h (a + 2) (nI i) = some (nI (arcAt M i).1) := by
  have := k.2.2.2.1
  rw [zia_ok m.k2.1 (by rw [m.k2.2]; omega) (by rw [m.k2.2]; omega), (m.2.2.2.2.2 i hi).1]
theorem MC.rlet (m : MC h a M) (k : MaOk M) {i : Nat} (hi : i < M.2.2.2.length) : zia h (a + 3) (nI i) = some (nI (arcAt M i).2.1) := by
  have := k.2.2.2.1
  rw [zia_ok m.k3.1 (by rw [m.k3.2]; omega) (by rw [m.k3.2]; omega), (m.2.2.2.2.2 i hi).2.1]
theorem MC.rto (m : MC h a M) (k : MaOk M) {i : Nat} (hi : i < M.2.2.2.length) : zia h (a + 4) (nI i) = some (nI (arcAt M i).2.2.1) := by
  have := k.2.2.2.1
  rw [zia_ok m.k4.1 (by rw [m.k4.2]; omega) (by rw [m.k4.2]; omega), (m.2.2.2.2.2 i hi).2.2.1]
theorem MC.rword (m : MC h a M) (k : MaOk M) {i : Nat} (hi : i < M.2.2.2.length) : zia h (a + 5) (nI i) = some (nI (arcAt M i).2.2.2) := by
  have := k.2.2.2.1
  rw [zia_ok m.k5.1 (by rw [m.k5.2]; omega) (by rw [m.k5.2]; omega), (m.2.2.2.2.2 i hi).2.2.2]
end MCR
-- sets of states as bits
theorem bit_holds : ∀ B, B < 64 → ∀ q, q < 6 → (((nI B >>> (nI q &&& 31)) &&& (1 : Int32)) = 0 ↔ B.testBit q = false) := by decide +kernel
theorem bit_or : ∀ B, B < 64 → ∀ q, q < 6 → nI B ||| ((1 : Int32) <<< (nI q &&& 31)) = nI (B ||| 2 ^ q) := by decide +kernel
theorem bit_or_lt : ∀ B, B < 64 → ∀ q, q < 6 → B ||| 2 ^ q < 64 := by decide +kernel
theorem bit_and : ∀ B, B < 64 → ∀ C, C < 64 → nI B &&& nI C = nI (B &&& C) := by decide +kernel
theorem s_holds {h : zM} {B q : Nat} (hB : B < 64) (hq : q < 6) : zf nX11_holds [.inl (nI B), .inl (nI q)] h = some (if B.testBit q then 1 else 0, 0, h) := by
  rw [e_X11_holds]
  have := bit_holds B hB q hq
  by_cases c : B.testBit q = false
  · rw [if_pos (this.mpr c), zb0, if_neg (by rw [c]; decide)]
  · rw [if_neg (fun z => c (this.mp z)), zb1, if_pos (by simpa using c)]
theorem s_hasEnd {h : zM} {a : Nat} {M : zMa} (m : MC h a M) (k : MaOk M) {q : Nat} (hq : q < 6) : zf nX2_hasEnd [.inr a, .inl (nI q)] h = some (if (M.2.2.1 q).isSome then 1 else 0, 0, h) := by
  rw [e_X2_hasEnd, m.f3, Option.bind_some, m.rend hq, Option.bind_some]
  cases hE : M.2.2.1 q with
  | none => rw [if_pos (show eI none = -1 from rfl), zb0]; rfl
  | some w =>
    have hw := (k.2.2.1 q w hE).2.lt
    rw [if_neg (fun z => by
      have z2 : nI w = -1 := z
      have := congrArg Int32.toInt z2
      rw [nI_toInt (by omega)] at this
      have e1 : (-1 : Int32).toInt = -1 := by decide
      omega), zb1]
    rfl
def endF (M : zMa) (s q : Nat) : Nat := if (M.2.2.1 q).isSome then s ||| 2 ^ q else s
def endB (M : zMa) : Nat := (List.range M.1).foldl (endF M) 0
theorem endF_lt {M : zMa} {s q : Nat} (hs : s < 64) (hq : q < 6) : endF M s q < 64 := by
  unfold endF
  split
  · exact bit_or_lt s hs q hq
  · exact hs
theorem s_ending_loop {h : zM} {a : Nat} {M : zMa} (m : MC h a M) (k : MaOk M) : ∀ (f q s : Nat), M.1 - q ≤ f → q ≤ M.1 → s < 64 → zm_X2_ending 4 [some (.inr a), some (.inl (nI s)), some (.inl (nI q))] [] h = some (nI ((List.range' q (M.1 - q)).foldl (endF M) s), 0, h) := by
  have h6 := k.1
  intro f
  induction f with
  | zero =>
    intro q s hf hq hs
    rw [e_X2_ending_4, m.n, Option.bind_some, if_neg (by rw [nI_ltI (by omega) (by omega)]; omega), show M.1 - q = 0 by omega]
    rfl
  | succ f ih =>
    intro q s hf hq hs
    rw [e_X2_ending_4, m.n, Option.bind_some]
    by_cases c : q < M.1
    · rw [if_pos ((nI_ltI (by omega) (by omega)).mpr c), zif_ok m.1.1, s_hasEnd m k (by omega), Option.bind_some]
      dsimp only
      have e1 : List.range' q (M.1 - q) = q :: List.range' (q + 1) (M.1 - (q + 1)) := by
        rw [show M.1 - q = (M.1 - (q + 1)) + 1 by omega, List.range'_succ]
      rw [e1, List.foldl_cons, nI_1]
      cases hE : (M.2.2.1 q).isSome
      · rw [if_pos (by decide)]
        have : endF M s q = s := by unfold endF; rw [hE]; rfl
        rw [this]
        exact ih (q + 1) s (by omega) (by omega) hs
      · rw [if_neg (by decide), bit_or s hs q (by omega)]
        have : endF M s q = s ||| 2 ^ q := by unfold endF; rw [hE]; rfl
        rw [this]
        exact ih (q + 1) _ (by omega) (by omega) (bit_or_lt s hs q (by omega))
    · rw [if_neg (by rw [nI_ltI (by omega) (by omega)]; exact c), show M.1 - q = 0 by omega]
      rfl
theorem s_ending {h : zM} {a : Nat} {M : zMa} (m : MC h a M) (k : MaOk M) : zf nX2_ending [.inr a] h = some (nI (endB M), 0, h) := by
  rw [e_X2_ending]
  have := s_ending_loop m k M.1 0 0 (by omega) (Nat.zero_le _) (by decide)
  rw [Nat.sub_zero, ← List.range_eq_range'] at this
  exact this
theorem fold_lt {α : Type} (f : Nat → α → Nat) (l : List α) (hf : ∀ s x, x ∈ l → s < 64 → f s x < 64) : ∀ s, s < 64 → l.foldl f s < 64 := by
  induction l with
  | nil => intro s hs; exact hs
  | cons x l ih => intro s hs; exact ih (fun s y hy => hf s y (List.mem_cons_of_mem _ hy)) _ (hf s x List.mem_cons_self hs)
theorem endB_lt {M : zMa} (k : MaOk M) : endB M < 64 := fold_lt _ _ (fun s q hq hs => endF_lt hs (by have := List.mem_range.mp hq; have := k.1; omega)) 0 (by decide)
theorem MaOk.beg64 {M : zMa} (k : MaOk M) : M.2.1 < 64 := Nat.lt_of_lt_of_le k.2.1 (Nat.pow_le_pow_right (by decide) k.1)
def uArc (s : Nat × Nat) (x : zArc) : Nat × Nat := (if s.1.testBit x.1 then s.1 ||| 2 ^ x.2.2.1 else s.1, if s.2.testBit x.2.2.1 then s.2 ||| 2 ^ x.1 else s.2)
def uAll (l : List zArc) : Nat → Nat × Nat → Nat × Nat
  | 0, s => s
  | n + 1, s => uAll l n (l.foldl uArc s)
/-- the useful states, as bits -/
def useB (M : zMa) : Nat := (uAll M.2.2.2 6 (M.2.1, endB M)).1 &&& (uAll M.2.2.2 6 (M.2.1, endB M)).2
theorem uArc_lt {M : zMa} {s : Nat × Nat} {i : Nat} (k : MaOk M) (hi : i < M.2.2.2.length) (h1 : s.1 < 64) (h2 : s.2 < 64) : (uArc s (arcAt M i)).1 < 64 ∧ (uArc s (arcAt M i)).2 < 64 := by
  have ka := k.at hi
  have k6 := k.1
  unfold uArc
  dsimp only
  refine ⟨?_, ?_⟩
  · split
    · exact bit_or_lt _ h1 _ (by omega)
    · exact h1
  · split
    · exact bit_or_lt _ h2 _ (by omega)
    · exact h2
theorem drop_arc {M : zMa} {i : Nat} (hi : i < M.2.2.2.length) : M.2.2.2.drop i = arcAt M i :: M.2.2.2.drop (i + 1) := by
  rw [List.drop_eq_getElem_cons hi]
  unfold arcAt
  rw [List.getD_eq_getElem?_getD, List.getElem?_eq_getElem hi]
  rfl
theorem s_use_inner {h : zM} {a : Nat} {M : zMa} (m : MC h a M) (k : MaOk M) (rd : Int32) : ∀ (f i : Nat) (s : Nat × Nat), M.2.2.2.length - i ≤ f → i ≤ M.2.2.2.length → s.1 < 64 → s.2 < 64 →
    zm_X2_usefulStates 21 [some (.inr a), some (.inl (nI s.1)), some (.inl (nI s.2)), some (.inl rd), some (.inl (nI i))] [] h = zm_X2_usefulStates 12 [some (.inr a), some (.inl (nI ((M.2.2.2.drop i).foldl uArc s).1)), some (.inl (nI ((M.2.2.2.drop i).foldl uArc s).2)), some (.inl (rd + 1)), none] [] h ∧ ((M.2.2.2.drop i).foldl uArc s).1 < 64 ∧ ((M.2.2.2.drop i).foldl uArc s).2 < 64 := by
  have h30 := k.2.2.2.1
  have k6 := k.1
  intro f
  induction f with
  | zero =>
    intro i s hf hi h1 h2
    rw [e_X2_usefulStates_21, m.arcs, Option.bind_some, if_neg (by rw [nI_ltI (by omega) (by omega)]; omega), List.drop_of_length_le (by omega)]
    exact ⟨rfl, h1, h2⟩
  | succ f ih =>
    intro i s hf hi h1 h2
    by_cases c : i < M.2.2.2.length
    · have ka := k.at c
      have hlt := uArc_lt k c h1 h2
      rw [e_X2_usefulStates_21, m.arcs, Option.bind_some, if_pos ((nI_ltI (by omega) (by omega)).mpr c), drop_arc c, List.foldl_cons]
      simp only [m.f4, m.f6, m.rfrom k c, m.rto k c, s_holds h1 (show (arcAt M i).1 < 6 by omega), s_holds h2 (show (arcAt M i).2.2.1 < 6 by omega), Option.bind_some, nI_1]
      have := ih (i + 1) (uArc s (arcAt M i)) (by omega) (by omega) hlt.1 hlt.2
      unfold uArc at this ⊢
      dsimp only at this ⊢
      by_cases b1 : s.1.testBit (arcAt M i).1 = true
      · rw [if_neg (by rw [if_pos b1]; decide)]
        by_cases b2 : s.2.testBit (arcAt M i).2.2.1 = true
        · rw [if_neg (by rw [if_pos b2]; decide)]
          simp only [if_pos b1, if_pos b2] at this ⊢
          rw [bit_or _ h1 _ (by omega), bit_or _ h2 _ (by omega)]
          exact this
        · rw [if_pos (by rw [if_neg b2])]
          simp only [if_pos b1, if_neg b2] at this ⊢
          rw [bit_or _ h1 _ (by omega)]
          exact this
      · rw [if_pos (by rw [if_neg b1])]
        by_cases b2 : s.2.testBit (arcAt M i).2.2.1 = true
        · rw [if_neg (by rw [if_pos b2]; decide)]
          simp only [if_neg b1, if_pos b2] at this ⊢
          rw [bit_or _ h2 _ (by omega)]
          exact this
        · rw [if_pos (by rw [if_neg b2])]
          simp only [if_neg b1, if_neg b2] at this ⊢
          exact this
    · rw [e_X2_usefulStates_21, m.arcs, Option.bind_some, if_neg (by rw [nI_ltI (by omega) (by omega)]; omega), List.drop_of_length_le (by omega)]
      exact ⟨rfl, h1, h2⟩
theorem s_use_outer {h : zM} {a : Nat} {M : zMa} (m : MC h a M) (k : MaOk M) : ∀ (t r : Nat) (s : Nat × Nat), t + r = 6 → s.1 < 64 → s.2 < 64 →
    zm_X2_usefulStates 12 [some (.inr a), some (.inl (nI s.1)), some (.inl (nI s.2)), some (.inl (nI r)), none] [] h = some (nI ((uAll M.2.2.2 t s).1 &&& (uAll M.2.2.2 t s).2), 0, h) ∧ (uAll M.2.2.2 t s).1 < 64 ∧ (uAll M.2.2.2 t s).2 < 64 := by
  intro t
  induction t with
  | zero =>
    intro r s hr h1 h2
    rw [e_X2_usefulStates_12, show r = 6 by omega, if_neg (by decide), bit_and _ h1 _ h2]
    exact ⟨rfl, h1, h2⟩
  | succ t ih =>
    intro r s hr h1 h2
    rw [e_X2_usefulStates_12, if_pos (by rw [show (6 : Int32) = nI 6 from rfl, nI_ltI (by omega) (by decide)]; omega)]
    obtain ⟨g1, g2, g3⟩ := s_use_inner m k (nI r) _ 0 s (Nat.le_refl _) (Nat.zero_le _) h1 h2
    rw [show (0 : Int32) = nI 0 from rfl, g1, nI_1]
    rw [List.drop_zero] at g2 g3 ⊢
    exact ih (r + 1) _ (by omega) g2 g3
theorem s_useful {h : zM} {a : Nat} {M : zMa} (m : MC h a M) (k : MaOk M) : zf nX2_usefulStates [.inr a] h = some (nI (useB M), 0, h) := by
  rw [e_X2_usefulStates, m.beg, Option.bind_some, zif_ok m.1.1, s_ending m k, Option.bind_some]
  exact (s_use_outer m k 6 0 (M.2.1, endB M) rfl k.beg64 (endB_lt k)).1
theorem useB_lt {M : zMa} (m : MaOk M) : useB M < 64 := by
  have key : ∀ (t : Nat) (s : Nat × Nat), s.1 < 64 → s.2 < 64 → (uAll M.2.2.2 t s).1 < 64 := by
    intro t
    induction t with
    | zero => intro s h1 h2; exact h1
    | succ t ih =>
      intro s h1 h2
      have key2 : ∀ (n i : Nat) (s : Nat × Nat), M.2.2.2.length - i ≤ n → s.1 < 64 → s.2 < 64 → ((M.2.2.2.drop i).foldl uArc s).1 < 64 ∧ ((M.2.2.2.drop i).foldl uArc s).2 < 64 := by
        intro n
        induction n with
        | zero => intro i s hn a b; rw [List.drop_of_length_le (by omega)]; exact ⟨a, b⟩
        | succ n ih2 =>
          intro i s hn a b
          by_cases c : i < M.2.2.2.length
          · rw [drop_arc c, List.foldl_cons]
            have := uArc_lt m c a b
            exact ih2 (i + 1) _ (by omega) this.1 this.2
          · rw [List.drop_of_length_le (by omega)]; exact ⟨a, b⟩
      have := key2 _ 0 s (Nat.le_refl _) h1 h2
      rw [List.drop_zero] at this
      exact ih _ this.1 this.2
  exact Nat.lt_of_le_of_lt Nat.and_le_left (key 6 _ m.beg64 (endB_lt m))
