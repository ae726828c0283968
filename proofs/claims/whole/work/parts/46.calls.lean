/-! The class: the calls on machines. -/
/-- how many states of a set -/
def pcB (B : Nat) : Nat := ((List.range 6).filter fun q => B.testBit q).length
theorem s_bitCount : ∃ f : Int32 → Int32, (∀ (x : Int32) (h : zM), zf nJ6_bitCount_0f7a4 [.inl x] h = some (f x, 0, h)) ∧ ∀ B, B < 64 → f (nI B) = nI (pcB B) :=
  ⟨_, fun x h => e_J6_bitCount_0f7a4 x h, by decide +kernel⟩
/-- the two machines stand behind the object x -/
def XMs (h : zM) (x : Nat) (Ms : Nat → zMa) : Prop := (zK h x = 12 ∧ zF h x 0 = x + 1 ∧ zK h (x + 1) = 105 ∧ zN h (x + 1) = 2 ∧ ∀ t, t < 2 → zF h (x + 1) t = x + 2 + 6 * t) ∧ ∀ t, t < 2 → MC h (x + 2 + 6 * t) (Ms t) ∧ MaOk (Ms t)
theorem XMs.keep {lo hi x : Nat} {h h' : zM} {Ms : Nat → zMa} (m : XMs h x Ms) (f : zFr lo hi h h') (hd : x + 14 ≤ lo ∨ hi ≤ x) : XMs h' x Ms := by
  obtain ⟨⟨a1, a2, a3, a4, a5⟩, b⟩ := m
  exact ⟨⟨by rw [f.K]; exact a1, by rw [f.F]; exact a2, by rw [f.K]; exact a3, by rw [f.N]; exact a4, fun t ht => by rw [f.F]; exact a5 t ht⟩, fun t ht => ⟨(b t ht).1.keep f (by omega), (b t ht).2⟩⟩
theorem XMs.put {x t : Nat} {h h' : zM} {Ms : Nat → zMa} {M : zMa} (m : XMs h x Ms) (f : zFr (x + 2 + 6 * t) (x + 2 + 6 * t + 6) h h') (hM : MC h' (x + 2 + 6 * t) M) (k : MaOk M) : XMs h' x (va_up Ms t M) := by
  obtain ⟨⟨a1, a2, a3, a4, a5⟩, b⟩ := m
  refine ⟨⟨by rw [f.K]; exact a1, by rw [f.F]; exact a2, by rw [f.K]; exact a3, by rw [f.N]; exact a4, fun t ht => by rw [f.F]; exact a5 t ht⟩, fun s hs => ?_⟩
  by_cases c : s = t
  · subst c
    rw [va_up_self]
    exact ⟨hM, k⟩
  · rw [va_up_ne _ _ c]
    exact ⟨(b s hs).1.keep f (by omega), (b s hs).2⟩
theorem zaa_ok {h : zM} {a i : Nat} (hk : 104 ≤ zK h a ∧ zK h a < 108) (hi : i < zN h a) (hn : zN h a < 2 ^ 31) : zaa h a (nI i) = some (zF h a i) := by
  have := nI_clamp (n := i) (by omega)
  unfold zaa
  rw [if_pos ⟨hk, zix hi hn⟩, this]
section XMR
variable {h : zM} {x : Nat} {Ms : Nat → zMa}
theorem XMs.f0 (m : XMs h x Ms) : zgF h x 11 0 = some (x + 1) := (zgF_ok m.1.1).trans (congrArg some m.1.2.1)
theorem XMs.el (m : XMs h x Ms) {t : Nat} (ht : t < 2) : zaa h (x + 1) (nI t) = some (x + 2 + 6 * t) := by
  rw [zaa_ok (by rw [m.1.2.2.1]; omega) (by rw [m.1.2.2.2.1]; omega) (by rw [m.1.2.2.2.1]; omega), m.1.2.2.2.2 t ht]
end XMR
def isT (t : Int32) : Bool := decide (¬ t < 0 ∧ t < 2)
theorem isT_of {t : Int32} (h : isT t = true) : ∃ j, j < 2 ∧ t = nI j := by
  obtain ⟨h1, h2⟩ := of_decide_eq_true h
  obtain ⟨j, hj, rfl⟩ := nI_of h1
  exact ⟨j, (nI_ltI hj (by decide)).mp h2, rfl⟩
theorem s_isMachine (x : Nat) (t : Int32) (h : zM) : zf nX11_isMachine [.inr x, .inl t] h = some (if isT t then 1 else 0, 0, h) := by
  rw [e_X11_isMachine]
  unfold isT
  by_cases c1 : t < 0
  · rw [if_pos c1, zb0]; simp [c1]
  · rw [if_neg c1]
    by_cases c2 : t < 2
    · rw [if_pos c2, zb1]; simp [c1, c2]
    · rw [if_neg c2, zb0]; simp [c2]
def isQ (Ms : Nat → zMa) (t q : Int32) : Bool := isT t && decide (¬ q < 0 ∧ q < nI (Ms t.toNatClampNeg).1)
theorem isQ_of {Ms : Nat → zMa} {t q : Int32} (hk : ∀ t, t < 2 → MaOk (Ms t)) (h : isQ Ms t q = true) : ∃ j k, j < 2 ∧ k < (Ms j).1 ∧ t = nI j ∧ q = nI k := by
  unfold isQ at h
  rw [Bool.and_eq_true] at h
  obtain ⟨j, hj, rfl⟩ := isT_of h.1
  obtain ⟨h1, h2⟩ := of_decide_eq_true h.2
  obtain ⟨k, hk2, rfl⟩ := nI_of h1
  rw [nI_clamp (by omega)] at h2
  have := (hk j hj).1
  exact ⟨j, k, hj, (nI_ltI hk2 (by omega)).mp h2, rfl, rfl⟩
theorem s_isState {h : zM} {x : Nat} {Ms : Nat → zMa} (m : XMs h x Ms) (t q : Int32) : zf nX11_isState [.inr x, .inl t, .inl q] h = some (if isQ Ms t q then 1 else 0, 0, h) := by
  rw [e_X11_isState, zif_ok m.1.1, s_isMachine, Option.bind_some]
  unfold isQ
  by_cases ct : isT t = true
  · obtain ⟨j, hj, rfl⟩ := isT_of ct
    simp only [ct, if_true, Bool.true_and]
    rw [if_neg (by decide)]
    by_cases c1 : q < 0
    · rw [if_pos c1, zb0]; simp [c1]
    · rw [if_neg c1, m.f0, Option.bind_some, m.el hj, Option.bind_some, (m.2 j hj).1.n, Option.bind_some, nI_clamp (by omega)]
      by_cases c2 : q < nI (Ms j).1
      · rw [if_pos c2, zb1]; simp [c1, c2]
      · rw [if_neg c2, zb0]; simp [c2]
  · have cf : isT t = false := by simpa using ct
    simp only [cf, Bool.false_and]
    rw [if_pos (by decide), zb0]
    rfl
/-- whether a number is a word of so many letters at most, each 1 to most -/
def isW (most longest : Nat) (x : Int32) : Bool := if x < 0 then false else match lf 11 most x.toNatClampNeg with
  | none => false
  | some k => decide (k ≤ longest)
theorem s_isWord_loop {h : zM} {most longest : Nat} {w : Int32} (hm : most < 2 ^ 30) (hl : longest < 2 ^ 30) : ∀ (f r c : Nat), r < 10 ^ f → r < 2 ^ 31 → c + f < 2 ^ 30 → zm_X11_isWord 11 [some (.inl w), some (.inl (nI most)), some (.inl (nI longest)), some (.inl (nI c)), some (.inl (nI r)), none] [] h = some (match lf f most r with
      | none => 0
      | some k => if longest < c + k then 0 else 1, 0, h) := by
  intro f
  induction f with
  | zero =>
    intro r c h1 h2 h3
    have hr : r = 0 := by simpa using h1
    subst hr
    rw [e_X11_isWord_11, if_neg (by decide)]
    unfold lf
    dsimp only
    rw [Nat.add_zero]
    by_cases q : longest < c
    · rw [if_pos ((nI_ltI (by omega) (by omega)).mpr q), if_pos q, zb0]
    · rw [if_neg (by rw [nI_ltI (by omega) (by omega)]; exact q), if_neg q, zb1]
  | succ f ih =>
    intro r c h1 h2 h3
    rw [e_X11_isWord_11]
    unfold lf
    by_cases c0 : r = 0
    · subst c0
      rw [if_neg (by decide), if_pos rfl]
      dsimp only
      rw [Nat.add_zero]
      by_cases q : longest < c
      · rw [if_pos ((nI_ltI (by omega) (by omega)).mpr q), if_pos q, zb0]
      · rw [if_neg (by rw [nI_ltI (by omega) (by omega)]; exact q), if_neg q, zb1]
    · rw [if_pos (by rw [show (0 : Int32) = nI 0 from rfl, nI_ltI (by decide) h2]; omega), if_neg z10, if_neg c0]
      rw [nI_lit10, pk_rem h2 (by decide) (by decide), pk_div h2 (by decide) (by decide), nI_1]
      by_cases q1 : r % 10 < 1
      · rw [if_pos (by rw [show (1 : Int32) = nI 1 from rfl, nI_ltI (by omega) (by decide)]; exact q1), if_pos (Or.inl q1), zb0]
      · rw [if_neg (by rw [show (1 : Int32) = nI 1 from rfl, nI_ltI (by omega) (by decide)]; exact q1)]
        by_cases q2 : most < r % 10
        · rw [if_pos (by rw [nI_ltI (by omega) (by omega)]; exact q2), if_pos (Or.inr q2), zb0]
        · rw [if_neg (by rw [nI_ltI (by omega) (by omega)]; exact q2), if_neg (show ¬ nI 10 = 0 from z10), if_neg (show ¬ (r % 10 < 1 ∨ most < r % 10) by omega)]
          rw [ih (r / 10) (c + 1) (by rw [Nat.pow_succ] at h1; omega) (by omega) (by omega)]
          cases lf f most (r / 10) with
          | none => rfl
          | some k =>
            dsimp only [Option.map]
            rw [show c + 1 + k = c + (k + 1) by omega]
theorem s_isWord (most longest : Nat) (hm : most < 2 ^ 30) (hl : longest < 2 ^ 30) (w : Int32) (h : zM) : zf nX11_isWord [.inl w, .inl (nI most), .inl (nI longest)] h = some (if isW most longest w then 1 else 0, 0, h) := by
  rw [e_X11_isWord]
  unfold isW
  by_cases c : w < 0
  · rw [if_pos c, zb0, if_pos c]; rfl
  · rw [if_neg c, if_neg c]
    obtain ⟨r, hr, rfl⟩ := nI_of c
    rw [nI_clamp hr]
    have := s_isWord_loop (h := h) (w := nI r) hm hl 11 r 0 (by omega) hr (by omega)
    rw [show (0 : Int32) = nI 0 from rfl, this]
    cases lf 11 most r with
    | none => rfl
    | some k =>
      dsimp only
      rw [Nat.zero_add]
      by_cases q : longest < k
      · rw [if_pos q, if_neg (by simpa using q)]; rfl
      · rw [if_neg q, if_pos (by simpa using q)]
theorem isW_of {w : Int32} (h : isW 9 3 w = true) : ∃ j, wOk j ∧ w = nI j := by
  unfold isW at h
  split at h
  · cases h
  · rename_i c
    obtain ⟨r, hr, rfl⟩ := nI_of c
    rw [nI_clamp hr] at h
    split at h
    · cases h
    · rename_i k hk
      exact ⟨r, ⟨k, of_decide_eq_true h, hk, by omega⟩, rfl⟩
theorem s_isInputLetter (x : Int32) (h : zM) : zf nX11_isInputLetter [.inl x] h = some (if decide (¬ x < 1 ∧ ¬ 3 < x) then 1 else 0, 0, h) := by
  rw [e_X11_isInputLetter]
  by_cases c1 : x < 1
  · rw [if_pos c1, zb0]; simp [c1]
  · rw [if_neg c1]
    by_cases c2 : 3 < x
    · rw [if_pos c2, zb0]; simp [c2]
    · rw [if_neg c2, zb1]; simp [c1, c2]
-- the calls: an answer, and the machines behind it
def aMachine (Ms : Nat → zMa) (t n : Int32) : Int32 × (Nat → zMa) := if isT t ∧ ¬ n < 0 ∧ ¬ 6 < n then (1, va_up Ms t.toNatClampNeg (newM n.toNatClampNeg)) else (0, Ms)
theorem s_machine {h : zM} {x : Nat} {Ms : Nat → zMa} (m : XMs h x Ms) (t n : Int32) : ∃ h', zf nX11_machine [.inr x, .inl t, .inl n] h = some ((aMachine Ms t n).1, 0, h') ∧ zFr (x + 2) (x + 14) h h' ∧ XMs h' x (aMachine Ms t n).2 := by
  rw [e_X11_machine, zif_ok m.1.1, s_isMachine, Option.bind_some]
  unfold aMachine
  by_cases ct : isT t = true
  · obtain ⟨j, hj, rfl⟩ := isT_of ct
    simp only [ct, if_true, true_and]
    rw [if_neg (by decide)]
    by_cases c1 : n < 0
    · rw [if_pos c1, zb0, if_neg (fun z => z.1 c1)]
      exact ⟨h, rfl, zFr.rf, m⟩
    · rw [if_neg c1]
      by_cases c2 : 6 < n
      · rw [if_pos c2, zb0, if_neg (fun z => z.2 c2)]
        exact ⟨h, rfl, zFr.rf, m⟩
      · rw [if_neg c2, if_pos (show ¬ n < 0 ∧ ¬ 6 < n from ⟨c1, c2⟩), m.f0, Option.bind_some, m.el hj, Option.bind_some, zif_ok (m.2 j hj).1.1.1]
        obtain ⟨k, hk, rfl⟩ := nI_of c1
        have hk6 : k ≤ 6 := by
          rw [show (6 : Int32) = nI 6 from rfl, nI_ltI (by decide) hk] at c2
          omega
        obtain ⟨h', g1, g2, g3⟩ := s_renew (m.2 j hj).1.1 k
        rw [g1, Option.bind_some, zb1, nI_clamp (by omega), nI_clamp (by omega)]
        exact ⟨h', rfl, g2.wide (by omega) (by omega), m.put g2 g3 (newM_ok hk6)⟩
  · have cf : isT t = false := by simpa using ct
    simp only [cf]
    rw [if_pos (by decide), zb0, if_neg (fun z => by cases z.1)]
    exact ⟨h, rfl, zFr.rf, m⟩
def aBegins (Ms : Nat → zMa) (t q is : Int32) : Int32 × (Nat → zMa) := if isQ Ms t q then (1, va_up Ms t.toNatClampNeg (begM (Ms t.toNatClampNeg) q.toNatClampNeg (decide (is ≠ 0)))) else (0, Ms)
theorem s_begins {h : zM} {x : Nat} {Ms : Nat → zMa} (m : XMs h x Ms) (t q is : Int32) : ∃ h', zf nX11_begins [.inr x, .inl t, .inl q, .inl is] h = some ((aBegins Ms t q is).1, 0, h') ∧ zFr (x + 2) (x + 14) h h' ∧ XMs h' x (aBegins Ms t q is).2 := by
  rw [e_X11_begins, zif_ok m.1.1, s_isState m, Option.bind_some]
  unfold aBegins
  by_cases ct : isQ Ms t q = true
  · obtain ⟨j, k, hj, hk, rfl, rfl⟩ := isQ_of (fun t ht => (m.2 t ht).2) ct
    have h6 := (m.2 j hj).2.1
    simp only [ct, if_true]
    rw [if_neg (by decide), m.f0, Option.bind_some, m.el hj, Option.bind_some, zif_ok (m.2 j hj).1.1.1]
    obtain ⟨h', g1, g2, g3⟩ := s_setBeginning (m.2 j hj).1 (m.2 j hj).2 hk is
    rw [g1, Option.bind_some, zb1, nI_clamp (by omega), nI_clamp (by omega)]
    exact ⟨h', rfl, g2.wide (by omega) (by omega), m.put g2 g3 (begM_ok (m.2 j hj).2 hk _)⟩
  · have cf : isQ Ms t q = false := by simpa using ct
    simp only [cf]
    rw [if_pos (by decide), zb0]
    exact ⟨h, rfl, zFr.rf, m⟩
/-- an end as it is told -/
def endO (w : Int32) : Option Nat := if w = -1 then none else some w.toNatClampNeg
def aEnds (Ms : Nat → zMa) (t q w : Int32) : Int32 × (Nat → zMa) := if isQ Ms t q ∧ (w = -1 ∨ isW 9 3 w = true) then (1, va_up Ms t.toNatClampNeg (setE (Ms t.toNatClampNeg) q.toNatClampNeg (endO w))) else (0, Ms)
theorem s_ends {h : zM} {x : Nat} {Ms : Nat → zMa} (m : XMs h x Ms) (t q w : Int32) : ∃ h', zf nX11_ends [.inr x, .inl t, .inl q, .inl w] h = some ((aEnds Ms t q w).1, 0, h') ∧ zFr (x + 2) (x + 14) h h' ∧ XMs h' x (aEnds Ms t q w).2 := by
  rw [e_X11_ends, zif_ok m.1.1, s_isState m, Option.bind_some]
  unfold aEnds
  by_cases ct : isQ Ms t q = true
  · obtain ⟨j, k, hj, hk, rfl, rfl⟩ := isQ_of (fun t ht => (m.2 t ht).2) ct
    have h6 := (m.2 j hj).2.1
    have mc := (m.2 j hj).1
    simp only [ct, if_true, true_and]
    rw [if_neg (by decide)]
    have fin : ∀ o : Option Nat, eI o = w → (∀ v, o = some v → wOk v) → o = endO w → ∃ h', ((zgF h x 11 0).bind fun r1 => (zaa h r1 (nI j)).bind fun r2 => (zgF h r2 2 3).bind fun r3 => (zis h r3 (nI k) w).bind fun h1 => zb 1 h1) = some (1, 0, h') ∧ zFr (x + 2) (x + 14) h h' ∧ XMs h' x (va_up Ms j (setE (Ms j) k (endO w))) := by
      intro o ho hv hoe
      rw [m.f0, Option.bind_some, m.el hj, Option.bind_some, mc.f3, Option.bind_some, zis_ok mc.k1.1 (by rw [mc.k1.2]; omega) (by rw [mc.k1.2]; omega), Option.bind_some, zb1]
      have g : zFr (x + 2 + 6 * j) (x + 2 + 6 * j + 6) h (zsI h (x + 2 + 6 * j + 1) k w) := zFr_sI (by omega) (by omega)
      refine ⟨_, rfl, g.wide (by omega) (by omega), m.put g ?_ (setE_ok (m.2 j hj).2 hk (by rw [← hoe]; exact hv))⟩
      rw [← hoe, ← ho]
      exact mc.setE k o
    by_cases cw : w = -1
    · rw [if_pos cw, if_pos (Or.inl cw), nI_clamp (by omega), nI_clamp (by omega)]
      exact fin none (by rw [cw]; rfl) (fun v hv => by cases hv) (by unfold endO; rw [if_pos cw])
    · rw [if_neg cw, show (9 : Int32) = nI 9 from rfl, show (3 : Int32) = nI 3 from rfl, s_isWord 9 3 (by decide) (by decide), Option.bind_some]
      by_cases cv : isW 9 3 w = true
      · obtain ⟨v, hv, rfl⟩ := isW_of cv
        have hv9 := hv.lt
        simp only [cv, if_true]
        rw [if_neg (by decide), if_pos (Or.inr trivial), nI_clamp (by omega), nI_clamp (by omega)]
        exact fin (some v) rfl (fun u hu => by cases hu; exact hv) (by unfold endO; rw [if_neg cw, nI_clamp (by omega)])
      · have cf : isW 9 3 w = false := by simpa using cv
        simp only [cf]
        rw [if_pos (by decide), zb0, if_neg (fun z => by rcases z with z | z; exact cw z; cases z)]
        exact ⟨h, rfl, zFr.rf, m⟩
  · have cf : isQ Ms t q = false := by simpa using ct
    simp only [cf]
    rw [if_pos (by decide), zb0, if_neg (fun z => by cases z.1)]
    exact ⟨h, rfl, zFr.rf, m⟩
def aArc (Ms : Nat → zMa) (t p l q w : Int32) : Int32 × (Nat → zMa) := if isQ Ms t p = true ∧ isQ Ms t q = true ∧ (¬ l < 1 ∧ ¬ 3 < l) ∧ isW 9 3 w = true then
    ((addA (Ms t.toNatClampNeg) (p.toNatClampNeg, l.toNatClampNeg, q.toNatClampNeg, w.toNatClampNeg)).1, va_up Ms t.toNatClampNeg (addA (Ms t.toNatClampNeg) (p.toNatClampNeg, l.toNatClampNeg, q.toNatClampNeg, w.toNatClampNeg)).2) else (-1, Ms)
theorem s_arc {h : zM} {x : Nat} {Ms : Nat → zMa} (m : XMs h x Ms) (t p l q w : Int32) : ∃ h', zf nX11_arc [.inr x, .inl t, .inl p, .inl l, .inl q, .inl w] h = some ((aArc Ms t p l q w).1, 0, h') ∧ zFr (x + 2) (x + 14) h h' ∧ XMs h' x (aArc Ms t p l q w).2 := by
  rw [e_X11_arc, zif_ok m.1.1, s_isState m, Option.bind_some]
  unfold aArc
  by_cases c1 : isQ Ms t p = true
  · simp only [c1, if_true, true_and]
    rw [if_neg (by decide), zif_ok m.1.1, s_isState m, Option.bind_some]
    by_cases c2 : isQ Ms t q = true
    · simp only [c2, if_true, true_and]
      rw [if_neg (by decide), s_isInputLetter, Option.bind_some]
      by_cases c3 : ¬ l < 1 ∧ ¬ 3 < l
      · simp only [decide_eq_true c3, if_true]
        rw [if_neg (by decide), show (9 : Int32) = nI 9 from rfl, show (3 : Int32) = nI 3 from rfl, s_isWord 9 3 (by decide) (by decide), Option.bind_some]
        by_cases c4 : isW 9 3 w = true
        · simp only [c4, if_true, and_true]
          rw [if_neg (by decide), if_pos (show ¬ l < 1 ∧ ¬ nI 3 < l from c3)]
          obtain ⟨j, k, hj, hk, rfl, rfl⟩ := isQ_of (fun t ht => (m.2 t ht).2) c1
          obtain ⟨j2, k2, hj2, hk2, ej, rfl⟩ := isQ_of (fun t ht => (m.2 t ht).2) c2
          have : j2 = j := ((nI_eq (by omega) (by omega)).mp ej).symm
          subst this
          obtain ⟨v, hv, rfl⟩ := isW_of c4
          have hv9 := hv.lt
          have h6 := (m.2 j2 hj).2.1
          have hl0 : ¬ l < 0 := by
            intro z
            apply c3.1
            rw [Int32.lt_iff_toInt_lt] at z ⊢
            have e1 : (1 : Int32).toInt = 1 := by decide
            have e0 : (0 : Int32).toInt = 0 := by decide
            omega
          obtain ⟨b, hb, rfl⟩ := nI_of hl0
          have hb1 : 1 ≤ b ∧ b ≤ 3 := by
            have q1 := c3.1
            have q2 := c3.2
            rw [show (1 : Int32) = nI 1 from rfl, nI_ltI hb (by decide)] at q1
            rw [show (3 : Int32) = nI 3 from rfl, nI_ltI (by decide) hb] at q2
            omega
          rw [m.f0, Option.bind_some, m.el hj, Option.bind_some, zif_ok (m.2 j2 hj).1.1.1]
          obtain ⟨h', g1, g2, g3⟩ := s_addArc (m.2 j2 hj).1 (m.2 j2 hj).2 (x := (k, b, k2, v)) ⟨hk, hb1, hk2, hv9⟩
          rw [show ∀ z : zM, zf nX2_addArc [.inr (x + 2 + 6 * j2), .inl (nI k), .inl (nI b), .inl (nI k2), .inl (nI v)] z = zf nX2_addArc [.inr (x + 2 + 6 * j2), .inl (nI (k, b, k2, v).1), .inl (nI (k, b, k2, v).2.1), .inl (nI (k, b, k2, v).2.2.1), .inl (nI (k, b, k2, v).2.2.2)] z from fun _ => rfl, g1, Option.bind_some, nI_clamp (by omega), nI_clamp (by omega), nI_clamp (by omega), nI_clamp (by omega), nI_clamp (by omega)]
          exact ⟨h', rfl, g2.wide (by omega) (by omega), m.put g2 g3 (addA_ok (m.2 j2 hj).2 ⟨hk, hb1, hk2, hv⟩)⟩
        · have cf : isW 9 3 w = false := by simpa using c4
          simp only [cf]
          rw [if_pos (by decide), if_neg (fun z => by cases z.2)]
          exact ⟨h, rfl, zFr.rf, m⟩
      · simp only [decide_eq_false c3]
        rw [if_pos (by decide), if_neg (fun z => c3 z.1)]
        exact ⟨h, rfl, zFr.rf, m⟩
    · have cf : isQ Ms t q = false := by simpa using c2
      simp only [cf]
      rw [if_pos (by decide), if_neg (fun z => by cases z.1)]
      exact ⟨h, rfl, zFr.rf, m⟩
  · have cf : isQ Ms t p = false := by simpa using c1
    simp only [cf]
    rw [if_pos (by decide), if_neg (fun z => by cases z.1)]
    exact ⟨h, rfl, zFr.rf, m⟩
def aSize (Ms : Nat → zMa) (t w : Int32) : Int32 := if isT t then (if w = 0 then nI (Ms t.toNatClampNeg).1 else if w = 1 then nI (Ms t.toNatClampNeg).2.2.2.length else if w = 2 then nI (pcB (useB (Ms t.toNatClampNeg))) else -1) else -1
theorem s_size {h : zM} {x : Nat} {Ms : Nat → zMa} (m : XMs h x Ms) (t w : Int32) : zf nX11_size [.inr x, .inl t, .inl w] h = some (aSize Ms t w, 0, h) := by
  obtain ⟨f, f1, f2⟩ := s_bitCount
  rw [e_X11_size, zif_ok m.1.1, s_isMachine, Option.bind_some]
  unfold aSize
  by_cases ct : isT t = true
  · obtain ⟨j, hj, rfl⟩ := isT_of ct
    have mc := (m.2 j hj).1
    simp only [ct, if_true]
    rw [if_neg (by decide), nI_clamp (by omega), m.f0]
    simp only [Option.bind_some]
    rw [m.el hj]
    simp only [Option.bind_some]
    rw [mc.n, mc.arcs, zif_ok mc.1.1, s_useful mc (m.2 j hj).2]
    simp only [Option.bind_some]
    rw [f1, f2 _ (useB_lt (m.2 j hj).2)]
    simp only [Option.bind_some]
    split
    · rfl
    · split
      · rfl
      · split <;> rfl
  · have cf : isT t = false := by simpa using ct
    simp only [cf]
    rw [if_pos (by decide)]
    rfl
def aUseful (Ms : Nat → zMa) (t q : Int32) : Int32 := if isQ Ms t q then (if (useB (Ms t.toNatClampNeg)).testBit q.toNatClampNeg then 1 else 0) else -1
theorem bit_get : ∀ B, B < 64 → ∀ q, q < 6 → ((nI B >>> (nI q &&& 31)) &&& (1 : Int32)) = if B.testBit q then 1 else 0 := by decide +kernel
theorem s_usefulQ {h : zM} {x : Nat} {Ms : Nat → zMa} (m : XMs h x Ms) (t q : Int32) : zf nX11_useful [.inr x, .inl t, .inl q] h = some (aUseful Ms t q, 0, h) := by
  rw [e_X11_useful, zif_ok m.1.1, s_isState m, Option.bind_some]
  unfold aUseful
  by_cases ct : isQ Ms t q = true
  · obtain ⟨j, k, hj, hk, rfl, rfl⟩ := isQ_of (fun t ht => (m.2 t ht).2) ct
    have h6 := (m.2 j hj).2.1
    have mc := (m.2 j hj).1
    simp only [ct, if_true]
    rw [if_neg (by decide), m.f0, Option.bind_some, m.el hj, Option.bind_some, zif_ok mc.1.1, s_useful mc (m.2 j hj).2, Option.bind_some]
    dsimp only
    rw [bit_get _ (useB_lt (m.2 j hj).2) _ (by omega), nI_clamp (by omega), nI_clamp (by omega)]
  · have cf : isQ Ms t q = false := by simpa using ct
    simp only [cf]
    rw [if_pos (by decide)]
    rfl
