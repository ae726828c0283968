/-! Frames and loops. -/
/-- nothing outside lo .. hi - 1 has changed, no cell is new -/
def zGr (lo hi : Nat) (h h' : zM) : Prop := h'.1 = h.1 ∧ h'.2.1 = h.2.1 ∧ ∀ a, ¬ (lo ≤ a ∧ a < hi) → h'.2.2.1 a = h.2.2.1 a ∧ h'.2.2.2 a = h.2.2.2 a
theorem zGr.rf {lo hi : Nat} {h : zM} : zGr lo hi h h := ⟨rfl, rfl, fun _ _ => ⟨rfl, rfl⟩⟩
theorem zGr.tr {lo hi : Nat} {h h1 h2 : zM} (a : zGr lo hi h h1) (b : zGr lo hi h1 h2) : zGr lo hi h h2 :=
  ⟨b.1.trans a.1, b.2.1.trans a.2.1, fun q hq => ⟨(b.2.2 q hq).1.trans (a.2.2 q hq).1, (b.2.2 q hq).2.trans (a.2.2 q hq).2⟩⟩
theorem zGr.wide {lo hi lo' hi' : Nat} {h h' : zM} (a : zGr lo hi h h') (h1 : lo' ≤ lo) (h2 : hi ≤ hi') : zGr lo' hi' h h' :=
  ⟨a.1, a.2.1, fun q hq => a.2.2 q (fun z => hq ⟨by omega, by omega⟩)⟩
theorem zFr.gr {lo hi : Nat} {h h' : zM} (a : zFr lo hi h h') : zGr lo hi h h' := ⟨a.1, a.2.1, fun q hq => ⟨(a.2.2 q).1 hq, (a.2.2 q).2⟩⟩
theorem zGr.K {lo hi : Nat} {h h' : zM} (a : zGr lo hi h h') (q : Nat) : zK h' q = zK h q := by unfold zK; rw [a.2.1]
theorem zGr.N {lo hi : Nat} {h h' : zM} (a : zGr lo hi h h') (q : Nat) : zN h' q = zN h q := by unfold zN; rw [a.2.1]
theorem zGr.I {lo hi : Nat} {h h' : zM} (a : zGr lo hi h h') {q : Nat} (hq : ¬ (lo ≤ q ∧ q < hi)) (k : Nat) : zI h' q k = zI h q k := by unfold zI; rw [(a.2.2 q hq).1]
theorem zGr.F {lo hi : Nat} {h h' : zM} (a : zGr lo hi h h') {q : Nat} (hq : ¬ (lo ≤ q ∧ q < hi)) (k : Nat) : zF h' q k = zF h q k := by unfold zF; rw [(a.2.2 q hq).2]
theorem zGr_sF {lo hi a k x : Nat} {h : zM} (h1 : lo ≤ a) (h2 : a < hi) : zGr lo hi h (zsF h a k x) :=
  ⟨rfl, rfl, fun _ hq => ⟨rfl, va_up_ne _ _ (fun e => hq (by subst e; exact ⟨h1, h2⟩))⟩⟩
theorem zGr_sI {lo hi a k : Nat} {x : Int32} {h : zM} (h1 : lo ≤ a) (h2 : a < hi) : zGr lo hi h (zsI h a k x) := (zFr_sI h1 h2).gr
/-- the cells lo .. hi - 1 are as they were -/
def zEq (lo hi : Nat) (h h' : zM) : Prop := h'.2.1 = h.2.1 ∧ ∀ a, lo ≤ a → a < hi → h'.2.2.1 a = h.2.2.1 a ∧ h'.2.2.2 a = h.2.2.2 a
theorem zEq.rf {lo hi : Nat} {h : zM} : zEq lo hi h h := ⟨rfl, fun _ _ _ => ⟨rfl, rfl⟩⟩
theorem zEq.tr {lo hi : Nat} {h h1 h2 : zM} (a : zEq lo hi h h1) (b : zEq lo hi h1 h2) : zEq lo hi h h2 :=
  ⟨b.1.trans a.1, fun q x y => ⟨(b.2 q x y).1.trans (a.2 q x y).1, (b.2 q x y).2.trans (a.2 q x y).2⟩⟩
theorem zEq.sub {lo hi lo' hi' : Nat} {h h' : zM} (a : zEq lo hi h h') (h1 : lo ≤ lo') (h2 : hi' ≤ hi) : zEq lo' hi' h h' := ⟨a.1, fun q x y => a.2 q (by omega) (by omega)⟩
theorem zGr.eq {lo hi a b : Nat} {h h' : zM} (f : zGr lo hi h h') (hd : b ≤ lo ∨ hi ≤ a) : zEq a b h h' := ⟨f.2.1, fun q _ _ => f.2.2 q (by omega)⟩
theorem zFr.eq {lo hi a b : Nat} {h h' : zM} (f : zFr lo hi h h') (hd : b ≤ lo ∨ hi ≤ a) : zEq a b h h' := f.gr.eq hd
theorem zEq.K {lo hi : Nat} {h h' : zM} (a : zEq lo hi h h') (q : Nat) : zK h' q = zK h q := by unfold zK; rw [a.1]
theorem zEq.N {lo hi : Nat} {h h' : zM} (a : zEq lo hi h h') (q : Nat) : zN h' q = zN h q := by unfold zN; rw [a.1]
theorem zEq.I {lo hi : Nat} {h h' : zM} (a : zEq lo hi h h') {q : Nat} (h1 : lo ≤ q) (h2 : q < hi) (k : Nat) : zI h' q k = zI h q k := by unfold zI; rw [(a.2 q h1 h2).1]
theorem zEq.F {lo hi : Nat} {h h' : zM} (a : zEq lo hi h h') {q : Nat} (h1 : lo ≤ q) (h2 : q < hi) (k : Nat) : zF h' q k = zF h q k := by unfold zF; rw [(a.2 q h1 h2).2]
theorem Wd.eq {h h' : zM} {a n : Nat} {w : List Int32} (d : Wd h a n w) (f : zEq a (a + 2) h h') : Wd h' a n w := by
  obtain ⟨d1, d2, d3, d4, d5, d6, d7, d8⟩ := d
  exact ⟨by rw [f.K]; exact d1, by rw [f.F (by omega) (by omega)]; exact d2, by rw [f.K]; exact d3, by rw [f.N]; exact d4, d5, by rw [f.I (by omega) (by omega)]; exact d6, d7, fun i hi => by rw [f.I (by omega) (by omega)]; exact d8 i hi⟩
theorem Wd.g {lo hi : Nat} {h h' : zM} {a n : Nat} {w : List Int32} (d : Wd h a n w) (f : zGr lo hi h h') (hd : a + 2 ≤ lo ∨ hi ≤ a) : Wd h' a n w := d.eq (f.eq hd)
theorem Lay.eq {T : List (Nat × Nat × Nat × Nat)} {c a : Nat} {h h' : zM} (l : Lay T c h a) (f : zEq a (a + 1) h h') : Lay T c h' a :=
  ⟨by rw [f.K]; exact l.1, fun e he => ⟨by rw [f.F (by omega) (by omega)]; exact (l.2 e he).1, by rw [f.K]; exact (l.2 e he).2.1, by rw [f.N]; exact (l.2 e he).2.2⟩⟩
theorem MC.eq {a : Nat} {h h' : zM} {M : zMa} (m : MC h a M) (f : zEq a (a + 6) h h') : MC h' a M := by
  obtain ⟨m1, m2, m3, m4, m5, m6⟩ := m
  have e : ∀ j, j < 6 → ∀ k, zI h' (a + j) k = zI h (a + j) k := fun j hj k => f.I (by omega) (by omega) k
  have e0 := e 0 (by omega)
  rw [Nat.add_zero] at e0
  exact ⟨m1.eq (f.sub (by omega) (by omega)), by rw [e0]; exact m2, by rw [e0]; exact m3, by rw [e0]; exact m4, fun q hq => by rw [e 1 (by omega)]; exact m5 q hq,
    fun i hi => by rw [e 2 (by omega), e 3 (by omega), e 4 (by omega), e 5 (by omega)]; exact m6 i hi⟩
theorem XMs.eq {x : Nat} {h h' : zM} {Ms : Nat → zMa} (m : XMs h x Ms) (f0 : zF h' x 0 = zF h x 0) (f : zEq (x + 1) (x + 14) h h') : XMs h' x Ms := by
  obtain ⟨⟨a1, a2, a3, a4, a5⟩, b⟩ := m
  exact ⟨⟨by rw [f.K]; exact a1, by rw [f0]; exact a2, by rw [f.K]; exact a3, by rw [f.N]; exact a4, fun t ht => by rw [f.F (by omega) (by omega)]; exact a5 t ht⟩, fun t ht => ⟨(b t ht).1.eq (f.sub (by omega) (by omega)), (b t ht).2⟩⟩
theorem MMs.eq {m : Nat} {h h' : zM} {Ms : Nat → zMa} (d : MMs h m Ms) (f0 : MLay h' m) (f : zEq (m + 1) (m + 9) h h') : MMs h' m Ms := by
  refine ⟨f0, fun t ht => ?_⟩
  obtain ⟨a1, a2, a3, a4⟩ := d.2 t ht
  exact ⟨by rw [f.I (by omega) (by omega)]; exact a1, by rw [f.I (by omega) (by omega)]; exact a2, fun q hq => by rw [f.I (by omega) (by omega), f.I (by omega) (by omega)]; exact a3 q hq, fun i hi => by rw [f.I (by omega) (by omega), f.I (by omega) (by omega), f.I (by omega) (by omega), f.I (by omega) (by omega)]; exact a4 i hi⟩
-- loops that go on to n
theorem zlp {P : Nat → zM → Prop} {g : Nat → zM → Option zR} {n : Nat} (st : ∀ i h, i < n → P i h → ∃ h', g i h = g (i + 1) h' ∧ P (i + 1) h') : ∀ (i : Nat) (h : zM), i ≤ n → P i h → ∃ h', g i h = g n h' ∧ P n h' := by
  have : ∀ (f i : Nat) (h : zM), n - i ≤ f → i ≤ n → P i h → ∃ h', g i h = g n h' ∧ P n h' := by
    intro f
    induction f with
    | zero =>
      intro i h hf hi hp
      have : i = n := by omega
      subst this
      exact ⟨h, rfl, hp⟩
    | succ f ih =>
      intro i h hf hi hp
      by_cases c : i < n
      · obtain ⟨h1, e1, p1⟩ := st i h c hp
        obtain ⟨h2, e2, p2⟩ := ih (i + 1) h1 (by omega) (by omega) p1
        exact ⟨h2, e1.trans e2, p2⟩
      · have : i = n := by omega
        subst this
        exact ⟨h, rfl, hp⟩
  exact fun i h => this (n - i) i h (Nat.le_refl _)
/-- loops that may end before n: Q tells of the whole run -/
theorem zlq {P : Nat → zM → Prop} {g : Nat → zM → Option zR} {Q : Option zR → Prop} {n : Nat} (st : ∀ i h, i < n → P i h → Q (g i h) ∨ ∃ h', g i h = g (i + 1) h' ∧ P (i + 1) h') (fin : ∀ h, P n h → Q (g n h)) : ∀ (i : Nat) (h : zM), i ≤ n → P i h → Q (g i h) := by
  have : ∀ (f i : Nat) (h : zM), n - i ≤ f → i ≤ n → P i h → Q (g i h) := by
    intro f
    induction f with
    | zero =>
      intro i h hf hi hp
      have : i = n := by omega
      subst this
      exact fin h hp
    | succ f ih =>
      intro i h hf hi hp
      by_cases c : i < n
      · rcases st i h c hp with q | ⟨h1, e1, p1⟩
        · exact q
        · rw [e1]
          exact ih (i + 1) h1 (by omega) (by omega) p1
      · have : i = n := by omega
        subst this
        exact fin h hp
  exact fun i h => this (n - i) i h (Nat.le_refl _)
/-- the places p .. p + n - 1 of the array a hold f -/
def zWr (h : zM) (a p n : Nat) (f : Nat → Int32) : zM := (h.1, h.2.1, va_up h.2.2.1 a (fun j => if p ≤ j ∧ j < p + n then f (j - p) else h.2.2.1 a j), h.2.2.2)
theorem zWr_0 {h : zM} {a p : Nat} {f : Nat → Int32} : zWr h a p 0 f = h := by
  have : va_up h.2.2.1 a (fun j => if p ≤ j ∧ j < p + 0 then f (j - p) else h.2.2.1 a j) = h.2.2.1 := by
    funext b
    by_cases c : b = a
    · subst c
      rw [va_up_self]
      funext j
      rw [if_neg (by omega)]
    · rw [va_up_ne _ _ c]
  unfold zWr
  rw [this]
theorem zWr_s {h : zM} {a p n : Nat} {f : Nat → Int32} : zsI (zWr h a p n f) a (p + n) (f n) = zWr h a p (n + 1) f := by
  have : va_up (zWr h a p n f).2.2.1 a (upd ((zWr h a p n f).2.2.1 a) (p + n) (f n)) = (zWr h a p (n + 1) f).2.2.1 := by
    funext b
    by_cases c : b = a
    · subst c
      rw [va_up_self]
      funext j
      unfold zWr
      dsimp only
      rw [va_up_self, va_up_self]
      by_cases e : j = p + n
      · subst e
        rw [if_pos (by omega), show p + n - p = n by omega]
        simp [upd]
      · have e2 : upd (fun j => if p ≤ j ∧ j < p + n then f (j - p) else h.2.2.1 b j) (p + n) (f n) j = if p ≤ j ∧ j < p + n then f (j - p) else h.2.2.1 b j := by simp [upd, e]
        rw [e2]
        by_cases e3 : p ≤ j ∧ j < p + n
        · rw [if_pos e3, if_pos (by omega)]
        · rw [if_neg e3, if_neg (by omega)]
    · rw [va_up_ne _ _ c]
      unfold zWr
      dsimp only
      rw [va_up_ne _ _ c, va_up_ne _ _ c]
  unfold zsI
  rw [this]
  rfl
theorem zwr {g : Nat → zM → Option zR} {h : zM} {a p n : Nat} {f : Nat → Int32} (st : ∀ i, i < n → g i (zWr h a p i f) = g (i + 1) (zsI (zWr h a p i f) a (p + i) (f i))) : g 0 h = g n (zWr h a p n f) := by
  have key : ∀ i, i ≤ n → g 0 h = g i (zWr h a p i f) := by
    intro i
    induction i with
    | zero => intro _; rw [zWr_0]
    | succ i ih =>
      intro hi
      rw [ih (by omega), st i (by omega), zWr_s]
  exact key n (Nat.le_refl _)
section WRR
variable {h : zM} {a b c p n j k : Nat} {f : Nat → Int32}
theorem zI_Wr_a (hb : b ≠ a) : zI (zWr h a p n f) b j = zI h b j := by simp [zI, zWr, va_up_ne _ _ hb]
theorem zI_Wr_in (h1 : p ≤ j) (h2 : j < p + n) : zI (zWr h a p n f) a j = f (j - p) := by simp [zI, zWr, va_up_self, h1, h2]
theorem zI_Wr_at (h2 : j < n) : zI (zWr h a p n f) a (p + j) = f j := by rw [zI_Wr_in (by omega) (by omega), show p + j - p = j by omega]
theorem zI_Wr_out (h1 : ¬ (p ≤ j ∧ j < p + n)) : zI (zWr h a p n f) a j = zI h a j := by simp only [zI, zWr, va_up_self, if_neg h1]
theorem zF_Wr : zF (zWr h a p n f) b j = zF h b j := rfl
theorem zK_Wr : zK (zWr h a p n f) b = zK h b := rfl
theorem zN_Wr : zN (zWr h a p n f) b = zN h b := rfl
theorem zFr_Wr {lo hi : Nat} (h1 : lo ≤ a) (h2 : a < hi) : zFr lo hi h (zWr h a p n f) :=
  ⟨rfl, rfl, fun q => ⟨fun hq => va_up_ne _ _ (fun e => hq (by subst e; exact ⟨h1, h2⟩)), rfl⟩⟩
end WRR
-- literal numbers
theorem n0 : (0 : Int32) = nI 0 := rfl
theorem n1 : (1 : Int32) = nI 1 := rfl
theorem n2 : (2 : Int32) = nI 2 := rfl
theorem n3 : (3 : Int32) = nI 3 := rfl
theorem n4 : (4 : Int32) = nI 4 := rfl
theorem n9 : (9 : Int32) = nI 9 := rfl
theorem n10 : (10 : Int32) = nI 10 := rfl
theorem n31 : (31 : Int32) = nI 31 := rfl
theorem n32 : (32 : Int32) = nI 32 := rfl
theorem n36 : (36 : Int32) = nI 36 := rfl
theorem n60 : (60 : Int32) = nI 60 := rfl
theorem n72 : (72 : Int32) = nI 72 := rfl
theorem n100 : (100 : Int32) = nI 100 := rfl
theorem n101 : (101 : Int32) = nI 101 := rfl
theorem n120 : (120 : Int32) = nI 120 := rfl
theorem n224 : (224 : Int32) = nI 224 := rfl
theorem n260 : (260 : Int32) = nI 260 := rfl
theorem n520 : (520 : Int32) = nI 520 := rfl
theorem n600 : (600 : Int32) = nI 600 := rfl
theorem n780 : (780 : Int32) = nI 780 := rfl
theorem n1000 : (1000 : Int32) = nI 1000 := rfl
theorem n1001 : (1001 : Int32) = nI 1001 := rfl
theorem n4096 : (4096 : Int32) = nI 4096 := rfl
theorem n13000 : (13000 : Int32) = nI 13000 := rfl
theorem nneg {n : Nat} (h : n < 2 ^ 31) : ¬ nI n = -1 := by
  intro z
  have := congrArg Int32.toInt z
  rw [nI_toInt h] at this
  have e1 : (-1 : Int32).toInt = -1 := by decide
  omega
theorem nneg2 {n : Nat} (h : n < 2 ^ 31) : ¬ nI n = -2 := by
  intro z
  have := congrArg Int32.toInt z
  rw [nI_toInt h] at this
  have e1 : (-2 : Int32).toInt = -2 := by decide
  omega
theorem zcp_ok {h : zM} {a b n : Nat} (ha : zK h a = 101) (hb : zK h b = 101) (h1 : n ≤ zN h a) (h2 : n ≤ zN h b) (hn : n < 2 ^ 31) : zcp h a 0 b 0 (nI n) = some (zWr h b 0 n (zI h a)) := by
  have ec : (nI n).toNatClampNeg = n := nI_clamp hn
  have e0 : (0 : Int32).toNatClampNeg = 0 := rfl
  unfold zcp
  rw [if_pos ⟨⟨ha, hb⟩, ⟨by decide, by decide, nI_pos hn⟩, by rw [ec, e0]; omega, by rw [ec, e0]; omega⟩, ec, e0]
  unfold zWr
  have : va_cpy (h.2.2.1 a) (h.2.2.1 b) 0 0 n = fun j => if 0 ≤ j ∧ j < 0 + n then zI h a (j - 0) else h.2.2.1 b j := by
    funext j
    by_cases c : j < n
    · rw [if_pos (by omega), pk_cpy_in (by omega) (by omega), show 0 + (j - 0) = j by omega]
      rfl
    · rw [if_neg (by omega), pk_cpy_out (by omega)]
  rw [this]
