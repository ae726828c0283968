/-! What the calls answer, and what they make of the state. -/
/-- machines, outputs, witness, how many answers, the latest sequential machine, what was acted -/
abbrev zTa : Type := (Nat → zMa) × List zWo × zWt × Nat × Option zMa × zWo
/-- the letters of an input word -/
def usOf (w : Int32) : List Nat := (dn w).map fun x => x.toNatClampNeg
def apAn (o : Option (List zWo)) : Int32 × List zWo := match o with
  | none => (-2, [])
  | some fs => (nI fs.length, fs)
def aApply (Ms : Nat → zMa) (fs : List zWo) (t w : Int32) : Int32 × List zWo := if isT t = true ∧ isW 3 9 w = true then apAn (outRun (Ms t.toNatClampNeg) (usOf w)) else (-1, fs)
def aOutput (fs : List zWo) (i k : Int32) : Int32 := if ¬ i < 0 ∧ i < nI fs.length then wAt (fs.getD i.toNatClampNeg []) k else -2
/-- whether a machine is functional, with the witness -/
def tsAn (o : Option (List Nat)) (M : zMa) (w : zWt) : Bool × zWt := match o with
  | none => (true, w)
  | some us => (false, some (us, fun j => (wtOut M us)[j]?))
def tstF (M : zMa) (w : zWt) : Bool × zWt := tsAn (difW FT M M) M w
def aFunctional (Ms : Nat → zMa) (w : zWt) (t : Int32) : Int32 × zWt := if isT t = true then (bI (tstF (Ms t.toNatClampNeg) w).1, (tstF (Ms t.toNatClampNeg) w).2) else (-1, w)
/-- the witness of two machines -/
def two2 (Ms : Nat → zMa) (us : List Nat) : zWt := some (us, fun t => if t = 0 then (wtOut (Ms 0) us)[0]? else (wtOut (Ms 1) us)[0]?)
def rdAn (o : Option (List Nat)) (Ms : Nat → zMa) (w : zWt) : Int32 × zWt := match o with
  | none => (1, w)
  | some us => (0, two2 Ms us)
def aReaders (Ms : Nat → zMa) (w : zWt) : Int32 × zWt := rdAn (rdW (Ms 0) (Ms 1)) Ms w
/-- the lesser of two words, if there are some -/
def lesW (a b : Option (List Nat)) : Option (List Nat) := match a, b with
  | none, b => b
  | some a, none => some a
  | some a, some b => if wcmp (a.map nI) (b.map nI) < 0 then some a else some b
def aSame (Ms : Nat → zMa) (w : zWt) : Int32 × zWt := if (tstF (Ms 0) w).1 = false then (-1, (tstF (Ms 0) w).2) else
  if (tstF (Ms 1) (tstF (Ms 0) w).2).1 = false then (-1, (tstF (Ms 1) (tstF (Ms 0) w).2).2) else
  rdAn (lesW (rdW (Ms 0) (Ms 1)) (difW FT (Ms 0) (Ms 1))) Ms (tstF (Ms 1) (tstF (Ms 0) w).2).2
/-- what sequential answers -/
def sqA (M : zMa) : Nat := if (twJ M).1 = 1 then (if (sMake M).1.length ≤ 100 then 1 else 2) else (twJ M).1
def sqS (M : zMa) : Int32 := if (twJ M).1 = 1 then nI (sMake M).1.length else -1
/-- answer, witness, how many answers, the latest machine -/
def aSeq (Ms : Nat → zMa) (w : zWt) (n : Nat) (L : Option zMa) (t : Int32) : Int32 × zWt × Nat × Option zMa := if isT t = true then
    (if n < 24 then (if (tstF (Ms t.toNatClampNeg) w).1 = true then (nI (sqA (Ms t.toNatClampNeg)), (tstF (Ms t.toNatClampNeg) w).2, n + 1, some (Ms t.toNatClampNeg)) else (-1, (tstF (Ms t.toNatClampNeg) w).2, n, L)) else (-2, w, n, L)) else (-1, w, n, L)
def aWitness (w : zWt) (k : Int32) : Int32 := match w with
  | none => -2
  | some p => wAt (p.1.map nI) k
def aWrote (w : zWt) (t k : Int32) : Int32 := match w with
  | none => -2
  | some p => if ¬ t < 0 ∧ t < 2 then (match p.2 t.toNatClampNeg with
    | none => -2
    | some u => wAt u k) else -2
noncomputable def aTold (L : Option zMa) (w : Int32) : Int32 := match L with
  | none => -1
  | some M => if w = 0 then nI (twJ M).2.1 else if w = 1 then nI (twJ M).2.2.1.length else if w = 2 then sqS M else if w = 3 then (if sqA M = 1 then nI (lsP M).length else -1) else if w = 4 then (if sqA M = 1 then nI (lsA M) else -1) else -1
/-- the least machine that stands -/
noncomputable def lzO (L : Option zMa) : Option zLz := match L with
  | none => none
  | some M => if sqA M = 1 then some (lsZ M) else none
def aGoesL (Z : Option zLz) (q l : Int32) : Int32 := match Z with
  | none => -1
  | some Z => aGoes Z q l
def aWrites (Z : Option zLz) (q l k : Int32) : Int32 := match Z with
  | none => -2
  | some Z => match aWord Z q l with
    | none => -2
    | some u => wAt u k
def aAct (Z : Option zLz) (u : zWo) (w : Int32) : Int32 × zWo := match Z with
  | none => (-1, u)
  | some Z => if isW 3 9 w = true then (match acF Z (usOf w) with
    | none => (-1, u)
    | some v => (nI v.length, v)) else (-1, u)
/-- whether the least machine is taken -/
def tkO (Z : Option zLz) (t : Int32) (M : zMa) : Prop := isT t = true ∧ ∃ z, Z = some z ∧ fitZ z ∧ M = tkM z
theorem isW_in {w : Int32} (h : isW 3 9 w = true) : ∃ k, w = nI k ∧ k < 10 ^ 9 ∧ dn w = dgs k ∧ (usOf w).map nI = dn w ∧ (usOf w).length ≤ 9 ∧ (∀ l ∈ usOf w, 1 ≤ l ∧ l ≤ 3) ∧ ltI 3 w = nI (usOf w).length ∧ nd k = (usOf w).length := by
  unfold isW at h
  by_cases c : w < 0
  · rw [if_pos c] at h; cases h
  rw [if_neg c] at h
  obtain ⟨k, hk, rfl⟩ := nI_of c
  rw [nI_clamp hk] at h
  cases e : lf 11 3 k with
  | none => rw [e] at h; cases h
  | some n =>
    rw [e] at h
    have hn : n ≤ 9 := of_decide_eq_true h
    have hk11 : k < 10 ^ 11 := by omega
    have hkn := lf_lt 11 3 k n hk11 e
    have hp : 10 ^ n ≤ 10 ^ 9 := Nat.pow_le_pow_right (by omega) hn
    have hnd : nd k = n := lf_nd 11 3 k n e hk11
    have hlen : (dgs k).length = n := by rw [← hnd]; exact dl_len _ _
    have hdn : dn (nI k) = dgs k := dn_nI hk
    have hat : ∀ x ∈ dgs k, ∃ d, 1 ≤ d ∧ d ≤ 3 ∧ x = nI d := by
      intro x hx
      obtain ⟨i, hi, rfl⟩ := List.getElem_of_mem hx
      rw [hlen] at hi
      have h1 := dl_at (nd k) k i (by omega)
      have h2 := lf_dig 11 3 k n e hk11 (nd k - 1 - i) (by omega)
      refine ⟨k / 10 ^ (nd k - 1 - i) % 10, h2.1, h2.2, ?_⟩
      rw [← h1]
      unfold dgs
      rw [List.getD_eq_getElem?_getD, List.getElem?_eq_getElem]
      rfl
    have hul : (usOf (nI k)).length = n := by unfold usOf; rw [List.length_map, hdn, hlen]
    refine ⟨k, rfl, by omega, hdn, ?_, by omega, ?_, ?_, by omega⟩
    · unfold usOf
      rw [List.map_map, hdn]
      refine (List.map_congr_left fun x hx => ?_).trans (List.map_id _)
      obtain ⟨d, d1, d2, rfl⟩ := hat x hx
      show nI (nI d).toNatClampNeg = nI d
      rw [nI_clamp (by omega)]
    · intro l hl
      unfold usOf at hl
      rw [hdn] at hl
      obtain ⟨x, hx, rfl⟩ := List.mem_map.mp hl
      obtain ⟨d, d1, d2, rfl⟩ := hat x hx
      rw [nI_clamp (by omega)]
      exact ⟨d1, d2⟩
    · unfold ltI
      rw [if_neg c, nI_clamp hk, e, hul]
theorem isW_lt {w : Int32} (most : Nat) : isW most 9 w = true ↔ ¬ ltI most w < 0 ∧ ¬ 9 < ltI most w := by
  unfold isW ltI
  by_cases c : w < 0
  · rw [if_pos c, if_pos c]
    exact ⟨fun h => (by cases h), fun h => absurd h.1 (by decide)⟩
  rw [if_neg c, if_neg c]
  cases e : lf 11 most w.toNatClampNeg with
  | none => exact ⟨fun h => (by cases h), fun h => absurd h.1 (by decide)⟩
  | some k =>
    have := lf_le 11 most _ k e
    show decide (k ≤ 9) = true ↔ ¬ nI k < 0 ∧ ¬ 9 < nI k
    rw [decide_eq_true_iff, n9, nI_ltI (by omega) (by omega)]
    exact ⟨fun h => ⟨nI_nn (by omega), by omega⟩, fun h => by omega⟩
