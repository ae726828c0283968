/-! The reference: sets that write alike; parted. -/
section PAR
variable {h h0 : zM} {m r s : Nat} {M : zMa} {B : Nat → Nat}
/-- classes -/
def KLs (h : zM) (m n : Nat) (B : Nat → Nat) : Prop := ∀ s, s < n → zI h (m + 69) s = nI (B s)
theorem KLs.o {h' : zM} {n : Nat} {L J : List Nat} (d : KLs h m n B) (f : zOf m L J h h') (hL : 69 ∉ L) : KLs h' m n B := fun s hs => (f.C (by decide) hL s).trans (d s hs)
/-- all is written in full -/
def GBase (h : zM) (m : Nat) (M : zMa) : Prop := FBase h m M ∧ ∀ s, s < (sMake M).1.length → FUs h m M s
theorem GBase.o {h' : zM} {L J : List Nat} (d : GBase h m M) (f : zOf m L J h h') (hL : ∀ k ∈ L, 61 < k ∧ k ≠ 67 ∧ k ≠ 68) (hJ : 64 ∉ J) : GBase h' m M :=
  ⟨d.1.o f (fun k hk => (hL k hk).1) hJ, fun s hs => (d.2 s hs).o f (fun w => (hL 67 w).2.1 rfl) (fun w => (hL 68 w).2.2 rfl)⟩
/-- letters of two things of one size -/
theorem s_alike39 {l : Nat} {a b : zWo} (lay : MLay h m) (hr : r < 101) (hs : s < 101) (hl : l < 4) (fa : FUw h m (4 * r + l) (some a)) (fb : FUw h m (4 * s + l) (some b)) (hab : a.length = b.length) :
    zm_X12_isAlike 39 [some (.inr m), some (.inl (nI r)), some (.inl (nI s)), some (.inl (nI l)), some (.inl (nI a.length)), some (.inl (nI 0))] [] h = if a = b then zm_X12_isAlike 39 [some (.inr m), some (.inl (nI r)), some (.inl (nI s)), some (.inl (nI l)), some (.inl (nI a.length)), some (.inl (nI a.length))] [] h else some (0, 0, h) := by
  obtain ⟨a1, a2, a3, a4⟩ := fa
  obtain ⟨b1, b2, b3, b4⟩ := fb
  refine zlq (P := fun j z => z = h ∧ ∀ j', j' < j → a.getD j' 0 = b.getD j' 0) (g := fun j z => zm_X12_isAlike 39 [some (.inr m), some (.inl (nI r)), some (.inl (nI s)), some (.inl (nI l)), some (.inl (nI a.length)), some (.inl (nI j))] [] z) (n := a.length)
    (Q := fun y => y = if a = b then zm_X12_isAlike 39 [some (.inr m), some (.inl (nI r)), some (.inl (nI s)), some (.inl (nI l)), some (.inl (nI a.length)), some (.inl (nI a.length))] [] h else some (0, 0, h)) ?_ ?_ 0 h (Nat.zero_le _) ⟨rfl, fun j hj => absurd hj (Nat.not_lt_zero _)⟩
  · rintro j z hj ⟨rfl, he⟩
    have x1 : zba z (m + 68) (nI (780 * (4 * r + l) + j)) = some (a.getD j 0) := by rw [mr86 lay (by omega), a2 j hj]
    have x2 : zba z (m + 68) (nI (780 * (4 * s + l) + j)) = some (b.getD j 0) := by rw [mr86 lay (by omega), b2 j (by omega)]
    have st : zm_X12_isAlike 39 [some (.inr m), some (.inl (nI r)), some (.inl (nI s)), some (.inl (nI l)), some (.inl (nI a.length)), some (.inl (nI j))] [] z = if a.getD j 0 = b.getD j 0 then zm_X12_isAlike 39 [some (.inr m), some (.inl (nI r)), some (.inl (nI s)), some (.inl (nI l)), some (.inl (nI a.length)), some (.inl (nI (j + 1)))] [] z else some (0, 0, z) := by
      rw [e_X12_isAlike_39, if_pos ((nI_ltI (by omega) (by omega)).mpr hj), mF86 lay, Option.bind_some, n780, n4, pk_mul, nI_add, pk_mul, nI_add, x1, Option.bind_some, Option.bind_some, pk_mul, nI_add, pk_mul, nI_add, x2, Option.bind_some, nI_1, zb0]
    rw [st]
    by_cases c : a.getD j 0 = b.getD j 0
    · right
      rw [if_pos c]
      refine ⟨z, rfl, rfl, fun j' h2 => ?_⟩
      by_cases e : j' = j
      · rw [e]; exact c
      · exact he j' (by omega)
    · left
      rw [if_neg c, if_neg (fun w => c (by rw [w]))]
  · rintro z ⟨rfl, he⟩
    rw [if_pos (ext_getD hab (fun j hj => he j (by omega)))]
/-- the ends -/
theorem s_alike0 (lay : MLay h m) (hr : r < 101) (hs : s < 101) {oa ob : Option zWo} (fa : FUw h m (4 * r) oa) (fb : FUw h m (4 * s) ob) :
    zm_X12_isAlike 2 [some (.inr m), some (.inl (nI r)), some (.inl (nI s)), some (.inl (nI 0)), none, none] [] h = if oa = ob then zm_X12_isAlike 2 [some (.inr m), some (.inl (nI r)), some (.inl (nI s)), some (.inl (nI 1)), none, none] [] h else some (0, 0, h) := by
  have tail : ∀ v x : Int32, ¬ x < v → zm_X12_isAlike 39 [some (.inr m), some (.inl (nI r)), some (.inl (nI s)), some (.inl (nI 0)), some (.inl v), some (.inl x)] [] h = zm_X12_isAlike 2 [some (.inr m), some (.inl (nI r)), some (.inl (nI s)), some (.inl (nI 1)), none, none] [] h := fun v x hx => by
    rw [e_X12_isAlike_39, if_neg hx, if_neg (by decide)]
    rfl
  rw [e_X12_isAlike_2, if_pos (by decide), mF85 lay, Option.bind_some, n4, pk_mul, nI_add, mr85 lay (by omega), Option.bind_some, Option.bind_some, pk_mul, nI_add, mr85 lay (by omega), Option.bind_some, Nat.add_zero (4 * r), Nat.add_zero (4 * s)]
  cases oa with
  | none =>
    rw [show zI h (m + 67) (4 * r) = -1 from fa]
    cases ob with
    | none =>
      rw [show zI h (m + 67) (4 * s) = -1 from fb, if_pos rfl, if_pos rfl]
      exact tail _ _ (by decide)
    | some b =>
      rw [(show zI h (m + 67) (4 * s) = nI b.length ∧ _ from fb).1, if_neg (fun w => nneg (n := b.length) (by have := fb.2.2.1; omega) w.symm), if_neg (fun w => by cases w), zb0]
  | some a =>
    have al := fa.2.2.1
    rw [(show zI h (m + 67) (4 * r) = nI a.length ∧ _ from fa).1]
    cases ob with
    | none =>
      rw [show zI h (m + 67) (4 * s) = -1 from fb, if_neg (nneg (by omega)), if_neg (fun w => by cases w), zb0]
    | some b =>
      have bl := fb.2.2.1
      rw [(show zI h (m + 67) (4 * s) = nI b.length ∧ _ from fb).1]
      by_cases c : a.length = b.length
      · rw [if_pos (by rw [c])]
        refine (show _ = _ from s_alike39 (l := 0) lay hr hs (by omega) fa fb c).trans ?_
        by_cases e : a = b
        · rw [if_pos e, if_pos (by rw [e])]
          exact tail _ _ (by rw [nI_ltI (by omega) (by omega)]; omega)
        · rw [if_neg e, if_neg (fun w => e (by injection w))]
      · rw [if_neg (by rw [nI_eq (by omega) (by omega)]; exact c), if_neg (fun w => c (by injection w with w; rw [w])), zb0]
/-- a way -/
theorem s_alikeJ {j n : Nat} (lay : MLay h m) (hr : r < 100) (hs : s < 100) (hj : j < 3) (hn : n ≤ 100) (kl : KLs h m n B) (hB : ∀ s, s < n → B s < 2 ^ 30) {oa ob : Option (zWo × Nat)} (fa : FUw h m (4 * r + (j + 1)) (oa.map (·.1))) (fb : FUw h m (4 * s + (j + 1)) (ob.map (·.1)))
    (ga : ∀ p, oa = some p → p.2 < n ∧ zI h (m + 53) (4 * r + (j + 1)) = nI p.2) (gb : ∀ p, ob = some p → p.2 < n ∧ zI h (m + 53) (4 * s + (j + 1)) = nI p.2) :
    zm_X12_isAlike 2 [some (.inr m), some (.inl (nI r)), some (.inl (nI s)), some (.inl (nI (j + 1))), none, none] [] h = if (decide (oa.map (·.1) = ob.map (·.1)) && gA1 B oa ob) = true then zm_X12_isAlike 2 [some (.inr m), some (.inl (nI r)), some (.inl (nI s)), some (.inl (nI (j + 1 + 1))), none, none] [] h else some (0, 0, h) := by
  have pos : (0 : Int32) < nI (j + 1) := by rw [n0, nI_ltI (by omega) (by omega)]; omega
  rw [e_X12_isAlike_2, if_pos (by rw [n4, nI_ltI (by omega) (by omega)]; omega), mF85 lay, Option.bind_some, n4, pk_mul, nI_add, mr85 lay (by omega), Option.bind_some, Option.bind_some, pk_mul, nI_add, mr85 lay (by omega), Option.bind_some]
  cases oa with
  | none =>
    rw [show zI h (m + 67) (4 * r + (j + 1)) = -1 from fa]
    cases ob with
    | none =>
      rw [show zI h (m + 67) (4 * s + (j + 1)) = -1 from fb, if_pos rfl, e_X12_isAlike_39, if_neg (by decide), if_pos pos, if_pos (by decide), nI_1]
      rfl
    | some p =>
      have fb' : FUw h m (4 * s + (j + 1)) (some p.1) := fb
      rw [fb'.1, if_neg (fun w => nneg (n := p.1.length) (by have := fb'.2.2.1; omega) w.symm), zb0]
      rfl
  | some p =>
    have fa' : FUw h m (4 * r + (j + 1)) (some p.1) := fa
    have al := fa'.2.2.1
    rw [fa'.1]
    cases ob with
    | none =>
      rw [show zI h (m + 67) (4 * s + (j + 1)) = -1 from fb, if_neg (nneg (by omega)), zb0]
      rfl
    | some q =>
      have fb' : FUw h m (4 * s + (j + 1)) (some q.1) := fb
      have bl := fb'.2.2.1
      obtain ⟨g1, g2⟩ := ga p rfl
      obtain ⟨k1, k2⟩ := gb q rfl
      have eB1 := hB _ g1
      have eB2 := hB _ k1
      have eG : gA1 B (some p) (some q) = decide (B p.2 = B q.2) := rfl
      rw [fb'.1, eG]
      by_cases c : p.1.length = q.1.length
      · rw [if_pos (by rw [c])]
        refine (show _ = _ from s_alike39 (l := j + 1) lay (by omega) (by omega) (by omega) fa' fb' c).trans ?_
        by_cases e : p.1 = q.1
        · have em : Option.map (fun x : zWo × Nat => x.1) (some p) = Option.map (fun x : zWo × Nat => x.1) (some q) := congrArg some e
          rw [if_pos e, decide_eq_true em, Bool.true_and, e_X12_isAlike_39, if_neg (by rw [nI_ltI (by omega) (by omega)]; omega), if_pos pos, if_neg (nI_nn (by omega)), mF87 lay, Option.bind_some, mF67 lay, Option.bind_some, n4, pk_mul, nI_add, mr67 lay (by omega), Option.bind_some, g2, mr87 lay (by omega), Option.bind_some, Option.bind_some, Option.bind_some, pk_mul, nI_add, mr67 lay (by omega), Option.bind_some, k2, mr87 lay (by omega), Option.bind_some, kl _ g1, kl _ k1, nI_1, zb0]
          by_cases f : B p.2 = B q.2
          · rw [if_pos (by rw [f]), if_pos (decide_eq_true f)]
          · rw [if_neg (by rw [nI_eq (by omega) (by omega)]; exact f), if_neg (by rw [decide_eq_false f]; decide)]
        · have em : ¬ Option.map (fun x : zWo × Nat => x.1) (some p) = Option.map (fun x : zWo × Nat => x.1) (some q) := fun w => e (by injection w)
          rw [if_neg e, decide_eq_false em, Bool.false_and, if_neg (by decide)]
      · have em : ¬ Option.map (fun x : zWo × Nat => x.1) (some p) = Option.map (fun x : zWo × Nat => x.1) (some q) := fun w => c (congrArg List.length (show p.1 = q.1 by injection w))
        rw [if_neg (by rw [nI_eq (by omega) (by omega)]; exact c), decide_eq_false em, Bool.false_and, if_neg (by decide), zb0]
theorem s_misAlike (sg : sGood M) (gb : GBase h m M) (kl : KLs h m (sMake M).1.length B) (hB : ∀ s, s < (sMake M).1.length → B s < 2 ^ 30) (hr : r < (sMake M).1.length) (hs : s < (sMake M).1.length) :
    zf nX12_isAlike [.inr m, .inl (nI r), .inl (nI s)] h = some (bI (wAl (lsE M) (lsW M) r s && gAl B (lsW M) r s), 0, h) := by
  have hN := sg.2.2.2
  have lay := gb.1.1.1
  have fr := gb.2 r hr
  have fs := gb.2 s hs
  have go : ∀ {s : Nat}, s < (sMake M).1.length → ∀ j, j < 3 → ∀ p, lsW M (3 * s + j) = some p → p.2 < (sMake M).1.length ∧ zI h (m + 53) (4 * s + (j + 1)) = nI p.2 := fun {s} hs j hj p e => by
    have gw := gb.1.1.2.1.go sg hs hj
    rw [lsW_at s j hj] at e
    cases eg : goAt (sMake M) (3 * s + j) with
    | none => rw [eg] at e; cases e
    | some q =>
      obtain ⟨o, g⟩ := q
      rw [eg] at e gw
      have e2 : g = p.2 := by injection e with e; rw [← e]
      have := (sg.go_lt eg hj).2
      rw [← e2]
      exact ⟨this, (show zI h (m + 53) (4 * s + (j + 1)) = nI g ∧ _ from gw).1⟩
  rw [e_X12_isAlike, n0, s_alike0 lay (by omega) (by omega) fr.1 fs.1]
  have a1 := s_alikeJ (j := 0) lay (by omega) (by omega) (by omega) hN kl hB (fr.2 0 (by omega)) (fs.2 0 (by omega)) (go hr 0 (by omega)) (go hs 0 (by omega))
  have a2 := s_alikeJ (j := 1) lay (by omega) (by omega) (by omega) hN kl hB (fr.2 1 (by omega)) (fs.2 1 (by omega)) (go hr 1 (by omega)) (go hs 1 (by omega))
  have a3 := s_alikeJ (j := 2) lay (by omega) (by omega) (by omega) hN kl hB (fr.2 2 (by omega)) (fs.2 2 (by omega)) (go hr 2 (by omega)) (go hs 2 (by omega))
  have fin : zm_X12_isAlike 2 [some (.inr m), some (.inl (nI r)), some (.inl (nI s)), some (.inl (nI (2 + 1 + 1))), none, none] [] h = some (1, 0, h) := by
    rw [e_X12_isAlike_2, if_neg (by decide), zb1]
  rw [show zm_X12_isAlike 2 [some (.inr m), some (.inl (nI r)), some (.inl (nI s)), some (.inl (nI 1)), none, none] [] h = _ from a1, show zm_X12_isAlike 2 [some (.inr m), some (.inl (nI r)), some (.inl (nI s)), some (.inl (nI (0 + 1 + 1))), none, none] [] h = _ from a2, show zm_X12_isAlike 2 [some (.inr m), some (.inl (nI r)), some (.inl (nI s)), some (.inl (nI (1 + 1 + 1))), none, none] [] h = _ from a3, fin]
  have key : (wAl (lsE M) (lsW M) r s && gAl B (lsW M) r s) = (decide (lsE M r = lsE M s) && (decide ((lsW M (3 * r + 0)).map (·.1) = (lsW M (3 * s + 0)).map (·.1)) && gA1 B (lsW M (3 * r + 0)) (lsW M (3 * s + 0))) && (decide ((lsW M (3 * r + 1)).map (·.1) = (lsW M (3 * s + 1)).map (·.1)) && gA1 B (lsW M (3 * r + 1)) (lsW M (3 * s + 1))) && (decide ((lsW M (3 * r + 2)).map (·.1) = (lsW M (3 * s + 2)).map (·.1)) && gA1 B (lsW M (3 * r + 2)) (lsW M (3 * s + 2)))) := by
    rw [Bool.eq_iff_iff]
    simp only [Bool.and_eq_true, decide_eq_true_iff, wAl_iff, gAl_iff]
    constructor
    · rintro ⟨⟨x1, x2⟩, x3⟩
      exact ⟨⟨⟨x1, x2 0 (by omega), x3 0 (by omega)⟩, x2 1 (by omega), x3 1 (by omega)⟩, x2 2 (by omega), x3 2 (by omega)⟩
    · rintro ⟨⟨⟨x1, y1, z1⟩, y2, z2⟩, y3, z3⟩
      refine ⟨⟨x1, fun j hj => ?_⟩, fun j hj => ?_⟩
      · rcases (show j = 0 ∨ j = 1 ∨ j = 2 by omega) with q | q | q <;> rw [q] <;> assumption
      · rcases (show j = 0 ∨ j = 1 ∨ j = 2 by omega) with q | q | q <;> rw [q] <;> assumption
  rw [key]
  by_cases c0 : lsE M r = lsE M s
  · rw [if_pos c0, decide_eq_true c0, Bool.true_and]
    cases (decide ((lsW M (3 * r + 0)).map (·.1) = (lsW M (3 * s + 0)).map (·.1)) && gA1 B (lsW M (3 * r + 0)) (lsW M (3 * s + 0))) with
    | false => rfl
    | true =>
      cases (decide ((lsW M (3 * r + 1)).map (·.1) = (lsW M (3 * s + 1)).map (·.1)) && gA1 B (lsW M (3 * r + 1)) (lsW M (3 * s + 1))) with
      | false => rfl
      | true =>
        cases (decide ((lsW M (3 * r + 2)).map (·.1) = (lsW M (3 * s + 2)).map (·.1)) && gA1 B (lsW M (3 * r + 2)) (lsW M (3 * s + 2))) with
        | false => rfl
        | true => rfl
  · rw [if_neg c0, decide_eq_false c0]
    rfl
end PAR
