/-! The reference: a pair comes, if it may tell anything new. -/
/-- all that are there -/
def KS (h : zM) (m : Nat) (S : Nat → Bool) (K : List zCf) : Prop := zI h m 32 = nI K.length ∧ (∀ i, i < K.length → CF h m i (kAt K i)) ∧ (∀ p q, p < 6 → q < 6 → zI h (m + 38) (6 * p + q) = nI (cntK K (p, q))) ∧ CMt h m S
theorem KS.o {h h' : zM} {m : Nat} {S : Nat → Bool} {K : List zCf} {L J : List Nat} (d : KS h m S K) (o : zOf m L J h h') (hL : ∀ k ∈ L, 38 < k) (hJ : 32 ∉ J) : KS h' m S K := by
  have no : ∀ k, k ≤ 38 → k ∉ L := fun k h1 hm => by have := hL k hm; omega
  exact ⟨(o.J hJ).trans d.1, fun i hi => (d.2.1 i hi).o o (fun k hk => Or.inr (by have := hL k hk; omega)), fun p q hp hq => (o.C (by omega) (no 38 (by omega)) _).trans (d.2.2.1 p q hp hq), fun k hk => (o.C (by omega) (no 37 (by omega)) _).trans (d.2.2.2 k hk)⟩
theorem LR.o {h h' : zM} {m : Nat} {u v : zWo} {L J : List Nat} (d : LR h m u v) (o : zOf m L J h h') (hL : 39 ∉ L ∧ 40 ∉ L) (hJ : 45 ∉ J ∧ 46 ∉ J ∧ 47 ∉ J) : LR h' m u v :=
  ⟨(o.J hJ.1).trans d.1, (o.J hJ.2.1).trans d.2.1, d.2.2.1.of (fun j _ => o.C (by omega) hL.1 _), d.2.2.2.1.of (fun j _ => o.C (by omega) hL.2 _), (o.J hJ.2.2).trans d.2.2.2.2⟩
/-- what comes, as it stands in the rows -/
def CN (h : zM) (m : Nat) (br : Int32) (c : zCf) : Prop := ∃ u v, LR h m u v ∧ u.length ≤ 300 ∧ v.length ≤ 300 ∧ LOk u ∧ LOk v ∧ ((br = 1 ∧ apt c = true) ∨ (br = 0 ∧ c.2 = cutD (dlyD u v)))
theorem CN.o {h h' : zM} {m : Nat} {br : Int32} {c : zCf} {L J : List Nat} (d : CN h m br c) (o : zOf m L J h h') (hL : 39 ∉ L ∧ 40 ∉ L) (hJ : 45 ∉ J ∧ 46 ∉ J ∧ 47 ∉ J) : CN h' m br c := by
  obtain ⟨u, v, l, r⟩ := d
  exact ⟨u, v, l.o o hL hJ, r⟩
/-- the side and what is left -/
theorem cut_sd {c : zCf} {u v : zWo} (e : c.2 = cutD (dlyD u v)) : (lcp u v < u.length ∧ lcp u v < v.length → sdC c = 3) ∧ (lcp u v < u.length → ¬ lcp u v < v.length → sdC c = 1 ∧ moC c = u.drop (lcp u v)) ∧ (¬ lcp u v < u.length → lcp u v < v.length → sdC c = 2 ∧ moC c = v.drop (lcp u v)) ∧ (¬ lcp u v < u.length → ¬ lcp u v < v.length → sdC c = 0 ∧ moC c = []) := by
  have hle := lcp_le u v
  have lu : (dlyD u v).1.length = u.length - lcp u v := List.length_drop
  have lv : (dlyD u v).2.length = v.length - lcp u v := List.length_drop
  obtain ⟨cp, cu, cv⟩ := c
  dsimp only at e
  unfold sdC moC
  simp only [apt]
  unfold cutD at e
  refine ⟨fun ⟨h1, h2⟩ => ?_, fun h1 h2 => ?_, fun h1 h2 => ?_, fun h1 h2 => ?_⟩
  · rw [if_pos ⟨by omega, by omega⟩] at e
    have e1 := congrArg Prod.fst e
    have e2 := congrArg Prod.snd e
    dsimp only at e1 e2
    rw [if_pos]
    rw [e1, e2]
    exact decide_eq_true ⟨by rw [List.length_take]; omega, by rw [List.length_take]; omega⟩
  · rw [if_neg (by omega)] at e
    have e1 : cu = u.drop (lcp u v) := congrArg Prod.fst e
    have e2 : cv = v.drop (lcp u v) := congrArg Prod.snd e
    have z1 : 0 < cu.length := by rw [e1, List.length_drop]; omega
    have z2 : ¬ 0 < cv.length := by rw [e2, List.length_drop]; omega
    have hna : ¬ decide (0 < cu.length ∧ 0 < cv.length) = true := fun w => z2 (of_decide_eq_true w).2
    simp only [if_neg hna, if_pos z1]
    exact ⟨trivial, e1⟩
  · rw [if_neg (by omega)] at e
    have e1 : cu = u.drop (lcp u v) := congrArg Prod.fst e
    have e2 : cv = v.drop (lcp u v) := congrArg Prod.snd e
    have z1 : ¬ 0 < cu.length := by rw [e1, List.length_drop]; omega
    have z2 : 0 < cv.length := by rw [e2, List.length_drop]; omega
    have hna : ¬ decide (0 < cu.length ∧ 0 < cv.length) = true := fun w => z1 (of_decide_eq_true w).1
    simp only [if_neg hna, if_neg z1, if_pos z2]
    exact ⟨trivial, e2⟩
  · rw [if_neg (by omega)] at e
    have e1 : cu = u.drop (lcp u v) := congrArg Prod.fst e
    have e2 : cv = v.drop (lcp u v) := congrArg Prod.snd e
    have z1 : ¬ 0 < cu.length := by rw [e1, List.length_drop]; omega
    have z2 : ¬ 0 < cv.length := by rw [e2, List.length_drop]; omega
    have hna : ¬ decide (0 < cu.length ∧ 0 < cv.length) = true := fun w => z1 (of_decide_eq_true w).1
    simp only [if_neg hna, if_neg z1, if_neg z2]
    exact ⟨trivial, List.length_eq_zero_iff.mp (by omega)⟩
/-- how the side and what is left are read -/
def SdR (h : zM) (m : Nat) (c : zCf) : Prop := ∃ u v, LR h m u v ∧ u.length ≤ 300 ∧ v.length ≤ 300 ∧ LOk u ∧ LOk v ∧ (sdC c = 1 → moC c = u.drop (lcp u v)) ∧ (sdC c = 2 → moC c = v.drop (lcp u v)) ∧ (sdC c ≠ 1 → sdC c ≠ 2 → moC c = [])
theorem CN.sd {h : zM} {m : Nat} {br : Int32} {c : zCf} (d : CN h m br c) : SdR h m c := by
  obtain ⟨u, v, l, lu, lv, ou, ov, q⟩ := d
  refine ⟨u, v, l, lu, lv, ou, ov, ?_⟩
  have m3 : sdC c = 3 → moC c = [] := fun e => if_pos (sdC_3.mp e)
  rcases q with ⟨-, ha⟩ | ⟨-, e⟩
  · have s3 := sdC_3.mpr ha
    exact ⟨fun e => by omega, fun e => by omega, fun _ _ => m3 s3⟩
  · obtain ⟨c1, c2, c3, c4⟩ := cut_sd e
    by_cases a : lcp u v < u.length
    · by_cases b : lcp u v < v.length
      · have s3 := c1 ⟨a, b⟩
        exact ⟨fun e => by omega, fun e => by omega, fun _ _ => m3 s3⟩
      · obtain ⟨s, r⟩ := c2 a b
        exact ⟨fun _ => r, fun e => by omega, fun e => absurd s e⟩
    · by_cases b : lcp u v < v.length
      · obtain ⟨s, r⟩ := c3 a b
        exact ⟨fun e => by omega, fun _ => r, fun _ e => absurd s e⟩
      · obtain ⟨s, r⟩ := c4 a b
        exact ⟨fun e => by omega, fun e => by omega, fun _ _ => r⟩
theorem SdR.o {h h' : zM} {m : Nat} {c : zCf} {L J : List Nat} (d : SdR h m c) (o : zOf m L J h h') (hL : 39 ∉ L ∧ 40 ∉ L) (hJ : 45 ∉ J ∧ 46 ∉ J ∧ 47 ∉ J) : SdR h' m c := by
  obtain ⟨u, v, l, r⟩ := d
  exact ⟨u, v, l.o o hL hJ, r⟩
theorem LOk.mo {h : zM} {m : Nat} {c : zCf} (d : SdR h m c) : LOk (moC c) ∧ (moC c).length ≤ 300 := by
  obtain ⟨u, v, l, lu, lv, ou, ov, q1, q2, q3⟩ := d
  by_cases s1 : sdC c = 1
  · rw [q1 s1, List.length_drop]
    exact ⟨ou.drop _, by omega⟩
  · by_cases s2 : sdC c = 2
    · rw [q2 s2, List.length_drop]
      exact ⟨ov.drop _, by omega⟩
    · rw [q3 s1 s2]
      exact ⟨LOk.nil, by decide⟩
theorem getD_drop {w : zWo} {n j : Nat} : (w.drop n).getD j 0 = w.getD (n + j) 0 := by
  rw [List.getD_eq_getElem?_getD, List.getD_eq_getElem?_getD, List.getElem?_drop]
/-- one letter of what is left, as it is read -/
theorem SdR.rd {h : zM} {m j : Nat} {c : zCf} (lay : MLay h m) (d : SdR h m c) (hj : j < (moC c).length) {R : Type} (F : Int32 → Option R) :
    (if nI (sdC c) = (1 : Int32) then (zgF h m 12 43).bind fun r2 => (zgI h m 12 47).bind fun v2 => (zia h r2 (v2 + nI j)).bind F else (zgF h m 12 44).bind fun r3 => (zgI h m 12 47).bind fun v4 => (zia h r3 (v4 + nI j)).bind F) = F ((moC c).getD j 0) := by
  have sd := sdC_le c
  obtain ⟨u, v, l, lu, lv, ou, ov, q1, q2, q3⟩ := d
  obtain ⟨l1, l2, l3, l4, l5⟩ := l
  have hle := lcp_le u v
  by_cases s1 : sdC c = 1
  · have e := q1 s1
    rw [e, List.length_drop] at hj
    have r := l3 (lcp u v + j) (by omega)
    rw [Nat.zero_add] at r
    rw [if_pos (by rw [s1]; rfl), e, getD_drop, mF43 lay, Option.bind_some, mi47 lay, Option.bind_some, l5, nI_add, mr43 lay (by omega), Option.bind_some, r]
  · by_cases s2 : sdC c = 2
    · have e := q2 s2
      rw [e, List.length_drop] at hj
      have r := l4 (lcp u v + j) (by omega)
      rw [Nat.zero_add] at r
      rw [if_neg (by rw [n1, nI_eq (by omega) (by omega)]; exact s1), e, getD_drop, mF44 lay, Option.bind_some, mi47 lay, Option.bind_some, l5, nI_add, mr44 lay (by omega), Option.bind_some, r]
    · rw [q3 s1 s2] at hj
      exact absurd hj (Nat.not_lt_zero _)
/-- the letters of one that is there against what comes -/
theorem s_conf215 {h : zM} {m i : Nat} {k c : zCf} {b1 b2 b3 b4 b5 b6 b7 : Int32} (lay : MLay h m) (hi : i < 72) (d : CF h m i k) (s : SdR h m c) (e2 : (moC k).length = (moC c).length) :
    zm_X12_config 215 [some (.inr m), some (.inl b1), some (.inl b2), some (.inl b3), some (.inl b4), some (.inl b5), some (.inl b6), some (.inl b7), some (.inl (nI (sdC c))), some (.inl (nI i)), some (.inl (nI (moC c).length)), some (.inl (1 : Int32)), some (.inl (nI 0))] [] h = if moC k = moC c then some (0, 0, h) else zm_X12_config 96 [some (.inr m), some (.inl b1), some (.inl b2), some (.inl b3), some (.inl b4), some (.inl b5), some (.inl b6), some (.inl b7), some (.inl (nI (sdC c))), some (.inl (nI (i + 1))), none, none, none] [] h := by
  obtain ⟨d1, d2, d3, d4, d5⟩ := d
  have ml := (LOk.mo s).2
  have hle := lcp_le (moC k) (moC c)
  have loop : ∀ (f j : Nat), f + j = lcp (moC k) (moC c) → zm_X12_config 215 [some (.inr m), some (.inl b1), some (.inl b2), some (.inl b3), some (.inl b4), some (.inl b5), some (.inl b6), some (.inl b7), some (.inl (nI (sdC c))), some (.inl (nI i)), some (.inl (nI (moC c).length)), some (.inl (1 : Int32)), some (.inl (nI j))] [] h = if moC k = moC c then some (0, 0, h) else zm_X12_config 96 [some (.inr m), some (.inl b1), some (.inl b2), some (.inl b3), some (.inl b4), some (.inl b5), some (.inl b6), some (.inl b7), some (.inl (nI (sdC c))), some (.inl (nI (i + 1))), none, none, none] [] h := by
    intro f
    induction f with
    | zero =>
      intro j hj
      have hj : j = lcp (moC k) (moC c) := by omega
      subst hj
      have sp := lcp_spec (moC k) (moC c) _ (Nat.le_refl _)
      have al := lcp_all e2
      rw [e_X12_config_215, if_neg (by decide)]
      by_cases c1 : lcp (moC k) (moC c) < (moC c).length
      · rw [if_pos ((nI_ltI (by omega) (by omega)).mpr c1), if_neg (fun q => by have := al.mpr q; omega)]
        have rk := d5 (lcp (moC k) (moC c)) (by omega)
        rw [mF37 lay, Option.bind_some, n600, pk_mul, nI_add, mr37 lay (by omega), Option.bind_some, rk, s.rd lay c1, if_neg (fun q => Nat.lt_irrefl _ (sp.mp ⟨by omega, c1, q⟩)), e_X12_config_215, if_pos rfl, if_pos rfl, nI_1]
      · rw [if_neg (by rw [nI_ltI (by omega) (by omega)]; exact c1), if_neg (by decide), if_pos (al.mp (by omega))]
    | succ f ih =>
      intro j hj
      have sp := (lcp_spec (moC k) (moC c) j (by omega)).mpr (by omega)
      have rk := d5 j sp.1
      rw [e_X12_config_215, if_neg (by decide), if_pos ((nI_ltI (by omega) (by omega)).mpr sp.2.1), mF37 lay, Option.bind_some, n600, pk_mul, nI_add, mr37 lay (by omega), Option.bind_some, rk, s.rd lay sp.2.1, if_pos sp.2.2, nI_1]
      exact ih (j + 1) (by omega)
  exact loop (lcp (moC k) (moC c)) 0 rfl
