/-! The least machine, as both sides have it. -/
section LS
variable {M : zMa}
abbrev lsN (M : zMa) : Nat := (sMake M).1.length
noncomputable def hdW (M : zMa) (s : Nat) : zWo := @dite _ (∃ w, isHd M s w) (Classical.propDecidable _) (fun h => Classical.choose h) (fun _ => [])
theorem hdW_ok (h : sGood M) {s : Nat} (hs : s < lsN M) : isHd M s (hdW M s) := by
  have ex : ∃ w, isHd M s w := by
    have hc : ∀ s, s < (sMake M).1.length → ∃ v, ∃ k, k ≤ 6 ∧ lgW M (sMake M) k s v := fun s hs => by
      obtain ⟨k, v, a, b⟩ := lg_some h hs
      exact ⟨v, k, a, b⟩
    have hD : guD M (fun s => @dite _ (s < (sMake M).1.length) (Classical.propDecidable _) (fun h => Classical.choose (hc s h)) (fun _ => [])) := fun s hs => by
      dsimp only
      rw [dif_pos hs]
      exact Classical.choose_spec (hc s hs)
    exact ⟨_, (shL_ok h _ _ ⟨guD_ge hD, guD_len h hD⟩ (Nat.lt_succ_self _)).1 s hs⟩
  unfold hdW
  rw [dif_pos ex]
  exact Classical.choose_spec ex
theorem hdW_eq (h : sGood M) {s : Nat} (hs : s < lsN M) {w : zWo} (hw : isHd M s w) : w = hdW M s := isHd_one hw (hdW_ok h hs)
theorem hdW_len (h : sGood M) {s : Nat} (hs : s < lsN M) : (hdW M s).length ≤ 129 ∧ LOk (hdW M s) := by
  obtain ⟨k, v, hk, hv⟩ := lg_some h hs
  have hp := (hdW_ok h hs).1 k v hv
  have := lg_len2 h hv
  have := hp.length_le
  exact ⟨by omega, fun x hx => (lg_len2 h hv).2 x (hp.subset hx)⟩
theorem go_len (h : sGood M) {s j g : Nat} {o : zWo} (hj : j < 3) (e : goAt (sMake M) (3 * s + j) = some (o, g)) : o.length ≤ 111 ∧ LOk o := by
  have hs := (h.go_lt e hj).1
  have hg := h.go hs hj
  rw [e] at hg
  obtain ⟨g1, g2, g3⟩ := hg
  obtain ⟨q, x, hx⟩ := stNo_not g1
  obtain ⟨q1, hq1⟩ := mem_stAt.mp (w1st_mem g1)
  obtain ⟨a, ha, a1, a2, a3, r, hr, ev⟩ := (gath_in h.1 _ _).2 _ _ hq1
  have l1 := se_len h.1 h.2.2.1 (h.se hs) hr
  have l2 := (h.1.2.2.2.2 a ha).2.2.2.len
  rw [g2, ev, List.length_take, List.length_append]
  exact ⟨by omega, (l1.2.app (h.1.wLOk ha)).take _⟩
theorem end_len (h : sGood M) {s : Nat} (hs : s < lsN M) {v : zWo} (e : stEnd M (seAt (sMake M) s) = some v) : v.length ≤ 111 ∧ LOk v := by
  obtain ⟨q, r, e', hr, he, hv⟩ := stEnd_in e
  have l1 := se_len h.1 h.2.2.1 (h.se hs) hr
  have kw := (h.1.2.2.1 q e' he).2
  have := kw.len
  rw [hv, List.length_append]
  exact ⟨by omega, l1.2.app kw.dig⟩
noncomputable def lsE (M : zMa) (s : Nat) : Option zWo := (stEnd M (seAt (sMake M) s)).map (·.drop (hdW M s).length)
noncomputable def lsW (M : zMa) (i : Nat) : Option (zWo × Nat) := (goAt (sMake M) i).map fun p => ((p.1 ++ hdW M p.2).drop (hdW M (i / 3)).length, p.2)
noncomputable def lsB (M : zMa) : Nat → Nat := pFin (lsE M) (lsW M)
noncomputable def lsP (M : zMa) : List Nat := nmP (lsN M) (lsB M) (lsW M)
abbrev zLz : Type := Nat × zWo × (Nat → Option zWo) × (Nat → Option (zWo × Nat))
/-- the number of a set's block -/
noncomputable def lsV (M : zMa) (s : Nat) : Nat := fdx (fun c => decide (c = lsB M s)) (lsP M)
noncomputable def lsZ (M : zMa) : zLz := ((lsP M).length, if lsN M = 0 then [] else hdW M 0, fun q => lsE M ((lsP M).getD q 0), fun i => (lsW M (3 * (lsP M).getD (i / 3) 0 + i % 3)).map fun p => (p.1, lsV M p.2))
theorem goAt_lt (h : sGood M) {i : Nat} {p : zWo × Nat} (e : goAt (sMake M) i = some p) : i / 3 < lsN M ∧ p.2 < lsN M := by
  rw [show i = 3 * (i / 3) + i % 3 by omega] at e
  exact h.go_lt e (by omega)
theorem lsW_lt (h : sGood M) : ∀ i p, lsW M i = some p → p.2 < lsN M := by
  intro i p e
  unfold lsW at e
  obtain ⟨q, hq, rfl⟩ := Option.map_eq_some_iff.mp e
  exact (goAt_lt h hq).2
theorem lsW_len (h : sGood M) {i : Nat} {p : zWo × Nat} (e : lsW M i = some p) : p.1.length ≤ 240 ∧ LOk p.1 := by
  unfold lsW at e
  obtain ⟨q, hq, rfl⟩ := Option.map_eq_some_iff.mp e
  have lt := goAt_lt h hq
  rw [show i = 3 * (i / 3) + i % 3 by omega] at hq
  have a := go_len h (by omega) hq
  have b := hdW_len h lt.2
  dsimp only
  rw [List.length_drop, List.length_append]
  exact ⟨by omega, (a.2.app b.2).drop _⟩
theorem lsE_len (h : sGood M) {s : Nat} (hs : s < lsN M) {v : zWo} (e : lsE M s = some v) : v.length ≤ 111 ∧ LOk v := by
  unfold lsE at e
  obtain ⟨q, hq, rfl⟩ := Option.map_eq_some_iff.mp e
  have := end_len h hs hq
  rw [List.length_drop]
  exact ⟨by omega, this.2.drop _⟩
theorem lsB_ok (h : sGood M) : pOk' (lsN M) (lsE M) (lsW M) (lsB M) := pFin_ok
theorem lsP_ok (h : sGood M) : nmOk (lsN M) (lsB M) (lsP M) := nmSeq_ok (lsB_ok h).1 (lsW_lt h) 100
theorem lsP_len (h : sGood M) : (lsP M).length ≤ lsN M := nmSeq_len (lsB_ok h).1 (lsW_lt h) 100
theorem lsP_0 (h : sGood M) (hn : lsN M ≠ 0) : (lsP M)[0]? = some 0 := by
  obtain ⟨t, e⟩ := qSeq_pre (s0 := if lsN M = 0 then [] else [0]) (nmStep_pre (lsB M) (lsW M)) 0 100
  unfold lsP nmP nmSeq
  rw [show (100 : Nat) = 0 + 100 from rfl, e]
  show ((if lsN M = 0 then [] else [0]) ++ t)[0]? = _
  rw [if_neg hn]
  rfl
theorem lsV_get {s : Nat} (hs : lsB M s ∈ lsP M) : lsV M s < (lsP M).length ∧ (lsP M).getD (lsV M s) 0 = lsB M s := by
  have hl : lsV M s < (lsP M).length := by
    rcases Nat.lt_or_ge (lsV M s) (lsP M).length with c | c
    · exact c
    · exfalso
      obtain ⟨i, hi, e⟩ := List.mem_iff_getElem.mp hs
      have hn : ∀ j, j < fdx (fun c => decide (c = lsB M s)) (lsP M) → ∀ x, (lsP M)[j]? = some x → decide (x = lsB M s) = false := by
        have : ∀ (l : List Nat) (j : Nat), j < fdx (fun c => decide (c = lsB M s)) l → ∀ x, l[j]? = some x → decide (x = lsB M s) = false := by
          intro l
          induction l with
          | nil => intro j _ x hx; simp at hx
          | cons y ys ih =>
            intro j hj x hx
            unfold fdx at hj
            by_cases q : decide (y = lsB M s) = true
            · rw [if_pos q] at hj; omega
            · rw [if_neg q] at hj
              cases j with
              | zero =>
                have : y = x := by simpa using hx
                subst this
                simpa using q
              | succ j => exact ih j (by omega) x (by simpa using hx)
        exact this (lsP M)
      have := hn i (by unfold lsV at c; omega) (lsB M s) (by rw [List.getElem?_eq_getElem hi, e])
      simp at this
  refine ⟨hl, ?_⟩
  obtain ⟨x, a, b⟩ := fdx_get (p := fun c => decide (c = lsB M s)) (l := lsP M) hl
  rw [List.getD_eq_getElem?_getD]
  show (lsP M)[lsV M s]?.getD 0 = _
  unfold lsV
  rw [a]
  exact of_decide_eq_true b
theorem lsV_of (h : sGood M) {q : Nat} (hq : q < (lsP M).length) : lsV M ((lsP M).getD q 0) = q := by
  have ok := lsP_ok h
  have hm : (lsP M).getD q 0 ∈ lsP M := by
    rw [List.getD_eq_getElem?_getD, List.getElem?_eq_getElem hq]
    exact List.getElem_mem hq
  unfold lsV
  refine fdx_at (e := (lsP M).getD q 0) ?_ ?_ (fun j x hj hx => ?_)
  · rw [List.getD_eq_getElem?_getD, List.getElem?_eq_getElem hq]; rfl
  · exact decide_eq_true (ok.2 _ hm).2.symm
  · refine decide_eq_false (fun z => ?_)
    rw [(ok.2 _ hm).2] at z
    obtain ⟨hj2, e⟩ := List.getElem?_eq_some_iff.mp hx
    have e2 : (lsP M)[j] = (lsP M)[q] := by
      rw [e, z, List.getD_eq_getElem?_getD, List.getElem?_eq_getElem hq]; rfl
    have := (List.getElem_inj ok.1).mp e2
    omega
theorem lsZ_1 : (lsZ M).1 = (lsP M).length := by unfold lsZ; dsimp only
theorem lsZ_2 : (lsZ M).2.1 = if lsN M = 0 then [] else hdW M 0 := by unfold lsZ; dsimp only
theorem lsZ_E (q : Nat) : (lsZ M).2.2.1 q = lsE M ((lsP M).getD q 0) := by unfold lsZ; dsimp only
theorem lsZ_W (i : Nat) : (lsZ M).2.2.2 i = (lsW M (3 * (lsP M).getD (i / 3) 0 + i % 3)).map fun p => (p.1, lsV M p.2) := by unfold lsZ; dsimp only
/-- a set's way, by numbers -/
theorem lz_way (h : sGood M) {s j : Nat} (hs : s < lsN M) (hj : j < 3) (hm : lsB M s ∈ lsP M) : (lsZ M).2.2.2 (3 * lsV M s + j) = (lsW M (3 * s + j)).map (fun p => (p.1, lsV M p.2)) ∧ ∀ p, lsW M (3 * s + j) = some p → lsB M p.2 ∈ lsP M := by
  have hB := (lsB_ok h).1 s hs
  have w := pFin_way (lsW_lt h) h.2.2.2 (show lsB M s < lsN M by omega) hs hB.2 hj
  have hg := (lsV_get hm).2
  refine ⟨?_, fun p e => ?_⟩
  · rw [lsZ_W, show (3 * lsV M s + j) / 3 = lsV M s by omega, show (3 * lsV M s + j) % 3 = j by omega, hg]
    have w := congrArg (Option.map (fun p : zWo × Nat => (p.1, fdx (fun c => decide (c = p.2)) (lsP M)))) w
    rw [Option.map_map, Option.map_map] at w
    exact w
  · rw [e] at w
    cases e2 : lsW M (3 * lsB M s + j) with
    | none => rw [e2] at w; cases w
    | some p' =>
      rw [e2] at w
      have e3 : lsB M p'.2 = lsB M p.2 := congrArg Prod.snd (Option.some.inj w)
      rw [← e3]
      exact nmP_closed (lsB_ok h).1 (lsW_lt h) h.2.2.2 hm hj e2
theorem lz_end (h : sGood M) {s : Nat} (hs : s < lsN M) (hm : lsB M s ∈ lsP M) : (lsZ M).2.2.1 (lsV M s) = lsE M s := by
  have hB := (lsB_ok h).1 s hs
  rw [lsZ_E, (lsV_get hm).2]
  exact pFin_end (show lsB M s < lsN M by omega) hs hB.2
/-- what the least machine writes -/
def acZ (Z : zLz) : Nat → List Nat → Option zWo
  | q, [] => Z.2.2.1 q
  | q, l :: us => match Z.2.2.2 (3 * q + (l - 1)) with
    | some p => (acZ Z p.2 us).map (p.1 ++ ·)
    | none => none
theorem acZ_nil (Z : zLz) (q : Nat) : acZ Z q [] = Z.2.2.1 q := rfl
theorem acZ_cons (Z : zLz) (q l : Nat) (us : List Nat) : acZ Z q (l :: us) = match Z.2.2.2 (3 * q + (l - 1)) with
    | some p => (acZ Z p.2 us).map (p.1 ++ ·)
    | none => none := rfl
def acF (Z : zLz) (us : List Nat) : Option zWo := if Z.1 = 0 then none else (acZ Z 0 us).map (Z.2.1 ++ ·)
theorem ls_sum (h : sGood M) {s : Nat} {w : List Nat} {c x : zWo} (hw : stWd M w c (seAt (sMake M) s)) (hx : stEnd M (seAt (sMake M) s) = some x) : (c ++ x).length ≤ 3 * w.length + 3 := by
  obtain ⟨q, r, e', hr, he, hv⟩ := stEnd_in hx
  have l1 := (upS_len h.1 (hw q r hr)).1
  have l2 := (h.1.2.2.1 q e' he).2.len
  rw [hv, ← List.append_assoc, List.length_append]
  exact Nat.add_le_add l1 l2
theorem ls_nil (h : sGood M) {s : Nat} {w : List Nat} {c v : zWo} (hs : s < lsN M) (hw : stWd M w c (seAt (sMake M) s)) (e : lsE M s = some v) : (c ++ hdW M s ++ v).length ≤ 3 * w.length + 3 := by
  unfold lsE at e
  obtain ⟨x, hx, rfl⟩ := Option.map_eq_some_iff.mp e
  obtain ⟨t, et⟩ := (hdW_ok h hs).1 0 x hx
  have := ls_sum h hw hx
  rw [← et] at this ⊢
  rw [List.drop_left, List.append_assoc]
  exact this
theorem ls_cons (h : sGood M) {s l : Nat} {w : List Nat} {c : zWo} {p : zWo × Nat} (hl : l < 3) (hs : s < lsN M) (hw : stWd M w c (seAt (sMake M) s)) (e : lsW M (3 * s + l) = some p) : ∃ o, stWd M ((l + 1) :: w) (c ++ o) (seAt (sMake M) p.2) ∧ hdW M s ++ p.1 = o ++ hdW M p.2 := by
  have hs2 := lsW_lt h _ _ e
  unfold lsW at e
  obtain ⟨q, hq, rfl⟩ := Option.map_eq_some_iff.mp e
  have hgo := h.go hs hl
  rw [hq] at hgo
  obtain ⟨g1, g2, g3⟩ := hgo
  have hwd := gath_wd h.1 hw (l + 1)
  rw [← seAt_of g3, ← g2] at hwd
  refine ⟨q.1, hwd, ?_⟩
  obtain ⟨t, et⟩ := pre_go h (hdW_ok h hs).1 hl hq (hdW_ok h hs2).2
  dsimp only at et ⊢
  rw [show (3 * s + l) / 3 = s by omega, ← et, List.drop_left]
theorem acZ_len (h : sGood M) {Z : zLz} (hE : ∀ s, s < lsN M → lsB M s ∈ lsP M → Z.2.2.1 (lsV M s) = lsE M s) (hWy : ∀ s j, s < lsN M → j < 3 → lsB M s ∈ lsP M → Z.2.2.2 (3 * lsV M s + j) = (lsW M (3 * s + j)).map (fun p => (p.1, lsV M p.2)) ∧ ∀ p, lsW M (3 * s + j) = some p → lsB M p.2 ∈ lsP M) : ∀ (us : List Nat) (s : Nat) (w : List Nat) (c v : zWo), (∀ l ∈ us, 1 ≤ l ∧ l ≤ 3) → s < lsN M → lsB M s ∈ lsP M → stWd M w c (seAt (sMake M) s) → acZ Z (lsV M s) us = some v → (c ++ hdW M s ++ v).length ≤ 3 * (w.length + us.length) + 3 := by
  intro us
  induction us with
  | nil =>
    intro s w c v _ hs hm hw e
    rw [acZ_nil, hE s hs hm] at e
    exact ls_nil h hs hw e
  | cons l us ih =>
    intro s w c v hl hs hm hw e
    obtain ⟨hl1, hl2⟩ := hl l List.mem_cons_self
    have hl3 : l - 1 < 3 := by clear hs; omega
    obtain ⟨w1, w2⟩ := hWy s (l - 1) hs hl3 hm
    rw [acZ_cons, w1] at e
    cases e2 : lsW M (3 * s + (l - 1)) with
    | none => rw [e2] at e; cases e
    | some p =>
      rw [e2, Option.map_some] at e
      dsimp only at e
      obtain ⟨v', hv', rfl⟩ := Option.map_eq_some_iff.mp e
      obtain ⟨o, o1, o2⟩ := ls_cons h hl3 hs hw e2
      have := ih p.2 _ (c ++ o) v' (fun x hx => hl x (List.mem_cons_of_mem _ hx)) (lsW_lt h _ _ e2) (w2 p e2) o1 hv'
      have e3 : c ++ hdW M s ++ (p.1 ++ v') = c ++ o ++ hdW M p.2 ++ v' := by
        rw [← List.append_assoc, List.append_assoc c, o2, ← List.append_assoc]
      rw [e3]
      refine Nat.le_trans this ?_
      clear this hs
      simp only [List.length_cons]
      omega
theorem lsN_0 (h : (lsZ M).1 ≠ 0) (hg : sGood M) : lsN M ≠ 0 := fun z => h (by
  have hz := lsP_len hg
  rw [z] at hz
  rw [lsZ_1]
  exact Nat.le_zero.mp hz)
theorem lsV_0 (h : sGood M) (hn : lsN M ≠ 0) : lsB M 0 ∈ lsP M ∧ lsV M 0 = 0 := by
  have hP := lsP_0 h hn
  have hB := ((lsB_ok h).1 0 (Nat.pos_of_ne_zero hn)).1
  have hB0 : lsB M 0 = 0 := Nat.le_zero.mp hB
  refine ⟨by rw [hB0]; exact List.mem_of_getElem? hP, ?_⟩
  have := lsV_of h (q := 0) (List.getElem?_eq_some_iff.mp hP).1
  rw [List.getD_eq_getElem?_getD, hP] at this
  exact this
theorem sIni_some (hn : lsN M ≠ 0) : stNo (sIni M) = false := by
  cases z : stNo (sIni M) with
  | false => rfl
  | true =>
    exfalso
    apply hn
    unfold lsN sMake
    rw [if_pos z]
    rfl
theorem acF_len (h : sGood M) {us : List Nat} {v : zWo} (hl : ∀ l ∈ us, 1 ≤ l ∧ l ≤ 3) (e : acF (lsZ M) us = some v) : v.length ≤ 3 * us.length + 3 := by
  unfold acF at e
  by_cases c : (lsZ M).1 = 0
  · rw [if_pos c] at e; cases e
  · rw [if_neg c] at e
    obtain ⟨v', hv', rfl⟩ := Option.map_eq_some_iff.mp e
    have hn := lsN_0 c h
    obtain ⟨hm, hV⟩ := lsV_0 h hn
    have hi := sIni_some hn
    have hw := (sIni_ok h.1 hi).2
    rw [← seAt_of (sMake_0 hi)] at hw
    have := acZ_len h (Z := lsZ M) (fun s hs hm => lz_end h hs hm) (fun s j hs hj hm => lz_way h hs hj hm) us 0 [] [] v' hl (Nat.pos_of_ne_zero hn) hm hw (by rw [hV]; exact hv')
    rw [lsZ_2, if_neg hn]
    rw [List.nil_append, List.length_nil, Nat.zero_add] at this
    exact this
end LS
