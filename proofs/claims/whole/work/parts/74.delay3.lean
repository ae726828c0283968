/-! Two delays a pair: pairs that can't come to ends may be left out. -/
section FIL
variable {F : Nat × Nat → Bool} {M N : zMa}
theorem rejC_filt {K : List zCf} {c : zCf} (hc : F c.1 = true) : rejC (K.filter fun k => F k.1) c = rejC K c := by
  unfold rejC
  rw [List.filter_filter]
  have e1 : (K.filter fun a => decide (a.1 = c.1) && F a.1) = K.filter fun k => decide (k.1 = c.1) := List.filter_congr fun x _ => by
    by_cases e : x.1 = c.1
    · rw [e, hc]; simp
    · simp [e]
  rw [e1]
  congr 1
  rw [List.any_filter]
  congr 1
  funext x
  by_cases e : x.1 = c.1
  · rw [e, hc]; simp
  · simp [e]
theorem addC_filt (K : List zCf) (c : zCf) : (addC FT K c).filter (fun k => F k.1) = addC F (K.filter fun k => F k.1) c := by
  unfold addC
  by_cases hc : F c.1 = true
  · rw [rejC_filt hc]
    by_cases hr : rejC K c = false
    · rw [if_pos ⟨rfl, hr⟩, if_pos ⟨hc, hr⟩, List.filter_append]
      simp [hc]
    · rw [if_neg (fun z => hr z.2), if_neg (fun z => hr z.2)]
  · rw [if_neg (fun z : F c.1 = true ∧ _ => hc z.1)]
    split
    · rw [List.filter_append]
      simp [hc]
    · rfl
theorem fold_filt {α : Type} {f g : List zCf → α → List zCf} (h : ∀ K x, (f K x).filter (fun k => F k.1) = g (K.filter fun k => F k.1) x) : ∀ (l : List α) (K : List zCf), (l.foldl f K).filter (fun k => F k.1) = l.foldl g (K.filter fun k => F k.1)
  | [], K => rfl
  | x :: l, K => by rw [List.foldl_cons, List.foldl_cons, fold_filt h l, h]
theorem xCf_filt (l : Nat) (K : List zCf) (c : zCf) : (xCf FT M N l K c).filter (fun k => F k.1) = xCf F M N l (K.filter fun k => F k.1) c :=
  fold_filt (fun K a => by
    unfold xArc
    split
    · exact fold_filt (fun K b => by
        unfold xArc2
        split
        · exact addC_filt _ _
        · rfl) _ _
    · rfl) _ _
theorem foldl_same {α β : Type} {f : β → α → β} : ∀ (l : List α) (s : β), (∀ x ∈ l, ∀ s, f s x = s) → l.foldl f s = s
  | [], s, _ => rfl
  | x :: l, s, h => by rw [List.foldl_cons, h x List.mem_cons_self, foldl_same l s (fun y hy => h y (List.mem_cons_of_mem _ hy))]
/-- what follows a pair that can't come to ends can't either -/
theorem xCf_no (hB : ∀ a ∈ M.2.2.2, ∀ b ∈ N.2.2.2, a.2.1 = b.2.1 → F (a.2.2.1, b.2.2.1) = true → F (a.1, b.1) = true) {l : Nat} {c : zCf} (hc : F c.1 = false) (K : List zCf) : xCf F M N l K c = K := by
  unfold xCf
  refine foldl_same _ _ (fun a ha K => ?_)
  unfold xArc
  split
  · rename_i h1
    refine foldl_same _ _ (fun b hb K => ?_)
    unfold xArc2
    split
    · rename_i h2
      unfold addC
      rw [if_neg]
      rintro ⟨z, _⟩
      have := hB a ha b hb (by rw [h1.2, h2.2]) z
      rw [show (a.1, b.1) = c.1 from Prod.ext h1.1 h2.1, hc] at this
      cases this
    · rfl
  · rfl
theorem xGr_filt (hB : ∀ a ∈ M.2.2.2, ∀ b ∈ N.2.2.2, a.2.1 = b.2.1 → F (a.2.2.1, b.2.2.1) = true → F (a.1, b.1) = true) (l : Nat) : ∀ (cs K : List zCf), (xGr FT M N l K cs).filter (fun k => F k.1) = xGr F M N l (K.filter fun k => F k.1) (cs.filter fun k => F k.1)
  | [], K => rfl
  | c :: cs, K => by
    have ih := xGr_filt hB l cs (xCf FT M N l K c)
    rw [xCf_filt] at ih
    rw [List.filter_cons]
    by_cases hc : F c.1 = true
    · rw [if_pos hc]
      exact ih
    · rw [if_neg hc]
      rw [xCf_no hB (by simpa using hc)] at ih
      exact ih
def fG (F : Nat × Nat → Bool) (g : zGp) : zGp := (g.1.filter fun k => F k.1, g.2)
def nf (F : Nat × Nat → Bool) (Gs : List zGp) : List zGp := (Gs.map (fG F)).filter fun g => !g.1.isEmpty
theorem nf_app (A B : List zGp) : nf F (A ++ B) = nf F A ++ nf F B := by unfold nf; rw [List.map_append, List.filter_append]
theorem nf_one (g : zGp) : nf F [g] = if (fG F g).1 = [] then [] else [fG F g] := by
  unfold nf
  rw [List.map_singleton]
  by_cases h : (fG F g).1 = []
  · simp [h]
  · simp [h]
theorem allK_nf : ∀ Gs : List zGp, allK (nf F Gs) = (allK Gs).filter fun k => F k.1
  | [] => rfl
  | g :: Gs => by
    have ih := allK_nf Gs
    rw [show g :: Gs = [g] ++ Gs from rfl, nf_app, allK_app, allK_app, List.filter_append, ih, nf_one]
    congr 1
    have e : allK [g] = g.1 := by simp [allK]
    rw [e]
    split
    · rename_i h
      exact h.symm
    · simp [allK, fG]
theorem growG_nf (hB : ∀ a ∈ M.2.2.2, ∀ b ∈ N.2.2.2, a.2.1 = b.2.1 → F (a.2.2.1, b.2.2.1) = true → F (a.1, b.1) = true) (l : Nat) (g : zGp) (Gs : List zGp) : nf F (growG FT M N l g Gs) = growG F M N l (fG F g) (nf F Gs) := by
  obtain ⟨t, e⟩ := xGr_pre FT M N l (allK Gs) g.1
  have e2 : xGr F M N l (allK (nf F Gs)) (fG F g).1 = allK (nf F Gs) ++ t.filter fun k => F k.1 := by
    rw [allK_nf]
    show xGr F M N l _ (g.1.filter _) = _
    rw [← xGr_filt hB, e, List.filter_append]
  have eR : growG F M N l (fG F g) (nf F Gs) = if (t.filter fun k => F k.1) = [] then nf F Gs else nf F Gs ++ [(t.filter fun k => F k.1, g.2 ++ [l])] := by
    unfold growG
    rw [e2, List.length_append, List.drop_left]
    by_cases z : (t.filter fun k => F k.1) = []
    · rw [if_pos z, if_pos (by rw [z]; rfl)]
    · rw [if_neg z, if_neg (by have := List.length_pos_iff.mpr z; omega)]
      rfl
  rw [eR]
  unfold growG
  rw [e, List.length_append, List.drop_left]
  by_cases z : t = []
  · rw [if_pos (by rw [z]; rfl), if_pos (by rw [z]; rfl)]
  · rw [if_neg (by have := List.length_pos_iff.mpr z; omega), nf_app, nf_one]
    show nf F Gs ++ (if (t.filter fun k => F k.1) = [] then [] else _) = _
    split
    · rw [List.append_nil]
    · rfl
theorem stepG_nf (hB : ∀ a ∈ M.2.2.2, ∀ b ∈ N.2.2.2, a.2.1 = b.2.1 → F (a.2.2.1, b.2.2.1) = true → F (a.1, b.1) = true) (g : zGp) (Gs : List zGp) : nf F (stepG FT M N g Gs) = stepG F M N (fG F g) (nf F Gs) := by
  unfold stepG
  rw [growG_nf hB, growG_nf hB, growG_nf hB]
theorem growG_nil (l : Nat) (w : List Nat) (Gs : List zGp) : growG F M N l ([], w) Gs = Gs := if_pos rfl
theorem iniG_nf : nf F (iniG FT M N) = iniG F M N := by
  have e : (iniK FT M N).filter (fun k => F k.1) = iniK F M N := fold_filt (fun K c => addC_filt K c) _ _
  unfold iniG
  by_cases h : (iniK FT M N).length = 0
  · have z := List.length_eq_zero_iff.mp h
    rw [if_pos h, if_pos (by rw [← e, z]; rfl)]
    rfl
  · rw [if_neg h, nf_one]
    show (if (iniK FT M N).filter (fun k => F k.1) = [] then _ else [((iniK FT M N).filter (fun k => F k.1), [])]) = _
    rw [e]
    by_cases z : iniK F M N = []
    · rw [if_pos z, if_pos (by rw [z]; rfl)]
    · rw [if_neg z, if_neg (by have := List.length_pos_iff.mpr z; omega)]
theorem seqG_nf (hB : ∀ a ∈ M.2.2.2, ∀ b ∈ N.2.2.2, a.2.1 = b.2.1 → F (a.2.2.1, b.2.2.1) = true → F (a.1, b.1) = true) : ∀ i, nf F (seqG FT M N i) = seqG F M N (nf F ((seqG FT M N i).take i)).length
  | 0 => by
    rw [List.take_zero]
    exact iniG_nf
  | i + 1 => by
    have ih := seqG_nf hB i
    cases hg : (seqG FT M N i)[i]? with
    | none =>
      have e : seqG FT M N (i + 1) = seqG FT M N i := qSeq_none hg
      have hl : (seqG FT M N i).length ≤ i := List.getElem?_eq_none_iff.mp hg
      rw [e, List.take_of_length_le (by omega)]
      rw [List.take_of_length_le hl] at ih
      exact ih
    | some g =>
      have e : seqG FT M N (i + 1) = stepG FT M N g (seqG FT M N i) := qSeq_some hg
      have hi : i < (seqG FT M N i).length := (List.getElem?_eq_some_iff.mp hg).1
      obtain ⟨t, et⟩ := stepG_pre FT M N g (seqG FT M N i)
      have e2 : (seqG FT M N (i + 1)).take (i + 1) = (seqG FT M N i).take i ++ [g] := by
        rw [e, et, List.take_append_of_le_length (by omega), List.take_add_one, hg]
        rfl
      rw [e2, nf_app, nf_one, e, stepG_nf hB]
      by_cases z : (fG F g).1 = []
      · rw [if_pos z, List.append_nil, ← ih]
        have : fG F g = ([], g.2) := Prod.ext z rfl
        unfold stepG
        rw [this, growG_nil, growG_nil, growG_nil]
      · rw [if_neg z, List.length_append]
        have hsp : seqG FT M N i = (seqG FT M N i).take i ++ ([g] ++ (seqG FT M N i).drop (i + 1)) := by
          have hge : (seqG FT M N i)[i] = g := by
            rw [List.getElem?_eq_getElem hi] at hg
            exact Option.some.inj hg
          rw [List.singleton_append, ← hge, ← List.drop_eq_getElem_cons hi, List.take_append_drop]
        have hget : (seqG F M N (nf F ((seqG FT M N i).take i)).length)[(nf F ((seqG FT M N i).take i)).length]? = some (fG F g) := by
          rw [← ih]
          have : nf F (seqG FT M N i) = nf F ((seqG FT M N i).take i) ++ (nf F [g] ++ nf F ((seqG FT M N i).drop (i + 1))) := by
            rw [← nf_app, ← nf_app, ← hsp]
          rw [this, nf_one, if_neg z, List.getElem?_append_right (Nat.le_refl _), Nat.sub_self]
          rfl
        show _ = qSeq _ _ (_ + 1)
        rw [qSeq_some hget]
        show _ = stepG F M N (fG F g) (seqG F M N _)
        rw [← ih]
theorem nf_find (hE : ∀ p q, (M.2.2.1 p).isSome = true → (N.2.2.1 q).isSome = true → F (p, q) = true) : ∀ Gs : List zGp, ((nf F Gs).find? (shwG M N)).map (·.2) = (Gs.find? (shwG M N)).map (·.2)
  | [] => rfl
  | g :: Gs => by
    have ih := nf_find hE Gs
    have hF : ∀ c, endC M N c = true → F c.1 = true := by
      intro c hc
      unfold endC at hc
      cases h1 : M.2.2.1 c.1.1 with
      | none => rw [h1] at hc; cases hc
      | some e =>
        cases h2 : N.2.2.1 c.1.2 with
        | none => rw [h1, h2] at hc; cases hc
        | some f => exact hE c.1.1 c.1.2 (by rw [h1]; rfl) (by rw [h2]; rfl)
    have es : shwG M N (fG F g) = shwG M N g := by
      unfold shwG fG
      rw [List.any_filter]
      congr 1
      funext c
      cases h : endC M N c with
      | false => simp
      | true => rw [hF c h]; rfl
    rw [show g :: Gs = [g] ++ Gs from rfl, nf_app, nf_one]
    by_cases z : (fG F g).1 = []
    · rw [if_pos z, List.nil_append, ih, List.singleton_append, List.find?_cons]
      have : shwG M N g = false := by
        rw [← es]
        unfold shwG
        rw [z]
        rfl
      rw [this]
    · rw [if_neg z, List.singleton_append, List.singleton_append, List.find?_cons, List.find?_cons, es]
      cases shwG M N g with
      | true => rfl
      | false => exact ih
/-- the reference's search finds the class's word -/
theorem difW_filt (kM : MaOk M) (kN : MaOk N) (hB : ∀ a ∈ M.2.2.2, ∀ b ∈ N.2.2.2, a.2.1 = b.2.1 → F (a.2.2.1, b.2.2.1) = true → F (a.1, b.1) = true) (hE : ∀ p q, (M.2.2.1 p).isSome = true → (N.2.2.1 q).isSome = true → F (p, q) = true) : difW F M N = difW FT M N := by
  have h := seqG_nf hB 73
  have l1 := (seqG_72 (F := FT) kM kN 73).1
  rw [List.take_of_length_le (by omega)] at h
  have l2 : (seqG F M N (nf F (seqG FT M N 73)).length).length ≤ (nf F (seqG FT M N 73)).length := by rw [← h]; exact Nat.le_refl _
  have l3 : (nf F (seqG FT M N 73)).length ≤ 73 := by
    unfold nf
    refine Nat.le_trans (List.length_filter_le _ _) ?_
    rw [List.length_map]
    omega
  have e : seqG F M N 73 = nf F (seqG FT M N 73) := (qSeq_stop2 l2 l3).trans h.symm
  unfold difW
  rw [e]
  exact nf_find hE _
end FIL
