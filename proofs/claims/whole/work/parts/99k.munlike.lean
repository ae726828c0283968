/-! The reference: the search for a pair that tells. -/
def kWs (Gs : List zGp) : List (List Nat) := Gs.flatMap fun g => g.1.map fun _ => g.2
theorem kWs_app (A B : List zGp) : kWs (A ++ B) = kWs A ++ kWs B := List.flatMap_append
theorem kWs_one (g : zGp) : kWs [g] = List.replicate g.1.length g.2 := by
  unfold kWs
  rw [List.flatMap_cons, List.flatMap_nil, List.append_nil, List.map_const']
theorem kWs_len : ∀ Gs : List zGp, (kWs Gs).length = (allK Gs).length
  | [] => rfl
  | g :: Gs => by
    have e1 : kWs (g :: Gs) = g.1.map (fun _ => g.2) ++ kWs Gs := List.flatMap_cons
    have e2 : allK (g :: Gs) = g.1 ++ allK Gs := List.flatMap_cons
    rw [e1, e2, List.length_append, List.length_append, List.length_map, kWs_len Gs]
theorem kWs_off {Gs : List zGp} {g j : Nat} (h : g < Gs.length) (hj : j < (gAt Gs g).1.length) : (kWs Gs).getD (off Gs g + j) [] = (gAt Gs g).2 := by
  have e : Gs = Gs.take g ++ ([gAt Gs g] ++ Gs.drop (g + 1)) := by
    have h1 : Gs.drop g = gAt Gs g :: Gs.drop (g + 1) := by
      rw [List.drop_eq_getElem_cons h]
      refine congrArg (· :: _) ?_
      unfold gAt
      rw [List.getD_eq_getElem?_getD, List.getElem?_eq_getElem h]
      rfl
    conv => lhs; rw [← List.take_append_drop g Gs, h1]
    rfl
  have hl : (kWs (Gs.take g)).length = off Gs g := kWs_len _
  have e2 : kWs Gs = kWs (Gs.take g) ++ (List.replicate (gAt Gs g).1.length (gAt Gs g).2 ++ kWs (Gs.drop (g + 1))) := by
    conv => lhs; rw [e]
    rw [kWs_app, kWs_app, kWs_one]
  rw [e2, List.getD_eq_getElem?_getD, List.getElem?_append_right (by omega), hl, Nat.add_sub_cancel_left, List.getElem?_append_left (by rw [List.length_replicate]; exact hj), List.getElem?_replicate, if_pos hj]
  rfl
theorem idx_grp {Gs : List zGp} {c : Nat} : ∀ n, n ≤ Gs.length → c < off Gs n → ∃ g j, g < n ∧ j < (gAt Gs g).1.length ∧ c = off Gs g + j := by
  intro n
  induction n with
  | zero => intro _ h; exact absurd h (by unfold off; rw [List.take_zero]; exact Nat.not_lt_zero _)
  | succ n ih =>
    intro hn h
    have hs := off_s (Gs := Gs) (g := n) (by omega)
    by_cases q : c < off Gs n
    · obtain ⟨g, j, a, b⟩ := ih (by omega) q
      exact ⟨g, j, by omega, b⟩
    · exact ⟨n, c - off Gs n, by omega, by omega, by omega⟩
theorem off_mono {Gs : List zGp} : ∀ {a b : Nat}, a ≤ b → b ≤ Gs.length → off Gs a ≤ off Gs b := by
  intro a b hab
  induction b with
  | zero =>
    intro _
    have : a = 0 := by omega
    rw [this]
    exact Nat.le_refl _
  | succ b ih =>
    intro hb
    have hs := off_s (Gs := Gs) (g := b) (by omega)
    by_cases e : a = b + 1
    · rw [e]
      exact Nat.le_refl _
    · have := ih (by omega) (by omega)
      omega
theorem shw_any {M N : zMa} {g : zGp} : shwG M N g = true ↔ ∃ j, j < g.1.length ∧ endC M N (kAt g.1 j) = true := by
  unfold shwG
  rw [List.any_eq_true]
  constructor
  · rintro ⟨c, hc, h⟩
    obtain ⟨j, hj, e⟩ := List.getElem_of_mem hc
    refine ⟨j, hj, ?_⟩
    have ek : kAt g.1 j = c := by
      unfold kAt
      rw [List.getD_eq_getElem?_getD, List.getElem?_eq_getElem hj]
      exact e
    rw [ek]
    exact h
  · rintro ⟨j, hj, h⟩
    exact ⟨_, kAt_mem hj, h⟩
theorem dif_found {F : Nat × Nat → Bool} {M N : zMa} {a c : Nat} (ha : a ≤ 73) (hc : c < (allK (seqG F M N a)).length) (h1 : endC M N (kAt (allK (seqG F M N a)) c) = true) (h0 : ∀ i, i < c → endC M N (kAt (allK (seqG F M N a)) i) = false) : difW F M N = some ((kWs (seqG F M N a)).getD c []) := by
  obtain ⟨t, et⟩ := qSeq_pre (st := stepG F M N) (s0 := iniG F M N) (stepG_pre F M N) a (73 - a)
  rw [show a + (73 - a) = 73 by omega] at et
  have et : seqG F M N 73 = seqG F M N a ++ t := et
  unfold difW
  rw [et]
  generalize seqG F M N a = Gs at *
  obtain ⟨g, j, hg, hj, rfl⟩ := idx_grp Gs.length (Nat.le_refl _) (by rw [off_all]; exact hc)
  rw [kAt_off hg hj] at h1
  have hf : (Gs ++ t).find? (shwG M N) = some (gAt Gs g) := by
    refine find_at (k := g) (by rw [List.getElem?_append_left hg]; exact gAt_get hg) (shw_any.mpr ⟨j, hj, h1⟩) (fun i x hi hx => ?_)
    rw [List.getElem?_append_left (by omega), gAt_get (by omega)] at hx
    have hx := Option.some.inj hx
    subst hx
    cases e : shwG M N (gAt Gs i) with
    | false => rfl
    | true =>
      obtain ⟨j', hj', e'⟩ := shw_any.mp e
      have := h0 (off Gs i + j') (by
        have q1 := off_s (Gs := Gs) (g := i) (by omega)
        have q2 := off_mono (Gs := Gs) (a := i + 1) (b := g) (by omega) (by omega)
        omega)
      rw [kAt_off (by omega) hj', e'] at this
      cases this
  rw [hf, kWs_off hg hj]
  rfl
theorem dif_none {F : Nat × Nat → Bool} {M N : zMa} {a : Nat} (ha : a ≤ 73) (hl : (seqG F M N a).length ≤ a) (h0 : ∀ i, i < (allK (seqG F M N a)).length → endC M N (kAt (allK (seqG F M N a)) i) = false) : difW F M N = none := by
  have e : seqG F M N 73 = seqG F M N a := qSeq_stop2 hl ha
  unfold difW
  rw [e]
  generalize seqG F M N a = Gs at *
  have hf : Gs.find? (shwG M N) = none := find_no (fun i x hi hx => by
    rw [gAt_get hi] at hx
    have hx := Option.some.inj hx
    subst hx
    cases e : shwG M N (gAt Gs i) with
    | false => rfl
    | true =>
      obtain ⟨j', hj', e'⟩ := shw_any.mp e
      have := h0 (off Gs i + j') (by
        have q1 := off_s (Gs := Gs) (g := i) (by omega)
        have q2 := off_le (Gs := Gs) (g := i + 1) (by omega)
        omega)
      rw [kAt_off (by omega) hj', e'] at this
      cases this)
  rw [hf]
  rfl
/-- ranks of this level and of the next one -/
def RkOk (Rs : List Nat) (Gs : List zGp) (a b : Nat) : Prop := (∀ g, a ≤ g → g < b → ∀ j, j < (gAt Gs g).1.length → Rs.getD (off Gs g + j) 0 = g - a) ∧ ∀ g, b ≤ g → g < Gs.length → ∀ j, j < (gAt Gs g).1.length → Rs.getD (off Gs g + j) 0 = g - b
theorem grow_ws {F : Nat × Nat → Bool} {M N : zMa} {l : Nat} {g : zGp} {Gs : List zGp} : kWs (growG F M N l g Gs) = wsX (kWs Gs) (allK Gs) (allK (growG F M N l g Gs)) (g.2 ++ [l]) := by
  rw [allK_grow]
  unfold growG wsX
  by_cases e : (xGr F M N l (allK Gs) g.1).length = (allK Gs).length
  · rw [if_pos e, e, Nat.sub_self]
    simp
  · rw [if_neg e, kWs_app, kWs_one]
    dsimp only
    rw [List.length_drop]
theorem grow_rk {F : Nat × Nat → Bool} {M N : zMa} {l a b : Nat} {g : zGp} {Gs : List zGp} {Rs : List Nat} (hR : Rs.length = (allK Gs).length) (hb : b ≤ Gs.length) (h : RkOk Rs Gs a b) : RkOk (wsX Rs (allK Gs) (allK (growG F M N l g Gs)) (Gs.length - b)) (growG F M N l g Gs) a b ∧ (wsX Rs (allK Gs) (allK (growG F M N l g Gs)) (Gs.length - b)).length = (allK (growG F M N l g Gs)).length := by
  rw [allK_grow]
  unfold growG wsX
  by_cases e : (xGr F M N l (allK Gs) g.1).length = (allK Gs).length
  · rw [if_pos e, e, Nat.sub_self]
    simp only [List.replicate_zero, List.append_nil]
    exact ⟨h, hR⟩
  · obtain ⟨tt, et⟩ := xGr_pre F M N l (allK Gs) g.1
    have hle : (allK Gs).length ≤ (xGr F M N l (allK Gs) g.1).length := by rw [et, List.length_append]; omega
    rw [if_neg e]
    generalize hK : xGr F M N l (allK Gs) g.1 = K' at *
    have old : ∀ g', g' < Gs.length → ∀ j, j < (gAt Gs g').1.length → (Rs ++ List.replicate (K'.length - (allK Gs).length) (Gs.length - b)).getD (off Gs g' + j) 0 = Rs.getD (off Gs g' + j) 0 := fun g' hg' j hj => by
      have q1 := off_s (Gs := Gs) (g := g') hg'
      have q2 := off_le (Gs := Gs) (g := g' + 1) (by omega)
      exact getD_app1 (by omega)
    refine ⟨⟨fun g' h1 h2 j hj => ?_, fun g' h1 h2 j hj => ?_⟩, by rw [List.length_append, List.length_replicate]; omega⟩
    · have hg' : g' < Gs.length := by omega
      rw [gAt_l hg'] at hj
      rw [off_l (by omega), old g' hg' j hj]
      exact h.1 g' h1 h2 j hj
    · rw [List.length_append, List.length_singleton] at h2
      by_cases eg : g' = Gs.length
      · subst eg
        rw [gAt_n] at hj
        dsimp only at hj
        rw [List.length_drop] at hj
        rw [off_l (Nat.le_refl _), off_all, List.getD_eq_getElem?_getD, List.getElem?_append_right (by omega), hR, Nat.add_sub_cancel_left, List.getElem?_replicate, if_pos hj]
        rfl
      · have hg' : g' < Gs.length := by omega
        rw [gAt_l hg'] at hj
        rw [off_l (by omega), old g' hg' j hj]
        exact h.2 g' h1 hg' j hj
theorem xGr_snoc {F : Nat × Nat → Bool} {M N : zMa} {l j : Nat} {K cs : List zCf} (hj : j < cs.length) : xGr F M N l K (cs.take (j + 1)) = xCf F M N l (xGr F M N l K (cs.take j)) (kAt cs j) := by
  unfold xGr
  exact fold_take _ _ _ j _ (kAt_get hj)
/-- one letter of one group -/
theorem s_mletterG {h0 h : zM} {m t o l a b r : Nat} {Ms : Nat → zMa} {S : Nat → Bool} {Gs : List zGp} {Rs : List Nat} (d : MMs h0 m Ms) (hk : ∀ t, t < 2 → MaOk (Ms t)) (ht : t < 2) (ho : o < 2) (oz : zOf m Lu Ju h0 h) (fl : FL h m S (allK Gs) (kWs Gs) Rs) (fk : FK (Ms t) (Ms o) (allK Gs)) (gl : gLen Gs) (hG : Gs.length ≤ 72) (rk : RkOk Rs Gs a b) (hb : b ≤ Gs.length) (hr : a + r < b) (hl : 1 ≤ l ∧ l ≤ 3) :
    ∃ h' Rs', zm_X12_unlike 194 [some (.inr m), some (.inl (nI t)), some (.inl (nI o)), some (.inl (nI (off Gs a))), some (.inl (nI (off Gs b))), some (.inl (nI (Gs.length - b))), some (.inl (nI r)), some (.inl (nI l)), none, none] [] h = zm_X12_unlike 194 [some (.inr m), some (.inl (nI t)), some (.inl (nI o)), some (.inl (nI (off Gs a))), some (.inl (nI (off Gs b))), some (.inl (nI ((growG (fS S) (Ms t) (Ms o) l (gAt Gs (a + r)) Gs).length - b))), some (.inl (nI r)), some (.inl (nI (l + 1))), none, none] [] h' ∧ zOf m Lu Ju h0 h' ∧ FL h' m S (allK (growG (fS S) (Ms t) (Ms o) l (gAt Gs (a + r)) Gs)) (kWs (growG (fS S) (Ms t) (Ms o) l (gAt Gs (a + r)) Gs)) Rs' ∧ FK (Ms t) (Ms o) (allK (growG (fS S) (Ms t) (Ms o) l (gAt Gs (a + r)) Gs)) ∧ gLen (growG (fS S) (Ms t) (Ms o) l (gAt Gs (a + r)) Gs) ∧ RkOk Rs' (growG (fS S) (Ms t) (Ms o) l (gAt Gs (a + r)) Gs) a b := by
  have kM := hk t ht
  have kN := hk o ho
  have dm := d.o2 oz (by decide)
  have l72 := fk.l72 kM kN
  have hg0 : a + r < Gs.length := by omega
  have offb := off_le (Gs := Gs) hb
  have offab := off_mono (Gs := Gs) (a := a) (b := b) (by omega) hb
  have glg := gl (a + r) (gAt Gs (a + r)) (gAt_get hg0)
  have hs0 := off_s hg0
  have m1 := off_mono (Gs := Gs) (a := a) (b := a + r) (by omega) (by omega)
  have m2 := off_mono (Gs := Gs) (a := a + r + 1) (b := b) (by omega) hb
  rw [e_X12_unlike_194, if_pos (by rw [n4, nI_ltI (by omega) (by omega)]; omega), mi32 dm.1, Option.bind_some, fl.1.1]
  have main := zlp (P := fun i z => zOf m Lu Ju h0 z ∧ FK (Ms t) (Ms o) (xGr (fS S) (Ms t) (Ms o) l (allK Gs) ((gAt Gs (a + r)).1.take (off Gs a + i - off Gs (a + r)))) ∧ FL z m S (xGr (fS S) (Ms t) (Ms o) l (allK Gs) ((gAt Gs (a + r)).1.take (off Gs a + i - off Gs (a + r)))) (wsX (kWs Gs) (allK Gs) (xGr (fS S) (Ms t) (Ms o) l (allK Gs) ((gAt Gs (a + r)).1.take (off Gs a + i - off Gs (a + r)))) ((gAt Gs (a + r)).2 ++ [l])) (wsX Rs (allK Gs) (xGr (fS S) (Ms t) (Ms o) l (allK Gs) ((gAt Gs (a + r)).1.take (off Gs a + i - off Gs (a + r)))) (Gs.length - b))) (g := fun i z => zm_X12_unlike 209 [some (.inr m), some (.inl (nI t)), some (.inl (nI o)), some (.inl (nI (off Gs a))), some (.inl (nI (off Gs b))), some (.inl (nI (Gs.length - b))), some (.inl (nI r)), some (.inl (nI l)), some (.inl (nI (allK Gs).length)), some (.inl (nI (off Gs a + i)))] [] z) (n := off Gs b - off Gs a) ?_ 0 h (Nat.zero_le _) ?_
  · obtain ⟨h', e1, e2, e3, e4⟩ := main
    have hall : (gAt Gs (a + r)).1.take (off Gs a + (off Gs b - off Gs a) - off Gs (a + r)) = (gAt Gs (a + r)).1 := List.take_of_length_le (by omega)
    rw [hall] at e3 e4
    have dz := d.o2 e2 (by decide)
    have e5 := allK_grow (fS S) (Ms t) (Ms o) l (gAt Gs (a + r)) Gs
    have lg := growG_len (F := fS S) kM kN hl gl (gAt_get hg0)
    have gk := grow_rk (F := fS S) (M := Ms t) (N := Ms o) (l := l) (g := gAt Gs (a + r)) fl.2.2.1 hb rk
    refine ⟨h', wsX Rs (allK Gs) (allK (growG (fS S) (Ms t) (Ms o) l (gAt Gs (a + r)) Gs)) (Gs.length - b), ?_, e2, ?_, by rw [e5]; exact e3, lg, gk.1⟩
    · refine Eq.trans e1 ?_
      have lK := e3.l72 kM kN
      obtain ⟨tt, et⟩ := xGr_pre (fS S) (Ms t) (Ms o) l (allK Gs) (gAt Gs (a + r)).1
      have hle : (allK Gs).length ≤ (xGr (fS S) (Ms t) (Ms o) l (allK Gs) (gAt Gs (a + r)).1).length := by rw [et, List.length_append]; omega
      rw [e_X12_unlike_209, if_neg (by rw [nI_ltI (by omega) (by omega)]; omega), mi32 dz.1, Option.bind_some, e4.1.1]
      unfold growG
      by_cases c : (xGr (fS S) (Ms t) (Ms o) l (allK Gs) (gAt Gs (a + r)).1).length = (allK Gs).length
      · rw [if_pos c, if_neg (by rw [nI_ltI (by omega) (by omega)]; omega), n0, nI_add, nI_1]
        rfl
      · rw [if_neg c, if_pos ((nI_ltI (by omega) (by omega)).mpr (by omega)), nI_1, nI_1, List.length_append, List.length_singleton, show Gs.length + 1 - b = Gs.length - b + 1 by omega]
    · rw [grow_ws, e5]
      exact e4
  · rintro i z hi ⟨o1, fk1, fl1⟩
    have dz := d.o2 o1 (by decide)
    have hiK : off Gs a + i < (allK Gs).length := by omega
    obtain ⟨tt, et⟩ := xGr_pre (fS S) (Ms t) (Ms o) l (allK Gs) ((gAt Gs (a + r)).1.take (off Gs a + i - off Gs (a + r)))
    obtain ⟨g, j, hg, hj, ec⟩ := idx_grp (c := off Gs a + i) b hb (by omega)
    have hgG : g < Gs.length := by omega
    have hsg := off_s hgG
    have hga : a ≤ g := by
      apply Classical.byContradiction
      intro w
      have := off_mono (Gs := Gs) (a := g + 1) (b := a) (by omega) (by omega)
      omega
    have rkc := rk.1 g hga hg j hj
    rw [← ec] at rkc
    generalize hK1 : xGr (fS S) (Ms t) (Ms o) l (allK Gs) ((gAt Gs (a + r)).1.take (off Gs a + i - off Gs (a + r))) = K1 at *
    have l1 := fk1.l72 kM kN
    have hi1 : off Gs a + i < K1.length := by rw [et, List.length_append]; omega
    have rz : zI z (m + 36) (off Gs a + i) = nI (g - a) := by
      rw [(fl1.2.2.2 _ hi1).1, show (wsX Rs (allK Gs) K1 (Gs.length - b)).getD (off Gs a + i) 0 = Rs.getD (off Gs a + i) 0 from getD_app1 (by rw [fl.2.2.1]; exact hiK), rkc]
    rw [e_X12_unlike_209, if_pos ((nI_ltI (by omega) (by omega)).mpr (by omega)), mF40 dz.1, Option.bind_some, mr40 dz.1 (by omega), Option.bind_some, rz, nI_1]
    by_cases cg : g = a + r
    · subst cg
      rw [if_pos (by rw [Nat.add_sub_cancel_left]), zif_ok dz.1.1]
      have hkc : kAt K1 (off Gs a + i) = kAt (gAt Gs (a + r)).1 j := by
        rw [et, kAt_l hiK, ec, kAt_off hgG hj]
      have hwc : (wsX (kWs Gs) (allK Gs) K1 ((gAt Gs (a + r)).2 ++ [l])).getD (off Gs a + i) [] = (gAt Gs (a + r)).2 := by
        rw [show (wsX (kWs Gs) (allK Gs) K1 ((gAt Gs (a + r)).2 ++ [l])).getD (off Gs a + i) [] = (kWs Gs).getD (off Gs a + i) [] from getD_app1 (by rw [kWs_len]; exact hiK), ec, kWs_off hgG hj]
      have hlc := glg.2.2 _ (kAt_mem hj)
      obtain ⟨h', q1, q2, q3, q4⟩ := s_mgoOn (r := Gs.length - b) (l := l) dz hk ht ho fl1 fk1 hi1 (by rw [hkc]; omega) (by rw [hkc]; omega) (by omega)
      rw [q1, Option.bind_some]
      have ej : off Gs a + i - off Gs (a + r) = j := by omega
      have ej2 : off Gs a + (i + 1) - off Gs (a + r) = j + 1 := by omega
      have ex : xGr (fS S) (Ms t) (Ms o) l (allK Gs) ((gAt Gs (a + r)).1.take (off Gs a + (i + 1) - off Gs (a + r))) = xCf (fS S) (Ms t) (Ms o) l K1 (kAt K1 (off Gs a + i)) := by
        rw [ej2, xGr_snoc hj, ← ej, hK1, hkc, ej]
      rw [ex]
      rw [hwc] at q4
      have g1 : (allK Gs).length ≤ K1.length := by rw [et, List.length_append]; omega
      obtain ⟨t3, et3⟩ := xCf_pre (fS S) (Ms t) (Ms o) l K1 (kAt K1 (off Gs a + i))
      have g2 : K1.length ≤ (xCf (fS S) (Ms t) (Ms o) l K1 (kAt K1 (off Gs a + i))).length := by rw [et3, List.length_append]; omega
      rw [wsX_tr g1 g2, wsX_tr g1 g2] at q4
      exact ⟨h', rfl, o1.tr q2, q3, q4⟩
    · rw [if_neg (by rw [nI_eq (by omega) (by omega)]; omega)]
      have ex : (gAt Gs (a + r)).1.take (off Gs a + (i + 1) - off Gs (a + r)) = (gAt Gs (a + r)).1.take (off Gs a + i - off Gs (a + r)) := by
        by_cases lt : g < a + r
        · have := off_mono (Gs := Gs) (a := g + 1) (b := a + r) (by omega) (by omega)
          rw [show off Gs a + (i + 1) - off Gs (a + r) = 0 by omega, show off Gs a + i - off Gs (a + r) = 0 by omega]
        · have := off_mono (Gs := Gs) (a := a + r + 1) (b := g) (by omega) (by omega)
          rw [List.take_of_length_le (by omega), List.take_of_length_le (by omega)]
      rw [ex, hK1]
      exact ⟨z, rfl, o1, fk1, fl1⟩
  · have hz0 : off Gs a + 0 - off Gs (a + r) = 0 := by omega
    rw [hz0, List.take_zero]
    show zOf m Lu Ju h0 h ∧ FK (Ms t) (Ms o) (allK Gs) ∧ FL h m S (allK Gs) (wsX (kWs Gs) (allK Gs) (allK Gs) _) (wsX Rs (allK Gs) (allK Gs) _)
    rw [wsX_rf, wsX_rf]
    exact ⟨oz, fk, fl⟩
