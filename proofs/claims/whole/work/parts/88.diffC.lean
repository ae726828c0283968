/-! The class Difference: the whole search. -/
theorem xGr_new {F : Nat × Nat → Bool} {M N : zMa} {l : Nat} {K cs : List zCf} : ∀ x ∈ xGr F M N l K cs, x ∈ K ∨ ∃ c ∈ cs, ∃ a ∈ M.2.2.2, ∃ b ∈ N.2.2.2, x = stpC c a b := by
  let P : List zCf → Prop := fun K' => ∀ x ∈ K', x ∈ K ∨ ∃ c ∈ cs, ∃ a ∈ M.2.2.2, ∃ b ∈ N.2.2.2, x = stpC c a b
  have : P (xGr F M N l K cs) := foldl_inv (P := P) (fun K' c hc h => foldl_inv (P := P) (fun K' a ha h => by
    unfold xArc
    split
    · exact foldl_inv (P := P) (fun K' b hb h => by
        unfold xArc2 addC
        split
        · split
          · intro x hx
            rcases List.mem_append.mp hx with z | z
            · exact h x z
            · exact Or.inr ⟨c, hc, a, ha, b, hb, List.mem_singleton.mp z⟩
          · exact h
        · exact h) h
    · exact h) h) (fun x hx => Or.inl hx)
  exact this
/-- words as long as the groups' numbers at most; delays of three letters a letter -/
def gLen (Gs : List zGp) : Prop := ∀ (i : Nat) (g : zGp), Gs[i]? = some g → g.2.length ≤ i ∧ (∀ l ∈ g.2, 1 ≤ l ∧ l ≤ 3) ∧ ∀ c ∈ g.1, c.2.1.length ≤ 3 * g.2.length ∧ c.2.2.length ≤ 3 * g.2.length
theorem cutD_le (d : zWo × zWo) : (cutD d).1.length ≤ d.1.length ∧ (cutD d).2.length ≤ d.2.length := by
  unfold cutD
  split
  · simp only [List.length_take]; omega
  · exact ⟨Nat.le_refl _, Nat.le_refl _⟩
theorem growG_len {F : Nat × Nat → Bool} {M N : zMa} (kM : MaOk M) (kN : MaOk N) {l i : Nat} {g : zGp} {Gs : List zGp} (hl : 1 ≤ l ∧ l ≤ 3) (h : gLen Gs) (hg : Gs[i]? = some g) : gLen (growG F M N l g Gs) := by
  unfold growG
  split
  · exact h
  · obtain ⟨t, et⟩ := xGr_pre F M N l (allK Gs) g.1
    intro j x hx
    by_cases c : j < Gs.length
    · rw [List.getElem?_append_left c] at hx
      exact h j x hx
    · have hj := (List.getElem?_eq_some_iff.mp hx).1
      rw [List.length_append] at hj
      have hj : j < Gs.length + 1 := hj
      have ej : j = Gs.length := by omega
      subst ej
      rw [List.getElem?_append_right (Nat.le_refl _), Nat.sub_self] at hx
      have hx : ((xGr F M N l (allK Gs) g.1).drop (allK Gs).length, g.2 ++ [l]) = x := by simpa using hx
      subst hx
      obtain ⟨g1, g2, g3⟩ := h i g hg
      have hi := (List.getElem?_eq_some_iff.mp hg).1
      refine ⟨by simp; omega, fun y hy => ?_, fun y hy => ?_⟩
      · rcases List.mem_append.mp hy with z | z
        · exact g2 y z
        · rw [List.mem_singleton.mp z]; exact hl
      · dsimp only at hy ⊢
        rw [et, List.drop_left] at hy
        have hin : y ∈ xGr F M N l (allK Gs) g.1 := by rw [et]; exact List.mem_append_right _ hy
        have key : (∃ c ∈ g.1, ∃ a ∈ M.2.2.2, ∃ b ∈ N.2.2.2, y = stpC c a b) ∨ ∃ c ∈ g.1, ∃ a ∈ M.2.2.2, ∃ b ∈ N.2.2.2, y = stpC c a b := by
          have hh : ∀ (cs : List zCf) (K : List zCf) (x : zCf), (∀ t, xGr F M N l K cs = K ++ t → x ∈ t → ∃ c ∈ cs, ∃ a ∈ M.2.2.2, ∃ b ∈ N.2.2.2, x = stpC c a b) := by
            intro cs K x t e hx
            let P : List zCf → Prop := fun K' => ∃ t, K' = K ++ t ∧ ∀ x ∈ t, ∃ c ∈ cs, ∃ a ∈ M.2.2.2, ∃ b ∈ N.2.2.2, x = stpC c a b
            have : P (xGr F M N l K cs) := foldl_inv (P := P) (fun K' c hc h => foldl_inv (P := P) (fun K' a ha h => by
              unfold xArc
              split
              · exact foldl_inv (P := P) (fun K' b hb h => by
                  unfold xArc2 addC
                  split
                  · split
                    · obtain ⟨t, e, ht⟩ := h
                      refine ⟨t ++ [stpC c a b], by rw [e, List.append_assoc], fun x hx => ?_⟩
                      rcases List.mem_append.mp hx with z | z
                      · exact ht x z
                      · exact ⟨c, hc, a, ha, b, hb, List.mem_singleton.mp z⟩
                    · exact h
                  · exact h) h
              · exact h) h) ⟨[], by simp, fun x hx => by cases hx⟩
            obtain ⟨t2, e2, ht2⟩ := this
            rw [e] at e2
            rw [List.append_cancel_left e2] at hx
            exact ht2 x hx
          exact Or.inl (hh g.1 (allK Gs) y t et hy)
        obtain ⟨c, hc, a, ha, b, hb, rfl⟩ : ∃ c ∈ g.1, ∃ a ∈ M.2.2.2, ∃ b ∈ N.2.2.2, y = stpC c a b := by
          rcases key with z | z <;> exact z
        have h3 := g3 c hc
        have la := (kM.2.2.2.2 a ha).2.2.2.len
        have lb := (kN.2.2.2.2 b hb).2.2.2.len
        have cl := cutD_le (dlyD (c.2.1 ++ dgs a.2.2.2) (c.2.2 ++ dgs b.2.2.2))
        unfold stpC
        dsimp only
        unfold dlyD at cl ⊢
        dsimp only at cl
        rw [List.length_drop, List.length_drop, List.length_append, List.length_append] at cl
        simp only [List.length_append, List.length_cons, List.length_nil]
        omega
theorem stepG_len {F : Nat × Nat → Bool} {M N : zMa} (kM : MaOk M) (kN : MaOk N) {i : Nat} {g : zGp} {Gs : List zGp} (h : gLen Gs) (hg : Gs[i]? = some g) : gLen (stepG F M N g Gs) := by
  have up : ∀ l Gs, Gs[i]? = some g → (growG F M N l g Gs)[i]? = some g := fun l Gs hg => by
    obtain ⟨t, e⟩ := growG_pre F M N l g Gs
    rw [e, List.getElem?_append_left (List.getElem?_eq_some_iff.mp hg).1, hg]
  exact growG_len kM kN (by decide) (growG_len kM kN (by decide) (growG_len kM kN (by decide) h hg) (up 1 Gs hg)) (up 2 _ (up 1 Gs hg))
theorem iniG_len {F : Nat × Nat → Bool} {M N : zMa} : gLen (iniG F M N) := by
  have hc : ∀ c ∈ iniK F M N, c.2 = ([], []) := foldl_inv (P := fun K : List zCf => ∀ c ∈ K, c.2 = ([], [])) (fun K c hc h => by
    unfold addC
    split
    · intro x hx
      rcases List.mem_append.mp hx with z | z
      · exact h x z
      · rw [List.mem_singleton.mp z]; exact (mem_iniC.mp hc).2.2
    · exact h) (fun c h => by cases h)
  unfold iniG
  split
  · intro i g h; simp at h
  · intro i g h
    cases i with
    | zero =>
      have : (iniK F M N, []) = g := by simpa using h
      subst this
      refine ⟨Nat.le_refl _, fun l hl => (by cases hl), fun c hcc => ?_⟩
      rw [hc c hcc]
      exact ⟨Nat.le_refl _, Nat.le_refl _⟩
    | succ i => simp at h
theorem seqG_len {F : Nat × Nat → Bool} {M N : zMa} (kM : MaOk M) (kN : MaOk N) : ∀ i, gLen (seqG F M N i)
  | 0 => iniG_len
  | i + 1 => by
    have ih := seqG_len (F := F) kM kN i
    cases hg : (seqG F M N i)[i]? with
    | none =>
      have e : seqG F M N (i + 1) = seqG F M N i := qSeq_none hg
      rw [e]; exact ih
    | some g =>
      have e : seqG F M N (i + 1) = stepG F M N g (seqG F M N i) := qSeq_some hg
      rw [e]; exact stepG_len kM kN ih hg
/-- the word that is found: not too long, of input letters -/
theorem difW_len {F : Nat × Nat → Bool} {M N : zMa} (kM : MaOk M) (kN : MaOk N) {w : List Nat} (h : difW F M N = some w) : w.length ≤ 72 ∧ ∀ l ∈ w, 1 ≤ l ∧ l ≤ 3 := by
  unfold difW at h
  obtain ⟨g, hg, rfl⟩ := Option.map_eq_some_iff.mp h
  obtain ⟨k, hk, _, _⟩ := find_get hg
  obtain ⟨a, b, _⟩ := seqG_len (F := F) kM kN 73 k g hk
  have := (List.getElem?_eq_some_iff.mp hk).1
  have := (seqG_72 (F := F) kM kN 73).1
  exact ⟨by omega, b⟩
/-- the search so far -/
def DD (M N : zMa) (h0 h : zM) (d : Nat) (Gs : List zGp) : Prop := zFr d (d + 377) h0 h ∧ DS h d ∧ DK h d (allK Gs) ∧ DG h d Gs ∧ kOk M N (allK Gs) ∧ two (allK Gs) ∧ gLen Gs ∧ ∀ g ∈ Gs, g.1 ≠ []
theorem DD.l72 {M N : zMa} {h0 h : zM} {d : Nat} {Gs : List zGp} (kM : MaOk M) (kN : MaOk N) (x : DD M N h0 h d Gs) : (allK Gs).length ≤ 72 ∧ Gs.length ≤ 72 := by
  have h1 := two_72 kM kN x.2.2.2.2.1 x.2.2.2.2.2.1
  have := len_allK Gs x.2.2.2.2.2.2.2
  omega
theorem DK_get {K : List zCf} {cs : List zCf} {j : Nat} (hj : j < cs.length) : cs[j]? = some (kAt cs j) := kAt_get hj
theorem s_Dgrow {h0 h : zM} {d A B g l : Nat} {M N : zMa} {Gs : List zGp} (mM : MC h0 A M) (kM : MaOk M) (mN : MC h0 B N) (kN : MaOk N) (hA : A + 6 ≤ d ∨ d + 377 ≤ A) (hB : B + 6 ≤ d ∨ d + 377 ≤ B) (x : DD M N h0 h d Gs) (hg : g < Gs.length) (hl : 1 ≤ l ∧ l ≤ 3) :
    ∃ h', zf nX0_grow [.inr d, .inr A, .inr B, .inl (nI g), .inl (nI l)] h = some (0, 0, h') ∧ DD M N h0 h' d (growG FT M N l (gAt Gs g) Gs) := by
  obtain ⟨f, S, k, G, ok, t2, gl, ne⟩ := id x
  have l72 := x.l72 kM kN
  have h30 := kM.2.2.2.1
  have k6M := kM.1
  have k6N := kN.1
  have X := S.1
  have mM1 := mM.keep f (by omega)
  have mN1 := mN.keep f (by omega)
  obtain ⟨ga, gb, gc⟩ := G.2 g hg
  have hoff := off_s hg
  have hoffle := off_le (Gs := Gs) (g := g + 1) (by omega)
  obtain ⟨w1, w2, w3⟩ := gl g _ (gAt_get hg)
  rw [e_X0_grow, zgI_ok X.1.1, k.1, Option.bind_some, X.g4, Option.bind_some, X.r (Or.inl rfl) (by omega), ga, Option.bind_some]
  have hx0 : DI M N h h d (allK Gs) := ⟨zFr.rf, zEq.rf, rfl, S, k, ok, t2⟩
  have main := zlp (P := fun j z => DI M N h z d (((gAt Gs g).1.take j).foldl (xCf FT M N l) (allK Gs))) (g := fun j z => zm_X0_grow 14 [some (.inr d), some (.inr A), some (.inr B), some (.inl (nI g)), some (.inl (nI l)), some (.inl (nI (allK Gs).length)), some (.inl (nI (off Gs g + j))), none] [] z) (n := (gAt Gs g).1.length) ?_ 0 h (Nat.zero_le _) (by rw [List.take_zero]; exact hx0)
  · obtain ⟨z, e1, e2⟩ := main
    rw [Nat.add_zero] at e1
    rw [e1, ← hoff]
    rw [List.take_length] at e2
    have l72z := e2.l72 kM kN
    obtain ⟨fz, ez, e8, Sz, kz, okz, tz⟩ := e2
    have Xz := Sz.1
    have Gz := G.eq e8 (ez.sub (by omega) (by omega))
    have gbz : zI z (d + 370) g = nI (off Gs (g + 1)) := by rw [ez.I (by omega) (by omega)]; exact gb
    rw [e_X0_grow_14, Xz.g5, Option.bind_some, Xz.r (Or.inr (Or.inl rfl)) (by omega), gbz, Option.bind_some, if_neg (by rw [nI_ltI (by omega) (by omega)]; omega), zif_ok Xz.1.1]
    obtain ⟨tn, en⟩ := xGr_pre FT M N l (allK Gs) (gAt Gs g).1
    have hen : xGr FT M N l (allK Gs) (gAt Gs g).1 = (gAt Gs g).1.foldl (xCf FT M N l) (allK Gs) := rfl
    rw [← hen] at kz okz tz l72z
    obtain ⟨h', r1, r2, r3, r4, r5⟩ := s_Dclose (vb := nI g) (vl := nI l) (w := (gAt Gs g).2 ++ [l]) Sz kz Gz en l72z l72.2 (Or.inr ⟨g, l, hg, rfl, rfl, rfl⟩)
    rw [r1, Option.bind_some]
    have eg : (if (xGr FT M N l (allK Gs) (gAt Gs g).1).length = (allK Gs).length then Gs else Gs ++ [(tn, (gAt Gs g).2 ++ [l])]) = growG FT M N l (gAt Gs g) Gs := by
      unfold growG
      rw [en, List.drop_left]
    rw [eg] at r5
    have ea := allK_grow FT M N l (gAt Gs g) Gs
    refine ⟨h', rfl, f.tr (fz.tr r2), r3, by rw [ea]; exact r4, r5, by rw [ea]; exact okz, by rw [ea]; exact tz, growG_len kM kN hl gl (gAt_get hg), growG_ne ne⟩
  · intro j z hj hP
    have hcj : (gAt Gs g).1[j]? = some (kAt (gAt Gs g).1 j) := kAt_get hj
    rw [fold_take _ _ _ j _ hcj]
    obtain ⟨t, et⟩ := foldl_pre (f := xCf FT M N l) (fun K c => xCf_pre FT M N l K c) ((gAt Gs g).1.take j) (allK Gs)
    generalize hKj : ((gAt Gs g).1.take j).foldl (xCf FT M N l) (allK Gs) = Kj at *
    have l72z := hP.l72 kM kN
    obtain ⟨fz, ez, e8, Sz, kz, okz, tz⟩ := id hP
    have Xz := Sz.1
    have gbz : zI z (d + 370) g = nI (off Gs (g + 1)) := by rw [ez.I (by omega) (by omega)]; exact gb
    have hij : off Gs g + j < (allK Gs).length := by omega
    rw [e_X0_grow_14, Xz.g5, Option.bind_some, Xz.r (Or.inr (Or.inl rfl)) (by omega), gbz, Option.bind_some, if_pos ((nI_ltI (by omega) (by omega)).mpr (by omega))]
    have inner := zlp (P := fun a y => DI M N h y d ((M.2.2.2.take a).foldl (xArc FT N l (kAt (gAt Gs g).1 j)) Kj)) (g := fun a y => zm_X0_grow 28 [some (.inr d), some (.inr A), some (.inr B), some (.inl (nI g)), some (.inl (nI l)), some (.inl (nI (allK Gs).length)), some (.inl (nI (off Gs g + j))), some (.inl (nI a))] [] y) (n := M.2.2.2.length) ?_ 0 z (Nat.zero_le _) (by rw [List.take_zero]; exact hP)
    · obtain ⟨y, i1, i2⟩ := inner
      rw [List.take_length] at i2
      refine ⟨y, ?_, i2⟩
      rw [n0, i1]
      have mMy := mM1.keep i2.1 (by omega)
      rw [e_X0_grow_28, mMy.arcs, Option.bind_some, if_neg (by rw [nI_ltI (by omega) (by omega)]; omega), nI_1]
      rfl
    · intro a y ha hQ
      rw [fold_take _ _ _ a _ (arc_get ha)]
      obtain ⟨t', et'⟩ := foldl_pre (f := xArc FT N l (kAt (gAt Gs g).1 j)) (fun K c => xArc_pre FT N l _ K c) (M.2.2.2.take a) Kj
      generalize hKa : (M.2.2.2.take a).foldl (xArc FT N l (kAt (gAt Gs g).1 j)) Kj = Ka at *
      have l72y := hQ.l72 kM kN
      obtain ⟨fy, ey, e8y, Sy, ky, oky, ty⟩ := id hQ
      have Xy := Sy.1
      have mMy := mM1.keep fy (by omega)
      have mNy := mN1.keep fy (by omega)
      have ka := kM.at ha
      have hia : off Gs g + j < Ka.length := by rw [et', et, List.length_append, List.length_append]; omega
      have hka : kAt Ka (off Gs g + j) = kAt (gAt Gs g).1 j := by
        rw [et', kAt_l (by rw [et, List.length_append]; omega), et, kAt_l hij, kAt_off hg hj]
      have pi := ky.2.1 _ hia
      rw [hka] at pi
      have hc6 := oky.1 _ (kAt_mem hia)
      rw [hka] at hc6
      rw [e_X0_grow_28, mMy.arcs, Option.bind_some, if_pos ((nI_ltI (by omega) (by omega)).mpr ha)]
      simp only [mMy.f4, mMy.rfrom kM ha, Xy.g0, Xy.p (show off Gs g + j < 73 by omega), pi.i0, Option.bind_some, nI_1]
      have skip : ∀ K', K' = Ka → ∃ h', zm_X0_grow 28 [some (.inr d), some (.inr A), some (.inr B), some (.inl (nI g)), some (.inl (nI l)), some (.inl (nI (allK Gs).length)), some (.inl (nI (off Gs g + j))), some (.inl (nI (a + 1)))] [] y = zm_X0_grow 28 [some (.inr d), some (.inr A), some (.inr B), some (.inl (nI g)), some (.inl (nI l)), some (.inl (nI (allK Gs).length)), some (.inl (nI (off Gs g + j))), some (.inl (nI (a + 1)))] [] h' ∧ DI M N h h' d K' := fun K' e => by
        rw [e]
        exact ⟨y, rfl, hQ⟩
      by_cases c1 : (arcAt M a).1 = (kAt (gAt Gs g).1 j).1.1
      · rw [if_pos (by rw [c1])]
        simp only [mMy.f5, mMy.rlet kM ha, Option.bind_some]
        by_cases c2 : (arcAt M a).2.1 = l
        · rw [if_pos (by rw [c2]), zif_ok Xy.1.1]
          have hlen := w3 _ (kAt_mem hj)
          obtain ⟨h', r1, r2⟩ := s_DpairUp mMy kM mNy kN hA hB (i := off Gs g + j) (ia := a) (K := Ka) ⟨zFr.rf, zEq.rf, rfl, Sy, ky, oky, ty⟩ hia ha (by rw [hka]; omega)
          rw [r1, Option.bind_some]
          rw [hka] at r2
          have ex : xArc FT N l (kAt (gAt Gs g).1 j) Ka (arcAt M a) = N.2.2.2.foldl (xArc2 FT (arcAt M a).2.1 (kAt (gAt Gs g).1 j) (arcAt M a)) Ka := by
            unfold xArc
            rw [if_pos ⟨c1, c2⟩, c2]
          rw [ex]
          exact ⟨h', rfl, fy.tr r2.1, ey.tr r2.2.1, by rw [r2.2.2.1, e8y], r2.2.2.2⟩
        · rw [if_neg (by rw [nI_eq (by omega) (by omega)]; exact c2)]
          exact skip _ (if_neg (fun z => c2 z.2))
      · rw [if_neg (by rw [nI_eq (by omega) (by omega)]; exact c1)]
        exact skip _ (if_neg (fun z => c1 z.1))
