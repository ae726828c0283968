/-! The reference: two rows with a word behind each, and how far they are alike. -/
/-- left and right, their sizes, what they have in common -/
def LR (h : zM) (m : Nat) (u v : zWo) : Prop := zI h m 45 = nI u.length ∧ zI h m 46 = nI v.length ∧ Rw h (m + 39) 0 u ∧ Rw h (m + 40) 0 v ∧ zI h m 47 = nI (lcp u v)
theorem s_rows_tail {h : zM} {m w x : Nat} {u0 v0 : zWo} {a1 : Int32} (lay : MLay h m) (hw : wOk w) (hx : wOk x) (e45 : zI h m 45 = nI u0.length) (e46 : zI h m 46 = nI v0.length) (ru : Rw h (m + 39) 0 u0) (rv : Rw h (m + 40) 0 v0) (lu : u0.length ≤ 600) (lv : v0.length ≤ 600) :
    ∃ h', ((zf nX12_letters [.inl (nI w), .inl (9 : Int32)] h).bind fun u1 => zm_X12_rows 149 [some (.inr m), some (.inl a1), some (.inl (nI w)), some (.inl (nI x)), some (.inl u1.1), some (.inl (0 : Int32))] [] u1.2.2) = some (0, 0, h') ∧ zOf m [39, 40] [45, 46, 47] h h' ∧ LR h' m (u0 ++ dgs w) (v0 ++ dgs x) := by
  have w3 := hw.len
  have x3 := hx.len
  have w9 := hw.lt
  have x9 := hx.lt
  have elw : dl (dgs w).length w = dgs w := by unfold dgs; rw [dl_len]
  have elx : dl (dgs x).length x = dgs x := by unfold dgs; rw [dl_len]
  rw [n9, s_letters 9 (by decide), Option.bind_some, hw.ltr, n0]
  dsimp only
  have cp := zwr (g := fun i z => zm_X12_rows 149 [some (.inr m), some (.inl a1), some (.inl (nI w)), some (.inl (nI x)), some (.inl (nI (dgs w).length)), some (.inl (nI i))] [] z) (h := h) (a := m + 39) (p := u0.length) (n := (dgs w).length) (f := fun j => (dgs w).getD j 0) (fun i hi => by
    have layz : MLay (zWr h (m + 39) u0.length i fun j => (dgs w).getD j 0) m := (zOf_Wr (L := [39]) (J := []) (by decide) (by decide)).lay lay
    have e : zI (zWr h (m + 39) u0.length i fun j => (dgs w).getD j 0) m 45 = nI u0.length := (zI_Wr_a (by omega)).trans e45
    rw [e_X12_rows_149, if_pos ((nI_ltI (by omega) (by omega)).mpr hi), mF43 layz, Option.bind_some, mi45 layz, Option.bind_some, e, s_mletter (by omega) hi (by omega), Option.bind_some, elw]
    dsimp only
    rw [nI_add, mw43 layz (by omega), Option.bind_some, nI_1])
  refine Exists.elim (show ∃ z, z = zWr h (m + 39) u0.length (dgs w).length fun j => (dgs w).getD j 0 from ⟨_, rfl⟩) fun z hz => ?_
  rw [← hz] at cp
  have oz : zOf m [39, 40] [45, 46, 47] h z := by rw [hz]; exact zOf_Wr (by decide) (by decide)
  have layz := oz.lay lay
  have e45z : zI z m 45 = nI u0.length := by rw [hz, zI_Wr_a (by omega)]; exact e45
  have e46z : zI z m 46 = nI v0.length := by rw [hz, zI_Wr_a (by omega)]; exact e46
  have ruz : Rw z (m + 39) 0 (u0 ++ dgs w) := by
    rw [hz]
    refine Rw.app (ru.of (fun j hj => zI_Wr_out (by omega))) (fun j hj => ?_)
    rw [Nat.zero_add, zI_Wr_at hj]
  have rvz : Rw z (m + 40) 0 v0 := by
    rw [hz]
    exact rv.of (fun j hj => zI_Wr_a (by omega))
  have o1 : zOf m [39, 40] [45, 46, 47] z (zsI z m 45 (nI (u0.length + (dgs w).length))) := zOf_pI (by decide)
  have lay1 := o1.lay layz
  have e45b : zI (zsI z m 45 (nI (u0.length + (dgs w).length))) m 45 = nI (u0.length + (dgs w).length) := zI_sI
  have e46b : zI (zsI z m 45 (nI (u0.length + (dgs w).length))) m 46 = nI v0.length := (zI_sI_k (by omega)).trans e46z
  have rub : Rw (zsI z m 45 (nI (u0.length + (dgs w).length))) (m + 39) 0 (u0 ++ dgs w) := ruz.of (fun j _ => zI_sI_a (by omega))
  have rvb : Rw (zsI z m 45 (nI (u0.length + (dgs w).length))) (m + 40) 0 v0 := rvz.of (fun j _ => zI_sI_a (by omega))
  have step1 : zm_X12_rows 149 [some (.inr m), some (.inl a1), some (.inl (nI w)), some (.inl (nI x)), some (.inl (nI (dgs w).length)), some (.inl (nI (dgs w).length))] [] z = zm_X12_rows 204 [some (.inr m), some (.inl a1), some (.inl (nI w)), some (.inl (nI x)), some (.inl (nI (dgs x).length)), some (.inl (nI 0))] [] (zsI z m 45 (nI (u0.length + (dgs w).length))) := by
    rw [e_X12_rows_149, if_neg (by rw [nI_ltI (by omega) (by omega)]; omega), mi45 layz, Option.bind_some, e45z, nI_add, mp45 layz, Option.bind_some, n9, s_letters 9 (by decide), Option.bind_some, hx.ltr]
    rfl
  generalize zsI z m 45 (nI (u0.length + (dgs w).length)) = z1 at *
  have cp2 := zwr (g := fun i z => zm_X12_rows 204 [some (.inr m), some (.inl a1), some (.inl (nI w)), some (.inl (nI x)), some (.inl (nI (dgs x).length)), some (.inl (nI i))] [] z) (h := z1) (a := m + 40) (p := v0.length) (n := (dgs x).length) (f := fun j => (dgs x).getD j 0) (fun i hi => by
    have layz : MLay (zWr z1 (m + 40) v0.length i fun j => (dgs x).getD j 0) m := (zOf_Wr (L := [40]) (J := []) (by decide) (by decide)).lay lay1
    have e : zI (zWr z1 (m + 40) v0.length i fun j => (dgs x).getD j 0) m 46 = nI v0.length := (zI_Wr_a (by omega)).trans e46b
    rw [e_X12_rows_204, if_pos ((nI_ltI (by omega) (by omega)).mpr hi), mF44 layz, Option.bind_some, mi46 layz, Option.bind_some, e, s_mletter (by omega) hi (by omega), Option.bind_some, elx]
    dsimp only
    rw [nI_add, mw44 layz (by omega), Option.bind_some, nI_1])
  refine Exists.elim (show ∃ z, z = zWr z1 (m + 40) v0.length (dgs x).length fun j => (dgs x).getD j 0 from ⟨_, rfl⟩) fun z2 hz2 => ?_
  rw [← hz2] at cp2
  have oz2 : zOf m [39, 40] [45, 46, 47] z1 z2 := by rw [hz2]; exact zOf_Wr (by decide) (by decide)
  have lay2 := oz2.lay lay1
  have e45c : zI z2 m 45 = nI (u0.length + (dgs w).length) := by rw [hz2, zI_Wr_a (by omega)]; exact e45b
  have e46c : zI z2 m 46 = nI v0.length := by rw [hz2, zI_Wr_a (by omega)]; exact e46b
  have rvc : Rw z2 (m + 40) 0 (v0 ++ dgs x) := by
    rw [hz2]
    refine Rw.app (rvb.of (fun j hj => zI_Wr_out (by omega))) (fun j hj => ?_)
    rw [Nat.zero_add, zI_Wr_at hj]
  have ruc : Rw z2 (m + 39) 0 (u0 ++ dgs w) := by
    rw [hz2]
    exact rub.of (fun j hj => zI_Wr_a (by omega))
  have o3 : zOf m [39, 40] [45, 46, 47] z2 (zsI (zsI z2 m 46 (nI (v0.length + (dgs x).length))) m 47 0) := (zOf_pI (by decide)).tr (zOf_pI (by decide))
  have lay3 := o3.lay lay2
  have ul : (u0 ++ dgs w).length = u0.length + (dgs w).length := List.length_append
  have vl : (v0 ++ dgs x).length = v0.length + (dgs x).length := List.length_append
  have e45d : zI (zsI (zsI z2 m 46 (nI (v0.length + (dgs x).length))) m 47 0) m 45 = nI (u0 ++ dgs w).length := by rw [zI_sI_k (by omega), zI_sI_k (by omega), e45c, ul]
  have e46d : zI (zsI (zsI z2 m 46 (nI (v0.length + (dgs x).length))) m 47 0) m 46 = nI (v0 ++ dgs x).length := by rw [zI_sI_k (by omega), zI_sI, vl]
  have e47d : zI (zsI (zsI z2 m 46 (nI (v0.length + (dgs x).length))) m 47 0) m 47 = nI 0 := zI_sI
  have rud : Rw (zsI (zsI z2 m 46 (nI (v0.length + (dgs x).length))) m 47 0) (m + 39) 0 (u0 ++ dgs w) := ruc.of (fun j _ => (zI_sI_a (by omega)).trans (zI_sI_a (by omega)))
  have rvd : Rw (zsI (zsI z2 m 46 (nI (v0.length + (dgs x).length))) m 47 0) (m + 40) 0 (v0 ++ dgs x) := rvc.of (fun j _ => (zI_sI_a (by omega)).trans (zI_sI_a (by omega)))
  have step2 : zm_X12_rows 204 [some (.inr m), some (.inl a1), some (.inl (nI w)), some (.inl (nI x)), some (.inl (nI (dgs x).length)), some (.inl (nI (dgs x).length))] [] z2 = zm_X12_rows 253 [some (.inr m), some (.inl a1), some (.inl (nI w)), some (.inl (nI x)), some (.inl (nI (dgs x).length)), some (.inl (nI (dgs x).length))] [] (zsI (zsI z2 m 46 (nI (v0.length + (dgs x).length))) m 47 0) := by
    rw [e_X12_rows_204, if_neg (by rw [nI_ltI (by omega) (by omega)]; omega), mi46 lay2, Option.bind_some, e46c, nI_add, mp46 lay2, Option.bind_some, mp47 lay2.sI, Option.bind_some]
  generalize zsI (zsI z2 m 46 (nI (v0.length + (dgs x).length))) m 47 0 = z3 at *
  generalize u0 ++ dgs w = u at *
  generalize v0 ++ dgs x = v at *
  have hle := lcp_le u v
  have loop : ∀ (f i : Nat) (z : zM), f + i = lcp u v → zOf m [39, 40] [45, 46, 47] z3 z → zI z m 45 = nI u.length → zI z m 46 = nI v.length → Rw z (m + 39) 0 u → Rw z (m + 40) 0 v → zI z m 47 = nI i →
      ∃ h', zm_X12_rows 253 [some (.inr m), some (.inl a1), some (.inl (nI w)), some (.inl (nI x)), some (.inl (nI (dgs x).length)), some (.inl (nI (dgs x).length))] [] z = some (0, 0, h') ∧ zOf m [39, 40] [45, 46, 47] z3 h' ∧ LR h' m u v := by
    intro f
    induction f with
    | zero =>
      intro i z hi o a b c d e
      have hi : i = lcp u v := by omega
      subst hi
      have sp := lcp_spec u v (lcp u v) (Nat.le_refl _)
      have layq := o.lay lay3
      rw [e_X12_rows_253]
      simp only [mi45 layq, mi46 layq, mi47 layq, Option.bind_some, a, b, e]
      refine ⟨z, ?_, o, a, b, c, d, e⟩
      by_cases c1 : lcp u v < u.length
      · rw [if_pos ((nI_ltI (by omega) (by omega)).mpr c1)]
        by_cases c2 : lcp u v < v.length
        · have cu := c _ c1
          have dv := d _ c2
          rw [Nat.zero_add] at cu dv
          rw [if_pos ((nI_ltI (by omega) (by omega)).mpr c2), mF43 layq, Option.bind_some, mr43 layq (by omega), Option.bind_some, mF44 layq, Option.bind_some, mr44 layq (by omega), Option.bind_some, cu, dv, if_neg (fun q => Nat.lt_irrefl _ (sp.mp ⟨c1, c2, q⟩))]
        · rw [if_neg (by rw [nI_ltI (by omega) (by omega)]; exact c2)]
      · rw [if_neg (by rw [nI_ltI (by omega) (by omega)]; exact c1)]
    | succ f ih =>
      intro i z hi o a b c d e
      have sp := (lcp_spec u v i (by omega)).mpr (by omega)
      have layq := o.lay lay3
      have cu := c _ sp.1
      have dv := d _ sp.2.1
      rw [Nat.zero_add] at cu dv
      rw [e_X12_rows_253]
      simp only [mi45 layq, mi46 layq, mi47 layq, Option.bind_some, a, b, e]
      rw [if_pos ((nI_ltI (by omega) (by omega)).mpr sp.1), if_pos ((nI_ltI (by omega) (by omega)).mpr sp.2.1), mF43 layq, Option.bind_some, mr43 layq (by omega), Option.bind_some, mF44 layq, Option.bind_some, mr44 layq (by omega), Option.bind_some, cu, dv, if_pos sp.2.2, mp47 layq, Option.bind_some, nI_1]
      exact ih (i + 1) _ (by omega) (o.tr (zOf_pI (by decide))) ((zI_sI_k (by omega)).trans a) ((zI_sI_k (by omega)).trans b) (c.of (fun j _ => zI_sI_a (by omega))) (d.of (fun j _ => zI_sI_a (by omega))) zI_sI
  obtain ⟨h', r1, r2, r3⟩ := loop (lcp u v) 0 z3 rfl zOf.rf e45d e46d rud rvd e47d
  exact ⟨h', cp.trans (step1.trans (cp2.trans (step2.trans r1))), oz.tr (o1.tr (oz2.tr (o3.tr r2))), r3⟩
theorem s_twinRows_tail {h : zM} {m w x : Nat} {u0 v0 : zWo} {a1 : Int32} (lay : MLay h m) (hw : wOk w) (hx : wOk x) (e45 : zI h m 45 = nI u0.length) (e46 : zI h m 46 = nI v0.length) (ru : Rw h (m + 39) 0 u0) (rv : Rw h (m + 40) 0 v0) (lu : u0.length ≤ 600) (lv : v0.length ≤ 600) :
    ∃ h', ((zf nX12_letters [.inl (nI w), .inl (9 : Int32)] h).bind fun u1 => zm_X12_twinRows 110 [some (.inr m), some (.inl a1), some (.inl (nI w)), some (.inl (nI x)), some (.inl u1.1), some (.inl (0 : Int32))] [] u1.2.2) = some (0, 0, h') ∧ zOf m [39, 40] [45, 46, 47] h h' ∧ LR h' m (u0 ++ dgs w) (v0 ++ dgs x) := by
  have w3 := hw.len
  have x3 := hx.len
  have w9 := hw.lt
  have x9 := hx.lt
  have elw : dl (dgs w).length w = dgs w := by unfold dgs; rw [dl_len]
  have elx : dl (dgs x).length x = dgs x := by unfold dgs; rw [dl_len]
  rw [n9, s_letters 9 (by decide), Option.bind_some, hw.ltr, n0]
  dsimp only
  have cp := zwr (g := fun i z => zm_X12_twinRows 110 [some (.inr m), some (.inl a1), some (.inl (nI w)), some (.inl (nI x)), some (.inl (nI (dgs w).length)), some (.inl (nI i))] [] z) (h := h) (a := m + 39) (p := u0.length) (n := (dgs w).length) (f := fun j => (dgs w).getD j 0) (fun i hi => by
    have layz : MLay (zWr h (m + 39) u0.length i fun j => (dgs w).getD j 0) m := (zOf_Wr (L := [39]) (J := []) (by decide) (by decide)).lay lay
    have e : zI (zWr h (m + 39) u0.length i fun j => (dgs w).getD j 0) m 45 = nI u0.length := (zI_Wr_a (by omega)).trans e45
    rw [e_X12_twinRows_110, if_pos ((nI_ltI (by omega) (by omega)).mpr hi), mF43 layz, Option.bind_some, mi45 layz, Option.bind_some, e, s_mletter (by omega) hi (by omega), Option.bind_some, elw]
    dsimp only
    rw [nI_add, mw43 layz (by omega), Option.bind_some, nI_1])
  refine Exists.elim (show ∃ z, z = zWr h (m + 39) u0.length (dgs w).length fun j => (dgs w).getD j 0 from ⟨_, rfl⟩) fun z hz => ?_
  rw [← hz] at cp
  have oz : zOf m [39, 40] [45, 46, 47] h z := by rw [hz]; exact zOf_Wr (by decide) (by decide)
  have layz := oz.lay lay
  have e45z : zI z m 45 = nI u0.length := by rw [hz, zI_Wr_a (by omega)]; exact e45
  have e46z : zI z m 46 = nI v0.length := by rw [hz, zI_Wr_a (by omega)]; exact e46
  have ruz : Rw z (m + 39) 0 (u0 ++ dgs w) := by
    rw [hz]
    refine Rw.app (ru.of (fun j hj => zI_Wr_out (by omega))) (fun j hj => ?_)
    rw [Nat.zero_add, zI_Wr_at hj]
  have rvz : Rw z (m + 40) 0 v0 := by
    rw [hz]
    exact rv.of (fun j hj => zI_Wr_a (by omega))
  have o1 : zOf m [39, 40] [45, 46, 47] z (zsI z m 45 (nI (u0.length + (dgs w).length))) := zOf_pI (by decide)
  have lay1 := o1.lay layz
  have e45b : zI (zsI z m 45 (nI (u0.length + (dgs w).length))) m 45 = nI (u0.length + (dgs w).length) := zI_sI
  have e46b : zI (zsI z m 45 (nI (u0.length + (dgs w).length))) m 46 = nI v0.length := (zI_sI_k (by omega)).trans e46z
  have rub : Rw (zsI z m 45 (nI (u0.length + (dgs w).length))) (m + 39) 0 (u0 ++ dgs w) := ruz.of (fun j _ => zI_sI_a (by omega))
  have rvb : Rw (zsI z m 45 (nI (u0.length + (dgs w).length))) (m + 40) 0 v0 := rvz.of (fun j _ => zI_sI_a (by omega))
  have step1 : zm_X12_twinRows 110 [some (.inr m), some (.inl a1), some (.inl (nI w)), some (.inl (nI x)), some (.inl (nI (dgs w).length)), some (.inl (nI (dgs w).length))] [] z = zm_X12_twinRows 165 [some (.inr m), some (.inl a1), some (.inl (nI w)), some (.inl (nI x)), some (.inl (nI (dgs x).length)), some (.inl (nI 0))] [] (zsI z m 45 (nI (u0.length + (dgs w).length))) := by
    rw [e_X12_twinRows_110, if_neg (by rw [nI_ltI (by omega) (by omega)]; omega), mi45 layz, Option.bind_some, e45z, nI_add, mp45 layz, Option.bind_some, n9, s_letters 9 (by decide), Option.bind_some, hx.ltr]
    rfl
  generalize zsI z m 45 (nI (u0.length + (dgs w).length)) = z1 at *
  have cp2 := zwr (g := fun i z => zm_X12_twinRows 165 [some (.inr m), some (.inl a1), some (.inl (nI w)), some (.inl (nI x)), some (.inl (nI (dgs x).length)), some (.inl (nI i))] [] z) (h := z1) (a := m + 40) (p := v0.length) (n := (dgs x).length) (f := fun j => (dgs x).getD j 0) (fun i hi => by
    have layz : MLay (zWr z1 (m + 40) v0.length i fun j => (dgs x).getD j 0) m := (zOf_Wr (L := [40]) (J := []) (by decide) (by decide)).lay lay1
    have e : zI (zWr z1 (m + 40) v0.length i fun j => (dgs x).getD j 0) m 46 = nI v0.length := (zI_Wr_a (by omega)).trans e46b
    rw [e_X12_twinRows_165, if_pos ((nI_ltI (by omega) (by omega)).mpr hi), mF44 layz, Option.bind_some, mi46 layz, Option.bind_some, e, s_mletter (by omega) hi (by omega), Option.bind_some, elx]
    dsimp only
    rw [nI_add, mw44 layz (by omega), Option.bind_some, nI_1])
  refine Exists.elim (show ∃ z, z = zWr z1 (m + 40) v0.length (dgs x).length fun j => (dgs x).getD j 0 from ⟨_, rfl⟩) fun z2 hz2 => ?_
  rw [← hz2] at cp2
  have oz2 : zOf m [39, 40] [45, 46, 47] z1 z2 := by rw [hz2]; exact zOf_Wr (by decide) (by decide)
  have lay2 := oz2.lay lay1
  have e45c : zI z2 m 45 = nI (u0.length + (dgs w).length) := by rw [hz2, zI_Wr_a (by omega)]; exact e45b
  have e46c : zI z2 m 46 = nI v0.length := by rw [hz2, zI_Wr_a (by omega)]; exact e46b
  have rvc : Rw z2 (m + 40) 0 (v0 ++ dgs x) := by
    rw [hz2]
    refine Rw.app (rvb.of (fun j hj => zI_Wr_out (by omega))) (fun j hj => ?_)
    rw [Nat.zero_add, zI_Wr_at hj]
  have ruc : Rw z2 (m + 39) 0 (u0 ++ dgs w) := by
    rw [hz2]
    exact rub.of (fun j hj => zI_Wr_a (by omega))
  have o3 : zOf m [39, 40] [45, 46, 47] z2 (zsI (zsI z2 m 46 (nI (v0.length + (dgs x).length))) m 47 0) := (zOf_pI (by decide)).tr (zOf_pI (by decide))
  have lay3 := o3.lay lay2
  have ul : (u0 ++ dgs w).length = u0.length + (dgs w).length := List.length_append
  have vl : (v0 ++ dgs x).length = v0.length + (dgs x).length := List.length_append
  have e45d : zI (zsI (zsI z2 m 46 (nI (v0.length + (dgs x).length))) m 47 0) m 45 = nI (u0 ++ dgs w).length := by rw [zI_sI_k (by omega), zI_sI_k (by omega), e45c, ul]
  have e46d : zI (zsI (zsI z2 m 46 (nI (v0.length + (dgs x).length))) m 47 0) m 46 = nI (v0 ++ dgs x).length := by rw [zI_sI_k (by omega), zI_sI, vl]
  have e47d : zI (zsI (zsI z2 m 46 (nI (v0.length + (dgs x).length))) m 47 0) m 47 = nI 0 := zI_sI
  have rud : Rw (zsI (zsI z2 m 46 (nI (v0.length + (dgs x).length))) m 47 0) (m + 39) 0 (u0 ++ dgs w) := ruc.of (fun j _ => (zI_sI_a (by omega)).trans (zI_sI_a (by omega)))
  have rvd : Rw (zsI (zsI z2 m 46 (nI (v0.length + (dgs x).length))) m 47 0) (m + 40) 0 (v0 ++ dgs x) := rvc.of (fun j _ => (zI_sI_a (by omega)).trans (zI_sI_a (by omega)))
  have step2 : zm_X12_twinRows 165 [some (.inr m), some (.inl a1), some (.inl (nI w)), some (.inl (nI x)), some (.inl (nI (dgs x).length)), some (.inl (nI (dgs x).length))] [] z2 = zm_X12_twinRows 214 [some (.inr m), some (.inl a1), some (.inl (nI w)), some (.inl (nI x)), some (.inl (nI (dgs x).length)), some (.inl (nI (dgs x).length))] [] (zsI (zsI z2 m 46 (nI (v0.length + (dgs x).length))) m 47 0) := by
    rw [e_X12_twinRows_165, if_neg (by rw [nI_ltI (by omega) (by omega)]; omega), mi46 lay2, Option.bind_some, e46c, nI_add, mp46 lay2, Option.bind_some, mp47 lay2.sI, Option.bind_some]
  generalize zsI (zsI z2 m 46 (nI (v0.length + (dgs x).length))) m 47 0 = z3 at *
  generalize u0 ++ dgs w = u at *
  generalize v0 ++ dgs x = v at *
  have hle := lcp_le u v
  have loop : ∀ (f i : Nat) (z : zM), f + i = lcp u v → zOf m [39, 40] [45, 46, 47] z3 z → zI z m 45 = nI u.length → zI z m 46 = nI v.length → Rw z (m + 39) 0 u → Rw z (m + 40) 0 v → zI z m 47 = nI i →
      ∃ h', zm_X12_twinRows 214 [some (.inr m), some (.inl a1), some (.inl (nI w)), some (.inl (nI x)), some (.inl (nI (dgs x).length)), some (.inl (nI (dgs x).length))] [] z = some (0, 0, h') ∧ zOf m [39, 40] [45, 46, 47] z3 h' ∧ LR h' m u v := by
    intro f
    induction f with
    | zero =>
      intro i z hi o a b c d e
      have hi : i = lcp u v := by omega
      subst hi
      have sp := lcp_spec u v (lcp u v) (Nat.le_refl _)
      have layq := o.lay lay3
      rw [e_X12_twinRows_214]
      simp only [mi45 layq, mi46 layq, mi47 layq, Option.bind_some, a, b, e]
      refine ⟨z, ?_, o, a, b, c, d, e⟩
      by_cases c1 : lcp u v < u.length
      · rw [if_pos ((nI_ltI (by omega) (by omega)).mpr c1)]
        by_cases c2 : lcp u v < v.length
        · have cu := c _ c1
          have dv := d _ c2
          rw [Nat.zero_add] at cu dv
          rw [if_pos ((nI_ltI (by omega) (by omega)).mpr c2), mF43 layq, Option.bind_some, mr43 layq (by omega), Option.bind_some, mF44 layq, Option.bind_some, mr44 layq (by omega), Option.bind_some, cu, dv, if_neg (fun q => Nat.lt_irrefl _ (sp.mp ⟨c1, c2, q⟩))]
        · rw [if_neg (by rw [nI_ltI (by omega) (by omega)]; exact c2)]
      · rw [if_neg (by rw [nI_ltI (by omega) (by omega)]; exact c1)]
    | succ f ih =>
      intro i z hi o a b c d e
      have sp := (lcp_spec u v i (by omega)).mpr (by omega)
      have layq := o.lay lay3
      have cu := c _ sp.1
      have dv := d _ sp.2.1
      rw [Nat.zero_add] at cu dv
      rw [e_X12_twinRows_214]
      simp only [mi45 layq, mi46 layq, mi47 layq, Option.bind_some, a, b, e]
      rw [if_pos ((nI_ltI (by omega) (by omega)).mpr sp.1), if_pos ((nI_ltI (by omega) (by omega)).mpr sp.2.1), mF43 layq, Option.bind_some, mr43 layq (by omega), Option.bind_some, mF44 layq, Option.bind_some, mr44 layq (by omega), Option.bind_some, cu, dv, if_pos sp.2.2, mp47 layq, Option.bind_some, nI_1]
      exact ih (i + 1) _ (by omega) (o.tr (zOf_pI (by decide))) ((zI_sI_k (by omega)).trans a) ((zI_sI_k (by omega)).trans b) (c.of (fun j _ => zI_sI_a (by omega))) (d.of (fun j _ => zI_sI_a (by omega))) zI_sI
  obtain ⟨h', r1, r2, r3⟩ := loop (lcp u v) 0 z3 rfl zOf.rf e45d e46d rud rvd e47d
  exact ⟨h', cp.trans (step1.trans (cp2.trans (step2.trans r1))), oz.tr (o1.tr (oz2.tr (o3.tr r2))), r3⟩
