/-! The reference: act. -/
section ACM
variable {h : zM} {m : Nat} {o : Option zLz} {Z : zLz}
/-- it is kept -/
theorem s_act160 {a1 a2 a3 a4 : Int32} {u : zWo} (lay : MLay h m) (e90 : zI h m 90 = nI u.length) (ru : Rw h (m + 73) 0 u) (hu : u.length ≤ 9000) (lu : LOk u) :
    ∃ h', zm_X12_act 160 [some (.inr m), some (.inl a1), some (.inl a2), some (.inl a3), some (.inl a4), some (.inl (0 : Int32)), none] [] h = some (nI u.length, 0, h') ∧ zOf m [72] [] h h' ∧ UAm h' m u := by
  have cp := zwr (g := fun j z => zm_X12_act 160 [some (.inr m), some (.inl a1), some (.inl a2), some (.inl a3), some (.inl a4), some (.inl (nI j)), none] [] z) (h := h) (a := m + 72) (p := 0) (n := u.length) (f := fun j => u.getD j 0) (fun j hj => by
    have oz : zOf m [72] [] h (zWr h (m + 72) 0 j fun j => u.getD j 0) := zOf_Wr (by decide) (by decide)
    have lz := oz.lay lay
    have x1 : zba (zWr h (m + 72) 0 j fun j => u.getD j 0) (m + 73) (nI j) = some (u.getD j 0) := by
      have := ru j hj
      rw [Nat.zero_add] at this
      rw [mr92 lz (by omega), oz.C (by decide) (by decide), this]
    rw [e_X12_act_160, mi90 lz, Option.bind_some, oz.J (by decide), e90, if_pos ((nI_ltI (by omega) (by omega)).mpr hj), mF91 lz, Option.bind_some, mF92 lz, Option.bind_some, x1, Option.bind_some, mw91 lz (by omega), Option.bind_some, nI_1, lu.byte hj, Nat.zero_add])
  have o1 : zOf m [72] [] h (zWr h (m + 72) 0 u.length fun j => u.getD j 0) := zOf_Wr (by decide) (by decide)
  refine Exists.elim (show ∃ z, z = zWr h (m + 72) 0 u.length fun j => u.getD j 0 from ⟨_, rfl⟩) fun z hz => ?_
  rw [← hz] at cp o1
  have lz := o1.lay lay
  have f90 : zI z m 90 = nI u.length := (o1.J (by decide)).trans e90
  refine ⟨z, ?_, o1, f90, fun j hj => by rw [hz, zI_Wr_at hj], hu⟩
  refine (show _ = _ from cp).trans ?_
  rw [e_X12_act_160, mi90 lz, Option.bind_some, f90, if_neg (by rw [nI_ltI (by omega) (by omega)]; omega), Option.bind_some]
/-- letter by letter -/
theorem s_act75 (zk : zOk Z) (hZ : Z.1 ≤ 100) {x : Nat} {us : List Nat} (hx : x < 2 ^ 31) (hd : (dl us.length x) = us.map nI) (h9 : us.length ≤ 9) (h3 : ∀ l ∈ us, 1 ≤ l ∧ l ≤ 3) : ∀ (vs : List Nat) (k q : Nat) (u : zWo) (h : zM), us.drop k = vs → k ≤ us.length → q < Z.1 → MLay h m → LZm h m Z → Rw h (m + 73) 0 u → u.length ≤ 520 + 780 * k → LOk u →
    (∀ v, acZ Z q vs = some v → ∃ h', zm_X12_act 75 [some (.inr m), some (.inl (nI x)), some (.inl (nI us.length)), some (.inl (nI u.length)), some (.inl (nI q)), some (.inl (nI k)), none] [] h = some (nI (u ++ v).length, 0, h') ∧ zOf m [72, 73] [90] h h' ∧ UAm h' m (u ++ v)) ∧
    (acZ Z q vs = none → ∃ h', zm_X12_act 75 [some (.inr m), some (.inl (nI x)), some (.inl (nI us.length)), some (.inl (nI u.length)), some (.inl (nI q)), some (.inl (nI k)), none] [] h = some (-1, 0, h') ∧ zOf m [73] [] h h') := by
  intro vs
  induction vs with
  | nil =>
    intro k q u h hk hkl hq lay lz ru hu lu
    have kl : k = us.length := by
      have := congrArg List.length hk
      rw [List.length_drop, List.length_nil] at this
      omega
    have oe := (lz.2.2 q hq).1
    rw [acZ_nil, kl, e_X12_act_75, if_neg (by rw [nI_ltI (by omega) (by omega)]; omega), mF81 lay, Option.bind_some, n4, pk_mul, mr81 lay (by omega), Option.bind_some]
    cases eZ : Z.2.2.1 q with
    | none =>
      rw [eZ] at oe
      rw [show zI h (m + 64) (4 * q) = -1 from oe, if_pos (by decide)]
      exact ⟨fun v e => (by cases e), fun _ => ⟨h, rfl, zOf.rf⟩⟩
    | some w =>
      rw [eZ] at oe
      have wl := oe.2.2.1
      obtain ⟨z, r1, r2, r3⟩ := s_rbehind (e := 4 * q) (u := u) lay (by omega) oe ru (by omega)
      have al : (u ++ w).length = u.length + w.length := List.length_append
      rw [(show zI h (m + 64) (4 * q) = nI w.length ∧ _ from oe).1, if_neg (nI_nn (by omega)), zif_ok lay.1, r1, Option.bind_some]
      dsimp only
      have lz' := r2.lay lay
      rw [mp90 lz', Option.bind_some]
      have o2 : zOf m [] [90] z (zsI z m 90 (nI (u ++ w).length)) := zOf_pI (by decide)
      obtain ⟨h', q1, q2, q3⟩ := s_act160 (a1 := nI x) (a2 := nI us.length) (a3 := nI u.length) (a4 := nI q) (u := u ++ w) (o2.lay lz') zI_sI (r3.of (fun j _ => o2.C (by decide) (by decide) _)) (by omega) (lu.app oe.2.2.2)
      rw [q1]
      exact ⟨fun v e => by
        cases e
        exact ⟨h', rfl, ((r2.wide (by decide) (by decide)).tr (o2.wide (by decide) (by decide))).tr (q2.wide (by decide) (by decide)), q3⟩, fun e => by cases e⟩
  | cons l vs ih =>
    intro k q u h hk hkl hq lay lz ru hu lu
    have kl : k < us.length := by
      have := congrArg List.length hk
      rw [List.length_drop, List.length_cons] at this
      omega
    have el : us[k]? = some l := by
      have := congrArg (fun l : List Nat => l[0]?) hk
      simp only [List.getElem?_drop, Nat.add_zero, List.getElem?_cons_zero] at this
      exact this
    have hdrop : us.drop (k + 1) = vs := by
      have := congrArg (fun l : List Nat => l.drop 1) hk
      simp only [List.drop_drop, List.drop_succ_cons, List.drop_zero] at this
      exact this
    have l3 := h3 l (List.mem_of_getElem? el)
    have lt : (dl us.length x).getD k 0 = nI l := by
      rw [hd, List.getD_eq_getElem?_getD, List.getElem?_map, el]
      rfl
    have wy := (lz.2.2 q hq).2 (l - 1) (by omega)
    rw [show 4 * q + (l - 1 + 1) = 4 * q + l by omega] at wy
    rw [acZ_cons, e_X12_act_75, if_pos ((nI_ltI (by omega) (by omega)).mpr kl), s_mletter hx kl (by omega), Option.bind_some, lt]
    dsimp only
    rw [mF80 lay, Option.bind_some, n4, pk_mul, nI_add, mr80 lay (by omega), Option.bind_some]
    have w63 := wy.2
    have w64 := wy.1
    cases eZ : Z.2.2.2 (3 * q + (l - 1)) with
    | none =>
      rw [eZ] at w63
      dsimp only at w63 ⊢
      rw [w63, if_pos (by decide)]
      exact ⟨fun v e => (by cases e), fun _ => ⟨h, rfl, zOf.rf⟩⟩
    | some p =>
      rw [eZ] at w63 w64
      dsimp only at w63 ⊢
      obtain ⟨po, plt⟩ := zk.2 _ p (show 3 * q + (l - 1) < 3 * Z.1 by omega) eZ
      have w64' : OWB h m 64 65 780 (4 * q + l) (some p.1) := w64
      have wl := w64'.2.2.1
      have al : (u ++ p.1).length = u.length + p.1.length := List.length_append
      obtain ⟨z, r1, r2, r3⟩ := s_rbehind (e := 4 * q + l) (u := u) lay (by omega) w64' ru (by omega)
      have lz' := r2.lay lay
      rw [w63, if_neg (nI_nn (by omega)), zif_ok lay.1, r1, Option.bind_some]
      dsimp only
      rw [mF80 lz', Option.bind_some, mr80 lz' (by omega), Option.bind_some, r2.C (by decide) (by decide), w63, nI_1]
      obtain ⟨i1, i2⟩ := ih (k + 1) p.2 (u ++ p.1) z hdrop (by omega) plt lz' (lz.o r2 (by decide) (by decide)) r3 (by omega) (lu.app po)
      refine ⟨fun v e => ?_, fun e => ?_⟩
      · cases ev : acZ Z p.2 vs with
        | none => rw [ev] at e; cases e
        | some v' =>
          rw [ev] at e
          have e2 : p.1 ++ v' = v := Option.some.inj e
          obtain ⟨h', q1, q2, q3⟩ := i1 v' ev
          rw [List.append_assoc, e2] at q1 q3
          exact ⟨h', q1, (r2.wide (by decide) (by decide)).tr q2, q3⟩
      · cases ev : acZ Z p.2 vs with
        | none =>
          obtain ⟨h', q1, q2⟩ := i2 ev
          exact ⟨h', q1, r2.tr q2⟩
        | some v' => rw [ev] at e; cases e
theorem s_ract {u : zWo} (lay : MLay h m) (d : LOm h m o) (ua : UAm h m u) (w : Int32) : ∃ h', zf nX12_act [.inr m, .inl w] h = some ((aAct o u w).1, 0, h') ∧ zOf m [72, 73] [90] h h' ∧ UAm h' m (aAct o u w).2 := by
  rw [e_X12_act, n3, s_letters 3 (by decide), Option.bind_some]
  dsimp only
  rw [mi78 lay, Option.bind_some, d.1]
  cases o with
  | none =>
    rw [if_pos (show bI (none : Option zLz).isSome = 0 from rfl)]
    exact ⟨h, rfl, zOf.rf, ua⟩
  | some Z =>
    obtain ⟨lz, hZ, zk⟩ := d.2 Z rfl
    have ea : aAct (some Z) u w = if isW 3 9 w = true then (match acF Z (usOf w) with | none => (-1, u) | some v => (nI v.length, v)) else (-1, u) := rfl
    rw [if_neg (show ¬ bI (some Z).isSome = 0 from (by decide : ¬ bI true = 0)), mi79 lay, Option.bind_some, lz.1, ea]
    by_cases c0 : Z.1 = 0
    · rw [if_pos (by rw [c0]; rfl)]
      have e0 : acF Z (usOf w) = none := if_pos c0
      rw [e0]
      refine ⟨h, ?_, zOf.rf, ?_⟩
      · split <;> rfl
      · split
        · exact ua
        · exact ua
    · rw [if_neg (show ¬ nI Z.1 = (0 : Int32) by rw [n0, nI_eq (by omega) (by omega)]; exact c0)]
      have iw := isW_lt (w := w) 3
      by_cases c1 : ltI 3 w < 0
      · rw [if_pos c1, if_neg (fun x => (iw.mp x).1 c1)]
        exact ⟨h, rfl, zOf.rf, ua⟩
      · rw [if_neg c1]
        by_cases c9 : 9 < ltI 3 w
        · rw [if_pos c9, if_neg (fun x => (iw.mp x).2 c9)]
          exact ⟨h, rfl, zOf.rf, ua⟩
        · have hw : isW 3 9 w = true := iw.mpr ⟨c1, c9⟩
          rw [if_neg c9, if_pos hw]
          obtain ⟨x, ex, hx, edn, eus, ul, ug, elt, end_⟩ := isW_in hw
          generalize hus : usOf w = us at *
          have e1 : acF Z us = (acZ Z 0 us).map (Z.2.1 ++ ·) := if_neg c0
          obtain ⟨b1, b2, b3, b4⟩ := lz.2.1
          rw [mi83 lay, Option.bind_some, b1, elt, ex]
          -- the begin
          have cp := zwr (g := fun j z => zm_X12_act 40 [some (.inr m), some (.inl (nI x)), some (.inl (nI us.length)), some (.inl (nI Z.2.1.length)), some (.inl (nI j)), none, none] [] z) (h := h) (a := m + 73) (p := 0) (n := Z.2.1.length) (f := fun j => Z.2.1.getD j 0) (fun j hj => by
            have oz : zOf m [73] [] h (zWr h (m + 73) 0 j fun j => Z.2.1.getD j 0) := zOf_Wr (by decide) (by decide)
            have ly := oz.lay lay
            have x1 : zba (zWr h (m + 73) 0 j fun j => Z.2.1.getD j 0) (m + 66) (nI j) = some (Z.2.1.getD j 0) := by
              have := b2 j hj
              rw [Nat.zero_add] at this
              rw [mr84 ly (by omega), oz.C (by decide) (by decide), this]
            rw [e_X12_act_40, mi83 ly, Option.bind_some, oz.J (by decide), b1, if_pos ((nI_ltI (by omega) (by omega)).mpr hj), mF92 ly, Option.bind_some, mF84 ly, Option.bind_some, x1, Option.bind_some, mw92 ly (by omega), Option.bind_some, nI_1, b4.byte hj, Nat.zero_add])
          have o1 : zOf m [73] [] h (zWr h (m + 73) 0 Z.2.1.length fun j => Z.2.1.getD j 0) := zOf_Wr (by decide) (by decide)
          refine Exists.elim (show ∃ z, z = zWr h (m + 73) 0 Z.2.1.length fun j => Z.2.1.getD j 0 from ⟨_, rfl⟩) fun z hz => ?_
          rw [← hz] at cp o1
          have ly := o1.lay lay
          have start : zm_X12_act 40 [some (.inr m), some (.inl (nI x)), some (.inl (nI us.length)), some (.inl (nI Z.2.1.length)), some (.inl (0 : Int32)), none, none] [] h = zm_X12_act 75 [some (.inr m), some (.inl (nI x)), some (.inl (nI us.length)), some (.inl (nI Z.2.1.length)), some (.inl (nI 0)), some (.inl (nI 0)), none] [] z := by
            refine (show _ = _ from cp).trans ?_
            rw [e_X12_act_40, mi83 ly, Option.bind_some, o1.J (by decide), b1, if_neg (by rw [nI_ltI (by omega) (by omega)]; omega)]
            rfl
          have hdl : dl us.length x = us.map nI := by
            rw [eus, edn, ← end_]
            rfl
          obtain ⟨i1, i2⟩ := s_act75 (m := m) zk hZ (show x < 2 ^ 31 by omega) hdl ul ug us 0 0 Z.2.1 z rfl (Nat.zero_le _) (Nat.pos_of_ne_zero c0) ly (lz.o o1 (by decide) (by decide)) (fun j hj => by rw [hz, zI_Wr_at hj]) (by omega) b4
          rw [start, e1]
          cases ev : acZ Z 0 us with
          | none =>
            obtain ⟨h', q1, q2⟩ := i2 ev
            have o2 := o1.tr q2
            exact ⟨h', q1, o2.wide (by decide) (by decide), ua.k o2 (by decide) (by decide)⟩
          | some v =>
            obtain ⟨h', q1, q2, q3⟩ := i1 v ev
            exact ⟨h', q1, (o1.wide (by decide) (by decide)).tr q2, q3⟩
end ACM
