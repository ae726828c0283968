/-! The reference: twins, level by level. -/
abbrev Lw : List Nat := [39, 40, 46, 47, 48, 49]
abbrev Jw : List Nat := [45, 46, 47, 54, 59, 60, 61]
theorem MUs.o {h h' : zM} {m t : Nat} {M : zMa} {L J : List Nat} (d : MUs h m t M) (o : zOf m L J h h') (hL : 9 ∉ L) : MUs h' m t M := fun q hq => (o.C (by omega) hL _).trans (d q hq)
theorem MUs.r {h : zM} {m t : Nat} {M : zMa} (d : MUs h m t M) (lay : MLay h m) (ht : t < 2) {q : Nat} (hq : q < 6) : zba h (m + 9) (nI (6 * t + q)) = some (bI (isU M q)) := by
  rw [mr8 lay (by omega), d q hq]
  rfl
theorem s_misUsedArc {h : zM} {m t i : Nat} {Ms : Nat → zMa} (d : MMs h m Ms) (u : MUs h m t (Ms t)) (ht : t < 2) (k : MaOk (Ms t)) (hi : i < (Ms t).2.2.2.length) : zf nX12_isUsedArc [.inr m, .inl (nI t), .inl (nI (30 * t + i))] h = some (bI (isU (Ms t) (arcAt (Ms t) i).1 && isU (Ms t) (arcAt (Ms t) i).2.2.1), 0, h) := by
  have ka := k.at hi
  have k6 := k.1
  rw [e_X12_isUsedArc, mF8 d.1, Option.bind_some, mF4 d.1, Option.bind_some, d.from ht k hi, Option.bind_some, n6, pk_mul, nI_add, u.r d.1 ht (show (arcAt (Ms t) i).1 < 6 by omega), Option.bind_some]
  cases isU (Ms t) (arcAt (Ms t) i).1 with
  | false => rw [if_pos (show bI false = 0 from rfl), zb0]; rfl
  | true =>
    rw [if_neg (show ¬ bI true = 0 by decide), Option.bind_some, mF6 d.1, Option.bind_some, d.to ht k hi, Option.bind_some, nI_add, u.r d.1 ht (show (arcAt (Ms t) i).2.2.1 < 6 by omega), Option.bind_some]
    cases isU (Ms t) (arcAt (Ms t) i).2.2.1 with
    | false => rw [if_pos (show bI false = 0 from rfl), zb0]; rfl
    | true => rw [if_neg (show ¬ bI true = 0 by decide), zb1]; rfl
theorem s_mtwinRows {h : zM} {m i w x : Nat} {T : List zCf} (lay : MLay h m) (tr : TwR h m T) (hi : i < T.length) (hw : wOk w) (hx : wOk x) :
    ∃ h', zf nX12_twinRows [.inr m, .inl (nI i), .inl (nI w), .inl (nI x)] h = some (0, 0, h') ∧ zOf m [39, 40] [45, 46, 47] h h' ∧ LR h' m ((kAt T i).2.1 ++ dgs w) ((kAt T i).2.2 ++ dgs x) := by
  obtain ⟨⟨t1, t2, t3, t4, t5⟩, k1, k2, k3, k4⟩ := tr.2 i hi
  have hl := tr.1
  generalize kAt T i = c at *
  rw [e_X12_twinRows, mF56 lay, Option.bind_some, mr56 lay (by omega), Option.bind_some, t2, mp45 lay, Option.bind_some, mF57 lay.sI, Option.bind_some, mr57 lay.sI (by omega), Option.bind_some, zI_sI_a (by omega), t3, mp46 lay.sI, Option.bind_some]
  generalize hz1 : zsI (zsI h m 45 (nI c.2.1.length)) m 46 (nI c.2.2.length) = z1
  have o1 : zOf m [39, 40] [45, 46, 47] h z1 := by
    rw [← hz1]
    exact (zOf_pI (by decide)).tr (zOf_pI (by decide))
  have l1 := o1.lay lay
  have e45 : zI z1 m 45 = nI c.2.1.length := by rw [← hz1, zI_sI_k (by omega), zI_sI]
  have e46 : zI z1 m 46 = nI c.2.2.length := by rw [← hz1, zI_sI]
  have f49 : ∀ j, zI z1 (m + 49) j = zI h (m + 49) j := fun j => o1.C (by decide) (by decide) _
  clear hz1
  have cp := zwr (g := fun j z => zm_X12_twinRows 23 [some (.inr m), some (.inl (nI i)), some (.inl (nI w)), some (.inl (nI x)), some (.inl (nI j)), none] [] z) (h := z1) (a := m + 39) (p := 0) (n := c.2.1.length) (f := fun j => c.2.1.getD j 0) (fun j hj => by
    have lz : MLay (zWr z1 (m + 39) 0 j fun j => c.2.1.getD j 0) m := (zOf_Wr (L := [39]) (J := []) (by decide) (by decide)).lay l1
    have r1 : zba (zWr z1 (m + 39) 0 j fun j => c.2.1.getD j 0) (m + 49) (nI (224 * i + j)) = some (c.2.1.getD j 0) := by rw [mr58 lz (by omega), zI_Wr_a (by omega), f49, t4 j hj]
    rw [e_X12_twinRows_23, mi45 lz, Option.bind_some, zI_Wr_a (by omega), e45, if_pos ((nI_ltI (by omega) (by omega)).mpr hj), mF43 lz, Option.bind_some, mF58 lz, Option.bind_some, n224, pk_mul, nI_add, r1, Option.bind_some, mw43 lz (by omega), Option.bind_some, nI_1, Nat.zero_add])
  have o2 : zOf m [39, 40] [45, 46, 47] z1 (zWr z1 (m + 39) 0 c.2.1.length fun j => c.2.1.getD j 0) := zOf_Wr (by decide) (by decide)
  refine Exists.elim (show ∃ z, z = zWr z1 (m + 39) 0 c.2.1.length fun j => c.2.1.getD j 0 from ⟨_, rfl⟩) fun z2 hz2 => ?_
  rw [← hz2] at cp o2
  have l2 := o2.lay l1
  have e45b : zI z2 m 45 = nI c.2.1.length := by rw [hz2, zI_Wr_a (by omega), e45]
  have e46b : zI z2 m 46 = nI c.2.2.length := by rw [hz2, zI_Wr_a (by omega), e46]
  have ru : Rw z2 (m + 39) 0 c.2.1 := fun j hj => by rw [hz2, zI_Wr_at hj]
  have f49b : ∀ j, zI z2 (m + 49) j = zI h (m + 49) j := fun j => by rw [hz2, zI_Wr_a (by omega), f49]
  have step : zm_X12_twinRows 23 [some (.inr m), some (.inl (nI i)), some (.inl (nI w)), some (.inl (nI x)), some (.inl (nI c.2.1.length)), none] [] z2 = zm_X12_twinRows 61 [some (.inr m), some (.inl (nI i)), some (.inl (nI w)), some (.inl (nI x)), some (.inl (nI 0)), none] [] z2 := by
    rw [e_X12_twinRows_23, mi45 l2, Option.bind_some, e45b, if_neg (by rw [nI_ltI (by omega) (by omega)]; omega)]
    rfl
  have cp2 := zwr (g := fun j z => zm_X12_twinRows 61 [some (.inr m), some (.inl (nI i)), some (.inl (nI w)), some (.inl (nI x)), some (.inl (nI j)), none] [] z) (h := z2) (a := m + 40) (p := 0) (n := c.2.2.length) (f := fun j => c.2.2.getD j 0) (fun j hj => by
    have lz : MLay (zWr z2 (m + 40) 0 j fun j => c.2.2.getD j 0) m := (zOf_Wr (L := [40]) (J := []) (by decide) (by decide)).lay l2
    have r1 : zba (zWr z2 (m + 40) 0 j fun j => c.2.2.getD j 0) (m + 49) (nI (224 * i + 112 + j)) = some (c.2.2.getD j 0) := by rw [mr58 lz (by omega), zI_Wr_a (by omega), f49b, t5 j hj]
    rw [e_X12_twinRows_61, mi46 lz, Option.bind_some, zI_Wr_a (by omega), e46b, if_pos ((nI_ltI (by omega) (by omega)).mpr hj), mF44 lz, Option.bind_some, mF58 lz, Option.bind_some, n224, pk_mul, show (112 : Int32) = nI 112 from rfl, nI_add, nI_add, r1, Option.bind_some, mw44 lz (by omega), Option.bind_some, nI_1, Nat.zero_add])
  have o3 : zOf m [39, 40] [45, 46, 47] z2 (zWr z2 (m + 40) 0 c.2.2.length fun j => c.2.2.getD j 0) := zOf_Wr (by decide) (by decide)
  refine Exists.elim (show ∃ z, z = zWr z2 (m + 40) 0 c.2.2.length fun j => c.2.2.getD j 0 from ⟨_, rfl⟩) fun z3 hz3 => ?_
  rw [← hz3] at cp2 o3
  have l3 := o3.lay l2
  have e45c : zI z3 m 45 = nI c.2.1.length := by rw [hz3, zI_Wr_a (by omega), e45b]
  have e46c : zI z3 m 46 = nI c.2.2.length := by rw [hz3, zI_Wr_a (by omega), e46b]
  have rv : Rw z3 (m + 40) 0 c.2.2 := fun j hj => by rw [hz3, zI_Wr_at hj]
  have ru2 : Rw z3 (m + 39) 0 c.2.1 := ru.of (fun j _ => by rw [hz3, zI_Wr_a (by omega)])
  obtain ⟨h', r1, r2, r3⟩ := s_twinRows_tail (a1 := nI i) l3 hw hx e45c e46c ru2 rv (by omega) (by omega)
  refine ⟨h', ?_, ((o1.tr o2).tr o3).tr r2, r3⟩
  refine cp.trans (step.trans (cp2.trans ?_))
  rw [e_X12_twinRows_61, mi46 l3, Option.bind_some, e46c, if_neg (by rw [nI_ltI (by omega) (by omega)]; omega)]
  exact r1
/-- all that the loops keep -/
def TZ (Ms : Nat → zMa) (m t lim : Nat) (h0 h : zM) (S : zTs) : Prop := zOf m Lw Jw h0 h ∧ TwS h m lim S ∧ twOk (Ms t) lim S ∧ MMs h m Ms ∧ MUs h m t (Ms t)
section TZR
variable {h0 h : zM} {m t lim : Nat} {Ms : Nat → zMa} {S : zTs}
theorem TZ.ly (z : TZ Ms m t lim h0 h S) : MLay h m := z.2.2.2.1.1
theorem TZ.put {c : zCf} {x y : zWo} {p q n : Nat} (hk : MaOk (Ms t)) (z : TZ Ms m t lim h0 h S) (cl : CL h m n x y) (hlim : lim < 2 ^ 30) (hc : c = ((p, q), x, y)) (hp : p < (Ms t).1 ∧ q < (Ms t).1 ∧ isU (Ms t) p = true ∧ isU (Ms t) q = true) : ∃ h', zf nX12_twin [.inr m, .inl (nI p), .inl (nI q)] h = some (0, 0, h') ∧ TZ Ms m t lim h0 h' (twAdd lim c S) ∧ zI h' m 61 = zI h m 61 ∧ zOf m [46, 47, 48, 49] [54, 60] h h' := by
  have k6 := hk.1
  obtain ⟨h', r1, r2, r3⟩ := s_mtwin z.ly z.2.1 cl hlim (show p < 6 by omega) (show q < 6 by omega)
  rw [hc]
  refine ⟨h', r1, ⟨z.1.tr (r2.wide (by decide) (by decide)), r3, twAdd_ok z.2.2.1 ⟨hp.1, hp.2.1, hp.2.2.1, hp.2.2.2, cl.2.2.2.2.2.1, cl.2.2.2.2.2.2.1⟩, z.2.2.2.1.o2 r2 (by decide), z.2.2.2.2.o r2 (by decide)⟩, r2.J (by decide), r2⟩
/-- what the arcs need of the pair -/
def TwG (M : zMa) (c : zCf) : Prop := TwK c ∧ c.1.1 < M.1 ∧ c.1.2 < M.1 ∧ isU M c.1.1 = true ∧ isU M c.1.2 = true ∧ LOk c.2.1 ∧ LOk c.2.2 ∧ c.2.1.length ≤ 108 ∧ c.2.2.length ≤ 108
/-- one arc on the right -/
theorem s_tw349 (hk : ∀ t, t < 2 → MaOk (Ms t)) (ht : t < 2) (hlim : lim < 2 ^ 30) {c : zCf} {i j : Nat} {a2 a3 a4 a5 : Int32} {k : Nat} (hc : TwG (Ms t) c) (hi : i < (Ms t).2.2.2.length) (hj : j < (Ms t).2.2.2.length) (z : TZ Ms m t lim h0 h S) (hS : k < S.1.length ∧ kAt S.1 k = c) :
    ∃ h', zm_X12_twinsOf 349 [some (.inr m), some (.inl (nI t)), some (.inl a2), some (.inl a3), some (.inl a4), some (.inl a5), some (.inl (nI k)), some (.inl (nI (30 * t + i))), some (.inl (nI (30 * t + j)))] [] h = zm_X12_twinsOf 349 [some (.inr m), some (.inl (nI t)), some (.inl a2), some (.inl a3), some (.inl a4), some (.inl a5), some (.inl (nI k)), some (.inl (nI (30 * t + i))), some (.inl (nI (30 * t + (j + 1))))] [] h' ∧
      TZ Ms m t lim h0 h' (if (arcAt (Ms t) i).1 = c.1.1 ∧ isU (Ms t) (arcAt (Ms t) i).2.2.1 = true then twArc2 (Ms t) lim c (arcAt (Ms t) i) S (arcAt (Ms t) j) else S) ∧ zI h' m 61 = zI h m 61 := by
  have kM := hk t ht
  have k6 := kM.1
  have k30 := kM.2.2.2.1
  obtain ⟨⟨c1, c2, c3, c4⟩, d1, d2, u1, u2, o1, o2, l1, l2⟩ := hc
  have lay := z.ly
  have mm := z.2.2.2.1
  have mu := z.2.2.2.2
  obtain ⟨tc, -⟩ := z.2.1.2.2.2.2 k hS.1
  have hl := z.2.1.2.2.2.1
  rw [hS.2] at tc
  have ka := kM.at hi
  have kb := kM.at hj
  have same : ∀ y : Option zR, y = zm_X12_twinsOf 349 [some (.inr m), some (.inl (nI t)), some (.inl a2), some (.inl a3), some (.inl a4), some (.inl a5), some (.inl (nI k)), some (.inl (nI (30 * t + i))), some (.inl (nI (30 * t + (j + 1))))] [] h → (¬ ((arcAt (Ms t) i).1 = c.1.1 ∧ isU (Ms t) (arcAt (Ms t) i).2.2.1 = true) ∨ ¬ ((arcAt (Ms t) j).1 = c.1.2 ∧ (arcAt (Ms t) j).2.1 = (arcAt (Ms t) i).2.1 ∧ isU (Ms t) (arcAt (Ms t) j).2.2.1 = true)) → ∃ h', y = zm_X12_twinsOf 349 [some (.inr m), some (.inl (nI t)), some (.inl a2), some (.inl a3), some (.inl a4), some (.inl a5), some (.inl (nI k)), some (.inl (nI (30 * t + i))), some (.inl (nI (30 * t + (j + 1))))] [] h' ∧
      TZ Ms m t lim h0 h' (if (arcAt (Ms t) i).1 = c.1.1 ∧ isU (Ms t) (arcAt (Ms t) i).2.2.1 = true then twArc2 (Ms t) lim c (arcAt (Ms t) i) S (arcAt (Ms t) j) else S) ∧ zI h' m 61 = zI h m 61 := by
    intro y hy hn
    refine ⟨h, hy, ?_, rfl⟩
    by_cases e1 : (arcAt (Ms t) i).1 = c.1.1 ∧ isU (Ms t) (arcAt (Ms t) i).2.2.1 = true
    · have e2 : ¬ ((arcAt (Ms t) j).1 = c.1.2 ∧ (arcAt (Ms t) j).2.1 = (arcAt (Ms t) i).2.1 ∧ isU (Ms t) (arcAt (Ms t) j).2.2.1 = true) := hn.resolve_left (fun w => w e1)
      unfold twArc2
      rw [if_pos e1, if_neg e2]
      exact z
    · rw [if_neg e1]
      exact z
  have nx : nI (30 * t + j) + 1 = nI (30 * t + (j + 1)) := nI_1 _
  have dv := n_div6 (6 * c.1.1 + c.1.2) (by omega)
  rw [show (6 * c.1.1 + c.1.2) / 6 = c.1.1 by omega, show (6 * c.1.1 + c.1.2) % 6 = c.1.2 by omega] at dv
  rw [e_X12_twinsOf_349, mF3 lay, Option.bind_some, mm.arcs ht, Option.bind_some, n30, pk_mul, nI_add, if_pos ((nI_ltI (by omega) (by omega)).mpr (by omega)), mF4 lay, Option.bind_some, mm.from ht kM hi, Option.bind_some, mF55 lay, Option.bind_some, mr55 lay (by omega), Option.bind_some, tc.1, if_neg (by decide), dv.1, nx]
  by_cases q1 : (arcAt (Ms t) i).1 = c.1.1
  · rw [if_pos (by rw [q1]), Option.bind_some, mm.from ht kM hj, Option.bind_some, Option.bind_some, mr55 lay (by omega), Option.bind_some, tc.1, if_neg (by decide), dv.2]
    by_cases q2 : (arcAt (Ms t) j).1 = c.1.2
    · rw [if_pos (by rw [q2]), mF5 lay, Option.bind_some, mm.by ht kM hi, Option.bind_some, Option.bind_some, mm.by ht kM hj, Option.bind_some]
      by_cases q3 : (arcAt (Ms t) i).2.1 = (arcAt (Ms t) j).2.1
      · rw [if_pos (by rw [q3]), zif_ok lay.1, s_misUsedArc mm mu ht kM hi, Option.bind_some, q1, u1, Bool.true_and]
        dsimp only
        cases q4 : isU (Ms t) (arcAt (Ms t) i).2.2.1 with
        | false =>
          rw [if_pos (show bI false = 0 from rfl)]
          have := same _ rfl (Or.inl (fun w => by rw [q4] at w; exact absurd w.2 (by decide)))
          rw [q1, q4] at this
          exact this
        | true =>
          rw [if_neg (show ¬ bI true = 0 by decide), zif_ok lay.1, s_misUsedArc mm mu ht kM hj, Option.bind_some, q2, u2, Bool.true_and]
          dsimp only
          cases q5 : isU (Ms t) (arcAt (Ms t) j).2.2.1 with
          | false =>
            rw [if_pos (show bI false = 0 from rfl)]
            have := same _ rfl (Or.inr (fun w => by rw [q5] at w; exact absurd w.2.2 (by decide)))
            rw [q1, q4] at this
            exact this
          | true =>
            rw [if_neg (show ¬ bI true = 0 by decide), mF7 lay, Option.bind_some, mm.word ht kM hi, Option.bind_some, Option.bind_some, mm.word ht kM hj, Option.bind_some, zif_ok lay.1]
            have wa := (kM.at2 hi).2.2.2
            have wb := (kM.at2 hj).2.2.2
            obtain ⟨z1, r1, r2, r3⟩ := s_mtwinRows lay z.2.1.2.2.2 hS.1 wa wb
            rw [hS.2] at r3
            rw [r1, Option.bind_some]
            dsimp only
            have lz := r2.lay lay
            have mz := mm.o2 r2 (by decide)
            rw [mF6 lz, Option.bind_some, mz.to ht kM hi, Option.bind_some, Option.bind_some, mz.to ht kM hj, Option.bind_some, zif_ok lz.1]
            have wal := wa.len
            have wbl := wb.len
            have ul : (c.2.1 ++ dgs (arcAt (Ms t) i).2.2.2).length = c.2.1.length + (dgs (arcAt (Ms t) i).2.2.2).length := List.length_append
            have vl : (c.2.2 ++ dgs (arcAt (Ms t) j).2.2.2).length = c.2.2.length + (dgs (arcAt (Ms t) j).2.2.2).length := List.length_append
            have cl := r3.cl (o1.app wa.dig) (o2.app wb.dig) (by omega) (by rw [List.length_drop]; omega) (by rw [List.length_drop]; omega)
            have z1z : TZ Ms m t lim h0 z1 S := ⟨z.1.tr (r2.wide (by decide) (by decide)), z.2.1.o r2 (by decide) (by decide), z.2.2.1, mz, mu.o r2 (by decide)⟩
            obtain ⟨z2, s1, s2, s3, -⟩ := z1z.put (c := twC c (arcAt (Ms t) i) (arcAt (Ms t) j)) kM cl hlim rfl ⟨ka.2.2.1, kb.2.2.1, q4, q5⟩
            rw [s1, Option.bind_some]
            refine ⟨z2, rfl, ?_, s3.trans (r2.J (by decide))⟩
            rw [if_pos ⟨rfl, rfl⟩]
            unfold twArc2
            rw [if_pos ⟨q2, q3.symm, q5⟩]
            exact s2
      · rw [if_neg (by rw [nI_eq (by omega) (by omega)]; exact q3)]
        exact same _ rfl (Or.inr (fun w => q3 w.2.1.symm))
    · rw [if_neg (by rw [nI_eq (by omega) (by omega)]; exact q2)]
      exact same _ rfl (Or.inr (fun w => q2 w.1))
  · rw [if_neg (by rw [nI_eq (by omega) (by omega)]; exact q1)]
    exact same _ rfl (Or.inl (fun w => q1 w.1))
/-- all arcs on the right -/
def stpT (M : zMa) (lim : Nat) (c : zCf) (a : zArc) (S : zTs) (b : zArc) : zTs := if a.1 = c.1.1 ∧ isU M a.2.2.1 = true then twArc2 M lim c a S b else S
theorem stpT_pre (M : zMa) (lim : Nat) (c : zCf) (a : zArc) (S : zTs) (b : zArc) : ∃ t, (stpT M lim c a S b).1 = S.1 ++ t := by
  unfold stpT
  split
  · exact twArc2_pre M lim c a S b
  · exact ⟨[], (List.append_nil _).symm⟩
theorem stpT_all (M : zMa) (lim : Nat) (c : zCf) (a : zArc) (S : zTs) : M.2.2.2.foldl (stpT M lim c a) S = twArc M lim c S a := by
  unfold twArc
  by_cases q : a.1 = c.1.1 ∧ isU M a.2.2.1 = true
  · rw [if_pos q]
    have : stpT M lim c a = twArc2 M lim c a := by
      funext S b
      exact if_pos q
    rw [this]
  · rw [if_neg q]
    have : stpT M lim c a = fun S _ => S := by
      funext S b
      exact if_neg q
    rw [this]
    generalize M.2.2.2 = l
    induction l generalizing S with
    | nil => rfl
    | cons x l ih => exact ih S
theorem pre_at {S S' : zTs} {c : zCf} {k : Nat} (p : ∃ t, S'.1 = S.1 ++ t) (h : k < S.1.length ∧ kAt S.1 k = c) : k < S'.1.length ∧ kAt S'.1 k = c := by
  obtain ⟨t, e⟩ := p
  rw [e, List.length_append, kAt_l h.1]
  exact ⟨by omega, h.2⟩
theorem s_tw327 (hk : ∀ t, t < 2 → MaOk (Ms t)) (ht : t < 2) (hlim : lim < 2 ^ 30) {c : zCf} {a2 a3 a4 a5 : Int32} {k : Nat} (hc : TwG (Ms t) c) (z : TZ Ms m t lim h0 h S) (hS : k < S.1.length ∧ kAt S.1 k = c) :
    ∃ h', zm_X12_twinsOf 327 [some (.inr m), some (.inl (nI t)), some (.inl a2), some (.inl a3), some (.inl a4), some (.inl a5), some (.inl (nI k)), some (.inl (nI (30 * t + 0))), none] [] h = zm_X12_twinsOf 314 [some (.inr m), some (.inl (nI t)), some (.inl a2), some (.inl a3), some (.inl a4), some (.inl a5), some (.inl (nI (k + 1))), none, none] [] h' ∧ TZ Ms m t lim h0 h' (twCf (Ms t) lim S c) ∧ zI h' m 61 = zI h m 61 := by
  have kM := hk t ht
  have k30 := kM.2.2.2.1
  have outer := zlp (P := fun i y => TZ Ms m t lim h0 y (((Ms t).2.2.2.take i).foldl (twArc (Ms t) lim c) S) ∧ zI y m 61 = zI h m 61) (g := fun i y => zm_X12_twinsOf 327 [some (.inr m), some (.inl (nI t)), some (.inl a2), some (.inl a3), some (.inl a4), some (.inl a5), some (.inl (nI k)), some (.inl (nI (30 * t + i))), none] [] y) (n := (Ms t).2.2.2.length) ?_ 0 h (Nat.zero_le _) ⟨z, rfl⟩
  · obtain ⟨h', e1, e2, e3⟩ := outer
    rw [List.take_length] at e2
    refine ⟨h', ?_, e2, e3⟩
    rw [e1, e_X12_twinsOf_327, mF3 e2.ly, Option.bind_some, e2.2.2.2.1.arcs ht, Option.bind_some, n30, pk_mul, nI_add, if_neg (by rw [nI_ltI (by omega) (by omega)]; omega), nI_1]
  · rintro i y hi ⟨zy, ey⟩
    rw [e_X12_twinsOf_327, mF3 zy.ly, Option.bind_some, zy.2.2.2.1.arcs ht, Option.bind_some, n30, pk_mul, nI_add, if_pos ((nI_ltI (by omega) (by omega)).mpr (by omega)), fold_take _ _ _ i _ (arc_get hi)]
    have hS1 := pre_at (fold_pre1 (twArc_pre (Ms t) lim c) ((Ms t).2.2.2.take i) S) hS
    generalize ((Ms t).2.2.2.take i).foldl (twArc (Ms t) lim c) S = S1 at *
    have inner := zlp (P := fun j x => TZ Ms m t lim h0 x (((Ms t).2.2.2.take j).foldl (stpT (Ms t) lim c (arcAt (Ms t) i)) S1) ∧ zI x m 61 = zI h m 61) (g := fun j x => zm_X12_twinsOf 349 [some (.inr m), some (.inl (nI t)), some (.inl a2), some (.inl a3), some (.inl a4), some (.inl a5), some (.inl (nI k)), some (.inl (nI (30 * t + i))), some (.inl (nI (30 * t + j)))] [] x) (n := (Ms t).2.2.2.length) ?_ 0 y (Nat.zero_le _) ⟨zy, ey⟩
    · obtain ⟨x, f1, f2, f3⟩ := inner
      rw [List.take_length, stpT_all] at f2
      refine ⟨x, ?_, f2, f3⟩
      rw [Nat.add_zero] at f1
      rw [f1, e_X12_twinsOf_349, mF3 f2.ly, Option.bind_some, f2.2.2.2.1.arcs ht, Option.bind_some, n30, pk_mul, nI_add, if_neg (by rw [nI_ltI (by omega) (by omega)]; omega), nI_1]
      rfl
    · rintro j x hj ⟨zx, ex⟩
      rw [fold_take _ _ _ j _ (arc_get hj)]
      have hS2 := pre_at (fold_pre1 (stpT_pre (Ms t) lim c (arcAt (Ms t) i)) ((Ms t).2.2.2.take j) S1) hS1
      obtain ⟨x', g1, g2, g3⟩ := s_tw349 (a2 := a2) (a3 := a3) (a4 := a4) (a5 := a5) hk ht hlim hc hi hj zx hS2
      exact ⟨x', g1, g2, g3.trans ex⟩
theorem s_tw314 (hk : ∀ t, t < 2 → MaOk (Ms t)) (ht : t < 2) (hlim : lim < 2 ^ 30) {a2 a3 a4 : Int32} {start : Nat} (hst : start ≤ S.1.length) (hG : ∀ c ∈ S.1, TwG (Ms t) c) (z : TZ Ms m t lim h0 h S) :
    ∃ h', zm_X12_twinsOf 314 [some (.inr m), some (.inl (nI t)), some (.inl a2), some (.inl a3), some (.inl a4), some (.inl (nI S.1.length)), some (.inl (nI start)), none, none] [] h = zm_X12_twinsOf 264 [some (.inr m), some (.inl (nI t)), some (.inl a2), some (.inl a3), some (.inl (nI S.1.length)), none, none, none, none] [] h' ∧ TZ Ms m t lim h0 h' (twLv (Ms t) lim start S) ∧ zI h' m 61 = zI h m 61 := by
  have hl := z.2.1.2.2.2.1
  have dl : (S.1.drop start).length = S.1.length - start := List.length_drop
  have outer := zlp (P := fun j y => TZ Ms m t lim h0 y (((S.1.drop start).take j).foldl (twCf (Ms t) lim) S) ∧ zI y m 61 = zI h m 61) (g := fun j y => zm_X12_twinsOf 314 [some (.inr m), some (.inl (nI t)), some (.inl a2), some (.inl a3), some (.inl a4), some (.inl (nI S.1.length)), some (.inl (nI (start + j))), none, none] [] y) (n := (S.1.drop start).length) ?_ 0 h (Nat.zero_le _) ⟨z, rfl⟩
  · obtain ⟨h', e1, e2, e3⟩ := outer
    rw [List.take_length] at e2
    refine ⟨h', ?_, e2, e3⟩
    rw [Nat.add_zero] at e1
    rw [e1, e_X12_twinsOf_314, if_neg (by rw [nI_ltI (by omega) (by omega)]; omega)]
  · rintro j y hj ⟨zy, ey⟩
    have hg : (S.1.drop start)[j]? = some (kAt S.1 (start + j)) := by rw [List.getElem?_drop]; exact kAt_get (by omega)
    have hS1 := pre_at (c := kAt S.1 (start + j)) (k := start + j) (fold_pre1 (twCf_pre (Ms t) lim) ((S.1.drop start).take j) S) ⟨by omega, rfl⟩
    rw [e_X12_twinsOf_314, if_pos ((nI_ltI (by omega) (by omega)).mpr (by omega)), fold_take _ _ _ j _ hg]
    obtain ⟨x, f1, f2, f3⟩ := s_tw327 (a2 := a2) (a3 := a3) (a4 := a4) (a5 := nI S.1.length) hk ht hlim (hG _ (kAt_mem (by omega))) zy hS1
    refine ⟨x, ?_, f2, f3.trans ey⟩
    rw [Nat.add_zero] at f1
    rw [n30, pk_mul]
    exact f1
theorem s_tw264 (hk : ∀ t, t < 2 → MaOk (Ms t)) (ht : t < 2) (hlim : lim ≤ 108) {a2 a3 : Int32} : ∀ (f start lv : Nat) (S : zTs) (h : zM), 1001 < f + start → start ≤ S.1.length → TZ Ms m t lim h0 h S → zI h m 61 = nI lv →
    ∃ h', zm_X12_twinsOf 264 [some (.inr m), some (.inl (nI t)), some (.inl a2), some (.inl a3), some (.inl (nI start)), none, none, none, none] [] h = some (nI (twRun (Ms t) lim f start lv S).1, 0, h') ∧ TZ Ms m t lim h0 h' (twRun (Ms t) lim f start lv S).2.2 ∧ zI h' m 61 = nI (twRun (Ms t) lim f start lv S).2.1 := by
  intro f
  induction f with
  | zero =>
    intro start lv S h hf hst z e61
    have hl := z.2.1.2.2.2.1
    omega
  | succ f ih =>
    intro start lv S h hf hst z e61
    have hl := z.2.1.2.2.2.1
    rw [e_X12_twinsOf_264, mi54 z.ly, Option.bind_some, z.2.1.1]
    show ∃ h', _ = some (nI (if start < S.1.length then (if S.2 = true then (0, lv + 1, S) else if 1000 < S.1.length then (2, lv + 1, S) else twRun (Ms t) lim f S.1.length (lv + 1) (twLv (Ms t) lim start S)) else (1, lv, S)).1, 0, h') ∧ TZ Ms m t lim h0 h' (if start < S.1.length then (if S.2 = true then (0, lv + 1, S) else if 1000 < S.1.length then (2, lv + 1, S) else twRun (Ms t) lim f S.1.length (lv + 1) (twLv (Ms t) lim start S)) else (1, lv, S)).2.2 ∧ zI h' m 61 = nI (if start < S.1.length then (if S.2 = true then (0, lv + 1, S) else if 1000 < S.1.length then (2, lv + 1, S) else twRun (Ms t) lim f S.1.length (lv + 1) (twLv (Ms t) lim start S)) else (1, lv, S)).2.1
    by_cases c1 : start < S.1.length
    · rw [if_pos ((nI_ltI (by omega) (by omega)).mpr c1), if_pos c1, mi61 z.ly, Option.bind_some, e61, nI_1, mp61 z.ly, Option.bind_some]
      have o1 : zOf m [] [61] h (zsI h m 61 (nI (lv + 1))) := zOf_pI (by decide)
      have z1 : TZ Ms m t lim h0 (zsI h m 61 (nI (lv + 1))) S := ⟨z.1.tr (o1.wide (by decide) (by decide)), z.2.1.o o1 (by decide) (by decide), z.2.2.1, z.2.2.2.1.o2 o1 (by decide), z.2.2.2.2.o o1 (by decide)⟩
      have w61 : zI (zsI h m 61 (nI (lv + 1))) m 61 = nI (lv + 1) := zI_sI
      generalize zsI h m 61 (nI (lv + 1)) = h1 at *
      rw [mi60 z1.ly, Option.bind_some, z1.2.1.2.2.1]
      cases c2 : S.2 with
      | true =>
        rw [if_neg (show ¬ bI true = 0 by decide), if_pos rfl]
        exact ⟨h1, rfl, z1, w61⟩
      | false =>
        rw [if_pos (show bI false = 0 from rfl), if_neg (by decide), mi54 z1.ly, Option.bind_some, z1.2.1.1, n1001]
        by_cases c3 : 1000 < S.1.length
        · rw [if_pos (by rw [show S.1.length = 1001 by omega]), if_pos c3]
          exact ⟨h1, rfl, z1, w61⟩
        · rw [if_neg (by rw [nI_eq (by omega) (by omega)]; omega), if_neg c3, Option.bind_some]
          have hG : ∀ c ∈ S.1, TwG (Ms t) c := fun c hc => by
            obtain ⟨i, hi, e⟩ := mem_kAt hc
            have k := (z1.2.1.2.2.2.2 i hi).2
            rw [e] at k
            have a := z1.2.2.1.1 c hc
            have b := z1.2.2.1.2.2 c2 c hc
            exact ⟨k, a.1, a.2.1, a.2.2.1, a.2.2.2.1, a.2.2.2.2.1, a.2.2.2.2.2, by omega, by omega⟩
          obtain ⟨h2, r1, r2, r3⟩ := s_tw314 (a2 := a2) (a3 := a3) (a4 := nI start) hk ht (by omega) hst hG z1
          rw [r1]
          have hp := twLv_pre (Ms t) lim start S
          obtain ⟨tl, hp⟩ := hp
          exact ih S.1.length (lv + 1) _ h2 (by omega) (by rw [hp, List.length_append]; omega) r2 (r3.trans w61)
    · rw [if_neg (by rw [nI_ltI (by omega) (by omega)]; exact c1), if_neg c1]
      exact ⟨h, rfl, z, e61⟩
end TZR
/-- the begin -/
theorem s_mtwinsOf {h : zM} {m t : Nat} {Ms : Nat → zMa} (d : MMs h m Ms) (hk : ∀ t, t < 2 → MaOk (Ms t)) (ht : t < 2) (u : MUs h m t (Ms t)) :
    ∃ h', zf nX12_twinsOf [.inr m, .inl (nI t)] h = some (nI (twJ (Ms t)).1, 0, h') ∧ zOf m Lw Jw h h' ∧ zI h' m 61 = nI (twJ (Ms t)).2.1 ∧ zI h' m 54 = nI (twJ (Ms t)).2.2.1.length := by
  have kM := hk t ht
  have k6 := kM.1
  have k30 := kM.2.2.2.1
  have lay := d.1
  have hlim := twLim_le kM
  rw [e_X12_twinsOf]
  -- how many are used
  have c1 := zlp (P := fun _ z => z = h) (g := fun q z => zm_X12_twinsOf 7 [some (.inr m), some (.inl (nI t)), some (.inl (nI ((List.range q).filter (isU (Ms t))).length)), some (.inl (0 : Int32)), some (.inl (nI q)), none, none, none, none] [] z) (n := (Ms t).1) (fun q z hq hz => ⟨z, by
    subst hz
    rw [e_X12_twinsOf_7, mF0 lay, Option.bind_some, d.many ht, Option.bind_some, if_pos ((nI_ltI (by omega) (by omega)).mpr hq), mF8 lay, Option.bind_some, n6, pk_mul, nI_add, u.r lay ht (show q < 6 by omega), Option.bind_some, rng_s]
    cases isU (Ms t) q with
    | true =>
      rw [if_neg (show ¬ bI true = 0 by decide), if_pos rfl, List.length_append, List.length_singleton, nI_1, nI_1]
    | false =>
      rw [if_pos (show bI false = 0 from rfl), if_neg (by decide), List.append_nil, nI_1, Int32.add_zero], hz⟩) 0 h (Nat.zero_le _) rfl
  obtain ⟨h', c1, rfl⟩ := c1
  have epc : ((List.range (Ms t).1).filter (isU (Ms t))).length = pcB (useB (Ms t)) := cnt_pc (Ms t).1 k6 (useB (Ms t)) (use_lt kM)
  rw [epc] at c1
  have c1' : zm_X12_twinsOf 7 [some (.inr m), some (.inl (nI t)), some (.inl (0 : Int32)), some (.inl (0 : Int32)), some (.inl (0 : Int32)), none, none, none, none] [] h' = _ := c1
  rw [c1', e_X12_twinsOf_7, mF0 lay, Option.bind_some, d.many ht, Option.bind_some, if_neg (by rw [nI_ltI (by omega) (by omega)]; omega)]
  -- the longest
  have l3 : ∀ j, ((Ms t).2.2.2.take j).foldl (longF (Ms t)) 0 ≤ 3 := fun j => foldl_inv (P := fun n => n ≤ 3) (fun n a ha h => by
    have := (kM.2.2.2.2 a (List.mem_of_mem_take ha)).2.2.2.len
    unfold longF
    split <;> omega) (Nat.zero_le _)
  obtain ⟨h, e, e2⟩ := zlp (P := fun _ g => g = h') (g := fun j g => zm_X12_twinsOf 53 [some (.inr m), some (.inl (nI t)), some (.inl (nI (pcB (useB (Ms t))))), some (.inl (nI (((Ms t).2.2.2.take j).foldl (longF (Ms t)) 0))), some (.inl (nI (30 * t + j))), none, none, none, none] [] g) (n := (Ms t).2.2.2.length) (fun j g hj hg => ⟨g, by
    subst hg
    have ka := kM.at hj
    have wa := (kM.at2 hj).2.2.2
    have wal := wa.len
    have hl3 := l3 j
    rw [fold_take _ _ _ j _ (arc_get hj)]
    generalize ((Ms t).2.2.2.take j).foldl (longF (Ms t)) 0 = s at *
    rw [e_X12_twinsOf_53, mF3 lay, Option.bind_some, d.arcs ht, Option.bind_some, n30, pk_mul, nI_add, if_pos ((nI_ltI (by omega) (by omega)).mpr (by omega)), zif_ok lay.1, s_misUsedArc d u ht kM hj, Option.bind_some, nI_1, show 30 * t + j + 1 = 30 * t + (j + 1) from rfl]
    dsimp only
    unfold longF
    cases q1 : isU (Ms t) (arcAt (Ms t) j).1 with
    | false => rw [Bool.false_and, if_pos (show bI false = 0 from rfl), if_neg (fun w => by cases w.1)]
    | true =>
      cases q2 : isU (Ms t) (arcAt (Ms t) j).2.2.1 with
      | false => rw [Bool.true_and, if_pos (show bI false = 0 from rfl), if_neg (fun w => by cases w.2)]
      | true =>
        rw [Bool.true_and, if_neg (show ¬ bI true = 0 by decide), if_pos ⟨rfl, rfl⟩, mF7 lay, Option.bind_some, d.word ht kM hj, Option.bind_some, n9, s_letters 9 (by decide), Option.bind_some, wa.ltr]
        dsimp only
        by_cases q : s < (dgs (arcAt (Ms t) j).2.2.2).length
        · rw [if_pos ((nI_ltI (by omega) (by omega)).mpr q), mF7 lay, Option.bind_some, d.word ht kM hj, Option.bind_some, s_letters 9 (by decide), Option.bind_some, wa.ltr, Nat.max_eq_right (by omega)]
        · rw [if_neg (by rw [nI_ltI (by omega) (by omega)]; exact q), Nat.max_eq_left (by omega)], hg⟩) 0 h' (Nat.zero_le _) rfl
  subst e2
  rw [List.take_length] at e
  rw [n30, pk_mul, show zm_X12_twinsOf 53 [some (.inr m), some (.inl (nI t)), some (.inl (nI (pcB (useB (Ms t))))), some (.inl (0 : Int32)), some (.inl (nI (30 * t))), none, none, none, none] [] h = _ from e, e_X12_twinsOf_53, mF3 lay, Option.bind_some, d.arcs ht, Option.bind_some, n30, pk_mul, nI_add, if_neg (by rw [nI_ltI (by omega) (by omega)]; omega), pk_mul, pk_mul, show (Ms t).2.2.2.foldl (longF (Ms t)) 0 * pcB (useB (Ms t)) * pcB (useB (Ms t)) = twLim (Ms t) from rfl]
  rw [mp59 lay, Option.bind_some, mp60 lay.sI (Or.inl rfl), Option.bind_some, mp54 lay.sI.sI, Option.bind_some, mp61 lay.sI.sI.sI, Option.bind_some, mp45 lay.sI.sI.sI.sI, Option.bind_some, mp46 lay.sI.sI.sI.sI.sI, Option.bind_some, mp47 lay.sI.sI.sI.sI.sI.sI, Option.bind_some]
  generalize hz1 : zsI (zsI (zsI (zsI (zsI (zsI (zsI h m 59 (nI (twLim (Ms t)))) m 60 0) m 54 0) m 61 0) m 45 0) m 46 0) m 47 0 = z1
  have o1 : zOf m Lw Jw h z1 := by
    rw [← hz1]
    exact ((((((zOf_pI (by decide)).tr (zOf_pI (by decide))).tr (zOf_pI (by decide))).tr (zOf_pI (by decide))).tr (zOf_pI (by decide))).tr (zOf_pI (by decide))).tr (zOf_pI (by decide))
  have w59 : zI z1 m 59 = nI (twLim (Ms t)) := by rw [← hz1, zI_sI_k (by omega), zI_sI_k (by omega), zI_sI_k (by omega), zI_sI_k (by omega), zI_sI_k (by omega), zI_sI_k (by omega), zI_sI]
  have w60 : zI z1 m 60 = 0 := by rw [← hz1, zI_sI_k (by omega), zI_sI_k (by omega), zI_sI_k (by omega), zI_sI_k (by omega), zI_sI_k (by omega), zI_sI]
  have w54 : zI z1 m 54 = 0 := by rw [← hz1, zI_sI_k (by omega), zI_sI_k (by omega), zI_sI_k (by omega), zI_sI_k (by omega), zI_sI]
  have w61 : zI z1 m 61 = 0 := by rw [← hz1, zI_sI_k (by omega), zI_sI_k (by omega), zI_sI_k (by omega), zI_sI]
  have w45 : zI z1 m 45 = 0 := by rw [← hz1, zI_sI_k (by omega), zI_sI_k (by omega), zI_sI]
  have w46 : zI z1 m 46 = 0 := by rw [← hz1, zI_sI_k (by omega), zI_sI]
  have w47 : zI z1 m 47 = 0 := by rw [← hz1, zI_sI]
  clear hz1 c1 c1' e
  have Z1 : TZ Ms m t (twLim (Ms t)) h z1 ([], false) := ⟨o1, ⟨w54, w59, w60, by exact Nat.zero_le _, fun i hi => absurd hi (Nat.not_lt_zero _)⟩, ⟨fun c hc => (by cases hc), Nat.zero_le _, fun _ c hc => (by cases hc)⟩, d.o2 o1 (by decide), u.o o1 (by decide)⟩
  have C1 : CL z1 m 0 [] [] := ⟨w45, w46, w47, Rw.nil, Rw.nil, LOk.nil, LOk.nil, Nat.zero_le _, Nat.zero_le _, Nat.zero_le _⟩
  generalize nI (pcB (useB (Ms t))) = x2
  generalize nI ((Ms t).2.2.2.foldl (longF (Ms t)) 0) = x3
  have main := zlp (P := fun p z => TZ Ms m t (twLim (Ms t)) h z ((iniUT (Ms t) p).foldl (fun S c => twAdd (twLim (Ms t)) c S) ([], false)) ∧ zI z m 61 = 0 ∧ CL z m 0 [] []) (g := fun p z => zm_X12_twinsOf 156 [some (.inr m), some (.inl (nI t)), some (.inl x2), some (.inl x3), some (.inl (nI p)), none, none, none, none] [] z) (n := (Ms t).1) ?_ 0 z1 (Nat.zero_le _) ⟨Z1, w61, C1⟩
  · obtain ⟨z, e1, e2, e3, e4⟩ := main
    obtain ⟨h', r1, r2, r3⟩ := s_tw264 (a2 := x2) (a3 := x3) hk ht hlim 1002 0 0 (twIni (Ms t) (twLim (Ms t))) z (by omega) (Nat.zero_le _) e2 e3
    refine ⟨h', ?_, r2.1, r3, r2.2.1.1⟩
    rw [n0, e1, e_X12_twinsOf_156, mF0 e2.ly, Option.bind_some, e2.2.2.2.1.many ht, Option.bind_some, if_neg (by rw [nI_ltI (by omega) (by omega)]; omega)]
    exact r1
  · rintro p z hp ⟨zz, z61, zc⟩
    rw [e_X12_twinsOf_156, mF0 zz.ly, Option.bind_some, zz.2.2.2.1.many ht, Option.bind_some, if_pos ((nI_ltI (by omega) (by omega)).mpr hp)]
    have inner := zlp (P := fun q y => TZ Ms m t (twLim (Ms t)) h y ((iniUT (Ms t) p ++ if begF (Ms t) p then rowU (Ms t) p q else []).foldl (fun S c => twAdd (twLim (Ms t)) c S) ([], false)) ∧ zI y m 61 = 0 ∧ CL y m 0 [] []) (g := fun q y => zm_X12_twinsOf 170 [some (.inr m), some (.inl (nI t)), some (.inl x2), some (.inl x3), some (.inl (nI p)), some (.inl (nI q)), none, none, none] [] y) (n := (Ms t).1) ?_ 0 z (Nat.zero_le _) ⟨by
      have : (if begF (Ms t) p = true then rowU (Ms t) p 0 else []) = [] := by split <;> rfl
      rw [this, List.append_nil]
      exact zz, z61, zc⟩
    · obtain ⟨y, i1, i2, i3, i4⟩ := inner
      rw [← iniUT_s] at i2
      refine ⟨y, ?_, i2, i3, i4⟩
      rw [n0, i1, e_X12_twinsOf_170, mF0 i2.ly, Option.bind_some, i2.2.2.2.1.many ht, Option.bind_some, if_neg (by rw [nI_ltI (by omega) (by omega)]; omega), nI_1]
    · rintro q y hq ⟨yz, y61, yc⟩
      have my := yz.2.2.2.1
      have uy := yz.2.2.2.2
      have ly := yz.ly
      have fp := my.first ht (show p < 6 by omega)
      have fq := my.first ht (show q < 6 by omega)
      rw [e_X12_twinsOf_170, mF0 ly, Option.bind_some, my.many ht, Option.bind_some, if_pos ((nI_ltI (by omega) (by omega)).mpr hq), mF8 ly, Option.bind_some, n6, pk_mul, nI_add, nI_add, uy.r ly ht (show p < 6 by omega), Option.bind_some, nI_1, mF1 ly]
      have skip : (begF (Ms t) p && begF (Ms t) q) = false → ∃ h', zm_X12_twinsOf 170 [some (.inr m), some (.inl (nI t)), some (.inl x2), some (.inl x3), some (.inl (nI p)), some (.inl (nI (q + 1))), none, none, none] [] y = zm_X12_twinsOf 170 [some (.inr m), some (.inl (nI t)), some (.inl x2), some (.inl x3), some (.inl (nI p)), some (.inl (nI (q + 1))), none, none, none] [] h' ∧ TZ Ms m t (twLim (Ms t)) h h' ((iniUT (Ms t) p ++ if begF (Ms t) p then rowU (Ms t) p (q + 1) else []).foldl (fun S c => twAdd (twLim (Ms t)) c S) ([], false)) ∧ zI h' m 61 = 0 ∧ CL h' m 0 [] [] := fun hb => by
        refine ⟨y, rfl, ?_, y61, yc⟩
        rw [rowU_s]
        cases b1 : begF (Ms t) p with
        | false => rw [b1] at yz; exact yz
        | true =>
          rw [b1, Bool.true_and] at hb
          rw [b1, if_pos rfl] at yz
          rw [hb, if_pos rfl, if_neg (by decide), List.append_nil]
          exact yz
      cases b1 : isU (Ms t) p with
      | false =>
        rw [if_pos (show bI false = 0 from rfl)]
        exact skip (by unfold begF; rw [b1, Bool.and_false, Bool.false_and])
      | true =>
        rw [if_neg (show ¬ bI true = 0 by decide), Option.bind_some, fp, Option.bind_some]
        cases b2 : (Ms t).2.1.testBit p with
        | false =>
          rw [if_pos (show bI false = 0 from rfl)]
          exact skip (by unfold begF; rw [b2, Bool.false_and, Bool.false_and])
        | true =>
          rw [if_neg (show ¬ bI true = 0 by decide), Option.bind_some, uy.r ly ht (show q < 6 by omega), Option.bind_some]
          cases b3 : isU (Ms t) q with
          | false =>
            rw [if_pos (show bI false = 0 from rfl)]
            exact skip (by unfold begF; rw [b3, Bool.and_false, Bool.and_false])
          | true =>
            rw [if_neg (show ¬ bI true = 0 by decide), Option.bind_some, fq, Option.bind_some]
            cases b4 : (Ms t).2.1.testBit q with
            | false =>
              rw [if_pos (show bI false = 0 from rfl)]
              exact skip (by unfold begF; rw [b4, Bool.false_and, Bool.and_false])
            | true =>
              rw [if_neg (show ¬ bI true = 0 by decide), zif_ok ly.1]
              obtain ⟨y', g1, g2, g3, g4⟩ := yz.put (c := ((p, q), [], [])) kM yc (by omega) rfl ⟨hp, hq, b1, b3⟩
              rw [g1, Option.bind_some]
              refine ⟨y', rfl, ?_, g3.trans y61, yc.o g4 (by decide) (by decide)⟩
              have bp : begF (Ms t) p = true := by unfold begF; rw [b1, b2]; rfl
              have bq : begF (Ms t) q = true := by unfold begF; rw [b3, b4]; rfl
              rw [bp, if_pos rfl] at g2
              rw [bp, if_pos rfl, rowU_s, bq, if_pos rfl, ← List.append_assoc, List.foldl_append]
              exact g2
