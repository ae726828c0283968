/-! The reference: copy. -/
theorem tb_mod {B q r : Nat} : (B % 2 ^ q).testBit r = (decide (r < q) && B.testBit r) := Nat.testBit_mod_two_pow B q r
/-- as far as q states are copied -/
def cpM (M : zMa) (q : Nat) : zMa := (M.1, M.2.1 % 2 ^ q, fun r => if r < q then M.2.2.1 r else none, [])
/-- as far as i arcs are copied -/
def cpA (M : zMa) (i : Nat) : zMa := (M.1, M.2.1, M.2.2.1, M.2.2.2.take i)
theorem cpM_6 {M : zMa} (k : MaOk M) : cpM M 6 = cpA M 0 := by
  have h64 := k.beg64
  have e1 : M.2.1 % 2 ^ 6 = M.2.1 := Nat.mod_eq_of_lt h64
  have e2 : (fun r => if r < 6 then M.2.2.1 r else none) = M.2.2.1 := funext fun r => by
    by_cases c : r < 6
    · rw [if_pos c]
    · rw [if_neg c]
      cases e : M.2.2.1 r with
      | none => rfl
      | some w =>
        have := (k.2.2.1 r w e).1
        have := k.1
        omega
  unfold cpM cpA
  rw [e1, e2]
  rfl
theorem cpM_0 (M : zMa) : cpM M 0 = newM M.1 := by
  unfold cpM newM
  rw [show M.2.1 % 2 ^ 0 = 0 from Nat.mod_one _]
  refine congrArg (fun f => (M.1, 0, f, [])) (funext fun r => ?_)
  rw [if_neg (Nat.not_lt_zero _)]
theorem cpA_ok {M : zMa} (k : MaOk M) (i : Nat) : MaOk (cpA M i) := ⟨k.1, k.2.1, k.2.2.1, by
  show (M.2.2.2.take i).length ≤ 30
  rw [List.length_take]
  have := k.2.2.2.1
  omega, fun a ha => k.2.2.2.2 a (List.mem_of_mem_take ha)⟩
theorem s_mcopy {h : zM} {m : Nat} {Ms : Nat → zMa} (d : MMs h m Ms) (hk : ∀ t, t < 2 → MaOk (Ms t)) (t : Int32) : ∃ h', zf nX12_copy [.inr m, .inl t] h = some ((aCopy Ms t).1, 0, h') ∧ zFr (m + 1) (m + 9) h h' ∧ MMs h' m (aCopy Ms t).2 := by
  have lay := d.1
  rw [e_X12_copy, s_misMachine, Option.bind_some]
  dsimp only
  by_cases ct : isT t = true
  · obtain ⟨j, hj, rfl⟩ := isT_of ct
    have ea : aCopy Ms (nI j) = (1, va_up Ms j (Ms (1 - j))) := by
      unfold aCopy
      rw [if_pos ct, nI_clamp (by omega)]
    have ho : 1 - j < 2 := by omega
    have hne : 1 - j ≠ j := by omega
    have kM := hk (1 - j) ho
    have k6 := kM.1
    have k30 := kM.2.2.2.1
    rw [if_pos ct, if_neg (by decide), mF0 lay, Option.bind_some, n1, pk_sub (by omega), d.many ho, Option.bind_some, zif_ok lay.1, ea]
    generalize hM : Ms (1 - j) = M at *
    obtain ⟨z1, a1, a2, a3⟩ := s_mmachine d hk (nI j) (nI M.1)
    have em : aMachine Ms (nI j) (nI M.1) = (1, va_up Ms j (newM M.1)) := by
      unfold aMachine
      rw [if_pos ⟨ct, nI_nn (by omega), by rw [n6, nI_ltI (by omega) (by omega)]; omega⟩, nI_clamp (by omega), nI_clamp (by omega)]
    rw [em] at a1 a3
    rw [a1, Option.bind_some]
    dsimp only at a3 ⊢
    rw [← cpM_0] at a3
    have at1 : ∀ X, va_up Ms j X (1 - j) = M := fun X => by rw [va_up_both, if_neg hne]; exact hM
    have main := zlp (P := fun q z => zFr (m + 1) (m + 9) h z ∧ MMs z m (va_up Ms j (cpM M q))) (g := fun q z => zm_X12_copy 28 [some (.inr m), some (.inl (nI j)), some (.inl (nI (1 - j))), some (.inl (1 : Int32)), some (.inl (nI q))] [] z) (n := 6) ?_ 0 z1 (Nat.zero_le _) ⟨a2, a3⟩
    · obtain ⟨z2, b1, b2, b3⟩ := main
      rw [cpM_6 kM] at b3
      rw [n0]
      rw [show zm_X12_copy 28 [some (.inr m), some (.inl (nI j)), some (.inl (nI (1 - j))), some (.inl (1 : Int32)), some (.inl (nI 0))] [] z1 = _ from b1, e_X12_copy_28, if_neg (by decide)]
      have main2 := zlp (P := fun i z => zFr (m + 1) (m + 9) h z ∧ MMs z m (va_up Ms j (cpA M i))) (g := fun i z => zm_X12_copy 95 [some (.inr m), some (.inl (nI j)), some (.inl (nI (1 - j))), some (.inl (1 : Int32)), some (.inl (nI (30 * (1 - j) + i)))] [] z) (n := M.2.2.2.length) ?_ 0 z2 (Nat.zero_le _) ⟨b2, b3⟩
      · obtain ⟨z3, c1, c2, c3⟩ := main2
        have ef : cpA M M.2.2.2.length = M := by
          unfold cpA
          rw [List.take_length]
        rw [ef] at c3
        refine ⟨z3, ?_, c2, c3⟩
        rw [show (30 : Int32) = nI 30 from rfl, pk_mul]
        refine Eq.trans c1 ?_
        have am := c3.arcs (t := 1 - j) ho
        rw [va_up_both, if_neg hne, hM] at am
        rw [e_X12_copy_95, mF3 c3.1, Option.bind_some, am, Option.bind_some, show (30 : Int32) = nI 30 from rfl, pk_mul, nI_add, if_neg (by rw [nI_ltI (by omega) (by omega)]; omega), zb1]
      · rintro i z hi ⟨f, dz⟩
        have kz : ∀ t, t < 2 → MaOk (va_up Ms j (cpA M i) t) := fun t ht => by
          rw [va_up_both]
          by_cases e : t = j
          · rw [if_pos e]; exact cpA_ok kM i
          · rw [if_neg e]; exact hk t ht
        have e1 : va_up Ms j (cpA M i) (1 - j) = M := at1 _
        have am := dz.arcs (t := 1 - j) ho
        have kx := kz (1 - j) ho
        have r1 := dz.from (t := 1 - j) ho kx (i := i) (by rw [e1]; exact hi)
        have r2 := dz.by (t := 1 - j) ho kx (i := i) (by rw [e1]; exact hi)
        have r3 := dz.to (t := 1 - j) ho kx (i := i) (by rw [e1]; exact hi)
        have r4 := dz.word (t := 1 - j) ho kx (i := i) (by rw [e1]; exact hi)
        rw [e1] at am r1 r2 r3 r4
        rw [e_X12_copy_95, mF3 dz.1, Option.bind_some, am, Option.bind_some, show (30 : Int32) = nI 30 from rfl, pk_mul, nI_add, if_pos ((nI_ltI (by omega) (by omega)).mpr (by omega))]
        simp only [mF4 dz.1, mF5 dz.1, mF6 dz.1, mF7 dz.1, Option.bind_some, r1, r2, r3, r4, zif_ok dz.1.1, nI_1]
        have ej : va_up Ms j (cpA M i) j = cpA M i := by rw [va_up_both, if_pos rfl]
        obtain ⟨z4, q1, q2, q3⟩ := s_mcomes dz kz hj (by rw [ej]; show (M.2.2.2.take i).length < 30; rw [List.length_take]; omega) (arcAt M i)
        rw [q1, Option.bind_some]
        refine ⟨z4, rfl, f.tr q2, ?_⟩
        rw [ej] at q3
        have e2 : ((cpA M i).1, (cpA M i).2.1, (cpA M i).2.2.1, (cpA M i).2.2.2 ++ [arcAt M i]) = cpA M (i + 1) := by
          unfold cpA
          dsimp only
          rw [List.take_add_one, arc_get hi]
          rfl
        rw [e2] at q3
        have e3 : va_up (va_up Ms j (cpA M i)) j (cpA M (i + 1)) = va_up Ms j (cpA M (i + 1)) := funext fun t => by
          rw [va_up_both, va_up_both, va_up_both]
          split <;> rfl
        rw [e3] at q3
        exact q3
    · rintro q z hq ⟨f, dz⟩
      have e1 := at1 (cpM M q)
      have r1 := dz.first (t := 1 - j) ho hq
      have r2 : zia z (m + 3) (nI (6 * (1 - j) + q)) = some (zI z (m + 3) (6 * (1 - j) + q)) := mr2 dz.1 (by omega)
      rw [e1] at r1
      have hX : q < M.1 → zI z (m + 3) (6 * (1 - j) + q) = eI (M.2.2.1 q) := fun w => by
        have := ((dz.2 (1 - j) ho).2.2.1 q hq).2
        rw [e1] at this
        exact this w
      generalize zI z (m + 3) (6 * (1 - j) + q) = X at r2 hX
      have lz := dz.1
      rw [e_X12_copy_28, if_pos (by rw [n6, nI_ltI (by omega) (by omega)]; exact hq)]
      have f1 : zFr (m + 1) (m + 9) z (zsI z (m + 2) (6 * j + q) (bI (M.2.1.testBit q))) := zFr_sI (by omega) (by omega)
      have l1 : MLay (zsI z (m + 2) (6 * j + q) (bI (M.2.1.testBit q))) m := lz.sI
      have rd : zia (zsI z (m + 2) (6 * j + q) (bI (M.2.1.testBit q))) (m + 3) (nI (6 * (1 - j) + q)) = some (X) := by
        have q1 := mr2 l1 (i := 6 * (1 - j) + q) (by omega)
        have q2 := mr2 lz (i := 6 * (1 - j) + q) (by omega)
        rw [q1, zI_sI_a (by omega), ← q2]
        exact r2
      simp only [mF1 lz, Option.bind_some, n6, pk_mul, nI_add, r1, mw1 lz (show 6 * j + q < 12 by omega) (bI01 _), mF2 l1, rd, mw2 l1 (show 6 * j + q < 12 by omega), nI_1]
      refine ⟨_, rfl, f.tr (f1.tr (zFr_sI (by omega) (by omega))), l1.sI, fun t ht => ?_⟩
      have dt := dz.2 t ht
      rw [va_up_both] at dt ⊢
      have o1 : ∀ c i, c ≠ 2 → c ≠ 3 → zI (zsI (zsI z (m + 2) (6 * j + q) (bI (M.2.1.testBit q))) (m + 3) (6 * j + q) (X)) (m + c) i = zI z (m + c) i := fun c i h2 h3 => by rw [zI_sI_a (by omega), zI_sI_a (by omega)]
      have o2 : ∀ i, i ≠ 6 * j + q → zI (zsI (zsI z (m + 2) (6 * j + q) (bI (M.2.1.testBit q))) (m + 3) (6 * j + q) (X)) (m + 2) i = zI z (m + 2) i := fun i hi => by rw [zI_sI_a (by omega), zI_sI_k hi]
      have o3 : ∀ i, i ≠ 6 * j + q → zI (zsI (zsI z (m + 2) (6 * j + q) (bI (M.2.1.testBit q))) (m + 3) (6 * j + q) (X)) (m + 3) i = zI z (m + 3) i := fun i hi => by rw [zI_sI_k hi, zI_sI_a (by omega)]
      have v2 : zI (zsI (zsI z (m + 2) (6 * j + q) (bI (M.2.1.testBit q))) (m + 3) (6 * j + q) (X)) (m + 2) (6 * j + q) = bI (M.2.1.testBit q) := by rw [zI_sI_a (by omega), zI_sI]
      have v3 : zI (zsI (zsI z (m + 2) (6 * j + q) (bI (M.2.1.testBit q))) (m + 3) (6 * j + q) (X)) (m + 3) (6 * j + q) = X := zI_sI
      generalize zsI (zsI z (m + 2) (6 * j + q) (bI (M.2.1.testBit q))) (m + 3) (6 * j + q) (X) = z2 at *
      by_cases e : t = j
      · rw [if_pos e] at dt ⊢
        subst e
        obtain ⟨b1, b2, b3, b4⟩ := dt
        refine ⟨(o1 1 _ (by omega) (by omega)).trans b1, (o1 4 _ (by omega) (by omega)).trans b2, fun r hr => ?_, fun i hi => absurd hi (Nat.not_lt_zero _)⟩
        have q3 := b3 r hr
        unfold cpM at q3 ⊢
        dsimp only at q3 ⊢
        rw [tb_mod] at q3 ⊢
        by_cases er : r = q
        · rw [er, v2, v3, decide_eq_true (by omega), if_pos (by omega)]
          exact ⟨rfl, hX⟩
        · have q32 := q3.2
          rw [o2 _ (by omega), o3 _ (by omega), q3.1]
          by_cases c : r < q
          · rw [if_pos c] at q32
            rw [decide_eq_true c, decide_eq_true (show r < q + 1 by omega), if_pos (show r < q + 1 by omega)]
            exact ⟨rfl, q32⟩
          · rw [if_neg c] at q32
            rw [decide_eq_false c, decide_eq_false (show ¬ r < q + 1 by omega), if_neg (show ¬ r < q + 1 by omega)]
            exact ⟨rfl, q32⟩
      · rw [if_neg e] at dt ⊢
        obtain ⟨b1, b2, b3, b4⟩ := dt
        refine ⟨(o1 1 _ (by omega) (by omega)).trans b1, (o1 4 _ (by omega) (by omega)).trans b2, fun r hr => ?_, fun i hi => ?_⟩
        · rw [o2 _ (by omega), o3 _ (by omega)]
          exact b3 r hr
        · rw [o1 5 _ (by omega) (by omega), o1 6 _ (by omega) (by omega), o1 7 _ (by omega) (by omega), o1 8 _ (by omega) (by omega)]
          exact b4 i hi
  · have ea : aCopy Ms t = (0, Ms) := by
      unfold aCopy
      rw [if_neg ct]
    rw [if_neg ct, if_pos rfl, zb0, ea]
    exact ⟨h, rfl, zFr.rf, d⟩
