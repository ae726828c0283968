/-! The class Twins: begin and judge. -/
theorem dgs_len : ∀ w, w < 1000 → (dgs w).length = if w = 0 then 0 else if w < 10 then 1 else if w < 100 then 2 else 3 := by decide +kernel
theorem s_Tlongest {h : zM} {t A : Nat} {M : zMa} (mM : MC h A M) (kM : MaOk M) (X : TX h t) (hu : zI h t 2 = nI (useB M)) : zf nX7_longestArc [.inr t, .inr A] h = some (nI (longA M), 0, h) := by
  have h30 := kM.2.2.2.1
  have k6 := kM.1
  rw [e_X7_longestArc]
  have l3 : ∀ j, (M.2.2.2.take j).foldl (longF M) 0 ≤ 3 := fun j => foldl_inv (P := fun n => n ≤ 3) (fun n a ha h => by
    have := (kM.2.2.2.2 a (List.mem_of_mem_take ha)).2.2.2.len
    unfold longF
    split <;> omega) (Nat.zero_le _)
  obtain ⟨h', e, rfl⟩ := zlp (P := fun _ g => g = h) (g := fun j g => zm_X7_longestArc 4 [some (.inr t), some (.inr A), some (.inl (nI ((M.2.2.2.take j).foldl (longF M) 0))), some (.inl (nI j)), none, none] [] g) (n := M.2.2.2.length) (fun j g hj hg => ⟨g, by
    subst hg
    have ka := kM.at hj
    have hl3 := l3 j
    rw [fold_take _ _ _ j _ (arc_get hj)]
    generalize (M.2.2.2.take j).foldl (longF M) 0 = s at *
    rw [e_X7_longestArc_4, mM.arcs, Option.bind_some, if_pos ((nI_ltI (by omega) (by omega)).mpr hj)]
    simp only [zgI_ok X.1.1, hu, mM.f4, mM.rfrom kM hj, mM.f6, mM.rto kM hj, mM.f7, mM.rword kM hj, hold_U kM (show (arcAt M j).1 < 6 by omega), hold_U kM (show (arcAt M j).2.2.1 < 6 by omega), Option.bind_some, nI_1, s_max]
    by_cases c1 : isU M (arcAt M j).1 = true
    · rw [if_pos c1, if_neg (by decide)]
      by_cases c2 : isU M (arcAt M j).2.2.1 = true
      · rw [if_pos c2, if_neg (by decide)]
        have ex : longF M s (arcAt M j) = max s (dgs (arcAt M j).2.2.2).length := if_pos ⟨c1, c2⟩
        have em : ∀ k : Nat, k ≤ 3 → (if nI s < nI k then nI k else nI s) = nI (max s k) := fun k hk => by
          by_cases q : s < k
          · rw [if_pos ((nI_ltI (by omega) (by omega)).mpr q), Nat.max_eq_right (by omega)]
          · rw [if_neg (by rw [nI_ltI (by omega) (by omega)]; exact q), Nat.max_eq_left (by omega)]
        rw [ex, dgs_len _ ka.2.2.2]
        by_cases z0 : (arcAt M j).2.2.2 = 0
        · rw [if_pos z0, z0, if_pos (show nI 0 = 0 from rfl), ← em 0 (by decide)]
          rfl
        · rw [if_neg z0, if_neg (nI_ne0 (by omega) (by omega))]
          by_cases z1 : (arcAt M j).2.2.2 < 10
          · rw [if_pos z1, if_pos (by rw [n10, nI_ltI (by omega) (by omega)]; exact z1), ← em 1 (by decide)]
            rfl
          · rw [if_neg z1, if_neg (by rw [n10, nI_ltI (by omega) (by omega)]; exact z1)]
            by_cases z2 : (arcAt M j).2.2.2 < 100
            · rw [if_pos z2, if_pos (by rw [n100, nI_ltI (by omega) (by omega)]; exact z2), ← em 2 (by decide)]
              rfl
            · rw [if_neg z2, if_neg (by rw [n100, nI_ltI (by omega) (by omega)]; exact z2), ← em 3 (by decide)]
              rfl
      · have ex : longF M s (arcAt M j) = s := if_neg (fun z => c2 z.2)
        rw [if_neg c2, if_pos rfl, ex]
    · have ex : longF M s (arcAt M j) = s := if_neg (fun z => c1 z.1)
      rw [if_neg c1, if_pos rfl, ex], hg⟩) 0 h (Nat.zero_le _) rfl
  rw [List.take_length] at e
  rw [n0]
  refine Eq.trans e ?_
  rw [e_X7_longestArc_4, mM.arcs, Option.bind_some, if_neg (by rw [nI_ltI (by omega) (by omega)]; omega)]
  rfl
def begF (M : zMa) (q : Nat) : Bool := M.2.1.testBit q && isU M q
def rowU (M : zMa) (p q : Nat) : List zCf := ((List.range q).filter (begF M)).map fun q => ((p, q), [], [])
def iniUT (M : zMa) (p : Nat) : List zCf := ((List.range p).filter (begF M)).flatMap fun p => rowU M p M.1
theorem iniUT_s (M : zMa) (p : Nat) : iniUT M (p + 1) = iniUT M p ++ if begF M p then rowU M p M.1 else [] := by
  unfold iniUT
  rw [rng_s, List.flatMap_append]
  congr 1
  by_cases h : begF M p = true <;> simp [h]
theorem rowU_s (M : zMa) (p q : Nat) : rowU M p (q + 1) = rowU M p q ++ if begF M q then [((p, q), [], [])] else [] := by
  unfold rowU
  rw [rng_s, List.map_append]
  congr 1
  by_cases h : begF M q = true <;> simp [h]
theorem and_bit64 {a b : Nat} (ha : a < 64) (hb : b < 64) : a &&& b < 64 := Nat.lt_of_le_of_lt Nat.and_le_left ha
theorem s_Tbegin {h : zM} {t A : Nat} {M : zMa} (mM : MC h A M) (kM : MaOk M) (hA : A + 6 ≤ t ∨ t + 5014 ≤ A) (x : TS h t) :
    ∃ h', zf nX7_begin [.inr t, .inr A] h = some (0, 0, h') ∧ zFr t (t + 5014) h h' ∧ zI h' t 0 = 0 ∧ TS h' t ∧ TI h' t (useB M) (twLim M) (twIni M (twLim M)) := by
  have k6 := kM.1
  have X := x.1
  have hU := useB_lt kM
  have hlim := twLim_le kM
  obtain ⟨bc, bc1, bc2⟩ := s_bitCount
  rw [e_X7_begin, zpI_ok X.1.1, Option.bind_some, zpI_ok (show zK (zsI h t 0 0) t = 7 + 1 from X.1.1), Option.bind_some]
  have f1 : zFr t (t + 1) h (zsI (zsI h t 0 0) t 1 0) := (zFr_sI (by omega) (by omega)).tr (zFr_sI (by omega) (by omega))
  have v10 : zI (zsI (zsI h t 0 0) t 1 0) t 0 = 0 := by rw [zI_sI_k (by decide), zI_sI]
  have v11 : zI (zsI (zsI h t 0 0) t 1 0) t 1 = 0 := zI_sI
  generalize hh1 : zsI (zsI h t 0 0) t 1 0 = h1 at *
  have m1 := mM.keep f1 (by omega)
  have X1 := X.keep f1
  rw [zif_ok m1.1.1, s_useful m1 kM, Option.bind_some]
  dsimp only
  rw [zpI_ok X1.1.1, Option.bind_some]
  have f2 : zFr t (t + 1) h (zsI h1 t 2 (nI (useB M))) := f1.tr (zFr_sI (by omega) (by omega))
  have v2 : ∀ j, zI (zsI h1 t 2 (nI (useB M))) t j = if j = 2 then nI (useB M) else zI h1 t j := fun j => by
    by_cases e : j = 2
    · rw [if_pos e, e, zI_sI]
    · rw [if_neg e, zI_sI_k e]
  generalize hh2 : zsI h1 t 2 (nI (useB M)) = h2 at *
  have m2 := mM.keep f2 (by omega)
  have X2 := X.keep f2
  rw [zif_ok X2.1.1, s_Tlongest m2 kM X2 (v2 2), Option.bind_some]
  dsimp only
  rw [zgI_ok X2.1.1, v2 2, if_pos rfl, Option.bind_some, bc1, bc2 _ hU, Option.bind_some]
  dsimp only
  rw [zgI_ok X2.1.1, v2 2, if_pos rfl, Option.bind_some, bc1, bc2 _ hU, Option.bind_some]
  dsimp only
  rw [pk_mul, pk_mul, show longA M * pcB (useB M) * pcB (useB M) = twLim M from rfl, zpI_ok X2.1.1, Option.bind_some]
  have X3 : zK (zsI h2 t 3 (nI (twLim M))) t = 7 + 1 := X2.1.1
  rw [zpZ_ok X3 (Or.inl rfl), Option.bind_some]
  have f4 : zFr t (t + 1) h (zsI (zsI h2 t 3 (nI (twLim M))) t 4 0) := f2.tr ((zFr_sI (by omega) (by omega)).tr (zFr_sI (by omega) (by omega)))
  have v4 : ∀ j, zI (zsI (zsI h2 t 3 (nI (twLim M))) t 4 0) t j = if j = 4 then 0 else if j = 3 then nI (twLim M) else zI h2 t j := fun j => by
    by_cases e : j = 4
    · rw [if_pos e, e, zI_sI]
    · rw [if_neg e, zI_sI_k e]
      by_cases e3 : j = 3
      · rw [if_pos e3, e3, zI_sI]
      · rw [if_neg e3, zI_sI_k e3]
  generalize hh4 : zsI (zsI h2 t 3 (nI (twLim M))) t 4 0 = h4 at *
  have X4 := X.keep f4
  rw [X4.g6, Option.bind_some]
  obtain ⟨h5, g1, g2, g3⟩ := s_fill X4.k6.1 X4.k6.2 (by decide) (-1 : Int32)
  rw [g1, Option.bind_some]
  have f5 : zFr t (t + 5014) h h5 := (f4.wide (by omega) (by omega)).tr (g2.wide (by omega) (by omega))
  have w5 : ∀ j, zI h5 t j = zI h4 t j := fun j => g2.I (by omega) j
  have S5 : TS h5 t := ⟨X.keep f5, fun i hi => by
    obtain ⟨c, hc⟩ := x.2 i hi
    exact ⟨c, (hc.keep f4 (by omega)).keep g2 (by omega)⟩⟩
  have T5 : TI h5 t (useB M) (twLim M) ([], false) := ⟨by rw [w5, v4, v2]; rfl, by rw [w5, v4]; rfl, by rw [w5, v4]; rfl, by rw [w5, v4, v2]; exact v11, fun i hi => absurd hi (Nat.not_lt_zero _), fun b hb => by rw [g3 b hb]; rfl⟩
  have m5 := mM.keep f5 (by omega)
  dsimp only
  rw [m5.beg, Option.bind_some, zgI_ok S5.1.1.1, T5.1, Option.bind_some, bit_and _ kM.beg64 _ hU]
  have hB := and_bit64 kM.beg64 hU
  have hbit : ∀ q, (M.2.1 &&& useB M).testBit q = begF M q := fun q => Nat.testBit_and _ _ _
  have z5 : zI h5 t 0 = 0 := by rw [w5, v4, v2]; exact v10
  have main := zlp (P := fun p z => TJ M (twLim M) h5 z t ((iniUT M p).foldl (fun S c => twAdd (twLim M) c S) ([], false))) (g := fun p z => zm_X7_begin 68 [some (.inr t), some (.inr A), some (.inl (nI (M.2.1 &&& useB M))), some (.inl (nI p)), none] [] z) (n := M.1) ?_ 0 h5 (Nat.zero_le _) ⟨zFr.rf, rfl, S5, T5, fun c hc => (by cases hc), Nat.zero_le _, fun _ c hc => (by cases hc)⟩
  · obtain ⟨z, e1, e2⟩ := main
    have mz := m5.keep e2.1 (by omega)
    refine ⟨z, ?_, f5.tr e2.1, by rw [e2.2.1, z5], e2.2.2.1, e2.2.2.2.1⟩
    rw [n0, e1, e_X7_begin_68, mz.n, Option.bind_some, if_neg (by rw [nI_ltI (by omega) (by omega)]; omega)]
    rfl
  · intro p z hp hP
    have mz := m5.keep hP.1 (by omega)
    rw [e_X7_begin_68, mz.n, Option.bind_some, if_pos ((nI_ltI (by omega) (by omega)).mpr hp)]
    have inner := zlp (P := fun q y => TJ M (twLim M) h5 y t ((iniUT M p ++ if begF M p then rowU M p q else []).foldl (fun S c => twAdd (twLim M) c S) ([], false))) (g := fun q y => zm_X7_begin 79 [some (.inr t), some (.inr A), some (.inl (nI (M.2.1 &&& useB M))), some (.inl (nI p)), some (.inl (nI q))] [] y) (n := M.1) ?_ 0 z (Nat.zero_le _) (by
      have : (if begF M p = true then rowU M p 0 else []) = [] := by split <;> rfl
      rw [this, List.append_nil]
      exact hP)
    · obtain ⟨y, i1, i2⟩ := inner
      rw [← iniUT_s] at i2
      refine ⟨y, ?_, i2⟩
      have my := m5.keep i2.1 (by omega)
      rw [n0, i1, e_X7_begin_79, my.n, Option.bind_some, if_neg (by rw [nI_ltI (by omega) (by omega)]; omega), nI_1]
    · intro q y hq hQ
      have my := m5.keep hQ.1 (by omega)
      rw [e_X7_begin_79, my.n, Option.bind_some, if_pos ((nI_ltI (by omega) (by omega)).mpr hq)]
      simp only [s_holds hB (show p < 6 by omega), s_holds hB (show q < 6 by omega), hbit, Option.bind_some, nI_1]
      cases b1 : begF M p with
      | true =>
        rw [if_pos rfl, if_neg (by decide), if_pos rfl, rowU_s]
        rw [b1, if_pos rfl] at hQ
        cases b2 : begF M q with
        | true =>
          rw [if_pos rfl, if_neg (by decide), if_pos rfl, ← List.append_assoc, List.foldl_append]
          have six := hQ.six kM
          generalize hK : (iniUT M p ++ rowU M p q).foldl (fun S c => twAdd (twLim M) c S) ([], false) = K at *
          obtain ⟨fy, zy, Sy, ti, ok⟩ := id hQ
          have hl := ok.2.1
          obtain ⟨c0, hc0⟩ := Sy.2 K.1.length (by omega)
          have Xy := Sy.1
          rw [Xy.g5, Option.bind_some, zgI_ok Xy.1.1, ti.2.2.2.1, Option.bind_some, Xy.p (by omega), Option.bind_some, zif_ok hc0.1.1]
          obtain ⟨y1, u1, u2, u3⟩ := s_Pbegin hc0 p q
          have S1 := Sy.pair (by omega) u2 u3
          have ti1 : TI y1 t (useB M) (twLim M) K := ⟨by rw [u2.I (by omega)]; exact ti.1, by rw [u2.I (by omega)]; exact ti.2.1, by rw [u2.I (by omega)]; exact ti.2.2.1, ti.2.2.2.pair u2 hl⟩
          obtain ⟨y2, r1, r2, r3, r4, r5⟩ := s_Tkeep S1 ti1 hl (by omega) u3 ⟨by dsimp only; omega, by dsimp only; omega⟩ six
          rw [u1, Option.bind_some]
          dsimp only
          rw [zif_ok S1.1.1.1, r1, Option.bind_some]
          have hbp : isU M p = true := by unfold begF at b1; rw [Bool.and_eq_true] at b1; exact b1.2
          have hbq : isU M q = true := by unfold begF at b2; rw [Bool.and_eq_true] at b2; exact b2.2
          exact ⟨y2, rfl, fy.tr ((u2.wide (by omega) (by omega)).tr r2), by rw [r3, u2.I (by omega), zy], r4, r5, twAdd_ok ok ⟨hp, hq, hbp, hbq, LOk.nil, LOk.nil⟩⟩
        | false =>
          rw [if_pos (by decide), if_neg (by decide), List.append_nil]
          exact ⟨y, rfl, hQ⟩
      | false =>
        rw [if_pos (by decide), if_neg (by decide)]
        rw [b1, if_neg (by decide)] at hQ
        exact ⟨y, rfl, hQ⟩
theorem s_Tjudge_loop {t A : Nat} {M : zMa} {h0 : zM} (mM : MC h0 A M) (kM : MaOk M) (hA : A + 6 ≤ t ∨ t + 5014 ≤ A) : ∀ (f start level lv : Nat) (S : zTs) (h : zM), f + level = 1002 → start ≤ S.1.length → lv + f < 2 ^ 20 → zFr t (t + 5014) h0 h → zI h t 0 = nI lv → TS h t → TI h t (useB M) (twLim M) S → twOk M (twLim M) S →
    ∃ h', zm_X7_judge 9 [some (.inr t), some (.inr A), some (.inl (nI start)), some (.inl (nI level)), none, none] [] h = some (nI (twRun M (twLim M) f start lv S).1, 0, h') ∧ zFr t (t + 5014) h0 h' ∧ zI h' t 0 = nI (twRun M (twLim M) f start lv S).2.1 ∧ TS h' t ∧ TI h' t (useB M) (twLim M) (twRun M (twLim M) f start lv S).2.2 := by
  have hlim := twLim_le kM
  intro f
  induction f with
  | zero =>
    intro start level lv S h hf hs hv fr z0 TSh ti ok
    rw [e_X7_judge_9, if_pos (by rw [n1001, nI_ltI (by omega) (by omega)]; omega)]
    exact ⟨h, rfl, fr, z0, TSh, ti⟩
  | succ f ih =>
    intro start level lv S h hf hs hv fr z0 TSh ti ok
    have hl := ok.2.1
    have X := TSh.1
    obtain ⟨t2, t3, t4, kT⟩ := id ti
    rw [e_X7_judge_9, if_neg (by rw [n1001, nI_ltI (by omega) (by omega)]; omega), zgI_ok X.1.1, kT.1, Option.bind_some]
    unfold twRun
    by_cases c1 : start < S.1.length
    · rw [if_pos ((nI_ltI (by omega) (by omega)).mpr c1), if_pos c1, zgI_ok X.1.1, z0, Option.bind_some, nI_1, zpI_ok X.1.1, Option.bind_some]
      have f1 : zFr t (t + 1) h (zsI h t 0 (nI (lv + 1))) := zFr_sI (by omega) (by omega)
      have w : ∀ j, j ≠ 0 → zI (zsI h t 0 (nI (lv + 1))) t j = zI h t j := fun j hj => zI_sI_k hj
      have w0 : zI (zsI h t 0 (nI (lv + 1))) t 0 = nI (lv + 1) := zI_sI
      have fr1 := fr.tr (f1.wide (lo' := t) (hi' := t + 5014) (by omega) (by omega))
      have S1 : TS (zsI h t 0 (nI (lv + 1))) t := TSh.out f1 (f1.eq (by omega))
      have ti1 : TI (zsI h t 0 (nI (lv + 1))) t (useB M) (twLim M) S := ⟨by rw [w 2 (by decide)]; exact t2, by rw [w 3 (by decide)]; exact t3, by rw [w 4 (by decide)]; exact t4, kT.eq hl (w 1 (by decide)) (f1.eq (by omega))⟩
      generalize hh1 : zsI h t 0 (nI (lv + 1)) = h1 at *
      rw [zgI_ok S1.1.1.1, ti1.2.2.1, Option.bind_some]
      cases hS2 : S.2 with
      | true =>
        rw [if_neg (by decide), if_pos rfl]
        exact ⟨h1, rfl, fr1, w0, S1, ti1⟩
      | false =>
        rw [if_pos (by decide), if_neg (by decide), zgI_ok S1.1.1.1, ti1.2.2.2.1, Option.bind_some]
        by_cases c2 : 1000 < S.1.length
        · rw [if_pos (by rw [n1000, nI_ltI (by omega) (by omega)]; exact c2), if_pos c2]
          exact ⟨h1, rfl, fr1, w0, S1, ti1⟩
        · rw [if_neg (by rw [n1000, nI_ltI (by omega) (by omega)]; exact c2), if_neg c2, Option.bind_some]
          have hdl : (S.1.drop start).length = S.1.length - start := List.length_drop
          have main := zlp (P := fun j z => TJ M (twLim M) h1 z t (((S.1.drop start).take j).foldl (twCf M (twLim M)) S)) (g := fun j z => zm_X7_judge 64 [some (.inr t), some (.inr A), some (.inl (nI start)), some (.inl (nI level)), some (.inl (nI S.1.length)), some (.inl (nI (start + j)))] [] z) (n := (S.1.drop start).length) ?_ 0 h1 (Nat.zero_le _) ⟨zFr.rf, rfl, S1, ti1, ok⟩
          · obtain ⟨z, e1, e2⟩ := main
            rw [List.take_length] at e2
            rw [Nat.add_zero] at e1
            rw [e1, e_X7_judge_64, if_neg (by rw [nI_ltI (by omega) (by omega)]; omega), nI_1]
            obtain ⟨tt, ett⟩ := twLv_pre M (twLim M) start S
            have e3 : (S.1.drop start).foldl (twCf M (twLim M)) S = twLv M (twLim M) start S := rfl
            rw [e3] at e2
            exact ih S.1.length (level + 1) (lv + 1) (twLv M (twLim M) start S) z (by omega) (by rw [ett, List.length_append]; omega) (by omega) (fr1.tr e2.1) (by rw [e2.2.1, w0]) e2.2.2.1 e2.2.2.2.1 e2.2.2.2.2
          · intro j z hj hP
            have hgj : (S.1.drop start)[j]? = some (kAt S.1 (start + j)) := by
              rw [List.getElem?_drop]
              exact kAt_get (by omega)
            rw [fold_take _ _ _ j _ hgj]
            obtain ⟨tt, ett⟩ := fold_pre1 (twCf_pre M (twLim M)) ((S.1.drop start).take j) S
            generalize hSj : ((S.1.drop start).take j).foldl (twCf M (twLim M)) S = Sj at *
            have hij : start + j < S.1.length := by omega
            have hkj : kAt Sj.1 (start + j) = kAt S.1 (start + j) := by rw [ett, kAt_l hij]
            have hb := ok.2.2 hS2 _ (kAt_mem hij)
            have mz := mM.keep (fr1.tr hP.1) (by omega)
            obtain ⟨z', r1, r2⟩ := s_Tlead mz kM hA (lim := twLim M) (by omega) (S := Sj) (i := start + j) ⟨zFr.rf, rfl, hP.2.2.1, hP.2.2.2.1, hP.2.2.2.2⟩ (by rw [ett, List.length_append]; omega) (by rw [hkj]; omega)
            rw [hkj] at r2
            rw [e_X7_judge_64, if_pos ((nI_ltI (by omega) (by omega)).mpr hij), zif_ok hP.2.2.1.1.1.1, r1, Option.bind_some, nI_1, Nat.add_assoc]
            exact ⟨z', rfl, hP.1.tr r2.1, by rw [r2.2.1, hP.2.1], r2.2.2⟩
    · rw [if_neg (by rw [nI_ltI (by omega) (by omega)]; exact c1), if_neg c1]
      exact ⟨h, rfl, fr, z0, TSh, ti⟩
theorem s_Tjudge {h : zM} {t A : Nat} {M : zMa} (mM : MC h A M) (kM : MaOk M) (hA : A + 6 ≤ t ∨ t + 5014 ≤ A) (x : TS h t) :
    ∃ h', zf nX7_judge [.inr t, .inr A] h = some (nI (twJ M).1, 0, h') ∧ zFr t (t + 5014) h h' ∧ zI h' t 0 = nI (twJ M).2.1 ∧ zI h' t 1 = nI (twJ M).2.2.1.length ∧ TS h' t := by
  obtain ⟨h1, a1, a2, a3, a4, a5⟩ := s_Tbegin mM kM hA x
  obtain ⟨h2, b1, b2, b3, b4, b5⟩ := s_Tjudge_loop mM kM hA 1002 0 0 0 (twIni M (twLim M)) h1 rfl (Nat.zero_le _) (by decide) a2 a3 a4 a5 twIni_ok
  refine ⟨h2, ?_, b2, b3, b5.2.2.2.1, b4⟩
  rw [e_X7_judge, zif_ok x.1.1.1, a1, Option.bind_some]
  exact b1
