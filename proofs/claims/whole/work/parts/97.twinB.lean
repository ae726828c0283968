/-! The class Twins: judge. -/
theorem hold_U {M : zMa} {q : Nat} {h : zM} (k : MaOk M) (hq : q < 6) : zf nX11_holds [.inl (nI (useB M)), .inl (nI q)] h = some (if isU M q = true then 1 else 0, 0, h) := s_holds (useB_lt k) hq
/-- all that a loop keeps -/
def TJ (M : zMa) (lim : Nat) (h0 h : zM) (t : Nat) (S : zTs) : Prop := zFr t (t + 5014) h0 h ∧ zI h t 0 = zI h0 t 0 ∧ TS h t ∧ TI h t (useB M) lim S ∧ twOk M lim S
theorem TJ.six {M : zMa} {lim t : Nat} {h0 h : zM} {S : zTs} (kM : MaOk M) (x : TJ M lim h0 h t S) : ∀ e ∈ S.1, e.1.1 < 6 ∧ e.1.2 < 6 := fun e he => by
  have := x.2.2.2.2.1 e he
  have := kM.1
  omega
theorem s_TpairUp {h : zM} {t A i ia lim : Nat} {M : zMa} {S : zTs} (mM : MC h A M) (kM : MaOk M) (hA : A + 6 ≤ t ∨ t + 5014 ≤ A) (hlim : lim < 2 ^ 30) (x : TJ M lim h h t S) (hi : i < S.1.length) (hia : ia < M.2.2.2.length) (hL : (kAt S.1 i).2.1.length ≤ 108 ∧ (kAt S.1 i).2.2.length ≤ 108) (hU : isU M (arcAt M ia).2.2.1 = true) :
    ∃ h', zf nX7_pairUp [.inr t, .inr A, .inl (nI ia), .inl (nI i)] h = some (0, 0, h') ∧ TJ M lim h h' t (M.2.2.2.foldl (twArc2 M lim (kAt S.1 i) (arcAt M ia)) S) := by
  have ka := kM.at hia
  have ka2 := kM.at2 hia
  have h30 := kM.2.2.2.1
  have k6 := kM.1
  have hMm : arcAt M ia ∈ M.2.2.2 := List.mem_of_getElem? (arc_get hia)
  rw [e_X7_pairUp]
  have main := zlp (P := fun j g => TJ M lim h g t ((M.2.2.2.take j).foldl (twArc2 M lim (kAt S.1 i) (arcAt M ia)) S)) (g := fun j g => zm_X7_pairUp 3 [some (.inr t), some (.inr A), some (.inl (nI ia)), some (.inl (nI i)), some (.inl (nI j)), none] [] g) (n := M.2.2.2.length) ?_ 0 h (Nat.zero_le _) (by rw [List.take_zero]; exact x)
  · obtain ⟨h', e1, e2⟩ := main
    rw [List.take_length] at e2
    refine ⟨h', ?_, e2⟩
    rw [n0]
    refine Eq.trans e1 ?_
    have mM' := mM.keep e2.1 (by omega)
    rw [e_X7_pairUp_3, mM'.arcs, Option.bind_some, if_neg (by rw [nI_ltI (by omega) (by omega)]; omega)]
    rfl
  · intro j g hj hP
    rw [fold_take _ _ _ j _ (arc_get hj)]
    obtain ⟨tt, et⟩ := fold_pre1 (f := twArc2 M lim (kAt S.1 i) (arcAt M ia)) (twArc2_pre M lim _ _) (M.2.2.2.take j) S
    have six := hP.six kM
    generalize hSj : (M.2.2.2.take j).foldl (twArc2 M lim (kAt S.1 i) (arcAt M ia)) S = Sj at *
    obtain ⟨f, z0, TSz, ti, ok⟩ := id hP
    obtain ⟨k2, k3, k4, kT⟩ := id ti
    have hl := ok.2.1
    have hiK : i < Sj.1.length := by rw [et, List.length_append]; omega
    have hki : kAt Sj.1 i = kAt S.1 i := by rw [et, kAt_l hi]
    have pi := kT.2.1 i hiK
    rw [hki] at pi
    have mg := mM.keep f (by omega)
    have X := TSz.1
    have kb := kM.at hj
    have kb2 := kM.at2 hj
    have hNm : arcAt M j ∈ M.2.2.2 := List.mem_of_getElem? (arc_get hj)
    have hc6 := six _ (kAt_mem hiK)
    have hcok := ok.1 _ (kAt_mem hiK)
    rw [hki] at hc6 hcok
    rw [e_X7_pairUp_3, mg.arcs, Option.bind_some, if_pos ((nI_ltI (by omega) (by omega)).mpr hj)]
    simp only [mg.f4, mg.rfrom kM hj, X.g5, X.p (show i < 1002 by omega), pi.i1, Option.bind_some, nI_1]
    have skip : ∀ K', K' = Sj → ∃ h', zm_X7_pairUp 3 [some (.inr t), some (.inr A), some (.inl (nI ia)), some (.inl (nI i)), some (.inl (nI (j + 1))), none] [] g = zm_X7_pairUp 3 [some (.inr t), some (.inr A), some (.inl (nI ia)), some (.inl (nI i)), some (.inl (nI (j + 1))), none] [] h' ∧ TJ M lim h h' t K' := fun K' e => by
      rw [e]
      exact ⟨g, rfl, hP⟩
    by_cases c1 : (arcAt M j).1 = (kAt S.1 i).1.2
    · rw [if_pos (by rw [c1])]
      simp only [mg.f5, mg.rlet kM hj, mg.rlet kM hia, Option.bind_some]
      by_cases c2 : (arcAt M j).2.1 = (arcAt M ia).2.1
      · rw [if_pos (by rw [c2]), zgI_ok X.1.1, k2, Option.bind_some, mg.f6, Option.bind_some, mg.rto kM hj, Option.bind_some, hold_U kM (by omega), Option.bind_some]
        dsimp only
        by_cases c3 : isU M (arcAt M j).2.2.1 = true
        · have ex : twArc2 M lim (kAt S.1 i) (arcAt M ia) Sj (arcAt M j) = twAdd lim (twC (kAt S.1 i) (arcAt M ia) (arcAt M j)) Sj := if_pos ⟨c1, c2, c3⟩
          rw [if_pos c3, if_neg (by decide)]
          obtain ⟨c0, hc0⟩ := TSz.2 Sj.1.length (by omega)
          simp only [X.g5, zgI_ok X.1.1, kT.1, X.p (show Sj.1.length < 1002 by omega), mg.f6, mg.rto kM hia, Option.bind_some, zpI_ok hc0.1.1]
          have d1 := hc0.set0 (arcAt M ia).2.2.1
          have f1 : zFr (t + 2 + 5 * Sj.1.length) (t + 2 + 5 * Sj.1.length + 5) g (zsI g (t + 2 + 5 * Sj.1.length) 0 (nI (arcAt M ia).2.2.1)) := zFr_sI (by omega) (by omega)
          generalize hg1 : zsI g (t + 2 + 5 * Sj.1.length) 0 (nI (arcAt M ia).2.2.1) = g1 at *
          have m1 := mg.keep f1 (by omega)
          simp only [m1.f6, m1.rto kM hj, Option.bind_some, zpI_ok d1.1.1]
          have d2 := d1.set1 (arcAt M j).2.2.1
          have f2 : zFr (t + 2 + 5 * Sj.1.length) (t + 2 + 5 * Sj.1.length + 5) g (zsI g1 (t + 2 + 5 * Sj.1.length) 1 (nI (arcAt M j).2.2.1)) := f1.tr (zFr_sI (by omega) (by omega))
          generalize hg2 : zsI g1 (t + 2 + 5 * Sj.1.length) 1 (nI (arcAt M j).2.2.1) = g2 at *
          have m2 := mg.keep f2 (by omega)
          have X2 := X.keep f2
          have p2 := pi.keep f2 (by omega)
          simp only [X2.g5, X2.p (show i < 1002 by omega), m2.f7, m2.rword kM hia, m2.rword kM hj, Option.bind_some, zif_ok d2.1.1]
          have la := ka2.2.2.2.len
          have lb := kb2.2.2.2.len
          obtain ⟨g3, q1, q2, q3⟩ := s_Pfollow d2 p2 (by omega) (x := (arcAt M ia).2.2.2) (y := (arcAt M j).2.2.2) ⟨ka.2.2.2, by omega⟩ ⟨kb.2.2.2, by omega⟩
          rw [q1, Option.bind_some]
          dsimp only
          have f3 := f2.tr q2
          have S3 := TSz.pair (by omega) f3 q3
          have kT3 := kT.pair f3 hl
          have ti3 : TI g3 t (useB M) lim Sj := ⟨by rw [f3.I (by omega)]; exact k2, by rw [f3.I (by omega)]; exact k3, by rw [f3.I (by omega)]; exact k4, kT3⟩
          obtain ⟨h', r1, r2, r3, r4, r5⟩ := s_Tkeep S3 ti3 hl hlim q3 ⟨by dsimp only; omega, by dsimp only; omega⟩ six
          rw [zif_ok S3.1.1.1, r1, Option.bind_some, ex]
          have hd := dlyD_ok (hcok.2.2.2.2.1.app (kM.wLOk hMm)) (hcok.2.2.2.2.2.app (kM.wLOk hNm))
          exact ⟨h', rfl, f.tr ((f3.wide (by omega) (by omega)).tr r2), by rw [r3, f3.I (by omega), z0], r4, r5, twAdd_ok ok ⟨ka.2.2.1, kb.2.2.1, hU, c3, hd.1, hd.2⟩⟩
        · rw [if_neg c3, if_pos rfl]
          exact skip _ (if_neg (fun z => c3 z.2.2))
      · rw [if_neg (by rw [nI_eq (by omega) (by omega)]; exact c2)]
        exact skip _ (if_neg (fun z => c2 z.2.1))
    · rw [if_neg (by rw [nI_eq (by omega) (by omega)]; exact c1)]
      exact skip _ (if_neg (fun z => c1 z.1))
theorem s_Tlead {h : zM} {t A i lim : Nat} {M : zMa} {S : zTs} (mM : MC h A M) (kM : MaOk M) (hA : A + 6 ≤ t ∨ t + 5014 ≤ A) (hlim : lim < 2 ^ 30) (x : TJ M lim h h t S) (hi : i < S.1.length) (hL : (kAt S.1 i).2.1.length ≤ 108 ∧ (kAt S.1 i).2.2.length ≤ 108) :
    ∃ h', zf nX7_lead [.inr t, .inr A, .inl (nI i)] h = some (0, 0, h') ∧ TJ M lim h h' t (twCf M lim S (kAt S.1 i)) := by
  have h30 := kM.2.2.2.1
  have k6 := kM.1
  rw [e_X7_lead]
  have main := zlp (P := fun j g => TJ M lim h g t ((M.2.2.2.take j).foldl (twArc M lim (kAt S.1 i)) S)) (g := fun j g => zm_X7_lead 2 [some (.inr t), some (.inr A), some (.inl (nI i)), some (.inl (nI j))] [] g) (n := M.2.2.2.length) ?_ 0 h (Nat.zero_le _) (by rw [List.take_zero]; exact x)
  · obtain ⟨h', e1, e2⟩ := main
    rw [List.take_length] at e2
    refine ⟨h', ?_, e2⟩
    rw [n0]
    refine Eq.trans e1 ?_
    have mM' := mM.keep e2.1 (by omega)
    rw [e_X7_lead_2, mM'.arcs, Option.bind_some, if_neg (by rw [nI_ltI (by omega) (by omega)]; omega)]
    rfl
  · intro j g hj hP
    rw [fold_take _ _ _ j _ (arc_get hj)]
    obtain ⟨tt, et⟩ := fold_pre1 (f := twArc M lim (kAt S.1 i)) (twArc_pre M lim _) (M.2.2.2.take j) S
    have six := hP.six kM
    generalize hSj : (M.2.2.2.take j).foldl (twArc M lim (kAt S.1 i)) S = Sj at *
    obtain ⟨f, z0, TSz, ti, ok⟩ := id hP
    obtain ⟨k2, k3, k4, kT⟩ := id ti
    have hl := ok.2.1
    have hiK : i < Sj.1.length := by rw [et, List.length_append]; omega
    have hki : kAt Sj.1 i = kAt S.1 i := by rw [et, kAt_l hi]
    have pi := kT.2.1 i hiK
    rw [hki] at pi
    have mg := mM.keep f (by omega)
    have X := TSz.1
    have ka := kM.at hj
    have hc6 := six _ (kAt_mem hiK)
    rw [hki] at hc6
    have skip : ∀ K', K' = Sj → ∃ h', zm_X7_lead 2 [some (.inr t), some (.inr A), some (.inl (nI i)), some (.inl (nI (j + 1)))] [] g = zm_X7_lead 2 [some (.inr t), some (.inr A), some (.inl (nI i)), some (.inl (nI (j + 1)))] [] h' ∧ TJ M lim h h' t K' := fun K' e => by
      rw [e]
      exact ⟨g, rfl, hP⟩
    rw [e_X7_lead_2, mg.arcs, Option.bind_some, if_pos ((nI_ltI (by omega) (by omega)).mpr hj)]
    simp only [mg.f4, mg.rfrom kM hj, X.g5, X.p (show i < 1002 by omega), pi.i0, Option.bind_some, nI_1]
    by_cases c1 : (arcAt M j).1 = (kAt S.1 i).1.1
    · rw [if_pos (by rw [c1]), zgI_ok X.1.1, k2, Option.bind_some, mg.f6, Option.bind_some, mg.rto kM hj, Option.bind_some, hold_U kM (by omega), Option.bind_some]
      dsimp only
      by_cases c3 : isU M (arcAt M j).2.2.1 = true
      · rw [if_pos c3, if_neg (by decide), zif_ok X.1.1]
        obtain ⟨h', r1, r2⟩ := s_TpairUp mg kM hA hlim (S := Sj) (i := i) (ia := j) ⟨zFr.rf, rfl, TSz, ti, ok⟩ hiK hj (by rw [hki]; exact hL) c3
        rw [r1, Option.bind_some]
        rw [hki] at r2
        have ex : twArc M lim (kAt S.1 i) Sj (arcAt M j) = M.2.2.2.foldl (twArc2 M lim (kAt S.1 i) (arcAt M j)) Sj := if_pos ⟨c1, c3⟩
        rw [ex]
        exact ⟨h', rfl, f.tr r2.1, by rw [r2.2.1, z0], r2.2.2⟩
      · rw [if_neg c3, if_pos rfl]
        exact skip _ (if_neg (fun z => c3 z.2))
    · rw [if_neg (by rw [nI_eq (by omega) (by omega)]; exact c1)]
      exact skip _ (if_neg (fun z => c1 z.1))
