/-! The class Sets: gather, what is common, lead. -/
theorem bts_set {B q : Nat} {m : zSe} {o : zWo} (h : bts B m) (hq : q < 6) : bts (B ||| 2 ^ q) (m.set q (some o)) := by
  refine ⟨by rw [List.length_set]; exact h.1, bit_or_lt B h.2.1 q hq, fun j hj => ?_⟩
  rw [Nat.testBit_or, Nat.testBit_two_pow, h.2.2 j hj, stAt_set (by rw [h.1]; exact hq)]
  by_cases e : j = q
  · rw [if_pos e, e]
    simp
  · rw [if_neg e, decide_eq_false (fun z : q = j => e z.symm), Bool.or_false]
theorem bts_st0 : bts 0 st0 := ⟨by simp, by decide, fun q _ => by rw [st0_at, Nat.zero_testBit]; rfl⟩
theorem gaF_some {M : zMa} {s m : zSe} {l : Nat} {a : zArc} {r : zWo} (e : stAt s a.1 = some r) : gaF M s l m a = if a.2.1 = l ∧ isU M a.2.2.1 = true ∧ stAt m a.2.2.1 = none then m.set a.2.2.1 (some (r ++ dgs a.2.2.2)) else m := by unfold gaF; rw [e]
theorem gaF_none {M : zMa} {s m : zSe} {l : Nat} {a : zArc} (e : stAt s a.1 = none) : gaF M s l m a = m := by unfold gaF; rw [e]
theorem gaF_no {M : zMa} {s m : zSe} {l : Nat} {a : zArc} (e : ¬ (a.2.1 = l ∧ isU M a.2.2.1 = true ∧ stAt m a.2.2.1 = none)) : gaF M s l m a = m := by
  unfold gaF
  split
  · rfl
  · rw [if_neg e]
/-- the sets, the ways, the useful states -/
def SI (h : zM) (x : Nat) (M : zMa) (X : zSs) : Prop := SS h x ∧ zI h x 7 = nI (useB M) ∧ SC h x X.1 ∧ GC h x X.2
theorem s_gather {h : zM} {x A s l : Nat} {M : zMa} {Ss : List zSe} (mM : MC h A M) (kM : MaOk M) (hA : A + 6 ≤ x ∨ x + 1818 ≤ A) (d : SS h x) (hu : zI h x 7 = nI (useB M)) (hs : SC h x Ss) (hl : Ss.length ≤ 100) (hlt : s < Ss.length) (hl3 : l < 4) (hlen : ∀ q r, stAt (Ss.getD s []) q = some r → r.length ≤ 108) :
    ∃ h', zf nX6_gather [.inr x, .inr A, .inl (nI s), .inl (nI l)] h = some (0, 0, h') ∧ zFr x (x + 1818) h h' ∧ zEq (x + 1) (x + 1806) h h' ∧ (∀ j, j ≠ 6 → zI h' x j = zI h x j) ∧ SS h' x ∧ MD h' x (gath M (Ss.getD s []) l) := by
  have k6 := kM.1
  have h30 := kM.2.2.2.1
  have hU := useB_lt kM
  rw [e_X6_gather, zpI_ok d.1.1.1, Option.bind_some]
  have f1 : zFr x (x + 1) h (zsI h x 6 0) := zFr_sI (by omega) (by omega)
  have d1 := d.int f1 (Or.inl rfl)
  have v6 : zI (zsI h x 6 0) x 6 = 0 := zI_sI
  have w6 : ∀ j, j ≠ 6 → zI (zsI h x 6 0) x j = zI h x j := fun j hj => zI_sI_k hj
  generalize hh1 : zsI h x 6 0 = h1 at *
  obtain ⟨C, c1, c2, c3⟩ := hs.2 s hlt
  generalize hk : Ss.getD s [] = k at *
  have main := zlp (P := fun i y => zFr x (x + 1818) h y ∧ zEq (x + 1) (x + 1806) h y ∧ (∀ j, j ≠ 6 → zI y x j = zI h x j) ∧ SS y x ∧ MD y x ((M.2.2.2.take i).foldl (gaF M k l) st0)) (g := fun i y => zm_X6_gather 8 [some (.inr x), some (.inr A), some (.inl (nI s)), some (.inl (nI l)), some (.inl (nI i)), none] [] y) (n := M.2.2.2.length) ?_ 0 h1 (Nat.zero_le _) ⟨f1.wide (by omega) (by omega), f1.eq (by omega), w6, d1, ⟨0, bts_st0, v6⟩, fun q v hv => by rw [List.take_zero] at hv; exact absurd hv (by show ¬ stAt st0 q = some v; rw [st0_at]; intro z; cases z)⟩
  · obtain ⟨y, e1, e2, e3, e4, e5, e6⟩ := main
    rw [List.take_length] at e6
    refine ⟨y, ?_, e2, e3, e4, e5, e6⟩
    have my := mM.keep e2 (by omega)
    rw [n0, e1, e_X6_gather_8, my.arcs, Option.bind_some, if_neg (by rw [nI_ltI (by omega) (by omega)]; omega)]
    rfl
  · rintro i y hi ⟨f, e1, e4, dy, hm⟩
    rw [fold_take _ _ _ i _ (arc_get hi)]
    have my := mM.keep f (by omega)
    have ka := kM.at hi
    have ka2 := kM.at2 hi
    have X := dy.1
    obtain ⟨⟨B, b1, b2⟩, b3⟩ := id hm
    generalize hmi : (M.2.2.2.take i).foldl (gaF M k l) st0 = m at *
    have c2y : zI y (x + 1) s = nI C := by rw [e1.I (by omega) (by omega)]; exact c2
    have skip : ∀ m', m' = m → ∃ h', zm_X6_gather 8 [some (.inr x), some (.inr A), some (.inl (nI s)), some (.inl (nI l)), some (.inl (nI (i + 1))), none] [] y = zm_X6_gather 8 [some (.inr x), some (.inr A), some (.inl (nI s)), some (.inl (nI l)), some (.inl (nI (i + 1))), none] [] h' ∧ zFr x (x + 1818) h h' ∧ zEq (x + 1) (x + 1806) h h' ∧ (∀ j, j ≠ 6 → zI h' x j = zI h x j) ∧ SS h' x ∧ MD h' x m' := fun m' e => by
      rw [e]
      exact ⟨y, rfl, f, e1, e4, dy, hm⟩
    rw [e_X6_gather_8, my.arcs, Option.bind_some, if_pos ((nI_ltI (by omega) (by omega)).mpr hi)]
    simp only [my.f6, my.rto kM hi, my.f5, my.rlet kM hi, Option.bind_some, nI_1]
    by_cases z1 : (arcAt M i).2.1 = l
    · rw [if_pos (by rw [z1])]
      simp only [X.g1, zia_ok X.k1.1 (show s < zN y (x + 1) by rw [X.k1.2]; omega) (show zN y (x + 1) < 2 ^ 31 by rw [X.k1.2]; omega), c2y, my.f4, my.rfrom kM hi, Option.bind_some, s_holds c1.2.1 (show (arcAt M i).1 < 6 by omega)]
      rw [c1.2.2 _ (by omega)]
      cases e2 : stAt k (arcAt M i).1 with
      | none =>
        rw [if_pos (by decide)]
        exact skip _ (gaF_none e2)
      | some r =>
        rw [isS1, if_neg (by decide), zgI_ok X.1.1, e4 7 (by decide), hu, Option.bind_some, hold_U kM (by omega), Option.bind_some]
        dsimp only
        by_cases z2 : isU M (arcAt M i).2.2.1 = true
        · rw [if_pos z2, if_neg (by decide), zgI_ok X.1.1, b2, Option.bind_some, s_holds b1.2.1 (by omega), Option.bind_some]
          dsimp only
          rw [b1.2.2 _ (by omega)]
          cases e3 : stAt m (arcAt M i).2.2.1 with
          | some v =>
            rw [isS1, if_neg (by decide)]
            exact skip _ (gaF_no (fun q => by rw [e3] at q; cases q.2.2))
          | none =>
            have ex : gaF M k l m (arcAt M i) = m.set (arcAt M i).2.2.1 (some (r ++ dgs (arcAt M i).2.2.2)) := by rw [gaF_some e2, if_pos ⟨z1, z2, e3⟩]
            rw [if_pos (by decide), zgI_ok X.1.1, b2, Option.bind_some, bit_or B b1.2.1 _ (by omega), zpI_ok X.1.1, Option.bind_some]
            have g1 : zFr x (x + 1) y (zsI y x 6 (nI (B ||| 2 ^ (arcAt M i).2.2.1))) := zFr_sI (by omega) (by omega)
            have dy1 := dy.int g1 (Or.inl rfl)
            have u6 : zI (zsI y x 6 (nI (B ||| 2 ^ (arcAt M i).2.2.1))) x 6 = nI (B ||| 2 ^ (arcAt M i).2.2.1) := zI_sI
            have uj : ∀ j, j ≠ 6 → zI (zsI y x 6 (nI (B ||| 2 ^ (arcAt M i).2.2.1))) x j = zI y x j := fun j hj => zI_sI_k hj
            generalize hy1 : zsI y x 6 (nI (B ||| 2 ^ (arcAt M i).2.2.1)) = y1 at *
            have my1 := my.keep g1 (by omega)
            have X1 := dy1.1
            have hr := (c3 _ r e2).eq ((e1.sub (lo' := x + 3 + 2 * (6 * s + (arcAt M i).1)) (hi' := x + 3 + 2 * (6 * s + (arcAt M i).1) + 2) (by omega) (by omega)).tr (g1.eq (by omega)))
            obtain ⟨w0, hw0⟩ := dy1.2.2.2 (arcAt M i).2.2.1 (by omega)
            have eb : x + 1805 + 1 + 2 * (arcAt M i).2.2.1 = x + 1806 + 2 * (arcAt M i).2.2.1 := by omega
            have ea : x + 2 + 1 + 2 * (6 * s + (arcAt M i).1) = x + 3 + 2 * (6 * s + (arcAt M i).1) := by omega
            rw [eb] at hw0
            have hrl := hlen _ r e2
            obtain ⟨y2, a1, a2, a3⟩ := s_become hw0 hr (by omega)
            rw [List.take_of_length_le (by omega)] at a3
            have my2 := my1.keep a2 (by omega)
            have X2 := X1.keep a2
            obtain ⟨y3, o1, o2, o3⟩ := s_addNumber a3 (nI (arcAt M i).2.2.2)
            have w3 := ka2.2.2.2.len
            rw [dn_nI (by omega), List.take_of_length_le (by rw [List.length_append]; omega)] at o3
            rw [X1.g5, Option.bind_some, X1.2.2.2.2.el (by omega), Option.bind_some, X1.g2, Option.bind_some, my1.f4, Option.bind_some, my1.rfrom kM hi, Option.bind_some, n6, pk_mul, nI_add, show s * 6 + (arcAt M i).1 = 6 * s + (arcAt M i).1 by omega, X1.2.2.1.el (by omega), Option.bind_some, eb, ea, zif_ok hw0.1, a1, Option.bind_some]
            dsimp only
            rw [X2.g5, Option.bind_some, X2.2.2.2.2.el (by omega), Option.bind_some, my2.f7, Option.bind_some, my2.rword kM hi, Option.bind_some, eb, zif_ok a3.1, o1, Option.bind_some]
            have ff : zFr (x + 1806 + 2 * (arcAt M i).2.2.1) (x + 1806 + 2 * (arcAt M i).2.2.1 + 2) y1 y3 := a2.tr o2
            rw [ex]
            refine ⟨y3, rfl, f.tr ((g1.wide (by omega) (by omega)).tr (ff.wide (by omega) (by omega))), e1.tr ((g1.eq (by omega)).tr (ff.eq (by omega))), fun j hj => by rw [ff.I (by omega), uj j hj]; exact e4 j hj, dy1.made (by omega) ff o3, ⟨_, bts_set b1 (by omega), by rw [ff.I (by omega)]; exact u6⟩, fun q v hv => ?_⟩
            rw [stAt_set (by rw [b1.1]; omega)] at hv
            by_cases e : q = (arcAt M i).2.2.1
            · rw [if_pos e] at hv
              cases hv
              rw [e]
              exact o3
            · rw [if_neg e] at hv
              exact ((b3 q v hv).keep g1 (by omega)).keep ff (by omega)
        · rw [if_neg z2, if_pos rfl]
          exact skip _ (gaF_no (fun q => z2 q.2.1))
    · rw [if_neg (by rw [nI_eq (by omega) (by omega)]; exact z1)]
      exact skip _ (gaF_no (fun q => z1 q.1))
theorem w1st_at {m : zSe} {q : Nat} {w : zWo} (h : stAt m q = some w) (hn : ∀ j, j < q → stAt m j = none) : w1st m = w := by
  have hq := stAt_some h
  have hg : m[q]? = some (some w) := by
    unfold stAt at h
    rw [List.getD_eq_getElem?_getD, List.getElem?_eq_getElem hq] at h
    rw [List.getElem?_eq_getElem hq]
    exact congrArg some h
  have : m.find? (·.isSome) = some (some w) := find_at hg rfl (fun j y hj hy => by
    have h2 := hn j hj
    unfold stAt at h2
    rw [List.getD_eq_getElem?_getD, hy] at h2
    have h2 : y = none := h2
    rw [h2]; rfl)
  unfold w1st
  rw [this]
/-- what all have in common goes to the way's word; what is left stays -/
theorem s_writeCommon {h : zM} {x i : Nat} {m : zSe} (d : SS h x) (hm : MD h x m) (hn : stNo m = false) (hi : i < 300) :
    ∃ h', zf nX6_writeCommon [.inr x, .inr (x + 1205 + 2 * i)] h = some (0, 0, h') ∧ zFr (x + 1205) (x + 1818) h h' ∧ zEq (x + 1205) (x + 1205 + 2 * i) h h' ∧ SS h' x ∧ MD h' x (stDrop (drw m) m) ∧ Wd h' (x + 1205 + 2 * i) 240 ((w1st m).take (drw m)) := by
  obtain ⟨⟨B, b1, b2⟩, b3⟩ := id hm
  have X := d.1
  have gI6 : zgI h x 6 6 = some (nI B) := (zgI_ok X.1.1).trans (congrArg some b2)
  have elM : ∀ {z : zM} {q : Nat}, SX z x → q < 6 → zaa z (x + 1805) (nI q) = some (x + 1806 + 2 * q) := fun {z q} Xz hq => by
    rw [Xz.2.2.2.2.el hq]
  -- the first
  have one : ∃ q w, q < 6 ∧ stAt m q = some w ∧ (∀ j, j < q → stAt m j = none) ∧ zf nX6_writeCommon [.inr x, .inr (x + 1205 + 2 * i)] h = zm_X6_writeCommon 37 [some (.inr x), some (.inr (x + 1205 + 2 * i)), some (.inl (nI q)), some (.inl (nI w.length)), some (.inl (nI 0))] [] h := by
    rw [e_X6_writeCommon]
    have fin : ∀ q w, q < 6 → stAt m q = some w → ((zgF h x 6 5).bind fun r1 => (zaa h r1 (nI q)).bind fun r2 => (zgI h r2 10 1).bind fun v2 => zm_X6_writeCommon 37 [some (.inr x), some (.inr (x + 1205 + 2 * i)), some (.inl (nI q)), some (.inl v2), some (.inl (0 : Int32))] [] h) = zm_X6_writeCommon 37 [some (.inr x), some (.inr (x + 1205 + 2 * i)), some (.inl (nI q)), some (.inl (nI w.length)), some (.inl (nI 0))] [] h := fun q w hq e => by
      rw [X.g5, Option.bind_some, elM X hq, Option.bind_some, (b3 q w e).len]
      rfl
    refine zlq (P := fun q g => g = h ∧ ∀ j, j < q → stAt m j = none) (g := fun q g => zm_X6_writeCommon 2 [some (.inr x), some (.inr (x + 1205 + 2 * i)), some (.inl (nI q)), none, none] [] g) (n := 5)
      (Q := fun y => ∃ q w, q < 6 ∧ stAt m q = some w ∧ (∀ j, j < q → stAt m j = none) ∧ y = zm_X6_writeCommon 37 [some (.inr x), some (.inr (x + 1205 + 2 * i)), some (.inl (nI q)), some (.inl (nI w.length)), some (.inl (nI 0))] [] h) ?_ ?_ 0 h (Nat.zero_le _) ⟨rfl, fun j hj => absurd hj (Nat.not_lt_zero _)⟩
    · rintro q g hq ⟨rfl, hj⟩
      rw [e_X6_writeCommon_2, if_pos (by rw [show (5 : Int32) = nI 5 from rfl, nI_ltI (by omega) (by omega)]; exact hq), gI6, Option.bind_some, s_holds b1.2.1 (by omega), Option.bind_some]
      dsimp only
      rw [b1.2.2 q (by omega)]
      cases e : stAt m q with
      | none =>
        right
        rw [if_pos (by decide), nI_1]
        refine ⟨g, rfl, rfl, fun j hj2 => ?_⟩
        by_cases z : j = q
        · subst z; exact e
        · exact hj j (by omega)
      | some w =>
        left
        rw [isS1, if_neg (by decide)]
        exact ⟨q, w, by omega, e, hj, fin q w (by omega) e⟩
    · rintro g ⟨rfl, hj⟩
      rw [e_X6_writeCommon_2, if_neg (by decide)]
      obtain ⟨q, w, e⟩ := stNo_not hn
      have hq := stAt_some e
      rw [b1.1] at hq
      have : q = 5 := by
        rcases Nat.lt_or_ge q 5 with z | z
        · rw [hj q z] at e; cases e
        · omega
      subst this
      exact ⟨5, w, by omega, e, hj, fin 5 w (by omega) e⟩
  obtain ⟨q1, w1, hq1, e1, n1', eq1⟩ := one
  have hw1 : w1st m = w1 := w1st_at e1 n1'
  have hd1 := b3 q1 w1 e1
  have hs1 := hd1.small
  -- how much
  have hdr : ∀ q, ((m.take q).foldl (drF w1) w1.length) ≤ w1.length := fun q => (drF_fold w1 (m.take q) w1.length).1
  have get : ∀ q, q < 6 → m[q]? = some (stAt m q) := fun q hq => by
    unfold stAt
    rw [List.getD_eq_getElem?_getD, List.getElem?_eq_getElem (by rw [b1.1]; exact hq)]
    rfl
  obtain ⟨h1, e2, rfl⟩ := zlp (P := fun _ g => g = h) (g := fun q g => zm_X6_writeCommon 37 [some (.inr x), some (.inr (x + 1205 + 2 * i)), some (.inl (nI q1)), some (.inl (nI ((m.take q).foldl (drF w1) w1.length))), some (.inl (nI q))] [] g) (n := 6) (fun q g hq hg => ⟨g, by
    subst hg
    have hle := hdr q
    rw [fold_take _ _ _ q _ (get q hq)]
    generalize (m.take q).foldl (drF w1) w1.length = n at *
    rw [e_X6_writeCommon_37, if_pos (by rw [n6, nI_ltI (by omega) (by omega)]; exact hq), gI6, Option.bind_some, s_holds b1.2.1 hq, Option.bind_some]
    dsimp only
    rw [b1.2.2 q hq]
    cases e : stAt m q with
    | none =>
      rw [if_pos (by decide), nI_1]
      rfl
    | some w =>
      have hw := b3 q w e
      have hll := lcp_le w1 w
      rw [isS1, if_neg (by decide), X.g5, Option.bind_some, elM X hq1, Option.bind_some, Option.bind_some, elM X hq, Option.bind_some, zif_ok hd1.1, s_commonWith hd1 hw, Option.bind_some]
      dsimp only
      rw [s_min, Option.bind_some, nI_1]
      have em : (if nI (lcp w1 w) < nI n then nI (lcp w1 w) else nI n) = nI (drF w1 n (some w)) := by
        show _ = nI (min n (lcp w1 w))
        by_cases q : lcp w1 w < n
        · rw [if_pos ((nI_ltI (by omega) (by omega)).mpr q), Nat.min_eq_right (by omega)]
        · rw [if_neg (by rw [nI_ltI (by omega) (by omega)]; exact q), Nat.min_eq_left (by omega)]
      dsimp only
      rw [em], hg⟩) 0 h (Nat.zero_le _) rfl
  rw [List.take_zero, List.take_of_length_le (by rw [b1.1]; omega)] at e2
  have hdrw : m.foldl (drF w1) w1.length = drw m := by unfold drw; rw [hw1]
  have hle : drw m ≤ w1.length := by
    have := hdr 6
    rw [List.take_of_length_le (by rw [b1.1]; omega), hdrw] at this
    exact this
  rw [hdrw] at e2
  rw [eq1]
  have e2 : zm_X6_writeCommon 37 [some (.inr x), some (.inr (x + 1205 + 2 * i)), some (.inl (nI q1)), some (.inl (nI w1.length)), some (.inl (nI 0))] [] h1 = zm_X6_writeCommon 37 [some (.inr x), some (.inr (x + 1205 + 2 * i)), some (.inl (nI q1)), some (.inl (nI (drw m))), some (.inl (nI 6))] [] h1 := e2
  rw [e2]
  -- it is written
  obtain ⟨v0, hv0⟩ := d.2.2.1 i hi
  have hv0 : Wd h1 (x + 1205 + 2 * i) 240 v0 := by
    have e : x + 1204 + 1 + 2 * i = x + 1205 + 2 * i := by omega
    rw [e] at hv0; exact hv0
  obtain ⟨h2, a1, a2, a3⟩ := s_become hv0 hd1 (by omega)
  rw [List.take_of_length_le (by omega)] at a3
  obtain ⟨h3, c1, c2, c3⟩ := s_shortenTo a3 (c := drw m) (by omega)
  have f3 : zFr (x + 1205 + 2 * i) (x + 1205 + 2 * i + 2) h1 h3 := a2.tr c2
  have d3 := d.writ hi f3 c3
  rw [hw1]
  rw [e_X6_writeCommon_37, if_neg (by decide), X.g5, Option.bind_some, elM X hq1, Option.bind_some, zif_ok hv0.1, a1, Option.bind_some]
  dsimp only
  rw [zif_ok a3.1, c1, Option.bind_some]
  dsimp only
  -- what is left
  have main := zlp (P := fun q y => zFr (x + 1806) (x + 1818) h3 y ∧ SS y x ∧ ∀ j v, stAt m j = some v → Wd y (x + 1806 + 2 * j) 111 (if j < q then v.drop (drw m) else v)) (g := fun q y => zm_X6_writeCommon 101 [some (.inr x), some (.inr (x + 1205 + 2 * i)), some (.inl (nI q1)), some (.inl (nI (drw m))), some (.inl (nI q))] [] y) (n := 6) ?_ 0 h3 (Nat.zero_le _) ⟨zFr.rf, d3, fun j v hv => by
    have := stAt_some hv
    rw [b1.1] at this
    rw [if_neg (Nat.not_lt_zero _)]
    exact (b3 j v hv).keep f3 (by omega)⟩
  · obtain ⟨y, g1, g2, g3, g4⟩ := main
    refine ⟨y, ?_, (f3.wide (by omega) (by omega)).tr (g2.wide (by omega) (by omega)), (f3.eq (by omega)).tr (g2.eq (by omega)), g3, ⟨⟨B, ⟨by unfold stDrop; rw [List.length_map]; exact b1.1, b1.2.1, fun q hq => ?_⟩, by rw [g2.I (by omega), f3.I (by omega)]; exact b2⟩, fun q v hv => ?_⟩, c3.keep g2 (by omega)⟩
    · rw [n0, g1, e_X6_writeCommon_101, if_neg (by decide)]
      rfl
    · rw [b1.2.2 q hq, stDrop_at]
      cases stAt m q <;> rfl
    · rw [stDrop_at] at hv
      obtain ⟨u, hu, rfl⟩ := Option.map_eq_some_iff.mp hv
      have := stAt_some hu
      rw [b1.1] at this
      have := g4 q u hu
      rw [if_pos (by omega)] at this
      exact this
  · rintro q y hq ⟨f, dy, hw⟩
    have Xy := dy.1
    rw [e_X6_writeCommon_101, if_pos (by rw [n6, nI_ltI (by omega) (by omega)]; exact hq), zgI_ok Xy.1.1, f.I (by omega), f3.I (by omega), b2, Option.bind_some, s_holds b1.2.1 hq, Option.bind_some]
    dsimp only
    rw [b1.2.2 q hq]
    cases e : stAt m q with
    | none =>
      rw [if_pos (by decide), nI_1]
      refine ⟨y, rfl, f, dy, fun j v hv => ?_⟩
      have := hw j v hv
      by_cases z : j = q
      · subst z; rw [e] at hv; cases hv
      · by_cases z2 : j < q
        · rw [if_pos z2] at this
          rw [if_pos (by omega)]; exact this
        · rw [if_neg z2] at this
          rw [if_neg (by omega)]; exact this
    | some w =>
      have hq' := hw q w e
      rw [if_neg (Nat.lt_irrefl _)] at hq'
      obtain ⟨y1, o1, o2, o3⟩ := s_dropFirst hq' (c := drw m) (by omega)
      rw [isS1, if_neg (by decide), Xy.g5, Option.bind_some, elM Xy hq, Option.bind_some, zif_ok hq'.1, o1, Option.bind_some, nI_1]
      refine ⟨y1, rfl, f.tr (o2.wide (by omega) (by omega)), dy.made hq o2 o3, fun j v hv => ?_⟩
      by_cases z : j = q
      · subst z
        rw [e] at hv
        cases hv
        rw [if_pos (by omega)]
        exact o3
      · have := (hw j v hv).keep o2 (by omega)
        by_cases z2 : j < q
        · rw [if_pos z2] at this
          rw [if_pos (by omega)]; exact this
        · rw [if_neg z2] at this
          rw [if_neg (by omega)]; exact this
