/-! The reference: the outputs of the witness; its word. -/
def SN (h : zM) (m : Nat) (us : List Nat) : Prop := zI h m 23 = nI us.length ∧ Rw h (m + 21) 0 (us.map nI) ∧ us.length ≤ 128
theorem SN.o {h h' : zM} {m : Nat} {us : List Nat} {L J : List Nat} (d : SN h m us) (f : zOf m L J h h') (h1 : 21 ∉ L) (h2 : 23 ∉ J) : SN h' m us := ⟨(f.J h2).trans d.1, d.2.1.of (fun _ _ => f.C (by omega) h1 _), d.2.2⟩
theorem SN.at {h : zM} {m k : Nat} {us : List Nat} (d : SN h m us) (hk : k < us.length) : zI h (m + 21) k = nI (us.getD k 0) := by
  have := d.2.1 k (by rw [List.length_map]; exact hk)
  rw [Nat.zero_add] at this
  rw [this, List.getD_eq_getElem?_getD, List.getElem?_map, List.getElem?_eq_getElem hk, List.getD_eq_getElem?_getD, List.getElem?_eq_getElem hk]
  rfl
theorem va_up2 {α : Type} {f : Nat → α} {a : Nat} {x y : α} : va_up (va_up f a x) a y = va_up f a y := funext fun b => by
  rw [va_up_both, va_up_both, va_up_both]
  split <;> rfl
theorem va_up_id {α : Type} {f : Nat → α} {a : Nat} : va_up f a (f a) = f := funext fun b => by
  rw [va_up_both]
  split
  · rename_i e; rw [e]
  · rfl
theorem SL.congr {h : zM} {m Z B : Nat} {T U : zTl} (d : SL h m Z B T) (e : ∀ q, q < 6 → T q = U q) : SL h m Z B U := fun q hq => by rw [← e q hq]; exact d q hq
theorem ofA_s {S G : List zWo} {e b : Nat} {x : zWo} (h : S[b]? = some x) : ofA (S.take (b + 1)) G e = ins2 (x ++ dgs e) (ofA (S.take b) G e) := fold_take _ _ _ b _ h
theorem ofA_no {S G : List zWo} {e b : Nat} (h : S[b]? = none) : ofA (S.take (b + 1)) G e = ofA (S.take b) G e := by
  have : S.length ≤ b := List.getElem?_eq_none_iff.mp h
  rw [List.take_of_length_le (by omega), List.take_of_length_le this]
theorem s_mleasts {h : zM} {m t : Nat} {Ms : Nat → zMa} {us : List Nat} (d : MMs h m Ms) (hk : ∀ t, t < 2 → MaOk (Ms t)) (ht : t < 2) (sn : SN h m us) (hus : ∀ l ∈ us, l < 4) :
    ∃ h', zf nX12_leasts [.inr m, .inl (nI t)] h = some (0, 0, h') ∧ zOf m [24, 25, 26, 27, 28] [] h h' ∧ SL h' m 25 27 (va_up (fun _ => []) 0 (wtOut (Ms t) us)) := by
  have kM := hk t ht
  have k6 := kM.1
  have h30 := kM.2.2.2.1
  have hu := sn.2.2
  rw [e_X12_leasts, n0]
  have init := zlp (P := fun k z => zOf m [24, 25, 26, 27, 28] [] h z ∧ ∀ j, j < k → zI z (m + 25) j = -1) (g := fun k z => zm_X12_leasts 2 [some (.inr m), some (.inl (nI t)), some (.inl (nI k)), none, none] [] z) (n := 12) ?_ 0 h (Nat.zero_le _) ⟨zOf.rf, fun j hj => absurd hj (Nat.not_lt_zero _)⟩
  · obtain ⟨z1, e1, o1, i1⟩ := init
    have sl1 : SL z1 m 25 27 (fun _ => []) := fun q hq => ⟨Nat.zero_le _, List.Pairwise.nil, fun b hb => i1 _ (by omega)⟩
    rw [show zm_X12_leasts 2 [some (.inr m), some (.inl (nI t)), some (.inl (nI 0)), none, none] [] h = _ from e1, e_X12_leasts_2, if_neg (by decide), n0]
    -- the beginning states
    have beg := zlp (P := fun q z => zOf m [24, 25, 26, 27, 28] [] h z ∧ SL z m 25 27 (fun r => if r < q ∧ (Ms t).2.1.testBit r = true then [[]] else [])) (g := fun q z => zm_X12_leasts 23 [some (.inr m), some (.inl (nI t)), some (.inl (nI q)), none, none] [] z) (n := (Ms t).1) ?_ 0 z1 (Nat.zero_le _) ⟨o1, sl1.congr fun q _ => by rw [if_neg (fun w => Nat.not_lt_zero _ w.1)]⟩
    · obtain ⟨z2, e2, o2, sl2⟩ := beg
      have sl2 : SL z2 m 25 27 (wtIni (Ms t)) := sl2.congr fun q hq => by
        unfold wtIni
        by_cases c : (Ms t).2.1.testBit q = true
        · have : q < (Ms t).1 := by
            apply Classical.byContradiction
            intro w
            rw [bit_big _ k6 _ kM.2.1 q hq (by omega)] at c
            cases c
          rw [if_pos ⟨this, c⟩, if_pos c]
        · rw [if_neg (fun w => c w.2), if_neg c]
      have d2 := d.o2 o2 (by decide)
      rw [show zm_X12_leasts 23 [some (.inr m), some (.inl (nI t)), some (.inl (nI 0)), none, none] [] z1 = _ from e2, e_X12_leasts_23, mF0 d2.1, Option.bind_some, d2.many ht, Option.bind_some, if_neg (by rw [nI_ltI (by omega) (by omega)]; omega), n0]
      -- letter by letter
      have run := zlp (P := fun k z => zOf m [24, 25, 26, 27, 28] [] h z ∧ SL z m 25 27 ((us.take k).foldl (wtStep (Ms t)) (wtIni (Ms t)))) (g := fun k z => zm_X12_leasts 61 [some (.inr m), some (.inl (nI t)), some (.inl (nI k)), none, none] [] z) (n := us.length) ?_ 0 z2 (Nat.zero_le _) ⟨o2, sl2⟩
      · obtain ⟨z3, e3, o3, sl3⟩ := run
        rw [List.take_length] at sl3
        have tk := wtRun_ok kM us 0 _ (wtIni_ok (Ms t))
        have d3 := d.o2 o3 (by decide)
        have sn3 := sn.o o3 (by decide) (by decide)
        obtain ⟨z4, r1, r2, r3, r4⟩ := s_mturns d3.1 sl3
        rw [show zm_X12_leasts 61 [some (.inr m), some (.inl (nI t)), some (.inl (nI 0)), none, none] [] z2 = _ from e3, e_X12_leasts_61, mi23 d3.1, Option.bind_some, sn3.1, if_neg (by rw [nI_ltI (by omega) (by omega)]; omega), zif_ok d3.1.1, r1, Option.bind_some, n0]
        dsimp only
        have o4 := o3.tr (r2.wide (L' := [24, 25, 26, 27, 28]) (J' := []) (by decide) (by decide))
        unfold wtOut wtTot
        generalize us.foldl (wtStep (Ms t)) (wtIni (Ms t)) = now at *
        -- the ends
        have fin := zlp (P := fun q z => zOf m [24, 25, 26, 27, 28] [] h z ∧ SL z m 24 26 now ∧ SL z m 25 27 (va_up (fun _ => []) 0 ((List.range q).foldl (wtE (Ms t) now) []))) (g := fun q z => zm_X12_leasts 194 [some (.inr m), some (.inl (nI t)), some (.inl (nI q)), none, none] [] z) (n := (Ms t).1) ?_ 0 z4 (Nat.zero_le _) ⟨o4, r3, r4.congr fun q _ => by rw [va_up_both]; split <;> rfl⟩
        · obtain ⟨z5, e5, o5, -, sl5⟩ := fin
          have d5 := d.o2 o5 (by decide)
          rw [show zm_X12_leasts 194 [some (.inr m), some (.inl (nI t)), some (.inl (nI 0)), none, none] [] z4 = _ from e5, e_X12_leasts_194, mF0 d5.1, Option.bind_some, d5.many ht, Option.bind_some, if_neg (by rw [nI_ltI (by omega) (by omega)]; omega)]
          exact ⟨z5, rfl, o5, sl5⟩
        · rintro q z hq ⟨oz, sb, sx⟩
          have dz := d.o2 oz (by decide)
          rw [List.range_succ, List.foldl_append]
          show ∃ h', _ ∧ zOf m [24, 25, 26, 27, 28] [] h h' ∧ SL h' m 24 26 now ∧ SL h' m 25 27 (va_up (fun _ => []) 0 (wtE (Ms t) now ((List.range q).foldl (wtE (Ms t) now) []) q))
          generalize (List.range q).foldl (wtE (Ms t) now) [] = g at *
          rw [e_X12_leasts_194, mF0 dz.1, Option.bind_some, dz.many ht, Option.bind_some, if_pos ((nI_ltI (by omega) (by omega)).mpr hq), n0]
          unfold wtE
          cases ee : (Ms t).2.2.1 q with
          | none =>
            refine ⟨z, ?_, oz, sb, sx⟩
            rw [e_X12_leasts_206, if_pos (by decide), mF2 dz.1, Option.bind_some, n6, pk_mul, nI_add, dz.ende ht (by omega) hq, Option.bind_some, ee, if_pos (show eI none = -1 from rfl), nI_1]
          | some e =>
            have we := (kM.2.2.1 _ e ee).2
            have w9 := we.lt
            have in2 := zlp (P := fun b z => zOf m [24, 25, 26, 27, 28] [] h z ∧ SL z m 24 26 now ∧ SL z m 25 27 (va_up (fun _ => []) 0 (ofA ((now q).take b) g e))) (g := fun b z => zm_X12_leasts 206 [some (.inr m), some (.inl (nI t)), some (.inl (nI q)), some (.inl (nI b)), none] [] z) (n := 2) ?_ 0 z (Nat.zero_le _) ⟨oz, sb, by rw [List.take_zero]; exact sx⟩
            · obtain ⟨z5, e5, o5, sb5, sl5⟩ := in2
              refine ⟨z5, Eq.trans e5 ?_, o5, sb5, ?_⟩
              · rw [e_X12_leasts_206, if_neg (by decide), nI_1]
              · rw [List.take_of_length_le (tk q).1] at sl5
                exact sl5
            · rintro b z hb ⟨oz, sb, sx⟩
              have dz := d.o2 oz (by decide)
              have sq := (sb q (by omega)).2.2 b hb
              have sz := sq.sz
              have i12 : 2 * q + b < 12 := by omega
              have ende := dz.ende ht (show q < 6 by omega) hq
              rw [ee] at ende
              rw [e_X12_leasts_206, if_pos (by rw [n2, nI_ltI (by omega) (by omega)]; exact hb), mF2 dz.1, Option.bind_some, n6, pk_mul, nI_add, ende, Option.bind_some, if_neg (show ¬ eI (some e) = -1 from nneg (by omega)), mF27 dz.1, Option.bind_some, n2, pk_mul, nI_add, mr27 dz.1 i12, Option.bind_some, Option.bind_some, ende, nI_1]
              cases es : (now q)[b]? with
              | none =>
                rw [if_pos (sz.mpr es), ofA_no es]
                exact ⟨z, rfl, oz, sb, sx⟩
              | some x =>
                rw [if_neg (fun w => by rw [sz.mp w] at es; cases es), Option.bind_some, zif_ok dz.1.1]
                rw [es] at sq
                have lx := ((tk q).2 x (List.mem_of_getElem? es)).1
                obtain ⟨z1, p1, p2, p3⟩ := s_mbehind dz.1 i12 sq we (by omega)
                rw [show zf nX12_behind [.inr m, .inl (nI (2 * q + b)), .inl (eI (some e))] z = _ from p1, Option.bind_some]
                dsimp only
                have l1 := p2.lay dz.1
                rw [zif_ok l1.1]
                obtain ⟨z2, q1, q2, q3⟩ := s_moffers l1 (show 0 < 6 by omega) p3 (sx.o p2 (by decide) (by decide))
                rw [show zf nX12_offers [.inr m, .inl (0 : Int32), .inl (nI (x ++ dgs e).length)] z1 = _ from q1, Option.bind_some]
                refine ⟨z2, rfl, (oz.tr (p2.wide (by decide) (by decide))).tr (q2.wide (by decide) (by decide)), (sb.o p2 (by decide) (by decide)).o q2 (by decide) (by decide), ?_⟩
                rw [ofA_s es]
                rw [va_up2, va_up_both, if_pos rfl] at q3
                exact q3
      · rintro k z hku ⟨oz, sx⟩
        have dz := d.o2 oz (by decide)
        have snz := sn.o oz (by decide) (by decide)
        have hget : us[k]? = some (us.getD k 0) := by rw [List.getD_eq_getElem?_getD, List.getElem?_eq_getElem hku]; rfl
        have hc := hus _ (List.mem_of_getElem? hget)
        rw [fold_take _ _ _ k _ hget]
        have tk := wtRun_ok kM (us.take k) 0 _ (wtIni_ok (Ms t))
        rw [List.length_take] at tk
        generalize (us.take k).foldl (wtStep (Ms t)) (wtIni (Ms t)) = now at *
        generalize us.getD k 0 = c at *
        obtain ⟨z4, r1, r2, r3, r4⟩ := s_mturns dz.1 sx
        rw [e_X12_leasts_61, mi23 dz.1, Option.bind_some, snz.1, if_pos ((nI_ltI (by omega) (by omega)).mpr hku), zif_ok dz.1.1, r1, Option.bind_some, show (30 : Int32) = nI 30 from rfl, pk_mul]
        dsimp only
        have o4 := oz.tr (r2.wide (L' := [24, 25, 26, 27, 28]) (J' := []) (by decide) (by decide))
        have arcs := zlp (P := fun i z => zOf m [24, 25, 26, 27, 28] [] h z ∧ SL z m 24 26 now ∧ SL z m 25 27 (((Ms t).2.2.2.take i).foldl (wtF c now) (fun _ => []))) (g := fun i z => zm_X12_leasts 78 [some (.inr m), some (.inl (nI t)), some (.inl (nI k)), some (.inl (nI (30 * t + i))), none] [] z) (n := (Ms t).2.2.2.length) ?_ 0 z4 (Nat.zero_le _) ⟨o4, r3, r4⟩
        · obtain ⟨z5, e5, o5, -, sl5⟩ := arcs
          rw [List.take_length] at sl5
          have d5 := d.o2 o5 (by decide)
          refine ⟨z5, Eq.trans e5 ?_, o5, sl5⟩
          rw [e_X12_leasts_78, mF3 d5.1, Option.bind_some, d5.arcs ht, Option.bind_some, show (30 : Int32) = nI 30 from rfl, pk_mul, nI_add, if_neg (by rw [nI_ltI (by omega) (by omega)]; omega), nI_1]
        · rintro i z hi ⟨oz, sb, sx⟩
          have dz := d.o2 oz (by decide)
          have snz := sn.o oz (by decide) (by decide)
          have ka := kM.at2 hi
          have fcur := snz.at hku
          have hgc : us.getD k 0 = c := by
            rw [List.getD_eq_getElem?_getD, hget]
            rfl
          rw [hgc] at fcur
          rw [fold_take _ _ _ i _ (arc_get hi), e_X12_leasts_78, mF3 dz.1, Option.bind_some, dz.arcs ht, Option.bind_some, show (30 : Int32) = nI 30 from rfl, pk_mul, nI_add, if_pos ((nI_ltI (by omega) (by omega)).mpr (by omega)), mF5 dz.1, Option.bind_some, dz.by ht kM hi, Option.bind_some, mF24 dz.1, Option.bind_some, mr24 dz.1 (by omega), Option.bind_some, fcur, nI_1]
          generalize ((Ms t).2.2.2.take i).foldl (wtF c now) (fun _ => []) = B at *
          by_cases c1 : (arcAt (Ms t) i).2.1 = c
          · have ef : wtF c now B (arcAt (Ms t) i) = va_up B (arcAt (Ms t) i).2.2.1 (ofA (now (arcAt (Ms t) i).1) (B (arcAt (Ms t) i).2.2.1) (arcAt (Ms t) i).2.2.2) := if_pos c1
            rw [if_pos (by rw [c1]), ef, n0]
            have we := ka.2.2.2
            have in2 := zlp (P := fun b z => zOf m [24, 25, 26, 27, 28] [] h z ∧ SL z m 24 26 now ∧ SL z m 25 27 (va_up B (arcAt (Ms t) i).2.2.1 (ofA ((now (arcAt (Ms t) i).1).take b) (B (arcAt (Ms t) i).2.2.1) (arcAt (Ms t) i).2.2.2))) (g := fun b z => zm_X12_leasts 114 [some (.inr m), some (.inl (nI t)), some (.inl (nI k)), some (.inl (nI (30 * t + i))), some (.inl (nI b))] [] z) (n := 2) ?_ 0 z (Nat.zero_le _) ⟨oz, sb, by
              rw [List.take_zero]
              show SL z m 25 27 (va_up B (arcAt (Ms t) i).2.2.1 (B (arcAt (Ms t) i).2.2.1))
              rw [va_up_id]
              exact sx⟩
            · obtain ⟨z5, e5, o5, sb5, sl5⟩ := in2
              refine ⟨z5, Eq.trans e5 ?_, o5, sb5, ?_⟩
              · rw [e_X12_leasts_114, if_neg (by decide), nI_1]
                rfl
              · rw [List.take_of_length_le (tk _).1] at sl5
                exact sl5
            · rintro b z hb ⟨oz, sb, sx⟩
              have dz := d.o2 oz (by decide)
              have sq := (sb (arcAt (Ms t) i).1 (by omega)).2.2 b hb
              have sz := sq.sz
              have i12 : 2 * (arcAt (Ms t) i).1 + b < 12 := by omega
              rw [e_X12_leasts_114, if_pos (by rw [n2, nI_ltI (by omega) (by omega)]; exact hb), mF27 dz.1, Option.bind_some, mF4 dz.1, Option.bind_some, dz.from ht kM hi, Option.bind_some, n2, pk_mul, nI_add, mr27 dz.1 i12, Option.bind_some, nI_1]
              cases es : (now (arcAt (Ms t) i).1)[b]? with
              | none =>
                rw [if_pos (sz.mpr es), ofA_no es]
                exact ⟨z, rfl, oz, sb, sx⟩
              | some x =>
                rw [if_neg (fun w => by rw [sz.mp w] at es; cases es)]
                rw [es] at sq
                have lx := ((tk _).2 x (List.mem_of_getElem? es)).1
                obtain ⟨z1, p1, p2, p3⟩ := s_mbehind dz.1 i12 sq we (by omega)
                simp only [mF6 dz.1, mF7 dz.1, Option.bind_some, dz.to ht kM hi, dz.from ht kM hi, dz.word ht kM hi, zif_ok dz.1.1, pk_mul, nI_add, p1]
                have l1 := p2.lay dz.1
                rw [zif_ok l1.1]
                obtain ⟨z2, q1, q2, q3⟩ := s_moffers l1 (show (arcAt (Ms t) i).2.2.1 < 6 by omega) p3 (sx.o p2 (by decide) (by decide))
                rw [q1, Option.bind_some]
                refine ⟨z2, rfl, (oz.tr (p2.wide (by decide) (by decide))).tr (q2.wide (by decide) (by decide)), (sb.o p2 (by decide) (by decide)).o q2 (by decide) (by decide), ?_⟩
                rw [ofA_s es]
                rw [va_up2, va_up_both, if_pos rfl] at q3
                exact q3
          · have ef : wtF c now B (arcAt (Ms t) i) = B := if_neg c1
            rw [if_neg (by rw [nI_eq (by omega) (by omega)]; exact c1), ef]
            exact ⟨z, rfl, oz, sb, sx⟩
    · rintro q z hq ⟨oz, sx⟩
      have dz := d.o2 oz (by decide)
      rw [e_X12_leasts_23, mF0 dz.1, Option.bind_some, dz.many ht, Option.bind_some, if_pos ((nI_ltI (by omega) (by omega)).mpr hq), mF1 dz.1, Option.bind_some, n6, pk_mul, nI_add, dz.first ht (by omega), Option.bind_some, nI_1]
      cases eb : (Ms t).2.1.testBit q with
      | false =>
        rw [if_pos (show bI false = 0 from rfl)]
        refine ⟨z, rfl, oz, sx.congr fun r _ => ?_⟩
        by_cases e : r = q
        · rw [e, if_neg (fun w => Nat.lt_irrefl _ w.1), if_neg (fun w => by rw [eb] at w; cases w.2)]
        · by_cases e2 : r < q ∧ (Ms t).2.1.testBit r = true
          · rw [if_pos e2, if_pos ⟨by omega, e2.2⟩]
          · rw [if_neg e2, if_neg (fun w => e2 ⟨by omega, w.2⟩)]
      | true =>
        rw [if_neg (show ¬ bI true = 0 by decide), zif_ok dz.1.1]
        obtain ⟨z2, q1, q2, q3⟩ := s_moffers (w := []) dz.1 (show q < 6 by omega) ⟨Rw.nil, by decide, LOk.nil⟩ sx
        rw [show zf nX12_offers [.inr m, .inl (nI q), .inl (0 : Int32)] z = _ from q1, Option.bind_some]
        refine ⟨z2, rfl, oz.tr (q2.wide (by decide) (by decide)), q3.congr fun r _ => ?_⟩
        rw [va_up_both]
        by_cases e : r = q
        · rw [if_pos e, e, if_neg (fun w => Nat.lt_irrefl _ w.1), ins2_0, if_pos ⟨Nat.lt_succ_self q, eb⟩]
        · rw [if_neg e]
          by_cases e2 : r < q ∧ (Ms t).2.1.testBit r = true
          · rw [if_pos e2, if_pos ⟨by omega, e2.2⟩]
          · rw [if_neg e2, if_neg (fun w => e2 ⟨by omega, w.2⟩)]
  · rintro k z hk12 ⟨oz, i1⟩
    have lz := oz.lay d.1
    rw [e_X12_leasts_2, if_pos (by rw [show (12 : Int32) = nI 12 from rfl, nI_ltI (by omega) (by omega)]; exact hk12), mF28 lz, Option.bind_some, mw28 lz hk12, Option.bind_some, nI_1]
    refine ⟨_, rfl, oz.tr (zOf_sI (by decide) (by decide)), fun j hj => ?_⟩
    by_cases e : j = k
    · rw [e, zI_sI]
    · rw [zI_sI_k e]; exact i1 j (by omega)
/-- an output is kept -/
def WRt (h : zM) (m w : Nat) (o : Option zWo) : Prop := match o with
  | none => zI h (m + 22) w = -2
  | some x => zI h (m + 22) w = nI x.length ∧ Rw h (m + 23) (13000 * w) x ∧ x.length ≤ 390
theorem WRt.o {h h' : zM} {m w : Nat} {o : Option zWo} {L J : List Nat} (d : WRt h m w o) (f : zOf m L J h h') (h1 : 22 ∉ L) (h2 : 23 ∉ L) : WRt h' m w o := by
  cases o with
  | none => exact (f.C (by omega) h1 _).trans d
  | some x => exact ⟨(f.C (by omega) h1 _).trans d.1, d.2.1.of (fun _ _ => f.C (by omega) h2 _), d.2.2⟩
theorem s_mkeeps {h : zM} {m w k : Nat} {o : Option zWo} (lay : MLay h m) (hw : w < 2) (hk : k < 12) (d : slR h m 25 27 k o) :
    ∃ h', zf nX12_keepsOutput [.inr m, .inl (nI w), .inl (nI k)] h = some (0, 0, h') ∧ zOf m [22, 23] [] h h' ∧ WRt h' m w o ∧ ∀ v, v ≠ w → ∀ o, WRt h m v o → WRt h' m v o := by
  have sz := d.sz
  rw [e_X12_keepsOutput]
  simp only [mF25 lay, mF28 lay, Option.bind_some, mr28 lay hk]
  have old : ∀ (z : zM) (x : Int32), zOf m [22] [] h z → (∀ v, v ≠ w → zI z (m + 22) v = zI h (m + 22) v) → ∀ (n : Nat) (f : Nat → Int32), n ≤ 13000 → ∀ v, v ≠ w → ∀ o, WRt h m v o → WRt (zWr z (m + 23) (13000 * w) n f) m v o := fun z x oz e n f hn v hv o d => by
    have e22 : zI (zWr z (m + 23) (13000 * w) n f) (m + 22) v = zI h (m + 22) v := by rw [zI_Wr_a (by omega)]; exact e v hv
    cases o with
    | none => exact e22.trans d
    | some x =>
      refine ⟨e22.trans d.1, d.2.1.of (fun j hj => ?_), d.2.2⟩
      have := d.2.2
      rw [zI_Wr_out (by omega)]
      exact oz.C (by decide) (by decide) _
  cases o with
  | none =>
    have d : zI h (m + 25) k = -1 := d
    rw [if_pos (sz.mpr rfl), mw25 lay hw, Option.bind_some]
    have o1 : zOf m [22, 23] [] h (zsI h (m + 22) w (-2)) := zOf_sI (by decide) (by decide)
    have l1 := o1.lay lay
    rw [e_X12_keepsOutput_28, mF28 l1, Option.bind_some, mr28 l1 hk, Option.bind_some, zI_sI_a (by omega), d, if_neg (by decide)]
    refine ⟨_, rfl, o1, zI_sI, fun v hv o d => ?_⟩
    have := old (zsI h (m + 22) w (-2)) 0 (zOf_sI (by decide) (by decide)) (fun v hv => zI_sI_k hv) 0 (fun _ => 0) (by omega) v hv o d
    rw [zWr_0] at this
    exact this
  | some x =>
    obtain ⟨d1, d2, d3, d4⟩ := d
    rw [if_neg (fun z => by cases sz.mp z), d1, mw25 lay hw, Option.bind_some]
    generalize hz1 : zsI h (m + 22) w (nI x.length) = z1
    have o1 : zOf m [22] [] h z1 := by rw [← hz1]; exact zOf_sI (by decide) (by decide)
    have l1 := o1.lay lay
    have v25 : ∀ j, zI z1 (m + 25) j = zI h (m + 25) j := fun j => o1.C (by decide) (by decide) j
    have v27 : ∀ j, zI z1 (m + 27) j = zI h (m + 27) j := fun j => o1.C (by decide) (by decide) j
    have cp := zwr (g := fun i z => zm_X12_keepsOutput 28 [some (.inr m), some (.inl (nI w)), some (.inl (nI k)), some (.inl (nI i))] [] z) (h := z1) (a := m + 23) (p := 13000 * w) (n := x.length) (f := fun j => x.getD j 0) (fun i hi => by
      have layw : MLay (zWr z1 (m + 23) (13000 * w) i fun j => x.getD j 0) m := (zOf_Wr (L := [23]) (J := []) (by decide) (by decide)).lay l1
      rw [e_X12_keepsOutput_28]
      simp only [mF28 layw, Option.bind_some, mr28 layw hk, zI_Wr_a (show m + 25 ≠ m + 23 by omega), v25, d1, if_pos ((nI_ltI (show i < 2 ^ 31 by omega) (show x.length < 2 ^ 31 by omega)).mpr hi), mF26 layw, mF30 layw, n13000, pk_mul, nI_add, mr30 layw (show 13000 * k + i < 156000 by omega), zI_Wr_a (show m + 27 ≠ m + 23 by omega), v27, d2 i hi, mw26 layw (show 13000 * w + i < 26000 by omega), nI_1])
    have o2 : zOf m [22, 23] [] z1 (zWr z1 (m + 23) (13000 * w) x.length fun j => x.getD j 0) := zOf_Wr (by decide) (by decide)
    have l2 := o2.lay l1
    refine ⟨_, ?_, (o1.wide (by decide) (by decide)).tr o2, ⟨?_, fun j hj => zI_Wr_at hj, d3⟩, fun v hv o d => old z1 0 o1 (fun v hv => by rw [← hz1]; exact zI_sI_k hv) _ _ (by omega) v hv o d⟩
    · rw [n0]
      refine Eq.trans cp ?_
      rw [e_X12_keepsOutput_28, mF28 l2, Option.bind_some, mr28 l2 hk, Option.bind_some, zI_Wr_a (by omega), v25, d1, if_neg (by rw [nI_ltI (by omega) (by omega)]; omega)]
      rfl
    · rw [zI_Wr_a (by omega), ← hz1, zI_sI]
/-- the way back to the first pair: how long, and its letters -/
theorem s_mdepth {h : zM} {m : Nat} {S : Nat → Bool} {K : List zCf} {Ws : List (List Nat)} {Rs : List Nat} (lay : MLay h m) (fl : FL h m S K Ws Rs) (hl : K.length ≤ 72) : ∀ (f c n : Nat), c ≤ f → c < K.length → n + (Ws.getD c []).length < 200 → zm_X12_depth 9 [some (.inr m), some (.inl (nI c)), some (.inl (nI n)), some (.inl (zI h (m + 34) c))] [] h = some (nI (n + (Ws.getD c []).length), 0, h) := by
  have gen : ∀ (f c n : Nat) (a1 : Int32), c ≤ f → c < K.length → n + (Ws.getD c []).length < 200 → zm_X12_depth 9 [some (.inr m), some (.inl a1), some (.inl (nI n)), some (.inl (zI h (m + 34) c))] [] h = some (nI (n + (Ws.getD c []).length), 0, h) := by
    intro f
    induction f with
    | zero =>
      intro c n a1 hc hK hn
      obtain ⟨-, q⟩ := fl.2.2.2 c hK
      rcases q with ⟨q1, q2⟩ | ⟨j, l, q1, -⟩
      · rw [e_X12_depth_9, q1, if_pos (by decide), q2]
        rfl
      · omega
    | succ f ih =>
      intro c n a1 hc hK hn
      obtain ⟨-, q⟩ := fl.2.2.2 c hK
      rcases q with ⟨q1, q2⟩ | ⟨j, l, q1, q2, q3, q4⟩
      · rw [e_X12_depth_9, q1, if_pos (by decide), q2]
        rfl
      · rw [q4, List.length_append, List.length_singleton] at hn ⊢
        rw [e_X12_depth_9, q2, if_neg (nI_nn (by omega)), mF38 lay, Option.bind_some, mr38 lay (by omega), Option.bind_some, nI_1, ih j (n + 1) a1 (by omega) (by omega) (by omega), show n + 1 + (Ws.getD j []).length = n + ((Ws.getD j []).length + 1) by omega]
  exact fun f c n h1 h2 h3 => gen f c n (nI c) h1 h2 h3
theorem s_mdepth0 {h : zM} {m c : Nat} {S : Nat → Bool} {K : List zCf} {Ws : List (List Nat)} {Rs : List Nat} (lay : MLay h m) (fl : FL h m S K Ws Rs) (hl : K.length ≤ 72) (hc : c < K.length) (hw : (Ws.getD c []).length < 200) : zf nX12_depth [.inr m, .inl (nI c)] h = some (nI (Ws.getD c []).length, 0, h) := by
  rw [e_X12_depth, mF38 lay, Option.bind_some, mr38 lay (by omega), Option.bind_some]
  have := s_mdepth lay fl hl c c 0 (Nat.le_refl _) hc (by omega)
  rw [Nat.zero_add] at this
  exact this
theorem s_mwordOf {h : zM} {m c : Nat} {S : Nat → Bool} {K : List zCf} {Ws : List (List Nat)} {Rs : List Nat} (lay : MLay h m) (fl : FL h m S K Ws Rs) (hl : K.length ≤ 72) (hc : c < K.length) (hw : (Ws.getD c []).length ≤ 128) :
    ∃ h', zf nX12_wordOf [.inr m, .inl (nI c)] h = some (0, 0, h') ∧ zOf m [21] [23] h h' ∧ SN h' m (Ws.getD c []) := by
  rw [e_X12_wordOf, zif_ok lay.1, s_mdepth0 lay fl hl hc (by omega), Option.bind_some]
  dsimp only
  generalize hu : Ws.getD c [] = us at *
  have o1 : zOf m [21] [23] h (zsI h m 23 (nI us.length)) := zOf_pI (by decide)
  have l1 := o1.lay lay
  rw [mp23 lay, Option.bind_some, mi23 l1, Option.bind_some, zI_sI]
  have f1 := fl.o (h' := zsI h m 23 (nI us.length)) (L := []) (J := [23]) (zOf_pI (by decide)) (by simp) (by decide)
  -- letters from the end
  have loop : ∀ (i k : Nat) (z : zM), k < K.length → Ws.getD k [] = us.take i → i ≤ us.length → zOf m [21] [23] h z → FL z m S K Ws Rs → zI z m 23 = nI us.length → (∀ j, i ≤ j → j < us.length → zI z (m + 21) j = nI (us.getD j 0)) →
      ∃ h', zm_X12_wordOf 18 [some (.inr m), some (.inl (nI c)), some (.inl (nI k)), some (.inl (nI i - 1))] [] z = some (0, 0, h') ∧ zOf m [21] [23] h h' ∧ SN h' m us := by
    intro i
    induction i with
    | zero =>
      intro k z hk hW hi oz fz e23 hj
      rw [e_X12_wordOf_18, if_pos (by decide)]
      refine ⟨z, rfl, oz, e23, fun j hj2 => ?_, hw⟩
      rw [List.length_map] at hj2
      rw [Nat.zero_add, hj j (Nat.zero_le _) hj2, List.getD_eq_getElem?_getD, List.getD_eq_getElem?_getD, List.getElem?_map, List.getElem?_eq_getElem hj2]
      rfl
    | succ i ih =>
      intro k z hk hW hi oz fz e23 hj
      have lz := oz.lay lay
      obtain ⟨-, q⟩ := fz.2.2.2 k hk
      have hlen : (us.take (i + 1)).length = i + 1 := by rw [List.length_take]; omega
      rcases q with ⟨q1, q2⟩ | ⟨j, l, q1, q2, q3, q4⟩
      · rw [q2] at hW
        rw [← hW] at hlen
        cases hlen
      · rw [hW] at q4
        have ei : us.take (i + 1) = us.take i ++ [us.getD i 0] := by
          rw [List.take_add_one, List.getD_eq_getElem?_getD, List.getElem?_eq_getElem (show i < us.length by omega)]
          rfl
        rw [ei] at q4
        obtain ⟨w1, w2⟩ := List.append_inj' q4 rfl
        have w2 : us.getD i 0 = l := by cases w2; rfl
        rw [e_X12_wordOf_18, show nI (i + 1) - 1 = nI i from by rw [n1, pk_sub (by omega)]; rfl, if_neg (nI_nn (by omega)), mF24 lz, Option.bind_some, mF39 lz, Option.bind_some, mr39 lz (by omega), Option.bind_some, q3, mw24 lz (by omega), Option.bind_some]
        have o2 : zOf m [21] [23] z (zsI z (m + 21) i (nI l)) := zOf_sI (by decide) (by decide)
        have f2 := fz.o (h' := zsI z (m + 21) i (nI l)) (L := [21]) (J := []) (zOf_sI (by decide) (by decide))
        have l2 := o2.lay lz
        rw [mF38 l2, Option.bind_some, mr38 l2 (by omega), Option.bind_some, zI_sI_a (by omega), q2, show nI i + (-1 : Int32) = nI i - 1 from (Int32.sub_eq_add_neg _ _).symm]
        have f2' : FL (zsI z (m + 21) i (nI l)) m S K Ws Rs := by
          obtain ⟨⟨k1, k2, k3, k4⟩, a1, a2, a3⟩ := fz
          refine ⟨⟨(zI_sI_a (by omega)).trans k1, fun i' hi' => ?_, fun p q hp hq => (zI_sI_a (by omega)).trans (k3 p q hp hq), fun k hk => (zI_sI_a (by omega)).trans (k4 k hk)⟩, a1, a2, fun i' hi' => ?_⟩
          · obtain ⟨c1, c2, c3, c4, c5⟩ := k2 i' hi'
            exact ⟨(zI_sI_a (by omega)).trans c1, (zI_sI_a (by omega)).trans c2, (zI_sI_a (by omega)).trans c3, (zI_sI_a (by omega)).trans c4, c5.of (fun _ _ => zI_sI_a (by omega))⟩
          · rw [zI_sI_a (by omega), zI_sI_a (by omega), zI_sI_a (by omega)]
            exact a3 i' hi'
        refine ih j _ (by omega) w1.symm (by omega) (oz.tr o2) f2' ((zI_sI_a (by omega)).trans e23) (fun j' h1 h2 => ?_)
        by_cases e : j' = i
        · rw [e, zI_sI, w2]
        · rw [zI_sI_k e]
          exact hj j' (by omega) h2
  exact loop us.length c _ hc (by rw [List.take_length]; exact hu) (Nat.le_refl _) o1 f1 zI_sI (fun j h1 h2 => by omega)
