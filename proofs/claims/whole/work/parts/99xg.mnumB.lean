/-! The reference: the least machine. -/
section NUB
variable {h h0 : zM} {m q r : Nat} {M : zMa} {a1 : Int32}
/-- one state is done -/
def DNs (h : zM) (m : Nat) (M : zMa) (k : Nat) : Prop := OWB h m 64 65 780 (4 * k) (lsE M ((lsP M).getD k 0)) ∧ ∀ j, j < 3 → LWy h m (4 * k + (j + 1)) ((lsW M (3 * (lsP M).getD k 0 + j)).map fun p => (p.1, lsV M p.2))
theorem DNs.out {h' : zM} {e k : Nat} (d : DNs h m M k) (f : LOut h h' m e) (he : e / 4 ≠ k) : DNs h' m M k := ⟨f.E d.1 (by omega), fun j hj => f.W (d.2 j hj) (by omega)⟩
theorem DNs.o {h' : zM} {k : Nat} {L J : List Nat} (d : DNs h m M k) (f : zOf m L J h h') (h1 : 63 ∉ L ∧ 64 ∉ L ∧ 65 ∉ L) : DNs h' m M k := ⟨d.1.o f (by decide) h1.2.1 h1.2.2, fun j hj => (d.2 j hj).o f h1⟩
theorem pre3 {B : Nat → Nat} {W : Nat → Option (zWo × Nat)} {r : Nat} {P L : List Nat} (h : ∃ t, L = nmStep B W r P ++ t) : (∃ t, L = nmJ B (W (3 * r + 0)) P ++ t) ∧ (∃ t, L = nmJ B (W (3 * r + 1)) (nmJ B (W (3 * r + 0)) P) ++ t) ∧ ∃ t, L = nmJ B (W (3 * r + 2)) (nmJ B (W (3 * r + 1)) (nmJ B (W (3 * r + 0)) P)) ++ t := by
  obtain ⟨t, e⟩ := h
  have e3 : nmStep B W r P = nmJ B (W (3 * r + 2)) (nmJ B (W (3 * r + 1)) (nmJ B (W (3 * r + 0)) P)) := rfl
  obtain ⟨t2, e2⟩ := nmJ_pre B (W (3 * r + 2)) (nmJ B (W (3 * r + 1)) (nmJ B (W (3 * r + 0)) P))
  obtain ⟨t1, e1⟩ := nmJ_pre B (W (3 * r + 1)) (nmJ B (W (3 * r + 0)) P)
  rw [e3] at e
  refine ⟨⟨t1 ++ (t2 ++ t), ?_⟩, ⟨t2 ++ t, ?_⟩, t, e⟩
  · rw [e, e2, e1, List.append_assoc, List.append_assoc]
  · rw [e, e2, List.append_assoc]
theorem s_least255 (sg : sGood M) (hn0 : (sMake M).1.length ≠ 0) : ∀ (f q : Nat) (h : zM), f + q = 100 → GBase h m M → KLs h m (sMake M).1.length (lsB M) → NBs h m (sMake M).1.length (nmSeq (lsN M) (lsB M) (lsW M) q) → (∀ k, k < q → k < (lsP M).length → DNs h m M k) →
    ∃ h', zm_X12_least 255 [some (.inr m), some (.inl a1), some (.inl (nI q)), none, none, none, none] [] h = some (0, 0, h') ∧ zOf m Ln [79] h h' ∧ NBs h' m (sMake M).1.length (lsP M) ∧ ∀ k, k < (lsP M).length → DNs h' m M k := by
  have hN := sg.2.2.2
  have hW := lsW_lt sg
  have bok := (lsB_ok sg).1
  have lenq : ∀ q, (nmSeq (lsN M) (lsB M) (lsW M) q).length ≤ (sMake M).1.length := fun q => nmSeq_len bok hW q
  have stp : ∀ e l, ∃ t, nmStep (lsB M) (lsW M) e l = l ++ t := fun e l => nmStep_pre _ _ e l
  intro f
  induction f with
  | zero =>
    intro q h hf gb kl nb dn
    have hl := lenq q
    have eP : lsP M = nmSeq (lsN M) (lsB M) (lsW M) q := by
      rw [show q = 100 by omega]
      rfl
    rw [e_X12_least_255, mi79 gb.1.1.1, Option.bind_some, nb.1, if_neg (by rw [nI_ltI (by omega) (by omega)]; omega)]
    exact ⟨h, rfl, zOf.rf, by rw [eP]; exact nb, fun k hk => dn k (by rw [eP] at hk; omega) hk⟩
  | succ f ih =>
    intro q h hf gb kl nb dn
    have hl := lenq q
    by_cases c : q < (nmSeq (lsN M) (lsB M) (lsW M) q).length
    · have er := nmSeq_get (n := lsN M) (B := lsB M) (W := lsW M) (show q ≤ 100 by omega) c
      have eget : (nmSeq (lsN M) (lsB M) (lsW M) q)[q]? = some ((nmSeq (lsN M) (lsB M) (lsW M) q).getD q 0) := by
        rw [List.getD_eq_getElem?_getD, List.getElem?_eq_getElem c]
        rfl
      have enx : nmSeq (lsN M) (lsB M) (lsW M) (q + 1) = nmStep (lsB M) (lsW M) ((nmSeq (lsN M) (lsB M) (lsW M) q).getD q 0) (nmSeq (lsN M) (lsB M) (lsW M) q) := qSeq_some eget
      have rlt : (nmSeq (lsN M) (lsB M) (lsW M) q).getD q 0 < (sMake M).1.length := ((nmSeq_ok bok hW q).2 _ (List.mem_of_getElem? eget)).1
      have hpre : ∃ t, lsP M = nmStep (lsB M) (lsW M) ((nmSeq (lsN M) (lsB M) (lsW M) q).getD q 0) (nmSeq (lsN M) (lsB M) (lsW M) q) ++ t := by
        rw [← enx]
        have := qSeq_pre (s0 := if lsN M = 0 then [] else [0]) stp (q + 1) (100 - (q + 1))
        rw [show q + 1 + (100 - (q + 1)) = 100 by omega] at this
        exact this
      have hl1 := lenq (q + 1)
      rw [enx] at hl1
      have er' : (lsP M).getD q 0 = (nmSeq (lsN M) (lsB M) (lsW M) q).getD q 0 := er
      generalize hP : nmSeq (lsN M) (lsB M) (lsW M) q = P at *
      generalize hr : P.getD q 0 = r at *
      obtain ⟨p1, p2, p3⟩ := pre3 hpre
      obtain ⟨t2, e2⟩ := nmJ_pre (lsB M) (lsW M (3 * r + 2)) (nmJ (lsB M) (lsW M (3 * r + 1)) (nmJ (lsB M) (lsW M (3 * r + 0)) P))
      obtain ⟨t1, e1⟩ := nmJ_pre (lsB M) (lsW M (3 * r + 1)) (nmJ (lsB M) (lsW M (3 * r + 0)) P)
      have l3 : (nmJ (lsB M) (lsW M (3 * r + 2)) (nmJ (lsB M) (lsW M (3 * r + 1)) (nmJ (lsB M) (lsW M (3 * r + 0)) P))).length ≤ (sMake M).1.length := hl1
      have l2 := l3
      rw [e2, List.length_append] at l2
      have l1 : (nmJ (lsB M) (lsW M (3 * r + 0)) P).length ≤ (sMake M).1.length := by
        have := congrArg List.length e1
        rw [List.length_append] at this
        omega
      have rq : zia h (m + 70) (nI q) = some (nI r) := by rw [mr88 gb.1.1.1 (by omega), nb.2.1 q c, hr]
      rw [e_X12_least_255, mi79 gb.1.1.1, Option.bind_some, nb.1, if_pos ((nI_ltI (by omega) (by omega)).mpr c), mF88 gb.1.1.1, Option.bind_some, rq, Option.bind_some]
      obtain ⟨z0, a1', a2, a3, a4⟩ := s_lq0 (a1 := a1) sg gb (show q < 101 by omega) rlt
      have o0 : zOf m Ln [79] h z0 := a2.wide (by decide) (by decide)
      obtain ⟨z1, b1, b2, b3, b4, b5⟩ := s_lqJ (j := 0) (a1 := a1) sg (gb.o o0 (by decide) (by decide)) (kl.o o0 (by decide)) (nb.o a2 (by decide) (by decide)) l1 (show q < 101 by omega) rlt (by omega) p1
      have o1 := o0.tr b2
      obtain ⟨z2, c1, c2, c3, c4, c5⟩ := s_lqJ (j := 1) (a1 := a1) sg (gb.o o1 (by decide) (by decide)) (kl.o o1 (by decide)) b3 (by omega) (show q < 101 by omega) rlt (by omega) p2
      have o2 := o1.tr c2
      obtain ⟨z3, d1, d2, d3, d4, d5⟩ := s_lqJ (j := 2) (a1 := a1) sg (gb.o o2 (by decide) (by decide)) (kl.o o2 (by decide)) c3 l3 (show q < 101 by omega) rlt (by omega) p3
      have o3 := o2.tr d2
      obtain ⟨h', q1, q2, q3, q4⟩ := ih (q + 1) z3 (by omega) (gb.o o3 (by decide) (by decide)) (kl.o o3 (by decide)) (by rw [enx]; exact d3) (fun k hk hk2 => by
        by_cases e : k = q
        · rw [e]
          refine ⟨?_, fun j hj => ?_⟩
          · rw [er']
            exact d5.E (c5.E (b5.E a3 (by omega)) (by omega)) (by omega)
          · rw [er']
            rcases (show j = 0 ∨ j = 1 ∨ j = 2 by omega) with w | w | w
            · rw [w]; exact d5.W (c5.W b4 (by omega)) (by omega)
            · rw [w]; exact d5.W c4 (by omega)
            · rw [w]; exact d4
        · exact ((((dn k (by omega) hk2).out a4 (by omega)).out b5 (by omega)).out c5 (by omega)).out d5 (by omega))
      refine ⟨h', ?_, o3.tr q2, q3, q4⟩
      rw [show zm_X12_least 273 [some (.inr m), some (.inl a1), some (.inl (nI q)), some (.inl (nI r)), some (.inl (0 : Int32)), none, none] [] h = _ from a1', show zm_X12_least 273 [some (.inr m), some (.inl a1), some (.inl (nI q)), some (.inl (nI r)), some (.inl (nI 1)), none, none] [] z0 = _ from b1, show zm_X12_least 273 [some (.inr m), some (.inl a1), some (.inl (nI q)), some (.inl (nI r)), some (.inl (nI (0 + 1 + 1))), none, none] [] z1 = _ from c1, show zm_X12_least 273 [some (.inr m), some (.inl a1), some (.inl (nI q)), some (.inl (nI r)), some (.inl (nI (1 + 1 + 1))), none, none] [] z2 = _ from d1, e_X12_least_273, if_neg (by decide), nI_1]
      exact q1
    · have eP : lsP M = nmSeq (lsN M) (lsB M) (lsW M) q := qSeq_stop2 (show (qSeq (nmStep (lsB M) (lsW M)) (if lsN M = 0 then [] else [0]) q).length ≤ q from Nat.not_lt.mp c) (show q ≤ 100 by omega)
      rw [e_X12_least_255, mi79 gb.1.1.1, Option.bind_some, nb.1, if_neg (by rw [nI_ltI (by omega) (by omega)]; exact c)]
      exact ⟨h, rfl, zOf.rf, by rw [eP]; exact nb, fun k hk => dn k (by rw [eP] at hk; omega) hk⟩
/-- the least machine as it stands -/
def LZm (h : zM) (m : Nat) (Z : zLz) : Prop := zI h m 79 = nI Z.1 ∧ (zI h m 83 = nI Z.2.1.length ∧ Rw h (m + 66) 0 Z.2.1 ∧ Z.2.1.length ≤ 520 ∧ LOk Z.2.1) ∧ ∀ k, k < Z.1 → OWB h m 64 65 780 (4 * k) (Z.2.2.1 k) ∧ ∀ j, j < 3 → LWy h m (4 * k + (j + 1)) (Z.2.2.2 (3 * k + j))
theorem LZm.o {h' : zM} {Z : zLz} {L J : List Nat} (d : LZm h m Z) (f : zOf m L J h h') (hL : ∀ k ∈ L, k < 63 ∨ 66 < k) (hJ : 79 ∉ J ∧ 83 ∉ J) : LZm h' m Z := by
  have no : ∀ k, 63 ≤ k → k ≤ 66 → k ∉ L := fun k h1 h2 hm => by have := hL k hm; omega
  exact ⟨(f.J hJ.1).trans d.1, ⟨(f.J hJ.2).trans d.2.1.1, d.2.1.2.1.of (fun j _ => f.C (by decide) (no 66 (by omega) (by omega)) _), d.2.1.2.2⟩, fun k hk => ⟨(d.2.2 k hk).1.o f (by decide) (no 64 (by omega) (by omega)) (no 65 (by omega) (by omega)), fun j hj => ((d.2.2 k hk).2 j hj).o f ⟨no 63 (by omega) (by omega), no 64 (by omega) (by omega), no 65 (by omega) (by omega)⟩⟩⟩
theorem s_mleast (sg : sGood M) (gb : GBase h m M) :
    ∃ h', zf nX12_least [.inr m] h = some (0, 0, h') ∧ zOf m [63, 64, 65, 66, 69, 70, 71] [79, 83] h h' ∧ LZm h' m (lsZ M) := by
  have hN := sg.2.2.2
  obtain ⟨z1, r1, r2, r3⟩ := s_leastP sg gb
  have g1 := gb.o r2 (by decide) (by decide)
  have l1 := g1.1.1.1
  have o1 : zOf m [63, 64, 65, 66, 69, 70, 71] [79, 83] h z1 := r2.wide (by decide) (by decide)
  have cp := zwr (g := fun i z => zm_X12_least 157 [some (.inr m), some (.inl (0 : Int32)), some (.inl (nI i)), none, none, none, none] [] z) (h := z1) (a := m + 71) (p := 0) (n := (sMake M).1.length) (f := fun _ => -1) (fun i hi => by
    have oz : zOf m [71] [] z1 (zWr z1 (m + 71) 0 i fun _ => -1) := zOf_Wr (by decide) (by decide)
    have lz := oz.lay l1
    rw [e_X12_least_157, mi64 lz, Option.bind_some, oz.J (by decide), g1.1.1.2.1.1.1, if_pos ((nI_ltI (by omega) (by omega)).mpr hi), mF89 lz, Option.bind_some, mw89 lz (by omega), Option.bind_some, nI_1, Nat.zero_add])
  have o2 : zOf m [71] [] z1 (zWr z1 (m + 71) 0 (sMake M).1.length fun _ => -1) := zOf_Wr (by decide) (by decide)
  refine Exists.elim (show ∃ z, z = zWr z1 (m + 71) 0 (sMake M).1.length fun _ => -1 from ⟨_, rfl⟩) fun z2 hz2 => ?_
  rw [← hz2] at cp o2
  have w71 : ∀ c, c < (sMake M).1.length → zI z2 (m + 71) c = -1 := fun c hc => by
    rw [hz2]
    exact zI_Wr_in (by omega) (by omega)
  have g2 := g1.o o2 (by decide) (by decide)
  have k2 := r3.o o2 (by decide)
  have l2 := g2.1.1.1
  rw [r1, show zm_X12_least 157 [some (.inr m), some (.inl (0 : Int32)), some (.inl (0 : Int32)), none, none, none, none] [] z1 = _ from cp, e_X12_least_157, mi64 l2, Option.bind_some, g2.1.1.2.1.1.1, if_neg (by rw [nI_ltI (by omega) (by omega)]; omega), mp79 l2, Option.bind_some, mp83 l2.sI, Option.bind_some, mi64 l2.sI.sI, Option.bind_some, zI_sI_k (by omega), zI_sI_k (by omega), g2.1.1.2.1.1.1]
  have o3 : zOf m [] [79, 83] z2 (zsI (zsI z2 m 79 0) m 83 0) := (zOf_pI (by decide)).tr (zOf_pI (by decide))
  have w79 : zI (zsI (zsI z2 m 79 0) m 83 0) m 79 = 0 := by rw [zI_sI_k (by omega), zI_sI]
  have w83 : zI (zsI (zsI z2 m 79 0) m 83 0) m 83 = 0 := zI_sI
  generalize zsI (zsI z2 m 79 0) m 83 0 = z3 at *
  have g3 := g2.o o3 (by decide) (by decide)
  have k3 := k2.o o3 (by decide)
  have l3 := g3.1.1.1
  have o13 : zOf m [63, 64, 65, 66, 69, 70, 71] [79, 83] h z3 := (o1.tr (o2.wide (by decide) (by decide))).tr (o3.wide (by decide) (by decide))
  have lp := lsP_len sg
  by_cases c0 : (sMake M).1.length = 0
  · have eP0 : (lsP M).length = 0 := by
      have : (lsP M).length ≤ (sMake M).1.length := lp
      omega
    rw [c0, if_pos (by decide)]
    refine ⟨z3, rfl, o13, ?_, ⟨?_, ?_, ?_, ?_⟩, fun k hk => ?_⟩
    · rw [lsZ_1, eP0, w79]; rfl
    · rw [lsZ_2, if_pos (show lsN M = 0 from c0), w83]; rfl
    · rw [lsZ_2, if_pos (show lsN M = 0 from c0)]; exact Rw.nil
    · rw [lsZ_2, if_pos (show lsN M = 0 from c0)]; exact Nat.zero_le _
    · rw [lsZ_2, if_pos (show lsN M = 0 from c0)]; exact LOk.nil
    · rw [lsZ_1, eP0] at hk
      exact absurd hk (Nat.not_lt_zero _)
  · have hd0 := g3.1.hd (s := 0) (by omega)
    have hl0 := (hdW_len sg (s := 0) (show 0 < lsN M from Nat.pos_of_ne_zero c0)).1
    rw [if_neg (by rw [n0, nI_eq (by omega) (by omega)]; exact c0), mF75 l3, Option.bind_some, n0, mr75 l3 (by omega), Option.bind_some, hd0.1, mp83 l3, Option.bind_some]
    have o4 : zOf m [] [83] z3 (zsI z3 m 83 (nI (hdW M 0).length)) := zOf_pI (by decide)
    have u83 : zI (zsI z3 m 83 (nI (hdW M 0).length)) m 83 = nI (hdW M 0).length := zI_sI
    generalize zsI z3 m 83 (nI (hdW M 0).length) = z4 at *
    have l4 := o4.lay l3
    have cp2 := zwr (g := fun i z => zm_X12_least 208 [some (.inr m), some (.inl (nI 0)), some (.inl (nI i)), none, none, none, none] [] z) (h := z4) (a := m + 66) (p := 0) (n := (hdW M 0).length) (f := fun j => (hdW M 0).getD j 0) (fun i hi => by
      have oz : zOf m [66] [] z4 (zWr z4 (m + 66) 0 i fun j => (hdW M 0).getD j 0) := zOf_Wr (by decide) (by decide)
      have lz := oz.lay l4
      have x1 : zba (zWr z4 (m + 66) 0 i fun j => (hdW M 0).getD j 0) (m + 61) (nI i) = some ((hdW M 0).getD i 0) := by
        have := hd0.2.1 i hi
        rw [show 520 * 0 + i = i by omega] at this
        rw [mr76 lz (by omega), oz.C (by decide) (by decide), o4.C (by decide) (by decide), this]
      rw [e_X12_least_208, mi83 lz, Option.bind_some, oz.J (by decide), u83, if_pos ((nI_ltI (by omega) (by omega)).mpr hi), mF84 lz, Option.bind_some, mF76 lz, Option.bind_some, x1, Option.bind_some, mw84 lz (by omega), Option.bind_some, nI_1, hd0.2.2.byte hi, Nat.zero_add])
    have o5 : zOf m [66] [] z4 (zWr z4 (m + 66) 0 (hdW M 0).length fun j => (hdW M 0).getD j 0) := zOf_Wr (by decide) (by decide)
    refine Exists.elim (show ∃ z, z = zWr z4 (m + 66) 0 (hdW M 0).length fun j => (hdW M 0).getD j 0 from ⟨_, rfl⟩) fun z5 hz5 => ?_
    rw [← hz5] at cp2 o5
    have l5 := o5.lay l4
    have v83 : zI z5 m 83 = nI (hdW M 0).length := (o5.J (by decide)).trans u83
    have v66 : Rw z5 (m + 66) 0 (hdW M 0) := fun j hj => by rw [hz5, zI_Wr_at hj]
    have v71 : ∀ c, c < (sMake M).1.length → zI z5 (m + 71) c = -1 := fun c hc => by rw [o5.C (by decide) (by decide), o4.C (by decide) (by decide), o3.C (by decide) (by decide), w71 c hc]
    rw [show zm_X12_least 208 [some (.inr m), some (.inl (nI 0)), some (.inl (nI 0)), none, none, none, none] [] z4 = _ from cp2, e_X12_least_208, mi83 l5, Option.bind_some, v83, if_neg (by rw [nI_ltI (by omega) (by omega)]; omega), mF89 l5, Option.bind_some, n0, mw89 l5 (by omega), Option.bind_some, mF88 l5.sI, Option.bind_some, mw88 l5.sI (by omega), Option.bind_some, mp79 l5.sI.sI, Option.bind_some]
    have o6 : zOf m [70, 71] [79] z5 (zsI (zsI (zsI z5 (m + 71) 0 (nI 0)) (m + 70) 0 (nI 0)) m 79 1) := ((zOf_sI (by decide) (by decide)).tr (zOf_sI (by decide) (by decide))).tr (zOf_pI (by decide))
    have e0 : nmSeq (lsN M) (lsB M) (lsW M) 0 = [0] := by
      show (if lsN M = 0 then [] else [0]) = [0]
      rw [if_neg (show ¬ lsN M = 0 from c0)]
    have nb6 : NBs (zsI (zsI (zsI z5 (m + 71) 0 (nI 0)) (m + 70) 0 (nI 0)) m 79 1) m (sMake M).1.length (nmSeq (lsN M) (lsB M) (lsW M) 0) := by
      rw [e0]
      refine ⟨zI_sI, fun k hk => ?_, fun c hc => ?_⟩
      · have k0 : k = 0 := by
          have : k < 1 := hk
          omega
        rw [k0, zI_sI_a (by omega), zI_sI]
        rfl
      · rw [zI_sI_a (by omega), zI_sI_a (by omega)]
        by_cases e : c = 0
        · rw [e, zI_sI, if_pos (List.mem_singleton.mpr rfl)]
          rfl
        · rw [zI_sI_k e, v71 c hc, if_neg (fun w => e (List.mem_singleton.mp w))]
    generalize zsI (zsI (zsI z5 (m + 71) 0 (nI 0)) (m + 70) 0 (nI 0)) m 79 1 = z6 at *
    have o46 : zOf m [63, 64, 65, 66, 69, 70, 71] [79, 83] z3 z6 := ((o4.wide (by decide) (by decide)).tr (o5.wide (by decide) (by decide))).tr (o6.wide (by decide) (by decide))
    have k6 : KLs z6 m (sMake M).1.length (lsB M) := ((k3.o o4 (by decide)).o o5 (by decide)).o o6 (by decide)
    have g6 := ((g3.o o4 (by decide) (by decide)).o o5 (by decide) (by decide)).o o6 (by decide) (by decide)
    obtain ⟨h', q1, q2, q3, q4⟩ := s_least255 (a1 := nI 0) sg c0 100 0 z6 rfl g6 k6 nb6 (fun k hk => absurd hk (Nat.not_lt_zero _))
    refine ⟨h', q1, (o13.tr o46).tr (q2.wide (by decide) (by decide)), ?_, ⟨?_, ?_, ?_, ?_⟩, fun k hk => ?_⟩
    · rw [lsZ_1]; exact q3.1
    · rw [lsZ_2, if_neg (show ¬ lsN M = 0 from c0), q2.J (by decide), o6.J (by decide), v83]
    · rw [lsZ_2, if_neg (show ¬ lsN M = 0 from c0)]
      exact v66.of (fun j _ => (q2.C (by decide) (by decide) _).trans (o6.C (by decide) (by decide) _))
    · rw [lsZ_2, if_neg (show ¬ lsN M = 0 from c0)]; omega
    · rw [lsZ_2, if_neg (show ¬ lsN M = 0 from c0)]; exact hd0.2.2
    · rw [lsZ_1] at hk
      obtain ⟨d1, d2⟩ := q4 k hk
      refine ⟨by rw [lsZ_E]; exact d1, fun j hj => ?_⟩
      rw [lsZ_W, show (3 * k + j) / 3 = k by omega, show (3 * k + j) % 3 = j by omega]
      exact d2 j hj
end NUB
