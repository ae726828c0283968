/-! The reference: where a set goes, all sets. -/
/-- a way -/
def GWy (h : zM) (m e : Nat) (g : Option (zWo × Nat)) : Prop := match g with
  | none => zI h (m + 53) e = -1
  | some p => zI h (m + 53) e = nI p.2 ∧ zI h (m + 54) e = nI p.1.length ∧ Rw h (m + 55) (260 * e) p.1 ∧ p.1.length ≤ 111 ∧ LOk p.1 ∧ p.2 < 102
def GAl (h : zM) (m : Nat) (gs : List (Option (zWo × Nat))) : Prop := ∀ k, k < gs.length → GWy h m (4 * (k / 3) + (k % 3 + 1)) (gs.getD k none)
theorem GWy.of {h h' : zM} {m e : Nat} {g : Option (zWo × Nat)} (d : GWy h m e g) (e1 : zI h' (m + 53) e = zI h (m + 53) e) (e2 : zI h' (m + 54) e = zI h (m + 54) e) (e3 : ∀ j, j < 260 → zI h' (m + 55) (260 * e + j) = zI h (m + 55) (260 * e + j)) : GWy h' m e g := by
  cases g with
  | none => exact e1.trans d
  | some p => exact ⟨e1.trans d.1, e2.trans d.2.1, d.2.2.1.of (fun j hj => e3 j (by have := d.2.2.2.1; omega)), d.2.2.2⟩
theorem GWy.o {h h' : zM} {m e : Nat} {g : Option (zWo × Nat)} {L J : List Nat} (d : GWy h m e g) (f : zOf m L J h h') (h1 : 53 ∉ L ∧ 54 ∉ L ∧ 55 ∉ L) : GWy h' m e g := d.of (f.C (by omega) h1.1 _) (f.C (by omega) h1.2.1 _) (fun _ _ => f.C (by omega) h1.2.2 _)
theorem GAl.o {h h' : zM} {m : Nat} {gs : List (Option (zWo × Nat))} {L J : List Nat} (d : GAl h m gs) (f : zOf m L J h h') (h1 : 53 ∉ L ∧ 54 ∉ L ∧ 55 ∉ L) : GAl h' m gs := fun k hk => (d k hk).o f h1
/-- sets and ways -/
def SZm (h : zM) (m : Nat) (X : zSs) : Prop := SeL h m X.1 ∧ GAl h m X.2
theorem SZm.o {h h' : zM} {m : Nat} {X : zSs} {L J : List Nat} (d : SZm h m X) (f : zOf m L J h h') (hL : ∀ k ∈ L, k < 51 ∨ 55 < k) (hJ : 64 ∉ J) : SZm h' m X := by
  have no : ∀ k, 51 ≤ k → k ≤ 55 → k ∉ L := fun k h1 h2 hm => by have := hL k hm; omega
  exact ⟨d.1.o f (no 51 (by omega) (by omega)) (no 52 (by omega) (by omega)) hJ, d.2.o f ⟨no 53 (by omega) (by omega), no 54 (by omega) (by omega), no 55 (by omega) (by omega)⟩⟩
theorem GAl.app {h : zM} {m : Nat} {gs : List (Option (zWo × Nat))} {g : Option (zWo × Nat)} (d : GAl h m gs) (e : GWy h m (4 * (gs.length / 3) + (gs.length % 3 + 1)) g) : GAl h m (gs ++ [g]) := fun k hk => by
  rw [List.length_append, List.length_singleton] at hk
  by_cases c : k = gs.length
  · have eg : (gs ++ [g]).getD k none = g := by rw [c, List.getD_eq_getElem?_getD, List.getElem?_append_right (Nat.le_refl _), Nat.sub_self]; rfl
    rw [eg, c]
    exact e
  · have eg : (gs ++ [g]).getD k none = gs.getD k none := by rw [List.getD_eq_getElem?_getD, List.getD_eq_getElem?_getD, List.getElem?_append_left (by omega)]
    rw [eg]
    exact d k (by omega)
theorem st0_len : st0.length = 6 := rfl
theorem stNo_set {g : zSe} {q : Nat} {o : zWo} (hq : q < g.length) : stNo (g.set q (some o)) = false := by
  cases c : stNo (g.set q (some o)) with
  | false => rfl
  | true =>
    have := stNo_iff.mp c q
    rw [stAt_set hq, if_pos rfl] at this
    cases this
section MKC
variable {h : zM} {m i l t : Nat} {g s : zSe} {Ms : Nat → zMa}
/-- one arc that comes from the set -/
theorem s_go147 {k : Nat} {r : zWo} (d : MMs h m Ms) (kM : MaOk (Ms t)) (ht : t < 2) (hk : k < (Ms t).2.2.2.length) (hi : i < 101) (sc : SeC h m i s) (nw : NOW h m g) (er : stAt s (arcAt (Ms t) k).1 = some r) (hr : r.length ≤ 108) :
    ∃ h', zm_X12_goesOn 147 [some (.inr m), some (.inl (nI t)), some (.inl (nI i)), some (.inl (nI l)), some (.inl (1 : Int32)), some (.inl (nI (30 * t + k))), some (.inl (nI (arcAt (Ms t) k).1)), some (.inl (nI r.length)), some (.inl (nI (arcAt (Ms t) k).2.2.1)), some (.inl (0 : Int32)), none] [] h = zm_X12_goesOn 44 [some (.inr m), some (.inl (nI t)), some (.inl (nI i)), some (.inl (nI l)), some (.inl (1 : Int32)), some (.inl (nI (30 * t + (k + 1)))), none, none, none, none, none] [] h' ∧ zOf m [56, 57] [] h h' ∧ NOW h' m (g.set (arcAt (Ms t) k).2.2.1 (some (r ++ dgs (arcAt (Ms t) k).2.2.2))) := by
  have lay := d.1
  have ka := kM.at2 hk
  have k6 := kM.1
  have wa := ka.2.2.2
  have wl := wa.len
  have wlt := wa.lt
  have sq := sc.2 (arcAt (Ms t) k).1 (by omega)
  rw [er] at sq
  obtain ⟨s1, s2, s3, s4⟩ := (show OWR h m 51 52 120 (6 * i + (arcAt (Ms t) k).1) (some r) from sq)
  have cp := zwr (g := fun j z => zm_X12_goesOn 147 [some (.inr m), some (.inl (nI t)), some (.inl (nI i)), some (.inl (nI l)), some (.inl (1 : Int32)), some (.inl (nI (30 * t + k))), some (.inl (nI (arcAt (Ms t) k).1)), some (.inl (nI r.length)), some (.inl (nI (arcAt (Ms t) k).2.2.1)), some (.inl (nI j)), none] [] z) (h := h) (a := m + 57) (p := 120 * (arcAt (Ms t) k).2.2.1) (n := r.length) (f := fun j => r.getD j 0) (fun j hj => by
    have lz : MLay (zWr h (m + 57) (120 * (arcAt (Ms t) k).2.2.1) j fun j => r.getD j 0) m := (zOf_Wr (L := [57]) (J := []) (by decide) (by decide)).lay lay
    have r1 : zba (zWr h (m + 57) (120 * (arcAt (Ms t) k).2.2.1) j fun j => r.getD j 0) (m + 52) (nI (120 * (6 * i + (arcAt (Ms t) k).1) + j)) = some (r.getD j 0) := by rw [mr66 lz (by omega), zI_Wr_a (by omega), s2 j hj]
    rw [e_X12_goesOn_147, if_pos ((nI_ltI (by omega) (by omega)).mpr hj), mF71 lz, Option.bind_some, mF66 lz, Option.bind_some, n120, n6, pk_mul, nI_add, pk_mul, nI_add, r1, Option.bind_some, pk_mul, nI_add, mw71 lz (by omega), Option.bind_some, nI_1, s4.byte hj])
  have o1 : zOf m [56, 57] [] h (zWr h (m + 57) (120 * (arcAt (Ms t) k).2.2.1) r.length fun j => r.getD j 0) := zOf_Wr (by decide) (by decide)
  refine Exists.elim (show ∃ z, z = zWr h (m + 57) (120 * (arcAt (Ms t) k).2.2.1) r.length fun j => r.getD j 0 from ⟨_, rfl⟩) fun z1 hz1 => ?_
  rw [← hz1] at cp o1
  have d1 := d.o2 o1 (by decide)
  have l1 := o1.lay lay
  have elw : dl (dgs (arcAt (Ms t) k).2.2.2).length (arcAt (Ms t) k).2.2.2 = dgs (arcAt (Ms t) k).2.2.2 := by unfold dgs; rw [dl_len]
  have step : zm_X12_goesOn 147 [some (.inr m), some (.inl (nI t)), some (.inl (nI i)), some (.inl (nI l)), some (.inl (1 : Int32)), some (.inl (nI (30 * t + k))), some (.inl (nI (arcAt (Ms t) k).1)), some (.inl (nI r.length)), some (.inl (nI (arcAt (Ms t) k).2.2.1)), some (.inl (nI r.length)), none] [] z1 = zm_X12_goesOn 208 [some (.inr m), some (.inl (nI t)), some (.inl (nI i)), some (.inl (nI l)), some (.inl (1 : Int32)), some (.inl (nI (30 * t + k))), some (.inl (nI (arcAt (Ms t) k).1)), some (.inl (nI r.length)), some (.inl (nI (arcAt (Ms t) k).2.2.1)), some (.inl (nI (dgs (arcAt (Ms t) k).2.2.2).length)), some (.inl (nI 0))] [] z1 := by
    rw [e_X12_goesOn_147, if_neg (by rw [nI_ltI (by omega) (by omega)]; omega), mF7 l1, Option.bind_some, d1.word ht kM hk, Option.bind_some, n9, s_letters 9 (by decide), Option.bind_some, wa.ltr]
    rfl
  have cp2 := zwr (g := fun j z => zm_X12_goesOn 208 [some (.inr m), some (.inl (nI t)), some (.inl (nI i)), some (.inl (nI l)), some (.inl (1 : Int32)), some (.inl (nI (30 * t + k))), some (.inl (nI (arcAt (Ms t) k).1)), some (.inl (nI r.length)), some (.inl (nI (arcAt (Ms t) k).2.2.1)), some (.inl (nI (dgs (arcAt (Ms t) k).2.2.2).length)), some (.inl (nI j))] [] z) (h := z1) (a := m + 57) (p := 120 * (arcAt (Ms t) k).2.2.1 + r.length) (n := (dgs (arcAt (Ms t) k).2.2.2).length) (f := fun j => (dgs (arcAt (Ms t) k).2.2.2).getD j 0) (fun j hj => by
    have oz : zOf m [57] [] z1 (zWr z1 (m + 57) (120 * (arcAt (Ms t) k).2.2.1 + r.length) j fun j => (dgs (arcAt (Ms t) k).2.2.2).getD j 0) := zOf_Wr (by decide) (by decide)
    have lz := oz.lay l1
    have dz := d1.o2 oz (by decide)
    rw [e_X12_goesOn_208, if_pos ((nI_ltI (by omega) (by omega)).mpr hj), mF71 lz, Option.bind_some, mF7 lz, Option.bind_some, dz.word ht kM hk, Option.bind_some, s_mletter (by omega) hj (by omega), Option.bind_some, elw]
    dsimp only
    rw [n120, pk_mul, nI_add, nI_add, mw71 lz (by omega), Option.bind_some, nI_1, wa.dig.byte hj, wa.dig.byte hj])
  have o2 : zOf m [56, 57] [] z1 (zWr z1 (m + 57) (120 * (arcAt (Ms t) k).2.2.1 + r.length) (dgs (arcAt (Ms t) k).2.2.2).length fun j => (dgs (arcAt (Ms t) k).2.2.2).getD j 0) := zOf_Wr (by decide) (by decide)
  refine Exists.elim (show ∃ z, z = zWr z1 (m + 57) (120 * (arcAt (Ms t) k).2.2.1 + r.length) (dgs (arcAt (Ms t) k).2.2.2).length fun j => (dgs (arcAt (Ms t) k).2.2.2).getD j 0 from ⟨_, rfl⟩) fun z2 hz2 => ?_
  rw [← hz2] at cp2 o2
  have l2 := o2.lay l1
  have ul : (r ++ dgs (arcAt (Ms t) k).2.2.2).length = r.length + (dgs (arcAt (Ms t) k).2.2.2).length := List.length_append
  have to6 : (arcAt (Ms t) k).2.2.1 < 6 := by omega
  have hgl := nw.1
  refine ⟨zsI z2 (m + 56) (arcAt (Ms t) k).2.2.1 (nI (r.length + (dgs (arcAt (Ms t) k).2.2.2).length)), ?_, (o1.tr o2).tr (zOf_sI (by decide) (by decide)), by rw [List.length_set, hgl], fun q hq => ?_⟩
  · refine (show _ = _ from cp).trans (step.trans (cp2.trans ?_))
    rw [e_X12_goesOn_208, if_neg (by rw [nI_ltI (by omega) (by omega)]; omega), mF70 l2, Option.bind_some, nI_add, mw70 l2 to6, Option.bind_some, nI_1]
    rfl
  · have b57 : ∀ j, zI (zsI z2 (m + 56) (arcAt (Ms t) k).2.2.1 (nI (r.length + (dgs (arcAt (Ms t) k).2.2.2).length))) (m + 57) j = zI z2 (m + 57) j := fun j => zI_sI_a (by omega)
    rw [stAt_set (by omega)]
    by_cases e : q = (arcAt (Ms t) k).2.2.1
    · rw [if_pos e, e]
      refine ⟨by rw [ul]; exact zI_sI, Rw.app (fun j hj => ?_) (fun j hj => ?_), by rw [ul]; omega, s4.app wa.dig⟩
      · rw [b57, hz2, zI_Wr_out (by omega), hz1, zI_Wr_at hj]
      · rw [b57, hz2, zI_Wr_at hj]
    · rw [if_neg e]
      refine (nw.2 q hq).of (by decide) ?_ (fun j hj => ?_)
      · rw [zI_sI_k e, hz2, zI_Wr_a (by omega), hz1, zI_Wr_a (by omega)]
      · rw [b57, hz2, zI_Wr_out (by omega), hz1, zI_Wr_out (by omega)]
/-- all arcs -/
theorem s_go44 (d : MMs h m Ms) (kM : MaOk (Ms t)) (ht : t < 2) (us : MUs h m t (Ms t)) (hi : i < 101) (hl : l < 4) (sc : SeC h m i s) (nw : NOW h m st0) (hr : ∀ q r, stAt s q = some r → r.length ≤ 108) :
    ∃ h', zm_X12_goesOn 44 [some (.inr m), some (.inl (nI t)), some (.inl (nI i)), some (.inl (nI l)), some (.inl (0 : Int32)), some (.inl (nI (30 * t))), none, none, none, none, none] [] h = zm_X12_goesOn 44 [some (.inr m), some (.inl (nI t)), some (.inl (nI i)), some (.inl (nI l)), some (.inl (if stNo (gathR (Ms t) s l) = true then (0 : Int32) else 1)), some (.inl (nI (30 * t + (Ms t).2.2.2.length))), none, none, none, none, none] [] h' ∧ zOf m [56, 57] [] h h' ∧ NOW h' m (gathR (Ms t) s l) := by
  have k30 := kM.2.2.2.1
  have k6 := kM.1
  have loop := zlp (P := fun k z => zOf m [56, 57] [] h z ∧ NOW z m (((Ms t).2.2.2.take k).foldl (gaR (Ms t) s l) st0)) (g := fun k z => zm_X12_goesOn 44 [some (.inr m), some (.inl (nI t)), some (.inl (nI i)), some (.inl (nI l)), some (.inl (if stNo (((Ms t).2.2.2.take k).foldl (gaR (Ms t) s l) st0) = true then (0 : Int32) else 1)), some (.inl (nI (30 * t + k))), none, none, none, none, none] [] z) (n := (Ms t).2.2.2.length) ?_ 0 h (Nat.zero_le _) ⟨zOf.rf, nw⟩
  · obtain ⟨z, e1, e2, e3⟩ := loop
    rw [List.take_length] at e1 e3
    exact ⟨z, e1, e2, e3⟩
  · rintro k z hk ⟨oz, nz⟩
    have dz := d.o2 oz (by decide)
    have uz := us.o oz (by decide)
    have lz := dz.1
    have scz := sc.o oz (by decide) (by decide)
    have ka := kM.at2 hk
    rw [fold_take _ _ _ k _ (arc_get hk)]
    have hgl := nz.1
    generalize ((Ms t).2.2.2.take k).foldl (gaR (Ms t) s l) st0 = g1 at *
    have sq := scz.2 (arcAt (Ms t) k).1 (by omega)
    rw [e_X12_goesOn_44, mF3 lz, Option.bind_some, dz.arcs ht, Option.bind_some, n30, pk_mul, nI_add, if_pos ((nI_ltI (by omega) (by omega)).mpr (by omega)), mF4 lz, Option.bind_some, dz.from ht kM hk, Option.bind_some, mF5 lz, Option.bind_some, dz.by ht kM hk, Option.bind_some, nI_1, show 30 * t + k + 1 = 30 * t + (k + 1) from rfl]
    have same : gaR (Ms t) s l g1 (arcAt (Ms t) k) = g1 → ∃ h', zm_X12_goesOn 44 [some (.inr m), some (.inl (nI t)), some (.inl (nI i)), some (.inl (nI l)), some (.inl (if stNo g1 = true then (0 : Int32) else 1)), some (.inl (nI (30 * t + (k + 1)))), none, none, none, none, none] [] z = zm_X12_goesOn 44 [some (.inr m), some (.inl (nI t)), some (.inl (nI i)), some (.inl (nI l)), some (.inl (if stNo (gaR (Ms t) s l g1 (arcAt (Ms t) k)) = true then (0 : Int32) else 1)), some (.inl (nI (30 * t + (k + 1)))), none, none, none, none, none] [] h' ∧ zOf m [56, 57] [] h h' ∧ NOW h' m (gaR (Ms t) s l g1 (arcAt (Ms t) k)) := fun e => by
      rw [e]
      exact ⟨z, rfl, oz, nz⟩
    by_cases c1 : (arcAt (Ms t) k).2.1 = l
    · rw [if_pos (by rw [c1]), mF65 lz, Option.bind_some, n6, pk_mul, nI_add, mr65 lz (by omega), Option.bind_some]
      cases es : stAt s (arcAt (Ms t) k).1 with
      | none =>
        rw [es] at sq
        rw [show zI z (m + 51) (6 * i + (arcAt (Ms t) k).1) = -1 from sq, if_pos (by decide)]
        exact same (by unfold gaR; rw [es])
      | some r =>
        rw [es] at sq
        have sq' : OWR z m 51 52 120 (6 * i + (arcAt (Ms t) k).1) (some r) := sq
        have hrl := hr _ r es
        rw [sq'.1, if_neg (nI_nn (by omega)), mF8 lz, Option.bind_some, mF6 lz, Option.bind_some, dz.to ht kM hk, Option.bind_some, pk_mul, nI_add, uz.r lz ht (show (arcAt (Ms t) k).2.2.1 < 6 by omega), Option.bind_some]
        cases c2 : isU (Ms t) (arcAt (Ms t) k).2.2.1 with
        | false =>
          rw [if_pos (show bI false = 0 from rfl)]
          exact same (by
            unfold gaR
            rw [es]
            dsimp only
            rw [if_neg (fun w => by rw [c2] at w; cases w.2)])
        | true =>
          have eg : gaR (Ms t) s l g1 (arcAt (Ms t) k) = g1.set (arcAt (Ms t) k).2.2.1 (some (r ++ dgs (arcAt (Ms t) k).2.2.2)) := by
            unfold gaR
            rw [es]
            dsimp only
            rw [if_pos ⟨c1, c2⟩]
          rw [if_neg (show ¬ bI true = 0 by decide), Option.bind_some, mr65 lz (by omega), Option.bind_some, sq'.1, Option.bind_some, dz.to ht kM hk, Option.bind_some, eg, if_neg (by rw [stNo_set (by omega)]; decide)]
          obtain ⟨z', f1, f2, f3⟩ := s_go147 (l := l) dz kM ht hk hi scz nz es hrl
          exact ⟨z', f1, oz.tr f2, f3⟩
    · rw [if_neg (by rw [nI_eq (by omega) (by omega)]; exact c1)]
      exact same (by
        unfold gaR
        split
        · rfl
        · rw [if_neg (fun w => c1 w.1)])
theorem s_go17 (lay : MLay h m) {a4 : Int32} : ∃ h', zm_X12_goesOn 17 [some (.inr m), some (.inl (nI t)), some (.inl (nI i)), some (.inl (nI l)), some (.inl a4), some (.inl (0 : Int32)), none, none, none, none, none] [] h = zm_X12_goesOn 44 [some (.inr m), some (.inl (nI t)), some (.inl (nI i)), some (.inl (nI l)), some (.inl a4), some (.inl (nI (30 * t))), none, none, none, none, none] [] h' ∧ zOf m [56, 57] [] h h' ∧ NOW h' m st0 := by
  have cp := zwr (g := fun j z => zm_X12_goesOn 17 [some (.inr m), some (.inl (nI t)), some (.inl (nI i)), some (.inl (nI l)), some (.inl a4), some (.inl (nI j)), none, none, none, none, none] [] z) (h := h) (a := m + 56) (p := 0) (n := 6) (f := fun _ => -1) (fun j hj => by
    have lz : MLay (zWr h (m + 56) 0 j fun _ => -1) m := (zOf_Wr (L := [56]) (J := []) (by decide) (by decide)).lay lay
    rw [e_X12_goesOn_17, if_pos (by rw [n6, nI_ltI (by omega) (by omega)]; omega), mF70 lz, Option.bind_some, mw70 lz hj, Option.bind_some, nI_1, Nat.zero_add])
  refine ⟨zWr h (m + 56) 0 6 fun _ => -1, (show _ = _ from cp).trans ?_, zOf_Wr (by decide) (by decide), st0_len, fun q hq => ?_⟩
  · rw [e_X12_goesOn_17, if_neg (by decide), n30, pk_mul]
  · rw [st0_at]
    exact zI_Wr_in (by omega) (by omega)
theorem s_mgoesOn {X : zSs} (d : MMs h m Ms) (kM : MaOk (Ms t)) (ht : t < 2) (us : MUs h m t (Ms t)) (hf : difW FT (Ms t) (Ms t) = none) (tw : (twJ (Ms t)).1 = 1) (sz : SZm h m X) (ok : ∀ s ∈ X.1, seOk (Ms t) s) (hi : i < X.1.length) (hi2 : i < 100) (hl : 1 ≤ l ∧ l ≤ 3) (hx : X.2.length ≤ 3 * i + l - 1) (hx2 : X.1.length ≤ 100 → X.2.length = 3 * i + l - 1) :
    ∃ h', zf nX12_goesOn [.inr m, .inl (nI t), .inl (nI i), .inl (nI l)] h = some (0, 0, h') ∧ zOf m [51, 52, 53, 54, 55, 56, 57] [64] h h' ∧ SZm h' m (sLead (Ms t) l (X.1.getD i []) X) := by
  have lay := d.1
  have hlen := sz.1.2.1
  have eg : X.1[i]? = some (X.1.getD i []) := by rw [List.getD_eq_getElem?_getD, List.getElem?_eq_getElem hi]; rfl
  have sok := ok _ (List.mem_of_getElem? eg)
  have sc := sz.1.2.2 i hi
  generalize X.1.getD i [] = s at *
  obtain ⟨s6, -, -, w0, c0, swd⟩ := id sok
  have eR := gathR_eq kM hf swd l
  have len := fun q r e => (se_len (q := q) (r := r) kM tw sok e).1
  rw [e_X12_goesOn, mF67 lay, Option.bind_some, n4, pk_mul, nI_add, mw67 lay (by omega), Option.bind_some]
  generalize hz1 : zsI h (m + 53) (4 * i + l) (-1 : Int32) = z1
  have o1 : zOf m [51, 52, 53, 54, 55, 56, 57] [64] h z1 := by rw [← hz1]; exact zOf_sI (by decide) (by decide)
  have o1' : zOf m [53] [] h z1 := by rw [← hz1]; exact zOf_sI (by decide) (by decide)
  have v53 : ∀ j, zI z1 (m + 53) j = if j = 4 * i + l then -1 else zI h (m + 53) j := fun j => by
    rw [← hz1]
    by_cases e : j = 4 * i + l
    · rw [if_pos e, e, zI_sI]
    · rw [if_neg e, zI_sI_k e]
  clear hz1
  have sz1 : SeL z1 m X.1 := sz.1.o o1' (by decide) (by decide) (by decide)
  have ga1 : GAl z1 m X.2 := fun k hk => (sz.2 k hk).of (by rw [v53, if_neg (by omega)]) (o1'.C (by decide) (by decide) _) (fun _ _ => o1'.C (by decide) (by decide) _)
  obtain ⟨z2, a1, a2, a3⟩ := s_go17 (t := t) (i := i) (l := l) (a4 := 0) (o1.lay lay)
  have o2 := o1.tr (a2.wide (L' := [51, 52, 53, 54, 55, 56, 57]) (J' := [64]) (by decide) (by decide))
  have d2 := d.o2 o2 (by decide)
  obtain ⟨z3, b1, b2, b3⟩ := s_go44 (l := l) d2 kM ht (us.o o2 (by decide)) (by omega) (by omega) ((sc.o o1' (by decide) (by decide)).o a2 (by decide) (by decide)) a3 len
  have o3 := o2.tr (b2.wide (L' := [51, 52, 53, 54, 55, 56, 57]) (J' := [64]) (by decide) (by decide))
  have ab := a2.tr b2
  have d3 := d.o2 o3 (by decide)
  have l3 := o3.lay lay
  rw [eR] at b1 b3
  have sz3 : SeL z3 m X.1 := sz1.o ab (by decide) (by decide) (by decide)
  have ga3 : GAl z3 m X.2 := ga1.o ab (by decide)
  have k30 := kM.2.2.2.1
  rw [a1, b1, e_X12_goesOn_44, mF3 l3, Option.bind_some, d3.arcs ht, Option.bind_some, n30, pk_mul, nI_add, if_neg (by rw [nI_ltI (by omega) (by omega)]; omega)]
  cases hno : stNo (gath (Ms t) s l) with
  | true =>
    rw [if_pos rfl, if_pos rfl]
    refine ⟨z3, rfl, o3, ?_⟩
    unfold sLead
    by_cases c : 100 < X.1.length
    · rw [if_pos c]
      exact ⟨sz3, ga3⟩
    · rw [if_neg c, if_pos hno]
      have ek := hx2 (by omega)
      refine ⟨sz3, ga3.app ?_⟩
      show zI z3 (m + 53) (4 * (X.2.length / 3) + (X.2.length % 3 + 1)) = -1
      rw [show 4 * (X.2.length / 3) + (X.2.length % 3 + 1) = 4 * i + l by omega, ab.C (by decide) (by decide), v53, if_pos rfl]
  | false =>
    rw [if_neg (by decide), if_neg (by decide), zif_ok l3.1, s_mdraws l3 b3 hno, Option.bind_some]
    dsimp only
    generalize hg : gath (Ms t) s l = g at *
    have g6 := b3.1
    have ndr : ∀ q w, stAt g q = some w → drw g ≤ w.length := fun q w e => drw_le (mem_stAt.mpr ⟨q, e⟩)
    -- the first one that is told
    have first : ∀ (f q : Nat), q + f = 6 → (∀ j, j < q → stAt g j = none) → ∃ p w, p < 6 ∧ stAt g p = some w ∧ w = w1st g ∧ zm_X12_goesOn 285 [some (.inr m), some (.inl (nI t)), some (.inl (nI i)), some (.inl (nI l)), some (.inl (1 : Int32)), some (.inl (nI (drw g))), some (.inl (nI q)), none, none, none, none] [] z3 = zm_X12_goesOn 316 [some (.inr m), some (.inl (nI t)), some (.inl (nI i)), some (.inl (nI l)), some (.inl (1 : Int32)), some (.inl (nI (drw g))), some (.inl (nI p)), some (.inl (nI 0)), none, none, none] [] (zsI z3 (m + 54) (4 * i + l) (nI (drw g))) := by
      intro f
      induction f with
      | zero =>
        intro q hq hj
        obtain ⟨j, r, hr⟩ := stNo_not hno
        have := stAt_some hr
        rw [hj j (by omega)] at hr
        cases hr
      | succ f ih =>
        intro q hq hj
        have gq := b3.2 q (by omega)
        rw [e_X12_goesOn_285, mF70 l3, Option.bind_some, mr70 l3 (by omega), Option.bind_some, nI_1]
        cases e : stAt g q with
        | none =>
          rw [e] at gq
          rw [show zI z3 (m + 56) q = -1 from gq, if_pos (by decide)]
          exact ih (q + 1) (by omega) (fun j hj2 => by
            by_cases c : j = q
            · rw [c]; exact e
            · exact hj j (by omega))
        | some w =>
          rw [e] at gq
          have gq' : OWR z3 m 56 57 120 q (some w) := gq
          have wl := gq'.2.2.1
          refine ⟨q, w, by omega, e, (w1st_at e hj).symm, ?_⟩
          rw [gq'.1, if_neg (nI_nn (by omega)), mF68 l3, Option.bind_some, n4, pk_mul, nI_add, mw68 l3 (by omega), Option.bind_some]
          rfl
    obtain ⟨p, w, hp, ew, ew1, e285⟩ := first 6 0 rfl (fun j hj => absurd hj (Nat.not_lt_zero _))
    have gp := b3.2 p hp
    rw [ew] at gp
    obtain ⟨w1, w2, w3, w4⟩ := (show OWR z3 m 56 57 120 p (some w) from gp)
    have hdr := ndr p w ew
    have wt : (w.take (drw g)).length = drw g := by rw [List.length_take]; omega
    rw [show zm_X12_goesOn 285 [some (.inr m), some (.inl (nI t)), some (.inl (nI i)), some (.inl (nI l)), some (.inl (1 : Int32)), some (.inl (nI (drw g))), some (.inl (0 : Int32)), none, none, none, none] [] z3 = _ from e285]
    generalize hz4 : zsI z3 (m + 54) (4 * i + l) (nI (drw g)) = z4
    have o4 : zOf m [54] [] z3 z4 := by rw [← hz4]; exact zOf_sI (by decide) (by decide)
    have v54 : ∀ j, zI z4 (m + 54) j = if j = 4 * i + l then nI (drw g) else zI z3 (m + 54) j := fun j => by
      rw [← hz4]
      by_cases e : j = 4 * i + l
      · rw [if_pos e, e, zI_sI]
      · rw [if_neg e, zI_sI_k e]
    clear hz4
    have l4 := o4.lay l3
    have gd := w4.take (drw g)
    have gtd : ∀ j, j < drw g → (w.take (drw g)).getD j 0 = w.getD j 0 := fun j hj => by
      rw [List.getD_eq_getElem?_getD, List.getD_eq_getElem?_getD, List.getElem?_take_of_lt hj]
    have cp := zwr (g := fun j z => zm_X12_goesOn 316 [some (.inr m), some (.inl (nI t)), some (.inl (nI i)), some (.inl (nI l)), some (.inl (1 : Int32)), some (.inl (nI (drw g))), some (.inl (nI p)), some (.inl (nI j)), none, none, none] [] z) (h := z4) (a := m + 55) (p := 260 * (4 * i + l)) (n := drw g) (f := fun j => (w.take (drw g)).getD j 0) (fun j hj => by
      have lz : MLay (zWr z4 (m + 55) (260 * (4 * i + l)) j fun j => (w.take (drw g)).getD j 0) m := (zOf_Wr (L := [55]) (J := []) (by decide) (by decide)).lay l4
      have r1 : zba (zWr z4 (m + 55) (260 * (4 * i + l)) j fun j => (w.take (drw g)).getD j 0) (m + 57) (nI (120 * p + j)) = some ((w.take (drw g)).getD j 0) := by rw [mr71 lz (by omega), zI_Wr_a (by omega), o4.C (by decide) (by decide), w2 j (by omega), gtd j hj]
      rw [e_X12_goesOn_316, if_pos ((nI_ltI (by omega) (by omega)).mpr hj), mF69 lz, Option.bind_some, mF71 lz, Option.bind_some, n120, pk_mul, nI_add, r1, Option.bind_some, n260, n4, pk_mul, nI_add, pk_mul, nI_add, mw69 lz (by omega), Option.bind_some, nI_1, gd.byte (by omega)])
    have o5 : zOf m [55] [] z4 (zWr z4 (m + 55) (260 * (4 * i + l)) (drw g) fun j => (w.take (drw g)).getD j 0) := zOf_Wr (by decide) (by decide)
    refine Exists.elim (show ∃ z, z = zWr z4 (m + 55) (260 * (4 * i + l)) (drw g) fun j => (w.take (drw g)).getD j 0 from ⟨_, rfl⟩) fun z5 hz5 => ?_
    rw [← hz5] at cp o5
    have l5 := o5.lay l4
    have o45 : zOf m [54, 55] [] z3 z5 := (o4.wide (by decide) (by decide)).tr (o5.wide (by decide) (by decide))
    have sz5 : SeL z5 m X.1 := sz3.o o45 (by decide) (by decide) (by decide)
    have nw5 : NOW z5 m g := b3.o o45 (by decide) (by decide)
    obtain ⟨z6, c1, c2, c3⟩ := s_msetOfNow l5 sz5 nw5 ndr (by omega)
    have l6 := c2.lay l5
    rw [cp, e_X12_goesOn_316, if_neg (by rw [nI_ltI (by omega) (by omega)]; omega), mF67 l5, Option.bind_some, zif_ok l5.1, c1, Option.bind_some]
    dsimp only
    have hj102 : (sPlace (stDrop (drw g) g) X.1).1 < 102 := by
      have : (sPlace (stDrop (drw g) g) X.1).1 ≤ X.1.length := fdx_le _
      omega
    rw [n4, pk_mul, nI_add, mw67 l6 (by omega), Option.bind_some]
    refine ⟨_, rfl, ((o3.tr (o45.wide (by decide) (by decide))).tr (c2.wide (by decide) (by decide))).tr (zOf_sI (by decide) (by decide)), ?_⟩
    have o7 : zOf m [53] [] z6 (zsI z6 (m + 53) (4 * i + l) (nI (sPlace (stDrop (drw g) g) X.1).1)) := zOf_sI (by decide) (by decide)
    have gaZ : GAl (zsI z6 (m + 53) (4 * i + l) (nI (sPlace (stDrop (drw g) g) X.1).1)) m X.2 := fun k hk => (ga3 k hk).of (by rw [zI_sI_k (by omega), c2.C (by decide) (by decide), o45.C (by decide) (by decide)]) (by rw [o7.C (by decide) (by decide), c2.C (by decide) (by decide), o5.C (by decide) (by decide), v54, if_neg (by omega)]) (fun j hj => by rw [o7.C (by decide) (by decide), c2.C (by decide) (by decide), hz5, zI_Wr_out (by omega), o4.C (by decide) (by decide)])
    have slZ := c3.o o7 (by decide) (by decide) (by decide)
    unfold sLead
    by_cases c : 100 < X.1.length
    · rw [if_pos c]
      rw [if_neg (by omega)] at slZ
      exact ⟨slZ, gaZ⟩
    · rw [if_neg c, if_neg (by rw [hg, hno]; decide), hg]
      rw [if_pos (by omega)] at slZ
      have ek := hx2 (by omega)
      refine ⟨slZ, gaZ.app ?_⟩
      rw [show 4 * (X.2.length / 3) + (X.2.length % 3 + 1) = 4 * i + l by omega, ← ew1]
      refine ⟨zI_sI, ?_, fun j hj => ?_, by rw [wt]; omega, gd, hj102⟩
      · rw [o7.C (by decide) (by decide), c2.C (by decide) (by decide), o5.C (by decide) (by decide), v54, if_pos rfl, wt]
      · rw [wt] at hj
        rw [o7.C (by decide) (by decide), c2.C (by decide) (by decide), hz5, zI_Wr_at hj]
end MKC
