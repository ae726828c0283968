/-! The reference: the whole search. -/
/-- what unlike answers -/
def UlQ (M N : zMa) (h0 : zM) (m : Nat) (y : Option zR) : Prop := (difW FT M N = none ∧ ∃ h', y = some (-1, 0, h') ∧ zOf m (37 :: Lu) Ju h0 h') ∨ ∃ w c h' S K Ws Rs, difW FT M N = some w ∧ y = some (nI c, 0, h') ∧ zOf m (37 :: Lu) Ju h0 h' ∧ FL h' m S K Ws Rs ∧ c < K.length ∧ K.length ≤ 72 ∧ Ws.getD c [] = w
/-- one group: three letters -/
theorem s_mgroup {h0 h : zM} {m t o a b r : Nat} {Ms : Nat → zMa} {S : Nat → Bool} {Gs : List zGp} {Rs : List Nat} (d : MMs h0 m Ms) (hk : ∀ t, t < 2 → MaOk (Ms t)) (ht : t < 2) (ho : o < 2) (oz : zOf m Lu Ju h0 h) (fl : FL h m S (allK Gs) (kWs Gs) Rs) (fk : FK (Ms t) (Ms o) (allK Gs)) (gl : gLen Gs) (rk : RkOk Rs Gs a b) (hb : b ≤ Gs.length) (hr : a + r < b) (h72 : ∀ Gs', (∃ t, Gs' = Gs ++ t) → FK (Ms t) (Ms o) (allK Gs') → (∀ g ∈ Gs', g.1 ≠ []) → Gs'.length ≤ 72) (hne : ∀ g ∈ Gs, g.1 ≠ []) :
    ∃ h' Rs', zm_X12_unlike 194 [some (.inr m), some (.inl (nI t)), some (.inl (nI o)), some (.inl (nI (off Gs a))), some (.inl (nI (off Gs b))), some (.inl (nI (Gs.length - b))), some (.inl (nI r)), some (.inl (nI 1)), none, none] [] h = zm_X12_unlike 177 [some (.inr m), some (.inl (nI t)), some (.inl (nI o)), some (.inl (nI (off Gs a))), some (.inl (nI (off Gs b))), some (.inl (nI ((stepG (fS S) (Ms t) (Ms o) (gAt Gs (a + r)) Gs).length - b))), some (.inl (nI (r + 1))), none, none, none] [] h' ∧ zOf m Lu Ju h0 h' ∧ FL h' m S (allK (stepG (fS S) (Ms t) (Ms o) (gAt Gs (a + r)) Gs)) (kWs (stepG (fS S) (Ms t) (Ms o) (gAt Gs (a + r)) Gs)) Rs' ∧ FK (Ms t) (Ms o) (allK (stepG (fS S) (Ms t) (Ms o) (gAt Gs (a + r)) Gs)) ∧ gLen (stepG (fS S) (Ms t) (Ms o) (gAt Gs (a + r)) Gs) ∧ RkOk Rs' (stepG (fS S) (Ms t) (Ms o) (gAt Gs (a + r)) Gs) a b := by
  have step : ∀ (l : Nat) (Gs1 : List zGp) (Rs1 : List Nat) (z : zM), 1 ≤ l ∧ l ≤ 3 → (∃ t, Gs1 = Gs ++ t) → (∀ g ∈ Gs1, g.1 ≠ []) → zOf m Lu Ju h0 z → FL z m S (allK Gs1) (kWs Gs1) Rs1 → FK (Ms t) (Ms o) (allK Gs1) → gLen Gs1 → RkOk Rs1 Gs1 a b →
      ∃ h' Rs', zm_X12_unlike 194 [some (.inr m), some (.inl (nI t)), some (.inl (nI o)), some (.inl (nI (off Gs a))), some (.inl (nI (off Gs b))), some (.inl (nI (Gs1.length - b))), some (.inl (nI r)), some (.inl (nI l)), none, none] [] z = zm_X12_unlike 194 [some (.inr m), some (.inl (nI t)), some (.inl (nI o)), some (.inl (nI (off Gs a))), some (.inl (nI (off Gs b))), some (.inl (nI ((growG (fS S) (Ms t) (Ms o) l (gAt Gs (a + r)) Gs1).length - b))), some (.inl (nI r)), some (.inl (nI (l + 1))), none, none] [] h' ∧ zOf m Lu Ju h0 h' ∧ FL h' m S (allK (growG (fS S) (Ms t) (Ms o) l (gAt Gs (a + r)) Gs1)) (kWs (growG (fS S) (Ms t) (Ms o) l (gAt Gs (a + r)) Gs1)) Rs' ∧ FK (Ms t) (Ms o) (allK (growG (fS S) (Ms t) (Ms o) l (gAt Gs (a + r)) Gs1)) ∧ gLen (growG (fS S) (Ms t) (Ms o) l (gAt Gs (a + r)) Gs1) ∧ RkOk Rs' (growG (fS S) (Ms t) (Ms o) l (gAt Gs (a + r)) Gs1) a b := by
    rintro l Gs1 Rs1 z hl ⟨tt, et⟩ hne1 o1 f1 f2 g1 rk1
    have hb1 : b ≤ Gs1.length := by rw [et, List.length_append]; omega
    have e1 : gAt Gs1 (a + r) = gAt Gs (a + r) := by rw [et, gAt_l (by omega)]
    have e2 : off Gs1 a = off Gs a := by rw [et, off_l (by omega)]
    have e3 : off Gs1 b = off Gs b := by rw [et, off_l hb]
    have q := s_mletterG d hk ht ho o1 f1 f2 g1 (h72 Gs1 ⟨tt, et⟩ f2 hne1) rk1 hb1 hr hl
    rw [e1, e2, e3] at q
    exact q
  obtain ⟨z1, R1, p1, p2, p3, p4, p5, p6⟩ := step 1 Gs Rs h ⟨by omega, by omega⟩ ⟨[], (List.append_nil _).symm⟩ hne oz fl fk gl rk
  have n1 := growG_ne (F := fS S) (M := Ms t) (N := Ms o) (l := 1) (g := gAt Gs (a + r)) hne
  obtain ⟨t1, et1⟩ := growG_pre (fS S) (Ms t) (Ms o) 1 (gAt Gs (a + r)) Gs
  generalize hG1 : growG (fS S) (Ms t) (Ms o) 1 (gAt Gs (a + r)) Gs = G1 at *
  obtain ⟨z2, R2, q1, q2, q3, q4, q5, q6⟩ := step 2 G1 R1 z1 ⟨by omega, by omega⟩ ⟨t1, et1⟩ n1 p2 p3 p4 p5 p6
  have n2 := growG_ne (F := fS S) (M := Ms t) (N := Ms o) (l := 2) (g := gAt Gs (a + r)) n1
  obtain ⟨t2, et2⟩ := growG_pre (fS S) (Ms t) (Ms o) 2 (gAt Gs (a + r)) G1
  generalize hG2 : growG (fS S) (Ms t) (Ms o) 2 (gAt Gs (a + r)) G1 = G2 at *
  obtain ⟨z3, R3, r1, r2, r3, r4, r5, r6⟩ := step 3 G2 R2 z2 ⟨by omega, by omega⟩ ⟨t1 ++ t2, by rw [et2, et1, List.append_assoc]⟩ n2 q2 q3 q4 q5 q6
  have es : stepG (fS S) (Ms t) (Ms o) (gAt Gs (a + r)) Gs = growG (fS S) (Ms t) (Ms o) 3 (gAt Gs (a + r)) G2 := by
    unfold stepG
    rw [hG1, hG2]
  rw [es]
  refine ⟨z3, R3, p1.trans (q1.trans (r1.trans ?_)), r2, r3, r4, r5, r6⟩
  rw [e_X12_unlike_194, if_neg (by decide), nI_1]
/-- level by level -/
theorem s_mlevels {h0 : zM} {m t o : Nat} {Ms : Nat → zMa} {S : Nat → Bool} (d : MMs h0 m Ms) (hk : ∀ t, t < 2 → MaOk (Ms t)) (ht : t < 2) (ho : o < 2) :
    ∀ (f a : Nat) (Rs : List Nat) (h : zM), 73 ≤ f + a → a ≤ (seqG (fS S) (Ms t) (Ms o) a).length → zOf m Lu Ju h0 h → FL h m S (allK (seqG (fS S) (Ms t) (Ms o) a)) (kWs (seqG (fS S) (Ms t) (Ms o) a)) Rs → FK (Ms t) (Ms o) (allK (seqG (fS S) (Ms t) (Ms o) a)) → RkOk Rs (seqG (fS S) (Ms t) (Ms o) a) a (seqG (fS S) (Ms t) (Ms o) a).length → (∀ i, i < off (seqG (fS S) (Ms t) (Ms o) a) a → endC (Ms t) (Ms o) (kAt (allK (seqG (fS S) (Ms t) (Ms o) a)) i) = false) →
      ∃ h', zOf m Lu Ju h0 h' ∧ ((difW (fS S) (Ms t) (Ms o) = none ∧ zm_X12_unlike 122 [some (.inr m), some (.inl (nI t)), some (.inl (nI o)), some (.inl (nI (off (seqG (fS S) (Ms t) (Ms o) a) a))), none, none, none, none, none, none] [] h = some (-1, 0, h')) ∨ ∃ w c K Ws Rs, difW (fS S) (Ms t) (Ms o) = some w ∧ zm_X12_unlike 122 [some (.inr m), some (.inl (nI t)), some (.inl (nI o)), some (.inl (nI (off (seqG (fS S) (Ms t) (Ms o) a) a))), none, none, none, none, none, none] [] h = some (nI c, 0, h') ∧ FL h' m S K Ws Rs ∧ c < K.length ∧ K.length ≤ 72 ∧ Ws.getD c [] = w) := by
  have kM := hk t ht
  have kN := hk o ho
  intro f
  induction f with
  | zero =>
    intro a Rs h hf hal oz fl fk rk hno
    have := (seqG_72 (F := fS S) kM kN a).1
    omega
  | succ f ih =>
    intro a Rs h hf hal oz fl fk rk hno
    have h72 := seqG_72 (F := fS S) kM kN a
    have dm := d.o2 oz (by decide)
    have ne := seqG_ne (F := fS S) (M := Ms t) (N := Ms o) a
    generalize hGs : seqG (fS S) (Ms t) (Ms o) a = Gs at *
    have offa := off_le hal
    rw [e_X12_unlike_122, mi32 dm.1, Option.bind_some, fl.1.1, Option.bind_some]
    by_cases c : a < Gs.length
    · have hsa := off_s c
      have hpos : 0 < (gAt Gs a).1.length := by
        have := ne _ (List.mem_of_getElem? (gAt_get c))
        exact List.length_pos_iff.mpr this
      have m1 := off_mono (Gs := Gs) (a := a + 1) (b := Gs.length) (by omega) (Nat.le_refl _)
      rw [off_all] at m1
      rw [if_pos ((nI_ltI (by omega) (by omega)).mpr (by omega))]
      -- whether one tells
      have tells : ∀ (f i : Nat) (z : zM), f + i = (allK Gs).length → off Gs a ≤ i → zOf m Lu Ju h0 z → FL z m S (allK Gs) (kWs Gs) Rs → (∀ j, j < i → endC (Ms t) (Ms o) (kAt (allK Gs) j) = false) →
          (∃ w c z', difW (fS S) (Ms t) (Ms o) = some w ∧ zm_X12_unlike 139 [some (.inr m), some (.inl (nI t)), some (.inl (nI o)), some (.inl (nI (off Gs a))), some (.inl (nI (allK Gs).length)), some (.inl (nI i)), none, none, none, none] [] z = some (nI c, 0, z') ∧ zOf m Lu Ju h0 z' ∧ FL z' m S (allK Gs) (kWs Gs) Rs ∧ c < (allK Gs).length ∧ (kWs Gs).getD c [] = w) ∨ ∃ z', zm_X12_unlike 139 [some (.inr m), some (.inl (nI t)), some (.inl (nI o)), some (.inl (nI (off Gs a))), some (.inl (nI (allK Gs).length)), some (.inl (nI i)), none, none, none, none] [] z = zm_X12_unlike 139 [some (.inr m), some (.inl (nI t)), some (.inl (nI o)), some (.inl (nI (off Gs a))), some (.inl (nI (allK Gs).length)), some (.inl (nI (allK Gs).length)), none, none, none, none] [] z' ∧ zOf m Lu Ju h0 z' ∧ FL z' m S (allK Gs) (kWs Gs) Rs ∧ ∀ j, j < (allK Gs).length → endC (Ms t) (Ms o) (kAt (allK Gs) j) = false := by
        intro f
        induction f with
        | zero =>
          intro i z hf hi o1 f1 hn
          have hi : i = (allK Gs).length := by omega
          subst hi
          exact Or.inr ⟨z, rfl, o1, f1, hn⟩
        | succ f ih2 =>
          intro i z hf hi o1 f1 hn
          have dz := d.o2 o1 (by decide)
          obtain ⟨z1, q1, q2, q3⟩ := s_mparts dz hk ht ho f1 fk (show i < (allK Gs).length by omega)
          rw [e_X12_unlike_139, if_pos ((nI_ltI (by omega) (by omega)).mpr (by omega)), zif_ok dz.1.1, q1, Option.bind_some]
          dsimp only
          cases e : endC (Ms t) (Ms o) (kAt (allK Gs) i) with
          | true =>
            rw [if_neg (show ¬ bI true = 0 by decide)]
            have df := dif_found (F := fS S) (M := Ms t) (N := Ms o) (a := a) (c := i) (by omega) (by rw [hGs]; omega) (by rw [hGs]; exact e) (by rw [hGs]; exact hn)
            rw [hGs] at df
            exact Or.inl ⟨_, i, z1, df, rfl, o1.tr q2, q3, by omega, rfl⟩
          | false =>
            rw [if_pos (show bI false = 0 from rfl), nI_1]
            exact ih2 (i + 1) z1 (by omega) (by omega) (o1.tr q2) q3 (fun j hj => by
              by_cases ej : j = i
              · rw [ej]; exact e
              · exact hn j (by omega))
      rcases tells ((allK Gs).length - off Gs a) (off Gs a) h (by omega) (Nat.le_refl _) oz fl hno with ⟨w, cc, z1, p1, p2, p3, p4, p5, p6⟩ | ⟨z1, p1, p2, p3, p4⟩
      · exact ⟨z1, p3, Or.inr ⟨w, cc, allK Gs, kWs Gs, Rs, p1, p2, p4, p5, h72.2, p6⟩⟩
      · have dz := d.o2 p2 (by decide)
        have r0 : zI z1 (m + 36) (off Gs a) = nI 0 := by
          rw [(p3.2.2.2 _ (by omega)).1]
          have := rk.1 a (Nat.le_refl _) c 0 hpos
          rw [Nat.add_zero, Nat.sub_self] at this
          rw [this]
        -- all groups of the level
        have groups : ∀ (f r : Nat) (Rs1 : List Nat) (z : zM), f + r = Gs.length - a → zOf m Lu Ju h0 z → FL z m S (allK (seqG (fS S) (Ms t) (Ms o) (a + r))) (kWs (seqG (fS S) (Ms t) (Ms o) (a + r))) Rs1 → FK (Ms t) (Ms o) (allK (seqG (fS S) (Ms t) (Ms o) (a + r))) → RkOk Rs1 (seqG (fS S) (Ms t) (Ms o) (a + r)) a Gs.length →
            ∃ z' Rs2, zm_X12_unlike 177 [some (.inr m), some (.inl (nI t)), some (.inl (nI o)), some (.inl (nI (off Gs a))), some (.inl (nI (allK Gs).length)), some (.inl (nI ((seqG (fS S) (Ms t) (Ms o) (a + r)).length - Gs.length))), some (.inl (nI r)), none, none, none] [] z = zm_X12_unlike 122 [some (.inr m), some (.inl (nI t)), some (.inl (nI o)), some (.inl (nI (allK Gs).length)), none, none, none, none, none, none] [] z' ∧ zOf m Lu Ju h0 z' ∧ FL z' m S (allK (seqG (fS S) (Ms t) (Ms o) Gs.length)) (kWs (seqG (fS S) (Ms t) (Ms o) Gs.length)) Rs2 ∧ FK (Ms t) (Ms o) (allK (seqG (fS S) (Ms t) (Ms o) Gs.length)) ∧ RkOk Rs2 (seqG (fS S) (Ms t) (Ms o) Gs.length) a Gs.length := by
          intro f
          induction f with
          | zero =>
            intro r Rs1 z hf o1 f1 fk1 rk1
            have hr : a + r = Gs.length := by omega
            obtain ⟨tt, et⟩ := qSeq_pre (st := stepG (fS S) (Ms t) (Ms o)) (s0 := iniG (fS S) (Ms t) (Ms o)) (stepG_pre _ _ _) a r
            have et : seqG (fS S) (Ms t) (Ms o) (a + r) = Gs ++ tt := by rw [← hGs]; exact et
            have hlast : zI z (m + 36) ((allK Gs).length - 1) = nI (Gs.length - 1 - a) := by
              have hlen : (allK (seqG (fS S) (Ms t) (Ms o) (a + r))).length = (allK Gs).length + (allK tt).length := by rw [et, allK_app, List.length_append]
              rw [(f1.2.2.2 _ (by omega)).1]
              have hg := off_s (Gs := Gs) (g := Gs.length - 1) (by omega)
              rw [show Gs.length - 1 + 1 = Gs.length by omega, off_all] at hg
              have hp2 : 0 < (gAt Gs (Gs.length - 1)).1.length := List.length_pos_iff.mpr (ne _ (List.mem_of_getElem? (gAt_get (by omega))))
              have := rk1.1 (Gs.length - 1) (by omega) (by omega) ((gAt Gs (Gs.length - 1)).1.length - 1) (by rw [et, gAt_l (by omega)]; omega)
              rw [et, off_l (by omega), show off Gs (Gs.length - 1) + ((gAt Gs (Gs.length - 1)).1.length - 1) = (allK Gs).length - 1 by omega] at this
              rw [this]
            have dz := d.o2 o1 (by decide)
            refine ⟨z, Rs1, ?_, o1, by rw [← hr]; exact f1, by rw [← hr]; exact fk1, by rw [← hr]; rw [← hr] at rk1; exact rk1⟩
            rw [e_X12_unlike_177, mF40 dz.1, Option.bind_some, n1, pk_sub (by omega), mr40 dz.1 (by omega), Option.bind_some, hlast, if_pos ((nI_ltI (by omega) (by omega)).mpr (by omega))]
          | succ f ih2 =>
            intro r Rs1 z hf o1 f1 fk1 rk1
            obtain ⟨tt, et⟩ := qSeq_pre (st := stepG (fS S) (Ms t) (Ms o)) (s0 := iniG (fS S) (Ms t) (Ms o)) (stepG_pre _ _ _) a r
            have et : seqG (fS S) (Ms t) (Ms o) (a + r) = Gs ++ tt := by rw [← hGs]; exact et
            have h72r := seqG_72 (F := fS S) kM kN (a + r)
            have ner := seqG_ne (F := fS S) (M := Ms t) (N := Ms o) (a + r)
            have glr := seqG_len (F := fS S) kM kN (a + r)
            have hget : (seqG (fS S) (Ms t) (Ms o) (a + r))[a + r]? = some (gAt (seqG (fS S) (Ms t) (Ms o) (a + r)) (a + r)) := gAt_get (by rw [et, List.length_append]; omega)
            have estep : seqG (fS S) (Ms t) (Ms o) (a + r + 1) = stepG (fS S) (Ms t) (Ms o) (gAt (seqG (fS S) (Ms t) (Ms o) (a + r)) (a + r)) (seqG (fS S) (Ms t) (Ms o) (a + r)) := qSeq_some hget
            have hlast : zI z (m + 36) ((allK Gs).length - 1) = nI (Gs.length - 1 - a) := by
              have hlen : (allK (seqG (fS S) (Ms t) (Ms o) (a + r))).length = (allK Gs).length + (allK tt).length := by rw [et, allK_app, List.length_append]
              rw [(f1.2.2.2 _ (by omega)).1]
              have hg := off_s (Gs := Gs) (g := Gs.length - 1) (by omega)
              rw [show Gs.length - 1 + 1 = Gs.length by omega, off_all] at hg
              have hp2 : 0 < (gAt Gs (Gs.length - 1)).1.length := List.length_pos_iff.mpr (ne _ (List.mem_of_getElem? (gAt_get (by omega))))
              have := rk1.1 (Gs.length - 1) (by omega) (by omega) ((gAt Gs (Gs.length - 1)).1.length - 1) (by rw [et, gAt_l (by omega)]; omega)
              rw [et, off_l (by omega), show off Gs (Gs.length - 1) + ((gAt Gs (Gs.length - 1)).1.length - 1) = (allK Gs).length - 1 by omega] at this
              rw [this]
            have dz := d.o2 o1 (by decide)
            have hb1 : Gs.length ≤ (seqG (fS S) (Ms t) (Ms o) (a + r)).length := by rw [et, List.length_append]; omega
            have eo1 : off (seqG (fS S) (Ms t) (Ms o) (a + r)) a = off Gs a := by rw [et, off_l (by omega)]
            have eo2 : off (seqG (fS S) (Ms t) (Ms o) (a + r)) Gs.length = (allK Gs).length := by rw [et, off_l (Nat.le_refl _), off_all]
            have grp := s_mgroup d hk ht ho o1 f1 fk1 glr rk1 hb1 (show a + r < Gs.length by omega) (fun Gs' _ fk' ne' => by
              have := len_allK Gs' ne'
              have := fk'.l72 kM kN
              omega) ner
            rw [eo1, eo2, ← estep] at grp
            obtain ⟨z2, R2, q1, q2, q3, q4, q5, q6⟩ := grp
            obtain ⟨z', R', w1, w2⟩ := ih2 (r + 1) R2 z2 (by omega) q2 q3 q4 q6
            refine ⟨z', R', ?_, w2⟩
            rw [e_X12_unlike_177, mF40 dz.1, Option.bind_some, n1, pk_sub (by omega), mr40 dz.1 (by omega), Option.bind_some, hlast, if_neg (by rw [nI_ltI (by omega) (by omega)]; omega)]
            exact q1.trans w1
        obtain ⟨z2, R2, q1, q2, q3, q4, q5⟩ := groups (Gs.length - a) 0 Rs z1 rfl p2 (by rw [Nat.add_zero, hGs]; exact p3) (by rw [Nat.add_zero, hGs]; exact fk) (by rw [Nat.add_zero, hGs]; exact rk)
        obtain ⟨tt, et⟩ := qSeq_pre (st := stepG (fS S) (Ms t) (Ms o)) (s0 := iniG (fS S) (Ms t) (Ms o)) (stepG_pre _ _ _) a (Gs.length - a)
        have et : seqG (fS S) (Ms t) (Ms o) Gs.length = Gs ++ tt := by
          rw [show a + (Gs.length - a) = Gs.length by omega] at et
          rw [← hGs]
          rw [hGs]
          exact et.trans (congrArg (· ++ tt) hGs)
        have hoff : off (seqG (fS S) (Ms t) (Ms o) Gs.length) Gs.length = (allK Gs).length := by rw [et, off_l (Nat.le_refl _), off_all]
        obtain ⟨h', w1, w2⟩ := ih Gs.length R2 z2 (by omega) (by rw [et, List.length_append]; omega) q2 q3 q4 ⟨fun g g1 g2 j hj => q5.2 g g1 g2 j hj, fun g g1 g2 => by omega⟩ (fun i hi => by
          rw [hoff] at hi
          rw [et, allK_app, kAt_l hi]
          exact p4 i hi)
        refine ⟨h', w1, ?_⟩
        rw [hoff] at w2
        have e0 : zm_X12_unlike 139 [some (.inr m), some (.inl (nI t)), some (.inl (nI o)), some (.inl (nI (off Gs a))), some (.inl (nI (allK Gs).length)), some (.inl (nI (allK Gs).length)), none, none, none, none] [] z1 = zm_X12_unlike 177 [some (.inr m), some (.inl (nI t)), some (.inl (nI o)), some (.inl (nI (off Gs a))), some (.inl (nI (allK Gs).length)), some (.inl (nI 0)), some (.inl (nI 0)), none, none, none] [] z1 := by
          rw [e_X12_unlike_139, if_neg (by rw [nI_ltI (by omega) (by omega)]; omega), mF40 dz.1, Option.bind_some, mr40 dz.1 (by omega), Option.bind_some, r0]
          rfl
        have q1' := q1
        rw [Nat.add_zero, hGs, Nat.sub_self] at q1'
        rw [p1, e0, q1']
        exact w2
    · have ha : a = Gs.length := by omega
      have hoff : off Gs a = (allK Gs).length := by rw [ha, off_all]
      rw [if_neg (by rw [hoff, nI_ltI (by omega) (by omega)]; omega)]
      refine ⟨h, oz, Or.inl ⟨dif_none (a := a) (by omega) (by rw [hGs]; omega) (by rw [hGs, ← hoff]; exact hno), rfl⟩⟩
/-- the search -/
theorem s_munlike {h : zM} {m t o : Nat} {Ms : Nat → zMa} (d : MMs h m Ms) (hk : ∀ t, t < 2 → MaOk (Ms t)) (ht : t < 2) (ho : o < 2) : UlQ (Ms t) (Ms o) h m (zf nX12_unlike [.inr m, .inl (nI t), .inl (nI o)] h) := by
  have kM := hk t ht
  have kN := hk o ho
  have k6 := kM.1
  have k6' := kN.1
  have efilt : difW (fS (mtS (Ms t) (Ms o) 36)) (Ms t) (Ms o) = difW FT (Ms t) (Ms o) := difW_filt (F := mtP (Ms t) (Ms o)) kM kN (mtP_back kM kN) (mtP_end kN)
  rw [e_X12_unlike, zif_ok d.1.1]
  obtain ⟨h1, a1, a2, a3⟩ := s_meets d hk ht ho
  have d1 := d.o2 a2 (by decide)
  rw [a1, Option.bind_some]
  dsimp only
  rw [mp32 d1.1, Option.bind_some]
  generalize hS : mtS (Ms t) (Ms o) 36 = S at *
  have o0 : zOf m Lu Ju h1 (zsI h1 m 32 0) := zOf_pI (by decide)
  have cm0 : CMt (zsI h1 m 32 0) m S := fun k hk => (zI_sI_a (by omega)).trans (a3 k hk)
  have e32 : zI (zsI h1 m 32 0) m 32 = nI 0 := zI_sI
  -- no pair has come
  have zero := zlp (P := fun k z => zOf m Lu Ju h1 z ∧ zI z m 32 = nI 0 ∧ CMt z m S ∧ ∀ j, j < k → zI z (m + 38) j = nI 0) (g := fun k z => zm_X12_unlike 13 [some (.inr m), some (.inl (nI t)), some (.inl (nI o)), some (.inl (nI k)), none, none, none, none, none, none] [] z) (n := 36) ?_ 0 (zsI h1 m 32 0) (Nat.zero_le _) ⟨o0, e32, cm0, fun j hj => absurd hj (Nat.not_lt_zero _)⟩
  · obtain ⟨z0, b1, b2, b3, b4, b5⟩ := zero
    rw [n0, show zm_X12_unlike 13 [some (.inr m), some (.inl (nI t)), some (.inl (nI o)), some (.inl (nI 0)), none, none, none, none, none, none] [] (zsI h1 m 32 (nI 0)) = _ from b1, e_X12_unlike_13, if_neg (by decide), n0]
    have ks0 : KS z0 m S [] := ⟨b3, fun i hi => absurd hi (Nat.not_lt_zero _), fun p q hp hq => b5 _ (by omega), b4⟩
    let P : List zCf → zM → Prop := fun K z => zOf m Lu Ju h1 z ∧ FK (Ms t) (Ms o) K ∧ FL z m S K (List.replicate K.length []) (List.replicate K.length 0)
    have fk0 : FK (Ms t) (Ms o) [] := ⟨kOk_nil, fun pq => Nat.zero_le _, fun c hc => by cases hc⟩
    have begin1 := zlp (P := fun p z => P ((iniT (Ms t) (Ms o) p).foldl (addC (fS S)) []) z) (g := fun p z => zm_X12_unlike 34 [some (.inr m), some (.inl (nI t)), some (.inl (nI o)), some (.inl (nI p)), none, none, none, none, none, none] [] z) (n := (Ms t).1) ?_ 0 z0 (Nat.zero_le _) ⟨b2, fk0, ks0, rfl, rfl, fun i hi => absurd hi (Nat.not_lt_zero _)⟩
    · obtain ⟨z1, c1, c2, c3, c4⟩ := begin1
      have dz := d1.o2 c2 (by decide)
      rw [iniT_all] at c3 c4
      have hK : (iniC (Ms t) (Ms o)).foldl (addC (fS S)) [] = iniK (fS S) (Ms t) (Ms o) := rfl
      rw [hK] at c3 c4
      have hA := allK_ini (fS S) (Ms t) (Ms o)
      have hW : kWs (iniG (fS S) (Ms t) (Ms o)) = List.replicate (iniK (fS S) (Ms t) (Ms o)).length [] := by
        unfold iniG
        by_cases c : (iniK (fS S) (Ms t) (Ms o)).length = 0
        · rw [if_pos c, c]; rfl
        · rw [if_neg c, kWs_one]
      have hR : RkOk (List.replicate (iniK (fS S) (Ms t) (Ms o)).length 0) (iniG (fS S) (Ms t) (Ms o)) 0 (iniG (fS S) (Ms t) (Ms o)).length := by
        have rep : ∀ n i : Nat, (List.replicate n (0 : Nat)).getD i 0 = 0 := fun n i => by
          rw [List.getD_eq_getElem?_getD, List.getElem?_replicate]
          split <;> rfl
        have hl : (iniG (fS S) (Ms t) (Ms o)).length ≤ 1 := by
          unfold iniG
          split
          · exact Nat.zero_le _
          · exact Nat.le_refl _
        exact ⟨fun g g1 g2 j hj => by rw [rep]; omega, fun g g1 g2 => by omega⟩
      have main := s_mlevels (S := S) d1 hk ht ho 73 0 (List.replicate (iniK (fS S) (Ms t) (Ms o)).length 0) z1 (by omega) (Nat.zero_le _) c2 (by show FL z1 m S (allK (iniG _ _ _)) (kWs (iniG _ _ _)) _; rw [hA, hW]; exact c4) (by show FK _ _ (allK (iniG _ _ _)); rw [hA]; exact c3) hR (fun i hi => by unfold off at hi; rw [List.take_zero] at hi; exact absurd hi (Nat.not_lt_zero _))
      have hoff : off (seqG (fS S) (Ms t) (Ms o) 0) 0 = 0 := by unfold off; rw [List.take_zero]; rfl
      rw [hoff, efilt] at main
      rw [show zm_X12_unlike 34 [some (.inr m), some (.inl (nI t)), some (.inl (nI o)), some (.inl (nI 0)), none, none, none, none, none, none] [] z0 = _ from c1, e_X12_unlike_34, mF0 dz.1, Option.bind_some, dz.many ht, Option.bind_some, if_neg (by rw [nI_ltI (by omega) (by omega)]; omega), n0]
      obtain ⟨h', w1, w2⟩ := main
      have ow := (a2.wide (L' := 37 :: Lu) (J' := Ju) (by decide) (by decide)).tr (w1.wide (by decide) (by decide))
      rcases w2 with ⟨q1, q2⟩ | ⟨w, c, K, Ws, Rs, q1, q2, q3, q4, q5, q6⟩
      · exact Or.inl ⟨q1, h', q2, ow⟩
      · exact Or.inr ⟨w, c, h', S, K, Ws, Rs, q1, q2, ow, q3, q4, q5, q6⟩
    · intro p z hp hP
      have hP1 := hP.1
      have dz := d1.o2 hP1 (by decide)
      rw [iniT_s, e_X12_unlike_34, mF0 dz.1, Option.bind_some, dz.many ht, Option.bind_some, if_pos ((nI_ltI (by omega) (by omega)).mpr hp), n0]
      have begin2 := zlp (P := fun q z => P ((iniT (Ms t) (Ms o) p ++ if (Ms t).2.1.testBit p then iniR (Ms o) p q else []).foldl (addC (fS S)) []) z) (g := fun q z => zm_X12_unlike 47 [some (.inr m), some (.inl (nI t)), some (.inl (nI o)), some (.inl (nI p)), some (.inl (nI q)), none, none, none, none, none] [] z) (n := (Ms o).1) ?_ 0 z (Nat.zero_le _) (by
        have e : (if (Ms t).2.1.testBit p = true then iniR (Ms o) p 0 else []) = [] := by split <;> rfl
        rw [e, List.append_nil]
        exact hP)
      · obtain ⟨z1, c1, c2⟩ := begin2
        have dz := d1.o2 c2.1 (by decide)
        refine ⟨z1, Eq.trans c1 ?_, c2⟩
        rw [e_X12_unlike_47, mF0 dz.1, Option.bind_some, dz.many ho, Option.bind_some, if_neg (by rw [nI_ltI (by omega) (by omega)]; omega), nI_1]
      · intro q z hq hP
        have dz := d1.o2 hP.1 (by decide)
        rw [e_X12_unlike_47, mF0 dz.1, Option.bind_some, dz.many ho, Option.bind_some, if_pos ((nI_ltI (by omega) (by omega)).mpr hq), mF1 dz.1, Option.bind_some, n6, pk_mul, nI_add, dz.first ht (by omega), Option.bind_some, iniR_s, nI_1]
        cases ep : (Ms t).2.1.testBit p with
        | false =>
          rw [ep] at hP
          rw [if_pos (show bI false = 0 from rfl)]
          simp only [Bool.false_eq_true, if_false, List.append_nil] at hP ⊢
          exact ⟨z, rfl, hP⟩
        | true =>
          rw [ep] at hP
          rw [if_neg (show ¬ bI true = 0 by decide), Option.bind_some, pk_mul, nI_add, dz.first ho (by omega), Option.bind_some]
          simp only [if_true] at hP ⊢
          cases eq : (Ms o).2.1.testBit q with
          | false =>
            rw [if_pos (show bI false = 0 from rfl)]
            simp only [Bool.false_eq_true, if_false, List.append_nil]
            exact ⟨z, rfl, hP⟩
          | true =>
            rw [if_neg (show ¬ bI true = 0 by decide), zif_ok dz.1.1]
            simp only [if_true]
            rw [← List.append_assoc, List.foldl_append]
            generalize (iniT (Ms t) (Ms o) p ++ iniR (Ms o) p q).foldl (addC (fS S)) [] = K at *
            obtain ⟨oz, fk, fl⟩ := hP
            obtain ⟨z1, r1, r2, r3⟩ := s_mrows0 dz.1
            rw [r1, Option.bind_some]
            dsimp only
            have dz1 := dz.o2 r2 (by decide)
            have flz := fl.o r2 (by decide) (by decide)
            rw [zif_ok dz1.1.1]
            have l72 := fk.l72 kM kN
            have fk' : FK (Ms t) (Ms o) (addC (fS S) K ((p, q), [], [])) := ⟨addC_ok fk.1 ⟨hp, hq, rfl⟩, addC_two fk.2.1, fun c hc => by
              unfold addC at hc
              split at hc
              · rcases List.mem_append.mp hc with w | w
                · exact fk.2.2 c w
                · rw [List.mem_singleton] at w
                  subst w
                  exact ⟨LOk.nil, LOk.nil, Nat.zero_le _, Nat.zero_le _⟩
              · exact fk.2.2 c hc⟩
            have room : addC (fS S) K ((p, q), [], []) ≠ K → K.length ≤ 71 := fun ne => by
              have := fk'.l72 kM kN
              have e : addC (fS S) K ((p, q), [], []) = K ++ [((p, q), [], [])] := by
                unfold addC at ne ⊢
                split
                · rfl
                · rw [if_neg (by assumption)] at ne
                  exact absurd rfl ne
              rw [e, List.length_append, List.length_singleton] at this
              omega
            have cn : CN z1 m 0 ((p, q), [], []) := ⟨[], [], r3, by decide, by decide, LOk.nil, LOk.nil, Or.inr ⟨rfl, rfl⟩⟩
            obtain ⟨z2, s1, s2, s3, s4, s5⟩ := s_config (c := ((p, q), [], [])) (pa := -1) (l := 0) (r := 0) dz1.1 l72 room flz.1 (fk.2.1 _) cn ⟨by show p < 6; omega, by show q < 6; omega⟩ (fun i hi => fk.six kM kN hi) (fun i hi => by have := fk.2.2 _ (kAt_mem hi); omega)
            rw [show zf nX12_config [.inr m, .inl (nI p), .inl (nI q), .inl (0 : Int32), .inl (-1 : Int32), .inl (0 : Int32), .inl (0 : Int32)] z1 = _ from s1, Option.bind_some]
            refine ⟨z2, rfl, (oz.tr (r2.wide (by decide) (by decide))).tr (s2.wide (by decide) (by decide)), fk', s3, ?_, ?_, fun i hi => ?_⟩
            · rw [List.length_replicate]
            · rw [List.length_replicate]
            · have rep : ∀ n i : Nat, (List.replicate n (0 : Nat)).getD i 0 = 0 := fun n i => by
                rw [List.getD_eq_getElem?_getD, List.getElem?_replicate]
                split <;> rfl
              have rep2 : ∀ n i : Nat, (List.replicate n ([] : List Nat)).getD i [] = [] := fun n i => by
                rw [List.getD_eq_getElem?_getD, List.getElem?_replicate]
                split <;> rfl
              rw [rep, rep2]
              have hi : i < (addC (fS S) K ((p, q), [], [])).length := hi
              by_cases e : i < K.length
              · obtain ⟨p1, p2, p3⟩ := s4 i e
                obtain ⟨f1, f2⟩ := flz.2.2.2 i e
                rw [rep] at f1
                rw [p1, p2, p3]
                refine ⟨f1, ?_⟩
                rcases f2 with f2 | ⟨j', l', b1, b2, b3, b4⟩
                · exact Or.inl ⟨f2.1, rfl⟩
                · rw [rep2, rep2] at b4
                  cases b4
              · have ne : addC (fS S) K ((p, q), [], []) ≠ K := fun w => by rw [w] at hi; exact e hi
                have e2 : (addC (fS S) K ((p, q), [], [])).length ≤ K.length + 1 := by
                  unfold addC
                  split
                  · rw [List.length_append]; exact Nat.le_refl _
                  · omega
                obtain ⟨p1, p2, p3⟩ := s5 ne
                have ei : i = K.length := by omega
                rw [ei, p1, p3]
                exact ⟨rfl, Or.inl ⟨rfl, rfl⟩⟩
  · rintro k z hk36 ⟨oz, f32, cz, hz⟩
    have dz := d1.o2 oz (by decide)
    rw [e_X12_unlike_13, if_pos (by rw [n36, nI_ltI (by omega) (by omega)]; exact hk36), mF42 dz.1, Option.bind_some, mw42 dz.1 hk36, Option.bind_some, nI_1]
    refine ⟨_, rfl, oz.tr (zOf_sI (by decide) (by decide)), (zI_sI_a (by omega)).trans f32, fun q hq => (zI_sI_a (by omega)).trans (cz q hq), fun j hj => ?_⟩
    by_cases e : j = k
    · rw [e, zI_sI]; rfl
    · rw [zI_sI_k e]; exact hz j (by omega)
