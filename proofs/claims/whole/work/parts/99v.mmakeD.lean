/-! The reference: makes. -/
theorem stDrop_0 (s : zSe) : stDrop 0 s = s := by
  unfold stDrop
  have : (Option.map fun w : zWo => w.drop 0) = id := by
    funext o
    cases o <;> rfl
  rw [this, List.map_id]
theorem sLead_len2 (M : zMa) (l : Nat) (s : zSe) (X : zSs) : (sLead M l s X).2.length ≤ X.2.length + 1 := by
  unfold sLead
  split
  · omega
  · split
    · rw [List.length_append, List.length_singleton]; exact Nat.le_refl _
    · rw [List.length_append, List.length_singleton]; exact Nat.le_refl _
/-- whether one of the first states stands in the set -/
def flB (s : zSe) (q : Nat) : Int32 := if (List.range q).all (fun j => (stAt s j).isNone) = true then 0 else 1
theorem flB_s (s : zSe) (q : Nat) : flB s (q + 1) = if flB s q = 0 then (if (stAt s q).isNone = true then 0 else 1) else 1 := by
  unfold flB
  rw [List.range_succ, List.all_append]
  cases (List.range q).all (fun j => (stAt s j).isNone) with
  | true =>
    rw [Bool.true_and, if_pos rfl, if_pos rfl]
    simp
  | false =>
    rw [Bool.false_and, if_neg (by decide), if_neg (by decide)]
theorem flB_6 {s : zSe} (h : s.length = 6) : flB s 6 = 0 ↔ stNo s = true := by
  rw [stNo_iff]
  unfold flB
  by_cases c : (List.range 6).all (fun j => (stAt s j).isNone) = true
  · rw [if_pos c]
    refine ⟨fun _ q => ?_, fun _ => rfl⟩
    by_cases hq : q < 6
    · have := List.all_eq_true.mp c q (List.mem_range.mpr hq)
      exact Option.isNone_iff_eq_none.mp this
    · cases e : stAt s q with
      | none => rfl
      | some r => have := stAt_some e; omega
  · rw [if_neg c]
    refine ⟨fun w => absurd w (by decide), fun w => absurd (List.all_eq_true.mpr (fun j _ => by rw [w j]; rfl)) c⟩
section MKD
variable {h h0 : zM} {m t : Nat} {Ms : Nat → zMa}
theorem s_make9 (d : MMs h m Ms) (kM : MaOk (Ms t)) (ht : t < 2) (us : MUs h m t (Ms t)) :
    ∃ h', zm_X12_makes 9 [some (.inr m), some (.inl (nI t)), some (.inl (0 : Int32)), some (.inl (0 : Int32)), none, none] [] h = zm_X12_makes 9 [some (.inr m), some (.inl (nI t)), some (.inl (flB (sIni (Ms t)) 6)), some (.inl (nI 6)), none, none] [] h' ∧ zOf m [56] [] h h' ∧ NOW h' m (sIni (Ms t)) := by
  have k6 := kM.1
  have loop := zlp (P := fun q z => zOf m [56] [] h z ∧ ∀ j, j < q → OWR z m 56 57 120 j (stAt (sIni (Ms t)) j)) (g := fun q z => zm_X12_makes 9 [some (.inr m), some (.inl (nI t)), some (.inl (flB (sIni (Ms t)) q)), some (.inl (nI q)), none, none] [] z) (n := 6) ?_ 0 h (Nat.zero_le _) ⟨zOf.rf, fun j hj => absurd hj (Nat.not_lt_zero _)⟩
  · obtain ⟨z, e1, e2, e3⟩ := loop
    exact ⟨z, e1, e2, sIni_len _, e3⟩
  · rintro q z hq ⟨oz, hz⟩
    have dz := d.o2 oz (by decide)
    have uz := us.o oz (by decide)
    have lz := dz.1
    have tail : ∀ x : Int32, (x = 0 ∧ (stAt (sIni (Ms t)) q) = some []) ∨ (x = -1 ∧ stAt (sIni (Ms t)) q = none) → ∃ h', ((zis z (m + 56) (nI q) x).bind fun h1 => if flB (sIni (Ms t)) q = 0 then (zgF h1 m 12 70).bind fun r4 => (zia h1 r4 (nI q)).bind fun v3 => if v3 = 0 then zm_X12_makes 9 [some (.inr m), some (.inl (nI t)), some (.inl (1 : Int32)), some (.inl (nI q + 1)), none, none] [] h1 else zm_X12_makes 9 [some (.inr m), some (.inl (nI t)), some (.inl (0 : Int32)), some (.inl (nI q + 1)), none, none] [] h1 else zm_X12_makes 9 [some (.inr m), some (.inl (nI t)), some (.inl (1 : Int32)), some (.inl (nI q + 1)), none, none] [] h1) = zm_X12_makes 9 [some (.inr m), some (.inl (nI t)), some (.inl (flB (sIni (Ms t)) (q + 1))), some (.inl (nI (q + 1))), none, none] [] h' ∧ zOf m [56] [] h h' ∧ ∀ j, j < q + 1 → OWR h' m 56 57 120 j (stAt (sIni (Ms t)) j) := fun x hx => by
      rw [mw70 lz hq, Option.bind_some]
      have o1 : zOf m [56] [] z (zsI z (m + 56) q x) := zOf_sI (by decide) (by decide)
      refine ⟨zsI z (m + 56) q x, ?_, oz.tr o1, fun j hj => ?_⟩
      · rw [flB_s, nI_1]
        by_cases c : flB (sIni (Ms t)) q = 0
        · rw [if_pos c, if_pos c, mF70 lz.sI, Option.bind_some, mr70 lz.sI hq, Option.bind_some, zI_sI]
          rcases hx with ⟨e1, e2⟩ | ⟨e1, e2⟩
          · rw [e1, if_pos rfl, e2, if_neg (by decide)]
          · rw [e1, if_neg (by decide), e2, if_pos (show (none : Option zWo).isNone = true from rfl)]
        · rw [if_neg c, if_neg c]
      · by_cases e : j = q
        · rw [e]
          rcases hx with ⟨e1, e2⟩ | ⟨e1, e2⟩
          · rw [e2, e1]
            exact ⟨zI_sI, Rw.nil, Nat.zero_le _, LOk.nil⟩
          · rw [e2, e1]
            exact zI_sI
        · exact (hz j (by omega)).of (by decide) (zI_sI_k e) (fun j2 _ => zI_sI_a (by omega))
    have hno : ¬ (q < (Ms t).1 ∧ (Ms t).2.1.testBit q = true ∧ isU (Ms t) q = true) → stAt (sIni (Ms t)) q = none := fun hn => by
      cases e : stAt (sIni (Ms t)) q with
      | none => rfl
      | some r => exact absurd (mem_begU.mp ((sIni_at kM).mp e).1) hn
    rw [e_X12_makes_9, if_pos (by rw [n6, nI_ltI (by omega) (by omega)]; omega), mF70 lz, Option.bind_some, mF0 lz, Option.bind_some, dz.many ht, Option.bind_some]
    by_cases c1 : q < (Ms t).1
    · rw [if_pos ((nI_ltI (by omega) (by omega)).mpr c1), mF8 lz, Option.bind_some, n6, pk_mul, nI_add, uz.r lz ht hq, Option.bind_some]
      cases c2 : isU (Ms t) q with
      | false =>
        rw [if_pos (show bI false = 0 from rfl)]
        exact tail (-1) (Or.inr ⟨rfl, hno (fun w => by rw [c2] at w; cases w.2.2)⟩)
      | true =>
        rw [if_neg (show ¬ bI true = 0 by decide), mF1 lz, Option.bind_some, dz.first ht hq, Option.bind_some]
        cases c3 : (Ms t).2.1.testBit q with
        | false =>
          rw [if_pos (show bI false = 0 from rfl)]
          exact tail (-1) (Or.inr ⟨rfl, hno (fun w => by rw [c3] at w; cases w.2.1)⟩)
        | true =>
          rw [if_neg (show ¬ bI true = 0 by decide)]
          exact tail 0 (Or.inl ⟨rfl, (sIni_at kM).mpr ⟨mem_begU.mpr ⟨c1, c3, c2⟩, rfl⟩⟩)
    · rw [if_neg (by rw [nI_ltI (by omega) (by omega)]; exact c1)]
      exact tail (-1) (Or.inr ⟨rfl, hno (fun w => c1 w.1)⟩)
abbrev Lk : List Nat := [51, 52, 53, 54, 55, 56, 57]
theorem s_make104 (hk : ∀ t, t < 2 → MaOk (Ms t)) (ht : t < 2) (d : MMs h0 m Ms) (us : MUs h0 m t (Ms t)) (hf : difW FT (Ms t) (Ms t) = none) (tw : (twJ (Ms t)).1 = 1) {a2 a3 : Int32} : ∀ (f i : Nat) (X : zSs) (h : zM), 101 ≤ f + i → i ≤ X.1.length → ssOk (Ms t) (3 * i) X → zOf m Lk [64] h0 h → SZm h m X →
    ∃ h', zm_X12_makes 104 [some (.inr m), some (.inl (nI t)), some (.inl a2), some (.inl a3), some (.inl (nI i)), none] [] h = some (if (sAll (Ms t) f i X).1.length ≤ 100 then 1 else 0, 0, h') ∧ zOf m Lk [64] h0 h' ∧ SZm h' m (sAll (Ms t) f i X) := by
  have kM := hk t ht
  intro f
  induction f with
  | zero =>
    intro i X h hfi hi ok o sz
    have hl := ok.2.1
    have lay := o.lay d.1
    have eX : sAll (Ms t) 0 i X = X := rfl
    rw [eX, e_X12_makes_104, mi64 lay, Option.bind_some, sz.1.1, if_neg (by rw [nI_ltI (by omega) (by omega)]; omega), Option.bind_some, n100, if_pos ((nI_ltI (by omega) (by omega)).mpr (by omega)), if_neg (by omega), zb0]
    exact ⟨h, rfl, o, sz⟩
  | succ f ih =>
    intro i X h hfi hi ok o sz
    have hl := ok.2.1
    have lay := o.lay d.1
    by_cases c1 : 100 < X.1.length
    · have eX : sAll (Ms t) (f + 1) i X = X := sAll_frozen _ _ _ c1
      have b1 : nI 100 < nI X.1.length := (nI_ltI (by omega) (by omega)).mpr c1
      rw [eX, e_X12_makes_104, mi64 lay, Option.bind_some, sz.1.1, Option.bind_some, n100, if_pos b1, if_neg (show ¬ X.1.length ≤ 100 by omega), Option.bind_some, if_pos b1, ite_self, zb0]
      exact ⟨h, rfl, o, sz⟩
    · by_cases c2 : i < X.1.length
      · have eg : X.1[i]? = some (X.1.getD i []) := by rw [List.getD_eq_getElem?_getD, List.getElem?_eq_getElem c2]; rfl
        generalize hs : X.1.getD i [] = s at eg
        have eX : sAll (Ms t) (f + 1) i X = sAll (Ms t) f (i + 1) (sLead (Ms t) 3 s (sLead (Ms t) 2 s (sLead (Ms t) 1 s X))) := by
          show (match X.1[i]? with | some s => _ | none => _) = _
          rw [eg]
        have x2 := ok.2.2 (by omega)
        have ok1 : ssOk (Ms t) (3 * i + 1) (sLead (Ms t) 1 s X) := sLead_ok kM (l := 0) (by omega) eg ok
        have eg1 := sLead_keep (M := Ms t) (l := 1) (s := s) eg
        have ok2 : ssOk (Ms t) (3 * i + 2) (sLead (Ms t) 2 s (sLead (Ms t) 1 s X)) := sLead_ok kM (l := 1) (by omega) eg1 ok1
        have eg2 := sLead_keep (M := Ms t) (l := 2) (s := s) eg1
        have ok3 := sLead3_ok kM eg ok
        have len1 := sLead_len2 (Ms t) 1 s X
        have len2 := sLead_len2 (Ms t) 2 s (sLead (Ms t) 1 s X)
        have getd : ∀ {Y : zSs}, Y.1[i]? = some s → Y.1.getD i [] = s ∧ i < Y.1.length := fun {Y} e => ⟨by rw [List.getD_eq_getElem?_getD, e]; rfl, by
          apply Classical.byContradiction
          intro c
          rw [List.getElem?_eq_none (by omega)] at e
          cases e⟩
        have p3 := getd (sLead_keep (M := Ms t) (l := 3) (s := s) eg2)
        obtain ⟨h1, r1, o1, z1⟩ := s_mgoesOn (l := 1) (d.o2 o (by decide)) kM ht (us.o o (by decide)) hf tw sz ok.1 c2 (by omega) (by omega) (by have := x2.1; omega) (fun _ => by have := x2.1; omega)
        rw [hs] at z1
        have o1' := o.tr o1
        obtain ⟨h2, r2, o2, z2⟩ := s_mgoesOn (l := 2) (d.o2 o1' (by decide)) kM ht (us.o o1' (by decide)) hf tw z1 ok1.1 (getd eg1).2 (by omega) (by omega) (by have := x2.1; omega) (fun w => by have := (ok1.2.2 w).1; omega)
        rw [(getd eg1).1] at z2
        have o2' := o1'.tr o2
        obtain ⟨h3, r3, o3, z3⟩ := s_mgoesOn (l := 3) (d.o2 o2' (by decide)) kM ht (us.o o2' (by decide)) hf tw z2 ok2.1 (getd eg2).2 (by omega) (by omega) (by have := x2.1; omega) (fun w => by have := (ok2.2.2 w).1; omega)
        rw [(getd eg2).1] at z3
        have o3' := o2'.tr o3
        obtain ⟨h', q1, q2, q3⟩ := ih (i + 1) _ h3 (by omega) (by have := p3.2; omega) ok3 o3' z3
        rw [eX]
        refine ⟨h', ?_, q2, q3⟩
        rw [e_X12_makes_104, mi64 lay, Option.bind_some, sz.1.1, if_pos ((nI_ltI (by omega) (by omega)).mpr c2), Option.bind_some, n100, if_neg (by rw [nI_ltI (by omega) (by omega)]; exact c1)]
        rw [e_X12_makes_125, if_pos (by decide), zif_ok lay.1, show zf nX12_goesOn [.inr m, .inl (nI t), .inl (nI i), .inl (1 : Int32)] h = _ from r1, Option.bind_some]
        dsimp only
        rw [e_X12_makes_125, if_pos (by decide), zif_ok (o1'.lay d.1).1, show zf nX12_goesOn [.inr m, .inl (nI t), .inl (nI i), .inl ((1 : Int32) + 1)] h1 = _ from r2, Option.bind_some]
        dsimp only
        rw [e_X12_makes_125, if_pos (by decide), zif_ok (o2'.lay d.1).1, show zf nX12_goesOn [.inr m, .inl (nI t), .inl (nI i), .inl ((1 : Int32) + 1 + 1)] h2 = _ from r3, Option.bind_some]
        dsimp only
        rw [e_X12_makes_125, if_neg (by decide), nI_1]
        exact q1
      · have eX : sAll (Ms t) (f + 1) i X = X := by
          show (match X.1[i]? with | some s => _ | none => _) = _
          rw [List.getElem?_eq_none (by omega)]
        rw [eX, e_X12_makes_104, mi64 lay, Option.bind_some, sz.1.1, if_neg (by rw [nI_ltI (by omega) (by omega)]; omega), Option.bind_some, n100, if_neg (by rw [nI_ltI (by omega) (by omega)]; exact c1), if_pos (by omega), zb1]
        exact ⟨h, rfl, o, sz⟩
theorem s_mmakes (d : MMs h m Ms) (hk : ∀ t, t < 2 → MaOk (Ms t)) (ht : t < 2) (us : MUs h m t (Ms t)) (hf : difW FT (Ms t) (Ms t) = none) (tw : (twJ (Ms t)).1 = 1) :
    ∃ h', zf nX12_makes [.inr m, .inl (nI t)] h = some (if (sMake (Ms t)).1.length ≤ 100 then 1 else 0, 0, h') ∧ zOf m Lk [64] h h' ∧ SZm h' m (sMake (Ms t)) := by
  have kM := hk t ht
  have o1 : zOf m Lk [64] h (zsI h m 64 0) := zOf_pI (by decide)
  rw [e_X12_makes, mp64 d.1, Option.bind_some]
  have w64 : zI (zsI h m 64 0) m 64 = 0 := zI_sI
  generalize zsI h m 64 0 = h1 at *
  obtain ⟨h2, a1, a2, a3⟩ := s_make9 (d.o2 o1 (by decide)) kM ht (us.o o1 (by decide))
  have o2 := o1.tr (a2.wide (L' := Lk) (J' := [64]) (by decide) (by decide))
  have l2 := o2.lay d.1
  have e64 : zI h2 m 64 = 0 := (a2.J (by decide)).trans w64
  rw [a1, e_X12_makes_9, if_neg (by decide)]
  have mk : sMake (Ms t) = if stNo (sIni (Ms t)) = true then ([], []) else sAll (Ms t) 101 0 ([sIni (Ms t)], []) := rfl
  have f6 := flB_6 (s := sIni (Ms t)) (sIni_len _)
  cases c : stNo (sIni (Ms t)) with
  | true =>
    rw [if_pos (f6.mpr c), mk, if_pos c, zb1]
    exact ⟨h2, rfl, o2, ⟨e64, Nat.zero_le _, fun i hi => absurd hi (Nat.not_lt_zero _)⟩, fun i hi => absurd hi (Nat.not_lt_zero _)⟩
  | false =>
    have sl0 : SeL h2 m [] := ⟨e64, Nat.zero_le _, fun i hi => absurd hi (Nat.not_lt_zero _)⟩
    obtain ⟨h3, b1, b2, b3⟩ := s_msetOfNow (n := 0) l2 sl0 a3 (fun _ _ _ => Nat.zero_le _) (Nat.zero_le _)
    rw [if_pos (by decide), stDrop_0] at b3
    have o3 := o2.tr (b2.wide (L' := Lk) (J' := [64]) (by decide) (by decide))
    have ini := sIni_ok kM c
    have e2 : (sPlace (sIni (Ms t)) []).2 = [sIni (Ms t)] := rfl
    rw [e2] at b3
    rw [if_neg (fun w => by rw [f6, c] at w; cases w), zif_ok l2.1, show zf nX12_setOfNow [.inr m, .inl (0 : Int32)] h2 = _ from b1, Option.bind_some, mk, if_neg (show ¬ stNo (sIni (Ms t)) = true by rw [c]; decide)]
    dsimp only
    exact s_make104 (a2 := flB (sIni (Ms t)) 6) (a3 := nI (sPlace (stDrop 0 (sIni (Ms t))) []).1) hk ht d us hf tw 101 0 ([sIni (Ms t)], []) h3 (by omega) (Nat.zero_le _) ⟨fun s hs => by rw [List.mem_singleton.mp hs]; exact ini.1, by show (1 : Nat) ≤ 101; omega, fun _ => ⟨rfl, fun i g hg => by cases i <;> cases hg⟩⟩ o3 ⟨b3, fun i hi => absurd hi (Nat.not_lt_zero _)⟩
end MKD
