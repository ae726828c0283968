/-! The reference: parted till nothing changes. -/
section PAB
variable {h h0 : zM} {m s : Nat} {M : zMa} {B : Nat → Nat}
/-- alike, and of one class -/
noncomputable def pAl (M : zMa) (B : Nat → Nat) (s f : Nat) : Bool := decide (B f = B s) && (wAl (lsE M) (lsW M) f s && gAl B (lsW M) f s)
noncomputable def pNx (M : zMa) (B : Nat → Nat) (s : Nat) : Nat := fstS (pAl M B s) s
theorem s_lp52 {a1 : Int32} (sg : sGood M) (gb : GBase h m M) (kl : KLs h m (sMake M).1.length B) (hB : ∀ s, s < (sMake M).1.length → B s < 2 ^ 30) (hs : s < (sMake M).1.length) : ∀ (r v : Nat) (z : zM), r ≤ s → (r ≤ v ∧ v ≤ s ∧ (v < s → pAl M B s v = true) ∧ ∀ j, r ≤ j → j < v → pAl M B s j = false) → zOf m [70] [] h z → zI z (m + 70) s = nI v → (∀ k, k ≠ s → zI z (m + 70) k = zI h (m + 70) k) →
    ∃ z', zm_X12_least 52 [some (.inr m), some (.inl a1), some (.inl (nI s)), some (.inl (nI r - 1)), none, none, none] [] z = zm_X12_least 33 [some (.inr m), some (.inl a1), some (.inl (nI (s + 1))), none, none, none, none] [] z' ∧ zOf m [70] [] h z' ∧ zI z' (m + 70) s = nI (pNx M B s) ∧ ∀ k, k ≠ s → zI z' (m + 70) k = zI h (m + 70) k := by
  have hN := sg.2.2.2
  have bs := hB s hs
  intro r
  induction r with
  | zero =>
    intro v z hr inv oz e1 e2
    rw [e_X12_least_52, if_pos (by decide), nI_1]
    refine ⟨z, rfl, oz, ?_, e2⟩
    rw [e1]
    exact congrArg nI (fstS_eq inv.2.2.1 inv.2.1 (fun j hj => inv.2.2.2 j (Nat.zero_le _) hj)).symm
  | succ r ih =>
    intro v z hr inv oz e1 e2
    have gz := gb.o oz (by decide) (by decide)
    have kz := kl.o oz (by decide)
    have lz := gz.1.1.1
    have br := hB r (by omega)
    have nx : nI (r + 1) - 1 = nI r := by rw [n1, pk_sub (by omega)]; rfl
    have nx2 : nI r + (-1 : Int32) = nI r - 1 := (Int32.sub_eq_add_neg _ _).symm
    have stay : pAl M B s r = false → ∃ z', zm_X12_least 52 [some (.inr m), some (.inl a1), some (.inl (nI s)), some (.inl (nI r - 1)), none, none, none] [] z = zm_X12_least 33 [some (.inr m), some (.inl a1), some (.inl (nI (s + 1))), none, none, none, none] [] z' ∧ zOf m [70] [] h z' ∧ zI z' (m + 70) s = nI (pNx M B s) ∧ ∀ k, k ≠ s → zI z' (m + 70) k = zI h (m + 70) k := fun hp =>
      ih v z (by omega) ⟨by omega, inv.2.1, inv.2.2.1, fun j h1 h2 => by
        by_cases e : j = r
        · rw [e]; exact hp
        · exact inv.2.2.2 j (by omega) h2⟩ oz e1 e2
    rw [nx, e_X12_least_52, if_neg (nI_nn (by omega)), mF87 lz, Option.bind_some, mr87 lz (by omega), Option.bind_some, Option.bind_some, mr87 lz (by omega), Option.bind_some, kz r (by omega), kz s hs, nx2]
    by_cases c1 : B r = B s
    · rw [if_pos (by rw [c1]), zif_ok lz.1, s_misAlike sg gz kz hB (by omega) hs, Option.bind_some]
      dsimp only
      have ep : pAl M B s r = (wAl (lsE M) (lsW M) r s && gAl B (lsW M) r s) := by
        unfold pAl
        rw [decide_eq_true c1, Bool.true_and]
      rw [← ep]
      cases hp : pAl M B s r with
      | false =>
        rw [if_pos (show bI false = 0 from rfl)]
        exact stay hp
      | true =>
        rw [if_neg (show ¬ bI true = 0 by decide), mF88 lz, Option.bind_some, mw88 lz (by omega), Option.bind_some]
        refine ih r _ (by omega) ⟨Nat.le_refl _, by omega, fun _ => hp, fun j h1 h2 => absurd h2 (by omega)⟩ (oz.tr (zOf_sI (by decide) (by decide))) zI_sI (fun k hk => (zI_sI_k hk).trans (e2 k hk))
    · rw [if_neg (by rw [nI_eq (by omega) (by omega)]; exact c1)]
      exact stay (by unfold pAl; rw [decide_eq_false c1, Bool.false_and])
def flE (B C : Nat → Nat) (i : Nat) : Int32 := if (List.range i).all (fun k => decide (B k = C k)) = true then 0 else 1
theorem flE_s (B C : Nat → Nat) (i : Nat) : flE B C (i + 1) = if flE B C i = 0 then (if B i = C i then 0 else 1) else 1 := by
  unfold flE
  rw [List.range_succ, List.all_append]
  cases (List.range i).all (fun k => decide (B k = C k)) with
  | true =>
    rw [Bool.true_and, if_pos rfl, if_pos rfl]
    simp
  | false =>
    rw [Bool.false_and, if_neg (by decide), if_neg (by decide)]
theorem flE_0 {B C : Nat → Nat} {i : Nat} : flE B C i = 0 ↔ ∀ k, k < i → B k = C k := by
  unfold flE
  by_cases c : (List.range i).all (fun k => decide (B k = C k)) = true
  · rw [if_pos c]
    refine ⟨fun _ k hk => ?_, fun _ => rfl⟩
    exact of_decide_eq_true (List.all_eq_true.mp c k (List.mem_range.mpr hk))
  · rw [if_neg c]
    exact ⟨fun w => absurd w (by decide), fun w => absurd (List.all_eq_true.mpr (fun k hk => decide_eq_true (w k (List.mem_range.mp hk)))) c⟩
theorem s_lround (sg : sGood M) (gb : GBase h m M) (kl : KLs h m (sMake M).1.length B) (hB : ∀ s, s < (sMake M).1.length → B s < 2 ^ 30) :
    ∃ z, zm_X12_least 33 [some (.inr m), some (.inl (0 : Int32)), some (.inl (0 : Int32)), none, none, none, none] [] h = zm_X12_least 25 [some (.inr m), some (.inl (flE B (pNx M B) (sMake M).1.length)), none, none, none, none, none] [] z ∧ zOf m [69, 70] [] h z ∧ KLs z m (sMake M).1.length (pNx M B) := by
  have hN := sg.2.2.2
  have nxl : ∀ s, pNx M B s ≤ s := fun s => fstS_le _ _
  have lp1 := zlp (P := fun i z => zOf m [70] [] h z ∧ ∀ k, k < i → zI z (m + 70) k = nI (pNx M B k)) (g := fun i z => zm_X12_least 33 [some (.inr m), some (.inl (0 : Int32)), some (.inl (nI i)), none, none, none, none] [] z) (n := (sMake M).1.length) (fun i z hi hP => by
    obtain ⟨oz, hz⟩ := hP
    have gz := gb.o oz (by decide) (by decide)
    have lz := gz.1.1.1
    rw [e_X12_least_33, mi64 lz, Option.bind_some, gz.1.1.2.1.1.1, if_pos ((nI_ltI (by omega) (by omega)).mpr hi), mF88 lz, Option.bind_some, mw88 lz (by omega), Option.bind_some]
    have o1 : zOf m [70] [] z (zsI z (m + 70) i (nI i)) := zOf_sI (by decide) (by decide)
    have v1 : zI (zsI z (m + 70) i (nI i)) (m + 70) i = nI i := zI_sI
    have v2 : ∀ k, k ≠ i → zI (zsI z (m + 70) i (nI i)) (m + 70) k = zI z (m + 70) k := fun k hk => zI_sI_k hk
    generalize zsI z (m + 70) i (nI i) = z1 at *
    obtain ⟨z2, r1, r2, r3, r4⟩ := s_lp52 (a1 := 0) sg (gz.o o1 (by decide) (by decide)) ((kl.o oz (by decide)).o o1 (by decide)) hB hi i i z1 (Nat.le_refl _) ⟨Nat.le_refl _, Nat.le_refl _, fun w => absurd w (Nat.lt_irrefl _), fun j h1 h2 => absurd h2 (by omega)⟩ zOf.rf v1 (fun _ _ => rfl)
    refine ⟨z2, r1, (oz.tr o1).tr r2, fun k hk => ?_⟩
    by_cases e : k = i
    · rw [e]; exact r3
    · rw [r4 k e, v2 k e, hz k (by omega)]) 0 h (Nat.zero_le _) ⟨zOf.rf, fun k hk => absurd hk (Nat.not_lt_zero _)⟩
  obtain ⟨z1, e1, o1, p1⟩ := lp1
  have g1 := gb.o o1 (by decide) (by decide)
  have l1 := g1.1.1.1
  have k1 := kl.o o1 (by decide)
  have lp2 := zlp (P := fun i z => zOf m [69, 70] [] h z ∧ (∀ k, k < (sMake M).1.length → zI z (m + 70) k = nI (pNx M B k)) ∧ (∀ k, k < i → zI z (m + 69) k = nI (pNx M B k)) ∧ ∀ k, i ≤ k → k < (sMake M).1.length → zI z (m + 69) k = nI (B k)) (g := fun i z => zm_X12_least 101 [some (.inr m), some (.inl (flE B (pNx M B) i)), some (.inl (nI i)), none, none, none, none] [] z) (n := (sMake M).1.length) (fun i z hi hP => by
    obtain ⟨oz, h70, h69, h69b⟩ := hP
    have lz := oz.lay gb.1.1.1
    have e64 : zI z m 64 = nI (sMake M).1.length := (oz.J (by decide)).trans gb.1.1.2.1.1.1
    have bi := hB i hi
    have ni := nxl i
    refine ⟨zsI z (m + 69) i (nI (pNx M B i)), ?_, oz.tr (zOf_sI (by decide) (by decide)), fun k hk => (zI_sI_a (by omega)).trans (h70 k hk), fun k hk => ?_, fun k h1 h2 => (zI_sI_k (by omega)).trans (h69b k (by omega) h2)⟩
    · rw [flE_s, e_X12_least_101, mi64 lz, Option.bind_some, e64, if_pos ((nI_ltI (by omega) (by omega)).mpr hi), nI_1]
      by_cases c : flE B (pNx M B) i = 0
      · rw [if_pos c, if_pos c, mF87 lz, Option.bind_some, mr87 lz (by omega), Option.bind_some, mF88 lz, Option.bind_some, mr88 lz (by omega), Option.bind_some, h69b i (Nat.le_refl _) hi, h70 i hi]
        by_cases q : B i = pNx M B i
        · rw [if_pos (by rw [q]), if_pos q, Option.bind_some, Option.bind_some, mr88 lz (by omega), Option.bind_some, h70 i hi, mw87 lz (by omega), Option.bind_some]
        · rw [if_neg (by rw [nI_eq (by omega) (by omega)]; exact q), if_neg q, Option.bind_some, Option.bind_some, mr88 lz (by omega), Option.bind_some, h70 i hi, mw87 lz (by omega), Option.bind_some]
      · rw [if_neg c, if_neg c, mF87 lz, Option.bind_some, mF88 lz, Option.bind_some, mr88 lz (by omega), Option.bind_some, h70 i hi, mw87 lz (by omega), Option.bind_some]
    · by_cases e : k = i
      · rw [e, zI_sI]
      · rw [zI_sI_k e]; exact h69 k (by omega)) 0 z1 (Nat.zero_le _) ⟨o1.wide (by decide) (by decide), p1, fun k hk => absurd hk (Nat.not_lt_zero _), fun k _ hk => k1 k hk⟩
  obtain ⟨z2, e2, o2, -, p2, -⟩ := lp2
  have l2 := o2.lay gb.1.1.1
  refine ⟨z2, ?_, o2, p2⟩
  refine (show _ = _ from e1).trans ?_
  rw [e_X12_least_33, mi64 l1, Option.bind_some, g1.1.1.2.1.1.1, if_neg (by rw [nI_ltI (by omega) (by omega)]; omega)]
  refine (show _ = _ from e2).trans ?_
  rw [e_X12_least_101, mi64 l2, Option.bind_some, o2.J (by decide), gb.1.1.2.1.1.1, if_neg (by rw [nI_ltI (by omega) (by omega)]; omega)]
theorem pNx_seq (i s : Nat) (n : Nat) (hs : s < n) : pNx M (pSeq (lsE M) (lsW M) i) s = pSeq (lsE M) (lsW M) (i + 1) s := by
  have ok := (pSeq_ok (n := n) (E := lsE M) (W := lsW M) i).2
  refine fstS_congr (fun j hj => ?_)
  unfold pAl
  by_cases c : pSeq (lsE M) (lsW M) i j = pSeq (lsE M) (lsW M) i s
  · rw [ok j s (by omega) hs c, Bool.true_and]
  · rw [decide_eq_false c, Bool.false_and, Bool.false_and]
theorem gA1_const (x y : Option (zWo × Nat)) : gA1 (fun _ => 0) x y = true := by
  cases x <;> cases y <;> rfl
theorem pNx_0 (s : Nat) : pNx M (fun _ => 0) s = pSeq (lsE M) (lsW M) 0 s := by
  refine fstS_congr (fun j hj => ?_)
  have : gAl (fun _ => 0) (lsW M) j s = true := gAl_iff.mpr (fun j _ => gA1_const _ _)
  unfold pAl
  rw [this, Bool.and_true]
  exact Bool.true_and _
theorem pSeq_le (i s : Nat) : pSeq (lsE M) (lsW M) i s ≤ s := by
  cases i with
  | zero => exact fstS_le _ _
  | succ i => exact fstS_le _ _
theorem KLs.cg {C : Nat → Nat} {n : Nat} (d : KLs h m n B) (e : ∀ s, s < n → B s = C s) : KLs h m n C := fun s hs => by rw [d s hs, e s hs]
theorem s_least25 (sg : sGood M) : ∀ (f i : Nat) (h : zM), f + i = (sMake M).1.length → GBase h m M → KLs h m (sMake M).1.length (pSeq (lsE M) (lsW M) i) →
    ∃ h', zm_X12_least 25 [some (.inr m), some (.inl (1 : Int32)), none, none, none, none, none] [] h = zm_X12_least 157 [some (.inr m), some (.inl (0 : Int32)), some (.inl (0 : Int32)), none, none, none, none] [] h' ∧ zOf m [69, 70] [] h h' ∧ KLs h' m (sMake M).1.length (lsB M) := by
  have hN := sg.2.2.2
  have hW := lsW_lt sg
  intro f
  induction f with
  | zero =>
    intro i h hf gb kl
    have hi : i = (sMake M).1.length := by omega
    obtain ⟨z, r1, r2, r3⟩ := s_lround sg gb kl (fun s hs => by have := pSeq_le (M := M) i s; omega)
    have same : ∀ s, s < (sMake M).1.length → pSeq (lsE M) (lsW M) i s = pSeq (lsE M) (lsW M) (i + 1) s := fun s hs => by
      rw [hi]
      exact pSeq_end hW s hs
    have f0 : flE (pSeq (lsE M) (lsW M) i) (pNx M (pSeq (lsE M) (lsW M) i)) (sMake M).1.length = 0 := flE_0.mpr (fun k hk => by rw [pNx_seq i k _ hk]; exact same k hk)
    rw [e_X12_least_25, if_neg (by decide), r1, f0, e_X12_least_25, if_pos rfl]
    exact ⟨z, rfl, r2, r3.cg (fun s hs => by rw [pNx_seq i s _ hs, ← same s hs]; exact pFin_of hW hN (Or.inl same) s hs)⟩
  | succ f ih =>
    intro i h hf gb kl
    obtain ⟨z, r1, r2, r3⟩ := s_lround sg gb kl (fun s hs => by have := pSeq_le (M := M) i s; omega)
    have r3' := r3.cg (fun s hs => pNx_seq i s _ hs)
    rw [e_X12_least_25, if_neg (by decide), r1]
    by_cases c : flE (pSeq (lsE M) (lsW M) i) (pNx M (pSeq (lsE M) (lsW M) i)) (sMake M).1.length = 0
    · have same : ∀ s, s < (sMake M).1.length → pSeq (lsE M) (lsW M) i s = pSeq (lsE M) (lsW M) (i + 1) s := fun s hs => by
        rw [← pNx_seq i s _ hs]
        exact flE_0.mp c s hs
      rw [c, e_X12_least_25, if_pos rfl]
      exact ⟨z, rfl, r2, r3'.cg (fun s hs => by rw [← same s hs]; exact pFin_of hW hN (Or.inl same) s hs)⟩
    · have c1 : flE (pSeq (lsE M) (lsW M) i) (pNx M (pSeq (lsE M) (lsW M) i)) (sMake M).1.length = 1 := by
        unfold flE at c ⊢
        split
        · rename_i q
          rw [if_pos q] at c
          exact absurd rfl c
        · rfl
      rw [c1]
      obtain ⟨h', q1, q2, q3⟩ := ih (i + 1) z (by omega) (gb.o r2 (by decide) (by decide)) r3'
      exact ⟨h', q1, r2.tr q2, q3⟩
/-- all of it -/
theorem s_leastP (sg : sGood M) (gb : GBase h m M) :
    ∃ h', zf nX12_least [.inr m] h = zm_X12_least 157 [some (.inr m), some (.inl (0 : Int32)), some (.inl (0 : Int32)), none, none, none, none] [] h' ∧ zOf m [69, 70] [] h h' ∧ KLs h' m (sMake M).1.length (lsB M) := by
  have hN := sg.2.2.2
  have hW := lsW_lt sg
  have cp := zwr (g := fun i z => zm_X12_least 2 [some (.inr m), some (.inl (nI i)), none, none, none, none, none] [] z) (h := h) (a := m + 69) (p := 0) (n := (sMake M).1.length) (f := fun _ => 0) (fun i hi => by
    have oz : zOf m [69] [] h (zWr h (m + 69) 0 i fun _ => 0) := zOf_Wr (by decide) (by decide)
    have lz := oz.lay gb.1.1.1
    rw [e_X12_least_2, mi64 lz, Option.bind_some, oz.J (by decide), gb.1.1.2.1.1.1, if_pos ((nI_ltI (by omega) (by omega)).mpr hi), mF87 lz, Option.bind_some, mw87 lz (by omega), Option.bind_some, nI_1, Nat.zero_add])
  have o1 : zOf m [69, 70] [] h (zWr h (m + 69) 0 (sMake M).1.length fun _ => 0) := zOf_Wr (by decide) (by decide)
  refine Exists.elim (show ∃ z, z = zWr h (m + 69) 0 (sMake M).1.length fun _ => 0 from ⟨_, rfl⟩) fun z hz => ?_
  rw [← hz] at cp o1
  have kz : KLs z m (sMake M).1.length (fun _ => 0) := fun s hs => by
    rw [hz]
    exact zI_Wr_in (by omega) (by omega)
  have gz := gb.o o1 (by decide) (by decide)
  have start : zf nX12_least [.inr m] h = zm_X12_least 25 [some (.inr m), some (.inl (1 : Int32)), none, none, none, none, none] [] z := by
    rw [e_X12_least]
    refine (show _ = _ from cp).trans ?_
    rw [e_X12_least_2, mi64 gz.1.1.1, Option.bind_some, gz.1.1.2.1.1.1, if_neg (by rw [nI_ltI (by omega) (by omega)]; omega)]
  obtain ⟨z1, r1, r2, r3⟩ := s_lround sg gz kz (fun _ _ => by decide)
  have r3' := r3.cg (fun s _ => pNx_0 s)
  rw [start, e_X12_least_25, if_neg (by decide), r1]
  by_cases c : flE (fun _ => 0) (pNx M (fun _ => 0)) (sMake M).1.length = 0
  · have z0 : ∀ s, s < (sMake M).1.length → pSeq (lsE M) (lsW M) 0 s = 0 := fun s hs => by
      rw [← pNx_0 s]
      exact (flE_0.mp c s hs).symm
    have same : ∀ s, s < (sMake M).1.length → pSeq (lsE M) (lsW M) 0 s = pSeq (lsE M) (lsW M) (0 + 1) s := fun s hs => by
      rw [z0 s hs]
      have e1 : pSeq (lsE M) (lsW M) (0 + 1) s = pRf (lsW M) (fun _ => 0) s := pRf_congr hW z0 hs
      rw [e1]
      exact (fstS_eq (fun _ => by rw [gAl_iff.mpr (fun j _ => gA1_const _ _)]; rfl) (Nat.zero_le _) (fun j hj => absurd hj (Nat.not_lt_zero _))).symm
    rw [c, e_X12_least_25, if_pos rfl]
    exact ⟨z1, rfl, o1.tr r2, r3'.cg (fun s hs => pFin_of hW hN (Or.inl same) s hs)⟩
  · have c1 : flE (fun _ => 0) (pNx M (fun _ => 0)) (sMake M).1.length = 1 := by
      unfold flE at c ⊢
      split
      · rename_i q
        rw [if_pos q] at c
        exact absurd rfl c
      · rfl
    rw [c1]
    obtain ⟨h', q1, q2, q3⟩ := s_least25 sg (sMake M).1.length 0 z1 (by omega) (gz.o r2 (by decide) (by decide)) r3'
    exact ⟨h', q1, (o1.tr r2).tr q2, q3⟩
end PAB
