/-! The reference: pairs that may meet. -/
/-- sets of pairs, by 6 p + q -/
def mtF (a b : zArc) (S : Nat → Bool) : Nat → Bool := if a.2.1 = b.2.1 ∧ S (6 * a.2.2.1 + b.2.2.1) = true then va_up S (6 * a.1 + b.1) true else S
def mtA (N : zMa) (S : Nat → Bool) (a : zArc) : Nat → Bool := N.2.2.2.foldl (fun S b => mtF a b S) S
def mtR (M N : zMa) (S : Nat → Bool) : Nat → Bool := M.2.2.2.foldl (mtA N) S
def mt0 (M N : zMa) (k : Nat) : Bool := (M.2.2.1 (k / 6)).isSome && (N.2.2.1 (k % 6)).isSome
def mtS (M N : zMa) : Nat → Nat → Bool
  | 0 => mt0 M N
  | k + 1 => mtR M N (mtS M N k)
/-- the pairs from which some word leads both to ends, as far as it matters -/
def mtP (M N : zMa) (pq : Nat × Nat) : Bool := mtS M N 36 (6 * pq.1 + pq.2)
theorem mtF_up {a b : zArc} {S : Nat → Bool} {x : Nat} (h : S x = true) : mtF a b S x = true := by
  unfold mtF
  split
  · rw [va_up_both]
    split
    · rfl
    · exact h
  · exact h
theorem mtA_up {N : zMa} {a : zArc} {x : Nat} {S : Nat → Bool} (h : S x = true) : mtA N S a x = true := foldl_inv (P := fun S : Nat → Bool => S x = true) (fun _ _ _ hb => mtF_up hb) h
theorem mtR_up {M N : zMa} {x : Nat} {S : Nat → Bool} (h : S x = true) : mtR M N S x = true := foldl_inv (P := fun S : Nat → Bool => S x = true) (fun _ _ _ hb => mtA_up hb) h
theorem fold_mem {α β : Type} {f : β → α → β} {P : β → Prop} {x : α} (hk : ∀ b y, P b → P (f b y)) (hx : ∀ b, P (f b x)) : ∀ (l : List α) (s : β), x ∈ l → P (l.foldl f s)
  | [], _, h => absurd h (by simp)
  | y :: l, s, h => by
    rw [List.foldl_cons]
    rcases List.mem_cons.mp h with e | e
    · rw [← e]
      exact foldl_inv (fun b z _ hb => hk b z hb) (hx s)
    · exact fold_mem hk hx l _ e
/-- one round brings what follows -/
theorem mtR_to {M N : zMa} {a b : zArc} {S : Nat → Bool} (ha : a ∈ M.2.2.2) (hb : b ∈ N.2.2.2) (e : a.2.1 = b.2.1) (h : S (6 * a.2.2.1 + b.2.2.1) = true) : mtR M N S (6 * a.1 + b.1) = true := by
  have key : ∀ (l : List zArc) (S : Nat → Bool), a ∈ l → S (6 * a.2.2.1 + b.2.2.1) = true → l.foldl (mtA N) S (6 * a.1 + b.1) = true := by
    intro l
    induction l with
    | nil => intro S h; cases h
    | cons y l ih =>
      intro S hm hS
      rw [List.foldl_cons]
      rcases List.mem_cons.mp hm with q | q
      · subst q
        refine foldl_inv (P := fun S : Nat → Bool => S (6 * a.1 + b.1) = true) (fun _ _ _ hb => mtA_up hb) ?_
        have key2 : ∀ (l : List zArc) (S : Nat → Bool), b ∈ l → S (6 * a.2.2.1 + b.2.2.1) = true → l.foldl (fun S b => mtF a b S) S (6 * a.1 + b.1) = true := by
          intro l
          induction l with
          | nil => intro S h; cases h
          | cons y l ih2 =>
            intro S hm hS
            rw [List.foldl_cons]
            rcases List.mem_cons.mp hm with q | q
            · subst q
              refine foldl_inv (P := fun S : Nat → Bool => S (6 * a.1 + b.1) = true) (fun _ _ _ hb => mtF_up hb) ?_
              unfold mtF
              rw [if_pos ⟨e, hS⟩, va_up_both, if_pos rfl]
            · exact ih2 _ q (mtF_up hS)
        exact key2 _ _ hb hS
      · exact ih _ q (mtA_up hS)
  exact key _ _ ha h
theorem mtS_mono (M N : zMa) (k x : Nat) (h : mtS M N k x = true) : mtS M N (k + 1) x = true := mtR_up h
theorem mtR_congr {M N : zMa} (kM : MaOk M) (kN : MaOk N) {S T : Nat → Bool} (h : ∀ x, x < 36 → S x = T x) : ∀ x, x < 36 → mtR M N S x = mtR M N T x := by
  have h6 := kM.1
  have h6' := kN.1
  have one : ∀ (a b : zArc), a ∈ M.2.2.2 → b ∈ N.2.2.2 → ∀ S T : Nat → Bool, (∀ x, x < 36 → S x = T x) → ∀ x, x < 36 → mtF a b S x = mtF a b T x := fun a b ha hb S T h x hx => by
    have ka := kM.2.2.2.2 a ha
    have kb := kN.2.2.2.2 b hb
    unfold mtF
    rw [h (6 * a.2.2.1 + b.2.2.1) (by omega)]
    split
    · rw [va_up_both, va_up_both]
      split
      · rfl
      · exact h x hx
    · exact h x hx
  have inner : ∀ (a : zArc), a ∈ M.2.2.2 → ∀ (l : List zArc), (∀ b ∈ l, b ∈ N.2.2.2) → ∀ S T : Nat → Bool, (∀ x, x < 36 → S x = T x) → ∀ x, x < 36 → l.foldl (fun S b => mtF a b S) S x = l.foldl (fun S b => mtF a b S) T x := by
    intro a ha l
    induction l with
    | nil => intro _ S T h; exact h
    | cons b l ih =>
      intro hl S T h
      rw [List.foldl_cons, List.foldl_cons]
      exact ih (fun c hc => hl c (List.mem_cons_of_mem _ hc)) _ _ (one a b ha (hl b List.mem_cons_self) S T h)
  have outer : ∀ (l : List zArc), (∀ a ∈ l, a ∈ M.2.2.2) → ∀ S T : Nat → Bool, (∀ x, x < 36 → S x = T x) → ∀ x, x < 36 → l.foldl (mtA N) S x = l.foldl (mtA N) T x := by
    intro l
    induction l with
    | nil => intro _ S T h; exact h
    | cons a l ih =>
      intro hl S T h
      rw [List.foldl_cons, List.foldl_cons]
      exact ih (fun c hc => hl c (List.mem_cons_of_mem _ hc)) _ _ (inner a (hl a List.mem_cons_self) N.2.2.2 (fun b hb => hb) S T h)
  exact outer M.2.2.2 (fun a ha => ha) S T h
theorem mtS_end {M N : zMa} (kM : MaOk M) (kN : MaOk N) : ∀ x, x < 36 → mtS M N 36 x = mtS M N 37 x :=
  chain (N := 36) (mtS M N) (fun k x _ h => mtS_mono M N k x h) (fun k h x hx => mtR_congr kM kN h x hx) 36 (by omega)
theorem mtP_back {M N : zMa} (kM : MaOk M) (kN : MaOk N) : ∀ a ∈ M.2.2.2, ∀ b ∈ N.2.2.2, a.2.1 = b.2.1 → mtP M N (a.2.2.1, b.2.2.1) = true → mtP M N (a.1, b.1) = true := fun a ha b hb e h => by
  have ka := kM.2.2.2.2 a ha
  have kb := kN.2.2.2.2 b hb
  have h6 := kM.1
  have h6' := kN.1
  unfold mtP
  dsimp only
  rw [mtS_end kM kN _ (by omega)]
  exact mtR_to ha hb e h
theorem mtP_end {M N : zMa} (kN : MaOk N) : ∀ p q, (M.2.2.1 p).isSome = true → (N.2.2.1 q).isSome = true → mtP M N (p, q) = true := fun p q hp hq => by
  have hq6 : q < 6 := by
    cases e : N.2.2.1 q with
    | none => rw [e] at hq; cases hq
    | some w =>
      have := (kN.2.2.1 q w e).1
      have := kN.1
      omega
  have h0 : mt0 M N (6 * p + q) = true := by
    unfold mt0
    rw [show (6 * p + q) / 6 = p by omega, show (6 * p + q) % 6 = q by omega, hp, hq]
    rfl
  have key : ∀ k, mtS M N k (6 * p + q) = true := by
    intro k
    induction k with
    | zero => exact h0
    | succ k ih => exact mtS_mono M N k _ ih
  exact key 36
/-- the set stands -/
def CMt (h : zM) (m : Nat) (S : Nat → Bool) : Prop := ∀ k, k < 36 → zI h (m + 37) k = bI (S k)
theorem n_div6 : ∀ k, k < 36 → nI k / (6 : Int32) = nI (k / 6) ∧ nI k - nI k / (6 : Int32) * (6 : Int32) = nI (k % 6) := by decide +kernel
theorem s_meets {h : zM} {m t o : Nat} {Ms : Nat → zMa} (d : MMs h m Ms) (hk : ∀ t, t < 2 → MaOk (Ms t)) (ht : t < 2) (ho : o < 2) : ∃ h', zf nX12_meets [.inr m, .inl (nI t), .inl (nI o)] h = some (0, 0, h') ∧ zOf m [37] [] h h' ∧ CMt h' m (mtS (Ms t) (Ms o) 36) := by
  have kM := hk t ht
  have kN := hk o ho
  have h6 := kM.1
  have h6' := kN.1
  have h30 := kM.2.2.2.1
  have h30' := kN.2.2.2.1
  rw [e_X12_meets, n0]
  have start := zlp (P := fun k z => zOf m [37] [] h z ∧ ∀ j, j < k → zI z (m + 37) j = bI (mt0 (Ms t) (Ms o) j)) (g := fun k z => zm_X12_meets 2 [some (.inr m), some (.inl (nI t)), some (.inl (nI o)), some (.inl (nI k)), none, none] [] z) (n := 36) ?_ 0 h (Nat.zero_le _) ⟨zOf.rf, fun j hj => absurd hj (Nat.not_lt_zero _)⟩
  · obtain ⟨z1, s1, s2, s3⟩ := start
    rw [show zm_X12_meets 2 [some (.inr m), some (.inl (nI t)), some (.inl (nI o)), some (.inl (nI 0)), none, none] [] h = _ from s1, e_X12_meets_2, if_neg (by decide), n0]
    have rounds := zlp (P := fun k z => zOf m [37] [] h z ∧ CMt z m (mtS (Ms t) (Ms o) k)) (g := fun k z => zm_X12_meets 93 [some (.inr m), some (.inl (nI t)), some (.inl (nI o)), some (.inl (nI k)), none, none] [] z) (n := 36) ?_ 0 z1 (Nat.zero_le _) ⟨s2, s3⟩
    · obtain ⟨z2, r1, r2, r3⟩ := rounds
      rw [show zm_X12_meets 93 [some (.inr m), some (.inl (nI t)), some (.inl (nI o)), some (.inl (nI 0)), none, none] [] z1 = _ from r1, e_X12_meets_93, if_neg (by decide)]
      exact ⟨z2, rfl, r2, r3⟩
    · rintro k z hk36 ⟨oz, cz⟩
      rw [e_X12_meets_93, if_pos (by rw [n36, nI_ltI (by omega) (by omega)]; exact hk36), show (30 : Int32) = nI 30 from rfl, pk_mul]
      have outer := zlp (P := fun i z => zOf m [37] [] h z ∧ CMt z m (((Ms t).2.2.2.take i).foldl (mtA (Ms o)) (mtS (Ms t) (Ms o) k))) (g := fun i z => zm_X12_meets 105 [some (.inr m), some (.inl (nI t)), some (.inl (nI o)), some (.inl (nI k)), some (.inl (nI (30 * t + i))), none] [] z) (n := (Ms t).2.2.2.length) ?_ 0 z (Nat.zero_le _) ⟨oz, cz⟩
      · obtain ⟨z2, r1, r2, r3⟩ := outer
        rw [List.take_length] at r3
        refine ⟨z2, Eq.trans r1 ?_, r2, r3⟩
        have dz := d.o2 r2 (by decide)
        rw [e_X12_meets_105, mF3 dz.1, Option.bind_some, dz.arcs ht, Option.bind_some, show (30 : Int32) = nI 30 from rfl, pk_mul, nI_add, if_neg (by rw [nI_ltI (by omega) (by omega)]; omega), nI_1]
      · rintro i z hi ⟨oz, cz⟩
        have dz := d.o2 oz (by decide)
        rw [fold_take _ _ _ i _ (arc_get hi), e_X12_meets_105, mF3 dz.1, Option.bind_some, dz.arcs ht, Option.bind_some, show (30 : Int32) = nI 30 from rfl, pk_mul, nI_add, if_pos ((nI_ltI (by omega) (by omega)).mpr (by omega)), pk_mul]
        generalize ((Ms t).2.2.2.take i).foldl (mtA (Ms o)) (mtS (Ms t) (Ms o) k) = S at *
        have inner := zlp (P := fun j z => zOf m [37] [] h z ∧ CMt z m (((Ms o).2.2.2.take j).foldl (fun S b => mtF (arcAt (Ms t) i) b S) S)) (g := fun j z => zm_X12_meets 127 [some (.inr m), some (.inl (nI t)), some (.inl (nI o)), some (.inl (nI k)), some (.inl (nI (30 * t + i))), some (.inl (nI (30 * o + j)))] [] z) (n := (Ms o).2.2.2.length) ?_ 0 z (Nat.zero_le _) ⟨oz, cz⟩
        · obtain ⟨z2, r1, r2, r3⟩ := inner
          rw [List.take_length] at r3
          refine ⟨z2, Eq.trans r1 ?_, r2, r3⟩
          have dz := d.o2 r2 (by decide)
          rw [e_X12_meets_127, mF3 dz.1, Option.bind_some, dz.arcs ho, Option.bind_some, show (30 : Int32) = nI 30 from rfl, pk_mul, nI_add, if_neg (by rw [nI_ltI (by omega) (by omega)]; omega), nI_1]
          rfl
        · rintro j z hj ⟨oz, cz⟩
          have dz := d.o2 oz (by decide)
          have ka := kM.at2 hi
          have kb := kN.at2 hj
          rw [fold_take _ _ _ j _ (arc_get hj), e_X12_meets_127, mF3 dz.1, Option.bind_some, dz.arcs ho, Option.bind_some, show (30 : Int32) = nI 30 from rfl, pk_mul, nI_add, if_pos ((nI_ltI (by omega) (by omega)).mpr (by omega)), mF5 dz.1, Option.bind_some, dz.by ht kM hi, Option.bind_some, Option.bind_some, dz.by ho kN hj, Option.bind_some, nI_1]
          generalize ((Ms o).2.2.2.take j).foldl (fun S b => mtF (arcAt (Ms t) i) b S) S = T at *
          by_cases c1 : (arcAt (Ms t) i).2.1 = (arcAt (Ms o) j).2.1
          · rw [if_pos (by rw [c1])]
            have ct := cz (6 * (arcAt (Ms t) i).2.2.1 + (arcAt (Ms o) j).2.2.1) (by omega)
            simp only [mF41 dz.1, mF6 dz.1, Option.bind_some, dz.to ht kM hi, dz.to ho kN hj, n6, pk_mul, nI_add, mr41 dz.1 (show 6 * (arcAt (Ms t) i).2.2.1 + (arcAt (Ms o) j).2.2.1 < 36 by omega), ct]
            cases e : T (6 * (arcAt (Ms t) i).2.2.1 + (arcAt (Ms o) j).2.2.1) with
            | false =>
              have ef : mtF (arcAt (Ms t) i) (arcAt (Ms o) j) T = T := if_neg (fun w => by rw [e] at w; cases w.2)
              rw [if_pos (show bI false = 0 from rfl), ef]
              exact ⟨z, rfl, oz, cz⟩
            | true =>
              have ef : mtF (arcAt (Ms t) i) (arcAt (Ms o) j) T = va_up T (6 * (arcAt (Ms t) i).1 + (arcAt (Ms o) j).1) true := if_pos ⟨c1, e⟩
              rw [if_neg (show ¬ bI true = 0 by decide), ef]
              simp only [mF4 dz.1, Option.bind_some, dz.from ht kM hi, dz.from ho kN hj, pk_mul, nI_add, mw41 dz.1 (show 6 * (arcAt (Ms t) i).1 + (arcAt (Ms o) j).1 < 36 by omega) (x := 1) (Or.inr rfl)]
              refine ⟨_, rfl, oz.tr (zOf_sI (by decide) (by decide)), fun q hq => ?_⟩
              rw [va_up_both]
              by_cases eq : q = 6 * (arcAt (Ms t) i).1 + (arcAt (Ms o) j).1
              · rw [if_pos eq, eq, zI_sI]
                rfl
              · rw [if_neg eq, zI_sI_k eq]
                exact cz q hq
          · have ef : mtF (arcAt (Ms t) i) (arcAt (Ms o) j) T = T := if_neg (fun w => c1 w.1)
            rw [if_neg (by rw [nI_eq (by omega) (by omega)]; exact c1), ef]
            exact ⟨z, rfl, oz, cz⟩
  · rintro k z hk36 ⟨oz, cz⟩
    have dz := d.o2 oz (by decide)
    obtain ⟨q1, q2⟩ := n_div6 k hk36
    have h1 : k / 6 < 6 := by omega
    have h2 : k % 6 < 6 := by omega
    have isE : ∀ (M : zMa), MaOk M → ∀ q, (M.2.2.1 q).isSome = true → q < M.1 := fun M kM q hq => by
      cases e : M.2.2.1 q with
      | none => rw [e] at hq; cases hq
      | some w => exact (kM.2.2.1 q w e).1
    rw [e_X12_meets_2, if_pos (by rw [n36, nI_ltI (by omega) (by omega)]; exact hk36), if_neg (by decide), if_neg (by decide)]
    simp only [q2]
    simp only [q1]
    simp only [mF41 dz.1, mF0 dz.1, mF2 dz.1, Option.bind_some, dz.many ht, dz.many ho, n6, pk_mul, nI_add, mr2 dz.1 (show 6 * t + k / 6 < 12 by omega), mr2 dz.1 (show 6 * o + k % 6 < 12 by omega), nI_1]
    have put : ∀ (b : Bool) (x : Int32), (x = 0 ∨ x = 1) → x = bI b → mt0 (Ms t) (Ms o) k = b → ∃ h', ((zbs z (m + 37) (nI k) x).bind fun h1 => zm_X12_meets 2 [some (.inr m), some (.inl (nI t)), some (.inl (nI o)), some (.inl (nI (k + 1))), none, none] [] h1) = zm_X12_meets 2 [some (.inr m), some (.inl (nI t)), some (.inl (nI o)), some (.inl (nI (k + 1))), none, none] [] h' ∧ zOf m [37] [] h h' ∧ ∀ j, j < k + 1 → zI h' (m + 37) j = bI (mt0 (Ms t) (Ms o) j) := fun b x hx hb e => by
      rw [mw41 dz.1 hk36 hx, Option.bind_some]
      refine ⟨_, rfl, oz.tr (zOf_sI (by decide) (by decide)), fun j hj => ?_⟩
      by_cases ej : j = k
      · rw [ej, zI_sI, e, hb]
      · rw [zI_sI_k ej]
        exact cz j (by omega)
    by_cases c1 : k / 6 < (Ms t).1
    · rw [if_pos ((nI_ltI (by omega) (by omega)).mpr c1)]
      by_cases c2 : k % 6 < (Ms o).1
      · rw [if_pos ((nI_ltI (by omega) (by omega)).mpr c2), ((dz.2 t ht).2.2.1 _ h1).2 c1, ((dz.2 o ho).2.2.1 _ h2).2 c2]
        cases e1 : (Ms t).2.2.1 (k / 6) with
        | none =>
          rw [if_pos (show eI none = -1 from rfl)]
          exact put false 0 (Or.inl rfl) rfl (by unfold mt0; rw [e1]; rfl)
        | some w =>
          have w1 := ((kM.2.2.1 _ w e1).2).lt
          rw [if_neg (show ¬ eI (some w) = -1 from nneg (by omega))]
          cases e2 : (Ms o).2.2.1 (k % 6) with
          | none =>
            rw [if_pos (show eI none = -1 from rfl)]
            exact put false 0 (Or.inl rfl) rfl (by unfold mt0; rw [e1, e2]; rfl)
          | some w' =>
            have w2 := ((kN.2.2.1 _ w' e2).2).lt
            rw [if_neg (show ¬ eI (some w') = -1 from nneg (by omega))]
            exact put true 1 (Or.inr rfl) rfl (by unfold mt0; rw [e1, e2]; rfl)
      · rw [if_neg (by rw [nI_ltI (by omega) (by omega)]; exact c2)]
        exact put false 0 (Or.inl rfl) rfl (by
          unfold mt0
          cases e : (Ms o).2.2.1 (k % 6) with
          | none => simp
          | some w => exact absurd (isE _ kN _ (by rw [e]; rfl)) c2)
    · rw [if_neg (by rw [nI_ltI (by omega) (by omega)]; exact c1)]
      exact put false 0 (Or.inl rfl) rfl (by
        unfold mt0
        cases e : (Ms t).2.2.1 (k / 6) with
        | none => rfl
        | some w => exact absurd (isE _ kM _ (by rw [e]; rfl)) c1)
