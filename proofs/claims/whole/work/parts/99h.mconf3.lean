/-! The reference: a pair comes. -/
def fS (S : Nat → Bool) : Nat × Nat → Bool := fun pq => S (6 * pq.1 + pq.2)
/-- it needn't come -/
def rjK (k c : zCf) : Prop := k.1 = c.1 ∧ (apt k = true ∨ k = c)
theorem rej_any {K : List zCf} {c : zCf} (h2 : ¬ 2 ≤ cntK K c.1) : rejC K c = true ↔ ∃ i, i < K.length ∧ rjK (kAt K i) c := by
  unfold rejC
  rw [Bool.or_eq_true, decide_eq_true_iff, List.any_eq_true]
  constructor
  · rintro (q | ⟨k, hk, q⟩)
    · exact absurd q h2
    · obtain ⟨i, hi, e⟩ := List.getElem_of_mem hk
      refine ⟨i, hi, ?_⟩
      have ek : kAt K i = k := by
        unfold kAt
        rw [List.getD_eq_getElem?_getD, List.getElem?_eq_getElem hi]
        exact e
      rw [ek]
      rw [Bool.and_eq_true, Bool.or_eq_true, decide_eq_true_iff, decide_eq_true_iff] at q
      exact q
  · rintro ⟨i, hi, q1, q2⟩
    refine Or.inr ⟨kAt K i, kAt_mem hi, ?_⟩
    rw [Bool.and_eq_true, Bool.or_eq_true, decide_eq_true_iff, decide_eq_true_iff]
    exact ⟨q1, q2⟩
/-- the search -/
theorem s_conf96 {h : zM} {m : Nat} {K : List zCf} {c : zCf} {b3 b4 b5 b6 b7 : Int32} (lay : MLay h m) (hl : K.length ≤ 72) (e32 : zI h m 32 = nI K.length) (cf : ∀ i, i < K.length → CF h m i (kAt K i)) (k6 : ∀ i, i < K.length → (kAt K i).1.1 < 6 ∧ (kAt K i).1.2 < 6) (kl : ∀ i, i < K.length → (kAt K i).2.1.length ≤ 300 ∧ (kAt K i).2.2.length ≤ 300) (s : SdR h m c) (h6 : c.1.1 < 6 ∧ c.1.2 < 6) :
    ((∃ i, i < K.length ∧ rjK (kAt K i) c) ∧ zm_X12_config 96 [some (.inr m), some (.inl (nI c.1.1)), some (.inl (nI c.1.2)), some (.inl b3), some (.inl b4), some (.inl b5), some (.inl b6), some (.inl b7), some (.inl (nI (sdC c))), some (.inl (nI 0)), none, none, none] [] h = some (0, 0, h)) ∨ ((¬ ∃ i, i < K.length ∧ rjK (kAt K i) c) ∧ zm_X12_config 96 [some (.inr m), some (.inl (nI c.1.1)), some (.inl (nI c.1.2)), some (.inl b3), some (.inl b4), some (.inl b5), some (.inl b6), some (.inl b7), some (.inl (nI (sdC c))), some (.inl (nI 0)), none, none, none] [] h = zm_X12_config 96 [some (.inr m), some (.inl (nI c.1.1)), some (.inl (nI c.1.2)), some (.inl b3), some (.inl b4), some (.inl b5), some (.inl b6), some (.inl b7), some (.inl (nI (sdC c))), some (.inl (nI K.length)), none, none, none] [] h) := by
  have ml := (LOk.mo s).2
  have sdc := sdC_le c
  refine zlq (P := fun i z => z = h ∧ ∀ j, j < i → ¬ rjK (kAt K j) c) (g := fun i z => zm_X12_config 96 [some (.inr m), some (.inl (nI c.1.1)), some (.inl (nI c.1.2)), some (.inl b3), some (.inl b4), some (.inl b5), some (.inl b6), some (.inl b7), some (.inl (nI (sdC c))), some (.inl (nI i)), none, none, none] [] z) (n := K.length) (Q := fun y => ((∃ i, i < K.length ∧ rjK (kAt K i) c) ∧ y = some (0, 0, h)) ∨ ((¬ ∃ i, i < K.length ∧ rjK (kAt K i) c) ∧ y = zm_X12_config 96 [some (.inr m), some (.inl (nI c.1.1)), some (.inl (nI c.1.2)), some (.inl b3), some (.inl b4), some (.inl b5), some (.inl b6), some (.inl b7), some (.inl (nI (sdC c))), some (.inl (nI K.length)), none, none, none] [] h)) ?_ ?_ 0 h (Nat.zero_le _) ⟨rfl, fun j hj => absurd hj (Nat.not_lt_zero _)⟩
  · rintro i z hi ⟨rfl, hj⟩
    obtain ⟨d1, d2, d3, d4, d5⟩ := cf i hi
    have ki := k6 i hi
    have sdk := sdC_le (kAt K i)
    have next : ¬ rjK (kAt K i) c → ∀ j, j < i + 1 → ¬ rjK (kAt K j) c := fun e j hj2 => by
      by_cases q : j = i
      · rw [q]; exact e
      · exact hj j (by omega)
    rw [e_X12_config_96, mi32 lay, Option.bind_some, e32, if_pos ((nI_ltI (by omega) (by omega)).mpr hi), mF33 lay, Option.bind_some, mr33 lay (by omega), Option.bind_some, d1, nI_1]
    by_cases c1 : (kAt K i).1.1 = c.1.1
    · rw [if_pos (by rw [c1]), mF34 lay, Option.bind_some, mr34 lay (by omega), Option.bind_some, d2]
      by_cases c2 : (kAt K i).1.2 = c.1.2
      · have hp : (kAt K i).1 = c.1 := Prod.ext c1 c2
        rw [if_pos (by rw [c2]), mF35 lay, Option.bind_some, mr35 lay (by omega), Option.bind_some, d3]
        by_cases c3 : sdC (kAt K i) = 3
        · left
          left
          rw [if_pos (by rw [c3]; rfl)]
          exact ⟨⟨i, hi, hp, Or.inl (sdC_3.mp c3)⟩, rfl⟩
        · rw [if_neg (by rw [n3, nI_eq (by omega) (by omega)]; exact c3)]
          have hna : ¬ apt (kAt K i) = true := fun w => c3 (sdC_3.mpr w)
          have eqv := sd_eq hp hna
          have nrj : ¬ (kAt K i = c) → ¬ rjK (kAt K i) c := fun e w => w.2.elim hna e
          -- flag 0
          have no : ∀ a10 : Int32, zm_X12_config 215 [some (.inr m), some (.inl (nI c.1.1)), some (.inl (nI c.1.2)), some (.inl b3), some (.inl b4), some (.inl b5), some (.inl b6), some (.inl b7), some (.inl (nI (sdC c))), some (.inl (nI i)), some (.inl a10), some (.inl (0 : Int32)), some (.inl (0 : Int32))] [] z = zm_X12_config 96 [some (.inr m), some (.inl (nI c.1.1)), some (.inl (nI c.1.2)), some (.inl b3), some (.inl b4), some (.inl b5), some (.inl b6), some (.inl b7), some (.inl (nI (sdC c))), some (.inl (nI (i + 1))), none, none, none] [] z := fun a10 => by
            rw [e_X12_config_215, if_pos rfl, if_pos rfl, nI_1]
          have yes := fun e2 => s_conf215 (b1 := nI c.1.1) (b2 := nI c.1.2) (b3 := b3) (b4 := b4) (b5 := b5) (b6 := b6) (b7 := b7) lay (show i < 72 by omega) (cf i hi) s e2
          have fin : ∀ (a10 : Int32), a10 = nI (moC c).length → ∀ y, y = (if nI (sdC (kAt K i)) = nI (sdC c) then (if nI (moC (kAt K i)).length = a10 then zm_X12_config 215 [some (.inr m), some (.inl (nI c.1.1)), some (.inl (nI c.1.2)), some (.inl b3), some (.inl b4), some (.inl b5), some (.inl b6), some (.inl b7), some (.inl (nI (sdC c))), some (.inl (nI i)), some (.inl a10), some (.inl (1 : Int32)), some (.inl (0 : Int32))] [] z else zm_X12_config 215 [some (.inr m), some (.inl (nI c.1.1)), some (.inl (nI c.1.2)), some (.inl b3), some (.inl b4), some (.inl b5), some (.inl b6), some (.inl b7), some (.inl (nI (sdC c))), some (.inl (nI i)), some (.inl a10), some (.inl (0 : Int32)), some (.inl (0 : Int32))] [] z) else zm_X12_config 215 [some (.inr m), some (.inl (nI c.1.1)), some (.inl (nI c.1.2)), some (.inl b3), some (.inl b4), some (.inl b5), some (.inl b6), some (.inl b7), some (.inl (nI (sdC c))), some (.inl (nI i)), some (.inl a10), some (.inl (0 : Int32)), some (.inl (0 : Int32))] [] z) →
              (((∃ i, i < K.length ∧ rjK (kAt K i) c) ∧ y = some (0, 0, z)) ∨ ((¬ ∃ i, i < K.length ∧ rjK (kAt K i) c) ∧ y = zm_X12_config 96 [some (.inr m), some (.inl (nI c.1.1)), some (.inl (nI c.1.2)), some (.inl b3), some (.inl b4), some (.inl b5), some (.inl b6), some (.inl b7), some (.inl (nI (sdC c))), some (.inl (nI K.length)), none, none, none] [] z)) ∨ ∃ h', y = zm_X12_config 96 [some (.inr m), some (.inl (nI c.1.1)), some (.inl (nI c.1.2)), some (.inl b3), some (.inl b4), some (.inl b5), some (.inl b6), some (.inl b7), some (.inl (nI (sdC c))), some (.inl (nI (i + 1))), none, none, none] [] h' ∧ h' = z ∧ ∀ j, j < i + 1 → ¬ rjK (kAt K j) c := by
            rintro a10 rfl y rfl
            have mk := d4
            have mkl : (moC (kAt K i)).length < 2 ^ 31 := by
              have := moC_len (kAt K i) (kl i hi).1 (kl i hi).2
              omega
            by_cases f1 : sdC (kAt K i) = sdC c
            · rw [if_pos (by rw [f1])]
              by_cases f2 : (moC (kAt K i)).length = (moC c).length
              · rw [if_pos (by rw [f2]), show ((0 : Int32)) = nI 0 from rfl, yes f2]
                by_cases f3 : moC (kAt K i) = moC c
                · rw [if_pos f3]
                  exact Or.inl (Or.inl ⟨⟨i, hi, hp, Or.inr (eqv.mpr ⟨f1, f3⟩)⟩, rfl⟩)
                · rw [if_neg f3]
                  exact Or.inr ⟨z, rfl, rfl, next (nrj fun e => f3 (eqv.mp e).2)⟩
              · rw [if_neg (by rw [nI_eq mkl (by omega)]; exact f2), no]
                exact Or.inr ⟨z, rfl, rfl, next (nrj fun e => f2 (by rw [e]))⟩
            · rw [if_neg (by rw [nI_eq (by omega) (by omega)]; exact f1), no]
              exact Or.inr ⟨z, rfl, rfl, next (nrj fun e => f1 (by rw [e]))⟩
          obtain ⟨u, v, l, lu, lv, ou, ov, q1, q2, q3⟩ := id s
          have hle := lcp_le u v
          obtain ⟨l1, l2, l3, l4, l5⟩ := l
          by_cases s1 : sdC c = 1
          · rw [if_pos (by rw [s1]; rfl)]
            simp only [mi45 lay, mi47 lay, Option.bind_some, l1, l5, mF35 lay, mr35 lay (show i < 160 by omega), d3, mF36 lay, mr36 lay (show i < 160 by omega), d4]
            exact fin (nI u.length - nI (lcp u v)) (by rw [pk_sub hle.1, q1 s1, List.length_drop]) _ rfl
          · rw [if_neg (by rw [n1, nI_eq (by omega) (by omega)]; exact s1)]
            by_cases s2 : sdC c = 2
            · rw [if_pos (by rw [s2]; rfl)]
              simp only [mi46 lay, mi47 lay, Option.bind_some, l2, l5, mF35 lay, mr35 lay (show i < 160 by omega), d3, mF36 lay, mr36 lay (show i < 160 by omega), d4]
              exact fin (nI v.length - nI (lcp u v)) (by rw [pk_sub hle.2, q2 s2, List.length_drop]) _ rfl
            · rw [if_neg (by rw [n2, nI_eq (by omega) (by omega)]; exact s2)]
              simp only [Option.bind_some, mF35 lay, mr35 lay (show i < 160 by omega), d3, mF36 lay, mr36 lay (show i < 160 by omega), d4]
              exact fin 0 (by rw [q3 s1 s2]; rfl) _ rfl
      · right
        rw [if_neg (by rw [nI_eq (by omega) (by omega)]; exact c2)]
        exact ⟨z, rfl, rfl, next (fun w => c2 (by rw [w.1]))⟩
    · right
      rw [if_neg (by rw [nI_eq (by omega) (by omega)]; exact c1)]
      exact ⟨z, rfl, rfl, next (fun w => c1 (by rw [w.1]))⟩
  · rintro z ⟨rfl, hj⟩
    right
    exact ⟨fun ⟨i, hi, w⟩ => hj i hi w, rfl⟩
/-- it is written behind the others -/
theorem s_confPut {h : zM} {m : Nat} {S : Nat → Bool} {K : List zCf} {c : zCf} {b3 pa l r : Int32} (lay : MLay h m) (hl : K.length ≤ 71) (ks : KS h m S K) (s : SdR h m c) (h6 : c.1.1 < 6 ∧ c.1.2 < 6) (hml : ∀ i, i < K.length → (moC (kAt K i)).length ≤ 300) :
    ∃ h', zm_X12_config 96 [some (.inr m), some (.inl (nI c.1.1)), some (.inl (nI c.1.2)), some (.inl b3), some (.inl pa), some (.inl l), some (.inl r), some (.inl (nI (6 * c.1.1 + c.1.2))), some (.inl (nI (sdC c))), some (.inl (nI K.length)), none, none, none] [] h = some (0, 0, h') ∧ zOf m [29, 30, 31, 32, 33, 34, 35, 36, 38] [32] h h' ∧ KS h' m S (K ++ [c]) ∧ (∀ i, i < K.length → zI h' (m + 34) i = zI h (m + 34) i ∧ zI h' (m + 35) i = zI h (m + 35) i ∧ zI h' (m + 36) i = zI h (m + 36) i) ∧ zI h' (m + 34) K.length = pa ∧ zI h' (m + 35) K.length = l ∧ zI h' (m + 36) K.length = r := by
  obtain ⟨k1, k2, k3, k4⟩ := ks
  have ml := LOk.mo s
  have sdc := sdC_le c
  rw [e_X12_config_96, mi32 lay, Option.bind_some, k1, if_neg (by rw [nI_ltI (by omega) (by omega)]; omega), Option.bind_some]
  -- four cells
  have head : ((zgF h m 12 33).bind fun r10 => (zis h r10 (nI K.length) (nI c.1.1)).bind fun h1 => (zgF h1 m 12 34).bind fun r11 => (zis h1 r11 (nI K.length) (nI c.1.2)).bind fun h2 => (zgF h2 m 12 35).bind fun r12 => (zis h2 r12 (nI K.length) (nI (sdC c))).bind fun h3 => (zgF h3 m 12 36).bind fun r13 =>
      if nI (sdC c) = (1 : Int32) then (zgI h3 m 12 45).bind fun v16 => (zgI h3 m 12 47).bind fun v17 => (zis h3 r13 (nI K.length) (v16 - v17)).bind fun h4 => zm_X12_config 380 [some (.inr m), some (.inl (nI c.1.1)), some (.inl (nI c.1.2)), some (.inl b3), some (.inl pa), some (.inl l), some (.inl r), some (.inl (nI (6 * c.1.1 + c.1.2))), some (.inl (nI (sdC c))), some (.inl (nI K.length)), some (.inl (0 : Int32)), none, none] [] h4
      else if nI (sdC c) = (2 : Int32) then (zgI h3 m 12 46).bind fun v18 => (zgI h3 m 12 47).bind fun v19 => (zis h3 r13 (nI K.length) (v18 - v19)).bind fun h5 => zm_X12_config 380 [some (.inr m), some (.inl (nI c.1.1)), some (.inl (nI c.1.2)), some (.inl b3), some (.inl pa), some (.inl l), some (.inl r), some (.inl (nI (6 * c.1.1 + c.1.2))), some (.inl (nI (sdC c))), some (.inl (nI K.length)), some (.inl (0 : Int32)), none, none] [] h5
      else (zis h3 r13 (nI K.length) (0 : Int32)).bind fun h6 => zm_X12_config 380 [some (.inr m), some (.inl (nI c.1.1)), some (.inl (nI c.1.2)), some (.inl b3), some (.inl pa), some (.inl l), some (.inl r), some (.inl (nI (6 * c.1.1 + c.1.2))), some (.inl (nI (sdC c))), some (.inl (nI K.length)), some (.inl (0 : Int32)), none, none] [] h6) =
      zm_X12_config 380 [some (.inr m), some (.inl (nI c.1.1)), some (.inl (nI c.1.2)), some (.inl b3), some (.inl pa), some (.inl l), some (.inl r), some (.inl (nI (6 * c.1.1 + c.1.2))), some (.inl (nI (sdC c))), some (.inl (nI K.length)), some (.inl (0 : Int32)), none, none] [] (zsI (zsI (zsI (zsI h (m + 29) K.length (nI c.1.1)) (m + 30) K.length (nI c.1.2)) (m + 31) K.length (nI (sdC c))) (m + 32) K.length (nI (moC c).length)) := by
    obtain ⟨u, v, ⟨l1, l2, l3, l4, l5⟩, lu, lv, ou, ov, q1, q2, q3⟩ := s
    have hle := lcp_le u v
    have lA : MLay (zsI h (m + 29) K.length (nI c.1.1)) m := lay.sI
    have lB : MLay (zsI (zsI h (m + 29) K.length (nI c.1.1)) (m + 30) K.length (nI c.1.2)) m := lA.sI
    have lC : MLay (zsI (zsI (zsI h (m + 29) K.length (nI c.1.1)) (m + 30) K.length (nI c.1.2)) (m + 31) K.length (nI (sdC c))) m := lB.sI
    have fI : ∀ j, zI (zsI (zsI (zsI h (m + 29) K.length (nI c.1.1)) (m + 30) K.length (nI c.1.2)) (m + 31) K.length (nI (sdC c))) m j = zI h m j := fun j => (zI_sI_a (by omega)).trans ((zI_sI_a (by omega)).trans (zI_sI_a (by omega)))
    simp only [mF33 lay, mw33 lay (show K.length < 160 by omega), mF34 lA, mw34 lA (show K.length < 160 by omega), mF35 lB, mw35 lB (show K.length < 160 by omega), mF36 lC, Option.bind_some]
    by_cases s1 : sdC c = 1
    · rw [if_pos (by rw [s1]; rfl), mi45 lC, Option.bind_some, fI, l1, mi47 lC, Option.bind_some, fI, l5, pk_sub hle.1, mw36 lC (by omega), Option.bind_some, q1 s1, List.length_drop]
    · rw [if_neg (by rw [n1, nI_eq (by omega) (by omega)]; exact s1)]
      by_cases s2 : sdC c = 2
      · rw [if_pos (by rw [s2]; rfl), mi46 lC, Option.bind_some, fI, l2, mi47 lC, Option.bind_some, fI, l5, pk_sub hle.2, mw36 lC (by omega), Option.bind_some, q2 s2, List.length_drop]
      · rw [if_neg (by rw [n2, nI_eq (by omega) (by omega)]; exact s2), mw36 lC (by omega), Option.bind_some, q3 s1 s2]
        rfl
  rw [head]
  generalize hz1 : zsI (zsI (zsI (zsI h (m + 29) K.length (nI c.1.1)) (m + 30) K.length (nI c.1.2)) (m + 31) K.length (nI (sdC c))) (m + 32) K.length (nI (moC c).length) = z1
  have o1 : zOf m [29, 30, 31, 32] [] h z1 := by
    rw [← hz1]
    exact (((zOf_sI (by decide) (by decide)).tr (zOf_sI (by decide) (by decide))).tr (zOf_sI (by decide) (by decide))).tr (zOf_sI (by decide) (by decide))
  have v29 : ∀ i, zI z1 (m + 29) i = if i = K.length then nI c.1.1 else zI h (m + 29) i := fun i => by
    rw [← hz1, zI_sI_a (by omega), zI_sI_a (by omega), zI_sI_a (by omega)]
    by_cases e : i = K.length
    · rw [if_pos e, e, zI_sI]
    · rw [if_neg e, zI_sI_k e]
  have v30 : ∀ i, zI z1 (m + 30) i = if i = K.length then nI c.1.2 else zI h (m + 30) i := fun i => by
    rw [← hz1, zI_sI_a (by omega), zI_sI_a (by omega)]
    by_cases e : i = K.length
    · rw [if_pos e, e, zI_sI]
    · rw [if_neg e, zI_sI_k e, zI_sI_a (by omega)]
  have v31 : ∀ i, zI z1 (m + 31) i = if i = K.length then nI (sdC c) else zI h (m + 31) i := fun i => by
    rw [← hz1, zI_sI_a (by omega)]
    by_cases e : i = K.length
    · rw [if_pos e, e, zI_sI]
    · rw [if_neg e, zI_sI_k e, zI_sI_a (by omega), zI_sI_a (by omega)]
  have v32 : ∀ i, zI z1 (m + 32) i = if i = K.length then nI (moC c).length else zI h (m + 32) i := fun i => by
    rw [← hz1]
    by_cases e : i = K.length
    · rw [if_pos e, e, zI_sI]
    · rw [if_neg e, zI_sI_k e, zI_sI_a (by omega), zI_sI_a (by omega), zI_sI_a (by omega)]
  have lay1 := o1.lay lay
  have s1 := s.o o1 (by decide) (by decide)
  have cp := zwr (g := fun i z => zm_X12_config 380 [some (.inr m), some (.inl (nI c.1.1)), some (.inl (nI c.1.2)), some (.inl b3), some (.inl pa), some (.inl l), some (.inl r), some (.inl (nI (6 * c.1.1 + c.1.2))), some (.inl (nI (sdC c))), some (.inl (nI K.length)), some (.inl (nI i)), none, none] [] z) (h := z1) (a := m + 33) (p := 600 * K.length) (n := (moC c).length) (f := fun j => (moC c).getD j 0) (fun i hi => by
    have oz : zOf m [33] [] z1 (zWr z1 (m + 33) (600 * K.length) i fun j => (moC c).getD j 0) := zOf_Wr (by decide) (by decide)
    have layz := oz.lay lay1
    have sz := s1.o oz (by decide) (by decide)
    have e32 : zI (zWr z1 (m + 33) (600 * K.length) i fun j => (moC c).getD j 0) (m + 32) K.length = nI (moC c).length := (zI_Wr_a (by omega)).trans ((v32 _).trans (if_pos rfl))
    have by1 := ml.1.byte hi
    rw [e_X12_config_380, mF36 layz, Option.bind_some, mr36 layz (by omega), Option.bind_some, e32, if_pos ((nI_ltI (by omega) (by omega)).mpr hi), mF37 layz, Option.bind_some, sz.rd layz hi, n600, pk_mul, nI_add, mw37 layz (by omega), Option.bind_some, by1, by1, nI_1])
  refine Exists.elim (show ∃ z, z = zWr z1 (m + 33) (600 * K.length) (moC c).length fun j => (moC c).getD j 0 from ⟨_, rfl⟩) fun z2 hz2 => ?_
  rw [← hz2] at cp
  have o2 : zOf m [33] [] z1 z2 := by rw [hz2]; exact zOf_Wr (by decide) (by decide)
  have lay2 := o2.lay lay1
  have w33 : Rw z2 (m + 33) (600 * K.length) (moC c) := fun j hj => by rw [hz2, zI_Wr_at hj]
  have w33o : ∀ j, ¬ (600 * K.length ≤ j ∧ j < 600 * K.length + (moC c).length) → zI z2 (m + 33) j = zI h (m + 33) j := fun j hj => by rw [hz2, zI_Wr_out hj]; exact o1.C (by decide) (by decide) _
  have e32 : zI z2 (m + 32) K.length = nI (moC c).length := (o2.C (by decide) (by decide) _).trans ((v32 _).trans (if_pos rfl))
  have e38 : zI z2 (m + 38) (6 * c.1.1 + c.1.2) = nI (cntK K c.1) := (o2.C (by decide) (by decide) _).trans ((o1.C (by decide) (by decide) _).trans (k3 _ _ h6.1 h6.2))
  have lA : MLay (zsI z2 (m + 34) K.length pa) m := lay2.sI
  have lB : MLay (zsI (zsI z2 (m + 34) K.length pa) (m + 35) K.length l) m := lA.sI
  have lC : MLay (zsI (zsI (zsI z2 (m + 34) K.length pa) (m + 35) K.length l) (m + 36) K.length r) m := lB.sI
  have eC : zI (zsI (zsI (zsI z2 (m + 34) K.length pa) (m + 35) K.length l) (m + 36) K.length r) (m + 38) (6 * c.1.1 + c.1.2) = nI (cntK K c.1) := (zI_sI_a (by omega)).trans ((zI_sI_a (by omega)).trans ((zI_sI_a (by omega)).trans e38))
  have lD : MLay (zsI (zsI (zsI (zsI z2 (m + 34) K.length pa) (m + 35) K.length l) (m + 36) K.length r) (m + 38) (6 * c.1.1 + c.1.2) (nI (cntK K c.1 + 1))) m := lC.sI
  have f32 : zI (zsI (zsI (zsI (zsI z2 (m + 34) K.length pa) (m + 35) K.length l) (m + 36) K.length r) (m + 38) (6 * c.1.1 + c.1.2) (nI (cntK K c.1 + 1))) m 32 = nI K.length := (zI_sI_a (by omega)).trans ((zI_sI_a (by omega)).trans ((zI_sI_a (by omega)).trans ((zI_sI_a (by omega)).trans ((o2.J (by decide)).trans ((o1.J (by decide)).trans k1)))))
  have o3 : zOf m [29, 30, 31, 32, 33, 34, 35, 36, 38] [32] z2 (zsI (zsI (zsI (zsI (zsI z2 (m + 34) K.length pa) (m + 35) K.length l) (m + 36) K.length r) (m + 38) (6 * c.1.1 + c.1.2) (nI (cntK K c.1 + 1))) m 32 (nI (K.length + 1))) := ((((zOf_sI (by decide) (by decide)).tr (zOf_sI (by decide) (by decide))).tr (zOf_sI (by decide) (by decide))).tr (zOf_sI (by decide) (by decide))).tr (zOf_pI (by decide))
  have i6 : 6 * c.1.1 + c.1.2 < 36 := by omega
  refine ⟨_, ?_, ((o1.wide (by decide) (by decide)).tr (o2.wide (by decide) (by decide))).tr o3, ?_, ?_, ?_, ?_, ?_⟩
  · rw [n0]
    refine Eq.trans cp ?_
    rw [e_X12_config_380, mF36 lay2, Option.bind_some, mr36 lay2 (by omega), Option.bind_some, e32, if_neg (by rw [nI_ltI (by omega) (by omega)]; omega), mF38 lay2, Option.bind_some, mw38 lay2 (by omega), Option.bind_some, mF39 lA, Option.bind_some, mw39 lA (by omega), Option.bind_some, mF40 lB, Option.bind_some, mw40 lB (by omega), Option.bind_some, mF42 lC, Option.bind_some, mr42 lC i6, Option.bind_some, eC, nI_1, mw42 lC i6, Option.bind_some, mi32 lD, Option.bind_some, f32, nI_1, mp32 lD, Option.bind_some]
    rfl
  · generalize hz5 : zsI (zsI (zsI (zsI (zsI z2 (m + 34) K.length pa) (m + 35) K.length l) (m + 36) K.length r) (m + 38) (6 * c.1.1 + c.1.2) (nI (cntK K c.1 + 1))) m 32 (nI (K.length + 1)) = z5
    have low : ∀ a j, (a = 29 ∨ a = 30 ∨ a = 31 ∨ a = 32 ∨ a = 33 ∨ a = 37) → zI z5 (m + a) j = zI z2 (m + a) j := fun a j ha => by
      rw [← hz5, zI_sI_a (by omega), zI_sI_a (by omega), zI_sI_a (by omega), zI_sI_a (by omega), zI_sI_a (by omega)]
    have mid : ∀ a j, (a = 29 ∨ a = 30 ∨ a = 31 ∨ a = 32) → zI z2 (m + a) j = zI z1 (m + a) j := fun a j ha => by
      rw [hz2, zI_Wr_a (by omega)]
    refine ⟨by rw [← hz5, zI_sI, List.length_append]; rfl, fun i hi => ?_, fun p q hp hq => ?_, fun k hk => ?_⟩
    · rw [List.length_append, List.length_singleton] at hi
      by_cases e : i = K.length
      · have ek : kAt (K ++ [c]) i = c := by
          rw [e]
          exact kAt_r (K := K) (t := [c]) (i := 0)
        rw [ek]
        refine ⟨?_, ?_, ?_, ?_, ?_⟩
        · rw [low 29 _ (by omega), mid 29 _ (by omega), v29, if_pos e]
        · rw [low 30 _ (by omega), mid 30 _ (by omega), v30, if_pos e]
        · rw [low 31 _ (by omega), mid 31 _ (by omega), v31, if_pos e]
        · rw [low 32 _ (by omega), mid 32 _ (by omega), v32, if_pos e]
        · rw [e]
          exact w33.of (fun j _ => low 33 _ (by omega))
      · have hi2 : i < K.length := by omega
        obtain ⟨d1, d2, d3, d4, d5⟩ := k2 i hi2
        rw [kAt_l hi2]
        refine ⟨?_, ?_, ?_, ?_, ?_⟩
        · rw [low 29 _ (by omega), mid 29 _ (by omega), v29, if_neg e]; exact d1
        · rw [low 30 _ (by omega), mid 30 _ (by omega), v30, if_neg e]; exact d2
        · rw [low 31 _ (by omega), mid 31 _ (by omega), v31, if_neg e]; exact d3
        · rw [low 32 _ (by omega), mid 32 _ (by omega), v32, if_neg e]; exact d4
        · refine d5.of (fun j hj => ?_)
          have hj6 : j < 600 := by have := hml i hi2; omega
          rw [low 33 _ (by omega), w33o _ (by omega)]
    · rw [← hz5, zI_sI_a (by omega), cntK_app]
      by_cases e : c.1 = (p, q)
      · rw [if_pos e, show 6 * p + q = 6 * c.1.1 + c.1.2 by rw [e], zI_sI, e]
      · have ne : 6 * p + q ≠ 6 * c.1.1 + c.1.2 := fun w => e (Prod.ext (by show c.1.1 = p; omega) (by show c.1.2 = q; omega))
        rw [if_neg e, zI_sI_k ne, zI_sI_a (by omega), zI_sI_a (by omega), zI_sI_a (by omega), o2.C (by decide) (by decide), o1.C (by decide) (by decide)]
        exact k3 p q hp hq
    · rw [low 37 _ (by omega), o2.C (by decide) (by decide), o1.C (by decide) (by decide)]
      exact k4 k hk
  · intro i hi
    refine ⟨?_, ?_, ?_⟩
    · rw [zI_sI_a (by omega), zI_sI_a (by omega), zI_sI_a (by omega), zI_sI_a (by omega), zI_sI_k (by omega), o2.C (by decide) (by decide), o1.C (by decide) (by decide)]
    · rw [zI_sI_a (by omega), zI_sI_a (by omega), zI_sI_a (by omega), zI_sI_k (by omega), zI_sI_a (by omega), o2.C (by decide) (by decide), o1.C (by decide) (by decide)]
    · rw [zI_sI_a (by omega), zI_sI_a (by omega), zI_sI_k (by omega), zI_sI_a (by omega), zI_sI_a (by omega), o2.C (by decide) (by decide), o1.C (by decide) (by decide)]
  · rw [zI_sI_a (by omega), zI_sI_a (by omega), zI_sI_a (by omega), zI_sI_a (by omega), zI_sI]
  · rw [zI_sI_a (by omega), zI_sI_a (by omega), zI_sI_a (by omega), zI_sI]
  · rw [zI_sI_a (by omega), zI_sI_a (by omega), zI_sI]
theorem cntK_le {K : List zCf} {pq : Nat × Nat} : cntK K pq ≤ K.length := List.length_filter_le _ _
/-- a pair comes, or needn't -/
theorem s_config {h : zM} {m : Nat} {S : Nat → Bool} {K : List zCf} {c : zCf} {br pa l r : Int32} (lay : MLay h m) (hl : K.length ≤ 72) (hroom : addC (fS S) K c ≠ K → K.length ≤ 71) (ks : KS h m S K) (two : cntK K c.1 ≤ 2) (cn : CN h m br c) (h6 : c.1.1 < 6 ∧ c.1.2 < 6) (k6 : ∀ i, i < K.length → (kAt K i).1.1 < 6 ∧ (kAt K i).1.2 < 6) (kl : ∀ i, i < K.length → (kAt K i).2.1.length ≤ 300 ∧ (kAt K i).2.2.length ≤ 300) :
    ∃ h', zf nX12_config [.inr m, .inl (nI c.1.1), .inl (nI c.1.2), .inl br, .inl pa, .inl l, .inl r] h = some (0, 0, h') ∧ zOf m [29, 30, 31, 32, 33, 34, 35, 36, 38] [32] h h' ∧ KS h' m S (addC (fS S) K c) ∧ (∀ i, i < K.length → zI h' (m + 34) i = zI h (m + 34) i ∧ zI h' (m + 35) i = zI h (m + 35) i ∧ zI h' (m + 36) i = zI h (m + 36) i) ∧ (addC (fS S) K c ≠ K → zI h' (m + 34) K.length = pa ∧ zI h' (m + 35) K.length = l ∧ zI h' (m + 36) K.length = r) := by
  have i6 : 6 * c.1.1 + c.1.2 < 36 := by omega
  have hml : ∀ i, i < K.length → (moC (kAt K i)).length ≤ 300 := fun i hi => moC_len _ (kl i hi).1 (kl i hi).2
  rw [e_X12_config]
  simp only [mF41 lay, mF42 lay, Option.bind_some, n6, pk_mul, nI_add, mr41 lay i6, mr42 lay i6, ks.2.2.2 _ i6, ks.2.2.1 _ _ h6.1 h6.2]
  have stay : addC (fS S) K c = K → ∃ h', some ((0 : Int32), (0 : Nat), h) = some (0, 0, h') ∧ zOf m [29, 30, 31, 32, 33, 34, 35, 36, 38] [32] h h' ∧ KS h' m S (addC (fS S) K c) ∧ (∀ i, i < K.length → zI h' (m + 34) i = zI h (m + 34) i ∧ zI h' (m + 35) i = zI h (m + 35) i ∧ zI h' (m + 36) i = zI h (m + 36) i) ∧ (addC (fS S) K c ≠ K → zI h' (m + 34) K.length = pa ∧ zI h' (m + 35) K.length = l ∧ zI h' (m + 36) K.length = r) := fun e => by
    rw [e]
    exact ⟨h, rfl, zOf.rf, ks, fun i _ => ⟨rfl, rfl, rfl⟩, fun w => absurd rfl w⟩
  cases eF : S (6 * c.1.1 + c.1.2) with
  | false =>
    rw [if_pos (show bI false = 0 from rfl)]
    exact stay (if_neg (fun w => by have := w.1; unfold fS at this; rw [eF] at this; cases this))
  | true =>
    rw [if_neg (show ¬ bI true = 0 by decide)]
    have hF : fS S c.1 = true := eF
    by_cases c2 : cntK K c.1 = 2
    · rw [if_pos (by rw [show cntK K (c.1.1, c.1.2) = cntK K c.1 from rfl, c2]; rfl)]
      refine stay (if_neg (fun w => ?_))
      have : rejC K c = true := rej_2 (by omega)
      rw [this] at w
      cases w.2
    · have hc2 : ¬ 2 ≤ cntK K c.1 := by omega
      have cl := cntK_le (K := K) (pq := c.1)
      rw [if_neg (by rw [show cntK K (c.1.1, c.1.2) = cntK K c.1 from rfl, n2, nI_eq (by omega) (by omega)]; exact c2)]
      have ra := rej_any (K := K) (c := c) hc2
      have go : ∃ h', zm_X12_config 96 [some (.inr m), some (.inl (nI c.1.1)), some (.inl (nI c.1.2)), some (.inl br), some (.inl pa), some (.inl l), some (.inl r), some (.inl (nI (6 * c.1.1 + c.1.2))), some (.inl (nI (sdC c))), some (.inl (nI 0)), none, none, none] [] h = some (0, 0, h') ∧ zOf m [29, 30, 31, 32, 33, 34, 35, 36, 38] [32] h h' ∧ KS h' m S (addC (fS S) K c) ∧ (∀ i, i < K.length → zI h' (m + 34) i = zI h (m + 34) i ∧ zI h' (m + 35) i = zI h (m + 35) i ∧ zI h' (m + 36) i = zI h (m + 36) i) ∧ (addC (fS S) K c ≠ K → zI h' (m + 34) K.length = pa ∧ zI h' (m + 35) K.length = l ∧ zI h' (m + 36) K.length = r) := by
        rcases s_conf96 (b3 := br) (b4 := pa) (b5 := l) (b6 := r) (b7 := nI (6 * c.1.1 + c.1.2)) lay hl ks.1 ks.2.1 k6 kl cn.sd h6 with ⟨q, e⟩ | ⟨q, e⟩
        · rw [e]
          exact stay (if_neg (fun w => by rw [ra.mpr q] at w; cases w.2))
        · have ea : addC (fS S) K c = K ++ [c] := if_pos ⟨hF, by
            cases er : rejC K c with
            | false => rfl
            | true => exact absurd (ra.mp er) q⟩
          have h71 : K.length ≤ 71 := hroom (by rw [ea]; intro w; have := congrArg List.length w; rw [List.length_append, List.length_singleton] at this; omega)
          obtain ⟨h', p1, p2, p3, p4, p5⟩ := s_confPut (b3 := br) (pa := pa) (l := l) (r := r) lay h71 ks cn.sd h6 hml
          rw [ea]
          exact ⟨h', e.trans p1, p2, p3, p4, fun _ => p5⟩
      obtain ⟨u, v, ⟨l1, l2, l3, l4, l5⟩, lu, lv, ou, ov, q⟩ := id cn
      have hle := lcp_le u v
      simp only [mi45 lay, mi46 lay, mi47 lay, Option.bind_some, l1, l2, l5]
      rcases q with ⟨rfl, ha⟩ | ⟨rfl, e⟩
      · rw [if_neg (by decide)]
        rw [sdC_3.mpr ha] at go
        exact go
      · rw [if_pos rfl]
        obtain ⟨c1, c2', c3, c4⟩ := cut_sd e
        by_cases a : lcp u v < u.length
        · rw [if_pos ((nI_ltI (by omega) (by omega)).mpr a)]
          by_cases b : lcp u v < v.length
          · rw [if_pos ((nI_ltI (by omega) (by omega)).mpr b)]
            rw [c1 ⟨a, b⟩] at go
            exact go
          · rw [if_neg (by rw [nI_ltI (by omega) (by omega)]; exact b), if_pos ((nI_ltI (by omega) (by omega)).mpr a)]
            rw [(c2' a b).1] at go
            exact go
        · rw [if_neg (by rw [nI_ltI (by omega) (by omega)]; exact a), if_neg (by rw [nI_ltI (by omega) (by omega)]; exact a)]
          by_cases b : lcp u v < v.length
          · rw [if_pos ((nI_ltI (by omega) (by omega)).mpr b)]
            rw [(c3 a b).1] at go
            exact go
          · rw [if_neg (by rw [nI_ltI (by omega) (by omega)]; exact b)]
            rw [(c4 a b).1] at go
            exact go
