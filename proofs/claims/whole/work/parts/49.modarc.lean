/-! The reference: arcs. -/
theorem s_mcomes {h : zM} {m t : Nat} {Ms : Nat → zMa} (d : MMs h m Ms) (hk : ∀ t, t < 2 → MaOk (Ms t)) (ht : t < 2) (hL : (Ms t).2.2.2.length < 30) (x : zArc) :
    ∃ h', zf nX12_comes [.inr m, .inl (nI t), .inl (nI x.1), .inl (nI x.2.1), .inl (nI x.2.2.1), .inl (nI x.2.2.2)] h = some (0, 0, h') ∧ zFr (m + 1) (m + 9) h h' ∧ MMs h' m (va_up Ms t ((Ms t).1, (Ms t).2.1, (Ms t).2.2.1, (Ms t).2.2.2 ++ [x])) := by
  obtain ⟨a1, a2, a3, a4⟩ := d.2 t ht
  have l := d.1
  rw [e_X12_comes, mF3 l, Option.bind_some, d.arcs ht, Option.bind_some]
  generalize hLe : (Ms t).2.2.2.length = L at *
  have hi : 30 * t + L < 60 := by omega
  rw [n30, pk_mul, nI_add, mF4 l, Option.bind_some, mw4 l hi, Option.bind_some, mF5 l.sI, Option.bind_some, mw5 l.sI hi, Option.bind_some, mF6 l.sI.sI, Option.bind_some, mw6 l.sI.sI hi, Option.bind_some, mF7 l.sI.sI.sI, Option.bind_some, mw7 l.sI.sI.sI hi, Option.bind_some, mF3 l.sI.sI.sI.sI, Option.bind_some, mr3 l.sI.sI.sI.sI ht, Option.bind_some]
  have e2 : zI (zsI (zsI (zsI (zsI h (m + 5) (30 * t + L) (nI x.1)) (m + 6) (30 * t + L) (nI x.2.1)) (m + 7) (30 * t + L) (nI x.2.2.1)) (m + 8) (30 * t + L) (nI x.2.2.2)) (m + 4) t = nI L := by
    rw [zI_sI_a (by omega), zI_sI_a (by omega), zI_sI_a (by omega), zI_sI_a (by omega)]
    exact a2
  rw [e2, nI_1, mw3 l.sI.sI.sI.sI ht, Option.bind_some]
  have f : zFr (m + 1) (m + 9) h (zsI (zsI (zsI (zsI (zsI h (m + 5) (30 * t + L) (nI x.1)) (m + 6) (30 * t + L) (nI x.2.1)) (m + 7) (30 * t + L) (nI x.2.2.1)) (m + 8) (30 * t + L) (nI x.2.2.2)) (m + 4) t (nI (L + 1))) :=
    ((((zFr_sI (by omega) (by omega)).tr (zFr_sI (by omega) (by omega))).tr (zFr_sI (by omega) (by omega))).tr (zFr_sI (by omega) (by omega))).tr (zFr_sI (by omega) (by omega))
  have v1 : ∀ b i, (b ≠ m + 4 ∧ b ≠ m + 5 ∧ b ≠ m + 6 ∧ b ≠ m + 7 ∧ b ≠ m + 8) → zI (zsI (zsI (zsI (zsI (zsI h (m + 5) (30 * t + L) (nI x.1)) (m + 6) (30 * t + L) (nI x.2.1)) (m + 7) (30 * t + L) (nI x.2.2.1)) (m + 8) (30 * t + L) (nI x.2.2.2)) (m + 4) t (nI (L + 1))) b i = zI h b i := by
    intro b i hb
    rw [zI_sI_a hb.1, zI_sI_a hb.2.2.2.2, zI_sI_a hb.2.2.2.1, zI_sI_a hb.2.2.1, zI_sI_a hb.2.1]
  have v5 : ∀ i, zI (zsI (zsI (zsI (zsI (zsI h (m + 5) (30 * t + L) (nI x.1)) (m + 6) (30 * t + L) (nI x.2.1)) (m + 7) (30 * t + L) (nI x.2.2.1)) (m + 8) (30 * t + L) (nI x.2.2.2)) (m + 4) t (nI (L + 1))) (m + 5) i = if i = 30 * t + L then nI x.1 else zI h (m + 5) i := by
    intro i
    rw [zI_sI_a (by omega), zI_sI_a (by omega), zI_sI_a (by omega), zI_sI_a (by omega)]
    split
    · rename_i q; rw [q, zI_sI]
    · rename_i q; rw [zI_sI_k q]
  have v6 : ∀ i, zI (zsI (zsI (zsI (zsI (zsI h (m + 5) (30 * t + L) (nI x.1)) (m + 6) (30 * t + L) (nI x.2.1)) (m + 7) (30 * t + L) (nI x.2.2.1)) (m + 8) (30 * t + L) (nI x.2.2.2)) (m + 4) t (nI (L + 1))) (m + 6) i = if i = 30 * t + L then nI x.2.1 else zI h (m + 6) i := by
    intro i
    rw [zI_sI_a (by omega), zI_sI_a (by omega), zI_sI_a (by omega)]
    split
    · rename_i q; rw [q, zI_sI]
    · rename_i q; rw [zI_sI_k q, zI_sI_a (by omega)]
  have v7 : ∀ i, zI (zsI (zsI (zsI (zsI (zsI h (m + 5) (30 * t + L) (nI x.1)) (m + 6) (30 * t + L) (nI x.2.1)) (m + 7) (30 * t + L) (nI x.2.2.1)) (m + 8) (30 * t + L) (nI x.2.2.2)) (m + 4) t (nI (L + 1))) (m + 7) i = if i = 30 * t + L then nI x.2.2.1 else zI h (m + 7) i := by
    intro i
    rw [zI_sI_a (by omega), zI_sI_a (by omega)]
    split
    · rename_i q; rw [q, zI_sI]
    · rename_i q; rw [zI_sI_k q, zI_sI_a (by omega), zI_sI_a (by omega)]
  have v8 : ∀ i, zI (zsI (zsI (zsI (zsI (zsI h (m + 5) (30 * t + L) (nI x.1)) (m + 6) (30 * t + L) (nI x.2.1)) (m + 7) (30 * t + L) (nI x.2.2.1)) (m + 8) (30 * t + L) (nI x.2.2.2)) (m + 4) t (nI (L + 1))) (m + 8) i = if i = 30 * t + L then nI x.2.2.2 else zI h (m + 8) i := by
    intro i
    rw [zI_sI_a (by omega)]
    split
    · rename_i q; rw [q, zI_sI]
    · rename_i q; rw [zI_sI_k q, zI_sI_a (by omega), zI_sI_a (by omega), zI_sI_a (by omega)]
  refine ⟨_, rfl, f, d.put ht l ?_ ?_ (fun q hq => ?_) (fun i hi2 => ?_) (fun s hs hst => ?_) (fun s q hs hq hst => ?_) (fun s i hs hi3 hst => ?_) hk⟩
  · rw [v1 _ _ (by omega)]; exact a1
  · rw [zI_sI]
    show _ = nI ((Ms t).2.2.2 ++ [x]).length
    rw [List.length_append, hLe]
    rfl
  · rw [v1 _ _ (by omega), v1 _ _ (by omega)]
    exact a3 q hq
  · have hi4 : i < L + 1 := by
      have : i < ((Ms t).2.2.2 ++ [x]).length := hi2
      rw [List.length_append, hLe] at this
      exact this
    rw [v5, v6, v7, v8]
    by_cases q : i = L
    · have : arcAt ((Ms t).1, (Ms t).2.1, (Ms t).2.2.1, (Ms t).2.2.2 ++ [x]) i = x := by
        unfold arcAt
        rw [List.getD_eq_getElem?_getD, List.getElem?_append_right (by omega), q, hLe]
        simp
      rw [this, if_pos (by omega), if_pos (by omega), if_pos (by omega), if_pos (by omega)]
      exact ⟨rfl, rfl, rfl, rfl⟩
    · have : arcAt ((Ms t).1, (Ms t).2.1, (Ms t).2.2.1, (Ms t).2.2.2 ++ [x]) i = arcAt (Ms t) i := by
        unfold arcAt
        rw [List.getD_eq_getElem?_getD, List.getElem?_append_left (by omega), ← List.getD_eq_getElem?_getD]
      rw [this, if_neg (by omega), if_neg (by omega), if_neg (by omega), if_neg (by omega)]
      exact a4 i (by omega)
  · rw [v1 _ _ (by omega), zI_sI_k hst]
    refine ⟨rfl, ?_⟩
    rw [zI_sI_a (by omega), zI_sI_a (by omega), zI_sI_a (by omega), zI_sI_a (by omega)]
  · rw [v1 _ _ (by omega), v1 _ _ (by omega)]
    exact ⟨rfl, rfl⟩
  · rw [v5, v6, v7, v8, if_neg (by omega), if_neg (by omega), if_neg (by omega), if_neg (by omega)]
    exact ⟨rfl, rfl, rfl, rfl⟩
theorem s_marc_loop {h : zM} {m t : Nat} {Ms : Nat → zMa} (d : MMs h m Ms) (hk : ∀ t, t < 2 → MaOk (Ms t)) (ht : t < 2) {x : zArc} (hx : x.1 < (Ms t).1 ∧ (1 ≤ x.2.1 ∧ x.2.1 ≤ 3) ∧ x.2.2.1 < (Ms t).1 ∧ x.2.2.2 < 1000) : ∀ (f i : Nat), (Ms t).2.2.2.length - i ≤ f → i ≤ (Ms t).2.2.2.length → x ∉ (Ms t).2.2.2.take i →
    ∃ h', zm_X12_arc 45 [some (.inr m), some (.inl (nI t)), some (.inl (nI x.1)), some (.inl (nI x.2.1)), some (.inl (nI x.2.2.1)), some (.inl (nI x.2.2.2)), some (.inl (nI (30 * t + i)))] [] h = some ((addA (Ms t) x).1, 0, h') ∧ zFr (m + 1) (m + 9) h h' ∧ MMs h' m (va_up Ms t (addA (Ms t) x).2) := by
  have k := hk t ht
  have k6 := k.1
  have k30 := k.2.2.2.1
  have hsame : va_up Ms t (Ms t) = Ms := by
    funext s
    by_cases c : s = t
    · subst c; rw [va_up_self]
    · rw [va_up_ne _ _ c]
  intro f
  induction f with
  | zero =>
    intro i hf hi hn
    have hi2 : i = (Ms t).2.2.2.length := by omega
    subst hi2
    rw [List.take_length] at hn
    rw [e_X12_arc_45, mF3 d.1, Option.bind_some, d.arcs ht, Option.bind_some, n30, pk_mul, nI_add, if_neg (by rw [nI_ltI (by omega) (by omega)]; omega)]
    simp only [Option.bind_some]
    rw [d.arcs ht, Option.bind_some]
    by_cases c : (Ms t).2.2.2.length < 30
    · rw [if_neg (by rw [nI_eq (by omega) (by omega)]; omega), zif_ok d.1.1]
      have ea : addA (Ms t) x = (nI ((Ms t).2.2.2.length + 1), ((Ms t).1, (Ms t).2.1, (Ms t).2.2.1, (Ms t).2.2.2 ++ [x])) := by unfold addA; rw [if_neg hn, if_pos c]
      obtain ⟨h', g1, g2, g3⟩ := s_mcomes d hk ht c x
      rw [g1, Option.bind_some, mF3 g3.1, Option.bind_some]
      dsimp only
      rw [g3.arcs ht, Option.bind_some, va_up_self, ea]
      refine ⟨h', ?_, g2, g3⟩
      rw [List.length_append]
      rfl
    · rw [if_pos (by rw [nI_eq (by omega) (by omega)]; omega)]
      have ea : addA (Ms t) x = (-1, Ms t) := by unfold addA; rw [if_neg hn, if_neg c]
      rw [ea, hsame]
      exact ⟨h, rfl, zFr.rf, d⟩
  | succ f ih =>
    intro i hf hi hn
    by_cases c : i < (Ms t).2.2.2.length
    · have hq := arc_eq k c (x := x) (by omega)
      by_cases e : arcAt (Ms t) i = x
      · obtain ⟨a1, a2, a3, a4⟩ := hq.mpr e
        rw [e_X12_arc_45, mF3 d.1, Option.bind_some, d.arcs ht, Option.bind_some, n30, pk_mul, nI_add, if_pos ((nI_ltI (by omega) (by omega)).mpr (by omega)), mF4 d.1, Option.bind_some, d.from ht k c, Option.bind_some, if_pos a1, mF5 d.1, Option.bind_some, d.by ht k c, Option.bind_some, if_pos a2, mF6 d.1, Option.bind_some, d.to ht k c, Option.bind_some, if_pos a3, mF7 d.1, Option.bind_some, d.word ht k c, Option.bind_some, if_pos a4]
        simp only [Option.bind_some]
        rw [d.arcs ht, Option.bind_some]
        have hmem : x ∈ (Ms t).2.2.2 := by
          rw [← e]
          unfold arcAt
          rw [List.getD_eq_getElem?_getD, List.getElem?_eq_getElem c]
          exact List.getElem_mem c
        have ea : addA (Ms t) x = (nI (Ms t).2.2.2.length, Ms t) := by unfold addA; rw [if_pos hmem]
        rw [ea, hsame]
        exact ⟨h, rfl, zFr.rf, d⟩
      · have hn' : x ∉ (Ms t).2.2.2.take (i + 1) := by
          rw [List.take_succ]
          intro hm
          rcases List.mem_append.mp hm with q | q
          · exact hn q
          · rw [List.getElem?_eq_getElem c] at q
            have q2 : x = (Ms t).2.2.2[i] := by simpa using q
            apply e
            unfold arcAt
            rw [List.getD_eq_getElem?_getD, List.getElem?_eq_getElem c, q2]
            rfl
        obtain ⟨h', g1, g2, g3⟩ := ih (i + 1) (by omega) (by omega) hn'
        refine ⟨h', ?_, g2, g3⟩
        rw [← g1, e_X12_arc_45, mF3 d.1, Option.bind_some, d.arcs ht, Option.bind_some, n30, pk_mul, nI_add, if_pos ((nI_ltI (by omega) (by omega)).mpr (by omega)), mF4 d.1, Option.bind_some, d.from ht k c, Option.bind_some, nI_1, show 30 * t + i + 1 = 30 * t + (i + 1) by omega]
        by_cases a1 : nI (arcAt (Ms t) i).1 = nI x.1
        · rw [if_pos a1, mF5 d.1, Option.bind_some, d.by ht k c, Option.bind_some]
          by_cases a2 : nI (arcAt (Ms t) i).2.1 = nI x.2.1
          · rw [if_pos a2, mF6 d.1, Option.bind_some, d.to ht k c, Option.bind_some]
            by_cases a3 : nI (arcAt (Ms t) i).2.2.1 = nI x.2.2.1
            · rw [if_pos a3, mF7 d.1, Option.bind_some, d.word ht k c, Option.bind_some, if_neg (fun a4 => e (hq.mp ⟨a1, a2, a3, a4⟩))]
            · rw [if_neg a3]
          · rw [if_neg a2]
        · rw [if_neg a1]
    · exact ih i (by omega) hi hn
theorem z_letter {l : Int32} (c : ¬ l < 1 ∧ ¬ 3 < l) : ∃ b, 1 ≤ b ∧ b ≤ 3 ∧ l = nI b := by
  have hl0 : ¬ l < 0 := by
    intro z
    apply c.1
    rw [Int32.lt_iff_toInt_lt] at z ⊢
    have e1 : (1 : Int32).toInt = 1 := by decide
    have e0 : (0 : Int32).toInt = 0 := by decide
    omega
  obtain ⟨b, hb, rfl⟩ := nI_of hl0
  have q1 := c.1
  have q2 := c.2
  rw [show (1 : Int32) = nI 1 from rfl, nI_ltI hb (by decide)] at q1
  rw [show (3 : Int32) = nI 3 from rfl, nI_ltI (by decide) hb] at q2
  exact ⟨b, by omega, by omega, rfl⟩
theorem s_marc {h : zM} {m : Nat} {Ms : Nat → zMa} (d : MMs h m Ms) (hk : ∀ t, t < 2 → MaOk (Ms t)) (t p l q w : Int32) : ∃ h', zf nX12_arc [.inr m, .inl t, .inl p, .inl l, .inl q, .inl w] h = some ((aArc Ms t p l q w).1, 0, h') ∧ zFr (m + 1) (m + 9) h h' ∧ MMs h' m (aArc Ms t p l q w).2 := by
  rw [e_X12_arc, zif_ok d.1.1, s_misState d, Option.bind_some]
  unfold aArc
  by_cases c1 : isQ Ms t p = true
  · simp only [c1, if_true, true_and]
    rw [if_neg (by decide), zif_ok d.1.1, s_misState d, Option.bind_some]
    by_cases c2 : isQ Ms t q = true
    · simp only [c2, if_true, true_and]
      rw [if_neg (by decide)]
      by_cases c3 : l < 1
      · rw [if_pos c3, if_neg (fun z => z.1.1 c3)]
        exact ⟨h, rfl, zFr.rf, d⟩
      · rw [if_neg c3]
        by_cases c4 : 3 < l
        · rw [if_pos c4, if_neg (fun z => z.1.2 c4)]
          exact ⟨h, rfl, zFr.rf, d⟩
        · rw [if_neg c4, s_isWritten, Option.bind_some]
          by_cases c5 : isW 9 3 w = true
          · simp only [c5, if_true, and_true]
            rw [if_neg (by decide), if_pos (show ¬ l < 1 ∧ ¬ 3 < l from ⟨c3, c4⟩)]
            obtain ⟨b, hb1, hb2, rfl⟩ := z_letter ⟨c3, c4⟩
            obtain ⟨j, k, hj, hk2, rfl, rfl⟩ := isQ_of hk c1
            obtain ⟨j2, k2, hj2, hk3, ej, rfl⟩ := isQ_of hk c2
            have : j2 = j := ((nI_eq (by omega) (by omega)).mp ej).symm
            subst this
            obtain ⟨v, hv, rfl⟩ := isW_of c5
            have hv9 := hv.lt
            have h6 := (hk j2 hj).1
            obtain ⟨h', g1, g2, g3⟩ := s_marc_loop d hk hj (x := (k, b, k2, v)) ⟨hk2, ⟨hb1, hb2⟩, hk3, hv9⟩ _ 0 (Nat.le_refl _) (Nat.zero_le _) (by rw [List.take_zero]; exact List.not_mem_nil)
            rw [n30, pk_mul]
            rw [Nat.add_zero] at g1
            dsimp only at g1
            rw [g1, nI_clamp (by omega), nI_clamp (by omega), nI_clamp (by omega), nI_clamp (by omega), nI_clamp (by omega)]
            exact ⟨h', rfl, g2, g3⟩
          · have cf : isW 9 3 w = false := by simpa using c5
            simp only [cf]
            rw [if_pos (by decide), if_neg (fun z => by cases z.2)]
            exact ⟨h, rfl, zFr.rf, d⟩
    · have cf : isQ Ms t q = false := by simpa using c2
      simp only [cf]
      rw [if_pos (by decide), if_neg (fun z => by cases z.1)]
      exact ⟨h, rfl, zFr.rf, d⟩
  · have cf : isQ Ms t p = false := by simpa using c1
    simp only [cf]
    rw [if_pos (by decide), if_neg (fun z => by cases z.1)]
    exact ⟨h, rfl, zFr.rf, d⟩
