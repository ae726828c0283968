/-! The class Readings: differ. -/
theorem RQ.eq {h h' : zM} {r : Nat} {Q : List zRd} (q : RQ h r Q) (f : zEq r (r + 5) h h') : RQ h' r Q :=
  ⟨by rw [f.I (by omega) (by omega)]; exact q.1, fun i hi => by rw [f.I (by omega) (by omega), f.I (by omega) (by omega), f.I (by omega) (by omega)]; exact q.2.1 i hi, fun p hp => by rw [f.I (by omega) (by omega)]; exact q.2.2 p hp⟩
/-- between calls nothing is marked -/
def RS (h : zM) (r : Nat) : Prop := RL5 h r ∧ ∀ p, p < 4096 → zI h (r + 1) p = 0
theorem RS.eq {h h' : zM} {r : Nat} (x : RS h r) (f : zEq r (r + 5) h h') : RS h' r := ⟨Lay.eq x.1 (f.sub (by omega) (by omega)), fun p hp => by rw [f.I (by omega) (by omega)]; exact x.2 p hp⟩
theorem s_Rspell_loop {r s : Nat} {Q : List zRd} (hQ : Q.length ≤ 4096) (ga : Int32) : ∀ (n i k : Nat) (h : zM) (w : zWo), i ≤ n → i < Q.length → RL5 h r → RQ h r Q → (s + 2 ≤ r ∨ r + 5 ≤ s) → Wd h s 128 w → k + i < 4096 → w.length + (qAt Q i).2.2.length ≤ 128 →
    ∃ h', zm_X5_spell 9 [some (.inr r), some (.inl ga), some (.inr s), some (.inl (nI i)), some (.inl (nI k))] [] h = some (0, 0, h') ∧ zFr s (s + 2) h h' ∧ Wd h' s 128 (w ++ ((qAt Q i).2.2.map nI).reverse).reverse
  | 0, i, k, h, w, hn, hi, x, q, hd, hw, hk, hl => by
    have : i = 0 := by omega
    subst this
    have gc := (q.2.1 0 hi).2
    have e0 : (qAt Q 0).2.2 = [] := by
      rcases gc with ⟨_, z⟩ | ⟨b, l, z, _⟩
      · exact z
      · omega
    obtain ⟨h', a1, a2, a3⟩ := s_reverse hw
    rw [e_X5_spell_9, if_pos (by rw [n4096, nI_ltI (by omega) (by omega)]; omega), if_neg (by decide), zif_ok hw.1, a1, Option.bind_some, e0]
    exact ⟨h', rfl, a2, by simpa using a3⟩
  | n + 1, i, k, h, w, hn, hi, x, q, hd, hw, hk, hl => by
    have gc := (q.2.1 i hi).2
    rcases gc with ⟨g0, z⟩ | ⟨b, l, b1, b2, b3, b4⟩
    · subst g0
      exact s_Rspell_loop hQ ga 0 0 k h w (Nat.le_refl _) hi x q hd hw hk hl
    · obtain ⟨h1, a1, a2, a3⟩ := s_add hw (nI l)
      rw [b4, List.length_append] at hl
      have hl : w.length + ((qAt Q b).2.2.length + 1) ≤ 128 := hl
      rw [List.take_of_length_le (by rw [List.length_append]; show w.length + 1 ≤ 128; omega)] at a3
      have x1 : RL5 h1 r := x.keep a2
      have q1 := q.eq (a2.eq (by omega))
      rw [e_X5_spell_9, if_pos (by rw [n4096, nI_ltI (by omega) (by omega)]; omega), if_pos (by rw [n0, nI_ltI (by omega) (by omega)]; omega), x.g3, Option.bind_some, x.rd (Or.inr (Or.inr rfl)) (by omega), b3, Option.bind_some, zif_ok hw.1, a1, Option.bind_some]
      dsimp only
      rw [x1.g2, Option.bind_some, x1.rd (Or.inr (Or.inl rfl)) (by omega), a2.I (by omega), b2, Option.bind_some, nI_1]
      obtain ⟨h2, c1, c2, c3⟩ := s_Rspell_loop hQ ga n b (k + 1) h1 (w ++ [nI l]) (by omega) (by omega) x1 q1 hd a3 (by omega) (by rw [List.length_append]; show w.length + 1 + _ ≤ 128; omega)
      refine ⟨h2, c1, a2.tr c2, ?_⟩
      rw [b4, List.map_append, List.reverse_append]
      simpa using c3
/-- what differ answers and does -/
def RfQ (M N : zMa) (h : zM) (r s : Nat) (x : Option zR) : Prop := (rdW M N = none ∧ ∃ h', x = some (0, 0, h') ∧ zFr r (r + 5) h h' ∧ RS h' r) ∨ ∃ w, rdW M N = some w ∧ ∃ h1 h2 h', x = some (1, 0, h') ∧ zFr r (r + 5) h h1 ∧ zFr s (s + 2) h1 h2 ∧ zFr r (r + 5) h2 h' ∧ RS h' r ∧ Wd h' s 128 (w.map nI)
/-- the marks are taken away -/
theorem s_Rclean {h : zM} {r A B s : Nat} {Q : List zRd} {v : Int32} (x : RL5 h r) (q : RQ h r Q) (hq : ∀ k ∈ Q, k.1 < 64 ∧ k.2.1 < 64) (hQ : Q.length ≤ 4096) :
    ∃ h', zm_X5_differ 43 [some (.inr r), some (.inr A), some (.inr B), some (.inr s), some (.inl v), some (.inl 0)] [] h = some (if v = -1 then 0 else 1, 0, h') ∧ zFr r (r + 5) h h' ∧ RS h' r := by
  have main := zlp (P := fun i z => zFr (r + 1) (r + 2) h z ∧ ∀ p, p < 4096 → zI z (r + 1) p = bI (rSeen Q p && !rSeen (Q.take i) p)) (g := fun i z => zm_X5_differ 43 [some (.inr r), some (.inr A), some (.inr B), some (.inr s), some (.inl v), some (.inl (nI i))] [] z) (n := Q.length) ?_ 0 h (Nat.zero_le _) ⟨zFr.rf, fun p hp => by
    rw [q.2.2 p hp, List.take_zero]
    unfold rSeen
    simp⟩
  · obtain ⟨z, e1, f, hz⟩ := main
    have xz : RL5 z r := x.keep f
    rw [n0, e1, e_X5_differ_43, zgI_ok xz.1, f.I (by omega), q.1, Option.bind_some, if_neg (by rw [nI_ltI (by omega) (by omega)]; omega)]
    refine ⟨z, ?_, f.wide (by omega) (by omega), xz, fun p hp => ?_⟩
    · split
      · rw [zb0]; rfl
      · rw [zb1]
    · rw [hz p hp, List.take_length]
      cases rSeen Q p <;> rfl
  · rintro i z hi ⟨f, hz⟩
    have xz : RL5 z r := x.keep f
    have hm := hq _ (qAt_mem hi)
    have hk : rKey (qAt Q i) < 4096 := by unfold rKey; omega
    have hkey := (q.2.1 i hi).1
    rw [e_X5_differ_43, zgI_ok xz.1, f.I (by omega), q.1, Option.bind_some, if_pos ((nI_ltI (by omega) (by omega)).mpr hi), xz.g0, Option.bind_some, xz.g1, Option.bind_some, xz.rd (Or.inl rfl) (by omega), f.I (by omega), hkey, Option.bind_some, xz.wb hk (Or.inl rfl), Option.bind_some, nI_1]
    refine ⟨_, rfl, f.tr (zFr_sI (by omega) (by omega)), fun p hp => ?_⟩
    have eS : rSeen (Q.take (i + 1)) p = (rSeen (Q.take i) p || decide (rKey (qAt Q i) = p)) := by
      unfold rSeen
      rw [List.take_add_one, qAt_get hi, List.any_append]
      simp
    rw [eS]
    by_cases e : p = rKey (qAt Q i)
    · subst e
      rw [zI_sI, decide_eq_true rfl]
      simp [bI]
    · rw [zI_sI_k e, hz p hp, decide_eq_false (fun y => e y.symm), Bool.or_false]
theorem s_Rdiffer {h : zM} {r s A B : Nat} {M N : zMa} (mM : MC h A M) (kM : MaOk M) (mN : MC h B N) (kN : MaOk N) (hA : A + 6 ≤ r ∨ r + 5 ≤ A) (hB : B + 6 ≤ r ∨ r + 5 ≤ B) (x : RS h r) (hd : s + 2 ≤ r ∨ r + 5 ≤ s) {w0 : zWo} (hw : Wd h s 128 w0) : RfQ M N h r s (zf nX5_differ [.inr r, .inr A, .inr B, .inr s] h) := by
  obtain ⟨x, hx0⟩ := x
  rw [e_X5_differ, zpI_ok x.1, Option.bind_some]
  have f1 : zFr r (r + 1) h (zsI h r 4 0) := zFr_sI (by omega) (by omega)
  have e4 : zI (zsI h r 4 0) r 4 = 0 := zI_sI
  generalize hh1 : zsI h r 4 0 = h1 at *
  have x1 : RL5 h1 r := x.keep f1
  have mM1 := mM.keep f1 (by omega)
  have mN1 := mN.keep f1 (by omega)
  have q1 : RQ h1 r [] := ⟨e4, fun i hi => absurd hi (Nat.not_lt_zero _), fun p hp => by rw [f1.I (by omega), hx0 p hp]; rfl⟩
  have ok0 : rOk M N [] := ⟨fun e he => (by cases he), fun a b => Nat.zero_le _⟩
  have e0 : rAdd (M.2.1, N.2.1, []) [] = rdSeq M N 0 := rfl
  have ok1 : rOk M N (rAdd (M.2.1, N.2.1, []) []) := by rw [e0]; exact rdSeq_ok kM kN 0
  obtain ⟨h2, a1, a2, a3, a4⟩ := s_Rreach (c := (M.2.1, N.2.1, [])) (vb := -1) (vl := -1) kM kN x1 q1 ok0 ok1 ⟨kM.beg64, kN.beg64⟩ (Or.inl ⟨rfl, rfl⟩)
  rw [e0] at a4
  rw [mM1.beg, Option.bind_some, mN1.beg, Option.bind_some, zif_ok x1.1, a1, Option.bind_some]
  dsimp only
  have f2 : zFr r (r + 5) h h2 := (f1.wide (by omega) (by omega)).tr a2
  rw [zif_ok a3.1]
  have hq6 : ∀ Q, rOk M N Q → ∀ k ∈ Q, k.1 < 64 ∧ k.2.1 < 64 := fun Q ok k hk => ⟨kM.p64 (ok.1 k hk).1, kN.p64 (ok.1 k hk).2.1⟩
  rcases s_Rsearch (mM.keep f2 hA) kM (mN.keep f2 hB) kN hA hB a3 a4 with ⟨b0, h3, Q, b1, b2, b3, b4, b5⟩ | ⟨h3, Q, i, b1, b2, b3, b4, b5, b6, b7⟩
  · rw [b1, Option.bind_some]
    dsimp only
    rw [if_pos rfl]
    obtain ⟨h4, c1, c2, c3⟩ := s_Rclean (A := A) (B := B) (s := s) (v := -1) b3 b4 (hq6 Q b5) (rOk_len kM kN b5)
    left
    exact ⟨b0, h4, by rw [c1]; rfl, f2.tr (b2.tr c2), c3⟩
  · rw [b1, Option.bind_some]
    dsimp only
    have hQ := rOk_len kM kN b5
    have hne : ¬ nI i = -1 := nneg (by omega)
    rw [if_neg hne, zif_ok b3.1]
    have f3 := f2.tr b2
    have hw3 := hw.keep f3 (by omega)
    obtain ⟨h4, d1, d2, d3⟩ := s_clear hw3
    have hlen := (rdW_len kM kN b7).1
    have x4 : RL5 h4 r := b3.keep d2
    have q4 := b4.eq (d2.eq (by omega))
    obtain ⟨h5, g1, g2, g3⟩ := s_Rspell_loop (s := s) hQ (nI i) i i 0 h4 [] (Nat.le_refl _) b6 x4 q4 hd d3 (by omega) (by simp; omega)
    have x5 : RL5 h5 r := x4.keep g2
    have q5 := q4.eq (g2.eq (by omega))
    obtain ⟨h6, i1, i2, i3⟩ := s_Rclean (A := A) (B := B) (s := s) (v := nI i) x5 q5 (hq6 Q b5) hQ
    rw [if_neg hne] at i1
    right
    refine ⟨_, b7, h3, h5, h6, ?_, f3, d2.tr g2, i2, i3, Wd.keep (by simpa using g3) i2 (by omega)⟩
    rw [e_X5_spell, zif_ok hw3.1, d1, Option.bind_some]
    dsimp only
    have g1 : zm_X5_spell 9 [some (.inr r), some (.inl (nI i)), some (.inr s), some (.inl (nI i)), some (.inl 0)] [] h4 = some (0, 0, h5) := g1
    rw [g1, Option.bind_some]
    exact i1
