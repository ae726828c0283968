/-! The class Outputs: what was found, in order. -/
theorem insU_at (w : zWo) : ∀ (fs : List zWo) (p : Nat), p ≤ fs.length → (∀ j, j < p → wlt (fs.getD j []) w = true) → (p < fs.length → wlt (fs.getD p []) w = false) →
    insU w fs = if p < fs.length ∧ fs.getD p [] = w then fs else fs.take p ++ w :: fs.drop p
  | [], p, hp, h1, h2 => by
    have : p = 0 := by simpa using hp
    subst this
    rfl
  | x :: xs, 0, hp, h1, h2 => by
    have q := h2 (by simp)
    have q2 : wlt x w = false := q
    unfold insU
    rw [q2]
    by_cases e : x = w
    · simp [e]
    · simp [e]
  | x :: xs, p + 1, hp, h1, h2 => by
    have q : wlt x w = true := h1 0 (by omega)
    have ih := insU_at w xs p (by simpa using hp) (fun j hj => h1 (j + 1) (by omega)) (fun hj => h2 (by simpa using hj))
    unfold insU
    rw [if_pos q, ih]
    by_cases e : p < xs.length ∧ xs.getD p [] = w
    · rw [if_pos e, if_pos (by simpa using e)]
    · rw [if_neg e, if_neg (by simpa using e)]
      rfl
theorem zas_ok {h : zM} {a i r : Nat} (hk : 104 ≤ zK h a ∧ zK h a < 108) (hi : i < zN h a) (hn : zN h a < 2 ^ 31) (hr : zK h r = zel (zK h a) + 1) : zas h a (nI i) r = some (zsF h a i r) := by
  have := nI_clamp (n := i) (by omega)
  unfold zas
  rw [if_pos ⟨hk, zix hi hn, hr⟩, this]
theorem nI_dec {n : Nat} : nI (n + 1) + (-1) = nI n := by
  rw [← Int32.sub_eq_add_neg, nI_pred]
/-- the found words -/
def OFd (h : zM) (o : Nat) (π : Nat → Nat) (fs : List zWo) : Prop := fs.length ≤ 60 ∧ ∀ i, i < fs.length → Wd h (o + 2 + 2 * π i) 30 (fs.getD i [])
theorem OFd.eq {h h' : zM} {o : Nat} {π : Nat → Nat} {fs : List zWo} (d : OFd h o π fs) (hp : OPi h o π) (f : zEq (o + 2) (o + 122) h h') : OFd h' o π fs :=
  ⟨d.1, fun i hi => (d.2 i hi).eq (f.sub (by omega) (by have := (hp.1 i (by have := d.1; omega)).1; omega))⟩
/-- places behind p move on by one, the one at n comes to p -/
def shf (p n j : Nat) : Nat := if j < p then j else if j = p then n else if j ≤ n then j - 1 else j
theorem shf_lt {p n j : Nat} (hn : n < 60) (hj : j < 60) : shf p n j < 60 := by unfold shf; split <;> (try split) <;> (try split) <;> omega
theorem shf_inj {p n i j : Nat} (hp : p ≤ n) (h : shf p n i = shf p n j) : i = j := by
  unfold shf at h
  split at h <;> split at h <;> (try split at h) <;> (try split at h) <;> (try split at h) <;> (try split at h) <;> omega
theorem s_oshift {h : zM} {o b1 b2 p : Nat} {π : Nat → Nat} {fs : List zWo} {w : zWo} (d : OS0 h o b1 b2 π (nI fs.length)) (e : OFd h o π fs) (hw : Wd h (o + 122) 30 w) (hp : p ≤ fs.length) (hn : fs.length < 60) :
    ∃ h' π', zm_X3_sortIn 81 [some (.inr o), some (.inl (nI p)), some (.inr (o + 2 + 2 * π fs.length)), some (.inl (nI fs.length))] [] h = some (0, 0, h') ∧ zGr o (o + 124) h h' ∧ (∀ k, zI h' o k = if k = 0 then nI (fs.length + 1) else zI h o k) ∧ OS0 h' o b1 b2 π' (nI (fs.length + 1)) ∧ OFd h' o π' (fs.take p ++ w :: fs.drop p) ∧ Wd h' (o + 122) 30 w := by
  obtain ⟨dl, dw, dp, dc⟩ := d
  have spare := dp.1 fs.length hn
  have main := zlp (P := fun k g => zGr (o + 1) (o + 2) h g ∧ (∀ a j, zI g a j = zI h a j) ∧ ∀ j, j < 60 → zF g (o + 1) j = if fs.length - k < j ∧ j ≤ fs.length then o + 2 + 2 * π (j - 1) else o + 2 + 2 * π j)
    (g := fun k g => zm_X3_sortIn 81 [some (.inr o), some (.inl (nI p)), some (.inr (o + 2 + 2 * π fs.length)), some (.inl (nI (fs.length - k)))] [] g) (n := fs.length - p) ?_ 0 h (Nat.zero_le _) ⟨zGr.rf, fun _ _ => rfl, fun j hj => by rw [if_neg (by omega)]; exact (dp.1 j hj).2⟩
  · obtain ⟨g, m1, m2, m3, m4⟩ := main
    rw [Nat.sub_zero] at m1
    have ep : fs.length - (fs.length - p) = p := by omega
    rw [ep] at m1 m4
    have gk : zK g o = 3 + 1 := by rw [m2.K]; exact dl.1
    have g1 : zgF g o 3 1 = some (o + 1) := by rw [zgF_ok gk, m2.F (by omega)]; exact congrArg some dl.2.1.1
    have hk1 : zK g (o + 1) = 104 ∧ zN g (o + 1) = 60 := by rw [m2.K, m2.N]; exact dl.2.2.1
    obtain ⟨w0, hw0⟩ := dw (π fs.length) (by omega) (by omega) (by omega)
    have hs0 : Wd g (o + 2 + 2 * π fs.length) 30 w0 := hw0.g m2 (by omega)
    have f2 : zGr (o + 1) (o + 2) g (zsF g (o + 1) p (o + 2 + 2 * π fs.length)) := zGr_sF (by omega) (by omega)
    have hs : Wd (zsF g (o + 1) p (o + 2 + 2 * π fs.length)) (o + 2 + 2 * π fs.length) 30 w0 := hs0.g f2 (by omega)
    have hc : Wd (zsF g (o + 1) p (o + 2 + 2 * π fs.length)) (o + 122) 30 w := (hw.g m2 (by omega)).g f2 (by omega)
    obtain ⟨h', i1, i2, i3⟩ := s_become hs hc (by omega)
    rw [List.take_of_length_le hc.small.2.2] at i3
    have fA : zGr (o + 1) (o + 2) h (zsF g (o + 1) p (o + 2 + 2 * π fs.length)) := m2.tr f2
    have gk2 : zK (zsF g (o + 1) p (o + 2 + 2 * π fs.length)) o = 3 + 1 := gk
    have gk3 : zK h' o = 3 + 1 := by rw [i2.K]; exact gk
    have e0 : zI h' o 0 = nI fs.length := by rw [i2.I (by omega)]; exact (m3 o 0).trans dc
    have e2 : zgF (zsF g (o + 1) p (o + 2 + 2 * π fs.length)) o 3 2 = some (o + 122) := by rw [zgF_ok gk2, fA.F (by omega)]; exact congrArg some dl.2.1.2.1
    have fB : zFr o (o + 1) h' (zsI h' o 0 (nI (fs.length + 1))) := zFr_sI (by omega) (by omega)
    have F : zGr o (o + 124) h (zsI h' o 0 (nI (fs.length + 1))) := (fA.wide (by omega) (by omega)).tr ((i2.gr.wide (by omega) (by omega)).tr (fB.gr.wide (by omega) (by omega)))
    have ff : ∀ a j, a ≠ o + 1 → zF (zsI h' o 0 (nI (fs.length + 1))) a j = zF h a j := by
      intro a j ha
      rw [zF_sI, i2.F, fA.F (by omega)]
    refine ⟨zsI h' o 0 (nI (fs.length + 1)), fun j => π (shf p fs.length j), ?_, F, fun k => ?_, ⟨⟨by rw [F.K]; exact dl.1, ?_, by rw [F.K, F.N]; exact dl.2.2.1, fun b hb => ?_, dl.2.2.2.2⟩, fun k h1 h2 h3 => ?_, ⟨fun i hi => ⟨(dp.1 _ (shf_lt hn hi)).1, ?_⟩, fun i j hi hj he => ?_⟩, ?_⟩, ⟨?_, fun i hi => ?_⟩, ?_⟩
    · rw [m1, e_X3_sortIn_81, if_neg (by rw [nI_ltI (by omega) (by omega)]; omega), g1, Option.bind_some, zas_ok (by omega) (by omega) (by omega) (by rw [hs0.1, hk1.1]; rfl), Option.bind_some, e2, Option.bind_some, zif_ok hs.1, i1, Option.bind_some, zgI_ok gk3, Option.bind_some, e0, nI_1, zpI_ok gk3, Option.bind_some]
    · by_cases ek : k = 0
      · rw [if_pos ek, ek, zI_sI]
      · rw [if_neg ek, zI_sI_k ek, i2.I (by omega)]; exact m3 o k
    · rw [ff _ _ (by omega), ff _ _ (by omega), ff _ _ (by omega), ff _ _ (by omega), ff _ _ (by omega), ff _ _ (by omega)]; exact dl.2.1
    · have := dl.2.2.2.1 b hb
      rw [F.K, F.N, F.K, F.N]
      exact ⟨this.1, this.2.1, this.2.2.1, this.2.2.2.1, fun i hi => by rw [ff _ _ (by omega)]; exact this.2.2.2.2 i hi⟩
    · by_cases ek : k = π fs.length
      · subst ek
        exact ⟨w, i3.keep fB (by omega)⟩
      · obtain ⟨v, hv⟩ := dw k h1 h2 h3
        exact ⟨v, ((hv.g fA (by omega)).keep i2 (by omega)).keep fB (by omega)⟩
    · rw [zF_sI, i2.F, zF_sF]
      show _ = o + 2 + 2 * π (shf p fs.length i)
      unfold shf
      by_cases c1 : i = p
      · rw [if_pos ⟨rfl, c1⟩, if_neg (by omega), if_pos c1]
      · rw [if_neg (fun z => c1 z.2), m4 i hi, if_neg c1]
        by_cases c2 : i < p
        · rw [if_pos c2, if_neg (by omega)]
        · rw [if_neg c2]
          by_cases c3 : i ≤ fs.length
          · rw [if_pos c3, if_pos ⟨by omega, c3⟩]
          · rw [if_neg c3, if_neg (by omega)]
    · exact shf_inj hp (dp.2 _ _ (shf_lt hn hi) (shf_lt hn hj) he)
    · rw [zI_sI]
    · simp; omega
    · have hlen : i < fs.length + 1 := by simp at hi; omega
      have old : ∀ j, j < fs.length → Wd (zsI h' o 0 (nI (fs.length + 1))) (o + 2 + 2 * π j) 30 (fs.getD j []) := fun j hj => by
        have n1 : π j ≠ π fs.length := fun z => by have := dp.2 _ _ (by omega) hn z; omega
        have n2 := (dp.1 j (by omega)).1
        exact (((e.2 j hj).g fA (by omega)).keep i2 (by omega)).keep fB (by omega)
      show Wd _ (o + 2 + 2 * π (shf p fs.length i)) 30 _
      unfold shf
      by_cases c2 : i < p
      · rw [if_pos c2, List.getD_eq_getElem?_getD, List.getElem?_append_left (by simp; omega), List.getElem?_take_of_lt c2, ← List.getD_eq_getElem?_getD]
        exact old i (by omega)
      · have hl : (fs.take p).length = p := by simp; omega
        rw [if_neg c2, List.getD_eq_getElem?_getD, List.getElem?_append_right (by omega), hl]
        by_cases c1 : i = p
        · rw [if_pos c1, c1, Nat.sub_self]
          exact i3.keep fB (by omega)
        · rw [if_neg c1, if_pos (by omega), show i - p = (i - 1 - p) + 1 by omega, List.getElem?_cons_succ, List.getElem?_drop, show p + (i - 1 - p) = i - 1 by omega, ← List.getD_eq_getElem?_getD]
          exact old (i - 1) (by omega)
    · exact (hc.keep i2 (by omega)).keep fB (by omega)
  · rintro k g hk ⟨m2, m3, m4⟩
    have gk : zK g o = 3 + 1 := by rw [m2.K]; exact dl.1
    have g1 : zgF g o 3 1 = some (o + 1) := by rw [zgF_ok gk, m2.F (by omega)]; exact congrArg some dl.2.1.1
    have hk1 : zK g (o + 1) = 104 ∧ zN g (o + 1) = 60 := by rw [m2.K, m2.N]; exact dl.2.2.1
    have hv : zaa g (o + 1) (nI (fs.length - (k + 1))) = some (o + 2 + 2 * π (fs.length - (k + 1))) := by
      rw [zaa_ok (by omega) (by omega) (by omega), m4 _ (by omega), if_neg (by omega)]
    obtain ⟨w0, hw0⟩ := dw (π (fs.length - (k + 1))) (by have := (dp.1 (fs.length - (k + 1)) (by omega)).1; omega) (by have := (dp.1 (fs.length - (k + 1)) (by omega)).1; omega) (by have := (dp.1 (fs.length - (k + 1)) (by omega)).1; omega)
    have hkw : zK g (o + 2 + 2 * π (fs.length - (k + 1))) = zel (zK g (o + 1)) + 1 := by rw [hk1.1, m2.K, hw0.1]; rfl
    have ed : nI (fs.length - k) = nI (fs.length - (k + 1)) + 1 := by rw [nI_1]; congr 1; omega
    have ed1 : nI (fs.length - k) - 1 = nI (fs.length - (k + 1)) := by rw [show fs.length - k = (fs.length - (k + 1)) + 1 by omega, nI_pred]
    have ed2 : nI (fs.length - k) + (-1) = nI (fs.length - (k + 1)) := by rw [show fs.length - k = (fs.length - (k + 1)) + 1 by omega, nI_dec]
    refine ⟨zsF g (o + 1) (fs.length - k) (o + 2 + 2 * π (fs.length - (k + 1))), ?_, m2.tr (zGr_sF (by omega) (by omega)), m3, fun j hj => ?_⟩
    · rw [e_X3_sortIn_81, if_pos ((nI_ltI (by omega) (by omega)).mpr (by omega)), g1, Option.bind_some, Option.bind_some, ed1, hv, Option.bind_some, zas_ok (by omega) (by omega) (by omega) hkw, Option.bind_some, ed2]
    · rw [zF_sF]
      by_cases c1 : j = fs.length - k
      · rw [if_pos ⟨rfl, c1⟩, if_pos (by omega), c1]
        congr 3
      · rw [if_neg (fun z => c1 z.2), m4 j hj]
        by_cases c2 : fs.length - k < j ∧ j ≤ fs.length
        · rw [if_pos c2, if_pos (by omega)]
        · rw [if_neg c2, if_neg (by omega)]
theorem wcmp_wlt (w v : zWo) : wcmp w v < 0 ↔ wlt w v = true := by unfold wlt; simp
theorem s_osortIn {h : zM} {o b1 b2 : Nat} {π : Nat → Nat} {fs : List zWo} {w : zWo} (d : OS0 h o b1 b2 π (nI fs.length)) (e : OFd h o π fs) (hw : Wd h (o + 122) 30 w) (hn : fs.length < 60) :
    ∃ h' π', zf nX3_sortIn [.inr o] h = some (0, 0, h') ∧ zGr o (o + 124) h h' ∧ (∀ k, k ≠ 0 → zI h' o k = zI h o k) ∧ OS0 h' o b1 b2 π' (nI (insU w fs).length) ∧ OFd h' o π' (insU w fs) ∧ Wd h' (o + 122) 30 w := by
  have dl := d.1
  have dp := d.2.2.1
  rw [e_X3_sortIn]
  have rt : ∀ i, i < fs.length → zaa h (o + 1) (nI i) = some (o + 2 + 2 * π i) := fun i hi => by
    rw [zaa_ok (by have := dl.2.2.1; omega) (by have := dl.2.2.1; omega) (by have := dl.2.2.1; omega), (dp.1 i (by omega)).2]
  have rs : zaa h (o + 1) (nI fs.length) = some (o + 2 + 2 * π fs.length) := by
    rw [zaa_ok (by have := dl.2.2.1; omega) (by have := dl.2.2.1; omega) (by have := dl.2.2.1; omega), (dp.1 _ hn).2]
  have fin : ∀ p, p ≤ fs.length → (∀ j, j < p → wlt (fs.getD j []) w = true) → (p < fs.length → wlt (fs.getD p []) w = false) → ¬ (p < fs.length ∧ fs.getD p [] = w) →
      ∃ h' π', zm_X3_sortIn 81 [some (.inr o), some (.inl (nI p)), some (.inr (o + 2 + 2 * π fs.length)), some (.inl (nI fs.length))] [] h = some (0, 0, h') ∧ zGr o (o + 124) h h' ∧ (∀ k, k ≠ 0 → zI h' o k = zI h o k) ∧ OS0 h' o b1 b2 π' (nI (insU w fs).length) ∧ OFd h' o π' (insU w fs) ∧ Wd h' (o + 122) 30 w := by
    intro p hp h1 h2 h3
    obtain ⟨h', π', a1, a2, a3, a4, a5, a6⟩ := s_oshift d e hw hp hn
    have ei := insU_at w fs p hp h1 h2
    rw [if_neg h3] at ei
    have hl : (insU w fs).length = fs.length + 1 := by rw [ei]; simp; omega
    refine ⟨h', π', a1, a2, fun k hk => by rw [a3, if_neg hk], by rw [hl]; exact a4, by rw [ei]; exact a5, a6⟩
  refine zlq (P := fun i g => g = h ∧ ∀ j, j < i → wlt (fs.getD j []) w = true) (g := fun i g => zm_X3_sortIn 2 [some (.inr o), some (.inl (nI i)), none, none] [] g) (n := fs.length)
    (Q := fun x => ∃ h' π', x = some (0, 0, h') ∧ zGr o (o + 124) h h' ∧ (∀ k, k ≠ 0 → zI h' o k = zI h o k) ∧ OS0 h' o b1 b2 π' (nI (insU w fs).length) ∧ OFd h' o π' (insU w fs) ∧ Wd h' (o + 122) 30 w) ?_ ?_ 0 h (Nat.zero_le _) ⟨rfl, fun j hj => absurd hj (Nat.not_lt_zero _)⟩
  · rintro i g hi ⟨rfl, hj⟩
    have we := e.2 i hi
    rw [e_X3_sortIn_2]
    simp only [zgI_ok dl.1, d.2.2.2, dl.f1, dl.f2, rt i hi, rs, Option.bind_some]
    simp only [(nI_ltI (a := i) (b := fs.length) (by omega) (by omega)), hi, if_true]
    rw [zif_ok we.1, s_compareWith we hw, Option.bind_some, nI_1]
    dsimp only
    by_cases c1 : wcmp (fs.getD i []) w < 0
    · right
      rw [if_pos c1]
      refine ⟨g, rfl, rfl, fun j hj2 => ?_⟩
      by_cases ej : j = i
      · subst ej; exact (wcmp_wlt _ _).mp c1
      · exact hj j (by omega)
    · left
      rw [if_neg c1]
      have hlt : wlt (fs.getD i []) w = false := by
        cases hq : wlt (fs.getD i []) w with
        | false => rfl
        | true => exact absurd ((wcmp_wlt _ _).mpr hq) c1
      simp only [zgI_ok dl.1, d.2.2.2, dl.f1, dl.f2, rt i hi, rs, Option.bind_some]
      simp only [(nI_ltI (a := i) (b := fs.length) (by omega) (by omega)), hi, if_true]
      rw [zif_ok we.1, s_isAlike we hw, Option.bind_some]
      dsimp only
      simp only [zgI_ok dl.1, d.2.2.2, dl.f1, dl.f2, rt i hi, rs, Option.bind_some]
      by_cases c2 : fs.getD i [] = w
      · simp only [c2, if_true]
        rw [if_neg (by decide)]
        have ei := insU_at w fs i (by omega) hj (fun _ => hlt)
        rw [if_pos ⟨hi, c2⟩] at ei
        exact ⟨g, π, rfl, zGr.rf, fun _ _ => rfl, by rw [ei]; exact d, by rw [ei]; exact e, hw⟩
      · simp only [c2, if_false, if_true]
        rw [if_pos (by rw [n60, nI_ltI (by omega) (by omega)]; omega)]
        exact fin i (by omega) hj (fun _ => hlt) (fun z => c2 z.2)
  · rintro g ⟨rfl, hj⟩
    rw [e_X3_sortIn_2]
    simp only [zgI_ok dl.1, d.2.2.2, dl.f1, dl.f2, rs, Option.bind_some]
    simp only [(nI_ltI (a := fs.length) (b := fs.length) (by omega) (by omega)), Nat.lt_irrefl, if_false]
    rw [if_pos (by rw [n60, nI_ltI (by omega) (by omega)]; omega)]
    exact fin fs.length (Nat.le_refl _) hj (fun z => absurd z (Nat.lt_irrefl _)) (fun z => absurd z.1 (Nat.lt_irrefl _))
