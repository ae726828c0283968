/-! The two least outputs of a word; the class Witness. -/
def ofA (S G : List zWo) (e : Nat) : List zWo := S.foldl (fun g x => ins2 (x ++ dgs e) g) G
abbrev zTl : Type := Nat → List zWo
def wtF (c : Nat) (now B : zTl) (a : zArc) : zTl := if a.2.1 = c then va_up B a.2.2.1 (ofA (now a.1) (B a.2.2.1) a.2.2.2) else B
def wtStep (M : zMa) (now : zTl) (c : Nat) : zTl := M.2.2.2.foldl (wtF c now) (fun _ => [])
def wtIni (M : zMa) : zTl := fun q => if M.2.1.testBit q then [[]] else []
def wtE (M : zMa) (now : zTl) (g : List zWo) (q : Nat) : List zWo := match M.2.2.1 q with
  | some e => ofA (now q) g e
  | none => g
def wtTot (M : zMa) (now : zTl) : List zWo := (List.range M.1).foldl (wtE M now) []
def wtOut (M : zMa) (us : List Nat) : List zWo := wtTot M (us.foldl (wtStep M) (wtIni M))
/-- two words a state at most, of three letters a letter at most -/
def tlOk (k : Nat) (T : zTl) : Prop := ∀ q, (T q).length ≤ 2 ∧ ∀ x ∈ T q, x.length ≤ k ∧ LOk x
theorem ofA_ok {S G : List zWo} {e k : Nat} (hS : ∀ x ∈ S, x.length ≤ k ∧ LOk x) (he : wOk e) (hG : G.length ≤ 2 ∧ ∀ x ∈ G, x.length ≤ k + 3 ∧ LOk x) : (ofA S G e).length ≤ 2 ∧ ∀ x ∈ ofA S G e, x.length ≤ k + 3 ∧ LOk x := by
  unfold ofA
  refine foldl_inv (P := fun G : List zWo => G.length ≤ 2 ∧ ∀ x ∈ G, x.length ≤ k + 3 ∧ LOk x) (fun g x hx h => ⟨ins2_len _ _, fun y hy => ?_⟩) hG
  rcases ins2_mem hy with z | z
  · rw [z, List.length_append]
    have := hS x hx
    have := he.len
    exact ⟨by omega, (hS x hx).2.app he.dig⟩
  · exact h.2 y z
theorem wtF_ok {M : zMa} (k : MaOk M) {c n : Nat} {now B : zTl} {a : zArc} (hn : tlOk n now) (hB : tlOk (n + 3) B) (ha : a ∈ M.2.2.2) : tlOk (n + 3) (wtF c now B a) := by
  unfold wtF
  split
  · intro q
    by_cases e : q = a.2.2.1
    · subst e
      rw [up_at]
      exact ofA_ok (hn a.1).2 (k.2.2.2.2 a ha).2.2.2 (hB a.2.2.1)
    · rw [va_up_ne _ _ e]
      exact hB q
  · exact hB
theorem wtStep_ok {M : zMa} (k : MaOk M) {c n : Nat} {now : zTl} (hn : tlOk n now) : tlOk (n + 3) (wtStep M now c) :=
  foldl_inv (P := tlOk (n + 3)) (fun B a ha h => wtF_ok k hn h ha) (fun q => ⟨by simp, fun x hx => by cases hx⟩)
theorem wtIni_ok (M : zMa) : tlOk 0 (wtIni M) := fun q => by
  unfold wtIni
  split
  · refine ⟨by simp, fun x hx => ?_⟩
    rw [List.mem_singleton.mp hx]
    exact ⟨Nat.le_refl _, LOk.nil⟩
  · exact ⟨by simp, fun x hx => by cases hx⟩
theorem wtRun_ok {M : zMa} (k : MaOk M) : ∀ (us : List Nat) (n : Nat) (now : zTl), tlOk n now → tlOk (n + 3 * us.length) (us.foldl (wtStep M) now)
  | [], n, now, h => h
  | u :: us, n, now, h => by
    have := wtRun_ok k us (n + 3) _ (wtStep_ok k (c := u) h)
    rw [List.foldl_cons, List.length_cons, show n + 3 * (us.length + 1) = n + 3 + 3 * us.length by omega]
    exact this
theorem wtE_ok {M : zMa} (k : MaOk M) {n q : Nat} {now : zTl} {g : List zWo} (hn : tlOk n now) (hg : g.length ≤ 2 ∧ ∀ x ∈ g, x.length ≤ n + 3 ∧ LOk x) : (wtE M now g q).length ≤ 2 ∧ ∀ x ∈ wtE M now g q, x.length ≤ n + 3 ∧ LOk x := by
  unfold wtE
  split
  · rename_i e he
    exact ofA_ok (hn q).2 (k.2.2.1 q e he).2 hg
  · exact hg
theorem wtOut_ok {M : zMa} (k : MaOk M) (us : List Nat) : (wtOut M us).length ≤ 2 ∧ ∀ x ∈ wtOut M us, x.length ≤ 3 * us.length + 3 ∧ LOk x := by
  have := wtRun_ok k us 0 _ (wtIni_ok M)
  rw [Nat.zero_add] at this
  exact foldl_inv (P := fun g : List zWo => g.length ≤ 2 ∧ ∀ x ∈ g, x.length ≤ 3 * us.length + 3 ∧ LOk x) (fun g q _ h => wtE_ok k this h) ⟨by simp, fun x hx => by cases hx⟩
-- the object
def tl (w b q : Nat) : Nat := w + (5 * b - 62) + 10 * q
def WL (h : zM) (w b1 b2 : Nat) : Prop := zK h w = 10 ∧ (zF h w 1 = w + 1 ∧ zF h w 2 = w + 3 ∧ zF h w 3 = w + 8 ∧ zF h w 4 = w + 9 ∧ zF h w 5 = w + 14 ∧ zF h w 6 = w + b1 ∧ zF h w 7 = w + b2) ∧ (zK h (w + 3) = 104 ∧ zN h (w + 3) = 2 ∧ ∀ t, t < 2 → zF h (w + 3) t = w + 4 + 2 * t) ∧ (zK h (w + 8) = 103 ∧ zN h (w + 8) = 2) ∧
  (∀ b, b = 16 ∨ b = 17 → zK h (w + b) = 107 ∧ zN h (w + b) = 6 ∧ ∀ q, q < 6 → zF h (w + b) q = tl w b q) ∧ ((b1 = 16 ∧ b2 = 17) ∨ (b1 = 17 ∧ b2 = 16))
section WLR
variable {h h' : zM} {w b1 b2 : Nat}
theorem WL.keep {lo hi : Nat} (d : WL h w b1 b2) (f : zFr lo hi h h') : WL h' w b1 b2 := by
  obtain ⟨a, ⟨c1, c2, c3, c4, c5, c6, c7⟩, ⟨e1, e2, e3⟩, ⟨g1, g2⟩, i, j⟩ := d
  exact ⟨by rw [f.K]; exact a, ⟨by rw [f.F]; exact c1, by rw [f.F]; exact c2, by rw [f.F]; exact c3, by rw [f.F]; exact c4, by rw [f.F]; exact c5, by rw [f.F]; exact c6, by rw [f.F]; exact c7⟩, ⟨by rw [f.K]; exact e1, by rw [f.N]; exact e2, fun t ht => by rw [f.F]; exact e3 t ht⟩, ⟨by rw [f.K]; exact g1, by rw [f.N]; exact g2⟩, fun b hb => ⟨by rw [f.K]; exact (i b hb).1, by rw [f.N]; exact (i b hb).2.1, fun q hq => by rw [f.F]; exact (i b hb).2.2 q hq⟩, j⟩
theorem WL.eq (d : WL h w b1 b2) (f : zEq w (w + 18) h h') : WL h' w b1 b2 := by
  obtain ⟨a, ⟨c1, c2, c3, c4, c5, c6, c7⟩, ⟨e1, e2, e3⟩, ⟨g1, g2⟩, i, j⟩ := d
  have F : ∀ q k, w ≤ q → q < w + 18 → zF h' q k = zF h q k := fun q k x y => f.F x y k
  exact ⟨by rw [f.K]; exact a, ⟨by rw [F _ _ (by omega) (by omega)]; exact c1, by rw [F _ _ (by omega) (by omega)]; exact c2, by rw [F _ _ (by omega) (by omega)]; exact c3, by rw [F _ _ (by omega) (by omega)]; exact c4, by rw [F _ _ (by omega) (by omega)]; exact c5, by rw [F _ _ (by omega) (by omega)]; exact c6, by rw [F _ _ (by omega) (by omega)]; exact c7⟩, ⟨by rw [f.K]; exact e1, by rw [f.N]; exact e2, fun t ht => by rw [F _ _ (by omega) (by omega)]; exact e3 t ht⟩, ⟨by rw [f.K]; exact g1, by rw [f.N]; exact g2⟩, fun b hb => ⟨by rw [f.K]; exact (i b hb).1, by rw [f.N]; exact (i b hb).2.1, fun q hq => by rw [F _ _ (by omega) (by omega)]; exact (i b hb).2.2 q hq⟩, j⟩
theorem WL.g1 (d : WL h w b1 b2) : zgF h w 9 1 = some (w + 1) := (zgF_ok d.1).trans (congrArg some d.2.1.1)
theorem WL.g2 (d : WL h w b1 b2) : zgF h w 9 2 = some (w + 3) := (zgF_ok d.1).trans (congrArg some d.2.1.2.1)
theorem WL.g3 (d : WL h w b1 b2) : zgF h w 9 3 = some (w + 8) := (zgF_ok d.1).trans (congrArg some d.2.1.2.2.1)
theorem WL.g4 (d : WL h w b1 b2) : zgF h w 9 4 = some (w + 9) := (zgF_ok d.1).trans (congrArg some d.2.1.2.2.2.1)
theorem WL.g5 (d : WL h w b1 b2) : zgF h w 9 5 = some (w + 14) := (zgF_ok d.1).trans (congrArg some d.2.1.2.2.2.2.1)
theorem WL.g6 (d : WL h w b1 b2) : zgF h w 9 6 = some (w + b1) := (zgF_ok d.1).trans (congrArg some d.2.1.2.2.2.2.2.1)
theorem WL.g7 (d : WL h w b1 b2) : zgF h w 9 7 = some (w + b2) := (zgF_ok d.1).trans (congrArg some d.2.1.2.2.2.2.2.2)
theorem WL.b (d : WL h w b1 b2) : (b1 = 16 ∨ b1 = 17) ∧ (b2 = 16 ∨ b2 = 17) ∧ b1 ≠ b2 := by have := d.2.2.2.2.2; omega
theorem WL.el (d : WL h w b1 b2) {b q : Nat} (hb : b = 16 ∨ b = 17) (hq : q < 6) : zaa h (w + b) (nI q) = some (tl w b q) := by
  obtain ⟨k1, k2, k3⟩ := d.2.2.2.2.1 b hb
  rw [zaa_ok (by rw [k1]; omega) (by rw [k2]; exact hq) (by rw [k2]; omega), k3 q hq]
theorem WL.wr (d : WL h w b1 b2) {t : Nat} (ht : t < 2) : zaa h (w + 3) (nI t) = some (w + 4 + 2 * t) := by
  obtain ⟨k1, k2, k3⟩ := d.2.2.1
  rw [zaa_ok (by rw [k1]; omega) (by rw [k2]; exact ht) (by rw [k2]; omega), k3 t ht]
end WLR
/-- now and behind, the candidate's place, the total's -/
def WA (h : zM) (w b1 b2 : Nat) (now beh : zTl) (tot : List zWo) : Prop := WL h w b1 b2 ∧ (∀ q, q < 6 → TLC h (tl w b1 q) 387 (now q)) ∧ (∀ q, q < 6 → TLC h (tl w b2 q) 387 (beh q)) ∧ TLC h (w + 9) 387 tot ∧ ∃ u, Wd h (w + 14) 387 u
theorem tl_in {w b q : Nat} (hb : b = 16 ∨ b = 17) (hq : q < 6) : w + 18 ≤ tl w b q ∧ tl w b q + 5 ≤ w + 78 := by unfold tl; omega
theorem tl_ne {w b b' q q' : Nat} (hb : b = 16 ∨ b = 17) (hb' : b' = 16 ∨ b' = 17) (h : b ≠ b' ∨ q ≠ q') : tl w b q + 5 ≤ tl w b' q' ∨ tl w b' q' + 5 ≤ tl w b q := by unfold tl; omega
/-- what changes when words are offered to g -/
def ofQ (w b1 b2 s g : Nat) (S G : List zWo) (h h' : zM) : Prop := (∀ a b, (b ≤ g ∨ g + 5 ≤ a) → (b ≤ w + 14 ∨ w + 16 ≤ a) → zEq a b h h') ∧ h'.1 = h.1 ∧ h'.2.2.2 = h.2.2.2 ∧ WL h' w b1 b2 ∧ TLC h' s 387 S ∧ TLC h' g 387 G ∧ ∃ u, Wd h' (w + 14) 387 u
theorem s_offerOne {z : zM} {w b1 b2 s g e j : Nat} {S G : List zWo} {x : zWo} (hsg : s + 5 ≤ g ∨ g + 5 ≤ s) (hsw : s + 5 ≤ w + 14 ∨ w + 16 ≤ s) (hgw : g + 5 ≤ w + 14 ∨ w + 16 ≤ g) (he : wOk e) (hxm : x.length ≤ 384) (dz : WL z w b1 b2) (sz : TLC z s 387 S) (gz : TLC z g 387 G) (hu : ∃ u, Wd z (w + 14) 387 u) (hx : S[j]? = some x) (hj : j < 2) :
    ∃ z1 z2 z3, zgF z w 9 5 = some (w + 14) ∧ zgF z s 8 (j + 1) = some (s + 1 + 2 * j) ∧ zK z (w + 14) = 11 ∧ zf nX10_become [.inr (w + 14), .inr (s + 1 + 2 * j)] z = some (0, 0, z1) ∧ zgF z1 w 9 5 = some (w + 14) ∧ zK z1 (w + 14) = 11 ∧ zf nX10_addNumber [.inr (w + 14), .inl (nI e)] z1 = some (0, 0, z2) ∧ zgF z2 w 9 5 = some (w + 14) ∧ zK z2 g = 9 ∧ zf nX8_offer [.inr g, .inr (w + 14)] z2 = some (0, 0, z3) ∧ ofQ w b1 b2 s g S (ins2 (x ++ dgs e) G) z z3 := by
  have e9 := he.lt
  have e3 := he.len
  obtain ⟨u, hu⟩ := hu
  have src : zgF z s 8 (j + 1) = some (s + 1 + 2 * j) ∧ Wd z (s + 1 + 2 * j) 387 x := by
    rcases (show j = 0 ∨ j = 1 by omega) with rfl | rfl
    · obtain ⟨u1, k1, k2⟩ := sz.2.2.2.1
      rw [k2 x hx] at k1
      exact ⟨sz.f1, k1⟩
    · obtain ⟨u1, k1, k2⟩ := sz.2.2.2.2
      rw [k2 x hx] at k1
      exact ⟨sz.f2, k1⟩
  obtain ⟨z1, a1, a2, a3⟩ := s_become hu src.2 (by omega)
  rw [List.take_of_length_le (by omega)] at a3
  have d1 := dz.keep a2
  obtain ⟨z2, c1, c2, c3⟩ := s_addNumber a3 (nI e)
  rw [dn_nI (by omega), List.take_of_length_le (by rw [List.length_append]; omega)] at c3
  have d2 := d1.keep c2
  have g2 := (gz.keep a2 (by omega)).keep c2 (by omega)
  obtain ⟨z3, o1, o2, o3⟩ := s_TLoffer g2 c3 (by rw [List.length_append]; omega) (by omega)
  refine ⟨z1, z2, z3, dz.g5, src.1, hu.1, a1, d1.g5, a3.1, c1, d2.g5, g2.1.1, o1, fun a b h1 h2 => (a2.eq (by omega)).tr ((c2.eq (by omega)).tr (o2.eq (by omega))), o2.1.trans (c2.1.trans a2.1), ?_, d2.keep o2, ((sz.keep a2 (by omega)).keep c2 (by omega)).keep o2 (by omega), o3, ⟨_, c3.keep o2 (by omega)⟩⟩
  funext q
  exact (o2.2.2 q).2.trans ((c2.2.2 q).2.trans (a2.2.2 q).2)
theorem s_offerAll {h : zM} {w b1 b2 s g e : Nat} {S G : List zWo} (d : WL h w b1 b2) (hs : TLC h s 387 S) (hg : TLC h g 387 G) (hu : ∃ u, Wd h (w + 14) 387 u) (hsg : s + 5 ≤ g ∨ g + 5 ≤ s) (hsw : s + 5 ≤ w + 14 ∨ w + 16 ≤ s) (hgw : g + 5 ≤ w + 14 ∨ w + 16 ≤ g) (he : wOk e) (hS : ∀ x ∈ S, x.length ≤ 384) :
    ∃ h', zf nX9_offerAll [.inr w, .inr s, .inl (nI e), .inr g] h = some (0, 0, h') ∧ ofQ w b1 b2 s g S (ofA S G e) h h' := by
  rw [e_X9_offerAll, hs.i0, Option.bind_some]
  match S, hs, hS with
  | [], hs, _ =>
    rw [if_neg (by decide), Option.bind_some, if_neg (by decide)]
    exact ⟨h, rfl, fun a b _ _ => zEq.rf, rfl, rfl, d, hs, hg, hu⟩
  | [x], hs, hS =>
    obtain ⟨z1, z2, z3, r1, r2, r3, r4, r5, r6, r7, r8, r9, r10, r11⟩ := s_offerOne hsg hsw hgw he (hS x List.mem_cons_self) d hs hg hu (j := 0) rfl (by decide)
    have i3 := r11.2.2.2.2.1.i0
    rw [len1] at i3
    rw [len1, if_pos (by decide), r1, Option.bind_some, r2, Option.bind_some, zif_ok r3, r4, Option.bind_some]
    dsimp only
    rw [r5, Option.bind_some, zif_ok r6, r7, Option.bind_some]
    dsimp only
    rw [r8, Option.bind_some, zif_ok r9, r10, Option.bind_some]
    dsimp only
    rw [i3, Option.bind_some, if_neg (by decide)]
    exact ⟨z3, rfl, r11⟩
  | [x, y], hs, hS =>
    obtain ⟨z1, z2, z3, r1, r2, r3, r4, r5, r6, r7, r8, r9, r10, r11⟩ := s_offerOne hsg hsw hgw he (hS x List.mem_cons_self) d hs hg hu (j := 0) rfl (by decide)
    obtain ⟨f1, f2, f3, d3, s3, g3, u3⟩ := r11
    have i3 := s3.i0
    rw [len2] at i3
    rw [len2, if_pos (by decide), r1, Option.bind_some, r2, Option.bind_some, zif_ok r3, r4, Option.bind_some]
    dsimp only
    rw [r5, Option.bind_some, zif_ok r6, r7, Option.bind_some]
    dsimp only
    rw [r8, Option.bind_some, zif_ok r9, r10, Option.bind_some]
    dsimp only
    rw [i3, Option.bind_some, if_pos (by decide)]
    obtain ⟨y1, y2, y3, q1, q2, q3, q4, q5, q6, q7, q8, q9, q10, q11⟩ := s_offerOne hsg hsw hgw he (hS y (List.mem_cons_of_mem _ List.mem_cons_self)) d3 s3 g3 u3 (j := 1) rfl (by decide)
    obtain ⟨k1, k2, k3, k4⟩ := q11
    rw [q1, Option.bind_some, q2, Option.bind_some, zif_ok q3, q4, Option.bind_some]
    dsimp only
    rw [q5, Option.bind_some, zif_ok q6, q7, Option.bind_some]
    dsimp only
    rw [q8, Option.bind_some, zif_ok q9, q10, Option.bind_some]
    exact ⟨y3, rfl, fun a b h1 h2 => (f1 a b h1 h2).tr (k1 a b h1 h2), k2.trans f2, k3.trans f3, k4⟩
  | x :: y :: z :: t, hs, _ => exact absurd hs.2.2.1 (by simp)
