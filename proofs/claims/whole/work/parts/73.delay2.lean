/-! Two delays a pair: if nothing shows, every word has one output. -/
theorem growG_ne {F : Nat × Nat → Bool} {M N : zMa} {l : Nat} {g : zGp} {Gs : List zGp} (h : ∀ x ∈ Gs, x.1 ≠ []) : ∀ x ∈ growG F M N l g Gs, x.1 ≠ [] := by
  unfold growG
  obtain ⟨t, e⟩ := xGr_pre F M N l (allK Gs) g.1
  split
  · exact h
  · rename_i c
    intro x hx
    rcases List.mem_append.mp hx with q | q
    · exact h x q
    · rw [List.mem_singleton.mp q]
      intro z
      apply c
      have z2 : (xGr F M N l (allK Gs) g.1).drop (allK Gs).length = [] := z
      rw [e] at z2 ⊢
      rw [List.drop_left] at z2
      rw [z2, List.append_nil]
theorem seqG_ne {F : Nat × Nat → Bool} {M N : zMa} (i : Nat) : ∀ x ∈ seqG F M N i, x.1 ≠ [] :=
  qSeq_inv (P := fun Gs : List zGp => ∀ x ∈ Gs, x.1 ≠ []) (by
    unfold iniG
    split
    · intro x hx; cases hx
    · rename_i c
      intro x hx
      rw [List.mem_singleton.mp hx]
      intro z
      exact c (by rw [show iniK F M N = [] from z]; rfl)) (fun g Gs _ h => growG_ne (growG_ne (growG_ne h))) i
theorem len_allK : ∀ (Gs : List zGp), (∀ x ∈ Gs, x.1 ≠ []) → Gs.length ≤ (allK Gs).length
  | [], _ => Nat.le_refl _
  | g :: Gs, h => by
    have := len_allK Gs (fun x hx => h x (List.mem_cons_of_mem _ hx))
    have h1 : 0 < g.1.length := List.length_pos_iff.mpr (h g List.mem_cons_self)
    show Gs.length + 1 ≤ (allK (g :: Gs)).length
    unfold allK at *
    rw [List.flatMap_cons, List.length_append]
    omega
theorem seqG_72 {F : Nat × Nat → Bool} {M N : zMa} (kM : MaOk M) (kN : MaOk N) (i : Nat) : (seqG F M N i).length ≤ 72 ∧ (allK (seqG F M N i)).length ≤ 72 := by
  have h1 := two_72 kM kN (seqG_ok (F := F) kM kN i) (seqG_two i)
  have h2 := len_allK _ (seqG_ne (F := F) (M := M) (N := N) i)
  omega
theorem mem_allK {Gs : List zGp} {c : zCf} : c ∈ allK Gs ↔ ∃ g ∈ Gs, c ∈ g.1 := by unfold allK; rw [List.mem_flatMap]
/-- behind the turn of a group all that follows by a letter is there, or needn't be -/
theorem xGr_rej {M N : zMa} {l : Nat} {K cs : List zCf} {c : zCf} {a b : zArc} (hc : c ∈ cs) (ha : a ∈ M.2.2.2) (hb : b ∈ N.2.2.2) (a1 : a.1 = c.1.1 ∧ a.2.1 = l) (b1 : b.1 = c.1.2 ∧ b.2.1 = l) : rejC (xGr (fun _ => true) M N l K cs) (stpC c a b) = true := by
  have up : ∀ {K K' : List zCf}, (∃ t, K' = K ++ t) → rejC K (stpC c a b) = true → rejC K' (stpC c a b) = true := by
    rintro K K' ⟨t, rfl⟩ h
    exact rejC_up h
  have s1 : ∀ K, rejC (xArc2 (fun _ => true) l c a K b) (stpC c a b) = true := fun K => by
    unfold xArc2
    rw [if_pos b1]
    exact rejC_add _ _
  have s2 : ∀ (bs : List zArc) K, b ∈ bs → rejC (bs.foldl (xArc2 (fun _ => true) l c a) K) (stpC c a b) = true := by
    intro bs
    induction bs with
    | nil => intro K h; cases h
    | cons x bs ih =>
      intro K h
      rcases List.mem_cons.mp h with e | e
      · subst e
        rw [List.foldl_cons]
        exact up (foldl_pre (fun K b => xArc2_pre _ l c a K b) bs _) (s1 K)
      · exact ih _ e
  have s3 : ∀ (as : List zArc) K, a ∈ as → rejC (as.foldl (xArc (fun _ => true) N l c) K) (stpC c a b) = true := by
    intro as
    induction as with
    | nil => intro K h; cases h
    | cons x as ih =>
      intro K h
      rcases List.mem_cons.mp h with e | e
      · subst e
        rw [List.foldl_cons]
        refine up (foldl_pre (fun K b => xArc_pre _ N l c K b) as _) ?_
        unfold xArc
        rw [if_pos a1]
        exact s2 _ _ hb
      · exact ih _ e
  have s4 : ∀ (cs : List zCf) K, c ∈ cs → rejC (cs.foldl (xCf (fun _ => true) M N l) K) (stpC c a b) = true := by
    intro cs
    induction cs with
    | nil => intro K h; cases h
    | cons x cs ih =>
      intro K h
      rcases List.mem_cons.mp h with e | e
      · subst e
        rw [List.foldl_cons]
        exact up (foldl_pre (fun K b => xCf_pre _ M N l K b) cs _) (s3 _ _ ha)
      · exact ih _ e
  exact s4 cs K hc
abbrev FT : Nat × Nat → Bool := fun _ => true
/-- nothing more comes -/
theorem seqG_closed {M N : zMa} (kM : MaOk M) (kN : MaOk N) {c : zCf} {a b : zArc} (hc : c ∈ allK (seqG FT M N 73)) (ha : a ∈ M.2.2.2) (hb : b ∈ N.2.2.2) (h1 : a.1 = c.1.1) (h2 : b.1 = c.1.2) (h3 : a.2.1 = b.2.1) : rejC (allK (seqG FT M N 73)) (stpC c a b) = true := by
  obtain ⟨g, hg, hcg⟩ := mem_allK.mp hc
  obtain ⟨k, hk, e⟩ := List.mem_iff_getElem.mp hg
  have hk72 := (seqG_72 (F := FT) kM kN 73).1
  obtain ⟨e1, e2⟩ := qSeq_turn (stepG_pre FT M N) (j := 73) (k := k) (e := g) (by rw [List.getElem?_eq_getElem hk, e])
  have hl := (kM.2.2.2.2 a ha).2.1
  obtain ⟨t, e3⟩ := qSeq_pre (s0 := iniG FT M N) (stepG_pre FT M N) (k + 1) (73 - (k + 1))
  rw [show k + 1 + (73 - (k + 1)) = 73 by omega] at e3
  have e4 : allK (seqG FT M N 73) = allK (seqG FT M N (k + 1)) ++ allK t := by
    show allK (qSeq _ _ 73) = _
    rw [e3]
    unfold allK
    rw [List.flatMap_append]
  rw [e4]
  refine rejC_up ?_
  show rejC (allK (qSeq _ _ (k + 1))) _ = true
  rw [e2, stepG_allK]
  rcases (show a.2.1 = 1 ∨ a.2.1 = 2 ∨ a.2.1 = 3 by omega) with q | q | q
  · have s := xGr_rej (K := allK (seqG FT M N k)) hcg ha hb ⟨h1, q⟩ ⟨h2, by rw [← h3]; exact q⟩
    obtain ⟨t2, p2⟩ := xGr_pre FT M N 2 (xGr FT M N 1 (allK (seqG FT M N k)) g.1) g.1
    obtain ⟨t3, p3⟩ := xGr_pre FT M N 3 (xGr FT M N 2 (xGr FT M N 1 (allK (seqG FT M N k)) g.1) g.1) g.1
    rw [p3, p2]
    exact rejC_up (rejC_up s)
  · have s := xGr_rej (K := xGr FT M N 1 (allK (seqG FT M N k)) g.1) hcg ha hb ⟨h1, q⟩ ⟨h2, by rw [← h3]; exact q⟩
    obtain ⟨t3, p3⟩ := xGr_pre FT M N 3 (xGr FT M N 2 (xGr FT M N 1 (allK (seqG FT M N k)) g.1) g.1) g.1
    rw [p3]
    exact rejC_up s
  · exact xGr_rej hcg ha hb ⟨h1, q⟩ ⟨h2, by rw [← h3]; exact q⟩
theorem iniK_rej {M N : zMa} {p q : Nat} (hp : p ∈ begs M) (hq : q ∈ begs N) : rejC (iniK FT M N) ((p, q), [], []) = true := by
  have s : ∀ (cs : List zCf) K, ((p, q), [], []) ∈ cs → rejC (cs.foldl (addC FT) K) ((p, q), [], []) = true := by
    intro cs
    induction cs with
    | nil => intro K h; cases h
    | cons x cs ih =>
      intro K h
      rcases List.mem_cons.mp h with e | e
      · subst e
        rw [List.foldl_cons]
        obtain ⟨t, e⟩ := foldl_pre (fun K c => addC_pre FT K c) cs (addC FT K ((p, q), [], []))
        rw [e]
        exact rejC_up (rejC_add _ _)
      · exact ih _ e
  exact s _ _ (mem_iniC.mpr ⟨hp, hq, rfl⟩)
theorem seqG_rej0 {M N : zMa} {p q : Nat} (hp : p ∈ begs M) (hq : q ∈ begs N) : rejC (allK (seqG FT M N 73)) ((p, q), [], []) = true := by
  obtain ⟨t, e⟩ := qSeq_pre (s0 := iniG FT M N) (stepG_pre FT M N) 0 73
  have e4 : allK (seqG FT M N 73) = iniK FT M N ++ allK t := by
    show allK (qSeq _ _ 73) = _
    rw [show (73 : Nat) = 0 + 73 by rfl, e]
    unfold allK
    rw [List.flatMap_append]
    show allK (iniG FT M N) ++ _ = _
    rw [allK_ini]
  rw [e4]
  exact rejC_up (iniK_rej hp hq)
/-- what may be read from a state on, with what is written -/
def wayO (M : zMa) : List Nat → Nat → zWo → Prop
  | [], q, y => ∃ e, M.2.2.1 q = some e ∧ y = dgs e
  | l :: w, q, y => ∃ a ∈ M.2.2.2, a.1 = q ∧ a.2.1 = l ∧ ∃ y', wayO M w a.2.2.1 y' ∧ y = dgs a.2.2.2 ++ y'
theorem lcp_split : ∀ u v : zWo, ∃ P, u = P ++ u.drop (lcp u v) ∧ v = P ++ v.drop (lcp u v)
  | [], v => ⟨[], by simp [lcp], by simp [lcp]⟩
  | x :: xs, [] => ⟨[], by simp [lcp], by simp [lcp]⟩
  | x :: xs, y :: ys => by
    by_cases h : x = y
    · obtain ⟨P, a, b⟩ := lcp_split xs ys
      rw [lcp, if_pos h]
      refine ⟨x :: P, ?_, ?_⟩
      · rw [List.drop_succ_cons, List.cons_append, ← a]
      · rw [List.drop_succ_cons, List.cons_append, ← b, h]
    · rw [lcp, if_neg h]
      exact ⟨[], rfl, rfl⟩
/-- apart stays apart -/
theorem apart_ne {u v x y : zWo} (h : lcp u v = 0) (hu : 0 < u.length) (hv : 0 < v.length) : u ++ x ≠ v ++ y := by
  cases u with
  | nil => simp at hu
  | cons a as =>
    cases v with
    | nil => simp at hv
    | cons b bs =>
      intro e
      have : a = b := by
        have := congrArg List.head? e
        simpa using this
      rw [lcp, if_pos this] at h
      omega
theorem apt_iff {c : zCf} : apt c = true ↔ 0 < c.2.1.length ∧ 0 < c.2.2.length := by unfold apt; rw [decide_eq_true_eq]
/-- two delays that are not apart, with one pair of words behind -/
theorem two_delays {u1 v1 u2 v2 x y : zWo} (h1 : u1 = [] ∨ v1 = []) (h2 : u2 = [] ∨ v2 = []) (e1 : u1 ++ x = v1 ++ y) (e2 : u2 ++ x = v2 ++ y) : u1 = u2 ∧ v1 = v2 := by
  have l1 := congrArg List.length e1
  have l2 := congrArg List.length e2
  rw [List.length_append, List.length_append] at l1 l2
  rcases h1 with rfl | rfl
  · rcases h2 with rfl | rfl
    · refine ⟨rfl, ?_⟩
      exact List.append_cancel_right (e1.symm.trans e2)
    · have z1 : v1 = [] := List.length_eq_zero_iff.mp (by simp at l1 l2; omega)
      have z2 : u2 = [] := List.length_eq_zero_iff.mp (by simp at l1 l2; omega)
      rw [z1, z2]
      exact ⟨rfl, rfl⟩
  · rcases h2 with rfl | rfl
    · have z1 : u1 = [] := List.length_eq_zero_iff.mp (by simp at l1 l2; omega)
      have z2 : v2 = [] := List.length_eq_zero_iff.mp (by simp at l1 l2; omega)
      rw [z1, z2]
      exact ⟨rfl, rfl⟩
    · exact ⟨List.append_cancel_right (e1.trans e2.symm), rfl⟩
theorem not_apt {c : zCf} (h : apt c = false) : c.2.1 = [] ∨ c.2.2 = [] := by
  by_cases a : c.2.1 = []
  · exact Or.inl a
  · by_cases b : c.2.2 = []
    · exact Or.inr b
    · have := apt_iff.mpr ⟨List.length_pos_iff.mpr a, List.length_pos_iff.mpr b⟩
      rw [this] at h
      cases h
/-- of a set that is closed and shows nothing: whatever is read on is written alike -/
theorem delays_tell {M N : zMa} {K : List zCf} (hK : kOk M N K) (hcl : ∀ c a b, c ∈ K → a ∈ M.2.2.2 → b ∈ N.2.2.2 → a.1 = c.1.1 → b.1 = c.1.2 → a.2.1 = b.2.1 → rejC K (stpC c a b) = true) (hs : ∀ c ∈ K, endC M N c = false) :
    ∀ (w : List Nat) (c : zCf) (x y : zWo), c ∈ K → wayO M w c.1.1 x → wayO N w c.1.2 y → c.2.1 ++ x = c.2.2 ++ y
  | [], c, x, y, hc, ⟨e, he, hx⟩, ⟨f, hf, hy⟩ => by
    have := hs c hc
    unfold endC at this
    rw [he, hf] at this
    rw [hx, hy]
    simpa using this
  | l :: w, c, x, y, hc, ⟨a, ha, a1, a2, x', hx', hx⟩, ⟨b, hb, b1, b2, y', hy', hy⟩ => by
    have hr := hcl c a b hc ha hb a1 b1 (by rw [a2, b2])
    have ih := delays_tell hK hcl hs w
    obtain ⟨P, p1, p2⟩ := lcp_split (c.2.1 ++ dgs a.2.2.2) (c.2.2 ++ dgs b.2.2.2)
    have goal : (dlyD (c.2.1 ++ dgs a.2.2.2) (c.2.2 ++ dgs b.2.2.2)).1 ++ x' = (dlyD (c.2.1 ++ dgs a.2.2.2) (c.2.2 ++ dgs b.2.2.2)).2 ++ y' → c.2.1 ++ x = c.2.2 ++ y := by
      intro z
      have z2 : P ++ ((dlyD (c.2.1 ++ dgs a.2.2.2) (c.2.2 ++ dgs b.2.2.2)).1 ++ x') = P ++ ((dlyD (c.2.1 ++ dgs a.2.2.2) (c.2.2 ++ dgs b.2.2.2)).2 ++ y') := congrArg (P ++ ·) z
      rw [← List.append_assoc, ← List.append_assoc] at z2
      have p1' : P ++ (dlyD (c.2.1 ++ dgs a.2.2.2) (c.2.2 ++ dgs b.2.2.2)).1 = c.2.1 ++ dgs a.2.2.2 := p1.symm
      have p2' : P ++ (dlyD (c.2.1 ++ dgs a.2.2.2) (c.2.2 ++ dgs b.2.2.2)).2 = c.2.2 ++ dgs b.2.2.2 := p2.symm
      rw [p1', p2'] at z2
      rw [hx, hy, ← List.append_assoc, ← List.append_assoc]
      exact z2
    have no : ∀ k ∈ K, k.1 = (stpC c a b).1 → apt k = true → False := by
      intro k hk e ap
      have z := ih k x' y' hk (by rw [e]; exact hx') (by rw [e]; exact hy')
      obtain ⟨q1, q2⟩ := apt_iff.mp ap
      exact apart_ne (hK.1 k hk).2.2 q1 q2 z
    unfold rejC at hr
    rw [Bool.or_eq_true, decide_eq_true_eq] at hr
    rcases hr with hr | hr
    · exfalso
      obtain ⟨k1, k2, m1, m2, e1, e2, n1, n2⟩ := pair_two hK.2 (stpC c a b).1 hr
      have z1 := ih k1 x' y' m1 (by rw [e1]; exact hx') (by rw [e1]; exact hy')
      have z2 := ih k2 x' y' m2 (by rw [e2]; exact hx') (by rw [e2]; exact hy')
      cases ap : apt k2 with
      | true => exact no k2 m2 e2 ap
      | false =>
        obtain ⟨q1, q2⟩ := two_delays (not_apt n1) (not_apt ap) z1 z2
        exact n2 (Prod.ext (e1.trans e2.symm) (Prod.ext q1 q2))
    · obtain ⟨k, hk, q⟩ := List.any_eq_true.mp hr
      rw [Bool.and_eq_true, Bool.or_eq_true, decide_eq_true_eq, decide_eq_true_eq] at q
      obtain ⟨e, q⟩ := q
      rcases q with ap | rfl
      · exact absurd ap (fun z => no k hk e z)
      · have z := ih _ x' y' hk hx' hy'
        by_cases ap : 0 < (dlyD (c.2.1 ++ dgs a.2.2.2) (c.2.2 ++ dgs b.2.2.2)).1.length ∧ 0 < (dlyD (c.2.1 ++ dgs a.2.2.2) (c.2.2 ++ dgs b.2.2.2)).2.length
        · exfalso
          refine no _ hk rfl (apt_iff.mpr ?_)
          show 0 < (cutD _).1.length ∧ 0 < (cutD _).2.length
          unfold cutD
          rw [if_pos ap]
          simp only [List.length_take]
          omega
        · apply goal
          have z' : (cutD (dlyD (c.2.1 ++ dgs a.2.2.2) (c.2.2 ++ dgs b.2.2.2))).1 ++ x' = (cutD (dlyD (c.2.1 ++ dgs a.2.2.2) (c.2.2 ++ dgs b.2.2.2))).2 ++ y' := z
          unfold cutD at z'
          rw [if_neg ap] at z'
          exact z'
/-- FUNCTIONAL: no word has two outputs -/
theorem functional_of {M : zMa} (k : MaOk M) (h : difW FT M M = none) {w : List Nat} {p q : Nat} {x y : zWo} (hp : p ∈ begs M) (hq : q ∈ begs M) (hx : wayO M w p x) (hy : wayO M w q y) : x = y := by
  have hK := seqG_ok (F := FT) k k 73
  have hcl : ∀ c a b, c ∈ allK (seqG FT M M 73) → a ∈ M.2.2.2 → b ∈ M.2.2.2 → a.1 = c.1.1 → b.1 = c.1.2 → a.2.1 = b.2.1 → rejC (allK (seqG FT M M 73)) (stpC c a b) = true := fun c a b hc ha hb h1 h2 h3 => seqG_closed k k hc ha hb h1 h2 h3
  have hs : ∀ c ∈ allK (seqG FT M M 73), endC M M c = false := by
    intro c hc
    obtain ⟨g, hg, hcg⟩ := mem_allK.mp hc
    unfold difW at h
    rw [Option.map_eq_none_iff, List.find?_eq_none] at h
    have := h g hg
    unfold shwG at this
    rw [Bool.not_eq_true, List.any_eq_false] at this
    simpa using this c hcg
  have tell := delays_tell hK hcl hs w
  have hr := seqG_rej0 hp hq
  unfold rejC at hr
  rw [Bool.or_eq_true, decide_eq_true_eq] at hr
  have no : ∀ k ∈ allK (seqG FT M M 73), k.1 = (p, q) → apt k = true → False := by
    intro k hk e ap
    have z := tell k x y hk (by rw [e]; exact hx) (by rw [e]; exact hy)
    obtain ⟨q1, q2⟩ := apt_iff.mp ap
    exact apart_ne (hK.1 k hk).2.2 q1 q2 z
  rcases hr with hr | hr
  · exfalso
    obtain ⟨k1, k2, m1, m2, e1, e2, n1, n2⟩ := pair_two hK.2 (p, q) hr
    have z1 := tell k1 x y m1 (by rw [e1]; exact hx) (by rw [e1]; exact hy)
    have z2 := tell k2 x y m2 (by rw [e2]; exact hx) (by rw [e2]; exact hy)
    cases ap : apt k2 with
    | true => exact no k2 m2 e2 ap
    | false =>
      obtain ⟨q1, q2⟩ := two_delays (not_apt n1) (not_apt ap) z1 z2
      exact n2 (Prod.ext (e1.trans e2.symm) (Prod.ext q1 q2))
  · obtain ⟨k, hk, q⟩ := List.any_eq_true.mp hr
    rw [Bool.and_eq_true, Bool.or_eq_true, decide_eq_true_eq, decide_eq_true_eq] at q
    obtain ⟨e, q⟩ := q
    rcases q with ap | rfl
    · exact absurd ap (fun z => no k hk e z)
    · simpa using tell _ x y hk hx hy
