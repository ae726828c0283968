/-! Sets: how they are made, and what holds of them. -/
def fdx {α : Type} (p : α → Bool) : List α → Nat
  | [] => 0
  | x :: xs => if p x then 0 else fdx p xs + 1
theorem fdx_le {α : Type} {p : α → Bool} : ∀ l : List α, fdx p l ≤ l.length
  | [] => Nat.le_refl _
  | x :: xs => by
    unfold fdx
    have := fdx_le (p := p) xs
    split <;> simp <;> omega
theorem fdx_at {α : Type} {p : α → Bool} : ∀ {l : List α} {k : Nat} {e : α}, l[k]? = some e → p e = true → (∀ (j : Nat) (x : α), j < k → l[j]? = some x → p x = false) → fdx p l = k
  | [], k, e, h, _, _ => by simp at h
  | x :: xs, 0, e, h, hp, _ => by
    have : x = e := by simpa using h
    subst this
    unfold fdx
    rw [if_pos hp]
  | x :: xs, k + 1, e, h, hp, hn => by
    have hx := hn 0 x (by omega) (by simp)
    unfold fdx
    rw [if_neg (by rw [hx]; decide), fdx_at (l := xs) (k := k) (by simpa using h) hp (fun j y hj hy => hn (j + 1) y (by omega) (by simpa using hy))]
theorem fdx_no {α : Type} {p : α → Bool} : ∀ {l : List α}, (∀ (j : Nat) (x : α), l[j]? = some x → p x = false) → fdx p l = l.length
  | [], _ => rfl
  | x :: xs, h => by
    unfold fdx
    rw [if_neg (by rw [h 0 x (by simp)]; decide), fdx_no (l := xs) (fun j y hy => h (j + 1) y (by simpa using hy))]
    rfl
theorem fdx_get {α : Type} {p : α → Bool} : ∀ {l : List α}, fdx p l < l.length → ∃ x, l[fdx p l]? = some x ∧ p x = true
  | [], h => by simp at h
  | x :: xs, h => by
    unfold fdx at *
    by_cases c : p x = true
    · rw [if_pos c]
      exact ⟨x, by simp, c⟩
    · rw [if_neg c] at *
      obtain ⟨y, a, b⟩ := fdx_get (l := xs) (by simpa using h)
      exact ⟨y, by simpa using a, b⟩
/-- the first word that is told, and the longest beginning of all -/
def w1st (m : zSe) : zWo := match m.find? (·.isSome) with
  | some (some w) => w
  | _ => []
def drF (w1 : zWo) (n : Nat) (o : Option zWo) : Nat := match o with
  | none => n
  | some w => min n (lcp w1 w)
def drw (m : zSe) : Nat := m.foldl (drF (w1st m)) (w1st m).length
theorem w1st_mem {m : zSe} (h : stNo m = false) : some (w1st m) ∈ m := by
  obtain ⟨q, r, e⟩ := stNo_not h
  have hq := stAt_some e
  cases f : m.find? (·.isSome) with
  | none =>
    rw [List.find?_eq_none] at f
    unfold stAt at e
    rw [List.getD_eq_getElem?_getD, List.getElem?_eq_getElem hq] at e
    have e : m[q] = some r := e
    have := f _ (List.getElem_mem hq)
    rw [e] at this
    exact absurd rfl this
  | some o =>
    have h1 := List.find?_some f
    have h2 := List.mem_of_find?_eq_some f
    cases o with
    | none => cases h1
    | some w =>
      unfold w1st
      rw [f]
      exact h2
theorem mem_stAt {m : zSe} {r : zWo} : some r ∈ m ↔ ∃ q, stAt m q = some r := by
  constructor
  · intro h
    obtain ⟨i, hi, e⟩ := List.mem_iff_getElem.mp h
    refine ⟨i, ?_⟩
    unfold stAt
    rw [List.getD_eq_getElem?_getD, List.getElem?_eq_getElem hi, e]
    rfl
  · rintro ⟨q, h⟩
    have hq := stAt_some h
    unfold stAt at h
    rw [List.getD_eq_getElem?_getD, List.getElem?_eq_getElem hq] at h
    have h : m[q] = some r := h
    rw [← h]
    exact List.getElem_mem hq
theorem drF_fold (w1 : zWo) : ∀ (m : zSe) (n : Nat), m.foldl (drF w1) n ≤ n ∧ (∀ w, some w ∈ m → m.foldl (drF w1) n ≤ lcp w1 w) ∧ (m.foldl (drF w1) n = n ∨ ∃ w, some w ∈ m ∧ m.foldl (drF w1) n = lcp w1 w)
  | [], n => ⟨Nat.le_refl _, fun w h => (by cases h), Or.inl rfl⟩
  | o :: m, n => by
    rw [List.foldl_cons]
    obtain ⟨h1, h2, h3⟩ := drF_fold w1 m (drF w1 n o)
    cases o with
    | none =>
      refine ⟨h1, fun w hw => ?_, ?_⟩
      · rcases List.mem_cons.mp hw with z | z
        · cases z
        · exact h2 w z
      · rcases h3 with z | ⟨w, hw, z⟩
        · exact Or.inl z
        · exact Or.inr ⟨w, List.mem_cons_of_mem _ hw, z⟩
    | some v =>
      have e : drF w1 n (some v) = min n (lcp w1 v) := rfl
      rw [e] at h1 h2 h3 ⊢
      refine ⟨by omega, fun w hw => ?_, ?_⟩
      · rcases List.mem_cons.mp hw with z | z
        · cases z; omega
        · exact h2 w z
      · rcases h3 with z | ⟨w, hw, z⟩
        · by_cases c : n ≤ lcp w1 v
          · left; rw [z]; omega
          · right; exact ⟨v, List.mem_cons_self, by rw [z]; omega⟩
        · exact Or.inr ⟨w, List.mem_cons_of_mem _ hw, z⟩
theorem take_lcp : ∀ {u v : zWo} {n : Nat}, n ≤ lcp u v → u.take n = v.take n
  | _, _, 0, _ => by simp
  | [], v, n + 1, h => by simp [lcp] at h
  | x :: xs, [], n + 1, h => by simp [lcp] at h
  | x :: xs, y :: ys, n + 1, h => by
    by_cases e : x = y
    · rw [lcp, if_pos e] at h
      rw [List.take_succ_cons, List.take_succ_cons, e, take_lcp (u := xs) (v := ys) (by omega)]
    · rw [lcp, if_neg e] at h; omega
/-- all words that are told begin alike so far -/
theorem drw_split {m : zSe} {w : zWo} (h : some w ∈ m) : w = (w1st m).take (drw m) ++ w.drop (drw m) := by
  obtain ⟨_, h2, _⟩ := drF_fold (w1st m) m (w1st m).length
  have e : drw m ≤ lcp (w1st m) w := h2 w h
  rw [take_lcp e, List.take_append_drop]
theorem drw_le {m : zSe} {w : zWo} (h : some w ∈ m) : drw m ≤ w.length := by
  obtain ⟨_, h2, _⟩ := drF_fold (w1st m) m (w1st m).length
  have := h2 w h
  have := (lcp_le (w1st m) w).2
  exact Nat.le_trans (h2 w h) (lcp_le (w1st m) w).2
/-- no letter begins them all -/
def noh (m : zSe) : Prop := ∀ x : Int32, ∃ q r, stAt m q = some r ∧ r.head? ≠ some x
def stDrop (n : Nat) (m : zSe) : zSe := m.map (Option.map (·.drop n))
theorem stDrop_at {n : Nat} {m : zSe} {q : Nat} : stAt (stDrop n m) q = (stAt m q).map (·.drop n) := by
  unfold stDrop stAt
  rw [List.getD_eq_getElem?_getD, List.getD_eq_getElem?_getD, List.getElem?_map]
  cases m[q]? <;> rfl
theorem drw_noh {m : zSe} (h : stNo m = false) : noh (stDrop (drw m) m) := by
  intro x
  have hm := w1st_mem h
  obtain ⟨_, h2, h3⟩ := drF_fold (w1st m) m (w1st m).length
  have h3 : drw m = (w1st m).length ∨ ∃ w, some w ∈ m ∧ drw m = lcp (w1st m) w := h3
  obtain ⟨q1, e1⟩ := mem_stAt.mp hm
  by_cases c : ((w1st m).drop (drw m)).head? = some x
  · rcases h3 with z | ⟨w, hw, z⟩
    · rw [z, List.drop_length] at c
      cases c
    · obtain ⟨q2, e2⟩ := mem_stAt.mp hw
      refine ⟨q2, w.drop (drw m), by rw [stDrop_at, e2]; rfl, fun c2 => ?_⟩
      have := lcp_drop (w1st m) w
      rw [← z] at this
      cases d1 : (w1st m).drop (drw m) with
      | nil => rw [d1] at c; cases c
      | cons a as =>
        cases d2 : w.drop (drw m) with
        | nil => rw [d2] at c2; cases c2
        | cons b bs =>
          rw [d1] at c this
          rw [d2] at c2 this
          have ha : a = x := by simpa using c
          have hb : b = x := by simpa using c2
          rw [ha, hb, lcp, if_pos rfl] at this
          omega
  · exact ⟨q1, (w1st m).drop (drw m), by rw [stDrop_at, e1]; rfl, c⟩
abbrev zSs : Type := List zSe × List (Option (zWo × Nat))
def sPlace (m : zSe) (Ss : List zSe) : Nat × List zSe := (fdx (fun k => decide (k = m)) Ss, if fdx (fun k => decide (k = m)) Ss < Ss.length then Ss else Ss ++ [m])
def sLead (M : zMa) (l : Nat) (s : zSe) (X : zSs) : zSs := if 100 < X.1.length then X else
  if stNo (gath M s l) = true then (X.1, X.2 ++ [none]) else
  ((sPlace (stDrop (drw (gath M s l)) (gath M s l)) X.1).2, X.2 ++ [some ((w1st (gath M s l)).take (drw (gath M s l)), (sPlace (stDrop (drw (gath M s l)) (gath M s l)) X.1).1)])
def sAll (M : zMa) : Nat → Nat → zSs → zSs
  | 0, _, X => X
  | f + 1, i, X => match X.1[i]? with
    | some s => sAll M f (i + 1) (sLead M 3 s (sLead M 2 s (sLead M 1 s X)))
    | none => X
def sIni (M : zMa) : zSe := (List.range 6).map fun q => if q ∈ begU M then some [] else none
def sMake (M : zMa) : zSs := if stNo (sIni M) = true then ([], []) else sAll M 101 0 ([sIni M], [])
theorem sIni_at {M : zMa} (k : MaOk M) {q : Nat} {r : zWo} : stAt (sIni M) q = some r ↔ q ∈ begU M ∧ r = [] := by
  have k6 := k.1
  unfold sIni stAt
  rw [List.getD_eq_getElem?_getD, List.getElem?_map]
  by_cases c : q < 6
  · rw [List.getElem?_range c]
    show (if q ∈ begU M then some [] else none) = some r ↔ _
    split
    · rename_i h
      constructor
      · intro z; exact ⟨h, (Option.some.inj z).symm⟩
      · rintro ⟨_, z⟩; rw [z]
    · rename_i h
      constructor
      · intro z; cases z
      · rintro ⟨z, _⟩; exact absurd z h
  · rw [List.getElem?_eq_none (by simp; omega)]
    constructor
    · intro z; cases z
    · rintro ⟨z, _⟩
      have := (mem_begU.mp z).1
      omega
/-- what holds of one set -/
def seOk (M : zMa) (s : zSe) : Prop := s.length = 6 ∧ stNo s = false ∧ noh s ∧ ∃ w c, stWd M w c s
theorem sIni_ok {M : zMa} (k : MaOk M) (h : stNo (sIni M) = false) : seOk M (sIni M) ∧ stWd M [] [] (sIni M) := by
  have w0 : stWd M [] [] (sIni M) := fun q r e => by
    obtain ⟨h1, h2⟩ := (sIni_at k).mp e
    rw [h2]
    exact ⟨h1, rfl⟩
  refine ⟨⟨by simp [sIni], h, fun x => ?_, [], [], w0⟩, w0⟩
  obtain ⟨q, r, e⟩ := stNo_not h
  refine ⟨q, r, e, ?_⟩
  rw [((sIni_at k).mp e).2]
  intro z; cases z
theorem gath_wd {M : zMa} (k : MaOk M) {w : List Nat} {c : zWo} {s : zSe} (h : stWd M w c s) (l : Nat) : stWd M (l :: w) (c ++ (w1st (gath M s l)).take (drw (gath M s l))) (stDrop (drw (gath M s l)) (gath M s l)) := by
  intro q r e
  rw [stDrop_at] at e
  obtain ⟨v, hv, rfl⟩ := Option.map_eq_some_iff.mp e
  obtain ⟨a, ha, a1, a2, a3, r', h1, ev⟩ := (gath_in k s l).2 _ _ hv
  rw [List.append_assoc, ← drw_split (mem_stAt.mpr ⟨q, hv⟩), ev, ← List.append_assoc]
  exact ⟨a, ha, a2, a1, a3, _, h _ _ h1, rfl⟩
theorem gath_ok {M : zMa} (k : MaOk M) {s : zSe} (h : seOk M s) {l : Nat} (hn : stNo (gath M s l) = false) : seOk M (stDrop (drw (gath M s l)) (gath M s l)) := by
  obtain ⟨_, _, _, w, c, hw⟩ := h
  refine ⟨?_, ?_, drw_noh hn, _, _, gath_wd k hw l⟩
  · unfold stDrop
    rw [List.length_map]
    exact (gath_in k s l).1
  · obtain ⟨q, r, e⟩ := stNo_not hn
    cases z : stNo (stDrop (drw (gath M s l)) (gath M s l)) with
    | false => rfl
    | true =>
      have := stNo_iff.mp z q
      rw [stDrop_at, e] at this
      cases this
/-- how long what is left may be -/
theorem se_len {M : zMa} (k : MaOk M) (ht : (twJ M).1 = 1) {s : zSe} (h : seOk M s) {q : Nat} {r : zWo} (e : stAt s q = some r) : r.length ≤ 108 ∧ LOk r := by
  obtain ⟨_, _, hn, w, c, hw⟩ := h
  have hu := hw q r e
  have hl := (upS_len k hu).2
  refine ⟨?_, fun x hx => hl x (List.mem_append_right _ hx)⟩
  cases r with
  | nil => simp
  | cons x xs =>
    obtain ⟨q', r', e', ne⟩ := hn x
    have := (twins_len k ht hu (hw q' r' e')).1
    rw [dly_app] at this
    have z : lcp (x :: xs) r' = 0 := by
      cases r' with
      | nil => simp [lcp]
      | cons y ys =>
        rw [lcp, if_neg]
        intro z
        exact ne (by rw [z]; rfl)
    unfold dlyD at this
    rw [z] at this
    exact this
/-- what a way of a set tells -/
def goOk (M : zMa) (s : zSe) (l : Nat) (g : Option (zWo × Nat)) (Ss : List zSe) : Prop := match g with
  | none => stNo (gath M s l) = true
  | some (o, j) => stNo (gath M s l) = false ∧ o = (w1st (gath M s l)).take (drw (gath M s l)) ∧ Ss[j]? = some (stDrop (drw (gath M s l)) (gath M s l))
theorem goOk_up {M : zMa} {s : zSe} {l : Nat} {g : Option (zWo × Nat)} {Ss t : List zSe} (h : goOk M s l g Ss) : goOk M s l g (Ss ++ t) := by
  cases g with
  | none => exact h
  | some p =>
    obtain ⟨h1, h2, h3⟩ := h
    exact ⟨h1, h2, by rw [List.getElem?_append_left (List.getElem?_eq_some_iff.mp h3).1]; exact h3⟩
/-- of all sets, with n ways told -/
def ssOk (M : zMa) (n : Nat) (X : zSs) : Prop := (∀ s ∈ X.1, seOk M s) ∧ X.1.length ≤ 101 ∧ (X.1.length ≤ 100 → X.2.length = n ∧ ∀ i g, X.2[i]? = some g → ∃ s, X.1[i / 3]? = some s ∧ goOk M s (i % 3 + 1) g X.1)
theorem sPlace_pre (m : zSe) (Ss : List zSe) : ∃ t, (sPlace m Ss).2 = Ss ++ t := by
  unfold sPlace
  dsimp only
  split
  · exact ⟨[], by simp⟩
  · exact ⟨_, rfl⟩
theorem sPlace_get (m : zSe) (Ss : List zSe) : (sPlace m Ss).2[(sPlace m Ss).1]? = some m := by
  unfold sPlace
  dsimp only
  split
  · rename_i h
    obtain ⟨x, a, b⟩ := fdx_get h
    rw [a, of_decide_eq_true b]
  · rename_i h
    have := fdx_le (p := fun k => decide (k = m)) Ss
    rw [show fdx (fun k => decide (k = m)) Ss = Ss.length by omega, List.getElem?_append_right (Nat.le_refl _), Nat.sub_self]
    rfl
theorem sPlace_mem {m x : zSe} {Ss : List zSe} (h : x ∈ (sPlace m Ss).2) : x ∈ Ss ∨ x = m := by
  unfold sPlace at h
  dsimp only at h
  split at h
  · exact Or.inl h
  · rcases List.mem_append.mp h with z | z
    · exact Or.inl z
    · exact Or.inr (List.mem_singleton.mp z)
theorem sPlace_len (m : zSe) (Ss : List zSe) : (sPlace m Ss).2.length ≤ Ss.length + 1 := by
  unfold sPlace
  dsimp only
  split <;> simp
theorem sLead_pre (M : zMa) (l : Nat) (s : zSe) (X : zSs) : ∃ t, (sLead M l s X).1 = X.1 ++ t := by
  unfold sLead
  split
  · exact ⟨[], by simp⟩
  · split
    · exact ⟨[], by simp⟩
    · exact sPlace_pre _ _
theorem sLead_ok {M : zMa} (k : MaOk M) {i l : Nat} {s : zSe} {X : zSs} (hl : l < 3) (hs : X.1[i]? = some s) (h : ssOk M (3 * i + l) X) : ssOk M (3 * i + l + 1) (sLead M (l + 1) s X) := by
  obtain ⟨h1, h2, h3⟩ := h
  have hsk := h1 s (List.mem_of_getElem? hs)
  obtain ⟨t, et⟩ := sLead_pre M (l + 1) s X
  unfold sLead at et ⊢
  by_cases c : 100 < X.1.length
  · rw [if_pos c]
    exact ⟨h1, h2, fun z => by omega⟩
  · rw [if_neg c] at et ⊢
    obtain ⟨g1, g2⟩ := h3 (by omega)
    by_cases c2 : stNo (gath M s (l + 1)) = true
    · rw [if_pos c2]
      refine ⟨h1, h2, fun _ => ⟨by simp [g1], fun j g hj => ?_⟩⟩
      by_cases e : j < X.2.length
      · rw [List.getElem?_append_left e] at hj
        exact g2 j g hj
      · have : j = X.2.length := by
          have := (List.getElem?_eq_some_iff.mp hj).1
          simp at this
          omega
        subst this
        rw [List.getElem?_append_right (Nat.le_refl _), Nat.sub_self] at hj
        have : none = g := by simpa using hj
        subst this
        rw [g1]
        exact ⟨s, by rw [show (3 * i + l) / 3 = i by omega]; exact hs, by rw [show (3 * i + l) % 3 = l by omega]; exact c2⟩
    · have c2' : stNo (gath M s (l + 1)) = false := by simpa using c2
      rw [if_neg c2] at et ⊢
      dsimp only at et ⊢
      have hlen := sPlace_len (stDrop (drw (gath M s (l + 1))) (gath M s (l + 1))) X.1
      refine ⟨fun x hx => ?_, by dsimp only; omega, fun _ => ⟨by simp [g1], fun j g hj => ?_⟩⟩
      · rcases sPlace_mem hx with z | z
        · exact h1 x z
        · rw [z]; exact gath_ok k hsk c2'
      · dsimp only at hj ⊢
        by_cases e : j < X.2.length
        · rw [List.getElem?_append_left e] at hj
          obtain ⟨s', q1, q2⟩ := g2 j g hj
          refine ⟨s', ?_, ?_⟩
          · rw [et, List.getElem?_append_left (List.getElem?_eq_some_iff.mp q1).1]; exact q1
          · rw [et]; exact goOk_up q2
        · have : j = X.2.length := by
            have := (List.getElem?_eq_some_iff.mp hj).1
            simp at this
            omega
          subst this
          rw [List.getElem?_append_right (Nat.le_refl _), Nat.sub_self] at hj
          have : some ((w1st (gath M s (l + 1))).take (drw (gath M s (l + 1))), (sPlace (stDrop (drw (gath M s (l + 1))) (gath M s (l + 1))) X.1).1) = g := by simpa using hj
          subst this
          rw [g1]
          refine ⟨s, ?_, ?_⟩
          · rw [show (3 * i + l) / 3 = i by omega, et, List.getElem?_append_left (List.getElem?_eq_some_iff.mp hs).1]; exact hs
          · rw [show (3 * i + l) % 3 = l by omega]
            exact ⟨c2', rfl, sPlace_get _ _⟩
theorem sLead3_pre (M : zMa) (s : zSe) (X : zSs) : ∃ t, (sLead M 3 s (sLead M 2 s (sLead M 1 s X))).1 = X.1 ++ t := by
  obtain ⟨t1, e1⟩ := sLead_pre M 1 s X
  obtain ⟨t2, e2⟩ := sLead_pre M 2 s (sLead M 1 s X)
  obtain ⟨t3, e3⟩ := sLead_pre M 3 s (sLead M 2 s (sLead M 1 s X))
  exact ⟨t1 ++ t2 ++ t3, by rw [e3, e2, e1]; simp⟩
theorem sLead_keep {M : zMa} {l i : Nat} {s s' : zSe} {X : zSs} (h : X.1[i]? = some s') : (sLead M l s X).1[i]? = some s' := by
  obtain ⟨t, e⟩ := sLead_pre M l s X
  rw [e, List.getElem?_append_left (List.getElem?_eq_some_iff.mp h).1]
  exact h
theorem sLead3_ok {M : zMa} (k : MaOk M) {i : Nat} {s : zSe} {X : zSs} (hs : X.1[i]? = some s) (h : ssOk M (3 * i) X) : ssOk M (3 * (i + 1)) (sLead M 3 s (sLead M 2 s (sLead M 1 s X))) := by
  have a := sLead_ok k (l := 0) (by decide) hs h
  have b := sLead_ok k (l := 1) (by decide) (sLead_keep hs) a
  have c := sLead_ok k (l := 2) (by decide) (sLead_keep (sLead_keep hs)) b
  rw [show 3 * (i + 1) = 3 * i + 2 + 1 by omega]
  exact c
theorem sAll_ok {M : zMa} (k : MaOk M) : ∀ (f i : Nat) (X : zSs), 101 ≤ f + i → i ≤ X.1.length → ssOk M (3 * i) X → ssOk M (3 * (sAll M f i X).1.length) (sAll M f i X)
  | 0, i, X, hf, hi, h => by
    have := h.2.1
    have e : i = X.1.length := by omega
    subst e
    exact h
  | f + 1, i, X, hf, hi, h => by
    unfold sAll
    cases e : X.1[i]? with
    | none =>
      have := List.getElem?_eq_none_iff.mp e
      have e : i = X.1.length := by omega
      subst e
      exact h
    | some s =>
      dsimp only
      refine sAll_ok k f (i + 1) _ (by omega) ?_ (sLead3_ok k e h)
      obtain ⟨t, et⟩ := sLead3_pre M s X
      have := (List.getElem?_eq_some_iff.mp e).1
      rw [et, List.length_append]
      omega
theorem sMake_ok {M : zMa} (k : MaOk M) : ssOk M (3 * (sMake M).1.length) (sMake M) := by
  unfold sMake
  by_cases c : stNo (sIni M) = true
  · rw [if_pos c]
    exact ⟨fun s h => (by cases h), Nat.zero_le _, fun _ => ⟨rfl, fun i g h => by simp at h⟩⟩
  · rw [if_neg c]
    refine sAll_ok k 101 0 _ (by decide) (Nat.zero_le _) ⟨fun s hs => ?_, by simp, fun _ => ⟨rfl, fun i g h => by simp at h⟩⟩
    rw [List.mem_singleton.mp hs]
    exact (sIni_ok k (by simpa using c)).1
theorem sAll_pre (M : zMa) : ∀ (f i : Nat) (X : zSs), ∃ t, (sAll M f i X).1 = X.1 ++ t
  | 0, i, X => ⟨[], by simp [sAll]⟩
  | f + 1, i, X => by
    unfold sAll
    split
    · rename_i s _
      obtain ⟨t, e⟩ := sAll_pre M f (i + 1) (sLead M 3 s (sLead M 2 s (sLead M 1 s X)))
      obtain ⟨t2, e2⟩ := sLead3_pre M s X
      exact ⟨t2 ++ t, by rw [e, e2, List.append_assoc]⟩
    · exact ⟨[], by simp⟩
/-- the first set is that of the beginning states -/
theorem sMake_0 {M : zMa} : stNo (sIni M) = false → (sMake M).1[0]? = some (sIni M) := by
  intro h
  unfold sMake
  rw [if_neg (by rw [h]; decide)]
  obtain ⟨t, e⟩ := sAll_pre M 101 0 ([sIni M], [])
  rw [e]
  rfl
