/-! The class Readings. -/
def T5 : List (Nat × Nat × Nat × Nat) := [(0, 1, 103, 4096), (1, 2, 101, 4096), (2, 3, 101, 4096), (3, 4, 101, 4096)]
abbrev RL5 (h : zM) (r : Nat) : Prop := Lay T5 5 h r
section R5
variable {h : zM} {r : Nat}
theorem RL5.g0 (x : RL5 h r) : zgF h r 5 0 = some (r + 1) := (zgF_ok x.1).trans (congrArg some (x.2 (0, 1, 103, 4096) (by decide)).1)
theorem RL5.g1 (x : RL5 h r) : zgF h r 5 1 = some (r + 2) := (zgF_ok x.1).trans (congrArg some (x.2 (1, 2, 101, 4096) (by decide)).1)
theorem RL5.g2 (x : RL5 h r) : zgF h r 5 2 = some (r + 3) := (zgF_ok x.1).trans (congrArg some (x.2 (2, 3, 101, 4096) (by decide)).1)
theorem RL5.g3 (x : RL5 h r) : zgF h r 5 3 = some (r + 4) := (zgF_ok x.1).trans (congrArg some (x.2 (3, 4, 101, 4096) (by decide)).1)
theorem RL5.k1 (x : RL5 h r) : zK h (r + 1) = 103 ∧ zN h (r + 1) = 4096 := (x.2 (0, 1, 103, 4096) (by decide)).2
theorem RL5.k (x : RL5 h r) {j : Nat} (hj : j = 2 ∨ j = 3 ∨ j = 4) : zK h (r + j) = 101 ∧ zN h (r + j) = 4096 := by
  rcases hj with rfl | rfl | rfl
  · exact (x.2 (1, 2, 101, 4096) (by decide)).2
  · exact (x.2 (2, 3, 101, 4096) (by decide)).2
  · exact (x.2 (3, 4, 101, 4096) (by decide)).2
theorem RL5.rd (x : RL5 h r) {j i : Nat} (hj : j = 2 ∨ j = 3 ∨ j = 4) (hi : i < 4096) : zia h (r + j) (nI i) = some (zI h (r + j) i) := by
  have := x.k hj
  exact zia_ok this.1 (by omega) (by omega)
theorem RL5.w (x : RL5 h r) {j i : Nat} (hj : j = 2 ∨ j = 3 ∨ j = 4) (hi : i < 4096) (y : Int32) : zis h (r + j) (nI i) y = some (zsI h (r + j) i y) := by
  have := x.k hj
  exact zis_ok this.1 (by omega) (by omega)
theorem RL5.rb (x : RL5 h r) {i : Nat} (hi : i < 4096) : zba h (r + 1) (nI i) = some (zI h (r + 1) i) := zba_ok (Or.inr x.k1.1) (by rw [x.k1.2]; exact hi) (by rw [x.k1.2]; omega)
theorem RL5.wb (x : RL5 h r) {i : Nat} (hi : i < 4096) {y : Int32} (hy : y = 0 ∨ y = 1) : zbs h (r + 1) (nI i) y = some (zsI h (r + 1) i y) := zbs_ok x.k1.1 (by rw [x.k1.2]; exact hi) (by rw [x.k1.2]; omega) hy
end R5
theorem pr_or : ∀ a, a < 64 → ∀ b, b < 64 → (nI a <<< ((6 : Int32) &&& 31)) ||| nI b = nI (64 * a + b) := by decide +kernel
theorem pr_hi : ∀ a, a < 64 → ∀ b, b < 64 → nI (64 * a + b) >>> ((6 : Int32) &&& 31) = nI a := by decide +kernel
theorem pr_lo : ∀ a, a < 64 → ∀ b, b < 64 → nI (64 * a + b) &&& (63 : Int32) = nI b := by decide +kernel
def rKey (e : zRd) : Nat := 64 * e.1 + e.2.1
def qAt (Q : List zRd) (i : Nat) : zRd := Q.getD i (0, 0, [])
theorem qAt_get {Q : List zRd} {i : Nat} (h : i < Q.length) : Q[i]? = some (qAt Q i) := by
  unfold qAt
  rw [List.getD_eq_getElem?_getD, List.getElem?_eq_getElem h]
  rfl
theorem qAt_mem {Q : List zRd} {i : Nat} (h : i < Q.length) : qAt Q i ∈ Q := List.mem_of_getElem? (qAt_get h)
theorem qAt_l {Q t : List zRd} {i : Nat} (h : i < Q.length) : qAt (Q ++ t) i = qAt Q i := by
  unfold qAt
  rw [List.getD_eq_getElem?_getD, List.getElem?_append_left h, ← List.getD_eq_getElem?_getD]
theorem qAt_n {Q : List zRd} {x : zRd} : qAt (Q ++ [x]) Q.length = x := by
  unfold qAt
  rw [List.getD_eq_getElem?_getD, List.getElem?_append_right (Nat.le_refl _), Nat.sub_self]
  rfl
/-- the pairs come to, with the places that they come from -/
def rWay (before letter : Int32) (Q : List zRd) (i : Nat) (w : List Nat) : Prop := (i = 0 ∧ w = []) ∨ ∃ b l, b < i ∧ before = nI b ∧ letter = nI l ∧ w = (qAt Q b).2.2 ++ [l]
def rSeen (Q : List zRd) (p : Nat) : Bool := Q.any fun k => decide (rKey k = p)
def RQ (h : zM) (r : Nat) (Q : List zRd) : Prop := zI h r 4 = nI Q.length ∧ (∀ i, i < Q.length → zI h (r + 2) i = nI (rKey (qAt Q i)) ∧ rWay (zI h (r + 3) i) (zI h (r + 4) i) Q i (qAt Q i).2.2) ∧ ∀ p, p < 4096 → zI h (r + 1) p = bI (rSeen Q p)
theorem rKey_eq {a b : zRd} (ha : a.1 < 64 ∧ a.2.1 < 64) (hb : b.1 < 64 ∧ b.2.1 < 64) : rKey a = rKey b ↔ a.1 = b.1 ∧ a.2.1 = b.2.1 := by
  unfold rKey
  constructor
  · intro h; exact ⟨by omega, by omega⟩
  · rintro ⟨h1, h2⟩; rw [h1, h2]
theorem rAdd_seen {Q : List zRd} {c : zRd} (hq : ∀ k ∈ Q, k.1 < 64 ∧ k.2.1 < 64) (hc : c.1 < 64 ∧ c.2.1 < 64) : rAdd c Q = if rSeen Q (rKey c) = true then Q else Q ++ [c] := by
  unfold rAdd rSeen
  have e : Q.any (fun k => decide (k.1 = c.1 ∧ k.2.1 = c.2.1)) = Q.any (fun k => decide (rKey k = rKey c)) := by
    rw [Bool.eq_iff_iff, List.any_eq_true, List.any_eq_true]
    constructor
    · rintro ⟨k, hk, h⟩
      exact ⟨k, hk, decide_eq_true ((rKey_eq (hq k hk) hc).mpr (of_decide_eq_true h))⟩
    · rintro ⟨k, hk, h⟩
      exact ⟨k, hk, decide_eq_true ((rKey_eq (hq k hk) hc).mp (of_decide_eq_true h))⟩
  rw [e]
theorem s_Rreach {h : zM} {r : Nat} {M N : zMa} {Q : List zRd} {c : zRd} {vb vl : Int32} (kM : MaOk M) (kN : MaOk N) (x : RL5 h r) (q : RQ h r Q) (ok : rOk M N Q) (ok2 : rOk M N (rAdd c Q)) (hc : c.1 < 64 ∧ c.2.1 < 64) (hw : rWay vb vl Q Q.length c.2.2) :
    ∃ h', zf nX5_reach [.inr r, .inl (nI c.1), .inl (nI c.2.1), .inl vb, .inl vl] h = some (0, 0, h') ∧ zFr r (r + 5) h h' ∧ RL5 h' r ∧ RQ h' r (rAdd c Q) := by
  have hq : ∀ k ∈ Q, k.1 < 64 ∧ k.2.1 < 64 := fun k hk => by
    have := ok.1 k hk
    exact ⟨kM.p64 this.1, kN.p64 this.2.1⟩
  have hk : rKey c < 4096 := by unfold rKey; omega
  have e1 : (nI c.1 <<< ((6 : Int32) &&& 31)) ||| nI c.2.1 = nI (rKey c) := pr_or _ hc.1 _ hc.2
  have len2 := rOk_len kM kN ok2
  rw [rAdd_seen hq hc] at len2 ⊢
  rw [e_X5_reach, e1, if_neg (nI_pos (by omega)), if_pos (by rw [n4096, nI_ltI (by omega) (by omega)]; exact hk), x.g0, Option.bind_some, x.rb hk, q.2.2 _ hk, Option.bind_some]
  cases s : rSeen Q (rKey c) with
  | true =>
    rw [if_neg (by decide), if_pos rfl]
    exact ⟨h, rfl, zFr.rf, x, q⟩
  | false =>
    rw [s, if_neg (by decide), List.length_append] at len2
    have len2 : Q.length + 1 ≤ 4096 := len2
    rw [if_pos (by decide), if_neg (by decide), zgI_ok x.1, q.1, Option.bind_some, if_pos (by rw [n4096, nI_ltI (by omega) (by omega)]; omega), Option.bind_some, x.wb hk (Or.inr rfl), Option.bind_some]
    have f1 : zFr (r + 1) (r + 5) h (zsI h (r + 1) (rKey c) 1) := zFr_sI (by omega) (by omega)
    generalize hh1 : zsI h (r + 1) (rKey c) 1 = h1 at *
    have cnt : ∀ {z : zM}, zFr (r + 1) (r + 5) h z → zgI z r 5 4 = some (nI Q.length) := fun {z} f => by rw [zgI_ok (x.keep f).1, f.I (by omega), q.1]
    have x1 : RL5 h1 r := x.keep f1
    rw [x1.g1, Option.bind_some, cnt f1, Option.bind_some, x1.w (Or.inl rfl) (by omega), Option.bind_some]
    have f2 : zFr (r + 1) (r + 5) h (zsI h1 (r + 2) Q.length (nI (rKey c))) := f1.tr (zFr_sI (by omega) (by omega))
    generalize hh2 : zsI h1 (r + 2) Q.length (nI (rKey c)) = h2 at *
    have x2 : RL5 h2 r := x.keep f2
    rw [x2.g2, Option.bind_some, cnt f2, Option.bind_some, x2.w (Or.inr (Or.inl rfl)) (by omega), Option.bind_some]
    have f3 : zFr (r + 1) (r + 5) h (zsI h2 (r + 3) Q.length vb) := f2.tr (zFr_sI (by omega) (by omega))
    generalize hh3 : zsI h2 (r + 3) Q.length vb = h3 at *
    have x3 : RL5 h3 r := x.keep f3
    rw [x3.g3, Option.bind_some, cnt f3, Option.bind_some, x3.w (Or.inr (Or.inr rfl)) (by omega), Option.bind_some]
    have f4 : zFr (r + 1) (r + 5) h (zsI h3 (r + 4) Q.length vl) := f3.tr (zFr_sI (by omega) (by omega))
    generalize hh4 : zsI h3 (r + 4) Q.length vl = h4 at *
    have x4 : RL5 h4 r := x.keep f4
    rw [cnt f4, Option.bind_some, nI_1, zpI_ok x4.1, Option.bind_some]
    have ff : zFr r (r + 5) h (zsI h4 r 4 (nI (Q.length + 1))) := (f4.wide (by omega) (by omega)).tr (zFr_sI (by omega) (by omega))
    refine ⟨_, rfl, ff, x.keep ff, by rw [zI_sI]; simp, fun i hi => ?_, fun p hp => ?_⟩
    · rw [List.length_append] at hi
      have hi : i < Q.length + 1 := hi
      rw [zI_sI_a (by omega), zI_sI_a (by omega), zI_sI_a (by omega), ← hh4, zI_sI_a (by omega), zI_sI_a (by omega)]
      by_cases e : i = Q.length
      · subst e
        rw [zI_sI, ← hh3, zI_sI_a (by omega), zI_sI, ← hh2, zI_sI, qAt_n]
        refine ⟨rfl, ?_⟩
        rcases hw with z | ⟨b, l, z1, z2, z3, z4⟩
        · exact Or.inl z
        · exact Or.inr ⟨b, l, z1, z2, z3, by rw [qAt_l z1]; exact z4⟩
      · have hi2 : i < Q.length := by omega
        obtain ⟨a1, a2⟩ := q.2.1 i hi2
        rw [zI_sI_k e, ← hh3, zI_sI_a (by omega), zI_sI_k e, zI_sI_a (by omega), ← hh2, zI_sI_k e, zI_sI_a (by omega), zI_sI_a (by omega), ← hh1, zI_sI_a (by omega), zI_sI_a (by omega), zI_sI_a (by omega), qAt_l hi2]
        refine ⟨a1, ?_⟩
        rcases a2 with z | ⟨b, l, z1, z2, z3, z4⟩
        · exact Or.inl z
        · exact Or.inr ⟨b, l, z1, z2, z3, by rw [qAt_l (by omega)]; exact z4⟩
    · rw [zI_sI_a (by omega), ← hh4, zI_sI_a (by omega), ← hh3, zI_sI_a (by omega), ← hh2, zI_sI_a (by omega), ← hh1]
      have eS : rSeen (Q ++ [c]) p = (rSeen Q p || decide (rKey c = p)) := by unfold rSeen; simp
      rw [eS]
      by_cases e : p = rKey c
      · subst e
        rw [zI_sI, decide_eq_true rfl, Bool.or_true]
        rfl
      · rw [zI_sI_k e, q.2.2 p hp, decide_eq_false (fun z => e z.symm), Bool.or_false]
theorem rdSeq_ok1 {M N : zMa} (kM : MaOk M) (kN : MaOk N) {l i : Nat} (hl : 1 ≤ l ∧ l ≤ 3) {Q : List zRd} (h : rOk M N Q) (hi : i < Q.length) : rOk M N (rdL M N l (qAt Q i) Q) := rdL_ok kM kN hl h (h.1 _ (qAt_mem hi)).2.2
/-- what search answers -/
theorem s_Rsearch {h : zM} {r A B : Nat} {M N : zMa} (mM : MC h A M) (kM : MaOk M) (mN : MC h B N) (kN : MaOk N) (hA : A + 6 ≤ r ∨ r + 5 ≤ A) (hB : B + 6 ≤ r ∨ r + 5 ≤ B) (x : RL5 h r) (q : RQ h r (rdSeq M N 0)) :
    (rdW M N = none ∧ ∃ h' Q, zf nX5_search [.inr r, .inr A, .inr B] h = some (-1, 0, h') ∧ zFr r (r + 5) h h' ∧ RL5 h' r ∧ RQ h' r Q ∧ rOk M N Q) ∨
    ∃ h' Q i, zf nX5_search [.inr r, .inr A, .inr B] h = some (nI i, 0, h') ∧ zFr r (r + 5) h h' ∧ RL5 h' r ∧ RQ h' r Q ∧ rOk M N Q ∧ i < Q.length ∧ rdW M N = some (qAt Q i).2.2 := by
  have hpre := rdStep_pre M N
  rw [e_X5_search, zif_ok mM.1.1, s_ending mM kM, Option.bind_some]
  dsimp only
  rw [zif_ok mN.1.1, s_ending mN kN, Option.bind_some]
  dsimp only
  refine zlq (P := fun i z => zFr r (r + 5) h z ∧ RL5 z r ∧ RQ z r (rdSeq M N i) ∧ ∀ j e, j < i → (rdSeq M N i)[j]? = some e → rdS M N e = false) (g := fun i z => zm_X5_search 14 [some (.inr r), some (.inr A), some (.inr B), some (.inl (nI (endB M))), some (.inl (nI (endB N))), some (.inl (nI i)), none, none, none, none, none] [] z) (n := 4096)
    (Q := fun y => (rdW M N = none ∧ ∃ h' Q, y = some (-1, 0, h') ∧ zFr r (r + 5) h h' ∧ RL5 h' r ∧ RQ h' r Q ∧ rOk M N Q) ∨ ∃ h' Q i, y = some (nI i, 0, h') ∧ zFr r (r + 5) h h' ∧ RL5 h' r ∧ RQ h' r Q ∧ rOk M N Q ∧ i < Q.length ∧ rdW M N = some (qAt Q i).2.2) ?_ ?_ 0 h (Nat.zero_le _) ⟨zFr.rf, x, q, fun j e hj => absurd hj (Nat.not_lt_zero _)⟩
  · rintro i z hi ⟨f, xz, qz, hn⟩
    have ok := rdSeq_ok kM kN i
    have hlen := rOk_len kM kN ok
    have mMz := mM.keep f (by omega)
    have mNz := mN.keep f (by omega)
    rw [e_X5_search_14, zgI_ok xz.1, qz.1, Option.bind_some]
    by_cases c : i < (rdSeq M N i).length
    · have hget := qAt_get c
      have hb := ok.1 _ (qAt_mem c)
      have b1 := kM.p64 hb.1
      have b2 := kN.p64 hb.2.1
      have hkey := (qz.2.1 i c).1
      have hi1 : nI (rKey (qAt (rdSeq M N i) i)) >>> ((6 : Int32) &&& 31) = nI (qAt (rdSeq M N i) i).1 := pr_hi _ b1 _ b2
      have lo1 : nI (rKey (qAt (rdSeq M N i) i)) &&& (63 : Int32) = nI (qAt (rdSeq M N i) i).2.1 := pr_lo _ b1 _ b2
      have hz : ∀ {x : Nat}, x < 64 → (nI x = 0 ↔ x = 0) := fun {x} hx => by rw [n0, nI_eq (by omega) (by decide)]
      have hal : (qAt (rdSeq M N i) i).1 &&& endB M < 64 := Nat.lt_of_le_of_lt Nat.and_le_left b1
      have har : (qAt (rdSeq M N i) i).2.1 &&& endB N < 64 := Nat.lt_of_le_of_lt Nat.and_le_left b2
      rw [if_pos ((nI_ltI (by omega) (by omega)).mpr c), if_pos (by rw [n4096, nI_ltI (by omega) (by omega)]; exact hi)]
      simp only [xz.g1, xz.rd (Or.inl rfl) hi, hkey, hi1, lo1, Option.bind_some, bit_and _ b1 _ (endB_lt kM), bit_and _ b2 _ (endB_lt kN)]
      have found : rdS M N (qAt (rdSeq M N i) i) = true → (rdW M N = none ∧ ∃ h' Q, (some (nI i, 0, z) : Option zR) = some (-1, 0, h') ∧ zFr r (r + 5) h h' ∧ RL5 h' r ∧ RQ h' r Q ∧ rOk M N Q) ∨ ∃ h' Q i', (some (nI i, 0, z) : Option zR) = some (nI i', 0, h') ∧ zFr r (r + 5) h h' ∧ RL5 h' r ∧ RQ h' r Q ∧ rOk M N Q ∧ i' < Q.length ∧ rdW M N = some (qAt Q i').2.2 := by
        intro hs
        right
        refine ⟨z, _, i, rfl, f, xz, qz, ok, c, ?_⟩
        have hfin : (rdSeq M N 4096)[i]? = some (qAt (rdSeq M N i) i) := by
          show (qSeq _ _ 4096)[i]? = _
          rw [qSeq_get hpre (show i ≤ 4096 by omega) c]
          exact hget
        unfold rdW
        rw [find_at hfin hs (fun j y hj hy => ?_)]
        · rfl
        · have e : (qSeq (rdStep M N) [(M.2.1, N.2.1, [])] 4096)[j]? = (qSeq (rdStep M N) [(M.2.1, N.2.1, [])] i)[j]? := qSeq_get hpre (show i ≤ 4096 by omega) (show j < (rdSeq M N i).length by omega)
          exact hn j y hj (e.symm.trans hy)
      have goon : rdS M N (qAt (rdSeq M N i) i) = false → ∀ v w : Int32, ∃ h', zm_X5_search 97 [some (.inr r), some (.inr A), some (.inr B), some (.inl (nI (endB M))), some (.inl (nI (endB N))), some (.inl (nI i)), some (.inl (nI (qAt (rdSeq M N i) i).1)), some (.inl (nI (qAt (rdSeq M N i) i).2.1)), some (.inl v), some (.inl w), some (.inl 1)] [] z = zm_X5_search 14 [some (.inr r), some (.inr A), some (.inr B), some (.inl (nI (endB M))), some (.inl (nI (endB N))), some (.inl (nI (i + 1))), none, none, none, none, none] [] h' ∧ zFr r (r + 5) h h' ∧ RL5 h' r ∧ RQ h' r (rdSeq M N (i + 1)) ∧ ∀ j e, j < i + 1 → (rdSeq M N (i + 1))[j]? = some e → rdS M N e = false := by
        intro hs v w
        have hstep : rdSeq M N (i + 1) = rdStep M N (qAt (rdSeq M N i) i) (rdSeq M N i) := qSeq_some hget
        obtain ⟨t, et⟩ := hpre (qAt (rdSeq M N i) i) (rdSeq M N i)
        have hlast : ∀ j e, j < i + 1 → (rdSeq M N (i + 1))[j]? = some e → rdS M N e = false := by
          intro j e hj he
          rw [hstep, et, List.getElem?_append_left (by omega)] at he
          by_cases ej : j = i
          · subst ej
            rw [hget] at he
            cases he
            exact hs
          · exact hn j e (by omega) he
        generalize hE : qAt (rdSeq M N i) i = E at *
        have one : ∀ (l : Nat) (y : zM) (Q : List zRd), 1 ≤ l ∧ l ≤ 3 → zFr r (r + 5) h y → RL5 y r → RQ y r Q → rOk M N Q → i < Q.length → qAt Q i = E → ∃ y', zm_X5_search 97 [some (.inr r), some (.inr A), some (.inr B), some (.inl (nI (endB M))), some (.inl (nI (endB N))), some (.inl (nI i)), some (.inl (nI E.1)), some (.inl (nI E.2.1)), some (.inl v), some (.inl w), some (.inl (nI l))] [] y = zm_X5_search 97 [some (.inr r), some (.inr A), some (.inr B), some (.inl (nI (endB M))), some (.inl (nI (endB N))), some (.inl (nI i)), some (.inl (nI E.1)), some (.inl (nI E.2.1)), some (.inl v), some (.inl w), some (.inl (nI (l + 1)))] [] y' ∧ zFr r (r + 5) h y' ∧ RL5 y' r ∧ RQ y' r (rdL M N l E Q) ∧ rOk M N (rdL M N l E Q) ∧ i < (rdL M N l E Q).length ∧ qAt (rdL M N l E Q) i = E := by
          intro l y Q hl fy xy qy oky hiQ heQ
          have mMy := mM.keep fy (by omega)
          have mNy := mN.keep fy (by omega)
          have ok2 := rdSeq_ok1 kM kN hl oky hiQ
          rw [heQ] at ok2
          have hc1 := kM.p64 (folB_lt kM E.1 l)
          have hc2 := kN.p64 (folB_lt kN E.2.1 l)
          obtain ⟨y', r1, r2, r3, r4⟩ := s_Rreach (c := (folB M E.1 l, folB N E.2.1 l, E.2.2 ++ [l])) (vb := nI i) (vl := nI l) kM kN xy qy oky ok2 ⟨hc1, hc2⟩ (Or.inr ⟨i, l, hiQ, rfl, rfl, by rw [heQ]⟩)
          obtain ⟨t', et'⟩ := rAdd_pre (folB M E.1 l, folB N E.2.1 l, E.2.2 ++ [l]) Q
          have et' : rdL M N l E Q = Q ++ t' := et'
          refine ⟨y', ?_, fy.tr r2, r3, r4, ok2, by rw [et', List.length_append]; omega, by rw [et', qAt_l hiQ]; exact heQ⟩
          rw [e_X5_search_97, if_neg (by rw [n3, nI_ltI (by omega) (by omega)]; omega), zif_ok mMy.1.1, s_follow mMy kM b1 (by omega), Option.bind_some]
          dsimp only
          rw [zif_ok mNy.1.1, s_follow mNy kN b2 (by omega), Option.bind_some]
          dsimp only
          rw [zif_ok xy.1, r1, Option.bind_some, nI_1]
        obtain ⟨y1, a1, a2, a3, a4, a5, a6, a7⟩ := one 1 z _ (by decide) f xz qz ok c hE
        obtain ⟨y2, c1, c2, c3, c4, c5, c6, c7⟩ := one 2 y1 _ (by decide) a2 a3 a4 a5 a6 a7
        obtain ⟨y3, d1, d2, d3, d4, d5, d6, d7⟩ := one 3 y2 _ (by decide) c2 c3 c4 c5 c6 c7
        refine ⟨y3, ?_, d2, d3, by rw [hstep]; exact d4, hlast⟩
        rw [n1, a1, c1, d1, e_X5_search_97, if_pos (by decide), nI_1]
      have eS : rdS M N (qAt (rdSeq M N i) i) = (decide ((qAt (rdSeq M N i) i).1 &&& endB M ≠ 0) != decide ((qAt (rdSeq M N i) i).2.1 &&& endB N ≠ 0)) := rfl
      by_cases z1 : (qAt (rdSeq M N i) i).1 &&& endB M = 0
      · rw [if_pos ((hz hal).mpr z1)]
        by_cases z2 : (qAt (rdSeq M N i) i).2.1 &&& endB N = 0
        · rw [if_pos ((hz har).mpr z2), if_pos trivial]
          exact Or.inr (goon (by rw [eS, z1, z2]; rfl) _ _)
        · rw [if_neg (fun y => z2 ((hz har).mp y)), if_neg (by decide)]
          exact Or.inl (found (by rw [eS, decide_eq_true z2, z1]; rfl))
      · rw [if_neg (fun y => z1 ((hz hal).mp y))]
        by_cases z2 : (qAt (rdSeq M N i) i).2.1 &&& endB N = 0
        · rw [if_pos ((hz har).mpr z2), if_neg (by decide)]
          exact Or.inl (found (by rw [eS, decide_eq_true z1, z2]; rfl))
        · rw [if_neg (fun y => z2 ((hz har).mp y)), if_pos trivial]
          exact Or.inr (goon (by rw [eS, decide_eq_true z1, decide_eq_true z2]; rfl) _ _)
    · left
      left
      rw [if_neg (by rw [nI_ltI (by omega) (by omega)]; omega)]
      refine ⟨?_, z, _, rfl, f, xz, qz, ok⟩
      unfold rdW
      have e : rdSeq M N 4096 = rdSeq M N i := qSeq_stop2 (show (rdSeq M N i).length ≤ i by omega) (show i ≤ 4096 by omega)
      rw [e, find_no (fun j y hj hy => hn j y (by omega) hy)]
      rfl
  · rintro z ⟨f, xz, qz, hn⟩
    have ok := rdSeq_ok kM kN 4096
    have hlen := rOk_len kM kN ok
    left
    rw [e_X5_search_14, zgI_ok xz.1, qz.1, Option.bind_some, if_neg (by rw [nI_ltI (by omega) (by omega)]; omega)]
    refine ⟨?_, z, _, rfl, f, xz, qz, ok⟩
    unfold rdW
    rw [find_no (fun j y hj hy => hn j y (by omega) hy)]
    rfl
