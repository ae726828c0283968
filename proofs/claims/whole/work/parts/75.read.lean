/-! The least word that one machine reads and the other doesn't: pairs of sets in the order of words, and how long it is. -/
abbrev zRd : Type := Nat × Nat × List Nat
def rAdd (c : zRd) (Q : List zRd) : List zRd := if Q.any (fun k => decide (k.1 = c.1 ∧ k.2.1 = c.2.1)) = true then Q else Q ++ [c]
def rdL (M N : zMa) (l : Nat) (e : zRd) (Q : List zRd) : List zRd := rAdd (folB M e.1 l, folB N e.2.1 l, e.2.2 ++ [l]) Q
def rdStep (M N : zMa) (e : zRd) (Q : List zRd) : List zRd := rdL M N 3 e (rdL M N 2 e (rdL M N 1 e Q))
abbrev rdSeq (M N : zMa) : Nat → List zRd := qSeq (rdStep M N) [(M.2.1, N.2.1, [])]
def rdO (M : zMa) (B : Nat) : Bool := decide (B &&& endB M ≠ 0)
def rdS (M N : zMa) (e : zRd) : Bool := rdO M e.1 != rdO N e.2.1
def rdW (M N : zMa) : Option (List Nat) := ((rdSeq M N 4096).find? (rdS M N)).map (·.2.2)
theorem rAdd_pre (c : zRd) (Q : List zRd) : ∃ t, rAdd c Q = Q ++ t := by
  unfold rAdd
  split
  · exact ⟨[], by simp⟩
  · exact ⟨_, rfl⟩
theorem rdStep_pre (M N : zMa) (e : zRd) (Q : List zRd) : ∃ t, rdStep M N e Q = Q ++ t := by
  obtain ⟨t1, e1⟩ := rAdd_pre (folB M e.1 1, folB N e.2.1 1, e.2.2 ++ [1]) Q
  obtain ⟨t2, e2⟩ := rAdd_pre (folB M e.1 2, folB N e.2.1 2, e.2.2 ++ [2]) (rdL M N 1 e Q)
  obtain ⟨t3, e3⟩ := rAdd_pre (folB M e.1 3, folB N e.2.1 3, e.2.2 ++ [3]) (rdL M N 2 e (rdL M N 1 e Q))
  refine ⟨t1 ++ t2 ++ t3, ?_⟩
  unfold rdStep
  show rAdd _ _ = _
  rw [e3]
  show rAdd _ _ ++ _ = _
  rw [e2]
  show rAdd _ _ ++ _ ++ _ = _
  rw [e1]
  simp
theorem rAdd_mem {c : zRd} {Q : List zRd} : ∃ k ∈ rAdd c Q, k.1 = c.1 ∧ k.2.1 = c.2.1 := by
  unfold rAdd
  split
  · rename_i h
    obtain ⟨k, hk, e⟩ := List.any_eq_true.mp h
    exact ⟨k, hk, of_decide_eq_true e⟩
  · exact ⟨c, List.mem_append_right _ List.mem_cons_self, rfl, rfl⟩
/-- sets below 64; each pair once; the words that lead there -/
def rOk (M N : zMa) (Q : List zRd) : Prop := (∀ e ∈ Q, e.1 < 2 ^ M.1 ∧ e.2.1 < 2 ^ N.1 ∧ (∀ l ∈ e.2.2, 1 ≤ l ∧ l ≤ 3) ∧ e.1 = e.2.2.foldl (folB M) M.2.1 ∧ e.2.1 = e.2.2.foldl (folB N) N.2.1) ∧ ∀ a b : Nat, (Q.filter fun k => decide (k.1 = a ∧ k.2.1 = b)).length ≤ 1
theorem rAdd_ok {M N : zMa} {c : zRd} {Q : List zRd} (h : rOk M N Q) (hc : c.1 < 2 ^ M.1 ∧ c.2.1 < 2 ^ N.1 ∧ (∀ l ∈ c.2.2, 1 ≤ l ∧ l ≤ 3) ∧ c.1 = c.2.2.foldl (folB M) M.2.1 ∧ c.2.1 = c.2.2.foldl (folB N) N.2.1) : rOk M N (rAdd c Q) := by
  unfold rAdd
  split
  · exact h
  · rename_i hn
    refine ⟨fun e he => ?_, fun a b => ?_⟩
    · rcases List.mem_append.mp he with q | q
      · exact h.1 e q
      · rw [List.mem_singleton.mp q]; exact hc
    · rw [List.filter_append, List.length_append]
      by_cases e : c.1 = a ∧ c.2.1 = b
      · have z : (Q.filter fun k => decide (k.1 = a ∧ k.2.1 = b)) = [] := by
          rw [List.filter_eq_nil_iff]
          intro k hk q
          apply hn
          rw [List.any_eq_true]
          exact ⟨k, hk, by rw [e.1, e.2]; exact q⟩
        rw [z]
        have := List.length_filter_le (fun k : zRd => decide (k.1 = a ∧ k.2.1 = b)) [c]
        simpa using this
      · have z : ([c].filter fun k => decide (k.1 = a ∧ k.2.1 = b)) = [] := by simp [e]
        rw [z]
        exact h.2 a b
theorem rdL_ok {M N : zMa} (kM : MaOk M) (kN : MaOk N) {l : Nat} (hl : 1 ≤ l ∧ l ≤ 3) {e : zRd} {Q : List zRd} (h : rOk M N Q) (he : (∀ l ∈ e.2.2, 1 ≤ l ∧ l ≤ 3) ∧ e.1 = e.2.2.foldl (folB M) M.2.1 ∧ e.2.1 = e.2.2.foldl (folB N) N.2.1) : rOk M N (rdL M N l e Q) := by
  refine rAdd_ok h ⟨folB_lt kM _ _, folB_lt kN _ _, fun x hx => ?_, ?_, ?_⟩
  · rcases List.mem_append.mp hx with q | q
    · exact he.1 x q
    · rw [List.mem_singleton.mp q]; exact hl
  · show folB M e.1 l = _
    rw [List.foldl_append, ← he.2.1]
    rfl
  · show folB N e.2.1 l = _
    rw [List.foldl_append, ← he.2.2]
    rfl
theorem rdSeq_ok {M N : zMa} (kM : MaOk M) (kN : MaOk N) (i : Nat) : rOk M N (rdSeq M N i) :=
  qSeq_inv (P := rOk M N) ⟨fun e he => by
    rw [List.mem_singleton.mp he]
    exact ⟨kM.2.1, kN.2.1, fun l hl => (by cases hl), rfl, rfl⟩, fun a b => Nat.le_trans (List.length_filter_le _ _) (by simp)⟩ (fun e Q he h => by
    have hh := (h.1 e he).2.2
    exact rdL_ok kM kN (by decide) (rdL_ok kM kN (by decide) (rdL_ok kM kN (by decide) h hh) hh) hh) i
theorem rOk_len {M N : zMa} (kM : MaOk M) (kN : MaOk N) {Q : List zRd} (h : rOk M N Q) : Q.length ≤ 4096 := by
  have := len_keys (fun c : zRd => 64 * c.1 + c.2.1) 1 4096 Q (fun x hx => by
    have q := h.1 x hx
    have := kM.p64 q.1
    have := kN.p64 q.2.1
    omega) (fun k hk => by
      refine Nat.le_trans (Nat.le_of_eq (congrArg List.length (List.filter_congr fun x hx => ?_))) (h.2 (k / 64) (k % 64))
      have q := h.1 x hx
      have := kM.p64 q.1
      have := kN.p64 q.2.1
      rw [decide_eq_decide]
      constructor
      · intro e
        exact ⟨by omega, by omega⟩
      · rintro ⟨e1, e2⟩
        omega)
  omega
/-- words in the order of their lengths; none is longer than the one in turn by more than a letter -/
def rI (i : Nat) (Q : List zRd) : Prop := Q.Pairwise (fun x y => x.2.2.length ≤ y.2.2.length) ∧ ∀ e, Q[i]? = some e → ∀ x ∈ Q, x.2.2.length ≤ e.2.2.length + 1
theorem rAdd_srt {c : zRd} {n : Nat} {Q : List zRd} (h : Q.Pairwise (fun x y => x.2.2.length ≤ y.2.2.length)) (hn : ∀ x ∈ Q, x.2.2.length ≤ n) (hc : c.2.2.length = n) : (rAdd c Q).Pairwise (fun x y => x.2.2.length ≤ y.2.2.length) ∧ ∀ x ∈ rAdd c Q, x.2.2.length ≤ n := by
  unfold rAdd
  split
  · exact ⟨h, hn⟩
  · refine ⟨?_, fun x hx => ?_⟩
    · rw [List.pairwise_append]
      refine ⟨h, by simp, fun x hx y hy => ?_⟩
      rw [List.mem_singleton.mp hy, hc]
      exact hn x hx
    · rcases List.mem_append.mp hx with q | q
      · exact hn x q
      · rw [List.mem_singleton.mp q, hc]
        exact Nat.le_refl _
theorem rdStep_srt {M N : zMa} {e : zRd} {Q : List zRd} (h : Q.Pairwise (fun x y => x.2.2.length ≤ y.2.2.length)) (hn : ∀ x ∈ Q, x.2.2.length ≤ e.2.2.length + 1) : (rdStep M N e Q).Pairwise (fun x y => x.2.2.length ≤ y.2.2.length) ∧ ∀ x ∈ rdStep M N e Q, x.2.2.length ≤ e.2.2.length + 1 := by
  have s1 := rAdd_srt (c := (folB M e.1 1, folB N e.2.1 1, e.2.2 ++ [1])) h hn (by simp)
  have s2 := rAdd_srt (c := (folB M e.1 2, folB N e.2.1 2, e.2.2 ++ [2])) s1.1 s1.2 (by simp)
  exact rAdd_srt (c := (folB M e.1 3, folB N e.2.1 3, e.2.2 ++ [3])) s2.1 s2.2 (by simp)
theorem pw_le {Q : List zRd} (h : Q.Pairwise (fun x y => x.2.2.length ≤ y.2.2.length)) {i j : Nat} {a b : zRd} (hij : i ≤ j) (ha : Q[i]? = some a) (hb : Q[j]? = some b) : a.2.2.length ≤ b.2.2.length := by
  obtain ⟨h1, e1⟩ := List.getElem?_eq_some_iff.mp ha
  obtain ⟨h2, e2⟩ := List.getElem?_eq_some_iff.mp hb
  rcases Nat.lt_or_ge i j with q | q
  · have := List.pairwise_iff_getElem.mp h i j h1 h2 q
    rw [e1, e2] at this
    exact this
  · have : i = j := by omega
    subst this
    rw [← e1, ← e2]
    exact Nat.le_refl _
theorem rdSeq_rI (M N : zMa) : ∀ i, rI i (rdSeq M N i)
  | 0 => ⟨by simp [rdSeq, qSeq], fun e _ x hx => by
    rw [List.mem_singleton.mp (show x ∈ [(M.2.1, N.2.1, [])] from hx)]
    simp⟩
  | i + 1 => by
    have ih := rdSeq_rI M N i
    cases hg : (rdSeq M N i)[i]? with
    | none =>
      have e : rdSeq M N (i + 1) = rdSeq M N i := qSeq_none hg
      rw [e]
      refine ⟨ih.1, fun x hx => ?_⟩
      have := List.getElem?_eq_none_iff.mp hg
      have := (List.getElem?_eq_some_iff.mp hx).1
      omega
    | some g =>
      have e : rdSeq M N (i + 1) = rdStep M N g (rdSeq M N i) := qSeq_some hg
      have s := rdStep_srt (M := M) (N := N) ih.1 (ih.2 g hg)
      rw [e]
      refine ⟨s.1, fun e' he' x hx => ?_⟩
      obtain ⟨t, et⟩ := rdStep_pre M N g (rdSeq M N i)
      have hg2 : (rdStep M N g (rdSeq M N i))[i]? = some g := by
        rw [et, List.getElem?_append_left (List.getElem?_eq_some_iff.mp hg).1, hg]
      have := pw_le s.1 (show i ≤ i + 1 by omega) hg2 he'
      have := s.2 x hx
      omega
theorem snoc_rec {P : List Nat → Prop} (h0 : P []) (hs : ∀ w l, P w → P (w ++ [l])) (w : List Nat) : P w := by
  have : ∀ n, ∀ w : List Nat, w.length = n → P w := by
    intro n
    induction n with
    | zero => intro w hw; rw [List.length_eq_zero_iff.mp hw]; exact h0
    | succ n ih =>
      intro w hw
      have hne : w ≠ [] := fun z => by rw [z] at hw; simp at hw
      rw [← List.dropLast_concat_getLast hne]
      exact hs _ _ (ih _ (by rw [List.length_dropLast]; omega))
  exact this _ w rfl
/-- every word's pair is there, with a word that is no longer -/
theorem rdSeq_all {M N : zMa} (kM : MaOk M) (kN : MaOk N) (w : List Nat) : (∀ l ∈ w, 1 ≤ l ∧ l ≤ 3) → ∃ e ∈ rdSeq M N 4096, e.1 = w.foldl (folB M) M.2.1 ∧ e.2.1 = w.foldl (folB N) N.2.1 ∧ e.2.2.length ≤ w.length := by
  refine snoc_rec (P := fun w => (∀ l ∈ w, 1 ≤ l ∧ l ≤ 3) → ∃ e ∈ rdSeq M N 4096, e.1 = w.foldl (folB M) M.2.1 ∧ e.2.1 = w.foldl (folB N) N.2.1 ∧ e.2.2.length ≤ w.length) ?_ ?_ w
  · intro _
    obtain ⟨t, e⟩ := qSeq_pre (s0 := [(M.2.1, N.2.1, [])]) (rdStep_pre M N) 0 4096
    refine ⟨(M.2.1, N.2.1, []), ?_, rfl, rfl, Nat.le_refl _⟩
    show _ ∈ qSeq _ _ 4096
    rw [show (4096 : Nat) = 0 + 4096 from rfl, e]
    exact List.mem_append_left _ List.mem_cons_self
  · intro v l ih hl
    obtain ⟨e, he, e1, e2, e3⟩ := ih (fun x hx => hl x (List.mem_append_left _ hx))
    obtain ⟨k, hk, ek⟩ := List.mem_iff_getElem.mp he
    have hk4 := rOk_len kM kN (rdSeq_ok kM kN 4096)
    obtain ⟨t1, t2⟩ := qSeq_turn (rdStep_pre M N) (j := 4096) (k := k) (e := e) (by rw [List.getElem?_eq_getElem hk, ek])
    have hI := rdSeq_rI M N k
    have s := rdStep_srt (M := M) (N := N) hI.1 (hI.2 e t1)
    have hll := hl l (List.mem_append_right _ List.mem_cons_self)
    have hin : ∃ k' ∈ rdStep M N e (rdSeq M N k), k'.1 = folB M e.1 l ∧ k'.2.1 = folB N e.2.1 l := by
      have up : ∀ {A B : List zRd}, (∃ t, B = A ++ t) → (∃ k' ∈ A, k'.1 = folB M e.1 l ∧ k'.2.1 = folB N e.2.1 l) → ∃ k' ∈ B, k'.1 = folB M e.1 l ∧ k'.2.1 = folB N e.2.1 l := by
        rintro A B ⟨t, rfl⟩ ⟨k', a, b⟩
        exact ⟨k', List.mem_append_left _ a, b⟩
      rcases (show l = 1 ∨ l = 2 ∨ l = 3 by omega) with rfl | rfl | rfl
      · exact up (rAdd_pre _ _) (up (rAdd_pre _ _) rAdd_mem)
      · exact up (rAdd_pre _ _) rAdd_mem
      · exact rAdd_mem
    obtain ⟨k', m1, m2, m3⟩ := hin
    obtain ⟨t, et⟩ := qSeq_pre (s0 := [(M.2.1, N.2.1, [])]) (rdStep_pre M N) (k + 1) (4096 - (k + 1))
    rw [show k + 1 + (4096 - (k + 1)) = 4096 by omega, t2] at et
    refine ⟨k', ?_, ?_, ?_, ?_⟩
    · show k' ∈ qSeq _ _ 4096
      rw [et]
      exact List.mem_append_left _ m1
    · rw [m2, List.foldl_append, ← e1]; rfl
    · rw [m3, List.foldl_append, ← e2]; rfl
    · have := s.2 k' m1
      rw [List.length_append]
      simp
      omega
def dt2 (M N : zMa) (x l : Nat) : Nat := if x < 64 then folB M x l else 64 + folB N (x - 64) l
def ot2 (M N : zMa) (x : Nat) : Bool := if x < 64 then rdO M x else rdO N (x - 64)
theorem dt2_l {M : zMa} (N : zMa) (kM : MaOk M) : ∀ (w : List Nat) (x : Nat), x < 64 → w.foldl (dt2 M N) x = w.foldl (folB M) x ∧ w.foldl (folB M) x < 64
  | [], x, h => ⟨rfl, h⟩
  | l :: w, x, h => by
    have := dt2_l N kM w (folB M x l) (kM.p64 (folB_lt kM _ _))
    rw [List.foldl_cons, List.foldl_cons]
    have e : dt2 M N x l = folB M x l := if_pos h
    rw [e]
    exact this
theorem dt2_r (M : zMa) {N : zMa} (kN : MaOk N) : ∀ (w : List Nat) (x : Nat), x < 64 → w.foldl (dt2 M N) (64 + x) = 64 + w.foldl (folB N) x
  | [], x, h => rfl
  | l :: w, x, h => by
    have := dt2_r M kN w (folB N x l) (kN.p64 (folB_lt kN _ _))
    rw [List.foldl_cons, List.foldl_cons]
    have e : dt2 M N (64 + x) l = 64 + folB N x l := by
      unfold dt2
      rw [if_neg (by omega), show 64 + x - 64 = x by omega]
    rw [e]
    exact this
theorem rdW_len {M N : zMa} (kM : MaOk M) (kN : MaOk N) {w : List Nat} (h : rdW M N = some w) : w.length ≤ 127 ∧ ∀ l ∈ w, 1 ≤ l ∧ l ≤ 3 := by
  unfold rdW at h
  obtain ⟨e, he, rfl⟩ := Option.map_eq_some_iff.mp h
  obtain ⟨k, hk, hs, hn⟩ := find_get he
  have hm := List.mem_of_getElem? hk
  have ok := (rdSeq_ok kM kN 4096).1 e hm
  refine ⟨?_, ok.2.2.1⟩
  have tell : ∀ v : List Nat, ot2 M N (v.foldl (dt2 M N) M.2.1) = ot2 M N (v.foldl (dt2 M N) (64 + N.2.1)) ↔ rdO M (v.foldl (folB M) M.2.1) = rdO N (v.foldl (folB N) N.2.1) := by
    intro v
    have a := dt2_l N kM v _ kM.beg64
    have b := dt2_r M kN v _ kN.beg64
    rw [a.1, b]
    unfold ot2
    rw [if_pos a.2, if_neg (by omega), Nat.add_sub_cancel_left]
  have : ∃ v : List Nat, v.length ≤ 127 ∧ (∀ l ∈ v, 1 ≤ l ∧ l ≤ 3) ∧ rdO M (v.foldl (folB M) M.2.1) ≠ rdO N (v.foldl (folB N) N.2.1) := by
    refine Classical.byContradiction fun hno => ?_
    have hag : agr (dt2 M N) (ot2 M N) 127 M.2.1 (64 + N.2.1) := agr_of 127 _ _ (fun v hv hl => by
      rw [tell]
      refine Classical.byContradiction fun z => hno ⟨v, hv, hl, z⟩)
    have kb := kM.beg64
    have kb2 := kN.beg64
    have big := moore (N := 128) (dt := dt2 M N) (ot := ot2 M N) (by decide) (fun x l hx _ _ => by
      unfold dt2
      have h1 := kM.p64 (folB_lt kM x l)
      have h2 := kN.p64 (folB_lt kN (x - 64) l)
      split <;> omega) e.2.2.length M.2.1 (64 + N.2.1) (by omega) (by omega) hag
    have := agr_word e.2.2 _ _ _ big (by omega) ok.2.2.1
    rw [tell, ← ok.2.2.2.1, ← ok.2.2.2.2] at this
    unfold rdS at hs
    rw [this] at hs
    simp at hs
  obtain ⟨v, v1, v2, v3⟩ := this
  obtain ⟨x, hx, x1, x2, x3⟩ := rdSeq_all kM kN v v2
  obtain ⟨j, hj, ej⟩ := List.mem_iff_getElem.mp hx
  have hxs : rdS M N x = true := by
    unfold rdS
    rw [x1, x2]
    simpa using v3
  have hkj : k ≤ j := by
    rcases Nat.lt_or_ge j k with q | q
    · have := hn j x q (by rw [List.getElem?_eq_getElem hj, ej])
      rw [hxs] at this
      cases this
    · exact q
  have := pw_le (rdSeq_rI M N 4096).1 hkj hk (by rw [List.getElem?_eq_getElem hj, ej])
  omega
