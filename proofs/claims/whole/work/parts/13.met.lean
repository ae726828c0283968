/-! Methods as functions; what they say of the real machine. -/
def zZn (f : zF3) (ops : zO) (cuts : List (Nat × Nat)) : Nat → zK4
  | 0 => fun _ _ _ _ => none
  | n + 1 => fun pc L st h => zexec f ops cuts (zZn f ops cuts n) 1000 pc L st h
noncomputable def zlim (Z : Nat → zK4) : zK4 := fun pc L st h =>
  @dite _ (∃ n r, Z n pc L st h = some r) (Classical.propDecidable _) (fun hx => some (Classical.choose (Classical.choose_spec hx))) (fun _ => none)
noncomputable def zZ (f : zF3) (ops : zO) (cuts : List (Nat × Nat)) : zK4 := zlim (zZn f ops cuts)
def zmono (f : zF3) : Prop := ∀ j as h u, f j as h = some u → zge h u.2.2
theorem zZn_succ {f : zF3} {ops : zO} {cuts : List (Nat × Nat)} (hf : zmono f) : ∀ (n pc : Nat) (L : zL) (st : List zV) (h : zM) (r : zR), zZn f ops cuts n pc L st h = some r → zZn f ops cuts (n + 1) pc L st h = some r
  | 0, _, _, _, _, _, e => by cases e
  | n + 1, pc, L, st, h, r, e => by
    have e1 : zexec f ops cuts (zZn f ops cuts n) 1000 pc L st h = some r := e
    show zexec f ops cuts (zZn f ops cuts (n + 1)) 1000 pc L st h = some r
    rcases zexec_dir (ops := ops) (cuts := cuts) hf 1000 pc L st h with ⟨o, -, h2⟩ | ⟨pc', L', st', h', -, h2⟩
    · have a1 := h2 (zZn f ops cuts n)
      have a2 := h2 (zZn f ops cuts (n + 1))
      dsimp only at a1 a2
      rw [a2, ← a1]
      exact e1
    · have a1 := h2 (zZn f ops cuts n)
      have a2 := h2 (zZn f ops cuts (n + 1))
      dsimp only at a1 a2
      rw [a2]
      rw [a1] at e1
      exact zZn_succ hf n pc' L' st' h' r e1
theorem zZn_le {f : zF3} {ops : zO} {cuts : List (Nat × Nat)} (hf : zmono f) {n m pc : Nat} {L : zL} {st : List zV} {h : zM} {r : zR} (hnm : n ≤ m) (e : zZn f ops cuts n pc L st h = some r) : zZn f ops cuts m pc L st h = some r := by
  induction hnm with
  | refl => exact e
  | step _ ih => exact zZn_succ hf _ _ _ _ _ _ ih
theorem zZ_iff {f : zF3} {ops : zO} {cuts : List (Nat × Nat)} (hf : zmono f) {pc : Nat} {L : zL} {st : List zV} {h : zM} {r : zR} : zZ f ops cuts pc L st h = some r ↔ ∃ n, zZn f ops cuts n pc L st h = some r := by
  unfold zZ zlim
  by_cases hx : ∃ n r, zZn f ops cuts n pc L st h = some r
  · rw [dif_pos hx]
    have hs := Classical.choose_spec (Classical.choose_spec hx)
    generalize Classical.choose (Classical.choose_spec hx) = r0 at hs ⊢
    generalize Classical.choose hx = n0 at hs
    constructor
    · intro e
      cases e
      exact ⟨n0, hs⟩
    · rintro ⟨n, hn⟩
      have a1 := zZn_le hf (Nat.le_max_left n n0) hn
      have a2 := zZn_le hf (Nat.le_max_right n n0) hs
      rw [a1] at a2
      exact a2.symm
  · rw [dif_neg hx]
    constructor
    · intro e; cases e
    · rintro ⟨n, hn⟩
      exact absurd ⟨n, r, hn⟩ hx
/-- the run's own equation -/
theorem zZ_eq {f : zF3} {ops : zO} {cuts : List (Nat × Nat)} (hf : zmono f) (pc : Nat) (L : zL) (st : List zV) (h : zM) : zZ f ops cuts pc L st h = zexec f ops cuts (zZ f ops cuts) 1000 pc L st h := by
  apply Option.ext
  intro r
  rw [zZ_iff hf]
  rcases zexec_dir (ops := ops) (cuts := cuts) hf 1000 pc L st h with ⟨o, -, h2⟩ | ⟨pc', L', st', h', -, h2⟩
  · have a1 := h2 (zZ f ops cuts)
    dsimp only at a1
    rw [a1]
    constructor
    · rintro ⟨n, hn⟩
      rcases n with _ | n
      · cases hn
      · have a2 := h2 (zZn f ops cuts n)
        dsimp only at a2
        rw [← a2]
        exact hn
    · intro e
      refine ⟨1, ?_⟩
      have a2 := h2 (zZn f ops cuts 0)
      dsimp only at a2
      show zexec f ops cuts (zZn f ops cuts 0) 1000 pc L st h = some r
      rw [a2]
      exact e
  · have a1 := h2 (zZ f ops cuts)
    dsimp only at a1
    rw [a1, zZ_iff hf]
    constructor
    · rintro ⟨n, hn⟩
      rcases n with _ | n
      · cases hn
      · have a2 := h2 (zZn f ops cuts n)
        dsimp only at a2
        refine ⟨n, ?_⟩
        rw [← a2]
        exact hn
    · rintro ⟨n, hn⟩
      refine ⟨n + 1, ?_⟩
      have a2 := h2 (zZn f ops cuts n)
      dsimp only at a2
      show zexec f ops cuts (zZn f ops cuts n) 1000 pc L st h = some r
      rw [a2]
      exact hn
theorem zexec_ge {f : zF3} {ops : zO} {cuts : List (Nat × Nat)} {κ : zK4} (hf : zmono f) {n pc : Nat} {L : zL} {st : List zV} {h : zM} {r : zR} (hκ : ∀ pc' L' st' h', κ pc' L' st' h' = some r → zge h' r.2.2) (e : zexec f ops cuts κ n pc L st h = some r) : zge h r.2.2 := by
  rcases zexec_dir (ops := ops) (cuts := cuts) hf n pc L st h with ⟨o, h1, h2⟩ | ⟨pc', L', st', h', h1, h2⟩
  · have a1 := h2 κ
    dsimp only at a1
    rw [a1] at e
    exact h1 r e
  · have a1 := h2 κ
    dsimp only at a1
    rw [a1] at e
    exact h1.tr (hκ _ _ _ _ e)
theorem zZn_ge {f : zF3} {ops : zO} {cuts : List (Nat × Nat)} (hf : zmono f) : ∀ (n pc : Nat) (L : zL) (st : List zV) (h : zM) (r : zR), zZn f ops cuts n pc L st h = some r → zge h r.2.2
  | 0, _, _, _, _, _, e => by cases e
  | n + 1, pc, L, st, h, r, e => zexec_ge hf (fun pc' L' st' h' e' => zZn_ge hf n pc' L' st' h' r e') (show zexec f ops cuts (zZn f ops cuts n) 1000 pc L st h = some r from e)
def zinit (n : Nat) (as : List zV) : zL := as.map some ++ List.replicate (n - as.length) none
noncomputable def zrun (f : zF3) (M : zRec) (as : List zV) (h : zM) : Option zR := if as.length ≤ zMl M then zZ f (zMp M) (zMc M) 0 (zinit (zMl M) as) [] h else none
theorem zrun_ge {f : zF3} {M : zRec} (hf : zmono f) {as : List zV} {h : zM} {u : zR} (e : zrun f M as h = some u) : zge h u.2.2 := by
  unfold zrun at e
  split at e
  · obtain ⟨n, hn⟩ := (zZ_iff hf).mp e
    exact zZn_ge hf n _ _ _ _ _ hn
  · cases e
noncomputable def zT (recs : List zRec) : Nat → zF3
  | 0 => fun _ _ _ => none
  | k + 1 => fun j as h => if j = k then (match znth recs k with
    | some M => zrun (zT recs k) M as h
    | none => none) else zT recs k j as h
noncomputable def zFn (recs : List zRec) : zF3 := fun j => zT recs (j + 1) j
theorem zT_lt {recs : List zRec} : ∀ (k j : Nat), zT recs k j = if j < k then zFn recs j else fun _ _ => none
  | 0, j => rfl
  | k + 1, j => by
    by_cases hj : j = k
    · subst hj
      rw [if_pos (Nat.lt_succ_self _)]
      rfl
    · have e : zT recs (k + 1) j = zT recs k j := by
        funext as h
        show (if j = k then _ else zT recs k j as h) = _
        rw [if_neg hj]
      rw [e, zT_lt k j]
      by_cases h2 : j < k
      · rw [if_pos h2, if_pos (by omega)]
      · rw [if_neg h2, if_neg (by omega)]
theorem zT_mono {recs : List zRec} : ∀ k, zmono (zT recs k)
  | 0 => fun j as h u e => by cases e
  | k + 1 => fun j as h u e => by
    have e : (if j = k then (match znth recs k with
      | some M => zrun (zT recs k) M as h
      | none => none) else zT recs k j as h) = some u := e
    split at e
    · split at e
      · exact zrun_ge (zT_mono k) e
      · cases e
    · exact zT_mono k j as h u e
theorem zFn_mono {recs : List zRec} : zmono (zFn recs) := fun j as h u e => zT_mono (j + 1) j as h u e
/-- calls of a record go to lesser numbers -/
def zdown (k : Nat) (ops : zO) : Bool := ops.all fun o => match o with
  | some (.invokestatic _, a1, _, _, a4) => decide (a4 ≠ 0) || decide (a1 < k)
  | some (.invokevirtual _, a1, _, _, _) => decide (a1 < k)
  | some (.invokespecial _, a1, _, _, a4) => decide (a4 = 0) || decide (a1 < k)
  | _ => true
theorem znth_mem {α : Type} : ∀ {l : List α} {i : Nat} {a : α}, znth l i = some a → a ∈ l
  | [], _, _, h => by simp [znth] at h
  | b :: l, 0, a, h => by simp [znth] at h; subst h; exact List.mem_cons_self
  | b :: l, i + 1, a, h => List.mem_cons_of_mem _ (znth_mem (by simpa [znth] using h))
theorem zone_congr {f g : zF3} {ops : zO} {k : Nat} (hd : zdown k ops = true) (hfg : ∀ j, j < k → f j = g j) (κ : zK4) (pc : Nat) (L : zL) (st : List zV) (h : zM) : zone f ops κ pc L st h = zone g ops κ pc L st h := by
  unfold zone
  rcases hE : znth ops pc with _ | _ | ⟨i, a1, a2, a3, a4⟩
  · rfl
  · rfl
  · have hm := List.all_eq_true.mp hd _ (znth_mem hE)
    cases i with
    | invokestatic kk =>
      rcases a4 with _ | a4
      · have : a1 < k := by simpa using hm
        show zo_cs f a1 a2 a3 h _ st = zo_cs g a1 a2 a3 h _ st
        unfold zo_cs
        rw [hfg a1 this]
      · rfl
    | invokevirtual kk =>
      have : a1 < k := by simpa using hm
      show zo_cv f a1 a2 a3 a4 h _ st = zo_cv g a1 a2 a3 a4 h _ st
      unfold zo_cv
      rw [hfg a1 this]
    | invokespecial kk =>
      rcases a4 with _ | a4
      · rfl
      · have : a1 < k := by simpa using hm
        show zo_cv f a1 a2 0 (a4 + 1) h _ st = zo_cv g a1 a2 0 (a4 + 1) h _ st
        unfold zo_cv
        rw [hfg a1 this]
    | _ => rfl
theorem zexec_congr {f g : zF3} {ops : zO} {k : Nat} {cuts : List (Nat × Nat)} (hd : zdown k ops = true) (hfg : ∀ j, j < k → f j = g j) (κ : zK4) : ∀ n, zexec f ops cuts κ n = zexec g ops cuts κ n
  | 0 => rfl
  | n + 1 => by
    funext pc L st h
    show zone f ops _ pc L st h = zone g ops _ pc L st h
    rw [zone_congr hd hfg, zexec_congr hd hfg κ n]
theorem zZn_congr {f g : zF3} {ops : zO} {k : Nat} {cuts : List (Nat × Nat)} (hd : zdown k ops = true) (hfg : ∀ j, j < k → f j = g j) : ∀ n, zZn f ops cuts n = zZn g ops cuts n
  | 0 => rfl
  | n + 1 => by
    funext pc L st h
    show zexec f ops cuts (zZn f ops cuts n) 1000 pc L st h = zexec g ops cuts (zZn g ops cuts n) 1000 pc L st h
    rw [zexec_congr hd hfg, zZn_congr hd hfg n]
theorem zZ_congr {f g : zF3} {ops : zO} {k : Nat} {cuts : List (Nat × Nat)} (hd : zdown k ops = true) (hfg : ∀ j, j < k → f j = g j) : zZ f ops cuts = zZ g ops cuts := by
  have e : zZn f ops cuts = zZn g ops cuts := funext (zZn_congr hd hfg)
  funext pc L st h
  unfold zZ
  rw [e]
/-- a method's function is its run, with all functions behind its calls -/
theorem zFn_eq {recs : List zRec} {k : Nat} {M : zRec} (hk : znth recs k = some M) (hd : zdown k (zMp M) = true) (as : List zV) (h : zM) : zFn recs k as h = zrun (zFn recs) M as h := by
  show (if k = k then (match znth recs k with
    | some M => zrun (zT recs k) M as h
    | none => none) else _) = _
  rw [if_pos rfl, hk]
  show zrun (zT recs k) M as h = _
  unfold zrun
  rw [zZ_congr hd (g := zFn recs) (fun j hj => by rw [zT_lt, if_pos hj])]
