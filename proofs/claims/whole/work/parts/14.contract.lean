/-! The contract of every method, by the order of the calls. -/
section ZCON
variable {p : Program} {l : Launch} {e : Env} {R : Room} {s : State} {m : MethodId} {args : Array Value} {below : List Frame} {meth : Method} {c : Code} {Q : State → Prop} {D : zD3} {base : Nat} {H0 : Heap} {M : zRec} {c0 n0 : Nat}
/-- what a record is checked for -/
def zrok (recs : List zRec) (M : zRec) : Prop := (∀ pc E, znth (zMp M) pc = some (some E) → ∃ q1 q2 q3, zchk recs M pc E q1 q2 q3 = true)
theorem zexec_sim (C : zCx p s m args meth c R D base H0 M) {recs : List zRec} {f : zF3} {κ : zK4} {cuts : List (Nat × Nat)} {r : zR} (hmono : zmono f)
    (hchk : zrok recs M)
    (hsys : Jvm.Cond.initialized "java/lang/System" ∈ zgt ∧ Jvm.Cond.code Lib.objectInit ⟨#[0xb1]⟩ 1 none ∈ zgt)
    (hrec : ∀ j J, znth recs j = some J → Jvm.Cond.code (zMy J) (zMb J) (zMl J) (zMr J) ∈ zgt ∧ Jvm.Cond.initialized (zMy J).cls ∈ zgt)
    (hM : ∀ j J, znth recs j = some J → ∀ as h u, f j as h = some u → zMet l D base J as h u)
    (hroom : r.2.2.1.2.1 - c0 ≤ R.cells ∧ r.2.2.1.2.2 - n0 ≤ R.slots)
    (hret : ∀ (h : zM) (x : Int32) (pc : Nat) (L : zL), c0 ≤ h.1.2.1 ∧ n0 ≤ h.1.2.2 → decode (zMb M) pc = .ok (.ireturn, 1) → (zMr M = some .int ∨ (zMr M = some .boolean ∧ (x = 0 ∨ x = 1))) → r = (x, 0, h) → zG p l e R s m args below meth c Q D base H0 M c0 n0 pc L [.inl x] h)
    (haret : ∀ (h : zM) (x : Nat) (pc : Nat) (L : zL) (t : FieldType), c0 ≤ h.1.2.1 ∧ n0 ≤ h.1.2.2 → decode (zMb M) pc = .ok (.areturn, 1) → zMr M = some t → zisr t = true → r = (0, x, h) → zG p l e R s m args below meth c Q D base H0 M c0 n0 pc L [.inr x] h)
    (hvret : ∀ (h : zM) (pc : Nat) (L : zL), c0 ≤ h.1.2.1 ∧ n0 ≤ h.1.2.2 → decode (zMb M) pc = .ok (.return_, 1) → zMr M = none → r = (0, 0, h) → zG p l e R s m args below meth c Q D base H0 M c0 n0 pc L [] h)
    (hge : ∀ pc' L' st' h', κ pc' L' st' h' = some r → zge h' r.2.2) (hκ : ∀ pc' L' st' h', c0 ≤ h'.1.2.1 ∧ n0 ≤ h'.1.2.2 → κ pc' L' st' h' = some r → zG p l e R s m args below meth c Q D base H0 M c0 n0 pc' L' st' h') :
    ∀ (n pc : Nat) (L : zL) (st : List zV) (h : zM), c0 ≤ h.1.2.1 ∧ n0 ≤ h.1.2.2 → zexec f (zMp M) cuts κ n pc L st h = some r → zG p l e R s m args below meth c Q D base H0 M c0 n0 pc L st h
  | 0, pc, L, st, h, h0, hr => hκ pc L st h h0 hr
  | n + 1, pc, L, st, h, h0, hr => by
    refine zone_sim (recs := recs) (f := f) (κ := fun pc' L' st' h' => match zcut cuts pc' with
      | some k => κ pc' (ztrim k L') st' h'
      | none => zexec f (zMp M) cuts κ n pc' L' st' h') C hchk hsys hrec (fun j J hJ as u hu => ⟨hM j J hJ as h u hu, hmono _ _ _ _ hu⟩) h0 hroom (fun x pc L => hret h x pc L h0) (fun x pc L t => haret h x pc L t h0) (fun pc L => hvret h pc L h0) ?_ hr ?_
    · intro pc' L' st' h' hk
      split at hk
      · exact hge _ _ _ _ hk
      · exact zexec_ge hmono hge hk
    · intro pc' L' st' h' hz hk
      have h0' : c0 ≤ h'.1.2.1 ∧ n0 ≤ h'.1.2.2 := ⟨Nat.le_trans h0.1 hz.1, Nat.le_trans h0.2 hz.2⟩
      split at hk
      · exact fun ls H locs hS => hκ _ _ _ _ h0' hk ls H locs ⟨hS.1.trim _, hS.2⟩
      · exact zexec_sim C hmono hchk hsys hrec hM hroom hret haret hvret hge hκ n pc' L' st' h' h0' hk
theorem zZn_sim (C : zCx p s m args meth c R D base H0 M) {recs : List zRec} {f : zF3} {cuts : List (Nat × Nat)} {r : zR} (hmono : zmono f)
    (hchk : zrok recs M)
    (hsys : Jvm.Cond.initialized "java/lang/System" ∈ zgt ∧ Jvm.Cond.code Lib.objectInit ⟨#[0xb1]⟩ 1 none ∈ zgt)
    (hrec : ∀ j J, znth recs j = some J → Jvm.Cond.code (zMy J) (zMb J) (zMl J) (zMr J) ∈ zgt ∧ Jvm.Cond.initialized (zMy J).cls ∈ zgt)
    (hM : ∀ j J, znth recs j = some J → ∀ as h u, f j as h = some u → zMet l D base J as h u)
    (hroom : r.2.2.1.2.1 - c0 ≤ R.cells ∧ r.2.2.1.2.2 - n0 ≤ R.slots)
    (hret : ∀ (h : zM) (x : Int32) (pc : Nat) (L : zL), c0 ≤ h.1.2.1 ∧ n0 ≤ h.1.2.2 → decode (zMb M) pc = .ok (.ireturn, 1) → (zMr M = some .int ∨ (zMr M = some .boolean ∧ (x = 0 ∨ x = 1))) → r = (x, 0, h) → zG p l e R s m args below meth c Q D base H0 M c0 n0 pc L [.inl x] h)
    (haret : ∀ (h : zM) (x : Nat) (pc : Nat) (L : zL) (t : FieldType), c0 ≤ h.1.2.1 ∧ n0 ≤ h.1.2.2 → decode (zMb M) pc = .ok (.areturn, 1) → zMr M = some t → zisr t = true → r = (0, x, h) → zG p l e R s m args below meth c Q D base H0 M c0 n0 pc L [.inr x] h)
    (hvret : ∀ (h : zM) (pc : Nat) (L : zL), c0 ≤ h.1.2.1 ∧ n0 ≤ h.1.2.2 → decode (zMb M) pc = .ok (.return_, 1) → zMr M = none → r = (0, 0, h) → zG p l e R s m args below meth c Q D base H0 M c0 n0 pc L [] h) :
    ∀ (n pc : Nat) (L : zL) (st : List zV) (h : zM), c0 ≤ h.1.2.1 ∧ n0 ≤ h.1.2.2 → zZn f (zMp M) cuts n pc L st h = some r → zG p l e R s m args below meth c Q D base H0 M c0 n0 pc L st h
  | 0, _, _, _, _, _, hr => by cases hr
  | n + 1, pc, L, st, h, h0, hr =>
    zexec_sim C hmono hchk hsys hrec hM hroom hret haret hvret (fun pc' L' st' h' hk => zZn_ge hmono n pc' L' st' h' r hk) (zZn_sim C hmono hchk hsys hrec hM hroom hret haret hvret n) 1000 pc L st h h0 (show zexec f (zMp M) cuts (zZn f (zMp M) cuts n) 1000 pc L st h = some r from hr)
end ZCON
theorem znth_append : ∀ (l : List (Option zV)) (i : Nat) (n : Nat) (v : zV), znth (l ++ List.replicate n none) i = some (some v) → znth l i = some (some v)
  | [], i, n, v, h => by
    have := znth_mem h
    rw [List.nil_append] at this
    exact absurd (List.eq_of_mem_replicate this) (by simp)
  | a :: l, 0, n, v, h => h
  | a :: l, i + 1, n, v, h => znth_append l i n v h
theorem zargs_mem : ∀ (as : List zV) (b i : Nat) (v : zV), znth (as.map some) i = some (some v) → (b + i, zval v) ∈ lv_args b (as.map zval)
  | [], _, _, _, h => by simp [znth] at h
  | a :: as, b, 0, v, h => by
    simp [znth] at h
    subst h
    exact List.mem_cons_self
  | a :: as, b, i + 1, v, h => by
    have := zargs_mem as (b + 1) i v h
    refine List.mem_cons_of_mem _ ?_
    rw [if_neg (by rw [zval_cat]; decide)]
    rw [show b + (i + 1) = b + 1 + i by omega]
    exact this
theorem zsl_len (as : List zV) : (lg_sl (as.map zval)).length = as.length := by
  induction as with
  | nil => rfl
  | cons a as ih =>
    have e : lg_sl ((a :: as).map zval) = [Slot.val (zval a)] ++ lg_sl (as.map zval) := by
      show (List.flatMap _ (zval a :: as.map zval)) = _
      rw [List.flatMap_cons, if_neg (by rw [zval_cat]; decide)]
      rfl
    rw [e, List.length_append, ih]
    simp; omega
theorem zlr_init {as : List zV} {n : Nat} (h : as.length ≤ n) : zlr ((lg_sl (as.map zval) ++ List.replicate (n - (lg_sl (as.map zval)).length) Slot.unset).toArray) n (zinit n as) := by
  have hl := lv_entry (as.map zval) (n := n) (by rw [zsl_len]; exact h)
  refine ⟨by simp [zinit]; omega, hl.1, hl.2.1, fun q hq => hl.2.2 q ?_⟩
  obtain ⟨i, v, h1, h2⟩ := zlv_of _ _ _ hq
  rw [h1, Nat.zero_add]
  have := zargs_mem as 0 i v (znth_append _ _ _ _ h2)
  rw [Nat.zero_add] at this
  exact this
theorem zmeet {l : Launch} {D : zD3} {base : Nat} {recs : List zRec} {f : zF3} {M : zRec} (hmono : zmono f) (hchk : zrok recs M) (hplain : plainFor (zMy M) = true)
    (hsys : Jvm.Cond.initialized "java/lang/System" ∈ zgt ∧ Jvm.Cond.code Lib.objectInit ⟨#[0xb1]⟩ 1 none ∈ zgt)
    (hrec : ∀ j J, znth recs j = some J → Jvm.Cond.code (zMy J) (zMb J) (zMl J) (zMr J) ∈ zgt ∧ Jvm.Cond.initialized (zMy J).cls ∈ zgt)
    (hM : ∀ j J, znth recs j = some J → ∀ as h u, f j as h = some u → zMet l D base J as h u)
    {as : List zV} {h : zM} {u : zR} (hrun : zrun f M as h = some u) : zMet l D base M as h u := by
  have hgu := zrun_ge hmono hrun
  unfold zrun at hrun
  split at hrun
  case isFalse => cases hrun
  rename_i hlen
  obtain ⟨n, hn⟩ := (zZ_iff hmono).mp hrun
  refine va_MetF (cc := zMb M) (maxL := zMl M) (ret := zMr M) (ws' := zgt) hplain rfl ?_
  intro p e s m args below meth c s₁ B hml hv
  obtain ⟨rfl, hR, hK, hE⟩ := hv
  have hts := atoms_spec (ws := zws M) B.pre
  have hlocks := B.notSynchronized
  have hr := B.returns
  have hx := B.exec
  have hb := B.bytes
  have C : zCx p s m ((as.map zval).toArray) meth c (headSpec (zws M) (zrm M h u)).room D base s.heap M :=
    ⟨hx, hb, hml, findClass_of_methodNamed B.named, fun w hw => hts w (List.mem_cons_of_mem _ hw), hK, (fun h9 => (name_of_methodNamed B.named B.method).1.trans h9), hR.2.1, Nat.le_refl _, Nat.le_refl _, hE⟩
  have fin : ∀ (o : Option Value) (H : Heap) (locs : List Loc) (ls : Array Slot) (L : zL), o = zrv (zrk M) u → zSt D base s s.heap (zMl M) L u.2.2 ls H locs → ∀ t : State, t.heap = H → s.WarmedH t.vm → zQc D base M u ((as.map zval).toArray) s (.returned o) t := by
    intro o H locs ls L ho hS t ht hW
    exact ⟨by rw [ho], by rw [ht]; exact hS.2.1.moved hW.alike, hK.moved hW.alike, hS.2.2.F ht⟩
  have hG := zZn_sim (p := p) (l := l) (e := e) (R := (headSpec (zws M) (zrm M h u)).room) (s := s) (m := m) (args := (as.map zval).toArray) (below := below) (meth := meth) (c := c) (Q := MQ below (zQc D base M u) ((as.map zval).toArray) s (u.2.2.1.2.1 - h.1.2.1) (u.2.2.1.2.2 - h.1.2.2) (fun q => base ≤ q)) (D := D) (base := base) (H0 := s.heap) (M := M) (c0 := h.1.2.1) (n0 := h.1.2.2) (r := u) C hmono hchk hsys hrec hM ⟨Nat.le_refl _, Nat.le_refl _⟩ ?_ ?_ ?_ n 0 (zinit (zMl M) as) [] h ⟨Nat.le_refl _, Nat.le_refl _⟩ hn
  · have hl := zlr_init (as := as) (n := zMl M) hlen
    rw [lg_entry_eq]
    generalize (lg_sl (as.map zval) ++ List.replicate (zMl M - (lg_sl (as.map zval)).length) Slot.unset).toArray = ls at hl ⊢
    have := hG ls s.heap [] ⟨hl, hR, va_S.rf⟩
    rw [Nat.sub_self, Nat.sub_self] at this
    exact this
  · intro h' x pc L h0 hd hty hru ls H locs hS
    have ha : u.2.2 = h' := by rw [hru]
    subst ha
    rcases hty with hty | ⟨hty, hx01⟩
    · exact W.iret hx hb (hr.trans hty) (fin _ _ _ _ _ (by unfold zrk; rw [hty, hru]; rfl) hS) hS.2.2.2.2 hd hlocks
    · exact W.zret hx hb (hr.trans hty) (by rcases hx01 with q | q <;> subst q <;> rfl) (fin _ _ _ _ _ (by unfold zrk; rw [hty, hru]; rfl) hS) hS.2.2.2.2 hd hlocks
  · intro h' x pc L t h0 hd hty hir hru ls H locs hS
    have ha : u.2.2 = h' := by rw [hru]
    subst ha
    have hobj : (∃ n, t = .object n) ∨ ∃ t', t = .array t' := by
      unfold zisr at hir
      split at hir
      · exact Or.inl ⟨_, rfl⟩
      · exact Or.inr ⟨_, rfl⟩
      · cases hir
    refine W.aret hx hb (hr.trans hty) hobj ?_ (fin _ _ _ _ _ ?_ hS) hS.2.2.2.2 hd hlocks
    · rcases x with _ | x
      · exact Or.inl rfl
      · exact Or.inr ⟨x, rfl⟩
    · unfold zrk
      rw [hty, hru]
      rcases hobj with ⟨n, rfl⟩ | ⟨n, rfl⟩ <;> rfl
  · intro h' pc L h0 hd hty hru ls H locs hS
    have ha : u.2.2 = h' := by rw [hru]
    subst ha
    exact W.vret hx hb (hr.trans hty) (fin _ _ _ _ _ (by unfold zrk; rw [hty]; rfl) hS) hS.2.2.2.2 hd hlocks
/-- all methods -/
theorem zall {l : Launch} {D : zD3} {base : Nat} {recs : List zRec}
    (hchk : ∀ k M, znth recs k = some M → zrok recs M ∧ plainFor (zMy M) = true)
    (hsys : Jvm.Cond.initialized "java/lang/System" ∈ zgt ∧ Jvm.Cond.code Lib.objectInit ⟨#[0xb1]⟩ 1 none ∈ zgt)
    (hrec : ∀ j J, znth recs j = some J → Jvm.Cond.code (zMy J) (zMb J) (zMl J) (zMr J) ∈ zgt ∧ Jvm.Cond.initialized (zMy J).cls ∈ zgt) :
    ∀ k j J, znth recs j = some J → ∀ as h u, zT recs k j as h = some u → zMet l D base J as h u
  | 0, _, _, _, _, _, _, hu => by cases hu
  | k + 1, j, J, hJ, as, h, u, hu => by
    have hu : (if j = k then (match znth recs k with
      | some M => zrun (zT recs k) M as h
      | none => none) else zT recs k j as h) = some u := hu
    split at hu
    · rename_i hjk
      subst hjk
      rw [hJ] at hu
      exact zmeet (zT_mono j) (hchk j J hJ).1 (hchk j J hJ).2 hsys hrec (zall hchk hsys hrec j) hu
    · exact zall hchk hsys hrec k j J hJ as h u hu
