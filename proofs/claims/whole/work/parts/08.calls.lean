/-! New cells, calls, ends. -/
def zws (M : zRec) : List Cond := .code (zMy M) (zMb M) (zMl M) (zMr M) :: zgt
theorem zws_good {M : zRec} (h : Cond.code (zMy M) (zMb M) (zMl M) (zMr M) ∈ zgt) : GoodIn zgt (zws M) := by
  intro w hw
  have hm : w ∈ zgt := by
    rcases List.mem_cons.mp hw with q | q
    · rw [q]; exact h
    · exact q
  exact ⟨hm, good_of_word (List.mem_filter.mp hm).2⟩
def zrk (M : zRec) : Nat := match zMr M with
  | none => 0
  | some t => match zfk t with
    | 1 => 2
    | _ => 1
def zrv (k : Nat) (r : zR) : Option Value := match k with
  | 0 => none
  | 1 => some (.int r.1)
  | _ => some (zval (.inr r.2.1))
def zPc (D : zD3) (base : Nat) (as : List zV) (h : zM) : Array Value → State → Prop := fun v U => v = (as.map zval).toArray ∧ zRel D base U h U.heap ∧ zKn D U ∧ zEx U
def zQc (D : zD3) (base : Nat) (M : zRec) (r : zR) : Array Value → State → Outcome → State → Prop := fun _ st o t => o = .returned (zrv (zrk M) r) ∧ zRel D base t r.2.2 t.heap ∧ zKn D t ∧ va_F (fun q => base ≤ q) st t
def zrm (M : zRec) (h : zM) (r : zR) : Room := { frames := zMf M, cells := r.2.2.1.2.1 - h.1.2.1, slots := r.2.2.1.2.2 - h.1.2.2, locals := zMn M }
def zMet (l : Launch) (D : zD3) (base : Nat) (M : zRec) (as : List zV) (h : zM) (r : zR) : Prop :=
  Met l (zMy M) (zws M) (zrm M h r) (zPc D base as h) (zQc D base M r) (r.2.2.1.2.1 - h.1.2.1) (r.2.2.1.2.2 - h.1.2.2) (fun q => base ≤ q)
theorem zPc_blind {D : zD3} {base : Nat} {as : List zV} {h : zM} : FrameBlind (zPc D base as h) := fun a U g mk q =>
  ⟨q.1, zRel.moved (u := U) (U := U.calling g mk a) (Vm.Alike.refl U.vm) q.2.1, zKn.moved (u := U) (U := U.calling g mk a) (Vm.Alike.refl U.vm) q.2.2.1, zEx.same (u := U) (U := U.calling g mk a) rfl q.2.2.2⟩
/-- what the tables say of a callee -/
def zJok (J : zRec) (na : Nat) : Prop := Cond.code (zMy J) (zMb J) (zMl J) (zMr J) ∈ zgt ∧ Cond.initialized (zMy J).cls ∈ zgt ∧ ((zMy J).cls ≠ "java/lang/invoke/MethodHandle" ∧ (zMy J).cls ≠ "java/lang/invoke/VarHandle" ∧ (parseMethodDescriptor (zMy J).desc).map (fun d => d.parameters.length) = some na)
theorem zmap_rev {as : List zV} {rest : List zV} : ∀ {n : Nat} {acc st : List zV}, zpop n acc st = some (as, rest) → ∃ ps, st = ps ++ rest ∧ as = ps.reverse ++ acc ∧ ps.length = n := by
  intro n
  induction n with
  | zero =>
    intro acc st h
    simp only [zpop, Option.some.injEq, Prod.mk.injEq] at h
    exact ⟨[], by simp [h.2], by simp [h.1], rfl⟩
  | succ n ih =>
    intro acc st h
    cases st with
    | nil => simp [zpop] at h
    | cons v st =>
      simp only [zpop] at h
      obtain ⟨ps, h1, h2, h3⟩ := ih h
      exact ⟨v :: ps, by rw [h1]; rfl, by rw [h2]; simp, by simp [h3]⟩
theorem zshort_len : ∀ {n : Nat} {st : List zV}, zshort n st = true → st.length ≤ n
  | _, [], _ => by simp
  | 0, _ :: _, h => by simp [zshort] at h
  | n + 1, _ :: st, h => by
    have := zshort_len (n := n) (st := st) (by simpa [zshort] using h)
    simp; omega
theorem zcat_sum (st : List zV) : ((st.map zval).map fun v => v.category).sum = st.length := by
  induction st with
  | nil => rfl
  | cons v st ih =>
    show (zval v).category + ((st.map zval).map fun v => v.category).sum = _
    rw [ih, zval_cat, List.length_cons]
    omega
section ZCALL
variable {p : Program} {l : Launch} {e : Env} {R : Room} {s : State} {m : MethodId} {args : Array Value} {below : List Frame} {meth : Method} {c : Code} {Q : State → Prop} {D : zD3} {base : Nat} {H0 : Heap} {M : zRec} {c0 n0 : Nat}
/-- behind a call -/
theorem zs_back {L : zL} {pc : Nat} {J : zRec} {h : zM} {u : zR} {ls : Array Slot} {H : Heap} {locs : List Loc} {as : Array Value} {rest : List zV} {st0 : List Value} {mc ms : Nat} (C : zCx p s m args meth c R D base H0 M) (hS : zSt D base s H0 (zMl M) L h ls H locs) (hg : zge h u.2.2) (h0 : c0 ≤ h.1.2.1 ∧ n0 ≤ h.1.2.2) (hmc : mc = u.2.2.1.2.1 - h.1.2.1) (hms : ms = u.2.2.1.2.2 - h.1.2.2)
    (run : va_Run p l e R s m args below meth c H locs (h.1.2.1 - c0) (h.1.2.2 - n0) mc ms (F0 m pc ls st0) (rest.map zval) (zQc D base J u as) (fun q => base ≤ q))
    (hk : zG p l e R s m args below meth c Q D base H0 M c0 n0 (pc + 3) L (zpush (zrk J) u rest) u.2.2) : W p l e R s m args below meth c H locs (h.1.2.1 - c0) (h.1.2.2 - n0) Q (F0 m pc ls st0) := by
  subst hmc; subst hms
  intro T hT X
  obtain ⟨v, st₀, t, T', L', h1, X', hL, e1, e2, ⟨hv, hr, hkn, hz, hf⟩, st⟩ := run T hT X
  have hv : v = zrv (zrk J) u := by injection hv
  rw [h1] at hz hf
  have hal : s.vm.Alike t.vm := by rw [← e2]; exact X'.warmed.alike
  have hS' : zSt D base s H0 (zMl M) L u.2.2 ls T'.heap (locs ++ L') := by
    refine ⟨hS.1, by rw [e1]; exact hr.moved hal.symm, ?_⟩
    have hS3 := hS.2.2
    refine ⟨Nat.le_trans hS3.1 (by rw [e1]; exact hz), fun q g1 g2 => ?_, fun q hq => ?_⟩
    · rw [e1, hf q (Nat.lt_of_lt_of_le g1 hS3.1) g2]
      exact hS3.2.1 q g1 g2
    · rcases List.mem_append.mp hq with g | g
      · exact hS3.2.2 q g
      · exact hL q g
  have hW := hk ls T'.heap (locs ++ L') hS'
  have ec : h.1.2.1 - c0 + (u.2.2.1.2.1 - h.1.2.1) = u.2.2.1.2.1 - c0 := by have := hg.1; have := h0.1; omega
  have es : h.1.2.2 - n0 + (u.2.2.1.2.2 - h.1.2.2) = u.2.2.1.2.2 - n0 := by have := hg.2; have := h0.2; omega
  rw [ec, es] at X'
  obtain ⟨t2, a1, b1⟩ := hW T' rfl X'
  refine ⟨t2, st t2 ?_, b1⟩
  have hst : v.toList ++ rest.map zval = (zpush (zrk J) u rest).map zval := by
    rw [hv]
    unfold zrv zpush
    generalize zrk J = k
    rcases k with _ | _ | k <;> rfl
  show Steps _ _ _ (T'.setTop (F0 m (pc + 3) ls (v.toList ++ rest.map zval))) t2
  rw [hst]
  exact a1
theorem zs_callV (C : zCx p s m args meth c R D base H0 M) {L : zL} {pc idx na j rk rc : Nat} {J : zRec} {cl : vw_C} {f : zF3} {h : zM} {κ : List zV → zM → Option zR} {st : List zV} {r : zR} (hd : decode (zMb M) pc = .ok (.invokevirtual idx, 3))
    (hJ : zJok J na) (hl : Cond.methodLink (zMo M) idx (zMy J) ∈ zgt) (hin : Cond.instanceMethod (zMy J) ∈ zgt) (hse : Cond.selects cl.1 (zMy J) (zMy J) ∈ zgt) (hrk : rk = zrk J) (hcl : zcls[rc]? = some cl) (hR : zMf J + 1 ≤ zMf M ∧ 8 + (zMl J + 11) + zMn J ≤ zMn M)
    (hM : ∀ as u, f j as h = some u → zMet l D base J as h u ∧ zge h u.2.2) (h0 : c0 ≤ h.1.2.1 ∧ n0 ≤ h.1.2.2) (hroom : r.2.2.1.2.1 - c0 ≤ R.cells ∧ r.2.2.1.2.2 - n0 ≤ R.slots) (hge : ∀ st' h', κ st' h' = some r → zge h' r.2.2)
    (hr : zo_cv f j na rk (rc + 1) h κ st = some r) (hkk : ∀ st' h', zge h h' → κ st' h' = some r → zG p l e R s m args below meth c Q D base H0 M c0 n0 (pc + 3) L st' h') : zG p l e R s m args below meth c Q D base H0 M c0 n0 pc L st h := by
  intro ls H locs hS
  subst hrk
  have CC := C
  obtain ⟨C1, C2, C3, C4, C5, C6, C7, C8, C9, C10, C11⟩ := C
  unfold zo_cv at hr
  split at hr
  · rename_i a as rest hp
    split at hr
    · rename_i hsh
      split at hr
      · rename_i ha
        obtain ⟨u, hu, hr2⟩ := Option.bind_eq_some_iff.mp hr
        obtain ⟨hmet, hg⟩ := hM _ _ hu
        have hgr := hge _ _ hr2
        obtain ⟨ps, e1, e2, e3⟩ := zmap_rev hp
        rw [List.append_nil] at e2
        obtain ⟨b, rfl, hP, -⟩ := zobj hS.2.1 hcl ha
        have eps : ps = as.reverse ++ [.inr (b + 1)] := by rw [← List.reverse_reverse ps, ← e2]; simp
        have hst : st.map zval = (as.map zval).reverse ++ .ref b :: rest.map zval := by
          rw [e1, eps]; simp [zval, zop, va_rf]
        have hna : (as.map zval).length = na := by
          have : ps.length = as.length + 1 := by rw [eps]; simp
          simp; omega
        have hroomc : h.1.2.1 - c0 + (u.2.2.1.2.1 - h.1.2.1) ≤ R.cells ∧ h.1.2.2 - n0 + (u.2.2.1.2.2 - h.1.2.2) ≤ R.slots := by
          have := hg.1; have := hg.2; have := hgr.1; have := hgr.2; have := h0.1; have := h0.2; have := hroom.1; have := hroom.2
          constructor <;> omega
        refine zs_back (J := J) (as := (Value.ref b :: as.map zval).toArray) CC hS hg h0 rfl rfl ?_ (hkk _ _ hg hr2)
        exact va_runV (As := as.map zval) ⟨C1, C2, C3, C4, C5⟩ hmet
          ⟨callB_of na C5 (zws_good hJ.1) rfl rfl rfl (C5 _ hJ.2.1) (C5 _ hl) hJ.2.2 ⟨Nat.le_trans hR.1 C9, Nat.le_trans hR.2 C10⟩, C5 _ hin, C5 _ hse⟩
          ⟨zPc_blind, va_recv (q0 := 0) C6 hP hcl rfl, fun U hU hW => ⟨by simp [zval, zop, va_rf], by rw [hU]; exact hS.2.1.moved hW.alike, zKn.moved hW.alike C6, C11.warm hW⟩⟩ rfl hna hS.1.2.1 hst (lv_room (by rw [zcat_sum]; exact zshort_len hsh)) hd hroomc
      · cases hr
    · cases hr
  · cases hr
theorem zs_callI (C : zCx p s m args meth c R D base H0 M) {L : zL} {pc idx na j rc : Nat} {J : zRec} {f : zF3} {h : zM} {κ : List zV → zM → Option zR} {st : List zV} {r : zR} (hd : decode (zMb M) pc = .ok (.invokespecial idx, 3))
    (hJ : zJok J na) (hl : Cond.methodLink (zMo M) idx (zMy J) ∈ zgt) (hin : Cond.instanceMethod (zMy J) ∈ zgt) (hnm : (zMy J).name = "<init>") (hret : zMr J = none) (hrc : rc < 13) (hR : zMf J + 1 ≤ zMf M ∧ 8 + (zMl J + 11) + zMn J ≤ zMn M)
    (hM : ∀ as u, f j as h = some u → zMet l D base J as h u ∧ zge h u.2.2) (h0 : c0 ≤ h.1.2.1 ∧ n0 ≤ h.1.2.2) (hroom : r.2.2.1.2.1 - c0 ≤ R.cells ∧ r.2.2.1.2.2 - n0 ≤ R.slots) (hge : ∀ st' h', κ st' h' = some r → zge h' r.2.2)
    (hr : zo_cv f j na 0 (rc + 1) h κ st = some r) (hkk : ∀ st' h', zge h h' → κ st' h' = some r → zG p l e R s m args below meth c Q D base H0 M c0 n0 (pc + 3) L st' h') : zG p l e R s m args below meth c Q D base H0 M c0 n0 pc L st h := by
  intro ls H locs hS
  have hrk : 0 = zrk J := by unfold zrk; rw [hret]
  rw [hrk] at hr
  have CC := C
  obtain ⟨C1, C2, C3, C4, C5, C6, C7, C8, C9, C10, C11⟩ := C
  unfold zo_cv at hr
  split at hr
  · rename_i a as rest hp
    split at hr
    · rename_i hsh
      split at hr
      · rename_i ha
        obtain ⟨u, hu, hr2⟩ := Option.bind_eq_some_iff.mp hr
        obtain ⟨hmet, hg⟩ := hM _ _ hu
        have hgr := hge _ _ hr2
        obtain ⟨ps, e1, e2, e3⟩ := zmap_rev hp
        rw [List.append_nil] at e2
        obtain ⟨cl, hcl⟩ : ∃ cl, zcls[rc]? = some cl := ⟨_, List.getElem?_eq_getElem (by simpa [zcls] using hrc)⟩
        obtain ⟨b, rfl, hP, -⟩ := zobj hS.2.1 hcl ha
        have eps : ps = as.reverse ++ [.inr (b + 1)] := by rw [← List.reverse_reverse ps, ← e2]; simp
        have hst : st.map zval = (as.map zval).reverse ++ .ref b :: rest.map zval := by
          rw [e1, eps]; simp [zval, zop, va_rf]
        have hna : (as.map zval).length = na := by
          have : ps.length = as.length + 1 := by rw [eps]; simp
          simp; omega
        have hroomc : h.1.2.1 - c0 + (u.2.2.1.2.1 - h.1.2.1) ≤ R.cells ∧ h.1.2.2 - n0 + (u.2.2.1.2.2 - h.1.2.2) ≤ R.slots := by
          have := hg.1; have := hg.2; have := hgr.1; have := hgr.2; have := h0.1; have := h0.2; have := hroom.1; have := hroom.2
          constructor <;> omega
        refine zs_back (J := J) (as := (Value.ref b :: as.map zval).toArray) CC hS hg h0 rfl rfl ?_ (hkk _ _ hg hr2)
        have hcb := callB_of (R := R) (s := s) (args := args) (own := zMo M) (index := idx) (rm := zrm J h u) na C5 (zws_good hJ.1) rfl rfl rfl (C5 _ hJ.2.1) (C5 _ hl) hJ.2.2 ⟨Nat.le_trans hR.1 C9, Nat.le_trans hR.2 C10⟩
        rw [hret] at hcb
        exact va_runI (As := as.map zval) ⟨C1, C2, C3, C4, C5⟩ hmet
          ⟨hcb, hnm, C5 _ hin⟩
          ⟨zPc_blind, fun U hU hW => ⟨by simp [zval, zop, va_rf], by rw [hU]; exact hS.2.1.moved hW.alike, zKn.moved hW.alike C6, C11.warm hW⟩⟩ rfl hna hS.1.2.1 hst (lv_room (by rw [zcat_sum]; exact zshort_len hsh)) hd hroomc
      · cases hr
    · cases hr
  · cases hr
theorem zs_callS (C : zCx p s m args meth c R D base H0 M) {L : zL} {pc idx na j rk : Nat} {J : zRec} {f : zF3} {h : zM} {κ : List zV → zM → Option zR} {st : List zV} {r : zR} (hd : decode (zMb M) pc = .ok (.invokestatic idx, 3))
    (hJ : zJok J na) (hl : Cond.methodLink (zMo M) idx (zMy J) ∈ zgt ∨ ∃ host, Cond.methodLinkNest (zMo M) idx (zMy J) host ∈ lw_tbl) (hstat : Cond.static (zMy J) ∈ zgt) (hrk : rk = zrk J) (hR : zMf J + 1 ≤ zMf M ∧ 8 + (zMl J + 11) + zMn J ≤ zMn M)
    (hM : ∀ as u, f j as h = some u → zMet l D base J as h u ∧ zge h u.2.2) (h0 : c0 ≤ h.1.2.1 ∧ n0 ≤ h.1.2.2) (hroom : r.2.2.1.2.1 - c0 ≤ R.cells ∧ r.2.2.1.2.2 - n0 ≤ R.slots) (hge : ∀ st' h', κ st' h' = some r → zge h' r.2.2)
    (hr : zo_cs f j na rk h κ st = some r) (hkk : ∀ st' h', zge h h' → κ st' h' = some r → zG p l e R s m args below meth c Q D base H0 M c0 n0 (pc + 3) L st' h') : zG p l e R s m args below meth c Q D base H0 M c0 n0 pc L st h := by
  intro ls H locs hS
  subst hrk
  have CC := C
  obtain ⟨C1, C2, C3, C4, C5, C6, C7, C8, C9, C10, C11⟩ := C
  unfold zo_cs at hr
  split at hr
  · rename_i as rest hp
    split at hr
    · rename_i hsh
      obtain ⟨u, hu, hr⟩ := Option.bind_eq_some_iff.mp hr
      obtain ⟨hmet, hg⟩ := hM _ _ hu
      have hgr := hge _ _ hr
      obtain ⟨ps, e1, e2, e3⟩ := zmap_rev hp
      rw [List.append_nil] at e2
      have hst : st.map zval = (as.map zval).reverse ++ rest.map zval := by
        rw [e1, e2]; simp
      have hna : (as.map zval).length = na := by rw [e2]; simp [e3]
      have hroomc : h.1.2.1 - c0 + (u.2.2.1.2.1 - h.1.2.1) ≤ R.cells ∧ h.1.2.2 - n0 + (u.2.2.1.2.2 - h.1.2.2) ≤ R.slots := by
        have := hg.1; have := hg.2; have := hgr.1; have := hgr.2; have := h0.1; have := h0.2; have := hroom.1; have := hroom.2
        constructor <;> omega
      refine zs_back (J := J) (as := (as.map zval).toArray) CC hS hg h0 rfl rfl ?_ (hkk _ _ hg hr)
      have hps : PreS s H (zPc D base as h) (as.map zval) := ⟨zPc_blind, fun U hU hW => ⟨rfl, by rw [hU]; exact hS.2.1.moved hW.alike, zKn.moved hW.alike C6, C11.warm hW⟩⟩
      have hR' : zMf J + 1 ≤ R.frames ∧ 8 + (zMl J + 11) + zMn J ≤ R.locals := ⟨Nat.le_trans hR.1 C9, Nat.le_trans hR.2 C10⟩
      rcases hl with hl | ⟨host, hl⟩
      · exact va_runS (As := as.map zval) ⟨C1, C2, C3, C4, C5⟩ hmet ⟨callB_of na C5 (zws_good hJ.1) rfl rfl rfl (C5 _ hJ.2.1) (C5 _ hl) hJ.2.2 hR', C5 _ hstat⟩ hps rfl hna hS.1.2.1 hst (lv_room (by rw [zcat_sum]; exact zshort_len hsh)) hd hroomc
      · exact va_runSN (As := as.map zval) ⟨C1, C2, C3, C4, C5⟩ hmet ⟨va_cnB na C5 (zws_good hJ.1) rfl rfl rfl (C11.1 _ _ _ _ hl) (C5 _ hJ.2.1) hJ.2.2 hR', C5 _ hstat, trivial⟩ hps rfl hna hS.1.2.1 hst (lv_room (by rw [zcat_sum]; exact zshort_len hsh)) hd hroomc
    · cases hr
  · cases hr
end ZCALL
