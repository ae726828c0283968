/-! A step goes on at one place, whatever comes behind; runs. -/
def zD1 (h : zM) (F : zK4 → Option zR) : Prop := (∃ o : Option zR, (∀ r, o = some r → zge h r.2.2) ∧ ∀ κ, F κ = o) ∨ ∃ (pc : Nat) (L : zL) (st : List zV) (h' : zM), zge h h' ∧ ∀ κ, F κ = κ pc L st h'
theorem zd_none {h : zM} : zD1 h (fun _ => none) := Or.inl ⟨none, (fun r hr => by cases hr), fun _ => rfl⟩
theorem zd_some {h : zM} {x : Int32} {q : Nat} : zD1 h (fun _ => some (x, q, h)) := Or.inl ⟨_, fun r hr => by cases hr; exact zge.rf, fun _ => rfl⟩
theorem zd_go {h h' : zM} {pc : Nat} {L : zL} {st : List zV} (hz : zge h h') : zD1 h (fun κ => κ pc L st h') := Or.inr ⟨pc, L, st, h', hz, fun _ => rfl⟩
theorem zd_ite {h : zM} {c : Prop} [Decidable c] {F G : zK4 → Option zR} (h1 : zD1 h F) (h2 : zD1 h G) : zD1 h (fun κ => if c then F κ else G κ) := by
  by_cases hc : c
  · rw [show (fun κ => if c then F κ else G κ) = F from funext fun κ => if_pos hc]; exact h1
  · rw [show (fun κ => if c then F κ else G κ) = G from funext fun κ => if_neg hc]; exact h2
theorem zd_bind {h : zM} {α : Type} {o : Option α} {F : zK4 → α → Option zR} (h1 : ∀ a, o = some a → zD1 h (fun κ => F κ a)) : zD1 h (fun κ => o.bind (F κ)) := by
  cases o with
  | none => exact zd_none
  | some a => exact h1 a rfl
theorem zge_of_zpI {h h' : zM} {a c k : Nat} {x : Int32} (e : zpI h a c k x = some h') : zge h h' := by unfold zpI at e; split at e <;> cases e; exact zge.rf
theorem zge_of_zpZ {h h' : zM} {a c k : Nat} {x : Int32} (e : zpZ h a c k x = some h') : zge h h' := by unfold zpZ at e; split at e <;> cases e; exact zge.rf
theorem zge_of_zpF {h h' : zM} {a c k : Nat} {x : Nat} (e : zpF h a c k x = some h') : zge h h' := by unfold zpF at e; split at e <;> cases e; exact zge.rf
theorem zge_of_zis {h h' : zM} {a : Nat} {i x : Int32} (e : zis h a i x = some h') : zge h h' := by unfold zis at e; split at e <;> cases e; exact zge.rf
theorem zge_of_zbs {h h' : zM} {a : Nat} {i x : Int32} (e : zbs h a i x = some h') : zge h h' := by
  unfold zbs at e
  split at e
  · cases e; exact zge.rf
  · split at e <;> cases e; exact zge.rf
theorem zge_of_zas {h h' : zM} {a : Nat} {i : Int32} {x : Nat} (e : zas h a i x = some h') : zge h h' := by unfold zas at e; split at e <;> cases e; exact zge.rf
theorem zge_of_zcp {h h' : zM} {a0 a : Nat} {sp dp n : Int32} (e : zcp h a0 sp a dp n = some h') : zge h h' := by unfold zcp at e; split at e <;> cases e; exact zge.rf
theorem zge_mk {h : zM} {k n : Nat} : zge h (zmk h k n) := ⟨Nat.le_succ _, Nat.le_add_right _ _⟩
theorem zge_of_zna {h h' : zM} {k : Nat} {n : Int32} (e : zna h k n = some h') : zge h h' := by unfold zna at e; split at e <;> cases e; exact zge_mk
theorem zd_cond {h : zM} {q : ClassFile.Cond} {x y : Int32} {F G : zK4 → Option zR} (h1 : zD1 h F) (h2 : zD1 h G) : zD1 h (fun κ => zcond q x y (F κ) (G κ)) := by
  cases q
  · exact zd_ite h1 h2
  · exact zd_ite h2 h1
  · exact zd_ite h1 h2
  · exact zd_ite h2 h1
  · exact zd_ite h1 h2
  · exact zd_ite h2 h1
theorem zd_table {h : zM} {x : Int32} {d : Nat} {F : zK4 → Nat → Option zR} (hF : ∀ t, zD1 h (fun κ => F κ t)) : ∀ (ts : List Nat) (i : Int32), zD1 h (fun κ => zo_table (F κ) x d ts i)
  | [], _ => hF d
  | t :: ts, i => zd_ite (hF t) (zd_table hF ts (i + 1))
set_option maxHeartbeats 4000000 in
theorem zone_dir {f : zF3} {ops : zO} {pc : Nat} {L : zL} {st : List zV} {h : zM} (hf : ∀ j as u, f j as h = some u → zge h u.2.2) : zD1 h (fun κ => zone f ops κ pc L st h) := by
  unfold zone
  rcases znth ops pc with _ | _ | ⟨i, a1, a2, a3, a4⟩
  · exact zd_none
  · exact zd_none
  · have ld : ∀ k p, zD1 h (fun κ => zo_load L k (fun s => κ p L s h) st) := by
      intro k p
      unfold zo_load
      rcases zlget L k with _ | _ | _ <;> first | exact zd_none | exact zd_go zge.rf
    have ald : ∀ k p, zD1 h (fun κ => zo_aload L k (fun s => κ p L s h) st) := by
      intro k p
      unfold zo_aload
      rcases zlget L k with _ | _ | _ <;> first | exact zd_none | exact zd_go zge.rf
    have sto : ∀ k p, zD1 h (fun κ => zo_store L k (fun M s => κ p M s h) st) := by
      intro k p
      unfold zo_store
      rcases st with _ | ⟨x | x, r⟩
      · exact zd_none
      · dsimp only
        rcases zlset L k (Sum.inl x) with _ | _ <;> first | exact zd_none | exact zd_go zge.rf
      · exact zd_none
    have asto : ∀ k p, zD1 h (fun κ => zo_astore L k (fun M s => κ p M s h) st) := by
      intro k p
      unfold zo_astore
      rcases st with _ | ⟨x | x, r⟩
      · exact zd_none
      · exact zd_none
      · dsimp only
        rcases zlset L k (Sum.inr x) with _ | _ <;> first | exact zd_none | exact zd_go zge.rf
    have bin : ∀ o p, zD1 h (fun κ => zo_bin o (fun s => κ p L s h) st) := by
      intro o p
      unfold zo_bin
      rcases st with _ | ⟨x | x, _ | ⟨y | y, r⟩⟩ <;> first | exact zd_none | exact zd_go zge.rf
    have div : ∀ o p, zD1 h (fun κ => zo_div o (fun s => κ p L s h) st) := by
      intro o p
      unfold zo_div
      rcases st with _ | ⟨x | x, _ | ⟨y | y, r⟩⟩ <;> first | exact zd_none | exact zd_ite zd_none (zd_go zge.rf)
    cases i with
    | iload_n k => exact ld _ _
    | iload k => exact ld _ _
    | aload_n k => exact ald _ _
    | aload k => exact ald _ _
    | istore_n k => exact sto _ _
    | istore k => exact sto _ _
    | astore_n k => exact asto _ _
    | astore k => exact asto _ _
    | iinc k d =>
      show zD1 h (fun κ => zo_iinc L k _ (fun M => κ (pc + 3) M st h))
      unfold zo_iinc
      rcases zlget L k with _ | x | x
      · exact zd_none
      · dsimp only
        rcases zlset L k (Sum.inl (x + Int32.ofInt d)) with _ | _ <;> first | exact zd_none | exact zd_go zge.rf
      · exact zd_none
    | iconst n => exact zd_go zge.rf
    | bipush n => exact zd_go zge.rf
    | sipush n => exact zd_go zge.rf
    | ldc n => exact zd_go zge.rf
    | ldc_w n => exact zd_go zge.rf
    | aconst_null => exact zd_go zge.rf
    | iadd => exact bin _ _
    | isub => exact bin _ _
    | imul => exact bin _ _
    | iand => exact bin _ _
    | ior => exact bin _ _
    | ixor => exact bin _ _
    | ishl => exact bin _ _
    | ishr => exact bin _ _
    | iushr => exact bin _ _
    | idiv => exact div _ _
    | irem => exact div _ _
    | i2b =>
      show zD1 h (fun κ => zo_un _ (fun s => κ (pc + 1) L s h) st)
      unfold zo_un
      rcases st with _ | ⟨x | x, r⟩ <;> first | exact zd_none | exact zd_go zge.rf
    | ifCond q o =>
      show zD1 h (fun κ => zo_if q (fun s => κ a1 L s h) (fun s => κ (pc + 3) L s h) st)
      unfold zo_if
      rcases st with _ | ⟨x | x, r⟩ <;> first | exact zd_none | exact zd_cond (zd_go zge.rf) (zd_go zge.rf)
    | if_icmp q o =>
      show zD1 h (fun κ => zo_icmp q (fun s => κ a1 L s h) (fun s => κ (pc + 3) L s h) st)
      unfold zo_icmp
      rcases st with _ | ⟨x | x, _ | ⟨y | y, r⟩⟩ <;> first | exact zd_none | exact zd_cond (zd_go zge.rf) (zd_go zge.rf)
    | ifnull o =>
      show zD1 h (fun κ => zo_null (fun s => κ a1 L s h) (fun s => κ (pc + 3) L s h) st)
      unfold zo_null
      rcases st with _ | ⟨x | x, r⟩ <;> first | exact zd_none | exact zd_ite (zd_go zge.rf) (zd_go zge.rf)
    | ifnonnull o =>
      show zD1 h (fun κ => zo_null (fun s => κ (pc + 3) L s h) (fun s => κ a1 L s h) st)
      unfold zo_null
      rcases st with _ | ⟨x | x, r⟩ <;> first | exact zd_none | exact zd_ite (zd_go zge.rf) (zd_go zge.rf)
    | goto o => exact zd_go zge.rf
    | tableswitch d lo hi offs =>
      show zD1 h (fun κ => zo_sw (fun t r => κ t L r h) _ _ st)
      unfold zo_sw
      rcases st with _ | ⟨x | x, r⟩
      · exact zd_none
      · exact zd_table (F := fun κ t => κ t L r h) (fun t => zd_go zge.rf) _ _
      · exact zd_none
    | getfield k =>
      show zD1 h (fun κ => zo_get h a1 a2 a3 (fun s => κ (pc + 3) L s h) st)
      unfold zo_get
      rcases st with _ | ⟨x | x, r⟩
      · exact zd_none
      · exact zd_none
      · dsimp only
        split
        · exact zd_bind (fun a _ => zd_go zge.rf)
        · exact zd_bind (fun a _ => zd_go zge.rf)
    | putfield k =>
      show zD1 h (fun κ => zo_put h a1 a2 a3 (fun s g => κ (pc + 3) L s g) st)
      unfold zo_put
      split
      · rcases st with _ | ⟨x | x, _ | ⟨y | y, r⟩⟩ <;> first | exact zd_none | exact zd_bind (fun a ha => zd_go (zge_of_zpF ha))
      · rcases st with _ | ⟨x | x, _ | ⟨y | y, r⟩⟩ <;> first | exact zd_none | exact zd_bind (fun a ha => zd_go (zge_of_zpI ha))
      · rcases st with _ | ⟨x | x, _ | ⟨y | y, r⟩⟩ <;> first | exact zd_none | exact zd_bind (fun a ha => zd_go (zge_of_zpZ ha))
    | iaload =>
      show zD1 h (fun κ => zo_ald (zia h) (fun s => κ (pc + 1) L s h) st)
      unfold zo_ald
      rcases st with _ | ⟨x | x, _ | ⟨y | y, r⟩⟩ <;> first | exact zd_none | exact zd_bind (fun a ha => zd_go zge.rf)
    | baload =>
      show zD1 h (fun κ => zo_ald (zba h) (fun s => κ (pc + 1) L s h) st)
      unfold zo_ald
      rcases st with _ | ⟨x | x, _ | ⟨y | y, r⟩⟩ <;> first | exact zd_none | exact zd_bind (fun a ha => zd_go zge.rf)
    | aaload =>
      show zD1 h (fun κ => zo_aald h (fun s => κ (pc + 1) L s h) st)
      unfold zo_aald
      rcases st with _ | ⟨x | x, _ | ⟨y | y, r⟩⟩ <;> first | exact zd_none | exact zd_bind (fun a ha => zd_go zge.rf)
    | iastore =>
      show zD1 h (fun κ => zo_ast (zis h) (fun s g => κ (pc + 1) L s g) st)
      unfold zo_ast
      rcases st with _ | ⟨x | x, _ | ⟨y | y, _ | ⟨w | w, r⟩⟩⟩ <;> first | exact zd_none | exact zd_bind (fun a ha => zd_go (zge_of_zis ha))
    | bastore =>
      show zD1 h (fun κ => zo_ast (zbs h) (fun s g => κ (pc + 1) L s g) st)
      unfold zo_ast
      rcases st with _ | ⟨x | x, _ | ⟨y | y, _ | ⟨w | w, r⟩⟩⟩ <;> first | exact zd_none | exact zd_bind (fun a ha => zd_go (zge_of_zbs ha))
    | aastore =>
      show zD1 h (fun κ => zo_aast h (fun s g => κ (pc + 1) L s g) st)
      unfold zo_aast
      rcases st with _ | ⟨x | x, _ | ⟨y | y, _ | ⟨w | w, r⟩⟩⟩ <;> first | exact zd_none | exact zd_bind (fun a ha => zd_go (zge_of_zas ha))
    | arraylength =>
      show zD1 h (fun κ => zo_len h (fun s => κ (pc + 1) L s h) st)
      unfold zo_len
      rcases st with _ | ⟨x | x, r⟩ <;> first | exact zd_none | exact zd_bind (fun a ha => zd_go zge.rf)
    | new k => exact zd_go zge_mk
    | newarray t =>
      show zD1 h (fun κ => zo_na h (zatk t) (fun s g => κ (pc + 2) L s g) st)
      unfold zo_na
      rcases st with _ | ⟨x | x, r⟩ <;> first | exact zd_none | exact zd_bind (fun a ha => zd_go (zge_of_zna ha))
    | anewarray k =>
      show zD1 h (fun κ => zo_na h a1 (fun s g => κ (pc + 3) L s g) st)
      unfold zo_na
      rcases st with _ | ⟨x | x, r⟩ <;> first | exact zd_none | exact zd_bind (fun a ha => zd_go (zge_of_zna ha))
    | dup =>
      show zD1 h (fun κ => zo_dup (fun s => κ (pc + 1) L s h) st)
      unfold zo_dup
      rcases st with _ | ⟨x, r⟩ <;> first | exact zd_none | exact zd_go zge.rf
    | dup2 =>
      show zD1 h (fun κ => zo_dup2 (fun s => κ (pc + 1) L s h) st)
      unfold zo_dup2
      rcases st with _ | ⟨x, _ | ⟨y, r⟩⟩ <;> first | exact zd_none | exact zd_go zge.rf
    | pop =>
      show zD1 h (fun κ => zo_pop (fun s => κ (pc + 1) L s h) st)
      unfold zo_pop
      rcases st with _ | ⟨x, r⟩ <;> first | exact zd_none | exact zd_go zge.rf
    | ireturn =>
      show zD1 h (fun _ => zo_iret a1 h st)
      unfold zo_iret
      rcases st with _ | ⟨x | x, _ | ⟨y, r⟩⟩ <;> first | exact zd_none | skip
      dsimp only
      split
      · exact zd_some
      · exact zd_ite zd_some zd_none
    | areturn =>
      show zD1 h (fun _ => zo_aret h st)
      unfold zo_aret
      rcases st with _ | ⟨x | x, _ | ⟨y, r⟩⟩ <;> first | exact zd_none | exact zd_some
    | return_ =>
      show zD1 h (fun _ => zo_vret h st)
      unfold zo_vret
      rcases st with _ | ⟨x, r⟩ <;> first | exact zd_none | exact zd_some
    | invokestatic k =>
      rcases a4 with _ | a4
      · show zD1 h (fun κ => zo_cs f a1 a2 a3 h (fun s g => κ (pc + 3) L s g) st)
        unfold zo_cs
        rcases zpop a2 [] st with _ | ⟨as, r⟩
        · exact zd_none
        · dsimp only
          rcases zshort 8 r with _ | _
          · exact zd_none
          · exact zd_bind (fun u hu => zd_go (hf _ _ _ hu))
      · show zD1 h (fun κ => zo_copy h (fun s g => κ (pc + 3) L s g) st)
        unfold zo_copy
        rcases st with _ | ⟨x1 | x1, _ | ⟨x2 | x2, _ | ⟨x3 | x3, _ | ⟨x4 | x4, _ | ⟨x5 | x5, r⟩⟩⟩⟩⟩ <;> first | exact zd_none | skip
        dsimp only
        rcases zshort 4 r with _ | _
        · exact zd_none
        · exact zd_bind (fun u hu => zd_go (zge_of_zcp hu))
    | invokevirtual k =>
      show zD1 h (fun κ => zo_cv f a1 a2 a3 a4 h (fun s g => κ (pc + 3) L s g) st)
      unfold zo_cv
      rcases zpop (a2 + 1) [] st with _ | ⟨_ | ⟨x | x, as⟩, r⟩ <;> first | exact zd_none | skip
      dsimp only
      rcases zshort 8 r with _ | _
      · exact zd_none
      · exact zd_ite (zd_bind (fun u hu => zd_go (hf _ _ _ hu))) zd_none
    | invokespecial k =>
      rcases a4 with _ | a4
      · show zD1 h (fun κ => zo_obj h (fun s => κ (pc + 3) L s h) st)
        unfold zo_obj
        rcases st with _ | ⟨x | x, r⟩ <;> first | exact zd_none | skip
        dsimp only
        rcases zshort 8 r with _ | _
        · exact zd_none
        · exact zd_ite zd_none (zd_go zge.rf)
      · show zD1 h (fun κ => zo_cv f a1 a2 0 (a4 + 1) h (fun s g => κ (pc + 3) L s g) st)
        unfold zo_cv
        rcases zpop (a2 + 1) [] st with _ | ⟨_ | ⟨x | x, as⟩, r⟩ <;> first | exact zd_none | skip
        dsimp only
        rcases zshort 8 r with _ | _
        · exact zd_none
        · exact zd_ite (zd_bind (fun u hu => zd_go (hf _ _ _ hu))) zd_none
    | _ => exact zd_none
theorem zD1.weak {h h1 : zM} {F : zK4 → Option zR} (hz : zge h h1) (d : zD1 h1 F) : zD1 h F := by
  rcases d with ⟨o, h2, h3⟩ | ⟨pc, L, st, h', h2, h3⟩
  · exact Or.inl ⟨o, fun r hr => hz.tr (h2 r hr), h3⟩
  · exact Or.inr ⟨pc, L, st, h', hz.tr h2, h3⟩
theorem zexec_dir {f : zF3} {ops : zO} {cuts : List (Nat × Nat)} (hf : ∀ j as h u, f j as h = some u → zge h u.2.2) : ∀ (n pc : Nat) (L : zL) (st : List zV) (h : zM), zD1 h (fun κ => zexec f ops cuts κ n pc L st h)
  | 0, pc, L, st, h => zd_go zge.rf
  | n + 1, pc, L, st, h => by
    rcases zone_dir (f := f) (ops := ops) (pc := pc) (L := L) (st := st) (h := h) (fun j as u hu => hf j as h u hu) with ⟨o, h1, h2⟩ | ⟨pc', L', st', h', h1, h2⟩
    · exact Or.inl ⟨o, h1, fun κ => h2 _⟩
    · have e : (fun κ => zexec f ops cuts κ (n + 1) pc L st h) = fun κ => (match zcut cuts pc' with
          | some k => κ pc' (ztrim k L') st' h'
          | none => zexec f ops cuts κ n pc' L' st' h') := funext fun κ => h2 _
      rw [e]
      rcases zcut cuts pc' with _ | k
      · exact (zexec_dir hf n pc' L' st' h').weak h1
      · exact zd_go h1
