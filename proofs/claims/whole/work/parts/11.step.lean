/-! What a program checks of a record, and the step. -/
def zat (q : Nat) (w : Jvm.Cond) : Bool := match znth lw_tbl q with
  | some v => decide (v = w)
  | none => false
def zatN (q : Nat) (own : String) (k : Nat) (y : MethodName) : Bool := match znth lw_tbl q with
  | some (.methodLinkNest a i x _) => decide (a = own ∧ i = k ∧ x = y)
  | _ => false
def zil (i : ClassFile.Instr) : Nat := match i with
  | .iload _ => 2
  | .aload _ => 2
  | .istore _ => 2
  | .astore _ => 2
  | .iinc _ _ => 3
  | .bipush _ => 2
  | .sipush _ => 3
  | .ldc _ => 2
  | .ldc_w _ => 3
  | .ifCond _ _ => 3
  | .if_icmp _ _ => 3
  | .ifnull _ => 3
  | .ifnonnull _ => 3
  | .goto _ => 3
  | .getfield _ => 3
  | .putfield _ => 3
  | .new _ => 3
  | .newarray _ => 2
  | .anewarray _ => 3
  | .invokestatic _ => 3
  | .invokevirtual _ => 3
  | .invokespecial _ => 3
  | _ => 1
def zcal (M J : zRec) (na : Nat) : Bool := decide ((zMy J).cls ≠ "java/lang/invoke/MethodHandle" ∧ (zMy J).cls ≠ "java/lang/invoke/VarHandle" ∧ (parseMethodDescriptor (zMy J).desc).map (fun d => d.parameters.length) = some na) && decide (zMf J + 1 ≤ zMf M ∧ 8 + (zMl J + 11) + zMn J ≤ zMn M)
def zisr (t : FieldType) : Bool := match t with
  | .object _ => true
  | .array _ => true
  | _ => false
def zdec (b : ByteArray) (pc : Nat) (i : ClassFile.Instr) : Bool := decide (decode b pc = .ok (i, zil i))
theorem zdec_ok {b : ByteArray} {pc : Nat} {i : ClassFile.Instr} (h : zdec b pc i = true) : decode b pc = .ok (i, zil i) := of_decide_eq_true h
/-- one entry of a record; q1, q2, q3: places of words -/
def zchk (recs : List zRec) (M : zRec) (pc : Nat) (E : zE) (q1 q2 q3 : Nat) : Bool := match E with
  | (.tableswitch d lo hi offs, _, _, _, _) => (match decode (zMb M) pc with
      | .ok (i, _) => decide (i = .tableswitch d lo hi offs)
      | _ => false) && decide (hi + 1 = (offs.size : Int)) && decide (offs.size < 900) && decide (0 ≤ (pc : Int) + d) && offs.toList.all (fun o => decide (0 ≤ (pc : Int) + o)) && decide (lo = 0)
  | (i, a1, a2, a3, a4) => zdec (zMb M) pc i && match i with
    | .ifCond _ o => decide ((pc : Int) + o = (a1 : Int))
    | .if_icmp _ o => decide ((pc : Int) + o = (a1 : Int))
    | .ifnull o => decide ((pc : Int) + o = (a1 : Int))
    | .ifnonnull o => decide ((pc : Int) + o = (a1 : Int))
    | .goto o => decide ((pc : Int) + o = (a1 : Int))
    | .ldc k => zat q1 (.constant (zMo M) k (Int32.ofNat a1))
    | .ldc_w k => zat q1 (.constant (zMo M) k (Int32.ofNat a1))
    | .getfield k => match zcls[a1]? with
      | some r => decide (a2 < r.2.2) && zat q1 (.fieldLink (zMo M) k r.1 (r.2.1 a2).2.1 (r.2.1 a2).2.2.1) && decide ((r.2.1 a2).1 = r.1) && decide (zfk (ztyc a1 a2) = a3)
      | none => false
    | .putfield k => match zcls[a1]? with
      | some r => decide (a2 < r.2.2) && zat q1 (.fieldLink (zMo M) k r.1 (r.2.1 a2).2.1 (r.2.1 a2).2.2.1) && decide ((r.2.1 a2).1 = r.1) && decide (zfk (ztyc a1 a2) = a3) && (decide ((r.2.1 a2).2.2.2 = false) || decide ((zMy M).name = "<init>" ∧ (r.2.1 a2).1 = zMo M)) && (decide (a3 ≠ 1) || zisr (ztyc a1 a2))
      | none => false
    | .new k => match zcls[a1]? with
      | some r => decide (r.2.2 = a2) && zat q1 (.classLink (zMo M) k r.1) && zat q2 (.instantiable r.1 a2) && zat q3 (.initialized r.1)
      | none => false
    | .newarray t => (decide (t = .int) || decide (t = .byte) || decide (t = .boolean)) && zat q1 (.arrayClass (newarray.typeOf t))
    | .anewarray k => decide (104 ≤ a1 ∧ a1 < 108) && match zaty (a1 - 101) with
      | .object C => zat q1 (.classLink (zMo M) k C)
      | _ => false
    | .ireturn => match a1 with
      | 0 => decide (zMr M = some .int)
      | _ => decide (zMr M = some .boolean)
    | .areturn => match zMr M with
      | some t => zisr t
      | none => false
    | .return_ => decide (zMr M = none)
    | .invokestatic k => match a4 with
      | 0 => match znth recs a1 with
        | some J => zcal M J a2 && (zat q1 (.methodLink (zMo M) k (zMy J)) || zatN q1 (zMo M) k (zMy J)) && zat q2 (.static (zMy J)) && decide (a3 = zrk J)
        | none => false
      | _ => zat q1 (.methodLink (zMo M) k arraycopyName) && zat q2 (.native arraycopyName) && zat q3 (.static arraycopyName) && decide (1 ≤ zMf M ∧ 4 + (nativeFrameWords "java/lang/System" "arraycopy" 5 + 11) ≤ zMn M)
    | .invokevirtual k => match a4, znth recs a1 with
      | rc + 1, some J => match zcls[rc]? with
        | some r => zcal M J a2 && zat q1 (.methodLink (zMo M) k (zMy J)) && zat q2 (.instanceMethod (zMy J)) && zat q3 (.selects r.1 (zMy J) (zMy J)) && decide (a3 = zrk J)
        | none => false
      | _, _ => false
    | .invokespecial k => match a4 with
      | 0 => zat q1 (.methodLink (zMo M) k Lib.objectInit) && zat q2 (.instanceMethod Lib.objectInit) && decide (1 ≤ zMf M ∧ 20 ≤ zMn M)
      | rc + 1 => match znth recs a1 with
        | some J => zcal M J a2 && zat q1 (.methodLink (zMo M) k (zMy J)) && zat q2 (.instanceMethod (zMy J)) && decide ((zMy J).name = "<init>" ∧ zMr J = none ∧ rc < 13)
        | none => false
    | _ => true
theorem zat_mem {q : Nat} {w : Jvm.Cond} (h : zat q w = true) : w ∈ lw_tbl := by
  unfold zat at h
  split at h
  · rename_i v hv
    have : v = w := of_decide_eq_true h
    subst this
    clear h
    have key : ∀ (l : List Jvm.Cond) (q : Nat), znth l q = some v → v ∈ l := by
      intro l
      induction l with
      | nil => intro q h; simp [znth] at h
      | cons a l ih =>
        intro q h
        cases q with
        | zero => simp [znth] at h; subst h; exact List.mem_cons_self
        | succ q => exact List.mem_cons_of_mem _ (ih q h)
    exact key _ _ hv
  · cases h
theorem zatN_mem {q : Nat} {own : String} {k : Nat} {y : MethodName} (h : zatN q own k y = true) : ∃ host, Jvm.Cond.methodLinkNest own k y host ∈ lw_tbl := by
  unfold zatN at h
  split at h
  · rename_i a i x b hv
    obtain ⟨h1, h2, h3⟩ := of_decide_eq_true h
    subst h1; subst h2; subst h3
    refine ⟨b, zat_mem (q := q) ?_⟩
    unfold zat
    rw [hv]
    simp
  · cases h
theorem zg_at {q : Nat} {w : Jvm.Cond} (h : zat q w = true) (hg : goodWord w = true) : w ∈ zgt := zg_of (zat_mem h) hg
section ZSTEP
variable {p : Program} {l : Launch} {e : Env} {R : Room} {s : State} {m : MethodId} {args : Array Value} {below : List Frame} {meth : Method} {c : Code} {Q : State → Prop} {D : zD3} {base : Nat} {H0 : Heap} {M : zRec} {c0 n0 : Nat}
set_option maxHeartbeats 4000000 in
set_option maxRecDepth 20000 in
theorem zone_sim (C : zCx p s m args meth c R D base H0 M) {recs : List zRec} {f : zF3} {κ : zK4} {pc : Nat} {L : zL} {st : List zV} {h : zM} {r : zR}
    (hchk : ∀ pc E, znth (zMp M) pc = some (some E) → ∃ q1 q2 q3, zchk recs M pc E q1 q2 q3 = true)
    (hsys : Jvm.Cond.initialized "java/lang/System" ∈ zgt ∧ Jvm.Cond.code Lib.objectInit ⟨#[0xb1]⟩ 1 none ∈ zgt)
    (hrec : ∀ j J, znth recs j = some J → Jvm.Cond.code (zMy J) (zMb J) (zMl J) (zMr J) ∈ zgt ∧ Jvm.Cond.initialized (zMy J).cls ∈ zgt)
    (hM : ∀ j J, znth recs j = some J → ∀ as u, f j as h = some u → zMet l D base J as h u ∧ zge h u.2.2)
    (h0 : c0 ≤ h.1.2.1 ∧ n0 ≤ h.1.2.2) (hroom : r.2.2.1.2.1 - c0 ≤ R.cells ∧ r.2.2.1.2.2 - n0 ≤ R.slots)
    (hret : ∀ (x : Int32) (pc : Nat) (L : zL), decode (zMb M) pc = .ok (.ireturn, 1) → (zMr M = some .int ∨ (zMr M = some .boolean ∧ (x = 0 ∨ x = 1))) → r = (x, 0, h) → zG p l e R s m args below meth c Q D base H0 M c0 n0 pc L [.inl x] h)
    (haret : ∀ (x : Nat) (pc : Nat) (L : zL) (t : FieldType), decode (zMb M) pc = .ok (.areturn, 1) → zMr M = some t → zisr t = true → r = (0, x, h) → zG p l e R s m args below meth c Q D base H0 M c0 n0 pc L [.inr x] h)
    (hvret : ∀ (pc : Nat) (L : zL), decode (zMb M) pc = .ok (.return_, 1) → zMr M = none → r = (0, 0, h) → zG p l e R s m args below meth c Q D base H0 M c0 n0 pc L [] h)
    (hge : ∀ pc' L' st' h', κ pc' L' st' h' = some r → zge h' r.2.2)
    (hr : zone f (zMp M) κ pc L st h = some r) (hkk : ∀ pc' L' st' h', zge h h' → κ pc' L' st' h' = some r → zG p l e R s m args below meth c Q D base H0 M c0 n0 pc' L' st' h') : zG p l e R s m args below meth c Q D base H0 M c0 n0 pc L st h := by
  unfold zone at hr
  split at hr
  · rename_i i a1 a2 a3 a4 hE
    obtain ⟨q1, q2, q3, hck⟩ := hchk _ _ hE
    have hx := C.1
    have hb := C.2.1
    have hown := C.2.2.2.1
    have hts := C.2.2.2.2.1
    cases i <;> (try dsimp only at hr) <;> try (cases hr; done)
    case iload_n k =>
      have hd : decode (zMb M) pc = .ok (.iload_n k, 1) := zdec_ok (by simpa [zchk] using hck)
      exact zs_load (fun ls H locs x rest hl => lv_iload_n hx hb hd rfl hl) hr (fun st' hs => hkk _ _ _ _ zge.rf hs)
    case iload k =>
      have hd : decode (zMb M) pc = .ok (.iload k, 2) := zdec_ok (by simpa [zchk] using hck)
      exact zs_load (fun ls H locs x rest hl => lv_iload hx hb hd hl) hr (fun st' hs => hkk _ _ _ _ zge.rf hs)
    case aload_n k =>
      have hd : decode (zMb M) pc = .ok (.aload_n k, 1) := zdec_ok (by simpa [zchk] using hck)
      exact zs_aload (fun ls H locs x rest hl => lv_aload_n hx hb hd rfl hl) (fun ls H locs rest hl => lv_aload_nN hx hb hd rfl hl) hr (fun st' hs => hkk _ _ _ _ zge.rf hs)
    case aload k =>
      have hd : decode (zMb M) pc = .ok (.aload k, 2) := zdec_ok (by simpa [zchk] using hck)
      exact zs_aload (fun ls H locs x rest hl => lv_aload hx hb hd hl) (fun ls H locs rest hl => lv_aloadN hx hb hd hl) hr (fun st' hs => hkk _ _ _ _ zge.rf hs)
    case istore_n k =>
      have hd : decode (zMb M) pc = .ok (.istore_n k, 1) := zdec_ok (by simpa [zchk] using hck)
      exact zs_store (fun ls H locs x rest lv h1 h2 h3 => lv_istore_n hx hb hd rfl h1 h2 rfl h3) hr (fun L' st' hs => hkk _ _ _ _ zge.rf hs)
    case istore k =>
      have hd : decode (zMb M) pc = .ok (.istore k, 2) := zdec_ok (by simpa [zchk] using hck)
      exact zs_store (fun ls H locs x rest lv h1 h2 h3 => lv_istore hx hb hd h1 h2 rfl h3) hr (fun L' st' hs => hkk _ _ _ _ zge.rf hs)
    case astore_n k =>
      have hd : decode (zMb M) pc = .ok (.astore_n k, 1) := zdec_ok (by simpa [zchk] using hck)
      exact zs_astore (fun ls H locs x rest lv h1 h2 h3 => lv_astore_n hx hb hd rfl h1 h2 rfl h3) (fun ls H locs rest lv h1 h2 h3 => lv_astore_nN hx hb hd rfl h1 h2 rfl h3) hr (fun L' st' hs => hkk _ _ _ _ zge.rf hs)
    case astore k =>
      have hd : decode (zMb M) pc = .ok (.astore k, 2) := zdec_ok (by simpa [zchk] using hck)
      exact zs_astore (fun ls H locs x rest lv h1 h2 h3 => lv_astore hx hb hd h1 h2 rfl h3) (fun ls H locs rest lv h1 h2 h3 => lv_astoreN hx hb hd h1 h2 rfl h3) hr (fun L' st' hs => hkk _ _ _ _ zge.rf hs)
    case iinc k d =>
      have hd : decode (zMb M) pc = .ok (.iinc k d, 3) := zdec_ok (by simpa [zchk] using hck)
      exact zs_iinc C hd hr (fun L' hs => hkk _ _ _ _ zge.rf hs)
    case iconst n =>
      have hd : decode (zMb M) pc = .ok (.iconst n, 1) := zdec_ok (by simpa [zchk] using hck)
      exact zs_push (fun ls H locs rest => lv_iconst hx hb hd rfl) (hkk _ _ _ _ zge.rf hr)
    case bipush n =>
      have hd : decode (zMb M) pc = .ok (.bipush n, 2) := zdec_ok (by simpa [zchk] using hck)
      exact zs_push (fun ls H locs rest => lv_bipush hx hb hd rfl) (hkk _ _ _ _ zge.rf hr)
    case sipush n =>
      have hd : decode (zMb M) pc = .ok (.sipush n, 3) := zdec_ok (by simpa [zchk] using hck)
      exact zs_push (fun ls H locs rest => lv_sipush hx hb hd rfl) (hkk _ _ _ _ zge.rf hr)
    case ldc k =>
      simp only [zchk, Bool.and_eq_true, decide_eq_true_eq] at hck
      exact zs_push (fun ls H locs rest => lv_ldc hx hb hown (hts _ (zg_at hck.2 rfl)) (zdec_ok hck.1)) (hkk _ _ _ _ zge.rf hr)
    case ldc_w k =>
      simp only [zchk, Bool.and_eq_true, decide_eq_true_eq] at hck
      exact zs_push (fun ls H locs rest => lv_ldcw hx hb hown (hts _ (zg_at hck.2 rfl)) (zdec_ok hck.1)) (hkk _ _ _ _ zge.rf hr)
    case aconst_null =>
      have hd : decode (zMb M) pc = .ok (.aconst_null, 1) := zdec_ok (by simpa [zchk] using hck)
      exact zs_push (fun ls H locs rest => lv_null hx hb hd) (hkk _ _ _ _ zge.rf hr)
    case iadd =>
      have hd : decode (zMb M) pc = .ok (.iadd, 1) := zdec_ok (by simpa [zchk] using hck)
      exact zs_bin (fun ls H locs x y rest => lv_iadd hx hb hd) hr (fun st' hs => hkk _ _ _ _ zge.rf hs)
    case isub =>
      have hd : decode (zMb M) pc = .ok (.isub, 1) := zdec_ok (by simpa [zchk] using hck)
      exact zs_bin (fun ls H locs x y rest => lv_isub hx hb hd) hr (fun st' hs => hkk _ _ _ _ zge.rf hs)
    case imul =>
      have hd : decode (zMb M) pc = .ok (.imul, 1) := zdec_ok (by simpa [zchk] using hck)
      exact zs_bin (fun ls H locs x y rest => lv_imul hx hb hd) hr (fun st' hs => hkk _ _ _ _ zge.rf hs)
    case iand =>
      have hd : decode (zMb M) pc = .ok (.iand, 1) := zdec_ok (by simpa [zchk] using hck)
      exact zs_bin (fun ls H locs x y rest => lv_iand hx hb hd) hr (fun st' hs => hkk _ _ _ _ zge.rf hs)
    case ior =>
      have hd : decode (zMb M) pc = .ok (.ior, 1) := zdec_ok (by simpa [zchk] using hck)
      exact zs_bin (fun ls H locs x y rest => lv_ior hx hb hd) hr (fun st' hs => hkk _ _ _ _ zge.rf hs)
    case ixor =>
      have hd : decode (zMb M) pc = .ok (.ixor, 1) := zdec_ok (by simpa [zchk] using hck)
      exact zs_bin (fun ls H locs x y rest => lv_ixor hx hb hd) hr (fun st' hs => hkk _ _ _ _ zge.rf hs)
    case ishl =>
      have hd : decode (zMb M) pc = .ok (.ishl, 1) := zdec_ok (by simpa [zchk] using hck)
      exact zs_bin (fun ls H locs x y rest => lv_ishl hx hb hd) hr (fun st' hs => hkk _ _ _ _ zge.rf hs)
    case ishr =>
      have hd : decode (zMb M) pc = .ok (.ishr, 1) := zdec_ok (by simpa [zchk] using hck)
      exact zs_bin (fun ls H locs x y rest => lv_ishr hx hb hd) hr (fun st' hs => hkk _ _ _ _ zge.rf hs)
    case iushr =>
      have hd : decode (zMb M) pc = .ok (.iushr, 1) := zdec_ok (by simpa [zchk] using hck)
      exact zs_bin (fun ls H locs x y rest => lv_iushr hx hb hd rfl) hr (fun st' hs => hkk _ _ _ _ zge.rf hs)
    case idiv =>
      have hd : decode (zMb M) pc = .ok (.idiv, 1) := zdec_ok (by simpa [zchk] using hck)
      exact zs_div (fun ls H locs x y rest hy => lv_idiv hx hb hd hy) hr (fun st' hs => hkk _ _ _ _ zge.rf hs)
    case irem =>
      have hd : decode (zMb M) pc = .ok (.irem, 1) := zdec_ok (by simpa [zchk] using hck)
      exact zs_div (fun ls H locs x y rest hy => lv_irem hx hb hd hy) hr (fun st' hs => hkk _ _ _ _ zge.rf hs)
    case i2b =>
      have hd : decode (zMb M) pc = .ok (.i2b, 1) := zdec_ok (by simpa [zchk] using hck)
      exact zs_un (fun ls H locs x rest => lv_i2b hx hb hd rfl) hr (fun st' hs => hkk _ _ _ _ zge.rf hs)
    case ifCond q o =>
      simp only [zchk, Bool.and_eq_true, decide_eq_true_eq] at hck
      exact zs_if C (zdec_ok hck.1) hck.2 hr (fun st' hs => hkk _ _ _ _ zge.rf hs) (fun st' hs => hkk _ _ _ _ zge.rf hs)
    case if_icmp q o =>
      simp only [zchk, Bool.and_eq_true, decide_eq_true_eq] at hck
      exact zs_icmp C (zdec_ok hck.1) hck.2 hr (fun st' hs => hkk _ _ _ _ zge.rf hs) (fun st' hs => hkk _ _ _ _ zge.rf hs)
    case ifnull o =>
      simp only [zchk, Bool.and_eq_true, decide_eq_true_eq] at hck
      exact zs_ifnull C (zdec_ok hck.1) hck.2 hr (fun st' hs => hkk _ _ _ _ zge.rf hs) (fun st' hs => hkk _ _ _ _ zge.rf hs)
    case ifnonnull o =>
      simp only [zchk, Bool.and_eq_true, decide_eq_true_eq] at hck
      exact zs_ifnonnull C (zdec_ok hck.1) hck.2 hr (fun st' hs => hkk _ _ _ _ zge.rf hs) (fun st' hs => hkk _ _ _ _ zge.rf hs)
    case goto o =>
      simp only [zchk, Bool.and_eq_true, decide_eq_true_eq] at hck
      exact fun ls H locs hS => lv_goto hx hb (zdec_ok hck.1) hck.2 (hkk _ _ _ _ zge.rf hr ls H locs hS)
    case tableswitch d lo hi offs =>
      unfold zo_sw at hr
      split at hr
      · rename_i x rest
        simp only [zchk, Bool.and_eq_true, decide_eq_true_eq, List.all_eq_true] at hck
        obtain ⟨⟨⟨⟨⟨g0, g1⟩, g2⟩, g3⟩, g4⟩, g5⟩ := hck
        split at g0
        · rename_i i len hde
          have : i = .tableswitch d lo hi offs := of_decide_eq_true g0
          subst this
          subst g5
          exact zs_table C hde g1 g2 g3 g4 hr (fun t ht => hkk _ _ _ _ zge.rf ht)
        · cases g0
      · cases hr
    case getfield k =>
      simp only [zchk, Bool.and_eq_true, decide_eq_true_eq] at hck
      obtain ⟨hd, hck⟩ := hck
      have hd := zdec_ok hd
      split at hck
      · rename_i cl hcl
        simp only [Bool.and_eq_true, decide_eq_true_eq] at hck
        obtain ⟨⟨⟨g1, g2⟩, g3⟩, g4⟩ := hck
        exact zs_get C hd hcl g1 (zg_at g2 rfl) g3 g4 hr (fun st' hs => hkk _ _ _ _ zge.rf hs)
      · cases hck
    case putfield k =>
      simp only [zchk, Bool.and_eq_true, decide_eq_true_eq] at hck
      obtain ⟨hd, hck⟩ := hck
      have hd := zdec_ok hd
      split at hck
      · rename_i cl hcl
        simp only [Bool.and_eq_true, Bool.or_eq_true, decide_eq_true_eq] at hck
        obtain ⟨⟨⟨⟨⟨g1, g2⟩, g3⟩, g4⟩, g5⟩, g6⟩ := hck
        refine zs_put C hd hcl g1 (zg_at g2 rfl) g3 g4 g5 (fun h1 => ?_) hr (fun st' h' hz hs => hkk _ _ _ _ hz hs)
        rcases g6 with g6 | g6
        · exact absurd h1 g6
        · unfold zisr at g6
          split at g6
          · rename_i n hn; exact Or.inl ⟨n, hn⟩
          · rename_i n hn; exact Or.inr ⟨n, hn⟩
          · cases g6
      · cases hck
    case iaload =>
      have hd : decode (zMb M) pc = .ok (.iaload, 1) := zdec_ok (by simpa [zchk] using hck)
      exact zs_iald C hd hr (fun st' hs => hkk _ _ _ _ zge.rf hs)
    case baload =>
      have hd : decode (zMb M) pc = .ok (.baload, 1) := zdec_ok (by simpa [zchk] using hck)
      exact zs_bald C hd hr (fun st' hs => hkk _ _ _ _ zge.rf hs)
    case aaload =>
      have hd : decode (zMb M) pc = .ok (.aaload, 1) := zdec_ok (by simpa [zchk] using hck)
      exact zs_aald C hd hr (fun st' hs => hkk _ _ _ _ zge.rf hs)
    case iastore =>
      have hd : decode (zMb M) pc = .ok (.iastore, 1) := zdec_ok (by simpa [zchk] using hck)
      exact zs_iast C hd hr (fun st' h' hz hs => hkk _ _ _ _ hz hs)
    case bastore =>
      have hd : decode (zMb M) pc = .ok (.bastore, 1) := zdec_ok (by simpa [zchk] using hck)
      exact zs_bast C hd hr (fun st' h' hz hs => hkk _ _ _ _ hz hs)
    case aastore =>
      have hd : decode (zMb M) pc = .ok (.aastore, 1) := zdec_ok (by simpa [zchk] using hck)
      exact zs_aast C hd hr (fun st' h' hz hs => hkk _ _ _ _ hz hs)
    case arraylength =>
      have hd : decode (zMb M) pc = .ok (.arraylength, 1) := zdec_ok (by simpa [zchk] using hck)
      exact zs_len C hd hr (fun st' hs => hkk _ _ _ _ zge.rf hs)
    case new k =>
      simp only [zchk, Bool.and_eq_true, decide_eq_true_eq] at hck
      obtain ⟨hd, hck⟩ := hck
      have hd := zdec_ok hd
      split at hck
      · rename_i cl hcl
        simp only [Bool.and_eq_true, decide_eq_true_eq] at hck
        obtain ⟨⟨⟨g1, g2⟩, g3⟩, g4⟩ := hck
        exact zs_new C hd hcl g1 (zg_at g2 rfl) (zg_at g3 rfl) (zg_at g4 rfl) h0 hroom (hge _ _ _ _ hr) (hkk _ _ _ _ ⟨Nat.le_succ _, Nat.le_add_right _ _⟩ hr)
      · cases hck
    case newarray t =>
      simp only [zchk, Bool.and_eq_true, Bool.or_eq_true, decide_eq_true_eq] at hck
      obtain ⟨hd, g1, g2⟩ := hck
      have hd := zdec_ok hd
      exact zs_newarr C hd (by rcases g1 with (q | q) | q <;> simp [q]) (zg_at g2 rfl) h0 hroom (fun st' h' hs => hge _ _ _ _ hs) hr (fun st' h' hz hs => hkk _ _ _ _ hz hs)
    case anewarray k =>
      simp only [zchk, Bool.and_eq_true, decide_eq_true_eq] at hck
      obtain ⟨hd, g1, g2⟩ := hck
      have hd := zdec_ok hd
      split at g2
      · rename_i CN hCN
        obtain ⟨t, rfl⟩ : ∃ t, a1 = 101 + t := ⟨a1 - 101, by omega⟩
        rw [show 101 + t - 101 = t by omega] at hCN
        exact zs_anew C hd (by omega) (by omega) hCN (zg_at g2 rfl) h0 hroom (fun st' h' hs => hge _ _ _ _ hs) hr (fun st' h' hz hs => hkk _ _ _ _ hz hs)
      · cases g2
    case dup =>
      have hd : decode (zMb M) pc = .ok (.dup, 1) := zdec_ok (by simpa [zchk] using hck)
      exact zs_dup C hd hr (fun st' hs => hkk _ _ _ _ zge.rf hs)
    case dup2 =>
      have hd : decode (zMb M) pc = .ok (.dup2, 1) := zdec_ok (by simpa [zchk] using hck)
      exact zs_dup2 C hd hr (fun st' hs => hkk _ _ _ _ zge.rf hs)
    case pop =>
      have hd : decode (zMb M) pc = .ok (.pop, 1) := zdec_ok (by simpa [zchk] using hck)
      exact zs_pop C hd hr (fun st' hs => hkk _ _ _ _ zge.rf hs)
    case ireturn =>
      simp only [zchk, Bool.and_eq_true, decide_eq_true_eq] at hck
      obtain ⟨hd, hck⟩ := hck
      have hd := zdec_ok hd
      unfold zo_iret at hr
      split at hr
      · rename_i x
        split at hr
        · exact hret x pc L hd (Or.inl (by simpa using hck)) (Option.some.inj hr).symm
        · rename_i hne
          split at hr
          · rename_i hx01
            refine hret x pc L hd (Or.inr ⟨?_, hx01⟩) (Option.some.inj hr).symm
            split at hck
            · exact absurd rfl hne
            · simpa using hck
          · cases hr
      · cases hr
    case areturn =>
      simp only [zchk, Bool.and_eq_true, decide_eq_true_eq] at hck
      obtain ⟨hd, hck⟩ := hck
      have hd := zdec_ok hd
      unfold zo_aret at hr
      split at hr
      · rename_i x
        split at hck
        · rename_i t ht
          exact haret x pc L t hd ht hck (Option.some.inj hr).symm
        · cases hck
      · cases hr
    case return_ =>
      simp only [zchk, Bool.and_eq_true, decide_eq_true_eq] at hck
      obtain ⟨hd, hck⟩ := hck
      have hd := zdec_ok hd
      unfold zo_vret at hr
      split at hr
      · exact hvret pc L hd hck (Option.some.inj hr).symm
      · cases hr
    case invokestatic k =>
      simp only [zchk, Bool.and_eq_true, decide_eq_true_eq] at hck
      obtain ⟨hd, hck⟩ := hck
      have hd := zdec_ok hd
      rcases a4 with _ | a4
      · have hr : zo_cs f a1 a2 a3 h (fun s g => κ (pc + 3) L s g) st = some r := hr
        have hck : (match znth recs a1 with
          | some J => zcal M J a2 && (zat q1 (.methodLink (zMo M) k (zMy J)) || zatN q1 (zMo M) k (zMy J)) && zat q2 (.static (zMy J)) && decide (a3 = zrk J)
          | none => false) = true := hck
        split at hck
        · rename_i J hJ
          simp only [zcal, Bool.and_eq_true, Bool.or_eq_true, decide_eq_true_eq] at hck
          obtain ⟨⟨⟨⟨g1, g2⟩, g3⟩, g4⟩, g5⟩ := hck
          refine zs_callS C hd ⟨(hrec _ _ hJ).1, (hrec _ _ hJ).2, g1⟩ ?_ (zg_at g4 rfl) g5 g2 (fun as u hu => hM _ _ hJ as u hu) h0 hroom (fun st' h' hs => hge _ _ _ _ hs) hr (fun st' h' hz hs => hkk _ _ _ _ hz hs)
          rcases g3 with q | q
          · exact Or.inl (zg_at q rfl)
          · exact Or.inr (zatN_mem q)
        · cases hck
      · have hr : zo_copy h (fun s g => κ (pc + 3) L s g) st = some r := hr
        have hck : (zat q1 (.methodLink (zMo M) k arraycopyName) && zat q2 (.native arraycopyName) && zat q3 (.static arraycopyName) && decide (1 ≤ zMf M ∧ 4 + (nativeFrameWords "java/lang/System" "arraycopy" 5 + 11) ≤ zMn M)) = true := hck
        simp only [Bool.and_eq_true, decide_eq_true_eq] at hck
        obtain ⟨⟨⟨g1, g2⟩, g3⟩, g4, g5⟩ := hck
        exact zs_copy C hd (zg_at g1 rfl) (zg_at g2 rfl) (zg_at g3 rfl) hsys.1 g4 g5 hr (fun st' h' hz hs => hkk _ _ _ _ hz hs)
    case invokevirtual k =>
      simp only [zchk, Bool.and_eq_true, decide_eq_true_eq] at hck
      obtain ⟨hd, hck⟩ := hck
      have hd := zdec_ok hd
      split at hck
      · rename_i rc J hJ
        split at hck
        · rename_i cl hcl
          simp only [zcal, Bool.and_eq_true, Bool.or_eq_true, decide_eq_true_eq] at hck
          obtain ⟨⟨⟨⟨⟨g1, g2⟩, g3⟩, g4⟩, g5⟩, g6⟩ := hck
          exact zs_callV C hd ⟨(hrec _ _ hJ).1, (hrec _ _ hJ).2, g1⟩ (zg_at g3 rfl) (zg_at g4 rfl) (zg_at g5 rfl) g6 hcl g2 (fun as u hu => hM _ _ hJ as u hu) h0 hroom (fun st' h' hs => hge _ _ _ _ hs) hr (fun st' h' hz hs => hkk _ _ _ _ hz hs)
        · cases hck
      · cases hck
    case invokespecial k =>
      simp only [zchk, Bool.and_eq_true, decide_eq_true_eq] at hck
      obtain ⟨hd, hck⟩ := hck
      have hd := zdec_ok hd
      split at hr
      · simp only [Bool.and_eq_true, decide_eq_true_eq] at hck
        obtain ⟨⟨g1, g2⟩, g3, g4⟩ := hck
        exact zs_obj C hd (zg_at g1 rfl) (zg_at g2 rfl) hsys.2 g3 g4 hr (fun st' hs => hkk _ _ _ _ zge.rf hs)
      · rename_i hne
        rcases a4 with _ | rc
        · exact absurd rfl hne
        · dsimp only at hck
          split at hck
          · rename_i J hJ
            simp only [zcal, Bool.and_eq_true, Bool.or_eq_true, decide_eq_true_eq] at hck
            obtain ⟨⟨⟨⟨g1, g2⟩, g3⟩, g4⟩, g5, g6, g7⟩ := hck
            exact zs_callI C hd ⟨(hrec _ _ hJ).1, (hrec _ _ hJ).2, g1⟩ (zg_at g3 rfl) (zg_at g4 rfl) g5 g6 g7 g2 (fun as u hu => hM _ _ hJ as u hu) h0 hroom (fun st' h' hs => hge _ _ _ _ hs) hr (fun st' h' hz hs => hkk _ _ _ _ hz hs)
          · cases hck
  · cases hr
end ZSTEP
