/-! One instruction of the small machine is one of the real one. -/
abbrev zRec : Type := MethodName × ByteArray × Nat × Option FieldType × zO × List (Nat × Nat) × Nat × Nat
def zMy (M : zRec) : MethodName := M.1
def zMb (M : zRec) : ByteArray := M.2.1
def zMl (M : zRec) : Nat := M.2.2.1
def zMr (M : zRec) : Option FieldType := M.2.2.2.1
def zMo (M : zRec) : String := M.1.cls
def zMp (M : zRec) : zO := M.2.2.2.2.1
def zMc (M : zRec) : List (Nat × Nat) := M.2.2.2.2.2.1
def zMf (M : zRec) : Nat := M.2.2.2.2.2.2.1
def zMn (M : zRec) : Nat := M.2.2.2.2.2.2.2
def zge (h h' : zM) : Prop := h.1.2.1 ≤ h'.1.2.1 ∧ h.1.2.2 ≤ h'.1.2.2
theorem zge.rf {h : zM} : zge h h := ⟨Nat.le_refl _, Nat.le_refl _⟩
theorem zge.tr {h h1 h2 : zM} (a : zge h h1) (b : zge h1 h2) : zge h h2 := ⟨Nat.le_trans a.1 b.1, Nat.le_trans a.2 b.2⟩
/-- the words that a callee may ask for, and the others: links to private methods of nest mates, arrays of objects -/
def zgt : List Jvm.Cond := lw_tbl.filter goodWord
def zisN : Jvm.Cond → Bool
  | .methodLinkNest _ _ _ _ => true
  | _ => false
theorem zg_of {w : Jvm.Cond} (h : w ∈ lw_tbl) (hg : goodWord w = true) : w ∈ zgt := List.mem_filter.mpr ⟨h, hg⟩
def zEx (U : State) : Prop := (∀ (a : String) (i : Nat) (x : MethodName) (b : String), Jvm.Cond.methodLinkNest a i x b ∈ lw_tbl → va_Nw (Jvm.Cond.methodLinkNest a i x b) U) ∧ va_AO RX10 U ∧ va_AO RX2 U ∧ va_AO RX4 U ∧ va_AO RX8 U
theorem zEx.warm {s U : State} (hW : s.WarmedH U.vm) (h : zEx s) : zEx U :=
  ⟨fun a i x b hm => va_Nw.warmM hW (h.1 a i x b hm), h.2.1.moved hW.alike, h.2.2.1.moved hW.alike, h.2.2.2.1.moved hW.alike, h.2.2.2.2.moved hW.alike⟩
theorem zEx.same {u U : State} (hvm : u.vm = U.vm) (h : zEx u) : zEx U := by
  have ha : u.vm.Alike U.vm := by rw [hvm]; exact Vm.Alike.refl _
  exact ⟨fun a i x b hm => va_Nw.same rfl hvm (h.1 a i x b hm), h.2.1.moved ha, h.2.2.1.moved ha, h.2.2.2.1.moved ha, h.2.2.2.2.moved ha⟩
/-- what a method's walk stands on -/
def zCx (p : Program) (s : State) (m : MethodId) (args : Array Value) (meth : Method) (c : Code) (R : Room) (D : zD3) (base : Nat) (H0 : Heap) (M : zRec) : Prop :=
  p.tables.exec = Jvm.exec ∧ c.code = zMb M ∧ c.maxLocals = zMl M ∧ s.vm.findClass (zMo M) = some m.cls ∧ (∀ w ∈ zgt, w.before args s = true) ∧ zKn D s ∧ ((zMy M).name = "<init>" → meth.name = "<init>") ∧ base ≤ H0.size ∧ zMf M ≤ R.frames ∧ zMn M ≤ R.locals ∧ zEx s
def zSt (D : zD3) (base : Nat) (s : State) (H0 : Heap) (nL : Nat) (L : zL) (h : zM) (ls : Array Slot) (H : Heap) (locs : List Loc) : Prop :=
  zlr ls nL L ∧ zRel D base s h H ∧ va_S (fun q => base ≤ q) H0 H locs
section ZSIM
variable {p : Program} {l : Launch} {e : Env} {R : Room} {s : State} {m : MethodId} {args : Array Value} {below : List Frame} {meth : Method} {c : Code} {Q : State → Prop} {D : zD3} {base : Nat} {H0 : Heap} {M : zRec} {c0 n0 : Nat}
/-- the walk from here comes to Q -/
def zG (p : Program) (l : Launch) (e : Env) (R : Room) (s : State) (m : MethodId) (args : Array Value) (below : List Frame) (meth : Method) (c : Code) (Q : State → Prop) (D : zD3) (base : Nat) (H0 : Heap) (M : zRec) (c0 n0 : Nat) (pc : Nat) (L : zL) (st : List zV) (h : zM) : Prop :=
  ∀ (ls : Array Slot) (H : Heap) (locs : List Loc), zSt D base s H0 (zMl M) L h ls H locs → W p l e R s m args below meth c H locs (h.1.2.1 - c0) (h.1.2.2 - n0) Q (F0 m pc ls (st.map zval))
theorem zs_load {L : zL} {i pc pc' : Nat} {h : zM} {κ : List zV → Option zR} {st : List zV} {r : zR}
    (row : ∀ (ls : Array Slot) (H : Heap) (locs : List Loc) (x : Int32) (rest : List Value), ls[i]? = some (.val (.int x)) → W p l e R s m args below meth c H locs (h.1.2.1 - c0) (h.1.2.2 - n0) Q (F0 m pc' ls (.int x :: rest)) → W p l e R s m args below meth c H locs (h.1.2.1 - c0) (h.1.2.2 - n0) Q (F0 m pc ls rest))
    (hr : zo_load L i κ st = some r) (hk : ∀ st', κ st' = some r → zG p l e R s m args below meth c Q D base H0 M c0 n0 pc' L st' h) : zG p l e R s m args below meth c Q D base H0 M c0 n0 pc L st h := by
  intro ls H locs hS
  unfold zo_load at hr
  split at hr
  · rename_i x hx
    exact row ls H locs x _ (hS.1.get hx) (hk _ hr ls H locs hS)
  · cases hr
theorem zs_aload {L : zL} {i pc pc' : Nat} {h : zM} {κ : List zV → Option zR} {st : List zV} {r : zR}
    (row : ∀ (ls : Array Slot) (H : Heap) (locs : List Loc) (x : Nat) (rest : List Value), ls[i]? = some (.val (.ref x)) → W p l e R s m args below meth c H locs (h.1.2.1 - c0) (h.1.2.2 - n0) Q (F0 m pc' ls (.ref x :: rest)) → W p l e R s m args below meth c H locs (h.1.2.1 - c0) (h.1.2.2 - n0) Q (F0 m pc ls rest))
    (row0 : ∀ (ls : Array Slot) (H : Heap) (locs : List Loc) (rest : List Value), ls[i]? = some (.val .null) → W p l e R s m args below meth c H locs (h.1.2.1 - c0) (h.1.2.2 - n0) Q (F0 m pc' ls (.null :: rest)) → W p l e R s m args below meth c H locs (h.1.2.1 - c0) (h.1.2.2 - n0) Q (F0 m pc ls rest))
    (hr : zo_aload L i κ st = some r) (hk : ∀ st', κ st' = some r → zG p l e R s m args below meth c Q D base H0 M c0 n0 pc' L st' h) : zG p l e R s m args below meth c Q D base H0 M c0 n0 pc L st h := by
  intro ls H locs hS
  unfold zo_aload at hr
  split at hr
  · rename_i x hx
    have h1 := hS.1.get hx
    have h2 := hk _ hr ls H locs hS
    rcases x with _ | x
    · exact row0 ls H locs _ h1 h2
    · exact row ls H locs x _ h1 h2
  · cases hr
theorem zs_store {L : zL} {i pc pc' : Nat} {h : zM} {κ : zL → List zV → Option zR} {st : List zV} {r : zR} 
    (row : ∀ (ls : Array Slot) (H : Heap) (locs : List Loc) (x : Int32) (rest : List Value) (lv : List (Nat × Value)), lv_has ls (zMl M) lv → i < zMl M → (∀ ls' : Array Slot, lv_has ls' (zMl M) ((i, Value.int x) :: lv.filter (fun q => !(q.1 == i) && !(q.1 + 1 == i && q.2.category == 2))) → W p l e R s m args below meth c H locs (h.1.2.1 - c0) (h.1.2.2 - n0) Q (F0 m pc' ls' rest)) → W p l e R s m args below meth c H locs (h.1.2.1 - c0) (h.1.2.2 - n0) Q (F0 m pc ls (.int x :: rest)))
    (hr : zo_store L i κ st = some r) (hk : ∀ L' st', κ L' st' = some r → zG p l e R s m args below meth c Q D base H0 M c0 n0 pc' L' st' h) : zG p l e R s m args below meth c Q D base H0 M c0 n0 pc L st h := by
  intro ls H locs hS
  unfold zo_store at hr
  split at hr
  · rename_i x rest
    split at hr
    · rename_i L' hL'
      have hsp := zlset_spec _ _ _ _ hL'
      refine row ls H locs x _ _ hS.1.2 (by rw [← hS.1.1]; exact hsp.2.1) (fun ls' hl' => ?_)
      exact hk _ _ hr ls' H locs ⟨zlr.set hS.1.1 hL' hl', hS.2⟩
    · cases hr
  · cases hr
theorem zs_astore {L : zL} {i pc pc' : Nat} {h : zM} {κ : zL → List zV → Option zR} {st : List zV} {r : zR} 
    (row : ∀ (ls : Array Slot) (H : Heap) (locs : List Loc) (x : Nat) (rest : List Value) (lv : List (Nat × Value)), lv_has ls (zMl M) lv → i < zMl M → (∀ ls' : Array Slot, lv_has ls' (zMl M) ((i, Value.ref x) :: lv.filter (fun q => !(q.1 == i) && !(q.1 + 1 == i && q.2.category == 2))) → W p l e R s m args below meth c H locs (h.1.2.1 - c0) (h.1.2.2 - n0) Q (F0 m pc' ls' rest)) → W p l e R s m args below meth c H locs (h.1.2.1 - c0) (h.1.2.2 - n0) Q (F0 m pc ls (.ref x :: rest)))
    (row0 : ∀ (ls : Array Slot) (H : Heap) (locs : List Loc) (rest : List Value) (lv : List (Nat × Value)), lv_has ls (zMl M) lv → i < zMl M → (∀ ls' : Array Slot, lv_has ls' (zMl M) ((i, Value.null) :: lv.filter (fun q => !(q.1 == i) && !(q.1 + 1 == i && q.2.category == 2))) → W p l e R s m args below meth c H locs (h.1.2.1 - c0) (h.1.2.2 - n0) Q (F0 m pc' ls' rest)) → W p l e R s m args below meth c H locs (h.1.2.1 - c0) (h.1.2.2 - n0) Q (F0 m pc ls (.null :: rest)))
    (hr : zo_astore L i κ st = some r) (hk : ∀ L' st', κ L' st' = some r → zG p l e R s m args below meth c Q D base H0 M c0 n0 pc' L' st' h) : zG p l e R s m args below meth c Q D base H0 M c0 n0 pc L st h := by
  intro ls H locs hS
  unfold zo_astore at hr
  split at hr
  · rename_i x rest
    split at hr
    · rename_i L' hL'
      have hsp := zlset_spec _ _ _ _ hL'
      rcases x with _ | x
      · refine row0 ls H locs _ _ hS.1.2 (by rw [← hS.1.1]; exact hsp.2.1) (fun ls' hl' => ?_)
        exact hk _ _ hr ls' H locs ⟨zlr.set hS.1.1 hL' hl', hS.2⟩
      · refine row ls H locs x _ _ hS.1.2 (by rw [← hS.1.1]; exact hsp.2.1) (fun ls' hl' => ?_)
        exact hk _ _ hr ls' H locs ⟨zlr.set hS.1.1 hL' hl', hS.2⟩
    · cases hr
  · cases hr
theorem zs_iinc (C : zCx p s m args meth c R D base H0 M) {L : zL} {i pc : Nat} {d : Int} {h : zM} {κ : zL → Option zR} {st : List zV} {r : zR} (hd : decode (zMb M) pc = .ok (.iinc i d, 3))
    (hr : zo_iinc L i (Int32.ofInt d) κ = some r) (hk : ∀ L', κ L' = some r → zG p l e R s m args below meth c Q D base H0 M c0 n0 (pc + 3) L' st h) : zG p l e R s m args below meth c Q D base H0 M c0 n0 pc L st h := by
  intro ls H locs hS
  unfold zo_iinc at hr
  split at hr
  · rename_i x hx
    split at hr
    · rename_i L' hL'
      have hsp := zlset_spec _ _ _ _ hL'
      have hg := zlv_mem L 0 i _ (zlget_some hx)
      rw [Nat.zero_add] at hg
      obtain ⟨k, hk0⟩ := List.getElem?_of_mem hg
      refine lv_iinc C.1 C.2.1 hd hS.1.2 hk0 rfl (by rw [← hS.1.1]; exact hsp.2.1) rfl (fun ls' hl' => ?_)
      exact hk _ hr ls' H locs ⟨zlr.set hS.1.1 hL' hl', hS.2⟩
    · cases hr
  · cases hr
theorem zs_bin {o : Int32 → Int32 → Int32} {L : zL} {pc pc' : Nat} {h : zM} {κ : List zV → Option zR} {st : List zV} {r : zR}
    (row : ∀ (ls : Array Slot) (H : Heap) (locs : List Loc) (x y : Int32) (rest : List Value), W p l e R s m args below meth c H locs (h.1.2.1 - c0) (h.1.2.2 - n0) Q (F0 m pc' ls (.int (o x y) :: rest)) → W p l e R s m args below meth c H locs (h.1.2.1 - c0) (h.1.2.2 - n0) Q (F0 m pc ls (.int y :: .int x :: rest)))
    (hr : zo_bin o κ st = some r) (hk : ∀ st', κ st' = some r → zG p l e R s m args below meth c Q D base H0 M c0 n0 pc' L st' h) : zG p l e R s m args below meth c Q D base H0 M c0 n0 pc L st h := by
  intro ls H locs hS
  unfold zo_bin at hr
  split at hr
  · exact row ls H locs _ _ _ (hk _ hr ls H locs hS)
  · cases hr
theorem zs_div {o : Int32 → Int32 → Int32} {L : zL} {pc pc' : Nat} {h : zM} {κ : List zV → Option zR} {st : List zV} {r : zR}
    (row : ∀ (ls : Array Slot) (H : Heap) (locs : List Loc) (x y : Int32) (rest : List Value), ¬ y = 0 → W p l e R s m args below meth c H locs (h.1.2.1 - c0) (h.1.2.2 - n0) Q (F0 m pc' ls (.int (o x y) :: rest)) → W p l e R s m args below meth c H locs (h.1.2.1 - c0) (h.1.2.2 - n0) Q (F0 m pc ls (.int y :: .int x :: rest)))
    (hr : zo_div o κ st = some r) (hk : ∀ st', κ st' = some r → zG p l e R s m args below meth c Q D base H0 M c0 n0 pc' L st' h) : zG p l e R s m args below meth c Q D base H0 M c0 n0 pc L st h := by
  intro ls H locs hS
  unfold zo_div at hr
  split at hr
  · split at hr
    · cases hr
    · rename_i hy
      exact row ls H locs _ _ _ hy (hk _ hr ls H locs hS)
  · cases hr
theorem zs_un {o : Int32 → Int32} {L : zL} {pc pc' : Nat} {h : zM} {κ : List zV → Option zR} {st : List zV} {r : zR}
    (row : ∀ (ls : Array Slot) (H : Heap) (locs : List Loc) (x : Int32) (rest : List Value), W p l e R s m args below meth c H locs (h.1.2.1 - c0) (h.1.2.2 - n0) Q (F0 m pc' ls (.int (o x) :: rest)) → W p l e R s m args below meth c H locs (h.1.2.1 - c0) (h.1.2.2 - n0) Q (F0 m pc ls (.int x :: rest)))
    (hr : zo_un o κ st = some r) (hk : ∀ st', κ st' = some r → zG p l e R s m args below meth c Q D base H0 M c0 n0 pc' L st' h) : zG p l e R s m args below meth c Q D base H0 M c0 n0 pc L st h := by
  intro ls H locs hS
  unfold zo_un at hr
  split at hr
  · exact row ls H locs _ _ (hk _ hr ls H locs hS)
  · cases hr
theorem zs_push {L : zL} {pc pc' : Nat} {h : zM} {v : zV} {st : List zV}
    (row : ∀ (ls : Array Slot) (H : Heap) (locs : List Loc) (rest : List Value), W p l e R s m args below meth c H locs (h.1.2.1 - c0) (h.1.2.2 - n0) Q (F0 m pc' ls (zval v :: rest)) → W p l e R s m args below meth c H locs (h.1.2.1 - c0) (h.1.2.2 - n0) Q (F0 m pc ls rest))
    (hk : zG p l e R s m args below meth c Q D base H0 M c0 n0 pc' L (v :: st) h) : zG p l e R s m args below meth c Q D base H0 M c0 n0 pc L st h :=
  fun ls H locs hS => row ls H locs _ (hk ls H locs hS)
theorem z_nlt {x y : Int32} (h : ¬ x < y) : y ≤ x := by
  rw [Int32.lt_iff_toInt_lt] at h
  rw [Int32.le_iff_toInt_le]
  omega
theorem z_nle {x y : Int32} (h : ¬ x ≤ y) : y < x := by
  rw [Int32.le_iff_toInt_le] at h
  rw [Int32.lt_iff_toInt_lt]
  omega
theorem z_lt_nle {x y : Int32} (h : x < y) : ¬ y ≤ x := by
  rw [Int32.lt_iff_toInt_lt] at h
  rw [Int32.le_iff_toInt_le]
  omega
theorem zs_icmp (C : zCx p s m args meth c R D base H0 M) {q : ClassFile.Cond} {off : Int} {L : zL} {pc tgt : Nat} {h : zM} {κt κf : List zV → Option zR} {st : List zV} {r : zR} (hd : decode (zMb M) pc = .ok (.if_icmp q off, 3)) (ht : (pc : Int) + off = (tgt : Int))
    (hr : zo_icmp q κt κf st = some r) (hkt : ∀ st', κt st' = some r → zG p l e R s m args below meth c Q D base H0 M c0 n0 tgt L st' h) (hkf : ∀ st', κf st' = some r → zG p l e R s m args below meth c Q D base H0 M c0 n0 (pc + 3) L st' h) : zG p l e R s m args below meth c Q D base H0 M c0 n0 pc L st h := by
  intro ls H locs hS
  unfold zo_icmp at hr
  split at hr
  · rename_i y x rest
    cases q <;> simp only [zcond] at hr <;> split at hr <;> rename_i hc
    · exact lv_icmp_eq C.1 C.2.1 hd ht (fun _ => hkt _ hr ls H locs hS) (fun hn => absurd hc hn)
    · exact lv_icmp_eq C.1 C.2.1 hd ht (fun hn => absurd hn hc) (fun _ => hkf _ hr ls H locs hS)
    · exact lv_icmp_ne C.1 C.2.1 hd ht (fun hn => absurd hc hn) (fun _ => hkf _ hr ls H locs hS)
    · exact lv_icmp_ne C.1 C.2.1 hd ht (fun _ => hkt _ hr ls H locs hS) (fun hn => absurd hn hc)
    · exact lv_icmp_lt C.1 C.2.1 hd ht (fun _ => hkt _ hr ls H locs hS) (fun hn => absurd hc hn)
    · exact lv_icmp_lt C.1 C.2.1 hd ht (fun hn => absurd hn hc) (fun _ => hkf _ hr ls H locs hS)
    · exact lv_icmp_ge C.1 C.2.1 hd ht (fun hn => absurd hn (z_lt_nle hc)) (fun _ => hkf _ hr ls H locs hS)
    · exact lv_icmp_ge C.1 C.2.1 hd ht (fun _ => hkt _ hr ls H locs hS) (fun hn => absurd (z_nlt hc) hn)
    · exact lv_icmp_gt C.1 C.2.1 hd ht (fun _ => hkt _ hr ls H locs hS) (fun hn => absurd hc hn)
    · exact lv_icmp_gt C.1 C.2.1 hd ht (fun hn => absurd hn hc) (fun _ => hkf _ hr ls H locs hS)
    · exact lv_icmp_le C.1 C.2.1 hd ht (fun hn => absurd hn (z_lt_nle hc)) (fun _ => hkf _ hr ls H locs hS)
    · exact lv_icmp_le C.1 C.2.1 hd ht (fun _ => hkt _ hr ls H locs hS) (fun hn => absurd (z_nlt hc) hn)
  · cases hr
theorem zs_if (C : zCx p s m args meth c R D base H0 M) {q : ClassFile.Cond} {off : Int} {L : zL} {pc tgt : Nat} {h : zM} {κt κf : List zV → Option zR} {st : List zV} {r : zR} (hd : decode (zMb M) pc = .ok (.ifCond q off, 3)) (ht : (pc : Int) + off = (tgt : Int))
    (hr : zo_if q κt κf st = some r) (hkt : ∀ st', κt st' = some r → zG p l e R s m args below meth c Q D base H0 M c0 n0 tgt L st' h) (hkf : ∀ st', κf st' = some r → zG p l e R s m args below meth c Q D base H0 M c0 n0 (pc + 3) L st' h) : zG p l e R s m args below meth c Q D base H0 M c0 n0 pc L st h := by
  intro ls H locs hS
  unfold zo_if at hr
  split at hr
  · rename_i x rest
    cases q <;> simp only [zcond] at hr <;> split at hr <;> rename_i hc
    · exact lv_if_eq C.1 C.2.1 hd ht (fun _ => hkt _ hr ls H locs hS) (fun hn => absurd hc hn)
    · exact lv_if_eq C.1 C.2.1 hd ht (fun hn => absurd hn hc) (fun _ => hkf _ hr ls H locs hS)
    · exact lv_if_ne C.1 C.2.1 hd ht (fun hn => absurd hc hn) (fun _ => hkf _ hr ls H locs hS)
    · exact lv_if_ne C.1 C.2.1 hd ht (fun _ => hkt _ hr ls H locs hS) (fun hn => absurd hn hc)
    · exact lv_if_lt C.1 C.2.1 hd ht (fun _ => hkt _ hr ls H locs hS) (fun hn => absurd hc hn)
    · exact lv_if_lt C.1 C.2.1 hd ht (fun hn => absurd hn hc) (fun _ => hkf _ hr ls H locs hS)
    · exact lv_if_ge C.1 C.2.1 hd ht (fun hn => absurd hn (z_lt_nle hc)) (fun _ => hkf _ hr ls H locs hS)
    · exact lv_if_ge C.1 C.2.1 hd ht (fun _ => hkt _ hr ls H locs hS) (fun hn => absurd (z_nlt hc) hn)
    · exact lv_if_gt C.1 C.2.1 hd ht (fun _ => hkt _ hr ls H locs hS) (fun hn => absurd hc hn)
    · exact lv_if_gt C.1 C.2.1 hd ht (fun hn => absurd hn hc) (fun _ => hkf _ hr ls H locs hS)
    · exact lv_if_le C.1 C.2.1 hd ht (fun hn => absurd hn (z_lt_nle hc)) (fun _ => hkf _ hr ls H locs hS)
    · exact lv_if_le C.1 C.2.1 hd ht (fun _ => hkt _ hr ls H locs hS) (fun hn => absurd (z_nlt hc) hn)
  · cases hr
theorem zs_ifnull (C : zCx p s m args meth c R D base H0 M) {off : Int} {L : zL} {pc tgt : Nat} {h : zM} {κt κf : List zV → Option zR} {st : List zV} {r : zR} (hd : decode (zMb M) pc = .ok (.ifnull off, 3)) (ht : (pc : Int) + off = (tgt : Int))
    (hr : zo_null κt κf st = some r) (hkt : ∀ st', κt st' = some r → zG p l e R s m args below meth c Q D base H0 M c0 n0 tgt L st' h) (hkf : ∀ st', κf st' = some r → zG p l e R s m args below meth c Q D base H0 M c0 n0 (pc + 3) L st' h) : zG p l e R s m args below meth c Q D base H0 M c0 n0 pc L st h := by
  intro ls H locs hS
  unfold zo_null at hr
  split at hr
  · rename_i x rest
    split at hr
    · rename_i hx
      subst hx
      exact lv_ifnullN C.1 C.2.1 hd ht (hkt _ hr ls H locs hS)
    · rename_i hx
      rcases x with _ | x
      · exact absurd rfl hx
      · exact lv_ifnull C.1 C.2.1 hd (hkf _ hr ls H locs hS)
  · cases hr
theorem zs_ifnonnull (C : zCx p s m args meth c R D base H0 M) {off : Int} {L : zL} {pc tgt : Nat} {h : zM} {κt κf : List zV → Option zR} {st : List zV} {r : zR} (hd : decode (zMb M) pc = .ok (.ifnonnull off, 3)) (ht : (pc : Int) + off = (tgt : Int))
    (hr : zo_null κt κf st = some r) (hkt : ∀ st', κt st' = some r → zG p l e R s m args below meth c Q D base H0 M c0 n0 (pc + 3) L st' h) (hkf : ∀ st', κf st' = some r → zG p l e R s m args below meth c Q D base H0 M c0 n0 tgt L st' h) : zG p l e R s m args below meth c Q D base H0 M c0 n0 pc L st h := by
  intro ls H locs hS
  unfold zo_null at hr
  split at hr
  · rename_i x rest
    split at hr
    · rename_i hx
      subst hx
      exact lv_ifnonnullN C.1 C.2.1 hd (hkt _ hr ls H locs hS)
    · rename_i hx
      rcases x with _ | x
      · exact absurd rfl hx
      · exact lv_ifnonnull C.1 C.2.1 hd ht (hkf _ hr ls H locs hS)
  · cases hr
end ZSIM
