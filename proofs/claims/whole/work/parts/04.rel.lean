/-! What the small memory says of the heap. -/
abbrev zD3 : Type := (Nat → ClassId) × (Nat → Nat → Nat) × (Nat → ClassId)
def zcls : List vw_C := [(RX0, TX0, 11), (RX1, TX1, 11), (RX2, TX2, 8), (RX3, TX3, 9), (RX4, TX4, 4), (RX5, TX5, 5), (RX6, TX6, 8), (RX7, TX7, 8), (RX8, TX8, 3), (RX9, TX9, 8), (RX10, TX10, 2), (RX11, TX11, 15), (RX12, TX12, 93)]
def ztyc (c : Nat) : Nat → FieldType := match c with
  | 0 => tyX0
  | 1 => tyX1
  | 2 => tyX2
  | 3 => tyX3
  | 4 => tyX4
  | 5 => tyX5
  | 6 => tyX6
  | 7 => tyX7
  | 8 => tyX8
  | 9 => tyX9
  | 10 => tyX10
  | 11 => tyX11
  | _ => tyX12
def zcn (c : Nat) : Nat := match zcls[c]? with
  | some r => r.2.2
  | none => 0
/-- 0 an int, 2 a boolean, 1 a reference -/
def zfk (t : FieldType) : Nat := match t with
  | .int => 0
  | .boolean => 2
  | _ => 1
def zop : Nat → Option Nat
  | 0 => none
  | a + 1 => some a
def zval : zV → Value
  | .inl x => .int x
  | .inr r => va_rf (zop r)
def zfv (h : zM) (c a k : Nat) : Value := match zfk (ztyc c k) with
  | 1 => va_rf (zop (zF h a k))
  | _ => .int (zI h a k)
def zfs (h : zM) (c a : Nat) : List Value := (List.range (zcn c)).map (zfv h c a)
def zaty (k : Nat) : FieldType := match k with
  | 0 => .int
  | 1 => .byte
  | 2 => .boolean
  | 3 => .object RX10
  | 4 => .object RX2
  | 5 => .object RX4
  | _ => .object RX8
def ztys (D : zD3) : List (ClassId × FieldType) := (List.range 7).map (fun k => (D.2.2 k, zaty k))
def zDv (D : zD3) : va_G := (D.1, D.2.1)
def zKn (D : zD3) (U : State) : Prop := va_K (zDv D) zcls (ztys D) U
def zcell (D : zD3) (U : State) (h : zM) (a : Nat) (H : Heap) : Prop :=
  (∀ c : Nat, zK h (a + 1) = c + 1 → c < 13 → va_at (zDv D) zcls (a, .inr (c, zfs h c (a + 1))) H) ∧
  (∀ t : Nat, zK h (a + 1) = 101 + t → t < 3 → H[a]? = some (vp_cell (D.2.2 t) (zN h (a + 1), .inl (h.2.2.1 (a + 1))))) ∧
  (∀ t : Nat, zK h (a + 1) = 101 + t → 3 ≤ t → t < 7 → H[a]? = some (vp_cell (D.2.2 t) (zN h (a + 1), .inr (.inr (.inr (.inr (fun j => zop (h.2.2.2 (a + 1) j)))))))) ∧
  (zK h (a + 1) = 200 → va_X a (zN h (a + 1)) (h.2.2.1 (a + 1)) U H)
def zkind (k : Nat) : Prop := k = 0 ∨ k ≤ 13 ∨ (101 ≤ k ∧ k < 108) ∨ k = 200
def zRel (D : zD3) (base : Nat) (U : State) (h : zM) (H : Heap) : Prop :=
  h.1.1 = H.size + 1 ∧ base ≤ H.size ∧ (∀ a, zcell D U h a H) ∧ zK h 0 = 0 ∧ (∀ a, zK h (a + 1) ≠ 0 → a < H.size ∧ (zK h (a + 1) = 200 ∨ base ≤ a)) ∧ ∀ a, zkind (zK h a)
theorem zcell.kept {D : zD3} {U : State} {h h' : zM} {a : Nat} {H H' : Heap} (hc : zcell D U h a H) (hq : H'[a]? = H[a]?) (h1 : h'.2.1 (a + 1) = h.2.1 (a + 1)) (h2 : h'.2.2.1 (a + 1) = h.2.2.1 (a + 1)) (h3 : h'.2.2.2 (a + 1) = h.2.2.2 (a + 1)) : zcell D U h' a H' := by
  have ek : zK h' (a + 1) = zK h (a + 1) := by unfold zK; rw [h1]
  have en : zN h' (a + 1) = zN h (a + 1) := by unfold zN; rw [h1]
  have ef : ∀ c, zfs h' c (a + 1) = zfs h c (a + 1) := by
    intro c
    unfold zfs
    congr 1
    funext k
    unfold zfv zF zI
    rw [h2, h3]
  obtain ⟨c1, c2, c3, c4⟩ := hc
  refine ⟨fun c hk hc => ?_, fun t hk ht => ?_, fun t hk h3' ht => ?_, fun hk => ?_⟩
  · rw [ef]
    exact (c1 c (by rw [← ek]; exact hk) hc).kept hq
  · rw [en, h2, hq]
    exact c2 t (by rw [← ek]; exact hk) ht
  · rw [en, h3, hq]
    exact c3 t (by rw [← ek]; exact hk) h3' ht
  · rw [en, h2]
    exact (c4 (by rw [← ek]; exact hk)).kept hq
theorem zcell.moved {D : zD3} {u U : State} {h : zM} {a : Nat} {H : Heap} (hvm : u.vm.Alike U.vm) (hc : zcell D u h a H) : zcell D U h a H :=
  ⟨hc.1, hc.2.1, hc.2.2.1, fun hk => (hc.2.2.2 hk).moved hvm⟩
theorem zRel.moved {D : zD3} {base : Nat} {u U : State} {h : zM} {H : Heap} (hvm : u.vm.Alike U.vm) (r : zRel D base u h H) : zRel D base U h H :=
  ⟨r.1, r.2.1, fun a => (r.2.2.1 a).moved hvm, r.2.2.2⟩
theorem zKn.moved {D : zD3} {u U : State} (hvm : u.vm.Alike U.vm) (r : zKn D u) : zKn D U := va_K.moved hvm r
/-- one cell has changed -/
theorem zRel.set {D : zD3} {base : Nat} {U : State} {h h' : zM} {a : Nat} {H H' : Heap} (r : zRel D base U h H) (hz : H'.size = H.size) (oq : ∀ q : Nat, q ≠ a → H'[q]? = H[q]?)
    (h0 : h'.1.1 = h.1.1) (h1 : h'.2.1 = h.2.1) (h2 : ∀ b, b ≠ a + 1 → h'.2.2.1 b = h.2.2.1 b) (h3 : ∀ b, b ≠ a + 1 → h'.2.2.2 b = h.2.2.2 b) (hc : zcell D U h' a H') : zRel D base U h' H' := by
  obtain ⟨r1, r2, r3, r4, r5, r6⟩ := r
  have ek : ∀ b, zK h' b = zK h b := fun b => by unfold zK; rw [h1]
  refine ⟨by rw [h0, hz]; exact r1, by rw [hz]; exact r2, fun b => ?_, by rw [ek]; exact r4, fun b hb => ?_, fun b => by rw [ek]; exact r6 b⟩
  · by_cases hba : b = a
    · subst hba; exact hc
    · exact (r3 b).kept (oq b hba) (by rw [h1]) (h2 _ (by omega)) (h3 _ (by omega))
  · rw [ek] at hb ⊢
    rw [hz]
    exact r5 b hb
theorem zRel.push {D : zD3} {base : Nat} {U : State} {h : zM} {k n : Nat} {H H' : Heap} (r : zRel D base U h H) (hz : H'.size = H.size + 1) (oq : ∀ q : Nat, q < H.size → H'[q]? = H[q]?) (hk : zkind k) (hc : zcell D U (zmk h k n) H.size H') : zRel D base U (zmk h k n) H' := by
  obtain ⟨r1, r2, r3, r4, r5, r6⟩ := r
  have hne : ∀ b, b ≠ H.size + 1 → (zmk h k n).2.1 b = h.2.1 b ∧ (zmk h k n).2.2.1 b = h.2.2.1 b ∧ (zmk h k n).2.2.2 b = h.2.2.2 b := by
    intro b hb
    unfold zmk
    rw [r1]
    exact ⟨va_up_ne _ _ hb, va_up_ne _ _ hb, va_up_ne _ _ hb⟩
  have ek : ∀ b, b ≠ H.size + 1 → zK (zmk h k n) b = zK h b := fun b hb => by unfold zK; rw [(hne b hb).1]
  have es : zK (zmk h k n) (H.size + 1) = k := by unfold zK zmk; rw [r1]; show (va_up h.2.1 (H.size + 1) (k, n) (H.size + 1)).1 = k; rw [va_up_self]
  refine ⟨by show h.1.1 + 1 = _; rw [r1, hz], by omega, fun b => ?_, by rw [ek 0 (by omega)]; exact r4, fun b hb => ?_, fun b => ?_⟩
  · by_cases hba : b = H.size
    · subst hba; exact hc
    · have hb2 : b + 1 ≠ H.size + 1 := by omega
      by_cases hlt : b < H.size
      · exact (r3 b).kept (oq b hlt) (hne _ hb2).1 (hne _ hb2).2.1 (hne _ hb2).2.2
      · have h0 : zK (zmk h k n) (b + 1) = 0 := by
          rw [ek _ hb2]
          rcases Nat.eq_zero_or_pos (zK h (b + 1)) with z | z
          · exact z
          · exact absurd (r5 b (by omega)).1 hlt
        exact ⟨fun c h => by omega, fun t h => by omega, fun t h => by omega, fun h => by omega⟩
  · by_cases hba : b = H.size
    · subst hba; exact ⟨by omega, Or.inr r2⟩
    · have hb2 : b + 1 ≠ H.size + 1 := by omega
      rw [ek _ hb2] at hb ⊢
      have := r5 b hb
      exact ⟨by omega, this.2⟩
  · by_cases hba : b = H.size + 1
    · subst hba; rw [es]; exact hk
    · rw [ek _ hba]; exact r6 b
-- locals
def zlv : Nat → zL → List (Nat × Value)
  | _, [] => []
  | i, none :: l => zlv (i + 1) l
  | i, some v :: l => (i, zval v) :: zlv (i + 1) l
theorem zlv_mem : ∀ (L : zL) (b i : Nat) (v : zV), znth L i = some (some v) → (b + i, zval v) ∈ zlv b L
  | [], _, _, _, h => by simp [znth] at h
  | o :: L, b, 0, v, h => by
    simp only [znth, Option.some.injEq] at h
    subst h
    simp [zlv]
  | none :: L, b, i + 1, v, h => by
    have := zlv_mem L (b + 1) i v h
    simp only [zlv]
    rw [show b + (i + 1) = b + 1 + i by omega]
    exact this
  | some w :: L, b, i + 1, v, h => by
    have := zlv_mem L (b + 1) i v h
    simp only [zlv]
    rw [show b + (i + 1) = b + 1 + i by omega]
    exact List.mem_cons_of_mem _ this
theorem zlv_of : ∀ (L : zL) (b : Nat) (q : Nat × Value), q ∈ zlv b L → ∃ i v, q = (b + i, zval v) ∧ znth L i = some (some v)
  | [], _, _, h => by simp [zlv] at h
  | none :: L, b, q, h => by
    obtain ⟨i, v, h1, h2⟩ := zlv_of L (b + 1) q h
    exact ⟨i + 1, v, by rw [h1]; congr 1; omega, h2⟩
  | some w :: L, b, q, h => by
    rcases List.mem_cons.mp h with h | h
    · exact ⟨0, w, h, rfl⟩
    · obtain ⟨i, v, h1, h2⟩ := zlv_of L (b + 1) q h
      exact ⟨i + 1, v, by rw [h1]; congr 1; omega, h2⟩
theorem zval_cat (v : zV) : (zval v).category = 1 := by
  rcases v with x | r
  · rfl
  · rcases r with _ | r <;> rfl
def zlr (ls : Array Slot) (nL : Nat) (L : zL) : Prop := L.length = nL ∧ lv_has ls nL (zlv 0 L)
theorem zlget_some {L : zL} {i : Nat} {v : zV} (h : zlget L i = some v) : znth L i = some (some v) := by
  unfold zlget at h
  split at h
  · rename_i w hw
    rw [hw]
    exact congrArg some h
  · cases h
theorem zlr.get {ls : Array Slot} {nL : Nat} {L : zL} {i : Nat} {v : zV} (r : zlr ls nL L) (h : zlget L i = some v) : ls[i]? = some (.val (zval v)) := by
  have := zlv_mem L 0 i v (zlget_some h)
  rw [Nat.zero_add] at this
  exact r.2.2.2 _ this
theorem zlset_spec : ∀ (L : zL) (i : Nat) (v : zV) (L' : zL), zlset L i v = some L' → L'.length = L.length ∧ i < L.length ∧ ∀ j, znth L' j = if j = i then some (some v) else znth L j
  | [], i, v, L', h => by simp [zlset] at h
  | o :: L, 0, v, L', h => by
    simp only [zlset, Option.some.injEq] at h
    subst h
    refine ⟨rfl, by simp, fun j => ?_⟩
    cases j with
    | zero => rfl
    | succ j => simp [znth]
  | o :: L, i + 1, v, L', h => by
    simp only [zlset] at h
    split at h
    · rename_i l' hl'
      simp only [Option.some.injEq] at h
      subst h
      obtain ⟨a1, a2, a3⟩ := zlset_spec L i v l' hl'
      refine ⟨by simp [a1], by simp; omega, fun j => ?_⟩
      cases j with
      | zero => simp [znth]
      | succ j => simp [znth, a3]
    · cases h
theorem zlr.set {ls' : Array Slot} {nL : Nat} {L L' : zL} {i : Nat} {v : zV} (hl : L.length = nL) (h : zlset L i v = some L') (r : lv_has ls' nL ((i, zval v) :: (zlv 0 L).filter (fun q => !(q.1 == i) && !(q.1 + 1 == i && q.2.category == 2)))) : zlr ls' nL L' := by
  obtain ⟨a1, a2, a3⟩ := zlset_spec L i v L' h
  refine ⟨by rw [a1]; exact hl, r.1, r.2.1, fun q hq => r.2.2 q ?_⟩
  obtain ⟨j, w, h1, h2⟩ := zlv_of L' 0 q hq
  rw [a3] at h2
  by_cases hj : j = i
  · subst hj
    rw [if_pos rfl] at h2
    cases h2
    rw [h1, Nat.zero_add]
    exact List.mem_cons_self
  · rw [if_neg hj] at h2
    refine List.mem_cons_of_mem _ (List.mem_filter.mpr ⟨?_, ?_⟩)
    · rw [h1]
      exact zlv_mem L 0 j w h2
    · rw [h1]
      simp [zval_cat, hj]
theorem ztrim_len : ∀ (n : Nat) (L : zL), (ztrim n L).length = L.length
  | _, [] => rfl
  | 0, _ :: l => by simp [ztrim, ztrim_len 0 l]
  | n + 1, _ :: l => by simp [ztrim, ztrim_len n l]
theorem ztrim_at : ∀ (n : Nat) (L : zL) (i : Nat) (v : zV), znth (ztrim n L) i = some (some v) → znth L i = some (some v)
  | _, [], i, v, h => by simp [ztrim, znth] at h
  | 0, a :: l, 0, v, h => by simp [ztrim, znth] at h
  | 0, a :: l, i + 1, v, h => ztrim_at 0 l i v h
  | n + 1, a :: l, 0, v, h => h
  | n + 1, a :: l, i + 1, v, h => ztrim_at n l i v h
theorem zlr.trim {ls : Array Slot} {nL : Nat} {L : zL} (n : Nat) (r : zlr ls nL L) : zlr ls nL (ztrim n L) := by
  refine ⟨by rw [ztrim_len]; exact r.1, r.2.1, r.2.2.1, fun q hq => ?_⟩
  obtain ⟨i, v, h1, h2⟩ := zlv_of _ _ _ hq
  have h3 := zlv_mem L 0 i v (ztrim_at n L i v h2)
  rw [h1]
  exact r.2.2.2 _ h3
