section ZMORE
variable {p : Program} {l : Launch} {e : Env} {R : Room} {s : State} {m : MethodId} {args : Array Value} {below : List Frame} {meth : Method} {c : Code} {Q : State → Prop} {D : zD3} {base : Nat} {H0 : Heap} {M : zRec} {c0 n0 : Nat}
theorem zs_dup (C : zCx p s m args meth c R D base H0 M) {L : zL} {pc : Nat} {h : zM} {κ : List zV → Option zR} {st : List zV} {r : zR} (hd : decode (zMb M) pc = .ok (.dup, 1))
    (hr : zo_dup κ st = some r) (hkk : ∀ st', κ st' = some r → zG p l e R s m args below meth c Q D base H0 M c0 n0 (pc + 1) L st' h) : zG p l e R s m args below meth c Q D base H0 M c0 n0 pc L st h := by
  intro ls H locs hS
  unfold zo_dup at hr
  split at hr
  · exact lv_dup C.1 C.2.1 hd (zval_cat _) (hkk _ hr ls H locs hS)
  · cases hr
theorem zs_dup2 (C : zCx p s m args meth c R D base H0 M) {L : zL} {pc : Nat} {h : zM} {κ : List zV → Option zR} {st : List zV} {r : zR} (hd : decode (zMb M) pc = .ok (.dup2, 1))
    (hr : zo_dup2 κ st = some r) (hkk : ∀ st', κ st' = some r → zG p l e R s m args below meth c Q D base H0 M c0 n0 (pc + 1) L st' h) : zG p l e R s m args below meth c Q D base H0 M c0 n0 pc L st h := by
  intro ls H locs hS
  unfold zo_dup2 at hr
  split at hr
  · exact lv_dup2_11 C.1 C.2.1 hd (zval_cat _) (zval_cat _) (hkk _ hr ls H locs hS)
  · cases hr
theorem zs_pop (C : zCx p s m args meth c R D base H0 M) {L : zL} {pc : Nat} {h : zM} {κ : List zV → Option zR} {st : List zV} {r : zR} (hd : decode (zMb M) pc = .ok (.pop, 1))
    (hr : zo_pop κ st = some r) (hkk : ∀ st', κ st' = some r → zG p l e R s m args below meth c Q D base H0 M c0 n0 (pc + 1) L st' h) : zG p l e R s m args below meth c Q D base H0 M c0 n0 pc L st h := by
  intro ls H locs hS
  unfold zo_pop at hr
  split at hr
  · exact lv_pop C.1 C.2.1 hd (zval_cat _) (hkk _ hr ls H locs hS)
  · cases hr
theorem zs_obj (C : zCx p s m args meth c R D base H0 M) {L : zL} {pc idx : Nat} {h : zM} {κ : List zV → Option zR} {st : List zV} {r : zR} (hd : decode (zMb M) pc = .ok (.invokespecial idx, 3))
    (hl : Cond.methodLink (zMo M) idx Lib.objectInit ∈ zgt) (hin : Cond.instanceMethod Lib.objectInit ∈ zgt) (hco : Cond.code Lib.objectInit ⟨#[0xb1]⟩ 1 none ∈ zgt) (hf : 1 ≤ zMf M) (hn : 20 ≤ zMn M)
    (hr : zo_obj h κ st = some r) (hkk : ∀ st', κ st' = some r → zG p l e R s m args below meth c Q D base H0 M c0 n0 (pc + 3) L st' h) : zG p l e R s m args below meth c Q D base H0 M c0 n0 pc L st h := by
  intro ls H locs hS
  obtain ⟨C1, C2, C3, C4, C5, C6, C7, C8, C9, C10, C11⟩ := C
  unfold zo_obj at hr
  split at hr
  · rename_i a rest
    split at hr
    · rename_i hsh
      split at hr
      · cases hr
      · rename_i ha
        rcases a with _ | a
        · exact absurd rfl ha
        · have hsm : ((rest.map zval).map fun v => v.category).sum ≤ 8 := by rw [zcat_sum]; exact zshort_len hsh
          exact W.objInit C1 C2 C4 (C5 _ hl) (C5 _ hin) (C5 _ hco) rfl (by rw [C3]; exact hS.1.2.1) rfl hd (Nat.le_trans hf C9) (by show 2 * 0 + _ + 12 ≤ _; omega) (hkk _ hr ls H locs hS)
    · cases hr
  · cases hr
theorem zs_copy (C : zCx p s m args meth c R D base H0 M) {L : zL} {pc idx : Nat} {h : zM} {κ : List zV → zM → Option zR} {st : List zV} {r : zR} (hd : decode (zMb M) pc = .ok (.invokestatic idx, 3))
    (hlink : Cond.methodLink (zMo M) idx arraycopyName ∈ zgt) (hnat : Cond.native arraycopyName ∈ zgt) (hstat : Cond.static arraycopyName ∈ zgt) (hini : Cond.initialized "java/lang/System" ∈ zgt) (hf : 1 ≤ zMf M) (hn9 : 4 + (nativeFrameWords "java/lang/System" "arraycopy" 5 + 11) ≤ zMn M)
    (hr : zo_copy h κ st = some r) (hkk : ∀ st' h', zge h h' → κ st' h' = some r → zG p l e R s m args below meth c Q D base H0 M c0 n0 (pc + 3) L st' h') : zG p l e R s m args below meth c Q D base H0 M c0 n0 pc L st h := by
  intro ls H locs hS
  obtain ⟨C1, C2, C3, C4, C5, C6, C7, C8, C9, C10, C11⟩ := C
  unfold zo_copy at hr
  split at hr
  · rename_i n dp a sp a0 rest
    split at hr
    · rename_i hsh
      obtain ⟨h', hx, hr⟩ := Option.bind_eq_some_iff.mp hr
      unfold zcp at hx
      split at hx
      · rename_i ha
        cases hx
        obtain ⟨⟨k0, k1⟩, ⟨h1, h2, h3⟩, h4, h5⟩ := ha
        have hG := hkk _ (h.1, h.2.1, va_up h.2.2.1 a (va_cpy (h.2.2.1 a0) (h.2.2.1 a) sp.toNatClampNeg dp.toNatClampNeg n.toNatClampNeg), h.2.2.2) ⟨Nat.le_refl _, Nat.le_refl _⟩ hr
        clear hkk hr
        obtain ⟨b0, rfl, -⟩ := zarr (t := 0) hS.2.1 k0 (by omega)
        obtain ⟨b, rfl, hb⟩ := zarr (t := 0) hS.2.1 k1 (by omega)
        have nn : ∀ z : Int32, ¬ z < 0 → z.toInt = (z.toNatClampNeg : Int) := by
          intro z hz
          have hz0 : (0 : Int) ≤ z.toInt := by
            have := Int32.not_lt.mp hz
            simpa using Int32.le_iff_toInt_le.mp this
          show z.toInt = ((z.toInt.toNat : Nat) : Int)
          omega
        generalize hf0 : h.2.2.1 (b0 + 1) = f at *
        generalize hg0 : h.2.2.1 (b + 1) = g at *
        generalize hn0 : zN h (b0 + 1) = N0 at *
        generalize hn1 : zN h (b + 1) = N1 at *
        have hc0 : H[b0]? = some (vp_cell (D.2.2 0) (N0, .inl f)) := by have := (hS.2.1.2.2.1 b0).2.1 0 k0 (by omega); rw [hf0, hn0] at this; exact this
        have hc1 : H[b]? = some (vp_cell (D.2.2 0) (N1, .inl g)) := by have := (hS.2.1.2.2.1 b).2.1 0 k1 (by omega); rw [hg0, hn1] at this; exact this
        have hT0 := (C6.2 0 _ (ztys_at (by omega))).1
        intro T hT X
        obtain ⟨-, q0, hk0, cm0, hkk0⟩ := hT0 N0 (fun j => .int (f j))
        obtain ⟨-, q1, hk1, cm1, hkk1⟩ := hT0 N1 (fun j => .int (g j))
        obtain ⟨vm', X', step⟩ := X.arraycopy C1 C4 (C5 _ hlink) (C5 _ hnat) (C5 _ hstat) (C5 _ hini) (src := b0) (dst := b) (cs := vp_cell (D.2.2 0) (N0, .inl f)) (cd := vp_cell (D.2.2 0) (N1, .inl g)) (srcPos := sp) (destPos := dp) (n := n) (by rw [hT]; exact hc0) (by rw [hT]; exact hc1)
          (fun _ h => by cases h) (fun _ h => by cases h) (fun h => by cases h) (fun h => by cases h) hk0 hk1 hkk0 hkk1 (by simp [refKind, zaty]) h1 h2 h3
          (by rw [nn sp h1, nn n h3]; show ¬ _ > ((arrV (D.2.2 0) N0 (fun j => .int (f j))).slots.size : Int); rw [arrV_size]; omega)
          (by rw [nn dp h2, nn n h3]; show ¬ _ > ((arrV (D.2.2 0) N1 (fun j => .int (g j))).slots.size : Int); rw [arrV_size]; omega)
          (fun vm₁ _ i hi => by
            have e : (vp_cell (D.2.2 0) (N0, .inl f)).slots.getD (sp.toNatClampNeg + i) .null = .int (f (sp.toNatClampNeg + i)) := by
              show (arrV (D.2.2 0) N0 (fun j => .int (f j))).slots.getD _ _ = _
              rw [Array.getD_eq_getD_getElem?, arrV_read _ _ (by omega)]
              rfl
            refine ⟨?_, ?_⟩
            · rw [e]
              rfl
            · rw [e]
              exact trivial)
          (g := F0 m pc ls (.int n :: .int dp :: .ref b :: .int sp :: .ref b0 :: rest.map zval)) rfl (by rw [C3]; exact hS.1.2.1) (rest := rest.map zval) rfl (by rw [C2]; exact hd) (Nat.le_trans hf C9) (by
            show 2 * 0 + ((rest.map zval).map fun v => v.category).sum + _ ≤ _
            rw [zcat_sum]
            have := zshort_len hsh
            omega)
        have e1 : copied (vp_cell (D.2.2 0) (N0, .inl f)) (vp_cell (D.2.2 0) (N1, .inl g)) sp dp n = vp_cell (D.2.2 0) (N1, .inl (va_cpy f g sp.toNatClampNeg dp.toNatClampNeg n.toNatClampNeg)) := va_copied (fun z => .int z) (D.2.2 0) (D.2.2 0) f g h4
        rw [e1] at X' step
        have hl : b < H.size := (Array.getElem?_eq_some_iff.mp hc1).1
        have hheap : ((T.setVm vm').setCell b (vp_cell (D.2.2 0) (N1, .inl (va_cpy f g sp.toNatClampNeg dp.toNatClampNeg n.toNatClampNeg)))).heap = H.setIfInBounds b (vp_cell (D.2.2 0) (N1, .inl (va_cpy f g sp.toNatClampNeg dp.toNatClampNeg n.toNatClampNeg))) := by rw [← hT]; rfl
        generalize hH1 : H.setIfInBounds b (vp_cell (D.2.2 0) (N1, .inl (va_cpy f g sp.toNatClampNeg dp.toNatClampNeg n.toNatClampNeg))) = H1 at hheap
        have oq : ∀ q : Nat, q ≠ b → H1[q]? = H[q]? := fun q hq => by rw [← hH1]; simp [Array.getElem?_setIfInBounds, Ne.symm hq]
        have eb : H1[b]? = some (vp_cell (D.2.2 0) (N1, .inl (va_cpy f g sp.toNatClampNeg dp.toNatClampNeg n.toNatClampNeg))) := by rw [← hH1]; simp [Array.getElem?_setIfInBounds, hl]
        have z1 : H1.size = H.size := by rw [← hH1]; simp
        have hS1 : zRel D base s (h.1, h.2.1, va_up h.2.2.1 (b + 1) (va_cpy f g sp.toNatClampNeg dp.toNatClampNeg n.toNatClampNeg), h.2.2.2) H1 := by
          refine hS.2.1.set z1 oq rfl rfl (fun q hq => va_up_ne _ _ hq) (fun _ _ => rfl) ?_
          refine ⟨fun c' hc' hlt => ?_, fun t' ht' h3 => ?_, fun t' ht' h3 h4 => ?_, fun ht' => ?_⟩
          · have : zK h (b + 1) = c' + 1 := hc'
            omega
          · have : zK h (b + 1) = 101 + t' := ht'
            have : t' = 0 := by omega
            subst this
            rw [eb]
            show _ = some (vp_cell _ (zN h (b + 1), .inl (va_up h.2.2.1 (b + 1) _ (b + 1))))
            rw [va_up_self, hn1]
          · have : zK h (b + 1) = 101 + t' := ht'
            omega
          · have : zK h (b + 1) = 200 := ht'
            omega
        have hS2 : ∀ LL : List Loc, (∀ q ∈ LL, base ≤ q.base) → va_S (fun q => base ≤ q) H0 H1 (locs ++ LL) := by
          intro LL hLL
          have hS3 := hS.2.2
          refine ⟨by rw [z1]; exact hS3.1, fun q g1 g2 => ?_, fun q hq => ?_⟩
          · rw [oq q (fun e => g2 (by rw [e]; exact hb))]
            exact hS3.2.1 q g1 g2
          · rcases List.mem_append.mp hq with h9 | h9
            · exact hS3.2.2 q h9
            · exact hLL q h9
        obtain ⟨t, a1, b1⟩ := hG ls H1 _ ⟨hS.1, hS1, hS2 _ (fun q hq => by obtain ⟨z, -, hz⟩ := List.mem_map.mp hq; rw [← hz]; exact hb)⟩ _ hheap X'
        exact ⟨t, step t a1, b1⟩
      · cases hx
    · cases hr
  · cases hr
theorem zo_table_spec {κ : Nat → Option zR} {x : Int32} {d : Nat} {r : zR} : ∀ (ts : List Nat) (k : Nat), k + ts.length < 1000 → zo_table κ x d ts (nI k) = some r → (∃ (j t : Nat), ts[j]? = some t ∧ x = nI (k + j) ∧ κ t = some r) ∨ ((∀ j, j < ts.length → x ≠ nI (k + j)) ∧ κ d = some r)
  | [], k, _, h => Or.inr ⟨fun j hj => by simp at hj, h⟩
  | t :: ts, k, hk, h => by
    simp only [zo_table] at h
    split at h
    · rename_i hx
      exact Or.inl ⟨0, t, rfl, hx, h⟩
    · rename_i hx
      rw [show nI k + 1 = nI (k + 1) from nI_1 k] at h
      rcases zo_table_spec ts (k + 1) (by simp at hk; omega) h with ⟨j, t', h1, h2, h3⟩ | ⟨h1, h2⟩
      · exact Or.inl ⟨j + 1, t', h1, by rw [h2]; congr 1; omega, h3⟩
      · refine Or.inr ⟨fun j hj => ?_, h2⟩
        rcases j with _ | j
        · exact hx
        · have := h1 j (by simpa using hj)
          rw [show k + (j + 1) = k + 1 + j by omega]
          exact this
theorem zs_table (C : zCx p s m args meth c R D base H0 M) {L : zL} {pc len : Nat} {d hi : Int} {offs : Array Int} {x : Int32} {h : zM} {κ : Nat → Option zR} {rest : List zV} {r : zR} (hd : decode (zMb M) pc = .ok (.tableswitch d 0 hi offs, len))
    (hsz : hi + 1 = (offs.size : Int)) (hs9 : offs.size < 900) (hdn : 0 ≤ (pc : Int) + d) (hon : ∀ o ∈ offs.toList, 0 ≤ (pc : Int) + o)
    (hr : zo_table κ x ((pc : Int) + d).toNat (offs.toList.map fun o => ((pc : Int) + o).toNat) 0 = some r) (hkk : ∀ t, κ t = some r → zG p l e R s m args below meth c Q D base H0 M c0 n0 t L rest h) : zG p l e R s m args below meth c Q D base H0 M c0 n0 pc L (.inl x :: rest) h := by
  intro ls H locs hS
  rcases zo_table_spec _ 0 (by simp; omega) (show zo_table κ x _ _ (nI 0) = some r from hr) with ⟨j, t, h1, h2, h3⟩ | ⟨h1, h2⟩
  · rw [List.getElem?_map, Option.map_eq_some_iff] at h1
    obtain ⟨o, ho, ht⟩ := h1
    rw [Nat.zero_add] at h2
    have hj : j < offs.size := by have := (List.getElem?_eq_some_iff.mp ho).1; simpa using this
    have hx : x.toInt = (j : Int) := by rw [h2]; exact nI_toInt (by omega)
    have hop := hon o (List.mem_of_getElem? ho)
    refine lv_tableIn (tgt := t) (off := o) C.1 C.2.1 hd (by omega) (by omega) ?_ (by omega) (hkk t h3 ls H locs hS)
    rw [hx, ← Array.getElem?_toList]
    rw [show ((j : Int) - 0).toNat = j by omega]
    exact ho
  · refine lv_tableOut (tgt := ((pc : Int) + d).toNat) C.1 C.2.1 hd ?_ (by omega) (hkk _ h2 ls H locs hS)
    rcases Classical.em (x.toInt < 0 ∨ hi < x.toInt) with q | q
    · exact q
    · exfalso
      have hq : ∃ j : Nat, x.toInt = (j : Int) := ⟨x.toInt.toNat, by omega⟩
      obtain ⟨j, hj⟩ := hq
      have hj9 : j < offs.size := by omega
      refine h1 j (by simpa using hj9) ?_
      apply Int32.toInt_inj.mp
      rw [Nat.zero_add, nI_toInt (by omega), hj]
end ZMORE
