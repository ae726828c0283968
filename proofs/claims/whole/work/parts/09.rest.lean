section ZREST
variable {p : Program} {l : Launch} {e : Env} {R : Room} {s : State} {m : MethodId} {args : Array Value} {below : List Frame} {meth : Method} {c : Code} {Q : State → Prop} {D : zD3} {base : Nat} {H0 : Heap} {M : zRec} {c0 n0 : Nat}
theorem zdef_val {h : zM} {ci N k : Nat} {cl : vw_C} (hcl : zcls[ci]? = some cl) (hk : k < cl.2.2) : defaultValue (ztyc ci k) = vp_V (zfs (zmk h (ci + 1) N) ci h.1.1) k := by
  have hn : k < zcn ci := by rw [zcn_of hcl]; exact hk
  have h1 : vp_V (zfs (zmk h (ci + 1) N) ci h.1.1) k = zfv (zmk h (ci + 1) N) ci h.1.1 k := by
    unfold vp_V
    rw [List.getD_eq_getElem?_getD, zfs_at hn]
    rfl
  rw [h1]
  obtain ⟨tyok, -⟩ := zcls_ty ci _ hcl
  unfold zfv zF zI zmk
  simp only [va_up_self]
  have hp := tyok k hk
  cases ht : ztyc ci k <;> simp [zfk, defaultValue, zop, va_rf]
  all_goals first | done | (exfalso; revert ht; unfold ztyc; split <;> (try unfold tyX0) <;> (try unfold tyX1) <;> (try unfold tyX2) <;> (try unfold tyX3) <;> (try unfold tyX4) <;> (try unfold tyX5) <;> (try unfold tyX6) <;> (try unfold tyX7) <;> (try unfold tyX8) <;> (try unfold tyX9) <;> (try unfold tyX10) <;> (try unfold tyX11) <;> (try unfold tyX12) <;> split <;> simp)
theorem zs_new (C : zCx p s m args meth c R D base H0 M) {L : zL} {pc idx ci N : Nat} {cl : vw_C} {h : zM} {st : List zV} {r : zR} (hd : decode (zMb M) pc = .ok (.new idx, 3))
    (hc : zcls[ci]? = some cl) (hN : cl.2.2 = N) (hl : Cond.classLink (zMo M) idx cl.1 ∈ zgt) (hi : Cond.instantiable cl.1 N ∈ zgt) (hn : Cond.initialized cl.1 ∈ zgt) (h0 : c0 ≤ h.1.2.1 ∧ n0 ≤ h.1.2.2) (hroom : r.2.2.1.2.1 - c0 ≤ R.cells ∧ r.2.2.1.2.2 - n0 ≤ R.slots) (hge : zge (zmk h (ci + 1) N) r.2.2)
    (hkk : zG p l e R s m args below meth c Q D base H0 M c0 n0 (pc + 3) L (.inr h.1.1 :: st) (zmk h (ci + 1) N)) : zG p l e R s m args below meth c Q D base H0 M c0 n0 pc L st h := by
  intro ls H locs hS
  obtain ⟨C1, C2, C3, C4, C5, C6, C7, C8, C9⟩ := C
  obtain ⟨CN, T, N'⟩ := cl
  dsimp only at hN
  subst hN
  obtain ⟨tyok, nmok⟩ := zcls_ty ci _ hc
  have hKn := C6.1 ci _ hc
  have g1 : h.1.2.1 + 1 ≤ r.2.2.1.2.1 := hge.1
  have g2 : h.1.2.2 + N' ≤ r.2.2.1.2.2 := hge.2
  have ec : (zmk h (ci + 1) N').1.2.1 - c0 = h.1.2.1 - c0 + 1 := by show h.1.2.1 + 1 - c0 = _; have := h0.1; omega
  have es : (zmk h (ci + 1) N').1.2.2 - n0 = h.1.2.2 - n0 + N' := by show h.1.2.2 + N' - n0 = _; have := h0.2; omega
  refine W.newcK C1 C2 C4 (C5 _ hl) (C5 _ hi) (C5 _ hn) rfl hd (by have := h0.1; have := hroom.1; omega) (by have := h0.2; have := hroom.2; omega) hKn.2.1 rfl fun H1 kC hkC e1 z1 o1 => ?_
  have hnx : h.1.1 = H.size + 1 := hS.2.1.1
  have hS' : zSt D base s H0 (zMl M) L (zmk h (ci + 1) N') ls H1 locs := by
    refine ⟨hS.1, hS.2.1.push z1 o1 (Or.inr (Or.inl (by have := zcls_lt hc; omega))) ?_, ⟨Nat.le_trans hS.2.2.1 (by omega), fun x k1 k2 => (o1 x (Nat.lt_of_lt_of_le k1 hS.2.2.1)).trans (hS.2.2.2.1 x k1 k2), hS.2.2.2.2⟩⟩
    have ek : zK (zmk h (ci + 1) N') (H.size + 1) = ci + 1 := by unfold zK zmk; rw [hnx]; show (va_up h.2.1 (H.size + 1) (ci + 1, N') (H.size + 1)).1 = _; rw [va_up_self]
    have h13 := zcls_lt hc
    refine ⟨fun c' hc' hlt => ?_, fun t ht h3 => by omega, fun t ht h3 h4 => by omega, fun ht => by omega⟩
    have : c' = ci := by omega
    subst this
    refine ⟨_, hc, (u_born (ztyc c') C5 (zcls_in c' _ hc) hKn hkC e1 tyok).to (fun j hj => ?_)⟩
    rw [← hnx]
    exact zdef_val hc hj
  have hW := hkk ls H1 locs hS'
  rw [ec, es] at hW
  have hv : zval (.inr h.1.1) = .ref H.size := by rw [hnx]; rfl
  rw [List.map_cons, hv] at hW
  exact hW
theorem zs_newarr (C : zCx p s m args meth c R D base H0 M) {L : zL} {pc : Nat} {t : ClassFile.ArrayType} {h : zM} {κ : List zV → zM → Option zR} {st : List zV} {r : zR} (hd : decode (zMb M) pc = .ok (.newarray t, 2))
    (ht : t = .int ∨ t = .byte ∨ t = .boolean) (hw : Cond.arrayClass (newarray.typeOf t) ∈ zgt) (h0 : c0 ≤ h.1.2.1 ∧ n0 ≤ h.1.2.2) (hroom : r.2.2.1.2.1 - c0 ≤ R.cells ∧ r.2.2.1.2.2 - n0 ≤ R.slots) (hge : ∀ st' h', κ st' h' = some r → zge h' r.2.2)
    (hr : zo_na h (zatk t) κ st = some r) (hkk : ∀ st' h', zge h h' → κ st' h' = some r → zG p l e R s m args below meth c Q D base H0 M c0 n0 (pc + 2) L st' h') : zG p l e R s m args below meth c Q D base H0 M c0 n0 pc L st h := by
  intro ls H locs hS
  obtain ⟨C1, C2, C3, C4, C5, C6, C7, C8, C9⟩ := C
  unfold zo_na at hr
  split at hr
  · rename_i n rest
    obtain ⟨h', hx, hr⟩ := Option.bind_eq_some_iff.mp hr
    unfold zna at hx
    split at hx
    · cases hx
    · rename_i hn
      cases hx
      obtain ⟨k, hk3, hka, hkt⟩ : ∃ k, k < 3 ∧ zatk t = 101 + k ∧ zaty k = newarray.typeOf t := by
        rcases ht with rfl | rfl | rfl
        · exact ⟨0, by omega, rfl, rfl⟩
        · exact ⟨1, by omega, rfl, rfl⟩
        · exact ⟨2, by omega, rfl, rfl⟩
      have hg := hge _ _ hr
      have hG := hkk _ _ ⟨Nat.le_succ _, Nat.le_add_right _ _⟩ hr
      generalize hNe : n.toNatClampNeg = N at *
      have g1 : h.1.2.1 + 1 ≤ r.2.2.1.2.1 := hg.1
      have g2 : h.1.2.2 + N ≤ r.2.2.1.2.2 := hg.2
      have ec : (zmk h (zatk t) N).1.2.1 - c0 = h.1.2.1 - c0 + 1 := by show h.1.2.1 + 1 - c0 = _; have := h0.1; omega
      have es : (zmk h (zatk t) N).1.2.2 - n0 = h.1.2.2 - n0 + N := by show h.1.2.2 + N - n0 = _; have := h0.2; omega
      have hcb : componentBytes (newarray.typeOf t) ≤ 4 := by rcases ht with rfl | rfl | rfl <;> decide
      have hN9 : N ≤ 1000000 := Nat.not_lt.mp fun q => hn (Or.inr q)
      refine va_newaK C1 C2 (C5 _ hw) rfl hd rfl (fun q => hn (Or.inl q)) hNe (Nat.le_trans (Nat.mul_le_mul hN9 hcb) (by decide)) (by have := h0.1; have := hroom.1; omega) (by have := h0.2; have := hroom.2; omega) rfl fun H1 cA e1 z1 o1 hAr hNm => ?_
      have hnx : h.1.1 = H.size + 1 := hS.2.1.1
      have hcA : cA = D.2.2 k := by
        have h2 := (C6.2 k _ (ztys_at (by omega))).2
        rw [hkt] at h2
        have h3 : s.vm.findClass ("[" ++ (newarray.typeOf t).toString) = some (D.2.2 k) := by rcases ht with rfl | rfl | rfl <;> exact h2
        exact Option.some.inj (hNm.symm.trans h3)
      subst hcA
      have hS' : zSt D base s H0 (zMl M) L (zmk h (zatk t) N) ls H1 locs := by
        refine ⟨hS.1, hS.2.1.push z1 o1 (Or.inr (Or.inr (Or.inl (by omega)))) ?_, ⟨Nat.le_trans hS.2.2.1 (by omega), fun x k1 k2 => (o1 x (Nat.lt_of_lt_of_le k1 hS.2.2.1)).trans (hS.2.2.2.1 x k1 k2), hS.2.2.2.2⟩⟩
        have e2 : (zmk h (zatk t) N).2.1 (H.size + 1) = (zatk t, N) := by unfold zmk; rw [hnx]; exact va_up_self _ _ _
        have e3 : (zmk h (zatk t) N).2.2.1 (H.size + 1) = fun _ => 0 := by unfold zmk; rw [hnx]; exact va_up_self _ _ _
        have ek : zK (zmk h (zatk t) N) (H.size + 1) = 101 + k := by unfold zK; rw [e2]; exact hka
        have en : zN (zmk h (zatk t) N) (H.size + 1) = N := by unfold zN; rw [e2]
        refine ⟨fun c' hc' hlt => by omega, fun t' ht' h3 => ?_, fun t' ht' h3 h4 => by omega, fun ht' => by omega⟩
        have : t' = k := by omega
        subst this
        rw [e1, en, e3, vp_cell_i]
        rcases ht with rfl | rfl | rfl <;> rfl
      have hW := hG ls H1 locs hS'
      rw [ec, es] at hW
      have hv : zval (.inr h.1.1) = .ref H.size := by rw [hnx]; rfl
      rw [List.map_cons, hv] at hW
      exact hW
  · cases hr
theorem zs_anew (C : zCx p s m args meth c R D base H0 M) {L : zL} {pc idx k : Nat} {CN : String} {h : zM} {κ : List zV → zM → Option zR} {st : List zV} {r : zR} (hd : decode (zMb M) pc = .ok (.anewarray idx, 3))
    (h3 : 3 ≤ k) (h7 : k < 7) (hty : zaty k = .object CN) (hl : Cond.classLink (zMo M) idx CN ∈ zgt) (h0 : c0 ≤ h.1.2.1 ∧ n0 ≤ h.1.2.2) (hroom : r.2.2.1.2.1 - c0 ≤ R.cells ∧ r.2.2.1.2.2 - n0 ≤ R.slots) (hge : ∀ st' h', κ st' h' = some r → zge h' r.2.2)
    (hr : zo_na h (101 + k) κ st = some r) (hkk : ∀ st' h', zge h h' → κ st' h' = some r → zG p l e R s m args below meth c Q D base H0 M c0 n0 (pc + 3) L st' h') : zG p l e R s m args below meth c Q D base H0 M c0 n0 pc L st h := by
  intro ls H locs hS
  obtain ⟨C1, C2, C3, C4, C5, C6, C7, C8, C9, C10, C11⟩ := C
  have hAO : va_AO CN s := by
    rcases (show k = 3 ∨ k = 4 ∨ k = 5 ∨ k = 6 by omega) with rfl | rfl | rfl | rfl <;> cases hty
    · exact C11.2.1
    · exact C11.2.2.1
    · exact C11.2.2.2.1
    · exact C11.2.2.2.2
  unfold zo_na at hr
  split at hr
  · rename_i n rest
    obtain ⟨h', hx, hr⟩ := Option.bind_eq_some_iff.mp hr
    unfold zna at hx
    split at hx
    · cases hx
    · rename_i hn
      cases hx
      have hg := hge _ _ hr
      have hG := hkk _ _ ⟨Nat.le_succ _, Nat.le_add_right _ _⟩ hr
      have g1 : h.1.2.1 + 1 ≤ r.2.2.1.2.1 := hg.1
      have g2 : h.1.2.2 + n.toNatClampNeg ≤ r.2.2.1.2.2 := hg.2
      have ec : (zmk h (101 + k) n.toNatClampNeg).1.2.1 - c0 = h.1.2.1 - c0 + 1 := by show h.1.2.1 + 1 - c0 = _; have := h0.1; omega
      have es : (zmk h (101 + k) n.toNatClampNeg).1.2.2 - n0 = h.1.2.2 - n0 + n.toNatClampNeg := by show h.1.2.2 + n.toNatClampNeg - n0 = _; have := h0.2; omega
      have hN9 : n.toNatClampNeg ≤ 1000000 := Nat.not_lt.mp fun q => hn (Or.inr q)
      refine W.anew C1 C2 C4 (C5 _ hl) (va_AO.use hAO) rfl hd rfl (fun q => hn (Or.inl q)) (by omega) (by have := h0.1; have := hroom.1; omega) (by have := h0.2; have := hroom.2; omega) fun cA kA comp f1 f2 f3 f4 => ?_
      generalize hH1 : H.push ({ cls := cA, slots := Array.replicate n.toNatClampNeg .null, vm := .none } : Cell) = H1
      have z1 : H1.size = H.size + 1 := by rw [← hH1, Array.size_push]
      have e1 : H1[H.size]? = some (arrV cA n.toNatClampNeg (fun _ => .null)) := by rw [← hH1, Array.getElem?_push_size, ← arrV_new]
      have o1 : ∀ q : Nat, q < H.size → H1[q]? = H[q]? := fun q hq => by rw [← hH1, Array.getElem?_push, if_neg (Nat.ne_of_lt hq)]
      have hnx : h.1.1 = H.size + 1 := hS.2.1.1
      have hcA : cA = D.2.2 k := by
        have h2 := (C6.2 k _ (ztys_at (by omega))).2
        rw [hty] at h2
        obtain ⟨_, _, _, _, _, h5⟩ := h2
        exact Option.some.inj (f1.symm.trans h5)
      subst hcA
      have hS' : zSt D base s H0 (zMl M) L (zmk h (101 + k) n.toNatClampNeg) ls H1 locs := by
        refine ⟨hS.1, hS.2.1.push z1 o1 (Or.inr (Or.inr (Or.inl (by omega)))) ?_, ⟨Nat.le_trans hS.2.2.1 (by omega), fun x k1 k2 => (o1 x (Nat.lt_of_lt_of_le k1 hS.2.2.1)).trans (hS.2.2.2.1 x k1 k2), hS.2.2.2.2⟩⟩
        have e2 : (zmk h (101 + k) n.toNatClampNeg).2.1 (H.size + 1) = (101 + k, n.toNatClampNeg) := by unfold zmk; rw [hnx]; exact va_up_self _ _ _
        have e3 : (zmk h (101 + k) n.toNatClampNeg).2.2.2 (H.size + 1) = fun _ => 0 := by unfold zmk; rw [hnx]; exact va_up_self _ _ _
        have ek : zK (zmk h (101 + k) n.toNatClampNeg) (H.size + 1) = 101 + k := by unfold zK; rw [e2]
        have en : zN (zmk h (101 + k) n.toNatClampNeg) (H.size + 1) = n.toNatClampNeg := by unfold zN; rw [e2]
        refine ⟨fun c' hc' hlt => by omega, fun t' ht' h4 => by omega, fun t' ht' h3 h4 => ?_, fun ht' => by omega⟩
        have : t' = k := by omega
        subst this
        rw [e1, en, e3, vp_cell_q]
        rfl
      have hW := hG ls H1 locs hS'
      rw [ec, es] at hW
      have hv : zval (.inr h.1.1) = .ref H.size := by rw [hnx]; rfl
      rw [List.map_cons, hv] at hW
      exact hW
  · cases hr
end ZREST
