/-! The law's walk out of its function. -/
def zM0 (n b L : Nat) (xs : Nat → Int32) : zM := ((n + 1, 0, 0), fun a => if a = b + 1 then (200, L) else (0, 0), fun a => if a = b + 1 then xs else fun _ => 0, fun _ _ => 0)
def zLaw : Prop := ∀ (n b L : Nat) (xs : Nat → Int32), L ≤ 3072 → b < n → ∃ h1 : zM, zrun (zFn zrecs) zr_L_law [.inr (b + 1)] (zM0 n b L xs) = some (1, 0, h1) ∧ h1.1.2.1 ≤ 548659 ∧ h1.1.2.2 ≤ 7456272
theorem zM0_rel {D : zD3} {s : State} {b L : Nat} {xs : Nat → Int32} (hX : va_X b L xs s s.heap) (hb : b < s.heap.size) : zRel D s.heap.size s (zM0 s.heap.size b L xs) s.heap := by
  have hk : ∀ a, a ≠ b + 1 → zK (zM0 s.heap.size b L xs) a = 0 := fun a ha => by simp [zK, zM0, ha]
  have hkb : zK (zM0 s.heap.size b L xs) (b + 1) = 200 := by simp [zK, zM0]
  refine ⟨rfl, Nat.le_refl _, fun a => ?_, hk 0 (by omega), fun a ha => ?_, fun a => ?_⟩
  · by_cases hab : a = b
    · subst hab
      refine ⟨fun c h1 h2 => by omega, fun t h1 h2 => by omega, fun t h1 h2 h3 => by omega, fun _ => ?_⟩
      have e1 : zN (zM0 s.heap.size a L xs) (a + 1) = L := by simp [zN, zM0]
      have e2 : (zM0 s.heap.size a L xs).2.2.1 (a + 1) = xs := by simp [zM0]
      rw [e1, e2]
      exact hX
    · have := hk (a + 1) (by omega)
      exact ⟨fun c h1 h2 => by omega, fun t h1 h2 => by omega, fun t h1 h2 h3 => by omega, fun h1 => by omega⟩
  · by_cases hab : a = b
    · subst hab; exact ⟨hb, Or.inl hkb⟩
    · exact absurd (hk (a + 1) (by omega)) ha
  · by_cases hab : a = b + 1
    · subst hab; rw [hkb]; exact Or.inr (Or.inr (Or.inr rfl))
    · rw [hk a hab]; exact Or.inl rfl
theorem zcls_inst : ∀ (c : Nat) (r : vw_C), zcls[c]? = some r → Cond.instantiable r.1 r.2.2 ∈ zgt := by
  intro c r h
  match c, h with
  | 0, h => cases h; exact zg_of (by decide +kernel) rfl
  | 1, h => cases h; exact zg_of (by decide +kernel) rfl
  | 2, h => cases h; exact zg_of (by decide +kernel) rfl
  | 3, h => cases h; exact zg_of (by decide +kernel) rfl
  | 4, h => cases h; exact zg_of (by decide +kernel) rfl
  | 5, h => cases h; exact zg_of (by decide +kernel) rfl
  | 6, h => cases h; exact zg_of (by decide +kernel) rfl
  | 7, h => cases h; exact zg_of (by decide +kernel) rfl
  | 8, h => cases h; exact zg_of (by decide +kernel) rfl
  | 9, h => cases h; exact zg_of (by decide +kernel) rfl
  | 10, h => cases h; exact zg_of (by decide +kernel) rfl
  | 11, h => cases h; exact zg_of (by decide +kernel) rfl
  | 12, h => cases h; exact zg_of (by decide +kernel) rfl
  | c + 13, h => exact absurd h (by simp [zcls])
/-- the tables tell the classes and the kinds of arrays -/
theorem zKn_start {args : Array Value} {s : State} (hts : ∀ w ∈ lw_tbl, w.before args s = true) : ∃ D : zD3, zKn D s := by
  have hgt : ∀ w ∈ zgt, w.before args s = true := fun w hw => hts w (List.mem_filter.mp hw).1
  have hc : ∀ c : Nat, ∃ (q : ClassId × (Nat → Nat)), ∀ r : vw_C, zcls[c]? = some r → u_Kn s r.1 r.2.1 r.2.2 q.1 q.2 := by
    intro c
    cases hr : zcls[c]? with
    | none => exact ⟨(0, fun _ => 0), fun r h => by cases h⟩
    | some r =>
      obtain ⟨cC, iS, h⟩ := u_known (C := r.1) (T := r.2.1) (N := r.2.2) hgt (zcls_in c r hr) (hgt _ (zcls_inst c r hr))
      exact ⟨(cC, iS), fun r' h' => by cases h'; exact h⟩
  have ha : ∀ k, k < 7 → ∃ cA : ClassId, ArrOfT s cA (zaty k) ∧ va_RA s cA (zaty k) := by
    have prim : ∀ t, Cond.arrayClass t ∈ lw_tbl → (t = .int ∨ t = .byte ∨ t = .boolean) → ∃ cA : ClassId, ArrOfT s cA t ∧ va_RA s cA t := by
      intro t hm ht
      obtain ⟨c, k, comp, h1, h2, h3⟩ := Cond.arrayClass_spec (show (Cond.arrayClass t).holds args s none s [] = true from hts _ hm)
      refine ⟨c, fun N z => ⟨(fun k h => by cases h), k, h2, comp, h3⟩, ?_⟩
      rcases ht with rfl | rfl | rfl <;> exact h1
    have refs : ∀ C, Cond.arrayOver (.object C) ∈ lw_tbl → ∃ cA : ClassId, ArrOfT s cA (.object C) ∧ va_RA s cA (.object C) := by
      intro C hm
      obtain ⟨comp, c, k, h1, h2, h3, h4, h5⟩ := Cond.arrayOver_spec (show (Cond.arrayOver (.object C)).holds args s none s [] = true from hts _ hm)
      exact ⟨c, fun N z => ⟨(fun k h => by cases h), k, h3, comp, h4⟩, k, comp, h3, h4, h1, h5⟩
    intro k hk
    match k, hk with
    | 0, _ => exact prim .int (by decide +kernel) (Or.inl rfl)
    | 1, _ => exact prim .byte (by decide +kernel) (Or.inr (Or.inl rfl))
    | 2, _ => exact prim .boolean (by decide +kernel) (Or.inr (Or.inr rfl))
    | 3, _ => exact refs RX10 (by decide +kernel)
    | 4, _ => exact refs RX2 (by decide +kernel)
    | 5, _ => exact refs RX4 (by decide +kernel)
    | 6, _ => exact refs RX8 (by decide +kernel)
  refine ⟨(fun c => (Classical.choose (hc c)).1, fun c => (Classical.choose (hc c)).2, fun k => if hk : k < 7 then Classical.choose (ha k hk) else 0), fun c q hq => Classical.choose_spec (hc c) q hq, fun k q hq => ?_⟩
  have hk : k < 7 := by
    have := (List.getElem?_eq_some_iff.mp hq).1
    simpa [ztys] using this
  rw [ztys_at hk] at hq
  cases hq
  dsimp only
  rw [dif_pos hk]
  exact Classical.choose_spec (ha k hk)
theorem zEx_start {args : Array Value} {s : State} (hts : ∀ w ∈ lw_tbl, w.before args s = true) : zEx s :=
  ⟨fun a i x b hm => va_Nw.of rfl (hts _ hm), va_AO.of (hts _ (by decide +kernel)), va_AO.of (hts _ (by decide +kernel)), va_AO.of (hts _ (by decide +kernel)), va_AO.of (hts _ (by decide +kernel))⟩
theorem zsys_ok : Jvm.Cond.initialized "java/lang/System" ∈ zgt ∧ Jvm.Cond.code Lib.objectInit ⟨#[0xb1]⟩ 1 none ∈ zgt := ⟨zg_of (by decide +kernel) rfl, zg_of (List.mem_of_getElem? (i := 122) (by rfl)) rfl⟩
theorem zLaw_start (hlaw : zLaw) {p : Program} {e : Env} {s : State} {m : MethodId} {below : List Frame} {meth : Method} {c : Code} (l : Launch) {b L : Nat} {xs : Nat → Int32} (hL : L ≤ 3072) (C0 : lw_At p s m meth c b L xs) : W p l e room_1 s m #[Value.ref b] below meth c s.heap [] 0 0 (lw_Z below #[Value.ref b] s) (entryFrame m ([Value.ref b] : List Value).toArray 4) := by
  obtain ⟨hx, hb, hr, hml, hown, hts, hX, hbl, hlocks, hgv⟩ := id C0
  obtain ⟨D, hK⟩ := zKn_start hts
  obtain ⟨h1, hrun, hc1, hs1⟩ := hlaw s.heap.size b L xs hL hbl
  have hR := zM0_rel (D := D) hX hbl
  have hmono := zFn_mono (recs := zrecs)
  unfold zrun at hrun
  rw [if_pos (show ([.inr (b + 1)] : List zV).length ≤ zMl zr_L_law from Nat.le_of_ble_eq_true rfl)] at hrun
  obtain ⟨n, hn⟩ := (zZ_iff hmono).mp hrun
  have C : zCx p s m #[Value.ref b] meth c room_1 D s.heap.size s.heap zr_L_law :=
    ⟨hx, hb, hml, hown, fun w hw => hts w (List.mem_filter.mp hw).1, hK, fun h => absurd h (by decide), Nat.le_refl _, by decide, by decide, zEx_start hts⟩
  have hM : ∀ j J, znth zrecs j = some J → ∀ as h u, zFn zrecs j as h = some u → zMet l D s.heap.size J as h u := fun j J hJ as h u hu => zall zrecs_ok zsys_ok zrecs_code (j + 1) j J hJ as h u hu
  have hG := zZn_sim (p := p) (l := l) (e := e) (R := room_1) (s := s) (m := m) (args := #[Value.ref b]) (below := below) (meth := meth) (c := c) (Q := lw_Z below #[Value.ref b] s) (D := D) (base := s.heap.size) (H0 := s.heap) (M := zr_L_law) (c0 := 0) (n0 := 0) (r := (1, 0, h1)) C hmono zlaw_rok zsys_ok zrecs_code hM ⟨hc1, hs1⟩ ?_ ?_ ?_ n 0 (zinit (zMl zr_L_law) [.inr (b + 1)]) [] _ ⟨Nat.zero_le _, Nat.zero_le _⟩ hn
  · have hl := zlr_init (as := [.inr (b + 1)]) (n := zMl zr_L_law) (Nat.le_of_ble_eq_true rfl)
    rw [lg_entry_eq]
    have e0 : ([.inr (b + 1)] : List zV).map zval = [Value.ref b] := rfl
    rw [e0] at hl
    have e4 : zMl zr_L_law = 4 := rfl
    rw [e4] at hl hG
    generalize (lg_sl [Value.ref b] ++ List.replicate (4 - (lg_sl [Value.ref b]).length) Slot.unset).toArray = ls at hl ⊢
    exact hG ls s.heap [] ⟨hl, hR, va_S.rf⟩
  · intro h' x pc L' h0 hd hty hru ls H locs hS
    have hx1 : x = 1 := (congrArg (fun q : zR => q.1) hru).symm
    have hh : h' = h1 := (congrArg (fun q : zR => q.2.2) hru).symm
    subst hx1; subst hh
    refine va_forget (fun q hq => hS.2.2.2.2 q hq) ?_
    refine W.widen (k := 548659) (n := 7456272) hc1 hs1 ?_
    exact lw_ret hx hb hr hlocks hd
  · intro h' x pc L' t h0 hd hty hir hru
    cases hty
    cases hir
  · intro h' pc L' h0 hd hty hru
    cases hty
