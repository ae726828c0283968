section ZARR
variable {p : Program} {l : Launch} {e : Env} {R : Room} {s : State} {m : MethodId} {args : Array Value} {below : List Frame} {meth : Method} {c : Code} {Q : State → Prop} {D : zD3} {base : Nat} {H0 : Heap} {M : zRec} {c0 n0 : Nat}
theorem ztys_at {k : Nat} (hk : k < 7) : (ztys D)[k]? = some (D.2.2 k, zaty k) := by simp [ztys, hk]
theorem zarr {h : zM} {a t : Nat} {H : Heap} (hR : zRel D base s h H) (hk : zK h a = 101 + t) (ht : t < 7) : ∃ b, a = b + 1 ∧ base ≤ b := by
  rcases a with _ | b
  · have := hR.2.2.2.1; omega
  · refine ⟨b, rfl, ?_⟩
    rcases (hR.2.2.2.2.1 b (by omega)).2 with h1 | h1
    · omega
    · exact h1
theorem zP1 {D' : va_G} {cl : List vw_C} {q : Nat × va_E} {H : Heap} (h : va_at D' cl q H) : va_P D' cl [q] H := by
  intro k x hx
  have hz : k < 1 := (List.getElem?_eq_some_iff.mp hx).1
  rw [show k = 0 by omega] at hx
  cases hx
  exact h
theorem zPi {h : zM} {b t : Nat} {H : Heap} (hR : zRel D base s h H) (hk : zK h (b + 1) = 101 + t) (ht : t < 3) : va_P (zDv D) zcls [(b, .inl (D.2.2 t, zN h (b + 1), .inl (h.2.2.1 (b + 1))))] H := zP1 ((hR.2.2.1 b).2.1 t hk ht)
theorem zPq {h : zM} {b t : Nat} {H : Heap} (hR : zRel D base s h H) (hk : zK h (b + 1) = 101 + t) (h3 : 3 ≤ t) (ht : t < 7) : va_P (zDv D) zcls [(b, .inl (D.2.2 t, zN h (b + 1), .inr (.inr (.inr (.inr (fun j => zop (h.2.2.2 (b + 1) j)))))))] H := zP1 ((hR.2.2.1 b).2.2.1 t hk h3 ht)
theorem zX_ne {h : zM} {b : Nat} {H : Heap} (hR : zRel D base s h H) (hk : zK h (b + 1) = 200) : va_X b (zN h (b + 1)) (h.2.2.1 (b + 1)) s H := (hR.2.2.1 b).2.2.2 hk
theorem zs_iald (C : zCx p s m args meth c R D base H0 M) {L : zL} {pc : Nat} {h : zM} {κ : List zV → Option zR} {st : List zV} {r : zR} (hd : decode (zMb M) pc = .ok (.iaload, 1))
    (hr : zo_ald (zia h) κ st = some r) (hkk : ∀ st', κ st' = some r → zG p l e R s m args below meth c Q D base H0 M c0 n0 (pc + 1) L st' h) : zG p l e R s m args below meth c Q D base H0 M c0 n0 pc L st h := by
  intro ls H locs hS
  obtain ⟨C1, C2, C3, C4, C5, C6, C7, C8, C9⟩ := C
  unfold zo_ald at hr
  split at hr
  · rename_i i a rest
    obtain ⟨x, hx, hr⟩ := Option.bind_eq_some_iff.mp hr
    unfold zia at hx
    split at hx
    · rename_i ha
      cases hx
      have hW := hkk _ hr ls H locs hS
      rcases ha.1 with h1 | h1
      · obtain ⟨b, rfl, -⟩ := zarr (t := 0) hS.2.1 h1 (by omega)
        exact va_iald C1 C2 C6 (zPi (t := 0) hS.2.1 h1 (by omega)) 0 0 rfl (ztys_at (by omega)) ha.2 hd hW
      · rcases a with _ | b
        · have := hS.2.1.2.2.2.1; omega
        · obtain ⟨scr, g1, g2, g3, g4, g5⟩ := zX_ne hS.2.1 h1
          have hlt : i.toNatClampNeg < zN h (b + 1) := Nat.not_le.mp fun q => ha.2 (Or.inr q)
          exact W.iald (v := .int (zI h (b + 1) i.toNatClampNeg)) C1 C2 g1 g2 g3 (by rw [g4]; exact ha.2) (g5 _ hlt) rfl rfl hd hW
    · cases hx
  · cases hr
theorem zs_bald (C : zCx p s m args meth c R D base H0 M) {L : zL} {pc : Nat} {h : zM} {κ : List zV → Option zR} {st : List zV} {r : zR} (hd : decode (zMb M) pc = .ok (.baload, 1))
    (hr : zo_ald (zba h) κ st = some r) (hkk : ∀ st', κ st' = some r → zG p l e R s m args below meth c Q D base H0 M c0 n0 (pc + 1) L st' h) : zG p l e R s m args below meth c Q D base H0 M c0 n0 pc L st h := by
  intro ls H locs hS
  obtain ⟨C1, C2, C3, C4, C5, C6, C7, C8, C9⟩ := C
  unfold zo_ald at hr
  split at hr
  · rename_i i a rest
    obtain ⟨x, hx, hr⟩ := Option.bind_eq_some_iff.mp hr
    unfold zba at hx
    split at hx
    · rename_i ha
      cases hx
      have hW := hkk _ hr ls H locs hS
      rcases ha.1 with h1 | h1
      · obtain ⟨b, rfl, -⟩ := zarr (t := 1) hS.2.1 h1 (by omega)
        exact va_bald C1 C2 C6 (zPi (t := 1) hS.2.1 h1 (by omega)) 0 1 rfl (ztys_at (by omega)) ha.2 hd hW
      · obtain ⟨b, rfl, -⟩ := zarr (t := 2) hS.2.1 h1 (by omega)
        exact va_zald C1 C2 C6 (zPi (t := 2) hS.2.1 h1 (by omega)) 0 2 rfl (ztys_at (by omega)) ha.2 hd hW
    · cases hx
  · cases hr
theorem zaty_obj : ∀ t, 3 ≤ t → t < 7 → ∃ r : vw_C, zcls[zel (101 + t)]? = some r ∧ zaty t = .object r.1 := by
  intro t h3 h7
  rcases (show t = 3 ∨ t = 4 ∨ t = 5 ∨ t = 6 by omega) with rfl | rfl | rfl | rfl
  · exact ⟨_, rfl, rfl⟩
  · exact ⟨_, rfl, rfl⟩
  · exact ⟨_, rfl, rfl⟩
  · exact ⟨_, rfl, rfl⟩
theorem zs_aald (C : zCx p s m args meth c R D base H0 M) {L : zL} {pc : Nat} {h : zM} {κ : List zV → Option zR} {st : List zV} {r : zR} (hd : decode (zMb M) pc = .ok (.aaload, 1))
    (hr : zo_aald h κ st = some r) (hkk : ∀ st', κ st' = some r → zG p l e R s m args below meth c Q D base H0 M c0 n0 (pc + 1) L st' h) : zG p l e R s m args below meth c Q D base H0 M c0 n0 pc L st h := by
  intro ls H locs hS
  obtain ⟨C1, C2, C3, C4, C5, C6, C7, C8, C9⟩ := C
  unfold zo_aald at hr
  split at hr
  · rename_i i a rest
    obtain ⟨x, hx, hr⟩ := Option.bind_eq_some_iff.mp hr
    unfold zaa at hx
    split at hx
    · rename_i ha
      cases hx
      have hW := hkk _ hr ls H locs hS
      obtain ⟨t, ht⟩ : ∃ t, zK h a = 101 + t := ⟨zK h a - 101, by omega⟩
      obtain ⟨b, rfl, -⟩ := zarr hS.2.1 ht (by omega)
      obtain ⟨r', g1, g2⟩ := zaty_obj t (by omega) (by omega)
      exact va_aldq C1 C2 C6 (zPq hS.2.1 ht (by omega) (by omega)) 0 t rfl (by rw [ztys_at (by omega), g2]) ha.2 hd hW
    · cases hx
  · cases hr
theorem zs_len (C : zCx p s m args meth c R D base H0 M) {L : zL} {pc : Nat} {h : zM} {κ : List zV → Option zR} {st : List zV} {r : zR} (hd : decode (zMb M) pc = .ok (.arraylength, 1))
    (hr : zo_len h κ st = some r) (hkk : ∀ st', κ st' = some r → zG p l e R s m args below meth c Q D base H0 M c0 n0 (pc + 1) L st' h) : zG p l e R s m args below meth c Q D base H0 M c0 n0 pc L st h := by
  intro ls H locs hS
  obtain ⟨C1, C2, C3, C4, C5, C6, C7, C8, C9⟩ := C
  unfold zo_len at hr
  split at hr
  · rename_i a rest
    obtain ⟨x, hx, hr⟩ := Option.bind_eq_some_iff.mp hr
    unfold zal at hx
    split at hx
    · rename_i ha
      cases hx
      have hW := hkk _ hr ls H locs hS
      rcases ha with h1 | h1
      · obtain ⟨t, ht⟩ : ∃ t, zK h a = 101 + t := ⟨zK h a - 101, by omega⟩
        obtain ⟨b, rfl, -⟩ := zarr hS.2.1 ht (by omega)
        by_cases h3 : t < 3
        · exact va_alen C1 C2 C6 (zPi hS.2.1 ht h3) 0 t rfl (ztys_at (by omega)) rfl hd hW
        · exact va_alen C1 C2 C6 (zPq hS.2.1 ht (by omega) (by omega)) 0 t rfl (ztys_at (by omega)) rfl hd hW
      · rcases a with _ | b
        · have := hS.2.1.2.2.2.1; omega
        · obtain ⟨scr, g1, g2, g3, g4, g5⟩ := zX_ne hS.2.1 h1
          exact W.alen (n := Int32.ofNat (zN h (b + 1))) C1 C2 g1 g2 (by rw [g4] <;> rfl) rfl rfl hd hW
    · cases hx
  · cases hr
/-- the memory's new cell at a is what the heap's is -/
theorem zRel.seti {h : zM} {b t j : Nat} {x : Int32} {H H1 : Heap} (hR : zRel D base s h H) (hk : zK h (b + 1) = 101 + t) (ht : t < 3) (z : H1.size = H.size) (oq : ∀ q : Nat, q ≠ b → H1[q]? = H[q]?)
    (e1 : H1[b]? = some (vp_cell (D.2.2 t) (zN h (b + 1), .inl (upd (h.2.2.1 (b + 1)) j x)))) : zRel D base s (zsI h (b + 1) j x) H1 := by
  refine hR.set z oq rfl rfl (fun q hq => va_up_ne _ _ hq) (fun _ _ => rfl) ?_
  have ek : zK (zsI h (b + 1) j x) (b + 1) = 101 + t := hk
  refine ⟨fun c' hc' hlt => ?_, fun t' ht' h3 => ?_, fun t' ht' h3 h4 => ?_, fun ht' => ?_⟩
  · omega
  · have : t' = t := by omega
    subst this
    rw [e1]
    simp [zsI, va_up_self, zN]
  · omega
  · omega
theorem zs_iast (C : zCx p s m args meth c R D base H0 M) {L : zL} {pc : Nat} {h : zM} {κ : List zV → zM → Option zR} {st : List zV} {r : zR} (hd : decode (zMb M) pc = .ok (.iastore, 1))
    (hr : zo_ast (zis h) κ st = some r) (hkk : ∀ st' h', zge h h' → κ st' h' = some r → zG p l e R s m args below meth c Q D base H0 M c0 n0 (pc + 1) L st' h') : zG p l e R s m args below meth c Q D base H0 M c0 n0 pc L st h := by
  intro ls H locs hS
  obtain ⟨C1, C2, C3, C4, C5, C6, C7, C8, C9⟩ := C
  unfold zo_ast at hr
  split at hr
  · rename_i x i a rest
    obtain ⟨h', hx, hr⟩ := Option.bind_eq_some_iff.mp hr
    unfold zis at hx
    split at hx
    · rename_i ha
      cases hx
      obtain ⟨b, rfl, hb⟩ := zarr (t := 0) hS.2.1 ha.1 (by omega)
      have hcell := (hS.2.1.2.2.1 b).2.1 0 ha.1 (by omega)
      refine W.iast C1 C2 hcell ((C6.2 0 _ (ztys_at (by omega))).1 _ (fun j => .int (h.2.2.1 (b + 1) j))) (fun q => by cases q) (by show ¬ (i < 0 ∨ (arrV _ _ _).slots.size ≤ _); rw [arrV_size]; exact ha.2) rfl rfl hd fun H1 e1 z oq => ?_
      refine hkk _ (zsI h (b + 1) i.toNatClampNeg x) ⟨Nat.le_refl _, Nat.le_refl _⟩ hr ls H1 _ ⟨hS.1, hS.2.1.seti (t := 0) ha.1 (by omega) z oq ?_, hS.2.2.put z oq hb⟩
      rw [e1, vp_cell_i, vp_cell_i, arrV_store]
      congr 2
      funext q
      by_cases hq : q = i.toNatClampNeg
      · subst hq; simp [updV, upd]
      · simp [updV, upd, hq]
    · cases hx
  · cases hr
theorem zs_bast (C : zCx p s m args meth c R D base H0 M) {L : zL} {pc : Nat} {h : zM} {κ : List zV → zM → Option zR} {st : List zV} {r : zR} (hd : decode (zMb M) pc = .ok (.bastore, 1))
    (hr : zo_ast (zbs h) κ st = some r) (hkk : ∀ st' h', zge h h' → κ st' h' = some r → zG p l e R s m args below meth c Q D base H0 M c0 n0 (pc + 1) L st' h') : zG p l e R s m args below meth c Q D base H0 M c0 n0 pc L st h := by
  intro ls H locs hS
  obtain ⟨C1, C2, C3, C4, C5, C6, C7, C8, C9⟩ := C
  unfold zo_ast at hr
  split at hr
  · rename_i x i a rest
    obtain ⟨h', hx, hr⟩ := Option.bind_eq_some_iff.mp hr
    unfold zbs at hx
    split at hx
    · rename_i ha
      cases hx
      obtain ⟨b, rfl, hb⟩ := zarr (t := 1) hS.2.1 ha.1 (by omega)
      have hcell := (hS.2.1.2.2.1 b).2.1 1 ha.1 (by omega)
      refine W.bast C1 C2 hcell ((C6.2 1 _ (ztys_at (by omega))).1 _ (fun j => .int (h.2.2.1 (b + 1) j))) (fun q => by cases q) (by show ¬ (i < 0 ∨ (arrV _ _ _).slots.size ≤ _); rw [arrV_size]; exact ha.2) rfl rfl hd fun H1 e1 z oq => ?_
      refine hkk _ (zsI h (b + 1) i.toNatClampNeg (vp_nar .byte x)) ⟨Nat.le_refl _, Nat.le_refl _⟩ hr ls H1 _ ⟨hS.1, hS.2.1.seti (t := 1) ha.1 (by omega) z oq ?_, hS.2.2.put z oq hb⟩
      rw [e1, vp_cell_i, vp_cell_i, arrV_store]
      congr 2
      funext q
      by_cases hq : q = i.toNatClampNeg
      · subst hq; simp [updV, upd, vp_nar]; try rfl
      · simp [updV, upd, hq]
    · split at hx
      · rename_i ha
        cases hx
        obtain ⟨b, rfl, hb⟩ := zarr (t := 2) hS.2.1 ha.1 (by omega)
        have hcell := (hS.2.1.2.2.1 b).2.1 2 ha.1 (by omega)
        refine W.zast C1 C2 hcell ((C6.2 2 _ (ztys_at (by omega))).1 _ (fun j => .int (h.2.2.1 (b + 1) j))) (fun q => by cases q) (by show ¬ (i < 0 ∨ (arrV _ _ _).slots.size ≤ _); rw [arrV_size]; exact ha.2) rfl rfl hd fun H1 e1 z oq => ?_
        refine hkk _ (zsI h (b + 1) i.toNatClampNeg (vp_nar .boolean x)) ⟨Nat.le_refl _, Nat.le_refl _⟩ hr ls H1 _ ⟨hS.1, hS.2.1.seti (t := 2) ha.1 (by omega) z oq ?_, hS.2.2.put z oq hb⟩
        rw [e1, vp_cell_i, vp_cell_i, arrV_store]
        congr 2
        funext q
        by_cases hq : q = i.toNatClampNeg
        · subst hq; simp [updV, upd, vp_nar]; try rfl
        · simp [updV, upd, hq]
      · cases hx
  · cases hr
theorem zs_aast (C : zCx p s m args meth c R D base H0 M) {L : zL} {pc : Nat} {h : zM} {κ : List zV → zM → Option zR} {st : List zV} {r : zR} (hd : decode (zMb M) pc = .ok (.aastore, 1))
    (hr : zo_aast h κ st = some r) (hkk : ∀ st' h', zge h h' → κ st' h' = some r → zG p l e R s m args below meth c Q D base H0 M c0 n0 (pc + 1) L st' h') : zG p l e R s m args below meth c Q D base H0 M c0 n0 pc L st h := by
  intro ls H locs hS
  obtain ⟨C1, C2, C3, C4, C5, C6, C7, C8, C9⟩ := C
  unfold zo_aast at hr
  split at hr
  · rename_i v i a rest
    obtain ⟨h', hx, hr⟩ := Option.bind_eq_some_iff.mp hr
    unfold zas at hx
    split at hx
    · rename_i ha
      cases hx
      obtain ⟨t, ht⟩ : ∃ t, zK h a = 101 + t := ⟨zK h a - 101, by omega⟩
      obtain ⟨b, rfl, hb⟩ := zarr hS.2.1 ht (by omega)
      obtain ⟨r', g1, g2⟩ := zaty_obj t (by omega) (by omega)
      have hv2 : zK h v = zel (101 + t) + 1 := by rw [← ht]; exact ha.2.2
      obtain ⟨w, rfl, hPv, -⟩ := zobj hS.2.1 g1 hv2
      have hcell := (hS.2.1.2.2.1 b).2.2.1 t ht (by omega) (by omega)
      have hin := ha.2.1
      have hlt : i.toNatClampNeg < zN h (b + 1) := Nat.not_le.mp fun q => hin (Or.inr q)
      have h0 : ¬ i < 0 := fun q => hin (Or.inl q)
      obtain ⟨r2, hr2, cellV, q1, q2, q3, -⟩ := hPv 0 _ rfl
      have hcls := (C6.1 _ r' g1).2
      have hA := (C6.2 t _ (ztys_at (by omega))).2
      rw [g2] at hA
      obtain ⟨kA, comp, k1, k2, k3, -⟩ := hA
      have hcomp : comp = (zDv D).1 (zel (101 + t)) := Option.some.inj (k3.symm.trans hcls.1)
      subst hcomp
      obtain ⟨kC, hkC, -⟩ := hcls.2
      refine W.aast C1 C2 hcell (fun q h => by cases h) (fun h => by cases h) k1 k2 rfl hkC ⟨h0, by show _ < (arrV _ _ _).slots.size; rw [arrV_size]; exact hlt⟩ q1 (fun q h => by rw [q3] at h; cases h) (by rw [q2]; exact hkC) (by rw [q2]; exact va_assign hcls) rfl rfl hd fun H1 e1 z oq => ?_
      refine hkk _ (zsF h (b + 1) i.toNatClampNeg (w + 1)) ⟨Nat.le_refl _, Nat.le_refl _⟩ hr ls H1 _ ⟨hS.1, hS.2.1.set z oq rfl rfl (fun _ _ => rfl) (fun q hq => va_up_ne _ _ hq) ?_, hS.2.2.put z oq hb⟩
      have ek : zK (zsF h (b + 1) i.toNatClampNeg (w + 1)) (b + 1) = 101 + t := ht
      refine ⟨fun c' hc' hlt => ?_, fun t' ht' h3 => ?_, fun t' ht' h3 h4 => ?_, fun ht' => ?_⟩
      · omega
      · omega
      · have : t' = t := by omega
        subst this
        rw [e1]
        rw [vp_cell_q, vp_cell_q, arrV_store]
        congr 2
        funext q
        by_cases hq : q = i.toNatClampNeg
        · subst hq; simp [updV, va_up_self, zsF, zop, va_rf]
        · simp [updV, hq, zsF, va_up_self, va_up_ne _ _ hq]
      · omega
    · cases hx
  · cases hr
end ZARR
