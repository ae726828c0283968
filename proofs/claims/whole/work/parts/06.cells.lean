/-! Fields, arrays, new cells. -/
theorem zcn_of {c : Nat} {r : vw_C} (h : zcls[c]? = some r) : zcn c = r.2.2 := by simp [zcn, h]
theorem zcls_lt {c : Nat} {r : vw_C} (h : zcls[c]? = some r) : c < 13 := by
  have := (List.getElem?_eq_some_iff.mp h).1
  simpa [zcls] using this
theorem zfs_at {h : zM} {c a k : Nat} (hk : k < zcn c) : (zfs h c a)[k]? = some (zfv h c a k) := by
  simp [zfs, hk]
theorem zfs_len {h : zM} {c a : Nat} : (zfs h c a).length = zcn c := by simp [zfs]
theorem zfs_setI {h : zM} {c a k : Nat} {x : Int32} (hk : zfk (ztyc c k) ≠ 1) : zfs (zsI h a k x) c a = (zfs h c a).set k (.int x) := by
  apply List.ext_getElem?
  intro j
  rw [List.getElem?_set]
  by_cases hj : j < zcn c
  · rw [zfs_at hj, zfs_at hj, zfs_len]
    by_cases hjk : k = j
    · subst hjk
      rw [if_pos rfl, if_pos hj]
      unfold zfv
      split
      · rename_i h1; exact absurd h1 hk
      · simp [zsI, zI, va_up_self, upd]
    · rw [if_neg hjk]
      unfold zfv
      split
      · simp [zsI, zF]
      · simp [zsI, zI, va_up_self, upd, Ne.symm hjk]
  · have h1 : (zfs (zsI h a k x) c a)[j]? = none := List.getElem?_eq_none (by rw [zfs_len]; omega)
    have h2 : (zfs h c a)[j]? = none := List.getElem?_eq_none (by rw [zfs_len]; omega)
    rw [h1, h2, zfs_len]
    by_cases hjk : k = j
    · subst hjk; simp [hj]
    · simp [hjk]
theorem zfs_setF {h : zM} {c a k : Nat} {x : Nat} (hk : zfk (ztyc c k) = 1) : zfs (zsF h a k x) c a = (zfs h c a).set k (va_rf (zop x)) := by
  apply List.ext_getElem?
  intro j
  rw [List.getElem?_set]
  by_cases hj : j < zcn c
  · rw [zfs_at hj, zfs_at hj, zfs_len]
    by_cases hjk : k = j
    · subst hjk
      rw [if_pos rfl, if_pos hj]
      unfold zfv
      rw [hk]
      simp [zsF, zF, va_up_self]
    · rw [if_neg hjk]
      unfold zfv
      split
      · simp [zsF, zF, va_up_self, va_up_ne _ _ (Ne.symm hjk)]
      · simp [zsF, zI]
  · have h1 : (zfs (zsF h a k x) c a)[j]? = none := List.getElem?_eq_none (by rw [zfs_len]; omega)
    have h2 : (zfs h c a)[j]? = none := List.getElem?_eq_none (by rw [zfs_len]; omega)
    rw [h1, h2, zfs_len]
    by_cases hjk : k = j
    · subst hjk; simp [hj]
    · simp [hjk]
section ZCELL
variable {p : Program} {l : Launch} {e : Env} {R : Room} {s : State} {m : MethodId} {args : Array Value} {below : List Frame} {meth : Method} {c : Code} {Q : State → Prop} {D : zD3} {base : Nat} {H0 : Heap} {M : zRec} {c0 n0 : Nat}
theorem zobj {h : zM} {a ci : Nat} {r : vw_C} {H : Heap} (hR : zRel D base s h H) (hc : zcls[ci]? = some r) (hk : zK h a = ci + 1) : ∃ b, a = b + 1 ∧ va_P (zDv D) zcls [(b, .inr (ci, zfs h ci a))] H ∧ base ≤ b := by
  rcases a with _ | b
  · have := hR.2.2.2.1; omega
  · refine ⟨b, rfl, fun k q hq => ?_, ?_⟩
    · have hz : k < 1 := (List.getElem?_eq_some_iff.mp hq).1
      rw [show k = 0 by omega] at hq
      cases hq
      exact (hR.2.2.1 b).1 ci hk (zcls_lt hc)
    · have h13 := zcls_lt hc
      rcases (hR.2.2.2.2.1 b (by omega)).2 with h1 | h1
      · omega
      · exact h1
theorem zs_get (C : zCx p s m args meth c R D base H0 M) {L : zL} {pc idx ci k ty : Nat} {cl : vw_C} {h : zM} {κ : List zV → Option zR} {st : List zV} {r : zR} (hd : decode (zMb M) pc = .ok (.getfield idx, 3))
    (hc : zcls[ci]? = some cl) (hk : k < cl.2.2) (hw : Cond.fieldLink (zMo M) idx cl.1 (cl.2.1 k).2.1 (cl.2.1 k).2.2.1 ∈ zgt) (hcl : (cl.2.1 k).1 = cl.1) (hty : zfk (ztyc ci k) = ty)
    (hr : zo_get h ci k ty κ st = some r) (hkk : ∀ st', κ st' = some r → zG p l e R s m args below meth c Q D base H0 M c0 n0 (pc + 3) L st' h) : zG p l e R s m args below meth c Q D base H0 M c0 n0 pc L st h := by
  intro ls H locs hS
  obtain ⟨C1, C2, C3, C4, C5, C6, C7, C8, C9⟩ := C
  obtain ⟨CN, T, N⟩ := cl
  have hn : k < zcn ci := by rw [zcn_of hc]; exact hk
  have key : ∀ (a : Nat) (rest : List zV), zK h a = ci + 1 → W p l e R s m args below meth c H locs (h.1.2.1 - c0) (h.1.2.2 - n0) Q (F0 m (pc + 3) ls (zfv h ci a k :: rest.map zval)) → W p l e R s m args below meth c H locs (h.1.2.1 - c0) (h.1.2.2 - n0) Q (F0 m pc ls (zval (.inr a) :: rest.map zval)) := by
    intro a rest ha hw2
    obtain ⟨b, rfl, hP, -⟩ := zobj hS.2.1 hc ha
    exact va_get C1 C2 C5 (zcls_in ci _ hc) C4 C6 hP 0 rfl hc k hk (C5 _ hw) (fun x hx => by rw [hcl] at hx; exact hx) (zfs_at hn) hd hw2
  unfold zo_get at hr
  split at hr
  · rename_i a rest
    split at hr
    · obtain ⟨x, hx, hr⟩ := Option.bind_eq_some_iff.mp hr
      unfold zgF at hx
      split at hx
      · rename_i ha
        cases hx
        refine key a rest ha ?_
        have := hkk _ hr ls H locs hS
        unfold zfv
        rw [hty]
        exact this
      · cases hx
    · rename_i hty1
      obtain ⟨x, hx, hr⟩ := Option.bind_eq_some_iff.mp hr
      unfold zgI at hx
      split at hx
      · rename_i ha
        cases hx
        refine key a rest ha ?_
        have := hkk _ hr ls H locs hS
        unfold zfv
        rw [hty]
        split
        · exact absurd rfl hty1
        · exact this
      · cases hx
  · cases hr
theorem zfk_int {t : FieldType} (h : zfk t = 0) : t = .int := by
  cases t <;> simp [zfk] at h ⊢
theorem zfk_bool {t : FieldType} (h : zfk t ≠ 0) (h1 : zfk t ≠ 1) : t = .boolean := by
  cases t <;> simp [zfk] at h h1 ⊢
theorem zs_put (C : zCx p s m args meth c R D base H0 M) {L : zL} {pc idx ci k ty : Nat} {cl : vw_C} {h : zM} {κ : List zV → zM → Option zR} {st : List zV} {r : zR} (hd : decode (zMb M) pc = .ok (.putfield idx, 3))
    (hc : zcls[ci]? = some cl) (hk : k < cl.2.2) (hw : Cond.fieldLink (zMo M) idx cl.1 (cl.2.1 k).2.1 (cl.2.1 k).2.2.1 ∈ zgt) (hcl : (cl.2.1 k).1 = cl.1) (hty : zfk (ztyc ci k) = ty) (hfin : (cl.2.1 k).2.2.2 = false ∨ ((zMy M).name = "<init>" ∧ (cl.2.1 k).1 = zMo M)) (hrefty : ty = 1 → (∃ n, ztyc ci k = .object n) ∨ ∃ t, ztyc ci k = .array t)
    (hr : zo_put h ci k ty κ st = some r) (hkk : ∀ st' h', zge h h' → κ st' h' = some r → zG p l e R s m args below meth c Q D base H0 M c0 n0 (pc + 3) L st' h') : zG p l e R s m args below meth c Q D base H0 M c0 n0 pc L st h := by
  intro ls H locs hS
  obtain ⟨C1, C2, C3, C4, C5, C6, C7, C8, C9⟩ := C
  obtain ⟨CN, T, N⟩ := cl
  have hn : k < zcn ci := by rw [zcn_of hc]; exact hk
  obtain ⟨tyok, nmok⟩ := zcls_ty ci _ hc
  -- the row, for any value that fits
  have key : ∀ (a : Nat) (v : Value) (h' : zM) (rest : List Value), zK h a = ci + 1 → narrow (ztyc ci k) v = v → fits (ztyc ci k) v = true → h'.1 = h.1 → h'.2.1 = h.2.1 → (∀ b, b ≠ a → h'.2.2.1 b = h.2.2.1 b) → (∀ b, b ≠ a → h'.2.2.2 b = h.2.2.2 b) → zfs h' ci a = (zfs h ci a).set k v → (∀ (H1 : Heap) (locs1 : List Loc), zSt D base s H0 (zMl M) L h' ls H1 locs1 → W p l e R s m args below meth c H1 locs1 (h'.1.2.1 - c0) (h'.1.2.2 - n0) Q (F0 m (pc + 3) ls rest)) → W p l e R s m args below meth c H locs (h.1.2.1 - c0) (h.1.2.2 - n0) Q (F0 m pc ls (v :: zval (.inr a) :: rest)) := by
    intro a v h' rest ha hnar hfit e0 e1 e2 e3 efs kk
    have hnx : h'.1.1 = h.1.1 := by rw [e0]
    obtain ⟨b, rfl, hP, hbase⟩ := zobj hS.2.1 hc ha
    have hap := va_apart (own := zMo M) C5 (zcls_in ci _ hc) (ztyc ci) tyok nmok C6 hc
    obtain ⟨r', h1, cell, q1, q2, q3, q4⟩ := hP 0 _ rfl
    have hr' : r' = (CN, T, N) := Option.some.inj (h1.symm.trans hc)
    subst hr'
    obtain ⟨hSl, hfc, kC, hkC, hkind⟩ := C6.1 ci _ hc
    obtain ⟨cf, kf, fi, f, hi, hsl⟩ := hSl k hk
    have hlays := u_lays C5 (zcls_in ci _ hc) hk
    have hst := (u_facts hfc hkC hlays hi).1
    have hsame : s.fieldFound? CN (T k).2.1 (T k).2.2.1 = some (cf, kf, fi, f) := by rw [← show (T k).1 = CN from hcl]; exact hi
    have fin : ∀ H' : Heap, H'[b]? = some (cell.setSlot f.slot v) → H'.size = H.size → (∀ q, q ≠ b → H'[q]? = H[q]?) → W p l e R s m args below meth c H' (locs ++ [⟨b, f.slot⟩]) (h.1.2.1 - c0) (h.1.2.2 - n0) Q (F0 m (pc + 3) ls rest) := by
      intro H' g1 g2 g3
      rw [hsl] at g1
      have hW := kk H' (locs ++ [⟨b, f.slot⟩]) ⟨hS.1, ?_, hS.2.2.put g2 g3 hbase⟩
      · rw [e0] at hW
        exact hW
      · refine hS.2.1.set g2 g3 hnx e1 e2 e3 ?_
        have ek : zK h' (b + 1) = ci + 1 := by unfold zK; rw [e1]; exact ha
        refine ⟨fun c' hc' hlt => ?_, fun t ht h3 => ?_, fun t ht h3 h4 => ?_, fun ht => ?_⟩
        · have : c' = ci := by omega
          subst this
          rw [efs]
          exact ⟨_, hc, t_OB.to (V := updV (vp_V (zfs h c' (b + 1))) k v) ⟨_, g1, q2, q3, t_set q4 hap hk v⟩ (fun j _ => vp_updV_set (by rw [zfs_len]; exact hn) v j)⟩
        · have := zcls_lt hc; omega
        · have := zcls_lt hc; omega
        · have := zcls_lt hc; omega
    rcases Bool.eq_false_or_eq_true (T k).2.2.2 with hf | hf
    · rcases hfin with h9 | ⟨h9, h10⟩
      · exact absurd (hf.symm.trans h9) (by decide)
      · have hlay := C5 _ (zcls_in ci _ hc _ (u_in_lay hk))
        unfold u_lay at hlay
        rw [if_pos hf] at hlay
        have hcf : m.cls = cf := by
          obtain ⟨_, _, c', _, _, _, -, -, hf', -, -, -, hown2, -⟩ := Cond.laysFinal_spec hlay
          have e1 : c' = cf := by have := hi.symm.trans hf'; simp at this; exact this.1.symm
          rw [show (T k).1 = zMo M from h10] at hown2
          rw [← e1]; exact Option.some.inj (C4.symm.trans hown2)
        have h6 := u_fits hfc hkC hkind (Or.inr hlay) hi (tyok k hk) hnar hfit
        exact W.putFinK C1 C2 C4 (C5 _ hw) hsame hst hcf (C7 h9) (by rw [q2]; exact h6) q1 q3 (by rw [hsl]; exact k2_hasslot (q4 k hk)) rfl rfl hd fin
    · have hlay := C5 _ (zcls_in ci _ hc _ (u_in_lay hk))
      unfold u_lay at hlay
      rw [if_neg (by rw [hf]; decide)] at hlay
      have h6 := u_store hfc hkC hkind hlay hi (tyok k hk) hnar hfit
      exact W.putK C1 C2 (f := f) ⟨C4, C5 _ hw, ⟨_, _, _, hsame⟩, hst⟩ (by rw [q2]; exact h6) q1 q3 (by rw [hsl]; exact k2_hasslot (q4 k hk)) rfl rfl hd fin
  unfold zo_put at hr
  split at hr
  · split at hr
    · rename_i x a rest
      obtain ⟨h', hx, hr⟩ := Option.bind_eq_some_iff.mp hr
      unfold zpF at hx
      split at hx
      · rename_i ha
        cases hx
        refine key a _ (zsF h a k x) _ ha ?_ ?_ rfl rfl (fun _ _ => rfl) (fun b hb => va_up_ne _ _ hb) (zfs_setF hty) (fun H1 locs1 hS1 => hkk _ (zsF h a k x) ⟨Nat.le_refl _, Nat.le_refl _⟩ hr ls H1 locs1 hS1)
        · rcases hrefty rfl with ⟨n, q⟩ | ⟨n, q⟩ <;> rw [q] <;> rcases x with _ | x <;> rfl
        · rcases hrefty rfl with ⟨n, q⟩ | ⟨n, q⟩ <;> rw [q] <;> rcases x with _ | x <;> rfl
      · cases hx
    · cases hr
  · split at hr
    · rename_i x a rest
      obtain ⟨h', hx, hr⟩ := Option.bind_eq_some_iff.mp hr
      unfold zpI at hx
      split at hx
      · rename_i ha
        cases hx
        have ht := zfk_int hty
        refine key a _ (zsI h a k x) _ ha (by rw [ht]; rfl) (by rw [ht]; rfl) rfl rfl (fun b hb => va_up_ne _ _ hb) (fun _ _ => rfl) (zfs_setI (by rw [hty]; decide)) (fun H1 locs1 hS1 => hkk _ (zsI h a k x) ⟨Nat.le_refl _, Nat.le_refl _⟩ hr ls H1 locs1 hS1)
      · cases hx
    · cases hr
  · rename_i hy1 hy0
    split at hr
    · rename_i x a rest
      obtain ⟨h', hx, hr⟩ := Option.bind_eq_some_iff.mp hr
      unfold zpZ at hx
      split at hx
      · rename_i ha
        cases hx
        have ht := zfk_bool (by rw [hty]; exact hy0) (by rw [hty]; exact hy1)
        refine key a _ (zsI h a k x) _ ha.1 ?_ ?_ rfl rfl (fun b hb => va_up_ne _ _ hb) (fun _ _ => rfl) (zfs_setI (by rw [hty]; exact hy1)) (fun H1 locs1 hS1 => hkk _ (zsI h a k x) ⟨Nat.le_refl _, Nat.le_refl _⟩ hr ls H1 locs1 hS1)
        · rw [ht]
          rcases ha.2 with q | q <;> subst q <;> rfl
        · rw [ht]
          rcases ha.2 with q | q <;> subst q <;> rfl
      · cases hx
    · cases hr
end ZCELL
