/-! The class Least: parts, numbers, the whole. -/
section LNB
variable {h h' : zM} {x y : Nat} {M : zMa}
theorem s_part (g : sGood M) (hxy : x + 1818 ≤ y) (d : LQ h x y M) : ∃ h', zf nX1_part [.inr y] h = some (0, 0, h') ∧ zFr (y + 405) (y + 407) h h' ∧ LQ h' x y M ∧ BL h' (y + 405) (lsN M) (lsB M) := by
  have hn : lsN M ≤ 100 := g.2.2.2
  have loop2 : ∀ (f i : Nat) (c : Bool) (z : zM), f + i = 102 → zFr (y + 405) (y + 407) h z → LQ z x y M → BL z (y + 405) (lsN M) (pSeq (lsE M) (lsW M) i) → (c = false → ∀ s, s < lsN M → pSeq (lsE M) (lsW M) i s = pFin (lsE M) (lsW M) s) →
      ∃ h', zm_X1_part 52 [some (.inr y), some (.inl (bI c)), some (.inl (nI i))] [] z = some (0, 0, h') ∧ zFr (y + 405) (y + 407) h h' ∧ LQ h' x y M ∧ BL h' (y + 405) (lsN M) (lsB M) := by
    intro f
    induction f with
    | zero =>
      intro i c z hf fr dz bz hc
      have hi : i = 102 := by omega
      subst hi
      refine ⟨z, ?_, fr, dz, fun s hs => ?_⟩
      · rw [e_X1_part_52]
        cases c with
        | false => rw [if_pos (show bI false = 0 from rfl)]
        | true => rw [if_neg (show ¬ bI true = 0 by decide), if_pos (by decide)]
      · rw [bz s hs, pFin_of (lsW_lt g) hn (Or.inr (by omega)) s hs]
        rfl
    | succ f ih =>
      intro i c z hf fr dz bz hc
      have k := pSeq_ok (n := lsN M) (E := lsE M) (W := lsW M) i
      rw [e_X1_part_52]
      cases c with
      | false =>
        rw [if_pos (show bI false = 0 from rfl)]
        refine ⟨z, rfl, fr, dz, fun s hs => ?_⟩
        rw [bz s hs, hc rfl s hs]
        rfl
      | true =>
        rw [if_neg (show ¬ bI true = 0 by decide)]
        by_cases c100 : 100 < i
        · rw [if_pos (by rw [n100, nI_ltI (by omega) (by omega)]; exact c100)]
          refine ⟨z, rfl, fr, dz, fun s hs => ?_⟩
          rw [bz s hs, pFin_of (lsW_lt g) hn (Or.inr (by omega)) s hs]
          rfl
        · obtain ⟨z1, c1, r1, r2, r3, r4, r5⟩ := s_refine g hxy dz bz (fun s hs => by have := (k.1 s hs).1; omega)
          rw [if_neg (by rw [n100, nI_ltI (by omega) (by omega)]; exact c100), zif_ok dz.1.2.2.1.1.1, r1, Option.bind_some]
          dsimp only
          rw [nI_1]
          refine ih (i + 1) c1 z1 (by omega) (fr.tr r2) r3 r4 (fun hcf s hs => ?_)
          have st : ∀ s, s < lsN M → pSeq (lsE M) (lsW M) i s = pSeq (lsE M) (lsW M) (i + 1) s := r5 hcf
          rw [← st s hs]
          exact pFin_of (lsW_lt g) hn (Or.inl st) s hs
  have loop1 : ∀ (f s : Nat) (z : zM), f + s = lsN M → zFr (y + 405) (y + 407) h z → LQ z x y M → BL z (y + 405) s (pB0 (lsE M) (lsW M)) →
      ∃ h', zm_X1_part 2 [some (.inr y), some (.inl (nI s)), none] [] z = some (0, 0, h') ∧ zFr (y + 405) (y + 407) h h' ∧ LQ h' x y M ∧ BL h' (y + 405) (lsN M) (lsB M) := by
    intro f
    induction f with
    | zero =>
      intro s z hf fr dz bz
      have hs : s = lsN M := by omega
      subst hs
      have Y := dz.1.2.2.1
      rw [e_X1_part_2, Y.g2, Option.bind_some, dz.1.gl, Option.bind_some, if_neg (by rw [nI_ltI (by omega) (by omega)]; omega)]
      exact loop2 102 0 true z rfl fr dz bz (fun q => by cases q)
    | succ f ih =>
      intro s z hf fr dz bz
      have hs : s < lsN M := by omega
      have hs100 : s < 100 := by omega
      have Y := dz.1.2.2.1
      rw [e_X1_part_2, Y.g2, Option.bind_some, dz.1.gl, Option.bind_some, if_pos ((nI_ltI (by omega) (by omega)).mpr hs)]
      have hle : pB0 (lsE M) (lsW M) s ≤ s := fstS_le _ _
      have key : zm_X1_part 15 [some (.inr y), some (.inl (nI s)), some (.inl (nI 0))] [] z = zm_X1_part 2 [some (.inr y), some (.inl (nI (s + 1))), none] [] (zsI z (y + 405) s (nI (pB0 (lsE M) (lsW M) s))) := by
        have wr : ∀ f, pB0 (lsE M) (lsW M) s = f → ((zgF z y 1 7).bind fun r2 => (zis z r2 (nI s) (nI f)).bind fun h2 => zm_X1_part 2 [some (.inr y), some (.inl (nI s + (1 : Int32))), none] [] h2) = zm_X1_part 2 [some (.inr y), some (.inl (nI (s + 1))), none] [] (zsI z (y + 405) s (nI (pB0 (lsE M) (lsW M) s))) := by
          rintro f rfl
          rw [Y.g7, Option.bind_some, Y.w (j := 405) (by omega) hs100, Option.bind_some, nI_1]
        refine zlq (P := fun f z' => z' = z ∧ f ≤ s ∧ ∀ i, i < f → wAl (lsE M) (lsW M) i s = false) (g := fun f z' => zm_X1_part 15 [some (.inr y), some (.inl (nI s)), some (.inl (nI f))] [] z') (n := s) (Q := fun o => o = zm_X1_part 2 [some (.inr y), some (.inl (nI (s + 1))), none] [] (zsI z (y + 405) s (nI (pB0 (lsE M) (lsW M) s)))) ?_ ?_ 0 z (Nat.zero_le _) ⟨rfl, Nat.zero_le _, fun i hi => absurd hi (Nat.not_lt_zero _)⟩
        · rintro f z' hfs ⟨rfl, hf1, hi⟩
          rw [e_X1_part_15, if_pos ((nI_ltI (by omega) (by omega)).mpr hfs), zif_ok Y.1.1, s_writeAlike g dz (by omega) hs, Option.bind_some]
          dsimp only
          cases eg : wAl (lsE M) (lsW M) f s with
          | true =>
            left
            rw [if_neg (show ¬ bI true = 0 by decide)]
            exact wr f (fstS_eq (fun _ => eg) hf1 hi)
          | false =>
            right
            rw [if_pos (show bI false = 0 from rfl), nI_1]
            refine ⟨z', rfl, rfl, hfs, fun i hi2 => ?_⟩
            by_cases q : i = f
            · rw [q]; exact eg
            · exact hi i (by omega)
        · rintro z' ⟨rfl, -, hi⟩
          rw [e_X1_part_15, if_neg (by rw [nI_ltI (by omega) (by omega)]; omega)]
          exact wr s (fstS_eq (fun q => absurd q (Nat.lt_irrefl _)) (Nat.le_refl _) hi)
      refine Eq.mpr (congrArg (fun o => ∃ h', o = some (0, 0, h') ∧ zFr (y + 405) (y + 407) h h' ∧ LQ h' x y M ∧ BL h' (y + 405) (lsN M) (lsB M)) key) ?_
      have f2 : zFr (y + 405) (y + 405 + 1) z (zsI z (y + 405) s (nI (pB0 (lsE M) (lsW M) s))) := zFr_sI (by omega) (by omega)
      refine ih (s + 1) _ (by omega) (fr.tr (f2.wide (by omega) (by omega))) (dz.int hn hxy f2 (by omega)) (fun t ht => ?_)
      by_cases e : t = s
      · rw [e, zI_sI]
      · rw [zI_sI_k e]
        exact bz t (by omega)
  rw [e_X1_part]
  exact loop1 (lsN M) 0 h rfl zFr.rf d (fun t ht => absurd ht (Nat.not_lt_zero _))
/-- numbers so far -/
def NI (h : zM) (y n : Nat) (B : Nat → Nat) (P : List Nat) : Prop := zI h y 0 = nI P.length ∧ (∀ c, c < n → zI h (y + 407) c = if c ∈ P then nI (fdx (fun e => decide (e = c)) P) else -1) ∧ ∀ q, q < P.length → ∃ s, s < n ∧ zI h (y + 408) q = nI s ∧ B s = P.getD q 0
theorem fdx_mem {c : Nat} : ∀ {P : List Nat}, c ∈ P → fdx (fun e => decide (e = c)) P < P.length
  | [], h => absurd h (by simp)
  | a :: l, h => by
    unfold fdx
    by_cases e : a = c
    · rw [if_pos (by simp [e])]
      exact Nat.succ_pos _
    · rw [if_neg (by simp [e])]
      have : c ∈ l := by
        rcases List.mem_cons.mp h with q | q
        · exact absurd q.symm e
        · exact q
      exact Nat.succ_lt_succ (fdx_mem this)
theorem fdx_app {c : Nat} (t : List Nat) : ∀ {P : List Nat}, c ∈ P → fdx (fun e => decide (e = c)) (P ++ t) = fdx (fun e => decide (e = c)) P
  | [], h => absurd h (by simp)
  | a :: l, h => by
    rw [List.cons_append]
    unfold fdx
    by_cases e : a = c
    · rw [if_pos (by simp [e]), if_pos (by simp [e])]
    · rw [if_neg (by simp [e]), if_neg (by simp [e])]
      have : c ∈ l := by
        rcases List.mem_cons.mp h with q | q
        · exact absurd q.symm e
        · exact q
      rw [fdx_app t this]
theorem fdx_new {c : Nat} : ∀ {P : List Nat}, c ∉ P → fdx (fun e => decide (e = c)) (P ++ [c]) = P.length
  | [], _ => by simp [fdx]
  | a :: l, h => by
    rw [List.cons_append]
    unfold fdx
    rw [if_neg (by simp only [decide_eq_true_eq]; rintro rfl; exact h List.mem_cons_self), fdx_new (fun q => h (List.mem_cons_of_mem _ q)), List.length_cons]
theorem s_call {n s : Nat} {B : Nat → Nat} {P : List Nat} (hx : LQ h x y M) (hn : lsN M = n) (h100 : n ≤ 100) (hxy : x + 1818 ≤ y) (bl : BL h (y + 405) n B) (ni : NI h y n B P) (hB : ∀ s, s < n → B s < n) (hl : (nmAdd (B s) P).length ≤ n) (hs : s < n) :
    ∃ h', zf nX1_call [.inr y, .inl (nI s)] h = some (0, 0, h') ∧ zFr y (y + 409) h h' ∧ LQ h' x y M ∧ BL h' (y + 405) n B ∧ NI h' y n B (nmAdd (B s) P) ∧ zI h' y 1 = zI h y 1 := by
  have Y := hx.1.2.2.1
  have hb := hB s hs
  have kY := Y.1.1
  obtain ⟨n0, n1, n2⟩ := id ni
  have v := n1 (B s) hb
  rw [e_X1_call]
  simp only [Y.g7, Y.g9, Option.bind_some, Y.rd (j := 405) (by omega) (show s < 100 by omega), bl s hs, Y.rd (j := 407) (by omega) (show B s < 100 by omega), v]
  unfold nmAdd at hl ⊢
  by_cases c : B s ∈ P
  · have hf := fdx_mem c
    simp only [if_pos c] at hl ⊢
    rw [if_neg (nneg (by omega))]
    exact ⟨h, rfl, zFr.rf, hx, bl, ni, rfl⟩
  · simp only [if_neg c] at hl ⊢
    rw [List.length_append, List.length_singleton] at hl
    rw [if_true, zgI_ok kY, Option.bind_some, n0, if_pos (by rw [n100, nI_ltI (by omega) (by omega)]; omega)]
    have f1 : zFr (y + 407) (y + 407 + 1) h (zsI h (y + 407) (B s) (nI P.length)) := zFr_sI (by omega) (by omega)
    have Y1 := Y.keep f1
    have L1 := hx.int (by omega) hxy f1 (by omega)
    have f2 : zFr (y + 408) (y + 408 + 1) (zsI h (y + 407) (B s) (nI P.length)) (zsI (zsI h (y + 407) (B s) (nI P.length)) (y + 408) P.length (nI s)) := zFr_sI (by omega) (by omega)
    have Y2 := Y1.keep f2
    have L2 := L1.int (by omega) hxy f2 (by omega)
    have f3 : zFr y (y + 1) (zsI (zsI h (y + 407) (B s) (nI P.length)) (y + 408) P.length (nI s)) (zsI (zsI (zsI h (y + 407) (B s) (nI P.length)) (y + 408) P.length (nI s)) y 0 (nI (P.length + 1))) := zFr_sI (by omega) (by omega)
    have L3 := L2.int (by omega) hxy f3 (by omega)
    have i1 : zI (zsI h (y + 407) (B s) (nI P.length)) y 0 = nI P.length := (f1.I (by omega) 0).trans n0
    have i2 : zI (zsI (zsI h (y + 407) (B s) (nI P.length)) (y + 408) P.length (nI s)) y 0 = nI P.length := (f2.I (by omega) 0).trans i1
    simp only [Y.w (j := 407) (by omega) (show B s < 100 by omega), Option.bind_some, Y1.g10, zgI_ok Y1.1.1, i1, Y1.w (j := 408) (by omega) (show P.length < 100 by omega), zgI_ok Y2.1.1, i2, nI_1, zpI_ok Y2.1.1]
    refine ⟨_, rfl, (f1.wide (by omega) (by omega)).tr ((f2.wide (by omega) (by omega)).tr (f3.wide (by omega) (by omega))), L3, ((bl.keep f1 (by omega)).keep f2 (by omega)).keep f3 (by omega), ⟨?_, fun e he => ?_, fun q hq => ?_⟩, ?_⟩
    · rw [zI_sI, List.length_append]
      rfl
    · rw [f3.I (by omega), f2.I (by omega)]
      by_cases ec : e = B s
      · rw [ec, zI_sI, if_pos (by simp), fdx_new c]
      · rw [zI_sI_k ec, n1 e he]
        by_cases em : e ∈ P
        · rw [if_pos em, if_pos (List.mem_append_left _ em), fdx_app _ em]
        · rw [if_neg em, if_neg (by simp [em, ec])]
    · rw [f3.I (by omega)]
      rw [List.length_append, List.length_singleton] at hq
      by_cases eq : q = P.length
      · refine ⟨s, hs, by rw [eq, zI_sI], ?_⟩
        rw [eq, List.getD_eq_getElem?_getD, List.getElem?_append_right (Nat.le_refl _), Nat.sub_self]
        rfl
      · obtain ⟨s', a1, a2, a3⟩ := n2 q (by omega)
        refine ⟨s', a1, by rw [zI_sI_k eq, f1.I (by omega)]; exact a2, ?_⟩
        rw [List.getD_eq_getElem?_getD, List.getElem?_append_left (by omega), ← List.getD_eq_getElem?_getD]
        exact a3
    · rw [zI_sI_k (by omega), f2.I (by omega), f1.I (by omega)]
/-- how many arcs -/
noncomputable def lsA (M : zMa) : Nat := cntP (3 * (lsP M).length) (fun i => ((lsZ M).2.2.2 i).isSome)
theorem nmJ_map {B : Nat → Nat} {o o' : Option (zWo × Nat)} {P : List Nat} (e : o.map (fun p => (p.1, B p.2)) = o'.map (fun p => (p.1, B p.2))) : nmJ B o P = nmJ B o' P := by
  cases o with
  | none => cases o' with
    | none => rfl
    | some q => cases e
  | some p => cases o' with
    | none => cases e
    | some q =>
      have : B p.2 = B q.2 := congrArg Prod.snd (Option.some.inj e)
      show nmAdd (B p.2) P = nmAdd (B q.2) P
      rw [this]
/-- the class's least machine -/
def LF (h : zM) (x y : Nat) (M : zMa) : Prop := LQ h x y M ∧ BL h (y + 405) (lsN M) (lsB M) ∧ NI h y (lsN M) (lsB M) (lsP M) ∧ zI h y 1 = nI (lsA M)
theorem nmK_3 {B : Nat → Nat} {W : Nat → Option (zWo × Nat)} {r : Nat} {P : List Nat} : (List.range 3).foldl (fun P j => nmJ B (W (3 * r + j)) P) P = nmStep B W r P := rfl
theorem getD_pre {P t : List Nat} {q : Nat} (h : q < P.length) : (P ++ t).getD q 0 = P.getD q 0 := by
  rw [List.getD_eq_getElem?_getD, List.getElem?_append_left h, ← List.getD_eq_getElem?_getD]
theorem s_number_in {q : Nat} {P : List Nat} (g : sGood M) (hxy : x + 1818 ≤ y) (d : LQ h x y M) (bl : BL h (y + 405) (lsN M) (lsB M)) (ni : NI h y (lsN M) (lsB M) P) (ok : nmOk (lsN M) (lsB M) P) (hq : q < P.length) (hr : (lsP M).getD q 0 = P.getD q 0) (ha : zI h y 1 = nI (cntP (3 * q) (fun i => ((lsZ M).2.2.2 i).isSome))) :
    ∃ h', zm_X1_number 51 [some (.inr y), some (.inl (nI q)), some (.inl (nI 0)), none] [] h = zm_X1_number 35 [some (.inr y), some (.inl (nI (q + 1))), none, none] [] h' ∧ zFr y (y + 409) h h' ∧ LQ h' x y M ∧ BL h' (y + 405) (lsN M) (lsB M) ∧ NI h' y (lsN M) (lsB M) (nmStep (lsB M) (lsW M) (P.getD q 0) P) ∧ zI h' y 1 = nI (cntP (3 * (q + 1)) (fun i => ((lsZ M).2.2.2 i).isSome)) := by
  have hn : lsN M ≤ 100 := g.2.2.2
  have hB := (lsB_ok g).1
  have hlt := lsW_lt g
  have hPl := nodup_len _ _ ok.1 (fun c hc => (ok.2 c hc).1)
  have hmem : P.getD q 0 ∈ P := by
    rw [List.getD_eq_getElem?_getD, List.getElem?_eq_getElem hq]
    exact List.getElem_mem hq
  generalize hrr : P.getD q 0 = r at *
  obtain ⟨r1, r2⟩ := ok.2 r hmem
  have main := zlp (P := fun k z => zFr y (y + 409) h z ∧ LQ z x y M ∧ BL z (y + 405) (lsN M) (lsB M) ∧ NI z y (lsN M) (lsB M) ((List.range k).foldl (fun P j => nmJ (lsB M) (lsW M (3 * r + j)) P) P) ∧ nmOk (lsN M) (lsB M) ((List.range k).foldl (fun P j => nmJ (lsB M) (lsW M (3 * r + j)) P) P) ∧ (∃ t, (List.range k).foldl (fun P j => nmJ (lsB M) (lsW M (3 * r + j)) P) P = P ++ t) ∧ zI z y 1 = nI (cntP (3 * q + k) (fun i => ((lsZ M).2.2.2 i).isSome))) (g := fun k z => zm_X1_number 51 [some (.inr y), some (.inl (nI q)), some (.inl (nI k)), none] [] z) (n := 3) ?_ 0 h (Nat.zero_le _) ⟨zFr.rf, d, bl, ni, ok, ⟨[], (List.append_nil _).symm⟩, ha⟩
  · obtain ⟨h', e1, e2, e3, e4, e5, e6, e7, e8⟩ := main
    refine ⟨h', e1.trans ?_, e2, e3, e4, e5, e8⟩
    rw [e_X1_number_51, if_neg (by decide), nI_1]
  · rintro k z hk ⟨fr, dz, bz, nz, okz, ⟨t, et⟩, az⟩
    rw [List.range_succ, List.foldl_append]
    have hst : ([k] : List Nat).foldl (fun P j => nmJ (lsB M) (lsW M (3 * r + j)) P) ((List.range k).foldl (fun P j => nmJ (lsB M) (lsW M (3 * r + j)) P) P) = nmJ (lsB M) (lsW M (3 * r + k)) ((List.range k).foldl (fun P j => nmJ (lsB M) (lsW M (3 * r + j)) P) P) := rfl
    rw [hst]
    generalize (List.range k).foldl (fun P j => nmJ (lsB M) (lsW M (3 * r + j)) P) P = Q at *
    have hqQ : q < Q.length := by rw [et, List.length_append]; omega
    obtain ⟨s, s1, s2, s3⟩ := nz.2.2 q hqQ
    have hQq : Q.getD q 0 = r := by rw [et, getD_pre hq]; exact hrr
    rw [hQq] at s3
    have hw := pFin_way hlt hn s1 r1 (show pFin (lsE M) (lsW M) s = pFin (lsE M) (lsW M) r from (s3.trans r2.symm)) hk
    have hw2 : (lsW M (3 * s + k)).map (fun p => (p.1, lsB M p.2)) = (lsW M (3 * r + k)).map (fun p => (p.1, lsB M p.2)) := hw
    have hZ : ((lsZ M).2.2.2 (3 * q + k)).isSome = (lsW M (3 * s + k)).isSome := by
      rw [lsZ_W, show (3 * q + k) / 3 = q by omega, show (3 * q + k) % 3 = k by omega, hr, Option.isSome_map]
      have := congrArg Option.isSome hw2
      rw [Option.isSome_map, Option.isSome_map] at this
      exact this.symm
    have hc : cntP (3 * q + (k + 1)) (fun i => ((lsZ M).2.2.2 i).isSome) = cntP (3 * q + k) (fun i => ((lsZ M).2.2.2 i).isSome) + (if (lsW M (3 * s + k)).isSome = true then 1 else 0) := by
      rw [show 3 * q + (k + 1) = (3 * q + k) + 1 by omega, cntP_succ, hZ]
    have Y := dz.1.2.2.1
    have X := dz.1.1.1
    have h100 : q < 100 := by omega
    have is : nI s * 3 + nI k = nI (3 * s + k) := by
      rw [n3, pk_mul, nI_add]
      exact congrArg nI (by omega)
    rw [e_X1_number_51, if_pos (lt3 hk)]
    simp only [Y.g2, X.g3, Y.g10, Option.bind_some, Y.rd (j := 408) (by omega) h100, s2, is, dz.1.gt (i := 3 * s + k) (by omega), nI_1]
    cases e1 : lsW M (3 * s + k) with
    | none =>
      have g1 := dz.2.2.2.none (by omega) e1
      have e2 : nmJ (lsB M) (lsW M (3 * r + k)) Q = Q := by rw [← nmJ_map hw2, e1]; rfl
      rw [e1] at hc
      rw [g1.1, if_pos rfl, e2]
      exact ⟨z, rfl, fr, dz, bz, nz, okz, ⟨t, et⟩, by rw [hc]; exact az⟩
    | some p =>
      have g1 := dz.2.2.2.some (by omega) e1
      have hp := hlt _ _ e1
      have e2 : nmJ (lsB M) (lsW M (3 * r + k)) Q = nmAdd (lsB M p.2) Q := by rw [← nmJ_map hw2, e1]; rfl
      have ok2 := nmJ_ok hB (o := some p) (fun p' e => by cases e; exact hp) okz
      have ok3 : nmOk (lsN M) (lsB M) (nmAdd (lsB M p.2) Q) := ok2
      rw [e1] at hc
      rw [g1.1, if_neg (nneg (by omega)), zgI_ok Y.1.1, Option.bind_some, az, nI_1, zpI_ok Y.1.1, Option.bind_some]
      have f1 : zFr y (y + 1) z (zsI z y 1 (nI (cntP (3 * q + k) (fun i => ((lsZ M).2.2.2 i).isSome) + 1))) := zFr_sI (by omega) (by omega)
      have d1 := dz.int hn hxy f1 (by omega)
      have ni1 : NI (zsI z y 1 (nI (cntP (3 * q + k) (fun i => ((lsZ M).2.2.2 i).isSome) + 1))) y (lsN M) (lsB M) Q := ⟨by rw [zI_sI_k (by omega)]; exact nz.1, fun c hc => by rw [f1.I (by omega)]; exact nz.2.1 c hc, fun q' hq' => by rw [f1.I (by omega)]; exact nz.2.2 q' hq'⟩
      rw [zif_ok d1.1.2.2.1.1.1]
      obtain ⟨h', c1, c2, c3, c4, c5, c6⟩ := s_call d1 rfl hn hxy (bz.keep f1 (by omega)) ni1 (fun s hs => by have := (hB s hs).1; omega) (nodup_len _ _ ok3.1 (fun c hc => (ok3.2 c hc).1)) hp
      rw [c1, Option.bind_some, e2]
      refine ⟨h', rfl, fr.tr ((f1.wide (Nat.le_refl _) (by omega)).tr c2), c3, c4, c5, ok3, ?_, ?_⟩
      · obtain ⟨t2, et2⟩ := nmAdd_pre (lsB M p.2) Q
        exact ⟨t ++ t2, by rw [et2, et, List.append_assoc]⟩
      · rw [c6, zI_sI, hc]
        rfl
theorem nmSeq_get {n q i : Nat} {B : Nat → Nat} {W : Nat → Option (zWo × Nat)} (hq : q ≤ 100) (hi : i < (nmSeq n B W q).length) : (nmP n B W).getD i 0 = (nmSeq n B W q).getD i 0 := by
  rw [List.getD_eq_getElem?_getD, List.getD_eq_getElem?_getD]
  have := qSeq_get (st := nmStep B W) (s0 := if n = 0 then [] else [0]) (nmStep_pre B W) hq hi
  unfold nmP nmSeq
  rw [this]
theorem s_Lnumber (g : sGood M) (hxy : x + 1818 ≤ y) (d : LQ h x y M) (bl : BL h (y + 405) (lsN M) (lsB M)) : ∃ h', zf nX1_number [.inr y] h = some (0, 0, h') ∧ zFr y (y + 409) h h' ∧ LF h' x y M := by
  have hn : lsN M ≤ 100 := g.2.2.2
  have hB := (lsB_ok g).1
  have hlt := lsW_lt g
  have loop : ∀ (f q : Nat) (z : zM), f + q = 100 → zFr y (y + 409) h z → LQ z x y M → BL z (y + 405) (lsN M) (lsB M) → NI z y (lsN M) (lsB M) (nmSeq (lsN M) (lsB M) (lsW M) q) → q ≤ (nmSeq (lsN M) (lsB M) (lsW M) q).length → zI z y 1 = nI (cntP (3 * q) (fun i => ((lsZ M).2.2.2 i).isSome)) →
      ∃ h', zm_X1_number 35 [some (.inr y), some (.inl (nI q)), none, none] [] z = some (0, 0, h') ∧ zFr y (y + 409) h h' ∧ LF h' x y M := by
    intro f
    induction f with
    | zero =>
      intro q z hf fr dz bz nz hql az
      have hq : q = 100 := by omega
      subst hq
      have Y := dz.1.2.2.1
      have hl := nmSeq_len hB hlt 100
      rw [e_X1_number_35, zgI_ok Y.1.1, Option.bind_some, nz.1, if_neg (by rw [nI_ltI (by omega) (by omega)]; omega)]
      have hP : lsP M = nmSeq (lsN M) (lsB M) (lsW M) 100 := rfl
      have hlen : (lsP M).length = 100 := by rw [hP]; omega
      refine ⟨z, rfl, fr, dz, bz, nz, ?_⟩
      unfold lsA
      rw [hlen]
      exact az
    | succ f ih =>
      intro q z hf fr dz bz nz hql az
      have Y := dz.1.2.2.1
      have hl := nmSeq_len hB hlt q
      rw [e_X1_number_35, zgI_ok Y.1.1, Option.bind_some, nz.1]
      by_cases c : q < (nmSeq (lsN M) (lsB M) (lsW M) q).length
      · rw [if_pos ((nI_ltI (by omega) (by omega)).mpr c), if_pos (by rw [n100, nI_ltI (by omega) (by omega)]; omega)]
        have hget := nmSeq_get (n := lsN M) (B := lsB M) (W := lsW M) (show q ≤ 100 by omega) c
        obtain ⟨z1, r1, r2, r3, r4, r5, r6⟩ := s_number_in g hxy dz bz nz (nmSeq_ok hB hlt q) c hget az
        have est : nmSeq (lsN M) (lsB M) (lsW M) (q + 1) = nmStep (lsB M) (lsW M) ((nmSeq (lsN M) (lsB M) (lsW M) q).getD q 0) (nmSeq (lsN M) (lsB M) (lsW M) q) := by
          refine qSeq_some (st := nmStep (lsB M) (lsW M)) ?_
          show (nmSeq (lsN M) (lsB M) (lsW M) q)[q]? = _
          rw [List.getD_eq_getElem?_getD, List.getElem?_eq_getElem c]
          rfl
        rw [← est] at r5
        have hl2 := qSeq_len (st := nmStep (lsB M) (lsW M)) (s0 := if lsN M = 0 then [] else [0]) (nmStep_pre (lsB M) (lsW M)) (Nat.le_succ q)
        have hl3 : (nmSeq (lsN M) (lsB M) (lsW M) q).length ≤ (nmSeq (lsN M) (lsB M) (lsW M) (q + 1)).length := hl2
        obtain ⟨h', w1, w2⟩ := ih (q + 1) z1 (by omega) (fr.tr r2) r3 r4 r5 (by omega) r6
        exact ⟨h', r1.trans w1, w2⟩
      · have hql2 : q = (nmSeq (lsN M) (lsB M) (lsW M) q).length := by omega
        rw [if_neg (by rw [nI_ltI (by omega) (by omega)]; exact c)]
        have hP : lsP M = nmSeq (lsN M) (lsB M) (lsW M) q := qSeq_stop2 (st := nmStep (lsB M) (lsW M)) (s0 := if lsN M = 0 then [] else [0]) (show (nmSeq (lsN M) (lsB M) (lsW M) q).length ≤ q by omega) (show q ≤ 100 by omega)
        refine ⟨z, rfl, fr, dz, bz, by rw [hP]; exact nz, ?_⟩
        unfold lsA
        rw [hP, ← hql2]
        exact az
  have Y := d.1.2.2.1
  have f1 : zFr y (y + 1) h (zsI h y 0 0) := zFr_sI (by omega) (by omega)
  have f2 : zFr y (y + 1) (zsI h y 0 0) (zsI (zsI h y 0 0) y 1 0) := zFr_sI (by omega) (by omega)
  have d1 := d.int hn hxy f1 (by omega)
  have d2 := d1.int hn hxy f2 (by omega)
  have Y2 := d2.1.2.2.1
  have k7 := Y2.k (j := 407) (by omega)
  rw [e_X1_number, zpI_ok Y.1.1, Option.bind_some, zpI_ok d1.1.2.2.1.1.1, Option.bind_some, Y2.g9, Option.bind_some]
  obtain ⟨h3, a1, a2, a3⟩ := s_fill k7.1 k7.2 (by omega) (-1)
  have d3 := d2.int hn hxy a2 (by omega)
  have b3 := ((bl.keep f1 (by omega)).keep f2 (by omega)).keep a2 (by omega)
  have Y3 := d3.1.2.2.1
  have i0 : zI h3 y 0 = nI 0 := by rw [a2.I (by omega), zI_sI_k (by omega), zI_sI]; rfl
  have i1 : zI h3 y 1 = nI 0 := by rw [a2.I (by omega), zI_sI]; rfl
  have fr : zFr y (y + 409) h h3 := (f1.wide (by omega) (by omega)).tr ((f2.wide (by omega) (by omega)).tr (a2.wide (by omega) (by omega)))
  have ni0 : NI h3 y (lsN M) (lsB M) [] := ⟨i0, fun c hc => by rw [if_neg (by simp)]; exact a3 c (by omega), fun q hq => absurd hq (Nat.not_lt_zero _)⟩
  rw [a1, Option.bind_some]
  dsimp only
  rw [Y3.g2, Option.bind_some, d3.1.gl, Option.bind_some]
  by_cases c : 0 < lsN M
  · rw [if_pos (by rw [n0, nI_ltI (by omega) (by omega)]; exact c), zif_ok Y3.1.1]
    have hb0 : lsB M 0 = 0 := by have := (hB 0 c).1; omega
    obtain ⟨h4, c1, c2, c3, c4, c5, c6⟩ := s_call d3 rfl hn hxy b3 ni0 (fun s hs => by have := (hB s hs).1; omega) (by rw [hb0]; exact c) c
    rw [show zf nX1_call [.inr y, .inl (0 : Int32)] h3 = _ from c1, Option.bind_some]
    have e0 : nmSeq (lsN M) (lsB M) (lsW M) 0 = [0] := by
      show (if lsN M = 0 then [] else [0]) = [0]
      rw [if_neg (by omega)]
    obtain ⟨h', w1, w2, w3⟩ := loop 100 0 h4 rfl (fr.tr c2) c3 c4 (by rw [e0]; rw [hb0] at c5; exact c5) (Nat.zero_le _) (by rw [c6, i1]; rfl)
    exact ⟨h', w1, w2, w3⟩
  · rw [if_neg (by rw [n0, nI_ltI (by omega) (by omega)]; exact c)]
    have e0 : nmSeq (lsN M) (lsB M) (lsW M) 0 = [] := by
      show (if lsN M = 0 then [] else [0]) = []
      rw [if_pos (by omega)]
    obtain ⟨h', w1, w2, w3⟩ := loop 100 0 h3 rfl fr d3 b3 (by rw [e0]; exact ni0) (Nat.zero_le _) (by rw [i1]; rfl)
    exact ⟨h', w1, w2, w3⟩
theorem s_Lmake {A : Nat} (mM : MC h A M) (g : sGood M) (hA : A + 6 ≤ x ∨ y + 409 ≤ A) (hxy : x + 1818 ≤ y) (l : LI h x y M) : ∃ h', zf nX1_make [.inr y, .inr A] h = some (0, 0, h') ∧ zFr x (y + 409) h h' ∧ zEq (x + 1818) y h h' ∧ LF h' x y M := by
  have hn : lsN M ≤ 100 := g.2.2.2
  have main := zlp (P := fun s z => zFr y (y + 409) h z ∧ LI z x y M ∧ EN z y s (lsEn M)) (g := fun s z => zm_X1_make 2 [some (.inr y), some (.inr A), some (.inl (nI s))] [] z) (n := lsN M) ?_ 0 h (Nat.zero_le _) ⟨zFr.rf, l, fun s hs => absurd hs (Nat.not_lt_zero _)⟩
  · obtain ⟨h1, e1, f1, l1, en⟩ := main
    have Y1 := l1.2.1
    obtain ⟨h2, C, a1, a2, a3, a4, a5, a6⟩ := s_guessCommons g hxy l1 en
    obtain ⟨h3, b1, b2, b3, b4, b5⟩ := s_shortenCommons g hxy a3 a4 a5 a6
    obtain ⟨h4, c1, c2, c3, c4, c5, c6, c7⟩ := s_writeEarly g hxy b3 b4 b5
    obtain ⟨h5, d1, d2, d3, d4⟩ := s_part g hxy ⟨c4, c5, c6, c7⟩
    obtain ⟨h6, k1, k2, k3⟩ := s_Lnumber g hxy d3 d4
    refine ⟨h6, ?_, (f1.wide (by omega) (Nat.le_refl _)).tr ((a2.wide (by omega) (Nat.le_refl _)).tr ((b2.wide (by omega) (Nat.le_refl _)).tr (c2.tr ((d2.wide (by omega) (by omega)).tr (k2.wide (by omega) (Nat.le_refl _)))))), ?_, k3⟩
    · rw [e_X1_make]
      refine Eq.trans (show zm_X1_make 2 [some (.inr y), some (.inr A), some (.inl (0 : Int32))] [] h = _ from e1) ?_
      rw [e_X1_make_2, Y1.g2, Option.bind_some, l1.gl, Option.bind_some, if_neg (by rw [nI_ltI (by omega) (by omega)]; omega), zif_ok Y1.1.1, a1, Option.bind_some]
      dsimp only
      rw [zif_ok a3.2.1.1.1, b1, Option.bind_some]
      dsimp only
      rw [zif_ok b3.2.1.1.1, c1, Option.bind_some]
      dsimp only
      rw [zif_ok c4.2.2.1.1.1, d1, Option.bind_some]
      dsimp only
      rw [zif_ok d3.1.2.2.1.1.1, k1, Option.bind_some]
    · exact (f1.eq (by omega)).tr ((a2.eq (by omega)).tr ((b2.eq (by omega)).tr ((c3.sub (by omega) (by omega)).tr ((d2.eq (by omega)).tr (k2.eq (by omega))))))
  · rintro s z hs ⟨fr, lz, en⟩
    have Y := lz.2.1
    rw [e_X1_make_2, Y.g2, Option.bind_some, lz.gl, Option.bind_some, if_pos ((nI_ltI (by omega) (by omega)).mpr hs), zif_ok Y.1.1]
    obtain ⟨h', r1, r2, r3, r4, r5, r6⟩ := s_setEnd (mM.keep fr (by omega)) g (by omega) hxy lz hs
    rw [r1, Option.bind_some, nI_1]
    refine ⟨h', rfl, fr.tr r2, r3, fun t ht => ?_⟩
    by_cases e : t = s
    · rw [e]; exact ⟨r4, r5⟩
    · obtain ⟨q1, q2⟩ := r6 t e
      obtain ⟨w1, w2⟩ := en t (by omega)
      exact ⟨q1.trans w1, fun v ev => (w2 v ev).eq ((q2 (by omega)).sub (Nat.le_refl _) (by omega))⟩
end LNB
