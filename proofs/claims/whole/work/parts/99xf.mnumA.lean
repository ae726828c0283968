/-! The reference: the least machine's states and ways. -/
def LWy (h : zM) (m e : Nat) (g : Option (zWo × Nat)) : Prop := OWB h m 64 65 780 e (g.map (·.1)) ∧ zI h (m + 63) e = (match g with | none => -1 | some p => nI p.2)
def LOut (h h' : zM) (m e : Nat) : Prop := (∀ k, k ≠ e → zI h' (m + 63) k = zI h (m + 63) k ∧ zI h' (m + 64) k = zI h (m + 64) k) ∧ ∀ k, ¬ (780 * e ≤ k ∧ k < 780 * e + 780) → zI h' (m + 65) k = zI h (m + 65) k
theorem LOut.tr {h h1 h2 : zM} {m e : Nat} (a : LOut h h1 m e) (b : LOut h1 h2 m e) : LOut h h2 m e := ⟨fun j hj => ⟨((b.1 j hj).1).trans (a.1 j hj).1, ((b.1 j hj).2).trans (a.1 j hj).2⟩, fun k hk => (b.2 k hk).trans (a.2 k hk)⟩
theorem LOut.E {h h' : zM} {m e e' : Nat} {o : Option zWo} (d : OWB h m 64 65 780 e' o) (f : LOut h h' m e) (he : e' ≠ e) : OWB h' m 64 65 780 e' o := d.of (f.1 e' he).2 (fun j hj => f.2 _ (by omega))
theorem LOut.W {h h' : zM} {m e e' : Nat} {g : Option (zWo × Nat)} (d : LWy h m e' g) (f : LOut h h' m e) (he : e' ≠ e) : LWy h' m e' g := ⟨f.E d.1 he, (f.1 e' he).1.trans d.2⟩
theorem LWy.mk' {h : zM} {m e g : Nat} {w : zWo} (a : OWB h m 64 65 780 e (some w)) (b : zI h (m + 63) e = nI g) : LWy h m e (some (w, g)) := ⟨a, b⟩
theorem LWy.o {h h' : zM} {m e : Nat} {g : Option (zWo × Nat)} {L J : List Nat} (d : LWy h m e g) (f : zOf m L J h h') (h1 : 63 ∉ L ∧ 64 ∉ L ∧ 65 ∉ L) : LWy h' m e g := ⟨d.1.o f (by decide) h1.2.1 h1.2.2, (f.C (by decide) h1.1 _).trans d.2⟩
def NBs (h : zM) (m n : Nat) (P : List Nat) : Prop := zI h m 79 = nI P.length ∧ (∀ k, k < P.length → zI h (m + 70) k = nI (P.getD k 0)) ∧ ∀ c, c < n → zI h (m + 71) c = if c ∈ P then nI (fdx (fun e => decide (e = c)) P) else -1
theorem NBs.o {h h' : zM} {m n : Nat} {P : List Nat} {L J : List Nat} (d : NBs h m n P) (f : zOf m L J h h') (h1 : 70 ∉ L ∧ 71 ∉ L) (hJ : 79 ∉ J) : NBs h' m n P := ⟨(f.J hJ).trans d.1, fun k hk => (f.C (by decide) h1.1 _).trans (d.2.1 k hk), fun c hc => (f.C (by decide) h1.2 _).trans (d.2.2 c hc)⟩
abbrev Ln : List Nat := [63, 64, 65, 70, 71]
section NUM
variable {h h0 : zM} {m q r : Nat} {M : zMa} {a1 : Int32}
def oLn (o : Option zWo) : Nat := match o with
  | none => 0
  | some w => w.length
/-- what is written in full is copied -/
theorem s_l273 {l : Nat} {o : Option zWo} (lay : MLay h m) (hq : q < 101) (hr : r < 101) (hl : l < 4) (f : FUw h m (4 * r + l) o) :
    ∃ z, zm_X12_least 273 [some (.inr m), some (.inl a1), some (.inl (nI q)), some (.inl (nI r)), some (.inl (nI l)), none, none] [] h = zm_X12_least 308 [some (.inr m), some (.inl a1), some (.inl (nI q)), some (.inl (nI r)), some (.inl (nI l)), some (.inl (nI (4 * r + l))), some (.inl (nI (oLn o)))] [] z ∧ zOf m [64, 65] [] h z ∧ OWB z m 64 65 780 (4 * q + l) o ∧ LOut h z m (4 * q + l) := by
  rw [e_X12_least_273, if_pos (by rw [n4, nI_ltI (by omega) (by omega)]; omega), mF81 lay, Option.bind_some, mF85 lay, Option.bind_some, n4, pk_mul, nI_add, mr85 lay (by omega), Option.bind_some, pk_mul, nI_add, mw81 lay (by omega), Option.bind_some]
  have o1 : zOf m [64] [] h (zsI h (m + 64) (4 * q + l) (zI h (m + 67) (4 * r + l))) := zOf_sI (by decide) (by decide)
  have v64 : ∀ k, zI (zsI h (m + 64) (4 * q + l) (zI h (m + 67) (4 * r + l))) (m + 64) k = if k = 4 * q + l then zI h (m + 67) (4 * r + l) else zI h (m + 64) k := fun k => by
    by_cases e : k = 4 * q + l
    · rw [if_pos e, e, zI_sI]
    · rw [if_neg e, zI_sI_k e]
  generalize zsI h (m + 64) (4 * q + l) (zI h (m + 67) (4 * r + l)) = z1 at *
  have l1 := o1.lay lay
  have out1 : LOut h z1 m (4 * q + l) := ⟨fun k hk => ⟨o1.C (by decide) (by decide) _, by rw [v64, if_neg hk]⟩, fun k _ => o1.C (by decide) (by decide) _⟩
  cases o with
  | none =>
    refine ⟨z1, rfl, o1.wide (by decide) (by decide), ?_, out1⟩
    show zI z1 (m + 64) (4 * q + l) = -1
    rw [v64, if_pos rfl]
    exact f
  | some w =>
    obtain ⟨f1, f2, f3, f4⟩ := (show zI h (m + 67) (4 * r + l) = nI w.length ∧ Rw h (m + 68) (780 * (4 * r + l)) w ∧ w.length ≤ 780 ∧ LOk w from f)
    have cp := zwr (g := fun j z => zm_X12_least 308 [some (.inr m), some (.inl a1), some (.inl (nI q)), some (.inl (nI r)), some (.inl (nI l)), some (.inl (nI (4 * r + l))), some (.inl (nI j))] [] z) (h := z1) (a := m + 65) (p := 780 * (4 * q + l)) (n := w.length) (f := fun j => w.getD j 0) (fun j hj => by
      have oz : zOf m [65] [] z1 (zWr z1 (m + 65) (780 * (4 * q + l)) j fun j => w.getD j 0) := zOf_Wr (by decide) (by decide)
      generalize hz : (zWr z1 (m + 65) (780 * (4 * q + l)) j fun j => w.getD j 0) = z at *
      have lz := oz.lay l1
      have s67 : zia z (m + 67) (nI (4 * r + l)) = some (nI w.length) := by rw [mr85 lz (by omega), oz.C (by decide) (by decide), o1.C (by decide) (by decide), f1]
      have x1 : zba z (m + 68) (nI (780 * (4 * r + l) + j)) = some (w.getD j 0) := by rw [mr86 lz (by omega), oz.C (by decide) (by decide), o1.C (by decide) (by decide), f2 j hj]
      rw [e_X12_least_308, mF85 lz, Option.bind_some, s67, Option.bind_some, if_pos ((nI_ltI (by omega) (by omega)).mpr hj), mF82 lz, Option.bind_some, mF86 lz, Option.bind_some, n780, pk_mul, nI_add, x1, Option.bind_some, n4, pk_mul, nI_add, pk_mul, nI_add, mw82 lz (by omega), Option.bind_some, nI_1, f4.byte hj])
    have o2 : zOf m [65] [] z1 (zWr z1 (m + 65) (780 * (4 * q + l)) w.length fun j => w.getD j 0) := zOf_Wr (by decide) (by decide)
    refine Exists.elim (show ∃ z, z = zWr z1 (m + 65) (780 * (4 * q + l)) w.length fun j => w.getD j 0 from ⟨_, rfl⟩) fun z2 hz2 => ?_
    rw [← hz2] at cp o2
    refine ⟨z2, (show _ = _ from cp), (o1.wide (by decide) (by decide)).tr (o2.wide (by decide) (by decide)), ⟨?_, fun k hk => ?_, f3, f4⟩, out1.tr ⟨fun k hk => ⟨o2.C (by decide) (by decide) _, o2.C (by decide) (by decide) _⟩, fun k hk => by rw [hz2, zI_Wr_out (by have := f3; omega)]⟩⟩
    · rw [o2.C (by decide) (by decide), v64, if_pos rfl, f1]
    · rw [hz2, zI_Wr_at hk]
theorem oLn_lt {e : Nat} {o : Option zWo} (f : FUw h m e o) : ¬ nI (oLn o) < zI h (m + 67) e := by
  cases o with
  | none =>
    rw [show zI h (m + 67) e = -1 from f]
    exact (by decide : ¬ nI 0 < (-1 : Int32))
  | some w =>
    have := f.2.2.1
    rw [(show zI h (m + 67) e = nI w.length ∧ _ from f).1, nI_ltI (show oLn (some w) < 2 ^ 31 from by show w.length < 2 ^ 31; omega) (by omega)]
    exact Nat.lt_irrefl _
theorem s_lq0 (sg : sGood M) (gb : GBase h m M) (hq : q < 101) (hr : r < (sMake M).1.length) :
    ∃ z, zm_X12_least 273 [some (.inr m), some (.inl a1), some (.inl (nI q)), some (.inl (nI r)), some (.inl (nI 0)), none, none] [] h = zm_X12_least 273 [some (.inr m), some (.inl a1), some (.inl (nI q)), some (.inl (nI r)), some (.inl (nI 1)), none, none] [] z ∧ zOf m [63, 64, 65] [] h z ∧ OWB z m 64 65 780 (4 * q) (lsE M r) ∧ LOut h z m (4 * q) := by
  have hN := sg.2.2.2
  have fr := (gb.2 r hr).1
  obtain ⟨z1, r1, r2, r3, r4⟩ := s_l273 (q := q) (r := r) (l := 0) (a1 := a1) gb.1.1.1 hq (by omega) (by omega) fr
  have fz := fr.o r2 (by decide) (by decide)
  have l1 := r2.lay gb.1.1.1
  rw [r1, e_X12_least_308, mF85 l1, Option.bind_some, mr85 l1 (by omega), Option.bind_some, if_neg (oLn_lt (e := 4 * r + 0) fz), mF80 l1, Option.bind_some, n4, pk_mul, nI_add, mw80 l1 (by omega), Option.bind_some, if_pos (show nI 0 = (0 : Int32) from rfl), nI_1]
  refine ⟨_, rfl, (r2.wide (by decide) (by decide)).tr (zOf_sI (by decide) (by decide)), r3.o (zOf_sI (L := [63]) (J := []) (by decide) (by decide)) (by decide) (by decide) (by decide), r4.tr ⟨fun k hk => ⟨zI_sI_k hk, zI_sI_a (by omega)⟩, fun k _ => zI_sI_a (by omega)⟩⟩
theorem s_lqJ {j : Nat} {P : List Nat} (sg : sGood M) (gb : GBase h m M) (kl : KLs h m (sMake M).1.length (lsB M)) (nb : NBs h m (sMake M).1.length P) (hlen : (nmJ (lsB M) (lsW M (3 * r + j)) P).length ≤ (sMake M).1.length) (hq : q < 101) (hr : r < (sMake M).1.length) (hj : j < 3) (hpre : ∃ t, lsP M = nmJ (lsB M) (lsW M (3 * r + j)) P ++ t) :
    ∃ z, zm_X12_least 273 [some (.inr m), some (.inl a1), some (.inl (nI q)), some (.inl (nI r)), some (.inl (nI (j + 1))), none, none] [] h = zm_X12_least 273 [some (.inr m), some (.inl a1), some (.inl (nI q)), some (.inl (nI r)), some (.inl (nI (j + 1 + 1))), none, none] [] z ∧ zOf m Ln [79] h z ∧ NBs z m (sMake M).1.length (nmJ (lsB M) (lsW M (3 * r + j)) P) ∧ LWy z m (4 * q + (j + 1)) ((lsW M (3 * r + j)).map fun p => (p.1, lsV M p.2)) ∧ LOut h z m (4 * q + (j + 1)) := by
  have hN := sg.2.2.2
  have fr := (gb.2 r hr).2 j hj
  have bok : ∀ s, s < (sMake M).1.length → lsB M s ≤ s ∧ lsB M (lsB M s) = lsB M s := (lsB_ok sg).1
  obtain ⟨z1, r1, r2, r3, r4⟩ := s_l273 (q := q) (r := r) (l := j + 1) (a1 := a1) gb.1.1.1 hq (by omega) (by omega) fr
  have fz := fr.o r2 (by decide) (by decide)
  have gz := gb.o r2 (by decide) (by decide)
  have kz := kl.o r2 (by decide)
  have nz := nb.o r2 (by decide) (by decide)
  have l1 := r2.lay gb.1.1.1
  rw [r1, e_X12_least_308, mF85 l1, Option.bind_some, mr85 l1 (by omega), Option.bind_some, if_neg (oLn_lt fz), mF80 l1, Option.bind_some, n4, pk_mul, nI_add, mw80 l1 (by omega), Option.bind_some, if_neg (show ¬ nI (j + 1) = (0 : Int32) by rw [n0, nI_eq (by omega) (by omega)]; omega), nI_1]
  have o2 : zOf m [63] [] z1 (zsI z1 (m + 63) (4 * q + (j + 1)) (-1)) := zOf_sI (by decide) (by decide)
  have v63 : zI (zsI z1 (m + 63) (4 * q + (j + 1)) (-1)) (m + 63) (4 * q + (j + 1)) = -1 := zI_sI
  have out2 : LOut h (zsI z1 (m + 63) (4 * q + (j + 1)) (-1)) m (4 * q + (j + 1)) := r4.tr ⟨fun k hk => ⟨zI_sI_k hk, zI_sI_a (by omega)⟩, fun k _ => zI_sI_a (by omega)⟩
  generalize zsI z1 (m + 63) (4 * q + (j + 1)) (-1) = z2 at *
  have o02 : zOf m Ln [79] h z2 := (r2.wide (by decide) (by decide)).tr (o2.wide (by decide) (by decide))
  have l2 := o2.lay l1
  have r3z := r3.o o2 (by decide) (by decide) (by decide)
  have nz2 := nz.o o2 (by decide) (by decide)
  have kz2 := kz.o o2 (by decide)
  have fz2 := fz.o o2 (by decide) (by decide)
  have gz2 := gz.o o2 (by decide) (by decide)
  rw [mF85 l2, Option.bind_some, mr85 l2 (by omega), Option.bind_some]
  cases ew : lsW M (3 * r + j) with
  | none =>
    rw [ew] at fz2 r3z
    rw [show zI z2 (m + 67) (4 * r + (j + 1)) = -1 from fz2, if_pos (by decide)]
    exact ⟨z2, rfl, o02, nz2, ⟨r3z, v63⟩, out2⟩
  | some p =>
    have plt : p.2 < (sMake M).1.length := lsW_lt sg _ p ew
    have blt := (bok p.2 plt).1
    have gw := gz2.1.1.2.1.go sg hr hj
    have e53 : zI z2 (m + 53) (4 * r + (j + 1)) = nI p.2 := by
      rw [lsW_at r j hj] at ew
      cases eg : goAt (sMake M) (3 * r + j) with
      | none => rw [eg] at ew; cases ew
      | some x =>
        obtain ⟨o, g⟩ := x
        rw [eg] at ew gw
        have e2 : g = p.2 := by injection ew with e; rw [← e]
        rw [← e2]
        exact (show zI z2 (m + 53) (4 * r + (j + 1)) = nI g ∧ _ from gw).1
    rw [ew] at fz2 r3z hlen hpre
    have fz2' : FUw z2 m (4 * r + (j + 1)) (some p.1) := fz2
    have pl := fz2'.2.2.1
    have hc := nz2.2.2 (lsB M p.2) (by omega)
    have eJ : nmJ (lsB M) (some p) P = nmAdd (lsB M p.2) P := rfl
    have eG : Option.map (fun p : zWo × Nat => (p.1, lsV M p.2)) (some p) = some (p.1, lsV M p.2) := rfl
    have r3s : OWB z2 m 64 65 780 (4 * q + (j + 1)) (some p.1) := r3z
    rw [eJ] at hlen hpre ⊢
    rw [eG]
    obtain ⟨t, hpre⟩ := hpre
    rw [fz2'.1, if_neg (nI_nn (by omega)), mF87 l2, Option.bind_some, mF67 l2, Option.bind_some, mr67 l2 (by omega), Option.bind_some, e53, mr87 l2 (by omega), Option.bind_some, kz2 p.2 plt, mF89 l2, Option.bind_some, mr89 l2 (by omega), Option.bind_some]
    by_cases c : lsB M p.2 ∈ P
    · have eA : nmAdd (lsB M p.2) P = P := if_pos c
      rw [eA] at hpre hlen ⊢
      rw [if_pos c] at hc
      have fl := fdx_mem c
      have ev : lsV M p.2 = fdx (fun e => decide (e = lsB M p.2)) P := by
        unfold lsV
        rw [hpre]
        exact fdx_app t c
      rw [hc, if_neg (nI_nn (by omega)), mF80 l2, Option.bind_some, Option.bind_some, mr89 l2 (by omega), Option.bind_some, hc, mw80 l2 (by omega), Option.bind_some]
      have o3 : zOf m [63] [] z2 (zsI z2 (m + 63) (4 * q + (j + 1)) (nI (fdx (fun e => decide (e = lsB M p.2)) P))) := zOf_sI (by decide) (by decide)
      refine ⟨_, rfl, o02.tr (o3.wide (by decide) (by decide)), nz2.o o3 (by decide) (by decide), LWy.mk' (r3s.o o3 (by decide) (by decide) (by decide)) ?_, out2.tr ⟨fun k hk => ⟨zI_sI_k hk, zI_sI_a (by omega)⟩, fun k _ => zI_sI_a (by omega)⟩⟩
      rw [zI_sI]
      exact congrArg nI ev.symm
    · have eA : nmAdd (lsB M p.2) P = P ++ [lsB M p.2] := if_neg c
      rw [eA] at hpre hlen ⊢
      rw [List.length_append, List.length_singleton] at hlen
      rw [if_neg c] at hc
      have ev : lsV M p.2 = P.length := by
        unfold lsV
        rw [hpre, fdx_app t (List.mem_append_right P (List.mem_singleton.mpr rfl))]
        exact fdx_new c
      have o3 : zOf m [71] [] z2 (zsI z2 (m + 71) (lsB M p.2) (nI P.length)) := zOf_sI (by decide) (by decide)
      have u71 : ∀ k, zI (zsI z2 (m + 71) (lsB M p.2) (nI P.length)) (m + 71) k = if k = lsB M p.2 then nI P.length else zI z2 (m + 71) k := fun k => by
        by_cases e : k = lsB M p.2
        · rw [if_pos e, e, zI_sI]
        · rw [if_neg e, zI_sI_k e]
      rw [hc, if_pos (by decide), Option.bind_some, mi79 l2, Option.bind_some, nz2.1, mw89 l2 (by omega), Option.bind_some]
      generalize zsI z2 (m + 71) (lsB M p.2) (nI P.length) = z3 at *
      have l3 := o3.lay l2
      have f79 : zI z3 m 79 = nI P.length := (o3.J (by decide)).trans nz2.1
      have o4 : zOf m [70] [] z3 (zsI z3 (m + 70) P.length (nI (lsB M p.2))) := zOf_sI (by decide) (by decide)
      have u70 : ∀ k, zI (zsI z3 (m + 70) P.length (nI (lsB M p.2))) (m + 70) k = if k = P.length then nI (lsB M p.2) else zI z3 (m + 70) k := fun k => by
        by_cases e : k = P.length
        · rw [if_pos e, e, zI_sI]
        · rw [if_neg e, zI_sI_k e]
      rw [mF88 l3, Option.bind_some, mi79 l3, Option.bind_some, f79, mw88 l3 (by omega), Option.bind_some]
      generalize zsI z3 (m + 70) P.length (nI (lsB M p.2)) = z4 at *
      have l4 := o4.lay l3
      have g79 : zI z4 m 79 = nI P.length := (o4.J (by decide)).trans f79
      rw [mi79 l4, Option.bind_some, g79, nI_1, mp79 l4, Option.bind_some]
      have o5 : zOf m [] [79] z4 (zsI z4 m 79 (nI (P.length + 1))) := zOf_pI (by decide)
      have u79 : zI (zsI z4 m 79 (nI (P.length + 1))) m 79 = nI (P.length + 1) := zI_sI
      generalize zsI z4 m 79 (nI (P.length + 1)) = z5 at *
      have l5 := o5.lay l4
      have g71 : zI z5 (m + 71) (lsB M p.2) = nI P.length := by rw [o5.C (by decide) (by decide), o4.C (by decide) (by decide), u71, if_pos rfl]
      have o6 : zOf m [63] [] z5 (zsI z5 (m + 63) (4 * q + (j + 1)) (nI P.length)) := zOf_sI (by decide) (by decide)
      rw [mF80 l5, Option.bind_some, mF89 l5, Option.bind_some, mr89 l5 (by omega), Option.bind_some, g71, mw80 l5 (by omega), Option.bind_some]
      have oA : zOf m [70, 71] [79] z2 z5 := ((o3.wide (by decide) (by decide)).tr (o4.wide (by decide) (by decide))).tr (o5.wide (by decide) (by decide))
      refine ⟨_, rfl, (o02.tr (oA.wide (by decide) (by decide))).tr (o6.wide (by decide) (by decide)), ⟨?_, fun k hk => ?_, fun x hx => ?_⟩, LWy.mk' ((r3s.o oA (by decide) (by decide) (by decide)).o o6 (by decide) (by decide) (by decide)) ?_, out2.tr ⟨fun k hk => ⟨?_, ?_⟩, fun k _ => ?_⟩⟩
      · rw [zI_sI_a (by omega), u79, List.length_append, List.length_singleton]
      · rw [List.length_append, List.length_singleton] at hk
        rw [zI_sI_a (by omega), o5.C (by decide) (by decide), u70]
        by_cases e : k = P.length
        · rw [if_pos e, e, List.getD_eq_getElem?_getD, List.getElem?_append_right (Nat.le_refl _), Nat.sub_self]
          rfl
        · rw [if_neg e, o3.C (by decide) (by decide), nz2.2.1 k (by omega), List.getD_eq_getElem?_getD, List.getD_eq_getElem?_getD, List.getElem?_append_left (by omega)]
      · rw [zI_sI_a (by omega), o5.C (by decide) (by decide), o4.C (by decide) (by decide), u71]
        by_cases e : x = lsB M p.2
        · rw [if_pos e, e, if_pos (List.mem_append_right P (List.mem_singleton.mpr rfl)), fdx_new c]
        · rw [if_neg e, nz2.2.2 x hx]
          by_cases f : x ∈ P
          · rw [if_pos f, if_pos (List.mem_append_left _ f), fdx_app _ f]
          · rw [if_neg f, if_neg (fun w => by
              rcases List.mem_append.mp w with w | w
              · exact f w
              · exact e (List.mem_singleton.mp w))]
      · rw [zI_sI]
        exact congrArg nI ev.symm
      · rw [zI_sI_k hk, oA.C (by decide) (by decide)]
      · rw [zI_sI_a (by omega), oA.C (by decide) (by decide)]
      · rw [zI_sI_a (by omega), oA.C (by decide) (by decide)]
end NUM
