/-! New cells: the reference. -/
section NWK0
/-- arrays one behind the other, each told by a field -/
def rfA (y : Nat) : List (Nat × Nat × Nat × Nat) → (zM → Option zR) → zM → Option zR
  | [], K, h => K h
  | e :: T, K, h => (zna h e.2.2.1 (nI e.2.2.2)).bind fun h1 => (zpF h1 y 12 e.1 h.1.1).bind fun h2 => rfA y T K h2
/-- c places of one value -/
def rfS (a : Nat) (x : Int32) : Nat → Nat → (zM → Option zR) → zM → Option zR
  | 0, _, K, h => K h
  | c + 1, i, K, h => (zis h a (nI i) x).bind fun h1 => rfS a x c (i + 1) K h1
/-- an array of c places of one value -/
def rfZ (y f c : Nat) (x : Int32) (K : zM → Option zR) (h : zM) : Option zR := (zna h 101 (nI c)).bind fun h1 => rfS h.1.1 x c 0 (fun h2 => (zpF h2 y 12 f h.1.1).bind K) h1
def ckA : Nat → List (Nat × Nat × Nat × Nat) → Bool
  | _, [] => true
  | o, e :: T => e.2.1 == o && (decide (e.2.2.2 ≤ 1000000) && (decide (e.1 ∉ T.map fun t => t.1) && ckA (o + 1) T))
def smA : List (Nat × Nat × Nat × Nat) → Nat
  | [] => 0
  | e :: T => e.2.2.2 + smA T
/-- what the fields tell -/
def HA (z : zM) (y : Nat) (T : List (Nat × Nat × Nat × Nat)) : Prop := ∀ e, e ∈ T → zF z y e.1 = y + e.2.1 ∧ zK z (y + e.2.1) = e.2.2.1 ∧ zN z (y + e.2.1) = e.2.2.2 ∧ ∀ i, zI z (y + e.2.1) i = 0
def HZ (z : zM) (y f o c : Nat) (x : Int32) : Prop := zF z y f = y + o ∧ zK z (y + o) = 101 ∧ zN z (y + o) = c ∧ ∀ j, j < c → zI z (y + o) j = x
theorem FRM.at1 {y c q : Nat} {fs js : List Nat} {h h' : zM} (f : FRM y c fs js h h') (h1 : q ≠ y) (h2 : q < c) : zK h' q = zK h q ∧ zN h' q = zN h q ∧ ∀ i, zI h' q i = zI h q i := by
  obtain ⟨a, b, -⟩ := f.1 q h1 h2
  exact ⟨congrArg Prod.fst a, congrArg Prod.snd a, fun i => congrFun b i⟩
theorem HA.al {z z' : zM} {y o : Nat} {fs js : List Nat} {T : List (Nat × Nat × Nat × Nat)} (d : HA z y T) (f : FRM y (y + o) fs js z z') (hT : ∀ e, e ∈ T → (0 < e.2.1 ∧ e.2.1 < o) ∧ e.1 ∉ fs) : HA z' y T := fun e he => by
  obtain ⟨a1, a2, a3, a4⟩ := d e he
  obtain ⟨⟨b1, b2⟩, b3⟩ := hT e he
  obtain ⟨q1, q2, q3⟩ := f.at1 (q := y + e.2.1) (by omega) (by omega)
  exact ⟨(f.f b3).trans a1, q1.trans a2, q2.trans a3, fun i => (q3 i).trans (a4 i)⟩
theorem HZ.al {z z' : zM} {y o g p c : Nat} {x : Int32} {fs js : List Nat} (d : HZ z y g p c x) (f : FRM y (y + o) fs js z z') (h1 : 0 < p) (h2 : p < o) (h3 : g ∉ fs) : HZ z' y g p c x := by
  obtain ⟨a1, a2, a3, a4⟩ := d
  obtain ⟨q1, q2, q3⟩ := f.at1 (q := y + p) (by omega) (by omega)
  exact ⟨(f.f h3).trans a1, q1.trans a2, q2.trans a3, fun j hj => (q3 j).trans (a4 j hj)⟩
theorem rfA_ok {y : Nat} : ∀ (T : List (Nat × Nat × Nat × Nat)) (o : Nat) (h : zM), ckA o T = true → zK h y = 12 + 1 → h.1.1 = y + o → 0 < o → ∃ z, (∀ K : zM → Option zR, rfA y T K h = K z) ∧ FRM y (y + o) (T.map fun t => t.1) [] h z ∧ (z.1.1 = y + (o + T.length) ∧ z.1.2.1 = h.1.2.1 + T.length ∧ z.1.2.2 = h.1.2.2 + smA T) ∧ HA z y T
  | [], o, h, _, hk, ha, h0 => ⟨h, fun _ => rfl, FRM.rf, ⟨ha, rfl, rfl⟩, fun e he => by cases he⟩
  | e :: T, o, h, ck, hk, ha, h0 => by
    rw [ckA, Bool.and_eq_true, Bool.and_eq_true, Bool.and_eq_true] at ck
    obtain ⟨c1, c2, c3, c4⟩ := ck
    have c1 : e.2.1 = o := eq_of_beq c1
    obtain ⟨z1, z2, a1, a2, f1, v1, ⟨i1, j1, s1⟩, k1, n1, x1⟩ := p_A (f := e.1) (n := e.2.2.2) (k := e.2.2.1) hk ha (by omega) (of_decide_eq_true c2)
    obtain ⟨z, r1, r2, ⟨r3, r4, r5⟩, r6⟩ := rfA_ok T (o + 1) z2 c4 (f1.k.trans hk) (by omega) (by omega)
    refine ⟨z, fun K => ?_, f1.tr r2 (by omega), ⟨?_, ?_, ?_⟩, fun t ht => ?_⟩
    · rw [rfA, a1, Option.bind_some, a2, Option.bind_some]
      exact r1 K
    · rw [r3, List.length_cons]; omega
    · rw [r4, List.length_cons, j1]; omega
    · rw [r5, smA, s1]; omega
    · rcases List.mem_cons.mp ht with rfl | ht
      · obtain ⟨q1, q2, q3⟩ := r2.at1 (q := y + t.2.1) (by omega) (by omega)
        rw [c1] at q1 q2 q3 ⊢
        exact ⟨(r2.f (of_decide_eq_true c3)).trans v1, q1.trans k1, q2.trans n1, fun i => (q3 i).trans (x1 i)⟩
      · exact r6 t ht
theorem rfS_ok {a n : Nat} {x : Int32} (hn : n ≤ 1000000) : ∀ (c i : Nat) (h : zM), zK h a = 101 → zN h a = n → i + c ≤ n → (∀ j, j < i → zI h a j = x) → ∃ z, (∀ K : zM → Option zR, rfS a x c i K h = K z) ∧ (z.1 = h.1 ∧ z.2.1 = h.2.1 ∧ z.2.2.2 = h.2.2.2) ∧ (∀ b, b ≠ a → z.2.2.1 b = h.2.2.1 b) ∧ ∀ j, j < i + c → zI z a j = x
  | 0, i, h, _, _, _, h0 => ⟨h, fun _ => rfl, ⟨rfl, rfl, rfl⟩, fun _ _ => rfl, h0⟩
  | c + 1, i, h, hk, hN, hi, h0 => by
    obtain ⟨z, r1, ⟨r2, r3, r4⟩, r5, r6⟩ := rfS_ok (x := x) hn c (i + 1) (zsI h a i x) hk hN (by omega) (fun j hj => by
      by_cases e : j = i
      · rw [e]; exact zI_sI
      · exact (zI_sI_k (fun w => e w)).trans (h0 j (by omega)))
    refine ⟨z, fun K => ?_, ⟨r2, r3, r4⟩, fun b hb => (r5 b hb).trans (va_up_ne _ _ hb), fun j hj => r6 j (by omega)⟩
    rw [rfS, zis_ok hk (by omega) (by omega), Option.bind_some]
    exact r1 K
theorem rfZ_ok {y f c o : Nat} {x : Int32} {h : zM} (hc : c ≤ 1000000) (hk : zK h y = 12 + 1) (ha : h.1.1 = y + o) (h0 : 0 < o) : ∃ z, (∀ K : zM → Option zR, rfZ y f c x K h = K z) ∧ FRM y (y + o) [f] [] h z ∧ (z.1.1 = y + (o + 1) ∧ z.1.2.1 = h.1.2.1 + 1 ∧ z.1.2.2 = h.1.2.2 + c) ∧ HZ z y f o c x := by
  obtain ⟨e1, e2, e3, e4, e5, -⟩ := n_arr (h := h) (n := c) (k := 101) hc
  obtain ⟨z1, r1, ⟨r2, r3, r4⟩, r5, r6⟩ := rfS_ok (a := h.1.1) (x := x) hc c 0 (zmk h 101 c) e3 e4 (by omega) (fun j hj => absurd hj (Nat.not_lt_zero _))
  have nw : zNw h.1.1 1 c h z1 := ⟨r2.trans e2.1, fun b hb => ⟨(congrFun r3 b).trans (e2.2 b hb).1, (r5 b (by omega)).trans (e2.2 b hb).2.1, (congrFun r4 b).trans (e2.2 b hb).2.2⟩⟩
  obtain ⟨f1, f2, f3, f4, f5⟩ := stF (f := f) hk (by omega) nw
  have l := f5 (h.1.1 + 1)
  refine ⟨zsF z1 y f h.1.1, fun K => ?_, by rw [ha] at f2; rw [ha]; exact f2, ⟨?_, congrArg (fun t : Nat × Nat × Nat => t.2.1) f4, congrArg (fun t : Nat × Nat × Nat => t.2.2) f4⟩, ?_⟩
  · unfold rfZ
    rw [e1, Option.bind_some, r1, f1, Option.bind_some]
  · have := congrArg (fun t : Nat × Nat × Nat => t.1) f4
    dsimp only at this
    omega
  · refine ⟨f3.trans ha, ?_, ?_, fun j hj => ?_⟩
    · rw [← ha]
      exact ((l.K (Nat.le_refl _) (by omega)).trans (congrArg Prod.fst (congrFun r3 _))).trans e3
    · rw [← ha]
      exact ((l.N (Nat.le_refl _) (by omega)).trans (congrArg Prod.snd (congrFun r3 _))).trans e4
    · rw [← ha]
      exact (l.I (Nat.le_refl _) (by omega) j).trans (r6 j (by omega))
end NWK0
section NWK1
def t12A : List (Nat × Nat × Nat × Nat) := [(0, 1, 101, 2), (1, 2, 103, 12), (2, 3, 101, 12), (3, 4, 101, 2), (4, 5, 101, 60), (5, 6, 101, 60), (6, 7, 101, 60), (7, 8, 101, 60), (8, 9, 103, 12), (9, 10, 103, 12), (10, 11, 103, 12), (12, 12, 101, 61), (13, 13, 101, 61), (14, 14, 101, 1952), (16, 15, 101, 61), (17, 16, 101, 61), (18, 17, 101, 1952)]
def t12B : List (Nat × Nat × Nat × Nat) := [(20, 18, 101, 61), (21, 19, 101, 1952), (22, 20, 101, 32)]
def t12C : List (Nat × Nat × Nat × Nat) := [(24, 21, 101, 4200)]
def t12D : List (Nat × Nat × Nat × Nat) := [(26, 23, 101, 26000), (27, 24, 101, 12), (28, 25, 101, 12), (29, 26, 102, 156000), (30, 27, 102, 156000), (31, 28, 102, 13000), (33, 29, 101, 160), (34, 30, 101, 160), (35, 31, 101, 160), (36, 32, 101, 160), (37, 33, 102, 96000), (38, 34, 101, 160), (39, 35, 101, 160), (40, 36, 101, 160), (41, 37, 103, 36), (42, 38, 101, 36), (43, 39, 101, 640), (44, 40, 101, 640), (49, 41, 101, 4096), (50, 42, 101, 4096), (51, 43, 101, 4096), (52, 44, 103, 4096), (53, 45, 101, 4200), (55, 46, 101, 1002), (56, 47, 101, 1002), (57, 48, 101, 1002), (58, 49, 102, 224448)]
def t12E : List (Nat × Nat × Nat × Nat) := [(65, 51, 101, 606), (66, 52, 102, 72720), (67, 53, 101, 400), (68, 54, 101, 400), (69, 55, 102, 104000), (70, 56, 101, 6), (71, 57, 102, 720), (72, 58, 101, 101), (73, 59, 102, 26260), (75, 60, 101, 101), (76, 61, 102, 52520), (77, 62, 102, 1040), (80, 63, 101, 404), (81, 64, 101, 404), (82, 65, 102, 315120), (84, 66, 102, 520), (85, 67, 101, 404), (86, 68, 102, 315120), (87, 69, 101, 101), (88, 70, 101, 101), (89, 71, 101, 101), (91, 72, 102, 9000), (92, 73, 102, 9000)]
theorem t12_eq : T12 = t12A ++ (t12B ++ (t12C ++ ((25, 22, 101, 2) :: (t12D ++ ((63, 50, 101, 5) :: t12E))))) := rfl
theorem t12_all : ∀ e, e ∈ T12 → e ∈ t12A ∨ e ∈ t12B ∨ e ∈ t12C ∨ e = (25, 22, 101, 2) ∨ e ∈ t12D ∨ e = (63, 50, 101, 5) ∨ e ∈ t12E := fun e he => by
  rw [t12_eq, List.mem_append, List.mem_append, List.mem_append, List.mem_cons, List.mem_append, List.mem_cons] at he
  exact he
set_option maxRecDepth 100000 in
theorem e_X12_init2 {y : Nat} {h : zM} (hy : ¬ y = 0) : zf nX12_init [.inr y] h = rfA y t12A (fun h => (zpI h y 12 19 (-1 : Int32)).bind fun h => rfA y t12B (fun h => (zpI h y 12 23 (-2 : Int32)).bind fun h => rfA y t12C (fun h => rfZ y 25 2 (-2 : Int32) (fun h => rfA y t12D (fun h => rfZ y 63 5 (-1 : Int32) (fun h => rfA y t12E (fun h => some (0, 0, h)) h) h) h) h) h) h) h := by
  rw [e_X12_init, if_neg hy]
  rfl
theorem n_ref {h : zM} {y : Nat} (h0 : 0 < y) (hk : zK h y = 13) (hy : h.1.1 = y + 1) (hz : ∀ i, zI h y i = 0) : ∃ z, zf nX12_init [.inr y] h = some (0, 0, z) ∧ zNw y 73 1617387 h z ∧ RI z y (fun _ => newM 0, [], none, 0, none, []) := by
  rw [e_X12_init2 (Nat.ne_of_gt h0)]
  have kk0 : zK h y = 12 + 1 := hk
  have hn0 : h.1.1 = y + 1 := hy
  have hm0 : h.1.2.1 = h.1.2.1 + 0 := rfl
  have hs0 : h.1.2.2 = h.1.2.2 + 0 := rfl
  obtain ⟨z1, c0, f0, ⟨i0, j0, s0⟩, P0⟩ := rfA_ok (y := y) t12A 1 h (by decide +kernel) kk0 hn0 (by decide)
  rw [c0]
  have hn1 : z1.1.1 = y + 18 := i0.trans (congrArg (fun q => y + q) (show 1 + t12A.length = 18 by decide +kernel))
  have hm1 : z1.1.2.1 = h.1.2.1 + 17 := offB j0 hm0 (by decide +kernel)
  have hs1 : z1.1.2.2 = h.1.2.2 + 4452 := offB s0 hs0 (by decide +kernel)
  have kk1 : zK z1 y = 12 + 1 := f0.k.trans kk0
  clear c0 i0 j0 s0
  obtain ⟨z2, c1, f1, v1, i1, j1, s1⟩ := p_I (j := 19) (x := (-1 : Int32)) kk1 hn1
  rw [c1, Option.bind_some]
  have hn2 : z2.1.1 = y + 18 := i1
  have hm2 : z2.1.2.1 = h.1.2.1 + 17 := offB j1 hm1 rfl
  have hs2 : z2.1.2.2 = h.1.2.2 + 4452 := offB s1 hs1 rfl
  have kk2 : zK z2 y = 12 + 1 := f1.k.trans kk1
  clear c1 i1 j1 s1
  obtain ⟨z3, c2, f2, ⟨i2, j2, s2⟩, P2⟩ := rfA_ok (y := y) t12B 18 z2 (by decide +kernel) kk2 hn2 (by decide)
  rw [c2]
  have hn3 : z3.1.1 = y + 21 := i2.trans (congrArg (fun q => y + q) (show 18 + t12B.length = 21 by decide +kernel))
  have hm3 : z3.1.2.1 = h.1.2.1 + 20 := offB j2 hm2 (by decide +kernel)
  have hs3 : z3.1.2.2 = h.1.2.2 + 6497 := offB s2 hs2 (by decide +kernel)
  have kk3 : zK z3 y = 12 + 1 := f2.k.trans kk2
  clear c2 i2 j2 s2
  obtain ⟨z4, c3, f3, v3, i3, j3, s3⟩ := p_I (j := 23) (x := (-2 : Int32)) kk3 hn3
  rw [c3, Option.bind_some]
  have hn4 : z4.1.1 = y + 21 := i3
  have hm4 : z4.1.2.1 = h.1.2.1 + 20 := offB j3 hm3 rfl
  have hs4 : z4.1.2.2 = h.1.2.2 + 6497 := offB s3 hs3 rfl
  have kk4 : zK z4 y = 12 + 1 := f3.k.trans kk3
  clear c3 i3 j3 s3
  obtain ⟨z5, c4, f4, ⟨i4, j4, s4⟩, P4⟩ := rfA_ok (y := y) t12C 21 z4 (by decide +kernel) kk4 hn4 (by decide)
  rw [c4]
  have hn5 : z5.1.1 = y + 22 := i4.trans (congrArg (fun q => y + q) (show 21 + t12C.length = 22 by decide +kernel))
  have hm5 : z5.1.2.1 = h.1.2.1 + 21 := offB j4 hm4 (by decide +kernel)
  have hs5 : z5.1.2.2 = h.1.2.2 + 10697 := offB s4 hs4 (by decide +kernel)
  have kk5 : zK z5 y = 12 + 1 := f4.k.trans kk4
  clear c4 i4 j4 s4
  obtain ⟨z6, c5, f5, ⟨i5, j5, s5⟩, P5⟩ := rfZ_ok (y := y) (f := 25) (c := 2) (o := 22) (x := (-2 : Int32)) (h := z5) (by decide) kk5 hn5 (by decide)
  rw [c5]
  have hn6 : z6.1.1 = y + 23 := i5
  have hm6 : z6.1.2.1 = h.1.2.1 + 22 := offB j5 hm5 rfl
  have hs6 : z6.1.2.2 = h.1.2.2 + 10699 := offB s5 hs5 rfl
  have kk6 : zK z6 y = 12 + 1 := f5.k.trans kk5
  clear c5 i5 j5 s5
  obtain ⟨z7, c6, f6, ⟨i6, j6, s6⟩, P6⟩ := rfA_ok (y := y) t12D 23 z6 (by decide +kernel) kk6 hn6 (by decide)
  rw [c6]
  have hn7 : z7.1.1 = y + 50 := i6.trans (congrArg (fun q => y + q) (show 23 + t12D.length = 50 by decide +kernel))
  have hm7 : z7.1.2.1 = h.1.2.1 + 49 := offB j6 hm6 (by decide +kernel)
  have hs7 : z7.1.2.2 = h.1.2.2 + 708233 := offB s6 hs6 (by decide +kernel)
  have kk7 : zK z7 y = 12 + 1 := f6.k.trans kk6
  clear c6 i6 j6 s6
  obtain ⟨z8, c7, f7, ⟨i7, j7, s7⟩, P7⟩ := rfZ_ok (y := y) (f := 63) (c := 5) (o := 50) (x := (-1 : Int32)) (h := z7) (by decide) kk7 hn7 (by decide)
  rw [c7]
  have hn8 : z8.1.1 = y + 51 := i7
  have hm8 : z8.1.2.1 = h.1.2.1 + 50 := offB j7 hm7 rfl
  have hs8 : z8.1.2.2 = h.1.2.2 + 708238 := offB s7 hs7 rfl
  have kk8 : zK z8 y = 12 + 1 := f7.k.trans kk7
  clear c7 i7 j7 s7
  obtain ⟨z9, c8, f8, ⟨i8, j8, s8⟩, P8⟩ := rfA_ok (y := y) t12E 51 z8 (by decide +kernel) kk8 hn8 (by decide)
  rw [c8]
  have hn9 : z9.1.1 = y + 74 := i8.trans (congrArg (fun q => y + q) (show 51 + t12E.length = 74 by decide +kernel))
  have hm9 : z9.1.2.1 = h.1.2.1 + 73 := offB j8 hm8 (by decide +kernel)
  have hs9 : z9.1.2.2 = h.1.2.2 + 1617387 := offB s8 hs8 (by decide +kernel)
  have kk9 : zK z9 y = 12 + 1 := f8.k.trans kk8
  clear c8 i8 j8 s8
  have G9 : FRM y (y + 74) [] [] z9 z9 := FRM.rf
  have G8 := f8.tr G9 (leA (by decide))
  have G7 := f7.tr G8 (leA (by decide))
  have G6 := f6.tr G7 (leA (by decide))
  have G5 := f5.tr G6 (leA (by decide))
  have G4 := f4.tr G5 (leA (by decide))
  have G3 := f3.tr G4 (leA (by decide))
  have G2 := f2.tr G3 (leA (by decide))
  have G1 := f1.tr G2 (leA (by decide))
  have G0 := f0.tr G1 (leA (by decide))
  refine ⟨z9, rfl, G0.nw (tupE (hn9.trans (offC hy rfl)) hm9 hs9) (ltA (by decide)), ?_⟩
  have HAA : HA z9 y t12A := HA.al P0 G1 (by decide +kernel)
  have HB : HA z9 y t12B := HA.al P2 G3 (by decide +kernel)
  have HC : HA z9 y t12C := HA.al P4 G5 (by decide +kernel)
  have HD : HA z9 y t12D := HA.al P6 G7 (by decide +kernel)
  have HE : HA z9 y t12E := HA.al P8 G9 (by decide +kernel)
  have HY : HZ z9 y 25 22 2 (-2 : Int32) := HZ.al P5 G6 (by decide) (by decide) (by decide)
  have HZ0 : HZ z9 y 63 50 5 (-1 : Int32) := HZ.al P7 G8 (by decide) (by decide) (by decide)
  have lay : MLay z9 y := ⟨kk9, fun e he => by
    rcases t12_all e he with a | a | a | a | a | a | a
    · exact ⟨(HAA e a).1, (HAA e a).2.1, (HAA e a).2.2.1⟩
    · exact ⟨(HB e a).1, (HB e a).2.1, (HB e a).2.2.1⟩
    · exact ⟨(HC e a).1, (HC e a).2.1, (HC e a).2.2.1⟩
    · rw [a]
      exact ⟨HY.1, HY.2.1, HY.2.2.1⟩
    · exact ⟨(HD e a).1, (HD e a).2.1, (HD e a).2.2.1⟩
    · rw [a]
      exact ⟨HZ0.1, HZ0.2.1, HZ0.2.2.1⟩
    · exact ⟨(HE e a).1, (HE e a).2.1, (HE e a).2.2.1⟩⟩
  have q : ∀ j, j ∉ [19, 23] → zI z9 y j = 0 := fun j hj => (G0.i (fun w => hj (by simpa using w))).trans (hz j)
  have v19 : zI z9 y 19 = -1 := (G2.i (by decide)).trans v1
  have v23 : zI z9 y 23 = -2 := (G4.i (by decide)).trans v3
  have w1 : ∀ i, zI z9 (y + 1) i = 0 := (HAA (0, 1, 101, 2) (by decide)).2.2.2
  have w2 : ∀ i, zI z9 (y + 2) i = 0 := (HAA (1, 2, 103, 12) (by decide)).2.2.2
  have w4 : ∀ i, zI z9 (y + 4) i = 0 := (HAA (3, 4, 101, 2) (by decide)).2.2.2
  refine ⟨⟨lay, fun t ht => ⟨w1 t, w4 t, fun q hq => ⟨(w2 _).trans (by
      show (0 : Int32) = bI (Nat.testBit 0 q)
      rw [Nat.zero_testBit]
      rfl), fun w => absurd w (Nat.not_lt_zero _)⟩, fun i hi => absurd hi (Nat.not_lt_zero _)⟩⟩, ⟨⟨Nat.zero_le _, fun i hi => absurd hi (Nat.not_lt_zero _)⟩, Or.inr ⟨rfl, Or.inl v19⟩⟩, ⟨v23, HY.2.2.2⟩, ⟨q 62 (by decide), Nat.zero_le _⟩, ⟨HZ0.2.2.2, q 78 (by decide), fun M e => by cases e⟩, q 90 (by decide), fun j hj => absurd hj (Nat.not_lt_zero _), Nat.zero_le _⟩
end NWK1
