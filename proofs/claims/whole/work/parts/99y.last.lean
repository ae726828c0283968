/-! The law answers 1. -/
section LAST
theorem XI.al0 {h h' : zM} {x : Nat} (d : XI h x (fun _ => newM 0, [], none, 0, none, [])) (f : zLo x (x + 8091) h h') : XI h' x (fun _ => newM 0, [], none, 0, none, []) := by
  obtain ⟨⟨⟨k, f0, k1, n1, e⟩, m⟩, ⟨⟨a1, a2, a3, a4, a5, a6⟩, a7, a8, a9, a10, a11⟩, o, ds, rs, wt, ⟨i12, hs⟩, ⟨ts, ss, ys, i13⟩, ⟨⟨w1, v1⟩, v2, ⟨w3, v3⟩, w4, v4⟩⟩ := d
  have F : ∀ j, zF h' x j = zF h x j := fun j => f.F (Nat.le_refl _) (by omega) j
  have I : ∀ j, zI h' x j = zI h x j := fun j => f.I (Nat.le_refl _) (by omega) j
  exact ⟨⟨⟨(f.K (Nat.le_refl _) (by omega)).trans k, (F 0).trans f0, (f.K (by omega) (by omega)).trans k1, (f.N (by omega) (by omega)).trans n1, fun t ht => (f.F (by omega) (by omega) t).trans (e t ht)⟩, fun t ht => ⟨(m t ht).1.al (f.sub (by omega) (by omega)), (m t ht).2⟩⟩,
    ⟨⟨(F 1).trans a1, (F 2).trans a2, (F 3).trans a3, (F 4).trans a4, (F 5).trans a5, (F 6).trans a6⟩, (F 7).trans a7, (F 8).trans a8, (F 9).trans a9, (F 10).trans a10, (F 11).trans a11⟩,
    OutP.al o (f.sub (by omega) (by omega)), ds.al (f.sub (by omega) (by omega)), rs.al (f.sub (by omega) (by omega)), WT.al wt (f.sub (by omega) (by omega)), ⟨(I 12).trans i12, hs⟩,
    ⟨ts.al (f.sub (by omega) (by omega)), ss.al (f.sub (by omega) (by omega)), ys.al (f.sub (by omega) (by omega)), (I 13).trans i13⟩,
    ⟨⟨w1, v1.al (f.sub (by omega) (by omega))⟩, v2.al (f.sub (by omega) (by omega)), ⟨w3, v3.al (f.sub (by omega) (by omega))⟩, w4, v4.al (f.sub (by omega) (by omega))⟩⟩
theorem zlaw_holds : zLaw := by
  intro n b L xs hL hb
  obtain ⟨h0, hh⟩ : ∃ h0, h0 = zM0 n b L xs := ⟨_, rfl⟩
  have h1 : h0.1 = (n + 1, 0, 0) := by rw [hh]; rfl
  have kS : zK h0 (b + 1) = 200 := by rw [hh]; simp [zK, zM0]
  have nS : zN h0 (b + 1) = L := by rw [hh]; simp [zN, zM0]
  have iS : h0.2.2.1 (b + 1) = xs := by rw [hh]; simp [zM0]
  rw [← hh]
  show ∃ h1 : zM, zrun zf zr_L_law [.inr (b + 1)] h0 = some (1, 0, h1) ∧ h1.1.2.1 ≤ 548659 ∧ h1.1.2.2 ≤ 7456272
  have hx : h0.1.1 = n + 1 := by rw [h1]
  have hx2 : h0.1.2.1 = 0 := by rw [h1]
  have hx3 : h0.1.2.2 = 0 := by rw [h1]
  rw [e_L_law]
  obtain ⟨o1, o2, o3, o4⟩ := n_obj (h := h0) (n := 15) (k := 12)
  obtain ⟨z1, b1, b2, b3⟩ := n_bench (y := h0.1.1) (by omega) o2 o4
  rw [zif_ok o2, b1, Option.bind_some]
  dsimp only
  obtain ⟨q1, q2, q3, q4⟩ := n_obj (h := z1) (n := 93) (k := 13)
  have N1 := o1.tr b2 (Nat.le_refl _)
  have m1 : z1.1.1 = h0.1.1 + 8091 := by rw [N1.1]
  have m2 : z1.1.2.1 = h0.1.2.1 + 8091 := by rw [N1.1]
  have m3 : z1.1.2.2 = h0.1.2.2 + 469549 := by rw [N1.1]
  obtain ⟨z2, c1, c2, c3⟩ := n_ref (y := z1.1.1) (by omega) q2 q4 q3
  rw [zif_ok q2, c1, Option.bind_some]
  dsimp only
  have N2 := q1.tr c2 (Nat.le_refl _)
  have p2 : z2.1.2.1 = z1.1.2.1 + 74 := by rw [N2.1]
  have p3 : z2.1.2.2 = z1.1.2.2 + 1617480 := by rw [N2.1]
  obtain ⟨s1, s2, s3⟩ := N1.2 (b + 1) (by omega)
  obtain ⟨t1, t2, t3⟩ := N2.2 (b + 1) (by omega)
  obtain ⟨h', r1, r2⟩ := law_loop (n := L) (a0 := b + 1) (x := h0.1.1) (m := z1.1.1) (xs := xs) (L + 6) 0 z2 (fun _ => newM 0, [], none, 0, none, []) (by omega) (by omega) ⟨b3.al0 (N2.lo (by omega)), c3, ⟨((congrArg Prod.fst t1).trans (congrArg Prod.fst s1)).trans kS, ((congrArg Prod.snd t1).trans (congrArg Prod.snd s1)).trans nS, hL, (t2.trans s2).trans iS⟩, by omega, by omega⟩
  refine ⟨h', r1, ?_, ?_⟩
  · rw [r2]; omega
  · rw [r2]; omega
end LAST
