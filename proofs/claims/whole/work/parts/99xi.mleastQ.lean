/-! The reference: what the least machine tells. -/
/-- there is one, or not -/
def LOm (h : zM) (m : Nat) (o : Option zLz) : Prop := zI h m 78 = bI o.isSome ∧ ∀ Z, o = some Z → LZm h m Z ∧ Z.1 ≤ 100 ∧ zOk Z
theorem LTm.lo {h : zM} {m : Nat} {L : Option zMa} (d : LTm h m L) : LOm h m (lzO L) := by
  refine ⟨d.2.1, fun Z e => ?_⟩
  cases L with
  | none => cases e
  | some M =>
    obtain ⟨k, hf, lz⟩ := d.2.2 M rfl
    by_cases c : sqA M = 1
    · rw [lzO_1 c] at e
      have sg := sqA_good k hf c
      have eZ : Z = lsZ M := (Option.some.inj e).symm
      have lp : (lsP M).length ≤ (sMake M).1.length := lsP_len sg
      have hN := sg.2.2.2
      rw [eZ]
      exact ⟨lz c, by rw [lsZ_1]; omega, lsZ_ok sg⟩
    · rw [lzO_n c] at e
      cases e
section LQM
variable {h : zM} {m : Nat} {o : Option zLz} {Z : zLz}
theorem s_misL1 (lay : MLay h m) (d : LOm h m (some Z)) {q : Int32} (c0 : ¬ q < 0) (c1 : q < nI Z.1) : zf nX12_isLeast [.inr m, .inl q] h = some (1, 0, h) := by
  obtain ⟨lz, hZ, -⟩ := d.2 Z rfl
  rw [e_X12_isLeast, mi78 lay, Option.bind_some, d.1, if_neg (show ¬ bI (some Z).isSome = 0 from (by decide : ¬ bI true = 0)), if_neg c0, mi79 lay, Option.bind_some, lz.1, if_pos c1, zb1]
theorem s_misL0 (lay : MLay h m) (d : LOm h m o) {q : Int32} (hn : ∀ Z, o = some Z → q < 0 ∨ ¬ q < nI Z.1) : zf nX12_isLeast [.inr m, .inl q] h = some (0, 0, h) := by
  rw [e_X12_isLeast, mi78 lay, Option.bind_some, d.1]
  cases o with
  | none => rw [if_pos (show bI (none : Option zLz).isSome = 0 from rfl), zb0]
  | some Z =>
    obtain ⟨lz, hZ, -⟩ := d.2 Z rfl
    rw [if_neg (show ¬ bI (some Z).isSome = 0 from (by decide : ¬ bI true = 0))]
    by_cases c0 : q < 0
    · rw [if_pos c0, zb0]
    · rw [if_neg c0, mi79 lay, Option.bind_some, lz.1, if_neg ((hn Z rfl).resolve_left c0), zb0]
theorem s_rtold {L : Option zMa} (lay : MLay h m) (d : LTm h m L) (w : Int32) : zf nX12_told [.inr m, .inl w] h = some (aTold L w, 0, h) := by
  rw [e_X12_told]
  have no : (∀ k, k < 5 → w ≠ nI k) → aTold L w = -1 := fun hn => by
    unfold aTold
    cases L with
    | none => rfl
    | some M =>
      dsimp only
      rw [if_neg (show ¬ w = 0 from hn 0 (by omega)), if_neg (show ¬ w = 1 from hn 1 (by omega)), if_neg (show ¬ w = 2 from hn 2 (by omega)), if_neg (show ¬ w = 3 from hn 3 (by omega)), if_neg (show ¬ w = 4 from hn 4 (by omega))]
  by_cases c0 : w < 0
  · rw [if_pos c0, no (fun k hk e => nI_nn (n := k) (by omega) (by rw [← e]; exact c0))]
  · rw [if_neg c0]
    by_cases c5 : w < nI 5
    · obtain ⟨k, hk, rfl⟩ := i32_nn c0 c5 (by omega)
      rw [show (5 : Int32) = nI 5 from rfl, if_pos c5, mF63 lay, Option.bind_some, mr63 lay hk, Option.bind_some, d.1 k hk]
    · rw [show (5 : Int32) = nI 5 from rfl, if_neg c5, no (fun k hk e => c5 (by rw [e, nI_ltI (by omega) (by omega)]; exact hk))]
theorem s_rgoes (lay : MLay h m) (d : LOm h m o) (q l : Int32) : zf nX12_goes [.inr m, .inl q, .inl l] h = some (aGoesL o q l, 0, h) := by
  rw [e_X12_goes, zif_ok lay.1]
  cases o with
  | none =>
    rw [s_misL0 lay d (fun Z e => by cases e), Option.bind_some]
    dsimp only
    rw [if_pos rfl]
    rfl
  | some Z =>
    obtain ⟨lz, hZ, -⟩ := d.2 Z rfl
    have ea : aGoesL (some Z) q l = aGoes Z q l := rfl
    rw [ea]
    by_cases c0 : q < 0
    · rw [s_misL0 lay d (fun Z' e => by cases e; exact Or.inl c0), Option.bind_some]
      dsimp only
      rw [if_pos rfl, aGoes_q0 c0]
    · by_cases c1 : q < nI Z.1
      · rw [s_misL1 lay d c0 c1, Option.bind_some]
        dsimp only
        rw [if_neg (by decide)]
        obtain ⟨q, hq, rfl⟩ := i32_nn c0 c1 (by omega)
        by_cases l1 : l < 1
        · rw [if_pos l1, aGoes_l (fun w => w.1 l1)]
        · rw [if_neg l1]
          by_cases l3 : 3 < l
          · rw [if_pos l3, aGoes_l (fun w => w.2 l3)]
          · obtain ⟨b, b1, b2, rfl⟩ := z_letter ⟨l1, l3⟩
            have hw := ((lz.2.2 q hq).2 (b - 1) (by omega)).2
            rw [show 4 * q + (b - 1 + 1) = 4 * q + b by omega] at hw
            rw [if_neg l3, mF80 lay, Option.bind_some, n4, pk_mul, nI_add, mr80 lay (by omega), Option.bind_some, hw, aGoes_n (by omega) hq ⟨b1, b2⟩]
            cases Z.2.2.2 (3 * q + (b - 1)) <;> rfl
      · rw [s_misL0 lay d (fun Z' e => by cases e; exact Or.inr c1), Option.bind_some]
        dsimp only
        rw [if_pos rfl, aGoes_q1 c1]
/-- one word of it -/
theorem s_rword {A B W i : Nat} {u : zWo} {k : Int32} (hu : u.length < 2 ^ 30) (sz : zI h (m + A) i = nI u.length) (rd : ∀ j, j < u.length → zba h (m + B) (nI (W * i + j)) = some (u.getD j 0)) : (if k < 0 then some ((-1 : Int32), 0, h) else if k < nI u.length then (zba h (m + B) (nI (W * i) + k)).bind fun v => some (v, 0, h) else some ((-1 : Int32), 0, h)) = some (wAt u k, 0, h) := by
  unfold wAt
  by_cases c0 : k < 0
  · rw [if_pos c0, if_pos c0]
  · rw [if_neg c0, if_neg c0]
    by_cases c1 : k < nI u.length
    · obtain ⟨j, hj, rfl⟩ := i32_nn c0 c1 hu
      rw [if_pos c1, if_pos c1, nI_add, rd j hj, Option.bind_some, nI_clamp (by omega)]
    · rw [if_neg c1, if_neg c1]
theorem s_rwrites (lay : MLay h m) (d : LOm h m o) (q l k : Int32) : zf nX12_writes [.inr m, .inl q, .inl l, .inl k] h = some (aWrites o q l k, 0, h) := by
  rw [e_X12_writes]
  by_cases cq : q = -1
  · rw [if_pos cq, mi78 lay, Option.bind_some, d.1]
    cases o with
    | none =>
      rw [if_pos (show bI (none : Option zLz).isSome = 0 from rfl)]
      rfl
    | some Z =>
      obtain ⟨lz, hZ, -⟩ := d.2 Z rfl
      obtain ⟨b1, b2, b3, b4⟩ := lz.2.1
      have ea : aWrites (some Z) q l k = wAt Z.2.1 k := by
        show (match aWord Z q l with | none => -2 | some u => wAt u k) = _
        rw [cq, aWord_1]
      rw [if_neg (show ¬ bI (some Z).isSome = 0 from (by decide : ¬ bI true = 0)), ea]
      unfold wAt
      by_cases c0 : k < 0
      · rw [if_pos c0, if_pos c0]
      · rw [if_neg c0, if_neg c0, mi83 lay, Option.bind_some, b1]
        by_cases c1 : k < nI Z.2.1.length
        · obtain ⟨j, hj, rfl⟩ := i32_nn c0 c1 (by omega)
          have := b2 j hj
          rw [Nat.zero_add] at this
          rw [if_pos c1, if_pos c1, mF84 lay, Option.bind_some, mr84 lay (by omega), Option.bind_some, this, nI_clamp (by omega)]
        · rw [if_neg c1, if_neg c1]
  · rw [if_neg cq, zif_ok lay.1]
    cases o with
    | none =>
      rw [s_misL0 lay d (fun Z e => by cases e), Option.bind_some]
      dsimp only
      rw [if_pos rfl]
      rfl
    | some Z =>
      obtain ⟨lz, hZ, -⟩ := d.2 Z rfl
      have ea : aWrites (some Z) q l k = (match aWord Z q l with | none => -2 | some u => wAt u k) := rfl
      rw [ea]
      by_cases c0 : q < 0
      · rw [s_misL0 lay d (fun Z' e => by cases e; exact Or.inl c0), Option.bind_some]
        dsimp only
        rw [if_pos rfl, aWord_q0 cq c0]
      · by_cases c1 : q < nI Z.1
        · rw [s_misL1 lay d c0 c1, Option.bind_some]
          dsimp only
          rw [if_neg (by decide)]
          obtain ⟨q, hq, rfl⟩ := i32_nn c0 c1 (by omega)
          by_cases l0 : l < 0
          · rw [if_pos l0, aWord_no cq (fun e => by rw [e] at l0; exact absurd l0 (by decide)) (fun w => w.1 (Int32.lt_trans l0 (by decide)))]
          · rw [if_neg l0]
            by_cases l3 : 3 < l
            · rw [if_pos l3, aWord_no cq (fun e => by rw [e] at l3; exact absurd l3 (by decide)) (fun w => w.2 l3)]
            · rw [if_neg l3]
              -- its word
              have main : ∀ b, b < 4 → l = nI b → OWB h m 64 65 780 (4 * q + b) (aWord Z (nI q) (nI b)) → (zgF h m 12 81).bind (fun r2 => (zia h r2 (((4 : Int32) * nI q) + nI b)).bind fun v4 => if v4 < 0 then some ((-2 : Int32), 0, h) else if k < 0 then some ((-1 : Int32), 0, h) else (zgF h m 12 81).bind fun r3 => (zia h r3 (((4 : Int32) * nI q) + nI b)).bind fun v5 => if k < v5 then (zgF h m 12 82).bind fun r4 => (zba h r4 (((780 : Int32) * (((4 : Int32) * nI q) + nI b)) + k)).bind fun v6 => some (v6, 0, h) else some ((-1 : Int32), 0, h)) = some (match aWord Z (nI q) (nI b) with | none => -2 | some u => wAt u k, 0, h) := fun b hb _ ow => by
                rw [mF81 lay, Option.bind_some, n4, pk_mul, nI_add, mr81 lay (by omega), Option.bind_some]
                cases e : aWord Z (nI q) (nI b) with
                | none =>
                  rw [e] at ow
                  rw [show zI h (m + 64) (4 * q + b) = -1 from ow, if_pos (by decide)]
                | some u =>
                  rw [e] at ow
                  obtain ⟨u1, u2, u3, u4⟩ := (show zI h (m + 64) (4 * q + b) = nI u.length ∧ Rw h (m + 65) (780 * (4 * q + b)) u ∧ u.length ≤ 780 ∧ LOk u from ow)
                  rw [u1, if_neg (nI_nn (by omega)), Option.bind_some, mr81 lay (by omega), Option.bind_some, u1, mF82 lay, n780, pk_mul]
                  exact s_rword (A := 64) (W := 780) (by omega) u1 (fun j hj => by rw [mr82 lay (by omega), u2 j hj])
              by_cases lz0 : l = 0
              · have e0 : l = nI 0 := lz0
                have := main 0 (by omega) e0 (by
                  rw [show nI 0 = (0 : Int32) from rfl, aWord_0 (by omega) hq]
                  exact (lz.2.2 q hq).1)
                rw [e0]
                exact this
              · have l1 : ¬ l < 1 := fun w => by
                  apply lz0
                  rw [Int32.lt_iff_toInt_lt] at w l0
                  apply Int32.toInt_inj.mp
                  have e1 : (1 : Int32).toInt = 1 := by decide
                  have e2 : (0 : Int32).toInt = 0 := by decide
                  omega
                obtain ⟨b, b1, b2, rfl⟩ := z_letter ⟨l1, l3⟩
                have hw := ((lz.2.2 q hq).2 (b - 1) (by omega)).1
                rw [show 4 * q + (b - 1 + 1) = 4 * q + b by omega] at hw
                exact main b (by omega) rfl (by rw [aWord_l (by omega) hq ⟨b1, b2⟩]; exact hw)
        · rw [s_misL0 lay d (fun Z' e => by cases e; exact Or.inr c1), Option.bind_some]
          dsimp only
          rw [if_pos rfl, aWord_q1 cq c1]
/-- what was acted -/
def UAm (h : zM) (m : Nat) (u : zWo) : Prop := zI h m 90 = nI u.length ∧ Rw h (m + 72) 0 u ∧ u.length ≤ 9000
theorem UAm.k {h' : zM} {u : zWo} {L J : List Nat} (d : UAm h m u) (f : zOf m L J h h') (hL : 72 ∉ L) (hJ : 90 ∉ J) : UAm h' m u := ⟨(f.J hJ).trans d.1, d.2.1.of (fun j _ => f.C (by decide) hL _), d.2.2⟩
theorem s_racted {u : zWo} (lay : MLay h m) (d : UAm h m u) (k : Int32) : zf nX12_acted [.inr m, .inl k] h = some (wAt u k, 0, h) := by
  obtain ⟨d1, d2, d3⟩ := d
  rw [e_X12_acted]
  unfold wAt
  by_cases c0 : k < 0
  · rw [if_pos c0, if_pos c0]
  · rw [if_neg c0, if_neg c0, mi90 lay, Option.bind_some, d1]
    by_cases c1 : k < nI u.length
    · obtain ⟨j, hj, rfl⟩ := i32_nn c0 c1 (by omega)
      have := d2 j hj
      rw [Nat.zero_add] at this
      rw [if_pos c1, if_pos c1, mF91 lay, Option.bind_some, mr91 lay (by omega), Option.bind_some, this, nI_clamp (by omega)]
    · rw [if_neg c1, if_neg c1]
theorem s_rbehind {e : Nat} {u w : zWo} (lay : MLay h m) (he : e < 404) (ow : OWB h m 64 65 780 e (some w)) (ru : Rw h (m + 73) 0 u) (hl : u.length + w.length ≤ 9000) :
    ∃ h', zf nX12_behindAct [.inr m, .inl (nI u.length), .inl (nI e)] h = some (nI (u ++ w).length, 0, h') ∧ zOf m [73] [] h h' ∧ Rw h' (m + 73) 0 (u ++ w) := by
  obtain ⟨w1, w2, w3, w4⟩ := ow
  have al : (u ++ w).length = u.length + w.length := List.length_append
  have cp := zwr (g := fun j z => zm_X12_behindAct 2 [some (.inr m), some (.inl (nI u.length)), some (.inl (nI e)), some (.inl (nI j))] [] z) (h := h) (a := m + 73) (p := u.length) (n := w.length) (f := fun j => w.getD j 0) (fun j hj => by
    have oz : zOf m [73] [] h (zWr h (m + 73) u.length j fun j => w.getD j 0) := zOf_Wr (by decide) (by decide)
    have lz := oz.lay lay
    have x0 : zia (zWr h (m + 73) u.length j fun j => w.getD j 0) (m + 64) (nI e) = some (nI w.length) := by rw [mr81 lz he, oz.C (by decide) (by decide), w1]
    have x1 : zba (zWr h (m + 73) u.length j fun j => w.getD j 0) (m + 65) (nI (780 * e + j)) = some (w.getD j 0) := by rw [mr82 lz (by omega), oz.C (by decide) (by decide), w2 j hj]
    rw [e_X12_behindAct_2, mF81 lz, Option.bind_some, x0, Option.bind_some, if_pos ((nI_ltI (by omega) (by omega)).mpr hj), mF92 lz, Option.bind_some, mF82 lz, Option.bind_some, n780, pk_mul, nI_add, x1, Option.bind_some, nI_add, mw92 lz (by omega), Option.bind_some, nI_1, w4.byte hj])
  have o1 : zOf m [73] [] h (zWr h (m + 73) u.length w.length fun j => w.getD j 0) := zOf_Wr (by decide) (by decide)
  refine Exists.elim (show ∃ z, z = zWr h (m + 73) u.length w.length fun j => w.getD j 0 from ⟨_, rfl⟩) fun z hz => ?_
  rw [← hz] at cp o1
  have lz := o1.lay lay
  have x0 : zia z (m + 64) (nI e) = some (nI w.length) := by rw [mr81 lz he, o1.C (by decide) (by decide), w1]
  refine ⟨z, ?_, o1, ?_⟩
  · rw [e_X12_behindAct]
    refine (show _ = _ from cp).trans ?_
    rw [e_X12_behindAct_2, mF81 lz, Option.bind_some, x0, Option.bind_some, if_neg (by rw [nI_ltI (by omega) (by omega)]; omega), Option.bind_some, x0, Option.bind_some, nI_add, al]
  · rw [hz]
    refine Rw.app (ru.of (fun j hj => zI_Wr_out (by omega))) (fun j hj => ?_)
    rw [Nat.zero_add, zI_Wr_at hj]
end LQM
