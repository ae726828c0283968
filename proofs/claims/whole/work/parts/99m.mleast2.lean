/-! The reference: the two least outputs. -/
theorem toInt_nI {a : Nat} (h : a < 2 ^ 31) : (nI a).toInt = (a : Int) := by
  unfold nI
  exact Int32.toInt_ofNat_of_lt h
theorem i32_sub {a b : Nat} (ha : a < 2 ^ 30) (hb : b < 2 ^ 30) : (nI a - nI b = 0 ↔ a = b) ∧ (nI a - nI b < 0 ↔ a < b) := by
  have h1 : (nI a - nI b).toInt = (a : Int) - (b : Int) := by
    rw [Int32.toInt_sub, toInt_nI (by omega), toInt_nI (by omega)]
    exact Int.bmod_eq_of_le (by omega) (by omega)
  have h0 : (0 : Int32).toInt = 0 := by decide
  refine ⟨⟨fun e => ?_, fun e => ?_⟩, ?_⟩
  · rw [e, h0] at h1
    omega
  · rw [e, pk_sub (Nat.le_refl _), Nat.sub_self]
    rfl
  · rw [Int32.lt_iff_toInt_lt, h1, h0]
    omega
/-- one slot -/
def slR (h : zM) (m Z B k : Nat) (o : Option zWo) : Prop := match o with
  | none => zI h (m + Z) k = -1
  | some w => zI h (m + Z) k = nI w.length ∧ Rw h (m + B) (13000 * k) w ∧ w.length ≤ 390 ∧ LOk w
/-- two slots a state -/
def SL (h : zM) (m Z B : Nat) (T : zTl) : Prop := ∀ q, q < 6 → (T q).length ≤ 2 ∧ srt (T q) ∧ ∀ b, b < 2 → slR h m Z B (2 * q + b) (T q)[b]?
def ON (h : zM) (m : Nat) (w : zWo) : Prop := Rw h (m + 28) 0 w ∧ w.length ≤ 390 ∧ LOk w
theorem slR.of {h h' : zM} {m Z B k : Nat} {o : Option zWo} (d : slR h m Z B k o) (e1 : zI h' (m + Z) k = zI h (m + Z) k) (e2 : ∀ j, j < 13000 → zI h' (m + B) (13000 * k + j) = zI h (m + B) (13000 * k + j)) : slR h' m Z B k o := by
  cases o with
  | none => exact e1.trans d
  | some w => exact ⟨e1.trans d.1, d.2.1.of (fun j hj => e2 j (by have := d.2.2.1; omega)), d.2.2⟩
theorem slR.o {h h' : zM} {m Z B k : Nat} {o : Option zWo} {L J : List Nat} (d : slR h m Z B k o) (f : zOf m L J h h') (h1 : 0 < Z ∧ Z ∉ L) (h2 : 0 < B ∧ B ∉ L) : slR h' m Z B k o := d.of (f.C h1.1 h1.2 _) (fun _ _ => f.C h2.1 h2.2 _)
theorem SL.o {h h' : zM} {m Z B : Nat} {T : zTl} {L J : List Nat} (d : SL h m Z B T) (f : zOf m L J h h') (h1 : 0 < Z ∧ Z ∉ L) (h2 : 0 < B ∧ B ∉ L) : SL h' m Z B T := fun q hq => ⟨(d q hq).1, (d q hq).2.1, fun b hb => ((d q hq).2.2 b hb).o f h1 h2⟩
theorem ON.o {h h' : zM} {m : Nat} {w : zWo} {L J : List Nat} (d : ON h m w) (f : zOf m L J h h') (h1 : 28 ∉ L) : ON h' m w := ⟨d.1.of (fun _ _ => f.C (by omega) h1 _), d.2⟩
theorem slR.sz {h : zM} {m Z B k : Nat} {o : Option zWo} (d : slR h m Z B k o) : (zI h (m + Z) k < 0 ↔ o = none) := by
  cases o with
  | none =>
    have d : zI h (m + Z) k = -1 := d
    rw [d]
    exact ⟨fun _ => rfl, fun _ => by decide⟩
  | some w =>
    have := d.2.2.1
    rw [d.1]
    exact ⟨fun q => absurd q (nI_nn (by omega)), fun q => by cases q⟩
/-- the order of what is in one against a slot -/
theorem s_morder {h : zM} {m k : Nat} {w x : zWo} (lay : MLay h m) (hk : k < 12) (a : ON h m w) (d : slR h m 25 27 k (some x)) : ∃ v, zf nX12_order [.inr m, .inl (nI w.length), .inl (nI k)] h = some (v, 0, h) ∧ (v = 0 ↔ w = x) ∧ (v < 0 ↔ wlt w x = true) := by
  obtain ⟨d1, d2, d3, d4⟩ := d
  obtain ⟨a1, a2, a3⟩ := a
  rw [e_X12_order, mF28 lay, Option.bind_some, mr28 lay hk, Option.bind_some, d1]
  by_cases c : w.length = x.length
  · rw [if_pos (by rw [c])]
    have hlt : wlt w x = decide (lcp w x < w.length ∧ w.getD (lcp w x) 0 < x.getD (lcp w x) 0) := by
      rw [wlt_eq, decide_eq_false (show ¬ w.length < x.length by omega), decide_eq_true c, Bool.false_or, Bool.true_and, lexlt_lcp w x c]
    have hle := lcp_le w x
    have al := lcp_all c
    have loop : ∀ (f i : Nat), f + i = lcp w x → ∃ v, zm_X12_order 21 [some (.inr m), some (.inl (nI w.length)), some (.inl (nI k)), some (.inl (nI i))] [] h = some (v, 0, h) ∧ (v = 0 ↔ w = x) ∧ (v < 0 ↔ wlt w x = true) := by
      intro f
      induction f with
      | zero =>
        intro i hi
        have hi : i = lcp w x := by omega
        subst hi
        have sp := lcp_spec w x (lcp w x) (Nat.le_refl _)
        rw [e_X12_order_21]
        by_cases c2 : lcp w x < w.length
        · have r1 := a1 _ c2
          have r2 := d2 (lcp w x) (by omega)
          rw [Nat.zero_add] at r1
          have hne : ¬ w.getD (lcp w x) 0 = x.getD (lcp w x) 0 := fun e => Nat.lt_irrefl _ (sp.mp ⟨c2, by omega, e⟩)
          rw [if_pos ((nI_ltI (by omega) (by omega)).mpr c2)]
          simp only [mF31 lay, mF30 lay, Option.bind_some, mr31 lay (show lcp w x < 13000 by omega), r1, n13000, pk_mul, nI_add, mr30 lay (show 13000 * k + lcp w x < 156000 by omega), r2]
          rw [if_neg hne]
          obtain ⟨e1, b1, b2, b3⟩ := a3.at c2
          obtain ⟨e2, b4, b5, b6⟩ := d4.at (show lcp w x < x.length by omega)
          refine ⟨_, rfl, ?_, ?_⟩
          · rw [b3, b6, (i32_sub (by omega) (by omega)).1]
            constructor
            · intro e
              rw [b3, b6, e] at hne
              exact absurd rfl hne
            · intro e
              have := al.mpr e
              omega
          · rw [b3, b6, (i32_sub (by omega) (by omega)).2, hlt, decide_eq_true_iff, b3, b6, nI_ltI (by omega) (by omega)]
            exact ⟨fun e => ⟨c2, e⟩, fun e => e.2⟩
        · rw [if_neg (by rw [nI_ltI (by omega) (by omega)]; exact c2)]
          refine ⟨0, rfl, ⟨fun _ => al.mp (by omega), fun _ => rfl⟩, ?_⟩
          rw [hlt, decide_eq_true_iff]
          exact ⟨fun e => absurd e (by decide), fun e => absurd e.1 c2⟩
      | succ f ih =>
        intro i hi
        have sp := (lcp_spec w x i (by omega)).mpr (by omega)
        have r1 := a1 _ sp.1
        have r2 := d2 i (by omega)
        rw [Nat.zero_add] at r1
        rw [e_X12_order_21, if_pos ((nI_ltI (by omega) (by omega)).mpr sp.1)]
        simp only [mF31 lay, mF30 lay, Option.bind_some, mr31 lay (show i < 13000 by omega), r1, n13000, pk_mul, nI_add, mr30 lay (show 13000 * k + i < 156000 by omega), r2]
        rw [if_pos sp.2.2, nI_1]
        exact ih (i + 1) (by omega)
    exact loop (lcp w x) 0 rfl
  · rw [if_neg (by rw [nI_eq (by omega) (by omega)]; exact c)]
    simp only [mF28 lay, Option.bind_some, mr28 lay hk, d1]
    obtain ⟨e1, e2⟩ := i32_sub (a := w.length) (b := x.length) (by omega) (by omega)
    refine ⟨_, rfl, ?_, ?_⟩
    · rw [e1]
      exact ⟨fun e => absurd e c, fun e => by rw [e]⟩
    · rw [e2, wlt_eq, decide_eq_false c, Bool.false_and, Bool.or_false, decide_eq_true_iff]
theorem byte_at {w : zWo} (h : LOk w) {j : Nat} (hj : j < w.length) : (w.getD j 0).toInt8.toInt32 = w.getD j 0 := h.byte hj
/-- a slot is written -/
theorem s_mput {h : zM} {m q p : Nat} {w : zWo} (lay : MLay h m) (hq : q < 6) (hp : p < 2) (a : ON h m w) :
    ∃ h', ((zgF h m 12 28).bind fun r4 => (zis h r4 (((2 : Int32) * nI q) + nI p) (nI w.length)).bind fun h3 => zm_X12_offers 108 [some (.inr m), some (.inl (nI q)), some (.inl (nI w.length)), some (.inl (nI p)), some (.inl (0 : Int32)), none] [] h3) = some (0, 0, h') ∧ zOf m [25, 27] [] h h' ∧ slR h' m 25 27 (2 * q + p) (some w) ∧ ∀ k, k ≠ 2 * q + p → ∀ o, slR h m 25 27 k o → slR h' m 25 27 k o := by
  obtain ⟨a1, a2, a3⟩ := a
  simp only [mF28 lay, Option.bind_some, n2, pk_mul, nI_add, mw28 lay (show 2 * q + p < 12 by omega)]
  generalize hz : zsI h (m + 25) (2 * q + p) (nI w.length) = z
  have o1 : zOf m [25, 27] [] h z := by rw [← hz]; exact zOf_sI (by decide) (by decide)
  have layz := o1.lay lay
  have r1 : ∀ j, zI z (m + 28) j = zI h (m + 28) j := fun j => o1.C (by decide) (by decide) j
  have cp := zwr (g := fun i z => zm_X12_offers 108 [some (.inr m), some (.inl (nI q)), some (.inl (nI w.length)), some (.inl (nI p)), some (.inl (nI i)), none] [] z) (h := z) (a := m + 27) (p := 13000 * (2 * q + p)) (n := w.length) (f := fun j => w.getD j 0) (fun i hi => by
    have layw : MLay (zWr z (m + 27) (13000 * (2 * q + p)) i fun j => w.getD j 0) m := (zOf_Wr (L := [27]) (J := []) (by decide) (by decide)).lay layz
    have e := a1 i hi
    rw [Nat.zero_add] at e
    rw [e_X12_offers_108, if_pos ((nI_ltI (by omega) (by omega)).mpr hi)]
    simp only [mF30 layw, mF31 layw, Option.bind_some, mr31 layw (show i < 13000 by omega), zI_Wr_a (show m + 28 ≠ m + 27 by omega), r1, e, n13000, n2, pk_mul, nI_add, mw30 layw (show 13000 * (2 * q + p) + i < 156000 by omega), byte_at a3 hi, nI_1])
  refine ⟨zWr z (m + 27) (13000 * (2 * q + p)) w.length fun j => w.getD j 0, ?_, o1.tr (zOf_Wr (by decide) (by decide)), ⟨?_, fun j hj => zI_Wr_at hj, a2, a3⟩, fun k hk o d => d.of ?_ (fun j hj => ?_)⟩
  · rw [n0]
    refine Eq.trans cp ?_
    rw [e_X12_offers_108, if_neg (by rw [nI_ltI (by omega) (by omega)]; omega)]
    rfl
  · rw [zI_Wr_a (by omega), ← hz, zI_sI]
  · rw [zI_Wr_a (by omega), ← hz, zI_sI_k hk]
  · have : 13000 * k + j < 13000 * (2 * q + p) ∨ 13000 * (2 * q + p) + 13000 ≤ 13000 * k + j := by
      rcases Nat.lt_or_gt_of_ne hk with h1 | h1
      · left
        have := Nat.mul_le_mul_left 13000 (show k + 1 ≤ 2 * q + p from h1)
        omega
      · right
        have := Nat.mul_le_mul_left 13000 (show 2 * q + p + 1 ≤ k from h1)
        omega
    rw [zI_Wr_out (by omega), ← hz, zI_sI_a (by omega)]
/-- a slot's word comes to the one behind it -/
theorem s_mmoves {h : zM} {m q : Nat} {x : zWo} (lay : MLay h m) (hq : q < 6) (d : slR h m 25 27 (2 * q) (some x)) :
    ∃ h', zf nX12_moves [.inr m, .inl (nI (2 * q)), .inl (nI (2 * q + 1))] h = some (0, 0, h') ∧ zOf m [25, 27] [] h h' ∧ slR h' m 25 27 (2 * q + 1) (some x) ∧ ∀ k, k ≠ 2 * q + 1 → ∀ o, slR h m 25 27 k o → slR h' m 25 27 k o := by
  obtain ⟨a1, a2, a3, a4⟩ := d
  rw [e_X12_moves]
  simp only [mF28 lay, Option.bind_some, mr28 lay (show 2 * q < 12 by omega), a1, mw28 lay (show 2 * q + 1 < 12 by omega)]
  generalize hz : zsI h (m + 25) (2 * q + 1) (nI x.length) = z
  have o1 : zOf m [25, 27] [] h z := by rw [← hz]; exact zOf_sI (by decide) (by decide)
  have layz := o1.lay lay
  have s1 : zI z (m + 25) (2 * q) = nI x.length := by rw [← hz, zI_sI_k (by omega)]; exact a1
  have r1 : ∀ j, zI z (m + 27) j = zI h (m + 27) j := fun j => by rw [← hz]; exact zI_sI_a (by omega)
  have cp := zwr (g := fun i z => zm_X12_moves 14 [some (.inr m), some (.inl (nI (2 * q))), some (.inl (nI (2 * q + 1))), some (.inl (nI i))] [] z) (h := z) (a := m + 27) (p := 13000 * (2 * q + 1)) (n := x.length) (f := fun j => x.getD j 0) (fun i hi => by
    have layw : MLay (zWr z (m + 27) (13000 * (2 * q + 1)) i fun j => x.getD j 0) m := (zOf_Wr (L := [27]) (J := []) (by decide) (by decide)).lay layz
    have e : zI (zWr z (m + 27) (13000 * (2 * q + 1)) i fun j => x.getD j 0) (m + 27) (13000 * (2 * q) + i) = x.getD i 0 := by
      rw [zI_Wr_out (by omega), r1]
      exact a2 i hi
    rw [e_X12_moves_14]
    simp only [mF28 layw, mF30 layw, Option.bind_some, mr28 layw (show 2 * q < 12 by omega), zI_Wr_a (show m + 25 ≠ m + 27 by omega), s1, if_pos ((nI_ltI (show i < 2 ^ 31 by omega) (show x.length < 2 ^ 31 by omega)).mpr hi), n13000, pk_mul, nI_add, mr30 layw (show 13000 * (2 * q) + i < 156000 by omega), e, mw30 layw (show 13000 * (2 * q + 1) + i < 156000 by omega), byte_at a4 hi, nI_1])
  have layf : MLay (zWr z (m + 27) (13000 * (2 * q + 1)) x.length fun j => x.getD j 0) m := (zOf_Wr (L := [27]) (J := []) (by decide) (by decide)).lay layz
  refine ⟨zWr z (m + 27) (13000 * (2 * q + 1)) x.length fun j => x.getD j 0, ?_, o1.tr (zOf_Wr (by decide) (by decide)), ⟨?_, fun j hj => zI_Wr_at hj, a3, a4⟩, fun k hk o d => d.of ?_ (fun j hj => ?_)⟩
  · rw [n0]
    refine Eq.trans cp ?_
    rw [e_X12_moves_14, mF28 layf, Option.bind_some, mr28 layf (by omega), Option.bind_some, zI_Wr_a (by omega), s1, if_neg (by rw [nI_ltI (by omega) (by omega)]; omega)]
    rfl
  · rw [zI_Wr_a (by omega), ← hz, zI_sI]
  · rw [zI_Wr_a (by omega), ← hz, zI_sI_k hk]
  · have : 13000 * k + j < 13000 * (2 * q + 1) ∨ 13000 * (2 * q + 1) + 13000 ≤ 13000 * k + j := by
      rcases Nat.lt_or_gt_of_ne hk with h1 | h1
      · left
        have := Nat.mul_le_mul_left 13000 (show k + 1 ≤ 2 * q + 1 from h1)
        omega
      · right
        have := Nat.mul_le_mul_left 13000 (show 2 * q + 1 + 1 ≤ k from h1)
        omega
    rw [zI_Wr_out (by omega), r1]
/-- a word is offered to a state's two -/
theorem s_moffers {h : zM} {m q : Nat} {w : zWo} {T : zTl} (lay : MLay h m) (hq : q < 6) (a : ON h m w) (d : SL h m 25 27 T) :
    ∃ h', zf nX12_offers [.inr m, .inl (nI q), .inl (nI w.length)] h = some (0, 0, h') ∧ zOf m [25, 27] [] h h' ∧ SL h' m 25 27 (va_up T q (ins2 w (T q))) := by
  obtain ⟨l2, st, sl⟩ := d q hq
  have s0 := sl 0 (by omega)
  have s1 := sl 1 (by omega)
  rw [Nat.add_zero] at s0
  have a2 := a.2.1
  have srt2 : srt (ins2 w (T q)) := (insU_srt st).sublist (List.take_sublist _ _)
  -- what stands behind all
  have fin : ∀ (h' : zM), zOf m [25, 27] [] h h' → slR h' m 25 27 (2 * q) (ins2 w (T q))[0]? → slR h' m 25 27 (2 * q + 1) (ins2 w (T q))[1]? → (∀ k, k ≠ 2 * q → k ≠ 2 * q + 1 → ∀ o, slR h m 25 27 k o → slR h' m 25 27 k o) → SL h' m 25 27 (va_up T q (ins2 w (T q))) := fun h' o r0 r1 rk q' hq' => by
    rw [va_up_both]
    by_cases e : q' = q
    · rw [if_pos e, e]
      refine ⟨ins2_len _ _, srt2, fun b hb => ?_⟩
      by_cases eb : b = 0
      · rw [eb, Nat.add_zero]; exact r0
      · rw [show b = 1 by omega]; exact r1
    · rw [if_neg e]
      obtain ⟨l2, st, sl⟩ := d q' hq'
      exact ⟨l2, st, fun b hb => rk _ (by omega) (by omega) _ (sl b hb)⟩
  have same : ins2 w (T q) = T q → SL h m 25 27 (va_up T q (ins2 w (T q))) := fun e => fin h zOf.rf (by rw [e]; exact s0) (by rw [e]; exact s1) (fun _ _ _ _ x => x)
  rw [e_X12_offers]
  have down : nI 1 + (-1 : Int32) = nI 0 := nI_dec
  have down2 : nI 0 + (-1 : Int32) = (-1 : Int32) := by decide
  -- the places behind the two comparisons
  have put0 : ∀ z : zM, MLay z m → zOf m [25, 27] [] h z → ON z m w → (ins2 w (T q))[0]? = some w → slR z m 25 27 (2 * q + 1) (ins2 w (T q))[1]? → (∀ k, k ≠ 2 * q → k ≠ 2 * q + 1 → ∀ o, slR h m 25 27 k o → slR z m 25 27 k o) → ∃ h', ((zgF z m 12 28).bind fun r4 => (zis z r4 (((2 : Int32) * nI q) + nI 0) (nI w.length)).bind fun h3 => zm_X12_offers 108 [some (.inr m), some (.inl (nI q)), some (.inl (nI w.length)), some (.inl (nI 0)), some (.inl (0 : Int32)), none] [] h3) = some (0, 0, h') ∧ zOf m [25, 27] [] h h' ∧ SL h' m 25 27 (va_up T q (ins2 w (T q))) := fun z lz oz az e0 r1 rk => by
    obtain ⟨h', p1, p2, p3, p4⟩ := s_mput lz hq (show 0 < 2 by omega) az
    refine ⟨h', p1, oz.tr p2, fin h' (oz.tr p2) (by rw [e0]; exact p3) (p4 _ (by omega) _ r1) (fun k k1 k2 o x => p4 k (by omega) o (rk k k1 k2 o x))⟩
  have tail0 : (ins2 w (T q))[0]? = some w → ((T q)[0]? = none → slR h m 25 27 (2 * q + 1) (ins2 w (T q))[1]?) → (∀ x, (T q)[0]? = some x → (ins2 w (T q))[1]? = some x) → ∃ h', (if nI 0 = nI 2 then some (0, 0, h) else if nI 0 = 0 then (zgF h m 12 28).bind fun r1 => (zia h r1 (nI (2 * q))).bind fun v1 => if v1 < 0 then (zgF h m 12 28).bind fun r2 => (zis h r2 (nI (2 * q) + nI 0) (nI w.length)).bind fun h1 => zm_X12_offers 108 [some (.inr m), some (.inl (nI q)), some (.inl (nI w.length)), some (.inl (nI 0)), some (.inl (0 : Int32)), none] [] h1 else zif (zK h m = 13) ((zf nX12_moves [.inr m, .inl (nI (2 * q)), .inl (nI (2 * q) + nI 1)] h).bind fun u1 => (zgF u1.2.2 m 12 28).bind fun r3 => (zis u1.2.2 r3 (nI (2 * q) + nI 0) (nI w.length)).bind fun h2 => zm_X12_offers 108 [some (.inr m), some (.inl (nI q)), some (.inl (nI w.length)), some (.inl (nI 0)), some (.inl (0 : Int32)), none] [] h2)
      else (zgF h m 12 28).bind fun r4 => (zis h r4 (nI (2 * q) + nI 0) (nI w.length)).bind fun h3 => zm_X12_offers 108 [some (.inr m), some (.inl (nI q)), some (.inl (nI w.length)), some (.inl (nI 0)), some (.inl (0 : Int32)), none] [] h3) = some ((0 : Int32), (0 : Nat), h') ∧ zOf m [25, 27] [] h h' ∧ SL h' m 25 27 (va_up T q (ins2 w (T q))) := fun e0 e1 e2 => by
    rw [if_neg (by decide), if_pos (show nI 0 = 0 from rfl), mF28 lay, Option.bind_some, mr28 lay (by omega), Option.bind_some]
    have sz := s0.sz
    have e2q : (2 : Int32) * nI q = nI (2 * q) := by rw [n2, pk_mul]
    cases e : (T q)[0]? with
    | none =>
      rw [if_pos (sz.mpr e)]
      have := put0 h lay zOf.rf a e0 (e1 e) (fun _ _ _ _ x => x)
      rw [e2q, mF28 lay, Option.bind_some] at this
      rw [Option.bind_some]
      exact this
    | some x =>
      rw [if_neg (fun w => by rw [sz.mp w] at e; cases e), zif_ok lay.1, nI_add]
      rw [e] at s0
      obtain ⟨z, p1, p2, p3, p4⟩ := s_mmoves lay hq s0
      rw [p1, Option.bind_some]
      dsimp only
      have := put0 z (p2.lay lay) p2 (a.o p2 (by decide)) e0 (by rw [e2 x e]; exact p3) (fun k k1 k2 o x => p4 k k2 o x)
      rw [e2q] at this
      exact this
  have put1 : (ins2 w (T q))[1]? = some w → (ins2 w (T q))[0]? = (T q)[0]? → ∃ h', ((zgF h m 12 28).bind fun r4 => (zis h r4 (((2 : Int32) * nI q) + nI 1) (nI w.length)).bind fun h3 => zm_X12_offers 108 [some (.inr m), some (.inl (nI q)), some (.inl (nI w.length)), some (.inl (nI 1)), some (.inl (0 : Int32)), none] [] h3) = some (0, 0, h') ∧ zOf m [25, 27] [] h h' ∧ SL h' m 25 27 (va_up T q (ins2 w (T q))) := fun e1 e0 => by
    obtain ⟨h', p1, p2, p3, p4⟩ := s_mput lay hq (show 1 < 2 by omega) a
    exact ⟨h', p1, p2, fin h' p2 (by rw [e0]; exact p4 _ (by omega) _ s0) (by rw [e1]; exact p3) (fun k k1 k2 o x => p4 k k2 o x)⟩
  -- the end of the comparisons
  have end5 : ∀ p : Int32, zm_X12_offers 5 [some (.inr m), some (.inl (nI q)), some (.inl (nI w.length)), some (.inl p), some (.inl (-1 : Int32)), none] [] h = if p = nI 2 then some (0, 0, h) else if p = 0 then (zgF h m 12 28).bind fun r1 => (zia h r1 (nI (2 * q))).bind fun v1 => if v1 < 0 then (zgF h m 12 28).bind fun r2 => (zis h r2 (nI (2 * q) + p) (nI w.length)).bind fun h1 => zm_X12_offers 108 [some (.inr m), some (.inl (nI q)), some (.inl (nI w.length)), some (.inl p), some (.inl (0 : Int32)), none] [] h1 else zif (zK h m = 13) ((zf nX12_moves [.inr m, .inl (nI (2 * q)), .inl (nI (2 * q) + nI 1)] h).bind fun u1 => (zgF u1.2.2 m 12 28).bind fun r3 => (zis u1.2.2 r3 (nI (2 * q) + p) (nI w.length)).bind fun h2 => zm_X12_offers 108 [some (.inr m), some (.inl (nI q)), some (.inl (nI w.length)), some (.inl p), some (.inl (0 : Int32)), none] [] h2)
      else (zgF h m 12 28).bind fun r4 => (zis h r4 (nI (2 * q) + p) (nI w.length)).bind fun h3 => zm_X12_offers 108 [some (.inr m), some (.inl (nI q)), some (.inl (nI w.length)), some (.inl p), some (.inl (0 : Int32)), none] [] h3 := fun p => by
    rw [e_X12_offers_5, if_pos (by decide), show (2 : Int32) * nI q = nI (2 * q) from pk_mul 2 q]
    rfl
  have goal0 : (ins2 w (T q))[0]? = some w → ((T q)[0]? = none → slR h m 25 27 (2 * q + 1) (ins2 w (T q))[1]?) → (∀ x, (T q)[0]? = some x → (ins2 w (T q))[1]? = some x) → ∃ h', zm_X12_offers 5 [some (.inr m), some (.inl (nI q)), some (.inl (nI w.length)), some (.inl (nI 0)), some (.inl (-1 : Int32)), none] [] h = some (0, 0, h') ∧ zOf m [25, 27] [] h h' ∧ SL h' m 25 27 (va_up T q (ins2 w (T q))) := fun e0 e1 e2 => by
    rw [end5]
    exact tail0 e0 e1 e2
  have goal1 : (ins2 w (T q))[1]? = some w → (ins2 w (T q))[0]? = (T q)[0]? → ∃ h', zm_X12_offers 5 [some (.inr m), some (.inl (nI q)), some (.inl (nI w.length)), some (.inl (nI 1)), some (.inl (-1 : Int32)), none] [] h = some (0, 0, h') ∧ zOf m [25, 27] [] h h' ∧ SL h' m 25 27 (va_up T q (ins2 w (T q))) := fun e0 e1 => by
    rw [end5, if_neg (by decide), if_neg (by decide)]
    have := put1 e0 e1
    rw [n2, pk_mul] at this
    exact this
  have goal2 : ins2 w (T q) = T q → ∃ h', zm_X12_offers 5 [some (.inr m), some (.inl (nI q)), some (.inl (nI w.length)), some (.inl (nI 2)), some (.inl (-1 : Int32)), none] [] h = some (0, 0, h') ∧ zOf m [25, 27] [] h h' ∧ SL h' m 25 27 (va_up T q (ins2 w (T q))) := fun e => by
    rw [end5, if_pos rfl]
    exact ⟨h, rfl, zOf.rf, same e⟩
  -- the comparison with one slot
  have none5 : ∀ (p : Int32) (b : Nat), b < 2 → (T q)[b]? = none → zm_X12_offers 5 [some (.inr m), some (.inl (nI q)), some (.inl (nI w.length)), some (.inl p), some (.inl (nI b)), none] [] h = zm_X12_offers 5 [some (.inr m), some (.inl (nI q)), some (.inl (nI w.length)), some (.inl (nI b)), some (.inl (nI b + (-1 : Int32))), none] [] h := fun p b hb e => by
    have sb := sl b hb
    rw [e_X12_offers_5, if_neg (nI_nn (by omega)), mF28 lay, Option.bind_some, n2, pk_mul, nI_add, mr28 lay (by omega), Option.bind_some, if_pos (sb.sz.mpr e), if_neg (by decide), if_pos (by decide)]
  have some5 : ∀ (p : Int32) (b : Nat) (x : zWo), b < 2 → (T q)[b]? = some x → zm_X12_offers 5 [some (.inr m), some (.inl (nI q)), some (.inl (nI w.length)), some (.inl p), some (.inl (nI b)), none] [] h = if w = x then some (0, 0, h) else if wlt w x = true then zm_X12_offers 5 [some (.inr m), some (.inl (nI q)), some (.inl (nI w.length)), some (.inl (nI b)), some (.inl (nI b + (-1 : Int32))), none] [] h else zm_X12_offers 5 [some (.inr m), some (.inl (nI q)), some (.inl (nI w.length)), some (.inl p), some (.inl (nI b + (-1 : Int32))), none] [] h := fun p b x hb e => by
    have sb := sl b hb
    have sz := sb.sz
    rw [e] at sb
    obtain ⟨v, o1, o2, o3⟩ := s_morder lay (show 2 * q + b < 12 by omega) a sb
    rw [e_X12_offers_5, if_neg (nI_nn (by omega)), mF28 lay, Option.bind_some, n2, pk_mul, nI_add, mr28 lay (by omega), Option.bind_some, if_neg (fun z => by rw [sz.mp z] at e; cases e), zif_ok lay.1, o1, Option.bind_some]
    dsimp only
    by_cases c : w = x
    · rw [if_pos (o2.mpr c), if_pos c]
    · rw [if_neg (fun z => c (o2.mp z)), if_neg c]
      by_cases c2 : wlt w x = true
      · rw [if_pos (o3.mpr c2), if_pos c2]
      · rw [if_neg (fun z => c2 (o3.mp z)), if_neg c2]
  rw [show (2 : Int32) = nI 2 from rfl, show (1 : Int32) = nI 1 from rfl]
  have cs : T q = [] ∨ (∃ x, T q = [x]) ∨ ∃ x y, T q = [x, y] := by
    generalize T q = l at l2
    match l, l2 with
    | [], _ => exact Or.inl rfl
    | [x], _ => exact Or.inr (Or.inl ⟨x, rfl⟩)
    | [x, y], _ => exact Or.inr (Or.inr ⟨x, y, rfl⟩)
    | _ :: _ :: _ :: _, h3 => simp at h3
  rcases cs with hT | ⟨x, hT⟩ | ⟨x, y, hT⟩
  · have e0 : (T q)[0]? = none := by rw [hT]; rfl
    have e1 : (T q)[1]? = none := by rw [hT]; rfl
    have ei : ins2 w (T q) = [w] := by rw [hT]; exact ins2_0 w
    rw [none5 _ 1 (by omega) e1, down, none5 _ 0 (by omega) e0, down2]
    exact goal0 (by rw [ei]; rfl) (fun _ => by rw [ei]; rw [e1] at s1; exact s1) (fun x ex => by rw [e0] at ex; cases ex)
  · have e0 : (T q)[0]? = some x := by rw [hT]; rfl
    have e1 : (T q)[1]? = none := by rw [hT]; rfl
    have ei : ins2 w (T q) = if wlt w x = true then [w, x] else if w = x then [x] else [x, w] := by rw [hT]; exact ins2_1 w x
    rw [none5 _ 1 (by omega) e1, down, some5 _ 0 x (by omega) e0, down2]
    by_cases c : w = x
    · rw [if_pos c]
      refine ⟨h, rfl, zOf.rf, same ?_⟩
      rw [ei, c, wlt_irr, if_neg (by decide), if_pos rfl, hT]
    · rw [if_neg c]
      by_cases c2 : wlt w x = true
      · rw [if_pos c2]
        rw [if_pos c2] at ei
        exact goal0 (by rw [ei]; rfl) (fun z => by rw [e0] at z; cases z) (fun y ey => by rw [ei, ← ey, e0]; rfl)
      · rw [if_neg c2]
        rw [if_neg c2, if_neg c] at ei
        exact goal1 (by rw [ei]; rfl) (by rw [ei, e0]; rfl)
  · have e0 : (T q)[0]? = some x := by rw [hT]; rfl
    have e1 : (T q)[1]? = some y := by rw [hT]; rfl
    have ei : ins2 w (T q) = if wlt w x = true then [w, x] else if w = x then [x, y] else if wlt w y = true then [x, w] else [x, y] := by rw [hT]; exact ins2_2 w x y
    have xy : wlt x y = true := by
      rw [hT] at st
      exact (List.pairwise_cons.mp st).1 y (by simp)
    rw [some5 _ 1 y (by omega) e1, down]
    by_cases cy : w = y
    · rw [if_pos cy]
      refine ⟨h, rfl, zOf.rf, same ?_⟩
      have nx : wlt w x = false := by rw [cy]; exact wlt_asym xy
      have ny : wlt w y = false := by rw [cy]; exact wlt_irr y
      rw [ei, nx, ny, hT, if_neg (by decide)]
      split
      · rfl
      · rw [if_neg (by decide)]
    · rw [if_neg cy]
      by_cases cy2 : wlt w y = true
      · rw [if_pos cy2, some5 _ 0 x (by omega) e0, down2]
        by_cases c : w = x
        · rw [if_pos c]
          refine ⟨h, rfl, zOf.rf, same ?_⟩
          have nx : wlt w x = false := by rw [c]; exact wlt_irr x
          rw [ei, nx, if_neg (by decide), if_pos c, hT]
        · rw [if_neg c]
          by_cases c2 : wlt w x = true
          · rw [if_pos c2]
            rw [if_pos c2] at ei
            exact goal0 (by rw [ei]; rfl) (fun z => by rw [e0] at z; cases z) (fun y ey => by rw [ei, ← ey, e0]; rfl)
          · rw [if_neg c2]
            rw [if_neg c2, if_neg c, if_pos cy2] at ei
            exact goal1 (by rw [ei]; rfl) (by rw [ei, e0]; rfl)
      · rw [if_neg cy2, some5 _ 0 x (by omega) e0, down2]
        have yw : wlt y w = true := (wlt_tot cy).resolve_left cy2
        have xw : wlt x w = true := wlt_tr xy yw
        have nx : wlt w x = false := wlt_asym xw
        have c : ¬ w = x := fun e => by rw [e, wlt_irr] at xw; cases xw
        rw [if_neg c, nx, if_neg (by decide)]
        refine goal2 ?_
        rw [ei, nx, if_neg (by decide), if_neg c, if_neg cy2, hT]
/-- a state's word with a word behind it comes to one -/
theorem s_mbehind {h : zM} {m k e : Nat} {x : zWo} (lay : MLay h m) (hk : k < 12) (d : slR h m 24 26 k (some x)) (he : wOk e) (h387 : x.length ≤ 387) :
    ∃ h', zf nX12_behind [.inr m, .inl (nI k), .inl (nI e)] h = some (nI (x ++ dgs e).length, 0, h') ∧ zOf m [28] [] h h' ∧ ON h' m (x ++ dgs e) := by
  obtain ⟨d1, d2, d3, d4⟩ := d
  have e3 := he.len
  have e9 := he.lt
  have ele : dl (dgs e).length e = dgs e := by unfold dgs; rw [dl_len]
  rw [e_X12_behind, mF27 lay, Option.bind_some, mr27 lay hk, Option.bind_some, d1]
  have cp := zwr (g := fun i z => zm_X12_behind 10 [some (.inr m), some (.inl (nI k)), some (.inl (nI e)), some (.inl (nI x.length)), some (.inl (nI i)), none] [] z) (h := h) (a := m + 28) (p := 0) (n := x.length) (f := fun j => x.getD j 0) (fun i hi => by
    have layw : MLay (zWr h (m + 28) 0 i fun j => x.getD j 0) m := (zOf_Wr (L := [28]) (J := []) (by decide) (by decide)).lay lay
    rw [e_X12_behind_10, if_pos ((nI_ltI (by omega) (by omega)).mpr hi)]
    simp only [mF31 layw, mF29 layw, Option.bind_some, n13000, pk_mul, nI_add, mr29 layw (show 13000 * k + i < 156000 by omega), zI_Wr_a (show m + 26 ≠ m + 28 by omega), d2 i hi, mw31 layw (show i < 13000 by omega), byte_at d4 hi, nI_1, Nat.zero_add])
  refine Exists.elim (show ∃ z, z = zWr h (m + 28) 0 x.length fun j => x.getD j 0 from ⟨_, rfl⟩) fun z hz => ?_
  rw [← hz] at cp
  have oz : zOf m [28] [] h z := by rw [hz]; exact zOf_Wr (by decide) (by decide)
  have layz := oz.lay lay
  have cp2 := zwr (g := fun i z => zm_X12_behind 53 [some (.inr m), some (.inl (nI k)), some (.inl (nI e)), some (.inl (nI x.length)), some (.inl (nI (dgs e).length)), some (.inl (nI i))] [] z) (h := z) (a := m + 28) (p := x.length) (n := (dgs e).length) (f := fun j => (dgs e).getD j 0) (fun i hi => by
    have layw : MLay (zWr z (m + 28) x.length i fun j => (dgs e).getD j 0) m := (zOf_Wr (L := [28]) (J := []) (by decide) (by decide)).lay layz
    have b := byte_at he.dig hi
    rw [e_X12_behind_53, if_pos ((nI_ltI (by omega) (by omega)).mpr hi), mF31 layw, Option.bind_some, s_mletter (by omega) hi (by omega), Option.bind_some, ele]
    dsimp only
    rw [nI_add, mw31 layw (by omega), Option.bind_some, b, b, nI_1])
  refine ⟨zWr z (m + 28) x.length (dgs e).length fun j => (dgs e).getD j 0, ?_, oz.tr (zOf_Wr (by decide) (by decide)), ?_, by rw [List.length_append]; omega, d4.app he.dig⟩
  · rw [n0]
    refine Eq.trans cp ?_
    rw [e_X12_behind_10, if_neg (by rw [nI_ltI (by omega) (by omega)]; omega), n9, s_letters 9 (by decide), Option.bind_some, he.ltr]
    dsimp only
    rw [n0]
    refine Eq.trans cp2 ?_
    rw [e_X12_behind_53, if_neg (by rw [nI_ltI (by omega) (by omega)]; omega), nI_add, List.length_append]
    rfl
  · refine Rw.app (fun j hj => ?_) (fun j hj => ?_)
    · rw [zI_Wr_out (by omega), hz, zI_Wr_at hj]
    · rw [Nat.zero_add, zI_Wr_at hj]
/-- what is next is now -/
theorem s_mturns {h : zM} {m : Nat} {T : zTl} (lay : MLay h m) (d : SL h m 25 27 T) :
    ∃ h', zf nX12_turns [.inr m] h = some (0, 0, h') ∧ zOf m [24, 25, 26, 27] [] h h' ∧ SL h' m 24 26 T ∧ SL h' m 25 27 (fun _ => []) := by
  rw [e_X12_turns, n0]
  let S : Nat → Option zWo := fun k => (T (k / 2))[k % 2]?
  have sl : ∀ k, k < 12 → slR h m 25 27 k (S k) := fun k hk => by
    have := (d (k / 2) (by omega)).2.2 (k % 2) (by omega)
    rw [show 2 * (k / 2) + k % 2 = k by omega] at this
    exact this
  have main := zlp (P := fun k z => zOf m [24, 25, 26, 27] [] h z ∧ (∀ j, j < k → slR z m 24 26 j (S j) ∧ zI z (m + 25) j = -1) ∧ ∀ j, k ≤ j → j < 12 → slR z m 25 27 j (S j)) (g := fun k z => zm_X12_turns 2 [some (.inr m), some (.inl (nI k)), none] [] z) (n := 12) ?_ 0 h (Nat.zero_le _) ⟨zOf.rf, fun j hj => absurd hj (Nat.not_lt_zero _), fun j _ hj => sl j hj⟩
  · obtain ⟨h', e1, e2, e3, e4⟩ := main
    refine ⟨h', Eq.trans e1 ?_, e2, fun q hq => ⟨(d q hq).1, (d q hq).2.1, fun b hb => ?_⟩, fun q hq => ⟨Nat.zero_le _, List.Pairwise.nil, fun b hb => (e3 (2 * q + b) (by omega)).2⟩⟩
    · rw [e_X12_turns_2, if_neg (by decide)]
      rfl
    · have := (e3 (2 * q + b) (by omega)).1
      have es : S (2 * q + b) = (T q)[b]? := by
        show (T ((2 * q + b) / 2))[(2 * q + b) % 2]? = _
        rw [show (2 * q + b) / 2 = q by omega, show (2 * q + b) % 2 = b by omega]
      rw [es] at this
      exact this
  · rintro k z hk ⟨oz, h1, h2⟩
    have lz := oz.lay lay
    have sk := h2 k (Nat.le_refl _) hk
    rw [e_X12_turns_2, if_pos (by rw [show (12 : Int32) = nI 12 from rfl, nI_ltI (by omega) (by omega)]; exact hk)]
    simp only [mF27 lz, mF28 lz, Option.bind_some, mr28 lz hk, mw27 lz hk]
    generalize hs : S k = o at *
    cases o with
    | none =>
      have sk : zI z (m + 25) k = -1 := sk
      have lA : MLay (zsI z (m + 24) k (zI z (m + 25) k)) m := lz.sI
      have e25 : zI (zsI z (m + 24) k (zI z (m + 25) k)) (m + 25) k = -1 := (zI_sI_a (by omega)).trans sk
      rw [e_X12_turns_22, mF28 lA, Option.bind_some, mr28 lA hk, Option.bind_some, e25, if_neg (by decide), Option.bind_some, mw28 lA hk, Option.bind_some, nI_1]
      refine ⟨_, rfl, (oz.tr (zOf_sI (by decide) (by decide))).tr (zOf_sI (by decide) (by decide)), fun j hj => ?_, fun j hj1 hj2 => ?_⟩
      · by_cases ej : j = k
        · rw [ej, hs]
          exact ⟨by show zI _ _ _ = -1; rw [zI_sI_a (by omega), zI_sI]; exact sk, zI_sI⟩
        · obtain ⟨q1, q2⟩ := h1 j (by omega)
          exact ⟨q1.of (by rw [zI_sI_a (by omega), zI_sI_k ej]) (fun i _ => by rw [zI_sI_a (by omega), zI_sI_a (by omega)]), by rw [zI_sI_k ej, zI_sI_a (by omega)]; exact q2⟩
      · exact (h2 j (by omega) hj2).of (by rw [zI_sI_k (by omega), zI_sI_a (by omega)]) (fun i _ => by rw [zI_sI_a (by omega), zI_sI_a (by omega)])
    | some x =>
      obtain ⟨k1, k2, k3, k4⟩ := sk
      rw [k1]
      generalize hz1 : zsI z (m + 24) k (nI x.length) = z1
      have o1 : zOf m [24, 25, 26, 27] [] z z1 := by rw [← hz1]; exact zOf_sI (by decide) (by decide)
      have l1 := o1.lay lz
      have v25 : ∀ j, zI z1 (m + 25) j = zI z (m + 25) j := fun j => by rw [← hz1]; exact zI_sI_a (by omega)
      have v26 : ∀ j, zI z1 (m + 26) j = zI z (m + 26) j := fun j => by rw [← hz1]; exact zI_sI_a (by omega)
      have v27 : ∀ j, zI z1 (m + 27) j = zI z (m + 27) j := fun j => by rw [← hz1]; exact zI_sI_a (by omega)
      have cp := zwr (g := fun i z => zm_X12_turns 22 [some (.inr m), some (.inl (nI k)), some (.inl (nI i))] [] z) (h := z1) (a := m + 26) (p := 13000 * k) (n := x.length) (f := fun j => x.getD j 0) (fun i hi => by
        have layw : MLay (zWr z1 (m + 26) (13000 * k) i fun j => x.getD j 0) m := (zOf_Wr (L := [26]) (J := []) (by decide) (by decide)).lay l1
        rw [e_X12_turns_22]
        simp only [mF28 layw, Option.bind_some, mr28 layw hk, zI_Wr_a (show m + 25 ≠ m + 26 by omega), v25, k1, if_pos ((nI_ltI (show i < 2 ^ 31 by omega) (show x.length < 2 ^ 31 by omega)).mpr hi), mF29 layw, mF30 layw, n13000, pk_mul, nI_add, mr30 layw (show 13000 * k + i < 156000 by omega), zI_Wr_a (show m + 27 ≠ m + 26 by omega), v27, k2 i hi, mw29 layw (show 13000 * k + i < 156000 by omega), byte_at k4 hi, nI_1])
      refine Exists.elim (show ∃ y, y = zWr z1 (m + 26) (13000 * k) x.length fun j => x.getD j 0 from ⟨_, rfl⟩) fun z2 hz2 => ?_
      rw [← hz2] at cp
      have o2 : zOf m [24, 25, 26, 27] [] z1 z2 := by rw [hz2]; exact zOf_Wr (by decide) (by decide)
      have l2 := o2.lay l1
      have w25 : ∀ j, zI z2 (m + 25) j = zI z (m + 25) j := fun j => by rw [hz2, zI_Wr_a (by omega)]; exact v25 j
      have w27 : ∀ j, zI z2 (m + 27) j = zI z (m + 27) j := fun j => by rw [hz2, zI_Wr_a (by omega)]; exact v27 j
      refine ⟨zsI z2 (m + 25) k (-1), ?_, (oz.tr (o1.tr o2)).tr (zOf_sI (by decide) (by decide)), fun j hj => ?_, fun j hj1 hj2 => ?_⟩
      · rw [n0]
        refine Eq.trans cp ?_
        rw [e_X12_turns_22, mF28 l2, Option.bind_some, mr28 l2 hk, Option.bind_some, w25, k1, if_neg (by rw [nI_ltI (by omega) (by omega)]; omega), Option.bind_some, mw28 l2 hk, Option.bind_some, nI_1]
      · by_cases ej : j = k
        · rw [ej, hs]
          refine ⟨⟨?_, fun i hi => ?_, k3, k4⟩, zI_sI⟩
          · rw [zI_sI_a (by omega), hz2, zI_Wr_a (by omega), ← hz1, zI_sI]
          · rw [zI_sI_a (by omega), hz2, zI_Wr_at hi]
        · obtain ⟨q1, q2⟩ := h1 j (by omega)
          refine ⟨q1.of ?_ (fun i hi => ?_), by rw [zI_sI_k ej, w25]; exact q2⟩
          · rw [zI_sI_a (by omega), hz2, zI_Wr_a (by omega), ← hz1, zI_sI_k ej]
          · have : 13000 * j + 13000 ≤ 13000 * k := by omega
            rw [zI_sI_a (by omega), hz2, zI_Wr_out (by omega), v26]
      · exact (h2 j (by omega) hj2).of (by rw [zI_sI_k (by omega), w25]) (fun i _ => by rw [zI_sI_a (by omega), w27])
