/-! The class Twins: what stands where; keep. -/
theorem s_PlongerSide {h : zM} {a n : Nat} {c : zCf} (d : PrC h a n c) : zf nX4_longerSide [.inr a] h = some (nI (max c.2.1.length c.2.2.length), 0, h) := by
  have s1 := d.wl.small
  have s2 := d.wr.small
  rw [e_X4_longerSide, d.f2, Option.bind_some, d.wl.len, Option.bind_some, d.f3, Option.bind_some, d.wr.len, Option.bind_some, s_max, Option.bind_some]
  dsimp only
  by_cases q : c.2.1.length < c.2.2.length
  · rw [if_pos ((nI_ltI (by omega) (by omega)).mpr q), Nat.max_eq_right (by omega)]
  · rw [if_neg (by rw [nI_ltI (by omega) (by omega)]; exact q), Nat.max_eq_left (by omega)]
def cHash (c : zCf) : Int32 := ((((((nI c.1.1 * 6 + nI c.1.2) * 31 + nI c.2.1.length) * 31 + nI c.2.2.length) * 31 + wAt c.2.1 0 * 10) + wAt c.2.1 (nI c.2.1.length - 1)) * 31 + wAt c.2.2 0 * 10) + wAt c.2.2 (nI c.2.2.length - 1)
theorem s_Phash {h : zM} {a n : Nat} {c : zCf} (d : PrC h a n c) : zf nX4_hash [.inr a] h = some (cHash c, 0, h) := by
  rw [e_X4_hash]
  simp only [d.i0, d.i1, d.f2, d.f3, d.wl.len, d.wr.len, Option.bind_some, zif_ok d.wl.1, zif_ok d.wr.1, s_letterAt d.wl, s_letterAt d.wr]
  rfl
theorem and_1023 (x : Int32) : ∃ b, b < 1024 ∧ x &&& 1023 = nI b := by
  refine ⟨x.toBitVec.toNat &&& 1023, Nat.lt_of_le_of_lt Nat.and_le_right (by decide), ?_⟩
  apply Int32.toBitVec_inj.mp
  apply BitVec.eq_of_toNat_eq
  have hlt : x.toBitVec.toNat &&& 1023 < 2 ^ 32 := Nat.lt_of_le_of_lt Nat.and_le_right (by decide)
  rw [Int32.toBitVec_and, BitVec.toNat_and]
  show _ = (BitVec.ofNat 32 (x.toBitVec.toNat &&& 1023)).toNat
  rw [BitVec.toNat_ofNat, Nat.mod_eq_of_lt hlt]
  rfl
noncomputable def cBuk (c : zCf) : Nat := Classical.choose (and_1023 (cHash c))
theorem cBuk_ok (c : zCf) : cBuk c < 1024 ∧ cHash c &&& 1023 = nI (cBuk c) := Classical.choose_spec (and_1023 (cHash c))
def T7 : List (Nat × Nat × Nat × Nat) := [(6, 5012, 101, 1024), (7, 5013, 101, 1002)]
def TX (h : zM) (t : Nat) : Prop := Lay T7 7 h t ∧ zF h t 5 = t + 1 ∧ zK h (t + 1) = 106 ∧ zN h (t + 1) = 1002 ∧ ∀ i, i < 1002 → zF h (t + 1) i = t + 2 + 5 * i
theorem TX.keep {h h' : zM} {t lo hi : Nat} (x : TX h t) (f : zFr lo hi h h') : TX h' t :=
  ⟨x.1.keep f, by rw [f.F]; exact x.2.1, by rw [f.K]; exact x.2.2.1, by rw [f.N]; exact x.2.2.2.1, fun i hi => by rw [f.F]; exact x.2.2.2.2 i hi⟩
theorem TX.eq {h h' : zM} {t : Nat} (x : TX h t) (f : zEq t (t + 2) h h') : TX h' t :=
  ⟨x.1.eq (f.sub (by omega) (by omega)), by rw [f.F (by omega) (by omega)]; exact x.2.1, by rw [f.K]; exact x.2.2.1, by rw [f.N]; exact x.2.2.2.1, fun i hi => by rw [f.F (by omega) (by omega)]; exact x.2.2.2.2 i hi⟩
section TXR
variable {h : zM} {t : Nat}
theorem TX.g5 (x : TX h t) : zgF h t 7 5 = some (t + 1) := (zgF_ok x.1.1).trans (congrArg some x.2.1)
theorem TX.g6 (x : TX h t) : zgF h t 7 6 = some (t + 5012) := (zgF_ok x.1.1).trans (congrArg some (x.1.2 (6, 5012, 101, 1024) (by decide)).1)
theorem TX.g7 (x : TX h t) : zgF h t 7 7 = some (t + 5013) := (zgF_ok x.1.1).trans (congrArg some (x.1.2 (7, 5013, 101, 1002) (by decide)).1)
theorem TX.k6 (x : TX h t) : zK h (t + 5012) = 101 ∧ zN h (t + 5012) = 1024 := (x.1.2 (6, 5012, 101, 1024) (by decide)).2
theorem TX.k7 (x : TX h t) : zK h (t + 5013) = 101 ∧ zN h (t + 5013) = 1002 := (x.1.2 (7, 5013, 101, 1002) (by decide)).2
theorem TX.p (x : TX h t) {i : Nat} (hi : i < 1002) : zaa h (t + 1) (nI i) = some (t + 2 + 5 * i) := by
  rw [zaa_ok (by rw [x.2.2.1]; omega) (by rw [x.2.2.2.1]; exact hi) (by rw [x.2.2.2.1]; omega), x.2.2.2.2 i hi]
end TXR
def TS (h : zM) (t : Nat) : Prop := TX h t ∧ ∀ i, i < 1002 → ∃ c, PrC h (t + 2 + 5 * i) 111 c
theorem TS.eq {h h' : zM} {t : Nat} (x : TS h t) (f : zEq t (t + 5014) h h') : TS h' t := ⟨x.1.eq (f.sub (by omega) (by omega)), fun i hi => by
  obtain ⟨c, hc⟩ := x.2 i hi
  exact ⟨c, hc.eq (f.sub (by omega) (by omega))⟩⟩
theorem TS.out {h h' : zM} {t lo hi : Nat} (x : TS h t) (f : zFr lo hi h h') (e : zEq (t + 2) (t + 5012) h h') : TS h' t := ⟨x.1.keep f, fun i hi => by
  obtain ⟨c, hc⟩ := x.2 i hi
  exact ⟨c, hc.eq (e.sub (by omega) (by omega))⟩⟩
theorem TS.pair {h h' : zM} {t i : Nat} {c : zCf} (x : TS h t) (hi : i < 1002) (f : zFr (t + 2 + 5 * i) (t + 2 + 5 * i + 5) h h') (hc : PrC h' (t + 2 + 5 * i) 111 c) : TS h' t := ⟨x.1.keep f, fun j hj => by
  by_cases e : j = i
  · subst e; exact ⟨c, hc⟩
  · obtain ⟨c', hc'⟩ := x.2 j hj
    exact ⟨c', hc'.keep f (by omega)⟩⟩
/-- a chain of links -/
def Chn (h : zM) (t : Nat) : Int32 → List Nat → Prop
  | v, [] => v = -1
  | v, i :: l => v = nI i ∧ Chn h t (zI h (t + 5013) i) l
theorem Chn.eq {h h' : zM} {t L : Nat} : ∀ {l : List Nat} {v : Int32}, Chn h t v l → (∀ i ∈ l, i < L) → (∀ i, i < L → zI h' (t + 5013) i = zI h (t + 5013) i) → Chn h' t v l
  | [], v, d, _, _ => d
  | i :: l, v, ⟨d1, d2⟩, hl, e => ⟨d1, by rw [e i (hl i List.mem_cons_self)]; exact d2.eq (fun j hj => hl j (List.mem_cons_of_mem _ hj)) e⟩
noncomputable def bukL (T : List zCf) (b : Nat) : List Nat := ((List.range T.length).filter fun i => decide (cBuk (kAt T i) = b)).reverse
theorem bukL_mem {T : List zCf} {b i : Nat} : i ∈ bukL T b ↔ i < T.length ∧ cBuk (kAt T i) = b := by unfold bukL; rw [List.mem_reverse, List.mem_filter, List.mem_range, decide_eq_true_eq]
theorem bukL_app (T : List zCf) (c : zCf) (b : Nat) : bukL (T ++ [c]) b = if cBuk c = b then T.length :: bukL T b else bukL T b := by
  have e : ((List.range T.length).filter fun i => decide (cBuk (kAt (T ++ [c]) i) = b)) = (List.range T.length).filter fun i => decide (cBuk (kAt T i) = b) := List.filter_congr fun i hi => by rw [kAt_l (List.mem_range.mp hi)]
  have en : kAt (T ++ [c]) T.length = c := by
    have := kAt_r (K := T) (t := [c]) (i := 0)
    rw [Nat.add_zero] at this
    rw [this]; rfl
  unfold bukL
  rw [List.length_append]
  show ((List.range (T.length + 1)).filter _).reverse = _
  rw [rng_s, List.reverse_append, e]
  by_cases q : cBuk c = b
  · rw [if_pos q, if_pos (by rw [en]; exact decide_eq_true q)]
    rfl
  · rw [if_neg q, if_neg (by rw [en]; simpa using q)]
    rfl
/-- the kept pairs with their chains -/
def TK (h : zM) (t : Nat) (T : List zCf) : Prop := zI h t 1 = nI T.length ∧ (∀ i, i < T.length → PrC h (t + 2 + 5 * i) 111 (kAt T i)) ∧ ∀ b, b < 1024 → Chn h t (zI h (t + 5012) b) (bukL T b)
theorem TK.eq {h h' : zM} {t : Nat} {T : List zCf} (k : TK h t T) (hl : T.length ≤ 1001) (e0 : zI h' t 1 = zI h t 1) (e1 : zEq (t + 2) (t + 5014) h h') : TK h' t T :=
  ⟨e0.trans k.1, fun i hi => (k.2.1 i hi).eq (e1.sub (by omega) (by omega)), fun b hb => by
    rw [e1.I (by omega) (by omega)]
    exact (k.2.2 b hb).eq (L := T.length) (fun i hi => (bukL_mem.mp hi).1) (fun i _ => e1.I (by omega) (by omega) _)⟩
theorem TK.pair {h h' : zM} {t : Nat} {T : List zCf} (k : TK h t T) (f : zFr (t + 2 + 5 * T.length) (t + 2 + 5 * T.length + 5) h h') (hl : T.length ≤ 1001) : TK h' t T :=
  ⟨(f.I (by omega) _).trans k.1, fun i hi => (k.2.1 i hi).keep f (by omega), fun b hb => by
    rw [f.I (by omega)]
    exact (k.2.2 b hb).eq (L := T.length) (fun i hi => (bukL_mem.mp hi).1) (fun i _ => f.I (by omega) _)⟩
/-- useful states, limit, too long or not, pairs -/
def TI (h : zM) (t : Nat) (U lim : Nat) (S : zTs) : Prop := zI h t 2 = nI U ∧ zI h t 3 = nI lim ∧ zI h t 4 = bI S.2 ∧ TK h t S.1
theorem bI_t {b : Bool} {x : Int32} (h : x = bI b) : x = 0 ∨ x = 1 := by rw [h]; exact bI01 b
/-- the search along a chain -/
theorem s_Tchain {h : zM} {t a : Nat} {T : List zCf} {c : zCf} (x : TX h t) (k : TK h t T) (hl : T.length ≤ 1000) (hc : PrC h a 111 c) (h6 : c.1.1 < 6 ∧ c.1.2 < 6) (ht6 : ∀ e ∈ T, e.1.1 < 6 ∧ e.1.2 < 6) (b : Nat) : ∀ (l : List Nat) (v : Int32) (n : Nat), Chn h t v l → (∀ i ∈ l, i < T.length) → n + l.length ≤ 1000 →
    ∃ n', n' ≤ 1000 ∧ zm_X7_keep 56 [some (.inr t), some (.inr a), some (.inl (nI b)), some (.inl v), some (.inl (nI n))] [] h = if (∃ i ∈ l, kAt T i = c) then some (0, 0, h) else zm_X7_keep 56 [some (.inr t), some (.inr a), some (.inl (nI b)), some (.inl (-1)), some (.inl (nI n'))] [] h
  | [], v, n, d, _, hn => by
    have d : v = -1 := d
    subst d
    refine ⟨n, by simp at hn; exact hn, ?_⟩
    rw [if_neg (by rintro ⟨i, hi, _⟩; cases hi)]
  | i :: l, v, n, d, hi, hn => by
    obtain ⟨d1, d2⟩ := d
    rw [List.length_cons] at hn
    have hit := hi i List.mem_cons_self
    have pi := k.2.1 i hit
    have h6i := ht6 _ (kAt_mem hit)
    obtain ⟨n', hn', ih⟩ := s_Tchain x k hl hc h6 ht6 b l _ (n + 1) d2 (fun j hj => hi j (List.mem_cons_of_mem _ hj)) (by omega)
    refine ⟨n', hn', ?_⟩
    rw [e_X7_keep_56, if_neg (by rw [n1000, nI_ltI (by omega) (by omega)]; omega), d1, if_neg (nI_pos (by omega)), x.g5, Option.bind_some, x.p (by omega), Option.bind_some, zif_ok pi.1.1, s_PisAlike pi hc (by omega) (by omega), Option.bind_some]
    dsimp only
    by_cases e : kAt T i = c
    · rw [if_pos e, if_neg (by decide), if_pos ⟨i, List.mem_cons_self, e⟩]
    · rw [if_neg e, if_pos rfl, x.g7, Option.bind_some, zia_ok x.k7.1 (by rw [x.k7.2]; omega) (by rw [x.k7.2]; omega), Option.bind_some, nI_1, ih]
      by_cases q : ∃ i ∈ l, kAt T i = c
      · rw [if_pos q, if_pos (by obtain ⟨j, hj, ej⟩ := q; exact ⟨j, List.mem_cons_of_mem _ hj, ej⟩)]
      · rw [if_neg q, if_neg (by
          rintro ⟨j, hj, ej⟩
          rcases List.mem_cons.mp hj with z | z
          · subst z; exact e ej
          · exact q ⟨j, z, ej⟩)]
theorem s_Tkeep {h : zM} {t U lim : Nat} {S : zTs} {c : zCf} (x : TS h t) (k : TI h t U lim S) (hl : S.1.length ≤ 1001) (hlim : lim < 2 ^ 30) (hc : PrC h (t + 2 + 5 * S.1.length) 111 c) (h6 : c.1.1 < 6 ∧ c.1.2 < 6) (ht6 : ∀ e ∈ S.1, e.1.1 < 6 ∧ e.1.2 < 6) :
    ∃ h', zf nX7_keep [.inr t] h = some (0, 0, h') ∧ zFr t (t + 5014) h h' ∧ zI h' t 0 = zI h t 0 ∧ TS h' t ∧ TI h' t U lim (twAdd lim c S) := by
  obtain ⟨k2, k3, k4, kT⟩ := k
  have X := x.1
  have sl := hc.wl.small
  have sr := hc.wr.small
  have cnt : ∀ {z : zM}, zI z t 1 = zI h t 1 → TX z t → zgI z t 7 1 = some (nI S.1.length) := fun {z} e xz => by rw [zgI_ok xz.1.1, e, kT.1]
  -- behind the limit's test
  have tail : ∀ (z : zM) (fl : Bool), (z = h ∨ z = zsI h t 4 1) → TX z t → zI z t 4 = bI fl → zI z t 1 = zI h t 1 → zI z t 2 = nI U → zI z t 3 = nI lim → TK z t S.1 → TS z t → PrC z (t + 2 + 5 * S.1.length) 111 c → zFr t (t + 5014) h z → zI z t 0 = zI h t 0 → fl = (S.2 || decide (lim < c.2.1.length ∨ lim < c.2.2.length)) →
      ∃ h', ((zgI z t 7 1).bind fun v3 => if (1000 : Int32) < v3 then some (((0, 0, z) : zR)) else zif (zK z (t + 2 + 5 * S.1.length) = 5) ((zf nX4_hash [.inr (t + 2 + 5 * S.1.length)] z).bind fun u2 => (zgF u2.2.2 t 7 6).bind fun r3 => (zia u2.2.2 r3 (u2.1 &&& (1023 : Int32))).bind fun v4 => zm_X7_keep 56 [some (.inr t), some (.inr (t + 2 + 5 * S.1.length)), some (.inl (u2.1 &&& (1023 : Int32))), some (.inl v4), some (.inl (0 : Int32))] [] u2.2.2)) = some (0, 0, h') ∧ zFr t (t + 5014) h h' ∧ zI h' t 0 = zI h t 0 ∧ TS h' t ∧ TI h' t U lim (twAdd lim c S) := by
    intro z fl _ xz z4 z1 z2 z3 kz sz cz fz z0 efl
    rw [cnt z1 xz, Option.bind_some]
    by_cases c1 : S.1.length ≤ 1000
    · rw [if_neg (by rw [n1000, nI_ltI (by omega) (by omega)]; omega), zif_ok cz.1.1, s_Phash cz, Option.bind_some]
      dsimp only
      obtain ⟨hb, eb⟩ := cBuk_ok c
      rw [eb, xz.g6, Option.bind_some, zia_ok xz.k6.1 (by rw [xz.k6.2]; exact hb) (by rw [xz.k6.2]; omega), Option.bind_some]
      have hin : ∀ i ∈ bukL S.1 (cBuk c), i < S.1.length := fun i hi => (bukL_mem.mp hi).1
      have hbl : (bukL S.1 (cBuk c)).length ≤ 1000 := by
        unfold bukL
        rw [List.length_reverse]
        have := List.length_filter_le (fun i => decide (cBuk (kAt S.1 i) = cBuk c)) (List.range S.1.length)
        rw [List.length_range] at this
        omega
      obtain ⟨n', hn', es⟩ := s_Tchain (a := t + 2 + 5 * S.1.length) xz kz c1 cz h6 ht6 (cBuk c) (bukL S.1 (cBuk c)) _ 0 (kz.2.2 _ hb) hin (by omega)
      rw [n0, es]
      have hiff : (∃ i ∈ bukL S.1 (cBuk c), kAt S.1 i = c) ↔ c ∈ S.1 := by
        constructor
        · rintro ⟨i, hi, e⟩
          rw [← e]
          exact kAt_mem (hin i hi)
        · intro hm
          obtain ⟨i, hi, e⟩ := List.mem_iff_getElem.mp hm
          have e2 : kAt S.1 i = c := by
            have := kAt_get hi
            rw [List.getElem?_eq_getElem hi, e] at this
            exact (Option.some.inj this).symm
          exact ⟨i, bukL_mem.mpr ⟨hi, by rw [e2]⟩, e2⟩
      by_cases hm : c ∈ S.1
      · rw [if_pos (hiff.mpr hm)]
        have ea : twAdd lim c S = (S.1, fl) := by unfold twAdd; rw [if_neg (fun q => q.2 hm), efl]
        rw [ea]
        exact ⟨z, rfl, fz, z0, sz, z2, z3, z4, kz⟩
      · rw [if_neg (fun q => hm (hiff.mp q))]
        have ea : twAdd lim c S = (S.1 ++ [c], fl) := by unfold twAdd; rw [if_pos ⟨c1, hm⟩, efl]
        rw [ea]
        rw [e_X7_keep_56, if_neg (by rw [n1000, nI_ltI (by omega) (by omega)]; omega), if_pos (by decide)]
        rw [xz.g7, Option.bind_some, cnt z1 xz, Option.bind_some, xz.g6, Option.bind_some, zia_ok xz.k6.1 (by rw [xz.k6.2]; exact hb) (by rw [xz.k6.2]; omega), Option.bind_some, zis_ok xz.k7.1 (by rw [xz.k7.2]; omega) (by rw [xz.k7.2]; omega), Option.bind_some]
        have f1 : zFr (t + 5012) (t + 5014) z (zsI z (t + 5013) S.1.length (zI z (t + 5012) (cBuk c))) := zFr_sI (by omega) (by omega)
        generalize hy1 : zsI z (t + 5013) S.1.length (zI z (t + 5012) (cBuk c)) = y1 at *
        have xy1 := xz.keep f1
        rw [xy1.g6, Option.bind_some, cnt (by rw [f1.I (by omega)]; exact z1) xy1, Option.bind_some, zis_ok xy1.k6.1 (by rw [xy1.k6.2]; exact hb) (by rw [xy1.k6.2]; omega), Option.bind_some]
        have f2 : zFr (t + 5012) (t + 5014) z (zsI y1 (t + 5012) (cBuk c) (nI S.1.length)) := f1.tr (zFr_sI (by omega) (by omega))
        have v12 : ∀ b, zI (zsI y1 (t + 5012) (cBuk c) (nI S.1.length)) (t + 5012) b = if b = cBuk c then nI S.1.length else zI z (t + 5012) b := fun b => by
          by_cases e : b = cBuk c
          · rw [if_pos e, e, zI_sI]
          · rw [if_neg e, zI_sI_k e, ← hy1, zI_sI_a (by omega)]
        have v13 : ∀ i, zI (zsI y1 (t + 5012) (cBuk c) (nI S.1.length)) (t + 5013) i = if i = S.1.length then zI z (t + 5012) (cBuk c) else zI z (t + 5013) i := fun i => by
          rw [zI_sI_a (by omega), ← hy1]
          by_cases e : i = S.1.length
          · rw [if_pos e, e, zI_sI]
          · rw [if_neg e, zI_sI_k e]
        generalize hy2 : zsI y1 (t + 5012) (cBuk c) (nI S.1.length) = y2 at *
        have xy2 := xz.keep f2
        rw [cnt (by rw [f2.I (by omega)]; exact z1) xy2, Option.bind_some, nI_1, zpI_ok xy2.1.1, Option.bind_some]
        have f3 : zFr t (t + 1) y2 (zsI y2 t 1 (nI (S.1.length + 1))) := zFr_sI (by omega) (by omega)
        have e3 : zEq (t + 2) (t + 5012) z (zsI y2 t 1 (nI (S.1.length + 1))) := (f2.eq (by omega)).tr (f3.eq (by omega))
        have w0 : ∀ j, j ≠ 1 → zI (zsI y2 t 1 (nI (S.1.length + 1))) t j = zI z t j := fun j hj => by rw [zI_sI_k hj, f2.I (by omega)]
        have ff : zFr t (t + 5014) h (zsI y2 t 1 (nI (S.1.length + 1))) := fz.tr ((f2.wide (by omega) (by omega)).tr (f3.wide (by omega) (by omega)))
        refine ⟨_, rfl, ff, by rw [w0 0 (by decide)]; exact z0, ⟨X.keep ff, fun i hi => by
          obtain ⟨c', hc'⟩ := sz.2 i hi
          exact ⟨c', hc'.eq (e3.sub (by omega) (by omega))⟩⟩, by rw [w0 2 (by decide)]; exact z2, by rw [w0 3 (by decide)]; exact z3, by rw [w0 4 (by decide)]; exact z4, by rw [zI_sI]; simp, fun i hi => ?_, fun b hb' => ?_⟩
        · rw [List.length_append] at hi
          have hi : i < S.1.length + 1 := hi
          by_cases e : i < S.1.length
          · rw [kAt_l e]
            exact (kz.2.1 i e).eq (e3.sub (by omega) (by omega))
          · have : i = S.1.length := by omega
            subst this
            have := kAt_r (K := S.1) (t := [c]) (i := 0)
            rw [Nat.add_zero] at this
            rw [this]
            exact cz.eq (e3.sub (by omega) (by omega))
        · dsimp only
          rw [bukL_app, zI_sI_a (by omega), v12]
          have hold : ∀ v, Chn z t v (bukL S.1 b) → Chn (zsI y2 t 1 (nI (S.1.length + 1))) t v (bukL S.1 b) := fun v hv => hv.eq (L := S.1.length) (fun i hi => (bukL_mem.mp hi).1) (fun i hi => by rw [zI_sI_a (by omega), v13, if_neg (by omega)])
          by_cases e : cBuk c = b
          · subst e
            rw [if_pos rfl, if_pos rfl]
            refine ⟨rfl, ?_⟩
            rw [zI_sI_a (by omega), v13, if_pos rfl]
            exact hold _ (kz.2.2 _ hb')
          · rw [if_neg (fun q => e q.symm), if_neg e]
            exact hold _ (kz.2.2 _ hb')
    · rw [if_pos (by rw [n1000, nI_ltI (by omega) (by omega)]; omega)]
      have ea : twAdd lim c S = (S.1, fl) := by unfold twAdd; rw [if_neg (fun q => c1 q.1), efl]
      rw [ea]
      exact ⟨z, rfl, fz, z0, sz, z2, z3, z4, kz⟩
  rw [e_X7_keep, X.g5, Option.bind_some, cnt rfl X, Option.bind_some, X.p (by omega), Option.bind_some, zif_ok hc.1.1, s_PlongerSide hc, Option.bind_some]
  dsimp only
  rw [zgI_ok X.1.1, k3, Option.bind_some]
  by_cases c2 : lim < max c.2.1.length c.2.2.length
  · rw [if_pos ((nI_ltI (by omega) (by omega)).mpr c2), zpZ_ok X.1.1 (Or.inr rfl), Option.bind_some]
    have f1 : zFr t (t + 1) h (zsI h t 4 1) := zFr_sI (by omega) (by omega)
    exact tail _ true (Or.inr rfl) (X.keep f1) zI_sI (by rw [zI_sI_k (by decide)]) (by rw [zI_sI_k (by decide)]; exact k2) (by rw [zI_sI_k (by decide)]; exact k3) (kT.eq hl (by rw [zI_sI_k (by decide)]) (f1.eq (by omega))) (x.out f1 (f1.eq (by omega))) (hc.keep f1 (by omega)) (f1.wide (by omega) (by omega)) (by rw [zI_sI_k (by decide)]) (by rw [decide_eq_true (show lim < c.2.1.length ∨ lim < c.2.2.length by omega), Bool.or_true])
  · rw [if_neg (by rw [nI_ltI (by omega) (by omega)]; exact c2)]
    exact tail h S.2 (Or.inl rfl) X k4 rfl k2 k3 kT x hc zFr.rf rfl (by rw [decide_eq_false (show ¬ (lim < c.2.1.length ∨ lim < c.2.2.length) by omega), Bool.or_false])
