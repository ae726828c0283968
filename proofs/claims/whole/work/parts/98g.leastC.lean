/-! The class Least: shortened to what all begin with; written early. -/
section LCC
variable {h h' : zM} {x y : Nat} {M : zMa}
theorem nmin (a b : Nat) (ha : a < 2 ^ 30) (hb : b < 2 ^ 30) : (if nI b < nI a then nI b else nI a) = nI (min a b) := by
  by_cases q : b < a
  · rw [if_pos ((nI_ltI (by omega) (by omega)).mpr q), Nat.min_eq_right (by omega)]
  · rw [if_neg (by rw [nI_ltI (by omega) (by omega)]; exact q), Nat.min_eq_left (by omega)]
theorem wExt (x : Nat) (i : Nat) : x + 1204 + 1 + 2 * i = x + 1205 + 2 * i := by omega
theorem s_commonLength {s : Nat} {C : Nat → zWo} (g : sGood M) (l : LI h x y M) (en : EN h y (lsN M) (lsEn M)) (cm : CM h y (lsN M) C) (cl : cLen M C) (hs : s < lsN M) : zf nX1_commonLength [.inr y, .inl (nI s)] h = some (nI (cmn M (sMake M) C s), 0, h) := by
  have hn := g.2.2.2
  have hN : (sMake M).1.length = lsN M := rfl
  have hs100 : s < 100 := by omega
  have gf := l.gf g
  have Y := l.2.1
  have X := l.1.1.1
  have hc := cm s hs
  have hcl := cl s hs
  have e3 : (nI s + 1) * 3 = nI (3 * s + 3) := by rw [nI_1, n3, pk_mul]; congr 1; omega
  have e0 : nI s * 3 = nI (3 * s + 0) := by rw [n3, pk_mul]; congr 1; omega
  have way : ∀ (f j n : Nat), f + j = 3 → n ≤ 200 → zm_X1_commonLength 41 [some (.inr y), some (.inl (nI s)), some (.inr (y + 204 + 2 * s)), some (.inl (nI n)), some (.inl (nI (3 * s + j))), none] [] h = if 0 < f then zm_X1_commonLength 41 [some (.inr y), some (.inl (nI s)), some (.inr (y + 204 + 2 * s)), some (.inl (nI (cmJ (sMake M) C s n j))), some (.inl (nI (3 * s + (j + 1)))), none] [] h else some (nI n, 0, h) := by
    intro f j n hf hn2
    by_cases c0 : 0 < f
    · rw [if_pos c0]
      have hi : 3 * s + j < 3 * lsN M := by omega
      have hi300 : 3 * s + j < 300 := by omega
      rw [e_X1_commonLength_41, e3, if_pos ((nI_ltI (by omega) (by omega)).mpr (by omega)), Y.g2, Option.bind_some, X.g3, Option.bind_some, zia_ok X.k3.1 (by rw [X.k3.2]; exact hi300) (by rw [X.k3.2]; omega), Option.bind_some]
      cases eg : goAt (sMake M) (3 * s + j) with
      | none =>
        have hg := gf.none hi eg
        have ec : cmJ (sMake M) C s n j = n := by unfold cmJ; rw [eg]
        rw [hg.1, if_pos rfl, ec, nI_1]
        rfl
      | some p =>
        obtain ⟨o, gg⟩ := p
        have hg := gf.some hi eg
        dsimp only at hg
        have hgl := (g.go_lt eg (by omega)).2
        have hg100 : gg < 100 := by omega
        have hcg := cm gg (by omega)
        have ec : cmJ (sMake M) C s n j = min n (lcp (C s) (o ++ C gg)) := by unfold cmJ; rw [eg]
        have hll := (lcp_le (C s) (o ++ C gg)).1
        rw [hg.1, if_neg (nneg (by omega)), Option.bind_some, X.g4, Option.bind_some, X.2.2.2.1.el hi300, wExt, Option.bind_some, Y.g5, Option.bind_some, Y.e5 hg100, Option.bind_some, zif_ok hc.1, s_commonWith2 hc hg.2 hcg (fun k hk => hcl.2.ne hk), Option.bind_some]
        dsimp only
        rw [s_min, Option.bind_some, ec, nmin n _ (by omega) (by omega), nI_1]
        rfl
    · rw [if_neg c0, e_X1_commonLength_41, e3, if_neg (by rw [nI_ltI (by omega) (by omega)]; omega)]
  have hl129 := hcl.1
  have tail : ∀ n, n ≤ 129 → zm_X1_commonLength 41 [some (.inr y), some (.inl (nI s)), some (.inr (y + 204 + 2 * s)), some (.inl (nI n)), some (.inl (nI (3 * s + 0))), none] [] h = some (nI (cmJ (sMake M) C s (cmJ (sMake M) C s (cmJ (sMake M) C s n 0) 1) 2), 0, h) := by
    intro n hn'
    have a := cmJ_le (sMake M) C s n 0
    have b := cmJ_le (sMake M) C s (cmJ (sMake M) C s n 0) 1
    have c := cmJ_le (sMake M) C s (cmJ (sMake M) C s (cmJ (sMake M) C s n 0) 1) 2
    rw [way 3 0 n rfl (by omega), if_pos (by decide), way 2 1 _ rfl (by omega), if_pos (by decide), way 1 2 _ rfl (by omega), if_pos (by decide), way 0 3 _ rfl (by omega), if_neg (by decide)]
  rw [e_X1_commonLength, Y.g5, Option.bind_some, Y.e5 hs100, Option.bind_some, hc.len, Option.bind_some, Y.g3, Option.bind_some, Y.rb hs100, (en s hs).1, Option.bind_some]
  unfold cmn
  cases ee : lsEn M s with
  | none =>
    have e1 : cm0 M (sMake M) C s = (C s).length := by unfold cm0; rw [show stEnd M (seAt (sMake M) s) = none from ee]
    rw [if_pos (by decide), e0, tail _ hl129, e1]
  | some v =>
    have hv := (en s hs).2 v ee
    have e1 : cm0 M (sMake M) C s = min (C s).length (lcp (C s) v) := by unfold cm0; rw [show stEnd M (seAt (sMake M) s) = some v from ee]
    have hll := (lcp_le (C s) v).1
    rw [if_neg (show ¬ bI (some v).isSome = 0 from (by decide : ¬ (1 : Int32) = 0)), Y.g4, Option.bind_some, Y.e4 hs100, Option.bind_some, zif_ok hc.1, s_commonWith hc hv, Option.bind_some]
    dsimp only
    rw [s_min, Option.bind_some, nmin _ _ (by omega) (by omega), e0]
    dsimp only
    rw [tail _ (by omega), e1]
theorem cm_take {C : Nat → zWo} {s : Nat} : (shF M (sMake M) (C, true) s).1 = (shF M (sMake M) (C, false) s).1 := by
  unfold shF
  split <;> rfl
theorem s_shorten_pass {C : Nat → zWo} {r : Int32} (g : sGood M) (hxy : x + 1818 ≤ y) (l : LI h x y M) (en : EN h y (lsN M) (lsEn M)) (cm : CM h y (lsN M) C) (hC : geA M C ∧ cLen M C) :
    ∃ h', zm_X1_shortenCommons 19 [some (.inr y), some (.inl 0), some (.inl r), some (.inl 0), none] [] h = zm_X1_shortenCommons 4 [some (.inr y), some (.inl (bI (shR M (sMake M) (lsN M) C).2)), some (.inl (r + 1)), none, none] [] h' ∧ zFr y (y + 409) h h' ∧ LI h' x y M ∧ EN h' y (lsN M) (lsEn M) ∧ CM h' y (lsN M) (shR M (sMake M) (lsN M) C).1 := by
  have hn := g.2.2.2
  have hN : (sMake M).1.length = lsN M := rfl
  have main := zlp (P := fun t z => zFr y (y + 409) h z ∧ LI z x y M ∧ EN z y (lsN M) (lsEn M) ∧ CM z y (lsN M) ((List.range t).foldl (shF M (sMake M)) (C, false)).1 ∧ geA M ((List.range t).foldl (shF M (sMake M)) (C, false)).1 ∧ cLen M ((List.range t).foldl (shF M (sMake M)) (C, false)).1) (g := fun t z => zm_X1_shortenCommons 19 [some (.inr y), some (.inl (bI ((List.range t).foldl (shF M (sMake M)) (C, false)).2)), some (.inl r), some (.inl (nI t)), none] [] z) (n := lsN M) ?_ 0 h (Nat.zero_le _) ⟨zFr.rf, l, en, cm, hC⟩
  · obtain ⟨z, e1, f, lz, enz, cmz, _⟩ := main
    have e1 : zm_X1_shortenCommons 19 [some (.inr y), some (.inl 0), some (.inl r), some (.inl 0), none] [] h = zm_X1_shortenCommons 19 [some (.inr y), some (.inl (bI (shR M (sMake M) (lsN M) C).2)), some (.inl r), some (.inl (nI (lsN M))), none] [] z := e1
    refine ⟨z, ?_, f, lz, enz, cmz⟩
    rw [e1, e_X1_shortenCommons_19, lz.2.1.g2, Option.bind_some, lz.gl, Option.bind_some, if_neg (by rw [nI_ltI (by omega) (by omega)]; omega)]
  · rintro t z ht ⟨f, lz, enz, cmz, ge, cl⟩
    have ht100 : t < 100 := by omega
    have hr' : (List.range (t + 1)).foldl (shF M (sMake M)) (C, false) = shF M (sMake M) ((List.range t).foldl (shF M (sMake M)) (C, false)) t := by rw [List.range_succ, List.foldl_append]; rfl
    rw [hr']
    generalize (List.range t).foldl (shF M (sMake M)) (C, false) = S at *
    have Y := lz.2.1
    have ok := shF_ok g (S := S) ht ⟨ge, cl⟩
    have hct := cmz t ht
    have hl := cmn_le M (sMake M) S.1 t
    have hcl := (cl t ht).1
    rw [e_X1_shortenCommons_19, Y.g2, Option.bind_some, lz.gl, Option.bind_some, if_pos ((nI_ltI (by omega) (by omega)).mpr ht), zif_ok Y.1.1, s_commonLength g lz enz cmz cl ht, Option.bind_some]
    dsimp only
    rw [Y.g5, Option.bind_some, Y.e5 ht100, Option.bind_some, hct.len, Option.bind_some]
    unfold shF at ok ⊢
    by_cases c : cmn M (sMake M) S.1 t < (S.1 t).length
    · rw [if_pos c] at ok ⊢
      obtain ⟨z1, a1, a2, a3⟩ := s_shortenTo hct (c := cmn M (sMake M) S.1 t) (by omega)
      rw [if_pos ((nI_ltI (by omega) (by omega)).mpr c), Option.bind_some, Y.e5 ht100, Option.bind_some, zif_ok hct.1, a1, Option.bind_some, nI_1]
      exact ⟨z1, rfl, f.tr (a2.wide (by omega) (by omega)), lz.com g hxy ht100 a2 a3, enz.eq hn (a2.eq (by omega)), cmz.put a2 a3, ok⟩
    · rw [if_neg c] at ok ⊢
      rw [if_neg (by rw [nI_ltI (by omega) (by omega)]; exact c), nI_1]
      exact ⟨z, rfl, f, lz, enz, cmz, ge, cl⟩
theorem s_shortenCommons {C : Nat → zWo} (g : sGood M) (hxy : x + 1818 ≤ y) (l : LI h x y M) (en : EN h y (lsN M) (lsEn M)) (cm : CM h y (lsN M) C) (hD : guD M C) :
    ∃ h', zf nX1_shortenCommons [.inr y] h = some (0, 0, h') ∧ zFr y (y + 409) h h' ∧ LI h' x y M ∧ EN h' y (lsN M) (lsEn M) ∧ CM h' y (lsN M) (hdW M) := by
  have hn := g.2.2.2
  have hN : (sMake M).1.length = lsN M := rfl
  have loop : ∀ (f r : Nat) (C : Nat → zWo) (z : zM), f + r = 12901 → geA M C ∧ cLen M C → zFr y (y + 409) h z → LI z x y M → EN z y (lsN M) (lsEn M) → CM z y (lsN M) C →
      ∃ h', zm_X1_shortenCommons 4 [some (.inr y), some (.inl 1), some (.inl (nI r)), none, none] [] z = some (0, 0, h') ∧ zFr y (y + 409) h h' ∧ LI h' x y M ∧ EN h' y (lsN M) (lsEn M) ∧ CM h' y (lsN M) (shL M (sMake M) (lsN M) f C) := by
    intro f
    induction f with
    | zero =>
      intro r C z hf hC fr lz enz cmz
      rw [e_X1_shortenCommons_4, if_neg (by decide), if_pos (by rw [show (12900 : Int32) = nI 12900 from rfl, nI_ltI (by omega) (by omega)]; omega)]
      exact ⟨z, rfl, fr, lz, enz, cmz⟩
    | succ f ih =>
      intro r C z hf hC fr lz enz cmz
      obtain ⟨z1, a1, a2, a3, a4, a5⟩ := s_shorten_pass (r := nI r) g hxy lz enz cmz hC
      rw [e_X1_shortenCommons_4, if_neg (by decide), if_neg (by rw [show (12900 : Int32) = nI 12900 from rfl, nI_ltI (by omega) (by omega)]; omega), a1, nI_1]
      obtain ⟨b1, b2, b3⟩ := shR_ok g hC
      rw [hN] at b1
      unfold shL
      cases e : (shR M (sMake M) (lsN M) C).2 with
      | true =>
        rw [if_pos rfl]
        exact ih (r + 1) _ z1 (by omega) b1 (fr.tr a2) a3 a4 a5
      | false =>
        rw [if_neg (by decide), e_X1_shortenCommons_4, if_pos (show bI false = 0 from rfl)]
        exact ⟨z1, rfl, fr.tr a2, a3, a4, a5⟩
  have hC := And.intro (guD_ge hD) (guD_len g hD)
  obtain ⟨h', r1, r2, r3, r4, r5⟩ := loop 12901 0 C h rfl hC zFr.rf l en cm
  refine ⟨h', by rw [e_X1_shortenCommons]; exact r1, r2, r3, r4, fun s hs => ?_⟩
  have htot : totL (sMake M).1.length C < 12901 := by
    have := totL_le (sMake M).1.length 129 (C := C) (fun s hs => (hC.2 s hs).1)
    have : (sMake M).1.length * 129 ≤ 100 * 129 := Nat.mul_le_mul hn (Nat.le_refl _)
    omega
  have fin := (shL_ok g 12901 C hC htot).1 s hs
  rw [← hdW_eq g hs fin]
  exact r5 s hs
/-- sets and ways are there, however long their words -/
def LE (h : zM) (x y : Nat) (M : zMa) : Prop := SS h x ∧ zI h x 0 = nI (lsN M) ∧ YS h x y
theorem LE.gl (l : LE h x y M) : zgI h x 6 0 = some (nI (lsN M)) := (zgI_ok l.1.1.1.1).trans (congrArg some l.2.1)
theorem LI.le (l : LI h x y M) : LE h x y M := ⟨l.1.1, l.1.2.2.1.1, l.2⟩
theorem lsW_i {s j : Nat} (hj : j < 3) : lsW M (3 * s + j) = (goAt (sMake M) (3 * s + j)).map fun p => ((p.1 ++ hdW M p.2).drop (hdW M s).length, p.2) := by
  unfold lsW
  rw [show (3 * s + j) / 3 = s by omega]
theorem s_writeEarly (g : sGood M) (hxy : x + 1818 ≤ y) (l : LI h x y M) (en : EN h y (lsN M) (lsEn M)) (cm : CM h y (lsN M) (hdW M)) :
    ∃ h', zf nX1_writeEarly [.inr y] h = some (0, 0, h') ∧ zFr x (y + 409) h h' ∧ zEq (x + 1805) (y + 1) h h' ∧ LE h' x y M ∧ EN h' y (lsN M) (lsE M) ∧ CM h' y (lsN M) (hdW M) ∧ GF h' x (lsN M) (lsW M) := by
  have hn := g.2.2.2
  have hN : (sMake M).1.length = lsN M := rfl
  have gf := l.gf g
  rw [e_X1_writeEarly]
  have main := zlp (P := fun s z => zFr x (y + 409) h z ∧ zEq (x + 1805) (y + 1) h z ∧ LE z x y M ∧ EN z y (lsN M) (fun t => if t < s then lsE M t else lsEn M t) ∧ CM z y (lsN M) (hdW M) ∧ GF z x (lsN M) (fun i => if i < 3 * s then lsW M i else goAt (sMake M) i)) (g := fun s z => zm_X1_writeEarly 2 [some (.inr y), some (.inl (nI s)), none, none] [] z) (n := lsN M) ?_ 0 h (Nat.zero_le _) ⟨zFr.rf, zEq.rf, l.le, en, cm, gf⟩
  · obtain ⟨z, e1, f, q0, lz, enz, cmz, gz⟩ := main
    refine ⟨z, ?_, f, q0, lz, fun s hs => by have := enz s hs; simp only [if_pos hs] at this; exact this, cmz, fun i hi => by have := gz i hi; simp only [if_pos hi] at this; exact this⟩
    rw [n0, e1, e_X1_writeEarly_2, lz.2.2.1.g2, Option.bind_some, lz.gl, Option.bind_some, if_neg (by rw [nI_ltI (by omega) (by omega)]; omega)]
    rfl
  · rintro s z hs ⟨f, q0, lz, enz, cmz, gz⟩
    have hs100 : s < 100 := by omega
    have Y := lz.2.2.1
    have hcs := cmz s hs
    have hcl := hdW_len g hs
    have e3 : (nI s + 1) * 3 = nI (3 * s + 3) := by rw [nI_1, n3, pk_mul]; congr 1; omega
    have e0 : nI s * 3 = nI (3 * s + 0) := by rw [n3, pk_mul]; congr 1; omega
    obtain ⟨w0, hw0⟩ := lz.2.2.endAt hs100
    have hw0' : ∃ w, Wd z (y + 3 + 2 * s) 111 w ∧ ∀ v, lsEn M s = some v → w = v := by
      cases ee : lsEn M s with
      | none => exact ⟨w0, hw0, fun v hv => by cases hv⟩
      | some v =>
        have := enz s hs
        simp only [if_neg (Nat.lt_irrefl s)] at this
        exact ⟨v, this.2 v ee, fun u hu => by cases hu; rfl⟩
    obtain ⟨w, hw, hwv⟩ := hw0'
    obtain ⟨z1, a1, a2, a3⟩ := s_dropFirst hw (c := (hdW M s).length) (by omega)
    rw [e_X1_writeEarly_2, Y.g2, Option.bind_some, lz.gl, Option.bind_some, if_pos ((nI_ltI (by omega) (by omega)).mpr hs), Y.g4, Option.bind_some, Y.e4 hs100, Option.bind_some, Y.g5, Option.bind_some, Y.e5 hs100, Option.bind_some, hcs.len, Option.bind_some, zif_ok hw.1, a1, Option.bind_some, e0]
    have l1 : LE z1 x y M := ⟨lz.1.eq (a2.eq (by omega)), by rw [a2.I (by omega)]; exact lz.2.1, lz.2.2.ends hs100 a2 a3⟩
    have en1 : EN z1 y (lsN M) (fun t => if t < s + 1 then lsE M t else lsEn M t) := fun t ht => by
      have := enz t ht
      by_cases e : t = s
      · subst e
        simp only [if_neg (Nat.lt_irrefl t)] at this
        simp only [if_pos (Nat.lt_succ_self t)]
        have el : lsE M t = (lsEn M t).map (·.drop (hdW M t).length) := rfl
        rw [el]
        refine ⟨by rw [a2.I (by omega), this.1]; cases lsEn M t <;> rfl, fun v hv => ?_⟩
        obtain ⟨u, hu, rfl⟩ := Option.map_eq_some_iff.mp hv
        rw [← hwv u hu]
        exact a3
      · have e1 : (if t < s + 1 then lsE M t else lsEn M t) = (if t < s then lsE M t else lsEn M t) := by
          by_cases q : t < s
          · rw [if_pos q, if_pos (by omega)]
          · rw [if_neg q, if_neg (by omega)]
        simp only [e1]
        exact ⟨by rw [a2.I (by omega)]; exact this.1, fun v hv => (this.2 v hv).keep a2 (by omega)⟩
    have cm1 := cmz.eq hn (a2.eq (by omega))
    have gz1 : GF z1 x (lsN M) (fun i => if i < 3 * s + 0 then lsW M i else goAt (sMake M) i) := gz.eq hn (a2.eq (by omega))
    have f1 : zFr x (y + 409) h z1 := f.tr (a2.wide (by omega) (by omega))
    have q1 : zEq (x + 1805) (y + 1) h z1 := q0.tr (a2.eq (by omega))
    have inner := zlp (P := fun j u => zFr x (y + 409) h u ∧ zEq (x + 1805) (y + 1) h u ∧ LE u x y M ∧ EN u y (lsN M) (fun t => if t < s + 1 then lsE M t else lsEn M t) ∧ CM u y (lsN M) (hdW M) ∧ GF u x (lsN M) (fun i => if i < 3 * s + j then lsW M i else goAt (sMake M) i)) (g := fun j u => zm_X1_writeEarly 35 [some (.inr y), some (.inl (nI s)), some (.inl (nI (3 * s + j))), none] [] u) (n := 3) ?_ 0 z1 (Nat.zero_le _) ⟨f1, q1, l1, en1, cm1, gz1⟩
    · obtain ⟨u, i1, i2, i2', i3, i4, i5, i6⟩ := inner
      refine ⟨u, ?_, i2, i2', i3, i4, i5, i6⟩
      refine Eq.trans i1 ?_
      rw [e_X1_writeEarly_35, e3, if_neg (by rw [nI_ltI (by omega) (by omega)]; omega), nI_1]
    · rintro j u hj ⟨fu, qu, lu, enu, cmu, gu⟩
      have hi : 3 * s + j < 3 * lsN M := by omega
      have hi300 : 3 * s + j < 300 := by omega
      have Yu := lu.2.2.1
      have Xu := lu.1.1
      have gi := gu (3 * s + j) hi
      have hlw := lsW_i (M := M) (s := s) hj
      simp only [if_neg (Nat.lt_irrefl (3 * s + j))] at gi
      rw [e_X1_writeEarly_35, e3, if_pos ((nI_ltI (by omega) (by omega)).mpr (by omega)), Yu.g2, Option.bind_some, Xu.g3, Option.bind_some, zia_ok Xu.k3.1 (by rw [Xu.k3.2]; exact hi300) (by rw [Xu.k3.2]; omega), Option.bind_some]
      have others : ∀ {u' : zM}, (∀ i, i < 3 * lsN M → i ≠ 3 * s + j → zI u' (x + 1203) i = zI u (x + 1203) i ∧ zEq (x + 1205 + 2 * i) (x + 1207 + 2 * i) u u') → (match lsW M (3 * s + j) with
          | none => zI u' (x + 1203) (3 * s + j) = -1 ∧ Wd u' (x + 1205 + 2 * (3 * s + j)) 240 []
          | some p => zI u' (x + 1203) (3 * s + j) = nI p.2 ∧ Wd u' (x + 1205 + 2 * (3 * s + j)) 240 p.1) → GF u' x (lsN M) (fun i => if i < 3 * s + (j + 1) then lsW M i else goAt (sMake M) i) := fun {u'} ho hnew i hi2 => by
        by_cases e : i = 3 * s + j
        · subst e
          simp only [if_pos (show 3 * s + j < 3 * s + (j + 1) by omega)]
          exact hnew
        · obtain ⟨o1, o2⟩ := ho i hi2 e
          have e1 : (if i < 3 * s + (j + 1) then lsW M i else goAt (sMake M) i) = (if i < 3 * s + j then lsW M i else goAt (sMake M) i) := by
            by_cases q : i < 3 * s + j
            · rw [if_pos q, if_pos (by omega)]
            · rw [if_neg q, if_neg (by omega)]
          have gi := gu i hi2
          simp only [e1]
          dsimp only at gi
          generalize (if i < 3 * s + j then lsW M i else goAt (sMake M) i) = oo at gi ⊢
          cases oo with
          | none => exact ⟨by rw [o1]; exact gi.1, gi.2.eq (o2.sub (by omega) (by omega))⟩
          | some p => exact ⟨by rw [o1]; exact gi.1, gi.2.eq (o2.sub (by omega) (by omega))⟩
      cases eg : goAt (sMake M) (3 * s + j) with
      | none =>
        rw [eg] at gi hlw
        rw [gi.1, if_pos rfl, nI_1]
        refine ⟨u, rfl, fu, qu, lu, enu, cmu, others (fun i _ _ => ⟨rfl, zEq.rf⟩) ?_⟩
        rw [hlw]
        exact gi
      | some p =>
        obtain ⟨o, gg⟩ := p
        rw [eg] at gi hlw
        dsimp only at gi
        have hgl := (g.go_lt eg hj).2
        have hg100 : gg < 100 := by omega
        have hgl' := hdW_len g (s := gg) (by omega)
        have lo := (go_len g hj eg).1
        have hcg := cmu gg (by omega)
        have hcs' := cmu s hs
        obtain ⟨u1, b1, b2, b3⟩ := s_addWord gi.2 hcg (by omega)
        rw [List.take_of_length_le (by rw [List.length_append]; omega)] at b3
        have Y1 := Yu.keep b2
        have X1 := Xu.keep b2
        obtain ⟨u2, c1, c2, c3⟩ := s_dropFirst b3 (c := (hdW M s).length) (by omega)
        have hcs1 := hcs'.keep b2 (by omega)
        rw [gi.1, if_neg (nneg (by omega)), Option.bind_some, Xu.g4, Option.bind_some, Xu.2.2.2.1.el hi300, wExt, Option.bind_some, Yu.g5, Option.bind_some, Yu.e5 hg100, Option.bind_some, zif_ok gi.2.1, b1, Option.bind_some]
        dsimp only
        rw [Y1.g2, Option.bind_some, X1.g4, Option.bind_some, X1.2.2.2.1.el hi300, wExt, Option.bind_some, Y1.g5, Option.bind_some, Y1.e5 hs100, Option.bind_some, hcs1.len, Option.bind_some, zif_ok b3.1, c1, Option.bind_some, nI_1]
        have ff : zFr (x + 1205 + 2 * (3 * s + j)) (x + 1205 + 2 * (3 * s + j) + 2) u u2 := b2.tr c2
        refine ⟨u2, rfl, fu.tr (ff.wide (by omega) (by omega)), qu.tr (ff.eq (by omega)), ⟨lu.1.writ hi300 ff c3, by rw [ff.I (by omega)]; exact lu.2.1, lu.2.2.out ff (by omega)⟩, enu.eq hn (ff.eq (by omega)), cmu.eq hn (ff.eq (by omega)), others (fun i _ hne => ⟨ff.I (by omega) _, ff.eq (by omega)⟩) ?_⟩
        rw [hlw]
        exact ⟨by rw [ff.I (by omega)]; exact gi.1, c3⟩
end LCC
