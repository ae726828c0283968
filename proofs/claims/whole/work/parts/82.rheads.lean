/-! The reference: heads of all sets, again and again, till none changes. -/
def tri (t : Option zWo) (w : zWo) : Option zWo := match t with
  | none => some w
  | some t => some (t.take (lcp t w))
def hdJ (X : zSs) (H : Nat → Option zWo) (s : Nat) (t : Option zWo) (j : Nat) : Option zWo := match goAt X (3 * s + j) with
  | some (o, g) => match H g with
    | some h => tri t (o ++ h)
    | none => t
  | none => t
def hdF (M : zMa) (X : zSs) (H : Nat → Option zWo) (s : Nat) : Option zWo := hdJ X H s (hdJ X H s (hdJ X H s (stEnd M (seAt X s)) 0) 1) 2
def hdS (M : zMa) (X : zSs) (S : (Nat → Option zWo) × Bool) (s : Nat) : (Nat → Option zWo) × Bool := if hdF M X S.1 s = S.1 s then S else (va_up S.1 s (hdF M X S.1 s), true)
def hdR (M : zMa) (X : zSs) (n : Nat) (H : Nat → Option zWo) : (Nat → Option zWo) × Bool := (List.range n).foldl (hdS M X) (H, false)
/-- t is what all that c tells begin with -/
def trOk (c : zWo → Prop) (t : Option zWo) : Prop := match t with
  | none => ∀ w, ¬ c w
  | some t => (∀ w, c w → t <+: w) ∧ (∃ w, c w) ∧ ∀ P, (∀ w, c w → P <+: w) → P <+: t
theorem take_lcp_pfx (t w : zWo) : t.take (lcp t w) <+: t ∧ t.take (lcp t w) <+: w := ⟨List.take_prefix _ _, by rw [take_lcp (Nat.le_refl _)]; exact List.take_prefix _ _⟩
theorem tri_ok {c : zWo → Prop} {t : Option zWo} {w : zWo} (h : trOk c t) : trOk (fun v => c v ∨ v = w) (tri t w) := by
  cases t with
  | none =>
    refine ⟨fun v hv => ?_, ⟨w, Or.inr rfl⟩, fun P hP => hP w (Or.inr rfl)⟩
    rcases hv with z | z
    · exact absurd z (h v)
    · rw [z]; exact List.prefix_refl _
  | some t =>
    obtain ⟨a, b, d⟩ := h
    have tp := take_lcp_pfx t w
    refine ⟨fun v hv => ?_, ⟨w, Or.inr rfl⟩, fun P hP => ?_⟩
    · rcases hv with z | z
      · exact tp.1.trans (a v z)
      · rw [z]; exact tp.2
    · have p1 := d P (fun v hv => hP v (Or.inl hv))
      exact pre_take p1 (pre_lcp p1 (hP w (Or.inr rfl)))
theorem trOk_iff {c d : zWo → Prop} {t : Option zWo} (h : trOk c t) (e : ∀ w, c w ↔ d w) : trOk d t := by
  have : c = d := funext fun w => propext (e w)
  rw [← this]
  exact h
/-- what a set's head is made of -/
def ctr (M : zMa) (X : zSs) (H : Nat → Option zWo) (s : Nat) (w : zWo) : Prop := stEnd M (seAt X s) = some w ∨ ∃ j, j < 3 ∧ ∃ o g h, goAt X (3 * s + j) = some (o, g) ∧ H g = some h ∧ w = o ++ h
theorem hdJ_ok {X : zSs} {H : Nat → Option zWo} {s j : Nat} {c : zWo → Prop} {t : Option zWo} (h : trOk c t) : trOk (fun w => c w ∨ ∃ o g h, goAt X (3 * s + j) = some (o, g) ∧ H g = some h ∧ w = o ++ h) (hdJ X H s t j) := by
  unfold hdJ
  split
  · rename_i o g e
    split
    · rename_i hw e2
      refine trOk_iff (tri_ok h) (fun w => ⟨fun z => ?_, fun z => ?_⟩)
      · rcases z with z | z
        · exact Or.inl z
        · exact Or.inr ⟨o, g, hw, e, e2, z⟩
      · rcases z with z | ⟨o', g', h', e3, e4, e5⟩
        · exact Or.inl z
        · rw [e] at e3
          cases e3
          rw [e2] at e4
          cases e4
          exact Or.inr e5
    · rename_i e2
      refine trOk_iff h (fun w => ⟨fun z => Or.inl z, fun z => ?_⟩)
      rcases z with z | ⟨o', g', h', e3, e4, e5⟩
      · exact z
      · rw [e] at e3
        cases e3
        rw [e2] at e4
        cases e4
  · rename_i e
    refine trOk_iff h (fun w => ⟨fun z => Or.inl z, fun z => ?_⟩)
    rcases z with z | ⟨o', g', h', e3, e4, e5⟩
    · exact z
    · rw [e] at e3
      cases e3
theorem hdF_ok (M : zMa) (X : zSs) (H : Nat → Option zWo) (s : Nat) : trOk (ctr M X H s) (hdF M X H s) := by
  have h0 : trOk (fun w => stEnd M (seAt X s) = some w) (stEnd M (seAt X s)) := by
    cases e : stEnd M (seAt X s) with
    | none => exact fun w z => by cases z
    | some v => exact ⟨fun w z => by cases z; exact List.prefix_refl _, ⟨v, rfl⟩, fun P hP => hP v rfl⟩
  refine trOk_iff (hdJ_ok (X := X) (H := H) (s := s) (j := 2) (hdJ_ok (X := X) (H := H) (s := s) (j := 1) (hdJ_ok (X := X) (H := H) (s := s) (j := 0) h0))) (fun w => ⟨fun z => ?_, fun z => ?_⟩)
  · rcases z with ((z | z) | z) | z
    · exact Or.inl z
    · exact Or.inr ⟨0, by decide, z⟩
    · exact Or.inr ⟨1, by decide, z⟩
    · exact Or.inr ⟨2, by decide, z⟩
  · rcases z with z | ⟨j, hj, z⟩
    · exact Or.inl (Or.inl (Or.inl z))
    · rcases (show j = 0 ∨ j = 1 ∨ j = 2 by omega) with rfl | rfl | rfl
      · exact Or.inl (Or.inl (Or.inr z))
      · exact Or.inl (Or.inr z)
      · exact Or.inr z
section RH
variable {M : zMa}
def knC (n : Nat) (H : Nat → Option zWo) : Nat := cntP n (fun s => (H s).isSome)
/-- heads so far: not cut off too much, bounded by a thing that may be written, going down -/
def rhOk (M : zMa) (H : Nat → Option zWo) : Prop := (∀ s w, s < (sMake M).1.length → H s = some w → (∀ P, cmB M s P → P <+: w) ∧ ∃ k v, k < knC (sMake M).1.length H ∧ lgW M (sMake M) k s v ∧ w <+: v) ∧
  ∀ s w, s < (sMake M).1.length → H s = some w → ∃ w', hdF M (sMake M) H s = some w' ∧ w' <+: w
theorem rh_len (h : sGood M) {H : Nat → Option zWo} (hH : rhOk M H) {s : Nat} {w : zWo} (hs : s < (sMake M).1.length) (e : H s = some w) : w.length ≤ 408 ∧ LOk w := by
  obtain ⟨k, v, hk, hv, hp⟩ := (hH.1 s w hs e).2
  have a := lg_len2 h hv
  have b := cntP_le (sMake M).1.length (fun s => (H s).isSome)
  have c := h.2.2.2
  have d := hp.length_le
  unfold knC at hk
  refine ⟨by omega, fun x hx => a.2 x (hp.subset hx)⟩
/-- what makes up a head has its letters, and isn't longer than 520 -/
theorem ctr_len (h : sGood M) {H : Nat → Option zWo} (hH : rhOk M H) {s : Nat} {w : zWo} (hs : s < (sMake M).1.length) (e : ctr M (sMake M) H s w) : w.length ≤ 519 ∧ LOk w := by
  rcases e with e | ⟨j, hj, o, g, hw, e1, e2, e3⟩
  · have := lg_len2 h (k := 0) (s := s) (v := w) e
    exact ⟨by omega, this.2⟩
  · have hg := (h.go_lt e1 hj).2
    obtain ⟨k, v, hk, hv, hp⟩ := (hH.1 g hw hg e2).2
    have l1 := lg_len2 h (k := k + 1) (s := s) (v := o ++ v) ⟨j, hj, o, g, e1, v, hv, rfl⟩
    have b := cntP_le (sMake M).1.length (fun s => (H s).isSome)
    have c := h.2.2.2
    have d := hp.length_le
    unfold knC at hk
    have hpo : o ++ hw <+: o ++ v := (List.prefix_append_right_inj o).mpr hp
    rw [e3]
    have := hpo.length_le
    exact ⟨by omega, fun x hx => l1.2 x (hpo.subset hx)⟩
theorem ctr_mono {H H' : Nat → Option zWo} {s t : Nat} {w : zWo} {v : Option zWo} (e : H' = va_up H t v) (hv : ∀ x, H t = some x → ∃ y, v = some y ∧ y <+: x) (h : ctr M (sMake M) H s w) : ∃ w', ctr M (sMake M) H' s w' ∧ w' <+: w := by
  rcases h with h | ⟨j, hj, o, g, hw, e1, e2, e3⟩
  · exact ⟨w, Or.inl h, List.prefix_refl _⟩
  · by_cases c : g = t
    · subst c
      obtain ⟨y, y1, y2⟩ := hv hw e2
      refine ⟨o ++ y, Or.inr ⟨j, hj, o, g, y, e1, by rw [e, up_at]; exact y1, rfl⟩, ?_⟩
      rw [e3]
      exact (List.prefix_append_right_inj o).mpr y2
    · exact ⟨w, Or.inr ⟨j, hj, o, g, hw, e1, by rw [e, va_up_ne _ _ c]; exact e2, e3⟩, List.prefix_refl _⟩
theorem hdF_some {H : Nat → Option zWo} {s : Nat} {w : zWo} (h : ctr M (sMake M) H s w) : ∃ t, hdF M (sMake M) H s = some t ∧ t <+: w := by
  have := hdF_ok M (sMake M) H s
  cases e : hdF M (sMake M) H s with
  | none => rw [e] at this; exact absurd h (this w)
  | some t => rw [e] at this; exact ⟨t, rfl, this.1 w h⟩
/-- one set's new head keeps all this -/
theorem hdS_ok (h : sGood M) {H : Nat → Option zWo} {s : Nat} (hs : s < (sMake M).1.length) (hH : rhOk M H) : rhOk M (va_up H s (hdF M (sMake M) H s)) := by
  have hok := hdF_ok M (sMake M) H s
  have hdown : ∀ x, H s = some x → ∃ y, hdF M (sMake M) H s = some y ∧ y <+: x := fun x e => hH.2 s x hs e
  have hkn : knC (sMake M).1.length H ≤ knC (sMake M).1.length (va_up H s (hdF M (sMake M) H s)) := (cntP_mono _ (fun x hx z => by
    by_cases c : x = s
    · subst c
      obtain ⟨y, e⟩ := Option.isSome_iff_exists.mp z
      obtain ⟨y', e', _⟩ := hdown y e
      rw [up_at, e']; rfl
    · rw [va_up_ne _ _ c]; exact z)).1
  have hgeF : ∀ t, hdF M (sMake M) H s = some t → ∀ P, cmB M s P → P <+: t := by
    intro t e P hP
    rw [e] at hok
    refine hok.2.2 P (fun w hw => ?_)
    rcases hw with hw | ⟨j, hj, o, g, hw, e1, e2, e3⟩
    · exact hP 0 w hw
    · rw [e3]
      exact pre_go h hP hj e1 (hH.1 g hw (h.go_lt e1 hj).2 e2).1
  refine ⟨fun t w ht e => ?_, fun t w ht e => ?_⟩
  · by_cases c : t = s
    · subst c
      rw [up_at] at e
      refine ⟨hgeF w e, ?_⟩
      cases e0 : H t with
      | some x =>
        obtain ⟨y, e1, hp⟩ := hdown x e0
        rw [e] at e1
        cases e1
        obtain ⟨k, v, hk, hv, hp2⟩ := (hH.1 t x ht e0).2
        exact ⟨k, v, by omega, hv, hp.trans hp2⟩
      | none =>
        have hup : knC (sMake M).1.length (va_up H t (hdF M (sMake M) H t)) = knC (sMake M).1.length H + 1 := cntP_up ht (by rw [e0]; rfl) (by rw [up_at, e]; rfl) (fun x hx hne => by rw [va_up_ne _ _ hne])
        rw [hup]
        rw [e] at hok
        obtain ⟨w0, hw0⟩ := hok.2.1
        have hpw := hok.1 w0 hw0
        rcases hw0 with hw0 | ⟨j, hj, o, g, hw, e1, e2, e3⟩
        · exact ⟨0, w0, by omega, hw0, hpw⟩
        · obtain ⟨k, v, hk, hv, hp2⟩ := (hH.1 g hw (h.go_lt e1 hj).2 e2).2
          refine ⟨k + 1, o ++ v, by omega, ⟨j, hj, o, g, e1, v, hv, rfl⟩, hpw.trans ?_⟩
          rw [e3]
          exact (List.prefix_append_right_inj o).mpr hp2
    · rw [va_up_ne _ _ c] at e
      obtain ⟨a, k, v, hk, hv⟩ := hH.1 t w ht e
      exact ⟨a, k, v, by omega, hv⟩
  · have down : ∀ w0, hdF M (sMake M) H t = some w0 → ∃ w', hdF M (sMake M) (va_up H s (hdF M (sMake M) H s)) t = some w' ∧ w' <+: w0 := by
      intro w0 e0
      have ok0 := hdF_ok M (sMake M) H t
      rw [e0] at ok0
      obtain ⟨c0, hc0⟩ := ok0.2.1
      obtain ⟨c1, hc1, _⟩ := ctr_mono rfl hdown hc0
      obtain ⟨t', et, _⟩ := hdF_some hc1
      refine ⟨t', et, ok0.2.2 t' (fun x hx => ?_)⟩
      obtain ⟨x', hx', hp⟩ := ctr_mono rfl hdown hx
      have ok1 := hdF_ok M (sMake M) (va_up H s (hdF M (sMake M) H s)) t
      rw [et] at ok1
      exact (ok1.1 x' hx').trans hp
    by_cases c : t = s
    · subst c
      rw [up_at] at e
      exact down w e
    · rw [va_up_ne _ _ c] at e
      obtain ⟨w0, e0, hp⟩ := hH.2 t w ht e
      obtain ⟨w', e', hp'⟩ := down w0 e0
      exact ⟨w', e', hp'.trans hp⟩
def totH : Nat → (Nat → Option zWo) → Nat
  | 0, _ => 0
  | n + 1, H => totH n H + (match H n with
    | none => 1000
    | some w => w.length)
theorem totH_up : ∀ (n : Nat) {H : Nat → Option zWo} {t : Nat} {o : Option zWo}, t < n → (match o with
    | none => 1000
    | some w => w.length) < (match H t with
    | none => 1000
    | some w => w.length) → totH n (va_up H t o) < totH n H
  | 0, _, _, _, h, _ => absurd h (Nat.not_lt_zero _)
  | n + 1, H, t, o, h, hw => by
    have same : ∀ m, m ≤ t → totH m (va_up H t o) = totH m H := by
      intro m
      induction m with
      | zero => intro _; rfl
      | succ m ih =>
        intro hm
        rw [totH, totH, ih (by omega), va_up_ne _ _ (show m ≠ t by omega)]
    rw [totH, totH]
    by_cases c : t = n
    · subst c
      rw [up_at, same t (Nat.le_refl _)]
      omega
    · have := totH_up n (H := H) (t := t) (o := o) (by omega) hw
      rw [va_up_ne _ _ (show n ≠ t by omega)]
      omega
theorem totH_le : ∀ (n : Nat) {H : Nat → Option zWo}, (∀ s w, s < n → H s = some w → w.length ≤ 1000) → totH n H ≤ n * 1000
  | 0, H, _ => by simp [totH]
  | n + 1, H, h => by
    have := totH_le n (H := H) (fun s w hs e => h s w (by omega) e)
    rw [totH, Nat.succ_mul]
    cases e : H n with
    | none => dsimp only; omega
    | some w => have := h n w (by omega) e; dsimp only; omega
theorem hdR_ok (h : sGood M) {H : Nat → Option zWo} (hH : rhOk M H) : rhOk M (hdR M (sMake M) (sMake M).1.length H).1 ∧
    ((hdR M (sMake M) (sMake M).1.length H).2 = true → totH (sMake M).1.length (hdR M (sMake M) (sMake M).1.length H).1 < totH (sMake M).1.length H) ∧
    ((hdR M (sMake M) (sMake M).1.length H).2 = false → (hdR M (sMake M) (sMake M).1.length H).1 = H ∧ ∀ s, s < (sMake M).1.length → hdF M (sMake M) H s = H s) := by
  have := fold_range (P := fun t (S : (Nat → Option zWo) × Bool) => rhOk M S.1 ∧ totH (sMake M).1.length S.1 ≤ totH (sMake M).1.length H ∧ (S.2 = true → totH (sMake M).1.length S.1 < totH (sMake M).1.length H) ∧ (S.2 = false → S.1 = H ∧ ∀ s, s < t → hdF M (sMake M) H s = H s)) (f := hdS M (sMake M)) (n := (sMake M).1.length) (fun t S ht hS => by
    obtain ⟨a, b, c, d⟩ := hS
    unfold hdS
    by_cases q : hdF M (sMake M) S.1 t = S.1 t
    · rw [if_pos q]
      refine ⟨a, b, c, fun z => ⟨(d z).1, fun s hs => ?_⟩⟩
      obtain ⟨d1, d2⟩ := d z
      by_cases e : s = t
      · subst e
        rw [d1] at q
        exact q
      · exact d2 s (by omega)
    · rw [if_neg q]
      have a2 := hdS_ok h ht a
      have lt : totH (sMake M).1.length (va_up S.1 t (hdF M (sMake M) S.1 t)) < totH (sMake M).1.length S.1 := by
        refine totH_up _ ht ?_
        cases e : S.1 t with
        | none =>
          rw [e] at q
          cases e2 : hdF M (sMake M) S.1 t with
          | none => exact absurd e2 q
          | some w =>
            have := (rh_len h a2 ht (w := w) (by rw [up_at]; exact e2)).1
            dsimp only
            omega
        | some w =>
          obtain ⟨w', e2, hp⟩ := a.2 t w ht e
          rw [e2]
          dsimp only
          rw [e, e2] at q
          have h1 := hp.length_le
          rcases Nat.lt_or_ge w'.length w.length with z | z
          · exact z
          · exact absurd (congrArg some (hp.eq_of_length (by omega))) q
      exact ⟨a2, by dsimp only; omega, fun _ => by dsimp only; omega, fun z => by cases z⟩) (H, false) ⟨hH, Nat.le_refl _, fun z => (by cases z), fun _ => ⟨rfl, fun s hs => absurd hs (Nat.not_lt_zero _)⟩⟩
  exact ⟨this.1, this.2.2⟩
/-- nothing changes: the longest beginnings -/
theorem rh_fix (h : sGood M) {H : Nat → Option zWo} (hH : rhOk M H) (hf : ∀ s, s < (sMake M).1.length → hdF M (sMake M) H s = H s) : ∀ s, s < (sMake M).1.length → ∃ w, H s = some w ∧ isHd M s w := by
  have kn : ∀ k s v, lgW M (sMake M) k s v → ∃ w, H s = some w := by
    intro k
    induction k with
    | zero =>
      intro s v hv
      have hs := (lg_len h 0 s v hv).1
      obtain ⟨t, e, _⟩ := hdF_some (M := M) (H := H) (s := s) (w := v) (Or.inl hv)
      rw [hf s hs] at e
      exact ⟨t, e⟩
    | succ k ih =>
      intro s v hv
      have hs := (lg_len h (k + 1) s v hv).1
      obtain ⟨j, hj, o, g, e, v', hv', ev⟩ := hv
      obtain ⟨hw, e2⟩ := ih g v' hv'
      obtain ⟨t, e3, _⟩ := hdF_some (M := M) (H := H) (s := s) (w := o ++ hw) (Or.inr ⟨j, hj, o, g, hw, e, e2, rfl⟩)
      rw [hf s hs] at e3
      exact ⟨t, e3⟩
  have all : ∀ s, s < (sMake M).1.length → ∃ w, H s = some w := fun s hs => by
    obtain ⟨k, v, _, hv⟩ := lg_some h hs
    exact kn k s v hv
  have hg : ∀ s, s < (sMake M).1.length → H s = some ((H s).getD []) := fun s hs => by
    obtain ⟨w, e⟩ := all s hs
    rw [e]; rfl
  have := hd_fix (C := fun s => (H s).getD []) rfl h (fun s hs P hP => (hH.1 s _ hs (hg s hs)).1 P hP) (fun s hs => by
    have ok := hdF_ok M (sMake M) H s
    rw [hf s hs, hg s hs] at ok
    refine ⟨fun v hv => ok.1 v (Or.inl hv), fun j hj o g e => ok.1 _ (Or.inr ⟨j, hj, o, g, _, e, hg g (h.go_lt e hj).2, rfl⟩)⟩)
  exact fun s hs => ⟨_, hg s hs, this s hs⟩
theorem rh_0 (H : Nat → Option zWo) (hn : ∀ s, s < (sMake M).1.length → H s = none) : rhOk M H := ⟨fun s w hs e => (by rw [hn s hs] at e; cases e), fun s w hs e => (by rw [hn s hs] at e; cases e)⟩
end RH
