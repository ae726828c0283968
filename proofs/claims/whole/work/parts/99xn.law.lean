/-! The law's loop: both sides answer alike. -/
section LAW
variable {h : zM} {a0 n x m : Nat} {xs : Nat → Int32} {σ : zTa}
/-- the script stands apart -/
def SCr (h : zM) (a0 n x m : Nat) (xs : Nat → Int32) : Prop := (zK h a0 = 200 ∧ zN h a0 = n ∧ n ≤ 3072 ∧ h.2.2.1 a0 = xs) ∧ (a0 < x ∧ x + 8091 ≤ m)
/-- all that stands -/
def LWz (h : zM) (a0 n x m : Nat) (xs : Nat → Int32) (σ : zTa) : Prop := XI h x σ ∧ RI h m σ ∧ SCr h a0 n x m xs
theorem SCr.kx {h' : zM} (d : SCr h a0 n x m xs) (f : zGr x (x + 8091) h h') : SCr h' a0 n x m xs := by
  obtain ⟨⟨d1, d2, d3, d4⟩, e1, e2⟩ := d
  exact ⟨⟨(f.K _).trans d1, (f.N _).trans d2, d3, (f.2.2 a0 (by omega)).1.trans d4⟩, e1, e2⟩
theorem SCr.km {h' : zM} (d : SCr h a0 n x m xs) (f : zGr m (m + 74) h h') : SCr h' a0 n x m xs := by
  obtain ⟨⟨d1, d2, d3, d4⟩, e1, e2⟩ := d
  exact ⟨⟨(f.K _).trans d1, (f.N _).trans d2, d3, (f.2.2 a0 (by omega)).1.trans d4⟩, e1, e2⟩
theorem SCr.rd (d : SCr h a0 n x m xs) {i : Nat} (hi : i < n) : zia h a0 (nI i) = some (xs i) := by
  obtain ⟨⟨d1, d2, d3, d4⟩, -⟩ := d
  have e : zI h a0 i = xs i := congrFun d4 i
  have c := nI_clamp (n := i) (by omega)
  unfold zia
  rw [if_pos ⟨Or.inr d1, by rw [d2, c]; exact fun w => w.elim (nI_nn (by omega)) (by omega)⟩, c, e]
/-- one call -/
theorem law_op {f g : zM → Option zR} {v : Int32} {σ' : zTa} (L : LWz h a0 n x m xs σ) (hc : ∃ h1, f h = some (v, 0, h1) ∧ zGr x (x + 8091) h h1 ∧ XI h1 x σ') (hr : ∀ h1, (∀ t, t < 2 → MaOk (σ.1 t)) → RI h1 m σ → ∃ h2, g h1 = some (v, 0, h2) ∧ zGr m (m + 74) h1 h2 ∧ RI h2 m σ') :
    ∃ h1 h2, f h = some (v, 0, h1) ∧ g h1 = some (v, 0, h2) ∧ SCr h1 a0 n x m xs ∧ zK h1 m = 13 ∧ LWz h2 a0 n x m xs σ' ∧ h2.1 = h.1 := by
  obtain ⟨X, R, S⟩ := L
  obtain ⟨h1, r1, r2, r3⟩ := hc
  have hd := S.2
  have R1 : RI h1 m σ := R.eq (r2.eq (by omega))
  obtain ⟨h2, s1, s2, s3⟩ := hr h1 (fun t ht => (X.mc ht).2) R1
  exact ⟨h1, h2, r1, s1, S.kx r2, R1.1.1.1, ⟨r3.eq (s2.eq (by omega)), s3, (S.kx r2).km s2⟩, s2.1.trans r2.1⟩
theorem law_end {n i : Nat} (hn : n ≤ 3072) (hi : i ≤ 4000) : nI n - (6 : Int32) < nI i ↔ n < i + 6 := by
  have e6 : (6 : Int32).toInt = 6 := by decide
  have h1 : (nI n - (6 : Int32)).toInt = (n : Int) - 6 := by
    rw [Int32.toInt_sub, toInt_nI (by omega), e6]
    exact Int.bmod_eq_of_le (by omega) (by omega)
  rw [Int32.lt_iff_toInt_lt, h1, toInt_nI (by omega)]
  omega
theorem law_machine (L : LWz h a0 n x m xs σ) (i : Nat) : ∃ (v : Int32) (h1 h2 : zM) (σ' : zTa), zf nX11_machine [.inr x, .inl (xs (i + 1)), .inl (xs (i + 2))] h = some (v, 0, h1) ∧ zf nX12_machine [.inr m, .inl (xs (i + 1)), .inl (xs (i + 2))] h1 = some (v, 0, h2) ∧ SCr h1 a0 n x m xs ∧ zK h1 m = 13 ∧ LWz h2 a0 n x m xs σ' ∧ h2.1 = h.1 := by
  obtain ⟨h1, h2, r⟩ := law_op (f := zf nX11_machine [.inr x, .inl (xs (i + 1)), .inl (xs (i + 2))]) (g := zf nX12_machine [.inr m, .inl (xs (i + 1)), .inl (xs (i + 2))]) (v := (aMachine σ.1 (xs (i + 1)) (xs (i + 2))).1) (σ' := ((aMachine σ.1 (xs (i + 1)) (xs (i + 2))).2, σ.2)) L (by
        obtain ⟨h1, r1, r2, r3⟩ := s_machine L.1.1 (xs (i + 1)) (xs (i + 2))
        exact ⟨h1, r1, r2.gr.wide (by omega) (by omega), L.1.ms (r2.wide (by omega) (by omega)) r3⟩) (fun h1 hk R => s_rmachine R hk (xs (i + 1)) (xs (i + 2)))
  exact ⟨_, h1, h2, _, r⟩
theorem law_ends (L : LWz h a0 n x m xs σ) (i : Nat) : ∃ (v : Int32) (h1 h2 : zM) (σ' : zTa), zf nX11_ends [.inr x, .inl (xs (i + 1)), .inl (xs (i + 2)), .inl (xs (i + 3))] h = some (v, 0, h1) ∧ zf nX12_ends [.inr m, .inl (xs (i + 1)), .inl (xs (i + 2)), .inl (xs (i + 3))] h1 = some (v, 0, h2) ∧ SCr h1 a0 n x m xs ∧ zK h1 m = 13 ∧ LWz h2 a0 n x m xs σ' ∧ h2.1 = h.1 := by
  obtain ⟨h1, h2, r⟩ := law_op (f := zf nX11_ends [.inr x, .inl (xs (i + 1)), .inl (xs (i + 2)), .inl (xs (i + 3))]) (g := zf nX12_ends [.inr m, .inl (xs (i + 1)), .inl (xs (i + 2)), .inl (xs (i + 3))]) (v := (aEnds σ.1 (xs (i + 1)) (xs (i + 2)) (xs (i + 3))).1) (σ' := ((aEnds σ.1 (xs (i + 1)) (xs (i + 2)) (xs (i + 3))).2, σ.2)) L (by
        obtain ⟨h1, r1, r2, r3⟩ := s_ends L.1.1 (xs (i + 1)) (xs (i + 2)) (xs (i + 3))
        exact ⟨h1, r1, r2.gr.wide (by omega) (by omega), L.1.ms (r2.wide (by omega) (by omega)) r3⟩) (fun h1 hk R => s_rends R hk (xs (i + 1)) (xs (i + 2)) (xs (i + 3)))
  exact ⟨_, h1, h2, _, r⟩
theorem law_arc (L : LWz h a0 n x m xs σ) (i : Nat) : ∃ (v : Int32) (h1 h2 : zM) (σ' : zTa), zf nX11_arc [.inr x, .inl (xs (i + 1)), .inl (xs (i + 2)), .inl (xs (i + 3)), .inl (xs (i + 4)), .inl (xs (i + 5))] h = some (v, 0, h1) ∧ zf nX12_arc [.inr m, .inl (xs (i + 1)), .inl (xs (i + 2)), .inl (xs (i + 3)), .inl (xs (i + 4)), .inl (xs (i + 5))] h1 = some (v, 0, h2) ∧ SCr h1 a0 n x m xs ∧ zK h1 m = 13 ∧ LWz h2 a0 n x m xs σ' ∧ h2.1 = h.1 := by
  obtain ⟨h1, h2, r⟩ := law_op (f := zf nX11_arc [.inr x, .inl (xs (i + 1)), .inl (xs (i + 2)), .inl (xs (i + 3)), .inl (xs (i + 4)), .inl (xs (i + 5))]) (g := zf nX12_arc [.inr m, .inl (xs (i + 1)), .inl (xs (i + 2)), .inl (xs (i + 3)), .inl (xs (i + 4)), .inl (xs (i + 5))]) (v := (aArc σ.1 (xs (i + 1)) (xs (i + 2)) (xs (i + 3)) (xs (i + 4)) (xs (i + 5))).1) (σ' := ((aArc σ.1 (xs (i + 1)) (xs (i + 2)) (xs (i + 3)) (xs (i + 4)) (xs (i + 5))).2, σ.2)) L (by
        obtain ⟨h1, r1, r2, r3⟩ := s_arc L.1.1 (xs (i + 1)) (xs (i + 2)) (xs (i + 3)) (xs (i + 4)) (xs (i + 5))
        exact ⟨h1, r1, r2.gr.wide (by omega) (by omega), L.1.ms (r2.wide (by omega) (by omega)) r3⟩) (fun h1 hk R => s_rarc R hk (xs (i + 1)) (xs (i + 2)) (xs (i + 3)) (xs (i + 4)) (xs (i + 5)))
  exact ⟨_, h1, h2, _, r⟩
theorem law_copy (L : LWz h a0 n x m xs σ) (i : Nat) : ∃ (v : Int32) (h1 h2 : zM) (σ' : zTa), zf nX11_copy [.inr x, .inl (xs (i + 1))] h = some (v, 0, h1) ∧ zf nX12_copy [.inr m, .inl (xs (i + 1))] h1 = some (v, 0, h2) ∧ SCr h1 a0 n x m xs ∧ zK h1 m = 13 ∧ LWz h2 a0 n x m xs σ' ∧ h2.1 = h.1 := by
  obtain ⟨h1, h2, r⟩ := law_op (f := zf nX11_copy [.inr x, .inl (xs (i + 1))]) (g := zf nX12_copy [.inr m, .inl (xs (i + 1))]) (v := (aCopy σ.1 (xs (i + 1))).1) (σ' := ((aCopy σ.1 (xs (i + 1))).2, σ.2)) L (by
        obtain ⟨h1, r1, r2, r3⟩ := s_copy L.1.1 (xs (i + 1))
        exact ⟨h1, r1, r2.gr.wide (by omega) (by omega), L.1.ms (r2.wide (by omega) (by omega)) r3⟩) (fun h1 hk R => s_rcopy R hk (xs (i + 1)))
  exact ⟨_, h1, h2, _, r⟩
theorem law_size (L : LWz h a0 n x m xs σ) (i : Nat) : ∃ (v : Int32) (h1 h2 : zM) (σ' : zTa), zf nX11_size [.inr x, .inl (xs (i + 1)), .inl (xs (i + 2))] h = some (v, 0, h1) ∧ zf nX12_size [.inr m, .inl (xs (i + 1)), .inl (xs (i + 2))] h1 = some (v, 0, h2) ∧ SCr h1 a0 n x m xs ∧ zK h1 m = 13 ∧ LWz h2 a0 n x m xs σ' ∧ h2.1 = h.1 := by
  obtain ⟨h1, h2, r⟩ := law_op (f := zf nX11_size [.inr x, .inl (xs (i + 1)), .inl (xs (i + 2))]) (g := zf nX12_size [.inr m, .inl (xs (i + 1)), .inl (xs (i + 2))]) (v := aSize σ.1 (xs (i + 1)) (xs (i + 2))) (σ' := σ) L (⟨h, s_size L.1.1 (xs (i + 1)) (xs (i + 2)), zGr.rf, L.1⟩) (fun h1 hk R => s_rsize R hk (xs (i + 1)) (xs (i + 2)))
  exact ⟨_, h1, h2, _, r⟩
theorem law_useful (L : LWz h a0 n x m xs σ) (i : Nat) : ∃ (v : Int32) (h1 h2 : zM) (σ' : zTa), zf nX11_useful [.inr x, .inl (xs (i + 1)), .inl (xs (i + 2))] h = some (v, 0, h1) ∧ zf nX12_useful [.inr m, .inl (xs (i + 1)), .inl (xs (i + 2))] h1 = some (v, 0, h2) ∧ SCr h1 a0 n x m xs ∧ zK h1 m = 13 ∧ LWz h2 a0 n x m xs σ' ∧ h2.1 = h.1 := by
  obtain ⟨h1, h2, r⟩ := law_op (f := zf nX11_useful [.inr x, .inl (xs (i + 1)), .inl (xs (i + 2))]) (g := zf nX12_useful [.inr m, .inl (xs (i + 1)), .inl (xs (i + 2))]) (v := aUseful σ.1 (xs (i + 1)) (xs (i + 2))) (σ' := σ) L (⟨h, s_usefulQ L.1.1 (xs (i + 1)) (xs (i + 2)), zGr.rf, L.1⟩) (fun h1 hk R => s_ruseful R hk (xs (i + 1)) (xs (i + 2)))
  exact ⟨_, h1, h2, _, r⟩
theorem law_apply (L : LWz h a0 n x m xs σ) (i : Nat) : ∃ (v : Int32) (h1 h2 : zM) (σ' : zTa), zf nX11_apply [.inr x, .inl (xs (i + 1)), .inl (xs (i + 2))] h = some (v, 0, h1) ∧ zf nX12_apply [.inr m, .inl (xs (i + 1)), .inl (xs (i + 2))] h1 = some (v, 0, h2) ∧ SCr h1 a0 n x m xs ∧ zK h1 m = 13 ∧ LWz h2 a0 n x m xs σ' ∧ h2.1 = h.1 := by
  obtain ⟨h1, h2, r⟩ := law_op (f := zf nX11_apply [.inr x, .inl (xs (i + 1)), .inl (xs (i + 2))]) (g := zf nX12_apply [.inr m, .inl (xs (i + 1)), .inl (xs (i + 2))]) (v := (aApply σ.1 σ.2.1 (xs (i + 1)) (xs (i + 2))).1) (σ' := (σ.1, (aApply σ.1 σ.2.1 (xs (i + 1)) (xs (i + 2))).2, σ.2.2)) L (s_xapply L.1 (xs (i + 1)) (xs (i + 2))) (fun h1 hk R => s_rapply R hk (xs (i + 1)) (xs (i + 2)))
  exact ⟨_, h1, h2, _, r⟩
theorem law_output (L : LWz h a0 n x m xs σ) (i : Nat) : ∃ (v : Int32) (h1 h2 : zM) (σ' : zTa), zf nX11_output [.inr x, .inl (xs (i + 1)), .inl (xs (i + 2))] h = some (v, 0, h1) ∧ zf nX12_output [.inr m, .inl (xs (i + 1)), .inl (xs (i + 2))] h1 = some (v, 0, h2) ∧ SCr h1 a0 n x m xs ∧ zK h1 m = 13 ∧ LWz h2 a0 n x m xs σ' ∧ h2.1 = h.1 := by
  obtain ⟨h1, h2, r⟩ := law_op (f := zf nX11_output [.inr x, .inl (xs (i + 1)), .inl (xs (i + 2))]) (g := zf nX12_output [.inr m, .inl (xs (i + 1)), .inl (xs (i + 2))]) (v := aOutput σ.2.1 (xs (i + 1)) (xs (i + 2))) (σ' := σ) L (⟨h, s_xoutput L.1 (xs (i + 1)) (xs (i + 2)), zGr.rf, L.1⟩) (fun h1 hk R => ⟨h1, s_routput R (xs (i + 1)) (xs (i + 2)), zGr.rf, R⟩)
  exact ⟨_, h1, h2, _, r⟩
theorem law_functional (L : LWz h a0 n x m xs σ) (i : Nat) : ∃ (v : Int32) (h1 h2 : zM) (σ' : zTa), zf nX11_functional [.inr x, .inl (xs (i + 1))] h = some (v, 0, h1) ∧ zf nX12_functional [.inr m, .inl (xs (i + 1))] h1 = some (v, 0, h2) ∧ SCr h1 a0 n x m xs ∧ zK h1 m = 13 ∧ LWz h2 a0 n x m xs σ' ∧ h2.1 = h.1 := by
  obtain ⟨h1, h2, r⟩ := law_op (f := zf nX11_functional [.inr x, .inl (xs (i + 1))]) (g := zf nX12_functional [.inr m, .inl (xs (i + 1))]) (v := (aFunctional σ.1 σ.2.2.1 (xs (i + 1))).1) (σ' := (σ.1, σ.2.1, (aFunctional σ.1 σ.2.2.1 (xs (i + 1))).2, σ.2.2.2)) L (s_xfunctional L.1 (xs (i + 1))) (fun h1 hk R => s_rfunctional R hk (xs (i + 1)))
  exact ⟨_, h1, h2, _, r⟩
theorem law_readers (L : LWz h a0 n x m xs σ) (i : Nat) : ∃ (v : Int32) (h1 h2 : zM) (σ' : zTa), zf nX11_readers [.inr x] h = some (v, 0, h1) ∧ zf nX12_readers [.inr m] h1 = some (v, 0, h2) ∧ SCr h1 a0 n x m xs ∧ zK h1 m = 13 ∧ LWz h2 a0 n x m xs σ' ∧ h2.1 = h.1 := by
  obtain ⟨h1, h2, r⟩ := law_op (f := zf nX11_readers [.inr x]) (g := zf nX12_readers [.inr m]) (v := (aReaders σ.1 σ.2.2.1).1) (σ' := (σ.1, σ.2.1, (aReaders σ.1 σ.2.2.1).2, σ.2.2.2)) L (s_xreaders L.1) (fun h1 hk R => s_rreaders R hk)
  exact ⟨_, h1, h2, _, r⟩
theorem law_same (L : LWz h a0 n x m xs σ) (i : Nat) : ∃ (v : Int32) (h1 h2 : zM) (σ' : zTa), zf nX11_same [.inr x] h = some (v, 0, h1) ∧ zf nX12_same [.inr m] h1 = some (v, 0, h2) ∧ SCr h1 a0 n x m xs ∧ zK h1 m = 13 ∧ LWz h2 a0 n x m xs σ' ∧ h2.1 = h.1 := by
  obtain ⟨h1, h2, r⟩ := law_op (f := zf nX11_same [.inr x]) (g := zf nX12_same [.inr m]) (v := (aSame σ.1 σ.2.2.1).1) (σ' := (σ.1, σ.2.1, (aSame σ.1 σ.2.2.1).2, σ.2.2.2)) L (s_xsame L.1) (fun h1 hk R => s_rsame R hk)
  exact ⟨_, h1, h2, _, r⟩
theorem law_sequential (L : LWz h a0 n x m xs σ) (i : Nat) : ∃ (v : Int32) (h1 h2 : zM) (σ' : zTa), zf nX11_sequential [.inr x, .inl (xs (i + 1))] h = some (v, 0, h1) ∧ zf nX12_sequential [.inr m, .inl (xs (i + 1))] h1 = some (v, 0, h2) ∧ SCr h1 a0 n x m xs ∧ zK h1 m = 13 ∧ LWz h2 a0 n x m xs σ' ∧ h2.1 = h.1 := by
  obtain ⟨h1, h2, r⟩ := law_op (f := zf nX11_sequential [.inr x, .inl (xs (i + 1))]) (g := zf nX12_sequential [.inr m, .inl (xs (i + 1))]) (v := (aSeq σ.1 σ.2.2.1 σ.2.2.2.1 σ.2.2.2.2.1 (xs (i + 1))).1) (σ' := (σ.1, σ.2.1, (aSeq σ.1 σ.2.2.1 σ.2.2.2.1 σ.2.2.2.2.1 (xs (i + 1))).2.1, (aSeq σ.1 σ.2.2.1 σ.2.2.2.1 σ.2.2.2.2.1 (xs (i + 1))).2.2.1, (aSeq σ.1 σ.2.2.1 σ.2.2.2.1 σ.2.2.2.2.1 (xs (i + 1))).2.2.2, σ.2.2.2.2.2)) L (s_xsequential L.1 (xs (i + 1))) (fun h1 hk R => s_rsequential R hk (xs (i + 1)))
  exact ⟨_, h1, h2, _, r⟩
theorem law_witness (L : LWz h a0 n x m xs σ) (i : Nat) : ∃ (v : Int32) (h1 h2 : zM) (σ' : zTa), zf nX11_witness [.inr x, .inl (xs (i + 1))] h = some (v, 0, h1) ∧ zf nX12_witness [.inr m, .inl (xs (i + 1))] h1 = some (v, 0, h2) ∧ SCr h1 a0 n x m xs ∧ zK h1 m = 13 ∧ LWz h2 a0 n x m xs σ' ∧ h2.1 = h.1 := by
  obtain ⟨h1, h2, r⟩ := law_op (f := zf nX11_witness [.inr x, .inl (xs (i + 1))]) (g := zf nX12_witness [.inr m, .inl (xs (i + 1))]) (v := aWitness σ.2.2.1 (xs (i + 1))) (σ' := σ) L (⟨h, s_xwitness L.1 (xs (i + 1)), zGr.rf, L.1⟩) (fun h1 hk R => ⟨h1, s_rwitness R (xs (i + 1)), zGr.rf, R⟩)
  exact ⟨_, h1, h2, _, r⟩
theorem law_wrote (L : LWz h a0 n x m xs σ) (i : Nat) : ∃ (v : Int32) (h1 h2 : zM) (σ' : zTa), zf nX11_wrote [.inr x, .inl (xs (i + 1)), .inl (xs (i + 2))] h = some (v, 0, h1) ∧ zf nX12_wrote [.inr m, .inl (xs (i + 1)), .inl (xs (i + 2))] h1 = some (v, 0, h2) ∧ SCr h1 a0 n x m xs ∧ zK h1 m = 13 ∧ LWz h2 a0 n x m xs σ' ∧ h2.1 = h.1 := by
  obtain ⟨h1, h2, r⟩ := law_op (f := zf nX11_wrote [.inr x, .inl (xs (i + 1)), .inl (xs (i + 2))]) (g := zf nX12_wrote [.inr m, .inl (xs (i + 1)), .inl (xs (i + 2))]) (v := aWrote σ.2.2.1 (xs (i + 1)) (xs (i + 2))) (σ' := σ) L (⟨h, s_xwrote L.1 (xs (i + 1)) (xs (i + 2)), zGr.rf, L.1⟩) (fun h1 hk R => ⟨h1, s_rwrote R (xs (i + 1)) (xs (i + 2)), zGr.rf, R⟩)
  exact ⟨_, h1, h2, _, r⟩
theorem law_told (L : LWz h a0 n x m xs σ) (i : Nat) : ∃ (v : Int32) (h1 h2 : zM) (σ' : zTa), zf nX11_told [.inr x, .inl (xs (i + 1))] h = some (v, 0, h1) ∧ zf nX12_told [.inr m, .inl (xs (i + 1))] h1 = some (v, 0, h2) ∧ SCr h1 a0 n x m xs ∧ zK h1 m = 13 ∧ LWz h2 a0 n x m xs σ' ∧ h2.1 = h.1 := by
  obtain ⟨h1, h2, r⟩ := law_op (f := zf nX11_told [.inr x, .inl (xs (i + 1))]) (g := zf nX12_told [.inr m, .inl (xs (i + 1))]) (v := aTold σ.2.2.2.2.1 (xs (i + 1))) (σ' := σ) L (⟨h, s_xtold L.1 (xs (i + 1)), zGr.rf, L.1⟩) (fun h1 hk R => ⟨h1, s_rtold R.1.1 R.2.2.2.2.1 (xs (i + 1)), zGr.rf, R⟩)
  exact ⟨_, h1, h2, _, r⟩
theorem law_goes (L : LWz h a0 n x m xs σ) (i : Nat) : ∃ (v : Int32) (h1 h2 : zM) (σ' : zTa), zf nX11_goes [.inr x, .inl (xs (i + 1)), .inl (xs (i + 2))] h = some (v, 0, h1) ∧ zf nX12_goes [.inr m, .inl (xs (i + 1)), .inl (xs (i + 2))] h1 = some (v, 0, h2) ∧ SCr h1 a0 n x m xs ∧ zK h1 m = 13 ∧ LWz h2 a0 n x m xs σ' ∧ h2.1 = h.1 := by
  obtain ⟨h1, h2, r⟩ := law_op (f := zf nX11_goes [.inr x, .inl (xs (i + 1)), .inl (xs (i + 2))]) (g := zf nX12_goes [.inr m, .inl (xs (i + 1)), .inl (xs (i + 2))]) (v := aGoesL (lzO σ.2.2.2.2.1) (xs (i + 1)) (xs (i + 2))) (σ' := σ) L (⟨h, s_xgoes L.1 (xs (i + 1)) (xs (i + 2)), zGr.rf, L.1⟩) (fun h1 hk R => ⟨h1, s_rgoes R.1.1 R.2.2.2.2.1.lo (xs (i + 1)) (xs (i + 2)), zGr.rf, R⟩)
  exact ⟨_, h1, h2, _, r⟩
theorem law_writes (L : LWz h a0 n x m xs σ) (i : Nat) : ∃ (v : Int32) (h1 h2 : zM) (σ' : zTa), zf nX11_writes [.inr x, .inl (xs (i + 1)), .inl (xs (i + 2)), .inl (xs (i + 3))] h = some (v, 0, h1) ∧ zf nX12_writes [.inr m, .inl (xs (i + 1)), .inl (xs (i + 2)), .inl (xs (i + 3))] h1 = some (v, 0, h2) ∧ SCr h1 a0 n x m xs ∧ zK h1 m = 13 ∧ LWz h2 a0 n x m xs σ' ∧ h2.1 = h.1 := by
  obtain ⟨h1, h2, r⟩ := law_op (f := zf nX11_writes [.inr x, .inl (xs (i + 1)), .inl (xs (i + 2)), .inl (xs (i + 3))]) (g := zf nX12_writes [.inr m, .inl (xs (i + 1)), .inl (xs (i + 2)), .inl (xs (i + 3))]) (v := aWrites (lzO σ.2.2.2.2.1) (xs (i + 1)) (xs (i + 2)) (xs (i + 3))) (σ' := σ) L (s_xwrites L.1 (xs (i + 1)) (xs (i + 2)) (xs (i + 3))) (fun h1 hk R => ⟨h1, s_rwrites R.1.1 R.2.2.2.2.1.lo (xs (i + 1)) (xs (i + 2)) (xs (i + 3)), zGr.rf, R⟩)
  exact ⟨_, h1, h2, _, r⟩
theorem law_act (L : LWz h a0 n x m xs σ) (i : Nat) : ∃ (v : Int32) (h1 h2 : zM) (σ' : zTa), zf nX11_act [.inr x, .inl (xs (i + 1))] h = some (v, 0, h1) ∧ zf nX12_act [.inr m, .inl (xs (i + 1))] h1 = some (v, 0, h2) ∧ SCr h1 a0 n x m xs ∧ zK h1 m = 13 ∧ LWz h2 a0 n x m xs σ' ∧ h2.1 = h.1 := by
  obtain ⟨h1, h2, r⟩ := law_op (f := zf nX11_act [.inr x, .inl (xs (i + 1))]) (g := zf nX12_act [.inr m, .inl (xs (i + 1))]) (v := (aAct (lzO σ.2.2.2.2.1) σ.2.2.2.2.2 (xs (i + 1))).1) (σ' := (σ.1, σ.2.1, σ.2.2.1, σ.2.2.2.1, σ.2.2.2.2.1, (aAct (lzO σ.2.2.2.2.1) σ.2.2.2.2.2 (xs (i + 1))).2)) L (s_xact L.1 (xs (i + 1))) (fun h1 hk R => s_ract2 R (xs (i + 1)))
  exact ⟨_, h1, h2, _, r⟩
theorem law_acted (L : LWz h a0 n x m xs σ) (i : Nat) : ∃ (v : Int32) (h1 h2 : zM) (σ' : zTa), zf nX11_acted [.inr x, .inl (xs (i + 1))] h = some (v, 0, h1) ∧ zf nX12_acted [.inr m, .inl (xs (i + 1))] h1 = some (v, 0, h2) ∧ SCr h1 a0 n x m xs ∧ zK h1 m = 13 ∧ LWz h2 a0 n x m xs σ' ∧ h2.1 = h.1 := by
  obtain ⟨h1, h2, r⟩ := law_op (f := zf nX11_acted [.inr x, .inl (xs (i + 1))]) (g := zf nX12_acted [.inr m, .inl (xs (i + 1))]) (v := wAt σ.2.2.2.2.2 (xs (i + 1))) (σ' := σ) L (⟨h, s_xacted L.1 (xs (i + 1)), zGr.rf, L.1⟩) (fun h1 hk R => ⟨h1, s_racted R.1.1 R.2.2.2.2.2 (xs (i + 1)), zGr.rf, R⟩)
  exact ⟨_, h1, h2, _, r⟩
theorem law_begins (L : LWz h a0 n x m xs σ) (i : Nat) {is : Int32} (his : is = 0 ∨ is = 1) : ∃ (v : Int32) (h1 h2 : zM) (σ' : zTa), zf nX11_begins [.inr x, .inl (xs (i + 1)), .inl (xs (i + 2)), .inl is] h = some (v, 0, h1) ∧ zf nX12_begins [.inr m, .inl (xs (i + 1)), .inl (xs (i + 2)), .inl is] h1 = some (v, 0, h2) ∧ SCr h1 a0 n x m xs ∧ zK h1 m = 13 ∧ LWz h2 a0 n x m xs σ' ∧ h2.1 = h.1 := by
  obtain ⟨h1, h2, r⟩ := law_op (f := zf nX11_begins [.inr x, .inl (xs (i + 1)), .inl (xs (i + 2)), .inl is]) (g := zf nX12_begins [.inr m, .inl (xs (i + 1)), .inl (xs (i + 2)), .inl is]) (v := (aBegins σ.1 (xs (i + 1)) (xs (i + 2)) is).1) (σ' := ((aBegins σ.1 (xs (i + 1)) (xs (i + 2)) is).2, σ.2)) L (by
        obtain ⟨h1, r1, r2, r3⟩ := s_begins L.1.1 (xs (i + 1)) (xs (i + 2)) is
        exact ⟨h1, r1, r2.gr.wide (by omega) (by omega), L.1.ms (r2.wide (by omega) (by omega)) r3⟩) (fun h1 hk R => s_rbegins R hk (xs (i + 1)) (xs (i + 2)) is his)
  exact ⟨_, h1, h2, _, r⟩
theorem tkO_one {o : Option zLz} {t : Int32} {M N : zMa} (a : tkO o t M) (b : tkO o t N) : M = N := by
  obtain ⟨-, Z, e, -, rfl⟩ := a
  obtain ⟨-, Y, f, -, rfl⟩ := b
  rw [e] at f
  cases f
  rfl
theorem law_take (L : LWz h a0 n x m xs σ) (i : Nat) : ∃ (v : Int32) (h1 h2 : zM) (σ' : zTa), zf nX11_take [.inr x, .inl (xs (i + 1))] h = some (v, 0, h1) ∧ zf nX12_take [.inr m, .inl (xs (i + 1))] h1 = some (v, 0, h2) ∧ SCr h1 a0 n x m xs ∧ zK h1 m = 13 ∧ LWz h2 a0 n x m xs σ' ∧ h2.1 = h.1 := by
  obtain ⟨X, R, S⟩ := id L
  obtain ⟨h1, Ms, g1, x1, alt⟩ := s_xtake X (xs (i + 1))
  have go : ∀ (v : Int32), zf nX11_take [.inr x, .inl (xs (i + 1))] h = some (v, 0, h1) → (∀ h1, (∀ t, t < 2 → MaOk (σ.1 t)) → RI h1 m σ → ∃ h2, zf nX12_take [.inr m, .inl (xs (i + 1))] h1 = some (v, 0, h2) ∧ zGr m (m + 74) h1 h2 ∧ RI h2 m (Ms, σ.2)) → ∃ (v : Int32) (h1 h2 : zM) (σ' : zTa), zf nX11_take [.inr x, .inl (xs (i + 1))] h = some (v, 0, h1) ∧ zf nX12_take [.inr m, .inl (xs (i + 1))] h1 = some (v, 0, h2) ∧ SCr h1 a0 n x m xs ∧ zK h1 m = 13 ∧ LWz h2 a0 n x m xs σ' ∧ h2.1 = h.1 := fun v e hr => by
    obtain ⟨h1, h2, r⟩ := law_op (f := zf nX11_take [.inr x, .inl (xs (i + 1))]) (g := zf nX12_take [.inr m, .inl (xs (i + 1))]) (v := v) (σ' := (Ms, σ.2)) L ⟨h1, e, g1, x1⟩ hr
    exact ⟨_, h1, h2, _, r⟩
  rcases alt with ⟨M, t1, e1, eM, -⟩ | ⟨no, e1, eM⟩
  · refine go 1 e1 (fun h1 hk R => ?_)
    obtain ⟨h2, Ms2, q1, q2, alt2⟩ := s_rtake2 R hk (xs (i + 1))
    rcases alt2 with ⟨N, t2, f1, eN⟩ | ⟨no, -, -⟩
    · rw [eN, ← tkO_one t1 t2, ← eM] at q2
      exact ⟨h2, f1, q1, q2⟩
    · exact absurd ⟨M, t1⟩ no
  · refine go 0 e1 (fun h1 hk R => ?_)
    obtain ⟨h2, Ms2, q1, q2, alt2⟩ := s_rtake2 R hk (xs (i + 1))
    rcases alt2 with ⟨N, t2, -, -⟩ | ⟨-, f1, eN⟩
    · exact absurd ⟨N, t2⟩ no
    · rw [eN, ← eM] at q2
      exact ⟨h2, f1, q1, q2⟩
theorem law_loop : ∀ (f i : Nat) (h : zM) (σ : zTa), n + 6 ≤ f + i → i ≤ n + 6 → LWz h a0 n x m xs σ → ∃ h', zm_L_law 18 [some (.inr a0), some (.inr x), some (.inr m), some (.inl (nI i))] [] h = some (1, 0, h') ∧ h'.1 = h.1 := by
  intro f
  induction f with
  | zero =>
    intro i h σ hf hi L
    have hn := L.2.2.1.2.2.1
    have al : zal h a0 = some (nI n) := by
      unfold zal
      rw [if_pos (Or.inr L.2.2.1.1), L.2.2.1.2.1]
      rfl
    rw [e_L_law_18, al, Option.bind_some, if_pos ((law_end hn (by omega)).mpr (by omega)), zb1]
    exact ⟨h, rfl, rfl⟩
  | succ f ih =>
    intro i h σ hf hi L
    have hn := L.2.2.1.2.2.1
    have S := L.2.2
    have kx : zK h x = 12 := L.1.k
    have al : zal h a0 = some (nI n) := by
      unfold zal
      rw [if_pos (Or.inr S.1.1), S.1.2.1]
      rfl
    rw [e_L_law_18, al, Option.bind_some]
    by_cases c : n < i + 6
    · rw [if_pos ((law_end hn (by omega)).mpr c), zb1]
      exact ⟨h, rfl, rfl⟩
    · have a1 : nI i + (1 : Int32) = nI (i + 1) := nI_1 i
      have a2 : nI i + (2 : Int32) = nI (i + 2) := by rw [n2, nI_add]
      have a3 : nI i + (3 : Int32) = nI (i + 3) := by rw [n3, nI_add]
      have a4 : nI i + (4 : Int32) = nI (i + 4) := by rw [n4, nI_add]
      have a5 : nI i + (5 : Int32) = nI (i + 5) := by rw [show (5 : Int32) = nI 5 from rfl, nI_add]
      have a6 : nI i + (6 : Int32) = nI (i + 6) := by rw [n6, nI_add]
      rw [if_neg (fun w => c ((law_end hn (by omega)).mp w)), S.rd (show i < n by omega), Option.bind_some]
      have on : ∀ (h2 : zM) (σ' : zTa), LWz h2 a0 n x m xs σ' → h2.1 = h.1 → ∃ h', zm_L_law 18 [some (.inr a0), some (.inr x), some (.inr m), some (.inl (nI i + (6 : Int32)))] [] h2 = some (1, 0, h') ∧ h'.1 = h.1 := fun h2 σ' L2 e2 => by
        obtain ⟨h', q1, q2⟩ := ih (i + 6) h2 σ' (by omega) (by omega) L2
        rw [a6]
        exact ⟨h', q1, q2.trans e2⟩
      by_cases q0 : (xs i &&& (31 : Int32)) = (0 : Int32)
      · obtain ⟨v, h1, h2, σ', r1, r2, S1, k1, L2, e2⟩ := law_machine L i
        rw [if_pos q0, a1, S.rd (show i + 1 < n by omega), Option.bind_some, a2, S.rd (show i + 2 < n by omega), Option.bind_some, zif_ok kx, r1, Option.bind_some]
        dsimp only
        rw [S1.rd (show i + 1 < n by omega), Option.bind_some, S1.rd (show i + 2 < n by omega), Option.bind_some, zif_ok k1, r2, Option.bind_some]
        dsimp only
        rw [if_pos rfl]
        exact on h2 σ' L2 e2
      by_cases q1 : (xs i &&& (31 : Int32)) = (1 : Int32)
      · rw [if_neg q0, if_pos q1, a1, S.rd (show i + 1 < n by omega), Option.bind_some, a2, S.rd (show i + 2 < n by omega), Option.bind_some, a3, S.rd (show i + 3 < n by omega), Option.bind_some]
        by_cases z0 : xs (i + 3) = 0
        · obtain ⟨v, h1, h2, σ', r1, r2, S1, k1, L2, e2⟩ := law_begins L i (is := 0) (Or.inl rfl)
          rw [if_pos z0, zif_ok kx, r1, Option.bind_some]
          dsimp only
          rw [S1.rd (show i + 1 < n by omega), Option.bind_some, S1.rd (show i + 2 < n by omega), Option.bind_some, S1.rd (show i + 3 < n by omega), Option.bind_some, if_pos z0, zif_ok k1, r2, Option.bind_some]
          dsimp only
          rw [if_pos rfl]
          exact on h2 σ' L2 e2
        · obtain ⟨v, h1, h2, σ', r1, r2, S1, k1, L2, e2⟩ := law_begins L i (is := 1) (Or.inr rfl)
          rw [if_neg z0, zif_ok kx, r1, Option.bind_some]
          dsimp only
          rw [S1.rd (show i + 1 < n by omega), Option.bind_some, S1.rd (show i + 2 < n by omega), Option.bind_some, S1.rd (show i + 3 < n by omega), Option.bind_some, if_neg z0, zif_ok k1, r2, Option.bind_some]
          dsimp only
          rw [if_pos rfl]
          exact on h2 σ' L2 e2
      by_cases q2 : (xs i &&& (31 : Int32)) = (2 : Int32)
      · obtain ⟨v, h1, h2, σ', r1, r2, S1, k1, L2, e2⟩ := law_ends L i
        rw [if_neg q0, if_neg q1, if_pos q2, a1, S.rd (show i + 1 < n by omega), Option.bind_some, a2, S.rd (show i + 2 < n by omega), Option.bind_some, a3, S.rd (show i + 3 < n by omega), Option.bind_some, zif_ok kx, r1, Option.bind_some]
        dsimp only
        rw [S1.rd (show i + 1 < n by omega), Option.bind_some, S1.rd (show i + 2 < n by omega), Option.bind_some, S1.rd (show i + 3 < n by omega), Option.bind_some, zif_ok k1, r2, Option.bind_some]
        dsimp only
        rw [if_pos rfl]
        exact on h2 σ' L2 e2
      by_cases q3 : (xs i &&& (31 : Int32)) = (3 : Int32)
      · obtain ⟨v, h1, h2, σ', r1, r2, S1, k1, L2, e2⟩ := law_arc L i
        rw [if_neg q0, if_neg q1, if_neg q2, if_pos q3, a1, S.rd (show i + 1 < n by omega), Option.bind_some, a2, S.rd (show i + 2 < n by omega), Option.bind_some, a3, S.rd (show i + 3 < n by omega), Option.bind_some, a4, S.rd (show i + 4 < n by omega), Option.bind_some, a5, S.rd (show i + 5 < n by omega), Option.bind_some, zif_ok kx, r1, Option.bind_some]
        dsimp only
        rw [S1.rd (show i + 1 < n by omega), Option.bind_some, S1.rd (show i + 2 < n by omega), Option.bind_some, S1.rd (show i + 3 < n by omega), Option.bind_some, S1.rd (show i + 4 < n by omega), Option.bind_some, S1.rd (show i + 5 < n by omega), Option.bind_some, zif_ok k1, r2, Option.bind_some]
        dsimp only
        rw [if_pos rfl]
        exact on h2 σ' L2 e2
      by_cases q4 : (xs i &&& (31 : Int32)) = (4 : Int32)
      · obtain ⟨v, h1, h2, σ', r1, r2, S1, k1, L2, e2⟩ := law_copy L i
        rw [if_neg q0, if_neg q1, if_neg q2, if_neg q3, if_pos q4, a1, S.rd (show i + 1 < n by omega), Option.bind_some, zif_ok kx, r1, Option.bind_some]
        dsimp only
        rw [S1.rd (show i + 1 < n by omega), Option.bind_some, zif_ok k1, r2, Option.bind_some]
        dsimp only
        rw [if_pos rfl]
        exact on h2 σ' L2 e2
      by_cases q5 : (xs i &&& (31 : Int32)) = (5 : Int32)
      · obtain ⟨v, h1, h2, σ', r1, r2, S1, k1, L2, e2⟩ := law_take L i
        rw [if_neg q0, if_neg q1, if_neg q2, if_neg q3, if_neg q4, if_pos q5, a1, S.rd (show i + 1 < n by omega), Option.bind_some, zif_ok kx, r1, Option.bind_some]
        dsimp only
        rw [S1.rd (show i + 1 < n by omega), Option.bind_some, zif_ok k1, r2, Option.bind_some]
        dsimp only
        rw [if_pos rfl]
        exact on h2 σ' L2 e2
      by_cases q6 : (xs i &&& (31 : Int32)) = (6 : Int32)
      · obtain ⟨v, h1, h2, σ', r1, r2, S1, k1, L2, e2⟩ := law_size L i
        rw [if_neg q0, if_neg q1, if_neg q2, if_neg q3, if_neg q4, if_neg q5, if_pos q6, a1, S.rd (show i + 1 < n by omega), Option.bind_some, a2, S.rd (show i + 2 < n by omega), Option.bind_some, zif_ok kx, r1, Option.bind_some]
        dsimp only
        rw [S1.rd (show i + 1 < n by omega), Option.bind_some, S1.rd (show i + 2 < n by omega), Option.bind_some, zif_ok k1, r2, Option.bind_some]
        dsimp only
        rw [if_pos rfl]
        exact on h2 σ' L2 e2
      by_cases q7 : (xs i &&& (31 : Int32)) = (7 : Int32)
      · obtain ⟨v, h1, h2, σ', r1, r2, S1, k1, L2, e2⟩ := law_useful L i
        rw [if_neg q0, if_neg q1, if_neg q2, if_neg q3, if_neg q4, if_neg q5, if_neg q6, if_pos q7, a1, S.rd (show i + 1 < n by omega), Option.bind_some, a2, S.rd (show i + 2 < n by omega), Option.bind_some, zif_ok kx, r1, Option.bind_some]
        dsimp only
        rw [S1.rd (show i + 1 < n by omega), Option.bind_some, S1.rd (show i + 2 < n by omega), Option.bind_some, zif_ok k1, r2, Option.bind_some]
        dsimp only
        rw [if_pos rfl]
        exact on h2 σ' L2 e2
      by_cases q8 : (xs i &&& (31 : Int32)) = (8 : Int32)
      · obtain ⟨v, h1, h2, σ', r1, r2, S1, k1, L2, e2⟩ := law_apply L i
        rw [if_neg q0, if_neg q1, if_neg q2, if_neg q3, if_neg q4, if_neg q5, if_neg q6, if_neg q7, if_pos q8, a1, S.rd (show i + 1 < n by omega), Option.bind_some, a2, S.rd (show i + 2 < n by omega), Option.bind_some, zif_ok kx, r1, Option.bind_some]
        dsimp only
        rw [S1.rd (show i + 1 < n by omega), Option.bind_some, S1.rd (show i + 2 < n by omega), Option.bind_some, zif_ok k1, r2, Option.bind_some]
        dsimp only
        rw [if_pos rfl]
        exact on h2 σ' L2 e2
      by_cases q9 : (xs i &&& (31 : Int32)) = (9 : Int32)
      · obtain ⟨v, h1, h2, σ', r1, r2, S1, k1, L2, e2⟩ := law_output L i
        rw [if_neg q0, if_neg q1, if_neg q2, if_neg q3, if_neg q4, if_neg q5, if_neg q6, if_neg q7, if_neg q8, if_pos q9, a1, S.rd (show i + 1 < n by omega), Option.bind_some, a2, S.rd (show i + 2 < n by omega), Option.bind_some, zif_ok kx, r1, Option.bind_some]
        dsimp only
        rw [S1.rd (show i + 1 < n by omega), Option.bind_some, S1.rd (show i + 2 < n by omega), Option.bind_some, zif_ok k1, r2, Option.bind_some]
        dsimp only
        rw [if_pos rfl]
        exact on h2 σ' L2 e2
      by_cases q10 : (xs i &&& (31 : Int32)) = (10 : Int32)
      · obtain ⟨v, h1, h2, σ', r1, r2, S1, k1, L2, e2⟩ := law_functional L i
        rw [if_neg q0, if_neg q1, if_neg q2, if_neg q3, if_neg q4, if_neg q5, if_neg q6, if_neg q7, if_neg q8, if_neg q9, if_pos q10, a1, S.rd (show i + 1 < n by omega), Option.bind_some, zif_ok kx, r1, Option.bind_some]
        dsimp only
        rw [S1.rd (show i + 1 < n by omega), Option.bind_some, zif_ok k1, r2, Option.bind_some]
        dsimp only
        rw [if_pos rfl]
        exact on h2 σ' L2 e2
      by_cases q11 : (xs i &&& (31 : Int32)) = (11 : Int32)
      · obtain ⟨v, h1, h2, σ', r1, r2, S1, k1, L2, e2⟩ := law_readers L i
        rw [if_neg q0, if_neg q1, if_neg q2, if_neg q3, if_neg q4, if_neg q5, if_neg q6, if_neg q7, if_neg q8, if_neg q9, if_neg q10, if_pos q11, zif_ok kx, r1, Option.bind_some]
        dsimp only
        rw [zif_ok k1, r2, Option.bind_some]
        dsimp only
        rw [if_pos rfl]
        exact on h2 σ' L2 e2
      by_cases q12 : (xs i &&& (31 : Int32)) = (12 : Int32)
      · obtain ⟨v, h1, h2, σ', r1, r2, S1, k1, L2, e2⟩ := law_same L i
        rw [if_neg q0, if_neg q1, if_neg q2, if_neg q3, if_neg q4, if_neg q5, if_neg q6, if_neg q7, if_neg q8, if_neg q9, if_neg q10, if_neg q11, if_pos q12, zif_ok kx, r1, Option.bind_some]
        dsimp only
        rw [zif_ok k1, r2, Option.bind_some]
        dsimp only
        rw [if_pos rfl]
        exact on h2 σ' L2 e2
      by_cases q13 : (xs i &&& (31 : Int32)) = (13 : Int32)
      · obtain ⟨v, h1, h2, σ', r1, r2, S1, k1, L2, e2⟩ := law_sequential L i
        rw [if_neg q0, if_neg q1, if_neg q2, if_neg q3, if_neg q4, if_neg q5, if_neg q6, if_neg q7, if_neg q8, if_neg q9, if_neg q10, if_neg q11, if_neg q12, if_pos q13, a1, S.rd (show i + 1 < n by omega), Option.bind_some, zif_ok kx, r1, Option.bind_some]
        dsimp only
        rw [S1.rd (show i + 1 < n by omega), Option.bind_some, zif_ok k1, r2, Option.bind_some]
        dsimp only
        rw [if_pos rfl]
        exact on h2 σ' L2 e2
      by_cases q14 : (xs i &&& (31 : Int32)) = (14 : Int32)
      · obtain ⟨v, h1, h2, σ', r1, r2, S1, k1, L2, e2⟩ := law_witness L i
        rw [if_neg q0, if_neg q1, if_neg q2, if_neg q3, if_neg q4, if_neg q5, if_neg q6, if_neg q7, if_neg q8, if_neg q9, if_neg q10, if_neg q11, if_neg q12, if_neg q13, if_pos q14, a1, S.rd (show i + 1 < n by omega), Option.bind_some, zif_ok kx, r1, Option.bind_some]
        dsimp only
        rw [S1.rd (show i + 1 < n by omega), Option.bind_some, zif_ok k1, r2, Option.bind_some]
        dsimp only
        rw [if_pos rfl]
        exact on h2 σ' L2 e2
      by_cases q15 : (xs i &&& (31 : Int32)) = (15 : Int32)
      · obtain ⟨v, h1, h2, σ', r1, r2, S1, k1, L2, e2⟩ := law_wrote L i
        rw [if_neg q0, if_neg q1, if_neg q2, if_neg q3, if_neg q4, if_neg q5, if_neg q6, if_neg q7, if_neg q8, if_neg q9, if_neg q10, if_neg q11, if_neg q12, if_neg q13, if_neg q14, if_pos q15, a1, S.rd (show i + 1 < n by omega), Option.bind_some, a2, S.rd (show i + 2 < n by omega), Option.bind_some, zif_ok kx, r1, Option.bind_some]
        dsimp only
        rw [S1.rd (show i + 1 < n by omega), Option.bind_some, S1.rd (show i + 2 < n by omega), Option.bind_some, zif_ok k1, r2, Option.bind_some]
        dsimp only
        rw [if_pos rfl]
        exact on h2 σ' L2 e2
      by_cases q16 : (xs i &&& (31 : Int32)) = (16 : Int32)
      · obtain ⟨v, h1, h2, σ', r1, r2, S1, k1, L2, e2⟩ := law_told L i
        rw [if_neg q0, if_neg q1, if_neg q2, if_neg q3, if_neg q4, if_neg q5, if_neg q6, if_neg q7, if_neg q8, if_neg q9, if_neg q10, if_neg q11, if_neg q12, if_neg q13, if_neg q14, if_neg q15, if_pos q16, a1, S.rd (show i + 1 < n by omega), Option.bind_some, zif_ok kx, r1, Option.bind_some]
        dsimp only
        rw [S1.rd (show i + 1 < n by omega), Option.bind_some, zif_ok k1, r2, Option.bind_some]
        dsimp only
        rw [if_pos rfl]
        exact on h2 σ' L2 e2
      by_cases q17 : (xs i &&& (31 : Int32)) = (17 : Int32)
      · obtain ⟨v, h1, h2, σ', r1, r2, S1, k1, L2, e2⟩ := law_goes L i
        rw [if_neg q0, if_neg q1, if_neg q2, if_neg q3, if_neg q4, if_neg q5, if_neg q6, if_neg q7, if_neg q8, if_neg q9, if_neg q10, if_neg q11, if_neg q12, if_neg q13, if_neg q14, if_neg q15, if_neg q16, if_pos q17, a1, S.rd (show i + 1 < n by omega), Option.bind_some, a2, S.rd (show i + 2 < n by omega), Option.bind_some, zif_ok kx, r1, Option.bind_some]
        dsimp only
        rw [S1.rd (show i + 1 < n by omega), Option.bind_some, S1.rd (show i + 2 < n by omega), Option.bind_some, zif_ok k1, r2, Option.bind_some]
        dsimp only
        rw [if_pos rfl]
        exact on h2 σ' L2 e2
      by_cases q18 : (xs i &&& (31 : Int32)) = (18 : Int32)
      · obtain ⟨v, h1, h2, σ', r1, r2, S1, k1, L2, e2⟩ := law_writes L i
        rw [if_neg q0, if_neg q1, if_neg q2, if_neg q3, if_neg q4, if_neg q5, if_neg q6, if_neg q7, if_neg q8, if_neg q9, if_neg q10, if_neg q11, if_neg q12, if_neg q13, if_neg q14, if_neg q15, if_neg q16, if_neg q17, if_pos q18, a1, S.rd (show i + 1 < n by omega), Option.bind_some, a2, S.rd (show i + 2 < n by omega), Option.bind_some, a3, S.rd (show i + 3 < n by omega), Option.bind_some, zif_ok kx, r1, Option.bind_some]
        dsimp only
        rw [S1.rd (show i + 1 < n by omega), Option.bind_some, S1.rd (show i + 2 < n by omega), Option.bind_some, S1.rd (show i + 3 < n by omega), Option.bind_some, zif_ok k1, r2, Option.bind_some]
        dsimp only
        rw [if_pos rfl]
        exact on h2 σ' L2 e2
      by_cases q19 : (xs i &&& (31 : Int32)) = (19 : Int32)
      · obtain ⟨v, h1, h2, σ', r1, r2, S1, k1, L2, e2⟩ := law_act L i
        rw [if_neg q0, if_neg q1, if_neg q2, if_neg q3, if_neg q4, if_neg q5, if_neg q6, if_neg q7, if_neg q8, if_neg q9, if_neg q10, if_neg q11, if_neg q12, if_neg q13, if_neg q14, if_neg q15, if_neg q16, if_neg q17, if_neg q18, if_pos q19, a1, S.rd (show i + 1 < n by omega), Option.bind_some, zif_ok kx, r1, Option.bind_some]
        dsimp only
        rw [S1.rd (show i + 1 < n by omega), Option.bind_some, zif_ok k1, r2, Option.bind_some]
        dsimp only
        rw [if_pos rfl]
        exact on h2 σ' L2 e2
      by_cases q20 : (xs i &&& (31 : Int32)) = (20 : Int32)
      · obtain ⟨v, h1, h2, σ', r1, r2, S1, k1, L2, e2⟩ := law_acted L i
        rw [if_neg q0, if_neg q1, if_neg q2, if_neg q3, if_neg q4, if_neg q5, if_neg q6, if_neg q7, if_neg q8, if_neg q9, if_neg q10, if_neg q11, if_neg q12, if_neg q13, if_neg q14, if_neg q15, if_neg q16, if_neg q17, if_neg q18, if_neg q19, if_pos q20, a1, S.rd (show i + 1 < n by omega), Option.bind_some, zif_ok kx, r1, Option.bind_some]
        dsimp only
        rw [S1.rd (show i + 1 < n by omega), Option.bind_some, zif_ok k1, r2, Option.bind_some]
        dsimp only
        rw [if_pos rfl]
        exact on h2 σ' L2 e2
      rw [if_neg q0, if_neg q1, if_neg q2, if_neg q3, if_neg q4, if_neg q5, if_neg q6, if_neg q7, if_neg q8, if_neg q9, if_neg q10, if_neg q11, if_neg q12, if_neg q13, if_neg q14, if_neg q15, if_neg q16, if_neg q17, if_neg q18, if_neg q19, if_neg q20]
      exact on h σ L rfl
end LAW
