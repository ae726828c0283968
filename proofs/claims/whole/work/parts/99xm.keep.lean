/-! Both sides: what the one does leaves the other as it is. -/
section KEP
variable {h h' : zM} {m x : Nat} {σ : zTa}
theorem OWB.eq {A B W i : Nat} {o : Option zWo} (d : OWB h m A B W i o) (hA : 0 < A ∧ A < 74) (hB : 0 < B ∧ B < 74) (f : zEq m (m + 74) h h') : OWB h' m A B W i o := d.of (f.I (by omega) (by omega) _) (fun _ _ => f.I (by omega) (by omega) _)
theorem LZm.eq {Z : zLz} (d : LZm h m Z) (f : zEq m (m + 74) h h') : LZm h' m Z :=
  ⟨(f.I (by omega) (by omega) _).trans d.1, ⟨(f.I (by omega) (by omega) _).trans d.2.1.1, d.2.1.2.1.of (fun j _ => f.I (by omega) (by omega) _), d.2.1.2.2⟩, fun k hk => ⟨(d.2.2 k hk).1.eq (by omega) (by omega) f, fun j hj => ⟨((d.2.2 k hk).2 j hj).1.eq (by omega) (by omega) f, (f.I (by omega) (by omega) _).trans ((d.2.2 k hk).2 j hj).2⟩⟩⟩
theorem LTm.eq {L : Option zMa} (d : LTm h m L) (f : zEq m (m + 74) h h') : LTm h' m L :=
  ⟨fun w hw => (f.I (by omega) (by omega) _).trans (d.1 w hw), (f.I (by omega) (by omega) _).trans d.2.1, fun M e => ⟨(d.2.2 M e).1, (d.2.2 M e).2.1, fun s => ((d.2.2 M e).2.2 s).eq f⟩⟩
theorem WN.eq {st : zWt} (d : WN h m st) (f : zEq m (m + 74) h h') : WN h' m st := by
  cases st with
  | none => exact ⟨(f.I (by omega) (by omega) _).trans d.1, fun w hw => (f.I (by omega) (by omega) _).trans (d.2 w hw)⟩
  | some p =>
    refine ⟨⟨(f.I (by omega) (by omega) _).trans d.1.1, d.1.2.1.of (fun j _ => f.I (by omega) (by omega) _), d.1.2.2⟩, fun w hw => ?_⟩
    have dw := d.2 w hw
    cases e : p.2 w with
    | none =>
      rw [e] at dw
      exact (f.I (by omega) (by omega) _).trans dw
    | some u =>
      rw [e] at dw
      obtain ⟨a1, a2, a3⟩ := (show zI h (m + 22) w = nI u.length ∧ Rw h (m + 23) (13000 * w) u ∧ u.length ≤ 390 from dw)
      exact ⟨(f.I (by omega) (by omega) _).trans a1, a2.of (fun j _ => f.I (by omega) (by omega) _), a3⟩
theorem RI.eq (d : RI h m σ) (f : zEq m (m + 74) h h') : RI h' m σ := by
  obtain ⟨mm, ⟨mo1, mo2⟩, wn, ⟨e62, hn⟩, lt, ua⟩ := d
  refine ⟨MMs.eq mm (Lay.eq mm.1 (f.sub (by omega) (by omega))) (f.sub (by omega) (by omega)), ⟨⟨mo1.1, fun i hi => ?_⟩, ?_⟩, wn.eq f, ⟨(f.I (by omega) (by omega) _).trans e62, hn⟩, lt.eq f, (f.I (by omega) (by omega) _).trans ua.1, ua.2.1.of (fun j _ => f.I (by omega) (by omega) _), ua.2.2⟩
  · obtain ⟨a1, a2, a3⟩ := mo1.2 i hi
    exact ⟨(f.I (by omega) (by omega) _).trans a1, a2.of (fun j _ => f.I (by omega) (by omega) _), a3⟩
  · rw [f.I (by omega) (by omega)]
    exact mo2
theorem XI.eq (d : XI h x σ) (f : zEq x (x + 8091) h h') : XI h' x σ := by
  obtain ⟨d1, d2, d3, d4, d5, d6, d7, d8, d9⟩ := d
  exact ⟨d1.eq (f.F (by omega) (by omega) _) (f.sub (by omega) (by omega)), d2.of (f.2 x (by omega) (by omega)).2, d3.eq (f.sub (by omega) (by omega)), d4.eq (f.sub (by omega) (by omega)), d5.eq (f.sub (by omega) (by omega)), d6.eq (f.sub (by omega) (by omega)), ⟨(f.I (by omega) (by omega) _).trans d7.1, d7.2⟩, d8.eq (f.I (by omega) (by omega) _) (f.I (by omega) (by omega) _) (f.sub (by omega) (by omega)), d9.eq (f.sub (by omega) (by omega))⟩
/-- the calls that change nothing, and those on the machines -/
theorem s_routput (d : RI h m σ) (i k : Int32) : zf nX12_output [.inr m, .inl i, .inl k] h = some (aOutput σ.2.1 i k, 0, h) := s_moutput d.1.1 d.2.1 i k
theorem s_rwitness (d : RI h m σ) (k : Int32) : zf nX12_witness [.inr m, .inl k] h = some (aWitness σ.2.2.1 k, 0, h) := s_mwitness d.1.1 d.2.2.1 k
theorem s_rwrote (d : RI h m σ) (t k : Int32) : zf nX12_wrote [.inr m, .inl t, .inl k] h = some (aWrote σ.2.2.1 t k, 0, h) := s_mwrote d.1.1 d.2.2.1 t k
theorem s_rsize (d : RI h m σ) (hk : ∀ t, t < 2 → MaOk (σ.1 t)) (t w : Int32) : ∃ h', zf nX12_size [.inr m, .inl t, .inl w] h = some (aSize σ.1 t w, 0, h') ∧ zGr m (m + 74) h h' ∧ RI h' m σ := by
  obtain ⟨h', r1, r2, r3⟩ := s_msize d.1 hk t w
  exact ⟨h', r1, r2.gr.wide (by omega) (by omega), d.ms11 r2 r3⟩
theorem s_ruseful (d : RI h m σ) (hk : ∀ t, t < 2 → MaOk (σ.1 t)) (t q : Int32) : ∃ h', zf nX12_useful [.inr m, .inl t, .inl q] h = some (aUseful σ.1 t q, 0, h') ∧ zGr m (m + 74) h h' ∧ RI h' m σ := by
  obtain ⟨h', r1, r2, r3⟩ := s_museful d.1 hk t q
  exact ⟨h', r1, r2.gr.wide (by omega) (by omega), d.ms11 r2 r3⟩
theorem s_rmachine (d : RI h m σ) (hk : ∀ t, t < 2 → MaOk (σ.1 t)) (t n : Int32) : ∃ h', zf nX12_machine [.inr m, .inl t, .inl n] h = some ((aMachine σ.1 t n).1, 0, h') ∧ zGr m (m + 74) h h' ∧ RI h' m ((aMachine σ.1 t n).2, σ.2) := by
  obtain ⟨h', r1, r2, r3⟩ := s_mmachine d.1 hk t n
  exact ⟨h', r1, r2.grm, d.ms r2 r3⟩
theorem s_rbegins (d : RI h m σ) (hk : ∀ t, t < 2 → MaOk (σ.1 t)) (t q is : Int32) (his : is = 0 ∨ is = 1) : ∃ h', zf nX12_begins [.inr m, .inl t, .inl q, .inl is] h = some ((aBegins σ.1 t q is).1, 0, h') ∧ zGr m (m + 74) h h' ∧ RI h' m ((aBegins σ.1 t q is).2, σ.2) := by
  obtain ⟨h', r1, r2, r3⟩ := s_mbegins d.1 hk t q is his
  exact ⟨h', r1, r2.grm, d.ms r2 r3⟩
theorem s_rends (d : RI h m σ) (hk : ∀ t, t < 2 → MaOk (σ.1 t)) (t q w : Int32) : ∃ h', zf nX12_ends [.inr m, .inl t, .inl q, .inl w] h = some ((aEnds σ.1 t q w).1, 0, h') ∧ zGr m (m + 74) h h' ∧ RI h' m ((aEnds σ.1 t q w).2, σ.2) := by
  obtain ⟨h', r1, r2, r3⟩ := s_mends d.1 hk t q w
  exact ⟨h', r1, r2.grm, d.ms r2 r3⟩
theorem s_rarc (d : RI h m σ) (hk : ∀ t, t < 2 → MaOk (σ.1 t)) (t p l q w : Int32) : ∃ h', zf nX12_arc [.inr m, .inl t, .inl p, .inl l, .inl q, .inl w] h = some ((aArc σ.1 t p l q w).1, 0, h') ∧ zGr m (m + 74) h h' ∧ RI h' m ((aArc σ.1 t p l q w).2, σ.2) := by
  obtain ⟨h', r1, r2, r3⟩ := s_marc d.1 hk t p l q w
  exact ⟨h', r1, r2.grm, d.ms r2 r3⟩
theorem s_rcopy (d : RI h m σ) (hk : ∀ t, t < 2 → MaOk (σ.1 t)) (t : Int32) : ∃ h', zf nX12_copy [.inr m, .inl t] h = some ((aCopy σ.1 t).1, 0, h') ∧ zGr m (m + 74) h h' ∧ RI h' m ((aCopy σ.1 t).2, σ.2) := by
  obtain ⟨h', r1, r2, r3⟩ := s_mcopy d.1 hk t
  exact ⟨h', r1, r2.grm, d.ms r2 r3⟩
theorem s_rtake2 (d : RI h m σ) (hk : ∀ t, t < 2 → MaOk (σ.1 t)) (t : Int32) : ∃ h' Ms', zGr m (m + 74) h h' ∧ RI h' m (Ms', σ.2) ∧ ((∃ M, tkO (lzO σ.2.2.2.2.1) t M ∧ zf nX12_take [.inr m, .inl t] h = some (1, 0, h') ∧ Ms' = va_up σ.1 t.toNatClampNeg M) ∨ ((¬ ∃ M, tkO (lzO σ.2.2.2.2.1) t M) ∧ zf nX12_take [.inr m, .inl t] h = some (0, 0, h') ∧ Ms' = σ.1)) := by
  obtain ⟨h', Ms', r1, r2, r3⟩ := s_rtake d.1 hk d.2.2.2.2.1.lo t
  exact ⟨h', Ms', r1.grm, d.ms r1 r2, r3⟩
/-- the class's machines: what the calls make of them -/
theorem XI.ms {Ms' : Nat → zMa} (d : XI h x σ) (f : zFr (x + 1) (x + 14) h h') (d' : XMs h' x Ms') : XI h' x (Ms', σ.2) := by
  obtain ⟨d1, d2, d3, d4, d5, d6, d7, d8, d9⟩ := d
  have g : zEq (x + 14) (x + 8091) h h' := f.eq (by omega)
  exact ⟨d', d2.of (f.2.2 x).2, d3.eq (g.sub (by omega) (by omega)), d4.eq (g.sub (by omega) (by omega)), d5.eq (g.sub (by omega) (by omega)), d6.eq (g.sub (by omega) (by omega)), ⟨(f.I (by omega) _).trans d7.1, d7.2⟩, d8.eq (f.I (by omega) _) (f.I (by omega) _) (g.sub (by omega) (by omega)), d9.eq (g.sub (by omega) (by omega))⟩
end KEP
