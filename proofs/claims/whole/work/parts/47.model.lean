/-! The reference: its arrays stand behind it, one behind the other. -/
def T12 : List (Nat × Nat × Nat × Nat) := [(0, 1, 101, 2), (1, 2, 103, 12), (2, 3, 101, 12), (3, 4, 101, 2), (4, 5, 101, 60), (5, 6, 101, 60), (6, 7, 101, 60), (7, 8, 101, 60), (8, 9, 103, 12), (9, 10, 103, 12), (10, 11, 103, 12), (12, 12, 101, 61), (13, 13, 101, 61), (14, 14, 101, 1952), (16, 15, 101, 61), (17, 16, 101, 61), (18, 17, 101, 1952), (20, 18, 101, 61), (21, 19, 101, 1952), (22, 20, 101, 32), (24, 21, 101, 4200), (25, 22, 101, 2), (26, 23, 101, 26000), (27, 24, 101, 12), (28, 25, 101, 12), (29, 26, 102, 156000), (30, 27, 102, 156000), (31, 28, 102, 13000), (33, 29, 101, 160), (34, 30, 101, 160), (35, 31, 101, 160), (36, 32, 101, 160), (37, 33, 102, 96000), (38, 34, 101, 160), (39, 35, 101, 160), (40, 36, 101, 160), (41, 37, 103, 36), (42, 38, 101, 36), (43, 39, 101, 640), (44, 40, 101, 640), (49, 41, 101, 4096), (50, 42, 101, 4096), (51, 43, 101, 4096), (52, 44, 103, 4096), (53, 45, 101, 4200), (55, 46, 101, 1002), (56, 47, 101, 1002), (57, 48, 101, 1002), (58, 49, 102, 224448), (63, 50, 101, 5), (65, 51, 101, 606), (66, 52, 102, 72720), (67, 53, 101, 400), (68, 54, 101, 400), (69, 55, 102, 104000), (70, 56, 101, 6), (71, 57, 102, 720), (72, 58, 101, 101), (73, 59, 102, 26260), (75, 60, 101, 101), (76, 61, 102, 52520), (77, 62, 102, 1040), (80, 63, 101, 404), (81, 64, 101, 404), (82, 65, 102, 315120), (84, 66, 102, 520), (85, 67, 101, 404), (86, 68, 102, 315120), (87, 69, 101, 101), (88, 70, 101, 101), (89, 71, 101, 101), (91, 72, 102, 9000), (92, 73, 102, 9000)]
abbrev MLay (h : zM) (m : Nat) : Prop := Lay T12 12 h m
theorem MLay.sI {h : zM} {m a k : Nat} {x : Int32} (l : MLay h m) : MLay (zsI h a k x) m := l
theorem gIx {i n : Nat} {h : zM} {a : Nat} (hn : zN h a = n) (hi : i < n) (h9 : n < 2 ^ 30) : i < zN h a ∧ zN h a < 2 ^ 31 := by omega
theorem zba_ok {h : zM} {a i : Nat} (hk : zK h a = 102 ∨ zK h a = 103) (hi : i < zN h a) (hn : zN h a < 2 ^ 31) : zba h a (nI i) = some (zI h a i) := by
  have := nI_clamp (n := i) (by omega)
  unfold zba
  rw [if_pos ⟨hk, zix hi hn⟩, this]
theorem zbs_ok {h : zM} {a i : Nat} {x : Int32} (hk : zK h a = 103) (hi : i < zN h a) (hn : zN h a < 2 ^ 31) (hx : x = 0 ∨ x = 1) : zbs h a (nI i) x = some (zsI h a i x) := by
  have := nI_clamp (n := i) (by omega)
  have e : vp_nar .boolean x = x := by rcases hx with q | q <;> subst q <;> rfl
  unfold zbs
  rw [if_neg (fun z => by omega), if_pos ⟨hk, zix hi hn⟩, this, e]
theorem zbs_byte {h : zM} {a i : Nat} {x : Int32} (hk : zK h a = 102) (hi : i < zN h a) (hn : zN h a < 2 ^ 31) : zbs h a (nI i) x = some (zsI h a i x.toInt8.toInt32) := by
  have := nI_clamp (n := i) (by omega)
  unfold zbs
  rw [if_pos ⟨hk, zix hi hn⟩, this]
  rfl
theorem mF0 {h : zM} {m : Nat} (l : MLay h m) : zgF h m 12 0 = some (m + 1) := (zgF_ok l.1).trans (congrArg some (l.2 (0, 1, 101, 2) (by decide)).1)
theorem mk0 {h : zM} {m : Nat} (l : MLay h m) : zK h (m + 1) = 101 ∧ zN h (m + 1) = 2 := (l.2 (0, 1, 101, 2) (by decide)).2
theorem mr0 {h : zM} {m : Nat} (l : MLay h m) {i : Nat} (hi : i < 2) : zia h (m + 1) (nI i) = some (zI h (m + 1) i) := zia_ok (mk0 l).1 (gIx (mk0 l).2 hi (by decide)).1 (gIx (mk0 l).2 hi (by decide)).2
theorem mw0 {h : zM} {m : Nat} (l : MLay h m) {i : Nat} (hi : i < 2) (x : Int32) : zis h (m + 1) (nI i) x = some (zsI h (m + 1) i x) := zis_ok (mk0 l).1 (gIx (mk0 l).2 hi (by decide)).1 (gIx (mk0 l).2 hi (by decide)).2
theorem mF1 {h : zM} {m : Nat} (l : MLay h m) : zgF h m 12 1 = some (m + 2) := (zgF_ok l.1).trans (congrArg some (l.2 (1, 2, 103, 12) (by decide)).1)
theorem mk1 {h : zM} {m : Nat} (l : MLay h m) : zK h (m + 2) = 103 ∧ zN h (m + 2) = 12 := (l.2 (1, 2, 103, 12) (by decide)).2
theorem mr1 {h : zM} {m : Nat} (l : MLay h m) {i : Nat} (hi : i < 12) : zba h (m + 2) (nI i) = some (zI h (m + 2) i) := zba_ok (Or.inr (mk1 l).1) (gIx (mk1 l).2 hi (by decide)).1 (gIx (mk1 l).2 hi (by decide)).2
theorem mw1 {h : zM} {m : Nat} (l : MLay h m) {i : Nat} (hi : i < 12) {x : Int32} (hx : x = 0 ∨ x = 1) : zbs h (m + 2) (nI i) x = some (zsI h (m + 2) i x) := zbs_ok (mk1 l).1 (gIx (mk1 l).2 hi (by decide)).1 (gIx (mk1 l).2 hi (by decide)).2 hx
theorem mF2 {h : zM} {m : Nat} (l : MLay h m) : zgF h m 12 2 = some (m + 3) := (zgF_ok l.1).trans (congrArg some (l.2 (2, 3, 101, 12) (by decide)).1)
theorem mk2 {h : zM} {m : Nat} (l : MLay h m) : zK h (m + 3) = 101 ∧ zN h (m + 3) = 12 := (l.2 (2, 3, 101, 12) (by decide)).2
theorem mr2 {h : zM} {m : Nat} (l : MLay h m) {i : Nat} (hi : i < 12) : zia h (m + 3) (nI i) = some (zI h (m + 3) i) := zia_ok (mk2 l).1 (gIx (mk2 l).2 hi (by decide)).1 (gIx (mk2 l).2 hi (by decide)).2
theorem mw2 {h : zM} {m : Nat} (l : MLay h m) {i : Nat} (hi : i < 12) (x : Int32) : zis h (m + 3) (nI i) x = some (zsI h (m + 3) i x) := zis_ok (mk2 l).1 (gIx (mk2 l).2 hi (by decide)).1 (gIx (mk2 l).2 hi (by decide)).2
theorem mF3 {h : zM} {m : Nat} (l : MLay h m) : zgF h m 12 3 = some (m + 4) := (zgF_ok l.1).trans (congrArg some (l.2 (3, 4, 101, 2) (by decide)).1)
theorem mk3 {h : zM} {m : Nat} (l : MLay h m) : zK h (m + 4) = 101 ∧ zN h (m + 4) = 2 := (l.2 (3, 4, 101, 2) (by decide)).2
theorem mr3 {h : zM} {m : Nat} (l : MLay h m) {i : Nat} (hi : i < 2) : zia h (m + 4) (nI i) = some (zI h (m + 4) i) := zia_ok (mk3 l).1 (gIx (mk3 l).2 hi (by decide)).1 (gIx (mk3 l).2 hi (by decide)).2
theorem mw3 {h : zM} {m : Nat} (l : MLay h m) {i : Nat} (hi : i < 2) (x : Int32) : zis h (m + 4) (nI i) x = some (zsI h (m + 4) i x) := zis_ok (mk3 l).1 (gIx (mk3 l).2 hi (by decide)).1 (gIx (mk3 l).2 hi (by decide)).2
theorem mF4 {h : zM} {m : Nat} (l : MLay h m) : zgF h m 12 4 = some (m + 5) := (zgF_ok l.1).trans (congrArg some (l.2 (4, 5, 101, 60) (by decide)).1)
theorem mk4 {h : zM} {m : Nat} (l : MLay h m) : zK h (m + 5) = 101 ∧ zN h (m + 5) = 60 := (l.2 (4, 5, 101, 60) (by decide)).2
theorem mr4 {h : zM} {m : Nat} (l : MLay h m) {i : Nat} (hi : i < 60) : zia h (m + 5) (nI i) = some (zI h (m + 5) i) := zia_ok (mk4 l).1 (gIx (mk4 l).2 hi (by decide)).1 (gIx (mk4 l).2 hi (by decide)).2
theorem mw4 {h : zM} {m : Nat} (l : MLay h m) {i : Nat} (hi : i < 60) (x : Int32) : zis h (m + 5) (nI i) x = some (zsI h (m + 5) i x) := zis_ok (mk4 l).1 (gIx (mk4 l).2 hi (by decide)).1 (gIx (mk4 l).2 hi (by decide)).2
theorem mF5 {h : zM} {m : Nat} (l : MLay h m) : zgF h m 12 5 = some (m + 6) := (zgF_ok l.1).trans (congrArg some (l.2 (5, 6, 101, 60) (by decide)).1)
theorem mk5 {h : zM} {m : Nat} (l : MLay h m) : zK h (m + 6) = 101 ∧ zN h (m + 6) = 60 := (l.2 (5, 6, 101, 60) (by decide)).2
theorem mr5 {h : zM} {m : Nat} (l : MLay h m) {i : Nat} (hi : i < 60) : zia h (m + 6) (nI i) = some (zI h (m + 6) i) := zia_ok (mk5 l).1 (gIx (mk5 l).2 hi (by decide)).1 (gIx (mk5 l).2 hi (by decide)).2
theorem mw5 {h : zM} {m : Nat} (l : MLay h m) {i : Nat} (hi : i < 60) (x : Int32) : zis h (m + 6) (nI i) x = some (zsI h (m + 6) i x) := zis_ok (mk5 l).1 (gIx (mk5 l).2 hi (by decide)).1 (gIx (mk5 l).2 hi (by decide)).2
theorem mF6 {h : zM} {m : Nat} (l : MLay h m) : zgF h m 12 6 = some (m + 7) := (zgF_ok l.1).trans (congrArg some (l.2 (6, 7, 101, 60) (by decide)).1)
theorem mk6 {h : zM} {m : Nat} (l : MLay h m) : zK h (m + 7) = 101 ∧ zN h (m + 7) = 60 := (l.2 (6, 7, 101, 60) (by decide)).2
theorem mr6 {h : zM} {m : Nat} (l : MLay h m) {i : Nat} (hi : i < 60) : zia h (m + 7) (nI i) = some (zI h (m + 7) i) := zia_ok (mk6 l).1 (gIx (mk6 l).2 hi (by decide)).1 (gIx (mk6 l).2 hi (by decide)).2
theorem mw6 {h : zM} {m : Nat} (l : MLay h m) {i : Nat} (hi : i < 60) (x : Int32) : zis h (m + 7) (nI i) x = some (zsI h (m + 7) i x) := zis_ok (mk6 l).1 (gIx (mk6 l).2 hi (by decide)).1 (gIx (mk6 l).2 hi (by decide)).2
theorem mF7 {h : zM} {m : Nat} (l : MLay h m) : zgF h m 12 7 = some (m + 8) := (zgF_ok l.1).trans (congrArg some (l.2 (7, 8, 101, 60) (by decide)).1)
theorem mk7 {h : zM} {m : Nat} (l : MLay h m) : zK h (m + 8) = 101 ∧ zN h (m + 8) = 60 := (l.2 (7, 8, 101, 60) (by decide)).2
theorem mr7 {h : zM} {m : Nat} (l : MLay h m) {i : Nat} (hi : i < 60) : zia h (m + 8) (nI i) = some (zI h (m + 8) i) := zia_ok (mk7 l).1 (gIx (mk7 l).2 hi (by decide)).1 (gIx (mk7 l).2 hi (by decide)).2
theorem mw7 {h : zM} {m : Nat} (l : MLay h m) {i : Nat} (hi : i < 60) (x : Int32) : zis h (m + 8) (nI i) x = some (zsI h (m + 8) i x) := zis_ok (mk7 l).1 (gIx (mk7 l).2 hi (by decide)).1 (gIx (mk7 l).2 hi (by decide)).2
theorem mF8 {h : zM} {m : Nat} (l : MLay h m) : zgF h m 12 8 = some (m + 9) := (zgF_ok l.1).trans (congrArg some (l.2 (8, 9, 103, 12) (by decide)).1)
theorem mk8 {h : zM} {m : Nat} (l : MLay h m) : zK h (m + 9) = 103 ∧ zN h (m + 9) = 12 := (l.2 (8, 9, 103, 12) (by decide)).2
theorem mr8 {h : zM} {m : Nat} (l : MLay h m) {i : Nat} (hi : i < 12) : zba h (m + 9) (nI i) = some (zI h (m + 9) i) := zba_ok (Or.inr (mk8 l).1) (gIx (mk8 l).2 hi (by decide)).1 (gIx (mk8 l).2 hi (by decide)).2
theorem mw8 {h : zM} {m : Nat} (l : MLay h m) {i : Nat} (hi : i < 12) {x : Int32} (hx : x = 0 ∨ x = 1) : zbs h (m + 9) (nI i) x = some (zsI h (m + 9) i x) := zbs_ok (mk8 l).1 (gIx (mk8 l).2 hi (by decide)).1 (gIx (mk8 l).2 hi (by decide)).2 hx
theorem mF9 {h : zM} {m : Nat} (l : MLay h m) : zgF h m 12 9 = some (m + 10) := (zgF_ok l.1).trans (congrArg some (l.2 (9, 10, 103, 12) (by decide)).1)
theorem mk9 {h : zM} {m : Nat} (l : MLay h m) : zK h (m + 10) = 103 ∧ zN h (m + 10) = 12 := (l.2 (9, 10, 103, 12) (by decide)).2
theorem mr9 {h : zM} {m : Nat} (l : MLay h m) {i : Nat} (hi : i < 12) : zba h (m + 10) (nI i) = some (zI h (m + 10) i) := zba_ok (Or.inr (mk9 l).1) (gIx (mk9 l).2 hi (by decide)).1 (gIx (mk9 l).2 hi (by decide)).2
theorem mw9 {h : zM} {m : Nat} (l : MLay h m) {i : Nat} (hi : i < 12) {x : Int32} (hx : x = 0 ∨ x = 1) : zbs h (m + 10) (nI i) x = some (zsI h (m + 10) i x) := zbs_ok (mk9 l).1 (gIx (mk9 l).2 hi (by decide)).1 (gIx (mk9 l).2 hi (by decide)).2 hx
theorem mF10 {h : zM} {m : Nat} (l : MLay h m) : zgF h m 12 10 = some (m + 11) := (zgF_ok l.1).trans (congrArg some (l.2 (10, 11, 103, 12) (by decide)).1)
theorem mk10 {h : zM} {m : Nat} (l : MLay h m) : zK h (m + 11) = 103 ∧ zN h (m + 11) = 12 := (l.2 (10, 11, 103, 12) (by decide)).2
theorem mr10 {h : zM} {m : Nat} (l : MLay h m) {i : Nat} (hi : i < 12) : zba h (m + 11) (nI i) = some (zI h (m + 11) i) := zba_ok (Or.inr (mk10 l).1) (gIx (mk10 l).2 hi (by decide)).1 (gIx (mk10 l).2 hi (by decide)).2
theorem mw10 {h : zM} {m : Nat} (l : MLay h m) {i : Nat} (hi : i < 12) {x : Int32} (hx : x = 0 ∨ x = 1) : zbs h (m + 11) (nI i) x = some (zsI h (m + 11) i x) := zbs_ok (mk10 l).1 (gIx (mk10 l).2 hi (by decide)).1 (gIx (mk10 l).2 hi (by decide)).2 hx
theorem mF12 {h : zM} {m : Nat} (l : MLay h m) : zgF h m 12 12 = some (m + 12) := (zgF_ok l.1).trans (congrArg some (l.2 (12, 12, 101, 61) (by decide)).1)
theorem mk12 {h : zM} {m : Nat} (l : MLay h m) : zK h (m + 12) = 101 ∧ zN h (m + 12) = 61 := (l.2 (12, 12, 101, 61) (by decide)).2
theorem mr12 {h : zM} {m : Nat} (l : MLay h m) {i : Nat} (hi : i < 61) : zia h (m + 12) (nI i) = some (zI h (m + 12) i) := zia_ok (mk12 l).1 (gIx (mk12 l).2 hi (by decide)).1 (gIx (mk12 l).2 hi (by decide)).2
theorem mw12 {h : zM} {m : Nat} (l : MLay h m) {i : Nat} (hi : i < 61) (x : Int32) : zis h (m + 12) (nI i) x = some (zsI h (m + 12) i x) := zis_ok (mk12 l).1 (gIx (mk12 l).2 hi (by decide)).1 (gIx (mk12 l).2 hi (by decide)).2
theorem mF13 {h : zM} {m : Nat} (l : MLay h m) : zgF h m 12 13 = some (m + 13) := (zgF_ok l.1).trans (congrArg some (l.2 (13, 13, 101, 61) (by decide)).1)
theorem mk13 {h : zM} {m : Nat} (l : MLay h m) : zK h (m + 13) = 101 ∧ zN h (m + 13) = 61 := (l.2 (13, 13, 101, 61) (by decide)).2
theorem mr13 {h : zM} {m : Nat} (l : MLay h m) {i : Nat} (hi : i < 61) : zia h (m + 13) (nI i) = some (zI h (m + 13) i) := zia_ok (mk13 l).1 (gIx (mk13 l).2 hi (by decide)).1 (gIx (mk13 l).2 hi (by decide)).2
theorem mw13 {h : zM} {m : Nat} (l : MLay h m) {i : Nat} (hi : i < 61) (x : Int32) : zis h (m + 13) (nI i) x = some (zsI h (m + 13) i x) := zis_ok (mk13 l).1 (gIx (mk13 l).2 hi (by decide)).1 (gIx (mk13 l).2 hi (by decide)).2
theorem mF14 {h : zM} {m : Nat} (l : MLay h m) : zgF h m 12 14 = some (m + 14) := (zgF_ok l.1).trans (congrArg some (l.2 (14, 14, 101, 1952) (by decide)).1)
theorem mk14 {h : zM} {m : Nat} (l : MLay h m) : zK h (m + 14) = 101 ∧ zN h (m + 14) = 1952 := (l.2 (14, 14, 101, 1952) (by decide)).2
theorem mr14 {h : zM} {m : Nat} (l : MLay h m) {i : Nat} (hi : i < 1952) : zia h (m + 14) (nI i) = some (zI h (m + 14) i) := zia_ok (mk14 l).1 (gIx (mk14 l).2 hi (by decide)).1 (gIx (mk14 l).2 hi (by decide)).2
theorem mw14 {h : zM} {m : Nat} (l : MLay h m) {i : Nat} (hi : i < 1952) (x : Int32) : zis h (m + 14) (nI i) x = some (zsI h (m + 14) i x) := zis_ok (mk14 l).1 (gIx (mk14 l).2 hi (by decide)).1 (gIx (mk14 l).2 hi (by decide)).2
theorem mF16 {h : zM} {m : Nat} (l : MLay h m) : zgF h m 12 16 = some (m + 15) := (zgF_ok l.1).trans (congrArg some (l.2 (16, 15, 101, 61) (by decide)).1)
theorem mk16 {h : zM} {m : Nat} (l : MLay h m) : zK h (m + 15) = 101 ∧ zN h (m + 15) = 61 := (l.2 (16, 15, 101, 61) (by decide)).2
theorem mr16 {h : zM} {m : Nat} (l : MLay h m) {i : Nat} (hi : i < 61) : zia h (m + 15) (nI i) = some (zI h (m + 15) i) := zia_ok (mk16 l).1 (gIx (mk16 l).2 hi (by decide)).1 (gIx (mk16 l).2 hi (by decide)).2
theorem mw16 {h : zM} {m : Nat} (l : MLay h m) {i : Nat} (hi : i < 61) (x : Int32) : zis h (m + 15) (nI i) x = some (zsI h (m + 15) i x) := zis_ok (mk16 l).1 (gIx (mk16 l).2 hi (by decide)).1 (gIx (mk16 l).2 hi (by decide)).2
theorem mF17 {h : zM} {m : Nat} (l : MLay h m) : zgF h m 12 17 = some (m + 16) := (zgF_ok l.1).trans (congrArg some (l.2 (17, 16, 101, 61) (by decide)).1)
theorem mk17 {h : zM} {m : Nat} (l : MLay h m) : zK h (m + 16) = 101 ∧ zN h (m + 16) = 61 := (l.2 (17, 16, 101, 61) (by decide)).2
theorem mr17 {h : zM} {m : Nat} (l : MLay h m) {i : Nat} (hi : i < 61) : zia h (m + 16) (nI i) = some (zI h (m + 16) i) := zia_ok (mk17 l).1 (gIx (mk17 l).2 hi (by decide)).1 (gIx (mk17 l).2 hi (by decide)).2
theorem mw17 {h : zM} {m : Nat} (l : MLay h m) {i : Nat} (hi : i < 61) (x : Int32) : zis h (m + 16) (nI i) x = some (zsI h (m + 16) i x) := zis_ok (mk17 l).1 (gIx (mk17 l).2 hi (by decide)).1 (gIx (mk17 l).2 hi (by decide)).2
theorem mF18 {h : zM} {m : Nat} (l : MLay h m) : zgF h m 12 18 = some (m + 17) := (zgF_ok l.1).trans (congrArg some (l.2 (18, 17, 101, 1952) (by decide)).1)
theorem mk18 {h : zM} {m : Nat} (l : MLay h m) : zK h (m + 17) = 101 ∧ zN h (m + 17) = 1952 := (l.2 (18, 17, 101, 1952) (by decide)).2
theorem mr18 {h : zM} {m : Nat} (l : MLay h m) {i : Nat} (hi : i < 1952) : zia h (m + 17) (nI i) = some (zI h (m + 17) i) := zia_ok (mk18 l).1 (gIx (mk18 l).2 hi (by decide)).1 (gIx (mk18 l).2 hi (by decide)).2
theorem mw18 {h : zM} {m : Nat} (l : MLay h m) {i : Nat} (hi : i < 1952) (x : Int32) : zis h (m + 17) (nI i) x = some (zsI h (m + 17) i x) := zis_ok (mk18 l).1 (gIx (mk18 l).2 hi (by decide)).1 (gIx (mk18 l).2 hi (by decide)).2
theorem mF20 {h : zM} {m : Nat} (l : MLay h m) : zgF h m 12 20 = some (m + 18) := (zgF_ok l.1).trans (congrArg some (l.2 (20, 18, 101, 61) (by decide)).1)
theorem mk20 {h : zM} {m : Nat} (l : MLay h m) : zK h (m + 18) = 101 ∧ zN h (m + 18) = 61 := (l.2 (20, 18, 101, 61) (by decide)).2
theorem mr20 {h : zM} {m : Nat} (l : MLay h m) {i : Nat} (hi : i < 61) : zia h (m + 18) (nI i) = some (zI h (m + 18) i) := zia_ok (mk20 l).1 (gIx (mk20 l).2 hi (by decide)).1 (gIx (mk20 l).2 hi (by decide)).2
theorem mw20 {h : zM} {m : Nat} (l : MLay h m) {i : Nat} (hi : i < 61) (x : Int32) : zis h (m + 18) (nI i) x = some (zsI h (m + 18) i x) := zis_ok (mk20 l).1 (gIx (mk20 l).2 hi (by decide)).1 (gIx (mk20 l).2 hi (by decide)).2
theorem mF21 {h : zM} {m : Nat} (l : MLay h m) : zgF h m 12 21 = some (m + 19) := (zgF_ok l.1).trans (congrArg some (l.2 (21, 19, 101, 1952) (by decide)).1)
theorem mk21 {h : zM} {m : Nat} (l : MLay h m) : zK h (m + 19) = 101 ∧ zN h (m + 19) = 1952 := (l.2 (21, 19, 101, 1952) (by decide)).2
theorem mr21 {h : zM} {m : Nat} (l : MLay h m) {i : Nat} (hi : i < 1952) : zia h (m + 19) (nI i) = some (zI h (m + 19) i) := zia_ok (mk21 l).1 (gIx (mk21 l).2 hi (by decide)).1 (gIx (mk21 l).2 hi (by decide)).2
theorem mw21 {h : zM} {m : Nat} (l : MLay h m) {i : Nat} (hi : i < 1952) (x : Int32) : zis h (m + 19) (nI i) x = some (zsI h (m + 19) i x) := zis_ok (mk21 l).1 (gIx (mk21 l).2 hi (by decide)).1 (gIx (mk21 l).2 hi (by decide)).2
theorem mF22 {h : zM} {m : Nat} (l : MLay h m) : zgF h m 12 22 = some (m + 20) := (zgF_ok l.1).trans (congrArg some (l.2 (22, 20, 101, 32) (by decide)).1)
theorem mk22 {h : zM} {m : Nat} (l : MLay h m) : zK h (m + 20) = 101 ∧ zN h (m + 20) = 32 := (l.2 (22, 20, 101, 32) (by decide)).2
theorem mr22 {h : zM} {m : Nat} (l : MLay h m) {i : Nat} (hi : i < 32) : zia h (m + 20) (nI i) = some (zI h (m + 20) i) := zia_ok (mk22 l).1 (gIx (mk22 l).2 hi (by decide)).1 (gIx (mk22 l).2 hi (by decide)).2
theorem mw22 {h : zM} {m : Nat} (l : MLay h m) {i : Nat} (hi : i < 32) (x : Int32) : zis h (m + 20) (nI i) x = some (zsI h (m + 20) i x) := zis_ok (mk22 l).1 (gIx (mk22 l).2 hi (by decide)).1 (gIx (mk22 l).2 hi (by decide)).2
theorem mF24 {h : zM} {m : Nat} (l : MLay h m) : zgF h m 12 24 = some (m + 21) := (zgF_ok l.1).trans (congrArg some (l.2 (24, 21, 101, 4200) (by decide)).1)
theorem mk24 {h : zM} {m : Nat} (l : MLay h m) : zK h (m + 21) = 101 ∧ zN h (m + 21) = 4200 := (l.2 (24, 21, 101, 4200) (by decide)).2
theorem mr24 {h : zM} {m : Nat} (l : MLay h m) {i : Nat} (hi : i < 4200) : zia h (m + 21) (nI i) = some (zI h (m + 21) i) := zia_ok (mk24 l).1 (gIx (mk24 l).2 hi (by decide)).1 (gIx (mk24 l).2 hi (by decide)).2
theorem mw24 {h : zM} {m : Nat} (l : MLay h m) {i : Nat} (hi : i < 4200) (x : Int32) : zis h (m + 21) (nI i) x = some (zsI h (m + 21) i x) := zis_ok (mk24 l).1 (gIx (mk24 l).2 hi (by decide)).1 (gIx (mk24 l).2 hi (by decide)).2
theorem mF25 {h : zM} {m : Nat} (l : MLay h m) : zgF h m 12 25 = some (m + 22) := (zgF_ok l.1).trans (congrArg some (l.2 (25, 22, 101, 2) (by decide)).1)
theorem mk25 {h : zM} {m : Nat} (l : MLay h m) : zK h (m + 22) = 101 ∧ zN h (m + 22) = 2 := (l.2 (25, 22, 101, 2) (by decide)).2
theorem mr25 {h : zM} {m : Nat} (l : MLay h m) {i : Nat} (hi : i < 2) : zia h (m + 22) (nI i) = some (zI h (m + 22) i) := zia_ok (mk25 l).1 (gIx (mk25 l).2 hi (by decide)).1 (gIx (mk25 l).2 hi (by decide)).2
theorem mw25 {h : zM} {m : Nat} (l : MLay h m) {i : Nat} (hi : i < 2) (x : Int32) : zis h (m + 22) (nI i) x = some (zsI h (m + 22) i x) := zis_ok (mk25 l).1 (gIx (mk25 l).2 hi (by decide)).1 (gIx (mk25 l).2 hi (by decide)).2
theorem mF26 {h : zM} {m : Nat} (l : MLay h m) : zgF h m 12 26 = some (m + 23) := (zgF_ok l.1).trans (congrArg some (l.2 (26, 23, 101, 26000) (by decide)).1)
theorem mk26 {h : zM} {m : Nat} (l : MLay h m) : zK h (m + 23) = 101 ∧ zN h (m + 23) = 26000 := (l.2 (26, 23, 101, 26000) (by decide)).2
theorem mr26 {h : zM} {m : Nat} (l : MLay h m) {i : Nat} (hi : i < 26000) : zia h (m + 23) (nI i) = some (zI h (m + 23) i) := zia_ok (mk26 l).1 (gIx (mk26 l).2 hi (by decide)).1 (gIx (mk26 l).2 hi (by decide)).2
theorem mw26 {h : zM} {m : Nat} (l : MLay h m) {i : Nat} (hi : i < 26000) (x : Int32) : zis h (m + 23) (nI i) x = some (zsI h (m + 23) i x) := zis_ok (mk26 l).1 (gIx (mk26 l).2 hi (by decide)).1 (gIx (mk26 l).2 hi (by decide)).2
theorem mF27 {h : zM} {m : Nat} (l : MLay h m) : zgF h m 12 27 = some (m + 24) := (zgF_ok l.1).trans (congrArg some (l.2 (27, 24, 101, 12) (by decide)).1)
theorem mk27 {h : zM} {m : Nat} (l : MLay h m) : zK h (m + 24) = 101 ∧ zN h (m + 24) = 12 := (l.2 (27, 24, 101, 12) (by decide)).2
theorem mr27 {h : zM} {m : Nat} (l : MLay h m) {i : Nat} (hi : i < 12) : zia h (m + 24) (nI i) = some (zI h (m + 24) i) := zia_ok (mk27 l).1 (gIx (mk27 l).2 hi (by decide)).1 (gIx (mk27 l).2 hi (by decide)).2
theorem mw27 {h : zM} {m : Nat} (l : MLay h m) {i : Nat} (hi : i < 12) (x : Int32) : zis h (m + 24) (nI i) x = some (zsI h (m + 24) i x) := zis_ok (mk27 l).1 (gIx (mk27 l).2 hi (by decide)).1 (gIx (mk27 l).2 hi (by decide)).2
theorem mF28 {h : zM} {m : Nat} (l : MLay h m) : zgF h m 12 28 = some (m + 25) := (zgF_ok l.1).trans (congrArg some (l.2 (28, 25, 101, 12) (by decide)).1)
theorem mk28 {h : zM} {m : Nat} (l : MLay h m) : zK h (m + 25) = 101 ∧ zN h (m + 25) = 12 := (l.2 (28, 25, 101, 12) (by decide)).2
theorem mr28 {h : zM} {m : Nat} (l : MLay h m) {i : Nat} (hi : i < 12) : zia h (m + 25) (nI i) = some (zI h (m + 25) i) := zia_ok (mk28 l).1 (gIx (mk28 l).2 hi (by decide)).1 (gIx (mk28 l).2 hi (by decide)).2
theorem mw28 {h : zM} {m : Nat} (l : MLay h m) {i : Nat} (hi : i < 12) (x : Int32) : zis h (m + 25) (nI i) x = some (zsI h (m + 25) i x) := zis_ok (mk28 l).1 (gIx (mk28 l).2 hi (by decide)).1 (gIx (mk28 l).2 hi (by decide)).2
theorem mF29 {h : zM} {m : Nat} (l : MLay h m) : zgF h m 12 29 = some (m + 26) := (zgF_ok l.1).trans (congrArg some (l.2 (29, 26, 102, 156000) (by decide)).1)
theorem mk29 {h : zM} {m : Nat} (l : MLay h m) : zK h (m + 26) = 102 ∧ zN h (m + 26) = 156000 := (l.2 (29, 26, 102, 156000) (by decide)).2
theorem mr29 {h : zM} {m : Nat} (l : MLay h m) {i : Nat} (hi : i < 156000) : zba h (m + 26) (nI i) = some (zI h (m + 26) i) := zba_ok (Or.inl (mk29 l).1) (gIx (mk29 l).2 hi (by decide)).1 (gIx (mk29 l).2 hi (by decide)).2
theorem mw29 {h : zM} {m : Nat} (l : MLay h m) {i : Nat} (hi : i < 156000) (x : Int32) : zbs h (m + 26) (nI i) x = some (zsI h (m + 26) i x.toInt8.toInt32) := zbs_byte (mk29 l).1 (gIx (mk29 l).2 hi (by decide)).1 (gIx (mk29 l).2 hi (by decide)).2
theorem mF30 {h : zM} {m : Nat} (l : MLay h m) : zgF h m 12 30 = some (m + 27) := (zgF_ok l.1).trans (congrArg some (l.2 (30, 27, 102, 156000) (by decide)).1)
theorem mk30 {h : zM} {m : Nat} (l : MLay h m) : zK h (m + 27) = 102 ∧ zN h (m + 27) = 156000 := (l.2 (30, 27, 102, 156000) (by decide)).2
theorem mr30 {h : zM} {m : Nat} (l : MLay h m) {i : Nat} (hi : i < 156000) : zba h (m + 27) (nI i) = some (zI h (m + 27) i) := zba_ok (Or.inl (mk30 l).1) (gIx (mk30 l).2 hi (by decide)).1 (gIx (mk30 l).2 hi (by decide)).2
theorem mw30 {h : zM} {m : Nat} (l : MLay h m) {i : Nat} (hi : i < 156000) (x : Int32) : zbs h (m + 27) (nI i) x = some (zsI h (m + 27) i x.toInt8.toInt32) := zbs_byte (mk30 l).1 (gIx (mk30 l).2 hi (by decide)).1 (gIx (mk30 l).2 hi (by decide)).2
theorem mF31 {h : zM} {m : Nat} (l : MLay h m) : zgF h m 12 31 = some (m + 28) := (zgF_ok l.1).trans (congrArg some (l.2 (31, 28, 102, 13000) (by decide)).1)
theorem mk31 {h : zM} {m : Nat} (l : MLay h m) : zK h (m + 28) = 102 ∧ zN h (m + 28) = 13000 := (l.2 (31, 28, 102, 13000) (by decide)).2
theorem mr31 {h : zM} {m : Nat} (l : MLay h m) {i : Nat} (hi : i < 13000) : zba h (m + 28) (nI i) = some (zI h (m + 28) i) := zba_ok (Or.inl (mk31 l).1) (gIx (mk31 l).2 hi (by decide)).1 (gIx (mk31 l).2 hi (by decide)).2
theorem mw31 {h : zM} {m : Nat} (l : MLay h m) {i : Nat} (hi : i < 13000) (x : Int32) : zbs h (m + 28) (nI i) x = some (zsI h (m + 28) i x.toInt8.toInt32) := zbs_byte (mk31 l).1 (gIx (mk31 l).2 hi (by decide)).1 (gIx (mk31 l).2 hi (by decide)).2
theorem mF33 {h : zM} {m : Nat} (l : MLay h m) : zgF h m 12 33 = some (m + 29) := (zgF_ok l.1).trans (congrArg some (l.2 (33, 29, 101, 160) (by decide)).1)
theorem mk33 {h : zM} {m : Nat} (l : MLay h m) : zK h (m + 29) = 101 ∧ zN h (m + 29) = 160 := (l.2 (33, 29, 101, 160) (by decide)).2
theorem mr33 {h : zM} {m : Nat} (l : MLay h m) {i : Nat} (hi : i < 160) : zia h (m + 29) (nI i) = some (zI h (m + 29) i) := zia_ok (mk33 l).1 (gIx (mk33 l).2 hi (by decide)).1 (gIx (mk33 l).2 hi (by decide)).2
theorem mw33 {h : zM} {m : Nat} (l : MLay h m) {i : Nat} (hi : i < 160) (x : Int32) : zis h (m + 29) (nI i) x = some (zsI h (m + 29) i x) := zis_ok (mk33 l).1 (gIx (mk33 l).2 hi (by decide)).1 (gIx (mk33 l).2 hi (by decide)).2
theorem mF34 {h : zM} {m : Nat} (l : MLay h m) : zgF h m 12 34 = some (m + 30) := (zgF_ok l.1).trans (congrArg some (l.2 (34, 30, 101, 160) (by decide)).1)
theorem mk34 {h : zM} {m : Nat} (l : MLay h m) : zK h (m + 30) = 101 ∧ zN h (m + 30) = 160 := (l.2 (34, 30, 101, 160) (by decide)).2
theorem mr34 {h : zM} {m : Nat} (l : MLay h m) {i : Nat} (hi : i < 160) : zia h (m + 30) (nI i) = some (zI h (m + 30) i) := zia_ok (mk34 l).1 (gIx (mk34 l).2 hi (by decide)).1 (gIx (mk34 l).2 hi (by decide)).2
theorem mw34 {h : zM} {m : Nat} (l : MLay h m) {i : Nat} (hi : i < 160) (x : Int32) : zis h (m + 30) (nI i) x = some (zsI h (m + 30) i x) := zis_ok (mk34 l).1 (gIx (mk34 l).2 hi (by decide)).1 (gIx (mk34 l).2 hi (by decide)).2
theorem mF35 {h : zM} {m : Nat} (l : MLay h m) : zgF h m 12 35 = some (m + 31) := (zgF_ok l.1).trans (congrArg some (l.2 (35, 31, 101, 160) (by decide)).1)
theorem mk35 {h : zM} {m : Nat} (l : MLay h m) : zK h (m + 31) = 101 ∧ zN h (m + 31) = 160 := (l.2 (35, 31, 101, 160) (by decide)).2
theorem mr35 {h : zM} {m : Nat} (l : MLay h m) {i : Nat} (hi : i < 160) : zia h (m + 31) (nI i) = some (zI h (m + 31) i) := zia_ok (mk35 l).1 (gIx (mk35 l).2 hi (by decide)).1 (gIx (mk35 l).2 hi (by decide)).2
theorem mw35 {h : zM} {m : Nat} (l : MLay h m) {i : Nat} (hi : i < 160) (x : Int32) : zis h (m + 31) (nI i) x = some (zsI h (m + 31) i x) := zis_ok (mk35 l).1 (gIx (mk35 l).2 hi (by decide)).1 (gIx (mk35 l).2 hi (by decide)).2
theorem mF36 {h : zM} {m : Nat} (l : MLay h m) : zgF h m 12 36 = some (m + 32) := (zgF_ok l.1).trans (congrArg some (l.2 (36, 32, 101, 160) (by decide)).1)
theorem mk36 {h : zM} {m : Nat} (l : MLay h m) : zK h (m + 32) = 101 ∧ zN h (m + 32) = 160 := (l.2 (36, 32, 101, 160) (by decide)).2
theorem mr36 {h : zM} {m : Nat} (l : MLay h m) {i : Nat} (hi : i < 160) : zia h (m + 32) (nI i) = some (zI h (m + 32) i) := zia_ok (mk36 l).1 (gIx (mk36 l).2 hi (by decide)).1 (gIx (mk36 l).2 hi (by decide)).2
theorem mw36 {h : zM} {m : Nat} (l : MLay h m) {i : Nat} (hi : i < 160) (x : Int32) : zis h (m + 32) (nI i) x = some (zsI h (m + 32) i x) := zis_ok (mk36 l).1 (gIx (mk36 l).2 hi (by decide)).1 (gIx (mk36 l).2 hi (by decide)).2
theorem mF37 {h : zM} {m : Nat} (l : MLay h m) : zgF h m 12 37 = some (m + 33) := (zgF_ok l.1).trans (congrArg some (l.2 (37, 33, 102, 96000) (by decide)).1)
theorem mk37 {h : zM} {m : Nat} (l : MLay h m) : zK h (m + 33) = 102 ∧ zN h (m + 33) = 96000 := (l.2 (37, 33, 102, 96000) (by decide)).2
theorem mr37 {h : zM} {m : Nat} (l : MLay h m) {i : Nat} (hi : i < 96000) : zba h (m + 33) (nI i) = some (zI h (m + 33) i) := zba_ok (Or.inl (mk37 l).1) (gIx (mk37 l).2 hi (by decide)).1 (gIx (mk37 l).2 hi (by decide)).2
theorem mw37 {h : zM} {m : Nat} (l : MLay h m) {i : Nat} (hi : i < 96000) (x : Int32) : zbs h (m + 33) (nI i) x = some (zsI h (m + 33) i x.toInt8.toInt32) := zbs_byte (mk37 l).1 (gIx (mk37 l).2 hi (by decide)).1 (gIx (mk37 l).2 hi (by decide)).2
theorem mF38 {h : zM} {m : Nat} (l : MLay h m) : zgF h m 12 38 = some (m + 34) := (zgF_ok l.1).trans (congrArg some (l.2 (38, 34, 101, 160) (by decide)).1)
theorem mk38 {h : zM} {m : Nat} (l : MLay h m) : zK h (m + 34) = 101 ∧ zN h (m + 34) = 160 := (l.2 (38, 34, 101, 160) (by decide)).2
theorem mr38 {h : zM} {m : Nat} (l : MLay h m) {i : Nat} (hi : i < 160) : zia h (m + 34) (nI i) = some (zI h (m + 34) i) := zia_ok (mk38 l).1 (gIx (mk38 l).2 hi (by decide)).1 (gIx (mk38 l).2 hi (by decide)).2
theorem mw38 {h : zM} {m : Nat} (l : MLay h m) {i : Nat} (hi : i < 160) (x : Int32) : zis h (m + 34) (nI i) x = some (zsI h (m + 34) i x) := zis_ok (mk38 l).1 (gIx (mk38 l).2 hi (by decide)).1 (gIx (mk38 l).2 hi (by decide)).2
theorem mF39 {h : zM} {m : Nat} (l : MLay h m) : zgF h m 12 39 = some (m + 35) := (zgF_ok l.1).trans (congrArg some (l.2 (39, 35, 101, 160) (by decide)).1)
theorem mk39 {h : zM} {m : Nat} (l : MLay h m) : zK h (m + 35) = 101 ∧ zN h (m + 35) = 160 := (l.2 (39, 35, 101, 160) (by decide)).2
theorem mr39 {h : zM} {m : Nat} (l : MLay h m) {i : Nat} (hi : i < 160) : zia h (m + 35) (nI i) = some (zI h (m + 35) i) := zia_ok (mk39 l).1 (gIx (mk39 l).2 hi (by decide)).1 (gIx (mk39 l).2 hi (by decide)).2
theorem mw39 {h : zM} {m : Nat} (l : MLay h m) {i : Nat} (hi : i < 160) (x : Int32) : zis h (m + 35) (nI i) x = some (zsI h (m + 35) i x) := zis_ok (mk39 l).1 (gIx (mk39 l).2 hi (by decide)).1 (gIx (mk39 l).2 hi (by decide)).2
theorem mF40 {h : zM} {m : Nat} (l : MLay h m) : zgF h m 12 40 = some (m + 36) := (zgF_ok l.1).trans (congrArg some (l.2 (40, 36, 101, 160) (by decide)).1)
theorem mk40 {h : zM} {m : Nat} (l : MLay h m) : zK h (m + 36) = 101 ∧ zN h (m + 36) = 160 := (l.2 (40, 36, 101, 160) (by decide)).2
theorem mr40 {h : zM} {m : Nat} (l : MLay h m) {i : Nat} (hi : i < 160) : zia h (m + 36) (nI i) = some (zI h (m + 36) i) := zia_ok (mk40 l).1 (gIx (mk40 l).2 hi (by decide)).1 (gIx (mk40 l).2 hi (by decide)).2
theorem mw40 {h : zM} {m : Nat} (l : MLay h m) {i : Nat} (hi : i < 160) (x : Int32) : zis h (m + 36) (nI i) x = some (zsI h (m + 36) i x) := zis_ok (mk40 l).1 (gIx (mk40 l).2 hi (by decide)).1 (gIx (mk40 l).2 hi (by decide)).2
theorem mF41 {h : zM} {m : Nat} (l : MLay h m) : zgF h m 12 41 = some (m + 37) := (zgF_ok l.1).trans (congrArg some (l.2 (41, 37, 103, 36) (by decide)).1)
theorem mk41 {h : zM} {m : Nat} (l : MLay h m) : zK h (m + 37) = 103 ∧ zN h (m + 37) = 36 := (l.2 (41, 37, 103, 36) (by decide)).2
theorem mr41 {h : zM} {m : Nat} (l : MLay h m) {i : Nat} (hi : i < 36) : zba h (m + 37) (nI i) = some (zI h (m + 37) i) := zba_ok (Or.inr (mk41 l).1) (gIx (mk41 l).2 hi (by decide)).1 (gIx (mk41 l).2 hi (by decide)).2
theorem mw41 {h : zM} {m : Nat} (l : MLay h m) {i : Nat} (hi : i < 36) {x : Int32} (hx : x = 0 ∨ x = 1) : zbs h (m + 37) (nI i) x = some (zsI h (m + 37) i x) := zbs_ok (mk41 l).1 (gIx (mk41 l).2 hi (by decide)).1 (gIx (mk41 l).2 hi (by decide)).2 hx
theorem mF42 {h : zM} {m : Nat} (l : MLay h m) : zgF h m 12 42 = some (m + 38) := (zgF_ok l.1).trans (congrArg some (l.2 (42, 38, 101, 36) (by decide)).1)
theorem mk42 {h : zM} {m : Nat} (l : MLay h m) : zK h (m + 38) = 101 ∧ zN h (m + 38) = 36 := (l.2 (42, 38, 101, 36) (by decide)).2
theorem mr42 {h : zM} {m : Nat} (l : MLay h m) {i : Nat} (hi : i < 36) : zia h (m + 38) (nI i) = some (zI h (m + 38) i) := zia_ok (mk42 l).1 (gIx (mk42 l).2 hi (by decide)).1 (gIx (mk42 l).2 hi (by decide)).2
theorem mw42 {h : zM} {m : Nat} (l : MLay h m) {i : Nat} (hi : i < 36) (x : Int32) : zis h (m + 38) (nI i) x = some (zsI h (m + 38) i x) := zis_ok (mk42 l).1 (gIx (mk42 l).2 hi (by decide)).1 (gIx (mk42 l).2 hi (by decide)).2
theorem mF43 {h : zM} {m : Nat} (l : MLay h m) : zgF h m 12 43 = some (m + 39) := (zgF_ok l.1).trans (congrArg some (l.2 (43, 39, 101, 640) (by decide)).1)
theorem mk43 {h : zM} {m : Nat} (l : MLay h m) : zK h (m + 39) = 101 ∧ zN h (m + 39) = 640 := (l.2 (43, 39, 101, 640) (by decide)).2
theorem mr43 {h : zM} {m : Nat} (l : MLay h m) {i : Nat} (hi : i < 640) : zia h (m + 39) (nI i) = some (zI h (m + 39) i) := zia_ok (mk43 l).1 (gIx (mk43 l).2 hi (by decide)).1 (gIx (mk43 l).2 hi (by decide)).2
theorem mw43 {h : zM} {m : Nat} (l : MLay h m) {i : Nat} (hi : i < 640) (x : Int32) : zis h (m + 39) (nI i) x = some (zsI h (m + 39) i x) := zis_ok (mk43 l).1 (gIx (mk43 l).2 hi (by decide)).1 (gIx (mk43 l).2 hi (by decide)).2
theorem mF44 {h : zM} {m : Nat} (l : MLay h m) : zgF h m 12 44 = some (m + 40) := (zgF_ok l.1).trans (congrArg some (l.2 (44, 40, 101, 640) (by decide)).1)
theorem mk44 {h : zM} {m : Nat} (l : MLay h m) : zK h (m + 40) = 101 ∧ zN h (m + 40) = 640 := (l.2 (44, 40, 101, 640) (by decide)).2
theorem mr44 {h : zM} {m : Nat} (l : MLay h m) {i : Nat} (hi : i < 640) : zia h (m + 40) (nI i) = some (zI h (m + 40) i) := zia_ok (mk44 l).1 (gIx (mk44 l).2 hi (by decide)).1 (gIx (mk44 l).2 hi (by decide)).2
theorem mw44 {h : zM} {m : Nat} (l : MLay h m) {i : Nat} (hi : i < 640) (x : Int32) : zis h (m + 40) (nI i) x = some (zsI h (m + 40) i x) := zis_ok (mk44 l).1 (gIx (mk44 l).2 hi (by decide)).1 (gIx (mk44 l).2 hi (by decide)).2
theorem mF49 {h : zM} {m : Nat} (l : MLay h m) : zgF h m 12 49 = some (m + 41) := (zgF_ok l.1).trans (congrArg some (l.2 (49, 41, 101, 4096) (by decide)).1)
theorem mk49 {h : zM} {m : Nat} (l : MLay h m) : zK h (m + 41) = 101 ∧ zN h (m + 41) = 4096 := (l.2 (49, 41, 101, 4096) (by decide)).2
theorem mr49 {h : zM} {m : Nat} (l : MLay h m) {i : Nat} (hi : i < 4096) : zia h (m + 41) (nI i) = some (zI h (m + 41) i) := zia_ok (mk49 l).1 (gIx (mk49 l).2 hi (by decide)).1 (gIx (mk49 l).2 hi (by decide)).2
theorem mw49 {h : zM} {m : Nat} (l : MLay h m) {i : Nat} (hi : i < 4096) (x : Int32) : zis h (m + 41) (nI i) x = some (zsI h (m + 41) i x) := zis_ok (mk49 l).1 (gIx (mk49 l).2 hi (by decide)).1 (gIx (mk49 l).2 hi (by decide)).2
theorem mF50 {h : zM} {m : Nat} (l : MLay h m) : zgF h m 12 50 = some (m + 42) := (zgF_ok l.1).trans (congrArg some (l.2 (50, 42, 101, 4096) (by decide)).1)
theorem mk50 {h : zM} {m : Nat} (l : MLay h m) : zK h (m + 42) = 101 ∧ zN h (m + 42) = 4096 := (l.2 (50, 42, 101, 4096) (by decide)).2
theorem mr50 {h : zM} {m : Nat} (l : MLay h m) {i : Nat} (hi : i < 4096) : zia h (m + 42) (nI i) = some (zI h (m + 42) i) := zia_ok (mk50 l).1 (gIx (mk50 l).2 hi (by decide)).1 (gIx (mk50 l).2 hi (by decide)).2
theorem mw50 {h : zM} {m : Nat} (l : MLay h m) {i : Nat} (hi : i < 4096) (x : Int32) : zis h (m + 42) (nI i) x = some (zsI h (m + 42) i x) := zis_ok (mk50 l).1 (gIx (mk50 l).2 hi (by decide)).1 (gIx (mk50 l).2 hi (by decide)).2
theorem mF51 {h : zM} {m : Nat} (l : MLay h m) : zgF h m 12 51 = some (m + 43) := (zgF_ok l.1).trans (congrArg some (l.2 (51, 43, 101, 4096) (by decide)).1)
theorem mk51 {h : zM} {m : Nat} (l : MLay h m) : zK h (m + 43) = 101 ∧ zN h (m + 43) = 4096 := (l.2 (51, 43, 101, 4096) (by decide)).2
theorem mr51 {h : zM} {m : Nat} (l : MLay h m) {i : Nat} (hi : i < 4096) : zia h (m + 43) (nI i) = some (zI h (m + 43) i) := zia_ok (mk51 l).1 (gIx (mk51 l).2 hi (by decide)).1 (gIx (mk51 l).2 hi (by decide)).2
theorem mw51 {h : zM} {m : Nat} (l : MLay h m) {i : Nat} (hi : i < 4096) (x : Int32) : zis h (m + 43) (nI i) x = some (zsI h (m + 43) i x) := zis_ok (mk51 l).1 (gIx (mk51 l).2 hi (by decide)).1 (gIx (mk51 l).2 hi (by decide)).2
theorem mF52 {h : zM} {m : Nat} (l : MLay h m) : zgF h m 12 52 = some (m + 44) := (zgF_ok l.1).trans (congrArg some (l.2 (52, 44, 103, 4096) (by decide)).1)
theorem mk52 {h : zM} {m : Nat} (l : MLay h m) : zK h (m + 44) = 103 ∧ zN h (m + 44) = 4096 := (l.2 (52, 44, 103, 4096) (by decide)).2
theorem mr52 {h : zM} {m : Nat} (l : MLay h m) {i : Nat} (hi : i < 4096) : zba h (m + 44) (nI i) = some (zI h (m + 44) i) := zba_ok (Or.inr (mk52 l).1) (gIx (mk52 l).2 hi (by decide)).1 (gIx (mk52 l).2 hi (by decide)).2
theorem mw52 {h : zM} {m : Nat} (l : MLay h m) {i : Nat} (hi : i < 4096) {x : Int32} (hx : x = 0 ∨ x = 1) : zbs h (m + 44) (nI i) x = some (zsI h (m + 44) i x) := zbs_ok (mk52 l).1 (gIx (mk52 l).2 hi (by decide)).1 (gIx (mk52 l).2 hi (by decide)).2 hx
theorem mF53 {h : zM} {m : Nat} (l : MLay h m) : zgF h m 12 53 = some (m + 45) := (zgF_ok l.1).trans (congrArg some (l.2 (53, 45, 101, 4200) (by decide)).1)
theorem mk53 {h : zM} {m : Nat} (l : MLay h m) : zK h (m + 45) = 101 ∧ zN h (m + 45) = 4200 := (l.2 (53, 45, 101, 4200) (by decide)).2
theorem mr53 {h : zM} {m : Nat} (l : MLay h m) {i : Nat} (hi : i < 4200) : zia h (m + 45) (nI i) = some (zI h (m + 45) i) := zia_ok (mk53 l).1 (gIx (mk53 l).2 hi (by decide)).1 (gIx (mk53 l).2 hi (by decide)).2
theorem mw53 {h : zM} {m : Nat} (l : MLay h m) {i : Nat} (hi : i < 4200) (x : Int32) : zis h (m + 45) (nI i) x = some (zsI h (m + 45) i x) := zis_ok (mk53 l).1 (gIx (mk53 l).2 hi (by decide)).1 (gIx (mk53 l).2 hi (by decide)).2
theorem mF55 {h : zM} {m : Nat} (l : MLay h m) : zgF h m 12 55 = some (m + 46) := (zgF_ok l.1).trans (congrArg some (l.2 (55, 46, 101, 1002) (by decide)).1)
theorem mk55 {h : zM} {m : Nat} (l : MLay h m) : zK h (m + 46) = 101 ∧ zN h (m + 46) = 1002 := (l.2 (55, 46, 101, 1002) (by decide)).2
theorem mr55 {h : zM} {m : Nat} (l : MLay h m) {i : Nat} (hi : i < 1002) : zia h (m + 46) (nI i) = some (zI h (m + 46) i) := zia_ok (mk55 l).1 (gIx (mk55 l).2 hi (by decide)).1 (gIx (mk55 l).2 hi (by decide)).2
theorem mw55 {h : zM} {m : Nat} (l : MLay h m) {i : Nat} (hi : i < 1002) (x : Int32) : zis h (m + 46) (nI i) x = some (zsI h (m + 46) i x) := zis_ok (mk55 l).1 (gIx (mk55 l).2 hi (by decide)).1 (gIx (mk55 l).2 hi (by decide)).2
theorem mF56 {h : zM} {m : Nat} (l : MLay h m) : zgF h m 12 56 = some (m + 47) := (zgF_ok l.1).trans (congrArg some (l.2 (56, 47, 101, 1002) (by decide)).1)
theorem mk56 {h : zM} {m : Nat} (l : MLay h m) : zK h (m + 47) = 101 ∧ zN h (m + 47) = 1002 := (l.2 (56, 47, 101, 1002) (by decide)).2
theorem mr56 {h : zM} {m : Nat} (l : MLay h m) {i : Nat} (hi : i < 1002) : zia h (m + 47) (nI i) = some (zI h (m + 47) i) := zia_ok (mk56 l).1 (gIx (mk56 l).2 hi (by decide)).1 (gIx (mk56 l).2 hi (by decide)).2
theorem mw56 {h : zM} {m : Nat} (l : MLay h m) {i : Nat} (hi : i < 1002) (x : Int32) : zis h (m + 47) (nI i) x = some (zsI h (m + 47) i x) := zis_ok (mk56 l).1 (gIx (mk56 l).2 hi (by decide)).1 (gIx (mk56 l).2 hi (by decide)).2
theorem mF57 {h : zM} {m : Nat} (l : MLay h m) : zgF h m 12 57 = some (m + 48) := (zgF_ok l.1).trans (congrArg some (l.2 (57, 48, 101, 1002) (by decide)).1)
theorem mk57 {h : zM} {m : Nat} (l : MLay h m) : zK h (m + 48) = 101 ∧ zN h (m + 48) = 1002 := (l.2 (57, 48, 101, 1002) (by decide)).2
theorem mr57 {h : zM} {m : Nat} (l : MLay h m) {i : Nat} (hi : i < 1002) : zia h (m + 48) (nI i) = some (zI h (m + 48) i) := zia_ok (mk57 l).1 (gIx (mk57 l).2 hi (by decide)).1 (gIx (mk57 l).2 hi (by decide)).2
theorem mw57 {h : zM} {m : Nat} (l : MLay h m) {i : Nat} (hi : i < 1002) (x : Int32) : zis h (m + 48) (nI i) x = some (zsI h (m + 48) i x) := zis_ok (mk57 l).1 (gIx (mk57 l).2 hi (by decide)).1 (gIx (mk57 l).2 hi (by decide)).2
theorem mF58 {h : zM} {m : Nat} (l : MLay h m) : zgF h m 12 58 = some (m + 49) := (zgF_ok l.1).trans (congrArg some (l.2 (58, 49, 102, 224448) (by decide)).1)
theorem mk58 {h : zM} {m : Nat} (l : MLay h m) : zK h (m + 49) = 102 ∧ zN h (m + 49) = 224448 := (l.2 (58, 49, 102, 224448) (by decide)).2
theorem mr58 {h : zM} {m : Nat} (l : MLay h m) {i : Nat} (hi : i < 224448) : zba h (m + 49) (nI i) = some (zI h (m + 49) i) := zba_ok (Or.inl (mk58 l).1) (gIx (mk58 l).2 hi (by decide)).1 (gIx (mk58 l).2 hi (by decide)).2
theorem mw58 {h : zM} {m : Nat} (l : MLay h m) {i : Nat} (hi : i < 224448) (x : Int32) : zbs h (m + 49) (nI i) x = some (zsI h (m + 49) i x.toInt8.toInt32) := zbs_byte (mk58 l).1 (gIx (mk58 l).2 hi (by decide)).1 (gIx (mk58 l).2 hi (by decide)).2
theorem mF63 {h : zM} {m : Nat} (l : MLay h m) : zgF h m 12 63 = some (m + 50) := (zgF_ok l.1).trans (congrArg some (l.2 (63, 50, 101, 5) (by decide)).1)
theorem mk63 {h : zM} {m : Nat} (l : MLay h m) : zK h (m + 50) = 101 ∧ zN h (m + 50) = 5 := (l.2 (63, 50, 101, 5) (by decide)).2
theorem mr63 {h : zM} {m : Nat} (l : MLay h m) {i : Nat} (hi : i < 5) : zia h (m + 50) (nI i) = some (zI h (m + 50) i) := zia_ok (mk63 l).1 (gIx (mk63 l).2 hi (by decide)).1 (gIx (mk63 l).2 hi (by decide)).2
theorem mw63 {h : zM} {m : Nat} (l : MLay h m) {i : Nat} (hi : i < 5) (x : Int32) : zis h (m + 50) (nI i) x = some (zsI h (m + 50) i x) := zis_ok (mk63 l).1 (gIx (mk63 l).2 hi (by decide)).1 (gIx (mk63 l).2 hi (by decide)).2
theorem mF65 {h : zM} {m : Nat} (l : MLay h m) : zgF h m 12 65 = some (m + 51) := (zgF_ok l.1).trans (congrArg some (l.2 (65, 51, 101, 606) (by decide)).1)
theorem mk65 {h : zM} {m : Nat} (l : MLay h m) : zK h (m + 51) = 101 ∧ zN h (m + 51) = 606 := (l.2 (65, 51, 101, 606) (by decide)).2
theorem mr65 {h : zM} {m : Nat} (l : MLay h m) {i : Nat} (hi : i < 606) : zia h (m + 51) (nI i) = some (zI h (m + 51) i) := zia_ok (mk65 l).1 (gIx (mk65 l).2 hi (by decide)).1 (gIx (mk65 l).2 hi (by decide)).2
theorem mw65 {h : zM} {m : Nat} (l : MLay h m) {i : Nat} (hi : i < 606) (x : Int32) : zis h (m + 51) (nI i) x = some (zsI h (m + 51) i x) := zis_ok (mk65 l).1 (gIx (mk65 l).2 hi (by decide)).1 (gIx (mk65 l).2 hi (by decide)).2
theorem mF66 {h : zM} {m : Nat} (l : MLay h m) : zgF h m 12 66 = some (m + 52) := (zgF_ok l.1).trans (congrArg some (l.2 (66, 52, 102, 72720) (by decide)).1)
theorem mk66 {h : zM} {m : Nat} (l : MLay h m) : zK h (m + 52) = 102 ∧ zN h (m + 52) = 72720 := (l.2 (66, 52, 102, 72720) (by decide)).2
theorem mr66 {h : zM} {m : Nat} (l : MLay h m) {i : Nat} (hi : i < 72720) : zba h (m + 52) (nI i) = some (zI h (m + 52) i) := zba_ok (Or.inl (mk66 l).1) (gIx (mk66 l).2 hi (by decide)).1 (gIx (mk66 l).2 hi (by decide)).2
theorem mw66 {h : zM} {m : Nat} (l : MLay h m) {i : Nat} (hi : i < 72720) (x : Int32) : zbs h (m + 52) (nI i) x = some (zsI h (m + 52) i x.toInt8.toInt32) := zbs_byte (mk66 l).1 (gIx (mk66 l).2 hi (by decide)).1 (gIx (mk66 l).2 hi (by decide)).2
theorem mF67 {h : zM} {m : Nat} (l : MLay h m) : zgF h m 12 67 = some (m + 53) := (zgF_ok l.1).trans (congrArg some (l.2 (67, 53, 101, 400) (by decide)).1)
theorem mk67 {h : zM} {m : Nat} (l : MLay h m) : zK h (m + 53) = 101 ∧ zN h (m + 53) = 400 := (l.2 (67, 53, 101, 400) (by decide)).2
theorem mr67 {h : zM} {m : Nat} (l : MLay h m) {i : Nat} (hi : i < 400) : zia h (m + 53) (nI i) = some (zI h (m + 53) i) := zia_ok (mk67 l).1 (gIx (mk67 l).2 hi (by decide)).1 (gIx (mk67 l).2 hi (by decide)).2
theorem mw67 {h : zM} {m : Nat} (l : MLay h m) {i : Nat} (hi : i < 400) (x : Int32) : zis h (m + 53) (nI i) x = some (zsI h (m + 53) i x) := zis_ok (mk67 l).1 (gIx (mk67 l).2 hi (by decide)).1 (gIx (mk67 l).2 hi (by decide)).2
theorem mF68 {h : zM} {m : Nat} (l : MLay h m) : zgF h m 12 68 = some (m + 54) := (zgF_ok l.1).trans (congrArg some (l.2 (68, 54, 101, 400) (by decide)).1)
theorem mk68 {h : zM} {m : Nat} (l : MLay h m) : zK h (m + 54) = 101 ∧ zN h (m + 54) = 400 := (l.2 (68, 54, 101, 400) (by decide)).2
theorem mr68 {h : zM} {m : Nat} (l : MLay h m) {i : Nat} (hi : i < 400) : zia h (m + 54) (nI i) = some (zI h (m + 54) i) := zia_ok (mk68 l).1 (gIx (mk68 l).2 hi (by decide)).1 (gIx (mk68 l).2 hi (by decide)).2
theorem mw68 {h : zM} {m : Nat} (l : MLay h m) {i : Nat} (hi : i < 400) (x : Int32) : zis h (m + 54) (nI i) x = some (zsI h (m + 54) i x) := zis_ok (mk68 l).1 (gIx (mk68 l).2 hi (by decide)).1 (gIx (mk68 l).2 hi (by decide)).2
theorem mF69 {h : zM} {m : Nat} (l : MLay h m) : zgF h m 12 69 = some (m + 55) := (zgF_ok l.1).trans (congrArg some (l.2 (69, 55, 102, 104000) (by decide)).1)
theorem mk69 {h : zM} {m : Nat} (l : MLay h m) : zK h (m + 55) = 102 ∧ zN h (m + 55) = 104000 := (l.2 (69, 55, 102, 104000) (by decide)).2
theorem mr69 {h : zM} {m : Nat} (l : MLay h m) {i : Nat} (hi : i < 104000) : zba h (m + 55) (nI i) = some (zI h (m + 55) i) := zba_ok (Or.inl (mk69 l).1) (gIx (mk69 l).2 hi (by decide)).1 (gIx (mk69 l).2 hi (by decide)).2
theorem mw69 {h : zM} {m : Nat} (l : MLay h m) {i : Nat} (hi : i < 104000) (x : Int32) : zbs h (m + 55) (nI i) x = some (zsI h (m + 55) i x.toInt8.toInt32) := zbs_byte (mk69 l).1 (gIx (mk69 l).2 hi (by decide)).1 (gIx (mk69 l).2 hi (by decide)).2
theorem mF70 {h : zM} {m : Nat} (l : MLay h m) : zgF h m 12 70 = some (m + 56) := (zgF_ok l.1).trans (congrArg some (l.2 (70, 56, 101, 6) (by decide)).1)
theorem mk70 {h : zM} {m : Nat} (l : MLay h m) : zK h (m + 56) = 101 ∧ zN h (m + 56) = 6 := (l.2 (70, 56, 101, 6) (by decide)).2
theorem mr70 {h : zM} {m : Nat} (l : MLay h m) {i : Nat} (hi : i < 6) : zia h (m + 56) (nI i) = some (zI h (m + 56) i) := zia_ok (mk70 l).1 (gIx (mk70 l).2 hi (by decide)).1 (gIx (mk70 l).2 hi (by decide)).2
theorem mw70 {h : zM} {m : Nat} (l : MLay h m) {i : Nat} (hi : i < 6) (x : Int32) : zis h (m + 56) (nI i) x = some (zsI h (m + 56) i x) := zis_ok (mk70 l).1 (gIx (mk70 l).2 hi (by decide)).1 (gIx (mk70 l).2 hi (by decide)).2
theorem mF71 {h : zM} {m : Nat} (l : MLay h m) : zgF h m 12 71 = some (m + 57) := (zgF_ok l.1).trans (congrArg some (l.2 (71, 57, 102, 720) (by decide)).1)
theorem mk71 {h : zM} {m : Nat} (l : MLay h m) : zK h (m + 57) = 102 ∧ zN h (m + 57) = 720 := (l.2 (71, 57, 102, 720) (by decide)).2
theorem mr71 {h : zM} {m : Nat} (l : MLay h m) {i : Nat} (hi : i < 720) : zba h (m + 57) (nI i) = some (zI h (m + 57) i) := zba_ok (Or.inl (mk71 l).1) (gIx (mk71 l).2 hi (by decide)).1 (gIx (mk71 l).2 hi (by decide)).2
theorem mw71 {h : zM} {m : Nat} (l : MLay h m) {i : Nat} (hi : i < 720) (x : Int32) : zbs h (m + 57) (nI i) x = some (zsI h (m + 57) i x.toInt8.toInt32) := zbs_byte (mk71 l).1 (gIx (mk71 l).2 hi (by decide)).1 (gIx (mk71 l).2 hi (by decide)).2
theorem mF72 {h : zM} {m : Nat} (l : MLay h m) : zgF h m 12 72 = some (m + 58) := (zgF_ok l.1).trans (congrArg some (l.2 (72, 58, 101, 101) (by decide)).1)
theorem mk72 {h : zM} {m : Nat} (l : MLay h m) : zK h (m + 58) = 101 ∧ zN h (m + 58) = 101 := (l.2 (72, 58, 101, 101) (by decide)).2
theorem mr72 {h : zM} {m : Nat} (l : MLay h m) {i : Nat} (hi : i < 101) : zia h (m + 58) (nI i) = some (zI h (m + 58) i) := zia_ok (mk72 l).1 (gIx (mk72 l).2 hi (by decide)).1 (gIx (mk72 l).2 hi (by decide)).2
theorem mw72 {h : zM} {m : Nat} (l : MLay h m) {i : Nat} (hi : i < 101) (x : Int32) : zis h (m + 58) (nI i) x = some (zsI h (m + 58) i x) := zis_ok (mk72 l).1 (gIx (mk72 l).2 hi (by decide)).1 (gIx (mk72 l).2 hi (by decide)).2
theorem mF73 {h : zM} {m : Nat} (l : MLay h m) : zgF h m 12 73 = some (m + 59) := (zgF_ok l.1).trans (congrArg some (l.2 (73, 59, 102, 26260) (by decide)).1)
theorem mk73 {h : zM} {m : Nat} (l : MLay h m) : zK h (m + 59) = 102 ∧ zN h (m + 59) = 26260 := (l.2 (73, 59, 102, 26260) (by decide)).2
theorem mr73 {h : zM} {m : Nat} (l : MLay h m) {i : Nat} (hi : i < 26260) : zba h (m + 59) (nI i) = some (zI h (m + 59) i) := zba_ok (Or.inl (mk73 l).1) (gIx (mk73 l).2 hi (by decide)).1 (gIx (mk73 l).2 hi (by decide)).2
theorem mw73 {h : zM} {m : Nat} (l : MLay h m) {i : Nat} (hi : i < 26260) (x : Int32) : zbs h (m + 59) (nI i) x = some (zsI h (m + 59) i x.toInt8.toInt32) := zbs_byte (mk73 l).1 (gIx (mk73 l).2 hi (by decide)).1 (gIx (mk73 l).2 hi (by decide)).2
theorem mF75 {h : zM} {m : Nat} (l : MLay h m) : zgF h m 12 75 = some (m + 60) := (zgF_ok l.1).trans (congrArg some (l.2 (75, 60, 101, 101) (by decide)).1)
theorem mk75 {h : zM} {m : Nat} (l : MLay h m) : zK h (m + 60) = 101 ∧ zN h (m + 60) = 101 := (l.2 (75, 60, 101, 101) (by decide)).2
theorem mr75 {h : zM} {m : Nat} (l : MLay h m) {i : Nat} (hi : i < 101) : zia h (m + 60) (nI i) = some (zI h (m + 60) i) := zia_ok (mk75 l).1 (gIx (mk75 l).2 hi (by decide)).1 (gIx (mk75 l).2 hi (by decide)).2
theorem mw75 {h : zM} {m : Nat} (l : MLay h m) {i : Nat} (hi : i < 101) (x : Int32) : zis h (m + 60) (nI i) x = some (zsI h (m + 60) i x) := zis_ok (mk75 l).1 (gIx (mk75 l).2 hi (by decide)).1 (gIx (mk75 l).2 hi (by decide)).2
theorem mF76 {h : zM} {m : Nat} (l : MLay h m) : zgF h m 12 76 = some (m + 61) := (zgF_ok l.1).trans (congrArg some (l.2 (76, 61, 102, 52520) (by decide)).1)
theorem mk76 {h : zM} {m : Nat} (l : MLay h m) : zK h (m + 61) = 102 ∧ zN h (m + 61) = 52520 := (l.2 (76, 61, 102, 52520) (by decide)).2
theorem mr76 {h : zM} {m : Nat} (l : MLay h m) {i : Nat} (hi : i < 52520) : zba h (m + 61) (nI i) = some (zI h (m + 61) i) := zba_ok (Or.inl (mk76 l).1) (gIx (mk76 l).2 hi (by decide)).1 (gIx (mk76 l).2 hi (by decide)).2
theorem mw76 {h : zM} {m : Nat} (l : MLay h m) {i : Nat} (hi : i < 52520) (x : Int32) : zbs h (m + 61) (nI i) x = some (zsI h (m + 61) i x.toInt8.toInt32) := zbs_byte (mk76 l).1 (gIx (mk76 l).2 hi (by decide)).1 (gIx (mk76 l).2 hi (by decide)).2
theorem mF77 {h : zM} {m : Nat} (l : MLay h m) : zgF h m 12 77 = some (m + 62) := (zgF_ok l.1).trans (congrArg some (l.2 (77, 62, 102, 1040) (by decide)).1)
theorem mk77 {h : zM} {m : Nat} (l : MLay h m) : zK h (m + 62) = 102 ∧ zN h (m + 62) = 1040 := (l.2 (77, 62, 102, 1040) (by decide)).2
theorem mr77 {h : zM} {m : Nat} (l : MLay h m) {i : Nat} (hi : i < 1040) : zba h (m + 62) (nI i) = some (zI h (m + 62) i) := zba_ok (Or.inl (mk77 l).1) (gIx (mk77 l).2 hi (by decide)).1 (gIx (mk77 l).2 hi (by decide)).2
theorem mw77 {h : zM} {m : Nat} (l : MLay h m) {i : Nat} (hi : i < 1040) (x : Int32) : zbs h (m + 62) (nI i) x = some (zsI h (m + 62) i x.toInt8.toInt32) := zbs_byte (mk77 l).1 (gIx (mk77 l).2 hi (by decide)).1 (gIx (mk77 l).2 hi (by decide)).2
theorem mF80 {h : zM} {m : Nat} (l : MLay h m) : zgF h m 12 80 = some (m + 63) := (zgF_ok l.1).trans (congrArg some (l.2 (80, 63, 101, 404) (by decide)).1)
theorem mk80 {h : zM} {m : Nat} (l : MLay h m) : zK h (m + 63) = 101 ∧ zN h (m + 63) = 404 := (l.2 (80, 63, 101, 404) (by decide)).2
theorem mr80 {h : zM} {m : Nat} (l : MLay h m) {i : Nat} (hi : i < 404) : zia h (m + 63) (nI i) = some (zI h (m + 63) i) := zia_ok (mk80 l).1 (gIx (mk80 l).2 hi (by decide)).1 (gIx (mk80 l).2 hi (by decide)).2
theorem mw80 {h : zM} {m : Nat} (l : MLay h m) {i : Nat} (hi : i < 404) (x : Int32) : zis h (m + 63) (nI i) x = some (zsI h (m + 63) i x) := zis_ok (mk80 l).1 (gIx (mk80 l).2 hi (by decide)).1 (gIx (mk80 l).2 hi (by decide)).2
theorem mF81 {h : zM} {m : Nat} (l : MLay h m) : zgF h m 12 81 = some (m + 64) := (zgF_ok l.1).trans (congrArg some (l.2 (81, 64, 101, 404) (by decide)).1)
theorem mk81 {h : zM} {m : Nat} (l : MLay h m) : zK h (m + 64) = 101 ∧ zN h (m + 64) = 404 := (l.2 (81, 64, 101, 404) (by decide)).2
theorem mr81 {h : zM} {m : Nat} (l : MLay h m) {i : Nat} (hi : i < 404) : zia h (m + 64) (nI i) = some (zI h (m + 64) i) := zia_ok (mk81 l).1 (gIx (mk81 l).2 hi (by decide)).1 (gIx (mk81 l).2 hi (by decide)).2
theorem mw81 {h : zM} {m : Nat} (l : MLay h m) {i : Nat} (hi : i < 404) (x : Int32) : zis h (m + 64) (nI i) x = some (zsI h (m + 64) i x) := zis_ok (mk81 l).1 (gIx (mk81 l).2 hi (by decide)).1 (gIx (mk81 l).2 hi (by decide)).2
theorem mF82 {h : zM} {m : Nat} (l : MLay h m) : zgF h m 12 82 = some (m + 65) := (zgF_ok l.1).trans (congrArg some (l.2 (82, 65, 102, 315120) (by decide)).1)
theorem mk82 {h : zM} {m : Nat} (l : MLay h m) : zK h (m + 65) = 102 ∧ zN h (m + 65) = 315120 := (l.2 (82, 65, 102, 315120) (by decide)).2
theorem mr82 {h : zM} {m : Nat} (l : MLay h m) {i : Nat} (hi : i < 315120) : zba h (m + 65) (nI i) = some (zI h (m + 65) i) := zba_ok (Or.inl (mk82 l).1) (gIx (mk82 l).2 hi (by decide)).1 (gIx (mk82 l).2 hi (by decide)).2
theorem mw82 {h : zM} {m : Nat} (l : MLay h m) {i : Nat} (hi : i < 315120) (x : Int32) : zbs h (m + 65) (nI i) x = some (zsI h (m + 65) i x.toInt8.toInt32) := zbs_byte (mk82 l).1 (gIx (mk82 l).2 hi (by decide)).1 (gIx (mk82 l).2 hi (by decide)).2
theorem mF84 {h : zM} {m : Nat} (l : MLay h m) : zgF h m 12 84 = some (m + 66) := (zgF_ok l.1).trans (congrArg some (l.2 (84, 66, 102, 520) (by decide)).1)
theorem mk84 {h : zM} {m : Nat} (l : MLay h m) : zK h (m + 66) = 102 ∧ zN h (m + 66) = 520 := (l.2 (84, 66, 102, 520) (by decide)).2
theorem mr84 {h : zM} {m : Nat} (l : MLay h m) {i : Nat} (hi : i < 520) : zba h (m + 66) (nI i) = some (zI h (m + 66) i) := zba_ok (Or.inl (mk84 l).1) (gIx (mk84 l).2 hi (by decide)).1 (gIx (mk84 l).2 hi (by decide)).2
theorem mw84 {h : zM} {m : Nat} (l : MLay h m) {i : Nat} (hi : i < 520) (x : Int32) : zbs h (m + 66) (nI i) x = some (zsI h (m + 66) i x.toInt8.toInt32) := zbs_byte (mk84 l).1 (gIx (mk84 l).2 hi (by decide)).1 (gIx (mk84 l).2 hi (by decide)).2
theorem mF85 {h : zM} {m : Nat} (l : MLay h m) : zgF h m 12 85 = some (m + 67) := (zgF_ok l.1).trans (congrArg some (l.2 (85, 67, 101, 404) (by decide)).1)
theorem mk85 {h : zM} {m : Nat} (l : MLay h m) : zK h (m + 67) = 101 ∧ zN h (m + 67) = 404 := (l.2 (85, 67, 101, 404) (by decide)).2
theorem mr85 {h : zM} {m : Nat} (l : MLay h m) {i : Nat} (hi : i < 404) : zia h (m + 67) (nI i) = some (zI h (m + 67) i) := zia_ok (mk85 l).1 (gIx (mk85 l).2 hi (by decide)).1 (gIx (mk85 l).2 hi (by decide)).2
theorem mw85 {h : zM} {m : Nat} (l : MLay h m) {i : Nat} (hi : i < 404) (x : Int32) : zis h (m + 67) (nI i) x = some (zsI h (m + 67) i x) := zis_ok (mk85 l).1 (gIx (mk85 l).2 hi (by decide)).1 (gIx (mk85 l).2 hi (by decide)).2
theorem mF86 {h : zM} {m : Nat} (l : MLay h m) : zgF h m 12 86 = some (m + 68) := (zgF_ok l.1).trans (congrArg some (l.2 (86, 68, 102, 315120) (by decide)).1)
theorem mk86 {h : zM} {m : Nat} (l : MLay h m) : zK h (m + 68) = 102 ∧ zN h (m + 68) = 315120 := (l.2 (86, 68, 102, 315120) (by decide)).2
theorem mr86 {h : zM} {m : Nat} (l : MLay h m) {i : Nat} (hi : i < 315120) : zba h (m + 68) (nI i) = some (zI h (m + 68) i) := zba_ok (Or.inl (mk86 l).1) (gIx (mk86 l).2 hi (by decide)).1 (gIx (mk86 l).2 hi (by decide)).2
theorem mw86 {h : zM} {m : Nat} (l : MLay h m) {i : Nat} (hi : i < 315120) (x : Int32) : zbs h (m + 68) (nI i) x = some (zsI h (m + 68) i x.toInt8.toInt32) := zbs_byte (mk86 l).1 (gIx (mk86 l).2 hi (by decide)).1 (gIx (mk86 l).2 hi (by decide)).2
theorem mF87 {h : zM} {m : Nat} (l : MLay h m) : zgF h m 12 87 = some (m + 69) := (zgF_ok l.1).trans (congrArg some (l.2 (87, 69, 101, 101) (by decide)).1)
theorem mk87 {h : zM} {m : Nat} (l : MLay h m) : zK h (m + 69) = 101 ∧ zN h (m + 69) = 101 := (l.2 (87, 69, 101, 101) (by decide)).2
theorem mr87 {h : zM} {m : Nat} (l : MLay h m) {i : Nat} (hi : i < 101) : zia h (m + 69) (nI i) = some (zI h (m + 69) i) := zia_ok (mk87 l).1 (gIx (mk87 l).2 hi (by decide)).1 (gIx (mk87 l).2 hi (by decide)).2
theorem mw87 {h : zM} {m : Nat} (l : MLay h m) {i : Nat} (hi : i < 101) (x : Int32) : zis h (m + 69) (nI i) x = some (zsI h (m + 69) i x) := zis_ok (mk87 l).1 (gIx (mk87 l).2 hi (by decide)).1 (gIx (mk87 l).2 hi (by decide)).2
theorem mF88 {h : zM} {m : Nat} (l : MLay h m) : zgF h m 12 88 = some (m + 70) := (zgF_ok l.1).trans (congrArg some (l.2 (88, 70, 101, 101) (by decide)).1)
theorem mk88 {h : zM} {m : Nat} (l : MLay h m) : zK h (m + 70) = 101 ∧ zN h (m + 70) = 101 := (l.2 (88, 70, 101, 101) (by decide)).2
theorem mr88 {h : zM} {m : Nat} (l : MLay h m) {i : Nat} (hi : i < 101) : zia h (m + 70) (nI i) = some (zI h (m + 70) i) := zia_ok (mk88 l).1 (gIx (mk88 l).2 hi (by decide)).1 (gIx (mk88 l).2 hi (by decide)).2
theorem mw88 {h : zM} {m : Nat} (l : MLay h m) {i : Nat} (hi : i < 101) (x : Int32) : zis h (m + 70) (nI i) x = some (zsI h (m + 70) i x) := zis_ok (mk88 l).1 (gIx (mk88 l).2 hi (by decide)).1 (gIx (mk88 l).2 hi (by decide)).2
theorem mF89 {h : zM} {m : Nat} (l : MLay h m) : zgF h m 12 89 = some (m + 71) := (zgF_ok l.1).trans (congrArg some (l.2 (89, 71, 101, 101) (by decide)).1)
theorem mk89 {h : zM} {m : Nat} (l : MLay h m) : zK h (m + 71) = 101 ∧ zN h (m + 71) = 101 := (l.2 (89, 71, 101, 101) (by decide)).2
theorem mr89 {h : zM} {m : Nat} (l : MLay h m) {i : Nat} (hi : i < 101) : zia h (m + 71) (nI i) = some (zI h (m + 71) i) := zia_ok (mk89 l).1 (gIx (mk89 l).2 hi (by decide)).1 (gIx (mk89 l).2 hi (by decide)).2
theorem mw89 {h : zM} {m : Nat} (l : MLay h m) {i : Nat} (hi : i < 101) (x : Int32) : zis h (m + 71) (nI i) x = some (zsI h (m + 71) i x) := zis_ok (mk89 l).1 (gIx (mk89 l).2 hi (by decide)).1 (gIx (mk89 l).2 hi (by decide)).2
theorem mF91 {h : zM} {m : Nat} (l : MLay h m) : zgF h m 12 91 = some (m + 72) := (zgF_ok l.1).trans (congrArg some (l.2 (91, 72, 102, 9000) (by decide)).1)
theorem mk91 {h : zM} {m : Nat} (l : MLay h m) : zK h (m + 72) = 102 ∧ zN h (m + 72) = 9000 := (l.2 (91, 72, 102, 9000) (by decide)).2
theorem mr91 {h : zM} {m : Nat} (l : MLay h m) {i : Nat} (hi : i < 9000) : zba h (m + 72) (nI i) = some (zI h (m + 72) i) := zba_ok (Or.inl (mk91 l).1) (gIx (mk91 l).2 hi (by decide)).1 (gIx (mk91 l).2 hi (by decide)).2
theorem mw91 {h : zM} {m : Nat} (l : MLay h m) {i : Nat} (hi : i < 9000) (x : Int32) : zbs h (m + 72) (nI i) x = some (zsI h (m + 72) i x.toInt8.toInt32) := zbs_byte (mk91 l).1 (gIx (mk91 l).2 hi (by decide)).1 (gIx (mk91 l).2 hi (by decide)).2
theorem mF92 {h : zM} {m : Nat} (l : MLay h m) : zgF h m 12 92 = some (m + 73) := (zgF_ok l.1).trans (congrArg some (l.2 (92, 73, 102, 9000) (by decide)).1)
theorem mk92 {h : zM} {m : Nat} (l : MLay h m) : zK h (m + 73) = 102 ∧ zN h (m + 73) = 9000 := (l.2 (92, 73, 102, 9000) (by decide)).2
theorem mr92 {h : zM} {m : Nat} (l : MLay h m) {i : Nat} (hi : i < 9000) : zba h (m + 73) (nI i) = some (zI h (m + 73) i) := zba_ok (Or.inl (mk92 l).1) (gIx (mk92 l).2 hi (by decide)).1 (gIx (mk92 l).2 hi (by decide)).2
theorem mw92 {h : zM} {m : Nat} (l : MLay h m) {i : Nat} (hi : i < 9000) (x : Int32) : zbs h (m + 73) (nI i) x = some (zsI h (m + 73) i x.toInt8.toInt32) := zbs_byte (mk92 l).1 (gIx (mk92 l).2 hi (by decide)).1 (gIx (mk92 l).2 hi (by decide)).2
theorem mi11 {h : zM} {m : Nat} (l : MLay h m) : zgI h m 12 11 = some (zI h m 11) := zgI_ok l.1
theorem mp11 {h : zM} {m : Nat} (l : MLay h m) (x : Int32) : zpI h m 12 11 x = some (zsI h m 11 x) := zpI_ok l.1
theorem mi15 {h : zM} {m : Nat} (l : MLay h m) : zgI h m 12 15 = some (zI h m 15) := zgI_ok l.1
theorem mp15 {h : zM} {m : Nat} (l : MLay h m) (x : Int32) : zpI h m 12 15 x = some (zsI h m 15 x) := zpI_ok l.1
theorem mi19 {h : zM} {m : Nat} (l : MLay h m) : zgI h m 12 19 = some (zI h m 19) := zgI_ok l.1
theorem mp19 {h : zM} {m : Nat} (l : MLay h m) (x : Int32) : zpI h m 12 19 x = some (zsI h m 19 x) := zpI_ok l.1
theorem mi23 {h : zM} {m : Nat} (l : MLay h m) : zgI h m 12 23 = some (zI h m 23) := zgI_ok l.1
theorem mp23 {h : zM} {m : Nat} (l : MLay h m) (x : Int32) : zpI h m 12 23 x = some (zsI h m 23 x) := zpI_ok l.1
theorem mi32 {h : zM} {m : Nat} (l : MLay h m) : zgI h m 12 32 = some (zI h m 32) := zgI_ok l.1
theorem mp32 {h : zM} {m : Nat} (l : MLay h m) (x : Int32) : zpI h m 12 32 x = some (zsI h m 32 x) := zpI_ok l.1
theorem mi45 {h : zM} {m : Nat} (l : MLay h m) : zgI h m 12 45 = some (zI h m 45) := zgI_ok l.1
theorem mp45 {h : zM} {m : Nat} (l : MLay h m) (x : Int32) : zpI h m 12 45 x = some (zsI h m 45 x) := zpI_ok l.1
theorem mi46 {h : zM} {m : Nat} (l : MLay h m) : zgI h m 12 46 = some (zI h m 46) := zgI_ok l.1
theorem mp46 {h : zM} {m : Nat} (l : MLay h m) (x : Int32) : zpI h m 12 46 x = some (zsI h m 46 x) := zpI_ok l.1
theorem mi47 {h : zM} {m : Nat} (l : MLay h m) : zgI h m 12 47 = some (zI h m 47) := zgI_ok l.1
theorem mp47 {h : zM} {m : Nat} (l : MLay h m) (x : Int32) : zpI h m 12 47 x = some (zsI h m 47 x) := zpI_ok l.1
theorem mi48 {h : zM} {m : Nat} (l : MLay h m) : zgI h m 12 48 = some (zI h m 48) := zgI_ok l.1
theorem mp48 {h : zM} {m : Nat} (l : MLay h m) (x : Int32) : zpI h m 12 48 x = some (zsI h m 48 x) := zpI_ok l.1
theorem mi54 {h : zM} {m : Nat} (l : MLay h m) : zgI h m 12 54 = some (zI h m 54) := zgI_ok l.1
theorem mp54 {h : zM} {m : Nat} (l : MLay h m) (x : Int32) : zpI h m 12 54 x = some (zsI h m 54 x) := zpI_ok l.1
theorem mi59 {h : zM} {m : Nat} (l : MLay h m) : zgI h m 12 59 = some (zI h m 59) := zgI_ok l.1
theorem mp59 {h : zM} {m : Nat} (l : MLay h m) (x : Int32) : zpI h m 12 59 x = some (zsI h m 59 x) := zpI_ok l.1
theorem mi60 {h : zM} {m : Nat} (l : MLay h m) : zgI h m 12 60 = some (zI h m 60) := zgI_ok l.1
theorem mp60 {h : zM} {m : Nat} (l : MLay h m) {x : Int32} (hx : x = 0 ∨ x = 1) : zpZ h m 12 60 x = some (zsI h m 60 x) := zpZ_ok l.1 hx
theorem mi61 {h : zM} {m : Nat} (l : MLay h m) : zgI h m 12 61 = some (zI h m 61) := zgI_ok l.1
theorem mp61 {h : zM} {m : Nat} (l : MLay h m) (x : Int32) : zpI h m 12 61 x = some (zsI h m 61 x) := zpI_ok l.1
theorem mi62 {h : zM} {m : Nat} (l : MLay h m) : zgI h m 12 62 = some (zI h m 62) := zgI_ok l.1
theorem mp62 {h : zM} {m : Nat} (l : MLay h m) (x : Int32) : zpI h m 12 62 x = some (zsI h m 62 x) := zpI_ok l.1
theorem mi64 {h : zM} {m : Nat} (l : MLay h m) : zgI h m 12 64 = some (zI h m 64) := zgI_ok l.1
theorem mp64 {h : zM} {m : Nat} (l : MLay h m) (x : Int32) : zpI h m 12 64 x = some (zsI h m 64 x) := zpI_ok l.1
theorem mi74 {h : zM} {m : Nat} (l : MLay h m) : zgI h m 12 74 = some (zI h m 74) := zgI_ok l.1
theorem mp74 {h : zM} {m : Nat} (l : MLay h m) (x : Int32) : zpI h m 12 74 x = some (zsI h m 74 x) := zpI_ok l.1
theorem mi78 {h : zM} {m : Nat} (l : MLay h m) : zgI h m 12 78 = some (zI h m 78) := zgI_ok l.1
theorem mp78 {h : zM} {m : Nat} (l : MLay h m) {x : Int32} (hx : x = 0 ∨ x = 1) : zpZ h m 12 78 x = some (zsI h m 78 x) := zpZ_ok l.1 hx
theorem mi79 {h : zM} {m : Nat} (l : MLay h m) : zgI h m 12 79 = some (zI h m 79) := zgI_ok l.1
theorem mp79 {h : zM} {m : Nat} (l : MLay h m) (x : Int32) : zpI h m 12 79 x = some (zsI h m 79 x) := zpI_ok l.1
theorem mi83 {h : zM} {m : Nat} (l : MLay h m) : zgI h m 12 83 = some (zI h m 83) := zgI_ok l.1
theorem mp83 {h : zM} {m : Nat} (l : MLay h m) (x : Int32) : zpI h m 12 83 x = some (zsI h m 83 x) := zpI_ok l.1
theorem mi90 {h : zM} {m : Nat} (l : MLay h m) : zgI h m 12 90 = some (zI h m 90) := zgI_ok l.1
theorem mp90 {h : zM} {m : Nat} (l : MLay h m) (x : Int32) : zpI h m 12 90 x = some (zsI h m 90 x) := zpI_ok l.1
