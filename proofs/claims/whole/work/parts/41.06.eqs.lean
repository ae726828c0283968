noncomputable def zm_X12_order : zK4 := zZ zf zo_X12_order [(21, 4)]
set_option maxRecDepth 50000 in
theorem e_X12_order (a0 : Nat) (a1 : Int32) (a2 : Int32) (h : zM) : zf nX12_order [.inr a0, .inl a1, .inl a2] h =
  (zgF h a0 12 28).bind fun r1 =>
  (zia h r1 a2).bind fun v1 =>
  if a1 = v1 then
    zm_X12_order 21 [some (.inr a0), some (.inl a1), some (.inl a2), some (.inl (0 : Int32))] [] h
  else
    (zgF h a0 12 28).bind fun r2 =>
    (zia h r2 a2).bind fun v2 =>
    some ((a1 - v2), 0, h) := by
  rw [show zf nX12_order = zFn zrecs 162 from rfl, zFn_eq (M := zr_X12_order) rfl zd_X12_order]
  exact (if_pos (Nat.le_of_ble_eq_true rfl)).trans ((zZ_eq zFn_mono _ _ _ _).trans rfl)
set_option maxRecDepth 50000 in
theorem e_X12_order_21 (a0 : Nat) (a1 : Int32) (a2 : Int32) (a3 : Int32) (h : zM) : zm_X12_order 21 [some (.inr a0), some (.inl a1), some (.inl a2), some (.inl a3)] [] h =
  if a3 < a1 then
    (zgF h a0 12 31).bind fun r1 =>
    (zba h r1 a3).bind fun v1 =>
    (zgF h a0 12 30).bind fun r2 =>
    (zba h r2 (((13000 : Int32) * a2) + a3)).bind fun v2 =>
    if v1 = v2 then
      zm_X12_order 21 [some (.inr a0), some (.inl a1), some (.inl a2), some (.inl (a3 + (1 : Int32)))] [] h
    else
      (zgF h a0 12 31).bind fun r3 =>
      (zba h r3 a3).bind fun v3 =>
      (zgF h a0 12 30).bind fun r4 =>
      (zba h r4 (((13000 : Int32) * a2) + a3)).bind fun v4 =>
      some ((v3 - v4), 0, h)
  else
    some ((0 : Int32), 0, h) := (zZ_eq zFn_mono _ _ _ _).trans rfl
noncomputable def zm_X12_offers : zK4 := zZ zf zo_X12_offers [(5, 5), (108, 5)]
set_option maxRecDepth 50000 in
theorem e_X12_offers (a0 : Nat) (a1 : Int32) (a2 : Int32) (h : zM) : zf nX12_offers [.inr a0, .inl a1, .inl a2] h =
  zm_X12_offers 5 [some (.inr a0), some (.inl a1), some (.inl a2), some (.inl (2 : Int32)), some (.inl (1 : Int32)), none] [] h := by
  rw [show zf nX12_offers = zFn zrecs 163 from rfl, zFn_eq (M := zr_X12_offers) rfl zd_X12_offers]
  exact (if_pos (Nat.le_of_ble_eq_true rfl)).trans ((zZ_eq zFn_mono _ _ _ _).trans rfl)
set_option maxRecDepth 50000 in
theorem e_X12_offers_5 (a0 : Nat) (a1 : Int32) (a2 : Int32) (a3 : Int32) (a4 : Int32) (h : zM) : zm_X12_offers 5 [some (.inr a0), some (.inl a1), some (.inl a2), some (.inl a3), some (.inl a4), none] [] h =
  if a4 < 0 then
    if a3 = (2 : Int32) then
      some (0, 0, h)
    else
      if a3 = 0 then
        (zgF h a0 12 28).bind fun r1 =>
        (zia h r1 ((2 : Int32) * a1)).bind fun v1 =>
        if v1 < 0 then
          (zgF h a0 12 28).bind fun r2 =>
          (zis h r2 (((2 : Int32) * a1) + a3) a2).bind fun h1 =>
          zm_X12_offers 108 [some (.inr a0), some (.inl a1), some (.inl a2), some (.inl a3), some (.inl (0 : Int32)), none] [] h1
        else
          zif (zK h a0 = 13) (
          (zf nX12_moves [.inr a0, .inl ((2 : Int32) * a1), .inl (((2 : Int32) * a1) + (1 : Int32))] h).bind fun u1 =>
          (zgF u1.2.2 a0 12 28).bind fun r3 =>
          (zis u1.2.2 r3 (((2 : Int32) * a1) + a3) a2).bind fun h2 =>
          zm_X12_offers 108 [some (.inr a0), some (.inl a1), some (.inl a2), some (.inl a3), some (.inl (0 : Int32)), none] [] h2)
      else
        (zgF h a0 12 28).bind fun r4 =>
        (zis h r4 (((2 : Int32) * a1) + a3) a2).bind fun h3 =>
        zm_X12_offers 108 [some (.inr a0), some (.inl a1), some (.inl a2), some (.inl a3), some (.inl (0 : Int32)), none] [] h3
  else
    (zgF h a0 12 28).bind fun r5 =>
    (zia h r5 (((2 : Int32) * a1) + a4)).bind fun v2 =>
    if v2 < 0 then
      if (-1 : Int32) = 0 then
        some (0, 0, h)
      else
        if (-1 : Int32) < 0 then
          zm_X12_offers 5 [some (.inr a0), some (.inl a1), some (.inl a2), some (.inl a4), some (.inl (a4 + (-1 : Int32))), none] [] h
        else
          zm_X12_offers 5 [some (.inr a0), some (.inl a1), some (.inl a2), some (.inl a3), some (.inl (a4 + (-1 : Int32))), none] [] h
    else
      zif (zK h a0 = 13) (
      (zf nX12_order [.inr a0, .inl a2, .inl (((2 : Int32) * a1) + a4)] h).bind fun u2 =>
      if u2.1 = 0 then
        some (0, 0, u2.2.2)
      else
        if u2.1 < 0 then
          zm_X12_offers 5 [some (.inr a0), some (.inl a1), some (.inl a2), some (.inl a4), some (.inl (a4 + (-1 : Int32))), none] [] u2.2.2
        else
          zm_X12_offers 5 [some (.inr a0), some (.inl a1), some (.inl a2), some (.inl a3), some (.inl (a4 + (-1 : Int32))), none] [] u2.2.2) := (zZ_eq zFn_mono _ _ _ _).trans rfl
set_option maxRecDepth 50000 in
theorem e_X12_offers_108 (a0 : Nat) (a1 : Int32) (a2 : Int32) (a3 : Int32) (a4 : Int32) (h : zM) : zm_X12_offers 108 [some (.inr a0), some (.inl a1), some (.inl a2), some (.inl a3), some (.inl a4), none] [] h =
  if a4 < a2 then
    (zgF h a0 12 30).bind fun r1 =>
    (zgF h a0 12 31).bind fun r2 =>
    (zba h r2 a4).bind fun v1 =>
    (zbs h r1 (((13000 : Int32) * (((2 : Int32) * a1) + a3)) + a4) v1).bind fun h1 =>
    zm_X12_offers 108 [some (.inr a0), some (.inl a1), some (.inl a2), some (.inl a3), some (.inl (a4 + (1 : Int32))), none] [] h1
  else
    some (0, 0, h) := (zZ_eq zFn_mono _ _ _ _).trans rfl
noncomputable def zm_X12_behind : zK4 := zZ zf zo_X12_behind [(10, 5), (53, 6)]
set_option maxRecDepth 50000 in
theorem e_X12_behind (a0 : Nat) (a1 : Int32) (a2 : Int32) (h : zM) : zf nX12_behind [.inr a0, .inl a1, .inl a2] h =
  (zgF h a0 12 27).bind fun r1 =>
  (zia h r1 a1).bind fun v1 =>
  zm_X12_behind 10 [some (.inr a0), some (.inl a1), some (.inl a2), some (.inl v1), some (.inl (0 : Int32)), none] [] h := by
  rw [show zf nX12_behind = zFn zrecs 164 from rfl, zFn_eq (M := zr_X12_behind) rfl zd_X12_behind]
  exact (if_pos (Nat.le_of_ble_eq_true rfl)).trans ((zZ_eq zFn_mono _ _ _ _).trans rfl)
set_option maxRecDepth 50000 in
theorem e_X12_behind_10 (a0 : Nat) (a1 : Int32) (a2 : Int32) (a3 : Int32) (a4 : Int32) (h : zM) : zm_X12_behind 10 [some (.inr a0), some (.inl a1), some (.inl a2), some (.inl a3), some (.inl a4), none] [] h =
  if a4 < a3 then
    (zgF h a0 12 31).bind fun r1 =>
    (zgF h a0 12 29).bind fun r2 =>
    (zba h r2 (((13000 : Int32) * a1) + a4)).bind fun v1 =>
    (zbs h r1 a4 v1).bind fun h1 =>
    zm_X12_behind 10 [some (.inr a0), some (.inl a1), some (.inl a2), some (.inl a3), some (.inl (a4 + (1 : Int32))), none] [] h1
  else
    (zf nX12_letters [.inl a2, .inl (9 : Int32)] h).bind fun u1 =>
    zm_X12_behind 53 [some (.inr a0), some (.inl a1), some (.inl a2), some (.inl a3), some (.inl u1.1), some (.inl (0 : Int32))] [] u1.2.2 := (zZ_eq zFn_mono _ _ _ _).trans rfl
set_option maxRecDepth 50000 in
theorem e_X12_behind_53 (a0 : Nat) (a1 : Int32) (a2 : Int32) (a3 : Int32) (a4 : Int32) (a5 : Int32) (h : zM) : zm_X12_behind 53 [some (.inr a0), some (.inl a1), some (.inl a2), some (.inl a3), some (.inl a4), some (.inl a5)] [] h =
  if a5 < a4 then
    (zgF h a0 12 31).bind fun r1 =>
    (zf nX12_letter [.inl a2, .inl a4, .inl a5] h).bind fun u1 =>
    (zbs u1.2.2 r1 (a3 + a5) (Int8.toInt32 (Int32.toInt8 u1.1))).bind fun h1 =>
    zm_X12_behind 53 [some (.inr a0), some (.inl a1), some (.inl a2), some (.inl a3), some (.inl a4), some (.inl (a5 + (1 : Int32)))] [] h1
  else
    some ((a3 + a4), 0, h) := (zZ_eq zFn_mono _ _ _ _).trans rfl
noncomputable def zm_X12_turns : zK4 := zZ zf zo_X12_turns [(2, 2), (22, 3)]
set_option maxRecDepth 50000 in
theorem e_X12_turns (a0 : Nat) (h : zM) : zf nX12_turns [.inr a0] h =
  zm_X12_turns 2 [some (.inr a0), some (.inl (0 : Int32)), none] [] h := by
  rw [show zf nX12_turns = zFn zrecs 165 from rfl, zFn_eq (M := zr_X12_turns) rfl zd_X12_turns]
  exact (if_pos (Nat.le_of_ble_eq_true rfl)).trans ((zZ_eq zFn_mono _ _ _ _).trans rfl)
set_option maxRecDepth 50000 in
theorem e_X12_turns_2 (a0 : Nat) (a1 : Int32) (h : zM) : zm_X12_turns 2 [some (.inr a0), some (.inl a1), none] [] h =
  if a1 < (12 : Int32) then
    (zgF h a0 12 27).bind fun r1 =>
    (zgF h a0 12 28).bind fun r2 =>
    (zia h r2 a1).bind fun v1 =>
    (zis h r1 a1 v1).bind fun h1 =>
    zm_X12_turns 22 [some (.inr a0), some (.inl a1), some (.inl (0 : Int32))] [] h1
  else
    some (0, 0, h) := (zZ_eq zFn_mono _ _ _ _).trans rfl
set_option maxRecDepth 50000 in
theorem e_X12_turns_22 (a0 : Nat) (a1 : Int32) (a2 : Int32) (h : zM) : zm_X12_turns 22 [some (.inr a0), some (.inl a1), some (.inl a2)] [] h =
  (zgF h a0 12 28).bind fun r1 =>
  (zia h r1 a1).bind fun v1 =>
  if a2 < v1 then
    (zgF h a0 12 29).bind fun r2 =>
    (zgF h a0 12 30).bind fun r3 =>
    (zba h r3 (((13000 : Int32) * a1) + a2)).bind fun v2 =>
    (zbs h r2 (((13000 : Int32) * a1) + a2) v2).bind fun h1 =>
    zm_X12_turns 22 [some (.inr a0), some (.inl a1), some (.inl (a2 + (1 : Int32)))] [] h1
  else
    (zgF h a0 12 28).bind fun r4 =>
    (zis h r4 a1 (-1 : Int32)).bind fun h2 =>
    zm_X12_turns 2 [some (.inr a0), some (.inl (a1 + (1 : Int32))), none] [] h2 := (zZ_eq zFn_mono _ _ _ _).trans rfl
noncomputable def zm_X12_leasts : zK4 := zZ zf zo_X12_leasts [(2, 3), (23, 3), (61, 3), (78, 4), (114, 5), (194, 3), (206, 4)]
set_option maxRecDepth 50000 in
theorem e_X12_leasts (a0 : Nat) (a1 : Int32) (h : zM) : zf nX12_leasts [.inr a0, .inl a1] h =
  zm_X12_leasts 2 [some (.inr a0), some (.inl a1), some (.inl (0 : Int32)), none, none] [] h := by
  rw [show zf nX12_leasts = zFn zrecs 166 from rfl, zFn_eq (M := zr_X12_leasts) rfl zd_X12_leasts]
  exact (if_pos (Nat.le_of_ble_eq_true rfl)).trans ((zZ_eq zFn_mono _ _ _ _).trans rfl)
set_option maxRecDepth 50000 in
theorem e_X12_leasts_2 (a0 : Nat) (a1 : Int32) (a2 : Int32) (h : zM) : zm_X12_leasts 2 [some (.inr a0), some (.inl a1), some (.inl a2), none, none] [] h =
  if a2 < (12 : Int32) then
    (zgF h a0 12 28).bind fun r1 =>
    (zis h r1 a2 (-1 : Int32)).bind fun h1 =>
    zm_X12_leasts 2 [some (.inr a0), some (.inl a1), some (.inl (a2 + (1 : Int32))), none, none] [] h1
  else
    zm_X12_leasts 23 [some (.inr a0), some (.inl a1), some (.inl (0 : Int32)), none, none] [] h := (zZ_eq zFn_mono _ _ _ _).trans rfl
set_option maxRecDepth 50000 in
theorem e_X12_leasts_23 (a0 : Nat) (a1 : Int32) (a2 : Int32) (h : zM) : zm_X12_leasts 23 [some (.inr a0), some (.inl a1), some (.inl a2), none, none] [] h =
  (zgF h a0 12 0).bind fun r1 =>
  (zia h r1 a1).bind fun v1 =>
  if a2 < v1 then
    (zgF h a0 12 1).bind fun r2 =>
    (zba h r2 (((6 : Int32) * a1) + a2)).bind fun v2 =>
    if v2 = 0 then
      zm_X12_leasts 23 [some (.inr a0), some (.inl a1), some (.inl (a2 + (1 : Int32))), none, none] [] h
    else
      zif (zK h a0 = 13) (
      (zf nX12_offers [.inr a0, .inl a2, .inl (0 : Int32)] h).bind fun u1 =>
      zm_X12_leasts 23 [some (.inr a0), some (.inl a1), some (.inl (a2 + (1 : Int32))), none, none] [] u1.2.2)
  else
    zm_X12_leasts 61 [some (.inr a0), some (.inl a1), some (.inl (0 : Int32)), none, none] [] h := (zZ_eq zFn_mono _ _ _ _).trans rfl
set_option maxRecDepth 50000 in
theorem e_X12_leasts_61 (a0 : Nat) (a1 : Int32) (a2 : Int32) (h : zM) : zm_X12_leasts 61 [some (.inr a0), some (.inl a1), some (.inl a2), none, none] [] h =
  (zgI h a0 12 23).bind fun v1 =>
  if a2 < v1 then
    zif (zK h a0 = 13) (
    (zf nX12_turns [.inr a0] h).bind fun u1 =>
    zm_X12_leasts 78 [some (.inr a0), some (.inl a1), some (.inl a2), some (.inl ((30 : Int32) * a1)), none] [] u1.2.2)
  else
    zif (zK h a0 = 13) (
    (zf nX12_turns [.inr a0] h).bind fun u2 =>
    zm_X12_leasts 194 [some (.inr a0), some (.inl a1), some (.inl (0 : Int32)), none, none] [] u2.2.2) := (zZ_eq zFn_mono _ _ _ _).trans rfl
set_option maxRecDepth 50000 in
theorem e_X12_leasts_78 (a0 : Nat) (a1 : Int32) (a2 : Int32) (a3 : Int32) (h : zM) : zm_X12_leasts 78 [some (.inr a0), some (.inl a1), some (.inl a2), some (.inl a3), none] [] h =
  (zgF h a0 12 3).bind fun r1 =>
  (zia h r1 a1).bind fun v1 =>
  if a3 < (((30 : Int32) * a1) + v1) then
    (zgF h a0 12 5).bind fun r2 =>
    (zia h r2 a3).bind fun v2 =>
    (zgF h a0 12 24).bind fun r3 =>
    (zia h r3 a2).bind fun v3 =>
    if v2 = v3 then
      zm_X12_leasts 114 [some (.inr a0), some (.inl a1), some (.inl a2), some (.inl a3), some (.inl (0 : Int32))] [] h
    else
      zm_X12_leasts 78 [some (.inr a0), some (.inl a1), some (.inl a2), some (.inl (a3 + (1 : Int32))), none] [] h
  else
    zm_X12_leasts 61 [some (.inr a0), some (.inl a1), some (.inl (a2 + (1 : Int32))), none, none] [] h := (zZ_eq zFn_mono _ _ _ _).trans rfl
set_option maxRecDepth 50000 in
theorem e_X12_leasts_114 (a0 : Nat) (a1 : Int32) (a2 : Int32) (a3 : Int32) (a4 : Int32) (h : zM) : zm_X12_leasts 114 [some (.inr a0), some (.inl a1), some (.inl a2), some (.inl a3), some (.inl a4)] [] h =
  if a4 < (2 : Int32) then
    (zgF h a0 12 27).bind fun r1 =>
    (zgF h a0 12 4).bind fun r2 =>
    (zia h r2 a3).bind fun v1 =>
    (zia h r1 (((2 : Int32) * v1) + a4)).bind fun v2 =>
    if v2 < 0 then
      zm_X12_leasts 114 [some (.inr a0), some (.inl a1), some (.inl a2), some (.inl a3), some (.inl (a4 + (1 : Int32)))] [] h
    else
      (zgF h a0 12 6).bind fun r3 =>
      (zia h r3 a3).bind fun v3 =>
      (zgF h a0 12 4).bind fun r4 =>
      (zia h r4 a3).bind fun v4 =>
      (zgF h a0 12 7).bind fun r5 =>
      (zia h r5 a3).bind fun v5 =>
      zif (zK h a0 = 13) (
      (zf nX12_behind [.inr a0, .inl (((2 : Int32) * v4) + a4), .inl v5] h).bind fun u1 =>
      zif (zK u1.2.2 a0 = 13) (
      (zf nX12_offers [.inr a0, .inl v3, .inl u1.1] u1.2.2).bind fun u2 =>
      zm_X12_leasts 114 [some (.inr a0), some (.inl a1), some (.inl a2), some (.inl a3), some (.inl (a4 + (1 : Int32)))] [] u2.2.2))
  else
    zm_X12_leasts 78 [some (.inr a0), some (.inl a1), some (.inl a2), some (.inl (a3 + (1 : Int32))), none] [] h := (zZ_eq zFn_mono _ _ _ _).trans rfl
set_option maxRecDepth 50000 in
theorem e_X12_leasts_194 (a0 : Nat) (a1 : Int32) (a2 : Int32) (h : zM) : zm_X12_leasts 194 [some (.inr a0), some (.inl a1), some (.inl a2), none, none] [] h =
  (zgF h a0 12 0).bind fun r1 =>
  (zia h r1 a1).bind fun v1 =>
  if a2 < v1 then
    zm_X12_leasts 206 [some (.inr a0), some (.inl a1), some (.inl a2), some (.inl (0 : Int32)), none] [] h
  else
    some (0, 0, h) := (zZ_eq zFn_mono _ _ _ _).trans rfl
set_option maxRecDepth 50000 in
theorem e_X12_leasts_206 (a0 : Nat) (a1 : Int32) (a2 : Int32) (a3 : Int32) (h : zM) : zm_X12_leasts 206 [some (.inr a0), some (.inl a1), some (.inl a2), some (.inl a3), none] [] h =
  if a3 < (2 : Int32) then
    (zgF h a0 12 2).bind fun r1 =>
    (zia h r1 (((6 : Int32) * a1) + a2)).bind fun v1 =>
    if v1 = (-1 : Int32) then
      zm_X12_leasts 194 [some (.inr a0), some (.inl a1), some (.inl (a2 + (1 : Int32))), none, none] [] h
    else
      (zgF h a0 12 27).bind fun r2 =>
      (zia h r2 (((2 : Int32) * a2) + a3)).bind fun v2 =>
      if v2 < 0 then
        zm_X12_leasts 206 [some (.inr a0), some (.inl a1), some (.inl a2), some (.inl (a3 + (1 : Int32))), none] [] h
      else
        (zgF h a0 12 2).bind fun r3 =>
        (zia h r3 (((6 : Int32) * a1) + a2)).bind fun v3 =>
        zif (zK h a0 = 13) (
        (zf nX12_behind [.inr a0, .inl (((2 : Int32) * a2) + a3), .inl v3] h).bind fun u1 =>
        zif (zK u1.2.2 a0 = 13) (
        (zf nX12_offers [.inr a0, .inl (0 : Int32), .inl u1.1] u1.2.2).bind fun u2 =>
        zm_X12_leasts 206 [some (.inr a0), some (.inl a1), some (.inl a2), some (.inl (a3 + (1 : Int32))), none] [] u2.2.2))
  else
    zm_X12_leasts 194 [some (.inr a0), some (.inl a1), some (.inl (a2 + (1 : Int32))), none, none] [] h := (zZ_eq zFn_mono _ _ _ _).trans rfl
noncomputable def zm_X12_keepsOutput : zK4 := zZ zf zo_X12_keepsOutput [(28, 4)]
set_option maxRecDepth 50000 in
theorem e_X12_keepsOutput (a0 : Nat) (a1 : Int32) (a2 : Int32) (h : zM) : zf nX12_keepsOutput [.inr a0, .inl a1, .inl a2] h =
  (zgF h a0 12 25).bind fun r1 =>
  (zgF h a0 12 28).bind fun r2 =>
  (zia h r2 a2).bind fun v1 =>
  if v1 < 0 then
    (zis h r1 a1 (-2 : Int32)).bind fun h1 =>
    zm_X12_keepsOutput 28 [some (.inr a0), some (.inl a1), some (.inl a2), some (.inl (0 : Int32))] [] h1
  else
    (zgF h a0 12 28).bind fun r3 =>
    (zia h r3 a2).bind fun v2 =>
    (zis h r1 a1 v2).bind fun h2 =>
    zm_X12_keepsOutput 28 [some (.inr a0), some (.inl a1), some (.inl a2), some (.inl (0 : Int32))] [] h2 := by
  rw [show zf nX12_keepsOutput = zFn zrecs 167 from rfl, zFn_eq (M := zr_X12_keepsOutput) rfl zd_X12_keepsOutput]
  exact (if_pos (Nat.le_of_ble_eq_true rfl)).trans ((zZ_eq zFn_mono _ _ _ _).trans rfl)
set_option maxRecDepth 50000 in
theorem e_X12_keepsOutput_28 (a0 : Nat) (a1 : Int32) (a2 : Int32) (a3 : Int32) (h : zM) : zm_X12_keepsOutput 28 [some (.inr a0), some (.inl a1), some (.inl a2), some (.inl a3)] [] h =
  (zgF h a0 12 28).bind fun r1 =>
  (zia h r1 a2).bind fun v1 =>
  if a3 < v1 then
    (zgF h a0 12 26).bind fun r2 =>
    (zgF h a0 12 30).bind fun r3 =>
    (zba h r3 (((13000 : Int32) * a2) + a3)).bind fun v2 =>
    (zis h r2 (((13000 : Int32) * a1) + a3) v2).bind fun h1 =>
    zm_X12_keepsOutput 28 [some (.inr a0), some (.inl a1), some (.inl a2), some (.inl (a3 + (1 : Int32)))] [] h1
  else
    some (0, 0, h) := (zZ_eq zFn_mono _ _ _ _).trans rfl
noncomputable def zm_X12_witness : zK4 := zZ zf zo_X12_witness []
set_option maxRecDepth 50000 in
theorem e_X12_witness (a0 : Nat) (a1 : Int32) (h : zM) : zf nX12_witness [.inr a0, .inl a1] h =
  (zgI h a0 12 23).bind fun v1 =>
  if v1 < 0 then
    some ((-2 : Int32), 0, h)
  else
    if a1 < 0 then
      some ((-1 : Int32), 0, h)
    else
      (zgI h a0 12 23).bind fun v2 =>
      if a1 < v2 then
        (zgF h a0 12 24).bind fun r1 =>
        (zia h r1 a1).bind fun v3 =>
        some (v3, 0, h)
      else
        some ((-1 : Int32), 0, h) := by
  rw [show zf nX12_witness = zFn zrecs 168 from rfl, zFn_eq (M := zr_X12_witness) rfl zd_X12_witness]
  exact (if_pos (Nat.le_of_ble_eq_true rfl)).trans ((zZ_eq zFn_mono _ _ _ _).trans rfl)
noncomputable def zm_X12_wrote : zK4 := zZ zf zo_X12_wrote []
set_option maxRecDepth 50000 in
theorem e_X12_wrote (a0 : Nat) (a1 : Int32) (a2 : Int32) (h : zM) : zf nX12_wrote [.inr a0, .inl a1, .inl a2] h =
  if a1 < 0 then
    some ((-2 : Int32), 0, h)
  else
    if (1 : Int32) < a1 then
      some ((-2 : Int32), 0, h)
    else
      (zgF h a0 12 25).bind fun r1 =>
      (zia h r1 a1).bind fun v1 =>
      if v1 < 0 then
        some ((-2 : Int32), 0, h)
      else
        if a2 < 0 then
          some ((-1 : Int32), 0, h)
        else
          (zgF h a0 12 25).bind fun r2 =>
          (zia h r2 a1).bind fun v2 =>
          if a2 < v2 then
            (zgF h a0 12 26).bind fun r3 =>
            (zia h r3 (((13000 : Int32) * a1) + a2)).bind fun v3 =>
            some (v3, 0, h)
          else
            some ((-1 : Int32), 0, h) := by
  rw [show zf nX12_wrote = zFn zrecs 169 from rfl, zFn_eq (M := zr_X12_wrote) rfl zd_X12_wrote]
  exact (if_pos (Nat.le_of_ble_eq_true rfl)).trans ((zZ_eq zFn_mono _ _ _ _).trans rfl)
noncomputable def zm_X12_meets : zK4 := zZ zf zo_X12_meets [(2, 4), (93, 4), (105, 5), (127, 6)]
set_option maxRecDepth 50000 in
theorem e_X12_meets (a0 : Nat) (a1 : Int32) (a2 : Int32) (h : zM) : zf nX12_meets [.inr a0, .inl a1, .inl a2] h =
  zm_X12_meets 2 [some (.inr a0), some (.inl a1), some (.inl a2), some (.inl (0 : Int32)), none, none] [] h := by
  rw [show zf nX12_meets = zFn zrecs 170 from rfl, zFn_eq (M := zr_X12_meets) rfl zd_X12_meets]
  exact (if_pos (Nat.le_of_ble_eq_true rfl)).trans ((zZ_eq zFn_mono _ _ _ _).trans rfl)
set_option maxRecDepth 50000 in
theorem e_X12_meets_2 (a0 : Nat) (a1 : Int32) (a2 : Int32) (a3 : Int32) (h : zM) : zm_X12_meets 2 [some (.inr a0), some (.inl a1), some (.inl a2), some (.inl a3), none, none] [] h =
  if a3 < (36 : Int32) then
    if (6 : Int32) = 0 then none else
    if (6 : Int32) = 0 then none else
    (zgF h a0 12 41).bind fun r1 =>
    (zgF h a0 12 0).bind fun r2 =>
    (zia h r2 a1).bind fun v1 =>
    if (a3 / (6 : Int32)) < v1 then
      (zgF h a0 12 0).bind fun r3 =>
      (zia h r3 a2).bind fun v2 =>
      if (a3 - a3 / (6 : Int32) * (6 : Int32)) < v2 then
        (zgF h a0 12 2).bind fun r4 =>
        (zia h r4 (((6 : Int32) * a1) + (a3 / (6 : Int32)))).bind fun v3 =>
        if v3 = (-1 : Int32) then
          (zbs h r1 a3 (0 : Int32)).bind fun h1 =>
          zm_X12_meets 2 [some (.inr a0), some (.inl a1), some (.inl a2), some (.inl (a3 + (1 : Int32))), none, none] [] h1
        else
          (zgF h a0 12 2).bind fun r5 =>
          (zia h r5 (((6 : Int32) * a2) + (a3 - a3 / (6 : Int32) * (6 : Int32)))).bind fun v4 =>
          if v4 = (-1 : Int32) then
            (zbs h r1 a3 (0 : Int32)).bind fun h2 =>
            zm_X12_meets 2 [some (.inr a0), some (.inl a1), some (.inl a2), some (.inl (a3 + (1 : Int32))), none, none] [] h2
          else
            (zbs h r1 a3 (1 : Int32)).bind fun h3 =>
            zm_X12_meets 2 [some (.inr a0), some (.inl a1), some (.inl a2), some (.inl (a3 + (1 : Int32))), none, none] [] h3
      else
        (zbs h r1 a3 (0 : Int32)).bind fun h4 =>
        zm_X12_meets 2 [some (.inr a0), some (.inl a1), some (.inl a2), some (.inl (a3 + (1 : Int32))), none, none] [] h4
    else
      (zbs h r1 a3 (0 : Int32)).bind fun h5 =>
      zm_X12_meets 2 [some (.inr a0), some (.inl a1), some (.inl a2), some (.inl (a3 + (1 : Int32))), none, none] [] h5
  else
    zm_X12_meets 93 [some (.inr a0), some (.inl a1), some (.inl a2), some (.inl (0 : Int32)), none, none] [] h := (zZ_eq zFn_mono _ _ _ _).trans rfl
set_option maxRecDepth 50000 in
theorem e_X12_meets_93 (a0 : Nat) (a1 : Int32) (a2 : Int32) (a3 : Int32) (h : zM) : zm_X12_meets 93 [some (.inr a0), some (.inl a1), some (.inl a2), some (.inl a3), none, none] [] h =
  if a3 < (36 : Int32) then
    zm_X12_meets 105 [some (.inr a0), some (.inl a1), some (.inl a2), some (.inl a3), some (.inl ((30 : Int32) * a1)), none] [] h
  else
    some (0, 0, h) := (zZ_eq zFn_mono _ _ _ _).trans rfl
set_option maxRecDepth 50000 in
theorem e_X12_meets_105 (a0 : Nat) (a1 : Int32) (a2 : Int32) (a3 : Int32) (a4 : Int32) (h : zM) : zm_X12_meets 105 [some (.inr a0), some (.inl a1), some (.inl a2), some (.inl a3), some (.inl a4), none] [] h =
  (zgF h a0 12 3).bind fun r1 =>
  (zia h r1 a1).bind fun v1 =>
  if a4 < (((30 : Int32) * a1) + v1) then
    zm_X12_meets 127 [some (.inr a0), some (.inl a1), some (.inl a2), some (.inl a3), some (.inl a4), some (.inl ((30 : Int32) * a2))] [] h
  else
    zm_X12_meets 93 [some (.inr a0), some (.inl a1), some (.inl a2), some (.inl (a3 + (1 : Int32))), none, none] [] h := (zZ_eq zFn_mono _ _ _ _).trans rfl
set_option maxRecDepth 50000 in
theorem e_X12_meets_127 (a0 : Nat) (a1 : Int32) (a2 : Int32) (a3 : Int32) (a4 : Int32) (a5 : Int32) (h : zM) : zm_X12_meets 127 [some (.inr a0), some (.inl a1), some (.inl a2), some (.inl a3), some (.inl a4), some (.inl a5)] [] h =
  (zgF h a0 12 3).bind fun r1 =>
  (zia h r1 a2).bind fun v1 =>
  if a5 < (((30 : Int32) * a2) + v1) then
    (zgF h a0 12 5).bind fun r2 =>
    (zia h r2 a4).bind fun v2 =>
    (zgF h a0 12 5).bind fun r3 =>
    (zia h r3 a5).bind fun v3 =>
    if v2 = v3 then
      (zgF h a0 12 41).bind fun r4 =>
      (zgF h a0 12 6).bind fun r5 =>
      (zia h r5 a4).bind fun v4 =>
      (zgF h a0 12 6).bind fun r6 =>
      (zia h r6 a5).bind fun v5 =>
      (zba h r4 (((6 : Int32) * v4) + v5)).bind fun v6 =>
      if v6 = 0 then
        zm_X12_meets 127 [some (.inr a0), some (.inl a1), some (.inl a2), some (.inl a3), some (.inl a4), some (.inl (a5 + (1 : Int32)))] [] h
      else
        (zgF h a0 12 41).bind fun r7 =>
        (zgF h a0 12 4).bind fun r8 =>
        (zia h r8 a4).bind fun v7 =>
        (zgF h a0 12 4).bind fun r9 =>
        (zia h r9 a5).bind fun v8 =>
        (zbs h r7 (((6 : Int32) * v7) + v8) (1 : Int32)).bind fun h1 =>
        zm_X12_meets 127 [some (.inr a0), some (.inl a1), some (.inl a2), some (.inl a3), some (.inl a4), some (.inl (a5 + (1 : Int32)))] [] h1
    else
      zm_X12_meets 127 [some (.inr a0), some (.inl a1), some (.inl a2), some (.inl a3), some (.inl a4), some (.inl (a5 + (1 : Int32)))] [] h
  else
    zm_X12_meets 105 [some (.inr a0), some (.inl a1), some (.inl a2), some (.inl a3), some (.inl (a4 + (1 : Int32))), none] [] h := (zZ_eq zFn_mono _ _ _ _).trans rfl
noncomputable def zm_X12_rows : zK4 := zZ zf zo_X12_rows [(24, 4), (88, 4), (149, 6), (204, 6), (253, 6)]
set_option maxRecDepth 50000 in
theorem e_X12_rows (a0 : Nat) (a1 : Int32) (a2 : Int32) (a3 : Int32) (h : zM) : zf nX12_rows [.inr a0, .inl a1, .inl a2, .inl a3] h =
  (zpI h a0 12 45 (0 : Int32)).bind fun h1 =>
  (zpI h1 a0 12 46 (0 : Int32)).bind fun h2 =>
  if a1 < 0 then
    if a1 < 0 then
      (zf nX12_letters [.inl a2, .inl (9 : Int32)] h2).bind fun u1 =>
      zm_X12_rows 149 [some (.inr a0), some (.inl a1), some (.inl a2), some (.inl a3), some (.inl u1.1), some (.inl (0 : Int32))] [] u1.2.2
    else
      (zgF h2 a0 12 35).bind fun r1 =>
      (zia h2 r1 a1).bind fun v1 =>
      if v1 = (2 : Int32) then
        zm_X12_rows 88 [some (.inr a0), some (.inl a1), some (.inl a2), some (.inl a3), none, none] [] h2
      else
        (zf nX12_letters [.inl a2, .inl (9 : Int32)] h2).bind fun u2 =>
        zm_X12_rows 149 [some (.inr a0), some (.inl a1), some (.inl a2), some (.inl a3), some (.inl u2.1), some (.inl (0 : Int32))] [] u2.2.2
  else
    (zgF h2 a0 12 35).bind fun r2 =>
    (zia h2 r2 a1).bind fun v2 =>
    if v2 = (1 : Int32) then
      zm_X12_rows 24 [some (.inr a0), some (.inl a1), some (.inl a2), some (.inl a3), none, none] [] h2
    else
      if a1 < 0 then
        (zf nX12_letters [.inl a2, .inl (9 : Int32)] h2).bind fun u3 =>
        zm_X12_rows 149 [some (.inr a0), some (.inl a1), some (.inl a2), some (.inl a3), some (.inl u3.1), some (.inl (0 : Int32))] [] u3.2.2
      else
        (zgF h2 a0 12 35).bind fun r3 =>
        (zia h2 r3 a1).bind fun v3 =>
        if v3 = (2 : Int32) then
          zm_X12_rows 88 [some (.inr a0), some (.inl a1), some (.inl a2), some (.inl a3), none, none] [] h2
        else
          (zf nX12_letters [.inl a2, .inl (9 : Int32)] h2).bind fun u4 =>
          zm_X12_rows 149 [some (.inr a0), some (.inl a1), some (.inl a2), some (.inl a3), some (.inl u4.1), some (.inl (0 : Int32))] [] u4.2.2 := by
  rw [show zf nX12_rows = zFn zrecs 171 from rfl, zFn_eq (M := zr_X12_rows) rfl zd_X12_rows]
  exact (if_pos (Nat.le_of_ble_eq_true rfl)).trans ((zZ_eq zFn_mono _ _ _ _).trans rfl)
set_option maxRecDepth 50000 in
theorem e_X12_rows_24 (a0 : Nat) (a1 : Int32) (a2 : Int32) (a3 : Int32) (h : zM) : zm_X12_rows 24 [some (.inr a0), some (.inl a1), some (.inl a2), some (.inl a3), none, none] [] h =
  (zgI h a0 12 45).bind fun v1 =>
  (zgF h a0 12 36).bind fun r1 =>
  (zia h r1 a1).bind fun v2 =>
  if v1 < v2 then
    (zgF h a0 12 43).bind fun r2 =>
    (zgI h a0 12 45).bind fun v3 =>
    (zgF h a0 12 37).bind fun r3 =>
    (zgI h a0 12 45).bind fun v4 =>
    (zba h r3 (((600 : Int32) * a1) + v4)).bind fun v5 =>
    (zis h r2 v3 v5).bind fun h1 =>
    (zgI h1 a0 12 45).bind fun v6 =>
    (zpI h1 a0 12 45 (v6 + (1 : Int32))).bind fun h2 =>
    zm_X12_rows 24 [some (.inr a0), some (.inl a1), some (.inl a2), some (.inl a3), none, none] [] h2
  else
    if a1 < 0 then
      (zf nX12_letters [.inl a2, .inl (9 : Int32)] h).bind fun u1 =>
      zm_X12_rows 149 [some (.inr a0), some (.inl a1), some (.inl a2), some (.inl a3), some (.inl u1.1), some (.inl (0 : Int32))] [] u1.2.2
    else
      (zgF h a0 12 35).bind fun r4 =>
      (zia h r4 a1).bind fun v7 =>
      if v7 = (2 : Int32) then
        zm_X12_rows 88 [some (.inr a0), some (.inl a1), some (.inl a2), some (.inl a3), none, none] [] h
      else
        (zf nX12_letters [.inl a2, .inl (9 : Int32)] h).bind fun u2 =>
        zm_X12_rows 149 [some (.inr a0), some (.inl a1), some (.inl a2), some (.inl a3), some (.inl u2.1), some (.inl (0 : Int32))] [] u2.2.2 := (zZ_eq zFn_mono _ _ _ _).trans rfl
set_option maxRecDepth 50000 in
theorem e_X12_rows_88 (a0 : Nat) (a1 : Int32) (a2 : Int32) (a3 : Int32) (h : zM) : zm_X12_rows 88 [some (.inr a0), some (.inl a1), some (.inl a2), some (.inl a3), none, none] [] h =
  (zgI h a0 12 46).bind fun v1 =>
  (zgF h a0 12 36).bind fun r1 =>
  (zia h r1 a1).bind fun v2 =>
  if v1 < v2 then
    (zgF h a0 12 44).bind fun r2 =>
    (zgI h a0 12 46).bind fun v3 =>
    (zgF h a0 12 37).bind fun r3 =>
    (zgI h a0 12 46).bind fun v4 =>
    (zba h r3 (((600 : Int32) * a1) + v4)).bind fun v5 =>
    (zis h r2 v3 v5).bind fun h1 =>
    (zgI h1 a0 12 46).bind fun v6 =>
    (zpI h1 a0 12 46 (v6 + (1 : Int32))).bind fun h2 =>
    zm_X12_rows 88 [some (.inr a0), some (.inl a1), some (.inl a2), some (.inl a3), none, none] [] h2
  else
    (zf nX12_letters [.inl a2, .inl (9 : Int32)] h).bind fun u1 =>
    zm_X12_rows 149 [some (.inr a0), some (.inl a1), some (.inl a2), some (.inl a3), some (.inl u1.1), some (.inl (0 : Int32))] [] u1.2.2 := (zZ_eq zFn_mono _ _ _ _).trans rfl
set_option maxRecDepth 50000 in
theorem e_X12_rows_149 (a0 : Nat) (a1 : Int32) (a2 : Int32) (a3 : Int32) (a4 : Int32) (a5 : Int32) (h : zM) : zm_X12_rows 149 [some (.inr a0), some (.inl a1), some (.inl a2), some (.inl a3), some (.inl a4), some (.inl a5)] [] h =
  if a5 < a4 then
    (zgF h a0 12 43).bind fun r1 =>
    (zgI h a0 12 45).bind fun v1 =>
    (zf nX12_letter [.inl a2, .inl a4, .inl a5] h).bind fun u1 =>
    (zis u1.2.2 r1 (v1 + a5) u1.1).bind fun h1 =>
    zm_X12_rows 149 [some (.inr a0), some (.inl a1), some (.inl a2), some (.inl a3), some (.inl a4), some (.inl (a5 + (1 : Int32)))] [] h1
  else
    (zgI h a0 12 45).bind fun v2 =>
    (zpI h a0 12 45 (v2 + a4)).bind fun h2 =>
    (zf nX12_letters [.inl a3, .inl (9 : Int32)] h2).bind fun u2 =>
    zm_X12_rows 204 [some (.inr a0), some (.inl a1), some (.inl a2), some (.inl a3), some (.inl u2.1), some (.inl (0 : Int32))] [] u2.2.2 := (zZ_eq zFn_mono _ _ _ _).trans rfl
set_option maxRecDepth 50000 in
theorem e_X12_rows_204 (a0 : Nat) (a1 : Int32) (a2 : Int32) (a3 : Int32) (a4 : Int32) (a5 : Int32) (h : zM) : zm_X12_rows 204 [some (.inr a0), some (.inl a1), some (.inl a2), some (.inl a3), some (.inl a4), some (.inl a5)] [] h =
  if a5 < a4 then
    (zgF h a0 12 44).bind fun r1 =>
    (zgI h a0 12 46).bind fun v1 =>
    (zf nX12_letter [.inl a3, .inl a4, .inl a5] h).bind fun u1 =>
    (zis u1.2.2 r1 (v1 + a5) u1.1).bind fun h1 =>
    zm_X12_rows 204 [some (.inr a0), some (.inl a1), some (.inl a2), some (.inl a3), some (.inl a4), some (.inl (a5 + (1 : Int32)))] [] h1
  else
    (zgI h a0 12 46).bind fun v2 =>
    (zpI h a0 12 46 (v2 + a4)).bind fun h2 =>
    (zpI h2 a0 12 47 (0 : Int32)).bind fun h3 =>
    zm_X12_rows 253 [some (.inr a0), some (.inl a1), some (.inl a2), some (.inl a3), some (.inl a4), some (.inl a5)] [] h3 := (zZ_eq zFn_mono _ _ _ _).trans rfl
set_option maxRecDepth 50000 in
theorem e_X12_rows_253 (a0 : Nat) (a1 : Int32) (a2 : Int32) (a3 : Int32) (a4 : Int32) (a5 : Int32) (h : zM) : zm_X12_rows 253 [some (.inr a0), some (.inl a1), some (.inl a2), some (.inl a3), some (.inl a4), some (.inl a5)] [] h =
  (zgI h a0 12 47).bind fun v1 =>
  (zgI h a0 12 45).bind fun v2 =>
  if v1 < v2 then
    (zgI h a0 12 47).bind fun v3 =>
    (zgI h a0 12 46).bind fun v4 =>
    if v3 < v4 then
      (zgF h a0 12 43).bind fun r1 =>
      (zgI h a0 12 47).bind fun v5 =>
      (zia h r1 v5).bind fun v6 =>
      (zgF h a0 12 44).bind fun r2 =>
      (zgI h a0 12 47).bind fun v7 =>
      (zia h r2 v7).bind fun v8 =>
      if v6 = v8 then
        (zgI h a0 12 47).bind fun v9 =>
        (zpI h a0 12 47 (v9 + (1 : Int32))).bind fun h1 =>
        zm_X12_rows 253 [some (.inr a0), some (.inl a1), some (.inl a2), some (.inl a3), some (.inl a4), some (.inl a5)] [] h1
      else
        some (0, 0, h)
    else
      some (0, 0, h)
  else
    some (0, 0, h) := (zZ_eq zFn_mono _ _ _ _).trans rfl
noncomputable def zm_X12_config : zK4 := zZ zf zo_X12_config [(96, 10), (215, 13), (380, 11)]
set_option maxRecDepth 50000 in
theorem e_X12_config (a0 : Nat) (a1 : Int32) (a2 : Int32) (a3 : Int32) (a4 : Int32) (a5 : Int32) (a6 : Int32) (h : zM) : zf nX12_config [.inr a0, .inl a1, .inl a2, .inl a3, .inl a4, .inl a5, .inl a6] h =
  (zgF h a0 12 41).bind fun r1 =>
  (zba h r1 (((6 : Int32) * a1) + a2)).bind fun v1 =>
  if v1 = 0 then
    some (0, 0, h)
  else
    (zgF h a0 12 42).bind fun r2 =>
    (zia h r2 (((6 : Int32) * a1) + a2)).bind fun v2 =>
    if v2 = (2 : Int32) then
      some (0, 0, h)
    else
      if a3 = 0 then
        (zgI h a0 12 47).bind fun v3 =>
        (zgI h a0 12 45).bind fun v4 =>
        if v3 < v4 then
          (zgI h a0 12 47).bind fun v5 =>
          (zgI h a0 12 46).bind fun v6 =>
          if v5 < v6 then
            zm_X12_config 96 [some (.inr a0), some (.inl a1), some (.inl a2), some (.inl a3), some (.inl a4), some (.inl a5), some (.inl a6), some (.inl (((6 : Int32) * a1) + a2)), some (.inl (3 : Int32)), some (.inl (0 : Int32)), none, none, none] [] h
          else
            (zgI h a0 12 47).bind fun v7 =>
            (zgI h a0 12 45).bind fun v8 =>
            if v7 < v8 then
              zm_X12_config 96 [some (.inr a0), some (.inl a1), some (.inl a2), some (.inl a3), some (.inl a4), some (.inl a5), some (.inl a6), some (.inl (((6 : Int32) * a1) + a2)), some (.inl (1 : Int32)), some (.inl (0 : Int32)), none, none, none] [] h
            else
              (zgI h a0 12 47).bind fun v9 =>
              (zgI h a0 12 46).bind fun v10 =>
              if v9 < v10 then
                zm_X12_config 96 [some (.inr a0), some (.inl a1), some (.inl a2), some (.inl a3), some (.inl a4), some (.inl a5), some (.inl a6), some (.inl (((6 : Int32) * a1) + a2)), some (.inl (2 : Int32)), some (.inl (0 : Int32)), none, none, none] [] h
              else
                zm_X12_config 96 [some (.inr a0), some (.inl a1), some (.inl a2), some (.inl a3), some (.inl a4), some (.inl a5), some (.inl a6), some (.inl (((6 : Int32) * a1) + a2)), some (.inl (0 : Int32)), some (.inl (0 : Int32)), none, none, none] [] h
        else
          (zgI h a0 12 47).bind fun v11 =>
          (zgI h a0 12 45).bind fun v12 =>
          if v11 < v12 then
            zm_X12_config 96 [some (.inr a0), some (.inl a1), some (.inl a2), some (.inl a3), some (.inl a4), some (.inl a5), some (.inl a6), some (.inl (((6 : Int32) * a1) + a2)), some (.inl (1 : Int32)), some (.inl (0 : Int32)), none, none, none] [] h
          else
            (zgI h a0 12 47).bind fun v13 =>
            (zgI h a0 12 46).bind fun v14 =>
            if v13 < v14 then
              zm_X12_config 96 [some (.inr a0), some (.inl a1), some (.inl a2), some (.inl a3), some (.inl a4), some (.inl a5), some (.inl a6), some (.inl (((6 : Int32) * a1) + a2)), some (.inl (2 : Int32)), some (.inl (0 : Int32)), none, none, none] [] h
            else
              zm_X12_config 96 [some (.inr a0), some (.inl a1), some (.inl a2), some (.inl a3), some (.inl a4), some (.inl a5), some (.inl a6), some (.inl (((6 : Int32) * a1) + a2)), some (.inl (0 : Int32)), some (.inl (0 : Int32)), none, none, none] [] h
      else
        zm_X12_config 96 [some (.inr a0), some (.inl a1), some (.inl a2), some (.inl a3), some (.inl a4), some (.inl a5), some (.inl a6), some (.inl (((6 : Int32) * a1) + a2)), some (.inl (3 : Int32)), some (.inl (0 : Int32)), none, none, none] [] h := by
  rw [show zf nX12_config = zFn zrecs 172 from rfl, zFn_eq (M := zr_X12_config) rfl zd_X12_config]
  exact (if_pos (Nat.le_of_ble_eq_true rfl)).trans ((zZ_eq zFn_mono _ _ _ _).trans rfl)
set_option maxRecDepth 50000 in
theorem e_X12_config_96 (a0 : Nat) (a1 : Int32) (a2 : Int32) (a3 : Int32) (a4 : Int32) (a5 : Int32) (a6 : Int32) (a7 : Int32) (a8 : Int32) (a9 : Int32) (h : zM) : zm_X12_config 96 [some (.inr a0), some (.inl a1), some (.inl a2), some (.inl a3), some (.inl a4), some (.inl a5), some (.inl a6), some (.inl a7), some (.inl a8), some (.inl a9), none, none, none] [] h =
  (zgI h a0 12 32).bind fun v1 =>
  if a9 < v1 then
    (zgF h a0 12 33).bind fun r1 =>
    (zia h r1 a9).bind fun v2 =>
    if v2 = a1 then
      (zgF h a0 12 34).bind fun r2 =>
      (zia h r2 a9).bind fun v3 =>
      if v3 = a2 then
        (zgF h a0 12 35).bind fun r3 =>
        (zia h r3 a9).bind fun v4 =>
        if v4 = (3 : Int32) then
          some (0, 0, h)
        else
          if a8 = (1 : Int32) then
            (zgI h a0 12 45).bind fun v5 =>
            (zgI h a0 12 47).bind fun v6 =>
            (zgF h a0 12 35).bind fun r4 =>
            (zia h r4 a9).bind fun v7 =>
            if v7 = a8 then
              (zgF h a0 12 36).bind fun r5 =>
              (zia h r5 a9).bind fun v8 =>
              if v8 = (v5 - v6) then
                zm_X12_config 215 [some (.inr a0), some (.inl a1), some (.inl a2), some (.inl a3), some (.inl a4), some (.inl a5), some (.inl a6), some (.inl a7), some (.inl a8), some (.inl a9), some (.inl (v5 - v6)), some (.inl (1 : Int32)), some (.inl (0 : Int32))] [] h
              else
                zm_X12_config 215 [some (.inr a0), some (.inl a1), some (.inl a2), some (.inl a3), some (.inl a4), some (.inl a5), some (.inl a6), some (.inl a7), some (.inl a8), some (.inl a9), some (.inl (v5 - v6)), some (.inl (0 : Int32)), some (.inl (0 : Int32))] [] h
            else
              zm_X12_config 215 [some (.inr a0), some (.inl a1), some (.inl a2), some (.inl a3), some (.inl a4), some (.inl a5), some (.inl a6), some (.inl a7), some (.inl a8), some (.inl a9), some (.inl (v5 - v6)), some (.inl (0 : Int32)), some (.inl (0 : Int32))] [] h
          else
            if a8 = (2 : Int32) then
              (zgI h a0 12 46).bind fun v9 =>
              (zgI h a0 12 47).bind fun v10 =>
              (zgF h a0 12 35).bind fun r6 =>
              (zia h r6 a9).bind fun v11 =>
              if v11 = a8 then
                (zgF h a0 12 36).bind fun r7 =>
                (zia h r7 a9).bind fun v12 =>
                if v12 = (v9 - v10) then
                  zm_X12_config 215 [some (.inr a0), some (.inl a1), some (.inl a2), some (.inl a3), some (.inl a4), some (.inl a5), some (.inl a6), some (.inl a7), some (.inl a8), some (.inl a9), some (.inl (v9 - v10)), some (.inl (1 : Int32)), some (.inl (0 : Int32))] [] h
                else
                  zm_X12_config 215 [some (.inr a0), some (.inl a1), some (.inl a2), some (.inl a3), some (.inl a4), some (.inl a5), some (.inl a6), some (.inl a7), some (.inl a8), some (.inl a9), some (.inl (v9 - v10)), some (.inl (0 : Int32)), some (.inl (0 : Int32))] [] h
              else
                zm_X12_config 215 [some (.inr a0), some (.inl a1), some (.inl a2), some (.inl a3), some (.inl a4), some (.inl a5), some (.inl a6), some (.inl a7), some (.inl a8), some (.inl a9), some (.inl (v9 - v10)), some (.inl (0 : Int32)), some (.inl (0 : Int32))] [] h
            else
              (zgF h a0 12 35).bind fun r8 =>
              (zia h r8 a9).bind fun v13 =>
              if v13 = a8 then
                (zgF h a0 12 36).bind fun r9 =>
                (zia h r9 a9).bind fun v14 =>
                if v14 = (0 : Int32) then
                  zm_X12_config 215 [some (.inr a0), some (.inl a1), some (.inl a2), some (.inl a3), some (.inl a4), some (.inl a5), some (.inl a6), some (.inl a7), some (.inl a8), some (.inl a9), some (.inl (0 : Int32)), some (.inl (1 : Int32)), some (.inl (0 : Int32))] [] h
                else
                  zm_X12_config 215 [some (.inr a0), some (.inl a1), some (.inl a2), some (.inl a3), some (.inl a4), some (.inl a5), some (.inl a6), some (.inl a7), some (.inl a8), some (.inl a9), some (.inl (0 : Int32)), some (.inl (0 : Int32)), some (.inl (0 : Int32))] [] h
              else
                zm_X12_config 215 [some (.inr a0), some (.inl a1), some (.inl a2), some (.inl a3), some (.inl a4), some (.inl a5), some (.inl a6), some (.inl a7), some (.inl a8), some (.inl a9), some (.inl (0 : Int32)), some (.inl (0 : Int32)), some (.inl (0 : Int32))] [] h
      else
        zm_X12_config 96 [some (.inr a0), some (.inl a1), some (.inl a2), some (.inl a3), some (.inl a4), some (.inl a5), some (.inl a6), some (.inl a7), some (.inl a8), some (.inl (a9 + (1 : Int32))), none, none, none] [] h
    else
      zm_X12_config 96 [some (.inr a0), some (.inl a1), some (.inl a2), some (.inl a3), some (.inl a4), some (.inl a5), some (.inl a6), some (.inl a7), some (.inl a8), some (.inl (a9 + (1 : Int32))), none, none, none] [] h
  else
    (zgI h a0 12 32).bind fun v15 =>
    (zgF h a0 12 33).bind fun r10 =>
    (zis h r10 v15 a1).bind fun h1 =>
    (zgF h1 a0 12 34).bind fun r11 =>
    (zis h1 r11 v15 a2).bind fun h2 =>
    (zgF h2 a0 12 35).bind fun r12 =>
    (zis h2 r12 v15 a8).bind fun h3 =>
    (zgF h3 a0 12 36).bind fun r13 =>
    if a8 = (1 : Int32) then
      (zgI h3 a0 12 45).bind fun v16 =>
      (zgI h3 a0 12 47).bind fun v17 =>
      (zis h3 r13 v15 (v16 - v17)).bind fun h4 =>
      zm_X12_config 380 [some (.inr a0), some (.inl a1), some (.inl a2), some (.inl a3), some (.inl a4), some (.inl a5), some (.inl a6), some (.inl a7), some (.inl a8), some (.inl v15), some (.inl (0 : Int32)), none, none] [] h4
    else
      if a8 = (2 : Int32) then
        (zgI h3 a0 12 46).bind fun v18 =>
        (zgI h3 a0 12 47).bind fun v19 =>
        (zis h3 r13 v15 (v18 - v19)).bind fun h5 =>
        zm_X12_config 380 [some (.inr a0), some (.inl a1), some (.inl a2), some (.inl a3), some (.inl a4), some (.inl a5), some (.inl a6), some (.inl a7), some (.inl a8), some (.inl v15), some (.inl (0 : Int32)), none, none] [] h5
      else
        (zis h3 r13 v15 (0 : Int32)).bind fun h6 =>
        zm_X12_config 380 [some (.inr a0), some (.inl a1), some (.inl a2), some (.inl a3), some (.inl a4), some (.inl a5), some (.inl a6), some (.inl a7), some (.inl a8), some (.inl v15), some (.inl (0 : Int32)), none, none] [] h6 := (zZ_eq zFn_mono _ _ _ _).trans rfl
set_option maxRecDepth 50000 in
theorem e_X12_config_215 (a0 : Nat) (a1 : Int32) (a2 : Int32) (a3 : Int32) (a4 : Int32) (a5 : Int32) (a6 : Int32) (a7 : Int32) (a8 : Int32) (a9 : Int32) (a10 : Int32) (a11 : Int32) (a12 : Int32) (h : zM) : zm_X12_config 215 [some (.inr a0), some (.inl a1), some (.inl a2), some (.inl a3), some (.inl a4), some (.inl a5), some (.inl a6), some (.inl a7), some (.inl a8), some (.inl a9), some (.inl a10), some (.inl a11), some (.inl a12)] [] h =
  if a11 = 0 then
    if a11 = 0 then
      zm_X12_config 96 [some (.inr a0), some (.inl a1), some (.inl a2), some (.inl a3), some (.inl a4), some (.inl a5), some (.inl a6), some (.inl a7), some (.inl a8), some (.inl (a9 + (1 : Int32))), none, none, none] [] h
    else
      some (0, 0, h)
  else
    if a12 < a10 then
      (zgF h a0 12 37).bind fun r1 =>
      (zba h r1 (((600 : Int32) * a9) + a12)).bind fun v1 =>
      if a8 = (1 : Int32) then
        (zgF h a0 12 43).bind fun r2 =>
        (zgI h a0 12 47).bind fun v2 =>
        (zia h r2 (v2 + a12)).bind fun v3 =>
        if v1 = v3 then
          zm_X12_config 215 [some (.inr a0), some (.inl a1), some (.inl a2), some (.inl a3), some (.inl a4), some (.inl a5), some (.inl a6), some (.inl a7), some (.inl a8), some (.inl a9), some (.inl a10), some (.inl (1 : Int32)), some (.inl (a12 + (1 : Int32)))] [] h
        else
          zm_X12_config 215 [some (.inr a0), some (.inl a1), some (.inl a2), some (.inl a3), some (.inl a4), some (.inl a5), some (.inl a6), some (.inl a7), some (.inl a8), some (.inl a9), some (.inl a10), some (.inl (0 : Int32)), some (.inl (a12 + (1 : Int32)))] [] h
      else
        (zgF h a0 12 44).bind fun r3 =>
        (zgI h a0 12 47).bind fun v4 =>
        (zia h r3 (v4 + a12)).bind fun v5 =>
        if v1 = v5 then
          zm_X12_config 215 [some (.inr a0), some (.inl a1), some (.inl a2), some (.inl a3), some (.inl a4), some (.inl a5), some (.inl a6), some (.inl a7), some (.inl a8), some (.inl a9), some (.inl a10), some (.inl (1 : Int32)), some (.inl (a12 + (1 : Int32)))] [] h
        else
          zm_X12_config 215 [some (.inr a0), some (.inl a1), some (.inl a2), some (.inl a3), some (.inl a4), some (.inl a5), some (.inl a6), some (.inl a7), some (.inl a8), some (.inl a9), some (.inl a10), some (.inl (0 : Int32)), some (.inl (a12 + (1 : Int32)))] [] h
    else
      if a11 = 0 then
        zm_X12_config 96 [some (.inr a0), some (.inl a1), some (.inl a2), some (.inl a3), some (.inl a4), some (.inl a5), some (.inl a6), some (.inl a7), some (.inl a8), some (.inl (a9 + (1 : Int32))), none, none, none] [] h
      else
        some (0, 0, h) := (zZ_eq zFn_mono _ _ _ _).trans rfl
set_option maxRecDepth 50000 in
theorem e_X12_config_380 (a0 : Nat) (a1 : Int32) (a2 : Int32) (a3 : Int32) (a4 : Int32) (a5 : Int32) (a6 : Int32) (a7 : Int32) (a8 : Int32) (a9 : Int32) (a10 : Int32) (h : zM) : zm_X12_config 380 [some (.inr a0), some (.inl a1), some (.inl a2), some (.inl a3), some (.inl a4), some (.inl a5), some (.inl a6), some (.inl a7), some (.inl a8), some (.inl a9), some (.inl a10), none, none] [] h =
  (zgF h a0 12 36).bind fun r1 =>
  (zia h r1 a9).bind fun v1 =>
  if a10 < v1 then
    (zgF h a0 12 37).bind fun r2 =>
    if a8 = (1 : Int32) then
      (zgF h a0 12 43).bind fun r3 =>
      (zgI h a0 12 47).bind fun v2 =>
      (zia h r3 (v2 + a10)).bind fun v3 =>
      (zbs h r2 (((600 : Int32) * a9) + a10) (Int8.toInt32 (Int32.toInt8 v3))).bind fun h1 =>
      zm_X12_config 380 [some (.inr a0), some (.inl a1), some (.inl a2), some (.inl a3), some (.inl a4), some (.inl a5), some (.inl a6), some (.inl a7), some (.inl a8), some (.inl a9), some (.inl (a10 + (1 : Int32))), none, none] [] h1
    else
      (zgF h a0 12 44).bind fun r4 =>
      (zgI h a0 12 47).bind fun v4 =>
      (zia h r4 (v4 + a10)).bind fun v5 =>
      (zbs h r2 (((600 : Int32) * a9) + a10) (Int8.toInt32 (Int32.toInt8 v5))).bind fun h2 =>
      zm_X12_config 380 [some (.inr a0), some (.inl a1), some (.inl a2), some (.inl a3), some (.inl a4), some (.inl a5), some (.inl a6), some (.inl a7), some (.inl a8), some (.inl a9), some (.inl (a10 + (1 : Int32))), none, none] [] h2
  else
    (zgF h a0 12 38).bind fun r5 =>
    (zis h r5 a9 a4).bind fun h3 =>
    (zgF h3 a0 12 39).bind fun r6 =>
    (zis h3 r6 a9 a5).bind fun h4 =>
    (zgF h4 a0 12 40).bind fun r7 =>
    (zis h4 r7 a9 a6).bind fun h5 =>
    (zgF h5 a0 12 42).bind fun r8 =>
    (zia h5 r8 a7).bind fun v6 =>
    (zis h5 r8 a7 (v6 + (1 : Int32))).bind fun h6 =>
    (zgI h6 a0 12 32).bind fun v7 =>
    (zpI h6 a0 12 32 (v7 + (1 : Int32))).bind fun h7 =>
    some (0, 0, h7) := (zZ_eq zFn_mono _ _ _ _).trans rfl
noncomputable def zm_X12_parts : zK4 := zZ zf zo_X12_parts []
set_option maxRecDepth 50000 in
theorem e_X12_parts (a0 : Nat) (a1 : Int32) (a2 : Int32) (a3 : Int32) (h : zM) : zf nX12_parts [.inr a0, .inl a1, .inl a2, .inl a3] h =
  (zgF h a0 12 2).bind fun r1 =>
  (zgF h a0 12 33).bind fun r2 =>
  (zia h r2 a3).bind fun v1 =>
  (zia h r1 (((6 : Int32) * a1) + v1)).bind fun v2 =>
  (zgF h a0 12 2).bind fun r3 =>
  (zgF h a0 12 34).bind fun r4 =>
  (zia h r4 a3).bind fun v3 =>
  (zia h r3 (((6 : Int32) * a2) + v3)).bind fun v4 =>
  if v2 = (-1 : Int32) then
    zb (0 : Int32) h
  else
    if v4 = (-1 : Int32) then
      zb (0 : Int32) h
    else
      (zgF h a0 12 35).bind fun r5 =>
      (zia h r5 a3).bind fun v5 =>
      if v5 = (3 : Int32) then
        zb (1 : Int32) h
      else
        zif (zK h a0 = 13) (
        (zf nX12_rows [.inr a0, .inl a3, .inl v2, .inl v4] h).bind fun u1 =>
        (zgI u1.2.2 a0 12 45).bind fun v6 =>
        (zgI u1.2.2 a0 12 46).bind fun v7 =>
        if v6 = v7 then
          (zgI u1.2.2 a0 12 47).bind fun v8 =>
          (zgI u1.2.2 a0 12 45).bind fun v9 =>
          if v8 < v9 then
            zb (1 : Int32) u1.2.2
          else
            zb (0 : Int32) u1.2.2
        else
          zb (1 : Int32) u1.2.2) := by
  rw [show zf nX12_parts = zFn zrecs 173 from rfl, zFn_eq (M := zr_X12_parts) rfl zd_X12_parts]
  exact (if_pos (Nat.le_of_ble_eq_true rfl)).trans ((zZ_eq zFn_mono _ _ _ _).trans rfl)
noncomputable def zm_X12_goOn : zK4 := zZ zf zo_X12_goOn [(6, 7), (28, 8)]
set_option maxRecDepth 50000 in
theorem e_X12_goOn (a0 : Nat) (a1 : Int32) (a2 : Int32) (a3 : Int32) (a4 : Int32) (a5 : Int32) (h : zM) : zf nX12_goOn [.inr a0, .inl a1, .inl a2, .inl a3, .inl a4, .inl a5] h =
  zm_X12_goOn 6 [some (.inr a0), some (.inl a1), some (.inl a2), some (.inl a3), some (.inl a4), some (.inl a5), some (.inl ((30 : Int32) * a1)), none] [] h := by
  rw [show zf nX12_goOn = zFn zrecs 174 from rfl, zFn_eq (M := zr_X12_goOn) rfl zd_X12_goOn]
  exact (if_pos (Nat.le_of_ble_eq_true rfl)).trans ((zZ_eq zFn_mono _ _ _ _).trans rfl)
set_option maxRecDepth 50000 in
theorem e_X12_goOn_6 (a0 : Nat) (a1 : Int32) (a2 : Int32) (a3 : Int32) (a4 : Int32) (a5 : Int32) (a6 : Int32) (h : zM) : zm_X12_goOn 6 [some (.inr a0), some (.inl a1), some (.inl a2), some (.inl a3), some (.inl a4), some (.inl a5), some (.inl a6), none] [] h =
  (zgF h a0 12 3).bind fun r1 =>
  (zia h r1 a1).bind fun v1 =>
  if a6 < (((30 : Int32) * a1) + v1) then
    zm_X12_goOn 28 [some (.inr a0), some (.inl a1), some (.inl a2), some (.inl a3), some (.inl a4), some (.inl a5), some (.inl a6), some (.inl ((30 : Int32) * a2))] [] h
  else
    some (0, 0, h) := (zZ_eq zFn_mono _ _ _ _).trans rfl
set_option maxRecDepth 50000 in
theorem e_X12_goOn_28 (a0 : Nat) (a1 : Int32) (a2 : Int32) (a3 : Int32) (a4 : Int32) (a5 : Int32) (a6 : Int32) (a7 : Int32) (h : zM) : zm_X12_goOn 28 [some (.inr a0), some (.inl a1), some (.inl a2), some (.inl a3), some (.inl a4), some (.inl a5), some (.inl a6), some (.inl a7)] [] h =
  (zgF h a0 12 3).bind fun r1 =>
  (zia h r1 a2).bind fun v1 =>
  if a7 < (((30 : Int32) * a2) + v1) then
    (zgF h a0 12 4).bind fun r2 =>
    (zia h r2 a6).bind fun v2 =>
    (zgF h a0 12 33).bind fun r3 =>
    (zia h r3 a3).bind fun v3 =>
    if v2 = v3 then
      (zgF h a0 12 4).bind fun r4 =>
      (zia h r4 a7).bind fun v4 =>
      (zgF h a0 12 34).bind fun r5 =>
      (zia h r5 a3).bind fun v5 =>
      if v4 = v5 then
        (zgF h a0 12 5).bind fun r6 =>
        (zia h r6 a6).bind fun v6 =>
        if v6 = a4 then
          (zgF h a0 12 5).bind fun r7 =>
          (zia h r7 a7).bind fun v7 =>
          if v7 = a4 then
            (zgF h a0 12 7).bind fun r8 =>
            (zia h r8 a6).bind fun v8 =>
            (zgF h a0 12 7).bind fun r9 =>
            (zia h r9 a7).bind fun v9 =>
            zif (zK h a0 = 13) (
            (zf nX12_rows [.inr a0, .inl a3, .inl v8, .inl v9] h).bind fun u1 =>
            (zgF u1.2.2 a0 12 6).bind fun r10 =>
            (zia u1.2.2 r10 a6).bind fun v10 =>
            (zgF u1.2.2 a0 12 6).bind fun r11 =>
            (zia u1.2.2 r11 a7).bind fun v11 =>
            (zgF u1.2.2 a0 12 35).bind fun r12 =>
            (zia u1.2.2 r12 a3).bind fun v12 =>
            if v12 = (3 : Int32) then
              zif (zK u1.2.2 a0 = 13) (
              (zf nX12_config [.inr a0, .inl v10, .inl v11, .inl (1 : Int32), .inl a3, .inl a4, .inl a5] u1.2.2).bind fun u2 =>
              zm_X12_goOn 28 [some (.inr a0), some (.inl a1), some (.inl a2), some (.inl a3), some (.inl a4), some (.inl a5), some (.inl a6), some (.inl (a7 + (1 : Int32)))] [] u2.2.2)
            else
              zif (zK u1.2.2 a0 = 13) (
              (zf nX12_config [.inr a0, .inl v10, .inl v11, .inl (0 : Int32), .inl a3, .inl a4, .inl a5] u1.2.2).bind fun u3 =>
              zm_X12_goOn 28 [some (.inr a0), some (.inl a1), some (.inl a2), some (.inl a3), some (.inl a4), some (.inl a5), some (.inl a6), some (.inl (a7 + (1 : Int32)))] [] u3.2.2))
          else
            zm_X12_goOn 28 [some (.inr a0), some (.inl a1), some (.inl a2), some (.inl a3), some (.inl a4), some (.inl a5), some (.inl a6), some (.inl (a7 + (1 : Int32)))] [] h
        else
          zm_X12_goOn 28 [some (.inr a0), some (.inl a1), some (.inl a2), some (.inl a3), some (.inl a4), some (.inl a5), some (.inl a6), some (.inl (a7 + (1 : Int32)))] [] h
      else
        zm_X12_goOn 28 [some (.inr a0), some (.inl a1), some (.inl a2), some (.inl a3), some (.inl a4), some (.inl a5), some (.inl a6), some (.inl (a7 + (1 : Int32)))] [] h
    else
      zm_X12_goOn 28 [some (.inr a0), some (.inl a1), some (.inl a2), some (.inl a3), some (.inl a4), some (.inl a5), some (.inl a6), some (.inl (a7 + (1 : Int32)))] [] h
  else
    zm_X12_goOn 6 [some (.inr a0), some (.inl a1), some (.inl a2), some (.inl a3), some (.inl a4), some (.inl a5), some (.inl (a6 + (1 : Int32))), none] [] h := (zZ_eq zFn_mono _ _ _ _).trans rfl
noncomputable def zm_X12_unlike : zK4 := zZ zf zo_X12_unlike [(13, 4), (34, 4), (47, 5), (122, 4), (139, 6), (177, 7), (194, 8), (209, 10)]
set_option maxRecDepth 50000 in
theorem e_X12_unlike (a0 : Nat) (a1 : Int32) (a2 : Int32) (h : zM) : zf nX12_unlike [.inr a0, .inl a1, .inl a2] h =
  zif (zK h a0 = 13) (
  (zf nX12_meets [.inr a0, .inl a1, .inl a2] h).bind fun u1 =>
  (zpI u1.2.2 a0 12 32 (0 : Int32)).bind fun h1 =>
  zm_X12_unlike 13 [some (.inr a0), some (.inl a1), some (.inl a2), some (.inl (0 : Int32)), none, none, none, none, none, none] [] h1) := by
  rw [show zf nX12_unlike = zFn zrecs 175 from rfl, zFn_eq (M := zr_X12_unlike) rfl zd_X12_unlike]
  exact (if_pos (Nat.le_of_ble_eq_true rfl)).trans ((zZ_eq zFn_mono _ _ _ _).trans rfl)
set_option maxRecDepth 50000 in
theorem e_X12_unlike_13 (a0 : Nat) (a1 : Int32) (a2 : Int32) (a3 : Int32) (h : zM) : zm_X12_unlike 13 [some (.inr a0), some (.inl a1), some (.inl a2), some (.inl a3), none, none, none, none, none, none] [] h =
  if a3 < (36 : Int32) then
    (zgF h a0 12 42).bind fun r1 =>
    (zis h r1 a3 (0 : Int32)).bind fun h1 =>
    zm_X12_unlike 13 [some (.inr a0), some (.inl a1), some (.inl a2), some (.inl (a3 + (1 : Int32))), none, none, none, none, none, none] [] h1
  else
    zm_X12_unlike 34 [some (.inr a0), some (.inl a1), some (.inl a2), some (.inl (0 : Int32)), none, none, none, none, none, none] [] h := (zZ_eq zFn_mono _ _ _ _).trans rfl
set_option maxRecDepth 50000 in
theorem e_X12_unlike_34 (a0 : Nat) (a1 : Int32) (a2 : Int32) (a3 : Int32) (h : zM) : zm_X12_unlike 34 [some (.inr a0), some (.inl a1), some (.inl a2), some (.inl a3), none, none, none, none, none, none] [] h =
  (zgF h a0 12 0).bind fun r1 =>
  (zia h r1 a1).bind fun v1 =>
  if a3 < v1 then
    zm_X12_unlike 47 [some (.inr a0), some (.inl a1), some (.inl a2), some (.inl a3), some (.inl (0 : Int32)), none, none, none, none, none] [] h
  else
    zm_X12_unlike 122 [some (.inr a0), some (.inl a1), some (.inl a2), some (.inl (0 : Int32)), none, none, none, none, none, none] [] h := (zZ_eq zFn_mono _ _ _ _).trans rfl
set_option maxRecDepth 50000 in
theorem e_X12_unlike_47 (a0 : Nat) (a1 : Int32) (a2 : Int32) (a3 : Int32) (a4 : Int32) (h : zM) : zm_X12_unlike 47 [some (.inr a0), some (.inl a1), some (.inl a2), some (.inl a3), some (.inl a4), none, none, none, none, none] [] h =
  (zgF h a0 12 0).bind fun r1 =>
  (zia h r1 a2).bind fun v1 =>
  if a4 < v1 then
    (zgF h a0 12 1).bind fun r2 =>
    (zba h r2 (((6 : Int32) * a1) + a3)).bind fun v2 =>
    if v2 = 0 then
      zm_X12_unlike 47 [some (.inr a0), some (.inl a1), some (.inl a2), some (.inl a3), some (.inl (a4 + (1 : Int32))), none, none, none, none, none] [] h
    else
      (zgF h a0 12 1).bind fun r3 =>
      (zba h r3 (((6 : Int32) * a2) + a4)).bind fun v3 =>
      if v3 = 0 then
        zm_X12_unlike 47 [some (.inr a0), some (.inl a1), some (.inl a2), some (.inl a3), some (.inl (a4 + (1 : Int32))), none, none, none, none, none] [] h
      else
        zif (zK h a0 = 13) (
        (zf nX12_rows [.inr a0, .inl (-1 : Int32), .inl (0 : Int32), .inl (0 : Int32)] h).bind fun u1 =>
        zif (zK u1.2.2 a0 = 13) (
        (zf nX12_config [.inr a0, .inl a3, .inl a4, .inl (0 : Int32), .inl (-1 : Int32), .inl (0 : Int32), .inl (0 : Int32)] u1.2.2).bind fun u2 =>
        zm_X12_unlike 47 [some (.inr a0), some (.inl a1), some (.inl a2), some (.inl a3), some (.inl (a4 + (1 : Int32))), none, none, none, none, none] [] u2.2.2))
  else
    zm_X12_unlike 34 [some (.inr a0), some (.inl a1), some (.inl a2), some (.inl (a3 + (1 : Int32))), none, none, none, none, none, none] [] h := (zZ_eq zFn_mono _ _ _ _).trans rfl
set_option maxRecDepth 50000 in
theorem e_X12_unlike_122 (a0 : Nat) (a1 : Int32) (a2 : Int32) (a3 : Int32) (h : zM) : zm_X12_unlike 122 [some (.inr a0), some (.inl a1), some (.inl a2), some (.inl a3), none, none, none, none, none, none] [] h =
  (zgI h a0 12 32).bind fun v1 =>
  if a3 < v1 then
    (zgI h a0 12 32).bind fun v2 =>
    zm_X12_unlike 139 [some (.inr a0), some (.inl a1), some (.inl a2), some (.inl a3), some (.inl v2), some (.inl a3), none, none, none, none] [] h
  else
    some ((-1 : Int32), 0, h) := (zZ_eq zFn_mono _ _ _ _).trans rfl
set_option maxRecDepth 50000 in
theorem e_X12_unlike_139 (a0 : Nat) (a1 : Int32) (a2 : Int32) (a3 : Int32) (a4 : Int32) (a5 : Int32) (h : zM) : zm_X12_unlike 139 [some (.inr a0), some (.inl a1), some (.inl a2), some (.inl a3), some (.inl a4), some (.inl a5), none, none, none, none] [] h =
  if a5 < a4 then
    zif (zK h a0 = 13) (
    (zf nX12_parts [.inr a0, .inl a1, .inl a2, .inl a5] h).bind fun u1 =>
    if u1.1 = 0 then
      zm_X12_unlike 139 [some (.inr a0), some (.inl a1), some (.inl a2), some (.inl a3), some (.inl a4), some (.inl (a5 + (1 : Int32))), none, none, none, none] [] u1.2.2
    else
      some (a5, 0, u1.2.2))
  else
    (zgF h a0 12 40).bind fun r1 =>
    (zia h r1 a3).bind fun v1 =>
    zm_X12_unlike 177 [some (.inr a0), some (.inl a1), some (.inl a2), some (.inl a3), some (.inl a4), some (.inl (0 : Int32)), some (.inl v1), none, none, none] [] h := (zZ_eq zFn_mono _ _ _ _).trans rfl
set_option maxRecDepth 50000 in
theorem e_X12_unlike_177 (a0 : Nat) (a1 : Int32) (a2 : Int32) (a3 : Int32) (a4 : Int32) (a5 : Int32) (a6 : Int32) (h : zM) : zm_X12_unlike 177 [some (.inr a0), some (.inl a1), some (.inl a2), some (.inl a3), some (.inl a4), some (.inl a5), some (.inl a6), none, none, none] [] h =
  (zgF h a0 12 40).bind fun r1 =>
  (zia h r1 (a4 - (1 : Int32))).bind fun v1 =>
  if v1 < a6 then
    zm_X12_unlike 122 [some (.inr a0), some (.inl a1), some (.inl a2), some (.inl a4), none, none, none, none, none, none] [] h
  else
    zm_X12_unlike 194 [some (.inr a0), some (.inl a1), some (.inl a2), some (.inl a3), some (.inl a4), some (.inl a5), some (.inl a6), some (.inl (1 : Int32)), none, none] [] h := (zZ_eq zFn_mono _ _ _ _).trans rfl
set_option maxRecDepth 50000 in
theorem e_X12_unlike_194 (a0 : Nat) (a1 : Int32) (a2 : Int32) (a3 : Int32) (a4 : Int32) (a5 : Int32) (a6 : Int32) (a7 : Int32) (h : zM) : zm_X12_unlike 194 [some (.inr a0), some (.inl a1), some (.inl a2), some (.inl a3), some (.inl a4), some (.inl a5), some (.inl a6), some (.inl a7), none, none] [] h =
  if a7 < (4 : Int32) then
    (zgI h a0 12 32).bind fun v1 =>
    zm_X12_unlike 209 [some (.inr a0), some (.inl a1), some (.inl a2), some (.inl a3), some (.inl a4), some (.inl a5), some (.inl a6), some (.inl a7), some (.inl v1), some (.inl a3)] [] h
  else
    zm_X12_unlike 177 [some (.inr a0), some (.inl a1), some (.inl a2), some (.inl a3), some (.inl a4), some (.inl a5), some (.inl (a6 + (1 : Int32))), none, none, none] [] h := (zZ_eq zFn_mono _ _ _ _).trans rfl
set_option maxRecDepth 50000 in
theorem e_X12_unlike_209 (a0 : Nat) (a1 : Int32) (a2 : Int32) (a3 : Int32) (a4 : Int32) (a5 : Int32) (a6 : Int32) (a7 : Int32) (a8 : Int32) (a9 : Int32) (h : zM) : zm_X12_unlike 209 [some (.inr a0), some (.inl a1), some (.inl a2), some (.inl a3), some (.inl a4), some (.inl a5), some (.inl a6), some (.inl a7), some (.inl a8), some (.inl a9)] [] h =
  if a9 < a4 then
    (zgF h a0 12 40).bind fun r1 =>
    (zia h r1 a9).bind fun v1 =>
    if v1 = a6 then
      zif (zK h a0 = 13) (
      (zf nX12_goOn [.inr a0, .inl a1, .inl a2, .inl a9, .inl a7, .inl a5] h).bind fun u1 =>
      zm_X12_unlike 209 [some (.inr a0), some (.inl a1), some (.inl a2), some (.inl a3), some (.inl a4), some (.inl a5), some (.inl a6), some (.inl a7), some (.inl a8), some (.inl (a9 + (1 : Int32)))] [] u1.2.2)
    else
      zm_X12_unlike 209 [some (.inr a0), some (.inl a1), some (.inl a2), some (.inl a3), some (.inl a4), some (.inl a5), some (.inl a6), some (.inl a7), some (.inl a8), some (.inl (a9 + (1 : Int32)))] [] h
  else
    (zgI h a0 12 32).bind fun v2 =>
    if a8 < v2 then
      zm_X12_unlike 194 [some (.inr a0), some (.inl a1), some (.inl a2), some (.inl a3), some (.inl a4), some (.inl (a5 + (1 : Int32))), some (.inl a6), some (.inl (a7 + (1 : Int32))), none, none] [] h
    else
      zm_X12_unlike 194 [some (.inr a0), some (.inl a1), some (.inl a2), some (.inl a3), some (.inl a4), some (.inl (a5 + (0 : Int32))), some (.inl a6), some (.inl (a7 + (1 : Int32))), none, none] [] h := (zZ_eq zFn_mono _ _ _ _).trans rfl
noncomputable def zm_X12_depth : zK4 := zZ zf zo_X12_depth [(9, 4)]
set_option maxRecDepth 50000 in
theorem e_X12_depth (a0 : Nat) (a1 : Int32) (h : zM) : zf nX12_depth [.inr a0, .inl a1] h =
  (zgF h a0 12 38).bind fun r1 =>
  (zia h r1 a1).bind fun v1 =>
  zm_X12_depth 9 [some (.inr a0), some (.inl a1), some (.inl (0 : Int32)), some (.inl v1)] [] h := by
  rw [show zf nX12_depth = zFn zrecs 176 from rfl, zFn_eq (M := zr_X12_depth) rfl zd_X12_depth]
  exact (if_pos (Nat.le_of_ble_eq_true rfl)).trans ((zZ_eq zFn_mono _ _ _ _).trans rfl)
set_option maxRecDepth 50000 in
theorem e_X12_depth_9 (a0 : Nat) (a1 : Int32) (a2 : Int32) (a3 : Int32) (h : zM) : zm_X12_depth 9 [some (.inr a0), some (.inl a1), some (.inl a2), some (.inl a3)] [] h =
  if a3 < 0 then
    some (a2, 0, h)
  else
    (zgF h a0 12 38).bind fun r1 =>
    (zia h r1 a3).bind fun v1 =>
    zm_X12_depth 9 [some (.inr a0), some (.inl a1), some (.inl (a2 + (1 : Int32))), some (.inl v1)] [] h := (zZ_eq zFn_mono _ _ _ _).trans rfl
noncomputable def zm_X12_wordOf : zK4 := zZ zf zo_X12_wordOf [(18, 4)]
set_option maxRecDepth 50000 in
theorem e_X12_wordOf (a0 : Nat) (a1 : Int32) (h : zM) : zf nX12_wordOf [.inr a0, .inl a1] h =
  zif (zK h a0 = 13) (
  (zf nX12_depth [.inr a0, .inl a1] h).bind fun u1 =>
  (zpI u1.2.2 a0 12 23 u1.1).bind fun h1 =>
  (zgI h1 a0 12 23).bind fun v1 =>
  zm_X12_wordOf 18 [some (.inr a0), some (.inl a1), some (.inl a1), some (.inl (v1 - (1 : Int32)))] [] h1) := by
  rw [show zf nX12_wordOf = zFn zrecs 177 from rfl, zFn_eq (M := zr_X12_wordOf) rfl zd_X12_wordOf]
  exact (if_pos (Nat.le_of_ble_eq_true rfl)).trans ((zZ_eq zFn_mono _ _ _ _).trans rfl)
set_option maxRecDepth 50000 in
theorem e_X12_wordOf_18 (a0 : Nat) (a1 : Int32) (a2 : Int32) (a3 : Int32) (h : zM) : zm_X12_wordOf 18 [some (.inr a0), some (.inl a1), some (.inl a2), some (.inl a3)] [] h =
  if a3 < 0 then
    some (0, 0, h)
  else
    (zgF h a0 12 24).bind fun r1 =>
    (zgF h a0 12 39).bind fun r2 =>
    (zia h r2 a2).bind fun v1 =>
    (zis h r1 a3 v1).bind fun h1 =>
    (zgF h1 a0 12 38).bind fun r3 =>
    (zia h1 r3 a2).bind fun v2 =>
    zm_X12_wordOf 18 [some (.inr a0), some (.inl a1), some (.inl v2), some (.inl (a3 + (-1 : Int32)))] [] h1 := (zZ_eq zFn_mono _ _ _ _).trans rfl
noncomputable def zm_X12_functional : zK4 := zZ zf zo_X12_functional []
set_option maxRecDepth 50000 in
theorem e_X12_functional (a0 : Nat) (a1 : Int32) (h : zM) : zf nX12_functional [.inr a0, .inl a1] h =
  (zf nX12_isMachine [.inl a1] h).bind fun u1 =>
  if u1.1 = 0 then
    some ((-1 : Int32), 0, u1.2.2)
  else
    zif (zK u1.2.2 a0 = 13) (
    (zf nX12_unlike [.inr a0, .inl a1, .inl a1] u1.2.2).bind fun u2 =>
    if u2.1 < 0 then
      some ((1 : Int32), 0, u2.2.2)
    else
      zif (zK u2.2.2 a0 = 13) (
      (zf nX12_wordOf [.inr a0, .inl u2.1] u2.2.2).bind fun u3 =>
      zif (zK u3.2.2 a0 = 13) (
      (zf nX12_leasts [.inr a0, .inl a1] u3.2.2).bind fun u4 =>
      zif (zK u4.2.2 a0 = 13) (
      (zf nX12_keepsOutput [.inr a0, .inl (0 : Int32), .inl (0 : Int32)] u4.2.2).bind fun u5 =>
      zif (zK u5.2.2 a0 = 13) (
      (zf nX12_keepsOutput [.inr a0, .inl (1 : Int32), .inl (1 : Int32)] u5.2.2).bind fun u6 =>
      some ((0 : Int32), 0, u6.2.2)))))) := by
  rw [show zf nX12_functional = zFn zrecs 178 from rfl, zFn_eq (M := zr_X12_functional) rfl zd_X12_functional]
  exact (if_pos (Nat.le_of_ble_eq_true rfl)).trans ((zZ_eq zFn_mono _ _ _ _).trans rfl)
noncomputable def zm_X12_goesBy : zK4 := zZ zf zo_X12_goesBy [(9, 6)]
set_option maxRecDepth 50000 in
theorem e_X12_goesBy (a0 : Nat) (a1 : Int32) (a2 : Int32) (a3 : Int32) (h : zM) : zf nX12_goesBy [.inr a0, .inl a1, .inl a2, .inl a3] h =
  zm_X12_goesBy 9 [some (.inr a0), some (.inl a1), some (.inl a2), some (.inl a3), some (.inl (0 : Int32)), some (.inl ((30 : Int32) * a1))] [] h := by
  rw [show zf nX12_goesBy = zFn zrecs 179 from rfl, zFn_eq (M := zr_X12_goesBy) rfl zd_X12_goesBy]
  exact (if_pos (Nat.le_of_ble_eq_true rfl)).trans ((zZ_eq zFn_mono _ _ _ _).trans rfl)
set_option maxRecDepth 50000 in
theorem e_X12_goesBy_9 (a0 : Nat) (a1 : Int32) (a2 : Int32) (a3 : Int32) (a4 : Int32) (a5 : Int32) (h : zM) : zm_X12_goesBy 9 [some (.inr a0), some (.inl a1), some (.inl a2), some (.inl a3), some (.inl a4), some (.inl a5)] [] h =
  (zgF h a0 12 3).bind fun r1 =>
  (zia h r1 a1).bind fun v1 =>
  if a5 < (((30 : Int32) * a1) + v1) then
    (zgF h a0 12 5).bind fun r2 =>
    (zia h r2 a5).bind fun v2 =>
    if v2 = a3 then
      (zgF h a0 12 4).bind fun r3 =>
      (zia h r3 a5).bind fun v3 =>
      if ((a2 >>> (v3 &&& 31)) &&& (1 : Int32)) = (1 : Int32) then
        (zgF h a0 12 6).bind fun r4 =>
        (zia h r4 a5).bind fun v4 =>
        zm_X12_goesBy 9 [some (.inr a0), some (.inl a1), some (.inl a2), some (.inl a3), some (.inl (a4 ||| ((1 : Int32) <<< (v4 &&& 31)))), some (.inl (a5 + (1 : Int32)))] [] h
      else
        zm_X12_goesBy 9 [some (.inr a0), some (.inl a1), some (.inl a2), some (.inl a3), some (.inl a4), some (.inl (a5 + (1 : Int32)))] [] h
    else
      zm_X12_goesBy 9 [some (.inr a0), some (.inl a1), some (.inl a2), some (.inl a3), some (.inl a4), some (.inl (a5 + (1 : Int32)))] [] h
  else
    some (a4, 0, h) := (zZ_eq zFn_mono _ _ _ _).trans rfl
noncomputable def zm_X12_reads : zK4 := zZ zf zo_X12_reads [(2, 4)]
set_option maxRecDepth 50000 in
theorem e_X12_reads (a0 : Nat) (a1 : Int32) (a2 : Int32) (h : zM) : zf nX12_reads [.inr a0, .inl a1, .inl a2] h =
  zm_X12_reads 2 [some (.inr a0), some (.inl a1), some (.inl a2), some (.inl (0 : Int32))] [] h := by
  rw [show zf nX12_reads = zFn zrecs 180 from rfl, zFn_eq (M := zr_X12_reads) rfl zd_X12_reads]
  exact (if_pos (Nat.le_of_ble_eq_true rfl)).trans ((zZ_eq zFn_mono _ _ _ _).trans rfl)
set_option maxRecDepth 50000 in
theorem e_X12_reads_2 (a0 : Nat) (a1 : Int32) (a2 : Int32) (a3 : Int32) (h : zM) : zm_X12_reads 2 [some (.inr a0), some (.inl a1), some (.inl a2), some (.inl a3)] [] h =
  (zgF h a0 12 0).bind fun r1 =>
  (zia h r1 a1).bind fun v1 =>
  if a3 < v1 then
    if ((a2 >>> (a3 &&& 31)) &&& (1 : Int32)) = (1 : Int32) then
      (zgF h a0 12 2).bind fun r2 =>
      (zia h r2 (((6 : Int32) * a1) + a3)).bind fun v2 =>
      if v2 = (-1 : Int32) then
        zm_X12_reads 2 [some (.inr a0), some (.inl a1), some (.inl a2), some (.inl (a3 + (1 : Int32)))] [] h
      else
        zb (1 : Int32) h
    else
      zm_X12_reads 2 [some (.inr a0), some (.inl a1), some (.inl a2), some (.inl (a3 + (1 : Int32)))] [] h
  else
    zb (0 : Int32) h := (zZ_eq zFn_mono _ _ _ _).trans rfl
noncomputable def zm_X12_set : zK4 := zZ zf zo_X12_set []
set_option maxRecDepth 50000 in
theorem e_X12_set (a0 : Nat) (a1 : Int32) (a2 : Int32) (a3 : Int32) (h : zM) : zf nX12_set [.inr a0, .inl a1, .inl a2, .inl a3] h =
  (zgF h a0 12 52).bind fun r1 =>
  (zba h r1 a1).bind fun v1 =>
  if v1 = 0 then
    (zgF h a0 12 52).bind fun r2 =>
    (zbs h r2 a1 (1 : Int32)).bind fun h1 =>
    (zgF h1 a0 12 49).bind fun r3 =>
    (zgI h1 a0 12 48).bind fun v2 =>
    (zis h1 r3 v2 a1).bind fun h2 =>
    (zgF h2 a0 12 50).bind fun r4 =>
    (zgI h2 a0 12 48).bind fun v3 =>
    (zis h2 r4 v3 a2).bind fun h3 =>
    (zgF h3 a0 12 51).bind fun r5 =>
    (zgI h3 a0 12 48).bind fun v4 =>
    (zis h3 r5 v4 a3).bind fun h4 =>
    (zgI h4 a0 12 48).bind fun v5 =>
    (zpI h4 a0 12 48 (v5 + (1 : Int32))).bind fun h5 =>
    some (0, 0, h5)
  else
    some (0, 0, h) := by
  rw [show zf nX12_set = zFn zrecs 181 from rfl, zFn_eq (M := zr_X12_set) rfl zd_X12_set]
  exact (if_pos (Nat.le_of_ble_eq_true rfl)).trans ((zZ_eq zFn_mono _ _ _ _).trans rfl)
noncomputable def zm_X12_alone : zK4 := zZ zf zo_X12_alone [(2, 2), (31, 3), (112, 3), (155, 4)]
set_option maxRecDepth 50000 in
theorem e_X12_alone (a0 : Nat) (h : zM) : zf nX12_alone [.inr a0] h =
  zm_X12_alone 2 [some (.inr a0), some (.inl (0 : Int32)), none, none] [] h := by
  rw [show zf nX12_alone = zFn zrecs 182 from rfl, zFn_eq (M := zr_X12_alone) rfl zd_X12_alone]
  exact (if_pos (Nat.le_of_ble_eq_true rfl)).trans ((zZ_eq zFn_mono _ _ _ _).trans rfl)
set_option maxRecDepth 50000 in
theorem e_X12_alone_2 (a0 : Nat) (a1 : Int32) (h : zM) : zm_X12_alone 2 [some (.inr a0), some (.inl a1), none, none] [] h =
  if a1 < (4096 : Int32) then
    (zgF h a0 12 52).bind fun r1 =>
    (zbs h r1 a1 (0 : Int32)).bind fun h1 =>
    zm_X12_alone 2 [some (.inr a0), some (.inl (a1 + (1 : Int32))), none, none] [] h1
  else
    (zpI h a0 12 48 (0 : Int32)).bind fun h2 =>
    zm_X12_alone 31 [some (.inr a0), some (.inl (0 : Int32)), some (.inl (0 : Int32)), none] [] h2 := (zZ_eq zFn_mono _ _ _ _).trans rfl
set_option maxRecDepth 50000 in
theorem e_X12_alone_31 (a0 : Nat) (a1 : Int32) (a2 : Int32) (h : zM) : zm_X12_alone 31 [some (.inr a0), some (.inl a1), some (.inl a2), none] [] h =
  if a2 < (6 : Int32) then
    (zgF h a0 12 0).bind fun r1 =>
    (zia h r1 (0 : Int32)).bind fun v1 =>
    if a2 < v1 then
      (zgF h a0 12 1).bind fun r2 =>
      (zba h r2 a2).bind fun v2 =>
      if v2 = 0 then
        (zgF h a0 12 0).bind fun r3 =>
        (zia h r3 (1 : Int32)).bind fun v3 =>
        if a2 < v3 then
          (zgF h a0 12 1).bind fun r4 =>
          (zba h r4 ((6 : Int32) + a2)).bind fun v4 =>
          if v4 = 0 then
            zm_X12_alone 31 [some (.inr a0), some (.inl (a1 ||| ((0 : Int32) ||| (0 : Int32)))), some (.inl (a2 + (1 : Int32))), none] [] h
          else
            zm_X12_alone 31 [some (.inr a0), some (.inl (a1 ||| ((0 : Int32) ||| ((64 : Int32) <<< (a2 &&& 31))))), some (.inl (a2 + (1 : Int32))), none] [] h
        else
          zm_X12_alone 31 [some (.inr a0), some (.inl (a1 ||| ((0 : Int32) ||| (0 : Int32)))), some (.inl (a2 + (1 : Int32))), none] [] h
      else
        (zgF h a0 12 0).bind fun r5 =>
        (zia h r5 (1 : Int32)).bind fun v5 =>
        if a2 < v5 then
          (zgF h a0 12 1).bind fun r6 =>
          (zba h r6 ((6 : Int32) + a2)).bind fun v6 =>
          if v6 = 0 then
            zm_X12_alone 31 [some (.inr a0), some (.inl (a1 ||| (((1 : Int32) <<< (a2 &&& 31)) ||| (0 : Int32)))), some (.inl (a2 + (1 : Int32))), none] [] h
          else
            zm_X12_alone 31 [some (.inr a0), some (.inl (a1 ||| (((1 : Int32) <<< (a2 &&& 31)) ||| ((64 : Int32) <<< (a2 &&& 31))))), some (.inl (a2 + (1 : Int32))), none] [] h
        else
          zm_X12_alone 31 [some (.inr a0), some (.inl (a1 ||| (((1 : Int32) <<< (a2 &&& 31)) ||| (0 : Int32)))), some (.inl (a2 + (1 : Int32))), none] [] h
    else
      (zgF h a0 12 0).bind fun r7 =>
      (zia h r7 (1 : Int32)).bind fun v7 =>
      if a2 < v7 then
        (zgF h a0 12 1).bind fun r8 =>
        (zba h r8 ((6 : Int32) + a2)).bind fun v8 =>
        if v8 = 0 then
          zm_X12_alone 31 [some (.inr a0), some (.inl (a1 ||| ((0 : Int32) ||| (0 : Int32)))), some (.inl (a2 + (1 : Int32))), none] [] h
        else
          zm_X12_alone 31 [some (.inr a0), some (.inl (a1 ||| ((0 : Int32) ||| ((64 : Int32) <<< (a2 &&& 31))))), some (.inl (a2 + (1 : Int32))), none] [] h
      else
        zm_X12_alone 31 [some (.inr a0), some (.inl (a1 ||| ((0 : Int32) ||| (0 : Int32)))), some (.inl (a2 + (1 : Int32))), none] [] h
  else
    zif (zK h a0 = 13) (
    (zf nX12_set [.inr a0, .inl a1, .inl (-1 : Int32), .inl (0 : Int32)] h).bind fun u1 =>
    zm_X12_alone 112 [some (.inr a0), some (.inl a1), some (.inl (0 : Int32)), none] [] u1.2.2) := (zZ_eq zFn_mono _ _ _ _).trans rfl
set_option maxRecDepth 50000 in
theorem e_X12_alone_112 (a0 : Nat) (a1 : Int32) (a2 : Int32) (h : zM) : zm_X12_alone 112 [some (.inr a0), some (.inl a1), some (.inl a2), none] [] h =
  (zgI h a0 12 48).bind fun v1 =>
  if a2 < v1 then
    (zgF h a0 12 49).bind fun r1 =>
    (zia h r1 a2).bind fun v2 =>
    zif (zK h a0 = 13) (
    (zf nX12_reads [.inr a0, .inl (0 : Int32), .inl (v2 &&& (63 : Int32))] h).bind fun u1 =>
    (zgF u1.2.2 a0 12 49).bind fun r2 =>
    (zia u1.2.2 r2 a2).bind fun v3 =>
    zif (zK u1.2.2 a0 = 13) (
    (zf nX12_reads [.inr a0, .inl (1 : Int32), .inl (v3 >>> ((6 : Int32) &&& 31))] u1.2.2).bind fun u2 =>
    if u1.1 = u2.1 then
      zm_X12_alone 155 [some (.inr a0), some (.inl a1), some (.inl a2), some (.inl (1 : Int32))] [] u2.2.2
    else
      some (a2, 0, u2.2.2)))
  else
    some ((-1 : Int32), 0, h) := (zZ_eq zFn_mono _ _ _ _).trans rfl
set_option maxRecDepth 50000 in
theorem e_X12_alone_155 (a0 : Nat) (a1 : Int32) (a2 : Int32) (a3 : Int32) (h : zM) : zm_X12_alone 155 [some (.inr a0), some (.inl a1), some (.inl a2), some (.inl a3)] [] h =
  if a3 < (4 : Int32) then
    (zgF h a0 12 49).bind fun r1 =>
    (zia h r1 a2).bind fun v1 =>
    zif (zK h a0 = 13) (
    (zf nX12_goesBy [.inr a0, .inl (0 : Int32), .inl (v1 &&& (63 : Int32)), .inl a3] h).bind fun u1 =>
    (zgF u1.2.2 a0 12 49).bind fun r2 =>
    (zia u1.2.2 r2 a2).bind fun v2 =>
    zif (zK u1.2.2 a0 = 13) (
    (zf nX12_goesBy [.inr a0, .inl (1 : Int32), .inl (v2 >>> ((6 : Int32) &&& 31)), .inl a3] u1.2.2).bind fun u2 =>
    zif (zK u2.2.2 a0 = 13) (
    (zf nX12_set [.inr a0, .inl (u1.1 ||| (u2.1 <<< ((6 : Int32) &&& 31))), .inl a2, .inl a3] u2.2.2).bind fun u3 =>
    zm_X12_alone 155 [some (.inr a0), some (.inl a1), some (.inl a2), some (.inl (a3 + (1 : Int32)))] [] u3.2.2)))
  else
    zm_X12_alone 112 [some (.inr a0), some (.inl a1), some (.inl (a2 + (1 : Int32))), none] [] h := (zZ_eq zFn_mono _ _ _ _).trans rfl
noncomputable def zm_X12_deepOf : zK4 := zZ zf zo_X12_deepOf [(9, 4)]
set_option maxRecDepth 50000 in
theorem e_X12_deepOf (a0 : Nat) (a1 : Int32) (h : zM) : zf nX12_deepOf [.inr a0, .inl a1] h =
  (zgF h a0 12 50).bind fun r1 =>
  (zia h r1 a1).bind fun v1 =>
  zm_X12_deepOf 9 [some (.inr a0), some (.inl a1), some (.inl (0 : Int32)), some (.inl v1)] [] h := by
  rw [show zf nX12_deepOf = zFn zrecs 183 from rfl, zFn_eq (M := zr_X12_deepOf) rfl zd_X12_deepOf]
  exact (if_pos (Nat.le_of_ble_eq_true rfl)).trans ((zZ_eq zFn_mono _ _ _ _).trans rfl)
set_option maxRecDepth 50000 in
theorem e_X12_deepOf_9 (a0 : Nat) (a1 : Int32) (a2 : Int32) (a3 : Int32) (h : zM) : zm_X12_deepOf 9 [some (.inr a0), some (.inl a1), some (.inl a2), some (.inl a3)] [] h =
  if a3 < 0 then
    some (a2, 0, h)
  else
    (zgF h a0 12 50).bind fun r1 =>
    (zia h r1 a3).bind fun v1 =>
    zm_X12_deepOf 9 [some (.inr a0), some (.inl a1), some (.inl (a2 + (1 : Int32))), some (.inl v1)] [] h := (zZ_eq zFn_mono _ _ _ _).trans rfl
noncomputable def zm_X12_wordOfSet : zK4 := zZ zf zo_X12_wordOfSet [(18, 4)]
set_option maxRecDepth 50000 in
theorem e_X12_wordOfSet (a0 : Nat) (a1 : Int32) (h : zM) : zf nX12_wordOfSet [.inr a0, .inl a1] h =
  zif (zK h a0 = 13) (
  (zf nX12_deepOf [.inr a0, .inl a1] h).bind fun u1 =>
  (zpI u1.2.2 a0 12 23 u1.1).bind fun h1 =>
  (zgI h1 a0 12 23).bind fun v1 =>
  zm_X12_wordOfSet 18 [some (.inr a0), some (.inl a1), some (.inl a1), some (.inl (v1 - (1 : Int32)))] [] h1) := by
  rw [show zf nX12_wordOfSet = zFn zrecs 184 from rfl, zFn_eq (M := zr_X12_wordOfSet) rfl zd_X12_wordOfSet]
  exact (if_pos (Nat.le_of_ble_eq_true rfl)).trans ((zZ_eq zFn_mono _ _ _ _).trans rfl)
set_option maxRecDepth 50000 in
theorem e_X12_wordOfSet_18 (a0 : Nat) (a1 : Int32) (a2 : Int32) (a3 : Int32) (h : zM) : zm_X12_wordOfSet 18 [some (.inr a0), some (.inl a1), some (.inl a2), some (.inl a3)] [] h =
  if a3 < 0 then
    some (0, 0, h)
  else
    (zgF h a0 12 24).bind fun r1 =>
    (zgF h a0 12 51).bind fun r2 =>
    (zia h r2 a2).bind fun v1 =>
    (zis h r1 a3 v1).bind fun h1 =>
    (zgF h1 a0 12 50).bind fun r3 =>
    (zia h1 r3 a2).bind fun v2 =>
    zm_X12_wordOfSet 18 [some (.inr a0), some (.inl a1), some (.inl v2), some (.inl (a3 + (-1 : Int32)))] [] h1 := (zZ_eq zFn_mono _ _ _ _).trans rfl
noncomputable def zm_X12_bothWrote : zK4 := zZ zf zo_X12_bothWrote []
set_option maxRecDepth 50000 in
theorem e_X12_bothWrote (a0 : Nat) (h : zM) : zf nX12_bothWrote [.inr a0] h =
  zif (zK h a0 = 13) (
  (zf nX12_leasts [.inr a0, .inl (0 : Int32)] h).bind fun u1 =>
  zif (zK u1.2.2 a0 = 13) (
  (zf nX12_keepsOutput [.inr a0, .inl (0 : Int32), .inl (0 : Int32)] u1.2.2).bind fun u2 =>
  zif (zK u2.2.2 a0 = 13) (
  (zf nX12_leasts [.inr a0, .inl (1 : Int32)] u2.2.2).bind fun u3 =>
  zif (zK u3.2.2 a0 = 13) (
  (zf nX12_keepsOutput [.inr a0, .inl (1 : Int32), .inl (0 : Int32)] u3.2.2).bind fun u4 =>
  some (0, 0, u4.2.2))))) := by
  rw [show zf nX12_bothWrote = zFn zrecs 185 from rfl, zFn_eq (M := zr_X12_bothWrote) rfl zd_X12_bothWrote]
  exact (if_pos (Nat.le_of_ble_eq_true rfl)).trans ((zZ_eq zFn_mono _ _ _ _).trans rfl)
noncomputable def zm_X12_readers : zK4 := zZ zf zo_X12_readers []
set_option maxRecDepth 50000 in
theorem e_X12_readers (a0 : Nat) (h : zM) : zf nX12_readers [.inr a0] h =
  zif (zK h a0 = 13) (
  (zf nX12_alone [.inr a0] h).bind fun u1 =>
  if u1.1 < 0 then
    some ((1 : Int32), 0, u1.2.2)
  else
    zif (zK u1.2.2 a0 = 13) (
    (zf nX12_wordOfSet [.inr a0, .inl u1.1] u1.2.2).bind fun u2 =>
    zif (zK u2.2.2 a0 = 13) (
    (zf nX12_bothWrote [.inr a0] u2.2.2).bind fun u3 =>
    some ((0 : Int32), 0, u3.2.2)))) := by
  rw [show zf nX12_readers = zFn zrecs 186 from rfl, zFn_eq (M := zr_X12_readers) rfl zd_X12_readers]
  exact (if_pos (Nat.le_of_ble_eq_true rfl)).trans ((zZ_eq zFn_mono _ _ _ _).trans rfl)
noncomputable def zm_X12_isAhead : zK4 := zZ zf zo_X12_isAhead [(40, 5), (92, 9), (164, 9)]
set_option maxRecDepth 50000 in
theorem e_X12_isAhead (a0 : Nat) (a1 : Int32) (a2 : Int32) (h : zM) : zf nX12_isAhead [.inr a0, .inl a1, .inl a2] h =
  zif (zK h a0 = 13) (
  (zf nX12_depth [.inr a0, .inl a1] h).bind fun u1 =>
  zif (zK u1.2.2 a0 = 13) (
  (zf nX12_deepOf [.inr a0, .inl a2] u1.2.2).bind fun u2 =>
  if u1.1 = u2.1 then
    (zgI u2.2.2 a0 12 23).bind fun v1 =>
    zm_X12_isAhead 40 [some (.inr a0), some (.inl a1), some (.inl a2), some (.inl v1), some (.inl (0 : Int32)), none, none, none, none] [] u2.2.2
  else
    zif (zK u2.2.2 a0 = 13) (
    (zf nX12_depth [.inr a0, .inl a1] u2.2.2).bind fun u3 =>
    zif (zK u3.2.2 a0 = 13) (
    (zf nX12_deepOf [.inr a0, .inl a2] u3.2.2).bind fun u4 =>
    if u3.1 < u4.1 then
      zb (1 : Int32) u4.2.2
    else
      zb (0 : Int32) u4.2.2)))) := by
  rw [show zf nX12_isAhead = zFn zrecs 187 from rfl, zFn_eq (M := zr_X12_isAhead) rfl zd_X12_isAhead]
  exact (if_pos (Nat.le_of_ble_eq_true rfl)).trans ((zZ_eq zFn_mono _ _ _ _).trans rfl)
set_option maxRecDepth 50000 in
theorem e_X12_isAhead_40 (a0 : Nat) (a1 : Int32) (a2 : Int32) (a3 : Int32) (a4 : Int32) (h : zM) : zm_X12_isAhead 40 [some (.inr a0), some (.inl a1), some (.inl a2), some (.inl a3), some (.inl a4), none, none, none, none] [] h =
  if a4 < a3 then
    (zgF h a0 12 53).bind fun r1 =>
    (zgF h a0 12 24).bind fun r2 =>
    (zia h r2 a4).bind fun v1 =>
    (zis h r1 a4 v1).bind fun h1 =>
    zm_X12_isAhead 40 [some (.inr a0), some (.inl a1), some (.inl a2), some (.inl a3), some (.inl (a4 + (1 : Int32))), none, none, none, none] [] h1
  else
    zif (zK h a0 = 13) (
    (zf nX12_wordOf [.inr a0, .inl a1] h).bind fun u1 =>
    (zgI u1.2.2 a0 12 23).bind fun v2 =>
    zm_X12_isAhead 92 [some (.inr a0), some (.inl a1), some (.inl a2), some (.inl a3), some (.inl v2), some (.inl (0 : Int32)), some (.inl (0 : Int32)), some (.inl a2), some (.inl (v2 - (1 : Int32)))] [] u1.2.2) := (zZ_eq zFn_mono _ _ _ _).trans rfl
set_option maxRecDepth 50000 in
theorem e_X12_isAhead_92 (a0 : Nat) (a1 : Int32) (a2 : Int32) (a3 : Int32) (a4 : Int32) (a5 : Int32) (a6 : Int32) (a7 : Int32) (a8 : Int32) (h : zM) : zm_X12_isAhead 92 [some (.inr a0), some (.inl a1), some (.inl a2), some (.inl a3), some (.inl a4), some (.inl a5), some (.inl a6), some (.inl a7), some (.inl a8)] [] h =
  if a8 < 0 then
    (zpI h a0 12 23 a3).bind fun h1 =>
    zm_X12_isAhead 164 [some (.inr a0), some (.inl a1), some (.inl a2), some (.inl a3), some (.inl a4), some (.inl a5), some (.inl a6), some (.inl a7), some (.inl (0 : Int32))] [] h1
  else
    (zgF h a0 12 24).bind fun r1 =>
    (zia h r1 a8).bind fun v1 =>
    (zgF h a0 12 51).bind fun r2 =>
    (zia h r2 a7).bind fun v2 =>
    if v1 = v2 then
      (zgF h a0 12 50).bind fun r3 =>
      (zia h r3 a7).bind fun v3 =>
      zm_X12_isAhead 92 [some (.inr a0), some (.inl a1), some (.inl a2), some (.inl a3), some (.inl a4), some (.inl a5), some (.inl a6), some (.inl v3), some (.inl (a8 + (-1 : Int32)))] [] h
    else
      (zgF h a0 12 24).bind fun r4 =>
      (zia h r4 a8).bind fun v4 =>
      (zgF h a0 12 51).bind fun r5 =>
      (zia h r5 a7).bind fun v5 =>
      if v4 < v5 then
        (zgF h a0 12 50).bind fun r6 =>
        (zia h r6 a7).bind fun v6 =>
        zm_X12_isAhead 92 [some (.inr a0), some (.inl a1), some (.inl a2), some (.inl a3), some (.inl a4), some (.inl (1 : Int32)), some (.inl (1 : Int32)), some (.inl v6), some (.inl (a8 + (-1 : Int32)))] [] h
      else
        (zgF h a0 12 50).bind fun r7 =>
        (zia h r7 a7).bind fun v7 =>
        zm_X12_isAhead 92 [some (.inr a0), some (.inl a1), some (.inl a2), some (.inl a3), some (.inl a4), some (.inl (0 : Int32)), some (.inl (1 : Int32)), some (.inl v7), some (.inl (a8 + (-1 : Int32)))] [] h := (zZ_eq zFn_mono _ _ _ _).trans rfl
set_option maxRecDepth 50000 in
theorem e_X12_isAhead_164 (a0 : Nat) (a1 : Int32) (a2 : Int32) (a3 : Int32) (a4 : Int32) (a5 : Int32) (a6 : Int32) (a7 : Int32) (a8 : Int32) (h : zM) : zm_X12_isAhead 164 [some (.inr a0), some (.inl a1), some (.inl a2), some (.inl a3), some (.inl a4), some (.inl a5), some (.inl a6), some (.inl a7), some (.inl a8)] [] h =
  if a8 < a3 then
    (zgF h a0 12 24).bind fun r1 =>
    (zgF h a0 12 53).bind fun r2 =>
    (zia h r2 a8).bind fun v1 =>
    (zis h r1 a8 v1).bind fun h1 =>
    zm_X12_isAhead 164 [some (.inr a0), some (.inl a1), some (.inl a2), some (.inl a3), some (.inl a4), some (.inl a5), some (.inl a6), some (.inl a7), some (.inl (a8 + (1 : Int32)))] [] h1
  else
    if a6 = 0 then
      zb (0 : Int32) h
    else
      if a5 = 0 then
        zb (0 : Int32) h
      else
        zb (1 : Int32) h := (zZ_eq zFn_mono _ _ _ _).trans rfl
noncomputable def zm_X12_same : zK4 := zZ zf zo_X12_same []
set_option maxRecDepth 50000 in
theorem e_X12_same (a0 : Nat) (h : zM) : zf nX12_same [.inr a0] h =
  zif (zK h a0 = 13) (
  (zf nX12_functional [.inr a0, .inl (0 : Int32)] h).bind fun u1 =>
  if u1.1 = 0 then
    some ((-1 : Int32), 0, u1.2.2)
  else
    zif (zK u1.2.2 a0 = 13) (
    (zf nX12_functional [.inr a0, .inl (1 : Int32)] u1.2.2).bind fun u2 =>
    if u2.1 = 0 then
      some ((-1 : Int32), 0, u2.2.2)
    else
      zif (zK u2.2.2 a0 = 13) (
      (zf nX12_unlike [.inr a0, .inl (0 : Int32), .inl (1 : Int32)] u2.2.2).bind fun u3 =>
      zif (zK u3.2.2 a0 = 13) (
      (zf nX12_alone [.inr a0] u3.2.2).bind fun u4 =>
      if u3.1 < 0 then
        if u4.1 < 0 then
          some ((1 : Int32), 0, u4.2.2)
        else
          if u4.1 < 0 then
            if (1 : Int32) = 0 then
              zif (zK u4.2.2 a0 = 13) (
              (zf nX12_wordOfSet [.inr a0, .inl u4.1] u4.2.2).bind fun u5 =>
              zif (zK u5.2.2 a0 = 13) (
              (zf nX12_bothWrote [.inr a0] u5.2.2).bind fun u6 =>
              some ((0 : Int32), 0, u6.2.2)))
            else
              zif (zK u4.2.2 a0 = 13) (
              (zf nX12_wordOf [.inr a0, .inl u3.1] u4.2.2).bind fun u7 =>
              zif (zK u7.2.2 a0 = 13) (
              (zf nX12_bothWrote [.inr a0] u7.2.2).bind fun u8 =>
              some ((0 : Int32), 0, u8.2.2)))
          else
            if u3.1 < 0 then
              if (0 : Int32) = 0 then
                zif (zK u4.2.2 a0 = 13) (
                (zf nX12_wordOfSet [.inr a0, .inl u4.1] u4.2.2).bind fun u9 =>
                zif (zK u9.2.2 a0 = 13) (
                (zf nX12_bothWrote [.inr a0] u9.2.2).bind fun u10 =>
                some ((0 : Int32), 0, u10.2.2)))
              else
                zif (zK u4.2.2 a0 = 13) (
                (zf nX12_wordOf [.inr a0, .inl u3.1] u4.2.2).bind fun u11 =>
                zif (zK u11.2.2 a0 = 13) (
                (zf nX12_bothWrote [.inr a0] u11.2.2).bind fun u12 =>
                some ((0 : Int32), 0, u12.2.2)))
            else
              zif (zK u4.2.2 a0 = 13) (
              (zf nX12_isAhead [.inr a0, .inl u3.1, .inl u4.1] u4.2.2).bind fun u13 =>
              if u13.1 = 0 then
                if (0 : Int32) = 0 then
                  zif (zK u13.2.2 a0 = 13) (
                  (zf nX12_wordOfSet [.inr a0, .inl u4.1] u13.2.2).bind fun u14 =>
                  zif (zK u14.2.2 a0 = 13) (
                  (zf nX12_bothWrote [.inr a0] u14.2.2).bind fun u15 =>
                  some ((0 : Int32), 0, u15.2.2)))
                else
                  zif (zK u13.2.2 a0 = 13) (
                  (zf nX12_wordOf [.inr a0, .inl u3.1] u13.2.2).bind fun u16 =>
                  zif (zK u16.2.2 a0 = 13) (
                  (zf nX12_bothWrote [.inr a0] u16.2.2).bind fun u17 =>
                  some ((0 : Int32), 0, u17.2.2)))
              else
                if (1 : Int32) = 0 then
                  zif (zK u13.2.2 a0 = 13) (
                  (zf nX12_wordOfSet [.inr a0, .inl u4.1] u13.2.2).bind fun u18 =>
                  zif (zK u18.2.2 a0 = 13) (
                  (zf nX12_bothWrote [.inr a0] u18.2.2).bind fun u19 =>
                  some ((0 : Int32), 0, u19.2.2)))
                else
                  zif (zK u13.2.2 a0 = 13) (
                  (zf nX12_wordOf [.inr a0, .inl u3.1] u13.2.2).bind fun u20 =>
                  zif (zK u20.2.2 a0 = 13) (
                  (zf nX12_bothWrote [.inr a0] u20.2.2).bind fun u21 =>
                  some ((0 : Int32), 0, u21.2.2))))
      else
        if u4.1 < 0 then
          if (1 : Int32) = 0 then
            zif (zK u4.2.2 a0 = 13) (
            (zf nX12_wordOfSet [.inr a0, .inl u4.1] u4.2.2).bind fun u22 =>
            zif (zK u22.2.2 a0 = 13) (
            (zf nX12_bothWrote [.inr a0] u22.2.2).bind fun u23 =>
            some ((0 : Int32), 0, u23.2.2)))
          else
            zif (zK u4.2.2 a0 = 13) (
            (zf nX12_wordOf [.inr a0, .inl u3.1] u4.2.2).bind fun u24 =>
            zif (zK u24.2.2 a0 = 13) (
            (zf nX12_bothWrote [.inr a0] u24.2.2).bind fun u25 =>
            some ((0 : Int32), 0, u25.2.2)))
        else
          if u3.1 < 0 then
            if (0 : Int32) = 0 then
              zif (zK u4.2.2 a0 = 13) (
              (zf nX12_wordOfSet [.inr a0, .inl u4.1] u4.2.2).bind fun u26 =>
              zif (zK u26.2.2 a0 = 13) (
              (zf nX12_bothWrote [.inr a0] u26.2.2).bind fun u27 =>
              some ((0 : Int32), 0, u27.2.2)))
            else
              zif (zK u4.2.2 a0 = 13) (
              (zf nX12_wordOf [.inr a0, .inl u3.1] u4.2.2).bind fun u28 =>
              zif (zK u28.2.2 a0 = 13) (
              (zf nX12_bothWrote [.inr a0] u28.2.2).bind fun u29 =>
              some ((0 : Int32), 0, u29.2.2)))
          else
            zif (zK u4.2.2 a0 = 13) (
            (zf nX12_isAhead [.inr a0, .inl u3.1, .inl u4.1] u4.2.2).bind fun u30 =>
            if u30.1 = 0 then
              if (0 : Int32) = 0 then
                zif (zK u30.2.2 a0 = 13) (
                (zf nX12_wordOfSet [.inr a0, .inl u4.1] u30.2.2).bind fun u31 =>
                zif (zK u31.2.2 a0 = 13) (
                (zf nX12_bothWrote [.inr a0] u31.2.2).bind fun u32 =>
                some ((0 : Int32), 0, u32.2.2)))
              else
                zif (zK u30.2.2 a0 = 13) (
                (zf nX12_wordOf [.inr a0, .inl u3.1] u30.2.2).bind fun u33 =>
                zif (zK u33.2.2 a0 = 13) (
                (zf nX12_bothWrote [.inr a0] u33.2.2).bind fun u34 =>
                some ((0 : Int32), 0, u34.2.2)))
            else
              if (1 : Int32) = 0 then
                zif (zK u30.2.2 a0 = 13) (
                (zf nX12_wordOfSet [.inr a0, .inl u4.1] u30.2.2).bind fun u35 =>
                zif (zK u35.2.2 a0 = 13) (
                (zf nX12_bothWrote [.inr a0] u35.2.2).bind fun u36 =>
                some ((0 : Int32), 0, u36.2.2)))
              else
                zif (zK u30.2.2 a0 = 13) (
                (zf nX12_wordOf [.inr a0, .inl u3.1] u30.2.2).bind fun u37 =>
                zif (zK u37.2.2 a0 = 13) (
                (zf nX12_bothWrote [.inr a0] u37.2.2).bind fun u38 =>
                some ((0 : Int32), 0, u38.2.2)))))))) := by
  rw [show zf nX12_same = zFn zrecs 188 from rfl, zFn_eq (M := zr_X12_same) rfl zd_X12_same]
  exact (if_pos (Nat.le_of_ble_eq_true rfl)).trans ((zZ_eq zFn_mono _ _ _ _).trans rfl)
