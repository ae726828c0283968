noncomputable def zm_X12_twin : zK4 := zZ zf zo_X12_twin [(57, 6), (114, 8), (170, 8), (278, 6), (322, 6)]
set_option maxRecDepth 50000 in
theorem e_X12_twin (a0 : Nat) (a1 : Int32) (a2 : Int32) (h : zM) : zf nX12_twin [.inr a0, .inl a1, .inl a2] h =
  (zgI h a0 12 45).bind fun v1 =>
  (zgI h a0 12 47).bind fun v2 =>
  (zgI h a0 12 46).bind fun v3 =>
  (zgI h a0 12 47).bind fun v4 =>
  (zgI h a0 12 59).bind fun v5 =>
  if v5 < (v1 - v2) then
    (zpZ h a0 12 60 (1 : Int32)).bind fun h1 =>
    (zgI h1 a0 12 54).bind fun v6 =>
    if v6 = (1001 : Int32) then
      some (0, 0, h1)
    else
      zm_X12_twin 57 [some (.inr a0), some (.inl a1), some (.inl a2), some (.inl (v1 - v2)), some (.inl (v3 - v4)), some (.inl (0 : Int32)), none, none] [] h1
  else
    (zgI h a0 12 59).bind fun v7 =>
    if v7 < (v3 - v4) then
      (zpZ h a0 12 60 (1 : Int32)).bind fun h2 =>
      (zgI h2 a0 12 54).bind fun v8 =>
      if v8 = (1001 : Int32) then
        some (0, 0, h2)
      else
        zm_X12_twin 57 [some (.inr a0), some (.inl a1), some (.inl a2), some (.inl (v1 - v2)), some (.inl (v3 - v4)), some (.inl (0 : Int32)), none, none] [] h2
    else
      (zgI h a0 12 54).bind fun v9 =>
      if v9 = (1001 : Int32) then
        some (0, 0, h)
      else
        zm_X12_twin 57 [some (.inr a0), some (.inl a1), some (.inl a2), some (.inl (v1 - v2)), some (.inl (v3 - v4)), some (.inl (0 : Int32)), none, none] [] h := by
  rw [show zf nX12_twin = zFn zrecs 189 from rfl, zFn_eq (M := zr_X12_twin) rfl zd_X12_twin]
  exact (if_pos (Nat.le_of_ble_eq_true rfl)).trans ((zZ_eq zFn_mono _ _ _ _).trans rfl)
set_option maxRecDepth 50000 in
theorem e_X12_twin_57 (a0 : Nat) (a1 : Int32) (a2 : Int32) (a3 : Int32) (a4 : Int32) (a5 : Int32) (h : zM) : zm_X12_twin 57 [some (.inr a0), some (.inl a1), some (.inl a2), some (.inl a3), some (.inl a4), some (.inl a5), none, none] [] h =
  (zgI h a0 12 54).bind fun v1 =>
  if a5 < v1 then
    (zgF h a0 12 55).bind fun r1 =>
    (zia h r1 a5).bind fun v2 =>
    if v2 = (((6 : Int32) * a1) + a2) then
      (zgF h a0 12 56).bind fun r2 =>
      (zia h r2 a5).bind fun v3 =>
      if v3 = a3 then
        (zgF h a0 12 57).bind fun r3 =>
        (zia h r3 a5).bind fun v4 =>
        if v4 = a4 then
          zm_X12_twin 114 [some (.inr a0), some (.inl a1), some (.inl a2), some (.inl a3), some (.inl a4), some (.inl a5), some (.inl (1 : Int32)), some (.inl (0 : Int32))] [] h
        else
          zm_X12_twin 57 [some (.inr a0), some (.inl a1), some (.inl a2), some (.inl a3), some (.inl a4), some (.inl (a5 + (1 : Int32))), none, none] [] h
      else
        zm_X12_twin 57 [some (.inr a0), some (.inl a1), some (.inl a2), some (.inl a3), some (.inl a4), some (.inl (a5 + (1 : Int32))), none, none] [] h
    else
      zm_X12_twin 57 [some (.inr a0), some (.inl a1), some (.inl a2), some (.inl a3), some (.inl a4), some (.inl (a5 + (1 : Int32))), none, none] [] h
  else
    (zgF h a0 12 55).bind fun r4 =>
    (zgI h a0 12 54).bind fun v5 =>
    (zis h r4 v5 (((6 : Int32) * a1) + a2)).bind fun h1 =>
    (zgF h1 a0 12 56).bind fun r5 =>
    (zgI h1 a0 12 54).bind fun v6 =>
    (zis h1 r5 v6 a3).bind fun h2 =>
    (zgF h2 a0 12 57).bind fun r6 =>
    (zgI h2 a0 12 54).bind fun v7 =>
    (zis h2 r6 v7 a4).bind fun h3 =>
    zm_X12_twin 278 [some (.inr a0), some (.inl a1), some (.inl a2), some (.inl a3), some (.inl a4), some (.inl (0 : Int32)), none, none] [] h3 := (zZ_eq zFn_mono _ _ _ _).trans rfl
set_option maxRecDepth 50000 in
theorem e_X12_twin_114 (a0 : Nat) (a1 : Int32) (a2 : Int32) (a3 : Int32) (a4 : Int32) (a5 : Int32) (a6 : Int32) (a7 : Int32) (h : zM) : zm_X12_twin 114 [some (.inr a0), some (.inl a1), some (.inl a2), some (.inl a3), some (.inl a4), some (.inl a5), some (.inl a6), some (.inl a7)] [] h =
  if a6 = 0 then
    zm_X12_twin 170 [some (.inr a0), some (.inl a1), some (.inl a2), some (.inl a3), some (.inl a4), some (.inl a5), some (.inl a6), some (.inl (0 : Int32))] [] h
  else
    if a7 < a3 then
      (zgF h a0 12 58).bind fun r1 =>
      (zba h r1 (((224 : Int32) * a5) + a7)).bind fun v1 =>
      (zgF h a0 12 43).bind fun r2 =>
      (zgI h a0 12 47).bind fun v2 =>
      (zia h r2 (v2 + a7)).bind fun v3 =>
      if v1 = v3 then
        zm_X12_twin 114 [some (.inr a0), some (.inl a1), some (.inl a2), some (.inl a3), some (.inl a4), some (.inl a5), some (.inl (1 : Int32)), some (.inl (a7 + (1 : Int32)))] [] h
      else
        zm_X12_twin 114 [some (.inr a0), some (.inl a1), some (.inl a2), some (.inl a3), some (.inl a4), some (.inl a5), some (.inl (0 : Int32)), some (.inl (a7 + (1 : Int32)))] [] h
    else
      zm_X12_twin 170 [some (.inr a0), some (.inl a1), some (.inl a2), some (.inl a3), some (.inl a4), some (.inl a5), some (.inl a6), some (.inl (0 : Int32))] [] h := (zZ_eq zFn_mono _ _ _ _).trans rfl
set_option maxRecDepth 50000 in
theorem e_X12_twin_170 (a0 : Nat) (a1 : Int32) (a2 : Int32) (a3 : Int32) (a4 : Int32) (a5 : Int32) (a6 : Int32) (a7 : Int32) (h : zM) : zm_X12_twin 170 [some (.inr a0), some (.inl a1), some (.inl a2), some (.inl a3), some (.inl a4), some (.inl a5), some (.inl a6), some (.inl a7)] [] h =
  if a6 = 0 then
    if a6 = 0 then
      zm_X12_twin 57 [some (.inr a0), some (.inl a1), some (.inl a2), some (.inl a3), some (.inl a4), some (.inl (a5 + (1 : Int32))), none, none] [] h
    else
      some (0, 0, h)
  else
    if a7 < a4 then
      (zgF h a0 12 58).bind fun r1 =>
      (zba h r1 ((((224 : Int32) * a5) + (112 : Int32)) + a7)).bind fun v1 =>
      (zgF h a0 12 44).bind fun r2 =>
      (zgI h a0 12 47).bind fun v2 =>
      (zia h r2 (v2 + a7)).bind fun v3 =>
      if v1 = v3 then
        zm_X12_twin 170 [some (.inr a0), some (.inl a1), some (.inl a2), some (.inl a3), some (.inl a4), some (.inl a5), some (.inl (1 : Int32)), some (.inl (a7 + (1 : Int32)))] [] h
      else
        zm_X12_twin 170 [some (.inr a0), some (.inl a1), some (.inl a2), some (.inl a3), some (.inl a4), some (.inl a5), some (.inl (0 : Int32)), some (.inl (a7 + (1 : Int32)))] [] h
    else
      if a6 = 0 then
        zm_X12_twin 57 [some (.inr a0), some (.inl a1), some (.inl a2), some (.inl a3), some (.inl a4), some (.inl (a5 + (1 : Int32))), none, none] [] h
      else
        some (0, 0, h) := (zZ_eq zFn_mono _ _ _ _).trans rfl
set_option maxRecDepth 50000 in
theorem e_X12_twin_278 (a0 : Nat) (a1 : Int32) (a2 : Int32) (a3 : Int32) (a4 : Int32) (a5 : Int32) (h : zM) : zm_X12_twin 278 [some (.inr a0), some (.inl a1), some (.inl a2), some (.inl a3), some (.inl a4), some (.inl a5), none, none] [] h =
  if a5 < a3 then
    (zgF h a0 12 58).bind fun r1 =>
    (zgI h a0 12 54).bind fun v1 =>
    (zgF h a0 12 43).bind fun r2 =>
    (zgI h a0 12 47).bind fun v2 =>
    (zia h r2 (v2 + a5)).bind fun v3 =>
    (zbs h r1 (((224 : Int32) * v1) + a5) (Int8.toInt32 (Int32.toInt8 v3))).bind fun h1 =>
    zm_X12_twin 278 [some (.inr a0), some (.inl a1), some (.inl a2), some (.inl a3), some (.inl a4), some (.inl (a5 + (1 : Int32))), none, none] [] h1
  else
    zm_X12_twin 322 [some (.inr a0), some (.inl a1), some (.inl a2), some (.inl a3), some (.inl a4), some (.inl (0 : Int32)), none, none] [] h := (zZ_eq zFn_mono _ _ _ _).trans rfl
set_option maxRecDepth 50000 in
theorem e_X12_twin_322 (a0 : Nat) (a1 : Int32) (a2 : Int32) (a3 : Int32) (a4 : Int32) (a5 : Int32) (h : zM) : zm_X12_twin 322 [some (.inr a0), some (.inl a1), some (.inl a2), some (.inl a3), some (.inl a4), some (.inl a5), none, none] [] h =
  if a5 < a4 then
    (zgF h a0 12 58).bind fun r1 =>
    (zgI h a0 12 54).bind fun v1 =>
    (zgF h a0 12 44).bind fun r2 =>
    (zgI h a0 12 47).bind fun v2 =>
    (zia h r2 (v2 + a5)).bind fun v3 =>
    (zbs h r1 ((((224 : Int32) * v1) + (112 : Int32)) + a5) (Int8.toInt32 (Int32.toInt8 v3))).bind fun h1 =>
    zm_X12_twin 322 [some (.inr a0), some (.inl a1), some (.inl a2), some (.inl a3), some (.inl a4), some (.inl (a5 + (1 : Int32))), none, none] [] h1
  else
    (zgI h a0 12 54).bind fun v4 =>
    (zpI h a0 12 54 (v4 + (1 : Int32))).bind fun h2 =>
    some (0, 0, h2) := (zZ_eq zFn_mono _ _ _ _).trans rfl
noncomputable def zm_X12_twinRows : zK4 := zZ zf zo_X12_twinRows [(23, 5), (61, 5), (110, 6), (165, 6), (214, 6)]
set_option maxRecDepth 50000 in
theorem e_X12_twinRows (a0 : Nat) (a1 : Int32) (a2 : Int32) (a3 : Int32) (h : zM) : zf nX12_twinRows [.inr a0, .inl a1, .inl a2, .inl a3] h =
  (zgF h a0 12 56).bind fun r1 =>
  (zia h r1 a1).bind fun v1 =>
  (zpI h a0 12 45 v1).bind fun h1 =>
  (zgF h1 a0 12 57).bind fun r2 =>
  (zia h1 r2 a1).bind fun v2 =>
  (zpI h1 a0 12 46 v2).bind fun h2 =>
  zm_X12_twinRows 23 [some (.inr a0), some (.inl a1), some (.inl a2), some (.inl a3), some (.inl (0 : Int32)), none] [] h2 := by
  rw [show zf nX12_twinRows = zFn zrecs 190 from rfl, zFn_eq (M := zr_X12_twinRows) rfl zd_X12_twinRows]
  exact (if_pos (Nat.le_of_ble_eq_true rfl)).trans ((zZ_eq zFn_mono _ _ _ _).trans rfl)
set_option maxRecDepth 50000 in
theorem e_X12_twinRows_23 (a0 : Nat) (a1 : Int32) (a2 : Int32) (a3 : Int32) (a4 : Int32) (h : zM) : zm_X12_twinRows 23 [some (.inr a0), some (.inl a1), some (.inl a2), some (.inl a3), some (.inl a4), none] [] h =
  (zgI h a0 12 45).bind fun v1 =>
  if a4 < v1 then
    (zgF h a0 12 43).bind fun r1 =>
    (zgF h a0 12 58).bind fun r2 =>
    (zba h r2 (((224 : Int32) * a1) + a4)).bind fun v2 =>
    (zis h r1 a4 v2).bind fun h1 =>
    zm_X12_twinRows 23 [some (.inr a0), some (.inl a1), some (.inl a2), some (.inl a3), some (.inl (a4 + (1 : Int32))), none] [] h1
  else
    zm_X12_twinRows 61 [some (.inr a0), some (.inl a1), some (.inl a2), some (.inl a3), some (.inl (0 : Int32)), none] [] h := (zZ_eq zFn_mono _ _ _ _).trans rfl
set_option maxRecDepth 50000 in
theorem e_X12_twinRows_61 (a0 : Nat) (a1 : Int32) (a2 : Int32) (a3 : Int32) (a4 : Int32) (h : zM) : zm_X12_twinRows 61 [some (.inr a0), some (.inl a1), some (.inl a2), some (.inl a3), some (.inl a4), none] [] h =
  (zgI h a0 12 46).bind fun v1 =>
  if a4 < v1 then
    (zgF h a0 12 44).bind fun r1 =>
    (zgF h a0 12 58).bind fun r2 =>
    (zba h r2 ((((224 : Int32) * a1) + (112 : Int32)) + a4)).bind fun v2 =>
    (zis h r1 a4 v2).bind fun h1 =>
    zm_X12_twinRows 61 [some (.inr a0), some (.inl a1), some (.inl a2), some (.inl a3), some (.inl (a4 + (1 : Int32))), none] [] h1
  else
    (zf nX12_letters [.inl a2, .inl (9 : Int32)] h).bind fun u1 =>
    zm_X12_twinRows 110 [some (.inr a0), some (.inl a1), some (.inl a2), some (.inl a3), some (.inl u1.1), some (.inl (0 : Int32))] [] u1.2.2 := (zZ_eq zFn_mono _ _ _ _).trans rfl
set_option maxRecDepth 50000 in
theorem e_X12_twinRows_110 (a0 : Nat) (a1 : Int32) (a2 : Int32) (a3 : Int32) (a4 : Int32) (a5 : Int32) (h : zM) : zm_X12_twinRows 110 [some (.inr a0), some (.inl a1), some (.inl a2), some (.inl a3), some (.inl a4), some (.inl a5)] [] h =
  if a5 < a4 then
    (zgF h a0 12 43).bind fun r1 =>
    (zgI h a0 12 45).bind fun v1 =>
    (zf nX12_letter [.inl a2, .inl a4, .inl a5] h).bind fun u1 =>
    (zis u1.2.2 r1 (v1 + a5) u1.1).bind fun h1 =>
    zm_X12_twinRows 110 [some (.inr a0), some (.inl a1), some (.inl a2), some (.inl a3), some (.inl a4), some (.inl (a5 + (1 : Int32)))] [] h1
  else
    (zgI h a0 12 45).bind fun v2 =>
    (zpI h a0 12 45 (v2 + a4)).bind fun h2 =>
    (zf nX12_letters [.inl a3, .inl (9 : Int32)] h2).bind fun u2 =>
    zm_X12_twinRows 165 [some (.inr a0), some (.inl a1), some (.inl a2), some (.inl a3), some (.inl u2.1), some (.inl (0 : Int32))] [] u2.2.2 := (zZ_eq zFn_mono _ _ _ _).trans rfl
set_option maxRecDepth 50000 in
theorem e_X12_twinRows_165 (a0 : Nat) (a1 : Int32) (a2 : Int32) (a3 : Int32) (a4 : Int32) (a5 : Int32) (h : zM) : zm_X12_twinRows 165 [some (.inr a0), some (.inl a1), some (.inl a2), some (.inl a3), some (.inl a4), some (.inl a5)] [] h =
  if a5 < a4 then
    (zgF h a0 12 44).bind fun r1 =>
    (zgI h a0 12 46).bind fun v1 =>
    (zf nX12_letter [.inl a3, .inl a4, .inl a5] h).bind fun u1 =>
    (zis u1.2.2 r1 (v1 + a5) u1.1).bind fun h1 =>
    zm_X12_twinRows 165 [some (.inr a0), some (.inl a1), some (.inl a2), some (.inl a3), some (.inl a4), some (.inl (a5 + (1 : Int32)))] [] h1
  else
    (zgI h a0 12 46).bind fun v2 =>
    (zpI h a0 12 46 (v2 + a4)).bind fun h2 =>
    (zpI h2 a0 12 47 (0 : Int32)).bind fun h3 =>
    zm_X12_twinRows 214 [some (.inr a0), some (.inl a1), some (.inl a2), some (.inl a3), some (.inl a4), some (.inl a5)] [] h3 := (zZ_eq zFn_mono _ _ _ _).trans rfl
set_option maxRecDepth 50000 in
theorem e_X12_twinRows_214 (a0 : Nat) (a1 : Int32) (a2 : Int32) (a3 : Int32) (a4 : Int32) (a5 : Int32) (h : zM) : zm_X12_twinRows 214 [some (.inr a0), some (.inl a1), some (.inl a2), some (.inl a3), some (.inl a4), some (.inl a5)] [] h =
  (zgI h a0 12 47).bind fun v1 =>
  (zgI h a0 12 45).bind fun v2 =>
  if v1 < v2 then
    (zgI h a0 12 47).bind fun v3 =>
    (zgI h a0 12 46).bind fun v4 =>
    if v3 < v4 then
      (zgF h a0 12 43).bind fun r1 =>
      (zgI h a0 12 47).bind fun v5 =>
      (zia h r1 v5).bind fun v6 =>
      (zgF h a0 12 44).bind fun r2 =>
      (zgI h a0 12 47).bind fun v7 =>
      (zia h r2 v7).bind fun v8 =>
      if v6 = v8 then
        (zgI h a0 12 47).bind fun v9 =>
        (zpI h a0 12 47 (v9 + (1 : Int32))).bind fun h1 =>
        zm_X12_twinRows 214 [some (.inr a0), some (.inl a1), some (.inl a2), some (.inl a3), some (.inl a4), some (.inl a5)] [] h1
      else
        some (0, 0, h)
    else
      some (0, 0, h)
  else
    some (0, 0, h) := (zZ_eq zFn_mono _ _ _ _).trans rfl
noncomputable def zm_X12_isUsedArc : zK4 := zZ zf zo_X12_isUsedArc []
set_option maxRecDepth 50000 in
theorem e_X12_isUsedArc (a0 : Nat) (a1 : Int32) (a2 : Int32) (h : zM) : zf nX12_isUsedArc [.inr a0, .inl a1, .inl a2] h =
  (zgF h a0 12 8).bind fun r1 =>
  (zgF h a0 12 4).bind fun r2 =>
  (zia h r2 a2).bind fun v1 =>
  (zba h r1 (((6 : Int32) * a1) + v1)).bind fun v2 =>
  if v2 = 0 then
    zb (0 : Int32) h
  else
    (zgF h a0 12 8).bind fun r3 =>
    (zgF h a0 12 6).bind fun r4 =>
    (zia h r4 a2).bind fun v3 =>
    (zba h r3 (((6 : Int32) * a1) + v3)).bind fun v4 =>
    if v4 = 0 then
      zb (0 : Int32) h
    else
      zb (1 : Int32) h := by
  rw [show zf nX12_isUsedArc = zFn zrecs 191 from rfl, zFn_eq (M := zr_X12_isUsedArc) rfl zd_X12_isUsedArc]
  exact (if_pos (Nat.le_of_ble_eq_true rfl)).trans ((zZ_eq zFn_mono _ _ _ _).trans rfl)
noncomputable def zm_X12_twinsOf : zK4 := zZ zf zo_X12_twinsOf [(7, 5), (53, 5), (156, 5), (170, 6), (264, 5), (314, 7), (327, 8), (349, 9)]
set_option maxRecDepth 50000 in
theorem e_X12_twinsOf (a0 : Nat) (a1 : Int32) (h : zM) : zf nX12_twinsOf [.inr a0, .inl a1] h =
  zm_X12_twinsOf 7 [some (.inr a0), some (.inl a1), some (.inl (0 : Int32)), some (.inl (0 : Int32)), some (.inl (0 : Int32)), none, none, none, none] [] h := by
  rw [show zf nX12_twinsOf = zFn zrecs 192 from rfl, zFn_eq (M := zr_X12_twinsOf) rfl zd_X12_twinsOf]
  exact (if_pos (Nat.le_of_ble_eq_true rfl)).trans ((zZ_eq zFn_mono _ _ _ _).trans rfl)
set_option maxRecDepth 50000 in
theorem e_X12_twinsOf_7 (a0 : Nat) (a1 : Int32) (a2 : Int32) (a3 : Int32) (a4 : Int32) (h : zM) : zm_X12_twinsOf 7 [some (.inr a0), some (.inl a1), some (.inl a2), some (.inl a3), some (.inl a4), none, none, none, none] [] h =
  (zgF h a0 12 0).bind fun r1 =>
  (zia h r1 a1).bind fun v1 =>
  if a4 < v1 then
    (zgF h a0 12 8).bind fun r2 =>
    (zba h r2 (((6 : Int32) * a1) + a4)).bind fun v2 =>
    if v2 = 0 then
      zm_X12_twinsOf 7 [some (.inr a0), some (.inl a1), some (.inl (a2 + (0 : Int32))), some (.inl a3), some (.inl (a4 + (1 : Int32))), none, none, none, none] [] h
    else
      zm_X12_twinsOf 7 [some (.inr a0), some (.inl a1), some (.inl (a2 + (1 : Int32))), some (.inl a3), some (.inl (a4 + (1 : Int32))), none, none, none, none] [] h
  else
    zm_X12_twinsOf 53 [some (.inr a0), some (.inl a1), some (.inl a2), some (.inl a3), some (.inl ((30 : Int32) * a1)), none, none, none, none] [] h := (zZ_eq zFn_mono _ _ _ _).trans rfl
set_option maxRecDepth 50000 in
theorem e_X12_twinsOf_53 (a0 : Nat) (a1 : Int32) (a2 : Int32) (a3 : Int32) (a4 : Int32) (h : zM) : zm_X12_twinsOf 53 [some (.inr a0), some (.inl a1), some (.inl a2), some (.inl a3), some (.inl a4), none, none, none, none] [] h =
  (zgF h a0 12 3).bind fun r1 =>
  (zia h r1 a1).bind fun v1 =>
  if a4 < (((30 : Int32) * a1) + v1) then
    zif (zK h a0 = 13) (
    (zf nX12_isUsedArc [.inr a0, .inl a1, .inl a4] h).bind fun u1 =>
    if u1.1 = 0 then
      zm_X12_twinsOf 53 [some (.inr a0), some (.inl a1), some (.inl a2), some (.inl a3), some (.inl (a4 + (1 : Int32))), none, none, none, none] [] u1.2.2
    else
      (zgF u1.2.2 a0 12 7).bind fun r2 =>
      (zia u1.2.2 r2 a4).bind fun v2 =>
      (zf nX12_letters [.inl v2, .inl (9 : Int32)] u1.2.2).bind fun u2 =>
      if a3 < u2.1 then
        (zgF u2.2.2 a0 12 7).bind fun r3 =>
        (zia u2.2.2 r3 a4).bind fun v3 =>
        (zf nX12_letters [.inl v3, .inl (9 : Int32)] u2.2.2).bind fun u3 =>
        zm_X12_twinsOf 53 [some (.inr a0), some (.inl a1), some (.inl a2), some (.inl u3.1), some (.inl (a4 + (1 : Int32))), none, none, none, none] [] u3.2.2
      else
        zm_X12_twinsOf 53 [some (.inr a0), some (.inl a1), some (.inl a2), some (.inl a3), some (.inl (a4 + (1 : Int32))), none, none, none, none] [] u2.2.2)
  else
    (zpI h a0 12 59 ((a3 * a2) * a2)).bind fun h1 =>
    (zpZ h1 a0 12 60 (0 : Int32)).bind fun h2 =>
    (zpI h2 a0 12 54 (0 : Int32)).bind fun h3 =>
    (zpI h3 a0 12 61 (0 : Int32)).bind fun h4 =>
    (zpI h4 a0 12 45 (0 : Int32)).bind fun h5 =>
    (zpI h5 a0 12 46 (0 : Int32)).bind fun h6 =>
    (zpI h6 a0 12 47 (0 : Int32)).bind fun h7 =>
    zm_X12_twinsOf 156 [some (.inr a0), some (.inl a1), some (.inl a2), some (.inl a3), some (.inl (0 : Int32)), none, none, none, none] [] h7 := (zZ_eq zFn_mono _ _ _ _).trans rfl
set_option maxRecDepth 50000 in
theorem e_X12_twinsOf_156 (a0 : Nat) (a1 : Int32) (a2 : Int32) (a3 : Int32) (a4 : Int32) (h : zM) : zm_X12_twinsOf 156 [some (.inr a0), some (.inl a1), some (.inl a2), some (.inl a3), some (.inl a4), none, none, none, none] [] h =
  (zgF h a0 12 0).bind fun r1 =>
  (zia h r1 a1).bind fun v1 =>
  if a4 < v1 then
    zm_X12_twinsOf 170 [some (.inr a0), some (.inl a1), some (.inl a2), some (.inl a3), some (.inl a4), some (.inl (0 : Int32)), none, none, none] [] h
  else
    zm_X12_twinsOf 264 [some (.inr a0), some (.inl a1), some (.inl a2), some (.inl a3), some (.inl (0 : Int32)), none, none, none, none] [] h := (zZ_eq zFn_mono _ _ _ _).trans rfl
set_option maxRecDepth 50000 in
theorem e_X12_twinsOf_170 (a0 : Nat) (a1 : Int32) (a2 : Int32) (a3 : Int32) (a4 : Int32) (a5 : Int32) (h : zM) : zm_X12_twinsOf 170 [some (.inr a0), some (.inl a1), some (.inl a2), some (.inl a3), some (.inl a4), some (.inl a5), none, none, none] [] h =
  (zgF h a0 12 0).bind fun r1 =>
  (zia h r1 a1).bind fun v1 =>
  if a5 < v1 then
    (zgF h a0 12 8).bind fun r2 =>
    (zba h r2 (((6 : Int32) * a1) + a4)).bind fun v2 =>
    if v2 = 0 then
      zm_X12_twinsOf 170 [some (.inr a0), some (.inl a1), some (.inl a2), some (.inl a3), some (.inl a4), some (.inl (a5 + (1 : Int32))), none, none, none] [] h
    else
      (zgF h a0 12 1).bind fun r3 =>
      (zba h r3 (((6 : Int32) * a1) + a4)).bind fun v3 =>
      if v3 = 0 then
        zm_X12_twinsOf 170 [some (.inr a0), some (.inl a1), some (.inl a2), some (.inl a3), some (.inl a4), some (.inl (a5 + (1 : Int32))), none, none, none] [] h
      else
        (zgF h a0 12 8).bind fun r4 =>
        (zba h r4 (((6 : Int32) * a1) + a5)).bind fun v4 =>
        if v4 = 0 then
          zm_X12_twinsOf 170 [some (.inr a0), some (.inl a1), some (.inl a2), some (.inl a3), some (.inl a4), some (.inl (a5 + (1 : Int32))), none, none, none] [] h
        else
          (zgF h a0 12 1).bind fun r5 =>
          (zba h r5 (((6 : Int32) * a1) + a5)).bind fun v5 =>
          if v5 = 0 then
            zm_X12_twinsOf 170 [some (.inr a0), some (.inl a1), some (.inl a2), some (.inl a3), some (.inl a4), some (.inl (a5 + (1 : Int32))), none, none, none] [] h
          else
            zif (zK h a0 = 13) (
            (zf nX12_twin [.inr a0, .inl a4, .inl a5] h).bind fun u1 =>
            zm_X12_twinsOf 170 [some (.inr a0), some (.inl a1), some (.inl a2), some (.inl a3), some (.inl a4), some (.inl (a5 + (1 : Int32))), none, none, none] [] u1.2.2)
  else
    zm_X12_twinsOf 156 [some (.inr a0), some (.inl a1), some (.inl a2), some (.inl a3), some (.inl (a4 + (1 : Int32))), none, none, none, none] [] h := (zZ_eq zFn_mono _ _ _ _).trans rfl
set_option maxRecDepth 50000 in
theorem e_X12_twinsOf_264 (a0 : Nat) (a1 : Int32) (a2 : Int32) (a3 : Int32) (a4 : Int32) (h : zM) : zm_X12_twinsOf 264 [some (.inr a0), some (.inl a1), some (.inl a2), some (.inl a3), some (.inl a4), none, none, none, none] [] h =
  (zgI h a0 12 54).bind fun v1 =>
  if a4 < v1 then
    (zgI h a0 12 61).bind fun v2 =>
    (zpI h a0 12 61 (v2 + (1 : Int32))).bind fun h1 =>
    (zgI h1 a0 12 60).bind fun v3 =>
    if v3 = 0 then
      (zgI h1 a0 12 54).bind fun v4 =>
      if v4 = (1001 : Int32) then
        some ((2 : Int32), 0, h1)
      else
        (zgI h1 a0 12 54).bind fun v5 =>
        zm_X12_twinsOf 314 [some (.inr a0), some (.inl a1), some (.inl a2), some (.inl a3), some (.inl a4), some (.inl v5), some (.inl a4), none, none] [] h1
    else
      some ((0 : Int32), 0, h1)
  else
    some ((1 : Int32), 0, h) := (zZ_eq zFn_mono _ _ _ _).trans rfl
set_option maxRecDepth 50000 in
theorem e_X12_twinsOf_314 (a0 : Nat) (a1 : Int32) (a2 : Int32) (a3 : Int32) (a4 : Int32) (a5 : Int32) (a6 : Int32) (h : zM) : zm_X12_twinsOf 314 [some (.inr a0), some (.inl a1), some (.inl a2), some (.inl a3), some (.inl a4), some (.inl a5), some (.inl a6), none, none] [] h =
  if a6 < a5 then
    zm_X12_twinsOf 327 [some (.inr a0), some (.inl a1), some (.inl a2), some (.inl a3), some (.inl a4), some (.inl a5), some (.inl a6), some (.inl ((30 : Int32) * a1)), none] [] h
  else
    zm_X12_twinsOf 264 [some (.inr a0), some (.inl a1), some (.inl a2), some (.inl a3), some (.inl a5), none, none, none, none] [] h := (zZ_eq zFn_mono _ _ _ _).trans rfl
set_option maxRecDepth 50000 in
theorem e_X12_twinsOf_327 (a0 : Nat) (a1 : Int32) (a2 : Int32) (a3 : Int32) (a4 : Int32) (a5 : Int32) (a6 : Int32) (a7 : Int32) (h : zM) : zm_X12_twinsOf 327 [some (.inr a0), some (.inl a1), some (.inl a2), some (.inl a3), some (.inl a4), some (.inl a5), some (.inl a6), some (.inl a7), none] [] h =
  (zgF h a0 12 3).bind fun r1 =>
  (zia h r1 a1).bind fun v1 =>
  if a7 < (((30 : Int32) * a1) + v1) then
    zm_X12_twinsOf 349 [some (.inr a0), some (.inl a1), some (.inl a2), some (.inl a3), some (.inl a4), some (.inl a5), some (.inl a6), some (.inl a7), some (.inl ((30 : Int32) * a1))] [] h
  else
    zm_X12_twinsOf 314 [some (.inr a0), some (.inl a1), some (.inl a2), some (.inl a3), some (.inl a4), some (.inl a5), some (.inl (a6 + (1 : Int32))), none, none] [] h := (zZ_eq zFn_mono _ _ _ _).trans rfl
set_option maxRecDepth 50000 in
theorem e_X12_twinsOf_349 (a0 : Nat) (a1 : Int32) (a2 : Int32) (a3 : Int32) (a4 : Int32) (a5 : Int32) (a6 : Int32) (a7 : Int32) (a8 : Int32) (h : zM) : zm_X12_twinsOf 349 [some (.inr a0), some (.inl a1), some (.inl a2), some (.inl a3), some (.inl a4), some (.inl a5), some (.inl a6), some (.inl a7), some (.inl a8)] [] h =
  (zgF h a0 12 3).bind fun r1 =>
  (zia h r1 a1).bind fun v1 =>
  if a8 < (((30 : Int32) * a1) + v1) then
    (zgF h a0 12 4).bind fun r2 =>
    (zia h r2 a7).bind fun v2 =>
    (zgF h a0 12 55).bind fun r3 =>
    (zia h r3 a6).bind fun v3 =>
    if (6 : Int32) = 0 then none else
    if v2 = (v3 / (6 : Int32)) then
      (zgF h a0 12 4).bind fun r4 =>
      (zia h r4 a8).bind fun v4 =>
      (zgF h a0 12 55).bind fun r5 =>
      (zia h r5 a6).bind fun v5 =>
      if (6 : Int32) = 0 then none else
      if v4 = (v5 - v5 / (6 : Int32) * (6 : Int32)) then
        (zgF h a0 12 5).bind fun r6 =>
        (zia h r6 a7).bind fun v6 =>
        (zgF h a0 12 5).bind fun r7 =>
        (zia h r7 a8).bind fun v7 =>
        if v6 = v7 then
          zif (zK h a0 = 13) (
          (zf nX12_isUsedArc [.inr a0, .inl a1, .inl a7] h).bind fun u1 =>
          if u1.1 = 0 then
            zm_X12_twinsOf 349 [some (.inr a0), some (.inl a1), some (.inl a2), some (.inl a3), some (.inl a4), some (.inl a5), some (.inl a6), some (.inl a7), some (.inl (a8 + (1 : Int32)))] [] u1.2.2
          else
            zif (zK u1.2.2 a0 = 13) (
            (zf nX12_isUsedArc [.inr a0, .inl a1, .inl a8] u1.2.2).bind fun u2 =>
            if u2.1 = 0 then
              zm_X12_twinsOf 349 [some (.inr a0), some (.inl a1), some (.inl a2), some (.inl a3), some (.inl a4), some (.inl a5), some (.inl a6), some (.inl a7), some (.inl (a8 + (1 : Int32)))] [] u2.2.2
            else
              (zgF u2.2.2 a0 12 7).bind fun r8 =>
              (zia u2.2.2 r8 a7).bind fun v8 =>
              (zgF u2.2.2 a0 12 7).bind fun r9 =>
              (zia u2.2.2 r9 a8).bind fun v9 =>
              zif (zK u2.2.2 a0 = 13) (
              (zf nX12_twinRows [.inr a0, .inl a6, .inl v8, .inl v9] u2.2.2).bind fun u3 =>
              (zgF u3.2.2 a0 12 6).bind fun r10 =>
              (zia u3.2.2 r10 a7).bind fun v10 =>
              (zgF u3.2.2 a0 12 6).bind fun r11 =>
              (zia u3.2.2 r11 a8).bind fun v11 =>
              zif (zK u3.2.2 a0 = 13) (
              (zf nX12_twin [.inr a0, .inl v10, .inl v11] u3.2.2).bind fun u4 =>
              zm_X12_twinsOf 349 [some (.inr a0), some (.inl a1), some (.inl a2), some (.inl a3), some (.inl a4), some (.inl a5), some (.inl a6), some (.inl a7), some (.inl (a8 + (1 : Int32)))] [] u4.2.2))))
        else
          zm_X12_twinsOf 349 [some (.inr a0), some (.inl a1), some (.inl a2), some (.inl a3), some (.inl a4), some (.inl a5), some (.inl a6), some (.inl a7), some (.inl (a8 + (1 : Int32)))] [] h
      else
        zm_X12_twinsOf 349 [some (.inr a0), some (.inl a1), some (.inl a2), some (.inl a3), some (.inl a4), some (.inl a5), some (.inl a6), some (.inl a7), some (.inl (a8 + (1 : Int32)))] [] h
    else
      zm_X12_twinsOf 349 [some (.inr a0), some (.inl a1), some (.inl a2), some (.inl a3), some (.inl a4), some (.inl a5), some (.inl a6), some (.inl a7), some (.inl (a8 + (1 : Int32)))] [] h
  else
    zm_X12_twinsOf 327 [some (.inr a0), some (.inl a1), some (.inl a2), some (.inl a3), some (.inl a4), some (.inl a5), some (.inl a6), some (.inl (a7 + (1 : Int32))), none] [] h := (zZ_eq zFn_mono _ _ _ _).trans rfl
noncomputable def zm_X12_draws : zK4 := zZ zf zo_X12_draws [(6, 4), (40, 5)]
set_option maxRecDepth 50000 in
theorem e_X12_draws (a0 : Nat) (h : zM) : zf nX12_draws [.inr a0] h =
  zm_X12_draws 6 [some (.inr a0), some (.inl (-1 : Int32)), some (.inl (-1 : Int32)), some (.inl (0 : Int32)), none] [] h := by
  rw [show zf nX12_draws = zFn zrecs 193 from rfl, zFn_eq (M := zr_X12_draws) rfl zd_X12_draws]
  exact (if_pos (Nat.le_of_ble_eq_true rfl)).trans ((zZ_eq zFn_mono _ _ _ _).trans rfl)
set_option maxRecDepth 50000 in
theorem e_X12_draws_6 (a0 : Nat) (a1 : Int32) (a2 : Int32) (a3 : Int32) (h : zM) : zm_X12_draws 6 [some (.inr a0), some (.inl a1), some (.inl a2), some (.inl a3), none] [] h =
  if a3 < (6 : Int32) then
    (zgF h a0 12 70).bind fun r1 =>
    (zia h r1 a3).bind fun v1 =>
    if v1 < 0 then
      zm_X12_draws 6 [some (.inr a0), some (.inl a1), some (.inl a2), some (.inl (a3 + (1 : Int32))), none] [] h
    else
      if a2 < 0 then
        (zgF h a0 12 70).bind fun r2 =>
        (zia h r2 a3).bind fun v2 =>
        zm_X12_draws 40 [some (.inr a0), some (.inl v2), some (.inl a3), some (.inl a3), some (.inl (0 : Int32))] [] h
      else
        zm_X12_draws 40 [some (.inr a0), some (.inl a1), some (.inl a2), some (.inl a3), some (.inl (0 : Int32))] [] h
  else
    some (a1, 0, h) := (zZ_eq zFn_mono _ _ _ _).trans rfl
set_option maxRecDepth 50000 in
theorem e_X12_draws_40 (a0 : Nat) (a1 : Int32) (a2 : Int32) (a3 : Int32) (a4 : Int32) (h : zM) : zm_X12_draws 40 [some (.inr a0), some (.inl a1), some (.inl a2), some (.inl a3), some (.inl a4)] [] h =
  if a4 < a1 then
    (zgF h a0 12 70).bind fun r1 =>
    (zia h r1 a3).bind fun v1 =>
    if a4 < v1 then
      (zgF h a0 12 71).bind fun r2 =>
      (zba h r2 (((120 : Int32) * a3) + a4)).bind fun v2 =>
      (zgF h a0 12 71).bind fun r3 =>
      (zba h r3 (((120 : Int32) * a2) + a4)).bind fun v3 =>
      if v2 = v3 then
        zm_X12_draws 40 [some (.inr a0), some (.inl a1), some (.inl a2), some (.inl a3), some (.inl (a4 + (1 : Int32)))] [] h
      else
        zm_X12_draws 6 [some (.inr a0), some (.inl a4), some (.inl a2), some (.inl (a3 + (1 : Int32))), none] [] h
    else
      zm_X12_draws 6 [some (.inr a0), some (.inl a4), some (.inl a2), some (.inl (a3 + (1 : Int32))), none] [] h
  else
    zm_X12_draws 6 [some (.inr a0), some (.inl a4), some (.inl a2), some (.inl (a3 + (1 : Int32))), none] [] h := (zZ_eq zFn_mono _ _ _ _).trans rfl
noncomputable def zm_X12_setOfNow : zK4 := zZ zf zo_X12_setOfNow [(2, 3), (15, 5), (77, 7), (168, 3), (214, 5)]
set_option maxRecDepth 50000 in
theorem e_X12_setOfNow (a0 : Nat) (a1 : Int32) (h : zM) : zf nX12_setOfNow [.inr a0, .inl a1] h =
  zm_X12_setOfNow 2 [some (.inr a0), some (.inl a1), some (.inl (0 : Int32)), none, none, none, none] [] h := by
  rw [show zf nX12_setOfNow = zFn zrecs 194 from rfl, zFn_eq (M := zr_X12_setOfNow) rfl zd_X12_setOfNow]
  exact (if_pos (Nat.le_of_ble_eq_true rfl)).trans ((zZ_eq zFn_mono _ _ _ _).trans rfl)
set_option maxRecDepth 50000 in
theorem e_X12_setOfNow_2 (a0 : Nat) (a1 : Int32) (a2 : Int32) (h : zM) : zm_X12_setOfNow 2 [some (.inr a0), some (.inl a1), some (.inl a2), none, none, none, none] [] h =
  (zgI h a0 12 64).bind fun v1 =>
  if a2 < v1 then
    zm_X12_setOfNow 15 [some (.inr a0), some (.inl a1), some (.inl a2), some (.inl (1 : Int32)), some (.inl (0 : Int32)), none, none] [] h
  else
    (zgI h a0 12 64).bind fun v2 =>
    if v2 = (101 : Int32) then
      some ((101 : Int32), 0, h)
    else
      zm_X12_setOfNow 168 [some (.inr a0), some (.inl a1), some (.inl (0 : Int32)), none, none, none, none] [] h := (zZ_eq zFn_mono _ _ _ _).trans rfl
set_option maxRecDepth 50000 in
theorem e_X12_setOfNow_15 (a0 : Nat) (a1 : Int32) (a2 : Int32) (a3 : Int32) (a4 : Int32) (h : zM) : zm_X12_setOfNow 15 [some (.inr a0), some (.inl a1), some (.inl a2), some (.inl a3), some (.inl a4), none, none] [] h =
  if a3 = 0 then
    if a3 = 0 then
      zm_X12_setOfNow 2 [some (.inr a0), some (.inl a1), some (.inl (a2 + (1 : Int32))), none, none, none, none] [] h
    else
      some (a2, 0, h)
  else
    if a4 < (6 : Int32) then
      (zgF h a0 12 70).bind fun r1 =>
      (zia h r1 a4).bind fun v1 =>
      if v1 < 0 then
        (zgF h a0 12 65).bind fun r2 =>
        (zia h r2 (((6 : Int32) * a2) + a4)).bind fun v2 =>
        if v2 = (-1 : Int32) then
          zm_X12_setOfNow 77 [some (.inr a0), some (.inl a1), some (.inl a2), some (.inl (1 : Int32)), some (.inl a4), some (.inl (-1 : Int32)), some (.inl (0 : Int32))] [] h
        else
          zm_X12_setOfNow 77 [some (.inr a0), some (.inl a1), some (.inl a2), some (.inl (0 : Int32)), some (.inl a4), some (.inl (-1 : Int32)), some (.inl (0 : Int32))] [] h
      else
        (zgF h a0 12 70).bind fun r3 =>
        (zia h r3 a4).bind fun v3 =>
        (zgF h a0 12 65).bind fun r4 =>
        (zia h r4 (((6 : Int32) * a2) + a4)).bind fun v4 =>
        if v4 = (v3 - a1) then
          zm_X12_setOfNow 77 [some (.inr a0), some (.inl a1), some (.inl a2), some (.inl (1 : Int32)), some (.inl a4), some (.inl (v3 - a1)), some (.inl (0 : Int32))] [] h
        else
          zm_X12_setOfNow 77 [some (.inr a0), some (.inl a1), some (.inl a2), some (.inl (0 : Int32)), some (.inl a4), some (.inl (v3 - a1)), some (.inl (0 : Int32))] [] h
    else
      if a3 = 0 then
        zm_X12_setOfNow 2 [some (.inr a0), some (.inl a1), some (.inl (a2 + (1 : Int32))), none, none, none, none] [] h
      else
        some (a2, 0, h) := (zZ_eq zFn_mono _ _ _ _).trans rfl
set_option maxRecDepth 50000 in
theorem e_X12_setOfNow_77 (a0 : Nat) (a1 : Int32) (a2 : Int32) (a3 : Int32) (a4 : Int32) (a5 : Int32) (a6 : Int32) (h : zM) : zm_X12_setOfNow 77 [some (.inr a0), some (.inl a1), some (.inl a2), some (.inl a3), some (.inl a4), some (.inl a5), some (.inl a6)] [] h =
  if a3 = 0 then
    zm_X12_setOfNow 15 [some (.inr a0), some (.inl a1), some (.inl a2), some (.inl a3), some (.inl (a4 + (1 : Int32))), none, none] [] h
  else
    if a6 < a5 then
      (zgF h a0 12 66).bind fun r1 =>
      (zba h r1 (((120 : Int32) * (((6 : Int32) * a2) + a4)) + a6)).bind fun v1 =>
      (zgF h a0 12 71).bind fun r2 =>
      (zba h r2 ((((120 : Int32) * a4) + a1) + a6)).bind fun v2 =>
      if v1 = v2 then
        zm_X12_setOfNow 77 [some (.inr a0), some (.inl a1), some (.inl a2), some (.inl (1 : Int32)), some (.inl a4), some (.inl a5), some (.inl (a6 + (1 : Int32)))] [] h
      else
        zm_X12_setOfNow 77 [some (.inr a0), some (.inl a1), some (.inl a2), some (.inl (0 : Int32)), some (.inl a4), some (.inl a5), some (.inl (a6 + (1 : Int32)))] [] h
    else
      zm_X12_setOfNow 15 [some (.inr a0), some (.inl a1), some (.inl a2), some (.inl a3), some (.inl (a4 + (1 : Int32))), none, none] [] h := (zZ_eq zFn_mono _ _ _ _).trans rfl
set_option maxRecDepth 50000 in
theorem e_X12_setOfNow_168 (a0 : Nat) (a1 : Int32) (a2 : Int32) (h : zM) : zm_X12_setOfNow 168 [some (.inr a0), some (.inl a1), some (.inl a2), none, none, none, none] [] h =
  if a2 < (6 : Int32) then
    (zgF h a0 12 70).bind fun r1 =>
    (zia h r1 a2).bind fun v1 =>
    if v1 < 0 then
      (zgF h a0 12 65).bind fun r2 =>
      (zgI h a0 12 64).bind fun v2 =>
      (zis h r2 (((6 : Int32) * v2) + a2) (-1 : Int32)).bind fun h1 =>
      zm_X12_setOfNow 214 [some (.inr a0), some (.inl a1), some (.inl a2), some (.inl (-1 : Int32)), some (.inl (0 : Int32)), none, none] [] h1
    else
      (zgF h a0 12 70).bind fun r3 =>
      (zia h r3 a2).bind fun v3 =>
      (zgF h a0 12 65).bind fun r4 =>
      (zgI h a0 12 64).bind fun v4 =>
      (zis h r4 (((6 : Int32) * v4) + a2) (v3 - a1)).bind fun h2 =>
      zm_X12_setOfNow 214 [some (.inr a0), some (.inl a1), some (.inl a2), some (.inl (v3 - a1)), some (.inl (0 : Int32)), none, none] [] h2
  else
    (zgI h a0 12 64).bind fun v5 =>
    (zpI h a0 12 64 (v5 + (1 : Int32))).bind fun h3 =>
    (zgI h3 a0 12 64).bind fun v6 =>
    some ((v6 - (1 : Int32)), 0, h3) := (zZ_eq zFn_mono _ _ _ _).trans rfl
set_option maxRecDepth 50000 in
theorem e_X12_setOfNow_214 (a0 : Nat) (a1 : Int32) (a2 : Int32) (a3 : Int32) (a4 : Int32) (h : zM) : zm_X12_setOfNow 214 [some (.inr a0), some (.inl a1), some (.inl a2), some (.inl a3), some (.inl a4), none, none] [] h =
  if a4 < a3 then
    (zgF h a0 12 66).bind fun r1 =>
    (zgI h a0 12 64).bind fun v1 =>
    (zgF h a0 12 71).bind fun r2 =>
    (zba h r2 ((((120 : Int32) * a2) + a1) + a4)).bind fun v2 =>
    (zbs h r1 (((120 : Int32) * (((6 : Int32) * v1) + a2)) + a4) v2).bind fun h1 =>
    zm_X12_setOfNow 214 [some (.inr a0), some (.inl a1), some (.inl a2), some (.inl a3), some (.inl (a4 + (1 : Int32))), none, none] [] h1
  else
    zm_X12_setOfNow 168 [some (.inr a0), some (.inl a1), some (.inl (a2 + (1 : Int32))), none, none, none, none] [] h := (zZ_eq zFn_mono _ _ _ _).trans rfl
noncomputable def zm_X12_goesOn : zK4 := zZ zf zo_X12_goesOn [(17, 6), (44, 6), (147, 10), (208, 11), (285, 7), (316, 8)]
set_option maxRecDepth 50000 in
theorem e_X12_goesOn (a0 : Nat) (a1 : Int32) (a2 : Int32) (a3 : Int32) (h : zM) : zf nX12_goesOn [.inr a0, .inl a1, .inl a2, .inl a3] h =
  (zgF h a0 12 67).bind fun r1 =>
  (zis h r1 (((4 : Int32) * a2) + a3) (-1 : Int32)).bind fun h1 =>
  zm_X12_goesOn 17 [some (.inr a0), some (.inl a1), some (.inl a2), some (.inl a3), some (.inl (0 : Int32)), some (.inl (0 : Int32)), none, none, none, none, none] [] h1 := by
  rw [show zf nX12_goesOn = zFn zrecs 195 from rfl, zFn_eq (M := zr_X12_goesOn) rfl zd_X12_goesOn]
  exact (if_pos (Nat.le_of_ble_eq_true rfl)).trans ((zZ_eq zFn_mono _ _ _ _).trans rfl)
set_option maxRecDepth 50000 in
theorem e_X12_goesOn_17 (a0 : Nat) (a1 : Int32) (a2 : Int32) (a3 : Int32) (a4 : Int32) (a5 : Int32) (h : zM) : zm_X12_goesOn 17 [some (.inr a0), some (.inl a1), some (.inl a2), some (.inl a3), some (.inl a4), some (.inl a5), none, none, none, none, none] [] h =
  if a5 < (6 : Int32) then
    (zgF h a0 12 70).bind fun r1 =>
    (zis h r1 a5 (-1 : Int32)).bind fun h1 =>
    zm_X12_goesOn 17 [some (.inr a0), some (.inl a1), some (.inl a2), some (.inl a3), some (.inl a4), some (.inl (a5 + (1 : Int32))), none, none, none, none, none] [] h1
  else
    zm_X12_goesOn 44 [some (.inr a0), some (.inl a1), some (.inl a2), some (.inl a3), some (.inl a4), some (.inl ((30 : Int32) * a1)), none, none, none, none, none] [] h := (zZ_eq zFn_mono _ _ _ _).trans rfl
set_option maxRecDepth 50000 in
theorem e_X12_goesOn_44 (a0 : Nat) (a1 : Int32) (a2 : Int32) (a3 : Int32) (a4 : Int32) (a5 : Int32) (h : zM) : zm_X12_goesOn 44 [some (.inr a0), some (.inl a1), some (.inl a2), some (.inl a3), some (.inl a4), some (.inl a5), none, none, none, none, none] [] h =
  (zgF h a0 12 3).bind fun r1 =>
  (zia h r1 a1).bind fun v1 =>
  if a5 < (((30 : Int32) * a1) + v1) then
    (zgF h a0 12 4).bind fun r2 =>
    (zia h r2 a5).bind fun v2 =>
    (zgF h a0 12 5).bind fun r3 =>
    (zia h r3 a5).bind fun v3 =>
    if v3 = a3 then
      (zgF h a0 12 65).bind fun r4 =>
      (zia h r4 (((6 : Int32) * a2) + v2)).bind fun v4 =>
      if v4 < 0 then
        zm_X12_goesOn 44 [some (.inr a0), some (.inl a1), some (.inl a2), some (.inl a3), some (.inl a4), some (.inl (a5 + (1 : Int32))), none, none, none, none, none] [] h
      else
        (zgF h a0 12 8).bind fun r5 =>
        (zgF h a0 12 6).bind fun r6 =>
        (zia h r6 a5).bind fun v5 =>
        (zba h r5 (((6 : Int32) * a1) + v5)).bind fun v6 =>
        if v6 = 0 then
          zm_X12_goesOn 44 [some (.inr a0), some (.inl a1), some (.inl a2), some (.inl a3), some (.inl a4), some (.inl (a5 + (1 : Int32))), none, none, none, none, none] [] h
        else
          (zgF h a0 12 65).bind fun r7 =>
          (zia h r7 (((6 : Int32) * a2) + v2)).bind fun v7 =>
          (zgF h a0 12 6).bind fun r8 =>
          (zia h r8 a5).bind fun v8 =>
          zm_X12_goesOn 147 [some (.inr a0), some (.inl a1), some (.inl a2), some (.inl a3), some (.inl (1 : Int32)), some (.inl a5), some (.inl v2), some (.inl v7), some (.inl v8), some (.inl (0 : Int32)), none] [] h
    else
      zm_X12_goesOn 44 [some (.inr a0), some (.inl a1), some (.inl a2), some (.inl a3), some (.inl a4), some (.inl (a5 + (1 : Int32))), none, none, none, none, none] [] h
  else
    if a4 = 0 then
      some (0, 0, h)
    else
      zif (zK h a0 = 13) (
      (zf nX12_draws [.inr a0] h).bind fun u1 =>
      zm_X12_goesOn 285 [some (.inr a0), some (.inl a1), some (.inl a2), some (.inl a3), some (.inl a4), some (.inl u1.1), some (.inl (0 : Int32)), none, none, none, none] [] u1.2.2) := (zZ_eq zFn_mono _ _ _ _).trans rfl
set_option maxRecDepth 50000 in
theorem e_X12_goesOn_147 (a0 : Nat) (a1 : Int32) (a2 : Int32) (a3 : Int32) (a4 : Int32) (a5 : Int32) (a6 : Int32) (a7 : Int32) (a8 : Int32) (a9 : Int32) (h : zM) : zm_X12_goesOn 147 [some (.inr a0), some (.inl a1), some (.inl a2), some (.inl a3), some (.inl a4), some (.inl a5), some (.inl a6), some (.inl a7), some (.inl a8), some (.inl a9), none] [] h =
  if a9 < a7 then
    (zgF h a0 12 71).bind fun r1 =>
    (zgF h a0 12 66).bind fun r2 =>
    (zba h r2 (((120 : Int32) * (((6 : Int32) * a2) + a6)) + a9)).bind fun v1 =>
    (zbs h r1 (((120 : Int32) * a8) + a9) v1).bind fun h1 =>
    zm_X12_goesOn 147 [some (.inr a0), some (.inl a1), some (.inl a2), some (.inl a3), some (.inl a4), some (.inl a5), some (.inl a6), some (.inl a7), some (.inl a8), some (.inl (a9 + (1 : Int32))), none] [] h1
  else
    (zgF h a0 12 7).bind fun r3 =>
    (zia h r3 a5).bind fun v2 =>
    (zf nX12_letters [.inl v2, .inl (9 : Int32)] h).bind fun u1 =>
    zm_X12_goesOn 208 [some (.inr a0), some (.inl a1), some (.inl a2), some (.inl a3), some (.inl a4), some (.inl a5), some (.inl a6), some (.inl a7), some (.inl a8), some (.inl u1.1), some (.inl (0 : Int32))] [] u1.2.2 := (zZ_eq zFn_mono _ _ _ _).trans rfl
set_option maxRecDepth 50000 in
theorem e_X12_goesOn_208 (a0 : Nat) (a1 : Int32) (a2 : Int32) (a3 : Int32) (a4 : Int32) (a5 : Int32) (a6 : Int32) (a7 : Int32) (a8 : Int32) (a9 : Int32) (a10 : Int32) (h : zM) : zm_X12_goesOn 208 [some (.inr a0), some (.inl a1), some (.inl a2), some (.inl a3), some (.inl a4), some (.inl a5), some (.inl a6), some (.inl a7), some (.inl a8), some (.inl a9), some (.inl a10)] [] h =
  if a10 < a9 then
    (zgF h a0 12 71).bind fun r1 =>
    (zgF h a0 12 7).bind fun r2 =>
    (zia h r2 a5).bind fun v1 =>
    (zf nX12_letter [.inl v1, .inl a9, .inl a10] h).bind fun u1 =>
    (zbs u1.2.2 r1 ((((120 : Int32) * a8) + a7) + a10) (Int8.toInt32 (Int32.toInt8 u1.1))).bind fun h1 =>
    zm_X12_goesOn 208 [some (.inr a0), some (.inl a1), some (.inl a2), some (.inl a3), some (.inl a4), some (.inl a5), some (.inl a6), some (.inl a7), some (.inl a8), some (.inl a9), some (.inl (a10 + (1 : Int32)))] [] h1
  else
    (zgF h a0 12 70).bind fun r3 =>
    (zis h r3 a8 (a7 + a9)).bind fun h2 =>
    zm_X12_goesOn 44 [some (.inr a0), some (.inl a1), some (.inl a2), some (.inl a3), some (.inl a4), some (.inl (a5 + (1 : Int32))), none, none, none, none, none] [] h2 := (zZ_eq zFn_mono _ _ _ _).trans rfl
set_option maxRecDepth 50000 in
theorem e_X12_goesOn_285 (a0 : Nat) (a1 : Int32) (a2 : Int32) (a3 : Int32) (a4 : Int32) (a5 : Int32) (a6 : Int32) (h : zM) : zm_X12_goesOn 285 [some (.inr a0), some (.inl a1), some (.inl a2), some (.inl a3), some (.inl a4), some (.inl a5), some (.inl a6), none, none, none, none] [] h =
  (zgF h a0 12 70).bind fun r1 =>
  (zia h r1 a6).bind fun v1 =>
  if v1 < 0 then
    zm_X12_goesOn 285 [some (.inr a0), some (.inl a1), some (.inl a2), some (.inl a3), some (.inl a4), some (.inl a5), some (.inl (a6 + (1 : Int32))), none, none, none, none] [] h
  else
    (zgF h a0 12 68).bind fun r2 =>
    (zis h r2 (((4 : Int32) * a2) + a3) a5).bind fun h1 =>
    zm_X12_goesOn 316 [some (.inr a0), some (.inl a1), some (.inl a2), some (.inl a3), some (.inl a4), some (.inl a5), some (.inl a6), some (.inl (0 : Int32)), none, none, none] [] h1 := (zZ_eq zFn_mono _ _ _ _).trans rfl
set_option maxRecDepth 50000 in
theorem e_X12_goesOn_316 (a0 : Nat) (a1 : Int32) (a2 : Int32) (a3 : Int32) (a4 : Int32) (a5 : Int32) (a6 : Int32) (a7 : Int32) (h : zM) : zm_X12_goesOn 316 [some (.inr a0), some (.inl a1), some (.inl a2), some (.inl a3), some (.inl a4), some (.inl a5), some (.inl a6), some (.inl a7), none, none, none] [] h =
  if a7 < a5 then
    (zgF h a0 12 69).bind fun r1 =>
    (zgF h a0 12 71).bind fun r2 =>
    (zba h r2 (((120 : Int32) * a6) + a7)).bind fun v1 =>
    (zbs h r1 (((260 : Int32) * (((4 : Int32) * a2) + a3)) + a7) v1).bind fun h1 =>
    zm_X12_goesOn 316 [some (.inr a0), some (.inl a1), some (.inl a2), some (.inl a3), some (.inl a4), some (.inl a5), some (.inl a6), some (.inl (a7 + (1 : Int32))), none, none, none] [] h1
  else
    (zgF h a0 12 67).bind fun r3 =>
    zif (zK h a0 = 13) (
    (zf nX12_setOfNow [.inr a0, .inl a5] h).bind fun u1 =>
    (zis u1.2.2 r3 (((4 : Int32) * a2) + a3) u1.1).bind fun h2 =>
    some (0, 0, h2)) := (zZ_eq zFn_mono _ _ _ _).trans rfl
noncomputable def zm_X12_makes : zK4 := zZ zf zo_X12_makes [(9, 4), (104, 5), (125, 6)]
set_option maxRecDepth 50000 in
theorem e_X12_makes (a0 : Nat) (a1 : Int32) (h : zM) : zf nX12_makes [.inr a0, .inl a1] h =
  (zpI h a0 12 64 (0 : Int32)).bind fun h1 =>
  zm_X12_makes 9 [some (.inr a0), some (.inl a1), some (.inl (0 : Int32)), some (.inl (0 : Int32)), none, none] [] h1 := by
  rw [show zf nX12_makes = zFn zrecs 196 from rfl, zFn_eq (M := zr_X12_makes) rfl zd_X12_makes]
  exact (if_pos (Nat.le_of_ble_eq_true rfl)).trans ((zZ_eq zFn_mono _ _ _ _).trans rfl)
set_option maxRecDepth 50000 in
theorem e_X12_makes_9 (a0 : Nat) (a1 : Int32) (a2 : Int32) (a3 : Int32) (h : zM) : zm_X12_makes 9 [some (.inr a0), some (.inl a1), some (.inl a2), some (.inl a3), none, none] [] h =
  if a3 < (6 : Int32) then
    (zgF h a0 12 70).bind fun r1 =>
    (zgF h a0 12 0).bind fun r2 =>
    (zia h r2 a1).bind fun v1 =>
    if a3 < v1 then
      (zgF h a0 12 8).bind fun r3 =>
      (zba h r3 (((6 : Int32) * a1) + a3)).bind fun v2 =>
      if v2 = 0 then
        (zis h r1 a3 (-1 : Int32)).bind fun h1 =>
        if a2 = 0 then
          (zgF h1 a0 12 70).bind fun r4 =>
          (zia h1 r4 a3).bind fun v3 =>
          if v3 = 0 then
            zm_X12_makes 9 [some (.inr a0), some (.inl a1), some (.inl (1 : Int32)), some (.inl (a3 + (1 : Int32))), none, none] [] h1
          else
            zm_X12_makes 9 [some (.inr a0), some (.inl a1), some (.inl (0 : Int32)), some (.inl (a3 + (1 : Int32))), none, none] [] h1
        else
          zm_X12_makes 9 [some (.inr a0), some (.inl a1), some (.inl (1 : Int32)), some (.inl (a3 + (1 : Int32))), none, none] [] h1
      else
        (zgF h a0 12 1).bind fun r5 =>
        (zba h r5 (((6 : Int32) * a1) + a3)).bind fun v4 =>
        if v4 = 0 then
          (zis h r1 a3 (-1 : Int32)).bind fun h2 =>
          if a2 = 0 then
            (zgF h2 a0 12 70).bind fun r6 =>
            (zia h2 r6 a3).bind fun v5 =>
            if v5 = 0 then
              zm_X12_makes 9 [some (.inr a0), some (.inl a1), some (.inl (1 : Int32)), some (.inl (a3 + (1 : Int32))), none, none] [] h2
            else
              zm_X12_makes 9 [some (.inr a0), some (.inl a1), some (.inl (0 : Int32)), some (.inl (a3 + (1 : Int32))), none, none] [] h2
          else
            zm_X12_makes 9 [some (.inr a0), some (.inl a1), some (.inl (1 : Int32)), some (.inl (a3 + (1 : Int32))), none, none] [] h2
        else
          (zis h r1 a3 (0 : Int32)).bind fun h3 =>
          if a2 = 0 then
            (zgF h3 a0 12 70).bind fun r7 =>
            (zia h3 r7 a3).bind fun v6 =>
            if v6 = 0 then
              zm_X12_makes 9 [some (.inr a0), some (.inl a1), some (.inl (1 : Int32)), some (.inl (a3 + (1 : Int32))), none, none] [] h3
            else
              zm_X12_makes 9 [some (.inr a0), some (.inl a1), some (.inl (0 : Int32)), some (.inl (a3 + (1 : Int32))), none, none] [] h3
          else
            zm_X12_makes 9 [some (.inr a0), some (.inl a1), some (.inl (1 : Int32)), some (.inl (a3 + (1 : Int32))), none, none] [] h3
    else
      (zis h r1 a3 (-1 : Int32)).bind fun h4 =>
      if a2 = 0 then
        (zgF h4 a0 12 70).bind fun r8 =>
        (zia h4 r8 a3).bind fun v7 =>
        if v7 = 0 then
          zm_X12_makes 9 [some (.inr a0), some (.inl a1), some (.inl (1 : Int32)), some (.inl (a3 + (1 : Int32))), none, none] [] h4
        else
          zm_X12_makes 9 [some (.inr a0), some (.inl a1), some (.inl (0 : Int32)), some (.inl (a3 + (1 : Int32))), none, none] [] h4
      else
        zm_X12_makes 9 [some (.inr a0), some (.inl a1), some (.inl (1 : Int32)), some (.inl (a3 + (1 : Int32))), none, none] [] h4
  else
    if a2 = 0 then
      zb (1 : Int32) h
    else
      zif (zK h a0 = 13) (
      (zf nX12_setOfNow [.inr a0, .inl (0 : Int32)] h).bind fun u1 =>
      zm_X12_makes 104 [some (.inr a0), some (.inl a1), some (.inl a2), some (.inl u1.1), some (.inl (0 : Int32)), none] [] u1.2.2) := (zZ_eq zFn_mono _ _ _ _).trans rfl
set_option maxRecDepth 50000 in
theorem e_X12_makes_104 (a0 : Nat) (a1 : Int32) (a2 : Int32) (a3 : Int32) (a4 : Int32) (h : zM) : zm_X12_makes 104 [some (.inr a0), some (.inl a1), some (.inl a2), some (.inl a3), some (.inl a4), none] [] h =
  (zgI h a0 12 64).bind fun v1 =>
  if a4 < v1 then
    (zgI h a0 12 64).bind fun v2 =>
    if (100 : Int32) < v2 then
      (zgI h a0 12 64).bind fun v3 =>
      if (100 : Int32) < v3 then
        zb (0 : Int32) h
      else
        zb (1 : Int32) h
    else
      zm_X12_makes 125 [some (.inr a0), some (.inl a1), some (.inl a2), some (.inl a3), some (.inl a4), some (.inl (1 : Int32))] [] h
  else
    (zgI h a0 12 64).bind fun v4 =>
    if (100 : Int32) < v4 then
      zb (0 : Int32) h
    else
      zb (1 : Int32) h := (zZ_eq zFn_mono _ _ _ _).trans rfl
set_option maxRecDepth 50000 in
theorem e_X12_makes_125 (a0 : Nat) (a1 : Int32) (a2 : Int32) (a3 : Int32) (a4 : Int32) (a5 : Int32) (h : zM) : zm_X12_makes 125 [some (.inr a0), some (.inl a1), some (.inl a2), some (.inl a3), some (.inl a4), some (.inl a5)] [] h =
  if a5 < (4 : Int32) then
    zif (zK h a0 = 13) (
    (zf nX12_goesOn [.inr a0, .inl a1, .inl a4, .inl a5] h).bind fun u1 =>
    zm_X12_makes 125 [some (.inr a0), some (.inl a1), some (.inl a2), some (.inl a3), some (.inl a4), some (.inl (a5 + (1 : Int32)))] [] u1.2.2)
  else
    zm_X12_makes 104 [some (.inr a0), some (.inl a1), some (.inl a2), some (.inl a3), some (.inl (a4 + (1 : Int32))), none] [] h := (zZ_eq zFn_mono _ _ _ _).trans rfl
noncomputable def zm_X12_endsOf : zK4 := zZ zf zo_X12_endsOf [(2, 3), (19, 4), (77, 6), (141, 7)]
set_option maxRecDepth 50000 in
theorem e_X12_endsOf (a0 : Nat) (a1 : Int32) (h : zM) : zf nX12_endsOf [.inr a0, .inl a1] h =
  zm_X12_endsOf 2 [some (.inr a0), some (.inl a1), some (.inl (0 : Int32)), none, none, none, none] [] h := by
  rw [show zf nX12_endsOf = zFn zrecs 197 from rfl, zFn_eq (M := zr_X12_endsOf) rfl zd_X12_endsOf]
  exact (if_pos (Nat.le_of_ble_eq_true rfl)).trans ((zZ_eq zFn_mono _ _ _ _).trans rfl)
set_option maxRecDepth 50000 in
theorem e_X12_endsOf_2 (a0 : Nat) (a1 : Int32) (a2 : Int32) (h : zM) : zm_X12_endsOf 2 [some (.inr a0), some (.inl a1), some (.inl a2), none, none, none, none] [] h =
  (zgI h a0 12 64).bind fun v1 =>
  if a2 < v1 then
    (zgF h a0 12 72).bind fun r1 =>
    (zis h r1 a2 (-1 : Int32)).bind fun h1 =>
    zm_X12_endsOf 19 [some (.inr a0), some (.inl a1), some (.inl a2), some (.inl (0 : Int32)), none, none, none] [] h1
  else
    some (0, 0, h) := (zZ_eq zFn_mono _ _ _ _).trans rfl
set_option maxRecDepth 50000 in
theorem e_X12_endsOf_19 (a0 : Nat) (a1 : Int32) (a2 : Int32) (a3 : Int32) (h : zM) : zm_X12_endsOf 19 [some (.inr a0), some (.inl a1), some (.inl a2), some (.inl a3), none, none, none] [] h =
  (zgF h a0 12 0).bind fun r1 =>
  (zia h r1 a1).bind fun v1 =>
  if a3 < v1 then
    (zgF h a0 12 65).bind fun r2 =>
    (zia h r2 (((6 : Int32) * a2) + a3)).bind fun v2 =>
    if v2 < 0 then
      zm_X12_endsOf 19 [some (.inr a0), some (.inl a1), some (.inl a2), some (.inl (a3 + (1 : Int32))), none, none, none] [] h
    else
      (zgF h a0 12 2).bind fun r3 =>
      (zia h r3 (((6 : Int32) * a1) + a3)).bind fun v3 =>
      if v3 = (-1 : Int32) then
        zm_X12_endsOf 19 [some (.inr a0), some (.inl a1), some (.inl a2), some (.inl (a3 + (1 : Int32))), none, none, none] [] h
      else
        (zgF h a0 12 65).bind fun r4 =>
        (zia h r4 (((6 : Int32) * a2) + a3)).bind fun v4 =>
        zm_X12_endsOf 77 [some (.inr a0), some (.inl a1), some (.inl a2), some (.inl a3), some (.inl v4), some (.inl (0 : Int32)), none] [] h
  else
    zm_X12_endsOf 2 [some (.inr a0), some (.inl a1), some (.inl (a2 + (1 : Int32))), none, none, none, none] [] h := (zZ_eq zFn_mono _ _ _ _).trans rfl
set_option maxRecDepth 50000 in
theorem e_X12_endsOf_77 (a0 : Nat) (a1 : Int32) (a2 : Int32) (a3 : Int32) (a4 : Int32) (a5 : Int32) (h : zM) : zm_X12_endsOf 77 [some (.inr a0), some (.inl a1), some (.inl a2), some (.inl a3), some (.inl a4), some (.inl a5), none] [] h =
  if a5 < a4 then
    (zgF h a0 12 73).bind fun r1 =>
    (zgF h a0 12 66).bind fun r2 =>
    (zba h r2 (((120 : Int32) * (((6 : Int32) * a2) + a3)) + a5)).bind fun v1 =>
    (zbs h r1 (((260 : Int32) * a2) + a5) v1).bind fun h1 =>
    zm_X12_endsOf 77 [some (.inr a0), some (.inl a1), some (.inl a2), some (.inl a3), some (.inl a4), some (.inl (a5 + (1 : Int32))), none] [] h1
  else
    (zgF h a0 12 2).bind fun r3 =>
    (zia h r3 (((6 : Int32) * a1) + a3)).bind fun v2 =>
    (zf nX12_letters [.inl v2, .inl (9 : Int32)] h).bind fun u1 =>
    zm_X12_endsOf 141 [some (.inr a0), some (.inl a1), some (.inl a2), some (.inl a3), some (.inl a4), some (.inl u1.1), some (.inl (0 : Int32))] [] u1.2.2 := (zZ_eq zFn_mono _ _ _ _).trans rfl
set_option maxRecDepth 50000 in
theorem e_X12_endsOf_141 (a0 : Nat) (a1 : Int32) (a2 : Int32) (a3 : Int32) (a4 : Int32) (a5 : Int32) (a6 : Int32) (h : zM) : zm_X12_endsOf 141 [some (.inr a0), some (.inl a1), some (.inl a2), some (.inl a3), some (.inl a4), some (.inl a5), some (.inl a6)] [] h =
  if a6 < a5 then
    (zgF h a0 12 73).bind fun r1 =>
    (zgF h a0 12 2).bind fun r2 =>
    (zia h r2 (((6 : Int32) * a1) + a3)).bind fun v1 =>
    (zf nX12_letter [.inl v1, .inl a5, .inl a6] h).bind fun u1 =>
    (zbs u1.2.2 r1 ((((260 : Int32) * a2) + a4) + a6) (Int8.toInt32 (Int32.toInt8 u1.1))).bind fun h1 =>
    zm_X12_endsOf 141 [some (.inr a0), some (.inl a1), some (.inl a2), some (.inl a3), some (.inl a4), some (.inl a5), some (.inl (a6 + (1 : Int32)))] [] h1
  else
    (zgF h a0 12 72).bind fun r3 =>
    (zis h r3 a2 (a4 + a5)).bind fun h2 =>
    zm_X12_endsOf 19 [some (.inr a0), some (.inl a1), some (.inl a2), some (.inl (a3 + (1 : Int32))), none, none, none] [] h2 := (zZ_eq zFn_mono _ _ _ _).trans rfl
noncomputable def zm_X12_tries : zK4 := zZ zf zo_X12_tries [(26, 8)]
set_option maxRecDepth 50000 in
theorem e_X12_tries (a0 : Nat) (a1 : Nat) (a2 : Int32) (a3 : Int32) (a4 : Int32) (h : zM) : zf nX12_tries [.inr a0, .inr a1, .inl a2, .inl a3, .inl a4] h =
  if a4 < 0 then
    zm_X12_tries 26 [some (.inr a0), some (.inr a1), some (.inl a2), some (.inl a3), some (.inl a4), some (.inl (a3 + (0 : Int32))), some (.inl (0 : Int32)), some (.inl (1 : Int32)), none] [] h
  else
    (zgF h a0 12 75).bind fun r1 =>
    (zia h r1 a4).bind fun v1 =>
    zm_X12_tries 26 [some (.inr a0), some (.inr a1), some (.inl a2), some (.inl a3), some (.inl a4), some (.inl (a3 + v1)), some (.inl (0 : Int32)), some (.inl (1 : Int32)), none] [] h := by
  rw [show zf nX12_tries = zFn zrecs 198 from rfl, zFn_eq (M := zr_X12_tries) rfl zd_X12_tries]
  exact (if_pos (Nat.le_of_ble_eq_true rfl)).trans ((zZ_eq zFn_mono _ _ _ _).trans rfl)
set_option maxRecDepth 50000 in
theorem e_X12_tries_26 (a0 : Nat) (a1 : Nat) (a2 : Int32) (a3 : Int32) (a4 : Int32) (a5 : Int32) (a6 : Int32) (a7 : Int32) (h : zM) : zm_X12_tries 26 [some (.inr a0), some (.inr a1), some (.inl a2), some (.inl a3), some (.inl a4), some (.inl a5), some (.inl a6), some (.inl a7), none] [] h =
  if a7 = 0 then
    (zpI h a0 12 74 a6).bind fun h1 =>
    some (0, 0, h1)
  else
    if a6 < a5 then
      (zgI h a0 12 74).bind fun v1 =>
      if v1 = (-1 : Int32) then
        if a6 < a3 then
          (zba h a1 (a2 + a6)).bind fun v2 =>
          (zgI h a0 12 74).bind fun v3 =>
          if v3 = (-1 : Int32) then
            if (1 : Int32) = 0 then
              zm_X12_tries 26 [some (.inr a0), some (.inr a1), some (.inl a2), some (.inl a3), some (.inl a4), some (.inl a5), some (.inl a6), some (.inl (1 : Int32)), none] [] h
            else
              (zgF h a0 12 77).bind fun r1 =>
              (zbs h r1 a6 v2).bind fun h2 =>
              zm_X12_tries 26 [some (.inr a0), some (.inr a1), some (.inl a2), some (.inl a3), some (.inl a4), some (.inl a5), some (.inl (a6 + (1 : Int32))), some (.inl (1 : Int32)), none] [] h2
          else
            (zgF h a0 12 77).bind fun r2 =>
            (zba h r2 a6).bind fun v4 =>
            if v4 = v2 then
              if (1 : Int32) = 0 then
                zm_X12_tries 26 [some (.inr a0), some (.inr a1), some (.inl a2), some (.inl a3), some (.inl a4), some (.inl a5), some (.inl a6), some (.inl (1 : Int32)), none] [] h
              else
                (zgF h a0 12 77).bind fun r3 =>
                (zbs h r3 a6 v2).bind fun h3 =>
                zm_X12_tries 26 [some (.inr a0), some (.inr a1), some (.inl a2), some (.inl a3), some (.inl a4), some (.inl a5), some (.inl (a6 + (1 : Int32))), some (.inl (1 : Int32)), none] [] h3
            else
              if (0 : Int32) = 0 then
                zm_X12_tries 26 [some (.inr a0), some (.inr a1), some (.inl a2), some (.inl a3), some (.inl a4), some (.inl a5), some (.inl a6), some (.inl (0 : Int32)), none] [] h
              else
                (zgF h a0 12 77).bind fun r4 =>
                (zbs h r4 a6 v2).bind fun h4 =>
                zm_X12_tries 26 [some (.inr a0), some (.inr a1), some (.inl a2), some (.inl a3), some (.inl a4), some (.inl a5), some (.inl (a6 + (1 : Int32))), some (.inl (0 : Int32)), none] [] h4
        else
          (zgF h a0 12 76).bind fun r5 =>
          (zba h r5 ((((520 : Int32) * a4) + a6) - a3)).bind fun v5 =>
          (zgI h a0 12 74).bind fun v6 =>
          if v6 = (-1 : Int32) then
            if (1 : Int32) = 0 then
              zm_X12_tries 26 [some (.inr a0), some (.inr a1), some (.inl a2), some (.inl a3), some (.inl a4), some (.inl a5), some (.inl a6), some (.inl (1 : Int32)), none] [] h
            else
              (zgF h a0 12 77).bind fun r6 =>
              (zbs h r6 a6 v5).bind fun h5 =>
              zm_X12_tries 26 [some (.inr a0), some (.inr a1), some (.inl a2), some (.inl a3), some (.inl a4), some (.inl a5), some (.inl (a6 + (1 : Int32))), some (.inl (1 : Int32)), none] [] h5
          else
            (zgF h a0 12 77).bind fun r7 =>
            (zba h r7 a6).bind fun v7 =>
            if v7 = v5 then
              if (1 : Int32) = 0 then
                zm_X12_tries 26 [some (.inr a0), some (.inr a1), some (.inl a2), some (.inl a3), some (.inl a4), some (.inl a5), some (.inl a6), some (.inl (1 : Int32)), none] [] h
              else
                (zgF h a0 12 77).bind fun r8 =>
                (zbs h r8 a6 v5).bind fun h6 =>
                zm_X12_tries 26 [some (.inr a0), some (.inr a1), some (.inl a2), some (.inl a3), some (.inl a4), some (.inl a5), some (.inl (a6 + (1 : Int32))), some (.inl (1 : Int32)), none] [] h6
            else
              if (0 : Int32) = 0 then
                zm_X12_tries 26 [some (.inr a0), some (.inr a1), some (.inl a2), some (.inl a3), some (.inl a4), some (.inl a5), some (.inl a6), some (.inl (0 : Int32)), none] [] h
              else
                (zgF h a0 12 77).bind fun r9 =>
                (zbs h r9 a6 v5).bind fun h7 =>
                zm_X12_tries 26 [some (.inr a0), some (.inr a1), some (.inl a2), some (.inl a3), some (.inl a4), some (.inl a5), some (.inl (a6 + (1 : Int32))), some (.inl (0 : Int32)), none] [] h7
      else
        (zgI h a0 12 74).bind fun v8 =>
        if a6 < v8 then
          if a6 < a3 then
            (zba h a1 (a2 + a6)).bind fun v9 =>
            (zgI h a0 12 74).bind fun v10 =>
            if v10 = (-1 : Int32) then
              if (1 : Int32) = 0 then
                zm_X12_tries 26 [some (.inr a0), some (.inr a1), some (.inl a2), some (.inl a3), some (.inl a4), some (.inl a5), some (.inl a6), some (.inl (1 : Int32)), none] [] h
              else
                (zgF h a0 12 77).bind fun r10 =>
                (zbs h r10 a6 v9).bind fun h8 =>
                zm_X12_tries 26 [some (.inr a0), some (.inr a1), some (.inl a2), some (.inl a3), some (.inl a4), some (.inl a5), some (.inl (a6 + (1 : Int32))), some (.inl (1 : Int32)), none] [] h8
            else
              (zgF h a0 12 77).bind fun r11 =>
              (zba h r11 a6).bind fun v11 =>
              if v11 = v9 then
                if (1 : Int32) = 0 then
                  zm_X12_tries 26 [some (.inr a0), some (.inr a1), some (.inl a2), some (.inl a3), some (.inl a4), some (.inl a5), some (.inl a6), some (.inl (1 : Int32)), none] [] h
                else
                  (zgF h a0 12 77).bind fun r12 =>
                  (zbs h r12 a6 v9).bind fun h9 =>
                  zm_X12_tries 26 [some (.inr a0), some (.inr a1), some (.inl a2), some (.inl a3), some (.inl a4), some (.inl a5), some (.inl (a6 + (1 : Int32))), some (.inl (1 : Int32)), none] [] h9
              else
                if (0 : Int32) = 0 then
                  zm_X12_tries 26 [some (.inr a0), some (.inr a1), some (.inl a2), some (.inl a3), some (.inl a4), some (.inl a5), some (.inl a6), some (.inl (0 : Int32)), none] [] h
                else
                  (zgF h a0 12 77).bind fun r13 =>
                  (zbs h r13 a6 v9).bind fun h10 =>
                  zm_X12_tries 26 [some (.inr a0), some (.inr a1), some (.inl a2), some (.inl a3), some (.inl a4), some (.inl a5), some (.inl (a6 + (1 : Int32))), some (.inl (0 : Int32)), none] [] h10
          else
            (zgF h a0 12 76).bind fun r14 =>
            (zba h r14 ((((520 : Int32) * a4) + a6) - a3)).bind fun v12 =>
            (zgI h a0 12 74).bind fun v13 =>
            if v13 = (-1 : Int32) then
              if (1 : Int32) = 0 then
                zm_X12_tries 26 [some (.inr a0), some (.inr a1), some (.inl a2), some (.inl a3), some (.inl a4), some (.inl a5), some (.inl a6), some (.inl (1 : Int32)), none] [] h
              else
                (zgF h a0 12 77).bind fun r15 =>
                (zbs h r15 a6 v12).bind fun h11 =>
                zm_X12_tries 26 [some (.inr a0), some (.inr a1), some (.inl a2), some (.inl a3), some (.inl a4), some (.inl a5), some (.inl (a6 + (1 : Int32))), some (.inl (1 : Int32)), none] [] h11
            else
              (zgF h a0 12 77).bind fun r16 =>
              (zba h r16 a6).bind fun v14 =>
              if v14 = v12 then
                if (1 : Int32) = 0 then
                  zm_X12_tries 26 [some (.inr a0), some (.inr a1), some (.inl a2), some (.inl a3), some (.inl a4), some (.inl a5), some (.inl a6), some (.inl (1 : Int32)), none] [] h
                else
                  (zgF h a0 12 77).bind fun r17 =>
                  (zbs h r17 a6 v12).bind fun h12 =>
                  zm_X12_tries 26 [some (.inr a0), some (.inr a1), some (.inl a2), some (.inl a3), some (.inl a4), some (.inl a5), some (.inl (a6 + (1 : Int32))), some (.inl (1 : Int32)), none] [] h12
              else
                if (0 : Int32) = 0 then
                  zm_X12_tries 26 [some (.inr a0), some (.inr a1), some (.inl a2), some (.inl a3), some (.inl a4), some (.inl a5), some (.inl a6), some (.inl (0 : Int32)), none] [] h
                else
                  (zgF h a0 12 77).bind fun r18 =>
                  (zbs h r18 a6 v12).bind fun h13 =>
                  zm_X12_tries 26 [some (.inr a0), some (.inr a1), some (.inl a2), some (.inl a3), some (.inl a4), some (.inl a5), some (.inl (a6 + (1 : Int32))), some (.inl (0 : Int32)), none] [] h13
        else
          (zpI h a0 12 74 a6).bind fun h14 =>
          some (0, 0, h14)
    else
      (zpI h a0 12 74 a6).bind fun h15 =>
      some (0, 0, h15) := (zZ_eq zFn_mono _ _ _ _).trans rfl
noncomputable def zm_X12_heads : zK4 := zZ zf zo_X12_heads [(2, 2), (25, 2), (33, 3), (77, 4), (166, 5), (234, 5)]
set_option maxRecDepth 50000 in
theorem e_X12_heads (a0 : Nat) (h : zM) : zf nX12_heads [.inr a0] h =
  zm_X12_heads 2 [some (.inr a0), some (.inl (0 : Int32)), none, none, none] [] h := by
  rw [show zf nX12_heads = zFn zrecs 199 from rfl, zFn_eq (M := zr_X12_heads) rfl zd_X12_heads]
  exact (if_pos (Nat.le_of_ble_eq_true rfl)).trans ((zZ_eq zFn_mono _ _ _ _).trans rfl)
set_option maxRecDepth 50000 in
theorem e_X12_heads_2 (a0 : Nat) (a1 : Int32) (h : zM) : zm_X12_heads 2 [some (.inr a0), some (.inl a1), none, none, none] [] h =
  (zgI h a0 12 64).bind fun v1 =>
  if a1 < v1 then
    (zgF h a0 12 75).bind fun r1 =>
    (zis h r1 a1 (-1 : Int32)).bind fun h1 =>
    zm_X12_heads 2 [some (.inr a0), some (.inl (a1 + (1 : Int32))), none, none, none] [] h1
  else
    zm_X12_heads 25 [some (.inr a0), some (.inl (1 : Int32)), none, none, none] [] h := (zZ_eq zFn_mono _ _ _ _).trans rfl
set_option maxRecDepth 50000 in
theorem e_X12_heads_25 (a0 : Nat) (a1 : Int32) (h : zM) : zm_X12_heads 25 [some (.inr a0), some (.inl a1), none, none, none] [] h =
  if a1 = 0 then
    some (0, 0, h)
  else
    zm_X12_heads 33 [some (.inr a0), some (.inl (0 : Int32)), some (.inl (0 : Int32)), none, none] [] h := (zZ_eq zFn_mono _ _ _ _).trans rfl
set_option maxRecDepth 50000 in
theorem e_X12_heads_33 (a0 : Nat) (a1 : Int32) (a2 : Int32) (h : zM) : zm_X12_heads 33 [some (.inr a0), some (.inl a1), some (.inl a2), none, none] [] h =
  (zgI h a0 12 64).bind fun v1 =>
  if a2 < v1 then
    (zpI h a0 12 74 (-1 : Int32)).bind fun h1 =>
    (zgF h1 a0 12 72).bind fun r1 =>
    (zia h1 r1 a2).bind fun v2 =>
    if v2 < 0 then
      zm_X12_heads 77 [some (.inr a0), some (.inl a1), some (.inl a2), some (.inl (1 : Int32)), none] [] h1
    else
      (zgF h1 a0 12 73).bind fun r2 =>
      (zgF h1 a0 12 72).bind fun r3 =>
      (zia h1 r3 a2).bind fun v3 =>
      zif (zK h1 a0 = 13) (
      (zf nX12_tries [.inr a0, .inr r2, .inl ((260 : Int32) * a2), .inl v3, .inl (-1 : Int32)] h1).bind fun u1 =>
      zm_X12_heads 77 [some (.inr a0), some (.inl a1), some (.inl a2), some (.inl (1 : Int32)), none] [] u1.2.2)
  else
    zm_X12_heads 25 [some (.inr a0), some (.inl a1), none, none, none] [] h := (zZ_eq zFn_mono _ _ _ _).trans rfl
set_option maxRecDepth 50000 in
theorem e_X12_heads_77 (a0 : Nat) (a1 : Int32) (a2 : Int32) (a3 : Int32) (h : zM) : zm_X12_heads 77 [some (.inr a0), some (.inl a1), some (.inl a2), some (.inl a3), none] [] h =
  if a3 < (4 : Int32) then
    (zgF h a0 12 67).bind fun r1 =>
    (zia h r1 (((4 : Int32) * a2) + a3)).bind fun v1 =>
    if v1 < 0 then
      zm_X12_heads 77 [some (.inr a0), some (.inl a1), some (.inl a2), some (.inl (a3 + (1 : Int32))), none] [] h
    else
      (zgF h a0 12 75).bind fun r2 =>
      (zia h r2 v1).bind fun v2 =>
      if v2 < 0 then
        zm_X12_heads 77 [some (.inr a0), some (.inl a1), some (.inl a2), some (.inl (a3 + (1 : Int32))), none] [] h
      else
        (zgF h a0 12 69).bind fun r3 =>
        (zgF h a0 12 68).bind fun r4 =>
        (zia h r4 (((4 : Int32) * a2) + a3)).bind fun v3 =>
        zif (zK h a0 = 13) (
        (zf nX12_tries [.inr a0, .inr r3, .inl ((260 : Int32) * (((4 : Int32) * a2) + a3)), .inl v3, .inl v1] h).bind fun u1 =>
        zm_X12_heads 77 [some (.inr a0), some (.inl a1), some (.inl a2), some (.inl (a3 + (1 : Int32))), none] [] u1.2.2)
  else
    (zgI h a0 12 74).bind fun v4 =>
    (zgF h a0 12 75).bind fun r5 =>
    (zia h r5 a2).bind fun v5 =>
    if v4 = v5 then
      zm_X12_heads 166 [some (.inr a0), some (.inl a1), some (.inl a2), some (.inl (1 : Int32)), some (.inl (0 : Int32))] [] h
    else
      zm_X12_heads 166 [some (.inr a0), some (.inl a1), some (.inl a2), some (.inl (0 : Int32)), some (.inl (0 : Int32))] [] h := (zZ_eq zFn_mono _ _ _ _).trans rfl
set_option maxRecDepth 50000 in
theorem e_X12_heads_166 (a0 : Nat) (a1 : Int32) (a2 : Int32) (a3 : Int32) (a4 : Int32) (h : zM) : zm_X12_heads 166 [some (.inr a0), some (.inl a1), some (.inl a2), some (.inl a3), some (.inl a4)] [] h =
  if a3 = 0 then
    if a3 = 0 then
      (zgF h a0 12 75).bind fun r1 =>
      (zgI h a0 12 74).bind fun v1 =>
      (zis h r1 a2 v1).bind fun h1 =>
      zm_X12_heads 234 [some (.inr a0), some (.inl a1), some (.inl a2), some (.inl a3), some (.inl (0 : Int32))] [] h1
    else
      zm_X12_heads 33 [some (.inr a0), some (.inl a1), some (.inl (a2 + (1 : Int32))), none, none] [] h
  else
    (zgI h a0 12 74).bind fun v2 =>
    if a4 < v2 then
      (zgF h a0 12 77).bind fun r2 =>
      (zba h r2 a4).bind fun v3 =>
      (zgF h a0 12 76).bind fun r3 =>
      (zba h r3 (((520 : Int32) * a2) + a4)).bind fun v4 =>
      if v3 = v4 then
        zm_X12_heads 166 [some (.inr a0), some (.inl a1), some (.inl a2), some (.inl (1 : Int32)), some (.inl (a4 + (1 : Int32)))] [] h
      else
        zm_X12_heads 166 [some (.inr a0), some (.inl a1), some (.inl a2), some (.inl (0 : Int32)), some (.inl (a4 + (1 : Int32)))] [] h
    else
      if a3 = 0 then
        (zgF h a0 12 75).bind fun r4 =>
        (zgI h a0 12 74).bind fun v5 =>
        (zis h r4 a2 v5).bind fun h2 =>
        zm_X12_heads 234 [some (.inr a0), some (.inl a1), some (.inl a2), some (.inl a3), some (.inl (0 : Int32))] [] h2
      else
        zm_X12_heads 33 [some (.inr a0), some (.inl a1), some (.inl (a2 + (1 : Int32))), none, none] [] h := (zZ_eq zFn_mono _ _ _ _).trans rfl
set_option maxRecDepth 50000 in
theorem e_X12_heads_234 (a0 : Nat) (a1 : Int32) (a2 : Int32) (a3 : Int32) (a4 : Int32) (h : zM) : zm_X12_heads 234 [some (.inr a0), some (.inl a1), some (.inl a2), some (.inl a3), some (.inl a4)] [] h =
  (zgI h a0 12 74).bind fun v1 =>
  if a4 < v1 then
    (zgF h a0 12 76).bind fun r1 =>
    (zgF h a0 12 77).bind fun r2 =>
    (zba h r2 a4).bind fun v2 =>
    (zbs h r1 (((520 : Int32) * a2) + a4) v2).bind fun h1 =>
    zm_X12_heads 234 [some (.inr a0), some (.inl a1), some (.inl a2), some (.inl a3), some (.inl (a4 + (1 : Int32)))] [] h1
  else
    zm_X12_heads 33 [some (.inr a0), some (.inl (1 : Int32)), some (.inl (a2 + (1 : Int32))), none, none] [] h := (zZ_eq zFn_mono _ _ _ _).trans rfl
noncomputable def zm_X12_fulls : zK4 := zZ zf zo_X12_fulls [(2, 2), (51, 3), (102, 3), (179, 8)]
set_option maxRecDepth 50000 in
theorem e_X12_fulls (a0 : Nat) (h : zM) : zf nX12_fulls [.inr a0] h =
  zm_X12_fulls 2 [some (.inr a0), some (.inl (0 : Int32)), none, none, none, none, none, none] [] h := by
  rw [show zf nX12_fulls = zFn zrecs 200 from rfl, zFn_eq (M := zr_X12_fulls) rfl zd_X12_fulls]
  exact (if_pos (Nat.le_of_ble_eq_true rfl)).trans ((zZ_eq zFn_mono _ _ _ _).trans rfl)
set_option maxRecDepth 50000 in
theorem e_X12_fulls_2 (a0 : Nat) (a1 : Int32) (h : zM) : zm_X12_fulls 2 [some (.inr a0), some (.inl a1), none, none, none, none, none, none] [] h =
  (zgI h a0 12 64).bind fun v1 =>
  if a1 < v1 then
    (zgF h a0 12 85).bind fun r1 =>
    (zis h r1 ((4 : Int32) * a1) (-1 : Int32)).bind fun h1 =>
    (zgF h1 a0 12 72).bind fun r2 =>
    (zia h1 r2 a1).bind fun v2 =>
    if v2 < 0 then
      zm_X12_fulls 102 [some (.inr a0), some (.inl a1), some (.inl (1 : Int32)), none, none, none, none, none] [] h1
    else
      (zgF h1 a0 12 85).bind fun r3 =>
      (zgF h1 a0 12 72).bind fun r4 =>
      (zia h1 r4 a1).bind fun v3 =>
      (zgF h1 a0 12 75).bind fun r5 =>
      (zia h1 r5 a1).bind fun v4 =>
      (zis h1 r3 ((4 : Int32) * a1) (v3 - v4)).bind fun h2 =>
      zm_X12_fulls 51 [some (.inr a0), some (.inl a1), some (.inl (0 : Int32)), none, none, none, none, none] [] h2
  else
    some (0, 0, h) := (zZ_eq zFn_mono _ _ _ _).trans rfl
set_option maxRecDepth 50000 in
theorem e_X12_fulls_51 (a0 : Nat) (a1 : Int32) (a2 : Int32) (h : zM) : zm_X12_fulls 51 [some (.inr a0), some (.inl a1), some (.inl a2), none, none, none, none, none] [] h =
  (zgF h a0 12 85).bind fun r1 =>
  (zia h r1 ((4 : Int32) * a1)).bind fun v1 =>
  if a2 < v1 then
    (zgF h a0 12 86).bind fun r2 =>
    (zgF h a0 12 73).bind fun r3 =>
    (zgF h a0 12 75).bind fun r4 =>
    (zia h r4 a1).bind fun v2 =>
    (zba h r3 ((((260 : Int32) * a1) + v2) + a2)).bind fun v3 =>
    (zbs h r2 (((3120 : Int32) * a1) + a2) v3).bind fun h1 =>
    zm_X12_fulls 51 [some (.inr a0), some (.inl a1), some (.inl (a2 + (1 : Int32))), none, none, none, none, none] [] h1
  else
    zm_X12_fulls 102 [some (.inr a0), some (.inl a1), some (.inl (1 : Int32)), none, none, none, none, none] [] h := (zZ_eq zFn_mono _ _ _ _).trans rfl
set_option maxRecDepth 50000 in
theorem e_X12_fulls_102 (a0 : Nat) (a1 : Int32) (a2 : Int32) (h : zM) : zm_X12_fulls 102 [some (.inr a0), some (.inl a1), some (.inl a2), none, none, none, none, none] [] h =
  if a2 < (4 : Int32) then
    (zgF h a0 12 67).bind fun r1 =>
    (zia h r1 (((4 : Int32) * a1) + a2)).bind fun v1 =>
    (zgF h a0 12 85).bind fun r2 =>
    (zis h r2 (((4 : Int32) * a1) + a2) (-1 : Int32)).bind fun h1 =>
    if v1 < 0 then
      zm_X12_fulls 102 [some (.inr a0), some (.inl a1), some (.inl (a2 + (1 : Int32))), none, none, none, none, none] [] h1
    else
      (zgF h1 a0 12 68).bind fun r3 =>
      (zia h1 r3 (((4 : Int32) * a1) + a2)).bind fun v2 =>
      (zgF h1 a0 12 75).bind fun r4 =>
      (zia h1 r4 v1).bind fun v3 =>
      (zgF h1 a0 12 85).bind fun r5 =>
      (zgF h1 a0 12 75).bind fun r6 =>
      (zia h1 r6 a1).bind fun v4 =>
      (zis h1 r5 (((4 : Int32) * a1) + a2) ((v2 + v3) - v4)).bind fun h2 =>
      (zgF h2 a0 12 75).bind fun r7 =>
      (zia h2 r7 a1).bind fun v5 =>
      zm_X12_fulls 179 [some (.inr a0), some (.inl a1), some (.inl a2), some (.inl (((4 : Int32) * a1) + a2)), some (.inl v1), some (.inl v2), some (.inl (v2 + v3)), some (.inl v5)] [] h2
  else
    zm_X12_fulls 2 [some (.inr a0), some (.inl (a1 + (1 : Int32))), none, none, none, none, none, none] [] h := (zZ_eq zFn_mono _ _ _ _).trans rfl
set_option maxRecDepth 50000 in
theorem e_X12_fulls_179 (a0 : Nat) (a1 : Int32) (a2 : Int32) (a3 : Int32) (a4 : Int32) (a5 : Int32) (a6 : Int32) (a7 : Int32) (h : zM) : zm_X12_fulls 179 [some (.inr a0), some (.inl a1), some (.inl a2), some (.inl a3), some (.inl a4), some (.inl a5), some (.inl a6), some (.inl a7)] [] h =
  if a7 < a6 then
    (zgF h a0 12 86).bind fun r1 =>
    (zgF h a0 12 75).bind fun r2 =>
    (zia h r2 a1).bind fun v1 =>
    if a7 < a5 then
      (zgF h a0 12 69).bind fun r3 =>
      (zba h r3 (((260 : Int32) * a3) + a7)).bind fun v2 =>
      (zbs h r1 ((((780 : Int32) * a3) + a7) - v1) v2).bind fun h1 =>
      zm_X12_fulls 179 [some (.inr a0), some (.inl a1), some (.inl a2), some (.inl a3), some (.inl a4), some (.inl a5), some (.inl a6), some (.inl (a7 + (1 : Int32)))] [] h1
    else
      (zgF h a0 12 76).bind fun r4 =>
      (zba h r4 ((((520 : Int32) * a4) + a7) - a5)).bind fun v3 =>
      (zbs h r1 ((((780 : Int32) * a3) + a7) - v1) v3).bind fun h2 =>
      zm_X12_fulls 179 [some (.inr a0), some (.inl a1), some (.inl a2), some (.inl a3), some (.inl a4), some (.inl a5), some (.inl a6), some (.inl (a7 + (1 : Int32)))] [] h2
  else
    zm_X12_fulls 102 [some (.inr a0), some (.inl a1), some (.inl (a2 + (1 : Int32))), none, none, none, none, none] [] h := (zZ_eq zFn_mono _ _ _ _).trans rfl
noncomputable def zm_X12_isAlike : zK4 := zZ zf zo_X12_isAlike [(2, 4), (39, 6)]
set_option maxRecDepth 50000 in
theorem e_X12_isAlike (a0 : Nat) (a1 : Int32) (a2 : Int32) (h : zM) : zf nX12_isAlike [.inr a0, .inl a1, .inl a2] h =
  zm_X12_isAlike 2 [some (.inr a0), some (.inl a1), some (.inl a2), some (.inl (0 : Int32)), none, none] [] h := by
  rw [show zf nX12_isAlike = zFn zrecs 201 from rfl, zFn_eq (M := zr_X12_isAlike) rfl zd_X12_isAlike]
  exact (if_pos (Nat.le_of_ble_eq_true rfl)).trans ((zZ_eq zFn_mono _ _ _ _).trans rfl)
set_option maxRecDepth 50000 in
theorem e_X12_isAlike_2 (a0 : Nat) (a1 : Int32) (a2 : Int32) (a3 : Int32) (h : zM) : zm_X12_isAlike 2 [some (.inr a0), some (.inl a1), some (.inl a2), some (.inl a3), none, none] [] h =
  if a3 < (4 : Int32) then
    (zgF h a0 12 85).bind fun r1 =>
    (zia h r1 (((4 : Int32) * a1) + a3)).bind fun v1 =>
    (zgF h a0 12 85).bind fun r2 =>
    (zia h r2 (((4 : Int32) * a2) + a3)).bind fun v2 =>
    if v1 = v2 then
      zm_X12_isAlike 39 [some (.inr a0), some (.inl a1), some (.inl a2), some (.inl a3), some (.inl v1), some (.inl (0 : Int32))] [] h
    else
      zb (0 : Int32) h
  else
    zb (1 : Int32) h := (zZ_eq zFn_mono _ _ _ _).trans rfl
set_option maxRecDepth 50000 in
theorem e_X12_isAlike_39 (a0 : Nat) (a1 : Int32) (a2 : Int32) (a3 : Int32) (a4 : Int32) (a5 : Int32) (h : zM) : zm_X12_isAlike 39 [some (.inr a0), some (.inl a1), some (.inl a2), some (.inl a3), some (.inl a4), some (.inl a5)] [] h =
  if a5 < a4 then
    (zgF h a0 12 86).bind fun r1 =>
    (zba h r1 (((780 : Int32) * (((4 : Int32) * a1) + a3)) + a5)).bind fun v1 =>
    (zgF h a0 12 86).bind fun r2 =>
    (zba h r2 (((780 : Int32) * (((4 : Int32) * a2) + a3)) + a5)).bind fun v2 =>
    if v1 = v2 then
      zm_X12_isAlike 39 [some (.inr a0), some (.inl a1), some (.inl a2), some (.inl a3), some (.inl a4), some (.inl (a5 + (1 : Int32)))] [] h
    else
      zb (0 : Int32) h
  else
    if 0 < a3 then
      if a4 < 0 then
        zm_X12_isAlike 2 [some (.inr a0), some (.inl a1), some (.inl a2), some (.inl (a3 + (1 : Int32))), none, none] [] h
      else
        (zgF h a0 12 87).bind fun r3 =>
        (zgF h a0 12 67).bind fun r4 =>
        (zia h r4 (((4 : Int32) * a1) + a3)).bind fun v3 =>
        (zia h r3 v3).bind fun v4 =>
        (zgF h a0 12 87).bind fun r5 =>
        (zgF h a0 12 67).bind fun r6 =>
        (zia h r6 (((4 : Int32) * a2) + a3)).bind fun v5 =>
        (zia h r5 v5).bind fun v6 =>
        if v4 = v6 then
          zm_X12_isAlike 2 [some (.inr a0), some (.inl a1), some (.inl a2), some (.inl (a3 + (1 : Int32))), none, none] [] h
        else
          zb (0 : Int32) h
    else
      zm_X12_isAlike 2 [some (.inr a0), some (.inl a1), some (.inl a2), some (.inl (a3 + (1 : Int32))), none, none] [] h := (zZ_eq zFn_mono _ _ _ _).trans rfl
noncomputable def zm_X12_least : zK4 := zZ zf zo_X12_least [(2, 2), (25, 2), (33, 3), (52, 4), (101, 3), (157, 3), (208, 3), (255, 3), (273, 5), (308, 7)]
set_option maxRecDepth 50000 in
theorem e_X12_least (a0 : Nat) (h : zM) : zf nX12_least [.inr a0] h =
  zm_X12_least 2 [some (.inr a0), some (.inl (0 : Int32)), none, none, none, none, none] [] h := by
  rw [show zf nX12_least = zFn zrecs 202 from rfl, zFn_eq (M := zr_X12_least) rfl zd_X12_least]
  exact (if_pos (Nat.le_of_ble_eq_true rfl)).trans ((zZ_eq zFn_mono _ _ _ _).trans rfl)
set_option maxRecDepth 50000 in
theorem e_X12_least_2 (a0 : Nat) (a1 : Int32) (h : zM) : zm_X12_least 2 [some (.inr a0), some (.inl a1), none, none, none, none, none] [] h =
  (zgI h a0 12 64).bind fun v1 =>
  if a1 < v1 then
    (zgF h a0 12 87).bind fun r1 =>
    (zis h r1 a1 (0 : Int32)).bind fun h1 =>
    zm_X12_least 2 [some (.inr a0), some (.inl (a1 + (1 : Int32))), none, none, none, none, none] [] h1
  else
    zm_X12_least 25 [some (.inr a0), some (.inl (1 : Int32)), none, none, none, none, none] [] h := (zZ_eq zFn_mono _ _ _ _).trans rfl
set_option maxRecDepth 50000 in
theorem e_X12_least_25 (a0 : Nat) (a1 : Int32) (h : zM) : zm_X12_least 25 [some (.inr a0), some (.inl a1), none, none, none, none, none] [] h =
  if a1 = 0 then
    zm_X12_least 157 [some (.inr a0), some (.inl a1), some (.inl (0 : Int32)), none, none, none, none] [] h
  else
    zm_X12_least 33 [some (.inr a0), some (.inl (0 : Int32)), some (.inl (0 : Int32)), none, none, none, none] [] h := (zZ_eq zFn_mono _ _ _ _).trans rfl
set_option maxRecDepth 50000 in
theorem e_X12_least_33 (a0 : Nat) (a1 : Int32) (a2 : Int32) (h : zM) : zm_X12_least 33 [some (.inr a0), some (.inl a1), some (.inl a2), none, none, none, none] [] h =
  (zgI h a0 12 64).bind fun v1 =>
  if a2 < v1 then
    (zgF h a0 12 88).bind fun r1 =>
    (zis h r1 a2 a2).bind fun h1 =>
    zm_X12_least 52 [some (.inr a0), some (.inl a1), some (.inl a2), some (.inl (a2 - (1 : Int32))), none, none, none] [] h1
  else
    zm_X12_least 101 [some (.inr a0), some (.inl a1), some (.inl (0 : Int32)), none, none, none, none] [] h := (zZ_eq zFn_mono _ _ _ _).trans rfl
set_option maxRecDepth 50000 in
theorem e_X12_least_52 (a0 : Nat) (a1 : Int32) (a2 : Int32) (a3 : Int32) (h : zM) : zm_X12_least 52 [some (.inr a0), some (.inl a1), some (.inl a2), some (.inl a3), none, none, none] [] h =
  if a3 < 0 then
    zm_X12_least 33 [some (.inr a0), some (.inl a1), some (.inl (a2 + (1 : Int32))), none, none, none, none] [] h
  else
    (zgF h a0 12 87).bind fun r1 =>
    (zia h r1 a3).bind fun v1 =>
    (zgF h a0 12 87).bind fun r2 =>
    (zia h r2 a2).bind fun v2 =>
    if v1 = v2 then
      zif (zK h a0 = 13) (
      (zf nX12_isAlike [.inr a0, .inl a3, .inl a2] h).bind fun u1 =>
      if u1.1 = 0 then
        zm_X12_least 52 [some (.inr a0), some (.inl a1), some (.inl a2), some (.inl (a3 + (-1 : Int32))), none, none, none] [] u1.2.2
      else
        (zgF u1.2.2 a0 12 88).bind fun r3 =>
        (zis u1.2.2 r3 a2 a3).bind fun h1 =>
        zm_X12_least 52 [some (.inr a0), some (.inl a1), some (.inl a2), some (.inl (a3 + (-1 : Int32))), none, none, none] [] h1)
    else
      zm_X12_least 52 [some (.inr a0), some (.inl a1), some (.inl a2), some (.inl (a3 + (-1 : Int32))), none, none, none] [] h := (zZ_eq zFn_mono _ _ _ _).trans rfl
set_option maxRecDepth 50000 in
theorem e_X12_least_101 (a0 : Nat) (a1 : Int32) (a2 : Int32) (h : zM) : zm_X12_least 101 [some (.inr a0), some (.inl a1), some (.inl a2), none, none, none, none] [] h =
  (zgI h a0 12 64).bind fun v1 =>
  if a2 < v1 then
    if a1 = 0 then
      (zgF h a0 12 87).bind fun r1 =>
      (zia h r1 a2).bind fun v2 =>
      (zgF h a0 12 88).bind fun r2 =>
      (zia h r2 a2).bind fun v3 =>
      if v2 = v3 then
        (zgF h a0 12 87).bind fun r3 =>
        (zgF h a0 12 88).bind fun r4 =>
        (zia h r4 a2).bind fun v4 =>
        (zis h r3 a2 v4).bind fun h1 =>
        zm_X12_least 101 [some (.inr a0), some (.inl (0 : Int32)), some (.inl (a2 + (1 : Int32))), none, none, none, none] [] h1
      else
        (zgF h a0 12 87).bind fun r5 =>
        (zgF h a0 12 88).bind fun r6 =>
        (zia h r6 a2).bind fun v5 =>
        (zis h r5 a2 v5).bind fun h2 =>
        zm_X12_least 101 [some (.inr a0), some (.inl (1 : Int32)), some (.inl (a2 + (1 : Int32))), none, none, none, none] [] h2
    else
      (zgF h a0 12 87).bind fun r7 =>
      (zgF h a0 12 88).bind fun r8 =>
      (zia h r8 a2).bind fun v6 =>
      (zis h r7 a2 v6).bind fun h3 =>
      zm_X12_least 101 [some (.inr a0), some (.inl (1 : Int32)), some (.inl (a2 + (1 : Int32))), none, none, none, none] [] h3
  else
    zm_X12_least 25 [some (.inr a0), some (.inl a1), none, none, none, none, none] [] h := (zZ_eq zFn_mono _ _ _ _).trans rfl
set_option maxRecDepth 50000 in
theorem e_X12_least_157 (a0 : Nat) (a1 : Int32) (a2 : Int32) (h : zM) : zm_X12_least 157 [some (.inr a0), some (.inl a1), some (.inl a2), none, none, none, none] [] h =
  (zgI h a0 12 64).bind fun v1 =>
  if a2 < v1 then
    (zgF h a0 12 89).bind fun r1 =>
    (zis h r1 a2 (-1 : Int32)).bind fun h1 =>
    zm_X12_least 157 [some (.inr a0), some (.inl a1), some (.inl (a2 + (1 : Int32))), none, none, none, none] [] h1
  else
    (zpI h a0 12 79 (0 : Int32)).bind fun h2 =>
    (zpI h2 a0 12 83 (0 : Int32)).bind fun h3 =>
    (zgI h3 a0 12 64).bind fun v2 =>
    if v2 = 0 then
      some (0, 0, h3)
    else
      (zgF h3 a0 12 75).bind fun r2 =>
      (zia h3 r2 (0 : Int32)).bind fun v3 =>
      (zpI h3 a0 12 83 v3).bind fun h4 =>
      zm_X12_least 208 [some (.inr a0), some (.inl a1), some (.inl (0 : Int32)), none, none, none, none] [] h4 := (zZ_eq zFn_mono _ _ _ _).trans rfl
set_option maxRecDepth 50000 in
theorem e_X12_least_208 (a0 : Nat) (a1 : Int32) (a2 : Int32) (h : zM) : zm_X12_least 208 [some (.inr a0), some (.inl a1), some (.inl a2), none, none, none, none] [] h =
  (zgI h a0 12 83).bind fun v1 =>
  if a2 < v1 then
    (zgF h a0 12 84).bind fun r1 =>
    (zgF h a0 12 76).bind fun r2 =>
    (zba h r2 a2).bind fun v2 =>
    (zbs h r1 a2 v2).bind fun h1 =>
    zm_X12_least 208 [some (.inr a0), some (.inl a1), some (.inl (a2 + (1 : Int32))), none, none, none, none] [] h1
  else
    (zgF h a0 12 89).bind fun r3 =>
    (zis h r3 (0 : Int32) (0 : Int32)).bind fun h2 =>
    (zgF h2 a0 12 88).bind fun r4 =>
    (zis h2 r4 (0 : Int32) (0 : Int32)).bind fun h3 =>
    (zpI h3 a0 12 79 (1 : Int32)).bind fun h4 =>
    zm_X12_least 255 [some (.inr a0), some (.inl a1), some (.inl (0 : Int32)), none, none, none, none] [] h4 := (zZ_eq zFn_mono _ _ _ _).trans rfl
set_option maxRecDepth 50000 in
theorem e_X12_least_255 (a0 : Nat) (a1 : Int32) (a2 : Int32) (h : zM) : zm_X12_least 255 [some (.inr a0), some (.inl a1), some (.inl a2), none, none, none, none] [] h =
  (zgI h a0 12 79).bind fun v1 =>
  if a2 < v1 then
    (zgF h a0 12 88).bind fun r1 =>
    (zia h r1 a2).bind fun v2 =>
    zm_X12_least 273 [some (.inr a0), some (.inl a1), some (.inl a2), some (.inl v2), some (.inl (0 : Int32)), none, none] [] h
  else
    some (0, 0, h) := (zZ_eq zFn_mono _ _ _ _).trans rfl
set_option maxRecDepth 50000 in
theorem e_X12_least_273 (a0 : Nat) (a1 : Int32) (a2 : Int32) (a3 : Int32) (a4 : Int32) (h : zM) : zm_X12_least 273 [some (.inr a0), some (.inl a1), some (.inl a2), some (.inl a3), some (.inl a4), none, none] [] h =
  if a4 < (4 : Int32) then
    (zgF h a0 12 81).bind fun r1 =>
    (zgF h a0 12 85).bind fun r2 =>
    (zia h r2 (((4 : Int32) * a3) + a4)).bind fun v1 =>
    (zis h r1 (((4 : Int32) * a2) + a4) v1).bind fun h1 =>
    zm_X12_least 308 [some (.inr a0), some (.inl a1), some (.inl a2), some (.inl a3), some (.inl a4), some (.inl (((4 : Int32) * a3) + a4)), some (.inl (0 : Int32))] [] h1
  else
    zm_X12_least 255 [some (.inr a0), some (.inl a1), some (.inl (a2 + (1 : Int32))), none, none, none, none] [] h := (zZ_eq zFn_mono _ _ _ _).trans rfl
set_option maxRecDepth 50000 in
theorem e_X12_least_308 (a0 : Nat) (a1 : Int32) (a2 : Int32) (a3 : Int32) (a4 : Int32) (a5 : Int32) (a6 : Int32) (h : zM) : zm_X12_least 308 [some (.inr a0), some (.inl a1), some (.inl a2), some (.inl a3), some (.inl a4), some (.inl a5), some (.inl a6)] [] h =
  (zgF h a0 12 85).bind fun r1 =>
  (zia h r1 a5).bind fun v1 =>
  if a6 < v1 then
    (zgF h a0 12 82).bind fun r2 =>
    (zgF h a0 12 86).bind fun r3 =>
    (zba h r3 (((780 : Int32) * a5) + a6)).bind fun v2 =>
    (zbs h r2 (((780 : Int32) * (((4 : Int32) * a2) + a4)) + a6) v2).bind fun h1 =>
    zm_X12_least 308 [some (.inr a0), some (.inl a1), some (.inl a2), some (.inl a3), some (.inl a4), some (.inl a5), some (.inl (a6 + (1 : Int32)))] [] h1
  else
    (zgF h a0 12 80).bind fun r4 =>
    (zis h r4 (((4 : Int32) * a2) + a4) (-1 : Int32)).bind fun h2 =>
    if a4 = 0 then
      zm_X12_least 273 [some (.inr a0), some (.inl a1), some (.inl a2), some (.inl a3), some (.inl (a4 + (1 : Int32))), none, none] [] h2
    else
      (zgF h2 a0 12 85).bind fun r5 =>
      (zia h2 r5 a5).bind fun v3 =>
      if v3 < 0 then
        zm_X12_least 273 [some (.inr a0), some (.inl a1), some (.inl a2), some (.inl a3), some (.inl (a4 + (1 : Int32))), none, none] [] h2
      else
        (zgF h2 a0 12 87).bind fun r6 =>
        (zgF h2 a0 12 67).bind fun r7 =>
        (zia h2 r7 a5).bind fun v4 =>
        (zia h2 r6 v4).bind fun v5 =>
        (zgF h2 a0 12 89).bind fun r8 =>
        (zia h2 r8 v5).bind fun v6 =>
        if v6 < 0 then
          (zgF h2 a0 12 89).bind fun r9 =>
          (zgI h2 a0 12 79).bind fun v7 =>
          (zis h2 r9 v5 v7).bind fun h3 =>
          (zgF h3 a0 12 88).bind fun r10 =>
          (zgI h3 a0 12 79).bind fun v8 =>
          (zis h3 r10 v8 v5).bind fun h4 =>
          (zgI h4 a0 12 79).bind fun v9 =>
          (zpI h4 a0 12 79 (v9 + (1 : Int32))).bind fun h5 =>
          (zgF h5 a0 12 80).bind fun r11 =>
          (zgF h5 a0 12 89).bind fun r12 =>
          (zia h5 r12 v5).bind fun v10 =>
          (zis h5 r11 (((4 : Int32) * a2) + a4) v10).bind fun h6 =>
          zm_X12_least 273 [some (.inr a0), some (.inl a1), some (.inl a2), some (.inl a3), some (.inl (a4 + (1 : Int32))), none, none] [] h6
        else
          (zgF h2 a0 12 80).bind fun r13 =>
          (zgF h2 a0 12 89).bind fun r14 =>
          (zia h2 r14 v5).bind fun v11 =>
          (zis h2 r13 (((4 : Int32) * a2) + a4) v11).bind fun h7 =>
          zm_X12_least 273 [some (.inr a0), some (.inl a1), some (.inl a2), some (.inl a3), some (.inl (a4 + (1 : Int32))), none, none] [] h7 := (zZ_eq zFn_mono _ _ _ _).trans rfl
noncomputable def zm_X12_sequential : zK4 := zZ zf zo_X12_sequential [(79, 4), (168, 5)]
set_option maxRecDepth 50000 in
theorem e_X12_sequential (a0 : Nat) (a1 : Int32) (h : zM) : zf nX12_sequential [.inr a0, .inl a1] h =
  (zf nX12_isMachine [.inl a1] h).bind fun u1 =>
  if u1.1 = 0 then
    some ((-1 : Int32), 0, u1.2.2)
  else
    (zgI u1.2.2 a0 12 62).bind fun v1 =>
    if v1 = (24 : Int32) then
      some ((-2 : Int32), 0, u1.2.2)
    else
      zif (zK u1.2.2 a0 = 13) (
      (zf nX12_functional [.inr a0, .inl a1] u1.2.2).bind fun u2 =>
      if u2.1 = 0 then
        some ((-1 : Int32), 0, u2.2.2)
      else
        zif (zK u2.2.2 a0 = 13) (
        (zf nX12_uses [.inr a0, .inl a1] u2.2.2).bind fun u3 =>
        (zpZ u3.2.2 a0 12 78 (0 : Int32)).bind fun h1 =>
        (zgI h1 a0 12 62).bind fun v2 =>
        (zpI h1 a0 12 62 (v2 + (1 : Int32))).bind fun h2 =>
        zif (zK h2 a0 = 13) (
        (zf nX12_twinsOf [.inr a0, .inl a1] h2).bind fun u4 =>
        (zgF u4.2.2 a0 12 63).bind fun r1 =>
        (zgI u4.2.2 a0 12 61).bind fun v3 =>
        (zis u4.2.2 r1 (0 : Int32) v3).bind fun h3 =>
        (zgF h3 a0 12 63).bind fun r2 =>
        (zgI h3 a0 12 54).bind fun v4 =>
        (zis h3 r2 (1 : Int32) v4).bind fun h4 =>
        zm_X12_sequential 79 [some (.inr a0), some (.inl a1), some (.inl u4.1), some (.inl (2 : Int32)), none] [] h4))) := by
  rw [show zf nX12_sequential = zFn zrecs 203 from rfl, zFn_eq (M := zr_X12_sequential) rfl zd_X12_sequential]
  exact (if_pos (Nat.le_of_ble_eq_true rfl)).trans ((zZ_eq zFn_mono _ _ _ _).trans rfl)
set_option maxRecDepth 50000 in
theorem e_X12_sequential_79 (a0 : Nat) (a1 : Int32) (a2 : Int32) (a3 : Int32) (h : zM) : zm_X12_sequential 79 [some (.inr a0), some (.inl a1), some (.inl a2), some (.inl a3), none] [] h =
  if a3 < (5 : Int32) then
    (zgF h a0 12 63).bind fun r1 =>
    (zis h r1 a3 (-1 : Int32)).bind fun h1 =>
    zm_X12_sequential 79 [some (.inr a0), some (.inl a1), some (.inl a2), some (.inl (a3 + (1 : Int32))), none] [] h1
  else
    if a2 = (1 : Int32) then
      zif (zK h a0 = 13) (
      (zf nX12_makes [.inr a0, .inl a1] h).bind fun u1 =>
      (zgF u1.2.2 a0 12 63).bind fun r2 =>
      (zgI u1.2.2 a0 12 64).bind fun v1 =>
      (zis u1.2.2 r2 (2 : Int32) v1).bind fun h2 =>
      if u1.1 = 0 then
        some ((2 : Int32), 0, h2)
      else
        zif (zK h2 a0 = 13) (
        (zf nX12_endsOf [.inr a0, .inl a1] h2).bind fun u2 =>
        zif (zK u2.2.2 a0 = 13) (
        (zf nX12_heads [.inr a0] u2.2.2).bind fun u3 =>
        zif (zK u3.2.2 a0 = 13) (
        (zf nX12_fulls [.inr a0] u3.2.2).bind fun u4 =>
        zif (zK u4.2.2 a0 = 13) (
        (zf nX12_least [.inr a0] u4.2.2).bind fun u5 =>
        (zpZ u5.2.2 a0 12 78 (1 : Int32)).bind fun h3 =>
        (zgF h3 a0 12 63).bind fun r3 =>
        (zgI h3 a0 12 79).bind fun v2 =>
        (zis h3 r3 (3 : Int32) v2).bind fun h4 =>
        (zgF h4 a0 12 63).bind fun r4 =>
        (zis h4 r4 (4 : Int32) (0 : Int32)).bind fun h5 =>
        zm_X12_sequential 168 [some (.inr a0), some (.inl a1), some (.inl a2), some (.inl u1.1), some (.inl (0 : Int32))] [] h5)))))
    else
      some (a2, 0, h) := (zZ_eq zFn_mono _ _ _ _).trans rfl
set_option maxRecDepth 50000 in
theorem e_X12_sequential_168 (a0 : Nat) (a1 : Int32) (a2 : Int32) (a3 : Int32) (a4 : Int32) (h : zM) : zm_X12_sequential 168 [some (.inr a0), some (.inl a1), some (.inl a2), some (.inl a3), some (.inl a4)] [] h =
  (zgI h a0 12 79).bind fun v1 =>
  if a4 < ((4 : Int32) * v1) then
    (zgF h a0 12 63).bind fun r1 =>
    (zia h r1 (4 : Int32)).bind fun v2 =>
    if (4 : Int32) = 0 then none else
    if 0 < (a4 - a4 / (4 : Int32) * (4 : Int32)) then
      (zgF h a0 12 80).bind fun r2 =>
      (zia h r2 a4).bind fun v3 =>
      if v3 < 0 then
        (zis h r1 (4 : Int32) (v2 + (0 : Int32))).bind fun h1 =>
        zm_X12_sequential 168 [some (.inr a0), some (.inl a1), some (.inl a2), some (.inl a3), some (.inl (a4 + (1 : Int32)))] [] h1
      else
        (zis h r1 (4 : Int32) (v2 + (1 : Int32))).bind fun h2 =>
        zm_X12_sequential 168 [some (.inr a0), some (.inl a1), some (.inl a2), some (.inl a3), some (.inl (a4 + (1 : Int32)))] [] h2
    else
      (zis h r1 (4 : Int32) (v2 + (0 : Int32))).bind fun h3 =>
      zm_X12_sequential 168 [some (.inr a0), some (.inl a1), some (.inl a2), some (.inl a3), some (.inl (a4 + (1 : Int32)))] [] h3
  else
    some ((1 : Int32), 0, h) := (zZ_eq zFn_mono _ _ _ _).trans rfl
noncomputable def zm_X12_told : zK4 := zZ zf zo_X12_told []
set_option maxRecDepth 50000 in
theorem e_X12_told (a0 : Nat) (a1 : Int32) (h : zM) : zf nX12_told [.inr a0, .inl a1] h =
  if a1 < 0 then
    some ((-1 : Int32), 0, h)
  else
    if a1 < (5 : Int32) then
      (zgF h a0 12 63).bind fun r1 =>
      (zia h r1 a1).bind fun v1 =>
      some (v1, 0, h)
    else
      some ((-1 : Int32), 0, h) := by
  rw [show zf nX12_told = zFn zrecs 204 from rfl, zFn_eq (M := zr_X12_told) rfl zd_X12_told]
  exact (if_pos (Nat.le_of_ble_eq_true rfl)).trans ((zZ_eq zFn_mono _ _ _ _).trans rfl)
noncomputable def zm_X12_isLeast : zK4 := zZ zf zo_X12_isLeast []
set_option maxRecDepth 50000 in
theorem e_X12_isLeast (a0 : Nat) (a1 : Int32) (h : zM) : zf nX12_isLeast [.inr a0, .inl a1] h =
  (zgI h a0 12 78).bind fun v1 =>
  if v1 = 0 then
    zb (0 : Int32) h
  else
    if a1 < 0 then
      zb (0 : Int32) h
    else
      (zgI h a0 12 79).bind fun v2 =>
      if a1 < v2 then
        zb (1 : Int32) h
      else
        zb (0 : Int32) h := by
  rw [show zf nX12_isLeast = zFn zrecs 205 from rfl, zFn_eq (M := zr_X12_isLeast) rfl zd_X12_isLeast]
  exact (if_pos (Nat.le_of_ble_eq_true rfl)).trans ((zZ_eq zFn_mono _ _ _ _).trans rfl)
noncomputable def zm_X12_goes : zK4 := zZ zf zo_X12_goes []
set_option maxRecDepth 50000 in
theorem e_X12_goes (a0 : Nat) (a1 : Int32) (a2 : Int32) (h : zM) : zf nX12_goes [.inr a0, .inl a1, .inl a2] h =
  zif (zK h a0 = 13) (
  (zf nX12_isLeast [.inr a0, .inl a1] h).bind fun u1 =>
  if u1.1 = 0 then
    some ((-1 : Int32), 0, u1.2.2)
  else
    if a2 < (1 : Int32) then
      some ((-1 : Int32), 0, u1.2.2)
    else
      if (3 : Int32) < a2 then
        some ((-1 : Int32), 0, u1.2.2)
      else
        (zgF u1.2.2 a0 12 80).bind fun r1 =>
        (zia u1.2.2 r1 (((4 : Int32) * a1) + a2)).bind fun v1 =>
        some (v1, 0, u1.2.2)) := by
  rw [show zf nX12_goes = zFn zrecs 206 from rfl, zFn_eq (M := zr_X12_goes) rfl zd_X12_goes]
  exact (if_pos (Nat.le_of_ble_eq_true rfl)).trans ((zZ_eq zFn_mono _ _ _ _).trans rfl)
noncomputable def zm_X12_writes : zK4 := zZ zf zo_X12_writes []
set_option maxRecDepth 50000 in
theorem e_X12_writes (a0 : Nat) (a1 : Int32) (a2 : Int32) (a3 : Int32) (h : zM) : zf nX12_writes [.inr a0, .inl a1, .inl a2, .inl a3] h =
  if a1 = (-1 : Int32) then
    (zgI h a0 12 78).bind fun v1 =>
    if v1 = 0 then
      some ((-2 : Int32), 0, h)
    else
      if a3 < 0 then
        some ((-1 : Int32), 0, h)
      else
        (zgI h a0 12 83).bind fun v2 =>
        if a3 < v2 then
          (zgF h a0 12 84).bind fun r1 =>
          (zba h r1 a3).bind fun v3 =>
          some (v3, 0, h)
        else
          some ((-1 : Int32), 0, h)
  else
    zif (zK h a0 = 13) (
    (zf nX12_isLeast [.inr a0, .inl a1] h).bind fun u1 =>
    if u1.1 = 0 then
      some ((-2 : Int32), 0, u1.2.2)
    else
      if a2 < 0 then
        some ((-2 : Int32), 0, u1.2.2)
      else
        if (3 : Int32) < a2 then
          some ((-2 : Int32), 0, u1.2.2)
        else
          (zgF u1.2.2 a0 12 81).bind fun r2 =>
          (zia u1.2.2 r2 (((4 : Int32) * a1) + a2)).bind fun v4 =>
          if v4 < 0 then
            some ((-2 : Int32), 0, u1.2.2)
          else
            if a3 < 0 then
              some ((-1 : Int32), 0, u1.2.2)
            else
              (zgF u1.2.2 a0 12 81).bind fun r3 =>
              (zia u1.2.2 r3 (((4 : Int32) * a1) + a2)).bind fun v5 =>
              if a3 < v5 then
                (zgF u1.2.2 a0 12 82).bind fun r4 =>
                (zba u1.2.2 r4 (((780 : Int32) * (((4 : Int32) * a1) + a2)) + a3)).bind fun v6 =>
                some (v6, 0, u1.2.2)
              else
                some ((-1 : Int32), 0, u1.2.2)) := by
  rw [show zf nX12_writes = zFn zrecs 207 from rfl, zFn_eq (M := zr_X12_writes) rfl zd_X12_writes]
  exact (if_pos (Nat.le_of_ble_eq_true rfl)).trans ((zZ_eq zFn_mono _ _ _ _).trans rfl)
noncomputable def zm_X12_behindAct : zK4 := zZ zf zo_X12_behindAct [(2, 4)]
set_option maxRecDepth 50000 in
theorem e_X12_behindAct (a0 : Nat) (a1 : Int32) (a2 : Int32) (h : zM) : zf nX12_behindAct [.inr a0, .inl a1, .inl a2] h =
  zm_X12_behindAct 2 [some (.inr a0), some (.inl a1), some (.inl a2), some (.inl (0 : Int32))] [] h := by
  rw [show zf nX12_behindAct = zFn zrecs 208 from rfl, zFn_eq (M := zr_X12_behindAct) rfl zd_X12_behindAct]
  exact (if_pos (Nat.le_of_ble_eq_true rfl)).trans ((zZ_eq zFn_mono _ _ _ _).trans rfl)
set_option maxRecDepth 50000 in
theorem e_X12_behindAct_2 (a0 : Nat) (a1 : Int32) (a2 : Int32) (a3 : Int32) (h : zM) : zm_X12_behindAct 2 [some (.inr a0), some (.inl a1), some (.inl a2), some (.inl a3)] [] h =
  (zgF h a0 12 81).bind fun r1 =>
  (zia h r1 a2).bind fun v1 =>
  if a3 < v1 then
    (zgF h a0 12 92).bind fun r2 =>
    (zgF h a0 12 82).bind fun r3 =>
    (zba h r3 (((780 : Int32) * a2) + a3)).bind fun v2 =>
    (zbs h r2 (a1 + a3) v2).bind fun h1 =>
    zm_X12_behindAct 2 [some (.inr a0), some (.inl a1), some (.inl a2), some (.inl (a3 + (1 : Int32)))] [] h1
  else
    (zgF h a0 12 81).bind fun r4 =>
    (zia h r4 a2).bind fun v3 =>
    some ((a1 + v3), 0, h) := (zZ_eq zFn_mono _ _ _ _).trans rfl
noncomputable def zm_X12_act : zK4 := zZ zf zo_X12_act [(40, 5), (75, 6), (160, 6)]
set_option maxRecDepth 50000 in
theorem e_X12_act (a0 : Nat) (a1 : Int32) (h : zM) : zf nX12_act [.inr a0, .inl a1] h =
  (zf nX12_letters [.inl a1, .inl (3 : Int32)] h).bind fun u1 =>
  (zgI u1.2.2 a0 12 78).bind fun v1 =>
  if v1 = 0 then
    some ((-1 : Int32), 0, u1.2.2)
  else
    (zgI u1.2.2 a0 12 79).bind fun v2 =>
    if v2 = 0 then
      some ((-1 : Int32), 0, u1.2.2)
    else
      if u1.1 < 0 then
        some ((-1 : Int32), 0, u1.2.2)
      else
        if (9 : Int32) < u1.1 then
          some ((-1 : Int32), 0, u1.2.2)
        else
          (zgI u1.2.2 a0 12 83).bind fun v3 =>
          zm_X12_act 40 [some (.inr a0), some (.inl a1), some (.inl u1.1), some (.inl v3), some (.inl (0 : Int32)), none, none] [] u1.2.2 := by
  rw [show zf nX12_act = zFn zrecs 209 from rfl, zFn_eq (M := zr_X12_act) rfl zd_X12_act]
  exact (if_pos (Nat.le_of_ble_eq_true rfl)).trans ((zZ_eq zFn_mono _ _ _ _).trans rfl)
set_option maxRecDepth 50000 in
theorem e_X12_act_40 (a0 : Nat) (a1 : Int32) (a2 : Int32) (a3 : Int32) (a4 : Int32) (h : zM) : zm_X12_act 40 [some (.inr a0), some (.inl a1), some (.inl a2), some (.inl a3), some (.inl a4), none, none] [] h =
  (zgI h a0 12 83).bind fun v1 =>
  if a4 < v1 then
    (zgF h a0 12 92).bind fun r1 =>
    (zgF h a0 12 84).bind fun r2 =>
    (zba h r2 a4).bind fun v2 =>
    (zbs h r1 a4 v2).bind fun h1 =>
    zm_X12_act 40 [some (.inr a0), some (.inl a1), some (.inl a2), some (.inl a3), some (.inl (a4 + (1 : Int32))), none, none] [] h1
  else
    zm_X12_act 75 [some (.inr a0), some (.inl a1), some (.inl a2), some (.inl a3), some (.inl (0 : Int32)), some (.inl (0 : Int32)), none] [] h := (zZ_eq zFn_mono _ _ _ _).trans rfl
set_option maxRecDepth 50000 in
theorem e_X12_act_75 (a0 : Nat) (a1 : Int32) (a2 : Int32) (a3 : Int32) (a4 : Int32) (a5 : Int32) (h : zM) : zm_X12_act 75 [some (.inr a0), some (.inl a1), some (.inl a2), some (.inl a3), some (.inl a4), some (.inl a5), none] [] h =
  if a5 < a2 then
    (zf nX12_letter [.inl a1, .inl a2, .inl a5] h).bind fun u1 =>
    (zgF u1.2.2 a0 12 80).bind fun r1 =>
    (zia u1.2.2 r1 (((4 : Int32) * a4) + u1.1)).bind fun v1 =>
    if v1 < 0 then
      some ((-1 : Int32), 0, u1.2.2)
    else
      zif (zK u1.2.2 a0 = 13) (
      (zf nX12_behindAct [.inr a0, .inl a3, .inl (((4 : Int32) * a4) + u1.1)] u1.2.2).bind fun u2 =>
      (zgF u2.2.2 a0 12 80).bind fun r2 =>
      (zia u2.2.2 r2 (((4 : Int32) * a4) + u1.1)).bind fun v2 =>
      zm_X12_act 75 [some (.inr a0), some (.inl a1), some (.inl a2), some (.inl u2.1), some (.inl v2), some (.inl (a5 + (1 : Int32))), none] [] u2.2.2)
  else
    (zgF h a0 12 81).bind fun r3 =>
    (zia h r3 ((4 : Int32) * a4)).bind fun v3 =>
    if v3 < 0 then
      some ((-1 : Int32), 0, h)
    else
      zif (zK h a0 = 13) (
      (zf nX12_behindAct [.inr a0, .inl a3, .inl ((4 : Int32) * a4)] h).bind fun u3 =>
      (zpI u3.2.2 a0 12 90 u3.1).bind fun h1 =>
      zm_X12_act 160 [some (.inr a0), some (.inl a1), some (.inl a2), some (.inl a3), some (.inl a4), some (.inl (0 : Int32)), none] [] h1) := (zZ_eq zFn_mono _ _ _ _).trans rfl
set_option maxRecDepth 50000 in
theorem e_X12_act_160 (a0 : Nat) (a1 : Int32) (a2 : Int32) (a3 : Int32) (a4 : Int32) (a5 : Int32) (h : zM) : zm_X12_act 160 [some (.inr a0), some (.inl a1), some (.inl a2), some (.inl a3), some (.inl a4), some (.inl a5), none] [] h =
  (zgI h a0 12 90).bind fun v1 =>
  if a5 < v1 then
    (zgF h a0 12 91).bind fun r1 =>
    (zgF h a0 12 92).bind fun r2 =>
    (zba h r2 a5).bind fun v2 =>
    (zbs h r1 a5 v2).bind fun h1 =>
    zm_X12_act 160 [some (.inr a0), some (.inl a1), some (.inl a2), some (.inl a3), some (.inl a4), some (.inl (a5 + (1 : Int32))), none] [] h1
  else
    (zgI h a0 12 90).bind fun v3 =>
    some (v3, 0, h) := (zZ_eq zFn_mono _ _ _ _).trans rfl
noncomputable def zm_X12_acted : zK4 := zZ zf zo_X12_acted []
set_option maxRecDepth 50000 in
theorem e_X12_acted (a0 : Nat) (a1 : Int32) (h : zM) : zf nX12_acted [.inr a0, .inl a1] h =
  if a1 < 0 then
    some ((-1 : Int32), 0, h)
  else
    (zgI h a0 12 90).bind fun v1 =>
    if a1 < v1 then
      (zgF h a0 12 91).bind fun r1 =>
      (zba h r1 a1).bind fun v2 =>
      some (v2, 0, h)
    else
      some ((-1 : Int32), 0, h) := by
  rw [show zf nX12_acted = zFn zrecs 210 from rfl, zFn_eq (M := zr_X12_acted) rfl zd_X12_acted]
  exact (if_pos (Nat.le_of_ble_eq_true rfl)).trans ((zZ_eq zFn_mono _ _ _ _).trans rfl)
noncomputable def zm_X12_wordOfLeast : zK4 := zZ zf zo_X12_wordOfLeast [(4, 4)]
set_option maxRecDepth 50000 in
theorem e_X12_wordOfLeast (a0 : Nat) (a1 : Int32) (h : zM) : zf nX12_wordOfLeast [.inr a0, .inl a1] h =
  zm_X12_wordOfLeast 4 [some (.inr a0), some (.inl a1), some (.inl (0 : Int32)), some (.inl (0 : Int32))] [] h := by
  rw [show zf nX12_wordOfLeast = zFn zrecs 211 from rfl, zFn_eq (M := zr_X12_wordOfLeast) rfl zd_X12_wordOfLeast]
  exact (if_pos (Nat.le_of_ble_eq_true rfl)).trans ((zZ_eq zFn_mono _ _ _ _).trans rfl)
set_option maxRecDepth 50000 in
theorem e_X12_wordOfLeast_4 (a0 : Nat) (a1 : Int32) (a2 : Int32) (a3 : Int32) (h : zM) : zm_X12_wordOfLeast 4 [some (.inr a0), some (.inl a1), some (.inl a2), some (.inl a3)] [] h =
  (zgF h a0 12 81).bind fun r1 =>
  (zia h r1 a1).bind fun v1 =>
  if a3 < v1 then
    (zgF h a0 12 82).bind fun r2 =>
    (zba h r2 (((780 : Int32) * a1) + a3)).bind fun v2 =>
    zm_X12_wordOfLeast 4 [some (.inr a0), some (.inl a1), some (.inl (((10 : Int32) * a2) + v2)), some (.inl (a3 + (1 : Int32)))] [] h
  else
    some (a2, 0, h) := (zZ_eq zFn_mono _ _ _ _).trans rfl
noncomputable def zm_X12_take : zK4 := zZ zf zo_X12_take [(34, 3), (74, 4), (134, 5)]
set_option maxRecDepth 50000 in
theorem e_X12_take (a0 : Nat) (a1 : Int32) (h : zM) : zf nX12_take [.inr a0, .inl a1] h =
  (zf nX12_isMachine [.inl a1] h).bind fun u1 =>
  if u1.1 = 0 then
    zb (0 : Int32) u1.2.2
  else
    (zgI u1.2.2 a0 12 78).bind fun v1 =>
    if v1 = 0 then
      zb (0 : Int32) u1.2.2
    else
      (zgI u1.2.2 a0 12 83).bind fun v2 =>
      if 0 < v2 then
        zb (0 : Int32) u1.2.2
      else
        (zgI u1.2.2 a0 12 79).bind fun v3 =>
        if (6 : Int32) < v3 then
          zb (0 : Int32) u1.2.2
        else
          zm_X12_take 34 [some (.inr a0), some (.inl a1), some (.inl (0 : Int32)), none, none] [] u1.2.2 := by
  rw [show zf nX12_take = zFn zrecs 212 from rfl, zFn_eq (M := zr_X12_take) rfl zd_X12_take]
  exact (if_pos (Nat.le_of_ble_eq_true rfl)).trans ((zZ_eq zFn_mono _ _ _ _).trans rfl)
set_option maxRecDepth 50000 in
theorem e_X12_take_34 (a0 : Nat) (a1 : Int32) (a2 : Int32) (h : zM) : zm_X12_take 34 [some (.inr a0), some (.inl a1), some (.inl a2), none, none] [] h =
  (zgI h a0 12 79).bind fun v1 =>
  if a2 < ((4 : Int32) * v1) then
    (zgF h a0 12 81).bind fun r1 =>
    (zia h r1 a2).bind fun v2 =>
    if (3 : Int32) < v2 then
      zb (0 : Int32) h
    else
      zm_X12_take 34 [some (.inr a0), some (.inl a1), some (.inl (a2 + (1 : Int32))), none, none] [] h
  else
    (zgI h a0 12 79).bind fun v3 =>
    zif (zK h a0 = 13) (
    (zf nX12_machine [.inr a0, .inl a1, .inl v3] h).bind fun u1 =>
    zm_X12_take 74 [some (.inr a0), some (.inl a1), some (.inl u1.1), some (.inl (0 : Int32)), none] [] u1.2.2) := (zZ_eq zFn_mono _ _ _ _).trans rfl
set_option maxRecDepth 50000 in
theorem e_X12_take_74 (a0 : Nat) (a1 : Int32) (a2 : Int32) (a3 : Int32) (h : zM) : zm_X12_take 74 [some (.inr a0), some (.inl a1), some (.inl a2), some (.inl a3), none] [] h =
  (zgI h a0 12 79).bind fun v1 =>
  if a3 < v1 then
    (zgF h a0 12 1).bind fun r1 =>
    if a3 = 0 then
      (zbs h r1 (((6 : Int32) * a1) + a3) (1 : Int32)).bind fun h1 =>
      (zgF h1 a0 12 81).bind fun r2 =>
      (zia h1 r2 ((4 : Int32) * a3)).bind fun v2 =>
      if v2 < 0 then
        zm_X12_take 134 [some (.inr a0), some (.inl a1), some (.inl a2), some (.inl a3), some (.inl (1 : Int32))] [] h1
      else
        (zgF h1 a0 12 2).bind fun r3 =>
        zif (zK h1 a0 = 13) (
        (zf nX12_wordOfLeast [.inr a0, .inl ((4 : Int32) * a3)] h1).bind fun u1 =>
        (zis u1.2.2 r3 (((6 : Int32) * a1) + a3) u1.1).bind fun h2 =>
        zm_X12_take 134 [some (.inr a0), some (.inl a1), some (.inl a2), some (.inl a3), some (.inl (1 : Int32))] [] h2)
    else
      (zbs h r1 (((6 : Int32) * a1) + a3) (0 : Int32)).bind fun h3 =>
      (zgF h3 a0 12 81).bind fun r4 =>
      (zia h3 r4 ((4 : Int32) * a3)).bind fun v3 =>
      if v3 < 0 then
        zm_X12_take 134 [some (.inr a0), some (.inl a1), some (.inl a2), some (.inl a3), some (.inl (1 : Int32))] [] h3
      else
        (zgF h3 a0 12 2).bind fun r5 =>
        zif (zK h3 a0 = 13) (
        (zf nX12_wordOfLeast [.inr a0, .inl ((4 : Int32) * a3)] h3).bind fun u2 =>
        (zis u2.2.2 r5 (((6 : Int32) * a1) + a3) u2.1).bind fun h4 =>
        zm_X12_take 134 [some (.inr a0), some (.inl a1), some (.inl a2), some (.inl a3), some (.inl (1 : Int32))] [] h4)
  else
    zb (1 : Int32) h := (zZ_eq zFn_mono _ _ _ _).trans rfl
set_option maxRecDepth 50000 in
theorem e_X12_take_134 (a0 : Nat) (a1 : Int32) (a2 : Int32) (a3 : Int32) (a4 : Int32) (h : zM) : zm_X12_take 134 [some (.inr a0), some (.inl a1), some (.inl a2), some (.inl a3), some (.inl a4)] [] h =
  if a4 < (4 : Int32) then
    (zgF h a0 12 80).bind fun r1 =>
    (zia h r1 (((4 : Int32) * a3) + a4)).bind fun v1 =>
    if v1 < 0 then
      zm_X12_take 134 [some (.inr a0), some (.inl a1), some (.inl a2), some (.inl a3), some (.inl (a4 + (1 : Int32)))] [] h
    else
      (zgF h a0 12 80).bind fun r2 =>
      (zia h r2 (((4 : Int32) * a3) + a4)).bind fun v2 =>
      zif (zK h a0 = 13) (
      (zf nX12_wordOfLeast [.inr a0, .inl (((4 : Int32) * a3) + a4)] h).bind fun u1 =>
      zif (zK u1.2.2 a0 = 13) (
      (zf nX12_comes [.inr a0, .inl a1, .inl a3, .inl a4, .inl v2, .inl u1.1] u1.2.2).bind fun u2 =>
      zm_X12_take 134 [some (.inr a0), some (.inl a1), some (.inl a2), some (.inl a3), some (.inl (a4 + (1 : Int32)))] [] u2.2.2))
  else
    zm_X12_take 74 [some (.inr a0), some (.inl a1), some (.inl a2), some (.inl (a3 + (1 : Int32))), none] [] h := (zZ_eq zFn_mono _ _ _ _).trans rfl
noncomputable def zm_L_law : zK4 := zZ zf zo_L_law [(18, 4)]
set_option maxRecDepth 50000 in
theorem e_L_law (a0 : Nat) (h : zM) : zrun zf zr_L_law [.inr a0] h =
  zif (zK (zmk h 12 15) h.1.1 = 12) (
  (zf nX11_init [.inr h.1.1] (zmk h 12 15)).bind fun u1 =>
  zif (zK (zmk u1.2.2 13 93) u1.2.2.1.1 = 13) (
  (zf nX12_init [.inr u1.2.2.1.1] (zmk u1.2.2 13 93)).bind fun u2 =>
  zm_L_law 18 [some (.inr a0), some (.inr h.1.1), some (.inr u1.2.2.1.1), some (.inl (0 : Int32))] [] u2.2.2)) := by
  exact (if_pos (Nat.le_of_ble_eq_true rfl)).trans ((zZ_eq zFn_mono _ _ _ _).trans rfl)
set_option maxRecDepth 50000 in
theorem e_L_law_18 (a0 : Nat) (a1 : Nat) (a2 : Nat) (a3 : Int32) (h : zM) : zm_L_law 18 [some (.inr a0), some (.inr a1), some (.inr a2), some (.inl a3)] [] h =
  (zal h a0).bind fun v1 =>
  if (v1 - (6 : Int32)) < a3 then
    zb (1 : Int32) h
  else
    (zia h a0 a3).bind fun v2 =>
    if (v2 &&& (31 : Int32)) = (0 : Int32) then
      (zia h a0 (a3 + (1 : Int32))).bind fun v3 =>
      (zia h a0 (a3 + (2 : Int32))).bind fun v4 =>
      zif (zK h a1 = 12) (
      (zf nX11_machine [.inr a1, .inl v3, .inl v4] h).bind fun u1 =>
      (zia u1.2.2 a0 (a3 + (1 : Int32))).bind fun v5 =>
      (zia u1.2.2 a0 (a3 + (2 : Int32))).bind fun v6 =>
      zif (zK u1.2.2 a2 = 13) (
      (zf nX12_machine [.inr a2, .inl v5, .inl v6] u1.2.2).bind fun u2 =>
      if u1.1 = u2.1 then
        zm_L_law 18 [some (.inr a0), some (.inr a1), some (.inr a2), some (.inl (a3 + (6 : Int32)))] [] u2.2.2
      else
        zb (0 : Int32) u2.2.2))
    else
    if (v2 &&& (31 : Int32)) = (1 : Int32) then
      (zia h a0 (a3 + (1 : Int32))).bind fun v7 =>
      (zia h a0 (a3 + (2 : Int32))).bind fun v8 =>
      (zia h a0 (a3 + (3 : Int32))).bind fun v9 =>
      if v9 = 0 then
        zif (zK h a1 = 12) (
        (zf nX11_begins [.inr a1, .inl v7, .inl v8, .inl (0 : Int32)] h).bind fun u3 =>
        (zia u3.2.2 a0 (a3 + (1 : Int32))).bind fun v10 =>
        (zia u3.2.2 a0 (a3 + (2 : Int32))).bind fun v11 =>
        (zia u3.2.2 a0 (a3 + (3 : Int32))).bind fun v12 =>
        if v12 = 0 then
          zif (zK u3.2.2 a2 = 13) (
          (zf nX12_begins [.inr a2, .inl v10, .inl v11, .inl (0 : Int32)] u3.2.2).bind fun u4 =>
          if u3.1 = u4.1 then
            zm_L_law 18 [some (.inr a0), some (.inr a1), some (.inr a2), some (.inl (a3 + (6 : Int32)))] [] u4.2.2
          else
            zb (0 : Int32) u4.2.2)
        else
          zif (zK u3.2.2 a2 = 13) (
          (zf nX12_begins [.inr a2, .inl v10, .inl v11, .inl (1 : Int32)] u3.2.2).bind fun u5 =>
          if u3.1 = u5.1 then
            zm_L_law 18 [some (.inr a0), some (.inr a1), some (.inr a2), some (.inl (a3 + (6 : Int32)))] [] u5.2.2
          else
            zb (0 : Int32) u5.2.2))
      else
        zif (zK h a1 = 12) (
        (zf nX11_begins [.inr a1, .inl v7, .inl v8, .inl (1 : Int32)] h).bind fun u6 =>
        (zia u6.2.2 a0 (a3 + (1 : Int32))).bind fun v13 =>
        (zia u6.2.2 a0 (a3 + (2 : Int32))).bind fun v14 =>
        (zia u6.2.2 a0 (a3 + (3 : Int32))).bind fun v15 =>
        if v15 = 0 then
          zif (zK u6.2.2 a2 = 13) (
          (zf nX12_begins [.inr a2, .inl v13, .inl v14, .inl (0 : Int32)] u6.2.2).bind fun u7 =>
          if u6.1 = u7.1 then
            zm_L_law 18 [some (.inr a0), some (.inr a1), some (.inr a2), some (.inl (a3 + (6 : Int32)))] [] u7.2.2
          else
            zb (0 : Int32) u7.2.2)
        else
          zif (zK u6.2.2 a2 = 13) (
          (zf nX12_begins [.inr a2, .inl v13, .inl v14, .inl (1 : Int32)] u6.2.2).bind fun u8 =>
          if u6.1 = u8.1 then
            zm_L_law 18 [some (.inr a0), some (.inr a1), some (.inr a2), some (.inl (a3 + (6 : Int32)))] [] u8.2.2
          else
            zb (0 : Int32) u8.2.2))
    else
    if (v2 &&& (31 : Int32)) = (2 : Int32) then
      (zia h a0 (a3 + (1 : Int32))).bind fun v16 =>
      (zia h a0 (a3 + (2 : Int32))).bind fun v17 =>
      (zia h a0 (a3 + (3 : Int32))).bind fun v18 =>
      zif (zK h a1 = 12) (
      (zf nX11_ends [.inr a1, .inl v16, .inl v17, .inl v18] h).bind fun u9 =>
      (zia u9.2.2 a0 (a3 + (1 : Int32))).bind fun v19 =>
      (zia u9.2.2 a0 (a3 + (2 : Int32))).bind fun v20 =>
      (zia u9.2.2 a0 (a3 + (3 : Int32))).bind fun v21 =>
      zif (zK u9.2.2 a2 = 13) (
      (zf nX12_ends [.inr a2, .inl v19, .inl v20, .inl v21] u9.2.2).bind fun u10 =>
      if u9.1 = u10.1 then
        zm_L_law 18 [some (.inr a0), some (.inr a1), some (.inr a2), some (.inl (a3 + (6 : Int32)))] [] u10.2.2
      else
        zb (0 : Int32) u10.2.2))
    else
    if (v2 &&& (31 : Int32)) = (3 : Int32) then
      (zia h a0 (a3 + (1 : Int32))).bind fun v22 =>
      (zia h a0 (a3 + (2 : Int32))).bind fun v23 =>
      (zia h a0 (a3 + (3 : Int32))).bind fun v24 =>
      (zia h a0 (a3 + (4 : Int32))).bind fun v25 =>
      (zia h a0 (a3 + (5 : Int32))).bind fun v26 =>
      zif (zK h a1 = 12) (
      (zf nX11_arc [.inr a1, .inl v22, .inl v23, .inl v24, .inl v25, .inl v26] h).bind fun u11 =>
      (zia u11.2.2 a0 (a3 + (1 : Int32))).bind fun v27 =>
      (zia u11.2.2 a0 (a3 + (2 : Int32))).bind fun v28 =>
      (zia u11.2.2 a0 (a3 + (3 : Int32))).bind fun v29 =>
      (zia u11.2.2 a0 (a3 + (4 : Int32))).bind fun v30 =>
      (zia u11.2.2 a0 (a3 + (5 : Int32))).bind fun v31 =>
      zif (zK u11.2.2 a2 = 13) (
      (zf nX12_arc [.inr a2, .inl v27, .inl v28, .inl v29, .inl v30, .inl v31] u11.2.2).bind fun u12 =>
      if u11.1 = u12.1 then
        zm_L_law 18 [some (.inr a0), some (.inr a1), some (.inr a2), some (.inl (a3 + (6 : Int32)))] [] u12.2.2
      else
        zb (0 : Int32) u12.2.2))
    else
    if (v2 &&& (31 : Int32)) = (4 : Int32) then
      (zia h a0 (a3 + (1 : Int32))).bind fun v32 =>
      zif (zK h a1 = 12) (
      (zf nX11_copy [.inr a1, .inl v32] h).bind fun u13 =>
      (zia u13.2.2 a0 (a3 + (1 : Int32))).bind fun v33 =>
      zif (zK u13.2.2 a2 = 13) (
      (zf nX12_copy [.inr a2, .inl v33] u13.2.2).bind fun u14 =>
      if u13.1 = u14.1 then
        zm_L_law 18 [some (.inr a0), some (.inr a1), some (.inr a2), some (.inl (a3 + (6 : Int32)))] [] u14.2.2
      else
        zb (0 : Int32) u14.2.2))
    else
    if (v2 &&& (31 : Int32)) = (5 : Int32) then
      (zia h a0 (a3 + (1 : Int32))).bind fun v34 =>
      zif (zK h a1 = 12) (
      (zf nX11_take [.inr a1, .inl v34] h).bind fun u15 =>
      (zia u15.2.2 a0 (a3 + (1 : Int32))).bind fun v35 =>
      zif (zK u15.2.2 a2 = 13) (
      (zf nX12_take [.inr a2, .inl v35] u15.2.2).bind fun u16 =>
      if u15.1 = u16.1 then
        zm_L_law 18 [some (.inr a0), some (.inr a1), some (.inr a2), some (.inl (a3 + (6 : Int32)))] [] u16.2.2
      else
        zb (0 : Int32) u16.2.2))
    else
    if (v2 &&& (31 : Int32)) = (6 : Int32) then
      (zia h a0 (a3 + (1 : Int32))).bind fun v36 =>
      (zia h a0 (a3 + (2 : Int32))).bind fun v37 =>
      zif (zK h a1 = 12) (
      (zf nX11_size [.inr a1, .inl v36, .inl v37] h).bind fun u17 =>
      (zia u17.2.2 a0 (a3 + (1 : Int32))).bind fun v38 =>
      (zia u17.2.2 a0 (a3 + (2 : Int32))).bind fun v39 =>
      zif (zK u17.2.2 a2 = 13) (
      (zf nX12_size [.inr a2, .inl v38, .inl v39] u17.2.2).bind fun u18 =>
      if u17.1 = u18.1 then
        zm_L_law 18 [some (.inr a0), some (.inr a1), some (.inr a2), some (.inl (a3 + (6 : Int32)))] [] u18.2.2
      else
        zb (0 : Int32) u18.2.2))
    else
    if (v2 &&& (31 : Int32)) = (7 : Int32) then
      (zia h a0 (a3 + (1 : Int32))).bind fun v40 =>
      (zia h a0 (a3 + (2 : Int32))).bind fun v41 =>
      zif (zK h a1 = 12) (
      (zf nX11_useful [.inr a1, .inl v40, .inl v41] h).bind fun u19 =>
      (zia u19.2.2 a0 (a3 + (1 : Int32))).bind fun v42 =>
      (zia u19.2.2 a0 (a3 + (2 : Int32))).bind fun v43 =>
      zif (zK u19.2.2 a2 = 13) (
      (zf nX12_useful [.inr a2, .inl v42, .inl v43] u19.2.2).bind fun u20 =>
      if u19.1 = u20.1 then
        zm_L_law 18 [some (.inr a0), some (.inr a1), some (.inr a2), some (.inl (a3 + (6 : Int32)))] [] u20.2.2
      else
        zb (0 : Int32) u20.2.2))
    else
    if (v2 &&& (31 : Int32)) = (8 : Int32) then
      (zia h a0 (a3 + (1 : Int32))).bind fun v44 =>
      (zia h a0 (a3 + (2 : Int32))).bind fun v45 =>
      zif (zK h a1 = 12) (
      (zf nX11_apply [.inr a1, .inl v44, .inl v45] h).bind fun u21 =>
      (zia u21.2.2 a0 (a3 + (1 : Int32))).bind fun v46 =>
      (zia u21.2.2 a0 (a3 + (2 : Int32))).bind fun v47 =>
      zif (zK u21.2.2 a2 = 13) (
      (zf nX12_apply [.inr a2, .inl v46, .inl v47] u21.2.2).bind fun u22 =>
      if u21.1 = u22.1 then
        zm_L_law 18 [some (.inr a0), some (.inr a1), some (.inr a2), some (.inl (a3 + (6 : Int32)))] [] u22.2.2
      else
        zb (0 : Int32) u22.2.2))
    else
    if (v2 &&& (31 : Int32)) = (9 : Int32) then
      (zia h a0 (a3 + (1 : Int32))).bind fun v48 =>
      (zia h a0 (a3 + (2 : Int32))).bind fun v49 =>
      zif (zK h a1 = 12) (
      (zf nX11_output [.inr a1, .inl v48, .inl v49] h).bind fun u23 =>
      (zia u23.2.2 a0 (a3 + (1 : Int32))).bind fun v50 =>
      (zia u23.2.2 a0 (a3 + (2 : Int32))).bind fun v51 =>
      zif (zK u23.2.2 a2 = 13) (
      (zf nX12_output [.inr a2, .inl v50, .inl v51] u23.2.2).bind fun u24 =>
      if u23.1 = u24.1 then
        zm_L_law 18 [some (.inr a0), some (.inr a1), some (.inr a2), some (.inl (a3 + (6 : Int32)))] [] u24.2.2
      else
        zb (0 : Int32) u24.2.2))
    else
    if (v2 &&& (31 : Int32)) = (10 : Int32) then
      (zia h a0 (a3 + (1 : Int32))).bind fun v52 =>
      zif (zK h a1 = 12) (
      (zf nX11_functional [.inr a1, .inl v52] h).bind fun u25 =>
      (zia u25.2.2 a0 (a3 + (1 : Int32))).bind fun v53 =>
      zif (zK u25.2.2 a2 = 13) (
      (zf nX12_functional [.inr a2, .inl v53] u25.2.2).bind fun u26 =>
      if u25.1 = u26.1 then
        zm_L_law 18 [some (.inr a0), some (.inr a1), some (.inr a2), some (.inl (a3 + (6 : Int32)))] [] u26.2.2
      else
        zb (0 : Int32) u26.2.2))
    else
    if (v2 &&& (31 : Int32)) = (11 : Int32) then
      zif (zK h a1 = 12) (
      (zf nX11_readers [.inr a1] h).bind fun u27 =>
      zif (zK u27.2.2 a2 = 13) (
      (zf nX12_readers [.inr a2] u27.2.2).bind fun u28 =>
      if u27.1 = u28.1 then
        zm_L_law 18 [some (.inr a0), some (.inr a1), some (.inr a2), some (.inl (a3 + (6 : Int32)))] [] u28.2.2
      else
        zb (0 : Int32) u28.2.2))
    else
    if (v2 &&& (31 : Int32)) = (12 : Int32) then
      zif (zK h a1 = 12) (
      (zf nX11_same [.inr a1] h).bind fun u29 =>
      zif (zK u29.2.2 a2 = 13) (
      (zf nX12_same [.inr a2] u29.2.2).bind fun u30 =>
      if u29.1 = u30.1 then
        zm_L_law 18 [some (.inr a0), some (.inr a1), some (.inr a2), some (.inl (a3 + (6 : Int32)))] [] u30.2.2
      else
        zb (0 : Int32) u30.2.2))
    else
    if (v2 &&& (31 : Int32)) = (13 : Int32) then
      (zia h a0 (a3 + (1 : Int32))).bind fun v54 =>
      zif (zK h a1 = 12) (
      (zf nX11_sequential [.inr a1, .inl v54] h).bind fun u31 =>
      (zia u31.2.2 a0 (a3 + (1 : Int32))).bind fun v55 =>
      zif (zK u31.2.2 a2 = 13) (
      (zf nX12_sequential [.inr a2, .inl v55] u31.2.2).bind fun u32 =>
      if u31.1 = u32.1 then
        zm_L_law 18 [some (.inr a0), some (.inr a1), some (.inr a2), some (.inl (a3 + (6 : Int32)))] [] u32.2.2
      else
        zb (0 : Int32) u32.2.2))
    else
    if (v2 &&& (31 : Int32)) = (14 : Int32) then
      (zia h a0 (a3 + (1 : Int32))).bind fun v56 =>
      zif (zK h a1 = 12) (
      (zf nX11_witness [.inr a1, .inl v56] h).bind fun u33 =>
      (zia u33.2.2 a0 (a3 + (1 : Int32))).bind fun v57 =>
      zif (zK u33.2.2 a2 = 13) (
      (zf nX12_witness [.inr a2, .inl v57] u33.2.2).bind fun u34 =>
      if u33.1 = u34.1 then
        zm_L_law 18 [some (.inr a0), some (.inr a1), some (.inr a2), some (.inl (a3 + (6 : Int32)))] [] u34.2.2
      else
        zb (0 : Int32) u34.2.2))
    else
    if (v2 &&& (31 : Int32)) = (15 : Int32) then
      (zia h a0 (a3 + (1 : Int32))).bind fun v58 =>
      (zia h a0 (a3 + (2 : Int32))).bind fun v59 =>
      zif (zK h a1 = 12) (
      (zf nX11_wrote [.inr a1, .inl v58, .inl v59] h).bind fun u35 =>
      (zia u35.2.2 a0 (a3 + (1 : Int32))).bind fun v60 =>
      (zia u35.2.2 a0 (a3 + (2 : Int32))).bind fun v61 =>
      zif (zK u35.2.2 a2 = 13) (
      (zf nX12_wrote [.inr a2, .inl v60, .inl v61] u35.2.2).bind fun u36 =>
      if u35.1 = u36.1 then
        zm_L_law 18 [some (.inr a0), some (.inr a1), some (.inr a2), some (.inl (a3 + (6 : Int32)))] [] u36.2.2
      else
        zb (0 : Int32) u36.2.2))
    else
    if (v2 &&& (31 : Int32)) = (16 : Int32) then
      (zia h a0 (a3 + (1 : Int32))).bind fun v62 =>
      zif (zK h a1 = 12) (
      (zf nX11_told [.inr a1, .inl v62] h).bind fun u37 =>
      (zia u37.2.2 a0 (a3 + (1 : Int32))).bind fun v63 =>
      zif (zK u37.2.2 a2 = 13) (
      (zf nX12_told [.inr a2, .inl v63] u37.2.2).bind fun u38 =>
      if u37.1 = u38.1 then
        zm_L_law 18 [some (.inr a0), some (.inr a1), some (.inr a2), some (.inl (a3 + (6 : Int32)))] [] u38.2.2
      else
        zb (0 : Int32) u38.2.2))
    else
    if (v2 &&& (31 : Int32)) = (17 : Int32) then
      (zia h a0 (a3 + (1 : Int32))).bind fun v64 =>
      (zia h a0 (a3 + (2 : Int32))).bind fun v65 =>
      zif (zK h a1 = 12) (
      (zf nX11_goes [.inr a1, .inl v64, .inl v65] h).bind fun u39 =>
      (zia u39.2.2 a0 (a3 + (1 : Int32))).bind fun v66 =>
      (zia u39.2.2 a0 (a3 + (2 : Int32))).bind fun v67 =>
      zif (zK u39.2.2 a2 = 13) (
      (zf nX12_goes [.inr a2, .inl v66, .inl v67] u39.2.2).bind fun u40 =>
      if u39.1 = u40.1 then
        zm_L_law 18 [some (.inr a0), some (.inr a1), some (.inr a2), some (.inl (a3 + (6 : Int32)))] [] u40.2.2
      else
        zb (0 : Int32) u40.2.2))
    else
    if (v2 &&& (31 : Int32)) = (18 : Int32) then
      (zia h a0 (a3 + (1 : Int32))).bind fun v68 =>
      (zia h a0 (a3 + (2 : Int32))).bind fun v69 =>
      (zia h a0 (a3 + (3 : Int32))).bind fun v70 =>
      zif (zK h a1 = 12) (
      (zf nX11_writes [.inr a1, .inl v68, .inl v69, .inl v70] h).bind fun u41 =>
      (zia u41.2.2 a0 (a3 + (1 : Int32))).bind fun v71 =>
      (zia u41.2.2 a0 (a3 + (2 : Int32))).bind fun v72 =>
      (zia u41.2.2 a0 (a3 + (3 : Int32))).bind fun v73 =>
      zif (zK u41.2.2 a2 = 13) (
      (zf nX12_writes [.inr a2, .inl v71, .inl v72, .inl v73] u41.2.2).bind fun u42 =>
      if u41.1 = u42.1 then
        zm_L_law 18 [some (.inr a0), some (.inr a1), some (.inr a2), some (.inl (a3 + (6 : Int32)))] [] u42.2.2
      else
        zb (0 : Int32) u42.2.2))
    else
    if (v2 &&& (31 : Int32)) = (19 : Int32) then
      (zia h a0 (a3 + (1 : Int32))).bind fun v74 =>
      zif (zK h a1 = 12) (
      (zf nX11_act [.inr a1, .inl v74] h).bind fun u43 =>
      (zia u43.2.2 a0 (a3 + (1 : Int32))).bind fun v75 =>
      zif (zK u43.2.2 a2 = 13) (
      (zf nX12_act [.inr a2, .inl v75] u43.2.2).bind fun u44 =>
      if u43.1 = u44.1 then
        zm_L_law 18 [some (.inr a0), some (.inr a1), some (.inr a2), some (.inl (a3 + (6 : Int32)))] [] u44.2.2
      else
        zb (0 : Int32) u44.2.2))
    else
    if (v2 &&& (31 : Int32)) = (20 : Int32) then
      (zia h a0 (a3 + (1 : Int32))).bind fun v76 =>
      zif (zK h a1 = 12) (
      (zf nX11_acted [.inr a1, .inl v76] h).bind fun u45 =>
      (zia u45.2.2 a0 (a3 + (1 : Int32))).bind fun v77 =>
      zif (zK u45.2.2 a2 = 13) (
      (zf nX12_acted [.inr a2, .inl v77] u45.2.2).bind fun u46 =>
      if u45.1 = u46.1 then
        zm_L_law 18 [some (.inr a0), some (.inr a1), some (.inr a2), some (.inl (a3 + (6 : Int32)))] [] u46.2.2
      else
        zb (0 : Int32) u46.2.2))
    else
      zm_L_law 18 [some (.inr a0), some (.inr a1), some (.inr a2), some (.inl (a3 + (6 : Int32)))] [] h := (zZ_eq zFn_mono _ _ _ _).trans rfl
