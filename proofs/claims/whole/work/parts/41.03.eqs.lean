noncomputable def zm_X5_spell : zK4 := zZ zf zo_X5_spell [(9, 5)]
set_option maxRecDepth 50000 in
theorem e_X5_spell (a0 : Nat) (a1 : Int32) (a2 : Nat) (h : zM) : zf nX5_spell [.inr a0, .inl a1, .inr a2] h =
  zif (zK h a2 = 11) (
  (zf nX10_clear [.inr a2] h).bind fun u1 =>
  zm_X5_spell 9 [some (.inr a0), some (.inl a1), some (.inr a2), some (.inl a1), some (.inl (0 : Int32))] [] u1.2.2) := by
  rw [show zf nX5_spell = zFn zrecs 81 from rfl, zFn_eq (M := zr_X5_spell) rfl zd_X5_spell]
  exact (if_pos (Nat.le_of_ble_eq_true rfl)).trans ((zZ_eq zFn_mono _ _ _ _).trans rfl)
set_option maxRecDepth 50000 in
theorem e_X5_spell_9 (a0 : Nat) (a1 : Int32) (a2 : Nat) (a3 : Int32) (a4 : Int32) (h : zM) : zm_X5_spell 9 [some (.inr a0), some (.inl a1), some (.inr a2), some (.inl a3), some (.inl a4)] [] h =
  if a4 < (4096 : Int32) then
    if 0 < a3 then
      (zgF h a0 5 3).bind fun r1 =>
      (zia h r1 a3).bind fun v1 =>
      zif (zK h a2 = 11) (
      (zf nX10_add [.inr a2, .inl v1] h).bind fun u1 =>
      (zgF u1.2.2 a0 5 2).bind fun r2 =>
      (zia u1.2.2 r2 a3).bind fun v2 =>
      zm_X5_spell 9 [some (.inr a0), some (.inl a1), some (.inr a2), some (.inl v2), some (.inl (a4 + (1 : Int32)))] [] u1.2.2)
    else
      zif (zK h a2 = 11) (
      (zf nX10_reverse [.inr a2] h).bind fun u2 =>
      some (0, 0, u2.2.2))
  else
    zif (zK h a2 = 11) (
    (zf nX10_reverse [.inr a2] h).bind fun u3 =>
    some (0, 0, u3.2.2)) := (zZ_eq zFn_mono _ _ _ _).trans rfl
noncomputable def zm_X5_differ : zK4 := zZ zf zo_X5_differ [(43, 6)]
set_option maxRecDepth 50000 in
theorem e_X5_differ (a0 : Nat) (a1 : Nat) (a2 : Nat) (a3 : Nat) (h : zM) : zf nX5_differ [.inr a0, .inr a1, .inr a2, .inr a3] h =
  (zpI h a0 5 4 (0 : Int32)).bind fun h1 =>
  (zgI h1 a1 2 2).bind fun v1 =>
  (zgI h1 a2 2 2).bind fun v2 =>
  zif (zK h1 a0 = 6) (
  (zf nX5_reach [.inr a0, .inl v1, .inl v2, .inl (-1 : Int32), .inl (-1 : Int32)] h1).bind fun u1 =>
  zif (zK u1.2.2 a0 = 6) (
  (zf nX5_search [.inr a0, .inr a1, .inr a2] u1.2.2).bind fun u2 =>
  if u2.1 = (-1 : Int32) then
    zm_X5_differ 43 [some (.inr a0), some (.inr a1), some (.inr a2), some (.inr a3), some (.inl u2.1), some (.inl (0 : Int32))] [] u2.2.2
  else
    zif (zK u2.2.2 a0 = 6) (
    (zf nX5_spell [.inr a0, .inl u2.1, .inr a3] u2.2.2).bind fun u3 =>
    zm_X5_differ 43 [some (.inr a0), some (.inr a1), some (.inr a2), some (.inr a3), some (.inl u2.1), some (.inl (0 : Int32))] [] u3.2.2))) := by
  rw [show zf nX5_differ = zFn zrecs 82 from rfl, zFn_eq (M := zr_X5_differ) rfl zd_X5_differ]
  exact (if_pos (Nat.le_of_ble_eq_true rfl)).trans ((zZ_eq zFn_mono _ _ _ _).trans rfl)
set_option maxRecDepth 50000 in
theorem e_X5_differ_43 (a0 : Nat) (a1 : Nat) (a2 : Nat) (a3 : Nat) (a4 : Int32) (a5 : Int32) (h : zM) : zm_X5_differ 43 [some (.inr a0), some (.inr a1), some (.inr a2), some (.inr a3), some (.inl a4), some (.inl a5)] [] h =
  (zgI h a0 5 4).bind fun v1 =>
  if a5 < v1 then
    (zgF h a0 5 0).bind fun r1 =>
    (zgF h a0 5 1).bind fun r2 =>
    (zia h r2 a5).bind fun v2 =>
    (zbs h r1 v2 (0 : Int32)).bind fun h1 =>
    zm_X5_differ 43 [some (.inr a0), some (.inr a1), some (.inr a2), some (.inr a3), some (.inl a4), some (.inl (a5 + (1 : Int32)))] [] h1
  else
    if a4 = (-1 : Int32) then
      zb (0 : Int32) h
    else
      zb (1 : Int32) h := (zZ_eq zFn_mono _ _ _ _).trans rfl
noncomputable def zm_X6_init : zK4 := zZ zf zo_X6_init []
set_option maxRecDepth 50000 in
theorem e_X6_init (a0 : Nat) (h : zM) : zf nX6_init [.inr a0] h =
  if a0 = 0 then none else
  (zpI h a0 6 0 (0 : Int32)).bind fun h1 =>
  (zna h1 101 (100 : Int32)).bind fun h2 =>
  (zpF h2 a0 6 1 h1.1.1).bind fun h3 =>
  (zf nX11_makeWords [.inl (600 : Int32), .inl (111 : Int32)] h3).bind fun u1 =>
  (zpF u1.2.2 a0 6 2 u1.2.1).bind fun h4 =>
  (zna h4 101 (300 : Int32)).bind fun h5 =>
  (zpF h5 a0 6 3 h4.1.1).bind fun h6 =>
  (zf nX11_makeWords [.inl (300 : Int32), .inl (240 : Int32)] h6).bind fun u2 =>
  (zpF u2.2.2 a0 6 4 u2.2.1).bind fun h7 =>
  (zf nX11_makeWords [.inl (6 : Int32), .inl (111 : Int32)] h7).bind fun u3 =>
  (zpF u3.2.2 a0 6 5 u3.2.1).bind fun h8 =>
  some (0, 0, h8) := by
  rw [show zf nX6_init = zFn zrecs 83 from rfl, zFn_eq (M := zr_X6_init) rfl zd_X6_init]
  exact (if_pos (Nat.le_of_ble_eq_true rfl)).trans ((zZ_eq zFn_mono _ _ _ _).trans rfl)
noncomputable def zm_X6_gather : zK4 := zZ zf zo_X6_gather [(8, 5)]
set_option maxRecDepth 50000 in
theorem e_X6_gather (a0 : Nat) (a1 : Nat) (a2 : Int32) (a3 : Int32) (h : zM) : zf nX6_gather [.inr a0, .inr a1, .inl a2, .inl a3] h =
  (zpI h a0 6 6 (0 : Int32)).bind fun h1 =>
  zm_X6_gather 8 [some (.inr a0), some (.inr a1), some (.inl a2), some (.inl a3), some (.inl (0 : Int32)), none] [] h1 := by
  rw [show zf nX6_gather = zFn zrecs 84 from rfl, zFn_eq (M := zr_X6_gather) rfl zd_X6_gather]
  exact (if_pos (Nat.le_of_ble_eq_true rfl)).trans ((zZ_eq zFn_mono _ _ _ _).trans rfl)
set_option maxRecDepth 50000 in
theorem e_X6_gather_8 (a0 : Nat) (a1 : Nat) (a2 : Int32) (a3 : Int32) (a4 : Int32) (h : zM) : zm_X6_gather 8 [some (.inr a0), some (.inr a1), some (.inl a2), some (.inl a3), some (.inl a4), none] [] h =
  (zgI h a1 2 1).bind fun v1 =>
  if a4 < v1 then
    (zgF h a1 2 6).bind fun r1 =>
    (zia h r1 a4).bind fun v2 =>
    (zgF h a1 2 5).bind fun r2 =>
    (zia h r2 a4).bind fun v3 =>
    if v3 = a3 then
      (zgF h a0 6 1).bind fun r3 =>
      (zia h r3 a2).bind fun v4 =>
      (zgF h a1 2 4).bind fun r4 =>
      (zia h r4 a4).bind fun v5 =>
      (zf nX11_holds [.inl v4, .inl v5] h).bind fun u1 =>
      if u1.1 = 0 then
        zm_X6_gather 8 [some (.inr a0), some (.inr a1), some (.inl a2), some (.inl a3), some (.inl (a4 + (1 : Int32))), none] [] u1.2.2
      else
        (zgI u1.2.2 a0 6 7).bind fun v6 =>
        (zf nX11_holds [.inl v6, .inl v2] u1.2.2).bind fun u2 =>
        if u2.1 = 0 then
          zm_X6_gather 8 [some (.inr a0), some (.inr a1), some (.inl a2), some (.inl a3), some (.inl (a4 + (1 : Int32))), none] [] u2.2.2
        else
          (zgI u2.2.2 a0 6 6).bind fun v7 =>
          (zf nX11_holds [.inl v7, .inl v2] u2.2.2).bind fun u3 =>
          if u3.1 = 0 then
            (zgI u3.2.2 a0 6 6).bind fun v8 =>
            (zpI u3.2.2 a0 6 6 (v8 ||| ((1 : Int32) <<< (v2 &&& 31)))).bind fun h1 =>
            (zgF h1 a0 6 5).bind fun r5 =>
            (zaa h1 r5 v2).bind fun r6 =>
            (zgF h1 a0 6 2).bind fun r7 =>
            (zgF h1 a1 2 4).bind fun r8 =>
            (zia h1 r8 a4).bind fun v9 =>
            (zaa h1 r7 ((a2 * (6 : Int32)) + v9)).bind fun r9 =>
            zif (zK h1 r6 = 11) (
            (zf nX10_become [.inr r6, .inr r9] h1).bind fun u4 =>
            (zgF u4.2.2 a0 6 5).bind fun r10 =>
            (zaa u4.2.2 r10 v2).bind fun r11 =>
            (zgF u4.2.2 a1 2 7).bind fun r12 =>
            (zia u4.2.2 r12 a4).bind fun v10 =>
            zif (zK u4.2.2 r11 = 11) (
            (zf nX10_addNumber [.inr r11, .inl v10] u4.2.2).bind fun u5 =>
            zm_X6_gather 8 [some (.inr a0), some (.inr a1), some (.inl a2), some (.inl a3), some (.inl (a4 + (1 : Int32))), none] [] u5.2.2))
          else
            zm_X6_gather 8 [some (.inr a0), some (.inr a1), some (.inl a2), some (.inl a3), some (.inl (a4 + (1 : Int32))), none] [] u3.2.2
    else
      zm_X6_gather 8 [some (.inr a0), some (.inr a1), some (.inl a2), some (.inl a3), some (.inl (a4 + (1 : Int32))), none] [] h
  else
    some (0, 0, h) := (zZ_eq zFn_mono _ _ _ _).trans rfl
noncomputable def zm_X6_isMade : zK4 := zZ zf zo_X6_isMade [(17, 3)]
set_option maxRecDepth 50000 in
theorem e_X6_isMade (a0 : Nat) (a1 : Int32) (h : zM) : zf nX6_isMade [.inr a0, .inl a1] h =
  (zgF h a0 6 1).bind fun r1 =>
  (zia h r1 a1).bind fun v1 =>
  (zgI h a0 6 6).bind fun v2 =>
  if v1 = v2 then
    zm_X6_isMade 17 [some (.inr a0), some (.inl a1), some (.inl (0 : Int32))] [] h
  else
    zb (0 : Int32) h := by
  rw [show zf nX6_isMade = zFn zrecs 85 from rfl, zFn_eq (M := zr_X6_isMade) rfl zd_X6_isMade]
  exact (if_pos (Nat.le_of_ble_eq_true rfl)).trans ((zZ_eq zFn_mono _ _ _ _).trans rfl)
set_option maxRecDepth 50000 in
theorem e_X6_isMade_17 (a0 : Nat) (a1 : Int32) (a2 : Int32) (h : zM) : zm_X6_isMade 17 [some (.inr a0), some (.inl a1), some (.inl a2)] [] h =
  if a2 < (6 : Int32) then
    (zgI h a0 6 6).bind fun v1 =>
    (zf nX11_holds [.inl v1, .inl a2] h).bind fun u1 =>
    if u1.1 = 0 then
      zm_X6_isMade 17 [some (.inr a0), some (.inl a1), some (.inl (a2 + (1 : Int32)))] [] u1.2.2
    else
      (zgF u1.2.2 a0 6 2).bind fun r1 =>
      (zaa u1.2.2 r1 ((a1 * (6 : Int32)) + a2)).bind fun r2 =>
      (zgF u1.2.2 a0 6 5).bind fun r3 =>
      (zaa u1.2.2 r3 a2).bind fun r4 =>
      zif (zK u1.2.2 r2 = 11) (
      (zf nX10_isAlike [.inr r2, .inr r4] u1.2.2).bind fun u2 =>
      if u2.1 = 0 then
        zb (0 : Int32) u2.2.2
      else
        zm_X6_isMade 17 [some (.inr a0), some (.inl a1), some (.inl (a2 + (1 : Int32)))] [] u2.2.2)
  else
    zb (1 : Int32) h := (zZ_eq zFn_mono _ _ _ _).trans rfl
noncomputable def zm_X6_place : zK4 := zZ zf zo_X6_place [(2, 2), (58, 2)]
set_option maxRecDepth 50000 in
theorem e_X6_place (a0 : Nat) (h : zM) : zf nX6_place [.inr a0] h =
  zm_X6_place 2 [some (.inr a0), some (.inl (0 : Int32))] [] h := by
  rw [show zf nX6_place = zFn zrecs 86 from rfl, zFn_eq (M := zr_X6_place) rfl zd_X6_place]
  exact (if_pos (Nat.le_of_ble_eq_true rfl)).trans ((zZ_eq zFn_mono _ _ _ _).trans rfl)
set_option maxRecDepth 50000 in
theorem e_X6_place_2 (a0 : Nat) (a1 : Int32) (h : zM) : zm_X6_place 2 [some (.inr a0), some (.inl a1)] [] h =
  (zgI h a0 6 0).bind fun v1 =>
  if a1 < v1 then
    zif (zK h a0 = 7) (
    (zf nX6_isMade [.inr a0, .inl a1] h).bind fun u1 =>
    if u1.1 = 0 then
      zm_X6_place 2 [some (.inr a0), some (.inl (a1 + (1 : Int32)))] [] u1.2.2
    else
      some (a1, 0, u1.2.2))
  else
    (zgI h a0 6 0).bind fun v2 =>
    if v2 < (100 : Int32) then
      (zgF h a0 6 1).bind fun r1 =>
      (zgI h a0 6 0).bind fun v3 =>
      (zgI h a0 6 6).bind fun v4 =>
      (zis h r1 v3 v4).bind fun h1 =>
      zm_X6_place 58 [some (.inr a0), some (.inl (0 : Int32))] [] h1
    else
      (zpI h a0 6 0 (101 : Int32)).bind fun h2 =>
      some ((-1 : Int32), 0, h2) := (zZ_eq zFn_mono _ _ _ _).trans rfl
set_option maxRecDepth 50000 in
theorem e_X6_place_58 (a0 : Nat) (a1 : Int32) (h : zM) : zm_X6_place 58 [some (.inr a0), some (.inl a1)] [] h =
  if a1 < (6 : Int32) then
    (zgI h a0 6 6).bind fun v1 =>
    (zf nX11_holds [.inl v1, .inl a1] h).bind fun u1 =>
    if u1.1 = 0 then
      zm_X6_place 58 [some (.inr a0), some (.inl (a1 + (1 : Int32)))] [] u1.2.2
    else
      (zgF u1.2.2 a0 6 2).bind fun r1 =>
      (zgI u1.2.2 a0 6 0).bind fun v2 =>
      (zaa u1.2.2 r1 ((v2 * (6 : Int32)) + a1)).bind fun r2 =>
      (zgF u1.2.2 a0 6 5).bind fun r3 =>
      (zaa u1.2.2 r3 a1).bind fun r4 =>
      zif (zK u1.2.2 r2 = 11) (
      (zf nX10_become [.inr r2, .inr r4] u1.2.2).bind fun u2 =>
      zm_X6_place 58 [some (.inr a0), some (.inl (a1 + (1 : Int32)))] [] u2.2.2)
  else
    (zgI h a0 6 0).bind fun v3 =>
    (zpI h a0 6 0 (v3 + (1 : Int32))).bind fun h1 =>
    (zgI h1 a0 6 0).bind fun v4 =>
    some ((v4 - (1 : Int32)), 0, h1) := (zZ_eq zFn_mono _ _ _ _).trans rfl
noncomputable def zm_X6_writeCommon : zK4 := zZ zf zo_X6_writeCommon [(2, 3), (37, 5), (101, 5)]
set_option maxRecDepth 50000 in
theorem e_X6_writeCommon (a0 : Nat) (a1 : Nat) (h : zM) : zf nX6_writeCommon [.inr a0, .inr a1] h =
  zm_X6_writeCommon 2 [some (.inr a0), some (.inr a1), some (.inl (0 : Int32)), none, none] [] h := by
  rw [show zf nX6_writeCommon = zFn zrecs 87 from rfl, zFn_eq (M := zr_X6_writeCommon) rfl zd_X6_writeCommon]
  exact (if_pos (Nat.le_of_ble_eq_true rfl)).trans ((zZ_eq zFn_mono _ _ _ _).trans rfl)
set_option maxRecDepth 50000 in
theorem e_X6_writeCommon_2 (a0 : Nat) (a1 : Nat) (a2 : Int32) (h : zM) : zm_X6_writeCommon 2 [some (.inr a0), some (.inr a1), some (.inl a2), none, none] [] h =
  if a2 < (5 : Int32) then
    (zgI h a0 6 6).bind fun v1 =>
    (zf nX11_holds [.inl v1, .inl a2] h).bind fun u1 =>
    if u1.1 = 0 then
      zm_X6_writeCommon 2 [some (.inr a0), some (.inr a1), some (.inl (a2 + (1 : Int32))), none, none] [] u1.2.2
    else
      (zgF u1.2.2 a0 6 5).bind fun r1 =>
      (zaa u1.2.2 r1 a2).bind fun r2 =>
      (zgI u1.2.2 r2 10 1).bind fun v2 =>
      zm_X6_writeCommon 37 [some (.inr a0), some (.inr a1), some (.inl a2), some (.inl v2), some (.inl (0 : Int32))] [] u1.2.2
  else
    (zgF h a0 6 5).bind fun r3 =>
    (zaa h r3 a2).bind fun r4 =>
    (zgI h r4 10 1).bind fun v3 =>
    zm_X6_writeCommon 37 [some (.inr a0), some (.inr a1), some (.inl a2), some (.inl v3), some (.inl (0 : Int32))] [] h := (zZ_eq zFn_mono _ _ _ _).trans rfl
set_option maxRecDepth 50000 in
theorem e_X6_writeCommon_37 (a0 : Nat) (a1 : Nat) (a2 : Int32) (a3 : Int32) (a4 : Int32) (h : zM) : zm_X6_writeCommon 37 [some (.inr a0), some (.inr a1), some (.inl a2), some (.inl a3), some (.inl a4)] [] h =
  if a4 < (6 : Int32) then
    (zgI h a0 6 6).bind fun v1 =>
    (zf nX11_holds [.inl v1, .inl a4] h).bind fun u1 =>
    if u1.1 = 0 then
      zm_X6_writeCommon 37 [some (.inr a0), some (.inr a1), some (.inl a2), some (.inl a3), some (.inl (a4 + (1 : Int32)))] [] u1.2.2
    else
      (zgF u1.2.2 a0 6 5).bind fun r1 =>
      (zaa u1.2.2 r1 a2).bind fun r2 =>
      (zgF u1.2.2 a0 6 5).bind fun r3 =>
      (zaa u1.2.2 r3 a4).bind fun r4 =>
      zif (zK u1.2.2 r2 = 11) (
      (zf nX10_commonWith [.inr r2, .inr r4] u1.2.2).bind fun u2 =>
      (zf nJ9_min_7cf53 [.inl a3, .inl u2.1] u2.2.2).bind fun u3 =>
      zm_X6_writeCommon 37 [some (.inr a0), some (.inr a1), some (.inl a2), some (.inl u3.1), some (.inl (a4 + (1 : Int32)))] [] u3.2.2)
  else
    (zgF h a0 6 5).bind fun r5 =>
    (zaa h r5 a2).bind fun r6 =>
    zif (zK h a1 = 11) (
    (zf nX10_become [.inr a1, .inr r6] h).bind fun u4 =>
    zif (zK u4.2.2 a1 = 11) (
    (zf nX10_shortenTo [.inr a1, .inl a3] u4.2.2).bind fun u5 =>
    zm_X6_writeCommon 101 [some (.inr a0), some (.inr a1), some (.inl a2), some (.inl a3), some (.inl (0 : Int32))] [] u5.2.2)) := (zZ_eq zFn_mono _ _ _ _).trans rfl
set_option maxRecDepth 50000 in
theorem e_X6_writeCommon_101 (a0 : Nat) (a1 : Nat) (a2 : Int32) (a3 : Int32) (a4 : Int32) (h : zM) : zm_X6_writeCommon 101 [some (.inr a0), some (.inr a1), some (.inl a2), some (.inl a3), some (.inl a4)] [] h =
  if a4 < (6 : Int32) then
    (zgI h a0 6 6).bind fun v1 =>
    (zf nX11_holds [.inl v1, .inl a4] h).bind fun u1 =>
    if u1.1 = 0 then
      zm_X6_writeCommon 101 [some (.inr a0), some (.inr a1), some (.inl a2), some (.inl a3), some (.inl (a4 + (1 : Int32)))] [] u1.2.2
    else
      (zgF u1.2.2 a0 6 5).bind fun r1 =>
      (zaa u1.2.2 r1 a4).bind fun r2 =>
      zif (zK u1.2.2 r2 = 11) (
      (zf nX10_dropFirst [.inr r2, .inl a3] u1.2.2).bind fun u2 =>
      zm_X6_writeCommon 101 [some (.inr a0), some (.inr a1), some (.inl a2), some (.inl a3), some (.inl (a4 + (1 : Int32)))] [] u2.2.2)
  else
    some (0, 0, h) := (zZ_eq zFn_mono _ _ _ _).trans rfl
noncomputable def zm_X6_lead : zK4 := zZ zf zo_X6_lead []
set_option maxRecDepth 50000 in
theorem e_X6_lead (a0 : Nat) (a1 : Nat) (a2 : Int32) (a3 : Int32) (h : zM) : zf nX6_lead [.inr a0, .inr a1, .inl a2, .inl a3] h =
  (zgF h a0 6 3).bind fun r1 =>
  (zis h r1 (((a2 * (3 : Int32)) + a3) - (1 : Int32)) (-1 : Int32)).bind fun h1 =>
  (zgF h1 a0 6 4).bind fun r2 =>
  (zaa h1 r2 (((a2 * (3 : Int32)) + a3) - (1 : Int32))).bind fun r3 =>
  zif (zK h1 r3 = 11) (
  (zf nX10_clear [.inr r3] h1).bind fun u1 =>
  zif (zK u1.2.2 a0 = 7) (
  (zf nX6_gather [.inr a0, .inr a1, .inl a2, .inl a3] u1.2.2).bind fun u2 =>
  (zgI u2.2.2 a0 6 6).bind fun v1 =>
  if v1 = 0 then
    some (0, 0, u2.2.2)
  else
    (zgF u2.2.2 a0 6 4).bind fun r4 =>
    (zaa u2.2.2 r4 (((a2 * (3 : Int32)) + a3) - (1 : Int32))).bind fun r5 =>
    zif (zK u2.2.2 a0 = 7) (
    (zf nX6_writeCommon [.inr a0, .inr r5] u2.2.2).bind fun u3 =>
    (zgF u3.2.2 a0 6 3).bind fun r6 =>
    zif (zK u3.2.2 a0 = 7) (
    (zf nX6_place [.inr a0] u3.2.2).bind fun u4 =>
    (zis u4.2.2 r6 (((a2 * (3 : Int32)) + a3) - (1 : Int32)) u4.1).bind fun h2 =>
    some (0, 0, h2))))) := by
  rw [show zf nX6_lead = zFn zrecs 88 from rfl, zFn_eq (M := zr_X6_lead) rfl zd_X6_lead]
  exact (if_pos (Nat.le_of_ble_eq_true rfl)).trans ((zZ_eq zFn_mono _ _ _ _).trans rfl)
noncomputable def zm_X6_make : zK4 := zZ zf zo_X6_make [(37, 3), (65, 3), (81, 4)]
set_option maxRecDepth 50000 in
theorem e_X6_make (a0 : Nat) (a1 : Nat) (h : zM) : zf nX6_make [.inr a0, .inr a1] h =
  (zpI h a0 6 0 (0 : Int32)).bind fun h1 =>
  zif (zK h1 a1 = 3) (
  (zf nX2_usefulStates [.inr a1] h1).bind fun u1 =>
  (zpI u1.2.2 a0 6 7 u1.1).bind fun h2 =>
  (zgI h2 a1 2 2).bind fun v1 =>
  (zgI h2 a0 6 7).bind fun v2 =>
  (zpI h2 a0 6 6 (v1 &&& v2)).bind fun h3 =>
  (zgI h3 a0 6 6).bind fun v3 =>
  if v3 = 0 then
    zb (1 : Int32) h3
  else
    zm_X6_make 37 [some (.inr a0), some (.inr a1), some (.inl (0 : Int32)), none] [] h3) := by
  rw [show zf nX6_make = zFn zrecs 89 from rfl, zFn_eq (M := zr_X6_make) rfl zd_X6_make]
  exact (if_pos (Nat.le_of_ble_eq_true rfl)).trans ((zZ_eq zFn_mono _ _ _ _).trans rfl)
set_option maxRecDepth 50000 in
theorem e_X6_make_37 (a0 : Nat) (a1 : Nat) (a2 : Int32) (h : zM) : zm_X6_make 37 [some (.inr a0), some (.inr a1), some (.inl a2), none] [] h =
  if a2 < (6 : Int32) then
    (zgF h a0 6 5).bind fun r1 =>
    (zaa h r1 a2).bind fun r2 =>
    zif (zK h r2 = 11) (
    (zf nX10_clear [.inr r2] h).bind fun u1 =>
    zm_X6_make 37 [some (.inr a0), some (.inr a1), some (.inl (a2 + (1 : Int32))), none] [] u1.2.2)
  else
    zif (zK h a0 = 7) (
    (zf nX6_place [.inr a0] h).bind fun u2 =>
    zm_X6_make 65 [some (.inr a0), some (.inr a1), some (.inl (0 : Int32)), none] [] u2.2.2) := (zZ_eq zFn_mono _ _ _ _).trans rfl
set_option maxRecDepth 50000 in
theorem e_X6_make_65 (a0 : Nat) (a1 : Nat) (a2 : Int32) (h : zM) : zm_X6_make 65 [some (.inr a0), some (.inr a1), some (.inl a2), none] [] h =
  (zgI h a0 6 0).bind fun v1 =>
  if a2 < v1 then
    if a2 < (100 : Int32) then
      zm_X6_make 81 [some (.inr a0), some (.inr a1), some (.inl a2), some (.inl (1 : Int32))] [] h
    else
      zb (1 : Int32) h
  else
    zb (1 : Int32) h := (zZ_eq zFn_mono _ _ _ _).trans rfl
set_option maxRecDepth 50000 in
theorem e_X6_make_81 (a0 : Nat) (a1 : Nat) (a2 : Int32) (a3 : Int32) (h : zM) : zm_X6_make 81 [some (.inr a0), some (.inr a1), some (.inl a2), some (.inl a3)] [] h =
  if (3 : Int32) < a3 then
    zm_X6_make 65 [some (.inr a0), some (.inr a1), some (.inl (a2 + (1 : Int32))), none] [] h
  else
    zif (zK h a0 = 7) (
    (zf nX6_lead [.inr a0, .inr a1, .inl a2, .inl a3] h).bind fun u1 =>
    (zgI u1.2.2 a0 6 0).bind fun v1 =>
    if (100 : Int32) < v1 then
      zb (0 : Int32) u1.2.2
    else
      zm_X6_make 81 [some (.inr a0), some (.inr a1), some (.inl a2), some (.inl (a3 + (1 : Int32)))] [] u1.2.2) := (zZ_eq zFn_mono _ _ _ _).trans rfl
noncomputable def zm_X7_init : zK4 := zZ zf zo_X7_init [(26, 2)]
set_option maxRecDepth 50000 in
theorem e_X7_init (a0 : Nat) (h : zM) : zf nX7_init [.inr a0] h =
  if a0 = 0 then none else
  (zpI h a0 7 0 (0 : Int32)).bind fun h1 =>
  (zpI h1 a0 7 1 (0 : Int32)).bind fun h2 =>
  (zna h2 106 (1002 : Int32)).bind fun h3 =>
  (zpF h3 a0 7 5 h2.1.1).bind fun h4 =>
  zm_X7_init 26 [some (.inr a0), some (.inl (0 : Int32))] [] h4 := by
  rw [show zf nX7_init = zFn zrecs 90 from rfl, zFn_eq (M := zr_X7_init) rfl zd_X7_init]
  exact (if_pos (Nat.le_of_ble_eq_true rfl)).trans ((zZ_eq zFn_mono _ _ _ _).trans rfl)
set_option maxRecDepth 50000 in
theorem e_X7_init_26 (a0 : Nat) (a1 : Int32) (h : zM) : zm_X7_init 26 [some (.inr a0), some (.inl a1)] [] h =
  if a1 < (1002 : Int32) then
    (zgF h a0 7 5).bind fun r1 =>
    zif (zK (zmk h 5 4) h.1.1 = 5) (
    (zf nX4_init [.inr h.1.1, .inl (111 : Int32)] (zmk h 5 4)).bind fun u1 =>
    (zas u1.2.2 r1 a1 h.1.1).bind fun h1 =>
    zm_X7_init 26 [some (.inr a0), some (.inl (a1 + (1 : Int32)))] [] h1)
  else
    (zna h 101 (1024 : Int32)).bind fun h2 =>
    (zpF h2 a0 7 6 h.1.1).bind fun h3 =>
    (zna h3 101 (1002 : Int32)).bind fun h4 =>
    (zpF h4 a0 7 7 h3.1.1).bind fun h5 =>
    some (0, 0, h5) := (zZ_eq zFn_mono _ _ _ _).trans rfl
noncomputable def zm_X7_keep : zK4 := zZ zf zo_X7_keep [(56, 5)]
set_option maxRecDepth 50000 in
theorem e_X7_keep (a0 : Nat) (h : zM) : zf nX7_keep [.inr a0] h =
  (zgF h a0 7 5).bind fun r1 =>
  (zgI h a0 7 1).bind fun v1 =>
  (zaa h r1 v1).bind fun r2 =>
  zif (zK h r2 = 5) (
  (zf nX4_longerSide [.inr r2] h).bind fun u1 =>
  (zgI u1.2.2 a0 7 3).bind fun v2 =>
  if v2 < u1.1 then
    (zpZ u1.2.2 a0 7 4 (1 : Int32)).bind fun h1 =>
    (zgI h1 a0 7 1).bind fun v3 =>
    if (1000 : Int32) < v3 then
      some (0, 0, h1)
    else
      zif (zK h1 r2 = 5) (
      (zf nX4_hash [.inr r2] h1).bind fun u2 =>
      (zgF u2.2.2 a0 7 6).bind fun r3 =>
      (zia u2.2.2 r3 (u2.1 &&& (1023 : Int32))).bind fun v4 =>
      zm_X7_keep 56 [some (.inr a0), some (.inr r2), some (.inl (u2.1 &&& (1023 : Int32))), some (.inl v4), some (.inl (0 : Int32))] [] u2.2.2)
  else
    (zgI u1.2.2 a0 7 1).bind fun v5 =>
    if (1000 : Int32) < v5 then
      some (0, 0, u1.2.2)
    else
      zif (zK u1.2.2 r2 = 5) (
      (zf nX4_hash [.inr r2] u1.2.2).bind fun u3 =>
      (zgF u3.2.2 a0 7 6).bind fun r4 =>
      (zia u3.2.2 r4 (u3.1 &&& (1023 : Int32))).bind fun v6 =>
      zm_X7_keep 56 [some (.inr a0), some (.inr r2), some (.inl (u3.1 &&& (1023 : Int32))), some (.inl v6), some (.inl (0 : Int32))] [] u3.2.2)) := by
  rw [show zf nX7_keep = zFn zrecs 91 from rfl, zFn_eq (M := zr_X7_keep) rfl zd_X7_keep]
  exact (if_pos (Nat.le_of_ble_eq_true rfl)).trans ((zZ_eq zFn_mono _ _ _ _).trans rfl)
set_option maxRecDepth 50000 in
theorem e_X7_keep_56 (a0 : Nat) (a1 : Nat) (a2 : Int32) (a3 : Int32) (a4 : Int32) (h : zM) : zm_X7_keep 56 [some (.inr a0), some (.inr a1), some (.inl a2), some (.inl a3), some (.inl a4)] [] h =
  if (1000 : Int32) < a4 then
    (zgF h a0 7 7).bind fun r1 =>
    (zgI h a0 7 1).bind fun v1 =>
    (zgF h a0 7 6).bind fun r2 =>
    (zia h r2 a2).bind fun v2 =>
    (zis h r1 v1 v2).bind fun h1 =>
    (zgF h1 a0 7 6).bind fun r3 =>
    (zgI h1 a0 7 1).bind fun v3 =>
    (zis h1 r3 a2 v3).bind fun h2 =>
    (zgI h2 a0 7 1).bind fun v4 =>
    (zpI h2 a0 7 1 (v4 + (1 : Int32))).bind fun h3 =>
    some (0, 0, h3)
  else
    if a3 < 0 then
      (zgF h a0 7 7).bind fun r4 =>
      (zgI h a0 7 1).bind fun v5 =>
      (zgF h a0 7 6).bind fun r5 =>
      (zia h r5 a2).bind fun v6 =>
      (zis h r4 v5 v6).bind fun h4 =>
      (zgF h4 a0 7 6).bind fun r6 =>
      (zgI h4 a0 7 1).bind fun v7 =>
      (zis h4 r6 a2 v7).bind fun h5 =>
      (zgI h5 a0 7 1).bind fun v8 =>
      (zpI h5 a0 7 1 (v8 + (1 : Int32))).bind fun h6 =>
      some (0, 0, h6)
    else
      (zgF h a0 7 5).bind fun r7 =>
      (zaa h r7 a3).bind fun r8 =>
      zif (zK h r8 = 5) (
      (zf nX4_isAlike [.inr r8, .inr a1] h).bind fun u1 =>
      if u1.1 = 0 then
        (zgF u1.2.2 a0 7 7).bind fun r9 =>
        (zia u1.2.2 r9 a3).bind fun v9 =>
        zm_X7_keep 56 [some (.inr a0), some (.inr a1), some (.inl a2), some (.inl v9), some (.inl (a4 + (1 : Int32)))] [] u1.2.2
      else
        some (0, 0, u1.2.2)) := (zZ_eq zFn_mono _ _ _ _).trans rfl
noncomputable def zm_X7_longestArc : zK4 := zZ zf zo_X7_longestArc [(4, 4)]
set_option maxRecDepth 50000 in
theorem e_X7_longestArc (a0 : Nat) (a1 : Nat) (h : zM) : zf nX7_longestArc [.inr a0, .inr a1] h =
  zm_X7_longestArc 4 [some (.inr a0), some (.inr a1), some (.inl (0 : Int32)), some (.inl (0 : Int32)), none, none] [] h := by
  rw [show zf nX7_longestArc = zFn zrecs 92 from rfl, zFn_eq (M := zr_X7_longestArc) rfl zd_X7_longestArc]
  exact (if_pos (Nat.le_of_ble_eq_true rfl)).trans ((zZ_eq zFn_mono _ _ _ _).trans rfl)
set_option maxRecDepth 50000 in
theorem e_X7_longestArc_4 (a0 : Nat) (a1 : Nat) (a2 : Int32) (a3 : Int32) (h : zM) : zm_X7_longestArc 4 [some (.inr a0), some (.inr a1), some (.inl a2), some (.inl a3), none, none] [] h =
  (zgI h a1 2 1).bind fun v1 =>
  if a3 < v1 then
    (zgI h a0 7 2).bind fun v2 =>
    (zgF h a1 2 4).bind fun r1 =>
    (zia h r1 a3).bind fun v3 =>
    (zf nX11_holds [.inl v2, .inl v3] h).bind fun u1 =>
    if u1.1 = 0 then
      zm_X7_longestArc 4 [some (.inr a0), some (.inr a1), some (.inl a2), some (.inl (a3 + (1 : Int32))), none, none] [] u1.2.2
    else
      (zgI u1.2.2 a0 7 2).bind fun v4 =>
      (zgF u1.2.2 a1 2 6).bind fun r2 =>
      (zia u1.2.2 r2 a3).bind fun v5 =>
      (zf nX11_holds [.inl v4, .inl v5] u1.2.2).bind fun u2 =>
      if u2.1 = 0 then
        zm_X7_longestArc 4 [some (.inr a0), some (.inr a1), some (.inl a2), some (.inl (a3 + (1 : Int32))), none, none] [] u2.2.2
      else
        (zgF u2.2.2 a1 2 7).bind fun r3 =>
        (zia u2.2.2 r3 a3).bind fun v6 =>
        if v6 = 0 then
          (zf nJ9_max_7cf53 [.inl a2, .inl (0 : Int32)] u2.2.2).bind fun u3 =>
          zm_X7_longestArc 4 [some (.inr a0), some (.inr a1), some (.inl u3.1), some (.inl (a3 + (1 : Int32))), none, none] [] u3.2.2
        else
          if v6 < (10 : Int32) then
            (zf nJ9_max_7cf53 [.inl a2, .inl (1 : Int32)] u2.2.2).bind fun u4 =>
            zm_X7_longestArc 4 [some (.inr a0), some (.inr a1), some (.inl u4.1), some (.inl (a3 + (1 : Int32))), none, none] [] u4.2.2
          else
            if v6 < (100 : Int32) then
              (zf nJ9_max_7cf53 [.inl a2, .inl (2 : Int32)] u2.2.2).bind fun u5 =>
              zm_X7_longestArc 4 [some (.inr a0), some (.inr a1), some (.inl u5.1), some (.inl (a3 + (1 : Int32))), none, none] [] u5.2.2
            else
              (zf nJ9_max_7cf53 [.inl a2, .inl (3 : Int32)] u2.2.2).bind fun u6 =>
              zm_X7_longestArc 4 [some (.inr a0), some (.inr a1), some (.inl u6.1), some (.inl (a3 + (1 : Int32))), none, none] [] u6.2.2
  else
    some (a2, 0, h) := (zZ_eq zFn_mono _ _ _ _).trans rfl
noncomputable def zm_J6_bitCount_0f7a4 : zK4 := zZ zf zo_J6_bitCount_0f7a4 []
set_option maxRecDepth 50000 in
theorem e_J6_bitCount_0f7a4 (a0 : Int32) (h : zM) : zf nJ6_bitCount_0f7a4 [.inl a0] h =
  some (((((((((a0 - ((Int32.toUInt32 a0 >>> (Int32.toUInt32 (1 : Int32) &&& Int32.toUInt32 31)).toInt32 &&& (1431655765 : Int32))) &&& (858993459 : Int32)) + ((Int32.toUInt32 (a0 - ((Int32.toUInt32 a0 >>> (Int32.toUInt32 (1 : Int32) &&& Int32.toUInt32 31)).toInt32 &&& (1431655765 : Int32))) >>> (Int32.toUInt32 (2 : Int32) &&& Int32.toUInt32 31)).toInt32 &&& (858993459 : Int32))) + (Int32.toUInt32 (((a0 - ((Int32.toUInt32 a0 >>> (Int32.toUInt32 (1 : Int32) &&& Int32.toUInt32 31)).toInt32 &&& (1431655765 : Int32))) &&& (858993459 : Int32)) + ((Int32.toUInt32 (a0 - ((Int32.toUInt32 a0 >>> (Int32.toUInt32 (1 : Int32) &&& Int32.toUInt32 31)).toInt32 &&& (1431655765 : Int32))) >>> (Int32.toUInt32 (2 : Int32) &&& Int32.toUInt32 31)).toInt32 &&& (858993459 : Int32))) >>> (Int32.toUInt32 (4 : Int32) &&& Int32.toUInt32 31)).toInt32) &&& (252645135 : Int32)) + (Int32.toUInt32 (((((a0 - ((Int32.toUInt32 a0 >>> (Int32.toUInt32 (1 : Int32) &&& Int32.toUInt32 31)).toInt32 &&& (1431655765 : Int32))) &&& (858993459 : Int32)) + ((Int32.toUInt32 (a0 - ((Int32.toUInt32 a0 >>> (Int32.toUInt32 (1 : Int32) &&& Int32.toUInt32 31)).toInt32 &&& (1431655765 : Int32))) >>> (Int32.toUInt32 (2 : Int32) &&& Int32.toUInt32 31)).toInt32 &&& (858993459 : Int32))) + (Int32.toUInt32 (((a0 - ((Int32.toUInt32 a0 >>> (Int32.toUInt32 (1 : Int32) &&& Int32.toUInt32 31)).toInt32 &&& (1431655765 : Int32))) &&& (858993459 : Int32)) + ((Int32.toUInt32 (a0 - ((Int32.toUInt32 a0 >>> (Int32.toUInt32 (1 : Int32) &&& Int32.toUInt32 31)).toInt32 &&& (1431655765 : Int32))) >>> (Int32.toUInt32 (2 : Int32) &&& Int32.toUInt32 31)).toInt32 &&& (858993459 : Int32))) >>> (Int32.toUInt32 (4 : Int32) &&& Int32.toUInt32 31)).toInt32) &&& (252645135 : Int32)) >>> (Int32.toUInt32 (8 : Int32) &&& Int32.toUInt32 31)).toInt32) + (Int32.toUInt32 ((((((a0 - ((Int32.toUInt32 a0 >>> (Int32.toUInt32 (1 : Int32) &&& Int32.toUInt32 31)).toInt32 &&& (1431655765 : Int32))) &&& (858993459 : Int32)) + ((Int32.toUInt32 (a0 - ((Int32.toUInt32 a0 >>> (Int32.toUInt32 (1 : Int32) &&& Int32.toUInt32 31)).toInt32 &&& (1431655765 : Int32))) >>> (Int32.toUInt32 (2 : Int32) &&& Int32.toUInt32 31)).toInt32 &&& (858993459 : Int32))) + (Int32.toUInt32 (((a0 - ((Int32.toUInt32 a0 >>> (Int32.toUInt32 (1 : Int32) &&& Int32.toUInt32 31)).toInt32 &&& (1431655765 : Int32))) &&& (858993459 : Int32)) + ((Int32.toUInt32 (a0 - ((Int32.toUInt32 a0 >>> (Int32.toUInt32 (1 : Int32) &&& Int32.toUInt32 31)).toInt32 &&& (1431655765 : Int32))) >>> (Int32.toUInt32 (2 : Int32) &&& Int32.toUInt32 31)).toInt32 &&& (858993459 : Int32))) >>> (Int32.toUInt32 (4 : Int32) &&& Int32.toUInt32 31)).toInt32) &&& (252645135 : Int32)) + (Int32.toUInt32 (((((a0 - ((Int32.toUInt32 a0 >>> (Int32.toUInt32 (1 : Int32) &&& Int32.toUInt32 31)).toInt32 &&& (1431655765 : Int32))) &&& (858993459 : Int32)) + ((Int32.toUInt32 (a0 - ((Int32.toUInt32 a0 >>> (Int32.toUInt32 (1 : Int32) &&& Int32.toUInt32 31)).toInt32 &&& (1431655765 : Int32))) >>> (Int32.toUInt32 (2 : Int32) &&& Int32.toUInt32 31)).toInt32 &&& (858993459 : Int32))) + (Int32.toUInt32 (((a0 - ((Int32.toUInt32 a0 >>> (Int32.toUInt32 (1 : Int32) &&& Int32.toUInt32 31)).toInt32 &&& (1431655765 : Int32))) &&& (858993459 : Int32)) + ((Int32.toUInt32 (a0 - ((Int32.toUInt32 a0 >>> (Int32.toUInt32 (1 : Int32) &&& Int32.toUInt32 31)).toInt32 &&& (1431655765 : Int32))) >>> (Int32.toUInt32 (2 : Int32) &&& Int32.toUInt32 31)).toInt32 &&& (858993459 : Int32))) >>> (Int32.toUInt32 (4 : Int32) &&& Int32.toUInt32 31)).toInt32) &&& (252645135 : Int32)) >>> (Int32.toUInt32 (8 : Int32) &&& Int32.toUInt32 31)).toInt32) >>> (Int32.toUInt32 (16 : Int32) &&& Int32.toUInt32 31)).toInt32) &&& (63 : Int32)), 0, h) := by
  rw [show zf nJ6_bitCount_0f7a4 = zFn zrecs 93 from rfl, zFn_eq (M := zr_J6_bitCount_0f7a4) rfl zd_J6_bitCount_0f7a4]
  exact (if_pos (Nat.le_of_ble_eq_true rfl)).trans ((zZ_eq zFn_mono _ _ _ _).trans rfl)
noncomputable def zm_X7_begin : zK4 := zZ zf zo_X7_begin [(68, 4), (79, 5)]
set_option maxRecDepth 50000 in
theorem e_X7_begin (a0 : Nat) (a1 : Nat) (h : zM) : zf nX7_begin [.inr a0, .inr a1] h =
  (zpI h a0 7 0 (0 : Int32)).bind fun h1 =>
  (zpI h1 a0 7 1 (0 : Int32)).bind fun h2 =>
  zif (zK h2 a1 = 3) (
  (zf nX2_usefulStates [.inr a1] h2).bind fun u1 =>
  (zpI u1.2.2 a0 7 2 u1.1).bind fun h3 =>
  zif (zK h3 a0 = 8) (
  (zf nX7_longestArc [.inr a0, .inr a1] h3).bind fun u2 =>
  (zgI u2.2.2 a0 7 2).bind fun v1 =>
  (zf nJ6_bitCount_0f7a4 [.inl v1] u2.2.2).bind fun u3 =>
  (zgI u3.2.2 a0 7 2).bind fun v2 =>
  (zf nJ6_bitCount_0f7a4 [.inl v2] u3.2.2).bind fun u4 =>
  (zpI u4.2.2 a0 7 3 ((u2.1 * u3.1) * u4.1)).bind fun h4 =>
  (zpZ h4 a0 7 4 (0 : Int32)).bind fun h5 =>
  (zgF h5 a0 7 6).bind fun r1 =>
  (zf nJ7_fill_53178 [.inr r1, .inl (-1 : Int32)] h5).bind fun u5 =>
  (zgI u5.2.2 a1 2 2).bind fun v3 =>
  (zgI u5.2.2 a0 7 2).bind fun v4 =>
  zm_X7_begin 68 [some (.inr a0), some (.inr a1), some (.inl (v3 &&& v4)), some (.inl (0 : Int32)), none] [] u5.2.2)) := by
  rw [show zf nX7_begin = zFn zrecs 94 from rfl, zFn_eq (M := zr_X7_begin) rfl zd_X7_begin]
  exact (if_pos (Nat.le_of_ble_eq_true rfl)).trans ((zZ_eq zFn_mono _ _ _ _).trans rfl)
set_option maxRecDepth 50000 in
theorem e_X7_begin_68 (a0 : Nat) (a1 : Nat) (a2 : Int32) (a3 : Int32) (h : zM) : zm_X7_begin 68 [some (.inr a0), some (.inr a1), some (.inl a2), some (.inl a3), none] [] h =
  (zgI h a1 2 0).bind fun v1 =>
  if a3 < v1 then
    zm_X7_begin 79 [some (.inr a0), some (.inr a1), some (.inl a2), some (.inl a3), some (.inl (0 : Int32))] [] h
  else
    some (0, 0, h) := (zZ_eq zFn_mono _ _ _ _).trans rfl
set_option maxRecDepth 50000 in
theorem e_X7_begin_79 (a0 : Nat) (a1 : Nat) (a2 : Int32) (a3 : Int32) (a4 : Int32) (h : zM) : zm_X7_begin 79 [some (.inr a0), some (.inr a1), some (.inl a2), some (.inl a3), some (.inl a4)] [] h =
  (zgI h a1 2 0).bind fun v1 =>
  if a4 < v1 then
    (zf nX11_holds [.inl a2, .inl a3] h).bind fun u1 =>
    if u1.1 = 0 then
      zm_X7_begin 79 [some (.inr a0), some (.inr a1), some (.inl a2), some (.inl a3), some (.inl (a4 + (1 : Int32)))] [] u1.2.2
    else
      (zf nX11_holds [.inl a2, .inl a4] u1.2.2).bind fun u2 =>
      if u2.1 = 0 then
        zm_X7_begin 79 [some (.inr a0), some (.inr a1), some (.inl a2), some (.inl a3), some (.inl (a4 + (1 : Int32)))] [] u2.2.2
      else
        (zgF u2.2.2 a0 7 5).bind fun r1 =>
        (zgI u2.2.2 a0 7 1).bind fun v2 =>
        (zaa u2.2.2 r1 v2).bind fun r2 =>
        zif (zK u2.2.2 r2 = 5) (
        (zf nX4_begin [.inr r2, .inl a3, .inl a4] u2.2.2).bind fun u3 =>
        zif (zK u3.2.2 a0 = 8) (
        (zf nX7_keep [.inr a0] u3.2.2).bind fun u4 =>
        zm_X7_begin 79 [some (.inr a0), some (.inr a1), some (.inl a2), some (.inl a3), some (.inl (a4 + (1 : Int32)))] [] u4.2.2))
  else
    zm_X7_begin 68 [some (.inr a0), some (.inr a1), some (.inl a2), some (.inl (a3 + (1 : Int32))), none] [] h := (zZ_eq zFn_mono _ _ _ _).trans rfl
noncomputable def zm_X7_pairUp : zK4 := zZ zf zo_X7_pairUp [(3, 5)]
set_option maxRecDepth 50000 in
theorem e_X7_pairUp (a0 : Nat) (a1 : Nat) (a2 : Int32) (a3 : Int32) (h : zM) : zf nX7_pairUp [.inr a0, .inr a1, .inl a2, .inl a3] h =
  zm_X7_pairUp 3 [some (.inr a0), some (.inr a1), some (.inl a2), some (.inl a3), some (.inl (0 : Int32)), none] [] h := by
  rw [show zf nX7_pairUp = zFn zrecs 95 from rfl, zFn_eq (M := zr_X7_pairUp) rfl zd_X7_pairUp]
  exact (if_pos (Nat.le_of_ble_eq_true rfl)).trans ((zZ_eq zFn_mono _ _ _ _).trans rfl)
set_option maxRecDepth 50000 in
theorem e_X7_pairUp_3 (a0 : Nat) (a1 : Nat) (a2 : Int32) (a3 : Int32) (a4 : Int32) (h : zM) : zm_X7_pairUp 3 [some (.inr a0), some (.inr a1), some (.inl a2), some (.inl a3), some (.inl a4), none] [] h =
  (zgI h a1 2 1).bind fun v1 =>
  if a4 < v1 then
    (zgF h a1 2 4).bind fun r1 =>
    (zia h r1 a4).bind fun v2 =>
    (zgF h a0 7 5).bind fun r2 =>
    (zaa h r2 a3).bind fun r3 =>
    (zgI h r3 4 1).bind fun v3 =>
    if v2 = v3 then
      (zgF h a1 2 5).bind fun r4 =>
      (zia h r4 a4).bind fun v4 =>
      (zgF h a1 2 5).bind fun r5 =>
      (zia h r5 a2).bind fun v5 =>
      if v4 = v5 then
        (zgI h a0 7 2).bind fun v6 =>
        (zgF h a1 2 6).bind fun r6 =>
        (zia h r6 a4).bind fun v7 =>
        (zf nX11_holds [.inl v6, .inl v7] h).bind fun u1 =>
        if u1.1 = 0 then
          zm_X7_pairUp 3 [some (.inr a0), some (.inr a1), some (.inl a2), some (.inl a3), some (.inl (a4 + (1 : Int32))), none] [] u1.2.2
        else
          (zgF u1.2.2 a0 7 5).bind fun r7 =>
          (zgI u1.2.2 a0 7 1).bind fun v8 =>
          (zaa u1.2.2 r7 v8).bind fun r8 =>
          (zgF u1.2.2 a1 2 6).bind fun r9 =>
          (zia u1.2.2 r9 a2).bind fun v9 =>
          (zpI u1.2.2 r8 4 0 v9).bind fun h1 =>
          (zgF h1 a1 2 6).bind fun r10 =>
          (zia h1 r10 a4).bind fun v10 =>
          (zpI h1 r8 4 1 v10).bind fun h2 =>
          (zgF h2 a0 7 5).bind fun r11 =>
          (zaa h2 r11 a3).bind fun r12 =>
          (zgF h2 a1 2 7).bind fun r13 =>
          (zia h2 r13 a2).bind fun v11 =>
          (zgF h2 a1 2 7).bind fun r14 =>
          (zia h2 r14 a4).bind fun v12 =>
          zif (zK h2 r8 = 5) (
          (zf nX4_follow [.inr r8, .inr r12, .inl v11, .inl v12] h2).bind fun u2 =>
          zif (zK u2.2.2 a0 = 8) (
          (zf nX7_keep [.inr a0] u2.2.2).bind fun u3 =>
          zm_X7_pairUp 3 [some (.inr a0), some (.inr a1), some (.inl a2), some (.inl a3), some (.inl (a4 + (1 : Int32))), none] [] u3.2.2))
      else
        zm_X7_pairUp 3 [some (.inr a0), some (.inr a1), some (.inl a2), some (.inl a3), some (.inl (a4 + (1 : Int32))), none] [] h
    else
      zm_X7_pairUp 3 [some (.inr a0), some (.inr a1), some (.inl a2), some (.inl a3), some (.inl (a4 + (1 : Int32))), none] [] h
  else
    some (0, 0, h) := (zZ_eq zFn_mono _ _ _ _).trans rfl
noncomputable def zm_X7_lead : zK4 := zZ zf zo_X7_lead [(2, 4)]
set_option maxRecDepth 50000 in
theorem e_X7_lead (a0 : Nat) (a1 : Nat) (a2 : Int32) (h : zM) : zf nX7_lead [.inr a0, .inr a1, .inl a2] h =
  zm_X7_lead 2 [some (.inr a0), some (.inr a1), some (.inl a2), some (.inl (0 : Int32))] [] h := by
  rw [show zf nX7_lead = zFn zrecs 96 from rfl, zFn_eq (M := zr_X7_lead) rfl zd_X7_lead]
  exact (if_pos (Nat.le_of_ble_eq_true rfl)).trans ((zZ_eq zFn_mono _ _ _ _).trans rfl)
set_option maxRecDepth 50000 in
theorem e_X7_lead_2 (a0 : Nat) (a1 : Nat) (a2 : Int32) (a3 : Int32) (h : zM) : zm_X7_lead 2 [some (.inr a0), some (.inr a1), some (.inl a2), some (.inl a3)] [] h =
  (zgI h a1 2 1).bind fun v1 =>
  if a3 < v1 then
    (zgF h a1 2 4).bind fun r1 =>
    (zia h r1 a3).bind fun v2 =>
    (zgF h a0 7 5).bind fun r2 =>
    (zaa h r2 a2).bind fun r3 =>
    (zgI h r3 4 0).bind fun v3 =>
    if v2 = v3 then
      (zgI h a0 7 2).bind fun v4 =>
      (zgF h a1 2 6).bind fun r4 =>
      (zia h r4 a3).bind fun v5 =>
      (zf nX11_holds [.inl v4, .inl v5] h).bind fun u1 =>
      if u1.1 = 0 then
        zm_X7_lead 2 [some (.inr a0), some (.inr a1), some (.inl a2), some (.inl (a3 + (1 : Int32)))] [] u1.2.2
      else
        zif (zK u1.2.2 a0 = 8) (
        (zf nX7_pairUp [.inr a0, .inr a1, .inl a3, .inl a2] u1.2.2).bind fun u2 =>
        zm_X7_lead 2 [some (.inr a0), some (.inr a1), some (.inl a2), some (.inl (a3 + (1 : Int32)))] [] u2.2.2)
    else
      zm_X7_lead 2 [some (.inr a0), some (.inr a1), some (.inl a2), some (.inl (a3 + (1 : Int32)))] [] h
  else
    some (0, 0, h) := (zZ_eq zFn_mono _ _ _ _).trans rfl
noncomputable def zm_X7_judge : zK4 := zZ zf zo_X7_judge [(9, 4), (64, 6)]
set_option maxRecDepth 50000 in
theorem e_X7_judge (a0 : Nat) (a1 : Nat) (h : zM) : zf nX7_judge [.inr a0, .inr a1] h =
  zif (zK h a0 = 8) (
  (zf nX7_begin [.inr a0, .inr a1] h).bind fun u1 =>
  zm_X7_judge 9 [some (.inr a0), some (.inr a1), some (.inl (0 : Int32)), some (.inl (0 : Int32)), none, none] [] u1.2.2) := by
  rw [show zf nX7_judge = zFn zrecs 97 from rfl, zFn_eq (M := zr_X7_judge) rfl zd_X7_judge]
  exact (if_pos (Nat.le_of_ble_eq_true rfl)).trans ((zZ_eq zFn_mono _ _ _ _).trans rfl)
set_option maxRecDepth 50000 in
theorem e_X7_judge_9 (a0 : Nat) (a1 : Nat) (a2 : Int32) (a3 : Int32) (h : zM) : zm_X7_judge 9 [some (.inr a0), some (.inr a1), some (.inl a2), some (.inl a3), none, none] [] h =
  if (1001 : Int32) < a3 then
    some ((1 : Int32), 0, h)
  else
    (zgI h a0 7 1).bind fun v1 =>
    if a2 < v1 then
      (zgI h a0 7 0).bind fun v2 =>
      (zpI h a0 7 0 (v2 + (1 : Int32))).bind fun h1 =>
      (zgI h1 a0 7 4).bind fun v3 =>
      if v3 = 0 then
        (zgI h1 a0 7 1).bind fun v4 =>
        if (1000 : Int32) < v4 then
          some ((2 : Int32), 0, h1)
        else
          (zgI h1 a0 7 1).bind fun v5 =>
          zm_X7_judge 64 [some (.inr a0), some (.inr a1), some (.inl a2), some (.inl a3), some (.inl v5), some (.inl a2)] [] h1
      else
        some ((0 : Int32), 0, h1)
    else
      some ((1 : Int32), 0, h) := (zZ_eq zFn_mono _ _ _ _).trans rfl
set_option maxRecDepth 50000 in
theorem e_X7_judge_64 (a0 : Nat) (a1 : Nat) (a2 : Int32) (a3 : Int32) (a4 : Int32) (a5 : Int32) (h : zM) : zm_X7_judge 64 [some (.inr a0), some (.inr a1), some (.inl a2), some (.inl a3), some (.inl a4), some (.inl a5)] [] h =
  if a5 < a4 then
    zif (zK h a0 = 8) (
    (zf nX7_lead [.inr a0, .inr a1, .inl a5] h).bind fun u1 =>
    zm_X7_judge 64 [some (.inr a0), some (.inr a1), some (.inl a2), some (.inl a3), some (.inl a4), some (.inl (a5 + (1 : Int32)))] [] u1.2.2)
  else
    zm_X7_judge 9 [some (.inr a0), some (.inr a1), some (.inl a4), some (.inl (a3 + (1 : Int32))), none, none] [] h := (zZ_eq zFn_mono _ _ _ _).trans rfl
noncomputable def zm_X8_init : zK4 := zZ zf zo_X8_init []
set_option maxRecDepth 50000 in
theorem e_X8_init (a0 : Nat) (a1 : Int32) (h : zM) : zf nX8_init [.inr a0, .inl a1] h =
  if a0 = 0 then none else
  (zpI h a0 8 0 (0 : Int32)).bind fun h1 =>
  zif (zK (zmk h1 11 2) h1.1.1 = 11) (
  (zf nX10_init [.inr h1.1.1, .inl a1] (zmk h1 11 2)).bind fun u1 =>
  (zpF u1.2.2 a0 8 1 h1.1.1).bind fun h2 =>
  zif (zK (zmk h2 11 2) h2.1.1 = 11) (
  (zf nX10_init [.inr h2.1.1, .inl a1] (zmk h2 11 2)).bind fun u2 =>
  (zpF u2.2.2 a0 8 2 h2.1.1).bind fun h3 =>
  some (0, 0, h3))) := by
  rw [show zf nX8_init = zFn zrecs 98 from rfl, zFn_eq (M := zr_X8_init) rfl zd_X8_init]
  exact (if_pos (Nat.le_of_ble_eq_true rfl)).trans ((zZ_eq zFn_mono _ _ _ _).trans rfl)
noncomputable def zm_X8_clear : zK4 := zZ zf zo_X8_clear []
set_option maxRecDepth 50000 in
theorem e_X8_clear (a0 : Nat) (h : zM) : zf nX8_clear [.inr a0] h =
  (zpI h a0 8 0 (0 : Int32)).bind fun h1 =>
  some (0, 0, h1) := by
  rw [show zf nX8_clear = zFn zrecs 99 from rfl, zFn_eq (M := zr_X8_clear) rfl zd_X8_clear]
  exact (if_pos (Nat.le_of_ble_eq_true rfl)).trans ((zZ_eq zFn_mono _ _ _ _).trans rfl)
noncomputable def zm_X8_offer : zK4 := zZ zf zo_X8_offer []
set_option maxRecDepth 50000 in
theorem e_X8_offer (a0 : Nat) (a1 : Nat) (h : zM) : zf nX8_offer [.inr a0, .inr a1] h =
  (zgI h a0 8 0).bind fun v1 =>
  if v1 = 0 then
    (zgF h a0 8 1).bind fun r1 =>
    zif (zK h r1 = 11) (
    (zf nX10_become [.inr r1, .inr a1] h).bind fun u1 =>
    (zpI u1.2.2 a0 8 0 (1 : Int32)).bind fun h1 =>
    some (0, 0, h1))
  else
    (zgF h a0 8 1).bind fun r2 =>
    zif (zK h a1 = 11) (
    (zf nX10_compareWith [.inr a1, .inr r2] h).bind fun u2 =>
    if u2.1 < 0 then
      (zgF u2.2.2 a0 8 2).bind fun r3 =>
      (zgF u2.2.2 a0 8 1).bind fun r4 =>
      zif (zK u2.2.2 r3 = 11) (
      (zf nX10_become [.inr r3, .inr r4] u2.2.2).bind fun u3 =>
      (zgF u3.2.2 a0 8 1).bind fun r5 =>
      zif (zK u3.2.2 r5 = 11) (
      (zf nX10_become [.inr r5, .inr a1] u3.2.2).bind fun u4 =>
      (zpI u4.2.2 a0 8 0 (2 : Int32)).bind fun h2 =>
      some (0, 0, h2)))
    else
      if 0 < u2.1 then
        (zgI u2.2.2 a0 8 0).bind fun v2 =>
        if v2 = (1 : Int32) then
          (zgF u2.2.2 a0 8 2).bind fun r6 =>
          zif (zK u2.2.2 r6 = 11) (
          (zf nX10_become [.inr r6, .inr a1] u2.2.2).bind fun u5 =>
          (zpI u5.2.2 a0 8 0 (2 : Int32)).bind fun h3 =>
          some (0, 0, h3))
        else
          (zgF u2.2.2 a0 8 2).bind fun r7 =>
          zif (zK u2.2.2 a1 = 11) (
          (zf nX10_compareWith [.inr a1, .inr r7] u2.2.2).bind fun u6 =>
          if u6.1 < 0 then
            (zgF u6.2.2 a0 8 2).bind fun r8 =>
            zif (zK u6.2.2 r8 = 11) (
            (zf nX10_become [.inr r8, .inr a1] u6.2.2).bind fun u7 =>
            (zpI u7.2.2 a0 8 0 (2 : Int32)).bind fun h4 =>
            some (0, 0, h4))
          else
            some (0, 0, u6.2.2))
      else
        some (0, 0, u2.2.2)) := by
  rw [show zf nX8_offer = zFn zrecs 100 from rfl, zFn_eq (M := zr_X8_offer) rfl zd_X8_offer]
  exact (if_pos (Nat.le_of_ble_eq_true rfl)).trans ((zZ_eq zFn_mono _ _ _ _).trans rfl)
noncomputable def zm_X9_init : zK4 := zZ zf zo_X9_init [(89, 2)]
set_option maxRecDepth 50000 in
theorem e_X9_init (a0 : Nat) (h : zM) : zf nX9_init [.inr a0] h =
  if a0 = 0 then none else
  (zpZ h a0 9 0 (0 : Int32)).bind fun h1 =>
  zif (zK (zmk h1 11 2) h1.1.1 = 11) (
  (zf nX10_init [.inr h1.1.1, .inl (128 : Int32)] (zmk h1 11 2)).bind fun u1 =>
  (zpF u1.2.2 a0 9 1 h1.1.1).bind fun h2 =>
  (zf nX11_makeWords [.inl (2 : Int32), .inl (387 : Int32)] h2).bind fun u2 =>
  (zpF u2.2.2 a0 9 2 u2.2.1).bind fun h3 =>
  (zna h3 103 (2 : Int32)).bind fun h4 =>
  (zpF h4 a0 9 3 h3.1.1).bind fun h5 =>
  zif (zK (zmk h5 9 3) h5.1.1 = 9) (
  (zf nX8_init [.inr h5.1.1, .inl (387 : Int32)] (zmk h5 9 3)).bind fun u3 =>
  (zpF u3.2.2 a0 9 4 h5.1.1).bind fun h6 =>
  zif (zK (zmk h6 11 2) h6.1.1 = 11) (
  (zf nX10_init [.inr h6.1.1, .inl (387 : Int32)] (zmk h6 11 2)).bind fun u4 =>
  (zpF u4.2.2 a0 9 5 h6.1.1).bind fun h7 =>
  (zna h7 107 (6 : Int32)).bind fun h8 =>
  (zpF h8 a0 9 6 h7.1.1).bind fun h9 =>
  (zna h9 107 (6 : Int32)).bind fun h10 =>
  (zpF h10 a0 9 7 h9.1.1).bind fun h11 =>
  zm_X9_init 89 [some (.inr a0), some (.inl (0 : Int32))] [] h11))) := by
  rw [show zf nX9_init = zFn zrecs 101 from rfl, zFn_eq (M := zr_X9_init) rfl zd_X9_init]
  exact (if_pos (Nat.le_of_ble_eq_true rfl)).trans ((zZ_eq zFn_mono _ _ _ _).trans rfl)
set_option maxRecDepth 50000 in
theorem e_X9_init_89 (a0 : Nat) (a1 : Int32) (h : zM) : zm_X9_init 89 [some (.inr a0), some (.inl a1)] [] h =
  if a1 < (6 : Int32) then
    (zgF h a0 9 6).bind fun r1 =>
    zif (zK (zmk h 9 3) h.1.1 = 9) (
    (zf nX8_init [.inr h.1.1, .inl (387 : Int32)] (zmk h 9 3)).bind fun u1 =>
    (zas u1.2.2 r1 a1 h.1.1).bind fun h1 =>
    (zgF h1 a0 9 7).bind fun r2 =>
    zif (zK (zmk h1 9 3) h1.1.1 = 9) (
    (zf nX8_init [.inr h1.1.1, .inl (387 : Int32)] (zmk h1 9 3)).bind fun u2 =>
    (zas u2.2.2 r2 a1 h1.1.1).bind fun h2 =>
    zm_X9_init 89 [some (.inr a0), some (.inl (a1 + (1 : Int32)))] [] h2))
  else
    some (0, 0, h) := (zZ_eq zFn_mono _ _ _ _).trans rfl
noncomputable def zm_X9_hasWritten : zK4 := zZ zf zo_X9_hasWritten []
set_option maxRecDepth 50000 in
theorem e_X9_hasWritten (a0 : Nat) (a1 : Int32) (h : zM) : zf nX9_hasWritten [.inr a0, .inl a1] h =
  (zgI h a0 9 0).bind fun v1 =>
  if v1 = 0 then
    zb (0 : Int32) h
  else
    if a1 < 0 then
      zb (0 : Int32) h
    else
      if a1 < (2 : Int32) then
        (zgF h a0 9 3).bind fun r1 =>
        (zba h r1 a1).bind fun v2 =>
        if v2 = 0 then
          zb (0 : Int32) h
        else
          zb (1 : Int32) h
      else
        zb (0 : Int32) h := by
  rw [show zf nX9_hasWritten = zFn zrecs 102 from rfl, zFn_eq (M := zr_X9_hasWritten) rfl zd_X9_hasWritten]
  exact (if_pos (Nat.le_of_ble_eq_true rfl)).trans ((zZ_eq zFn_mono _ _ _ _).trans rfl)
noncomputable def zm_X9_begin : zK4 := zZ zf zo_X9_begin [(9, 3)]
set_option maxRecDepth 50000 in
theorem e_X9_begin (a0 : Nat) (a1 : Nat) (h : zM) : zf nX9_begin [.inr a0, .inr a1] h =
  (zgF h a0 9 5).bind fun r1 =>
  zif (zK h r1 = 11) (
  (zf nX10_clear [.inr r1] h).bind fun u1 =>
  zm_X9_begin 9 [some (.inr a0), some (.inr a1), some (.inl (0 : Int32))] [] u1.2.2) := by
  rw [show zf nX9_begin = zFn zrecs 103 from rfl, zFn_eq (M := zr_X9_begin) rfl zd_X9_begin]
  exact (if_pos (Nat.le_of_ble_eq_true rfl)).trans ((zZ_eq zFn_mono _ _ _ _).trans rfl)
set_option maxRecDepth 50000 in
theorem e_X9_begin_9 (a0 : Nat) (a1 : Nat) (a2 : Int32) (h : zM) : zm_X9_begin 9 [some (.inr a0), some (.inr a1), some (.inl a2)] [] h =
  if a2 < (6 : Int32) then
    (zgF h a0 9 7).bind fun r1 =>
    (zaa h r1 a2).bind fun r2 =>
    zif (zK h r2 = 9) (
    (zf nX8_clear [.inr r2] h).bind fun u1 =>
    (zgF u1.2.2 a0 9 6).bind fun r3 =>
    (zaa u1.2.2 r3 a2).bind fun r4 =>
    zif (zK u1.2.2 r4 = 9) (
    (zf nX8_clear [.inr r4] u1.2.2).bind fun u2 =>
    (zgI u2.2.2 a1 2 2).bind fun v1 =>
    (zf nX11_holds [.inl v1, .inl a2] u2.2.2).bind fun u3 =>
    if u3.1 = 0 then
      zm_X9_begin 9 [some (.inr a0), some (.inr a1), some (.inl (a2 + (1 : Int32)))] [] u3.2.2
    else
      (zgF u3.2.2 a0 9 6).bind fun r5 =>
      (zaa u3.2.2 r5 a2).bind fun r6 =>
      (zgF u3.2.2 a0 9 5).bind fun r7 =>
      zif (zK u3.2.2 r6 = 9) (
      (zf nX8_offer [.inr r6, .inr r7] u3.2.2).bind fun u4 =>
      zm_X9_begin 9 [some (.inr a0), some (.inr a1), some (.inl (a2 + (1 : Int32)))] [] u4.2.2)))
  else
    some (0, 0, h) := (zZ_eq zFn_mono _ _ _ _).trans rfl
noncomputable def zm_X9_offerAll : zK4 := zZ zf zo_X9_offerAll []
set_option maxRecDepth 50000 in
theorem e_X9_offerAll (a0 : Nat) (a1 : Nat) (a2 : Int32) (a3 : Nat) (h : zM) : zf nX9_offerAll [.inr a0, .inr a1, .inl a2, .inr a3] h =
  (zgI h a1 8 0).bind fun v1 =>
  if 0 < v1 then
    (zgF h a0 9 5).bind fun r1 =>
    (zgF h a1 8 1).bind fun r2 =>
    zif (zK h r1 = 11) (
    (zf nX10_become [.inr r1, .inr r2] h).bind fun u1 =>
    (zgF u1.2.2 a0 9 5).bind fun r3 =>
    zif (zK u1.2.2 r3 = 11) (
    (zf nX10_addNumber [.inr r3, .inl a2] u1.2.2).bind fun u2 =>
    (zgF u2.2.2 a0 9 5).bind fun r4 =>
    zif (zK u2.2.2 a3 = 9) (
    (zf nX8_offer [.inr a3, .inr r4] u2.2.2).bind fun u3 =>
    (zgI u3.2.2 a1 8 0).bind fun v2 =>
    if (1 : Int32) < v2 then
      (zgF u3.2.2 a0 9 5).bind fun r5 =>
      (zgF u3.2.2 a1 8 2).bind fun r6 =>
      zif (zK u3.2.2 r5 = 11) (
      (zf nX10_become [.inr r5, .inr r6] u3.2.2).bind fun u4 =>
      (zgF u4.2.2 a0 9 5).bind fun r7 =>
      zif (zK u4.2.2 r7 = 11) (
      (zf nX10_addNumber [.inr r7, .inl a2] u4.2.2).bind fun u5 =>
      (zgF u5.2.2 a0 9 5).bind fun r8 =>
      zif (zK u5.2.2 a3 = 9) (
      (zf nX8_offer [.inr a3, .inr r8] u5.2.2).bind fun u6 =>
      some (0, 0, u6.2.2))))
    else
      some (0, 0, u3.2.2))))
  else
    (zgI h a1 8 0).bind fun v3 =>
    if (1 : Int32) < v3 then
      (zgF h a0 9 5).bind fun r9 =>
      (zgF h a1 8 2).bind fun r10 =>
      zif (zK h r9 = 11) (
      (zf nX10_become [.inr r9, .inr r10] h).bind fun u7 =>
      (zgF u7.2.2 a0 9 5).bind fun r11 =>
      zif (zK u7.2.2 r11 = 11) (
      (zf nX10_addNumber [.inr r11, .inl a2] u7.2.2).bind fun u8 =>
      (zgF u8.2.2 a0 9 5).bind fun r12 =>
      zif (zK u8.2.2 a3 = 9) (
      (zf nX8_offer [.inr a3, .inr r12] u8.2.2).bind fun u9 =>
      some (0, 0, u9.2.2))))
    else
      some (0, 0, h) := by
  rw [show zf nX9_offerAll = zFn zrecs 104 from rfl, zFn_eq (M := zr_X9_offerAll) rfl zd_X9_offerAll]
  exact (if_pos (Nat.le_of_ble_eq_true rfl)).trans ((zZ_eq zFn_mono _ _ _ _).trans rfl)
noncomputable def zm_X9_turn : zK4 := zZ zf zo_X9_turn [(20, 3)]
set_option maxRecDepth 50000 in
theorem e_X9_turn (a0 : Nat) (h : zM) : zf nX9_turn [.inr a0] h =
  (zgF h a0 9 6).bind fun r1 =>
  (zgF h a0 9 7).bind fun r2 =>
  (zpF h a0 9 6 r2).bind fun h1 =>
  (zpF h1 a0 9 7 r1).bind fun h2 =>
  zm_X9_turn 20 [some (.inr a0), some (.inr r1), some (.inl (0 : Int32))] [] h2 := by
  rw [show zf nX9_turn = zFn zrecs 105 from rfl, zFn_eq (M := zr_X9_turn) rfl zd_X9_turn]
  exact (if_pos (Nat.le_of_ble_eq_true rfl)).trans ((zZ_eq zFn_mono _ _ _ _).trans rfl)
set_option maxRecDepth 50000 in
theorem e_X9_turn_20 (a0 : Nat) (a1 : Nat) (a2 : Int32) (h : zM) : zm_X9_turn 20 [some (.inr a0), some (.inr a1), some (.inl a2)] [] h =
  if a2 < (6 : Int32) then
    (zgF h a0 9 7).bind fun r1 =>
    (zaa h r1 a2).bind fun r2 =>
    zif (zK h r2 = 9) (
    (zf nX8_clear [.inr r2] h).bind fun u1 =>
    zm_X9_turn 20 [some (.inr a0), some (.inr a1), some (.inl (a2 + (1 : Int32)))] [] u1.2.2)
  else
    some (0, 0, h) := (zZ_eq zFn_mono _ _ _ _).trans rfl
noncomputable def zm_X9_write : zK4 := zZ zf zo_X9_write [(7, 3), (20, 4), (103, 3)]
set_option maxRecDepth 50000 in
theorem e_X9_write (a0 : Nat) (a1 : Nat) (h : zM) : zf nX9_write [.inr a0, .inr a1] h =
  zif (zK h a0 = 10) (
  (zf nX9_begin [.inr a0, .inr a1] h).bind fun u1 =>
  zm_X9_write 7 [some (.inr a0), some (.inr a1), some (.inl (0 : Int32)), none] [] u1.2.2) := by
  rw [show zf nX9_write = zFn zrecs 106 from rfl, zFn_eq (M := zr_X9_write) rfl zd_X9_write]
  exact (if_pos (Nat.le_of_ble_eq_true rfl)).trans ((zZ_eq zFn_mono _ _ _ _).trans rfl)
set_option maxRecDepth 50000 in
theorem e_X9_write_7 (a0 : Nat) (a1 : Nat) (a2 : Int32) (h : zM) : zm_X9_write 7 [some (.inr a0), some (.inr a1), some (.inl a2), none] [] h =
  (zgF h a0 9 1).bind fun r1 =>
  (zgI h r1 10 1).bind fun v1 =>
  if a2 < v1 then
    zm_X9_write 20 [some (.inr a0), some (.inr a1), some (.inl a2), some (.inl (0 : Int32))] [] h
  else
    (zgF h a0 9 4).bind fun r2 =>
    zif (zK h r2 = 9) (
    (zf nX8_clear [.inr r2] h).bind fun u1 =>
    zm_X9_write 103 [some (.inr a0), some (.inr a1), some (.inl (0 : Int32)), none] [] u1.2.2) := (zZ_eq zFn_mono _ _ _ _).trans rfl
set_option maxRecDepth 50000 in
theorem e_X9_write_20 (a0 : Nat) (a1 : Nat) (a2 : Int32) (a3 : Int32) (h : zM) : zm_X9_write 20 [some (.inr a0), some (.inr a1), some (.inl a2), some (.inl a3)] [] h =
  (zgI h a1 2 1).bind fun v1 =>
  if a3 < v1 then
    (zgF h a1 2 5).bind fun r1 =>
    (zia h r1 a3).bind fun v2 =>
    (zgF h a0 9 1).bind fun r2 =>
    (zgF h r2 10 0).bind fun r3 =>
    (zia h r3 a2).bind fun v3 =>
    if v2 = v3 then
      (zgF h a0 9 6).bind fun r4 =>
      (zgF h a1 2 4).bind fun r5 =>
      (zia h r5 a3).bind fun v4 =>
      (zaa h r4 v4).bind fun r6 =>
      (zgF h a1 2 7).bind fun r7 =>
      (zia h r7 a3).bind fun v5 =>
      (zgF h a0 9 7).bind fun r8 =>
      (zgF h a1 2 6).bind fun r9 =>
      (zia h r9 a3).bind fun v6 =>
      (zaa h r8 v6).bind fun r10 =>
      zif (zK h a0 = 10) (
      (zf nX9_offerAll [.inr a0, .inr r6, .inl v5, .inr r10] h).bind fun u1 =>
      zm_X9_write 20 [some (.inr a0), some (.inr a1), some (.inl a2), some (.inl (a3 + (1 : Int32)))] [] u1.2.2)
    else
      zm_X9_write 20 [some (.inr a0), some (.inr a1), some (.inl a2), some (.inl (a3 + (1 : Int32)))] [] h
  else
    zif (zK h a0 = 10) (
    (zf nX9_turn [.inr a0] h).bind fun u2 =>
    zm_X9_write 7 [some (.inr a0), some (.inr a1), some (.inl (a2 + (1 : Int32))), none] [] u2.2.2) := (zZ_eq zFn_mono _ _ _ _).trans rfl
set_option maxRecDepth 50000 in
theorem e_X9_write_103 (a0 : Nat) (a1 : Nat) (a2 : Int32) (h : zM) : zm_X9_write 103 [some (.inr a0), some (.inr a1), some (.inl a2), none] [] h =
  (zgI h a1 2 0).bind fun v1 =>
  if a2 < v1 then
    zif (zK h a1 = 3) (
    (zf nX2_hasEnd [.inr a1, .inl a2] h).bind fun u1 =>
    if u1.1 = 0 then
      zm_X9_write 103 [some (.inr a0), some (.inr a1), some (.inl (a2 + (1 : Int32))), none] [] u1.2.2
    else
      (zgF u1.2.2 a0 9 6).bind fun r1 =>
      (zaa u1.2.2 r1 a2).bind fun r2 =>
      (zgF u1.2.2 a1 2 3).bind fun r3 =>
      (zia u1.2.2 r3 a2).bind fun v2 =>
      (zgF u1.2.2 a0 9 4).bind fun r4 =>
      zif (zK u1.2.2 a0 = 10) (
      (zf nX9_offerAll [.inr a0, .inr r2, .inl v2, .inr r4] u1.2.2).bind fun u2 =>
      zm_X9_write 103 [some (.inr a0), some (.inr a1), some (.inl (a2 + (1 : Int32))), none] [] u2.2.2))
  else
    some (0, 0, h) := (zZ_eq zFn_mono _ _ _ _).trans rfl
noncomputable def zm_X9_tellOutputsApart : zK4 := zZ zf zo_X9_tellOutputsApart []
set_option maxRecDepth 50000 in
theorem e_X9_tellOutputsApart (a0 : Nat) (a1 : Nat) (a2 : Nat) (h : zM) : zf nX9_tellOutputsApart [.inr a0, .inr a1, .inr a2] h =
  (zpZ h a0 9 0 (1 : Int32)).bind fun h1 =>
  (zgF h1 a0 9 1).bind fun r1 =>
  zif (zK h1 r1 = 11) (
  (zf nX10_become [.inr r1, .inr a2] h1).bind fun u1 =>
  zif (zK u1.2.2 a0 = 10) (
  (zf nX9_write [.inr a0, .inr a1] u1.2.2).bind fun u2 =>
  (zgF u2.2.2 a0 9 3).bind fun r2 =>
  (zgF u2.2.2 a0 9 4).bind fun r3 =>
  (zgI u2.2.2 r3 8 0).bind fun v1 =>
  if 0 < v1 then
    (zbs u2.2.2 r2 (0 : Int32) (1 : Int32)).bind fun h2 =>
    (zgF h2 a0 9 2).bind fun r4 =>
    (zaa h2 r4 (0 : Int32)).bind fun r5 =>
    (zgF h2 a0 9 4).bind fun r6 =>
    (zgF h2 r6 8 1).bind fun r7 =>
    zif (zK h2 r5 = 11) (
    (zf nX10_become [.inr r5, .inr r7] h2).bind fun u3 =>
    (zgF u3.2.2 a0 9 3).bind fun r8 =>
    (zgF u3.2.2 a0 9 4).bind fun r9 =>
    (zgI u3.2.2 r9 8 0).bind fun v2 =>
    if (1 : Int32) < v2 then
      (zbs u3.2.2 r8 (1 : Int32) (1 : Int32)).bind fun h3 =>
      (zgF h3 a0 9 2).bind fun r10 =>
      (zaa h3 r10 (1 : Int32)).bind fun r11 =>
      (zgF h3 a0 9 4).bind fun r12 =>
      (zgF h3 r12 8 2).bind fun r13 =>
      zif (zK h3 r11 = 11) (
      (zf nX10_become [.inr r11, .inr r13] h3).bind fun u4 =>
      some (0, 0, u4.2.2))
    else
      (zbs u3.2.2 r8 (1 : Int32) (0 : Int32)).bind fun h4 =>
      (zgF h4 a0 9 2).bind fun r14 =>
      (zaa h4 r14 (1 : Int32)).bind fun r15 =>
      (zgF h4 a0 9 4).bind fun r16 =>
      (zgF h4 r16 8 2).bind fun r17 =>
      zif (zK h4 r15 = 11) (
      (zf nX10_become [.inr r15, .inr r17] h4).bind fun u5 =>
      some (0, 0, u5.2.2)))
  else
    (zbs u2.2.2 r2 (0 : Int32) (0 : Int32)).bind fun h5 =>
    (zgF h5 a0 9 2).bind fun r18 =>
    (zaa h5 r18 (0 : Int32)).bind fun r19 =>
    (zgF h5 a0 9 4).bind fun r20 =>
    (zgF h5 r20 8 1).bind fun r21 =>
    zif (zK h5 r19 = 11) (
    (zf nX10_become [.inr r19, .inr r21] h5).bind fun u6 =>
    (zgF u6.2.2 a0 9 3).bind fun r22 =>
    (zgF u6.2.2 a0 9 4).bind fun r23 =>
    (zgI u6.2.2 r23 8 0).bind fun v3 =>
    if (1 : Int32) < v3 then
      (zbs u6.2.2 r22 (1 : Int32) (1 : Int32)).bind fun h6 =>
      (zgF h6 a0 9 2).bind fun r24 =>
      (zaa h6 r24 (1 : Int32)).bind fun r25 =>
      (zgF h6 a0 9 4).bind fun r26 =>
      (zgF h6 r26 8 2).bind fun r27 =>
      zif (zK h6 r25 = 11) (
      (zf nX10_become [.inr r25, .inr r27] h6).bind fun u7 =>
      some (0, 0, u7.2.2))
    else
      (zbs u6.2.2 r22 (1 : Int32) (0 : Int32)).bind fun h7 =>
      (zgF h7 a0 9 2).bind fun r28 =>
      (zaa h7 r28 (1 : Int32)).bind fun r29 =>
      (zgF h7 a0 9 4).bind fun r30 =>
      (zgF h7 r30 8 2).bind fun r31 =>
      zif (zK h7 r29 = 11) (
      (zf nX10_become [.inr r29, .inr r31] h7).bind fun u8 =>
      some (0, 0, u8.2.2))))) := by
  rw [show zf nX9_tellOutputsApart = zFn zrecs 107 from rfl, zFn_eq (M := zr_X9_tellOutputsApart) rfl zd_X9_tellOutputsApart]
  exact (if_pos (Nat.le_of_ble_eq_true rfl)).trans ((zZ_eq zFn_mono _ _ _ _).trans rfl)
