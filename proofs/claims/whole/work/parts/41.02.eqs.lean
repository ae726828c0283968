noncomputable def zm_X1_translate : zK4 := zZ zf zo_X1_translate [(13, 5)]
set_option maxRecDepth 50000 in
theorem e_X1_translate (a0 : Nat) (a1 : Nat) (a2 : Nat) (h : zM) : zf nX1_translate [.inr a0, .inr a1, .inr a2] h =
  zif (zK h a0 = 2) (
  (zf nX1_beginWord [.inr a0] h).bind fun u1 =>
  zif (zK u1.2.2 a2 = 11) (
  (zf nX10_become [.inr a2, .inr u1.2.1] u1.2.2).bind fun u2 =>
  zm_X1_translate 13 [some (.inr a0), some (.inr a1), some (.inr a2), some (.inl (0 : Int32)), some (.inl (0 : Int32))] [] u2.2.2)) := by
  rw [show zf nX1_translate = zFn zrecs 54 from rfl, zFn_eq (M := zr_X1_translate) rfl zd_X1_translate]
  exact (if_pos (Nat.le_of_ble_eq_true rfl)).trans ((zZ_eq zFn_mono _ _ _ _).trans rfl)
set_option maxRecDepth 50000 in
theorem e_X1_translate_13 (a0 : Nat) (a1 : Nat) (a2 : Nat) (a3 : Int32) (a4 : Int32) (h : zM) : zm_X1_translate 13 [some (.inr a0), some (.inr a1), some (.inr a2), some (.inl a3), some (.inl a4)] [] h =
  (zgI h a1 10 1).bind fun v1 =>
  if a4 < v1 then
    (zgF h a1 10 0).bind fun r1 =>
    (zia h r1 a4).bind fun v2 =>
    zif (zK h a0 = 2) (
    (zf nX1_addWordOf [.inr a0, .inl a3, .inl v2, .inr a2] h).bind fun u1 =>
    (zgF u1.2.2 a1 10 0).bind fun r2 =>
    (zia u1.2.2 r2 a4).bind fun v3 =>
    zif (zK u1.2.2 a0 = 2) (
    (zf nX1_stateBehind [.inr a0, .inl a3, .inl v3] u1.2.2).bind fun u2 =>
    zm_X1_translate 13 [some (.inr a0), some (.inr a1), some (.inr a2), some (.inl u2.1), some (.inl (a4 + (1 : Int32)))] [] u2.2.2))
  else
    zif (zK h a0 = 2) (
    (zf nX1_addWordOf [.inr a0, .inl a3, .inl (0 : Int32), .inr a2] h).bind fun u3 =>
    some (0, 0, u3.2.2)) := (zZ_eq zFn_mono _ _ _ _).trans rfl
noncomputable def zm_X1_fitsMachine : zK4 := zZ zf zo_X1_fitsMachine [(23, 2), (33, 3)]
set_option maxRecDepth 50000 in
theorem e_X1_fitsMachine (a0 : Nat) (h : zM) : zf nX1_fitsMachine [.inr a0] h =
  (zgI h a0 1 0).bind fun v1 =>
  if (6 : Int32) < v1 then
    zb (0 : Int32) h
  else
    zif (zK h a0 = 2) (
    (zf nX1_beginWord [.inr a0] h).bind fun u1 =>
    (zgI u1.2.2 u1.2.1 10 1).bind fun v2 =>
    if 0 < v2 then
      zb (0 : Int32) u1.2.2
    else
      zm_X1_fitsMachine 23 [some (.inr a0), some (.inl (0 : Int32)), none, none] [] u1.2.2) := by
  rw [show zf nX1_fitsMachine = zFn zrecs 55 from rfl, zFn_eq (M := zr_X1_fitsMachine) rfl zd_X1_fitsMachine]
  exact (if_pos (Nat.le_of_ble_eq_true rfl)).trans ((zZ_eq zFn_mono _ _ _ _).trans rfl)
set_option maxRecDepth 50000 in
theorem e_X1_fitsMachine_23 (a0 : Nat) (a1 : Int32) (h : zM) : zm_X1_fitsMachine 23 [some (.inr a0), some (.inl a1), none, none] [] h =
  (zgI h a0 1 0).bind fun v1 =>
  if a1 < v1 then
    zm_X1_fitsMachine 33 [some (.inr a0), some (.inl a1), some (.inl (0 : Int32)), none] [] h
  else
    zb (1 : Int32) h := (zZ_eq zFn_mono _ _ _ _).trans rfl
set_option maxRecDepth 50000 in
theorem e_X1_fitsMachine_33 (a0 : Nat) (a1 : Int32) (a2 : Int32) (h : zM) : zm_X1_fitsMachine 33 [some (.inr a0), some (.inl a1), some (.inl a2), none] [] h =
  if (3 : Int32) < a2 then
    zm_X1_fitsMachine 23 [some (.inr a0), some (.inl (a1 + (1 : Int32))), none, none] [] h
  else
    zif (zK h a0 = 2) (
    (zf nX1_wordOf [.inr a0, .inl a1, .inl a2] h).bind fun u1 =>
    if u1.2.1 = 0 then
      zm_X1_fitsMachine 33 [some (.inr a0), some (.inl a1), some (.inl (a2 + (1 : Int32))), none] [] u1.2.2
    else
      (zgI u1.2.2 u1.2.1 10 1).bind fun v1 =>
      if (3 : Int32) < v1 then
        zb (0 : Int32) u1.2.2
      else
        zm_X1_fitsMachine 33 [some (.inr a0), some (.inl a1), some (.inl (a2 + (1 : Int32))), none] [] u1.2.2) := (zZ_eq zFn_mono _ _ _ _).trans rfl
noncomputable def zm_X2_addArc : zK4 := zZ zf zo_X2_addArc [(3, 6)]
set_option maxRecDepth 50000 in
theorem e_X2_addArc (a0 : Nat) (a1 : Int32) (a2 : Int32) (a3 : Int32) (a4 : Int32) (h : zM) : zf nX2_addArc [.inr a0, .inl a1, .inl a2, .inl a3, .inl a4] h =
  zm_X2_addArc 3 [some (.inr a0), some (.inl a1), some (.inl a2), some (.inl a3), some (.inl a4), some (.inl (0 : Int32))] [] h := by
  rw [show zf nX2_addArc = zFn zrecs 56 from rfl, zFn_eq (M := zr_X2_addArc) rfl zd_X2_addArc]
  exact (if_pos (Nat.le_of_ble_eq_true rfl)).trans ((zZ_eq zFn_mono _ _ _ _).trans rfl)
set_option maxRecDepth 50000 in
theorem e_X2_addArc_3 (a0 : Nat) (a1 : Int32) (a2 : Int32) (a3 : Int32) (a4 : Int32) (a5 : Int32) (h : zM) : zm_X2_addArc 3 [some (.inr a0), some (.inl a1), some (.inl a2), some (.inl a3), some (.inl a4), some (.inl a5)] [] h =
  (zgI h a0 2 1).bind fun v1 =>
  if a5 < v1 then
    (zgF h a0 2 4).bind fun r1 =>
    (zia h r1 a5).bind fun v2 =>
    if v2 = a1 then
      (zgF h a0 2 5).bind fun r2 =>
      (zia h r2 a5).bind fun v3 =>
      if v3 = a2 then
        (zgF h a0 2 6).bind fun r3 =>
        (zia h r3 a5).bind fun v4 =>
        if v4 = a3 then
          (zgF h a0 2 7).bind fun r4 =>
          (zia h r4 a5).bind fun v5 =>
          if v5 = a4 then
            (zgI h a0 2 1).bind fun v6 =>
            some (v6, 0, h)
          else
            zm_X2_addArc 3 [some (.inr a0), some (.inl a1), some (.inl a2), some (.inl a3), some (.inl a4), some (.inl (a5 + (1 : Int32)))] [] h
        else
          zm_X2_addArc 3 [some (.inr a0), some (.inl a1), some (.inl a2), some (.inl a3), some (.inl a4), some (.inl (a5 + (1 : Int32)))] [] h
      else
        zm_X2_addArc 3 [some (.inr a0), some (.inl a1), some (.inl a2), some (.inl a3), some (.inl a4), some (.inl (a5 + (1 : Int32)))] [] h
    else
      zm_X2_addArc 3 [some (.inr a0), some (.inl a1), some (.inl a2), some (.inl a3), some (.inl a4), some (.inl (a5 + (1 : Int32)))] [] h
  else
    (zgI h a0 2 1).bind fun v7 =>
    if v7 < (30 : Int32) then
      (zgF h a0 2 4).bind fun r5 =>
      (zgI h a0 2 1).bind fun v8 =>
      (zis h r5 v8 a1).bind fun h1 =>
      (zgF h1 a0 2 5).bind fun r6 =>
      (zgI h1 a0 2 1).bind fun v9 =>
      (zis h1 r6 v9 a2).bind fun h2 =>
      (zgF h2 a0 2 6).bind fun r7 =>
      (zgI h2 a0 2 1).bind fun v10 =>
      (zis h2 r7 v10 a3).bind fun h3 =>
      (zgF h3 a0 2 7).bind fun r8 =>
      (zgI h3 a0 2 1).bind fun v11 =>
      (zis h3 r8 v11 a4).bind fun h4 =>
      (zgI h4 a0 2 1).bind fun v12 =>
      (zpI h4 a0 2 1 (v12 + (1 : Int32))).bind fun h5 =>
      (zgI h5 a0 2 1).bind fun v13 =>
      some (v13, 0, h5)
    else
      some ((-1 : Int32), 0, h) := (zZ_eq zFn_mono _ _ _ _).trans rfl
noncomputable def zm_X2_renew : zK4 := zZ zf zo_X2_renew []
set_option maxRecDepth 50000 in
theorem e_X2_renew (a0 : Nat) (a1 : Int32) (h : zM) : zf nX2_renew [.inr a0, .inl a1] h =
  (zpI h a0 2 0 a1).bind fun h1 =>
  (zpI h1 a0 2 1 (0 : Int32)).bind fun h2 =>
  (zpI h2 a0 2 2 (0 : Int32)).bind fun h3 =>
  (zgF h3 a0 2 3).bind fun r1 =>
  (zf nJ7_fill_53178 [.inr r1, .inl (-1 : Int32)] h3).bind fun u1 =>
  some (0, 0, u1.2.2) := by
  rw [show zf nX2_renew = zFn zrecs 57 from rfl, zFn_eq (M := zr_X2_renew) rfl zd_X2_renew]
  exact (if_pos (Nat.le_of_ble_eq_true rfl)).trans ((zZ_eq zFn_mono _ _ _ _).trans rfl)
noncomputable def zm_X2_setBeginning : zK4 := zZ zf zo_X2_setBeginning []
set_option maxRecDepth 50000 in
theorem e_X2_setBeginning (a0 : Nat) (a1 : Int32) (a2 : Int32) (h : zM) : zf nX2_setBeginning [.inr a0, .inl a1, .inl a2] h =
  if a2 = 0 then
    (zgI h a0 2 2).bind fun v1 =>
    (zpI h a0 2 2 (v1 &&& (((1 : Int32) <<< (a1 &&& 31)) ^^^ (-1 : Int32)))).bind fun h1 =>
    some (0, 0, h1)
  else
    (zgI h a0 2 2).bind fun v2 =>
    (zpI h a0 2 2 (v2 ||| ((1 : Int32) <<< (a1 &&& 31)))).bind fun h2 =>
    some (0, 0, h2) := by
  rw [show zf nX2_setBeginning = zFn zrecs 58 from rfl, zFn_eq (M := zr_X2_setBeginning) rfl zd_X2_setBeginning]
  exact (if_pos (Nat.le_of_ble_eq_true rfl)).trans ((zZ_eq zFn_mono _ _ _ _).trans rfl)
noncomputable def zm_X10_number : zK4 := zZ zf zo_X10_number [(4, 3)]
set_option maxRecDepth 50000 in
theorem e_X10_number (a0 : Nat) (h : zM) : zf nX10_number [.inr a0] h =
  zm_X10_number 4 [some (.inr a0), some (.inl (0 : Int32)), some (.inl (0 : Int32))] [] h := by
  rw [show zf nX10_number = zFn zrecs 59 from rfl, zFn_eq (M := zr_X10_number) rfl zd_X10_number]
  exact (if_pos (Nat.le_of_ble_eq_true rfl)).trans ((zZ_eq zFn_mono _ _ _ _).trans rfl)
set_option maxRecDepth 50000 in
theorem e_X10_number_4 (a0 : Nat) (a1 : Int32) (a2 : Int32) (h : zM) : zm_X10_number 4 [some (.inr a0), some (.inl a1), some (.inl a2)] [] h =
  (zgI h a0 10 1).bind fun v1 =>
  if a2 < v1 then
    (zgF h a0 10 0).bind fun r1 =>
    (zia h r1 a2).bind fun v2 =>
    zm_X10_number 4 [some (.inr a0), some (.inl ((a1 * (10 : Int32)) + v2)), some (.inl (a2 + (1 : Int32)))] [] h
  else
    some (a1, 0, h) := (zZ_eq zFn_mono _ _ _ _).trans rfl
noncomputable def zm_X1_fill : zK4 := zZ zf zo_X1_fill [(10, 3), (60, 5)]
set_option maxRecDepth 50000 in
theorem e_X1_fill (a0 : Nat) (a1 : Nat) (h : zM) : zf nX1_fill [.inr a0, .inr a1] h =
  (zgI h a0 1 0).bind fun v1 =>
  zif (zK h a1 = 3) (
  (zf nX2_renew [.inr a1, .inl v1] h).bind fun u1 =>
  zm_X1_fill 10 [some (.inr a0), some (.inr a1), some (.inl (0 : Int32)), none, none, none] [] u1.2.2) := by
  rw [show zf nX1_fill = zFn zrecs 60 from rfl, zFn_eq (M := zr_X1_fill) rfl zd_X1_fill]
  exact (if_pos (Nat.le_of_ble_eq_true rfl)).trans ((zZ_eq zFn_mono _ _ _ _).trans rfl)
set_option maxRecDepth 50000 in
theorem e_X1_fill_10 (a0 : Nat) (a1 : Nat) (a2 : Int32) (h : zM) : zm_X1_fill 10 [some (.inr a0), some (.inr a1), some (.inl a2), none, none, none] [] h =
  (zgI h a0 1 0).bind fun v1 =>
  if a2 < v1 then
    if a2 = 0 then
      zif (zK h a1 = 3) (
      (zf nX2_setBeginning [.inr a1, .inl a2, .inl (1 : Int32)] h).bind fun u1 =>
      zif (zK u1.2.2 a0 = 2) (
      (zf nX1_wordOf [.inr a0, .inl a2, .inl (0 : Int32)] u1.2.2).bind fun u2 =>
      (zgF u2.2.2 a1 2 3).bind fun r1 =>
      if u2.2.1 = 0 then
        (zis u2.2.2 r1 a2 (-1 : Int32)).bind fun h2 =>
        zm_X1_fill 60 [some (.inr a0), some (.inr a1), some (.inl a2), some (.inr u2.2.1), some (.inl (1 : Int32)), none] [] h2
      else
        zif (zK u2.2.2 u2.2.1 = 11) (
        (zf nX10_number [.inr u2.2.1] u2.2.2).bind fun u3 =>
        (zis u3.2.2 r1 a2 u3.1).bind fun h1 =>
        zm_X1_fill 60 [some (.inr a0), some (.inr a1), some (.inl a2), some (.inr u2.2.1), some (.inl (1 : Int32)), none] [] h1)))
    else
      zif (zK h a1 = 3) (
      (zf nX2_setBeginning [.inr a1, .inl a2, .inl (0 : Int32)] h).bind fun u4 =>
      zif (zK u4.2.2 a0 = 2) (
      (zf nX1_wordOf [.inr a0, .inl a2, .inl (0 : Int32)] u4.2.2).bind fun u5 =>
      (zgF u5.2.2 a1 2 3).bind fun r2 =>
      if u5.2.1 = 0 then
        (zis u5.2.2 r2 a2 (-1 : Int32)).bind fun h4 =>
        zm_X1_fill 60 [some (.inr a0), some (.inr a1), some (.inl a2), some (.inr u5.2.1), some (.inl (1 : Int32)), none] [] h4
      else
        zif (zK u5.2.2 u5.2.1 = 11) (
        (zf nX10_number [.inr u5.2.1] u5.2.2).bind fun u6 =>
        (zis u6.2.2 r2 a2 u6.1).bind fun h3 =>
        zm_X1_fill 60 [some (.inr a0), some (.inr a1), some (.inl a2), some (.inr u5.2.1), some (.inl (1 : Int32)), none] [] h3)))
  else
    some (0, 0, h) := (zZ_eq zFn_mono _ _ _ _).trans rfl
set_option maxRecDepth 50000 in
theorem e_X1_fill_60 (a0 : Nat) (a1 : Nat) (a2 : Int32) (a3 : Nat) (a4 : Int32) (h : zM) : zm_X1_fill 60 [some (.inr a0), some (.inr a1), some (.inl a2), some (.inr a3), some (.inl a4), none] [] h =
  if (3 : Int32) < a4 then
    zm_X1_fill 10 [some (.inr a0), some (.inr a1), some (.inl (a2 + (1 : Int32))), none, none, none] [] h
  else
    zif (zK h a0 = 2) (
    (zf nX1_wordOf [.inr a0, .inl a2, .inl a4] h).bind fun u1 =>
    if u1.2.1 = 0 then
      zm_X1_fill 60 [some (.inr a0), some (.inr a1), some (.inl a2), some (.inr a3), some (.inl (a4 + (1 : Int32))), none] [] u1.2.2
    else
      zif (zK u1.2.2 a0 = 2) (
      (zf nX1_stateBehind [.inr a0, .inl a2, .inl a4] u1.2.2).bind fun u2 =>
      zif (zK u2.2.2 u1.2.1 = 11) (
      (zf nX10_number [.inr u1.2.1] u2.2.2).bind fun u3 =>
      zif (zK u3.2.2 a1 = 3) (
      (zf nX2_addArc [.inr a1, .inl a2, .inl a4, .inl u2.1, .inl u3.1] u3.2.2).bind fun u4 =>
      zm_X1_fill 60 [some (.inr a0), some (.inr a1), some (.inl a2), some (.inr a3), some (.inl (a4 + (1 : Int32))), none] [] u4.2.2)))) := (zZ_eq zFn_mono _ _ _ _).trans rfl
noncomputable def zm_X2_init : zK4 := zZ zf zo_X2_init []
set_option maxRecDepth 50000 in
theorem e_X2_init (a0 : Nat) (h : zM) : zf nX2_init [.inr a0] h =
  if a0 = 0 then none else
  (zna h 101 (6 : Int32)).bind fun h1 =>
  (zpF h1 a0 2 3 h.1.1).bind fun h2 =>
  (zna h2 101 (30 : Int32)).bind fun h3 =>
  (zpF h3 a0 2 4 h2.1.1).bind fun h4 =>
  (zna h4 101 (30 : Int32)).bind fun h5 =>
  (zpF h5 a0 2 5 h4.1.1).bind fun h6 =>
  (zna h6 101 (30 : Int32)).bind fun h7 =>
  (zpF h7 a0 2 6 h6.1.1).bind fun h8 =>
  (zna h8 101 (30 : Int32)).bind fun h9 =>
  (zpF h9 a0 2 7 h8.1.1).bind fun h10 =>
  zif (zK h10 a0 = 3) (
  (zf nX2_renew [.inr a0, .inl (0 : Int32)] h10).bind fun u1 =>
  some (0, 0, u1.2.2)) := by
  rw [show zf nX2_init = zFn zrecs 61 from rfl, zFn_eq (M := zr_X2_init) rfl zd_X2_init]
  exact (if_pos (Nat.le_of_ble_eq_true rfl)).trans ((zZ_eq zFn_mono _ _ _ _).trans rfl)
noncomputable def zm_X2_become : zK4 := zZ zf zo_X2_become []
set_option maxRecDepth 50000 in
theorem e_X2_become (a0 : Nat) (a1 : Nat) (h : zM) : zf nX2_become [.inr a0, .inr a1] h =
  (zgI h a1 2 0).bind fun v1 =>
  (zpI h a0 2 0 v1).bind fun h1 =>
  (zgI h1 a1 2 1).bind fun v2 =>
  (zpI h1 a0 2 1 v2).bind fun h2 =>
  (zgI h2 a1 2 2).bind fun v3 =>
  (zpI h2 a0 2 2 v3).bind fun h3 =>
  (zgF h3 a1 2 3).bind fun r1 =>
  (zgF h3 a0 2 3).bind fun r2 =>
  (zcp h3 r1 (0 : Int32) r2 (0 : Int32) (6 : Int32)).bind fun h4 =>
  (zgF h4 a1 2 4).bind fun r3 =>
  (zgF h4 a0 2 4).bind fun r4 =>
  (zcp h4 r3 (0 : Int32) r4 (0 : Int32) (30 : Int32)).bind fun h5 =>
  (zgF h5 a1 2 5).bind fun r5 =>
  (zgF h5 a0 2 5).bind fun r6 =>
  (zcp h5 r5 (0 : Int32) r6 (0 : Int32) (30 : Int32)).bind fun h6 =>
  (zgF h6 a1 2 6).bind fun r7 =>
  (zgF h6 a0 2 6).bind fun r8 =>
  (zcp h6 r7 (0 : Int32) r8 (0 : Int32) (30 : Int32)).bind fun h7 =>
  (zgF h7 a1 2 7).bind fun r9 =>
  (zgF h7 a0 2 7).bind fun r10 =>
  (zcp h7 r9 (0 : Int32) r10 (0 : Int32) (30 : Int32)).bind fun h8 =>
  some (0, 0, h8) := by
  rw [show zf nX2_become = zFn zrecs 62 from rfl, zFn_eq (M := zr_X2_become) rfl zd_X2_become]
  exact (if_pos (Nat.le_of_ble_eq_true rfl)).trans ((zZ_eq zFn_mono _ _ _ _).trans rfl)
noncomputable def zm_X2_ending : zK4 := zZ zf zo_X2_ending [(4, 3)]
set_option maxRecDepth 50000 in
theorem e_X2_ending (a0 : Nat) (h : zM) : zf nX2_ending [.inr a0] h =
  zm_X2_ending 4 [some (.inr a0), some (.inl (0 : Int32)), some (.inl (0 : Int32))] [] h := by
  rw [show zf nX2_ending = zFn zrecs 63 from rfl, zFn_eq (M := zr_X2_ending) rfl zd_X2_ending]
  exact (if_pos (Nat.le_of_ble_eq_true rfl)).trans ((zZ_eq zFn_mono _ _ _ _).trans rfl)
set_option maxRecDepth 50000 in
theorem e_X2_ending_4 (a0 : Nat) (a1 : Int32) (a2 : Int32) (h : zM) : zm_X2_ending 4 [some (.inr a0), some (.inl a1), some (.inl a2)] [] h =
  (zgI h a0 2 0).bind fun v1 =>
  if a2 < v1 then
    zif (zK h a0 = 3) (
    (zf nX2_hasEnd [.inr a0, .inl a2] h).bind fun u1 =>
    if u1.1 = 0 then
      zm_X2_ending 4 [some (.inr a0), some (.inl a1), some (.inl (a2 + (1 : Int32)))] [] u1.2.2
    else
      zm_X2_ending 4 [some (.inr a0), some (.inl (a1 ||| ((1 : Int32) <<< (a2 &&& 31)))), some (.inl (a2 + (1 : Int32)))] [] u1.2.2)
  else
    some (a1, 0, h) := (zZ_eq zFn_mono _ _ _ _).trans rfl
noncomputable def zm_X2_usefulStates : zK4 := zZ zf zo_X2_usefulStates [(12, 4), (21, 5)]
set_option maxRecDepth 50000 in
theorem e_X2_usefulStates (a0 : Nat) (h : zM) : zf nX2_usefulStates [.inr a0] h =
  (zgI h a0 2 2).bind fun v1 =>
  zif (zK h a0 = 3) (
  (zf nX2_ending [.inr a0] h).bind fun u1 =>
  zm_X2_usefulStates 12 [some (.inr a0), some (.inl v1), some (.inl u1.1), some (.inl (0 : Int32)), none] [] u1.2.2) := by
  rw [show zf nX2_usefulStates = zFn zrecs 64 from rfl, zFn_eq (M := zr_X2_usefulStates) rfl zd_X2_usefulStates]
  exact (if_pos (Nat.le_of_ble_eq_true rfl)).trans ((zZ_eq zFn_mono _ _ _ _).trans rfl)
set_option maxRecDepth 50000 in
theorem e_X2_usefulStates_12 (a0 : Nat) (a1 : Int32) (a2 : Int32) (a3 : Int32) (h : zM) : zm_X2_usefulStates 12 [some (.inr a0), some (.inl a1), some (.inl a2), some (.inl a3), none] [] h =
  if a3 < (6 : Int32) then
    zm_X2_usefulStates 21 [some (.inr a0), some (.inl a1), some (.inl a2), some (.inl a3), some (.inl (0 : Int32))] [] h
  else
    some ((a1 &&& a2), 0, h) := (zZ_eq zFn_mono _ _ _ _).trans rfl
set_option maxRecDepth 50000 in
theorem e_X2_usefulStates_21 (a0 : Nat) (a1 : Int32) (a2 : Int32) (a3 : Int32) (a4 : Int32) (h : zM) : zm_X2_usefulStates 21 [some (.inr a0), some (.inl a1), some (.inl a2), some (.inl a3), some (.inl a4)] [] h =
  (zgI h a0 2 1).bind fun v1 =>
  if a4 < v1 then
    (zgF h a0 2 4).bind fun r1 =>
    (zia h r1 a4).bind fun v2 =>
    (zf nX11_holds [.inl a1, .inl v2] h).bind fun u1 =>
    if u1.1 = 0 then
      (zgF u1.2.2 a0 2 6).bind fun r2 =>
      (zia u1.2.2 r2 a4).bind fun v3 =>
      (zf nX11_holds [.inl a2, .inl v3] u1.2.2).bind fun u2 =>
      if u2.1 = 0 then
        zm_X2_usefulStates 21 [some (.inr a0), some (.inl a1), some (.inl a2), some (.inl a3), some (.inl (a4 + (1 : Int32)))] [] u2.2.2
      else
        (zgF u2.2.2 a0 2 4).bind fun r3 =>
        (zia u2.2.2 r3 a4).bind fun v4 =>
        zm_X2_usefulStates 21 [some (.inr a0), some (.inl a1), some (.inl (a2 ||| ((1 : Int32) <<< (v4 &&& 31)))), some (.inl a3), some (.inl (a4 + (1 : Int32)))] [] u2.2.2
    else
      (zgF u1.2.2 a0 2 6).bind fun r4 =>
      (zia u1.2.2 r4 a4).bind fun v5 =>
      (zgF u1.2.2 a0 2 6).bind fun r5 =>
      (zia u1.2.2 r5 a4).bind fun v6 =>
      (zf nX11_holds [.inl a2, .inl v6] u1.2.2).bind fun u3 =>
      if u3.1 = 0 then
        zm_X2_usefulStates 21 [some (.inr a0), some (.inl (a1 ||| ((1 : Int32) <<< (v5 &&& 31)))), some (.inl a2), some (.inl a3), some (.inl (a4 + (1 : Int32)))] [] u3.2.2
      else
        (zgF u3.2.2 a0 2 4).bind fun r6 =>
        (zia u3.2.2 r6 a4).bind fun v7 =>
        zm_X2_usefulStates 21 [some (.inr a0), some (.inl (a1 ||| ((1 : Int32) <<< (v5 &&& 31)))), some (.inl (a2 ||| ((1 : Int32) <<< (v7 &&& 31)))), some (.inl a3), some (.inl (a4 + (1 : Int32)))] [] u3.2.2
  else
    zm_X2_usefulStates 12 [some (.inr a0), some (.inl a1), some (.inl a2), some (.inl (a3 + (1 : Int32))), none] [] h := (zZ_eq zFn_mono _ _ _ _).trans rfl
noncomputable def zm_X2_follow : zK4 := zZ zf zo_X2_follow [(5, 5)]
set_option maxRecDepth 50000 in
theorem e_X2_follow (a0 : Nat) (a1 : Int32) (a2 : Int32) (h : zM) : zf nX2_follow [.inr a0, .inl a1, .inl a2] h =
  zm_X2_follow 5 [some (.inr a0), some (.inl a1), some (.inl a2), some (.inl (0 : Int32)), some (.inl (0 : Int32))] [] h := by
  rw [show zf nX2_follow = zFn zrecs 65 from rfl, zFn_eq (M := zr_X2_follow) rfl zd_X2_follow]
  exact (if_pos (Nat.le_of_ble_eq_true rfl)).trans ((zZ_eq zFn_mono _ _ _ _).trans rfl)
set_option maxRecDepth 50000 in
theorem e_X2_follow_5 (a0 : Nat) (a1 : Int32) (a2 : Int32) (a3 : Int32) (a4 : Int32) (h : zM) : zm_X2_follow 5 [some (.inr a0), some (.inl a1), some (.inl a2), some (.inl a3), some (.inl a4)] [] h =
  (zgI h a0 2 1).bind fun v1 =>
  if a4 < v1 then
    (zgF h a0 2 5).bind fun r1 =>
    (zia h r1 a4).bind fun v2 =>
    if v2 = a2 then
      (zgF h a0 2 4).bind fun r2 =>
      (zia h r2 a4).bind fun v3 =>
      (zf nX11_holds [.inl a1, .inl v3] h).bind fun u1 =>
      if u1.1 = 0 then
        zm_X2_follow 5 [some (.inr a0), some (.inl a1), some (.inl a2), some (.inl a3), some (.inl (a4 + (1 : Int32)))] [] u1.2.2
      else
        (zgF u1.2.2 a0 2 6).bind fun r3 =>
        (zia u1.2.2 r3 a4).bind fun v4 =>
        zm_X2_follow 5 [some (.inr a0), some (.inl a1), some (.inl a2), some (.inl (a3 ||| ((1 : Int32) <<< (v4 &&& 31)))), some (.inl (a4 + (1 : Int32)))] [] u1.2.2
    else
      zm_X2_follow 5 [some (.inr a0), some (.inl a1), some (.inl a2), some (.inl a3), some (.inl (a4 + (1 : Int32)))] [] h
  else
    some (a3, 0, h) := (zZ_eq zFn_mono _ _ _ _).trans rfl
noncomputable def zm_X3_init : zK4 := zZ zf zo_X3_init []
set_option maxRecDepth 50000 in
theorem e_X3_init (a0 : Nat) (h : zM) : zf nX3_init [.inr a0] h =
  if a0 = 0 then none else
  (zpI h a0 3 0 (0 : Int32)).bind fun h1 =>
  (zf nX11_makeWords [.inl (60 : Int32), .inl (30 : Int32)] h1).bind fun u1 =>
  (zpF u1.2.2 a0 3 1 u1.2.1).bind fun h2 =>
  zif (zK (zmk h2 11 2) h2.1.1 = 11) (
  (zf nX10_init [.inr h2.1.1, .inl (30 : Int32)] (zmk h2 11 2)).bind fun u2 =>
  (zpF u2.2.2 a0 3 2 h2.1.1).bind fun h3 =>
  (zna h3 101 (60 : Int32)).bind fun h4 =>
  (zpF h4 a0 3 3 h3.1.1).bind fun h5 =>
  (zf nX11_makeWords [.inl (60 : Int32), .inl (30 : Int32)] h5).bind fun u3 =>
  (zpF u3.2.2 a0 3 4 u3.2.1).bind fun h6 =>
  (zpI h6 a0 3 5 (0 : Int32)).bind fun h7 =>
  (zna h7 101 (60 : Int32)).bind fun h8 =>
  (zpF h8 a0 3 6 h7.1.1).bind fun h9 =>
  (zf nX11_makeWords [.inl (60 : Int32), .inl (30 : Int32)] h9).bind fun u4 =>
  (zpF u4.2.2 a0 3 7 u4.2.1).bind fun h10 =>
  (zpI h10 a0 3 8 (0 : Int32)).bind fun h11 =>
  some (0, 0, h11)) := by
  rw [show zf nX3_init = zFn zrecs 66 from rfl, zFn_eq (M := zr_X3_init) rfl zd_X3_init]
  exact (if_pos (Nat.le_of_ble_eq_true rfl)).trans ((zZ_eq zFn_mono _ _ _ _).trans rfl)
noncomputable def zm_X3_begin : zK4 := zZ zf zo_X3_begin [(7, 3)]
set_option maxRecDepth 50000 in
theorem e_X3_begin (a0 : Nat) (a1 : Nat) (h : zM) : zf nX3_begin [.inr a0, .inr a1] h =
  (zpI h a0 3 5 (0 : Int32)).bind fun h1 =>
  zm_X3_begin 7 [some (.inr a0), some (.inr a1), some (.inl (0 : Int32))] [] h1 := by
  rw [show zf nX3_begin = zFn zrecs 67 from rfl, zFn_eq (M := zr_X3_begin) rfl zd_X3_begin]
  exact (if_pos (Nat.le_of_ble_eq_true rfl)).trans ((zZ_eq zFn_mono _ _ _ _).trans rfl)
set_option maxRecDepth 50000 in
theorem e_X3_begin_7 (a0 : Nat) (a1 : Nat) (a2 : Int32) (h : zM) : zm_X3_begin 7 [some (.inr a0), some (.inr a1), some (.inl a2)] [] h =
  (zgI h a1 2 0).bind fun v1 =>
  if a2 < v1 then
    (zgI h a1 2 2).bind fun v2 =>
    (zf nX11_holds [.inl v2, .inl a2] h).bind fun u1 =>
    if u1.1 = 0 then
      zm_X3_begin 7 [some (.inr a0), some (.inr a1), some (.inl (a2 + (1 : Int32)))] [] u1.2.2
    else
      (zgI u1.2.2 a0 3 5).bind fun v3 =>
      if v3 < (60 : Int32) then
        (zgF u1.2.2 a0 3 3).bind fun r1 =>
        (zgI u1.2.2 a0 3 5).bind fun v4 =>
        (zis u1.2.2 r1 v4 a2).bind fun h1 =>
        (zgF h1 a0 3 4).bind fun r2 =>
        (zgI h1 a0 3 5).bind fun v5 =>
        (zaa h1 r2 v5).bind fun r3 =>
        zif (zK h1 r3 = 11) (
        (zf nX10_clear [.inr r3] h1).bind fun u2 =>
        (zgI u2.2.2 a0 3 5).bind fun v6 =>
        (zpI u2.2.2 a0 3 5 (v6 + (1 : Int32))).bind fun h2 =>
        zm_X3_begin 7 [some (.inr a0), some (.inr a1), some (.inl (a2 + (1 : Int32)))] [] h2)
      else
        zm_X3_begin 7 [some (.inr a0), some (.inr a1), some (.inl (a2 + (1 : Int32)))] [] u1.2.2
  else
    some (0, 0, h) := (zZ_eq zFn_mono _ _ _ _).trans rfl
noncomputable def zm_J6_compare_7cf53 : zK4 := zZ zf zo_J6_compare_7cf53 []
set_option maxRecDepth 50000 in
theorem e_J6_compare_7cf53 (a0 : Int32) (a1 : Int32) (h : zM) : zf nJ6_compare_7cf53 [.inl a0, .inl a1] h =
  if a0 < a1 then
    some ((-1 : Int32), 0, h)
  else
    if a0 = a1 then
      some ((0 : Int32), 0, h)
    else
      some ((1 : Int32), 0, h) := by
  rw [show zf nJ6_compare_7cf53 = zFn zrecs 68 from rfl, zFn_eq (M := zr_J6_compare_7cf53) rfl zd_J6_compare_7cf53]
  exact (if_pos (Nat.le_of_ble_eq_true rfl)).trans ((zZ_eq zFn_mono _ _ _ _).trans rfl)
noncomputable def zm_X10_compareWith : zK4 := zZ zf zo_X10_compareWith []
set_option maxRecDepth 50000 in
theorem e_X10_compareWith (a0 : Nat) (a1 : Nat) (h : zM) : zf nX10_compareWith [.inr a0, .inr a1] h =
  (zgI h a0 10 1).bind fun v1 =>
  (zgI h a1 10 1).bind fun v2 =>
  if v1 = v2 then
    zif (zK h a0 = 11) (
    (zf nX10_commonWith [.inr a0, .inr a1] h).bind fun u1 =>
    zif (zK u1.2.2 a0 = 11) (
    (zf nX10_letterAt [.inr a0, .inl u1.1] u1.2.2).bind fun u2 =>
    zif (zK u2.2.2 a1 = 11) (
    (zf nX10_letterAt [.inr a1, .inl u1.1] u2.2.2).bind fun u3 =>
    (zf nJ6_compare_7cf53 [.inl u2.1, .inl u3.1] u3.2.2).bind fun u4 =>
    some (u4.1, 0, u4.2.2))))
  else
    (zgI h a0 10 1).bind fun v3 =>
    (zgI h a1 10 1).bind fun v4 =>
    if v3 < v4 then
      some ((-1 : Int32), 0, h)
    else
      some ((1 : Int32), 0, h) := by
  rw [show zf nX10_compareWith = zFn zrecs 69 from rfl, zFn_eq (M := zr_X10_compareWith) rfl zd_X10_compareWith]
  exact (if_pos (Nat.le_of_ble_eq_true rfl)).trans ((zZ_eq zFn_mono _ _ _ _).trans rfl)
noncomputable def zm_X3_sortIn : zK4 := zZ zf zo_X3_sortIn [(2, 2), (81, 4)]
set_option maxRecDepth 50000 in
theorem e_X3_sortIn (a0 : Nat) (h : zM) : zf nX3_sortIn [.inr a0] h =
  zm_X3_sortIn 2 [some (.inr a0), some (.inl (0 : Int32)), none, none] [] h := by
  rw [show zf nX3_sortIn = zFn zrecs 70 from rfl, zFn_eq (M := zr_X3_sortIn) rfl zd_X3_sortIn]
  exact (if_pos (Nat.le_of_ble_eq_true rfl)).trans ((zZ_eq zFn_mono _ _ _ _).trans rfl)
set_option maxRecDepth 50000 in
theorem e_X3_sortIn_2 (a0 : Nat) (a1 : Int32) (h : zM) : zm_X3_sortIn 2 [some (.inr a0), some (.inl a1), none, none] [] h =
  (zgI h a0 3 0).bind fun v1 =>
  if a1 < v1 then
    (zgF h a0 3 1).bind fun r1 =>
    (zaa h r1 a1).bind fun r2 =>
    (zgF h a0 3 2).bind fun r3 =>
    zif (zK h r2 = 11) (
    (zf nX10_compareWith [.inr r2, .inr r3] h).bind fun u1 =>
    if u1.1 < 0 then
      zm_X3_sortIn 2 [some (.inr a0), some (.inl (a1 + (1 : Int32))), none, none] [] u1.2.2
    else
      (zgI u1.2.2 a0 3 0).bind fun v2 =>
      if a1 < v2 then
        (zgF u1.2.2 a0 3 1).bind fun r4 =>
        (zaa u1.2.2 r4 a1).bind fun r5 =>
        (zgF u1.2.2 a0 3 2).bind fun r6 =>
        zif (zK u1.2.2 r5 = 11) (
        (zf nX10_isAlike [.inr r5, .inr r6] u1.2.2).bind fun u2 =>
        if u2.1 = 0 then
          (zgI u2.2.2 a0 3 0).bind fun v3 =>
          if v3 < (60 : Int32) then
            (zgF u2.2.2 a0 3 1).bind fun r7 =>
            (zgI u2.2.2 a0 3 0).bind fun v4 =>
            (zaa u2.2.2 r7 v4).bind fun r8 =>
            (zgI u2.2.2 a0 3 0).bind fun v5 =>
            zm_X3_sortIn 81 [some (.inr a0), some (.inl a1), some (.inr r8), some (.inl v5)] [] u2.2.2
          else
            some (0, 0, u2.2.2)
        else
          some (0, 0, u2.2.2))
      else
        (zgI u1.2.2 a0 3 0).bind fun v6 =>
        if v6 < (60 : Int32) then
          (zgF u1.2.2 a0 3 1).bind fun r9 =>
          (zgI u1.2.2 a0 3 0).bind fun v7 =>
          (zaa u1.2.2 r9 v7).bind fun r10 =>
          (zgI u1.2.2 a0 3 0).bind fun v8 =>
          zm_X3_sortIn 81 [some (.inr a0), some (.inl a1), some (.inr r10), some (.inl v8)] [] u1.2.2
        else
          some (0, 0, u1.2.2))
  else
    (zgI h a0 3 0).bind fun v9 =>
    if a1 < v9 then
      (zgF h a0 3 1).bind fun r11 =>
      (zaa h r11 a1).bind fun r12 =>
      (zgF h a0 3 2).bind fun r13 =>
      zif (zK h r12 = 11) (
      (zf nX10_isAlike [.inr r12, .inr r13] h).bind fun u3 =>
      if u3.1 = 0 then
        (zgI u3.2.2 a0 3 0).bind fun v10 =>
        if v10 < (60 : Int32) then
          (zgF u3.2.2 a0 3 1).bind fun r14 =>
          (zgI u3.2.2 a0 3 0).bind fun v11 =>
          (zaa u3.2.2 r14 v11).bind fun r15 =>
          (zgI u3.2.2 a0 3 0).bind fun v12 =>
          zm_X3_sortIn 81 [some (.inr a0), some (.inl a1), some (.inr r15), some (.inl v12)] [] u3.2.2
        else
          some (0, 0, u3.2.2)
      else
        some (0, 0, u3.2.2))
    else
      (zgI h a0 3 0).bind fun v13 =>
      if v13 < (60 : Int32) then
        (zgF h a0 3 1).bind fun r16 =>
        (zgI h a0 3 0).bind fun v14 =>
        (zaa h r16 v14).bind fun r17 =>
        (zgI h a0 3 0).bind fun v15 =>
        zm_X3_sortIn 81 [some (.inr a0), some (.inl a1), some (.inr r17), some (.inl v15)] [] h
      else
        some (0, 0, h) := (zZ_eq zFn_mono _ _ _ _).trans rfl
set_option maxRecDepth 50000 in
theorem e_X3_sortIn_81 (a0 : Nat) (a1 : Int32) (a2 : Nat) (a3 : Int32) (h : zM) : zm_X3_sortIn 81 [some (.inr a0), some (.inl a1), some (.inr a2), some (.inl a3)] [] h =
  if a1 < a3 then
    (zgF h a0 3 1).bind fun r1 =>
    (zgF h a0 3 1).bind fun r2 =>
    (zaa h r2 (a3 - (1 : Int32))).bind fun r3 =>
    (zas h r1 a3 r3).bind fun h1 =>
    zm_X3_sortIn 81 [some (.inr a0), some (.inl a1), some (.inr a2), some (.inl (a3 + (-1 : Int32)))] [] h1
  else
    (zgF h a0 3 1).bind fun r4 =>
    (zas h r4 a1 a2).bind fun h2 =>
    (zgF h2 a0 3 2).bind fun r5 =>
    zif (zK h2 a2 = 11) (
    (zf nX10_become [.inr a2, .inr r5] h2).bind fun u1 =>
    (zgI u1.2.2 a0 3 0).bind fun v1 =>
    (zpI u1.2.2 a0 3 0 (v1 + (1 : Int32))).bind fun h3 =>
    some (0, 0, h3)) := (zZ_eq zFn_mono _ _ _ _).trans rfl
noncomputable def zm_X3_finish : zK4 := zZ zf zo_X3_finish [(2, 3)]
set_option maxRecDepth 50000 in
theorem e_X3_finish (a0 : Nat) (a1 : Nat) (h : zM) : zf nX3_finish [.inr a0, .inr a1] h =
  zm_X3_finish 2 [some (.inr a0), some (.inr a1), some (.inl (0 : Int32))] [] h := by
  rw [show zf nX3_finish = zFn zrecs 71 from rfl, zFn_eq (M := zr_X3_finish) rfl zd_X3_finish]
  exact (if_pos (Nat.le_of_ble_eq_true rfl)).trans ((zZ_eq zFn_mono _ _ _ _).trans rfl)
set_option maxRecDepth 50000 in
theorem e_X3_finish_2 (a0 : Nat) (a1 : Nat) (a2 : Int32) (h : zM) : zm_X3_finish 2 [some (.inr a0), some (.inr a1), some (.inl a2)] [] h =
  (zgI h a0 3 5).bind fun v1 =>
  if a2 < v1 then
    (zgF h a0 3 3).bind fun r1 =>
    (zia h r1 a2).bind fun v2 =>
    zif (zK h a1 = 3) (
    (zf nX2_hasEnd [.inr a1, .inl v2] h).bind fun u1 =>
    if u1.1 = 0 then
      zm_X3_finish 2 [some (.inr a0), some (.inr a1), some (.inl (a2 + (1 : Int32)))] [] u1.2.2
    else
      (zgF u1.2.2 a0 3 2).bind fun r2 =>
      (zgF u1.2.2 a0 3 4).bind fun r3 =>
      (zaa u1.2.2 r3 a2).bind fun r4 =>
      zif (zK u1.2.2 r2 = 11) (
      (zf nX10_become [.inr r2, .inr r4] u1.2.2).bind fun u2 =>
      (zgF u2.2.2 a0 3 2).bind fun r5 =>
      (zgF u2.2.2 a1 2 3).bind fun r6 =>
      (zgF u2.2.2 a0 3 3).bind fun r7 =>
      (zia u2.2.2 r7 a2).bind fun v3 =>
      (zia u2.2.2 r6 v3).bind fun v4 =>
      zif (zK u2.2.2 r5 = 11) (
      (zf nX10_addNumber [.inr r5, .inl v4] u2.2.2).bind fun u3 =>
      zif (zK u3.2.2 a0 = 4) (
      (zf nX3_sortIn [.inr a0] u3.2.2).bind fun u4 =>
      zm_X3_finish 2 [some (.inr a0), some (.inr a1), some (.inl (a2 + (1 : Int32)))] [] u4.2.2))))
  else
    some (0, 0, h) := (zZ_eq zFn_mono _ _ _ _).trans rfl
noncomputable def zm_X3_reach : zK4 := zZ zf zo_X3_reach [(2, 3)]
set_option maxRecDepth 50000 in
theorem e_X3_reach (a0 : Nat) (a1 : Int32) (h : zM) : zf nX3_reach [.inr a0, .inl a1] h =
  zm_X3_reach 2 [some (.inr a0), some (.inl a1), some (.inl (0 : Int32))] [] h := by
  rw [show zf nX3_reach = zFn zrecs 72 from rfl, zFn_eq (M := zr_X3_reach) rfl zd_X3_reach]
  exact (if_pos (Nat.le_of_ble_eq_true rfl)).trans ((zZ_eq zFn_mono _ _ _ _).trans rfl)
set_option maxRecDepth 50000 in
theorem e_X3_reach_2 (a0 : Nat) (a1 : Int32) (a2 : Int32) (h : zM) : zm_X3_reach 2 [some (.inr a0), some (.inl a1), some (.inl a2)] [] h =
  (zgI h a0 3 8).bind fun v1 =>
  if a2 < v1 then
    (zgF h a0 3 6).bind fun r1 =>
    (zia h r1 a2).bind fun v2 =>
    if v2 = a1 then
      (zgF h a0 3 7).bind fun r2 =>
      (zaa h r2 a2).bind fun r3 =>
      (zgF h a0 3 2).bind fun r4 =>
      zif (zK h r3 = 11) (
      (zf nX10_isAlike [.inr r3, .inr r4] h).bind fun u1 =>
      if u1.1 = 0 then
        zm_X3_reach 2 [some (.inr a0), some (.inl a1), some (.inl (a2 + (1 : Int32)))] [] u1.2.2
      else
        zb (1 : Int32) u1.2.2)
    else
      zm_X3_reach 2 [some (.inr a0), some (.inl a1), some (.inl (a2 + (1 : Int32)))] [] h
  else
    (zgI h a0 3 8).bind fun v3 =>
    if v3 < (60 : Int32) then
      (zgF h a0 3 6).bind fun r5 =>
      (zgI h a0 3 8).bind fun v4 =>
      (zis h r5 v4 a1).bind fun h1 =>
      (zgF h1 a0 3 7).bind fun r6 =>
      (zgI h1 a0 3 8).bind fun v5 =>
      (zaa h1 r6 v5).bind fun r7 =>
      (zgF h1 a0 3 2).bind fun r8 =>
      zif (zK h1 r7 = 11) (
      (zf nX10_become [.inr r7, .inr r8] h1).bind fun u2 =>
      (zgI u2.2.2 a0 3 8).bind fun v6 =>
      (zpI u2.2.2 a0 3 8 (v6 + (1 : Int32))).bind fun h2 =>
      zb (1 : Int32) h2)
    else
      zb (0 : Int32) h := (zZ_eq zFn_mono _ _ _ _).trans rfl
noncomputable def zm_X3_turn : zK4 := zZ zf zo_X3_turn []
set_option maxRecDepth 50000 in
theorem e_X3_turn (a0 : Nat) (h : zM) : zf nX3_turn [.inr a0] h =
  (zgF h a0 3 3).bind fun r1 =>
  (zgF h a0 3 4).bind fun r2 =>
  (zgF h a0 3 6).bind fun r3 =>
  (zpF h a0 3 3 r3).bind fun h1 =>
  (zgF h1 a0 3 7).bind fun r4 =>
  (zpF h1 a0 3 4 r4).bind fun h2 =>
  (zgI h2 a0 3 8).bind fun v1 =>
  (zpI h2 a0 3 5 v1).bind fun h3 =>
  (zpF h3 a0 3 6 r1).bind fun h4 =>
  (zpF h4 a0 3 7 r2).bind fun h5 =>
  some (0, 0, h5) := by
  rw [show zf nX3_turn = zFn zrecs 73 from rfl, zFn_eq (M := zr_X3_turn) rfl zd_X3_turn]
  exact (if_pos (Nat.le_of_ble_eq_true rfl)).trans ((zZ_eq zFn_mono _ _ _ _).trans rfl)
noncomputable def zm_X3_step : zK4 := zZ zf zo_X3_step [(7, 4), (18, 5)]
set_option maxRecDepth 50000 in
theorem e_X3_step (a0 : Nat) (a1 : Nat) (a2 : Int32) (h : zM) : zf nX3_step [.inr a0, .inr a1, .inl a2] h =
  (zpI h a0 3 8 (0 : Int32)).bind fun h1 =>
  zm_X3_step 7 [some (.inr a0), some (.inr a1), some (.inl a2), some (.inl (0 : Int32)), none] [] h1 := by
  rw [show zf nX3_step = zFn zrecs 74 from rfl, zFn_eq (M := zr_X3_step) rfl zd_X3_step]
  exact (if_pos (Nat.le_of_ble_eq_true rfl)).trans ((zZ_eq zFn_mono _ _ _ _).trans rfl)
set_option maxRecDepth 50000 in
theorem e_X3_step_7 (a0 : Nat) (a1 : Nat) (a2 : Int32) (a3 : Int32) (h : zM) : zm_X3_step 7 [some (.inr a0), some (.inr a1), some (.inl a2), some (.inl a3), none] [] h =
  (zgI h a0 3 5).bind fun v1 =>
  if a3 < v1 then
    zm_X3_step 18 [some (.inr a0), some (.inr a1), some (.inl a2), some (.inl a3), some (.inl (0 : Int32))] [] h
  else
    zif (zK h a0 = 4) (
    (zf nX3_turn [.inr a0] h).bind fun u1 =>
    zb (1 : Int32) u1.2.2) := (zZ_eq zFn_mono _ _ _ _).trans rfl
set_option maxRecDepth 50000 in
theorem e_X3_step_18 (a0 : Nat) (a1 : Nat) (a2 : Int32) (a3 : Int32) (a4 : Int32) (h : zM) : zm_X3_step 18 [some (.inr a0), some (.inr a1), some (.inl a2), some (.inl a3), some (.inl a4)] [] h =
  (zgI h a1 2 1).bind fun v1 =>
  if a4 < v1 then
    (zgF h a1 2 4).bind fun r1 =>
    (zia h r1 a4).bind fun v2 =>
    (zgF h a0 3 3).bind fun r2 =>
    (zia h r2 a3).bind fun v3 =>
    if v2 = v3 then
      (zgF h a1 2 5).bind fun r3 =>
      (zia h r3 a4).bind fun v4 =>
      if v4 = a2 then
        (zgF h a0 3 2).bind fun r4 =>
        (zgF h a0 3 4).bind fun r5 =>
        (zaa h r5 a3).bind fun r6 =>
        zif (zK h r4 = 11) (
        (zf nX10_become [.inr r4, .inr r6] h).bind fun u1 =>
        (zgF u1.2.2 a0 3 2).bind fun r7 =>
        (zgF u1.2.2 a1 2 7).bind fun r8 =>
        (zia u1.2.2 r8 a4).bind fun v5 =>
        zif (zK u1.2.2 r7 = 11) (
        (zf nX10_addNumber [.inr r7, .inl v5] u1.2.2).bind fun u2 =>
        (zgF u2.2.2 a1 2 6).bind fun r9 =>
        (zia u2.2.2 r9 a4).bind fun v6 =>
        zif (zK u2.2.2 a0 = 4) (
        (zf nX3_reach [.inr a0, .inl v6] u2.2.2).bind fun u3 =>
        if u3.1 = 0 then
          zb (0 : Int32) u3.2.2
        else
          zm_X3_step 18 [some (.inr a0), some (.inr a1), some (.inl a2), some (.inl a3), some (.inl (a4 + (1 : Int32)))] [] u3.2.2)))
      else
        zm_X3_step 18 [some (.inr a0), some (.inr a1), some (.inl a2), some (.inl a3), some (.inl (a4 + (1 : Int32)))] [] h
    else
      zm_X3_step 18 [some (.inr a0), some (.inr a1), some (.inl a2), some (.inl a3), some (.inl (a4 + (1 : Int32)))] [] h
  else
    zm_X3_step 7 [some (.inr a0), some (.inr a1), some (.inl a2), some (.inl (a3 + (1 : Int32))), none] [] h := (zZ_eq zFn_mono _ _ _ _).trans rfl
noncomputable def zm_X3_gather : zK4 := zZ zf zo_X3_gather [(12, 4)]
set_option maxRecDepth 50000 in
theorem e_X3_gather (a0 : Nat) (a1 : Nat) (a2 : Nat) (h : zM) : zf nX3_gather [.inr a0, .inr a1, .inr a2] h =
  (zpI h a0 3 0 (0 : Int32)).bind fun h1 =>
  zif (zK h1 a0 = 4) (
  (zf nX3_begin [.inr a0, .inr a1] h1).bind fun u1 =>
  zm_X3_gather 12 [some (.inr a0), some (.inr a1), some (.inr a2), some (.inl (0 : Int32))] [] u1.2.2) := by
  rw [show zf nX3_gather = zFn zrecs 75 from rfl, zFn_eq (M := zr_X3_gather) rfl zd_X3_gather]
  exact (if_pos (Nat.le_of_ble_eq_true rfl)).trans ((zZ_eq zFn_mono _ _ _ _).trans rfl)
set_option maxRecDepth 50000 in
theorem e_X3_gather_12 (a0 : Nat) (a1 : Nat) (a2 : Nat) (a3 : Int32) (h : zM) : zm_X3_gather 12 [some (.inr a0), some (.inr a1), some (.inr a2), some (.inl a3)] [] h =
  (zgI h a2 10 1).bind fun v1 =>
  if a3 < v1 then
    (zgF h a2 10 0).bind fun r1 =>
    (zia h r1 a3).bind fun v2 =>
    zif (zK h a0 = 4) (
    (zf nX3_step [.inr a0, .inr a1, .inl v2] h).bind fun u1 =>
    if u1.1 = 0 then
      zb (0 : Int32) u1.2.2
    else
      zm_X3_gather 12 [some (.inr a0), some (.inr a1), some (.inr a2), some (.inl (a3 + (1 : Int32)))] [] u1.2.2)
  else
    zif (zK h a0 = 4) (
    (zf nX3_finish [.inr a0, .inr a1] h).bind fun u2 =>
    zb (1 : Int32) u2.2.2) := (zZ_eq zFn_mono _ _ _ _).trans rfl
noncomputable def zm_X4_longerSide : zK4 := zZ zf zo_X4_longerSide []
set_option maxRecDepth 50000 in
theorem e_X4_longerSide (a0 : Nat) (h : zM) : zf nX4_longerSide [.inr a0] h =
  (zgF h a0 4 2).bind fun r1 =>
  (zgI h r1 10 1).bind fun v1 =>
  (zgF h a0 4 3).bind fun r2 =>
  (zgI h r2 10 1).bind fun v2 =>
  (zf nJ9_max_7cf53 [.inl v1, .inl v2] h).bind fun u1 =>
  some (u1.1, 0, u1.2.2) := by
  rw [show zf nX4_longerSide = zFn zrecs 76 from rfl, zFn_eq (M := zr_X4_longerSide) rfl zd_X4_longerSide]
  exact (if_pos (Nat.le_of_ble_eq_true rfl)).trans ((zZ_eq zFn_mono _ _ _ _).trans rfl)
noncomputable def zm_X4_hash : zK4 := zZ zf zo_X4_hash []
set_option maxRecDepth 50000 in
theorem e_X4_hash (a0 : Nat) (h : zM) : zf nX4_hash [.inr a0] h =
  (zgI h a0 4 0).bind fun v1 =>
  (zgI h a0 4 1).bind fun v2 =>
  (zgF h a0 4 2).bind fun r1 =>
  (zgI h r1 10 1).bind fun v3 =>
  (zgF h a0 4 3).bind fun r2 =>
  (zgI h r2 10 1).bind fun v4 =>
  (zgF h a0 4 2).bind fun r3 =>
  zif (zK h r3 = 11) (
  (zf nX10_letterAt [.inr r3, .inl (0 : Int32)] h).bind fun u1 =>
  (zgF u1.2.2 a0 4 2).bind fun r4 =>
  (zgF u1.2.2 a0 4 2).bind fun r5 =>
  (zgI u1.2.2 r5 10 1).bind fun v5 =>
  zif (zK u1.2.2 r4 = 11) (
  (zf nX10_letterAt [.inr r4, .inl (v5 - (1 : Int32))] u1.2.2).bind fun u2 =>
  (zgF u2.2.2 a0 4 3).bind fun r6 =>
  zif (zK u2.2.2 r6 = 11) (
  (zf nX10_letterAt [.inr r6, .inl (0 : Int32)] u2.2.2).bind fun u3 =>
  (zgF u3.2.2 a0 4 3).bind fun r7 =>
  (zgF u3.2.2 a0 4 3).bind fun r8 =>
  (zgI u3.2.2 r8 10 1).bind fun v6 =>
  zif (zK u3.2.2 r7 = 11) (
  (zf nX10_letterAt [.inr r7, .inl (v6 - (1 : Int32))] u3.2.2).bind fun u4 =>
  some (((((((((((((v1 * (6 : Int32)) + v2) * (31 : Int32)) + v3) * (31 : Int32)) + v4) * (31 : Int32)) + (u1.1 * (10 : Int32))) + u2.1) * (31 : Int32)) + (u3.1 * (10 : Int32))) + u4.1), 0, u4.2.2))))) := by
  rw [show zf nX4_hash = zFn zrecs 77 from rfl, zFn_eq (M := zr_X4_hash) rfl zd_X4_hash]
  exact (if_pos (Nat.le_of_ble_eq_true rfl)).trans ((zZ_eq zFn_mono _ _ _ _).trans rfl)
noncomputable def zm_X5_init : zK4 := zZ zf zo_X5_init []
set_option maxRecDepth 50000 in
theorem e_X5_init (a0 : Nat) (h : zM) : zf nX5_init [.inr a0] h =
  if a0 = 0 then none else
  (zna h 103 (4096 : Int32)).bind fun h1 =>
  (zpF h1 a0 5 0 h.1.1).bind fun h2 =>
  (zna h2 101 (4096 : Int32)).bind fun h3 =>
  (zpF h3 a0 5 1 h2.1.1).bind fun h4 =>
  (zna h4 101 (4096 : Int32)).bind fun h5 =>
  (zpF h5 a0 5 2 h4.1.1).bind fun h6 =>
  (zna h6 101 (4096 : Int32)).bind fun h7 =>
  (zpF h7 a0 5 3 h6.1.1).bind fun h8 =>
  some (0, 0, h8) := by
  rw [show zf nX5_init = zFn zrecs 78 from rfl, zFn_eq (M := zr_X5_init) rfl zd_X5_init]
  exact (if_pos (Nat.le_of_ble_eq_true rfl)).trans ((zZ_eq zFn_mono _ _ _ _).trans rfl)
noncomputable def zm_X5_reach : zK4 := zZ zf zo_X5_reach []
set_option maxRecDepth 50000 in
theorem e_X5_reach (a0 : Nat) (a1 : Int32) (a2 : Int32) (a3 : Int32) (a4 : Int32) (h : zM) : zf nX5_reach [.inr a0, .inl a1, .inl a2, .inl a3, .inl a4] h =
  if ((a1 <<< ((6 : Int32) &&& 31)) ||| a2) < 0 then
    some (0, 0, h)
  else
    if ((a1 <<< ((6 : Int32) &&& 31)) ||| a2) < (4096 : Int32) then
      (zgF h a0 5 0).bind fun r1 =>
      (zba h r1 ((a1 <<< ((6 : Int32) &&& 31)) ||| a2)).bind fun v1 =>
      if v1 = 0 then
        (zgI h a0 5 4).bind fun v2 =>
        if v2 < (4096 : Int32) then
          (zgF h a0 5 0).bind fun r2 =>
          (zbs h r2 ((a1 <<< ((6 : Int32) &&& 31)) ||| a2) (1 : Int32)).bind fun h1 =>
          (zgF h1 a0 5 1).bind fun r3 =>
          (zgI h1 a0 5 4).bind fun v3 =>
          (zis h1 r3 v3 ((a1 <<< ((6 : Int32) &&& 31)) ||| a2)).bind fun h2 =>
          (zgF h2 a0 5 2).bind fun r4 =>
          (zgI h2 a0 5 4).bind fun v4 =>
          (zis h2 r4 v4 a3).bind fun h3 =>
          (zgF h3 a0 5 3).bind fun r5 =>
          (zgI h3 a0 5 4).bind fun v5 =>
          (zis h3 r5 v5 a4).bind fun h4 =>
          (zgI h4 a0 5 4).bind fun v6 =>
          (zpI h4 a0 5 4 (v6 + (1 : Int32))).bind fun h5 =>
          some (0, 0, h5)
        else
          some (0, 0, h)
      else
        some (0, 0, h)
    else
      some (0, 0, h) := by
  rw [show zf nX5_reach = zFn zrecs 79 from rfl, zFn_eq (M := zr_X5_reach) rfl zd_X5_reach]
  exact (if_pos (Nat.le_of_ble_eq_true rfl)).trans ((zZ_eq zFn_mono _ _ _ _).trans rfl)
noncomputable def zm_X5_search : zK4 := zZ zf zo_X5_search [(14, 6), (97, 11)]
set_option maxRecDepth 50000 in
theorem e_X5_search (a0 : Nat) (a1 : Nat) (a2 : Nat) (h : zM) : zf nX5_search [.inr a0, .inr a1, .inr a2] h =
  zif (zK h a1 = 3) (
  (zf nX2_ending [.inr a1] h).bind fun u1 =>
  zif (zK u1.2.2 a2 = 3) (
  (zf nX2_ending [.inr a2] u1.2.2).bind fun u2 =>
  zm_X5_search 14 [some (.inr a0), some (.inr a1), some (.inr a2), some (.inl u1.1), some (.inl u2.1), some (.inl (0 : Int32)), none, none, none, none, none] [] u2.2.2)) := by
  rw [show zf nX5_search = zFn zrecs 80 from rfl, zFn_eq (M := zr_X5_search) rfl zd_X5_search]
  exact (if_pos (Nat.le_of_ble_eq_true rfl)).trans ((zZ_eq zFn_mono _ _ _ _).trans rfl)
set_option maxRecDepth 50000 in
theorem e_X5_search_14 (a0 : Nat) (a1 : Nat) (a2 : Nat) (a3 : Int32) (a4 : Int32) (a5 : Int32) (h : zM) : zm_X5_search 14 [some (.inr a0), some (.inr a1), some (.inr a2), some (.inl a3), some (.inl a4), some (.inl a5), none, none, none, none, none] [] h =
  (zgI h a0 5 4).bind fun v1 =>
  if a5 < v1 then
    if a5 < (4096 : Int32) then
      (zgF h a0 5 1).bind fun r1 =>
      (zia h r1 a5).bind fun v2 =>
      (zgF h a0 5 1).bind fun r2 =>
      (zia h r2 a5).bind fun v3 =>
      if ((v2 >>> ((6 : Int32) &&& 31)) &&& a3) = 0 then
        if ((v3 &&& (63 : Int32)) &&& a4) = 0 then
          if (0 : Int32) = (0 : Int32) then
            zm_X5_search 97 [some (.inr a0), some (.inr a1), some (.inr a2), some (.inl a3), some (.inl a4), some (.inl a5), some (.inl (v2 >>> ((6 : Int32) &&& 31))), some (.inl (v3 &&& (63 : Int32))), some (.inl (0 : Int32)), some (.inl (0 : Int32)), some (.inl (1 : Int32))] [] h
          else
            some (a5, 0, h)
        else
          if (0 : Int32) = (1 : Int32) then
            zm_X5_search 97 [some (.inr a0), some (.inr a1), some (.inr a2), some (.inl a3), some (.inl a4), some (.inl a5), some (.inl (v2 >>> ((6 : Int32) &&& 31))), some (.inl (v3 &&& (63 : Int32))), some (.inl (0 : Int32)), some (.inl (1 : Int32)), some (.inl (1 : Int32))] [] h
          else
            some (a5, 0, h)
      else
        if ((v3 &&& (63 : Int32)) &&& a4) = 0 then
          if (1 : Int32) = (0 : Int32) then
            zm_X5_search 97 [some (.inr a0), some (.inr a1), some (.inr a2), some (.inl a3), some (.inl a4), some (.inl a5), some (.inl (v2 >>> ((6 : Int32) &&& 31))), some (.inl (v3 &&& (63 : Int32))), some (.inl (1 : Int32)), some (.inl (0 : Int32)), some (.inl (1 : Int32))] [] h
          else
            some (a5, 0, h)
        else
          if (1 : Int32) = (1 : Int32) then
            zm_X5_search 97 [some (.inr a0), some (.inr a1), some (.inr a2), some (.inl a3), some (.inl a4), some (.inl a5), some (.inl (v2 >>> ((6 : Int32) &&& 31))), some (.inl (v3 &&& (63 : Int32))), some (.inl (1 : Int32)), some (.inl (1 : Int32)), some (.inl (1 : Int32))] [] h
          else
            some (a5, 0, h)
    else
      some ((-1 : Int32), 0, h)
  else
    some ((-1 : Int32), 0, h) := (zZ_eq zFn_mono _ _ _ _).trans rfl
set_option maxRecDepth 50000 in
theorem e_X5_search_97 (a0 : Nat) (a1 : Nat) (a2 : Nat) (a3 : Int32) (a4 : Int32) (a5 : Int32) (a6 : Int32) (a7 : Int32) (a8 : Int32) (a9 : Int32) (a10 : Int32) (h : zM) : zm_X5_search 97 [some (.inr a0), some (.inr a1), some (.inr a2), some (.inl a3), some (.inl a4), some (.inl a5), some (.inl a6), some (.inl a7), some (.inl a8), some (.inl a9), some (.inl a10)] [] h =
  if (3 : Int32) < a10 then
    zm_X5_search 14 [some (.inr a0), some (.inr a1), some (.inr a2), some (.inl a3), some (.inl a4), some (.inl (a5 + (1 : Int32))), none, none, none, none, none] [] h
  else
    zif (zK h a1 = 3) (
    (zf nX2_follow [.inr a1, .inl a6, .inl a10] h).bind fun u1 =>
    zif (zK u1.2.2 a2 = 3) (
    (zf nX2_follow [.inr a2, .inl a7, .inl a10] u1.2.2).bind fun u2 =>
    zif (zK u2.2.2 a0 = 6) (
    (zf nX5_reach [.inr a0, .inl u1.1, .inl u2.1, .inl a5, .inl a10] u2.2.2).bind fun u3 =>
    zm_X5_search 97 [some (.inr a0), some (.inr a1), some (.inr a2), some (.inl a3), some (.inl a4), some (.inl a5), some (.inl a6), some (.inl a7), some (.inl a8), some (.inl a9), some (.inl (a10 + (1 : Int32)))] [] u3.2.2))) := (zZ_eq zFn_mono _ _ _ _).trans rfl
