noncomputable def zm_X9_tellMachinesApart : zK4 := zZ zf zo_X9_tellMachinesApart []
set_option maxRecDepth 50000 in
theorem e_X9_tellMachinesApart (a0 : Nat) (a1 : Nat) (a2 : Nat) (a3 : Nat) (h : zM) : zf nX9_tellMachinesApart [.inr a0, .inr a1, .inr a2, .inr a3] h =
  (zpZ h a0 9 0 (1 : Int32)).bind fun h1 =>
  (zgF h1 a0 9 1).bind fun r1 =>
  zif (zK h1 r1 = 11) (
  (zf nX10_become [.inr r1, .inr a3] h1).bind fun u1 =>
  zif (zK u1.2.2 a0 = 10) (
  (zf nX9_write [.inr a0, .inr a1] u1.2.2).bind fun u2 =>
  (zgF u2.2.2 a0 9 3).bind fun r2 =>
  (zgF u2.2.2 a0 9 4).bind fun r3 =>
  (zgI u2.2.2 r3 8 0).bind fun v1 =>
  if 0 < v1 then
    (zbs u2.2.2 r2 (0 : Int32) (1 : Int32)).bind fun h2 =>
    (zgF h2 a0 9 2).bind fun r4 =>
    (zaa h2 r4 (0 : Int32)).bind fun r5 =>
    (zgF h2 a0 9 4).bind fun r6 =>
    (zgF h2 r6 8 1).bind fun r7 =>
    zif (zK h2 r5 = 11) (
    (zf nX10_become [.inr r5, .inr r7] h2).bind fun u3 =>
    zif (zK u3.2.2 a0 = 10) (
    (zf nX9_write [.inr a0, .inr a2] u3.2.2).bind fun u4 =>
    (zgF u4.2.2 a0 9 3).bind fun r8 =>
    (zgF u4.2.2 a0 9 4).bind fun r9 =>
    (zgI u4.2.2 r9 8 0).bind fun v2 =>
    if 0 < v2 then
      (zbs u4.2.2 r8 (1 : Int32) (1 : Int32)).bind fun h3 =>
      (zgF h3 a0 9 2).bind fun r10 =>
      (zaa h3 r10 (1 : Int32)).bind fun r11 =>
      (zgF h3 a0 9 4).bind fun r12 =>
      (zgF h3 r12 8 1).bind fun r13 =>
      zif (zK h3 r11 = 11) (
      (zf nX10_become [.inr r11, .inr r13] h3).bind fun u5 =>
      some (0, 0, u5.2.2))
    else
      (zbs u4.2.2 r8 (1 : Int32) (0 : Int32)).bind fun h4 =>
      (zgF h4 a0 9 2).bind fun r14 =>
      (zaa h4 r14 (1 : Int32)).bind fun r15 =>
      (zgF h4 a0 9 4).bind fun r16 =>
      (zgF h4 r16 8 1).bind fun r17 =>
      zif (zK h4 r15 = 11) (
      (zf nX10_become [.inr r15, .inr r17] h4).bind fun u6 =>
      some (0, 0, u6.2.2))))
  else
    (zbs u2.2.2 r2 (0 : Int32) (0 : Int32)).bind fun h5 =>
    (zgF h5 a0 9 2).bind fun r18 =>
    (zaa h5 r18 (0 : Int32)).bind fun r19 =>
    (zgF h5 a0 9 4).bind fun r20 =>
    (zgF h5 r20 8 1).bind fun r21 =>
    zif (zK h5 r19 = 11) (
    (zf nX10_become [.inr r19, .inr r21] h5).bind fun u7 =>
    zif (zK u7.2.2 a0 = 10) (
    (zf nX9_write [.inr a0, .inr a2] u7.2.2).bind fun u8 =>
    (zgF u8.2.2 a0 9 3).bind fun r22 =>
    (zgF u8.2.2 a0 9 4).bind fun r23 =>
    (zgI u8.2.2 r23 8 0).bind fun v3 =>
    if 0 < v3 then
      (zbs u8.2.2 r22 (1 : Int32) (1 : Int32)).bind fun h6 =>
      (zgF h6 a0 9 2).bind fun r24 =>
      (zaa h6 r24 (1 : Int32)).bind fun r25 =>
      (zgF h6 a0 9 4).bind fun r26 =>
      (zgF h6 r26 8 1).bind fun r27 =>
      zif (zK h6 r25 = 11) (
      (zf nX10_become [.inr r25, .inr r27] h6).bind fun u9 =>
      some (0, 0, u9.2.2))
    else
      (zbs u8.2.2 r22 (1 : Int32) (0 : Int32)).bind fun h7 =>
      (zgF h7 a0 9 2).bind fun r28 =>
      (zaa h7 r28 (1 : Int32)).bind fun r29 =>
      (zgF h7 a0 9 4).bind fun r30 =>
      (zgF h7 r30 8 1).bind fun r31 =>
      zif (zK h7 r29 = 11) (
      (zf nX10_become [.inr r29, .inr r31] h7).bind fun u10 =>
      some (0, 0, u10.2.2)))))) := by
  rw [show zf nX9_tellMachinesApart = zFn zrecs 108 from rfl, zFn_eq (M := zr_X9_tellMachinesApart) rfl zd_X9_tellMachinesApart]
  exact (if_pos (Nat.le_of_ble_eq_true rfl)).trans ((zZ_eq zFn_mono _ _ _ _).trans rfl)
noncomputable def zm_X10_read : zK4 := zZ zf zo_X10_read []
set_option maxRecDepth 50000 in
theorem e_X10_read (a0 : Nat) (a1 : Int32) (h : zM) : zf nX10_read [.inr a0, .inl a1] h =
  zif (zK h a0 = 11) (
  (zf nX10_clear [.inr a0] h).bind fun u1 =>
  zif (zK u1.2.2 a0 = 11) (
  (zf nX10_addNumber [.inr a0, .inl a1] u1.2.2).bind fun u2 =>
  some (0, 0, u2.2.2))) := by
  rw [show zf nX10_read = zFn zrecs 109 from rfl, zFn_eq (M := zr_X10_read) rfl zd_X10_read]
  exact (if_pos (Nat.le_of_ble_eq_true rfl)).trans ((zZ_eq zFn_mono _ _ _ _).trans rfl)
noncomputable def zm_X11_init : zK4 := zZ zf zo_X11_init [(14, 2)]
set_option maxRecDepth 50000 in
theorem e_X11_init (a0 : Nat) (h : zM) : zf nX11_init [.inr a0] h =
  if a0 = 0 then none else
  (zna h 105 (2 : Int32)).bind fun h1 =>
  (zpF h1 a0 11 0 h.1.1).bind fun h2 =>
  zm_X11_init 14 [some (.inr a0), some (.inl (0 : Int32))] [] h2 := by
  rw [show zf nX11_init = zFn zrecs 110 from rfl, zFn_eq (M := zr_X11_init) rfl zd_X11_init]
  exact (if_pos (Nat.le_of_ble_eq_true rfl)).trans ((zZ_eq zFn_mono _ _ _ _).trans rfl)
set_option maxRecDepth 50000 in
theorem e_X11_init_14 (a0 : Nat) (a1 : Int32) (h : zM) : zm_X11_init 14 [some (.inr a0), some (.inl a1)] [] h =
  if a1 < (2 : Int32) then
    (zgF h a0 11 0).bind fun r1 =>
    zif (zK (zmk h 3 8) h.1.1 = 3) (
    (zf nX2_init [.inr h.1.1] (zmk h 3 8)).bind fun u1 =>
    (zas u1.2.2 r1 a1 h.1.1).bind fun h1 =>
    zm_X11_init 14 [some (.inr a0), some (.inl (a1 + (1 : Int32)))] [] h1)
  else
    zif (zK (zmk h 4 9) h.1.1 = 4) (
    (zf nX3_init [.inr h.1.1] (zmk h 4 9)).bind fun u2 =>
    (zpF u2.2.2 a0 11 1 h.1.1).bind fun h2 =>
    zif (zK (zmk h2 1 11) h2.1.1 = 1) (
    (zf nX0_init [.inr h2.1.1] (zmk h2 1 11)).bind fun u3 =>
    (zpF u3.2.2 a0 11 2 h2.1.1).bind fun h3 =>
    zif (zK (zmk h3 6 5) h3.1.1 = 6) (
    (zf nX5_init [.inr h3.1.1] (zmk h3 6 5)).bind fun u4 =>
    (zpF u4.2.2 a0 11 3 h3.1.1).bind fun h4 =>
    zif (zK (zmk h4 10 8) h4.1.1 = 10) (
    (zf nX9_init [.inr h4.1.1] (zmk h4 10 8)).bind fun u5 =>
    (zpF u5.2.2 a0 11 4 h4.1.1).bind fun h5 =>
    zif (zK (zmk h5 8 8) h5.1.1 = 8) (
    (zf nX7_init [.inr h5.1.1] (zmk h5 8 8)).bind fun u6 =>
    (zpF u6.2.2 a0 11 5 h5.1.1).bind fun h6 =>
    zif (zK (zmk h6 7 8) h6.1.1 = 7) (
    (zf nX6_init [.inr h6.1.1] (zmk h6 7 8)).bind fun u7 =>
    (zpF u7.2.2 a0 11 6 h6.1.1).bind fun h7 =>
    (zgF (zmk h7 2 11) a0 11 6).bind fun r2 =>
    zif (zK (zmk h7 2 11) h7.1.1 = 2) (
    (zf nX1_init [.inr h7.1.1, .inr r2] (zmk h7 2 11)).bind fun u8 =>
    (zpF u8.2.2 a0 11 7 h7.1.1).bind fun h8 =>
    zif (zK (zmk h8 11 2) h8.1.1 = 11) (
    (zf nX10_init [.inr h8.1.1, .inl (9 : Int32)] (zmk h8 11 2)).bind fun u9 =>
    (zpF u9.2.2 a0 11 8 h8.1.1).bind fun h9 =>
    zif (zK (zmk h9 11 2) h9.1.1 = 11) (
    (zf nX10_init [.inr h9.1.1, .inl (30 : Int32)] (zmk h9 11 2)).bind fun u10 =>
    (zpF u10.2.2 a0 11 9 h9.1.1).bind fun h10 =>
    zif (zK (zmk h10 11 2) h10.1.1 = 11) (
    (zf nX10_init [.inr h10.1.1, .inl (128 : Int32)] (zmk h10 11 2)).bind fun u11 =>
    (zpF u11.2.2 a0 11 10 h10.1.1).bind fun h11 =>
    zif (zK (zmk h11 11 2) h11.1.1 = 11) (
    (zf nX10_init [.inr h11.1.1, .inl (128 : Int32)] (zmk h11 11 2)).bind fun u12 =>
    (zpF u12.2.2 a0 11 11 h11.1.1).bind fun h12 =>
    (zpI h12 a0 11 12 (0 : Int32)).bind fun h13 =>
    (zpI h13 a0 11 13 (-1 : Int32)).bind fun h14 =>
    (zpI h14 a0 11 14 (-1 : Int32)).bind fun h15 =>
    some (0, 0, h15)))))))))))) := (zZ_eq zFn_mono _ _ _ _).trans rfl
noncomputable def zm_X11_isMachine : zK4 := zZ zf zo_X11_isMachine []
set_option maxRecDepth 50000 in
theorem e_X11_isMachine (a0 : Nat) (a1 : Int32) (h : zM) : zf nX11_isMachine [.inr a0, .inl a1] h =
  if a1 < 0 then
    zb (0 : Int32) h
  else
    if a1 < (2 : Int32) then
      zb (1 : Int32) h
    else
      zb (0 : Int32) h := by
  rw [show zf nX11_isMachine = zFn zrecs 111 from rfl, zFn_eq (M := zr_X11_isMachine) rfl zd_X11_isMachine]
  exact (if_pos (Nat.le_of_ble_eq_true rfl)).trans ((zZ_eq zFn_mono _ _ _ _).trans rfl)
noncomputable def zm_X11_machine : zK4 := zZ zf zo_X11_machine []
set_option maxRecDepth 50000 in
theorem e_X11_machine (a0 : Nat) (a1 : Int32) (a2 : Int32) (h : zM) : zf nX11_machine [.inr a0, .inl a1, .inl a2] h =
  zif (zK h a0 = 12) (
  (zf nX11_isMachine [.inr a0, .inl a1] h).bind fun u1 =>
  if u1.1 = 0 then
    zb (0 : Int32) u1.2.2
  else
    if a2 < 0 then
      zb (0 : Int32) u1.2.2
    else
      if (6 : Int32) < a2 then
        zb (0 : Int32) u1.2.2
      else
        (zgF u1.2.2 a0 11 0).bind fun r1 =>
        (zaa u1.2.2 r1 a1).bind fun r2 =>
        zif (zK u1.2.2 r2 = 3) (
        (zf nX2_renew [.inr r2, .inl a2] u1.2.2).bind fun u2 =>
        zb (1 : Int32) u2.2.2)) := by
  rw [show zf nX11_machine = zFn zrecs 112 from rfl, zFn_eq (M := zr_X11_machine) rfl zd_X11_machine]
  exact (if_pos (Nat.le_of_ble_eq_true rfl)).trans ((zZ_eq zFn_mono _ _ _ _).trans rfl)
noncomputable def zm_X11_isState : zK4 := zZ zf zo_X11_isState []
set_option maxRecDepth 50000 in
theorem e_X11_isState (a0 : Nat) (a1 : Int32) (a2 : Int32) (h : zM) : zf nX11_isState [.inr a0, .inl a1, .inl a2] h =
  zif (zK h a0 = 12) (
  (zf nX11_isMachine [.inr a0, .inl a1] h).bind fun u1 =>
  if u1.1 = 0 then
    zb (0 : Int32) u1.2.2
  else
    if a2 < 0 then
      zb (0 : Int32) u1.2.2
    else
      (zgF u1.2.2 a0 11 0).bind fun r1 =>
      (zaa u1.2.2 r1 a1).bind fun r2 =>
      (zgI u1.2.2 r2 2 0).bind fun v1 =>
      if a2 < v1 then
        zb (1 : Int32) u1.2.2
      else
        zb (0 : Int32) u1.2.2) := by
  rw [show zf nX11_isState = zFn zrecs 113 from rfl, zFn_eq (M := zr_X11_isState) rfl zd_X11_isState]
  exact (if_pos (Nat.le_of_ble_eq_true rfl)).trans ((zZ_eq zFn_mono _ _ _ _).trans rfl)
noncomputable def zm_X11_begins : zK4 := zZ zf zo_X11_begins []
set_option maxRecDepth 50000 in
theorem e_X11_begins (a0 : Nat) (a1 : Int32) (a2 : Int32) (a3 : Int32) (h : zM) : zf nX11_begins [.inr a0, .inl a1, .inl a2, .inl a3] h =
  zif (zK h a0 = 12) (
  (zf nX11_isState [.inr a0, .inl a1, .inl a2] h).bind fun u1 =>
  if u1.1 = 0 then
    zb (0 : Int32) u1.2.2
  else
    (zgF u1.2.2 a0 11 0).bind fun r1 =>
    (zaa u1.2.2 r1 a1).bind fun r2 =>
    zif (zK u1.2.2 r2 = 3) (
    (zf nX2_setBeginning [.inr r2, .inl a2, .inl a3] u1.2.2).bind fun u2 =>
    zb (1 : Int32) u2.2.2)) := by
  rw [show zf nX11_begins = zFn zrecs 114 from rfl, zFn_eq (M := zr_X11_begins) rfl zd_X11_begins]
  exact (if_pos (Nat.le_of_ble_eq_true rfl)).trans ((zZ_eq zFn_mono _ _ _ _).trans rfl)
noncomputable def zm_X11_isWord : zK4 := zZ zf zo_X11_isWord [(11, 5)]
set_option maxRecDepth 50000 in
theorem e_X11_isWord (a0 : Int32) (a1 : Int32) (a2 : Int32) (h : zM) : zf nX11_isWord [.inl a0, .inl a1, .inl a2] h =
  if a0 < 0 then
    zb (0 : Int32) h
  else
    zm_X11_isWord 11 [some (.inl a0), some (.inl a1), some (.inl a2), some (.inl (0 : Int32)), some (.inl a0), none] [] h := by
  rw [show zf nX11_isWord = zFn zrecs 115 from rfl, zFn_eq (M := zr_X11_isWord) rfl zd_X11_isWord]
  exact (if_pos (Nat.le_of_ble_eq_true rfl)).trans ((zZ_eq zFn_mono _ _ _ _).trans rfl)
set_option maxRecDepth 50000 in
theorem e_X11_isWord_11 (a0 : Int32) (a1 : Int32) (a2 : Int32) (a3 : Int32) (a4 : Int32) (h : zM) : zm_X11_isWord 11 [some (.inl a0), some (.inl a1), some (.inl a2), some (.inl a3), some (.inl a4), none] [] h =
  if 0 < a4 then
    if (10 : Int32) = 0 then none else
    if (a4 - a4 / (10 : Int32) * (10 : Int32)) < (1 : Int32) then
      zb (0 : Int32) h
    else
      if a1 < (a4 - a4 / (10 : Int32) * (10 : Int32)) then
        zb (0 : Int32) h
      else
        if (10 : Int32) = 0 then none else
        zm_X11_isWord 11 [some (.inl a0), some (.inl a1), some (.inl a2), some (.inl (a3 + (1 : Int32))), some (.inl (a4 / (10 : Int32))), none] [] h
  else
    if a2 < a3 then
      zb (0 : Int32) h
    else
      zb (1 : Int32) h := (zZ_eq zFn_mono _ _ _ _).trans rfl
noncomputable def zm_X11_ends : zK4 := zZ zf zo_X11_ends []
set_option maxRecDepth 50000 in
theorem e_X11_ends (a0 : Nat) (a1 : Int32) (a2 : Int32) (a3 : Int32) (h : zM) : zf nX11_ends [.inr a0, .inl a1, .inl a2, .inl a3] h =
  zif (zK h a0 = 12) (
  (zf nX11_isState [.inr a0, .inl a1, .inl a2] h).bind fun u1 =>
  if u1.1 = 0 then
    zb (0 : Int32) u1.2.2
  else
    if a3 = (-1 : Int32) then
      (zgF u1.2.2 a0 11 0).bind fun r1 =>
      (zaa u1.2.2 r1 a1).bind fun r2 =>
      (zgF u1.2.2 r2 2 3).bind fun r3 =>
      (zis u1.2.2 r3 a2 a3).bind fun h1 =>
      zb (1 : Int32) h1
    else
      (zf nX11_isWord [.inl a3, .inl (9 : Int32), .inl (3 : Int32)] u1.2.2).bind fun u2 =>
      if u2.1 = 0 then
        zb (0 : Int32) u2.2.2
      else
        (zgF u2.2.2 a0 11 0).bind fun r4 =>
        (zaa u2.2.2 r4 a1).bind fun r5 =>
        (zgF u2.2.2 r5 2 3).bind fun r6 =>
        (zis u2.2.2 r6 a2 a3).bind fun h2 =>
        zb (1 : Int32) h2) := by
  rw [show zf nX11_ends = zFn zrecs 116 from rfl, zFn_eq (M := zr_X11_ends) rfl zd_X11_ends]
  exact (if_pos (Nat.le_of_ble_eq_true rfl)).trans ((zZ_eq zFn_mono _ _ _ _).trans rfl)
noncomputable def zm_X11_arc : zK4 := zZ zf zo_X11_arc []
set_option maxRecDepth 50000 in
theorem e_X11_arc (a0 : Nat) (a1 : Int32) (a2 : Int32) (a3 : Int32) (a4 : Int32) (a5 : Int32) (h : zM) : zf nX11_arc [.inr a0, .inl a1, .inl a2, .inl a3, .inl a4, .inl a5] h =
  zif (zK h a0 = 12) (
  (zf nX11_isState [.inr a0, .inl a1, .inl a2] h).bind fun u1 =>
  if u1.1 = 0 then
    some ((-1 : Int32), 0, u1.2.2)
  else
    zif (zK u1.2.2 a0 = 12) (
    (zf nX11_isState [.inr a0, .inl a1, .inl a4] u1.2.2).bind fun u2 =>
    if u2.1 = 0 then
      some ((-1 : Int32), 0, u2.2.2)
    else
      (zf nX11_isInputLetter [.inl a3] u2.2.2).bind fun u3 =>
      if u3.1 = 0 then
        some ((-1 : Int32), 0, u3.2.2)
      else
        (zf nX11_isWord [.inl a5, .inl (9 : Int32), .inl (3 : Int32)] u3.2.2).bind fun u4 =>
        if u4.1 = 0 then
          some ((-1 : Int32), 0, u4.2.2)
        else
          (zgF u4.2.2 a0 11 0).bind fun r1 =>
          (zaa u4.2.2 r1 a1).bind fun r2 =>
          zif (zK u4.2.2 r2 = 3) (
          (zf nX2_addArc [.inr r2, .inl a2, .inl a3, .inl a4, .inl a5] u4.2.2).bind fun u5 =>
          some (u5.1, 0, u5.2.2)))) := by
  rw [show zf nX11_arc = zFn zrecs 117 from rfl, zFn_eq (M := zr_X11_arc) rfl zd_X11_arc]
  exact (if_pos (Nat.le_of_ble_eq_true rfl)).trans ((zZ_eq zFn_mono _ _ _ _).trans rfl)
noncomputable def zm_X11_copy : zK4 := zZ zf zo_X11_copy []
set_option maxRecDepth 50000 in
theorem e_X11_copy (a0 : Nat) (a1 : Int32) (h : zM) : zf nX11_copy [.inr a0, .inl a1] h =
  zif (zK h a0 = 12) (
  (zf nX11_isMachine [.inr a0, .inl a1] h).bind fun u1 =>
  if u1.1 = 0 then
    zb (0 : Int32) u1.2.2
  else
    (zgF u1.2.2 a0 11 0).bind fun r1 =>
    (zaa u1.2.2 r1 a1).bind fun r2 =>
    (zgF u1.2.2 a0 11 0).bind fun r3 =>
    (zaa u1.2.2 r3 ((1 : Int32) - a1)).bind fun r4 =>
    zif (zK u1.2.2 r2 = 3) (
    (zf nX2_become [.inr r2, .inr r4] u1.2.2).bind fun u2 =>
    zb (1 : Int32) u2.2.2)) := by
  rw [show zf nX11_copy = zFn zrecs 118 from rfl, zFn_eq (M := zr_X11_copy) rfl zd_X11_copy]
  exact (if_pos (Nat.le_of_ble_eq_true rfl)).trans ((zZ_eq zFn_mono _ _ _ _).trans rfl)
noncomputable def zm_X11_hasLeast : zK4 := zZ zf zo_X11_hasLeast []
set_option maxRecDepth 50000 in
theorem e_X11_hasLeast (a0 : Nat) (h : zM) : zf nX11_hasLeast [.inr a0] h =
  (zgI h a0 11 13).bind fun v1 =>
  if v1 = (1 : Int32) then
    zb (1 : Int32) h
  else
    zb (0 : Int32) h := by
  rw [show zf nX11_hasLeast = zFn zrecs 119 from rfl, zFn_eq (M := zr_X11_hasLeast) rfl zd_X11_hasLeast]
  exact (if_pos (Nat.le_of_ble_eq_true rfl)).trans ((zZ_eq zFn_mono _ _ _ _).trans rfl)
noncomputable def zm_X11_take : zK4 := zZ zf zo_X11_take []
set_option maxRecDepth 50000 in
theorem e_X11_take (a0 : Nat) (a1 : Int32) (h : zM) : zf nX11_take [.inr a0, .inl a1] h =
  zif (zK h a0 = 12) (
  (zf nX11_isMachine [.inr a0, .inl a1] h).bind fun u1 =>
  if u1.1 = 0 then
    zb (0 : Int32) u1.2.2
  else
    zif (zK u1.2.2 a0 = 12) (
    (zf nX11_hasLeast [.inr a0] u1.2.2).bind fun u2 =>
    if u2.1 = 0 then
      zb (0 : Int32) u2.2.2
    else
      (zgF u2.2.2 a0 11 7).bind fun r1 =>
      zif (zK u2.2.2 r1 = 2) (
      (zf nX1_fitsMachine [.inr r1] u2.2.2).bind fun u3 =>
      if u3.1 = 0 then
        zb (0 : Int32) u3.2.2
      else
        (zgF u3.2.2 a0 11 7).bind fun r2 =>
        (zgF u3.2.2 a0 11 0).bind fun r3 =>
        (zaa u3.2.2 r3 a1).bind fun r4 =>
        zif (zK u3.2.2 r2 = 2) (
        (zf nX1_fill [.inr r2, .inr r4] u3.2.2).bind fun u4 =>
        zb (1 : Int32) u4.2.2)))) := by
  rw [show zf nX11_take = zFn zrecs 120 from rfl, zFn_eq (M := zr_X11_take) rfl zd_X11_take]
  exact (if_pos (Nat.le_of_ble_eq_true rfl)).trans ((zZ_eq zFn_mono _ _ _ _).trans rfl)
noncomputable def zm_X11_size : zK4 := zZ zf zo_X11_size []
set_option maxRecDepth 50000 in
theorem e_X11_size (a0 : Nat) (a1 : Int32) (a2 : Int32) (h : zM) : zf nX11_size [.inr a0, .inl a1, .inl a2] h =
  zif (zK h a0 = 12) (
  (zf nX11_isMachine [.inr a0, .inl a1] h).bind fun u1 =>
  if u1.1 = 0 then
    some ((-1 : Int32), 0, u1.2.2)
  else
    if a2 = (0 : Int32) then
      (zgF u1.2.2 a0 11 0).bind fun r1 =>
      (zaa u1.2.2 r1 a1).bind fun r2 =>
      (zgI u1.2.2 r2 2 0).bind fun v1 =>
      some (v1, 0, u1.2.2)
    else
    if a2 = (1 : Int32) then
      (zgF u1.2.2 a0 11 0).bind fun r3 =>
      (zaa u1.2.2 r3 a1).bind fun r4 =>
      (zgI u1.2.2 r4 2 1).bind fun v2 =>
      some (v2, 0, u1.2.2)
    else
    if a2 = (2 : Int32) then
      (zgF u1.2.2 a0 11 0).bind fun r5 =>
      (zaa u1.2.2 r5 a1).bind fun r6 =>
      zif (zK u1.2.2 r6 = 3) (
      (zf nX2_usefulStates [.inr r6] u1.2.2).bind fun u2 =>
      (zf nJ6_bitCount_0f7a4 [.inl u2.1] u2.2.2).bind fun u3 =>
      some (u3.1, 0, u3.2.2))
    else
      some ((-1 : Int32), 0, u1.2.2)) := by
  rw [show zf nX11_size = zFn zrecs 121 from rfl, zFn_eq (M := zr_X11_size) rfl zd_X11_size]
  exact (if_pos (Nat.le_of_ble_eq_true rfl)).trans ((zZ_eq zFn_mono _ _ _ _).trans rfl)
noncomputable def zm_X11_useful : zK4 := zZ zf zo_X11_useful []
set_option maxRecDepth 50000 in
theorem e_X11_useful (a0 : Nat) (a1 : Int32) (a2 : Int32) (h : zM) : zf nX11_useful [.inr a0, .inl a1, .inl a2] h =
  zif (zK h a0 = 12) (
  (zf nX11_isState [.inr a0, .inl a1, .inl a2] h).bind fun u1 =>
  if u1.1 = 0 then
    some ((-1 : Int32), 0, u1.2.2)
  else
    (zgF u1.2.2 a0 11 0).bind fun r1 =>
    (zaa u1.2.2 r1 a1).bind fun r2 =>
    zif (zK u1.2.2 r2 = 3) (
    (zf nX2_usefulStates [.inr r2] u1.2.2).bind fun u2 =>
    some (((u2.1 >>> (a2 &&& 31)) &&& (1 : Int32)), 0, u2.2.2))) := by
  rw [show zf nX11_useful = zFn zrecs 122 from rfl, zFn_eq (M := zr_X11_useful) rfl zd_X11_useful]
  exact (if_pos (Nat.le_of_ble_eq_true rfl)).trans ((zZ_eq zFn_mono _ _ _ _).trans rfl)
noncomputable def zm_X11_isInput : zK4 := zZ zf zo_X11_isInput []
set_option maxRecDepth 50000 in
theorem e_X11_isInput (a0 : Int32) (h : zM) : zf nX11_isInput [.inl a0] h =
  (zf nX11_isWord [.inl a0, .inl (3 : Int32), .inl (9 : Int32)] h).bind fun u1 =>
  zb u1.1 u1.2.2 := by
  rw [show zf nX11_isInput = zFn zrecs 123 from rfl, zFn_eq (M := zr_X11_isInput) rfl zd_X11_isInput]
  exact (if_pos (Nat.le_of_ble_eq_true rfl)).trans ((zZ_eq zFn_mono _ _ _ _).trans rfl)
noncomputable def zm_X11_apply : zK4 := zZ zf zo_X11_apply []
set_option maxRecDepth 50000 in
theorem e_X11_apply (a0 : Nat) (a1 : Int32) (a2 : Int32) (h : zM) : zf nX11_apply [.inr a0, .inl a1, .inl a2] h =
  zif (zK h a0 = 12) (
  (zf nX11_isMachine [.inr a0, .inl a1] h).bind fun u1 =>
  if u1.1 = 0 then
    some ((-1 : Int32), 0, u1.2.2)
  else
    (zf nX11_isInput [.inl a2] u1.2.2).bind fun u2 =>
    if u2.1 = 0 then
      some ((-1 : Int32), 0, u2.2.2)
    else
      (zgF u2.2.2 a0 11 8).bind fun r1 =>
      zif (zK u2.2.2 r1 = 11) (
      (zf nX10_read [.inr r1, .inl a2] u2.2.2).bind fun u3 =>
      (zgF u3.2.2 a0 11 1).bind fun r2 =>
      (zgF u3.2.2 a0 11 0).bind fun r3 =>
      (zaa u3.2.2 r3 a1).bind fun r4 =>
      (zgF u3.2.2 a0 11 8).bind fun r5 =>
      zif (zK u3.2.2 r2 = 4) (
      (zf nX3_gather [.inr r2, .inr r4, .inr r5] u3.2.2).bind fun u4 =>
      if u4.1 = 0 then
        some ((-2 : Int32), 0, u4.2.2)
      else
        (zgF u4.2.2 a0 11 1).bind fun r6 =>
        (zgI u4.2.2 r6 3 0).bind fun v1 =>
        some (v1, 0, u4.2.2)))) := by
  rw [show zf nX11_apply = zFn zrecs 124 from rfl, zFn_eq (M := zr_X11_apply) rfl zd_X11_apply]
  exact (if_pos (Nat.le_of_ble_eq_true rfl)).trans ((zZ_eq zFn_mono _ _ _ _).trans rfl)
noncomputable def zm_X11_output : zK4 := zZ zf zo_X11_output []
set_option maxRecDepth 50000 in
theorem e_X11_output (a0 : Nat) (a1 : Int32) (a2 : Int32) (h : zM) : zf nX11_output [.inr a0, .inl a1, .inl a2] h =
  if a1 < 0 then
    some ((-2 : Int32), 0, h)
  else
    (zgF h a0 11 1).bind fun r1 =>
    (zgI h r1 3 0).bind fun v1 =>
    if a1 < v1 then
      (zgF h a0 11 1).bind fun r2 =>
      (zgF h r2 3 1).bind fun r3 =>
      (zaa h r3 a1).bind fun r4 =>
      zif (zK h r4 = 11) (
      (zf nX10_letterAt [.inr r4, .inl a2] h).bind fun u1 =>
      some (u1.1, 0, u1.2.2))
    else
      some ((-2 : Int32), 0, h) := by
  rw [show zf nX11_output = zFn zrecs 125 from rfl, zFn_eq (M := zr_X11_output) rfl zd_X11_output]
  exact (if_pos (Nat.le_of_ble_eq_true rfl)).trans ((zZ_eq zFn_mono _ _ _ _).trans rfl)
noncomputable def zm_X11_testFunctional : zK4 := zZ zf zo_X11_testFunctional []
set_option maxRecDepth 50000 in
theorem e_X11_testFunctional (a0 : Nat) (a1 : Nat) (h : zM) : zf nX11_testFunctional [.inr a0, .inr a1] h =
  (zgF h a0 11 2).bind fun r1 =>
  (zgF h a0 11 10).bind fun r2 =>
  zif (zK h r1 = 1) (
  (zf nX0_differ [.inr r1, .inr a1, .inr a1, .inr r2] h).bind fun u1 =>
  if u1.1 = 0 then
    zb (1 : Int32) u1.2.2
  else
    (zgF u1.2.2 a0 11 4).bind fun r3 =>
    (zgF u1.2.2 a0 11 10).bind fun r4 =>
    zif (zK u1.2.2 r3 = 10) (
    (zf nX9_tellOutputsApart [.inr r3, .inr a1, .inr r4] u1.2.2).bind fun u2 =>
    zb (0 : Int32) u2.2.2)) := by
  rw [show zf nX11_testFunctional = zFn zrecs 126 from rfl, zFn_eq (M := zr_X11_testFunctional) rfl zd_X11_testFunctional]
  exact (if_pos (Nat.le_of_ble_eq_true rfl)).trans ((zZ_eq zFn_mono _ _ _ _).trans rfl)
noncomputable def zm_X11_functional : zK4 := zZ zf zo_X11_functional []
set_option maxRecDepth 50000 in
theorem e_X11_functional (a0 : Nat) (a1 : Int32) (h : zM) : zf nX11_functional [.inr a0, .inl a1] h =
  zif (zK h a0 = 12) (
  (zf nX11_isMachine [.inr a0, .inl a1] h).bind fun u1 =>
  if u1.1 = 0 then
    some ((-1 : Int32), 0, u1.2.2)
  else
    (zgF u1.2.2 a0 11 0).bind fun r1 =>
    (zaa u1.2.2 r1 a1).bind fun r2 =>
    zif (zK u1.2.2 a0 = 12) (
    (zf nX11_testFunctional [.inr a0, .inr r2] u1.2.2).bind fun u2 =>
    if u2.1 = 0 then
      some ((0 : Int32), 0, u2.2.2)
    else
      some ((1 : Int32), 0, u2.2.2))) := by
  rw [show zf nX11_functional = zFn zrecs 127 from rfl, zFn_eq (M := zr_X11_functional) rfl zd_X11_functional]
  exact (if_pos (Nat.le_of_ble_eq_true rfl)).trans ((zZ_eq zFn_mono _ _ _ _).trans rfl)
noncomputable def zm_X11_readers : zK4 := zZ zf zo_X11_readers []
set_option maxRecDepth 50000 in
theorem e_X11_readers (a0 : Nat) (h : zM) : zf nX11_readers [.inr a0] h =
  (zgF h a0 11 3).bind fun r1 =>
  (zgF h a0 11 0).bind fun r2 =>
  (zaa h r2 (0 : Int32)).bind fun r3 =>
  (zgF h a0 11 0).bind fun r4 =>
  (zaa h r4 (1 : Int32)).bind fun r5 =>
  (zgF h a0 11 10).bind fun r6 =>
  zif (zK h r1 = 6) (
  (zf nX5_differ [.inr r1, .inr r3, .inr r5, .inr r6] h).bind fun u1 =>
  if u1.1 = 0 then
    some ((1 : Int32), 0, u1.2.2)
  else
    (zgF u1.2.2 a0 11 4).bind fun r7 =>
    (zgF u1.2.2 a0 11 0).bind fun r8 =>
    (zaa u1.2.2 r8 (0 : Int32)).bind fun r9 =>
    (zgF u1.2.2 a0 11 0).bind fun r10 =>
    (zaa u1.2.2 r10 (1 : Int32)).bind fun r11 =>
    (zgF u1.2.2 a0 11 10).bind fun r12 =>
    zif (zK u1.2.2 r7 = 10) (
    (zf nX9_tellMachinesApart [.inr r7, .inr r9, .inr r11, .inr r12] u1.2.2).bind fun u2 =>
    some ((0 : Int32), 0, u2.2.2))) := by
  rw [show zf nX11_readers = zFn zrecs 128 from rfl, zFn_eq (M := zr_X11_readers) rfl zd_X11_readers]
  exact (if_pos (Nat.le_of_ble_eq_true rfl)).trans ((zZ_eq zFn_mono _ _ _ _).trans rfl)
noncomputable def zm_X11_same : zK4 := zZ zf zo_X11_same []
set_option maxRecDepth 50000 in
theorem e_X11_same (a0 : Nat) (h : zM) : zf nX11_same [.inr a0] h =
  (zgF h a0 11 0).bind fun r1 =>
  (zaa h r1 (0 : Int32)).bind fun r2 =>
  zif (zK h a0 = 12) (
  (zf nX11_testFunctional [.inr a0, .inr r2] h).bind fun u1 =>
  if u1.1 = 0 then
    some ((-1 : Int32), 0, u1.2.2)
  else
    (zgF u1.2.2 a0 11 0).bind fun r3 =>
    (zaa u1.2.2 r3 (1 : Int32)).bind fun r4 =>
    zif (zK u1.2.2 a0 = 12) (
    (zf nX11_testFunctional [.inr a0, .inr r4] u1.2.2).bind fun u2 =>
    if u2.1 = 0 then
      some ((-1 : Int32), 0, u2.2.2)
    else
      (zgF u2.2.2 a0 11 3).bind fun r5 =>
      (zgF u2.2.2 a0 11 0).bind fun r6 =>
      (zaa u2.2.2 r6 (0 : Int32)).bind fun r7 =>
      (zgF u2.2.2 a0 11 0).bind fun r8 =>
      (zaa u2.2.2 r8 (1 : Int32)).bind fun r9 =>
      (zgF u2.2.2 a0 11 10).bind fun r10 =>
      zif (zK u2.2.2 r5 = 6) (
      (zf nX5_differ [.inr r5, .inr r7, .inr r9, .inr r10] u2.2.2).bind fun u3 =>
      (zgF u3.2.2 a0 11 2).bind fun r11 =>
      (zgF u3.2.2 a0 11 0).bind fun r12 =>
      (zaa u3.2.2 r12 (0 : Int32)).bind fun r13 =>
      (zgF u3.2.2 a0 11 0).bind fun r14 =>
      (zaa u3.2.2 r14 (1 : Int32)).bind fun r15 =>
      (zgF u3.2.2 a0 11 11).bind fun r16 =>
      zif (zK u3.2.2 r11 = 1) (
      (zf nX0_differ [.inr r11, .inr r13, .inr r15, .inr r16] u3.2.2).bind fun u4 =>
      if u3.1 = 0 then
        if u4.1 = 0 then
          some ((1 : Int32), 0, u4.2.2)
        else
          if u3.1 = 0 then
            (zgF u4.2.2 a0 11 4).bind fun r17 =>
            (zgF u4.2.2 a0 11 0).bind fun r18 =>
            (zaa u4.2.2 r18 (0 : Int32)).bind fun r19 =>
            (zgF u4.2.2 a0 11 0).bind fun r20 =>
            (zaa u4.2.2 r20 (1 : Int32)).bind fun r21 =>
            if (0 : Int32) = 0 then
              (zgF u4.2.2 a0 11 11).bind fun r22 =>
              zif (zK u4.2.2 r17 = 10) (
              (zf nX9_tellMachinesApart [.inr r17, .inr r19, .inr r21, .inr r22] u4.2.2).bind fun u5 =>
              some ((0 : Int32), 0, u5.2.2))
            else
              (zgF u4.2.2 a0 11 10).bind fun r23 =>
              zif (zK u4.2.2 r17 = 10) (
              (zf nX9_tellMachinesApart [.inr r17, .inr r19, .inr r21, .inr r23] u4.2.2).bind fun u6 =>
              some ((0 : Int32), 0, u6.2.2))
          else
            if u4.1 = 0 then
              (zgF u4.2.2 a0 11 4).bind fun r24 =>
              (zgF u4.2.2 a0 11 0).bind fun r25 =>
              (zaa u4.2.2 r25 (0 : Int32)).bind fun r26 =>
              (zgF u4.2.2 a0 11 0).bind fun r27 =>
              (zaa u4.2.2 r27 (1 : Int32)).bind fun r28 =>
              if (1 : Int32) = 0 then
                (zgF u4.2.2 a0 11 11).bind fun r29 =>
                zif (zK u4.2.2 r24 = 10) (
                (zf nX9_tellMachinesApart [.inr r24, .inr r26, .inr r28, .inr r29] u4.2.2).bind fun u7 =>
                some ((0 : Int32), 0, u7.2.2))
              else
                (zgF u4.2.2 a0 11 10).bind fun r30 =>
                zif (zK u4.2.2 r24 = 10) (
                (zf nX9_tellMachinesApart [.inr r24, .inr r26, .inr r28, .inr r30] u4.2.2).bind fun u8 =>
                some ((0 : Int32), 0, u8.2.2))
            else
              (zgF u4.2.2 a0 11 10).bind fun r31 =>
              (zgF u4.2.2 a0 11 11).bind fun r32 =>
              zif (zK u4.2.2 r31 = 11) (
              (zf nX10_compareWith [.inr r31, .inr r32] u4.2.2).bind fun u9 =>
              if u9.1 < 0 then
                (zgF u9.2.2 a0 11 4).bind fun r33 =>
                (zgF u9.2.2 a0 11 0).bind fun r34 =>
                (zaa u9.2.2 r34 (0 : Int32)).bind fun r35 =>
                (zgF u9.2.2 a0 11 0).bind fun r36 =>
                (zaa u9.2.2 r36 (1 : Int32)).bind fun r37 =>
                if (1 : Int32) = 0 then
                  (zgF u9.2.2 a0 11 11).bind fun r38 =>
                  zif (zK u9.2.2 r33 = 10) (
                  (zf nX9_tellMachinesApart [.inr r33, .inr r35, .inr r37, .inr r38] u9.2.2).bind fun u10 =>
                  some ((0 : Int32), 0, u10.2.2))
                else
                  (zgF u9.2.2 a0 11 10).bind fun r39 =>
                  zif (zK u9.2.2 r33 = 10) (
                  (zf nX9_tellMachinesApart [.inr r33, .inr r35, .inr r37, .inr r39] u9.2.2).bind fun u11 =>
                  some ((0 : Int32), 0, u11.2.2))
              else
                (zgF u9.2.2 a0 11 4).bind fun r40 =>
                (zgF u9.2.2 a0 11 0).bind fun r41 =>
                (zaa u9.2.2 r41 (0 : Int32)).bind fun r42 =>
                (zgF u9.2.2 a0 11 0).bind fun r43 =>
                (zaa u9.2.2 r43 (1 : Int32)).bind fun r44 =>
                if (0 : Int32) = 0 then
                  (zgF u9.2.2 a0 11 11).bind fun r45 =>
                  zif (zK u9.2.2 r40 = 10) (
                  (zf nX9_tellMachinesApart [.inr r40, .inr r42, .inr r44, .inr r45] u9.2.2).bind fun u12 =>
                  some ((0 : Int32), 0, u12.2.2))
                else
                  (zgF u9.2.2 a0 11 10).bind fun r46 =>
                  zif (zK u9.2.2 r40 = 10) (
                  (zf nX9_tellMachinesApart [.inr r40, .inr r42, .inr r44, .inr r46] u9.2.2).bind fun u13 =>
                  some ((0 : Int32), 0, u13.2.2)))
      else
        if u3.1 = 0 then
          (zgF u4.2.2 a0 11 4).bind fun r47 =>
          (zgF u4.2.2 a0 11 0).bind fun r48 =>
          (zaa u4.2.2 r48 (0 : Int32)).bind fun r49 =>
          (zgF u4.2.2 a0 11 0).bind fun r50 =>
          (zaa u4.2.2 r50 (1 : Int32)).bind fun r51 =>
          if (0 : Int32) = 0 then
            (zgF u4.2.2 a0 11 11).bind fun r52 =>
            zif (zK u4.2.2 r47 = 10) (
            (zf nX9_tellMachinesApart [.inr r47, .inr r49, .inr r51, .inr r52] u4.2.2).bind fun u14 =>
            some ((0 : Int32), 0, u14.2.2))
          else
            (zgF u4.2.2 a0 11 10).bind fun r53 =>
            zif (zK u4.2.2 r47 = 10) (
            (zf nX9_tellMachinesApart [.inr r47, .inr r49, .inr r51, .inr r53] u4.2.2).bind fun u15 =>
            some ((0 : Int32), 0, u15.2.2))
        else
          if u4.1 = 0 then
            (zgF u4.2.2 a0 11 4).bind fun r54 =>
            (zgF u4.2.2 a0 11 0).bind fun r55 =>
            (zaa u4.2.2 r55 (0 : Int32)).bind fun r56 =>
            (zgF u4.2.2 a0 11 0).bind fun r57 =>
            (zaa u4.2.2 r57 (1 : Int32)).bind fun r58 =>
            if (1 : Int32) = 0 then
              (zgF u4.2.2 a0 11 11).bind fun r59 =>
              zif (zK u4.2.2 r54 = 10) (
              (zf nX9_tellMachinesApart [.inr r54, .inr r56, .inr r58, .inr r59] u4.2.2).bind fun u16 =>
              some ((0 : Int32), 0, u16.2.2))
            else
              (zgF u4.2.2 a0 11 10).bind fun r60 =>
              zif (zK u4.2.2 r54 = 10) (
              (zf nX9_tellMachinesApart [.inr r54, .inr r56, .inr r58, .inr r60] u4.2.2).bind fun u17 =>
              some ((0 : Int32), 0, u17.2.2))
          else
            (zgF u4.2.2 a0 11 10).bind fun r61 =>
            (zgF u4.2.2 a0 11 11).bind fun r62 =>
            zif (zK u4.2.2 r61 = 11) (
            (zf nX10_compareWith [.inr r61, .inr r62] u4.2.2).bind fun u18 =>
            if u18.1 < 0 then
              (zgF u18.2.2 a0 11 4).bind fun r63 =>
              (zgF u18.2.2 a0 11 0).bind fun r64 =>
              (zaa u18.2.2 r64 (0 : Int32)).bind fun r65 =>
              (zgF u18.2.2 a0 11 0).bind fun r66 =>
              (zaa u18.2.2 r66 (1 : Int32)).bind fun r67 =>
              if (1 : Int32) = 0 then
                (zgF u18.2.2 a0 11 11).bind fun r68 =>
                zif (zK u18.2.2 r63 = 10) (
                (zf nX9_tellMachinesApart [.inr r63, .inr r65, .inr r67, .inr r68] u18.2.2).bind fun u19 =>
                some ((0 : Int32), 0, u19.2.2))
              else
                (zgF u18.2.2 a0 11 10).bind fun r69 =>
                zif (zK u18.2.2 r63 = 10) (
                (zf nX9_tellMachinesApart [.inr r63, .inr r65, .inr r67, .inr r69] u18.2.2).bind fun u20 =>
                some ((0 : Int32), 0, u20.2.2))
            else
              (zgF u18.2.2 a0 11 4).bind fun r70 =>
              (zgF u18.2.2 a0 11 0).bind fun r71 =>
              (zaa u18.2.2 r71 (0 : Int32)).bind fun r72 =>
              (zgF u18.2.2 a0 11 0).bind fun r73 =>
              (zaa u18.2.2 r73 (1 : Int32)).bind fun r74 =>
              if (0 : Int32) = 0 then
                (zgF u18.2.2 a0 11 11).bind fun r75 =>
                zif (zK u18.2.2 r70 = 10) (
                (zf nX9_tellMachinesApart [.inr r70, .inr r72, .inr r74, .inr r75] u18.2.2).bind fun u21 =>
                some ((0 : Int32), 0, u21.2.2))
              else
                (zgF u18.2.2 a0 11 10).bind fun r76 =>
                zif (zK u18.2.2 r70 = 10) (
                (zf nX9_tellMachinesApart [.inr r70, .inr r72, .inr r74, .inr r76] u18.2.2).bind fun u22 =>
                some ((0 : Int32), 0, u22.2.2))))))) := by
  rw [show zf nX11_same = zFn zrecs 129 from rfl, zFn_eq (M := zr_X11_same) rfl zd_X11_same]
  exact (if_pos (Nat.le_of_ble_eq_true rfl)).trans ((zZ_eq zFn_mono _ _ _ _).trans rfl)
noncomputable def zm_X11_makeSequential : zK4 := zZ zf zo_X11_makeSequential []
set_option maxRecDepth 50000 in
theorem e_X11_makeSequential (a0 : Nat) (a1 : Nat) (h : zM) : zf nX11_makeSequential [.inr a0, .inr a1] h =
  (zpI h a0 11 14 (-1 : Int32)).bind fun h1 =>
  (zgF h1 a0 11 5).bind fun r1 =>
  zif (zK h1 r1 = 8) (
  (zf nX7_judge [.inr r1, .inr a1] h1).bind fun u1 =>
  if u1.1 = (1 : Int32) then
    (zgF u1.2.2 a0 11 6).bind fun r2 =>
    zif (zK u1.2.2 r2 = 7) (
    (zf nX6_make [.inr r2, .inr a1] u1.2.2).bind fun u2 =>
    (zgF u2.2.2 a0 11 6).bind fun r3 =>
    (zgI u2.2.2 r3 6 0).bind fun v1 =>
    (zpI u2.2.2 a0 11 14 v1).bind fun h2 =>
    if u2.1 = 0 then
      some ((2 : Int32), 0, h2)
    else
      (zgF h2 a0 11 7).bind fun r4 =>
      zif (zK h2 r4 = 2) (
      (zf nX1_make [.inr r4, .inr a1] h2).bind fun u3 =>
      some ((1 : Int32), 0, u3.2.2)))
  else
    some (u1.1, 0, u1.2.2)) := by
  rw [show zf nX11_makeSequential = zFn zrecs 130 from rfl, zFn_eq (M := zr_X11_makeSequential) rfl zd_X11_makeSequential]
  exact (if_pos (Nat.le_of_ble_eq_true rfl)).trans ((zZ_eq zFn_mono _ _ _ _).trans rfl)
noncomputable def zm_X11_sequential : zK4 := zZ zf zo_X11_sequential []
set_option maxRecDepth 50000 in
theorem e_X11_sequential (a0 : Nat) (a1 : Int32) (h : zM) : zf nX11_sequential [.inr a0, .inl a1] h =
  zif (zK h a0 = 12) (
  (zf nX11_isMachine [.inr a0, .inl a1] h).bind fun u1 =>
  if u1.1 = 0 then
    some ((-1 : Int32), 0, u1.2.2)
  else
    (zgI u1.2.2 a0 11 12).bind fun v1 =>
    if v1 < (24 : Int32) then
      (zgF u1.2.2 a0 11 0).bind fun r1 =>
      (zaa u1.2.2 r1 a1).bind fun r2 =>
      zif (zK u1.2.2 a0 = 12) (
      (zf nX11_testFunctional [.inr a0, .inr r2] u1.2.2).bind fun u2 =>
      if u2.1 = 0 then
        some ((-1 : Int32), 0, u2.2.2)
      else
        (zgI u2.2.2 a0 11 12).bind fun v2 =>
        (zpI u2.2.2 a0 11 12 (v2 + (1 : Int32))).bind fun h1 =>
        (zgF h1 a0 11 0).bind fun r3 =>
        (zaa h1 r3 a1).bind fun r4 =>
        zif (zK h1 a0 = 12) (
        (zf nX11_makeSequential [.inr a0, .inr r4] h1).bind fun u3 =>
        (zpI u3.2.2 a0 11 13 u3.1).bind fun h2 =>
        (zgI h2 a0 11 13).bind fun v3 =>
        some (v3, 0, h2)))
    else
      some ((-2 : Int32), 0, u1.2.2)) := by
  rw [show zf nX11_sequential = zFn zrecs 131 from rfl, zFn_eq (M := zr_X11_sequential) rfl zd_X11_sequential]
  exact (if_pos (Nat.le_of_ble_eq_true rfl)).trans ((zZ_eq zFn_mono _ _ _ _).trans rfl)
noncomputable def zm_X11_witness : zK4 := zZ zf zo_X11_witness []
set_option maxRecDepth 50000 in
theorem e_X11_witness (a0 : Nat) (a1 : Int32) (h : zM) : zf nX11_witness [.inr a0, .inl a1] h =
  (zgF h a0 11 4).bind fun r1 =>
  (zgI h r1 9 0).bind fun v1 =>
  if v1 = 0 then
    some ((-2 : Int32), 0, h)
  else
    (zgF h a0 11 4).bind fun r2 =>
    (zgF h r2 9 1).bind fun r3 =>
    zif (zK h r3 = 11) (
    (zf nX10_letterAt [.inr r3, .inl a1] h).bind fun u1 =>
    some (u1.1, 0, u1.2.2)) := by
  rw [show zf nX11_witness = zFn zrecs 132 from rfl, zFn_eq (M := zr_X11_witness) rfl zd_X11_witness]
  exact (if_pos (Nat.le_of_ble_eq_true rfl)).trans ((zZ_eq zFn_mono _ _ _ _).trans rfl)
noncomputable def zm_X11_wrote : zK4 := zZ zf zo_X11_wrote []
set_option maxRecDepth 50000 in
theorem e_X11_wrote (a0 : Nat) (a1 : Int32) (a2 : Int32) (h : zM) : zf nX11_wrote [.inr a0, .inl a1, .inl a2] h =
  (zgF h a0 11 4).bind fun r1 =>
  zif (zK h r1 = 10) (
  (zf nX9_hasWritten [.inr r1, .inl a1] h).bind fun u1 =>
  if u1.1 = 0 then
    some ((-2 : Int32), 0, u1.2.2)
  else
    (zgF u1.2.2 a0 11 4).bind fun r2 =>
    (zgF u1.2.2 r2 9 2).bind fun r3 =>
    (zaa u1.2.2 r3 a1).bind fun r4 =>
    zif (zK u1.2.2 r4 = 11) (
    (zf nX10_letterAt [.inr r4, .inl a2] u1.2.2).bind fun u2 =>
    some (u2.1, 0, u2.2.2))) := by
  rw [show zf nX11_wrote = zFn zrecs 133 from rfl, zFn_eq (M := zr_X11_wrote) rfl zd_X11_wrote]
  exact (if_pos (Nat.le_of_ble_eq_true rfl)).trans ((zZ_eq zFn_mono _ _ _ _).trans rfl)
noncomputable def zm_X11_told : zK4 := zZ zf zo_X11_told []
set_option maxRecDepth 50000 in
theorem e_X11_told (a0 : Nat) (a1 : Int32) (h : zM) : zf nX11_told [.inr a0, .inl a1] h =
  (zgI h a0 11 13).bind fun v1 =>
  if v1 = (-1 : Int32) then
    some ((-1 : Int32), 0, h)
  else
    if a1 = (0 : Int32) then
      (zgF h a0 11 5).bind fun r1 =>
      (zgI h r1 7 0).bind fun v2 =>
      some (v2, 0, h)
    else
    if a1 = (1 : Int32) then
      (zgF h a0 11 5).bind fun r2 =>
      (zgI h r2 7 1).bind fun v3 =>
      some (v3, 0, h)
    else
    if a1 = (2 : Int32) then
      (zgI h a0 11 14).bind fun v4 =>
      some (v4, 0, h)
    else
    if a1 = (3 : Int32) then
      zif (zK h a0 = 12) (
      (zf nX11_hasLeast [.inr a0] h).bind fun u1 =>
      if u1.1 = 0 then
        some ((-1 : Int32), 0, u1.2.2)
      else
        (zgF u1.2.2 a0 11 7).bind fun r3 =>
        (zgI u1.2.2 r3 1 0).bind fun v5 =>
        some (v5, 0, u1.2.2))
    else
    if a1 = (4 : Int32) then
      zif (zK h a0 = 12) (
      (zf nX11_hasLeast [.inr a0] h).bind fun u2 =>
      if u2.1 = 0 then
        some ((-1 : Int32), 0, u2.2.2)
      else
        (zgF u2.2.2 a0 11 7).bind fun r4 =>
        (zgI u2.2.2 r4 1 1).bind fun v6 =>
        some (v6, 0, u2.2.2))
    else
      some ((-1 : Int32), 0, h) := by
  rw [show zf nX11_told = zFn zrecs 134 from rfl, zFn_eq (M := zr_X11_told) rfl zd_X11_told]
  exact (if_pos (Nat.le_of_ble_eq_true rfl)).trans ((zZ_eq zFn_mono _ _ _ _).trans rfl)
