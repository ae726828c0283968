noncomputable def zm_X10_init : zK4 := zZ zf zo_X10_init []
set_option maxRecDepth 50000 in
theorem e_X10_init (a0 : Nat) (a1 : Int32) (h : zM) : zf nX10_init [.inr a0, .inl a1] h =
  if a0 = 0 then none else
  (zna h 101 a1).bind fun h1 =>
  (zpF h1 a0 10 0 h.1.1).bind fun h2 =>
  (zpI h2 a0 10 1 (0 : Int32)).bind fun h3 =>
  some (0, 0, h3) := by
  rw [show zf nX10_init = zFn zrecs 0 from rfl, zFn_eq (M := zr_X10_init) rfl zd_X10_init]
  exact (if_pos (Nat.le_of_ble_eq_true rfl)).trans ((zZ_eq zFn_mono _ _ _ _).trans rfl)
noncomputable def zm_X4_init : zK4 := zZ zf zo_X4_init []
set_option maxRecDepth 50000 in
theorem e_X4_init (a0 : Nat) (a1 : Int32) (h : zM) : zf nX4_init [.inr a0, .inl a1] h =
  if a0 = 0 then none else
  zif (zK (zmk h 11 2) h.1.1 = 11) (
  (zf nX10_init [.inr h.1.1, .inl a1] (zmk h 11 2)).bind fun u1 =>
  (zpF u1.2.2 a0 4 2 h.1.1).bind fun h1 =>
  zif (zK (zmk h1 11 2) h1.1.1 = 11) (
  (zf nX10_init [.inr h1.1.1, .inl a1] (zmk h1 11 2)).bind fun u2 =>
  (zpF u2.2.2 a0 4 3 h1.1.1).bind fun h2 =>
  some (0, 0, h2))) := by
  rw [show zf nX4_init = zFn zrecs 1 from rfl, zFn_eq (M := zr_X4_init) rfl zd_X4_init]
  exact (if_pos (Nat.le_of_ble_eq_true rfl)).trans ((zZ_eq zFn_mono _ _ _ _).trans rfl)
noncomputable def zm_X0_init : zK4 := zZ zf zo_X0_init [(15, 2)]
set_option maxRecDepth 50000 in
theorem e_X0_init (a0 : Nat) (h : zM) : zf nX0_init [.inr a0] h =
  if a0 = 0 then none else
  (zna h 106 (73 : Int32)).bind fun h1 =>
  (zpF h1 a0 0 0 h.1.1).bind fun h2 =>
  zm_X0_init 15 [some (.inr a0), some (.inl (0 : Int32))] [] h2 := by
  rw [show zf nX0_init = zFn zrecs 2 from rfl, zFn_eq (M := zr_X0_init) rfl zd_X0_init]
  exact (if_pos (Nat.le_of_ble_eq_true rfl)).trans ((zZ_eq zFn_mono _ _ _ _).trans rfl)
set_option maxRecDepth 50000 in
theorem e_X0_init_15 (a0 : Nat) (a1 : Int32) (h : zM) : zm_X0_init 15 [some (.inr a0), some (.inl a1)] [] h =
  if (72 : Int32) < a1 then
    (zna h 101 (36 : Int32)).bind fun h1 =>
    (zpF h1 a0 0 2 h.1.1).bind fun h2 =>
    (zna h2 101 (36 : Int32)).bind fun h3 =>
    (zpF h3 a0 0 3 h2.1.1).bind fun h4 =>
    (zna h4 101 (73 : Int32)).bind fun h5 =>
    (zpF h5 a0 0 4 h4.1.1).bind fun h6 =>
    (zna h6 101 (73 : Int32)).bind fun h7 =>
    (zpF h7 a0 0 5 h6.1.1).bind fun h8 =>
    (zna h8 101 (73 : Int32)).bind fun h9 =>
    (zpF h9 a0 0 6 h8.1.1).bind fun h10 =>
    (zna h10 101 (73 : Int32)).bind fun h11 =>
    (zpF h11 a0 0 7 h10.1.1).bind fun h12 =>
    zif (zK (zmk h12 11 2) h12.1.1 = 11) (
    (zf nX10_init [.inr h12.1.1, .inl (225 : Int32)] (zmk h12 11 2)).bind fun u1 =>
    (zpF u1.2.2 a0 0 9 h12.1.1).bind fun h13 =>
    zif (zK (zmk h13 11 2) h13.1.1 = 11) (
    (zf nX10_init [.inr h13.1.1, .inl (225 : Int32)] (zmk h13 11 2)).bind fun u2 =>
    (zpF u2.2.2 a0 0 10 h13.1.1).bind fun h14 =>
    some (0, 0, h14)))
  else
    (zgF h a0 0 0).bind fun r1 =>
    zif (zK (zmk h 5 4) h.1.1 = 5) (
    (zf nX4_init [.inr h.1.1, .inl (222 : Int32)] (zmk h 5 4)).bind fun u3 =>
    (zas u3.2.2 r1 a1 h.1.1).bind fun h15 =>
    zm_X0_init 15 [some (.inr a0), some (.inl (a1 + (1 : Int32)))] [] h15) := (zZ_eq zFn_mono _ _ _ _).trans rfl
noncomputable def zm_X11_holds : zK4 := zZ zf zo_X11_holds []
set_option maxRecDepth 50000 in
theorem e_X11_holds (a0 : Int32) (a1 : Int32) (h : zM) : zf nX11_holds [.inl a0, .inl a1] h =
  if ((a0 >>> (a1 &&& 31)) &&& (1 : Int32)) = 0 then
    zb (0 : Int32) h
  else
    zb (1 : Int32) h := by
  rw [show zf nX11_holds = zFn zrecs 3 from rfl, zFn_eq (M := zr_X11_holds) rfl zd_X11_holds]
  exact (if_pos (Nat.le_of_ble_eq_true rfl)).trans ((zZ_eq zFn_mono _ _ _ _).trans rfl)
noncomputable def zm_X0_closeGroup : zK4 := zZ zf zo_X0_closeGroup []
set_option maxRecDepth 50000 in
theorem e_X0_closeGroup (a0 : Nat) (a1 : Int32) (a2 : Int32) (a3 : Int32) (h : zM) : zf nX0_closeGroup [.inr a0, .inl a1, .inl a2, .inl a3] h =
  (zgI h a0 0 1).bind fun v1 =>
  if v1 = a1 then
    some (0, 0, h)
  else
    (zgI h a0 0 8).bind fun v2 =>
    if (72 : Int32) < v2 then
      some (0, 0, h)
    else
      (zgF h a0 0 4).bind fun r1 =>
      (zgI h a0 0 8).bind fun v3 =>
      (zis h r1 v3 a1).bind fun h1 =>
      (zgF h1 a0 0 5).bind fun r2 =>
      (zgI h1 a0 0 8).bind fun v4 =>
      (zgI h1 a0 0 1).bind fun v5 =>
      (zis h1 r2 v4 v5).bind fun h2 =>
      (zgF h2 a0 0 6).bind fun r3 =>
      (zgI h2 a0 0 8).bind fun v6 =>
      (zis h2 r3 v6 a2).bind fun h3 =>
      (zgF h3 a0 0 7).bind fun r4 =>
      (zgI h3 a0 0 8).bind fun v7 =>
      (zis h3 r4 v7 a3).bind fun h4 =>
      (zgI h4 a0 0 8).bind fun v8 =>
      (zpI h4 a0 0 8 (v8 + (1 : Int32))).bind fun h5 =>
      some (0, 0, h5) := by
  rw [show zf nX0_closeGroup = zFn zrecs 4 from rfl, zFn_eq (M := zr_X0_closeGroup) rfl zd_X0_closeGroup]
  exact (if_pos (Nat.le_of_ble_eq_true rfl)).trans ((zZ_eq zFn_mono _ _ _ _).trans rfl)
noncomputable def zm_X10_isAlike : zK4 := zZ zf zo_X10_isAlike [(15, 3)]
set_option maxRecDepth 50000 in
theorem e_X10_isAlike (a0 : Nat) (a1 : Nat) (h : zM) : zf nX10_isAlike [.inr a0, .inr a1] h =
  (zgI h a0 10 1).bind fun v1 =>
  (zgI h a1 10 1).bind fun v2 =>
  if v1 = v2 then
    zm_X10_isAlike 15 [some (.inr a0), some (.inr a1), some (.inl (0 : Int32))] [] h
  else
    zb (0 : Int32) h := by
  rw [show zf nX10_isAlike = zFn zrecs 5 from rfl, zFn_eq (M := zr_X10_isAlike) rfl zd_X10_isAlike]
  exact (if_pos (Nat.le_of_ble_eq_true rfl)).trans ((zZ_eq zFn_mono _ _ _ _).trans rfl)
set_option maxRecDepth 50000 in
theorem e_X10_isAlike_15 (a0 : Nat) (a1 : Nat) (a2 : Int32) (h : zM) : zm_X10_isAlike 15 [some (.inr a0), some (.inr a1), some (.inl a2)] [] h =
  (zgI h a0 10 1).bind fun v1 =>
  if a2 < v1 then
    (zgF h a0 10 0).bind fun r1 =>
    (zia h r1 a2).bind fun v2 =>
    (zgF h a1 10 0).bind fun r2 =>
    (zia h r2 a2).bind fun v3 =>
    if v2 = v3 then
      zm_X10_isAlike 15 [some (.inr a0), some (.inr a1), some (.inl (a2 + (1 : Int32)))] [] h
    else
      zb (0 : Int32) h
  else
    zb (1 : Int32) h := (zZ_eq zFn_mono _ _ _ _).trans rfl
noncomputable def zm_X4_isAlike : zK4 := zZ zf zo_X4_isAlike []
set_option maxRecDepth 50000 in
theorem e_X4_isAlike (a0 : Nat) (a1 : Nat) (h : zM) : zf nX4_isAlike [.inr a0, .inr a1] h =
  (zgI h a0 4 0).bind fun v1 =>
  (zgI h a1 4 0).bind fun v2 =>
  if v1 = v2 then
    (zgI h a0 4 1).bind fun v3 =>
    (zgI h a1 4 1).bind fun v4 =>
    if v3 = v4 then
      (zgF h a0 4 2).bind fun r1 =>
      (zgF h a1 4 2).bind fun r2 =>
      zif (zK h r1 = 11) (
      (zf nX10_isAlike [.inr r1, .inr r2] h).bind fun u1 =>
      if u1.1 = 0 then
        zb (0 : Int32) u1.2.2
      else
        (zgF u1.2.2 a0 4 3).bind fun r3 =>
        (zgF u1.2.2 a1 4 3).bind fun r4 =>
        zif (zK u1.2.2 r3 = 11) (
        (zf nX10_isAlike [.inr r3, .inr r4] u1.2.2).bind fun u2 =>
        if u2.1 = 0 then
          zb (0 : Int32) u2.2.2
        else
          zb (1 : Int32) u2.2.2))
    else
      zb (0 : Int32) h
  else
    zb (0 : Int32) h := by
  rw [show zf nX4_isAlike = zFn zrecs 6 from rfl, zFn_eq (M := zr_X4_isAlike) rfl zd_X4_isAlike]
  exact (if_pos (Nat.le_of_ble_eq_true rfl)).trans ((zZ_eq zFn_mono _ _ _ _).trans rfl)
noncomputable def zm_X4_isApart : zK4 := zZ zf zo_X4_isApart []
set_option maxRecDepth 50000 in
theorem e_X4_isApart (a0 : Nat) (h : zM) : zf nX4_isApart [.inr a0] h =
  (zgF h a0 4 2).bind fun r1 =>
  (zgI h r1 10 1).bind fun v1 =>
  if 0 < v1 then
    (zgF h a0 4 3).bind fun r2 =>
    (zgI h r2 10 1).bind fun v2 =>
    if 0 < v2 then
      zb (1 : Int32) h
    else
      zb (0 : Int32) h
  else
    zb (0 : Int32) h := by
  rw [show zf nX4_isApart = zFn zrecs 7 from rfl, zFn_eq (M := zr_X4_isApart) rfl zd_X4_isApart]
  exact (if_pos (Nat.le_of_ble_eq_true rfl)).trans ((zZ_eq zFn_mono _ _ _ _).trans rfl)
noncomputable def zm_X0_keep : zK4 := zZ zf zo_X0_keep []
set_option maxRecDepth 50000 in
theorem e_X0_keep (a0 : Nat) (h : zM) : zf nX0_keep [.inr a0] h =
  (zgF h a0 0 0).bind fun r1 =>
  (zgI h a0 0 1).bind fun v1 =>
  (zaa h r1 v1).bind fun r2 =>
  (zgI h r2 4 0).bind fun v2 =>
  (zgI h r2 4 1).bind fun v3 =>
  (zgF h a0 0 3).bind fun r3 =>
  (zia h r3 ((v2 * (6 : Int32)) + v3)).bind fun v4 =>
  if v4 < (2 : Int32) then
    (zgF h a0 0 3).bind fun r4 =>
    (zia h r4 ((v2 * (6 : Int32)) + v3)).bind fun v5 =>
    if v5 = 0 then
      (zgF h a0 0 2).bind fun r5 =>
      (zgI h a0 0 1).bind fun v6 =>
      (zis h r5 ((v2 * (6 : Int32)) + v3) v6).bind fun h1 =>
      (zgF h1 a0 0 3).bind fun r6 =>
      (zia h1 r6 ((v2 * (6 : Int32)) + v3)).bind fun v7 =>
      (zis h1 r6 ((v2 * (6 : Int32)) + v3) (v7 + (1 : Int32))).bind fun h2 =>
      (zgI h2 a0 0 1).bind fun v8 =>
      (zpI h2 a0 0 1 (v8 + (1 : Int32))).bind fun h3 =>
      some (0, 0, h3)
    else
      (zgF h a0 0 0).bind fun r7 =>
      (zgF h a0 0 2).bind fun r8 =>
      (zia h r8 ((v2 * (6 : Int32)) + v3)).bind fun v9 =>
      (zaa h r7 v9).bind fun r9 =>
      zif (zK h r9 = 5) (
      (zf nX4_isApart [.inr r9] h).bind fun u1 =>
      if u1.1 = 0 then
        (zgF u1.2.2 a0 0 0).bind fun r10 =>
        (zgF u1.2.2 a0 0 2).bind fun r11 =>
        (zia u1.2.2 r11 ((v2 * (6 : Int32)) + v3)).bind fun v10 =>
        (zaa u1.2.2 r10 v10).bind fun r12 =>
        zif (zK u1.2.2 r12 = 5) (
        (zf nX4_isAlike [.inr r12, .inr r2] u1.2.2).bind fun u2 =>
        if u2.1 = 0 then
          (zgF u2.2.2 a0 0 3).bind fun r13 =>
          (zia u2.2.2 r13 ((v2 * (6 : Int32)) + v3)).bind fun v11 =>
          (zis u2.2.2 r13 ((v2 * (6 : Int32)) + v3) (v11 + (1 : Int32))).bind fun h4 =>
          (zgI h4 a0 0 1).bind fun v12 =>
          (zpI h4 a0 0 1 (v12 + (1 : Int32))).bind fun h5 =>
          some (0, 0, h5)
        else
          some (0, 0, u2.2.2))
      else
        some (0, 0, u1.2.2))
  else
    some (0, 0, h) := by
  rw [show zf nX0_keep = zFn zrecs 8 from rfl, zFn_eq (M := zr_X0_keep) rfl zd_X0_keep]
  exact (if_pos (Nat.le_of_ble_eq_true rfl)).trans ((zZ_eq zFn_mono _ _ _ _).trans rfl)
noncomputable def zm_X10_clear : zK4 := zZ zf zo_X10_clear []
set_option maxRecDepth 50000 in
theorem e_X10_clear (a0 : Nat) (h : zM) : zf nX10_clear [.inr a0] h =
  (zpI h a0 10 1 (0 : Int32)).bind fun h1 =>
  some (0, 0, h1) := by
  rw [show zf nX10_clear = zFn zrecs 9 from rfl, zFn_eq (M := zr_X10_clear) rfl zd_X10_clear]
  exact (if_pos (Nat.le_of_ble_eq_true rfl)).trans ((zZ_eq zFn_mono _ _ _ _).trans rfl)
noncomputable def zm_X4_begin : zK4 := zZ zf zo_X4_begin []
set_option maxRecDepth 50000 in
theorem e_X4_begin (a0 : Nat) (a1 : Int32) (a2 : Int32) (h : zM) : zf nX4_begin [.inr a0, .inl a1, .inl a2] h =
  (zpI h a0 4 0 a1).bind fun h1 =>
  (zpI h1 a0 4 1 a2).bind fun h2 =>
  (zgF h2 a0 4 2).bind fun r1 =>
  zif (zK h2 r1 = 11) (
  (zf nX10_clear [.inr r1] h2).bind fun u1 =>
  (zgF u1.2.2 a0 4 3).bind fun r2 =>
  zif (zK u1.2.2 r2 = 11) (
  (zf nX10_clear [.inr r2] u1.2.2).bind fun u2 =>
  some (0, 0, u2.2.2))) := by
  rw [show zf nX4_begin = zFn zrecs 10 from rfl, zFn_eq (M := zr_X4_begin) rfl zd_X4_begin]
  exact (if_pos (Nat.le_of_ble_eq_true rfl)).trans ((zZ_eq zFn_mono _ _ _ _).trans rfl)
noncomputable def zm_J7_fill_53178 : zK4 := zZ zf zo_J7_fill_53178 [(5, 4)]
set_option maxRecDepth 50000 in
theorem e_J7_fill_53178 (a0 : Nat) (a1 : Int32) (h : zM) : zf nJ7_fill_53178 [.inr a0, .inl a1] h =
  (zal h a0).bind fun v1 =>
  zm_J7_fill_53178 5 [some (.inr a0), some (.inl a1), some (.inl (0 : Int32)), some (.inl v1)] [] h := by
  rw [show zf nJ7_fill_53178 = zFn zrecs 11 from rfl, zFn_eq (M := zr_J7_fill_53178) rfl zd_J7_fill_53178]
  exact (if_pos (Nat.le_of_ble_eq_true rfl)).trans ((zZ_eq zFn_mono _ _ _ _).trans rfl)
set_option maxRecDepth 50000 in
theorem e_J7_fill_53178_5 (a0 : Nat) (a1 : Int32) (a2 : Int32) (a3 : Int32) (h : zM) : zm_J7_fill_53178 5 [some (.inr a0), some (.inl a1), some (.inl a2), some (.inl a3)] [] h =
  if a2 < a3 then
    (zis h a0 a2 a1).bind fun h1 =>
    zm_J7_fill_53178 5 [some (.inr a0), some (.inl a1), some (.inl (a2 + (1 : Int32))), some (.inl a3)] [] h1
  else
    some (0, 0, h) := (zZ_eq zFn_mono _ _ _ _).trans rfl
noncomputable def zm_X0_begin : zK4 := zZ zf zo_X0_begin [(20, 4), (31, 5)]
set_option maxRecDepth 50000 in
theorem e_X0_begin (a0 : Nat) (a1 : Nat) (a2 : Nat) (h : zM) : zf nX0_begin [.inr a0, .inr a1, .inr a2] h =
  (zpI h a0 0 1 (0 : Int32)).bind fun h1 =>
  (zpI h1 a0 0 8 (0 : Int32)).bind fun h2 =>
  (zgF h2 a0 0 3).bind fun r1 =>
  (zf nJ7_fill_53178 [.inr r1, .inl (0 : Int32)] h2).bind fun u1 =>
  zm_X0_begin 20 [some (.inr a0), some (.inr a1), some (.inr a2), some (.inl (0 : Int32)), none] [] u1.2.2 := by
  rw [show zf nX0_begin = zFn zrecs 12 from rfl, zFn_eq (M := zr_X0_begin) rfl zd_X0_begin]
  exact (if_pos (Nat.le_of_ble_eq_true rfl)).trans ((zZ_eq zFn_mono _ _ _ _).trans rfl)
set_option maxRecDepth 50000 in
theorem e_X0_begin_20 (a0 : Nat) (a1 : Nat) (a2 : Nat) (a3 : Int32) (h : zM) : zm_X0_begin 20 [some (.inr a0), some (.inr a1), some (.inr a2), some (.inl a3), none] [] h =
  (zgI h a1 2 0).bind fun v1 =>
  if a3 < v1 then
    zm_X0_begin 31 [some (.inr a0), some (.inr a1), some (.inr a2), some (.inl a3), some (.inl (0 : Int32))] [] h
  else
    zif (zK h a0 = 1) (
    (zf nX0_closeGroup [.inr a0, .inl (0 : Int32), .inl (-1 : Int32), .inl (-1 : Int32)] h).bind fun u1 =>
    some (0, 0, u1.2.2)) := (zZ_eq zFn_mono _ _ _ _).trans rfl
set_option maxRecDepth 50000 in
theorem e_X0_begin_31 (a0 : Nat) (a1 : Nat) (a2 : Nat) (a3 : Int32) (a4 : Int32) (h : zM) : zm_X0_begin 31 [some (.inr a0), some (.inr a1), some (.inr a2), some (.inl a3), some (.inl a4)] [] h =
  (zgI h a2 2 0).bind fun v1 =>
  if a4 < v1 then
    (zgI h a1 2 2).bind fun v2 =>
    (zf nX11_holds [.inl v2, .inl a3] h).bind fun u1 =>
    if u1.1 = 0 then
      zm_X0_begin 31 [some (.inr a0), some (.inr a1), some (.inr a2), some (.inl a3), some (.inl (a4 + (1 : Int32)))] [] u1.2.2
    else
      (zgI u1.2.2 a2 2 2).bind fun v3 =>
      (zf nX11_holds [.inl v3, .inl a4] u1.2.2).bind fun u2 =>
      if u2.1 = 0 then
        zm_X0_begin 31 [some (.inr a0), some (.inr a1), some (.inr a2), some (.inl a3), some (.inl (a4 + (1 : Int32)))] [] u2.2.2
      else
        (zgF u2.2.2 a0 0 0).bind fun r1 =>
        (zgI u2.2.2 a0 0 1).bind fun v4 =>
        (zaa u2.2.2 r1 v4).bind fun r2 =>
        zif (zK u2.2.2 r2 = 5) (
        (zf nX4_begin [.inr r2, .inl a3, .inl a4] u2.2.2).bind fun u3 =>
        zif (zK u3.2.2 a0 = 1) (
        (zf nX0_keep [.inr a0] u3.2.2).bind fun u4 =>
        zm_X0_begin 31 [some (.inr a0), some (.inr a1), some (.inr a2), some (.inl a3), some (.inl (a4 + (1 : Int32)))] [] u4.2.2))
  else
    zm_X0_begin 20 [some (.inr a0), some (.inr a1), some (.inr a2), some (.inl (a3 + (1 : Int32))), none] [] h := (zZ_eq zFn_mono _ _ _ _).trans rfl
noncomputable def zm_X10_add : zK4 := zZ zf zo_X10_add []
set_option maxRecDepth 50000 in
theorem e_X10_add (a0 : Nat) (a1 : Int32) (h : zM) : zf nX10_add [.inr a0, .inl a1] h =
  (zgI h a0 10 1).bind fun v1 =>
  (zgF h a0 10 0).bind fun r1 =>
  (zal h r1).bind fun v2 =>
  if v1 < v2 then
    (zgF h a0 10 0).bind fun r2 =>
    (zgI h a0 10 1).bind fun v3 =>
    (zis h r2 v3 a1).bind fun h1 =>
    (zgI h1 a0 10 1).bind fun v4 =>
    (zpI h1 a0 10 1 (v4 + (1 : Int32))).bind fun h2 =>
    some (0, 0, h2)
  else
    some (0, 0, h) := by
  rw [show zf nX10_add = zFn zrecs 13 from rfl, zFn_eq (M := zr_X10_add) rfl zd_X10_add]
  exact (if_pos (Nat.le_of_ble_eq_true rfl)).trans ((zZ_eq zFn_mono _ _ _ _).trans rfl)
noncomputable def zm_X10_addNumber : zK4 := zZ zf zo_X10_addNumber [(12, 4), (29, 4)]
set_option maxRecDepth 50000 in
theorem e_X10_addNumber (a0 : Nat) (a1 : Int32) (h : zM) : zf nX10_addNumber [.inr a0, .inl a1] h =
  if 0 < a1 then
    if (10 : Int32) = 0 then none else
    zm_X10_addNumber 12 [some (.inr a0), some (.inl a1), some (.inl (1 : Int32)), some (.inl (a1 / (10 : Int32)))] [] h
  else
    some (0, 0, h) := by
  rw [show zf nX10_addNumber = zFn zrecs 14 from rfl, zFn_eq (M := zr_X10_addNumber) rfl zd_X10_addNumber]
  exact (if_pos (Nat.le_of_ble_eq_true rfl)).trans ((zZ_eq zFn_mono _ _ _ _).trans rfl)
set_option maxRecDepth 50000 in
theorem e_X10_addNumber_12 (a0 : Nat) (a1 : Int32) (a2 : Int32) (a3 : Int32) (h : zM) : zm_X10_addNumber 12 [some (.inr a0), some (.inl a1), some (.inl a2), some (.inl a3)] [] h =
  if 0 < a3 then
    if (10 : Int32) = 0 then none else
    zm_X10_addNumber 12 [some (.inr a0), some (.inl a1), some (.inl (a2 * (10 : Int32))), some (.inl (a3 / (10 : Int32)))] [] h
  else
    zm_X10_addNumber 29 [some (.inr a0), some (.inl a1), some (.inl a2), some (.inl a3)] [] h := (zZ_eq zFn_mono _ _ _ _).trans rfl
set_option maxRecDepth 50000 in
theorem e_X10_addNumber_29 (a0 : Nat) (a1 : Int32) (a2 : Int32) (a3 : Int32) (h : zM) : zm_X10_addNumber 29 [some (.inr a0), some (.inl a1), some (.inl a2), some (.inl a3)] [] h =
  if 0 < a2 then
    if a2 = 0 then none else
    if (10 : Int32) = 0 then none else
    zif (zK h a0 = 11) (
    (zf nX10_add [.inr a0, .inl ((a1 / a2) - (a1 / a2) / (10 : Int32) * (10 : Int32))] h).bind fun u1 =>
    if (10 : Int32) = 0 then none else
    zm_X10_addNumber 29 [some (.inr a0), some (.inl a1), some (.inl (a2 / (10 : Int32))), some (.inl a3)] [] u1.2.2)
  else
    some (0, 0, h) := (zZ_eq zFn_mono _ _ _ _).trans rfl
noncomputable def zm_X10_become : zK4 := zZ zf zo_X10_become []
set_option maxRecDepth 50000 in
theorem e_X10_become (a0 : Nat) (a1 : Nat) (h : zM) : zf nX10_become [.inr a0, .inr a1] h =
  (zgI h a1 10 1).bind fun v1 =>
  (zgF h a0 10 0).bind fun r1 =>
  (zal h r1).bind fun v2 =>
  if v1 < v2 then
    (zgI h a1 10 1).bind fun v3 =>
    (zpI h a0 10 1 v3).bind fun h1 =>
    (zgF h1 a1 10 0).bind fun r2 =>
    (zgF h1 a0 10 0).bind fun r3 =>
    (zgI h1 a0 10 1).bind fun v4 =>
    (zcp h1 r2 (0 : Int32) r3 (0 : Int32) v4).bind fun h2 =>
    some (0, 0, h2)
  else
    (zgF h a0 10 0).bind fun r4 =>
    (zal h r4).bind fun v5 =>
    (zpI h a0 10 1 v5).bind fun h3 =>
    (zgF h3 a1 10 0).bind fun r5 =>
    (zgF h3 a0 10 0).bind fun r6 =>
    (zgI h3 a0 10 1).bind fun v6 =>
    (zcp h3 r5 (0 : Int32) r6 (0 : Int32) v6).bind fun h4 =>
    some (0, 0, h4) := by
  rw [show zf nX10_become = zFn zrecs 15 from rfl, zFn_eq (M := zr_X10_become) rfl zd_X10_become]
  exact (if_pos (Nat.le_of_ble_eq_true rfl)).trans ((zZ_eq zFn_mono _ _ _ _).trans rfl)
noncomputable def zm_X10_commonWith : zK4 := zZ zf zo_X10_commonWith [(2, 3)]
set_option maxRecDepth 50000 in
theorem e_X10_commonWith (a0 : Nat) (a1 : Nat) (h : zM) : zf nX10_commonWith [.inr a0, .inr a1] h =
  zm_X10_commonWith 2 [some (.inr a0), some (.inr a1), some (.inl (0 : Int32))] [] h := by
  rw [show zf nX10_commonWith = zFn zrecs 16 from rfl, zFn_eq (M := zr_X10_commonWith) rfl zd_X10_commonWith]
  exact (if_pos (Nat.le_of_ble_eq_true rfl)).trans ((zZ_eq zFn_mono _ _ _ _).trans rfl)
set_option maxRecDepth 50000 in
theorem e_X10_commonWith_2 (a0 : Nat) (a1 : Nat) (a2 : Int32) (h : zM) : zm_X10_commonWith 2 [some (.inr a0), some (.inr a1), some (.inl a2)] [] h =
  (zgI h a0 10 1).bind fun v1 =>
  if a2 < v1 then
    (zgI h a1 10 1).bind fun v2 =>
    if a2 < v2 then
      (zgF h a0 10 0).bind fun r1 =>
      (zia h r1 a2).bind fun v3 =>
      (zgF h a1 10 0).bind fun r2 =>
      (zia h r2 a2).bind fun v4 =>
      if v3 = v4 then
        zm_X10_commonWith 2 [some (.inr a0), some (.inr a1), some (.inl (a2 + (1 : Int32)))] [] h
      else
        some (a2, 0, h)
    else
      some (a2, 0, h)
  else
    some (a2, 0, h) := (zZ_eq zFn_mono _ _ _ _).trans rfl
noncomputable def zm_J9_min_7cf53 : zK4 := zZ zf zo_J9_min_7cf53 []
set_option maxRecDepth 50000 in
theorem e_J9_min_7cf53 (a0 : Int32) (a1 : Int32) (h : zM) : zf nJ9_min_7cf53 [.inl a0, .inl a1] h =
  if a1 < a0 then
    some (a1, 0, h)
  else
    some (a0, 0, h) := by
  rw [show zf nJ9_min_7cf53 = zFn zrecs 17 from rfl, zFn_eq (M := zr_J9_min_7cf53) rfl zd_J9_min_7cf53]
  exact (if_pos (Nat.le_of_ble_eq_true rfl)).trans ((zZ_eq zFn_mono _ _ _ _).trans rfl)
noncomputable def zm_X10_dropFirst : zK4 := zZ zf zo_X10_dropFirst []
set_option maxRecDepth 50000 in
theorem e_X10_dropFirst (a0 : Nat) (a1 : Int32) (h : zM) : zf nX10_dropFirst [.inr a0, .inl a1] h =
  if 0 < a1 then
    (zgI h a0 10 1).bind fun v1 =>
    (zf nJ9_min_7cf53 [.inl a1, .inl v1] h).bind fun u1 =>
    (zgF u1.2.2 a0 10 0).bind fun r1 =>
    (zgF u1.2.2 a0 10 0).bind fun r2 =>
    (zgI u1.2.2 a0 10 1).bind fun v2 =>
    (zcp u1.2.2 r1 u1.1 r2 (0 : Int32) (v2 - u1.1)).bind fun h1 =>
    (zgI h1 a0 10 1).bind fun v3 =>
    (zpI h1 a0 10 1 (v3 - u1.1)).bind fun h2 =>
    some (0, 0, h2)
  else
    some (0, 0, h) := by
  rw [show zf nX10_dropFirst = zFn zrecs 18 from rfl, zFn_eq (M := zr_X10_dropFirst) rfl zd_X10_dropFirst]
  exact (if_pos (Nat.le_of_ble_eq_true rfl)).trans ((zZ_eq zFn_mono _ _ _ _).trans rfl)
noncomputable def zm_X4_follow : zK4 := zZ zf zo_X4_follow []
set_option maxRecDepth 50000 in
theorem e_X4_follow (a0 : Nat) (a1 : Nat) (a2 : Int32) (a3 : Int32) (h : zM) : zf nX4_follow [.inr a0, .inr a1, .inl a2, .inl a3] h =
  (zgF h a0 4 2).bind fun r1 =>
  (zgF h a1 4 2).bind fun r2 =>
  zif (zK h r1 = 11) (
  (zf nX10_become [.inr r1, .inr r2] h).bind fun u1 =>
  (zgF u1.2.2 a0 4 2).bind fun r3 =>
  zif (zK u1.2.2 r3 = 11) (
  (zf nX10_addNumber [.inr r3, .inl a2] u1.2.2).bind fun u2 =>
  (zgF u2.2.2 a0 4 3).bind fun r4 =>
  (zgF u2.2.2 a1 4 3).bind fun r5 =>
  zif (zK u2.2.2 r4 = 11) (
  (zf nX10_become [.inr r4, .inr r5] u2.2.2).bind fun u3 =>
  (zgF u3.2.2 a0 4 3).bind fun r6 =>
  zif (zK u3.2.2 r6 = 11) (
  (zf nX10_addNumber [.inr r6, .inl a3] u3.2.2).bind fun u4 =>
  (zgF u4.2.2 a0 4 2).bind fun r7 =>
  (zgF u4.2.2 a0 4 3).bind fun r8 =>
  zif (zK u4.2.2 r7 = 11) (
  (zf nX10_commonWith [.inr r7, .inr r8] u4.2.2).bind fun u5 =>
  (zgF u5.2.2 a0 4 2).bind fun r9 =>
  zif (zK u5.2.2 r9 = 11) (
  (zf nX10_dropFirst [.inr r9, .inl u5.1] u5.2.2).bind fun u6 =>
  (zgF u6.2.2 a0 4 3).bind fun r10 =>
  zif (zK u6.2.2 r10 = 11) (
  (zf nX10_dropFirst [.inr r10, .inl u5.1] u6.2.2).bind fun u7 =>
  some (0, 0, u7.2.2)))))))) := by
  rw [show zf nX4_follow = zFn zrecs 19 from rfl, zFn_eq (M := zr_X4_follow) rfl zd_X4_follow]
  exact (if_pos (Nat.le_of_ble_eq_true rfl)).trans ((zZ_eq zFn_mono _ _ _ _).trans rfl)
noncomputable def zm_J9_max_7cf53 : zK4 := zZ zf zo_J9_max_7cf53 []
set_option maxRecDepth 50000 in
theorem e_J9_max_7cf53 (a0 : Int32) (a1 : Int32) (h : zM) : zf nJ9_max_7cf53 [.inl a0, .inl a1] h =
  if a0 < a1 then
    some (a1, 0, h)
  else
    some (a0, 0, h) := by
  rw [show zf nJ9_max_7cf53 = zFn zrecs 20 from rfl, zFn_eq (M := zr_J9_max_7cf53) rfl zd_J9_max_7cf53]
  exact (if_pos (Nat.le_of_ble_eq_true rfl)).trans ((zZ_eq zFn_mono _ _ _ _).trans rfl)
noncomputable def zm_X10_shortenTo : zK4 := zZ zf zo_X10_shortenTo []
set_option maxRecDepth 50000 in
theorem e_X10_shortenTo (a0 : Nat) (a1 : Int32) (h : zM) : zf nX10_shortenTo [.inr a0, .inl a1] h =
  (zgI h a0 10 1).bind fun v1 =>
  (zf nJ9_min_7cf53 [.inl v1, .inl a1] h).bind fun u1 =>
  (zf nJ9_max_7cf53 [.inl (0 : Int32), .inl u1.1] u1.2.2).bind fun u2 =>
  (zpI u2.2.2 a0 10 1 u2.1).bind fun h1 =>
  some (0, 0, h1) := by
  rw [show zf nX10_shortenTo = zFn zrecs 21 from rfl, zFn_eq (M := zr_X10_shortenTo) rfl zd_X10_shortenTo]
  exact (if_pos (Nat.le_of_ble_eq_true rfl)).trans ((zZ_eq zFn_mono _ _ _ _).trans rfl)
noncomputable def zm_X4_forgetHowApart : zK4 := zZ zf zo_X4_forgetHowApart []
set_option maxRecDepth 50000 in
theorem e_X4_forgetHowApart (a0 : Nat) (h : zM) : zf nX4_forgetHowApart [.inr a0] h =
  (zgF h a0 4 2).bind fun r1 =>
  zif (zK h r1 = 11) (
  (zf nX10_shortenTo [.inr r1, .inl (1 : Int32)] h).bind fun u1 =>
  (zgF u1.2.2 a0 4 3).bind fun r2 =>
  zif (zK u1.2.2 r2 = 11) (
  (zf nX10_shortenTo [.inr r2, .inl (1 : Int32)] u1.2.2).bind fun u2 =>
  some (0, 0, u2.2.2))) := by
  rw [show zf nX4_forgetHowApart = zFn zrecs 22 from rfl, zFn_eq (M := zr_X4_forgetHowApart) rfl zd_X4_forgetHowApart]
  exact (if_pos (Nat.le_of_ble_eq_true rfl)).trans ((zZ_eq zFn_mono _ _ _ _).trans rfl)
noncomputable def zm_X0_pairUp : zK4 := zZ zf zo_X0_pairUp [(3, 6)]
set_option maxRecDepth 50000 in
theorem e_X0_pairUp (a0 : Nat) (a1 : Nat) (a2 : Int32) (a3 : Nat) (a4 : Int32) (h : zM) : zf nX0_pairUp [.inr a0, .inr a1, .inl a2, .inr a3, .inl a4] h =
  zm_X0_pairUp 3 [some (.inr a0), some (.inr a1), some (.inl a2), some (.inr a3), some (.inl a4), some (.inl (0 : Int32)), none] [] h := by
  rw [show zf nX0_pairUp = zFn zrecs 23 from rfl, zFn_eq (M := zr_X0_pairUp) rfl zd_X0_pairUp]
  exact (if_pos (Nat.le_of_ble_eq_true rfl)).trans ((zZ_eq zFn_mono _ _ _ _).trans rfl)
set_option maxRecDepth 50000 in
theorem e_X0_pairUp_3 (a0 : Nat) (a1 : Nat) (a2 : Int32) (a3 : Nat) (a4 : Int32) (a5 : Int32) (h : zM) : zm_X0_pairUp 3 [some (.inr a0), some (.inr a1), some (.inl a2), some (.inr a3), some (.inl a4), some (.inl a5), none] [] h =
  (zgI h a3 2 1).bind fun v1 =>
  if a5 < v1 then
    (zgF h a3 2 4).bind fun r1 =>
    (zia h r1 a5).bind fun v2 =>
    (zgF h a0 0 0).bind fun r2 =>
    (zaa h r2 a4).bind fun r3 =>
    (zgI h r3 4 1).bind fun v3 =>
    if v2 = v3 then
      (zgF h a3 2 5).bind fun r4 =>
      (zia h r4 a5).bind fun v4 =>
      (zgF h a1 2 5).bind fun r5 =>
      (zia h r5 a2).bind fun v5 =>
      if v4 = v5 then
        (zgI h a0 0 1).bind fun v6 =>
        if v6 < (72 : Int32) then
          (zgF h a0 0 0).bind fun r6 =>
          (zgI h a0 0 1).bind fun v7 =>
          (zaa h r6 v7).bind fun r7 =>
          (zgF h a1 2 6).bind fun r8 =>
          (zia h r8 a2).bind fun v8 =>
          (zpI h r7 4 0 v8).bind fun h1 =>
          (zgF h1 a3 2 6).bind fun r9 =>
          (zia h1 r9 a5).bind fun v9 =>
          (zpI h1 r7 4 1 v9).bind fun h2 =>
          (zgF h2 a0 0 0).bind fun r10 =>
          (zaa h2 r10 a4).bind fun r11 =>
          (zgF h2 a1 2 7).bind fun r12 =>
          (zia h2 r12 a2).bind fun v10 =>
          (zgF h2 a3 2 7).bind fun r13 =>
          (zia h2 r13 a5).bind fun v11 =>
          zif (zK h2 r7 = 5) (
          (zf nX4_follow [.inr r7, .inr r11, .inl v10, .inl v11] h2).bind fun u1 =>
          zif (zK u1.2.2 r7 = 5) (
          (zf nX4_isApart [.inr r7] u1.2.2).bind fun u2 =>
          if u2.1 = 0 then
            zif (zK u2.2.2 a0 = 1) (
            (zf nX0_keep [.inr a0] u2.2.2).bind fun u3 =>
            zm_X0_pairUp 3 [some (.inr a0), some (.inr a1), some (.inl a2), some (.inr a3), some (.inl a4), some (.inl (a5 + (1 : Int32))), none] [] u3.2.2)
          else
            zif (zK u2.2.2 r7 = 5) (
            (zf nX4_forgetHowApart [.inr r7] u2.2.2).bind fun u4 =>
            zif (zK u4.2.2 a0 = 1) (
            (zf nX0_keep [.inr a0] u4.2.2).bind fun u5 =>
            zm_X0_pairUp 3 [some (.inr a0), some (.inr a1), some (.inl a2), some (.inr a3), some (.inl a4), some (.inl (a5 + (1 : Int32))), none] [] u5.2.2))))
        else
          zm_X0_pairUp 3 [some (.inr a0), some (.inr a1), some (.inl a2), some (.inr a3), some (.inl a4), some (.inl (a5 + (1 : Int32))), none] [] h
      else
        zm_X0_pairUp 3 [some (.inr a0), some (.inr a1), some (.inl a2), some (.inr a3), some (.inl a4), some (.inl (a5 + (1 : Int32))), none] [] h
    else
      zm_X0_pairUp 3 [some (.inr a0), some (.inr a1), some (.inl a2), some (.inr a3), some (.inl a4), some (.inl (a5 + (1 : Int32))), none] [] h
  else
    some (0, 0, h) := (zZ_eq zFn_mono _ _ _ _).trans rfl
noncomputable def zm_X0_grow : zK4 := zZ zf zo_X0_grow [(14, 7), (28, 8)]
set_option maxRecDepth 50000 in
theorem e_X0_grow (a0 : Nat) (a1 : Nat) (a2 : Nat) (a3 : Int32) (a4 : Int32) (h : zM) : zf nX0_grow [.inr a0, .inr a1, .inr a2, .inl a3, .inl a4] h =
  (zgI h a0 0 1).bind fun v1 =>
  (zgF h a0 0 4).bind fun r1 =>
  (zia h r1 a3).bind fun v2 =>
  zm_X0_grow 14 [some (.inr a0), some (.inr a1), some (.inr a2), some (.inl a3), some (.inl a4), some (.inl v1), some (.inl v2), none] [] h := by
  rw [show zf nX0_grow = zFn zrecs 24 from rfl, zFn_eq (M := zr_X0_grow) rfl zd_X0_grow]
  exact (if_pos (Nat.le_of_ble_eq_true rfl)).trans ((zZ_eq zFn_mono _ _ _ _).trans rfl)
set_option maxRecDepth 50000 in
theorem e_X0_grow_14 (a0 : Nat) (a1 : Nat) (a2 : Nat) (a3 : Int32) (a4 : Int32) (a5 : Int32) (a6 : Int32) (h : zM) : zm_X0_grow 14 [some (.inr a0), some (.inr a1), some (.inr a2), some (.inl a3), some (.inl a4), some (.inl a5), some (.inl a6), none] [] h =
  (zgF h a0 0 5).bind fun r1 =>
  (zia h r1 a3).bind fun v1 =>
  if a6 < v1 then
    zm_X0_grow 28 [some (.inr a0), some (.inr a1), some (.inr a2), some (.inl a3), some (.inl a4), some (.inl a5), some (.inl a6), some (.inl (0 : Int32))] [] h
  else
    zif (zK h a0 = 1) (
    (zf nX0_closeGroup [.inr a0, .inl a5, .inl a3, .inl a4] h).bind fun u1 =>
    some (0, 0, u1.2.2)) := (zZ_eq zFn_mono _ _ _ _).trans rfl
set_option maxRecDepth 50000 in
theorem e_X0_grow_28 (a0 : Nat) (a1 : Nat) (a2 : Nat) (a3 : Int32) (a4 : Int32) (a5 : Int32) (a6 : Int32) (a7 : Int32) (h : zM) : zm_X0_grow 28 [some (.inr a0), some (.inr a1), some (.inr a2), some (.inl a3), some (.inl a4), some (.inl a5), some (.inl a6), some (.inl a7)] [] h =
  (zgI h a1 2 1).bind fun v1 =>
  if a7 < v1 then
    (zgF h a1 2 4).bind fun r1 =>
    (zia h r1 a7).bind fun v2 =>
    (zgF h a0 0 0).bind fun r2 =>
    (zaa h r2 a6).bind fun r3 =>
    (zgI h r3 4 0).bind fun v3 =>
    if v2 = v3 then
      (zgF h a1 2 5).bind fun r4 =>
      (zia h r4 a7).bind fun v4 =>
      if v4 = a4 then
        zif (zK h a0 = 1) (
        (zf nX0_pairUp [.inr a0, .inr a1, .inl a7, .inr a2, .inl a6] h).bind fun u1 =>
        zm_X0_grow 28 [some (.inr a0), some (.inr a1), some (.inr a2), some (.inl a3), some (.inl a4), some (.inl a5), some (.inl a6), some (.inl (a7 + (1 : Int32)))] [] u1.2.2)
      else
        zm_X0_grow 28 [some (.inr a0), some (.inr a1), some (.inr a2), some (.inl a3), some (.inl a4), some (.inl a5), some (.inl a6), some (.inl (a7 + (1 : Int32)))] [] h
    else
      zm_X0_grow 28 [some (.inr a0), some (.inr a1), some (.inr a2), some (.inl a3), some (.inl a4), some (.inl a5), some (.inl a6), some (.inl (a7 + (1 : Int32)))] [] h
  else
    zm_X0_grow 14 [some (.inr a0), some (.inr a1), some (.inr a2), some (.inl a3), some (.inl a4), some (.inl a5), some (.inl (a6 + (1 : Int32))), none] [] h := (zZ_eq zFn_mono _ _ _ _).trans rfl
noncomputable def zm_X2_hasEnd : zK4 := zZ zf zo_X2_hasEnd []
set_option maxRecDepth 50000 in
theorem e_X2_hasEnd (a0 : Nat) (a1 : Int32) (h : zM) : zf nX2_hasEnd [.inr a0, .inl a1] h =
  (zgF h a0 2 3).bind fun r1 =>
  (zia h r1 a1).bind fun v1 =>
  if v1 = (-1 : Int32) then
    zb (0 : Int32) h
  else
    zb (1 : Int32) h := by
  rw [show zf nX2_hasEnd = zFn zrecs 25 from rfl, zFn_eq (M := zr_X2_hasEnd) rfl zd_X2_hasEnd]
  exact (if_pos (Nat.le_of_ble_eq_true rfl)).trans ((zZ_eq zFn_mono _ _ _ _).trans rfl)
noncomputable def zm_X0_shows : zK4 := zZ zf zo_X0_shows [(8, 5)]
set_option maxRecDepth 50000 in
theorem e_X0_shows (a0 : Nat) (a1 : Nat) (a2 : Nat) (a3 : Int32) (h : zM) : zf nX0_shows [.inr a0, .inr a1, .inr a2, .inl a3] h =
  (zgF h a0 0 4).bind fun r1 =>
  (zia h r1 a3).bind fun v1 =>
  zm_X0_shows 8 [some (.inr a0), some (.inr a1), some (.inr a2), some (.inl a3), some (.inl v1), none] [] h := by
  rw [show zf nX0_shows = zFn zrecs 26 from rfl, zFn_eq (M := zr_X0_shows) rfl zd_X0_shows]
  exact (if_pos (Nat.le_of_ble_eq_true rfl)).trans ((zZ_eq zFn_mono _ _ _ _).trans rfl)
set_option maxRecDepth 50000 in
theorem e_X0_shows_8 (a0 : Nat) (a1 : Nat) (a2 : Nat) (a3 : Int32) (a4 : Int32) (h : zM) : zm_X0_shows 8 [some (.inr a0), some (.inr a1), some (.inr a2), some (.inl a3), some (.inl a4), none] [] h =
  (zgF h a0 0 5).bind fun r1 =>
  (zia h r1 a3).bind fun v1 =>
  if a4 < v1 then
    (zgF h a0 0 0).bind fun r2 =>
    (zaa h r2 a4).bind fun r3 =>
    (zgI h r3 4 0).bind fun v2 =>
    zif (zK h a1 = 3) (
    (zf nX2_hasEnd [.inr a1, .inl v2] h).bind fun u1 =>
    if u1.1 = 0 then
      zm_X0_shows 8 [some (.inr a0), some (.inr a1), some (.inr a2), some (.inl a3), some (.inl (a4 + (1 : Int32))), none] [] u1.2.2
    else
      (zgI u1.2.2 r3 4 1).bind fun v3 =>
      zif (zK u1.2.2 a2 = 3) (
      (zf nX2_hasEnd [.inr a2, .inl v3] u1.2.2).bind fun u2 =>
      if u2.1 = 0 then
        zm_X0_shows 8 [some (.inr a0), some (.inr a1), some (.inr a2), some (.inl a3), some (.inl (a4 + (1 : Int32))), none] [] u2.2.2
      else
        (zgF u2.2.2 a0 0 9).bind fun r4 =>
        (zgF u2.2.2 r3 4 2).bind fun r5 =>
        zif (zK u2.2.2 r4 = 11) (
        (zf nX10_become [.inr r4, .inr r5] u2.2.2).bind fun u3 =>
        (zgF u3.2.2 a0 0 9).bind fun r6 =>
        (zgF u3.2.2 a1 2 3).bind fun r7 =>
        (zgI u3.2.2 r3 4 0).bind fun v4 =>
        (zia u3.2.2 r7 v4).bind fun v5 =>
        zif (zK u3.2.2 r6 = 11) (
        (zf nX10_addNumber [.inr r6, .inl v5] u3.2.2).bind fun u4 =>
        (zgF u4.2.2 a0 0 10).bind fun r8 =>
        (zgF u4.2.2 r3 4 3).bind fun r9 =>
        zif (zK u4.2.2 r8 = 11) (
        (zf nX10_become [.inr r8, .inr r9] u4.2.2).bind fun u5 =>
        (zgF u5.2.2 a0 0 10).bind fun r10 =>
        (zgF u5.2.2 a2 2 3).bind fun r11 =>
        (zgI u5.2.2 r3 4 1).bind fun v6 =>
        (zia u5.2.2 r11 v6).bind fun v7 =>
        zif (zK u5.2.2 r10 = 11) (
        (zf nX10_addNumber [.inr r10, .inl v7] u5.2.2).bind fun u6 =>
        (zgF u6.2.2 a0 0 9).bind fun r12 =>
        (zgF u6.2.2 a0 0 10).bind fun r13 =>
        zif (zK u6.2.2 r12 = 11) (
        (zf nX10_isAlike [.inr r12, .inr r13] u6.2.2).bind fun u7 =>
        if u7.1 = 0 then
          zb (1 : Int32) u7.2.2
        else
          zm_X0_shows 8 [some (.inr a0), some (.inr a1), some (.inr a2), some (.inl a3), some (.inl (a4 + (1 : Int32))), none] [] u7.2.2)))))))
  else
    zb (0 : Int32) h := (zZ_eq zFn_mono _ _ _ _).trans rfl
