noncomputable def zm_X10_reverse : zK4 := zZ zf zo_X10_reverse [(9, 3)]
set_option maxRecDepth 50000 in
theorem e_X10_reverse (a0 : Nat) (h : zM) : zf nX10_reverse [.inr a0] h =
  (zgI h a0 10 1).bind fun v1 =>
  zm_X10_reverse 9 [some (.inr a0), some (.inl (0 : Int32)), some (.inl (v1 - (1 : Int32))), none] [] h := by
  rw [show zf nX10_reverse = zFn zrecs 27 from rfl, zFn_eq (M := zr_X10_reverse) rfl zd_X10_reverse]
  exact (if_pos (Nat.le_of_ble_eq_true rfl)).trans ((zZ_eq zFn_mono _ _ _ _).trans rfl)
set_option maxRecDepth 50000 in
theorem e_X10_reverse_9 (a0 : Nat) (a1 : Int32) (a2 : Int32) (h : zM) : zm_X10_reverse 9 [some (.inr a0), some (.inl a1), some (.inl a2), none] [] h =
  if a1 < a2 then
    (zgF h a0 10 0).bind fun r1 =>
    (zia h r1 a1).bind fun v1 =>
    (zgF h a0 10 0).bind fun r2 =>
    (zgF h a0 10 0).bind fun r3 =>
    (zia h r3 a2).bind fun v2 =>
    (zis h r2 a1 v2).bind fun h1 =>
    (zgF h1 a0 10 0).bind fun r4 =>
    (zis h1 r4 a2 v1).bind fun h2 =>
    zm_X10_reverse 9 [some (.inr a0), some (.inl (a1 + (1 : Int32))), some (.inl (a2 + (-1 : Int32))), none] [] h2
  else
    some (0, 0, h) := (zZ_eq zFn_mono _ _ _ _).trans rfl
noncomputable def zm_X0_spell : zK4 := zZ zf zo_X0_spell [(9, 5)]
set_option maxRecDepth 50000 in
theorem e_X0_spell (a0 : Nat) (a1 : Int32) (a2 : Nat) (h : zM) : zf nX0_spell [.inr a0, .inl a1, .inr a2] h =
  zif (zK h a2 = 11) (
  (zf nX10_clear [.inr a2] h).bind fun u1 =>
  zm_X0_spell 9 [some (.inr a0), some (.inl a1), some (.inr a2), some (.inl a1), some (.inl (0 : Int32))] [] u1.2.2) := by
  rw [show zf nX0_spell = zFn zrecs 28 from rfl, zFn_eq (M := zr_X0_spell) rfl zd_X0_spell]
  exact (if_pos (Nat.le_of_ble_eq_true rfl)).trans ((zZ_eq zFn_mono _ _ _ _).trans rfl)
set_option maxRecDepth 50000 in
theorem e_X0_spell_9 (a0 : Nat) (a1 : Int32) (a2 : Nat) (a3 : Int32) (a4 : Int32) (h : zM) : zm_X0_spell 9 [some (.inr a0), some (.inl a1), some (.inr a2), some (.inl a3), some (.inl a4)] [] h =
  if (72 : Int32) < a4 then
    zif (zK h a2 = 11) (
    (zf nX10_reverse [.inr a2] h).bind fun u1 =>
    some (0, 0, u1.2.2))
  else
    if 0 < a3 then
      (zgF h a0 0 7).bind fun r1 =>
      (zia h r1 a3).bind fun v1 =>
      zif (zK h a2 = 11) (
      (zf nX10_add [.inr a2, .inl v1] h).bind fun u2 =>
      (zgF u2.2.2 a0 0 6).bind fun r2 =>
      (zia u2.2.2 r2 a3).bind fun v2 =>
      zm_X0_spell 9 [some (.inr a0), some (.inl a1), some (.inr a2), some (.inl v2), some (.inl (a4 + (1 : Int32)))] [] u2.2.2)
    else
      zif (zK h a2 = 11) (
      (zf nX10_reverse [.inr a2] h).bind fun u3 =>
      some (0, 0, u3.2.2)) := (zZ_eq zFn_mono _ _ _ _).trans rfl
noncomputable def zm_X0_differ : zK4 := zZ zf zo_X0_differ [(9, 5), (48, 6)]
set_option maxRecDepth 50000 in
theorem e_X0_differ (a0 : Nat) (a1 : Nat) (a2 : Nat) (a3 : Nat) (h : zM) : zf nX0_differ [.inr a0, .inr a1, .inr a2, .inr a3] h =
  zif (zK h a0 = 1) (
  (zf nX0_begin [.inr a0, .inr a1, .inr a2] h).bind fun u1 =>
  zm_X0_differ 9 [some (.inr a0), some (.inr a1), some (.inr a2), some (.inr a3), some (.inl (0 : Int32)), none] [] u1.2.2) := by
  rw [show zf nX0_differ = zFn zrecs 29 from rfl, zFn_eq (M := zr_X0_differ) rfl zd_X0_differ]
  exact (if_pos (Nat.le_of_ble_eq_true rfl)).trans ((zZ_eq zFn_mono _ _ _ _).trans rfl)
set_option maxRecDepth 50000 in
theorem e_X0_differ_9 (a0 : Nat) (a1 : Nat) (a2 : Nat) (a3 : Nat) (a4 : Int32) (h : zM) : zm_X0_differ 9 [some (.inr a0), some (.inr a1), some (.inr a2), some (.inr a3), some (.inl a4), none] [] h =
  (zgI h a0 0 8).bind fun v1 =>
  if a4 < v1 then
    if (72 : Int32) < a4 then
      zb (0 : Int32) h
    else
      zif (zK h a0 = 1) (
      (zf nX0_shows [.inr a0, .inr a1, .inr a2, .inl a4] h).bind fun u1 =>
      if u1.1 = 0 then
        zm_X0_differ 48 [some (.inr a0), some (.inr a1), some (.inr a2), some (.inr a3), some (.inl a4), some (.inl (1 : Int32))] [] u1.2.2
      else
        zif (zK u1.2.2 a0 = 1) (
        (zf nX0_spell [.inr a0, .inl a4, .inr a3] u1.2.2).bind fun u2 =>
        zb (1 : Int32) u2.2.2))
  else
    zb (0 : Int32) h := (zZ_eq zFn_mono _ _ _ _).trans rfl
set_option maxRecDepth 50000 in
theorem e_X0_differ_48 (a0 : Nat) (a1 : Nat) (a2 : Nat) (a3 : Nat) (a4 : Int32) (a5 : Int32) (h : zM) : zm_X0_differ 48 [some (.inr a0), some (.inr a1), some (.inr a2), some (.inr a3), some (.inl a4), some (.inl a5)] [] h =
  if (3 : Int32) < a5 then
    zm_X0_differ 9 [some (.inr a0), some (.inr a1), some (.inr a2), some (.inr a3), some (.inl (a4 + (1 : Int32))), none] [] h
  else
    zif (zK h a0 = 1) (
    (zf nX0_grow [.inr a0, .inr a1, .inr a2, .inl a4, .inl a5] h).bind fun u1 =>
    zm_X0_differ 48 [some (.inr a0), some (.inr a1), some (.inr a2), some (.inr a3), some (.inl a4), some (.inl (a5 + (1 : Int32)))] [] u1.2.2) := (zZ_eq zFn_mono _ _ _ _).trans rfl
noncomputable def zm_X11_makeWords : zK4 := zZ zf zo_X11_makeWords [(7, 4)]
set_option maxRecDepth 50000 in
theorem e_X11_makeWords (a0 : Int32) (a1 : Int32) (h : zM) : zf nX11_makeWords [.inl a0, .inl a1] h =
  (zna h 104 a0).bind fun h1 =>
  zm_X11_makeWords 7 [some (.inl a0), some (.inl a1), some (.inr h.1.1), some (.inl (0 : Int32))] [] h1 := by
  rw [show zf nX11_makeWords = zFn zrecs 30 from rfl, zFn_eq (M := zr_X11_makeWords) rfl zd_X11_makeWords]
  exact (if_pos (Nat.le_of_ble_eq_true rfl)).trans ((zZ_eq zFn_mono _ _ _ _).trans rfl)
set_option maxRecDepth 50000 in
theorem e_X11_makeWords_7 (a0 : Int32) (a1 : Int32) (a2 : Nat) (a3 : Int32) (h : zM) : zm_X11_makeWords 7 [some (.inl a0), some (.inl a1), some (.inr a2), some (.inl a3)] [] h =
  if a3 < a0 then
    zif (zK (zmk h 11 2) h.1.1 = 11) (
    (zf nX10_init [.inr h.1.1, .inl a1] (zmk h 11 2)).bind fun u1 =>
    (zas u1.2.2 a2 a3 h.1.1).bind fun h1 =>
    zm_X11_makeWords 7 [some (.inl a0), some (.inl a1), some (.inr a2), some (.inl (a3 + (1 : Int32)))] [] h1)
  else
    some (0, a2, h) := (zZ_eq zFn_mono _ _ _ _).trans rfl
noncomputable def zm_X1_init : zK4 := zZ zf zo_X1_init []
set_option maxRecDepth 50000 in
theorem e_X1_init (a0 : Nat) (a1 : Nat) (h : zM) : zf nX1_init [.inr a0, .inr a1] h =
  if a0 = 0 then none else
  (zpF h a0 1 2 a1).bind fun h1 =>
  (zpI h1 a0 1 0 (0 : Int32)).bind fun h2 =>
  (zpI h2 a0 1 1 (0 : Int32)).bind fun h3 =>
  (zna h3 103 (100 : Int32)).bind fun h4 =>
  (zpF h4 a0 1 3 h3.1.1).bind fun h5 =>
  (zf nX11_makeWords [.inl (100 : Int32), .inl (111 : Int32)] h5).bind fun u1 =>
  (zpF u1.2.2 a0 1 4 u1.2.1).bind fun h6 =>
  (zf nX11_makeWords [.inl (100 : Int32), .inl (129 : Int32)] h6).bind fun u2 =>
  (zpF u2.2.2 a0 1 5 u2.2.1).bind fun h7 =>
  (zna h7 101 (100 : Int32)).bind fun h8 =>
  (zpF h8 a0 1 6 h7.1.1).bind fun h9 =>
  (zna h9 101 (100 : Int32)).bind fun h10 =>
  (zpF h10 a0 1 7 h9.1.1).bind fun h11 =>
  (zna h11 101 (100 : Int32)).bind fun h12 =>
  (zpF h12 a0 1 8 h11.1.1).bind fun h13 =>
  (zna h13 101 (100 : Int32)).bind fun h14 =>
  (zpF h14 a0 1 9 h13.1.1).bind fun h15 =>
  (zna h15 101 (100 : Int32)).bind fun h16 =>
  (zpF h16 a0 1 10 h15.1.1).bind fun h17 =>
  some (0, 0, h17) := by
  rw [show zf nX1_init = zFn zrecs 31 from rfl, zFn_eq (M := zr_X1_init) rfl zd_X1_init]
  exact (if_pos (Nat.le_of_ble_eq_true rfl)).trans ((zZ_eq zFn_mono _ _ _ _).trans rfl)
noncomputable def zm_X10_addWord : zK4 := zZ zf zo_X10_addWord []
set_option maxRecDepth 50000 in
theorem e_X10_addWord (a0 : Nat) (a1 : Nat) (h : zM) : zf nX10_addWord [.inr a0, .inr a1] h =
  (zgF h a0 10 0).bind fun r1 =>
  (zal h r1).bind fun v1 =>
  (zgI h a0 10 1).bind fun v2 =>
  (zgI h a1 10 1).bind fun v3 =>
  if v3 < (v1 - v2) then
    (zgI h a1 10 1).bind fun v4 =>
    (zgF h a1 10 0).bind fun r2 =>
    (zgF h a0 10 0).bind fun r3 =>
    (zgI h a0 10 1).bind fun v5 =>
    (zcp h r2 (0 : Int32) r3 v5 v4).bind fun h1 =>
    (zgI h1 a0 10 1).bind fun v6 =>
    (zpI h1 a0 10 1 (v6 + v4)).bind fun h2 =>
    some (0, 0, h2)
  else
    (zgF h a1 10 0).bind fun r4 =>
    (zgF h a0 10 0).bind fun r5 =>
    (zgI h a0 10 1).bind fun v7 =>
    (zcp h r4 (0 : Int32) r5 v7 (v1 - v2)).bind fun h3 =>
    (zgI h3 a0 10 1).bind fun v8 =>
    (zpI h3 a0 10 1 (v8 + (v1 - v2))).bind fun h4 =>
    some (0, 0, h4) := by
  rw [show zf nX10_addWord = zFn zrecs 32 from rfl, zFn_eq (M := zr_X10_addWord) rfl zd_X10_addWord]
  exact (if_pos (Nat.le_of_ble_eq_true rfl)).trans ((zZ_eq zFn_mono _ _ _ _).trans rfl)
noncomputable def zm_X1_guess : zK4 := zZ zf zo_X1_guess [(4, 4)]
set_option maxRecDepth 50000 in
theorem e_X1_guess (a0 : Nat) (a1 : Int32) (a2 : Int32) (h : zM) : zf nX1_guess [.inr a0, .inl a1, .inl a2] h =
  zm_X1_guess 4 [some (.inr a0), some (.inl a1), some (.inl a2), some (.inl (a1 * (3 : Int32))), none] [] h := by
  rw [show zf nX1_guess = zFn zrecs 33 from rfl, zFn_eq (M := zr_X1_guess) rfl zd_X1_guess]
  exact (if_pos (Nat.le_of_ble_eq_true rfl)).trans ((zZ_eq zFn_mono _ _ _ _).trans rfl)
set_option maxRecDepth 50000 in
theorem e_X1_guess_4 (a0 : Nat) (a1 : Int32) (a2 : Int32) (a3 : Int32) (h : zM) : zm_X1_guess 4 [some (.inr a0), some (.inl a1), some (.inl a2), some (.inl a3), none] [] h =
  if a3 < ((a1 + (1 : Int32)) * (3 : Int32)) then
    (zgF h a0 1 2).bind fun r1 =>
    (zgF h r1 6 3).bind fun r2 =>
    (zia h r2 a3).bind fun v1 =>
    if v1 = (-1 : Int32) then
      zm_X1_guess 4 [some (.inr a0), some (.inl a1), some (.inl a2), some (.inl (a3 + (1 : Int32))), none] [] h
    else
      (zgF h a0 1 6).bind fun r3 =>
      (zia h r3 v1).bind fun v2 =>
      if v2 = (a2 - (1 : Int32)) then
        (zgF h a0 1 6).bind fun r4 =>
        (zis h r4 a1 a2).bind fun h1 =>
        (zgF h1 a0 1 5).bind fun r5 =>
        (zaa h1 r5 a1).bind fun r6 =>
        (zgF h1 a0 1 2).bind fun r7 =>
        (zgF h1 r7 6 4).bind fun r8 =>
        (zaa h1 r8 a3).bind fun r9 =>
        zif (zK h1 r6 = 11) (
        (zf nX10_become [.inr r6, .inr r9] h1).bind fun u1 =>
        (zgF u1.2.2 a0 1 5).bind fun r10 =>
        (zaa u1.2.2 r10 a1).bind fun r11 =>
        (zgF u1.2.2 a0 1 5).bind fun r12 =>
        (zaa u1.2.2 r12 v1).bind fun r13 =>
        zif (zK u1.2.2 r11 = 11) (
        (zf nX10_addWord [.inr r11, .inr r13] u1.2.2).bind fun u2 =>
        zb (1 : Int32) u2.2.2))
      else
        zm_X1_guess 4 [some (.inr a0), some (.inl a1), some (.inl a2), some (.inl (a3 + (1 : Int32))), none] [] h
  else
    zb (0 : Int32) h := (zZ_eq zFn_mono _ _ _ _).trans rfl
noncomputable def zm_X1_guessCommons : zK4 := zZ zf zo_X1_guessCommons [(4, 3), (64, 3), (88, 4)]
set_option maxRecDepth 50000 in
theorem e_X1_guessCommons (a0 : Nat) (h : zM) : zf nX1_guessCommons [.inr a0] h =
  zm_X1_guessCommons 4 [some (.inr a0), some (.inl (0 : Int32)), some (.inl (0 : Int32)), none] [] h := by
  rw [show zf nX1_guessCommons = zFn zrecs 34 from rfl, zFn_eq (M := zr_X1_guessCommons) rfl zd_X1_guessCommons]
  exact (if_pos (Nat.le_of_ble_eq_true rfl)).trans ((zZ_eq zFn_mono _ _ _ _).trans rfl)
set_option maxRecDepth 50000 in
theorem e_X1_guessCommons_4 (a0 : Nat) (a1 : Int32) (a2 : Int32) (h : zM) : zm_X1_guessCommons 4 [some (.inr a0), some (.inl a1), some (.inl a2), none] [] h =
  (zgF h a0 1 2).bind fun r1 =>
  (zgI h r1 6 0).bind fun v1 =>
  if a2 < v1 then
    (zgF h a0 1 6).bind fun r2 =>
    (zis h r2 a2 (-1 : Int32)).bind fun h1 =>
    (zgF h1 a0 1 3).bind fun r3 =>
    (zba h1 r3 a2).bind fun v2 =>
    if v2 = 0 then
      zm_X1_guessCommons 4 [some (.inr a0), some (.inl a1), some (.inl (a2 + (1 : Int32))), none] [] h1
    else
      (zgF h1 a0 1 6).bind fun r4 =>
      (zis h1 r4 a2 (0 : Int32)).bind fun h2 =>
      (zgF h2 a0 1 5).bind fun r5 =>
      (zaa h2 r5 a2).bind fun r6 =>
      (zgF h2 a0 1 4).bind fun r7 =>
      (zaa h2 r7 a2).bind fun r8 =>
      zif (zK h2 r6 = 11) (
      (zf nX10_become [.inr r6, .inr r8] h2).bind fun u1 =>
      zm_X1_guessCommons 4 [some (.inr a0), some (.inl (a1 + (1 : Int32))), some (.inl (a2 + (1 : Int32))), none] [] u1.2.2)
  else
    zm_X1_guessCommons 64 [some (.inr a0), some (.inl a1), some (.inl (1 : Int32)), none] [] h := (zZ_eq zFn_mono _ _ _ _).trans rfl
set_option maxRecDepth 50000 in
theorem e_X1_guessCommons_64 (a0 : Nat) (a1 : Int32) (a2 : Int32) (h : zM) : zm_X1_guessCommons 64 [some (.inr a0), some (.inl a1), some (.inl a2), none] [] h =
  (zgF h a0 1 2).bind fun r1 =>
  (zgI h r1 6 0).bind fun v1 =>
  if v1 < a2 then
    some (0, 0, h)
  else
    (zgF h a0 1 2).bind fun r2 =>
    (zgI h r2 6 0).bind fun v2 =>
    if a1 < v2 then
      zm_X1_guessCommons 88 [some (.inr a0), some (.inl a1), some (.inl a2), some (.inl (0 : Int32))] [] h
    else
      some (0, 0, h) := (zZ_eq zFn_mono _ _ _ _).trans rfl
set_option maxRecDepth 50000 in
theorem e_X1_guessCommons_88 (a0 : Nat) (a1 : Int32) (a2 : Int32) (a3 : Int32) (h : zM) : zm_X1_guessCommons 88 [some (.inr a0), some (.inl a1), some (.inl a2), some (.inl a3)] [] h =
  (zgF h a0 1 2).bind fun r1 =>
  (zgI h r1 6 0).bind fun v1 =>
  if a3 < v1 then
    (zgF h a0 1 6).bind fun r2 =>
    (zia h r2 a3).bind fun v2 =>
    if v2 = (-1 : Int32) then
      zif (zK h a0 = 2) (
      (zf nX1_guess [.inr a0, .inl a3, .inl a2] h).bind fun u1 =>
      if u1.1 = 0 then
        zm_X1_guessCommons 88 [some (.inr a0), some (.inl a1), some (.inl a2), some (.inl (a3 + (1 : Int32)))] [] u1.2.2
      else
        zm_X1_guessCommons 88 [some (.inr a0), some (.inl (a1 + (1 : Int32))), some (.inl a2), some (.inl (a3 + (1 : Int32)))] [] u1.2.2)
    else
      zm_X1_guessCommons 88 [some (.inr a0), some (.inl a1), some (.inl a2), some (.inl (a3 + (1 : Int32)))] [] h
  else
    zm_X1_guessCommons 64 [some (.inr a0), some (.inl a1), some (.inl (a2 + (1 : Int32))), none] [] h := (zZ_eq zFn_mono _ _ _ _).trans rfl
noncomputable def zm_X1_call : zK4 := zZ zf zo_X1_call []
set_option maxRecDepth 50000 in
theorem e_X1_call (a0 : Nat) (a1 : Int32) (h : zM) : zf nX1_call [.inr a0, .inl a1] h =
  (zgF h a0 1 7).bind fun r1 =>
  (zia h r1 a1).bind fun v1 =>
  (zgF h a0 1 9).bind fun r2 =>
  (zia h r2 v1).bind fun v2 =>
  if v2 = (-1 : Int32) then
    (zgI h a0 1 0).bind fun v3 =>
    if v3 < (100 : Int32) then
      (zgF h a0 1 9).bind fun r3 =>
      (zgI h a0 1 0).bind fun v4 =>
      (zis h r3 v1 v4).bind fun h1 =>
      (zgF h1 a0 1 10).bind fun r4 =>
      (zgI h1 a0 1 0).bind fun v5 =>
      (zis h1 r4 v5 a1).bind fun h2 =>
      (zgI h2 a0 1 0).bind fun v6 =>
      (zpI h2 a0 1 0 (v6 + (1 : Int32))).bind fun h3 =>
      some (0, 0, h3)
    else
      some (0, 0, h)
  else
    some (0, 0, h) := by
  rw [show zf nX1_call = zFn zrecs 35 from rfl, zFn_eq (M := zr_X1_call) rfl zd_X1_call]
  exact (if_pos (Nat.le_of_ble_eq_true rfl)).trans ((zZ_eq zFn_mono _ _ _ _).trans rfl)
noncomputable def zm_X1_number : zK4 := zZ zf zo_X1_number [(35, 2), (51, 3)]
set_option maxRecDepth 50000 in
theorem e_X1_number (a0 : Nat) (h : zM) : zf nX1_number [.inr a0] h =
  (zpI h a0 1 0 (0 : Int32)).bind fun h1 =>
  (zpI h1 a0 1 1 (0 : Int32)).bind fun h2 =>
  (zgF h2 a0 1 9).bind fun r1 =>
  (zf nJ7_fill_53178 [.inr r1, .inl (-1 : Int32)] h2).bind fun u1 =>
  (zgF u1.2.2 a0 1 2).bind fun r2 =>
  (zgI u1.2.2 r2 6 0).bind fun v1 =>
  if 0 < v1 then
    zif (zK u1.2.2 a0 = 2) (
    (zf nX1_call [.inr a0, .inl (0 : Int32)] u1.2.2).bind fun u2 =>
    zm_X1_number 35 [some (.inr a0), some (.inl (0 : Int32)), none, none] [] u2.2.2)
  else
    zm_X1_number 35 [some (.inr a0), some (.inl (0 : Int32)), none, none] [] u1.2.2 := by
  rw [show zf nX1_number = zFn zrecs 36 from rfl, zFn_eq (M := zr_X1_number) rfl zd_X1_number]
  exact (if_pos (Nat.le_of_ble_eq_true rfl)).trans ((zZ_eq zFn_mono _ _ _ _).trans rfl)
set_option maxRecDepth 50000 in
theorem e_X1_number_35 (a0 : Nat) (a1 : Int32) (h : zM) : zm_X1_number 35 [some (.inr a0), some (.inl a1), none, none] [] h =
  (zgI h a0 1 0).bind fun v1 =>
  if a1 < v1 then
    if a1 < (100 : Int32) then
      zm_X1_number 51 [some (.inr a0), some (.inl a1), some (.inl (0 : Int32)), none] [] h
    else
      some (0, 0, h)
  else
    some (0, 0, h) := (zZ_eq zFn_mono _ _ _ _).trans rfl
set_option maxRecDepth 50000 in
theorem e_X1_number_51 (a0 : Nat) (a1 : Int32) (a2 : Int32) (h : zM) : zm_X1_number 51 [some (.inr a0), some (.inl a1), some (.inl a2), none] [] h =
  if a2 < (3 : Int32) then
    (zgF h a0 1 2).bind fun r1 =>
    (zgF h r1 6 3).bind fun r2 =>
    (zgF h a0 1 10).bind fun r3 =>
    (zia h r3 a1).bind fun v1 =>
    (zia h r2 ((v1 * (3 : Int32)) + a2)).bind fun v2 =>
    if v2 = (-1 : Int32) then
      zm_X1_number 51 [some (.inr a0), some (.inl a1), some (.inl (a2 + (1 : Int32))), none] [] h
    else
      (zgI h a0 1 1).bind fun v3 =>
      (zpI h a0 1 1 (v3 + (1 : Int32))).bind fun h1 =>
      zif (zK h1 a0 = 2) (
      (zf nX1_call [.inr a0, .inl v2] h1).bind fun u1 =>
      zm_X1_number 51 [some (.inr a0), some (.inl a1), some (.inl (a2 + (1 : Int32))), none] [] u1.2.2)
  else
    zm_X1_number 35 [some (.inr a0), some (.inl (a1 + (1 : Int32))), none, none] [] h := (zZ_eq zFn_mono _ _ _ _).trans rfl
noncomputable def zm_X1_goAlike : zK4 := zZ zf zo_X1_goAlike [(2, 4)]
set_option maxRecDepth 50000 in
theorem e_X1_goAlike (a0 : Nat) (a1 : Int32) (a2 : Int32) (h : zM) : zf nX1_goAlike [.inr a0, .inl a1, .inl a2] h =
  zm_X1_goAlike 2 [some (.inr a0), some (.inl a1), some (.inl a2), some (.inl (0 : Int32)), none, none] [] h := by
  rw [show zf nX1_goAlike = zFn zrecs 37 from rfl, zFn_eq (M := zr_X1_goAlike) rfl zd_X1_goAlike]
  exact (if_pos (Nat.le_of_ble_eq_true rfl)).trans ((zZ_eq zFn_mono _ _ _ _).trans rfl)
set_option maxRecDepth 50000 in
theorem e_X1_goAlike_2 (a0 : Nat) (a1 : Int32) (a2 : Int32) (a3 : Int32) (h : zM) : zm_X1_goAlike 2 [some (.inr a0), some (.inl a1), some (.inl a2), some (.inl a3), none, none] [] h =
  if a3 < (3 : Int32) then
    (zgF h a0 1 2).bind fun r1 =>
    (zgF h r1 6 3).bind fun r2 =>
    (zia h r2 ((a1 * (3 : Int32)) + a3)).bind fun v1 =>
    (zgF h a0 1 2).bind fun r3 =>
    (zgF h r3 6 3).bind fun r4 =>
    (zia h r4 ((a2 * (3 : Int32)) + a3)).bind fun v2 =>
    if v1 = (-1 : Int32) then
      zm_X1_goAlike 2 [some (.inr a0), some (.inl a1), some (.inl a2), some (.inl (a3 + (1 : Int32))), none, none] [] h
    else
      if v2 = (-1 : Int32) then
        zm_X1_goAlike 2 [some (.inr a0), some (.inl a1), some (.inl a2), some (.inl (a3 + (1 : Int32))), none, none] [] h
      else
        (zgF h a0 1 7).bind fun r5 =>
        (zia h r5 v1).bind fun v3 =>
        (zgF h a0 1 7).bind fun r6 =>
        (zia h r6 v2).bind fun v4 =>
        if v3 = v4 then
          zm_X1_goAlike 2 [some (.inr a0), some (.inl a1), some (.inl a2), some (.inl (a3 + (1 : Int32))), none, none] [] h
        else
          zb (0 : Int32) h
  else
    zb (1 : Int32) h := (zZ_eq zFn_mono _ _ _ _).trans rfl
noncomputable def zm_X1_refine : zK4 := zZ zf zo_X1_refine [(4, 3), (17, 4)]
set_option maxRecDepth 50000 in
theorem e_X1_refine (a0 : Nat) (h : zM) : zf nX1_refine [.inr a0] h =
  zm_X1_refine 4 [some (.inr a0), some (.inl (0 : Int32)), some (.inl (0 : Int32)), none] [] h := by
  rw [show zf nX1_refine = zFn zrecs 38 from rfl, zFn_eq (M := zr_X1_refine) rfl zd_X1_refine]
  exact (if_pos (Nat.le_of_ble_eq_true rfl)).trans ((zZ_eq zFn_mono _ _ _ _).trans rfl)
set_option maxRecDepth 50000 in
theorem e_X1_refine_4 (a0 : Nat) (a1 : Int32) (a2 : Int32) (h : zM) : zm_X1_refine 4 [some (.inr a0), some (.inl a1), some (.inl a2), none] [] h =
  (zgF h a0 1 2).bind fun r1 =>
  (zgI h r1 6 0).bind fun v1 =>
  if a2 < v1 then
    zm_X1_refine 17 [some (.inr a0), some (.inl a1), some (.inl a2), some (.inl (0 : Int32))] [] h
  else
    (zgF h a0 1 8).bind fun r2 =>
    (zgF h a0 1 7).bind fun r3 =>
    (zcp h r2 (0 : Int32) r3 (0 : Int32) (100 : Int32)).bind fun h1 =>
    zb a1 h1 := (zZ_eq zFn_mono _ _ _ _).trans rfl
set_option maxRecDepth 50000 in
theorem e_X1_refine_17 (a0 : Nat) (a1 : Int32) (a2 : Int32) (a3 : Int32) (h : zM) : zm_X1_refine 17 [some (.inr a0), some (.inl a1), some (.inl a2), some (.inl a3)] [] h =
  if a3 < a2 then
    (zgF h a0 1 7).bind fun r1 =>
    (zia h r1 a3).bind fun v1 =>
    (zgF h a0 1 7).bind fun r2 =>
    (zia h r2 a2).bind fun v2 =>
    if v1 = v2 then
      zif (zK h a0 = 2) (
      (zf nX1_goAlike [.inr a0, .inl a3, .inl a2] h).bind fun u1 =>
      if u1.1 = 0 then
        zm_X1_refine 17 [some (.inr a0), some (.inl a1), some (.inl a2), some (.inl (a3 + (1 : Int32)))] [] u1.2.2
      else
        (zgF u1.2.2 a0 1 8).bind fun r3 =>
        (zis u1.2.2 r3 a2 a3).bind fun h1 =>
        (zgF h1 a0 1 7).bind fun r4 =>
        (zia h1 r4 a2).bind fun v3 =>
        if a3 = v3 then
          zm_X1_refine 4 [some (.inr a0), some (.inl (a1 ||| (0 : Int32))), some (.inl (a2 + (1 : Int32))), none] [] h1
        else
          zm_X1_refine 4 [some (.inr a0), some (.inl (a1 ||| (1 : Int32))), some (.inl (a2 + (1 : Int32))), none] [] h1)
    else
      zm_X1_refine 17 [some (.inr a0), some (.inl a1), some (.inl a2), some (.inl (a3 + (1 : Int32)))] [] h
  else
    (zgF h a0 1 8).bind fun r5 =>
    (zis h r5 a2 a3).bind fun h2 =>
    (zgF h2 a0 1 7).bind fun r6 =>
    (zia h2 r6 a2).bind fun v4 =>
    if a3 = v4 then
      zm_X1_refine 4 [some (.inr a0), some (.inl (a1 ||| (0 : Int32))), some (.inl (a2 + (1 : Int32))), none] [] h2
    else
      zm_X1_refine 4 [some (.inr a0), some (.inl (a1 ||| (1 : Int32))), some (.inl (a2 + (1 : Int32))), none] [] h2 := (zZ_eq zFn_mono _ _ _ _).trans rfl
noncomputable def zm_X1_writeAlike : zK4 := zZ zf zo_X1_writeAlike [(46, 4)]
set_option maxRecDepth 50000 in
theorem e_X1_writeAlike (a0 : Nat) (a1 : Int32) (a2 : Int32) (h : zM) : zf nX1_writeAlike [.inr a0, .inl a1, .inl a2] h =
  (zgF h a0 1 3).bind fun r1 =>
  (zba h r1 a1).bind fun v1 =>
  (zgF h a0 1 3).bind fun r2 =>
  (zba h r2 a2).bind fun v2 =>
  if v1 = v2 then
    (zgF h a0 1 3).bind fun r3 =>
    (zba h r3 a1).bind fun v3 =>
    if v3 = 0 then
      zm_X1_writeAlike 46 [some (.inr a0), some (.inl a1), some (.inl a2), some (.inl (0 : Int32)), none, none] [] h
    else
      (zgF h a0 1 4).bind fun r4 =>
      (zaa h r4 a1).bind fun r5 =>
      (zgF h a0 1 4).bind fun r6 =>
      (zaa h r6 a2).bind fun r7 =>
      zif (zK h r5 = 11) (
      (zf nX10_isAlike [.inr r5, .inr r7] h).bind fun u1 =>
      if u1.1 = 0 then
        zb (0 : Int32) u1.2.2
      else
        zm_X1_writeAlike 46 [some (.inr a0), some (.inl a1), some (.inl a2), some (.inl (0 : Int32)), none, none] [] u1.2.2)
  else
    zb (0 : Int32) h := by
  rw [show zf nX1_writeAlike = zFn zrecs 39 from rfl, zFn_eq (M := zr_X1_writeAlike) rfl zd_X1_writeAlike]
  exact (if_pos (Nat.le_of_ble_eq_true rfl)).trans ((zZ_eq zFn_mono _ _ _ _).trans rfl)
set_option maxRecDepth 50000 in
theorem e_X1_writeAlike_46 (a0 : Nat) (a1 : Int32) (a2 : Int32) (a3 : Int32) (h : zM) : zm_X1_writeAlike 46 [some (.inr a0), some (.inl a1), some (.inl a2), some (.inl a3), none, none] [] h =
  if a3 < (3 : Int32) then
    (zgF h a0 1 2).bind fun r1 =>
    (zgF h r1 6 3).bind fun r2 =>
    (zia h r2 ((a1 * (3 : Int32)) + a3)).bind fun v1 =>
    if v1 = (-1 : Int32) then
      (zgF h a0 1 2).bind fun r3 =>
      (zgF h r3 6 3).bind fun r4 =>
      (zia h r4 ((a2 * (3 : Int32)) + a3)).bind fun v2 =>
      if v2 = (-1 : Int32) then
        if (1 : Int32) = (1 : Int32) then
          (zgF h a0 1 2).bind fun r5 =>
          (zgF h r5 6 4).bind fun r6 =>
          (zaa h r6 ((a1 * (3 : Int32)) + a3)).bind fun r7 =>
          (zgF h a0 1 2).bind fun r8 =>
          (zgF h r8 6 4).bind fun r9 =>
          (zaa h r9 ((a2 * (3 : Int32)) + a3)).bind fun r10 =>
          zif (zK h r7 = 11) (
          (zf nX10_isAlike [.inr r7, .inr r10] h).bind fun u1 =>
          if u1.1 = 0 then
            zb (0 : Int32) u1.2.2
          else
            zm_X1_writeAlike 46 [some (.inr a0), some (.inl a1), some (.inl a2), some (.inl (a3 + (1 : Int32))), none, none] [] u1.2.2)
        else
          zb (0 : Int32) h
      else
        if (1 : Int32) = (0 : Int32) then
          (zgF h a0 1 2).bind fun r11 =>
          (zgF h r11 6 4).bind fun r12 =>
          (zaa h r12 ((a1 * (3 : Int32)) + a3)).bind fun r13 =>
          (zgF h a0 1 2).bind fun r14 =>
          (zgF h r14 6 4).bind fun r15 =>
          (zaa h r15 ((a2 * (3 : Int32)) + a3)).bind fun r16 =>
          zif (zK h r13 = 11) (
          (zf nX10_isAlike [.inr r13, .inr r16] h).bind fun u2 =>
          if u2.1 = 0 then
            zb (0 : Int32) u2.2.2
          else
            zm_X1_writeAlike 46 [some (.inr a0), some (.inl a1), some (.inl a2), some (.inl (a3 + (1 : Int32))), none, none] [] u2.2.2)
        else
          zb (0 : Int32) h
    else
      (zgF h a0 1 2).bind fun r17 =>
      (zgF h r17 6 3).bind fun r18 =>
      (zia h r18 ((a2 * (3 : Int32)) + a3)).bind fun v3 =>
      if v3 = (-1 : Int32) then
        if (0 : Int32) = (1 : Int32) then
          (zgF h a0 1 2).bind fun r19 =>
          (zgF h r19 6 4).bind fun r20 =>
          (zaa h r20 ((a1 * (3 : Int32)) + a3)).bind fun r21 =>
          (zgF h a0 1 2).bind fun r22 =>
          (zgF h r22 6 4).bind fun r23 =>
          (zaa h r23 ((a2 * (3 : Int32)) + a3)).bind fun r24 =>
          zif (zK h r21 = 11) (
          (zf nX10_isAlike [.inr r21, .inr r24] h).bind fun u3 =>
          if u3.1 = 0 then
            zb (0 : Int32) u3.2.2
          else
            zm_X1_writeAlike 46 [some (.inr a0), some (.inl a1), some (.inl a2), some (.inl (a3 + (1 : Int32))), none, none] [] u3.2.2)
        else
          zb (0 : Int32) h
      else
        if (0 : Int32) = (0 : Int32) then
          (zgF h a0 1 2).bind fun r25 =>
          (zgF h r25 6 4).bind fun r26 =>
          (zaa h r26 ((a1 * (3 : Int32)) + a3)).bind fun r27 =>
          (zgF h a0 1 2).bind fun r28 =>
          (zgF h r28 6 4).bind fun r29 =>
          (zaa h r29 ((a2 * (3 : Int32)) + a3)).bind fun r30 =>
          zif (zK h r27 = 11) (
          (zf nX10_isAlike [.inr r27, .inr r30] h).bind fun u4 =>
          if u4.1 = 0 then
            zb (0 : Int32) u4.2.2
          else
            zm_X1_writeAlike 46 [some (.inr a0), some (.inl a1), some (.inl a2), some (.inl (a3 + (1 : Int32))), none, none] [] u4.2.2)
        else
          zb (0 : Int32) h
  else
    zb (1 : Int32) h := (zZ_eq zFn_mono _ _ _ _).trans rfl
noncomputable def zm_X1_part : zK4 := zZ zf zo_X1_part [(2, 2), (15, 3), (52, 3)]
set_option maxRecDepth 50000 in
theorem e_X1_part (a0 : Nat) (h : zM) : zf nX1_part [.inr a0] h =
  zm_X1_part 2 [some (.inr a0), some (.inl (0 : Int32)), none] [] h := by
  rw [show zf nX1_part = zFn zrecs 40 from rfl, zFn_eq (M := zr_X1_part) rfl zd_X1_part]
  exact (if_pos (Nat.le_of_ble_eq_true rfl)).trans ((zZ_eq zFn_mono _ _ _ _).trans rfl)
set_option maxRecDepth 50000 in
theorem e_X1_part_2 (a0 : Nat) (a1 : Int32) (h : zM) : zm_X1_part 2 [some (.inr a0), some (.inl a1), none] [] h =
  (zgF h a0 1 2).bind fun r1 =>
  (zgI h r1 6 0).bind fun v1 =>
  if a1 < v1 then
    zm_X1_part 15 [some (.inr a0), some (.inl a1), some (.inl (0 : Int32))] [] h
  else
    zm_X1_part 52 [some (.inr a0), some (.inl (1 : Int32)), some (.inl (0 : Int32))] [] h := (zZ_eq zFn_mono _ _ _ _).trans rfl
set_option maxRecDepth 50000 in
theorem e_X1_part_15 (a0 : Nat) (a1 : Int32) (a2 : Int32) (h : zM) : zm_X1_part 15 [some (.inr a0), some (.inl a1), some (.inl a2)] [] h =
  if a2 < a1 then
    zif (zK h a0 = 2) (
    (zf nX1_writeAlike [.inr a0, .inl a2, .inl a1] h).bind fun u1 =>
    if u1.1 = 0 then
      zm_X1_part 15 [some (.inr a0), some (.inl a1), some (.inl (a2 + (1 : Int32)))] [] u1.2.2
    else
      (zgF u1.2.2 a0 1 7).bind fun r1 =>
      (zis u1.2.2 r1 a1 a2).bind fun h1 =>
      zm_X1_part 2 [some (.inr a0), some (.inl (a1 + (1 : Int32))), none] [] h1)
  else
    (zgF h a0 1 7).bind fun r2 =>
    (zis h r2 a1 a2).bind fun h2 =>
    zm_X1_part 2 [some (.inr a0), some (.inl (a1 + (1 : Int32))), none] [] h2 := (zZ_eq zFn_mono _ _ _ _).trans rfl
set_option maxRecDepth 50000 in
theorem e_X1_part_52 (a0 : Nat) (a1 : Int32) (a2 : Int32) (h : zM) : zm_X1_part 52 [some (.inr a0), some (.inl a1), some (.inl a2)] [] h =
  if a1 = 0 then
    some (0, 0, h)
  else
    if (100 : Int32) < a2 then
      some (0, 0, h)
    else
      zif (zK h a0 = 2) (
      (zf nX1_refine [.inr a0] h).bind fun u1 =>
      zm_X1_part 52 [some (.inr a0), some (.inl u1.1), some (.inl (a2 + (1 : Int32)))] [] u1.2.2) := (zZ_eq zFn_mono _ _ _ _).trans rfl
noncomputable def zm_X1_setEnd : zK4 := zZ zf zo_X1_setEnd [(9, 4)]
set_option maxRecDepth 50000 in
theorem e_X1_setEnd (a0 : Nat) (a1 : Nat) (a2 : Int32) (h : zM) : zf nX1_setEnd [.inr a0, .inr a1, .inl a2] h =
  (zgF h a0 1 3).bind fun r1 =>
  (zbs h r1 a2 (0 : Int32)).bind fun h1 =>
  zm_X1_setEnd 9 [some (.inr a0), some (.inr a1), some (.inl a2), some (.inl (0 : Int32))] [] h1 := by
  rw [show zf nX1_setEnd = zFn zrecs 41 from rfl, zFn_eq (M := zr_X1_setEnd) rfl zd_X1_setEnd]
  exact (if_pos (Nat.le_of_ble_eq_true rfl)).trans ((zZ_eq zFn_mono _ _ _ _).trans rfl)
set_option maxRecDepth 50000 in
theorem e_X1_setEnd_9 (a0 : Nat) (a1 : Nat) (a2 : Int32) (a3 : Int32) (h : zM) : zm_X1_setEnd 9 [some (.inr a0), some (.inr a1), some (.inl a2), some (.inl a3)] [] h =
  (zgI h a1 2 0).bind fun v1 =>
  if a3 < v1 then
    (zgF h a0 1 3).bind fun r1 =>
    (zba h r1 a2).bind fun v2 =>
    if v2 = 0 then
      (zgF h a0 1 2).bind fun r2 =>
      (zgF h r2 6 1).bind fun r3 =>
      (zia h r3 a2).bind fun v3 =>
      (zf nX11_holds [.inl v3, .inl a3] h).bind fun u1 =>
      if u1.1 = 0 then
        zm_X1_setEnd 9 [some (.inr a0), some (.inr a1), some (.inl a2), some (.inl (a3 + (1 : Int32)))] [] u1.2.2
      else
        zif (zK u1.2.2 a1 = 3) (
        (zf nX2_hasEnd [.inr a1, .inl a3] u1.2.2).bind fun u2 =>
        if u2.1 = 0 then
          zm_X1_setEnd 9 [some (.inr a0), some (.inr a1), some (.inl a2), some (.inl (a3 + (1 : Int32)))] [] u2.2.2
        else
          (zgF u2.2.2 a0 1 3).bind fun r4 =>
          (zbs u2.2.2 r4 a2 (1 : Int32)).bind fun h1 =>
          (zgF h1 a0 1 4).bind fun r5 =>
          (zaa h1 r5 a2).bind fun r6 =>
          (zgF h1 a0 1 2).bind fun r7 =>
          (zgF h1 r7 6 2).bind fun r8 =>
          (zaa h1 r8 ((a2 * (6 : Int32)) + a3)).bind fun r9 =>
          zif (zK h1 r6 = 11) (
          (zf nX10_become [.inr r6, .inr r9] h1).bind fun u3 =>
          (zgF u3.2.2 a0 1 4).bind fun r10 =>
          (zaa u3.2.2 r10 a2).bind fun r11 =>
          (zgF u3.2.2 a1 2 3).bind fun r12 =>
          (zia u3.2.2 r12 a3).bind fun v4 =>
          zif (zK u3.2.2 r11 = 11) (
          (zf nX10_addNumber [.inr r11, .inl v4] u3.2.2).bind fun u4 =>
          zm_X1_setEnd 9 [some (.inr a0), some (.inr a1), some (.inl a2), some (.inl (a3 + (1 : Int32)))] [] u4.2.2)))
    else
      some (0, 0, h)
  else
    some (0, 0, h) := (zZ_eq zFn_mono _ _ _ _).trans rfl
noncomputable def zm_X10_letterAt : zK4 := zZ zf zo_X10_letterAt []
set_option maxRecDepth 50000 in
theorem e_X10_letterAt (a0 : Nat) (a1 : Int32) (h : zM) : zf nX10_letterAt [.inr a0, .inl a1] h =
  if a1 < 0 then
    some ((-1 : Int32), 0, h)
  else
    (zgI h a0 10 1).bind fun v1 =>
    if a1 < v1 then
      (zgF h a0 10 0).bind fun r1 =>
      (zia h r1 a1).bind fun v2 =>
      some (v2, 0, h)
    else
      some ((-1 : Int32), 0, h) := by
  rw [show zf nX10_letterAt = zFn zrecs 42 from rfl, zFn_eq (M := zr_X10_letterAt) rfl zd_X10_letterAt]
  exact (if_pos (Nat.le_of_ble_eq_true rfl)).trans ((zZ_eq zFn_mono _ _ _ _).trans rfl)
noncomputable def zm_X10_commonWith_ : zK4 := zZ zf zo_X10_commonWith_ [(16, 4)]
set_option maxRecDepth 50000 in
theorem e_X10_commonWith_ (a0 : Nat) (a1 : Nat) (a2 : Nat) (h : zM) : zf nX10_commonWith_ [.inr a0, .inr a1, .inr a2] h =
  zif (zK h a0 = 11) (
  (zf nX10_commonWith [.inr a0, .inr a1] h).bind fun u1 =>
  (zgI u1.2.2 a1 10 1).bind fun v1 =>
  if u1.1 < v1 then
    some (u1.1, 0, u1.2.2)
  else
    zm_X10_commonWith_ 16 [some (.inr a0), some (.inr a1), some (.inr a2), some (.inl u1.1)] [] u1.2.2) := by
  rw [show zf nX10_commonWith_ = zFn zrecs 43 from rfl, zFn_eq (M := zr_X10_commonWith_) rfl zd_X10_commonWith_]
  exact (if_pos (Nat.le_of_ble_eq_true rfl)).trans ((zZ_eq zFn_mono _ _ _ _).trans rfl)
set_option maxRecDepth 50000 in
theorem e_X10_commonWith__16 (a0 : Nat) (a1 : Nat) (a2 : Nat) (a3 : Int32) (h : zM) : zm_X10_commonWith_ 16 [some (.inr a0), some (.inr a1), some (.inr a2), some (.inl a3)] [] h =
  (zgI h a0 10 1).bind fun v1 =>
  if a3 < v1 then
    (zgF h a0 10 0).bind fun r1 =>
    (zia h r1 a3).bind fun v2 =>
    (zgI h a1 10 1).bind fun v3 =>
    zif (zK h a2 = 11) (
    (zf nX10_letterAt [.inr a2, .inl (a3 - v3)] h).bind fun u1 =>
    if v2 = u1.1 then
      zm_X10_commonWith_ 16 [some (.inr a0), some (.inr a1), some (.inr a2), some (.inl (a3 + (1 : Int32)))] [] u1.2.2
    else
      some (a3, 0, u1.2.2))
  else
    some (a3, 0, h) := (zZ_eq zFn_mono _ _ _ _).trans rfl
noncomputable def zm_X1_commonLength : zK4 := zZ zf zo_X1_commonLength [(41, 5)]
set_option maxRecDepth 50000 in
theorem e_X1_commonLength (a0 : Nat) (a1 : Int32) (h : zM) : zf nX1_commonLength [.inr a0, .inl a1] h =
  (zgF h a0 1 5).bind fun r1 =>
  (zaa h r1 a1).bind fun r2 =>
  (zgI h r2 10 1).bind fun v1 =>
  (zgF h a0 1 3).bind fun r3 =>
  (zba h r3 a1).bind fun v2 =>
  if v2 = 0 then
    zm_X1_commonLength 41 [some (.inr a0), some (.inl a1), some (.inr r2), some (.inl v1), some (.inl (a1 * (3 : Int32))), none] [] h
  else
    (zgF h a0 1 4).bind fun r4 =>
    (zaa h r4 a1).bind fun r5 =>
    zif (zK h r2 = 11) (
    (zf nX10_commonWith [.inr r2, .inr r5] h).bind fun u1 =>
    (zf nJ9_min_7cf53 [.inl v1, .inl u1.1] u1.2.2).bind fun u2 =>
    zm_X1_commonLength 41 [some (.inr a0), some (.inl a1), some (.inr r2), some (.inl u2.1), some (.inl (a1 * (3 : Int32))), none] [] u2.2.2) := by
  rw [show zf nX1_commonLength = zFn zrecs 44 from rfl, zFn_eq (M := zr_X1_commonLength) rfl zd_X1_commonLength]
  exact (if_pos (Nat.le_of_ble_eq_true rfl)).trans ((zZ_eq zFn_mono _ _ _ _).trans rfl)
set_option maxRecDepth 50000 in
theorem e_X1_commonLength_41 (a0 : Nat) (a1 : Int32) (a2 : Nat) (a3 : Int32) (a4 : Int32) (h : zM) : zm_X1_commonLength 41 [some (.inr a0), some (.inl a1), some (.inr a2), some (.inl a3), some (.inl a4), none] [] h =
  if a4 < ((a1 + (1 : Int32)) * (3 : Int32)) then
    (zgF h a0 1 2).bind fun r1 =>
    (zgF h r1 6 3).bind fun r2 =>
    (zia h r2 a4).bind fun v1 =>
    if v1 = (-1 : Int32) then
      zm_X1_commonLength 41 [some (.inr a0), some (.inl a1), some (.inr a2), some (.inl a3), some (.inl (a4 + (1 : Int32))), none] [] h
    else
      (zgF h a0 1 2).bind fun r3 =>
      (zgF h r3 6 4).bind fun r4 =>
      (zaa h r4 a4).bind fun r5 =>
      (zgF h a0 1 5).bind fun r6 =>
      (zaa h r6 v1).bind fun r7 =>
      zif (zK h a2 = 11) (
      (zf nX10_commonWith_ [.inr a2, .inr r5, .inr r7] h).bind fun u1 =>
      (zf nJ9_min_7cf53 [.inl a3, .inl u1.1] u1.2.2).bind fun u2 =>
      zm_X1_commonLength 41 [some (.inr a0), some (.inl a1), some (.inr a2), some (.inl u2.1), some (.inl (a4 + (1 : Int32))), none] [] u2.2.2)
  else
    some (a3, 0, h) := (zZ_eq zFn_mono _ _ _ _).trans rfl
noncomputable def zm_X1_shortenCommons : zK4 := zZ zf zo_X1_shortenCommons [(4, 3), (19, 4)]
set_option maxRecDepth 50000 in
theorem e_X1_shortenCommons (a0 : Nat) (h : zM) : zf nX1_shortenCommons [.inr a0] h =
  zm_X1_shortenCommons 4 [some (.inr a0), some (.inl (1 : Int32)), some (.inl (0 : Int32)), none, none] [] h := by
  rw [show zf nX1_shortenCommons = zFn zrecs 45 from rfl, zFn_eq (M := zr_X1_shortenCommons) rfl zd_X1_shortenCommons]
  exact (if_pos (Nat.le_of_ble_eq_true rfl)).trans ((zZ_eq zFn_mono _ _ _ _).trans rfl)
set_option maxRecDepth 50000 in
theorem e_X1_shortenCommons_4 (a0 : Nat) (a1 : Int32) (a2 : Int32) (h : zM) : zm_X1_shortenCommons 4 [some (.inr a0), some (.inl a1), some (.inl a2), none, none] [] h =
  if a1 = 0 then
    some (0, 0, h)
  else
    if (12900 : Int32) < a2 then
      some (0, 0, h)
    else
      zm_X1_shortenCommons 19 [some (.inr a0), some (.inl (0 : Int32)), some (.inl a2), some (.inl (0 : Int32)), none] [] h := (zZ_eq zFn_mono _ _ _ _).trans rfl
set_option maxRecDepth 50000 in
theorem e_X1_shortenCommons_19 (a0 : Nat) (a1 : Int32) (a2 : Int32) (a3 : Int32) (h : zM) : zm_X1_shortenCommons 19 [some (.inr a0), some (.inl a1), some (.inl a2), some (.inl a3), none] [] h =
  (zgF h a0 1 2).bind fun r1 =>
  (zgI h r1 6 0).bind fun v1 =>
  if a3 < v1 then
    zif (zK h a0 = 2) (
    (zf nX1_commonLength [.inr a0, .inl a3] h).bind fun u1 =>
    (zgF u1.2.2 a0 1 5).bind fun r2 =>
    (zaa u1.2.2 r2 a3).bind fun r3 =>
    (zgI u1.2.2 r3 10 1).bind fun v2 =>
    if u1.1 < v2 then
      (zgF u1.2.2 a0 1 5).bind fun r4 =>
      (zaa u1.2.2 r4 a3).bind fun r5 =>
      zif (zK u1.2.2 r5 = 11) (
      (zf nX10_shortenTo [.inr r5, .inl u1.1] u1.2.2).bind fun u2 =>
      zm_X1_shortenCommons 19 [some (.inr a0), some (.inl (1 : Int32)), some (.inl a2), some (.inl (a3 + (1 : Int32))), none] [] u2.2.2)
    else
      zm_X1_shortenCommons 19 [some (.inr a0), some (.inl a1), some (.inl a2), some (.inl (a3 + (1 : Int32))), none] [] u1.2.2)
  else
    zm_X1_shortenCommons 4 [some (.inr a0), some (.inl a1), some (.inl (a2 + (1 : Int32))), none, none] [] h := (zZ_eq zFn_mono _ _ _ _).trans rfl
noncomputable def zm_X1_writeEarly : zK4 := zZ zf zo_X1_writeEarly [(2, 2), (35, 3)]
set_option maxRecDepth 50000 in
theorem e_X1_writeEarly (a0 : Nat) (h : zM) : zf nX1_writeEarly [.inr a0] h =
  zm_X1_writeEarly 2 [some (.inr a0), some (.inl (0 : Int32)), none, none] [] h := by
  rw [show zf nX1_writeEarly = zFn zrecs 46 from rfl, zFn_eq (M := zr_X1_writeEarly) rfl zd_X1_writeEarly]
  exact (if_pos (Nat.le_of_ble_eq_true rfl)).trans ((zZ_eq zFn_mono _ _ _ _).trans rfl)
set_option maxRecDepth 50000 in
theorem e_X1_writeEarly_2 (a0 : Nat) (a1 : Int32) (h : zM) : zm_X1_writeEarly 2 [some (.inr a0), some (.inl a1), none, none] [] h =
  (zgF h a0 1 2).bind fun r1 =>
  (zgI h r1 6 0).bind fun v1 =>
  if a1 < v1 then
    (zgF h a0 1 4).bind fun r2 =>
    (zaa h r2 a1).bind fun r3 =>
    (zgF h a0 1 5).bind fun r4 =>
    (zaa h r4 a1).bind fun r5 =>
    (zgI h r5 10 1).bind fun v2 =>
    zif (zK h r3 = 11) (
    (zf nX10_dropFirst [.inr r3, .inl v2] h).bind fun u1 =>
    zm_X1_writeEarly 35 [some (.inr a0), some (.inl a1), some (.inl (a1 * (3 : Int32))), none] [] u1.2.2)
  else
    some (0, 0, h) := (zZ_eq zFn_mono _ _ _ _).trans rfl
set_option maxRecDepth 50000 in
theorem e_X1_writeEarly_35 (a0 : Nat) (a1 : Int32) (a2 : Int32) (h : zM) : zm_X1_writeEarly 35 [some (.inr a0), some (.inl a1), some (.inl a2), none] [] h =
  if a2 < ((a1 + (1 : Int32)) * (3 : Int32)) then
    (zgF h a0 1 2).bind fun r1 =>
    (zgF h r1 6 3).bind fun r2 =>
    (zia h r2 a2).bind fun v1 =>
    if v1 = (-1 : Int32) then
      zm_X1_writeEarly 35 [some (.inr a0), some (.inl a1), some (.inl (a2 + (1 : Int32))), none] [] h
    else
      (zgF h a0 1 2).bind fun r3 =>
      (zgF h r3 6 4).bind fun r4 =>
      (zaa h r4 a2).bind fun r5 =>
      (zgF h a0 1 5).bind fun r6 =>
      (zaa h r6 v1).bind fun r7 =>
      zif (zK h r5 = 11) (
      (zf nX10_addWord [.inr r5, .inr r7] h).bind fun u1 =>
      (zgF u1.2.2 a0 1 2).bind fun r8 =>
      (zgF u1.2.2 r8 6 4).bind fun r9 =>
      (zaa u1.2.2 r9 a2).bind fun r10 =>
      (zgF u1.2.2 a0 1 5).bind fun r11 =>
      (zaa u1.2.2 r11 a1).bind fun r12 =>
      (zgI u1.2.2 r12 10 1).bind fun v2 =>
      zif (zK u1.2.2 r10 = 11) (
      (zf nX10_dropFirst [.inr r10, .inl v2] u1.2.2).bind fun u2 =>
      zm_X1_writeEarly 35 [some (.inr a0), some (.inl a1), some (.inl (a2 + (1 : Int32))), none] [] u2.2.2))
  else
    zm_X1_writeEarly 2 [some (.inr a0), some (.inl (a1 + (1 : Int32))), none, none] [] h := (zZ_eq zFn_mono _ _ _ _).trans rfl
noncomputable def zm_X1_make : zK4 := zZ zf zo_X1_make [(2, 3)]
set_option maxRecDepth 50000 in
theorem e_X1_make (a0 : Nat) (a1 : Nat) (h : zM) : zf nX1_make [.inr a0, .inr a1] h =
  zm_X1_make 2 [some (.inr a0), some (.inr a1), some (.inl (0 : Int32))] [] h := by
  rw [show zf nX1_make = zFn zrecs 47 from rfl, zFn_eq (M := zr_X1_make) rfl zd_X1_make]
  exact (if_pos (Nat.le_of_ble_eq_true rfl)).trans ((zZ_eq zFn_mono _ _ _ _).trans rfl)
set_option maxRecDepth 50000 in
theorem e_X1_make_2 (a0 : Nat) (a1 : Nat) (a2 : Int32) (h : zM) : zm_X1_make 2 [some (.inr a0), some (.inr a1), some (.inl a2)] [] h =
  (zgF h a0 1 2).bind fun r1 =>
  (zgI h r1 6 0).bind fun v1 =>
  if a2 < v1 then
    zif (zK h a0 = 2) (
    (zf nX1_setEnd [.inr a0, .inr a1, .inl a2] h).bind fun u1 =>
    zm_X1_make 2 [some (.inr a0), some (.inr a1), some (.inl (a2 + (1 : Int32)))] [] u1.2.2)
  else
    zif (zK h a0 = 2) (
    (zf nX1_guessCommons [.inr a0] h).bind fun u2 =>
    zif (zK u2.2.2 a0 = 2) (
    (zf nX1_shortenCommons [.inr a0] u2.2.2).bind fun u3 =>
    zif (zK u3.2.2 a0 = 2) (
    (zf nX1_writeEarly [.inr a0] u3.2.2).bind fun u4 =>
    zif (zK u4.2.2 a0 = 2) (
    (zf nX1_part [.inr a0] u4.2.2).bind fun u5 =>
    zif (zK u5.2.2 a0 = 2) (
    (zf nX1_number [.inr a0] u5.2.2).bind fun u6 =>
    some (0, 0, u6.2.2)))))) := (zZ_eq zFn_mono _ _ _ _).trans rfl
noncomputable def zm_X11_isInputLetter : zK4 := zZ zf zo_X11_isInputLetter []
set_option maxRecDepth 50000 in
theorem e_X11_isInputLetter (a0 : Int32) (h : zM) : zf nX11_isInputLetter [.inl a0] h =
  if a0 < (1 : Int32) then
    zb (0 : Int32) h
  else
    if (3 : Int32) < a0 then
      zb (0 : Int32) h
    else
      zb (1 : Int32) h := by
  rw [show zf nX11_isInputLetter = zFn zrecs 48 from rfl, zFn_eq (M := zr_X11_isInputLetter) rfl zd_X11_isInputLetter]
  exact (if_pos (Nat.le_of_ble_eq_true rfl)).trans ((zZ_eq zFn_mono _ _ _ _).trans rfl)
noncomputable def zm_X1_stateBehind : zK4 := zZ zf zo_X1_stateBehind []
set_option maxRecDepth 50000 in
theorem e_X1_stateBehind (a0 : Nat) (a1 : Int32) (a2 : Int32) (h : zM) : zf nX1_stateBehind [.inr a0, .inl a1, .inl a2] h =
  if a1 < 0 then
    some ((-1 : Int32), 0, h)
  else
    (zgI h a0 1 0).bind fun v1 =>
    if a1 < v1 then
      (zf nX11_isInputLetter [.inl a2] h).bind fun u1 =>
      if u1.1 = 0 then
        some ((-1 : Int32), 0, u1.2.2)
      else
        (zgF u1.2.2 a0 1 2).bind fun r1 =>
        (zgF u1.2.2 r1 6 3).bind fun r2 =>
        (zgF u1.2.2 a0 1 10).bind fun r3 =>
        (zia u1.2.2 r3 a1).bind fun v2 =>
        (zia u1.2.2 r2 (((v2 * (3 : Int32)) + a2) - (1 : Int32))).bind fun v3 =>
        if v3 = (-1 : Int32) then
          some ((-1 : Int32), 0, u1.2.2)
        else
          (zgF u1.2.2 a0 1 9).bind fun r4 =>
          (zgF u1.2.2 a0 1 7).bind fun r5 =>
          (zia u1.2.2 r5 v3).bind fun v4 =>
          (zia u1.2.2 r4 v4).bind fun v5 =>
          some (v5, 0, u1.2.2)
    else
      some ((-1 : Int32), 0, h) := by
  rw [show zf nX1_stateBehind = zFn zrecs 49 from rfl, zFn_eq (M := zr_X1_stateBehind) rfl zd_X1_stateBehind]
  exact (if_pos (Nat.le_of_ble_eq_true rfl)).trans ((zZ_eq zFn_mono _ _ _ _).trans rfl)
noncomputable def zm_X1_beginWord : zK4 := zZ zf zo_X1_beginWord []
set_option maxRecDepth 50000 in
theorem e_X1_beginWord (a0 : Nat) (h : zM) : zf nX1_beginWord [.inr a0] h =
  (zgI h a0 1 0).bind fun v1 =>
  if v1 = 0 then
    (zgF h a0 1 5).bind fun r1 =>
    (zaa h r1 (0 : Int32)).bind fun r2 =>
    zif (zK h r2 = 11) (
    (zf nX10_clear [.inr r2] h).bind fun u1 =>
    (zgF u1.2.2 a0 1 5).bind fun r3 =>
    (zaa u1.2.2 r3 (0 : Int32)).bind fun r4 =>
    some (0, r4, u1.2.2))
  else
    (zgF h a0 1 5).bind fun r5 =>
    (zaa h r5 (0 : Int32)).bind fun r6 =>
    some (0, r6, h) := by
  rw [show zf nX1_beginWord = zFn zrecs 50 from rfl, zFn_eq (M := zr_X1_beginWord) rfl zd_X1_beginWord]
  exact (if_pos (Nat.le_of_ble_eq_true rfl)).trans ((zZ_eq zFn_mono _ _ _ _).trans rfl)
noncomputable def zm_X1_wordOf : zK4 := zZ zf zo_X1_wordOf []
set_option maxRecDepth 50000 in
theorem e_X1_wordOf (a0 : Nat) (a1 : Int32) (a2 : Int32) (h : zM) : zf nX1_wordOf [.inr a0, .inl a1, .inl a2] h =
  if a1 = (-1 : Int32) then
    zif (zK h a0 = 2) (
    (zf nX1_beginWord [.inr a0] h).bind fun u1 =>
    some (0, u1.2.1, u1.2.2))
  else
    if a1 < 0 then
      some (0, 0, h)
    else
      (zgI h a0 1 0).bind fun v1 =>
      if a1 < v1 then
        if a2 = 0 then
          (zgF h a0 1 3).bind fun r1 =>
          (zgF h a0 1 10).bind fun r2 =>
          (zia h r2 a1).bind fun v2 =>
          (zba h r1 v2).bind fun v3 =>
          if v3 = 0 then
            some (0, 0, h)
          else
            (zgF h a0 1 4).bind fun r3 =>
            (zgF h a0 1 10).bind fun r4 =>
            (zia h r4 a1).bind fun v4 =>
            (zaa h r3 v4).bind fun r5 =>
            some (0, r5, h)
        else
          zif (zK h a0 = 2) (
          (zf nX1_stateBehind [.inr a0, .inl a1, .inl a2] h).bind fun u2 =>
          if u2.1 = (-1 : Int32) then
            some (0, 0, u2.2.2)
          else
            (zgF u2.2.2 a0 1 2).bind fun r6 =>
            (zgF u2.2.2 r6 6 4).bind fun r7 =>
            (zgF u2.2.2 a0 1 10).bind fun r8 =>
            (zia u2.2.2 r8 a1).bind fun v5 =>
            (zaa u2.2.2 r7 (((v5 * (3 : Int32)) + a2) - (1 : Int32))).bind fun r9 =>
            some (0, r9, u2.2.2))
      else
        some (0, 0, h) := by
  rw [show zf nX1_wordOf = zFn zrecs 51 from rfl, zFn_eq (M := zr_X1_wordOf) rfl zd_X1_wordOf]
  exact (if_pos (Nat.le_of_ble_eq_true rfl)).trans ((zZ_eq zFn_mono _ _ _ _).trans rfl)
noncomputable def zm_X1_accepts : zK4 := zZ zf zo_X1_accepts [(15, 4)]
set_option maxRecDepth 50000 in
theorem e_X1_accepts (a0 : Nat) (a1 : Nat) (h : zM) : zf nX1_accepts [.inr a0, .inr a1] h =
  (zgI h a0 1 0).bind fun v1 =>
  if 0 < v1 then
    zm_X1_accepts 15 [some (.inr a0), some (.inr a1), some (.inl (0 : Int32)), some (.inl (0 : Int32))] [] h
  else
    zm_X1_accepts 15 [some (.inr a0), some (.inr a1), some (.inl (-1 : Int32)), some (.inl (0 : Int32))] [] h := by
  rw [show zf nX1_accepts = zFn zrecs 52 from rfl, zFn_eq (M := zr_X1_accepts) rfl zd_X1_accepts]
  exact (if_pos (Nat.le_of_ble_eq_true rfl)).trans ((zZ_eq zFn_mono _ _ _ _).trans rfl)
set_option maxRecDepth 50000 in
theorem e_X1_accepts_15 (a0 : Nat) (a1 : Nat) (a2 : Int32) (a3 : Int32) (h : zM) : zm_X1_accepts 15 [some (.inr a0), some (.inr a1), some (.inl a2), some (.inl a3)] [] h =
  (zgI h a1 10 1).bind fun v1 =>
  if a3 < v1 then
    if a2 = (-1 : Int32) then
      if a2 = (-1 : Int32) then
        zb (0 : Int32) h
      else
        zif (zK h a0 = 2) (
        (zf nX1_wordOf [.inr a0, .inl a2, .inl (0 : Int32)] h).bind fun u1 =>
        if u1.2.1 = 0 then
          zb (0 : Int32) u1.2.2
        else
          zb (1 : Int32) u1.2.2)
    else
      (zgF h a1 10 0).bind fun r1 =>
      (zia h r1 a3).bind fun v2 =>
      zif (zK h a0 = 2) (
      (zf nX1_stateBehind [.inr a0, .inl a2, .inl v2] h).bind fun u2 =>
      zm_X1_accepts 15 [some (.inr a0), some (.inr a1), some (.inl u2.1), some (.inl (a3 + (1 : Int32)))] [] u2.2.2)
  else
    if a2 = (-1 : Int32) then
      zb (0 : Int32) h
    else
      zif (zK h a0 = 2) (
      (zf nX1_wordOf [.inr a0, .inl a2, .inl (0 : Int32)] h).bind fun u3 =>
      if u3.2.1 = 0 then
        zb (0 : Int32) u3.2.2
      else
        zb (1 : Int32) u3.2.2) := (zZ_eq zFn_mono _ _ _ _).trans rfl
noncomputable def zm_X1_addWordOf : zK4 := zZ zf zo_X1_addWordOf []
set_option maxRecDepth 50000 in
theorem e_X1_addWordOf (a0 : Nat) (a1 : Int32) (a2 : Int32) (a3 : Nat) (h : zM) : zf nX1_addWordOf [.inr a0, .inl a1, .inl a2, .inr a3] h =
  zif (zK h a0 = 2) (
  (zf nX1_wordOf [.inr a0, .inl a1, .inl a2] h).bind fun u1 =>
  if u1.2.1 = 0 then
    some (0, 0, u1.2.2)
  else
    zif (zK u1.2.2 a3 = 11) (
    (zf nX10_addWord [.inr a3, .inr u1.2.1] u1.2.2).bind fun u2 =>
    some (0, 0, u2.2.2))) := by
  rw [show zf nX1_addWordOf = zFn zrecs 53 from rfl, zFn_eq (M := zr_X1_addWordOf) rfl zd_X1_addWordOf]
  exact (if_pos (Nat.le_of_ble_eq_true rfl)).trans ((zZ_eq zFn_mono _ _ _ _).trans rfl)
