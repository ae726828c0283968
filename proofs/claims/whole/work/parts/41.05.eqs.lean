noncomputable def zm_X11_goes : zK4 := zZ zf zo_X11_goes []
set_option maxRecDepth 50000 in
theorem e_X11_goes (a0 : Nat) (a1 : Int32) (a2 : Int32) (h : zM) : zf nX11_goes [.inr a0, .inl a1, .inl a2] h =
  zif (zK h a0 = 12) (
  (zf nX11_hasLeast [.inr a0] h).bind fun u1 =>
  if u1.1 = 0 then
    some ((-1 : Int32), 0, u1.2.2)
  else
    (zgF u1.2.2 a0 11 7).bind fun r1 =>
    zif (zK u1.2.2 r1 = 2) (
    (zf nX1_stateBehind [.inr r1, .inl a1, .inl a2] u1.2.2).bind fun u2 =>
    some (u2.1, 0, u2.2.2))) := by
  rw [show zf nX11_goes = zFn zrecs 135 from rfl, zFn_eq (M := zr_X11_goes) rfl zd_X11_goes]
  exact (if_pos (Nat.le_of_ble_eq_true rfl)).trans ((zZ_eq zFn_mono _ _ _ _).trans rfl)
noncomputable def zm_X11_writes : zK4 := zZ zf zo_X11_writes []
set_option maxRecDepth 50000 in
theorem e_X11_writes (a0 : Nat) (a1 : Int32) (a2 : Int32) (a3 : Int32) (h : zM) : zf nX11_writes [.inr a0, .inl a1, .inl a2, .inl a3] h =
  zif (zK h a0 = 12) (
  (zf nX11_hasLeast [.inr a0] h).bind fun u1 =>
  if u1.1 = 0 then
    some ((-2 : Int32), 0, u1.2.2)
  else
    (zgF u1.2.2 a0 11 7).bind fun r1 =>
    zif (zK u1.2.2 r1 = 2) (
    (zf nX1_wordOf [.inr r1, .inl a1, .inl a2] u1.2.2).bind fun u2 =>
    if u2.2.1 = 0 then
      some ((-2 : Int32), 0, u2.2.2)
    else
      zif (zK u2.2.2 u2.2.1 = 11) (
      (zf nX10_letterAt [.inr u2.2.1, .inl a3] u2.2.2).bind fun u3 =>
      some (u3.1, 0, u3.2.2)))) := by
  rw [show zf nX11_writes = zFn zrecs 136 from rfl, zFn_eq (M := zr_X11_writes) rfl zd_X11_writes]
  exact (if_pos (Nat.le_of_ble_eq_true rfl)).trans ((zZ_eq zFn_mono _ _ _ _).trans rfl)
noncomputable def zm_X11_act : zK4 := zZ zf zo_X11_act []
set_option maxRecDepth 50000 in
theorem e_X11_act (a0 : Nat) (a1 : Int32) (h : zM) : zf nX11_act [.inr a0, .inl a1] h =
  zif (zK h a0 = 12) (
  (zf nX11_hasLeast [.inr a0] h).bind fun u1 =>
  if u1.1 = 0 then
    some ((-1 : Int32), 0, u1.2.2)
  else
    (zf nX11_isInput [.inl a1] u1.2.2).bind fun u2 =>
    if u2.1 = 0 then
      some ((-1 : Int32), 0, u2.2.2)
    else
      (zgF u2.2.2 a0 11 8).bind fun r1 =>
      zif (zK u2.2.2 r1 = 11) (
      (zf nX10_read [.inr r1, .inl a1] u2.2.2).bind fun u3 =>
      (zgF u3.2.2 a0 11 7).bind fun r2 =>
      (zgF u3.2.2 a0 11 8).bind fun r3 =>
      zif (zK u3.2.2 r2 = 2) (
      (zf nX1_accepts [.inr r2, .inr r3] u3.2.2).bind fun u4 =>
      if u4.1 = 0 then
        some ((-1 : Int32), 0, u4.2.2)
      else
        (zgF u4.2.2 a0 11 7).bind fun r4 =>
        (zgF u4.2.2 a0 11 8).bind fun r5 =>
        (zgF u4.2.2 a0 11 9).bind fun r6 =>
        zif (zK u4.2.2 r4 = 2) (
        (zf nX1_translate [.inr r4, .inr r5, .inr r6] u4.2.2).bind fun u5 =>
        (zgF u5.2.2 a0 11 9).bind fun r7 =>
        (zgI u5.2.2 r7 10 1).bind fun v1 =>
        some (v1, 0, u5.2.2))))) := by
  rw [show zf nX11_act = zFn zrecs 137 from rfl, zFn_eq (M := zr_X11_act) rfl zd_X11_act]
  exact (if_pos (Nat.le_of_ble_eq_true rfl)).trans ((zZ_eq zFn_mono _ _ _ _).trans rfl)
noncomputable def zm_X11_acted : zK4 := zZ zf zo_X11_acted []
set_option maxRecDepth 50000 in
theorem e_X11_acted (a0 : Nat) (a1 : Int32) (h : zM) : zf nX11_acted [.inr a0, .inl a1] h =
  (zgF h a0 11 9).bind fun r1 =>
  zif (zK h r1 = 11) (
  (zf nX10_letterAt [.inr r1, .inl a1] h).bind fun u1 =>
  some (u1.1, 0, u1.2.2)) := by
  rw [show zf nX11_acted = zFn zrecs 138 from rfl, zFn_eq (M := zr_X11_acted) rfl zd_X11_acted]
  exact (if_pos (Nat.le_of_ble_eq_true rfl)).trans ((zZ_eq zFn_mono _ _ _ _).trans rfl)
noncomputable def zm_X12_init : zK4 := zZ zf zo_X12_init []
set_option maxRecDepth 50000 in
theorem e_X12_init (a0 : Nat) (h : zM) : zf nX12_init [.inr a0] h =
  if a0 = 0 then none else
  (zna h 101 (2 : Int32)).bind fun h1 =>
  (zpF h1 a0 12 0 h.1.1).bind fun h2 =>
  (zna h2 103 (12 : Int32)).bind fun h3 =>
  (zpF h3 a0 12 1 h2.1.1).bind fun h4 =>
  (zna h4 101 (12 : Int32)).bind fun h5 =>
  (zpF h5 a0 12 2 h4.1.1).bind fun h6 =>
  (zna h6 101 (2 : Int32)).bind fun h7 =>
  (zpF h7 a0 12 3 h6.1.1).bind fun h8 =>
  (zna h8 101 (60 : Int32)).bind fun h9 =>
  (zpF h9 a0 12 4 h8.1.1).bind fun h10 =>
  (zna h10 101 (60 : Int32)).bind fun h11 =>
  (zpF h11 a0 12 5 h10.1.1).bind fun h12 =>
  (zna h12 101 (60 : Int32)).bind fun h13 =>
  (zpF h13 a0 12 6 h12.1.1).bind fun h14 =>
  (zna h14 101 (60 : Int32)).bind fun h15 =>
  (zpF h15 a0 12 7 h14.1.1).bind fun h16 =>
  (zna h16 103 (12 : Int32)).bind fun h17 =>
  (zpF h17 a0 12 8 h16.1.1).bind fun h18 =>
  (zna h18 103 (12 : Int32)).bind fun h19 =>
  (zpF h19 a0 12 9 h18.1.1).bind fun h20 =>
  (zna h20 103 (12 : Int32)).bind fun h21 =>
  (zpF h21 a0 12 10 h20.1.1).bind fun h22 =>
  (zna h22 101 (61 : Int32)).bind fun h23 =>
  (zpF h23 a0 12 12 h22.1.1).bind fun h24 =>
  (zna h24 101 (61 : Int32)).bind fun h25 =>
  (zpF h25 a0 12 13 h24.1.1).bind fun h26 =>
  (zna h26 101 (1952 : Int32)).bind fun h27 =>
  (zpF h27 a0 12 14 h26.1.1).bind fun h28 =>
  (zna h28 101 (61 : Int32)).bind fun h29 =>
  (zpF h29 a0 12 16 h28.1.1).bind fun h30 =>
  (zna h30 101 (61 : Int32)).bind fun h31 =>
  (zpF h31 a0 12 17 h30.1.1).bind fun h32 =>
  (zna h32 101 (1952 : Int32)).bind fun h33 =>
  (zpF h33 a0 12 18 h32.1.1).bind fun h34 =>
  (zpI h34 a0 12 19 (-1 : Int32)).bind fun h35 =>
  (zna h35 101 (61 : Int32)).bind fun h36 =>
  (zpF h36 a0 12 20 h35.1.1).bind fun h37 =>
  (zna h37 101 (1952 : Int32)).bind fun h38 =>
  (zpF h38 a0 12 21 h37.1.1).bind fun h39 =>
  (zna h39 101 (32 : Int32)).bind fun h40 =>
  (zpF h40 a0 12 22 h39.1.1).bind fun h41 =>
  (zpI h41 a0 12 23 (-2 : Int32)).bind fun h42 =>
  (zna h42 101 (4200 : Int32)).bind fun h43 =>
  (zpF h43 a0 12 24 h42.1.1).bind fun h44 =>
  (zna h44 101 (2 : Int32)).bind fun h45 =>
  (zis h45 h44.1.1 (0 : Int32) (-2 : Int32)).bind fun h46 =>
  (zis h46 h44.1.1 (1 : Int32) (-2 : Int32)).bind fun h47 =>
  (zpF h47 a0 12 25 h44.1.1).bind fun h48 =>
  (zna h48 101 (26000 : Int32)).bind fun h49 =>
  (zpF h49 a0 12 26 h48.1.1).bind fun h50 =>
  (zna h50 101 (12 : Int32)).bind fun h51 =>
  (zpF h51 a0 12 27 h50.1.1).bind fun h52 =>
  (zna h52 101 (12 : Int32)).bind fun h53 =>
  (zpF h53 a0 12 28 h52.1.1).bind fun h54 =>
  (zna h54 102 (156000 : Int32)).bind fun h55 =>
  (zpF h55 a0 12 29 h54.1.1).bind fun h56 =>
  (zna h56 102 (156000 : Int32)).bind fun h57 =>
  (zpF h57 a0 12 30 h56.1.1).bind fun h58 =>
  (zna h58 102 (13000 : Int32)).bind fun h59 =>
  (zpF h59 a0 12 31 h58.1.1).bind fun h60 =>
  (zna h60 101 (160 : Int32)).bind fun h61 =>
  (zpF h61 a0 12 33 h60.1.1).bind fun h62 =>
  (zna h62 101 (160 : Int32)).bind fun h63 =>
  (zpF h63 a0 12 34 h62.1.1).bind fun h64 =>
  (zna h64 101 (160 : Int32)).bind fun h65 =>
  (zpF h65 a0 12 35 h64.1.1).bind fun h66 =>
  (zna h66 101 (160 : Int32)).bind fun h67 =>
  (zpF h67 a0 12 36 h66.1.1).bind fun h68 =>
  (zna h68 102 (96000 : Int32)).bind fun h69 =>
  (zpF h69 a0 12 37 h68.1.1).bind fun h70 =>
  (zna h70 101 (160 : Int32)).bind fun h71 =>
  (zpF h71 a0 12 38 h70.1.1).bind fun h72 =>
  (zna h72 101 (160 : Int32)).bind fun h73 =>
  (zpF h73 a0 12 39 h72.1.1).bind fun h74 =>
  (zna h74 101 (160 : Int32)).bind fun h75 =>
  (zpF h75 a0 12 40 h74.1.1).bind fun h76 =>
  (zna h76 103 (36 : Int32)).bind fun h77 =>
  (zpF h77 a0 12 41 h76.1.1).bind fun h78 =>
  (zna h78 101 (36 : Int32)).bind fun h79 =>
  (zpF h79 a0 12 42 h78.1.1).bind fun h80 =>
  (zna h80 101 (640 : Int32)).bind fun h81 =>
  (zpF h81 a0 12 43 h80.1.1).bind fun h82 =>
  (zna h82 101 (640 : Int32)).bind fun h83 =>
  (zpF h83 a0 12 44 h82.1.1).bind fun h84 =>
  (zna h84 101 (4096 : Int32)).bind fun h85 =>
  (zpF h85 a0 12 49 h84.1.1).bind fun h86 =>
  (zna h86 101 (4096 : Int32)).bind fun h87 =>
  (zpF h87 a0 12 50 h86.1.1).bind fun h88 =>
  (zna h88 101 (4096 : Int32)).bind fun h89 =>
  (zpF h89 a0 12 51 h88.1.1).bind fun h90 =>
  (zna h90 103 (4096 : Int32)).bind fun h91 =>
  (zpF h91 a0 12 52 h90.1.1).bind fun h92 =>
  (zna h92 101 (4200 : Int32)).bind fun h93 =>
  (zpF h93 a0 12 53 h92.1.1).bind fun h94 =>
  (zna h94 101 (1002 : Int32)).bind fun h95 =>
  (zpF h95 a0 12 55 h94.1.1).bind fun h96 =>
  (zna h96 101 (1002 : Int32)).bind fun h97 =>
  (zpF h97 a0 12 56 h96.1.1).bind fun h98 =>
  (zna h98 101 (1002 : Int32)).bind fun h99 =>
  (zpF h99 a0 12 57 h98.1.1).bind fun h100 =>
  (zna h100 102 (224448 : Int32)).bind fun h101 =>
  (zpF h101 a0 12 58 h100.1.1).bind fun h102 =>
  (zna h102 101 (5 : Int32)).bind fun h103 =>
  (zis h103 h102.1.1 (0 : Int32) (-1 : Int32)).bind fun h104 =>
  (zis h104 h102.1.1 (1 : Int32) (-1 : Int32)).bind fun h105 =>
  (zis h105 h102.1.1 (2 : Int32) (-1 : Int32)).bind fun h106 =>
  (zis h106 h102.1.1 (3 : Int32) (-1 : Int32)).bind fun h107 =>
  (zis h107 h102.1.1 (4 : Int32) (-1 : Int32)).bind fun h108 =>
  (zpF h108 a0 12 63 h102.1.1).bind fun h109 =>
  (zna h109 101 (606 : Int32)).bind fun h110 =>
  (zpF h110 a0 12 65 h109.1.1).bind fun h111 =>
  (zna h111 102 (72720 : Int32)).bind fun h112 =>
  (zpF h112 a0 12 66 h111.1.1).bind fun h113 =>
  (zna h113 101 (400 : Int32)).bind fun h114 =>
  (zpF h114 a0 12 67 h113.1.1).bind fun h115 =>
  (zna h115 101 (400 : Int32)).bind fun h116 =>
  (zpF h116 a0 12 68 h115.1.1).bind fun h117 =>
  (zna h117 102 (104000 : Int32)).bind fun h118 =>
  (zpF h118 a0 12 69 h117.1.1).bind fun h119 =>
  (zna h119 101 (6 : Int32)).bind fun h120 =>
  (zpF h120 a0 12 70 h119.1.1).bind fun h121 =>
  (zna h121 102 (720 : Int32)).bind fun h122 =>
  (zpF h122 a0 12 71 h121.1.1).bind fun h123 =>
  (zna h123 101 (101 : Int32)).bind fun h124 =>
  (zpF h124 a0 12 72 h123.1.1).bind fun h125 =>
  (zna h125 102 (26260 : Int32)).bind fun h126 =>
  (zpF h126 a0 12 73 h125.1.1).bind fun h127 =>
  (zna h127 101 (101 : Int32)).bind fun h128 =>
  (zpF h128 a0 12 75 h127.1.1).bind fun h129 =>
  (zna h129 102 (52520 : Int32)).bind fun h130 =>
  (zpF h130 a0 12 76 h129.1.1).bind fun h131 =>
  (zna h131 102 (1040 : Int32)).bind fun h132 =>
  (zpF h132 a0 12 77 h131.1.1).bind fun h133 =>
  (zna h133 101 (404 : Int32)).bind fun h134 =>
  (zpF h134 a0 12 80 h133.1.1).bind fun h135 =>
  (zna h135 101 (404 : Int32)).bind fun h136 =>
  (zpF h136 a0 12 81 h135.1.1).bind fun h137 =>
  (zna h137 102 (315120 : Int32)).bind fun h138 =>
  (zpF h138 a0 12 82 h137.1.1).bind fun h139 =>
  (zna h139 102 (520 : Int32)).bind fun h140 =>
  (zpF h140 a0 12 84 h139.1.1).bind fun h141 =>
  (zna h141 101 (404 : Int32)).bind fun h142 =>
  (zpF h142 a0 12 85 h141.1.1).bind fun h143 =>
  (zna h143 102 (315120 : Int32)).bind fun h144 =>
  (zpF h144 a0 12 86 h143.1.1).bind fun h145 =>
  (zna h145 101 (101 : Int32)).bind fun h146 =>
  (zpF h146 a0 12 87 h145.1.1).bind fun h147 =>
  (zna h147 101 (101 : Int32)).bind fun h148 =>
  (zpF h148 a0 12 88 h147.1.1).bind fun h149 =>
  (zna h149 101 (101 : Int32)).bind fun h150 =>
  (zpF h150 a0 12 89 h149.1.1).bind fun h151 =>
  (zna h151 102 (9000 : Int32)).bind fun h152 =>
  (zpF h152 a0 12 91 h151.1.1).bind fun h153 =>
  (zna h153 102 (9000 : Int32)).bind fun h154 =>
  (zpF h154 a0 12 92 h153.1.1).bind fun h155 =>
  some (0, 0, h155) := by
  rw [show zf nX12_init = zFn zrecs 139 from rfl, zFn_eq (M := zr_X12_init) rfl zd_X12_init]
  exact (if_pos (Nat.le_of_ble_eq_true rfl)).trans ((zZ_eq zFn_mono _ _ _ _).trans rfl)
noncomputable def zm_X12_isMachine : zK4 := zZ zf zo_X12_isMachine []
set_option maxRecDepth 50000 in
theorem e_X12_isMachine (a0 : Int32) (h : zM) : zf nX12_isMachine [.inl a0] h =
  if a0 = 0 then
    zb (1 : Int32) h
  else
    if a0 = (1 : Int32) then
      zb (1 : Int32) h
    else
      zb (0 : Int32) h := by
  rw [show zf nX12_isMachine = zFn zrecs 140 from rfl, zFn_eq (M := zr_X12_isMachine) rfl zd_X12_isMachine]
  exact (if_pos (Nat.le_of_ble_eq_true rfl)).trans ((zZ_eq zFn_mono _ _ _ _).trans rfl)
noncomputable def zm_X12_isState : zK4 := zZ zf zo_X12_isState []
set_option maxRecDepth 50000 in
theorem e_X12_isState (a0 : Nat) (a1 : Int32) (a2 : Int32) (h : zM) : zf nX12_isState [.inr a0, .inl a1, .inl a2] h =
  (zf nX12_isMachine [.inl a1] h).bind fun u1 =>
  if u1.1 = 0 then
    zb (0 : Int32) u1.2.2
  else
    if a2 < 0 then
      zb (0 : Int32) u1.2.2
    else
      (zgF u1.2.2 a0 12 0).bind fun r1 =>
      (zia u1.2.2 r1 a1).bind fun v1 =>
      if a2 < v1 then
        zb (1 : Int32) u1.2.2
      else
        zb (0 : Int32) u1.2.2 := by
  rw [show zf nX12_isState = zFn zrecs 141 from rfl, zFn_eq (M := zr_X12_isState) rfl zd_X12_isState]
  exact (if_pos (Nat.le_of_ble_eq_true rfl)).trans ((zZ_eq zFn_mono _ _ _ _).trans rfl)
noncomputable def zm_X12_letters : zK4 := zZ zf zo_X12_letters [(10, 4)]
set_option maxRecDepth 50000 in
theorem e_X12_letters (a0 : Int32) (a1 : Int32) (h : zM) : zf nX12_letters [.inl a0, .inl a1] h =
  if a0 < 0 then
    some ((-1 : Int32), 0, h)
  else
    zm_X12_letters 10 [some (.inl a0), some (.inl a1), some (.inl (0 : Int32)), some (.inl a0)] [] h := by
  rw [show zf nX12_letters = zFn zrecs 142 from rfl, zFn_eq (M := zr_X12_letters) rfl zd_X12_letters]
  exact (if_pos (Nat.le_of_ble_eq_true rfl)).trans ((zZ_eq zFn_mono _ _ _ _).trans rfl)
set_option maxRecDepth 50000 in
theorem e_X12_letters_10 (a0 : Int32) (a1 : Int32) (a2 : Int32) (a3 : Int32) (h : zM) : zm_X12_letters 10 [some (.inl a0), some (.inl a1), some (.inl a2), some (.inl a3)] [] h =
  if 0 < a3 then
    if (10 : Int32) = 0 then none else
    if (a3 - a3 / (10 : Int32) * (10 : Int32)) < (1 : Int32) then
      some ((-1 : Int32), 0, h)
    else
      if (10 : Int32) = 0 then none else
      if a1 < (a3 - a3 / (10 : Int32) * (10 : Int32)) then
        some ((-1 : Int32), 0, h)
      else
        if (10 : Int32) = 0 then none else
        zm_X12_letters 10 [some (.inl a0), some (.inl a1), some (.inl (a2 + (1 : Int32))), some (.inl (a3 / (10 : Int32)))] [] h
  else
    some (a2, 0, h) := (zZ_eq zFn_mono _ _ _ _).trans rfl
noncomputable def zm_X12_letter : zK4 := zZ zf zo_X12_letter [(7, 5)]
set_option maxRecDepth 50000 in
theorem e_X12_letter (a0 : Int32) (a1 : Int32) (a2 : Int32) (h : zM) : zf nX12_letter [.inl a0, .inl a1, .inl a2] h =
  zm_X12_letter 7 [some (.inl a0), some (.inl a1), some (.inl a2), some (.inl a0), some (.inl (a1 - (1 : Int32)))] [] h := by
  rw [show zf nX12_letter = zFn zrecs 143 from rfl, zFn_eq (M := zr_X12_letter) rfl zd_X12_letter]
  exact (if_pos (Nat.le_of_ble_eq_true rfl)).trans ((zZ_eq zFn_mono _ _ _ _).trans rfl)
set_option maxRecDepth 50000 in
theorem e_X12_letter_7 (a0 : Int32) (a1 : Int32) (a2 : Int32) (a3 : Int32) (a4 : Int32) (h : zM) : zm_X12_letter 7 [some (.inl a0), some (.inl a1), some (.inl a2), some (.inl a3), some (.inl a4)] [] h =
  if a2 < a4 then
    if (10 : Int32) = 0 then none else
    zm_X12_letter 7 [some (.inl a0), some (.inl a1), some (.inl a2), some (.inl (a3 / (10 : Int32))), some (.inl (a4 + (-1 : Int32)))] [] h
  else
    if (10 : Int32) = 0 then none else
    some ((a3 - a3 / (10 : Int32) * (10 : Int32)), 0, h) := (zZ_eq zFn_mono _ _ _ _).trans rfl
noncomputable def zm_X12_isWritten : zK4 := zZ zf zo_X12_isWritten []
set_option maxRecDepth 50000 in
theorem e_X12_isWritten (a0 : Int32) (h : zM) : zf nX12_isWritten [.inl a0] h =
  (zf nX12_letters [.inl a0, .inl (9 : Int32)] h).bind fun u1 =>
  if u1.1 < 0 then
    zb (0 : Int32) u1.2.2
  else
    if (3 : Int32) < u1.1 then
      zb (0 : Int32) u1.2.2
    else
      zb (1 : Int32) u1.2.2 := by
  rw [show zf nX12_isWritten = zFn zrecs 144 from rfl, zFn_eq (M := zr_X12_isWritten) rfl zd_X12_isWritten]
  exact (if_pos (Nat.le_of_ble_eq_true rfl)).trans ((zZ_eq zFn_mono _ _ _ _).trans rfl)
noncomputable def zm_X12_machine : zK4 := zZ zf zo_X12_machine [(35, 4)]
set_option maxRecDepth 50000 in
theorem e_X12_machine (a0 : Nat) (a1 : Int32) (a2 : Int32) (h : zM) : zf nX12_machine [.inr a0, .inl a1, .inl a2] h =
  (zf nX12_isMachine [.inl a1] h).bind fun u1 =>
  if u1.1 = 0 then
    zb (0 : Int32) u1.2.2
  else
    if a2 < 0 then
      zb (0 : Int32) u1.2.2
    else
      if (6 : Int32) < a2 then
        zb (0 : Int32) u1.2.2
      else
        (zgF u1.2.2 a0 12 0).bind fun r1 =>
        (zis u1.2.2 r1 a1 a2).bind fun h1 =>
        (zgF h1 a0 12 3).bind fun r2 =>
        (zis h1 r2 a1 (0 : Int32)).bind fun h2 =>
        zm_X12_machine 35 [some (.inr a0), some (.inl a1), some (.inl a2), some (.inl (0 : Int32))] [] h2 := by
  rw [show zf nX12_machine = zFn zrecs 145 from rfl, zFn_eq (M := zr_X12_machine) rfl zd_X12_machine]
  exact (if_pos (Nat.le_of_ble_eq_true rfl)).trans ((zZ_eq zFn_mono _ _ _ _).trans rfl)
set_option maxRecDepth 50000 in
theorem e_X12_machine_35 (a0 : Nat) (a1 : Int32) (a2 : Int32) (a3 : Int32) (h : zM) : zm_X12_machine 35 [some (.inr a0), some (.inl a1), some (.inl a2), some (.inl a3)] [] h =
  if a3 < (6 : Int32) then
    (zgF h a0 12 1).bind fun r1 =>
    (zbs h r1 (((6 : Int32) * a1) + a3) (0 : Int32)).bind fun h1 =>
    (zgF h1 a0 12 2).bind fun r2 =>
    (zis h1 r2 (((6 : Int32) * a1) + a3) (-1 : Int32)).bind fun h2 =>
    zm_X12_machine 35 [some (.inr a0), some (.inl a1), some (.inl a2), some (.inl (a3 + (1 : Int32)))] [] h2
  else
    zb (1 : Int32) h := (zZ_eq zFn_mono _ _ _ _).trans rfl
noncomputable def zm_X12_begins : zK4 := zZ zf zo_X12_begins []
set_option maxRecDepth 50000 in
theorem e_X12_begins (a0 : Nat) (a1 : Int32) (a2 : Int32) (a3 : Int32) (h : zM) : zf nX12_begins [.inr a0, .inl a1, .inl a2, .inl a3] h =
  zif (zK h a0 = 13) (
  (zf nX12_isState [.inr a0, .inl a1, .inl a2] h).bind fun u1 =>
  if u1.1 = 0 then
    zb (0 : Int32) u1.2.2
  else
    (zgF u1.2.2 a0 12 1).bind fun r1 =>
    (zbs u1.2.2 r1 (((6 : Int32) * a1) + a2) a3).bind fun h1 =>
    zb (1 : Int32) h1) := by
  rw [show zf nX12_begins = zFn zrecs 146 from rfl, zFn_eq (M := zr_X12_begins) rfl zd_X12_begins]
  exact (if_pos (Nat.le_of_ble_eq_true rfl)).trans ((zZ_eq zFn_mono _ _ _ _).trans rfl)
noncomputable def zm_X12_ends : zK4 := zZ zf zo_X12_ends []
set_option maxRecDepth 50000 in
theorem e_X12_ends (a0 : Nat) (a1 : Int32) (a2 : Int32) (a3 : Int32) (h : zM) : zf nX12_ends [.inr a0, .inl a1, .inl a2, .inl a3] h =
  zif (zK h a0 = 13) (
  (zf nX12_isState [.inr a0, .inl a1, .inl a2] h).bind fun u1 =>
  if u1.1 = 0 then
    zb (0 : Int32) u1.2.2
  else
    if a3 = (-1 : Int32) then
      (zgF u1.2.2 a0 12 2).bind fun r1 =>
      (zis u1.2.2 r1 (((6 : Int32) * a1) + a2) a3).bind fun h1 =>
      zb (1 : Int32) h1
    else
      (zf nX12_isWritten [.inl a3] u1.2.2).bind fun u2 =>
      if u2.1 = 0 then
        zb (0 : Int32) u2.2.2
      else
        (zgF u2.2.2 a0 12 2).bind fun r2 =>
        (zis u2.2.2 r2 (((6 : Int32) * a1) + a2) a3).bind fun h2 =>
        zb (1 : Int32) h2) := by
  rw [show zf nX12_ends = zFn zrecs 147 from rfl, zFn_eq (M := zr_X12_ends) rfl zd_X12_ends]
  exact (if_pos (Nat.le_of_ble_eq_true rfl)).trans ((zZ_eq zFn_mono _ _ _ _).trans rfl)
noncomputable def zm_X12_comes : zK4 := zZ zf zo_X12_comes []
set_option maxRecDepth 50000 in
theorem e_X12_comes (a0 : Nat) (a1 : Int32) (a2 : Int32) (a3 : Int32) (a4 : Int32) (a5 : Int32) (h : zM) : zf nX12_comes [.inr a0, .inl a1, .inl a2, .inl a3, .inl a4, .inl a5] h =
  (zgF h a0 12 3).bind fun r1 =>
  (zia h r1 a1).bind fun v1 =>
  (zgF h a0 12 4).bind fun r2 =>
  (zis h r2 (((30 : Int32) * a1) + v1) a2).bind fun h1 =>
  (zgF h1 a0 12 5).bind fun r3 =>
  (zis h1 r3 (((30 : Int32) * a1) + v1) a3).bind fun h2 =>
  (zgF h2 a0 12 6).bind fun r4 =>
  (zis h2 r4 (((30 : Int32) * a1) + v1) a4).bind fun h3 =>
  (zgF h3 a0 12 7).bind fun r5 =>
  (zis h3 r5 (((30 : Int32) * a1) + v1) a5).bind fun h4 =>
  (zgF h4 a0 12 3).bind fun r6 =>
  (zia h4 r6 a1).bind fun v2 =>
  (zis h4 r6 a1 (v2 + (1 : Int32))).bind fun h5 =>
  some (0, 0, h5) := by
  rw [show zf nX12_comes = zFn zrecs 148 from rfl, zFn_eq (M := zr_X12_comes) rfl zd_X12_comes]
  exact (if_pos (Nat.le_of_ble_eq_true rfl)).trans ((zZ_eq zFn_mono _ _ _ _).trans rfl)
noncomputable def zm_X12_arc : zK4 := zZ zf zo_X12_arc [(45, 7)]
set_option maxRecDepth 50000 in
theorem e_X12_arc (a0 : Nat) (a1 : Int32) (a2 : Int32) (a3 : Int32) (a4 : Int32) (a5 : Int32) (h : zM) : zf nX12_arc [.inr a0, .inl a1, .inl a2, .inl a3, .inl a4, .inl a5] h =
  zif (zK h a0 = 13) (
  (zf nX12_isState [.inr a0, .inl a1, .inl a2] h).bind fun u1 =>
  if u1.1 = 0 then
    some ((-1 : Int32), 0, u1.2.2)
  else
    zif (zK u1.2.2 a0 = 13) (
    (zf nX12_isState [.inr a0, .inl a1, .inl a4] u1.2.2).bind fun u2 =>
    if u2.1 = 0 then
      some ((-1 : Int32), 0, u2.2.2)
    else
      if a3 < (1 : Int32) then
        some ((-1 : Int32), 0, u2.2.2)
      else
        if (3 : Int32) < a3 then
          some ((-1 : Int32), 0, u2.2.2)
        else
          (zf nX12_isWritten [.inl a5] u2.2.2).bind fun u3 =>
          if u3.1 = 0 then
            some ((-1 : Int32), 0, u3.2.2)
          else
            zm_X12_arc 45 [some (.inr a0), some (.inl a1), some (.inl a2), some (.inl a3), some (.inl a4), some (.inl a5), some (.inl ((30 : Int32) * a1))] [] u3.2.2)) := by
  rw [show zf nX12_arc = zFn zrecs 149 from rfl, zFn_eq (M := zr_X12_arc) rfl zd_X12_arc]
  exact (if_pos (Nat.le_of_ble_eq_true rfl)).trans ((zZ_eq zFn_mono _ _ _ _).trans rfl)
set_option maxRecDepth 50000 in
theorem e_X12_arc_45 (a0 : Nat) (a1 : Int32) (a2 : Int32) (a3 : Int32) (a4 : Int32) (a5 : Int32) (a6 : Int32) (h : zM) : zm_X12_arc 45 [some (.inr a0), some (.inl a1), some (.inl a2), some (.inl a3), some (.inl a4), some (.inl a5), some (.inl a6)] [] h =
  (zgF h a0 12 3).bind fun r1 =>
  (zia h r1 a1).bind fun v1 =>
  if a6 < (((30 : Int32) * a1) + v1) then
    (zgF h a0 12 4).bind fun r2 =>
    (zia h r2 a6).bind fun v2 =>
    if v2 = a2 then
      (zgF h a0 12 5).bind fun r3 =>
      (zia h r3 a6).bind fun v3 =>
      if v3 = a3 then
        (zgF h a0 12 6).bind fun r4 =>
        (zia h r4 a6).bind fun v4 =>
        if v4 = a4 then
          (zgF h a0 12 7).bind fun r5 =>
          (zia h r5 a6).bind fun v5 =>
          if v5 = a5 then
            (zgF h a0 12 3).bind fun r6 =>
            (zia h r6 a1).bind fun v6 =>
            some (v6, 0, h)
          else
            zm_X12_arc 45 [some (.inr a0), some (.inl a1), some (.inl a2), some (.inl a3), some (.inl a4), some (.inl a5), some (.inl (a6 + (1 : Int32)))] [] h
        else
          zm_X12_arc 45 [some (.inr a0), some (.inl a1), some (.inl a2), some (.inl a3), some (.inl a4), some (.inl a5), some (.inl (a6 + (1 : Int32)))] [] h
      else
        zm_X12_arc 45 [some (.inr a0), some (.inl a1), some (.inl a2), some (.inl a3), some (.inl a4), some (.inl a5), some (.inl (a6 + (1 : Int32)))] [] h
    else
      zm_X12_arc 45 [some (.inr a0), some (.inl a1), some (.inl a2), some (.inl a3), some (.inl a4), some (.inl a5), some (.inl (a6 + (1 : Int32)))] [] h
  else
    (zgF h a0 12 3).bind fun r7 =>
    (zia h r7 a1).bind fun v7 =>
    if v7 = (30 : Int32) then
      some ((-1 : Int32), 0, h)
    else
      zif (zK h a0 = 13) (
      (zf nX12_comes [.inr a0, .inl a1, .inl a2, .inl a3, .inl a4, .inl a5] h).bind fun u1 =>
      (zgF u1.2.2 a0 12 3).bind fun r8 =>
      (zia u1.2.2 r8 a1).bind fun v8 =>
      some (v8, 0, u1.2.2)) := (zZ_eq zFn_mono _ _ _ _).trans rfl
noncomputable def zm_X12_copy : zK4 := zZ zf zo_X12_copy [(28, 5), (95, 5)]
set_option maxRecDepth 50000 in
theorem e_X12_copy (a0 : Nat) (a1 : Int32) (h : zM) : zf nX12_copy [.inr a0, .inl a1] h =
  (zf nX12_isMachine [.inl a1] h).bind fun u1 =>
  if u1.1 = 0 then
    zb (0 : Int32) u1.2.2
  else
    (zgF u1.2.2 a0 12 0).bind fun r1 =>
    (zia u1.2.2 r1 ((1 : Int32) - a1)).bind fun v1 =>
    zif (zK u1.2.2 a0 = 13) (
    (zf nX12_machine [.inr a0, .inl a1, .inl v1] u1.2.2).bind fun u2 =>
    zm_X12_copy 28 [some (.inr a0), some (.inl a1), some (.inl ((1 : Int32) - a1)), some (.inl u2.1), some (.inl (0 : Int32))] [] u2.2.2) := by
  rw [show zf nX12_copy = zFn zrecs 150 from rfl, zFn_eq (M := zr_X12_copy) rfl zd_X12_copy]
  exact (if_pos (Nat.le_of_ble_eq_true rfl)).trans ((zZ_eq zFn_mono _ _ _ _).trans rfl)
set_option maxRecDepth 50000 in
theorem e_X12_copy_28 (a0 : Nat) (a1 : Int32) (a2 : Int32) (a3 : Int32) (a4 : Int32) (h : zM) : zm_X12_copy 28 [some (.inr a0), some (.inl a1), some (.inl a2), some (.inl a3), some (.inl a4)] [] h =
  if a4 < (6 : Int32) then
    (zgF h a0 12 1).bind fun r1 =>
    (zgF h a0 12 1).bind fun r2 =>
    (zba h r2 (((6 : Int32) * a2) + a4)).bind fun v1 =>
    (zbs h r1 (((6 : Int32) * a1) + a4) v1).bind fun h1 =>
    (zgF h1 a0 12 2).bind fun r3 =>
    (zgF h1 a0 12 2).bind fun r4 =>
    (zia h1 r4 (((6 : Int32) * a2) + a4)).bind fun v2 =>
    (zis h1 r3 (((6 : Int32) * a1) + a4) v2).bind fun h2 =>
    zm_X12_copy 28 [some (.inr a0), some (.inl a1), some (.inl a2), some (.inl a3), some (.inl (a4 + (1 : Int32)))] [] h2
  else
    zm_X12_copy 95 [some (.inr a0), some (.inl a1), some (.inl a2), some (.inl a3), some (.inl ((30 : Int32) * a2))] [] h := (zZ_eq zFn_mono _ _ _ _).trans rfl
set_option maxRecDepth 50000 in
theorem e_X12_copy_95 (a0 : Nat) (a1 : Int32) (a2 : Int32) (a3 : Int32) (a4 : Int32) (h : zM) : zm_X12_copy 95 [some (.inr a0), some (.inl a1), some (.inl a2), some (.inl a3), some (.inl a4)] [] h =
  (zgF h a0 12 3).bind fun r1 =>
  (zia h r1 a2).bind fun v1 =>
  if a4 < (((30 : Int32) * a2) + v1) then
    (zgF h a0 12 4).bind fun r2 =>
    (zia h r2 a4).bind fun v2 =>
    (zgF h a0 12 5).bind fun r3 =>
    (zia h r3 a4).bind fun v3 =>
    (zgF h a0 12 6).bind fun r4 =>
    (zia h r4 a4).bind fun v4 =>
    (zgF h a0 12 7).bind fun r5 =>
    (zia h r5 a4).bind fun v5 =>
    zif (zK h a0 = 13) (
    (zf nX12_comes [.inr a0, .inl a1, .inl v2, .inl v3, .inl v4, .inl v5] h).bind fun u1 =>
    zm_X12_copy 95 [some (.inr a0), some (.inl a1), some (.inl a2), some (.inl a3), some (.inl (a4 + (1 : Int32)))] [] u1.2.2)
  else
    zb (1 : Int32) h := (zZ_eq zFn_mono _ _ _ _).trans rfl
noncomputable def zm_X12_uses : zK4 := zZ zf zo_X12_uses [(2, 3), (97, 3), (108, 4), (209, 3)]
set_option maxRecDepth 50000 in
theorem e_X12_uses (a0 : Nat) (a1 : Int32) (h : zM) : zf nX12_uses [.inr a0, .inl a1] h =
  zm_X12_uses 2 [some (.inr a0), some (.inl a1), some (.inl (0 : Int32)), none] [] h := by
  rw [show zf nX12_uses = zFn zrecs 151 from rfl, zFn_eq (M := zr_X12_uses) rfl zd_X12_uses]
  exact (if_pos (Nat.le_of_ble_eq_true rfl)).trans ((zZ_eq zFn_mono _ _ _ _).trans rfl)
set_option maxRecDepth 50000 in
theorem e_X12_uses_2 (a0 : Nat) (a1 : Int32) (a2 : Int32) (h : zM) : zm_X12_uses 2 [some (.inr a0), some (.inl a1), some (.inl a2), none] [] h =
  if a2 < (6 : Int32) then
    (zgF h a0 12 9).bind fun r1 =>
    (zgF h a0 12 0).bind fun r2 =>
    (zia h r2 a1).bind fun v1 =>
    if a2 < v1 then
      (zgF h a0 12 1).bind fun r3 =>
      (zba h r3 (((6 : Int32) * a1) + a2)).bind fun v2 =>
      if v2 = 0 then
        (zbs h r1 (((6 : Int32) * a1) + a2) (0 : Int32)).bind fun h1 =>
        (zgF h1 a0 12 10).bind fun r4 =>
        (zgF h1 a0 12 0).bind fun r5 =>
        (zia h1 r5 a1).bind fun v3 =>
        if a2 < v3 then
          (zgF h1 a0 12 2).bind fun r6 =>
          (zia h1 r6 (((6 : Int32) * a1) + a2)).bind fun v4 =>
          if v4 = (-1 : Int32) then
            (zbs h1 r4 (((6 : Int32) * a1) + a2) (0 : Int32)).bind fun h2 =>
            zm_X12_uses 2 [some (.inr a0), some (.inl a1), some (.inl (a2 + (1 : Int32))), none] [] h2
          else
            (zbs h1 r4 (((6 : Int32) * a1) + a2) (1 : Int32)).bind fun h3 =>
            zm_X12_uses 2 [some (.inr a0), some (.inl a1), some (.inl (a2 + (1 : Int32))), none] [] h3
        else
          (zbs h1 r4 (((6 : Int32) * a1) + a2) (0 : Int32)).bind fun h4 =>
          zm_X12_uses 2 [some (.inr a0), some (.inl a1), some (.inl (a2 + (1 : Int32))), none] [] h4
      else
        (zbs h r1 (((6 : Int32) * a1) + a2) (1 : Int32)).bind fun h5 =>
        (zgF h5 a0 12 10).bind fun r7 =>
        (zgF h5 a0 12 0).bind fun r8 =>
        (zia h5 r8 a1).bind fun v5 =>
        if a2 < v5 then
          (zgF h5 a0 12 2).bind fun r9 =>
          (zia h5 r9 (((6 : Int32) * a1) + a2)).bind fun v6 =>
          if v6 = (-1 : Int32) then
            (zbs h5 r7 (((6 : Int32) * a1) + a2) (0 : Int32)).bind fun h6 =>
            zm_X12_uses 2 [some (.inr a0), some (.inl a1), some (.inl (a2 + (1 : Int32))), none] [] h6
          else
            (zbs h5 r7 (((6 : Int32) * a1) + a2) (1 : Int32)).bind fun h7 =>
            zm_X12_uses 2 [some (.inr a0), some (.inl a1), some (.inl (a2 + (1 : Int32))), none] [] h7
        else
          (zbs h5 r7 (((6 : Int32) * a1) + a2) (0 : Int32)).bind fun h8 =>
          zm_X12_uses 2 [some (.inr a0), some (.inl a1), some (.inl (a2 + (1 : Int32))), none] [] h8
    else
      (zbs h r1 (((6 : Int32) * a1) + a2) (0 : Int32)).bind fun h9 =>
      (zgF h9 a0 12 10).bind fun r10 =>
      (zgF h9 a0 12 0).bind fun r11 =>
      (zia h9 r11 a1).bind fun v7 =>
      if a2 < v7 then
        (zgF h9 a0 12 2).bind fun r12 =>
        (zia h9 r12 (((6 : Int32) * a1) + a2)).bind fun v8 =>
        if v8 = (-1 : Int32) then
          (zbs h9 r10 (((6 : Int32) * a1) + a2) (0 : Int32)).bind fun h10 =>
          zm_X12_uses 2 [some (.inr a0), some (.inl a1), some (.inl (a2 + (1 : Int32))), none] [] h10
        else
          (zbs h9 r10 (((6 : Int32) * a1) + a2) (1 : Int32)).bind fun h11 =>
          zm_X12_uses 2 [some (.inr a0), some (.inl a1), some (.inl (a2 + (1 : Int32))), none] [] h11
      else
        (zbs h9 r10 (((6 : Int32) * a1) + a2) (0 : Int32)).bind fun h12 =>
        zm_X12_uses 2 [some (.inr a0), some (.inl a1), some (.inl (a2 + (1 : Int32))), none] [] h12
  else
    zm_X12_uses 97 [some (.inr a0), some (.inl a1), some (.inl (0 : Int32)), none] [] h := (zZ_eq zFn_mono _ _ _ _).trans rfl
set_option maxRecDepth 50000 in
theorem e_X12_uses_97 (a0 : Nat) (a1 : Int32) (a2 : Int32) (h : zM) : zm_X12_uses 97 [some (.inr a0), some (.inl a1), some (.inl a2), none] [] h =
  if a2 < (6 : Int32) then
    zm_X12_uses 108 [some (.inr a0), some (.inl a1), some (.inl a2), some (.inl ((30 : Int32) * a1))] [] h
  else
    zm_X12_uses 209 [some (.inr a0), some (.inl a1), some (.inl (0 : Int32)), none] [] h := (zZ_eq zFn_mono _ _ _ _).trans rfl
set_option maxRecDepth 50000 in
theorem e_X12_uses_108 (a0 : Nat) (a1 : Int32) (a2 : Int32) (a3 : Int32) (h : zM) : zm_X12_uses 108 [some (.inr a0), some (.inl a1), some (.inl a2), some (.inl a3)] [] h =
  (zgF h a0 12 3).bind fun r1 =>
  (zia h r1 a1).bind fun v1 =>
  if a3 < (((30 : Int32) * a1) + v1) then
    (zgF h a0 12 9).bind fun r2 =>
    (zgF h a0 12 4).bind fun r3 =>
    (zia h r3 a3).bind fun v2 =>
    (zba h r2 (((6 : Int32) * a1) + v2)).bind fun v3 =>
    if v3 = 0 then
      (zgF h a0 12 10).bind fun r4 =>
      (zgF h a0 12 6).bind fun r5 =>
      (zia h r5 a3).bind fun v4 =>
      (zba h r4 (((6 : Int32) * a1) + v4)).bind fun v5 =>
      if v5 = 0 then
        zm_X12_uses 108 [some (.inr a0), some (.inl a1), some (.inl a2), some (.inl (a3 + (1 : Int32)))] [] h
      else
        (zgF h a0 12 10).bind fun r6 =>
        (zgF h a0 12 4).bind fun r7 =>
        (zia h r7 a3).bind fun v6 =>
        (zbs h r6 (((6 : Int32) * a1) + v6) (1 : Int32)).bind fun h1 =>
        zm_X12_uses 108 [some (.inr a0), some (.inl a1), some (.inl a2), some (.inl (a3 + (1 : Int32)))] [] h1
    else
      (zgF h a0 12 9).bind fun r8 =>
      (zgF h a0 12 6).bind fun r9 =>
      (zia h r9 a3).bind fun v7 =>
      (zbs h r8 (((6 : Int32) * a1) + v7) (1 : Int32)).bind fun h2 =>
      (zgF h2 a0 12 10).bind fun r10 =>
      (zgF h2 a0 12 6).bind fun r11 =>
      (zia h2 r11 a3).bind fun v8 =>
      (zba h2 r10 (((6 : Int32) * a1) + v8)).bind fun v9 =>
      if v9 = 0 then
        zm_X12_uses 108 [some (.inr a0), some (.inl a1), some (.inl a2), some (.inl (a3 + (1 : Int32)))] [] h2
      else
        (zgF h2 a0 12 10).bind fun r12 =>
        (zgF h2 a0 12 4).bind fun r13 =>
        (zia h2 r13 a3).bind fun v10 =>
        (zbs h2 r12 (((6 : Int32) * a1) + v10) (1 : Int32)).bind fun h3 =>
        zm_X12_uses 108 [some (.inr a0), some (.inl a1), some (.inl a2), some (.inl (a3 + (1 : Int32)))] [] h3
  else
    zm_X12_uses 97 [some (.inr a0), some (.inl a1), some (.inl (a2 + (1 : Int32))), none] [] h := (zZ_eq zFn_mono _ _ _ _).trans rfl
set_option maxRecDepth 50000 in
theorem e_X12_uses_209 (a0 : Nat) (a1 : Int32) (a2 : Int32) (h : zM) : zm_X12_uses 209 [some (.inr a0), some (.inl a1), some (.inl a2), none] [] h =
  if a2 < (6 : Int32) then
    (zgF h a0 12 8).bind fun r1 =>
    (zgF h a0 12 9).bind fun r2 =>
    (zba h r2 (((6 : Int32) * a1) + a2)).bind fun v1 =>
    if v1 = 0 then
      (zbs h r1 (((6 : Int32) * a1) + a2) (0 : Int32)).bind fun h1 =>
      zm_X12_uses 209 [some (.inr a0), some (.inl a1), some (.inl (a2 + (1 : Int32))), none] [] h1
    else
      (zgF h a0 12 10).bind fun r3 =>
      (zba h r3 (((6 : Int32) * a1) + a2)).bind fun v2 =>
      if v2 = 0 then
        (zbs h r1 (((6 : Int32) * a1) + a2) (0 : Int32)).bind fun h2 =>
        zm_X12_uses 209 [some (.inr a0), some (.inl a1), some (.inl (a2 + (1 : Int32))), none] [] h2
      else
        (zbs h r1 (((6 : Int32) * a1) + a2) (1 : Int32)).bind fun h3 =>
        zm_X12_uses 209 [some (.inr a0), some (.inl a1), some (.inl (a2 + (1 : Int32))), none] [] h3
  else
    some (0, 0, h) := (zZ_eq zFn_mono _ _ _ _).trans rfl
noncomputable def zm_X12_useful : zK4 := zZ zf zo_X12_useful []
set_option maxRecDepth 50000 in
theorem e_X12_useful (a0 : Nat) (a1 : Int32) (a2 : Int32) (h : zM) : zf nX12_useful [.inr a0, .inl a1, .inl a2] h =
  zif (zK h a0 = 13) (
  (zf nX12_isState [.inr a0, .inl a1, .inl a2] h).bind fun u1 =>
  if u1.1 = 0 then
    some ((-1 : Int32), 0, u1.2.2)
  else
    zif (zK u1.2.2 a0 = 13) (
    (zf nX12_uses [.inr a0, .inl a1] u1.2.2).bind fun u2 =>
    (zgF u2.2.2 a0 12 8).bind fun r1 =>
    (zba u2.2.2 r1 (((6 : Int32) * a1) + a2)).bind fun v1 =>
    if v1 = 0 then
      some ((0 : Int32), 0, u2.2.2)
    else
      some ((1 : Int32), 0, u2.2.2))) := by
  rw [show zf nX12_useful = zFn zrecs 152 from rfl, zFn_eq (M := zr_X12_useful) rfl zd_X12_useful]
  exact (if_pos (Nat.le_of_ble_eq_true rfl)).trans ((zZ_eq zFn_mono _ _ _ _).trans rfl)
noncomputable def zm_X12_size : zK4 := zZ zf zo_X12_size [(60, 5)]
set_option maxRecDepth 50000 in
theorem e_X12_size (a0 : Nat) (a1 : Int32) (a2 : Int32) (h : zM) : zf nX12_size [.inr a0, .inl a1, .inl a2] h =
  (zf nX12_isMachine [.inl a1] h).bind fun u1 =>
  if u1.1 = 0 then
    some ((-1 : Int32), 0, u1.2.2)
  else
    if a2 < (2 : Int32) then
      if a2 = 0 then
        (zgF u1.2.2 a0 12 0).bind fun r1 =>
        (zia u1.2.2 r1 a1).bind fun v1 =>
        some (v1, 0, u1.2.2)
      else
        if a2 = (1 : Int32) then
          (zgF u1.2.2 a0 12 3).bind fun r2 =>
          (zia u1.2.2 r2 a1).bind fun v2 =>
          some (v2, 0, u1.2.2)
        else
          some ((-1 : Int32), 0, u1.2.2)
    else
      if (2 : Int32) < a2 then
        some ((-1 : Int32), 0, u1.2.2)
      else
        zif (zK u1.2.2 a0 = 13) (
        (zf nX12_uses [.inr a0, .inl a1] u1.2.2).bind fun u2 =>
        zm_X12_size 60 [some (.inr a0), some (.inl a1), some (.inl a2), some (.inl (0 : Int32)), some (.inl (0 : Int32))] [] u2.2.2) := by
  rw [show zf nX12_size = zFn zrecs 153 from rfl, zFn_eq (M := zr_X12_size) rfl zd_X12_size]
  exact (if_pos (Nat.le_of_ble_eq_true rfl)).trans ((zZ_eq zFn_mono _ _ _ _).trans rfl)
set_option maxRecDepth 50000 in
theorem e_X12_size_60 (a0 : Nat) (a1 : Int32) (a2 : Int32) (a3 : Int32) (a4 : Int32) (h : zM) : zm_X12_size 60 [some (.inr a0), some (.inl a1), some (.inl a2), some (.inl a3), some (.inl a4)] [] h =
  (zgF h a0 12 0).bind fun r1 =>
  (zia h r1 a1).bind fun v1 =>
  if a4 < v1 then
    (zgF h a0 12 8).bind fun r2 =>
    (zba h r2 (((6 : Int32) * a1) + a4)).bind fun v2 =>
    if v2 = 0 then
      zm_X12_size 60 [some (.inr a0), some (.inl a1), some (.inl a2), some (.inl (a3 + (0 : Int32))), some (.inl (a4 + (1 : Int32)))] [] h
    else
      zm_X12_size 60 [some (.inr a0), some (.inl a1), some (.inl a2), some (.inl (a3 + (1 : Int32))), some (.inl (a4 + (1 : Int32)))] [] h
  else
    some (a3, 0, h) := (zZ_eq zFn_mono _ _ _ _).trans rfl
noncomputable def zm_X12_later : zK4 := zZ zf zo_X12_later [(2, 4), (40, 6), (132, 4)]
set_option maxRecDepth 50000 in
theorem e_X12_later (a0 : Nat) (a1 : Int32) (a2 : Int32) (h : zM) : zf nX12_later [.inr a0, .inl a1, .inl a2] h =
  zm_X12_later 2 [some (.inr a0), some (.inl a1), some (.inl a2), some (.inl (0 : Int32)), none, none] [] h := by
  rw [show zf nX12_later = zFn zrecs 154 from rfl, zFn_eq (M := zr_X12_later) rfl zd_X12_later]
  exact (if_pos (Nat.le_of_ble_eq_true rfl)).trans ((zZ_eq zFn_mono _ _ _ _).trans rfl)
set_option maxRecDepth 50000 in
theorem e_X12_later_2 (a0 : Nat) (a1 : Int32) (a2 : Int32) (a3 : Int32) (h : zM) : zm_X12_later 2 [some (.inr a0), some (.inl a1), some (.inl a2), some (.inl a3), none, none] [] h =
  (zgI h a0 12 15).bind fun v1 =>
  if a3 < v1 then
    (zgF h a0 12 16).bind fun r1 =>
    (zia h r1 a3).bind fun v2 =>
    if v2 = a1 then
      (zgF h a0 12 17).bind fun r2 =>
      (zia h r2 a3).bind fun v3 =>
      if v3 = a2 then
        zm_X12_later 40 [some (.inr a0), some (.inl a1), some (.inl a2), some (.inl a3), some (.inl (1 : Int32)), some (.inl (0 : Int32))] [] h
      else
        zm_X12_later 40 [some (.inr a0), some (.inl a1), some (.inl a2), some (.inl a3), some (.inl (0 : Int32)), some (.inl (0 : Int32))] [] h
    else
      zm_X12_later 40 [some (.inr a0), some (.inl a1), some (.inl a2), some (.inl a3), some (.inl (0 : Int32)), some (.inl (0 : Int32))] [] h
  else
    (zgI h a0 12 15).bind fun v4 =>
    if v4 = (60 : Int32) then
      zb (0 : Int32) h
    else
      (zgF h a0 12 16).bind fun r3 =>
      (zgI h a0 12 15).bind fun v5 =>
      (zis h r3 v5 a1).bind fun h1 =>
      (zgF h1 a0 12 17).bind fun r4 =>
      (zgI h1 a0 12 15).bind fun v6 =>
      (zis h1 r4 v6 a2).bind fun h2 =>
      zm_X12_later 132 [some (.inr a0), some (.inl a1), some (.inl a2), some (.inl (0 : Int32)), none, none] [] h2 := (zZ_eq zFn_mono _ _ _ _).trans rfl
set_option maxRecDepth 50000 in
theorem e_X12_later_40 (a0 : Nat) (a1 : Int32) (a2 : Int32) (a3 : Int32) (a4 : Int32) (a5 : Int32) (h : zM) : zm_X12_later 40 [some (.inr a0), some (.inl a1), some (.inl a2), some (.inl a3), some (.inl a4), some (.inl a5)] [] h =
  if a4 = 0 then
    if a4 = 0 then
      zm_X12_later 2 [some (.inr a0), some (.inl a1), some (.inl a2), some (.inl (a3 + (1 : Int32))), none, none] [] h
    else
      zb (1 : Int32) h
  else
    if a5 < a2 then
      (zgF h a0 12 18).bind fun r1 =>
      (zia h r1 (((32 : Int32) * a3) + a5)).bind fun v1 =>
      (zgF h a0 12 22).bind fun r2 =>
      (zia h r2 a5).bind fun v2 =>
      if v1 = v2 then
        zm_X12_later 40 [some (.inr a0), some (.inl a1), some (.inl a2), some (.inl a3), some (.inl (1 : Int32)), some (.inl (a5 + (1 : Int32)))] [] h
      else
        zm_X12_later 40 [some (.inr a0), some (.inl a1), some (.inl a2), some (.inl a3), some (.inl (0 : Int32)), some (.inl (a5 + (1 : Int32)))] [] h
    else
      if a4 = 0 then
        zm_X12_later 2 [some (.inr a0), some (.inl a1), some (.inl a2), some (.inl (a3 + (1 : Int32))), none, none] [] h
      else
        zb (1 : Int32) h := (zZ_eq zFn_mono _ _ _ _).trans rfl
set_option maxRecDepth 50000 in
theorem e_X12_later_132 (a0 : Nat) (a1 : Int32) (a2 : Int32) (a3 : Int32) (h : zM) : zm_X12_later 132 [some (.inr a0), some (.inl a1), some (.inl a2), some (.inl a3), none, none] [] h =
  if a3 < a2 then
    (zgF h a0 12 18).bind fun r1 =>
    (zgI h a0 12 15).bind fun v1 =>
    (zgF h a0 12 22).bind fun r2 =>
    (zia h r2 a3).bind fun v2 =>
    (zis h r1 (((32 : Int32) * v1) + a3) v2).bind fun h1 =>
    zm_X12_later 132 [some (.inr a0), some (.inl a1), some (.inl a2), some (.inl (a3 + (1 : Int32))), none, none] [] h1
  else
    (zgI h a0 12 15).bind fun v3 =>
    (zpI h a0 12 15 (v3 + (1 : Int32))).bind fun h2 =>
    zb (1 : Int32) h2 := (zZ_eq zFn_mono _ _ _ _).trans rfl
noncomputable def zm_X12_nowLater : zK4 := zZ zf zo_X12_nowLater [(10, 2), (44, 3)]
set_option maxRecDepth 50000 in
theorem e_X12_nowLater (a0 : Nat) (h : zM) : zf nX12_nowLater [.inr a0] h =
  (zgI h a0 12 15).bind fun v1 =>
  (zpI h a0 12 11 v1).bind fun h1 =>
  zm_X12_nowLater 10 [some (.inr a0), some (.inl (0 : Int32)), none] [] h1 := by
  rw [show zf nX12_nowLater = zFn zrecs 155 from rfl, zFn_eq (M := zr_X12_nowLater) rfl zd_X12_nowLater]
  exact (if_pos (Nat.le_of_ble_eq_true rfl)).trans ((zZ_eq zFn_mono _ _ _ _).trans rfl)
set_option maxRecDepth 50000 in
theorem e_X12_nowLater_10 (a0 : Nat) (a1 : Int32) (h : zM) : zm_X12_nowLater 10 [some (.inr a0), some (.inl a1), none] [] h =
  (zgI h a0 12 15).bind fun v1 =>
  if a1 < v1 then
    (zgF h a0 12 12).bind fun r1 =>
    (zgF h a0 12 16).bind fun r2 =>
    (zia h r2 a1).bind fun v2 =>
    (zis h r1 a1 v2).bind fun h1 =>
    (zgF h1 a0 12 13).bind fun r3 =>
    (zgF h1 a0 12 17).bind fun r4 =>
    (zia h1 r4 a1).bind fun v3 =>
    (zis h1 r3 a1 v3).bind fun h2 =>
    zm_X12_nowLater 44 [some (.inr a0), some (.inl a1), some (.inl (0 : Int32))] [] h2
  else
    (zpI h a0 12 15 (0 : Int32)).bind fun h3 =>
    some (0, 0, h3) := (zZ_eq zFn_mono _ _ _ _).trans rfl
set_option maxRecDepth 50000 in
theorem e_X12_nowLater_44 (a0 : Nat) (a1 : Int32) (a2 : Int32) (h : zM) : zm_X12_nowLater 44 [some (.inr a0), some (.inl a1), some (.inl a2)] [] h =
  (zgF h a0 12 17).bind fun r1 =>
  (zia h r1 a1).bind fun v1 =>
  if a2 < v1 then
    (zgF h a0 12 14).bind fun r2 =>
    (zgF h a0 12 18).bind fun r3 =>
    (zia h r3 (((32 : Int32) * a1) + a2)).bind fun v2 =>
    (zis h r2 (((32 : Int32) * a1) + a2) v2).bind fun h1 =>
    zm_X12_nowLater 44 [some (.inr a0), some (.inl a1), some (.inl (a2 + (1 : Int32)))] [] h1
  else
    zm_X12_nowLater 10 [some (.inr a0), some (.inl (a1 + (1 : Int32))), none] [] h := (zZ_eq zFn_mono _ _ _ _).trans rfl
noncomputable def zm_X12_joined : zK4 := zZ zf zo_X12_joined [(10, 5), (52, 6)]
set_option maxRecDepth 50000 in
theorem e_X12_joined (a0 : Nat) (a1 : Int32) (a2 : Int32) (h : zM) : zf nX12_joined [.inr a0, .inl a1, .inl a2] h =
  (zgF h a0 12 13).bind fun r1 =>
  (zia h r1 a1).bind fun v1 =>
  zm_X12_joined 10 [some (.inr a0), some (.inl a1), some (.inl a2), some (.inl v1), some (.inl (0 : Int32)), none] [] h := by
  rw [show zf nX12_joined = zFn zrecs 156 from rfl, zFn_eq (M := zr_X12_joined) rfl zd_X12_joined]
  exact (if_pos (Nat.le_of_ble_eq_true rfl)).trans ((zZ_eq zFn_mono _ _ _ _).trans rfl)
set_option maxRecDepth 50000 in
theorem e_X12_joined_10 (a0 : Nat) (a1 : Int32) (a2 : Int32) (a3 : Int32) (a4 : Int32) (h : zM) : zm_X12_joined 10 [some (.inr a0), some (.inl a1), some (.inl a2), some (.inl a3), some (.inl a4), none] [] h =
  if a4 < a3 then
    (zgF h a0 12 22).bind fun r1 =>
    (zgF h a0 12 14).bind fun r2 =>
    (zia h r2 (((32 : Int32) * a1) + a4)).bind fun v1 =>
    (zis h r1 a4 v1).bind fun h1 =>
    zm_X12_joined 10 [some (.inr a0), some (.inl a1), some (.inl a2), some (.inl a3), some (.inl (a4 + (1 : Int32))), none] [] h1
  else
    (zf nX12_letters [.inl a2, .inl (9 : Int32)] h).bind fun u1 =>
    zm_X12_joined 52 [some (.inr a0), some (.inl a1), some (.inl a2), some (.inl a3), some (.inl u1.1), some (.inl (0 : Int32))] [] u1.2.2 := (zZ_eq zFn_mono _ _ _ _).trans rfl
set_option maxRecDepth 50000 in
theorem e_X12_joined_52 (a0 : Nat) (a1 : Int32) (a2 : Int32) (a3 : Int32) (a4 : Int32) (a5 : Int32) (h : zM) : zm_X12_joined 52 [some (.inr a0), some (.inl a1), some (.inl a2), some (.inl a3), some (.inl a4), some (.inl a5)] [] h =
  if a5 < a4 then
    (zgF h a0 12 22).bind fun r1 =>
    (zf nX12_letter [.inl a2, .inl a4, .inl a5] h).bind fun u1 =>
    (zis u1.2.2 r1 (a3 + a5) u1.1).bind fun h1 =>
    zm_X12_joined 52 [some (.inr a0), some (.inl a1), some (.inl a2), some (.inl a3), some (.inl a4), some (.inl (a5 + (1 : Int32)))] [] h1
  else
    some ((a3 + a4), 0, h) := (zZ_eq zFn_mono _ _ _ _).trans rfl
noncomputable def zm_X12_isLess : zK4 := zZ zf zo_X12_isLess [(38, 4)]
set_option maxRecDepth 50000 in
theorem e_X12_isLess (a0 : Nat) (a1 : Int32) (a2 : Int32) (h : zM) : zf nX12_isLess [.inr a0, .inl a1, .inl a2] h =
  (zgF h a0 12 17).bind fun r1 =>
  (zia h r1 a1).bind fun v1 =>
  (zgF h a0 12 20).bind fun r2 =>
  (zia h r2 a2).bind fun v2 =>
  if v1 = v2 then
    zm_X12_isLess 38 [some (.inr a0), some (.inl a1), some (.inl a2), some (.inl (0 : Int32))] [] h
  else
    (zgF h a0 12 17).bind fun r3 =>
    (zia h r3 a1).bind fun v3 =>
    (zgF h a0 12 20).bind fun r4 =>
    (zia h r4 a2).bind fun v4 =>
    if v3 < v4 then
      zb (1 : Int32) h
    else
      zb (0 : Int32) h := by
  rw [show zf nX12_isLess = zFn zrecs 157 from rfl, zFn_eq (M := zr_X12_isLess) rfl zd_X12_isLess]
  exact (if_pos (Nat.le_of_ble_eq_true rfl)).trans ((zZ_eq zFn_mono _ _ _ _).trans rfl)
set_option maxRecDepth 50000 in
theorem e_X12_isLess_38 (a0 : Nat) (a1 : Int32) (a2 : Int32) (a3 : Int32) (h : zM) : zm_X12_isLess 38 [some (.inr a0), some (.inl a1), some (.inl a2), some (.inl a3)] [] h =
  (zgF h a0 12 17).bind fun r1 =>
  (zia h r1 a1).bind fun v1 =>
  if a3 < v1 then
    (zgF h a0 12 18).bind fun r2 =>
    (zia h r2 (((32 : Int32) * a1) + a3)).bind fun v2 =>
    (zgF h a0 12 21).bind fun r3 =>
    (zia h r3 (((32 : Int32) * a2) + a3)).bind fun v3 =>
    if v2 = v3 then
      zm_X12_isLess 38 [some (.inr a0), some (.inl a1), some (.inl a2), some (.inl (a3 + (1 : Int32)))] [] h
    else
      (zgF h a0 12 18).bind fun r4 =>
      (zia h r4 (((32 : Int32) * a1) + a3)).bind fun v4 =>
      (zgF h a0 12 21).bind fun r5 =>
      (zia h r5 (((32 : Int32) * a2) + a3)).bind fun v5 =>
      if v4 < v5 then
        zb (1 : Int32) h
      else
        zb (0 : Int32) h
  else
    zb (0 : Int32) h := (zZ_eq zFn_mono _ _ _ _).trans rfl
noncomputable def zm_X12_sorts : zK4 := zZ zf zo_X12_sorts [(7, 2), (20, 3), (51, 4), (107, 4)]
set_option maxRecDepth 50000 in
theorem e_X12_sorts (a0 : Nat) (h : zM) : zf nX12_sorts [.inr a0] h =
  (zpI h a0 12 19 (0 : Int32)).bind fun h1 =>
  zm_X12_sorts 7 [some (.inr a0), some (.inl (0 : Int32)), none, none] [] h1 := by
  rw [show zf nX12_sorts = zFn zrecs 158 from rfl, zFn_eq (M := zr_X12_sorts) rfl zd_X12_sorts]
  exact (if_pos (Nat.le_of_ble_eq_true rfl)).trans ((zZ_eq zFn_mono _ _ _ _).trans rfl)
set_option maxRecDepth 50000 in
theorem e_X12_sorts_7 (a0 : Nat) (a1 : Int32) (h : zM) : zm_X12_sorts 7 [some (.inr a0), some (.inl a1), none, none] [] h =
  (zgI h a0 12 15).bind fun v1 =>
  if a1 < v1 then
    (zgI h a0 12 19).bind fun v2 =>
    zm_X12_sorts 20 [some (.inr a0), some (.inl a1), some (.inl v2), none] [] h
  else
    some (0, 0, h) := (zZ_eq zFn_mono _ _ _ _).trans rfl
set_option maxRecDepth 50000 in
theorem e_X12_sorts_20 (a0 : Nat) (a1 : Int32) (a2 : Int32) (h : zM) : zm_X12_sorts 20 [some (.inr a0), some (.inl a1), some (.inl a2), none] [] h =
  if 0 < a2 then
    zif (zK h a0 = 13) (
    (zf nX12_isLess [.inr a0, .inl a1, .inl (a2 - (1 : Int32))] h).bind fun u1 =>
    if u1.1 = 0 then
      (zgF u1.2.2 a0 12 20).bind fun r1 =>
      (zgF u1.2.2 a0 12 17).bind fun r2 =>
      (zia u1.2.2 r2 a1).bind fun v1 =>
      (zis u1.2.2 r1 a2 v1).bind fun h1 =>
      zm_X12_sorts 107 [some (.inr a0), some (.inl a1), some (.inl a2), some (.inl (0 : Int32))] [] h1
    else
      (zgF u1.2.2 a0 12 20).bind fun r3 =>
      (zgF u1.2.2 a0 12 20).bind fun r4 =>
      (zia u1.2.2 r4 (a2 - (1 : Int32))).bind fun v2 =>
      (zis u1.2.2 r3 a2 v2).bind fun h2 =>
      zm_X12_sorts 51 [some (.inr a0), some (.inl a1), some (.inl a2), some (.inl (0 : Int32))] [] h2)
  else
    (zgF h a0 12 20).bind fun r5 =>
    (zgF h a0 12 17).bind fun r6 =>
    (zia h r6 a1).bind fun v3 =>
    (zis h r5 a2 v3).bind fun h3 =>
    zm_X12_sorts 107 [some (.inr a0), some (.inl a1), some (.inl a2), some (.inl (0 : Int32))] [] h3 := (zZ_eq zFn_mono _ _ _ _).trans rfl
set_option maxRecDepth 50000 in
theorem e_X12_sorts_51 (a0 : Nat) (a1 : Int32) (a2 : Int32) (a3 : Int32) (h : zM) : zm_X12_sorts 51 [some (.inr a0), some (.inl a1), some (.inl a2), some (.inl a3)] [] h =
  if a3 < (32 : Int32) then
    (zgF h a0 12 21).bind fun r1 =>
    (zgF h a0 12 21).bind fun r2 =>
    (zia h r2 (((32 : Int32) * (a2 - (1 : Int32))) + a3)).bind fun v1 =>
    (zis h r1 (((32 : Int32) * a2) + a3) v1).bind fun h1 =>
    zm_X12_sorts 51 [some (.inr a0), some (.inl a1), some (.inl a2), some (.inl (a3 + (1 : Int32)))] [] h1
  else
    zm_X12_sorts 20 [some (.inr a0), some (.inl a1), some (.inl (a2 + (-1 : Int32))), none] [] h := (zZ_eq zFn_mono _ _ _ _).trans rfl
set_option maxRecDepth 50000 in
theorem e_X12_sorts_107 (a0 : Nat) (a1 : Int32) (a2 : Int32) (a3 : Int32) (h : zM) : zm_X12_sorts 107 [some (.inr a0), some (.inl a1), some (.inl a2), some (.inl a3)] [] h =
  if a3 < (32 : Int32) then
    (zgF h a0 12 21).bind fun r1 =>
    (zgF h a0 12 18).bind fun r2 =>
    (zia h r2 (((32 : Int32) * a1) + a3)).bind fun v1 =>
    (zis h r1 (((32 : Int32) * a2) + a3) v1).bind fun h1 =>
    zm_X12_sorts 107 [some (.inr a0), some (.inl a1), some (.inl a2), some (.inl (a3 + (1 : Int32)))] [] h1
  else
    (zgI h a0 12 19).bind fun v2 =>
    (zpI h a0 12 19 (v2 + (1 : Int32))).bind fun h2 =>
    zm_X12_sorts 7 [some (.inr a0), some (.inl (a1 + (1 : Int32))), none, none] [] h2 := (zZ_eq zFn_mono _ _ _ _).trans rfl
noncomputable def zm_X12_apply : zK4 := zZ zf zo_X12_apply [(39, 5), (87, 5), (100, 6), (115, 7), (227, 5)]
set_option maxRecDepth 50000 in
theorem e_X12_apply (a0 : Nat) (a1 : Int32) (a2 : Int32) (h : zM) : zf nX12_apply [.inr a0, .inl a1, .inl a2] h =
  (zf nX12_letters [.inl a2, .inl (3 : Int32)] h).bind fun u1 =>
  (zf nX12_isMachine [.inl a1] u1.2.2).bind fun u2 =>
  if u2.1 = 0 then
    some ((-1 : Int32), 0, u2.2.2)
  else
    if u1.1 < 0 then
      some ((-1 : Int32), 0, u2.2.2)
    else
      if (9 : Int32) < u1.1 then
        some ((-1 : Int32), 0, u2.2.2)
      else
        (zpI u2.2.2 a0 12 19 (-2 : Int32)).bind fun h1 =>
        (zpI h1 a0 12 15 (0 : Int32)).bind fun h2 =>
        zm_X12_apply 39 [some (.inr a0), some (.inl a1), some (.inl a2), some (.inl u1.1), some (.inl (0 : Int32)), none, none, none] [] h2 := by
  rw [show zf nX12_apply = zFn zrecs 159 from rfl, zFn_eq (M := zr_X12_apply) rfl zd_X12_apply]
  exact (if_pos (Nat.le_of_ble_eq_true rfl)).trans ((zZ_eq zFn_mono _ _ _ _).trans rfl)
set_option maxRecDepth 50000 in
theorem e_X12_apply_39 (a0 : Nat) (a1 : Int32) (a2 : Int32) (a3 : Int32) (a4 : Int32) (h : zM) : zm_X12_apply 39 [some (.inr a0), some (.inl a1), some (.inl a2), some (.inl a3), some (.inl a4), none, none, none] [] h =
  (zgF h a0 12 0).bind fun r1 =>
  (zia h r1 a1).bind fun v1 =>
  if a4 < v1 then
    (zgF h a0 12 1).bind fun r2 =>
    (zba h r2 (((6 : Int32) * a1) + a4)).bind fun v2 =>
    if v2 = 0 then
      zm_X12_apply 39 [some (.inr a0), some (.inl a1), some (.inl a2), some (.inl a3), some (.inl (a4 + (1 : Int32))), none, none, none] [] h
    else
      zif (zK h a0 = 13) (
      (zf nX12_later [.inr a0, .inl a4, .inl (0 : Int32)] h).bind fun u1 =>
      if u1.1 = 0 then
        some ((-2 : Int32), 0, u1.2.2)
      else
        zm_X12_apply 39 [some (.inr a0), some (.inl a1), some (.inl a2), some (.inl a3), some (.inl (a4 + (1 : Int32))), none, none, none] [] u1.2.2)
  else
    zm_X12_apply 87 [some (.inr a0), some (.inl a1), some (.inl a2), some (.inl a3), some (.inl (0 : Int32)), none, none, none] [] h := (zZ_eq zFn_mono _ _ _ _).trans rfl
set_option maxRecDepth 50000 in
theorem e_X12_apply_87 (a0 : Nat) (a1 : Int32) (a2 : Int32) (a3 : Int32) (a4 : Int32) (h : zM) : zm_X12_apply 87 [some (.inr a0), some (.inl a1), some (.inl a2), some (.inl a3), some (.inl a4), none, none, none] [] h =
  if a4 < a3 then
    zif (zK h a0 = 13) (
    (zf nX12_nowLater [.inr a0] h).bind fun u1 =>
    zm_X12_apply 100 [some (.inr a0), some (.inl a1), some (.inl a2), some (.inl a3), some (.inl a4), some (.inl (0 : Int32)), none, none] [] u1.2.2)
  else
    zif (zK h a0 = 13) (
    (zf nX12_nowLater [.inr a0] h).bind fun u2 =>
    zm_X12_apply 227 [some (.inr a0), some (.inl a1), some (.inl a2), some (.inl a3), some (.inl (0 : Int32)), none, none, none] [] u2.2.2) := (zZ_eq zFn_mono _ _ _ _).trans rfl
set_option maxRecDepth 50000 in
theorem e_X12_apply_100 (a0 : Nat) (a1 : Int32) (a2 : Int32) (a3 : Int32) (a4 : Int32) (a5 : Int32) (h : zM) : zm_X12_apply 100 [some (.inr a0), some (.inl a1), some (.inl a2), some (.inl a3), some (.inl a4), some (.inl a5), none, none] [] h =
  (zgI h a0 12 11).bind fun v1 =>
  if a5 < v1 then
    zm_X12_apply 115 [some (.inr a0), some (.inl a1), some (.inl a2), some (.inl a3), some (.inl a4), some (.inl a5), some (.inl ((30 : Int32) * a1)), none] [] h
  else
    zm_X12_apply 87 [some (.inr a0), some (.inl a1), some (.inl a2), some (.inl a3), some (.inl (a4 + (1 : Int32))), none, none, none] [] h := (zZ_eq zFn_mono _ _ _ _).trans rfl
set_option maxRecDepth 50000 in
theorem e_X12_apply_115 (a0 : Nat) (a1 : Int32) (a2 : Int32) (a3 : Int32) (a4 : Int32) (a5 : Int32) (a6 : Int32) (h : zM) : zm_X12_apply 115 [some (.inr a0), some (.inl a1), some (.inl a2), some (.inl a3), some (.inl a4), some (.inl a5), some (.inl a6), none] [] h =
  (zgF h a0 12 3).bind fun r1 =>
  (zia h r1 a1).bind fun v1 =>
  if a6 < (((30 : Int32) * a1) + v1) then
    (zgF h a0 12 4).bind fun r2 =>
    (zia h r2 a6).bind fun v2 =>
    (zgF h a0 12 12).bind fun r3 =>
    (zia h r3 a5).bind fun v3 =>
    if v2 = v3 then
      (zgF h a0 12 5).bind fun r4 =>
      (zia h r4 a6).bind fun v4 =>
      (zf nX12_letter [.inl a2, .inl a3, .inl a4] h).bind fun u1 =>
      if v4 = u1.1 then
        (zgF u1.2.2 a0 12 7).bind fun r5 =>
        (zia u1.2.2 r5 a6).bind fun v5 =>
        zif (zK u1.2.2 a0 = 13) (
        (zf nX12_joined [.inr a0, .inl a5, .inl v5] u1.2.2).bind fun u2 =>
        (zgF u2.2.2 a0 12 6).bind fun r6 =>
        (zia u2.2.2 r6 a6).bind fun v6 =>
        zif (zK u2.2.2 a0 = 13) (
        (zf nX12_later [.inr a0, .inl v6, .inl u2.1] u2.2.2).bind fun u3 =>
        if u3.1 = 0 then
          some ((-2 : Int32), 0, u3.2.2)
        else
          zm_X12_apply 115 [some (.inr a0), some (.inl a1), some (.inl a2), some (.inl a3), some (.inl a4), some (.inl a5), some (.inl (a6 + (1 : Int32))), none] [] u3.2.2))
      else
        zm_X12_apply 115 [some (.inr a0), some (.inl a1), some (.inl a2), some (.inl a3), some (.inl a4), some (.inl a5), some (.inl (a6 + (1 : Int32))), none] [] u1.2.2
    else
      zm_X12_apply 115 [some (.inr a0), some (.inl a1), some (.inl a2), some (.inl a3), some (.inl a4), some (.inl a5), some (.inl (a6 + (1 : Int32))), none] [] h
  else
    zm_X12_apply 100 [some (.inr a0), some (.inl a1), some (.inl a2), some (.inl a3), some (.inl a4), some (.inl (a5 + (1 : Int32))), none, none] [] h := (zZ_eq zFn_mono _ _ _ _).trans rfl
set_option maxRecDepth 50000 in
theorem e_X12_apply_227 (a0 : Nat) (a1 : Int32) (a2 : Int32) (a3 : Int32) (a4 : Int32) (h : zM) : zm_X12_apply 227 [some (.inr a0), some (.inl a1), some (.inl a2), some (.inl a3), some (.inl a4), none, none, none] [] h =
  (zgI h a0 12 11).bind fun v1 =>
  if a4 < v1 then
    (zgF h a0 12 2).bind fun r1 =>
    (zgF h a0 12 12).bind fun r2 =>
    (zia h r2 a4).bind fun v2 =>
    (zia h r1 (((6 : Int32) * a1) + v2)).bind fun v3 =>
    if v3 = (-1 : Int32) then
      zm_X12_apply 227 [some (.inr a0), some (.inl a1), some (.inl a2), some (.inl a3), some (.inl (a4 + (1 : Int32))), none, none, none] [] h
    else
      zif (zK h a0 = 13) (
      (zf nX12_joined [.inr a0, .inl a4, .inl v3] h).bind fun u1 =>
      zif (zK u1.2.2 a0 = 13) (
      (zf nX12_later [.inr a0, .inl (0 : Int32), .inl u1.1] u1.2.2).bind fun u2 =>
      zm_X12_apply 227 [some (.inr a0), some (.inl a1), some (.inl a2), some (.inl a3), some (.inl (a4 + (1 : Int32))), none, none, none] [] u2.2.2))
  else
    zif (zK h a0 = 13) (
    (zf nX12_sorts [.inr a0] h).bind fun u3 =>
    (zgI u3.2.2 a0 12 19).bind fun v4 =>
    some (v4, 0, u3.2.2)) := (zZ_eq zFn_mono _ _ _ _).trans rfl
noncomputable def zm_X12_output : zK4 := zZ zf zo_X12_output []
set_option maxRecDepth 50000 in
theorem e_X12_output (a0 : Nat) (a1 : Int32) (a2 : Int32) (h : zM) : zf nX12_output [.inr a0, .inl a1, .inl a2] h =
  if a1 < 0 then
    some ((-2 : Int32), 0, h)
  else
    (zgI h a0 12 19).bind fun v1 =>
    if a1 < v1 then
      if a2 < 0 then
        some ((-1 : Int32), 0, h)
      else
        (zgF h a0 12 20).bind fun r1 =>
        (zia h r1 a1).bind fun v2 =>
        if a2 < v2 then
          (zgF h a0 12 21).bind fun r2 =>
          (zia h r2 (((32 : Int32) * a1) + a2)).bind fun v3 =>
          some (v3, 0, h)
        else
          some ((-1 : Int32), 0, h)
    else
      some ((-2 : Int32), 0, h) := by
  rw [show zf nX12_output = zFn zrecs 160 from rfl, zFn_eq (M := zr_X12_output) rfl zd_X12_output]
  exact (if_pos (Nat.le_of_ble_eq_true rfl)).trans ((zZ_eq zFn_mono _ _ _ _).trans rfl)
noncomputable def zm_X12_moves : zK4 := zZ zf zo_X12_moves [(14, 4)]
set_option maxRecDepth 50000 in
theorem e_X12_moves (a0 : Nat) (a1 : Int32) (a2 : Int32) (h : zM) : zf nX12_moves [.inr a0, .inl a1, .inl a2] h =
  (zgF h a0 12 28).bind fun r1 =>
  (zgF h a0 12 28).bind fun r2 =>
  (zia h r2 a1).bind fun v1 =>
  (zis h r1 a2 v1).bind fun h1 =>
  zm_X12_moves 14 [some (.inr a0), some (.inl a1), some (.inl a2), some (.inl (0 : Int32))] [] h1 := by
  rw [show zf nX12_moves = zFn zrecs 161 from rfl, zFn_eq (M := zr_X12_moves) rfl zd_X12_moves]
  exact (if_pos (Nat.le_of_ble_eq_true rfl)).trans ((zZ_eq zFn_mono _ _ _ _).trans rfl)
set_option maxRecDepth 50000 in
theorem e_X12_moves_14 (a0 : Nat) (a1 : Int32) (a2 : Int32) (a3 : Int32) (h : zM) : zm_X12_moves 14 [some (.inr a0), some (.inl a1), some (.inl a2), some (.inl a3)] [] h =
  (zgF h a0 12 28).bind fun r1 =>
  (zia h r1 a1).bind fun v1 =>
  if a3 < v1 then
    (zgF h a0 12 30).bind fun r2 =>
    (zgF h a0 12 30).bind fun r3 =>
    (zba h r3 (((13000 : Int32) * a1) + a3)).bind fun v2 =>
    (zbs h r2 (((13000 : Int32) * a2) + a3) v2).bind fun h1 =>
    zm_X12_moves 14 [some (.inr a0), some (.inl a1), some (.inl a2), some (.inl (a3 + (1 : Int32)))] [] h1
  else
    some (0, 0, h) := (zZ_eq zFn_mono _ _ _ _).trans rfl
