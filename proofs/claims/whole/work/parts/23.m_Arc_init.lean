def f_Arc_init (n : Nat)  (g : m_G) (a0 : Nat) : Option (Unit × m_G) :=
  (m_nw g n (.inr (1, [.null, .int 0]))).bind fun g_1 =>
  m_bd (f_Line_init (n + 1) g_1 n) fun v_3 g_2 =>
  (m_pR g_2 a0 0 0 (some n)).bind fun g_4 =>
  (m_nw g_4 (n + 2) (.inr (2, [.null, .int 0]))).bind fun g_5 =>
  m_bd (f_Draft_init (n + 3) g_5 (n + 2)) fun v_7 g_6 =>
  (m_pR g_6 a0 0 1 (some (n + 2))).bind fun g_8 =>
  (m_nw g_8 (n + 64) (.inr (5, [.null, .null]))).bind fun g_9 =>
  m_bd (f_Reader_init (n + 65) g_9 (n + 64)) fun v_11 g_10 =>
  (m_pR g_10 a0 0 2 (some (n + 64))).bind fun g_12 =>
  (m_nw g_12 (n + 68) (.inr (6, [.null]))).bind fun g_13 =>
  m_bd (f_Threads_init (n + 69) g_13 (n + 68)) fun v_15 g_14 =>
  (m_pR g_14 a0 0 3 (some (n + 68))).bind fun g_16 =>
  (m_nw g_16 (n + 70) (.inr (7, [.null, .null, .null, .null, .int 0, .int 0, .int 0]))).bind fun g_17 =>
  m_bd (f_Query_init (n + 71) g_17 (n + 70)) fun v_19 g_18 =>
  (m_pR g_18 a0 0 4 (some (n + 70))).bind fun g_20 =>
  (m_nw g_20 (n + 75) (.inl (5, 12, .inr (.inr (.inr (.inr (fun _ => none))))))).bind fun g_21 =>
  (m_pR g_21 a0 0 5 (some (n + 75))).bind fun g_22 =>
  (m_gR g_22 a0 0 5).bind fun v_24 =>
  (m_nw g_22 (n + 76) (.inr (4, [.null, .null, .null, .int 0, .int 0, .int 0, .int 0, .int 0, .int 0]))).bind fun g_25 =>
  m_bd (f_Message_init (n + 77) g_25 (n + 76)) fun v_27 g_26 =>
  Option.bind v_24 fun a_28 =>
  (m_stR g_26 a_28 5 4 0 (n + 76)).bind fun g_29 =>
  (m_gR g_29 a0 0 5).bind fun v_31 =>
  (m_nw g_29 (n + 80) (.inr (4, [.null, .null, .null, .int 0, .int 0, .int 0, .int 0, .int 0, .int 0]))).bind fun g_32 =>
  m_bd (f_Message_init (n + 81) g_32 (n + 80)) fun v_34 g_33 =>
  Option.bind v_31 fun a_35 =>
  (m_stR g_33 a_35 5 4 1 (n + 80)).bind fun g_36 =>
  (m_gR g_36 a0 0 5).bind fun v_38 =>
  (m_nw g_36 (n + 84) (.inr (4, [.null, .null, .null, .int 0, .int 0, .int 0, .int 0, .int 0, .int 0]))).bind fun g_39 =>
  m_bd (f_Message_init (n + 85) g_39 (n + 84)) fun v_41 g_40 =>
  Option.bind v_38 fun a_42 =>
  (m_stR g_40 a_42 5 4 2 (n + 84)).bind fun g_43 =>
  (m_gR g_43 a0 0 5).bind fun v_45 =>
  (m_nw g_43 (n + 88) (.inr (4, [.null, .null, .null, .int 0, .int 0, .int 0, .int 0, .int 0, .int 0]))).bind fun g_46 =>
  m_bd (f_Message_init (n + 89) g_46 (n + 88)) fun v_48 g_47 =>
  Option.bind v_45 fun a_49 =>
  (m_stR g_47 a_49 5 4 3 (n + 88)).bind fun g_50 =>
  (m_gR g_50 a0 0 5).bind fun v_52 =>
  (m_nw g_50 (n + 92) (.inr (4, [.null, .null, .null, .int 0, .int 0, .int 0, .int 0, .int 0, .int 0]))).bind fun g_53 =>
  m_bd (f_Message_init (n + 93) g_53 (n + 92)) fun v_55 g_54 =>
  Option.bind v_52 fun a_56 =>
  (m_stR g_54 a_56 5 4 4 (n + 92)).bind fun g_57 =>
  (m_gR g_57 a0 0 5).bind fun v_59 =>
  (m_nw g_57 (n + 96) (.inr (4, [.null, .null, .null, .int 0, .int 0, .int 0, .int 0, .int 0, .int 0]))).bind fun g_60 =>
  m_bd (f_Message_init (n + 97) g_60 (n + 96)) fun v_62 g_61 =>
  Option.bind v_59 fun a_63 =>
  (m_stR g_61 a_63 5 4 5 (n + 96)).bind fun g_64 =>
  (m_gR g_64 a0 0 5).bind fun v_66 =>
  (m_nw g_64 (n + 100) (.inr (4, [.null, .null, .null, .int 0, .int 0, .int 0, .int 0, .int 0, .int 0]))).bind fun g_67 =>
  m_bd (f_Message_init (n + 101) g_67 (n + 100)) fun v_69 g_68 =>
  Option.bind v_66 fun a_70 =>
  (m_stR g_68 a_70 5 4 6 (n + 100)).bind fun g_71 =>
  (m_gR g_71 a0 0 5).bind fun v_73 =>
  (m_nw g_71 (n + 104) (.inr (4, [.null, .null, .null, .int 0, .int 0, .int 0, .int 0, .int 0, .int 0]))).bind fun g_74 =>
  m_bd (f_Message_init (n + 105) g_74 (n + 104)) fun v_76 g_75 =>
  Option.bind v_73 fun a_77 =>
  (m_stR g_75 a_77 5 4 7 (n + 104)).bind fun g_78 =>
  (m_gR g_78 a0 0 5).bind fun v_80 =>
  (m_nw g_78 (n + 108) (.inr (4, [.null, .null, .null, .int 0, .int 0, .int 0, .int 0, .int 0, .int 0]))).bind fun g_81 =>
  m_bd (f_Message_init (n + 109) g_81 (n + 108)) fun v_83 g_82 =>
  Option.bind v_80 fun a_84 =>
  (m_stR g_82 a_84 5 4 8 (n + 108)).bind fun g_85 =>
  (m_gR g_85 a0 0 5).bind fun v_87 =>
  (m_nw g_85 (n + 112) (.inr (4, [.null, .null, .null, .int 0, .int 0, .int 0, .int 0, .int 0, .int 0]))).bind fun g_88 =>
  m_bd (f_Message_init (n + 113) g_88 (n + 112)) fun v_90 g_89 =>
  Option.bind v_87 fun a_91 =>
  (m_stR g_89 a_91 5 4 9 (n + 112)).bind fun g_92 =>
  (m_gR g_92 a0 0 5).bind fun v_94 =>
  (m_nw g_92 (n + 116) (.inr (4, [.null, .null, .null, .int 0, .int 0, .int 0, .int 0, .int 0, .int 0]))).bind fun g_95 =>
  m_bd (f_Message_init (n + 117) g_95 (n + 116)) fun v_97 g_96 =>
  Option.bind v_94 fun a_98 =>
  (m_stR g_96 a_98 5 4 10 (n + 116)).bind fun g_99 =>
  (m_gR g_99 a0 0 5).bind fun v_101 =>
  (m_nw g_99 (n + 120) (.inr (4, [.null, .null, .null, .int 0, .int 0, .int 0, .int 0, .int 0, .int 0]))).bind fun g_102 =>
  m_bd (f_Message_init (n + 121) g_102 (n + 120)) fun v_104 g_103 =>
  Option.bind v_101 fun a_105 =>
  (m_stR g_103 a_105 5 4 11 (n + 120)).bind fun g_106 =>
  (m_nw g_106 (n + 124) (.inl (0, 12, .inl (fun _ => 0)))).bind fun g_108 =>
  (m_pR g_108 a0 0 6 (some (n + 124))).bind fun g_109 =>
  (m_pI g_109 a0 0 7 0).bind fun g_110 =>
  (m_pI g_110 a0 0 8 0).bind fun g_111 =>
  (m_pI g_111 a0 0 9 (-1)).bind fun g_112 =>
  some ((), g_112)
set_option maxHeartbeats 1000000 in
set_option maxRecDepth 100000 in
theorem c_Arc_init (l : Launch) (D : va_G) (B : Nat) (K : Nat → ClassId)  (n : Nat) (g : m_G) (a0 : Nat) (r : Unit) (g' : m_G) (hF : f_Arc_init n g a0 = some (r, g')) : Met l y_Arc_init (Cond.code y_Arc_init b_Arc_init 2 none :: m_TB) ({ frames := 3, cells := 125, slots := 2855, locals := 61 } : Room) (m_Pc D B K n g [.ref (B + a0)]) (m_Q D B K none (n + 125) g') 125 2855 (fun q => B ≤ q) := by
  refine m_met (by decide) (Nat.le_of_ble_eq_true rfl) ?_
  intro p e s m args below meth c ls E hr hlk hin hsz S hl
  have E : m_V p m c b_Arc_init 2 s args R_Arc D K := E
  have hz : s.heap.size + 0 = B + n := hsz
  have hl : lv_has ls 2 [(0, .ref (B + a0))] := hl
  have hx := E.1.1
  have hb := E.1.2.1
  have hts := E.1.2.2.2.2
  unfold f_Arc_init at hF
  refine lv_aload_n hx hb d_Arc_init_0 rfl (lv_at hl 0 rfl) ?_
  refine W.objInit hx hb E.1.2.2.2.1 (hts _ qw_52) (hts _ qw_1) (hts _ qw_2) rfl (hl.1.trans E.1.2.2.1.symm) rfl d_Arc_init_1 (Nat.le_of_ble_eq_true rfl) (Nat.le_of_ble_eq_true rfl) ?_
  refine W.eq (g2 := F0 m 4 ls []) rfl ?_
  refine lv_aload_n hx hb d_Arc_init_4 rfl (lv_at hl 0 rfl) ?_
  replace hF := Option.bind_eq_some_iff.mp hF
  obtain ⟨g_1, eg_1, hF⟩ := hF
  refine m_new (B := B) (ci := 1) (fs := [.null, .int 0]) E S hz t_Line t_Line_ok i_Line rfl qw_53 qw_10 qw_11 (z_Line B) (Nat.le_of_ble_eq_true rfl) (Nat.le_of_ble_eq_true rfl) eg_1 d_Arc_init_5 (fun H S => ?_)
  refine W.widen (k := 1) (n := 2) (Nat.le_of_ble_eq_true rfl) (Nat.le_of_ble_eq_true rfl) ?_
  refine W.eq (g2 := F0 m 8 ls [.ref (B + n), .ref (B + a0)]) rfl ?_
  refine lv_dup hx hb d_Arc_init_8 rfl ?_
  replace hF := m_bd_inv hF
  obtain ⟨v_3, g_2, eg_2, hF⟩ := hF
  refine m_callI (B := B) (nn := 0) (b := n) (As := []) (rest := [.ref (B + n), .ref (B + a0)]) (v := none) E S (show s.heap.size + 1 = B + (n + 1) by omega) (c_Line_init l D B K (n + 1) g_1 n v_3 g_2 eg_2) qc_Line_init ⟨rfl, rfl⟩ (Or.inr ⟨_, qn_4⟩) qw_12 qw_11 rfl (by decide +kernel) ⟨Nat.le_of_ble_eq_true rfl, Nat.le_of_ble_eq_true rfl⟩ rfl hl.1 (Nat.le_of_ble_eq_true rfl) d_Arc_init_9 ⟨Nat.le_of_ble_eq_true rfl, Nat.le_of_ble_eq_true rfl⟩ (fun H locs S => ?_)
  refine W.widen (k := 2) (n := 42) (Nat.le_of_ble_eq_true rfl) (Nat.le_of_ble_eq_true rfl) ?_
  refine W.eq (g2 := F0 m 12 ls [.ref (B + n), .ref (B + a0)]) rfl ?_
  replace hF := Option.bind_eq_some_iff.mp hF
  obtain ⟨g_4, eg_4, hF⟩ := hF
  refine m_putFR (B := B) (a := a0) (x := (some n)) E S fd_Arc_line (Or.inl ⟨_, rfl⟩) hin qw_54 eg_4 d_Arc_init_12 (fun H locs S => ?_)
  refine lv_aload_n hx hb d_Arc_init_15 rfl (lv_at hl 0 rfl) ?_
  replace hF := Option.bind_eq_some_iff.mp hF
  obtain ⟨g_5, eg_5, hF⟩ := hF
  refine m_new (B := B) (ci := 2) (fs := [.null, .int 0]) E S (show s.heap.size + 2 = B + (n + 2) by omega) t_Draft t_Draft_ok i_Draft rfl qw_55 qw_56 qw_57 (z_Draft B) (Nat.le_of_ble_eq_true rfl) (Nat.le_of_ble_eq_true rfl) eg_5 d_Arc_init_16 (fun H S => ?_)
  refine W.widen (k := 3) (n := 44) (Nat.le_of_ble_eq_true rfl) (Nat.le_of_ble_eq_true rfl) ?_
  refine W.eq (g2 := F0 m 19 ls [.ref (B + (n + 2)), .ref (B + a0)]) rfl ?_
  refine lv_dup hx hb d_Arc_init_19 rfl ?_
  replace hF := m_bd_inv hF
  obtain ⟨v_7, g_6, eg_6, hF⟩ := hF
  refine m_callI (B := B) (nn := 0) (b := (n + 2)) (As := []) (rest := [.ref (B + (n + 2)), .ref (B + a0)]) (v := none) E S (show s.heap.size + 3 = B + (n + 3) by omega) (c_Draft_init l D B K (n + 3) g_5 (n + 2) v_7 g_6 eg_6) qc_Draft_init ⟨rfl, rfl⟩ (Or.inr ⟨_, qn_5⟩) qw_58 qw_57 rfl (by decide +kernel) ⟨Nat.le_of_ble_eq_true rfl, Nat.le_of_ble_eq_true rfl⟩ rfl hl.1 (Nat.le_of_ble_eq_true rfl) d_Arc_init_20 ⟨Nat.le_of_ble_eq_true rfl, Nat.le_of_ble_eq_true rfl⟩ (fun H locs S => ?_)
  refine W.widen (k := 64) (n := 1334) (Nat.le_of_ble_eq_true rfl) (Nat.le_of_ble_eq_true rfl) ?_
  refine W.eq (g2 := F0 m 23 ls [.ref (B + (n + 2)), .ref (B + a0)]) rfl ?_
  replace hF := Option.bind_eq_some_iff.mp hF
  obtain ⟨g_8, eg_8, hF⟩ := hF
  refine m_putFR (B := B) (a := a0) (x := (some (n + 2))) E S fd_Arc_draft (Or.inl ⟨_, rfl⟩) hin qw_59 eg_8 d_Arc_init_23 (fun H locs S => ?_)
  refine lv_aload_n hx hb d_Arc_init_26 rfl (lv_at hl 0 rfl) ?_
  replace hF := Option.bind_eq_some_iff.mp hF
  obtain ⟨g_9, eg_9, hF⟩ := hF
  refine m_new (B := B) (ci := 5) (fs := [.null, .null]) E S (show s.heap.size + 64 = B + (n + 64) by omega) t_Reader t_Reader_ok i_Reader rfl qw_60 qw_61 qw_62 (z_Reader B) (Nat.le_of_ble_eq_true rfl) (Nat.le_of_ble_eq_true rfl) eg_9 d_Arc_init_27 (fun H S => ?_)
  refine W.widen (k := 65) (n := 1336) (Nat.le_of_ble_eq_true rfl) (Nat.le_of_ble_eq_true rfl) ?_
  refine W.eq (g2 := F0 m 30 ls [.ref (B + (n + 64)), .ref (B + a0)]) rfl ?_
  refine lv_dup hx hb d_Arc_init_30 rfl ?_
  replace hF := m_bd_inv hF
  obtain ⟨v_11, g_10, eg_10, hF⟩ := hF
  refine m_callI (B := B) (nn := 0) (b := (n + 64)) (As := []) (rest := [.ref (B + (n + 64)), .ref (B + a0)]) (v := none) E S (show s.heap.size + 65 = B + (n + 65) by omega) (c_Reader_init l D B K (n + 65) g_9 (n + 64) v_11 g_10 eg_10) qc_Reader_init ⟨rfl, rfl⟩ (Or.inr ⟨_, qn_6⟩) qw_63 qw_62 rfl (by decide +kernel) ⟨Nat.le_of_ble_eq_true rfl, Nat.le_of_ble_eq_true rfl⟩ rfl hl.1 (Nat.le_of_ble_eq_true rfl) d_Arc_init_31 ⟨Nat.le_of_ble_eq_true rfl, Nat.le_of_ble_eq_true rfl⟩ (fun H locs S => ?_)
  refine W.widen (k := 68) (n := 1380) (Nat.le_of_ble_eq_true rfl) (Nat.le_of_ble_eq_true rfl) ?_
  refine W.eq (g2 := F0 m 34 ls [.ref (B + (n + 64)), .ref (B + a0)]) rfl ?_
  replace hF := Option.bind_eq_some_iff.mp hF
  obtain ⟨g_12, eg_12, hF⟩ := hF
  refine m_putFR (B := B) (a := a0) (x := (some (n + 64))) E S fd_Arc_reader (Or.inl ⟨_, rfl⟩) hin qw_64 eg_12 d_Arc_init_34 (fun H locs S => ?_)
  refine lv_aload_n hx hb d_Arc_init_37 rfl (lv_at hl 0 rfl) ?_
  replace hF := Option.bind_eq_some_iff.mp hF
  obtain ⟨g_13, eg_13, hF⟩ := hF
  refine m_new (B := B) (ci := 6) (fs := [.null]) E S (show s.heap.size + 68 = B + (n + 68) by omega) t_Threads t_Threads_ok i_Threads rfl qw_65 qw_66 qw_49 (z_Threads B) (Nat.le_of_ble_eq_true rfl) (Nat.le_of_ble_eq_true rfl) eg_13 d_Arc_init_38 (fun H S => ?_)
  refine W.widen (k := 69) (n := 1381) (Nat.le_of_ble_eq_true rfl) (Nat.le_of_ble_eq_true rfl) ?_
  refine W.eq (g2 := F0 m 41 ls [.ref (B + (n + 68)), .ref (B + a0)]) rfl ?_
  refine lv_dup hx hb d_Arc_init_41 rfl ?_
  replace hF := m_bd_inv hF
  obtain ⟨v_15, g_14, eg_14, hF⟩ := hF
  refine m_callI (B := B) (nn := 0) (b := (n + 68)) (As := []) (rest := [.ref (B + (n + 68)), .ref (B + a0)]) (v := none) E S (show s.heap.size + 69 = B + (n + 69) by omega) (c_Threads_init l D B K (n + 69) g_13 (n + 68) v_15 g_14 eg_14) qc_Threads_init ⟨rfl, rfl⟩ (Or.inr ⟨_, qn_7⟩) qw_67 qw_49 rfl (by decide +kernel) ⟨Nat.le_of_ble_eq_true rfl, Nat.le_of_ble_eq_true rfl⟩ rfl hl.1 (Nat.le_of_ble_eq_true rfl) d_Arc_init_42 ⟨Nat.le_of_ble_eq_true rfl, Nat.le_of_ble_eq_true rfl⟩ (fun H locs S => ?_)
  refine W.widen (k := 70) (n := 1445) (Nat.le_of_ble_eq_true rfl) (Nat.le_of_ble_eq_true rfl) ?_
  refine W.eq (g2 := F0 m 45 ls [.ref (B + (n + 68)), .ref (B + a0)]) rfl ?_
  replace hF := Option.bind_eq_some_iff.mp hF
  obtain ⟨g_16, eg_16, hF⟩ := hF
  refine m_putFR (B := B) (a := a0) (x := (some (n + 68))) E S fd_Arc_threads (Or.inl ⟨_, rfl⟩) hin qw_68 eg_16 d_Arc_init_45 (fun H locs S => ?_)
  refine lv_aload_n hx hb d_Arc_init_48 rfl (lv_at hl 0 rfl) ?_
  replace hF := Option.bind_eq_some_iff.mp hF
  obtain ⟨g_17, eg_17, hF⟩ := hF
  refine m_new (B := B) (ci := 7) (fs := [.null, .null, .null, .null, .int 0, .int 0, .int 0]) E S (show s.heap.size + 70 = B + (n + 70) by omega) t_Query t_Query_ok i_Query rfl qw_69 qw_70 qw_71 (z_Query B) (Nat.le_of_ble_eq_true rfl) (Nat.le_of_ble_eq_true rfl) eg_17 d_Arc_init_49 (fun H S => ?_)
  refine W.widen (k := 71) (n := 1452) (Nat.le_of_ble_eq_true rfl) (Nat.le_of_ble_eq_true rfl) ?_
  refine W.eq (g2 := F0 m 52 ls [.ref (B + (n + 70)), .ref (B + a0)]) rfl ?_
  refine lv_dup hx hb d_Arc_init_52 rfl ?_
  replace hF := m_bd_inv hF
  obtain ⟨v_19, g_18, eg_18, hF⟩ := hF
  refine m_callI (B := B) (nn := 0) (b := (n + 70)) (As := []) (rest := [.ref (B + (n + 70)), .ref (B + a0)]) (v := none) E S (show s.heap.size + 71 = B + (n + 71) by omega) (c_Query_init l D B K (n + 71) g_17 (n + 70) v_19 g_18 eg_18) qc_Query_init ⟨rfl, rfl⟩ (Or.inr ⟨_, qn_8⟩) qw_72 qw_71 rfl (by decide +kernel) ⟨Nat.le_of_ble_eq_true rfl, Nat.le_of_ble_eq_true rfl⟩ rfl hl.1 (Nat.le_of_ble_eq_true rfl) d_Arc_init_53 ⟨Nat.le_of_ble_eq_true rfl, Nat.le_of_ble_eq_true rfl⟩ (fun H locs S => ?_)
  refine W.widen (k := 75) (n := 1475) (Nat.le_of_ble_eq_true rfl) (Nat.le_of_ble_eq_true rfl) ?_
  refine W.eq (g2 := F0 m 56 ls [.ref (B + (n + 70)), .ref (B + a0)]) rfl ?_
  replace hF := Option.bind_eq_some_iff.mp hF
  obtain ⟨g_20, eg_20, hF⟩ := hF
  refine m_putFR (B := B) (a := a0) (x := (some (n + 70))) E S fd_Arc_query (Or.inl ⟨_, rfl⟩) hin qw_73 eg_20 d_Arc_init_56 (fun H locs S => ?_)
  refine lv_aload_n hx hb d_Arc_init_59 rfl (lv_at hl 0 rfl) ?_
  refine lv_bipush (v := 12) hx hb d_Arc_init_60 (by decide) ?_
  replace hF := Option.bind_eq_some_iff.mp hF
  obtain ⟨g_21, eg_21, hF⟩ := hF
  refine m_newq (B := B) (t := 5) (N := 12) (C := R_Message) E S (show s.heap.size + 75 = B + (n + 75) by omega) qw_74 ao_Message rfl (by decide) (by decide) (Nat.le_of_ble_eq_true rfl) (Nat.le_of_ble_eq_true rfl) (Nat.le_of_ble_eq_true rfl) eg_21 d_Arc_init_62 (fun H S => ?_)
  refine W.widen (k := 76) (n := 1487) (Nat.le_of_ble_eq_true rfl) (Nat.le_of_ble_eq_true rfl) ?_
  refine W.eq (g2 := F0 m 65 ls [.ref (B + (n + 75)), .ref (B + a0)]) rfl ?_
  replace hF := Option.bind_eq_some_iff.mp hF
  obtain ⟨g_22, eg_22, hF⟩ := hF
  refine m_putFR (B := B) (a := a0) (x := (some (n + 75))) E S fd_Arc_messages (Or.inr ⟨_, rfl⟩) hin qw_75 eg_22 d_Arc_init_65 (fun H locs S => ?_)
  refine lv_iconst (v := 0) hx hb d_Arc_init_68 (by decide) ?_
  refine lv_istore_n (lv' := [(1, .int 0), (0, .ref (B + a0))]) hx hb d_Arc_init_69 rfl hl (by decide) rfl (fun ls hl => ?_)
  refine lv_iload_n hx hb d_Arc_init_70 rfl (lv_at hl 0 rfl) ?_
  refine lv_bipush (v := 12) hx hb d_Arc_init_71 (by decide) ?_
  refine lv_icmp_ge (tgt := 95) hx hb d_Arc_init_73 (by decide) (fun c_23 => absurd c_23 (by decide)) (fun c_23 => ?_)
  refine lv_aload_n hx hb d_Arc_init_76 rfl (lv_at hl 1 rfl) ?_
  replace hF := Option.bind_eq_some_iff.mp hF
  obtain ⟨v_24, ev_24, hF⟩ := hF
  refine m_getR (B := B) (a := a0) E S fd_Arc_messages (Or.inl qw_75) ev_24 d_Arc_init_77 ?_
  refine lv_iload_n hx hb d_Arc_init_80 rfl (lv_at hl 0 rfl) ?_
  replace hF := Option.bind_eq_some_iff.mp hF
  obtain ⟨g_25, eg_25, hF⟩ := hF
  refine m_new (B := B) (ci := 4) (fs := [.null, .null, .null, .int 0, .int 0, .int 0, .int 0, .int 0, .int 0]) E S (show s.heap.size + 76 = B + (n + 76) by omega) t_Message t_Message_ok i_Message rfl qw_74 qw_76 qw_77 (z_Message B) (Nat.le_of_ble_eq_true rfl) (Nat.le_of_ble_eq_true rfl) eg_25 d_Arc_init_81 (fun H S => ?_)
  refine W.widen (k := 77) (n := 1496) (Nat.le_of_ble_eq_true rfl) (Nat.le_of_ble_eq_true rfl) ?_
  refine W.eq (g2 := F0 m 84 ls [.ref (B + (n + 76)), .int 0, m_r B v_24]) rfl ?_
  refine lv_dup hx hb d_Arc_init_84 rfl ?_
  replace hF := m_bd_inv hF
  obtain ⟨v_27, g_26, eg_26, hF⟩ := hF
  refine m_callI (B := B) (nn := 0) (b := (n + 76)) (As := []) (rest := [.ref (B + (n + 76)), .int 0, m_r B v_24]) (v := none) E S (show s.heap.size + 77 = B + (n + 77) by omega) (c_Message_init l D B K (n + 77) g_25 (n + 76) v_27 g_26 eg_26) qc_Message_init ⟨rfl, rfl⟩ (Or.inr ⟨_, qn_9⟩) qw_78 qw_77 rfl (by decide +kernel) ⟨Nat.le_of_ble_eq_true rfl, Nat.le_of_ble_eq_true rfl⟩ rfl hl.1 (by simp only [List.map_cons, List.map_nil, m_r_cat]; exact Nat.le_of_ble_eq_true rfl) d_Arc_init_85 ⟨Nat.le_of_ble_eq_true rfl, Nat.le_of_ble_eq_true rfl⟩ (fun H locs S => ?_)
  refine W.widen (k := 80) (n := 1600) (Nat.le_of_ble_eq_true rfl) (Nat.le_of_ble_eq_true rfl) ?_
  refine W.eq (g2 := F0 m 88 ls [.ref (B + (n + 76)), .int 0, m_r B v_24]) rfl ?_
  replace hF := Option.bind_eq_some_iff.mp hF
  obtain ⟨a_28, ea_28, hF⟩ := hF
  subst ea_28
  replace hF := Option.bind_eq_some_iff.mp hF
  obtain ⟨g_29, eg_29, hF⟩ := hF
  refine m_aast (B := B) (a := a_28) (v := (n + 76)) (t := 5) (ci := 4) (r := (R_Message, F_Message, 9)) E S rfl rfl eg_29 d_Arc_init_88 (fun H locs S => ?_)
  refine lv_iinc (v := 1) (lv' := [(1, .int 1), (0, .ref (B + a0))]) hx hb d_Arc_init_89 hl (k := 0) rfl (by decide) (by decide) rfl (fun ls hl => ?_)
  refine lv_goto (tgt := 70) hx hb d_Arc_init_92 (by decide) ?_
  refine lv_iload_n hx hb d_Arc_init_70 rfl (lv_at hl 0 rfl) ?_
  refine lv_bipush (v := 12) hx hb d_Arc_init_71 (by decide) ?_
  refine lv_icmp_ge (tgt := 95) hx hb d_Arc_init_73 (by decide) (fun c_30 => absurd c_30 (by decide)) (fun c_30 => ?_)
  refine lv_aload_n hx hb d_Arc_init_76 rfl (lv_at hl 1 rfl) ?_
  replace hF := Option.bind_eq_some_iff.mp hF
  obtain ⟨v_31, ev_31, hF⟩ := hF
  refine m_getR (B := B) (a := a0) E S fd_Arc_messages (Or.inl qw_75) ev_31 d_Arc_init_77 ?_
  refine lv_iload_n hx hb d_Arc_init_80 rfl (lv_at hl 0 rfl) ?_
  replace hF := Option.bind_eq_some_iff.mp hF
  obtain ⟨g_32, eg_32, hF⟩ := hF
  refine m_new (B := B) (ci := 4) (fs := [.null, .null, .null, .int 0, .int 0, .int 0, .int 0, .int 0, .int 0]) E S (show s.heap.size + 80 = B + (n + 80) by omega) t_Message t_Message_ok i_Message rfl qw_74 qw_76 qw_77 (z_Message B) (Nat.le_of_ble_eq_true rfl) (Nat.le_of_ble_eq_true rfl) eg_32 d_Arc_init_81 (fun H S => ?_)
  refine W.widen (k := 81) (n := 1609) (Nat.le_of_ble_eq_true rfl) (Nat.le_of_ble_eq_true rfl) ?_
  refine W.eq (g2 := F0 m 84 ls [.ref (B + (n + 80)), .int 1, m_r B v_31]) rfl ?_
  refine lv_dup hx hb d_Arc_init_84 rfl ?_
  replace hF := m_bd_inv hF
  obtain ⟨v_34, g_33, eg_33, hF⟩ := hF
  refine m_callI (B := B) (nn := 0) (b := (n + 80)) (As := []) (rest := [.ref (B + (n + 80)), .int 1, m_r B v_31]) (v := none) E S (show s.heap.size + 81 = B + (n + 81) by omega) (c_Message_init l D B K (n + 81) g_32 (n + 80) v_34 g_33 eg_33) qc_Message_init ⟨rfl, rfl⟩ (Or.inr ⟨_, qn_9⟩) qw_78 qw_77 rfl (by decide +kernel) ⟨Nat.le_of_ble_eq_true rfl, Nat.le_of_ble_eq_true rfl⟩ rfl hl.1 (by simp only [List.map_cons, List.map_nil, m_r_cat]; exact Nat.le_of_ble_eq_true rfl) d_Arc_init_85 ⟨Nat.le_of_ble_eq_true rfl, Nat.le_of_ble_eq_true rfl⟩ (fun H locs S => ?_)
  refine W.widen (k := 84) (n := 1713) (Nat.le_of_ble_eq_true rfl) (Nat.le_of_ble_eq_true rfl) ?_
  refine W.eq (g2 := F0 m 88 ls [.ref (B + (n + 80)), .int 1, m_r B v_31]) rfl ?_
  replace hF := Option.bind_eq_some_iff.mp hF
  obtain ⟨a_35, ea_35, hF⟩ := hF
  subst ea_35
  replace hF := Option.bind_eq_some_iff.mp hF
  obtain ⟨g_36, eg_36, hF⟩ := hF
  refine m_aast (B := B) (a := a_35) (v := (n + 80)) (t := 5) (ci := 4) (r := (R_Message, F_Message, 9)) E S rfl rfl eg_36 d_Arc_init_88 (fun H locs S => ?_)
  refine lv_iinc (v := 2) (lv' := [(1, .int 2), (0, .ref (B + a0))]) hx hb d_Arc_init_89 hl (k := 0) rfl (by decide) (by decide) rfl (fun ls hl => ?_)
  refine lv_goto (tgt := 70) hx hb d_Arc_init_92 (by decide) ?_
  refine lv_iload_n hx hb d_Arc_init_70 rfl (lv_at hl 0 rfl) ?_
  refine lv_bipush (v := 12) hx hb d_Arc_init_71 (by decide) ?_
  refine lv_icmp_ge (tgt := 95) hx hb d_Arc_init_73 (by decide) (fun c_37 => absurd c_37 (by decide)) (fun c_37 => ?_)
  refine lv_aload_n hx hb d_Arc_init_76 rfl (lv_at hl 1 rfl) ?_
  replace hF := Option.bind_eq_some_iff.mp hF
  obtain ⟨v_38, ev_38, hF⟩ := hF
  refine m_getR (B := B) (a := a0) E S fd_Arc_messages (Or.inl qw_75) ev_38 d_Arc_init_77 ?_
  refine lv_iload_n hx hb d_Arc_init_80 rfl (lv_at hl 0 rfl) ?_
  replace hF := Option.bind_eq_some_iff.mp hF
  obtain ⟨g_39, eg_39, hF⟩ := hF
  refine m_new (B := B) (ci := 4) (fs := [.null, .null, .null, .int 0, .int 0, .int 0, .int 0, .int 0, .int 0]) E S (show s.heap.size + 84 = B + (n + 84) by omega) t_Message t_Message_ok i_Message rfl qw_74 qw_76 qw_77 (z_Message B) (Nat.le_of_ble_eq_true rfl) (Nat.le_of_ble_eq_true rfl) eg_39 d_Arc_init_81 (fun H S => ?_)
  refine W.widen (k := 85) (n := 1722) (Nat.le_of_ble_eq_true rfl) (Nat.le_of_ble_eq_true rfl) ?_
  refine W.eq (g2 := F0 m 84 ls [.ref (B + (n + 84)), .int 2, m_r B v_38]) rfl ?_
  refine lv_dup hx hb d_Arc_init_84 rfl ?_
  replace hF := m_bd_inv hF
  obtain ⟨v_41, g_40, eg_40, hF⟩ := hF
  refine m_callI (B := B) (nn := 0) (b := (n + 84)) (As := []) (rest := [.ref (B + (n + 84)), .int 2, m_r B v_38]) (v := none) E S (show s.heap.size + 85 = B + (n + 85) by omega) (c_Message_init l D B K (n + 85) g_39 (n + 84) v_41 g_40 eg_40) qc_Message_init ⟨rfl, rfl⟩ (Or.inr ⟨_, qn_9⟩) qw_78 qw_77 rfl (by decide +kernel) ⟨Nat.le_of_ble_eq_true rfl, Nat.le_of_ble_eq_true rfl⟩ rfl hl.1 (by simp only [List.map_cons, List.map_nil, m_r_cat]; exact Nat.le_of_ble_eq_true rfl) d_Arc_init_85 ⟨Nat.le_of_ble_eq_true rfl, Nat.le_of_ble_eq_true rfl⟩ (fun H locs S => ?_)
  refine W.widen (k := 88) (n := 1826) (Nat.le_of_ble_eq_true rfl) (Nat.le_of_ble_eq_true rfl) ?_
  refine W.eq (g2 := F0 m 88 ls [.ref (B + (n + 84)), .int 2, m_r B v_38]) rfl ?_
  replace hF := Option.bind_eq_some_iff.mp hF
  obtain ⟨a_42, ea_42, hF⟩ := hF
  subst ea_42
  replace hF := Option.bind_eq_some_iff.mp hF
  obtain ⟨g_43, eg_43, hF⟩ := hF
  refine m_aast (B := B) (a := a_42) (v := (n + 84)) (t := 5) (ci := 4) (r := (R_Message, F_Message, 9)) E S rfl rfl eg_43 d_Arc_init_88 (fun H locs S => ?_)
  refine lv_iinc (v := 3) (lv' := [(1, .int 3), (0, .ref (B + a0))]) hx hb d_Arc_init_89 hl (k := 0) rfl (by decide) (by decide) rfl (fun ls hl => ?_)
  refine lv_goto (tgt := 70) hx hb d_Arc_init_92 (by decide) ?_
  refine lv_iload_n hx hb d_Arc_init_70 rfl (lv_at hl 0 rfl) ?_
  refine lv_bipush (v := 12) hx hb d_Arc_init_71 (by decide) ?_
  refine lv_icmp_ge (tgt := 95) hx hb d_Arc_init_73 (by decide) (fun c_44 => absurd c_44 (by decide)) (fun c_44 => ?_)
  refine lv_aload_n hx hb d_Arc_init_76 rfl (lv_at hl 1 rfl) ?_
  replace hF := Option.bind_eq_some_iff.mp hF
  obtain ⟨v_45, ev_45, hF⟩ := hF
  refine m_getR (B := B) (a := a0) E S fd_Arc_messages (Or.inl qw_75) ev_45 d_Arc_init_77 ?_
  refine lv_iload_n hx hb d_Arc_init_80 rfl (lv_at hl 0 rfl) ?_
  replace hF := Option.bind_eq_some_iff.mp hF
  obtain ⟨g_46, eg_46, hF⟩ := hF
  refine m_new (B := B) (ci := 4) (fs := [.null, .null, .null, .int 0, .int 0, .int 0, .int 0, .int 0, .int 0]) E S (show s.heap.size + 88 = B + (n + 88) by omega) t_Message t_Message_ok i_Message rfl qw_74 qw_76 qw_77 (z_Message B) (Nat.le_of_ble_eq_true rfl) (Nat.le_of_ble_eq_true rfl) eg_46 d_Arc_init_81 (fun H S => ?_)
  refine W.widen (k := 89) (n := 1835) (Nat.le_of_ble_eq_true rfl) (Nat.le_of_ble_eq_true rfl) ?_
  refine W.eq (g2 := F0 m 84 ls [.ref (B + (n + 88)), .int 3, m_r B v_45]) rfl ?_
  refine lv_dup hx hb d_Arc_init_84 rfl ?_
  replace hF := m_bd_inv hF
  obtain ⟨v_48, g_47, eg_47, hF⟩ := hF
  refine m_callI (B := B) (nn := 0) (b := (n + 88)) (As := []) (rest := [.ref (B + (n + 88)), .int 3, m_r B v_45]) (v := none) E S (show s.heap.size + 89 = B + (n + 89) by omega) (c_Message_init l D B K (n + 89) g_46 (n + 88) v_48 g_47 eg_47) qc_Message_init ⟨rfl, rfl⟩ (Or.inr ⟨_, qn_9⟩) qw_78 qw_77 rfl (by decide +kernel) ⟨Nat.le_of_ble_eq_true rfl, Nat.le_of_ble_eq_true rfl⟩ rfl hl.1 (by simp only [List.map_cons, List.map_nil, m_r_cat]; exact Nat.le_of_ble_eq_true rfl) d_Arc_init_85 ⟨Nat.le_of_ble_eq_true rfl, Nat.le_of_ble_eq_true rfl⟩ (fun H locs S => ?_)
  refine W.widen (k := 92) (n := 1939) (Nat.le_of_ble_eq_true rfl) (Nat.le_of_ble_eq_true rfl) ?_
  refine W.eq (g2 := F0 m 88 ls [.ref (B + (n + 88)), .int 3, m_r B v_45]) rfl ?_
  replace hF := Option.bind_eq_some_iff.mp hF
  obtain ⟨a_49, ea_49, hF⟩ := hF
  subst ea_49
  replace hF := Option.bind_eq_some_iff.mp hF
  obtain ⟨g_50, eg_50, hF⟩ := hF
  refine m_aast (B := B) (a := a_49) (v := (n + 88)) (t := 5) (ci := 4) (r := (R_Message, F_Message, 9)) E S rfl rfl eg_50 d_Arc_init_88 (fun H locs S => ?_)
  refine lv_iinc (v := 4) (lv' := [(1, .int 4), (0, .ref (B + a0))]) hx hb d_Arc_init_89 hl (k := 0) rfl (by decide) (by decide) rfl (fun ls hl => ?_)
  refine lv_goto (tgt := 70) hx hb d_Arc_init_92 (by decide) ?_
  refine lv_iload_n hx hb d_Arc_init_70 rfl (lv_at hl 0 rfl) ?_
  refine lv_bipush (v := 12) hx hb d_Arc_init_71 (by decide) ?_
  refine lv_icmp_ge (tgt := 95) hx hb d_Arc_init_73 (by decide) (fun c_51 => absurd c_51 (by decide)) (fun c_51 => ?_)
  refine lv_aload_n hx hb d_Arc_init_76 rfl (lv_at hl 1 rfl) ?_
  replace hF := Option.bind_eq_some_iff.mp hF
  obtain ⟨v_52, ev_52, hF⟩ := hF
  refine m_getR (B := B) (a := a0) E S fd_Arc_messages (Or.inl qw_75) ev_52 d_Arc_init_77 ?_
  refine lv_iload_n hx hb d_Arc_init_80 rfl (lv_at hl 0 rfl) ?_
  replace hF := Option.bind_eq_some_iff.mp hF
  obtain ⟨g_53, eg_53, hF⟩ := hF
  refine m_new (B := B) (ci := 4) (fs := [.null, .null, .null, .int 0, .int 0, .int 0, .int 0, .int 0, .int 0]) E S (show s.heap.size + 92 = B + (n + 92) by omega) t_Message t_Message_ok i_Message rfl qw_74 qw_76 qw_77 (z_Message B) (Nat.le_of_ble_eq_true rfl) (Nat.le_of_ble_eq_true rfl) eg_53 d_Arc_init_81 (fun H S => ?_)
  refine W.widen (k := 93) (n := 1948) (Nat.le_of_ble_eq_true rfl) (Nat.le_of_ble_eq_true rfl) ?_
  refine W.eq (g2 := F0 m 84 ls [.ref (B + (n + 92)), .int 4, m_r B v_52]) rfl ?_
  refine lv_dup hx hb d_Arc_init_84 rfl ?_
  replace hF := m_bd_inv hF
  obtain ⟨v_55, g_54, eg_54, hF⟩ := hF
  refine m_callI (B := B) (nn := 0) (b := (n + 92)) (As := []) (rest := [.ref (B + (n + 92)), .int 4, m_r B v_52]) (v := none) E S (show s.heap.size + 93 = B + (n + 93) by omega) (c_Message_init l D B K (n + 93) g_53 (n + 92) v_55 g_54 eg_54) qc_Message_init ⟨rfl, rfl⟩ (Or.inr ⟨_, qn_9⟩) qw_78 qw_77 rfl (by decide +kernel) ⟨Nat.le_of_ble_eq_true rfl, Nat.le_of_ble_eq_true rfl⟩ rfl hl.1 (by simp only [List.map_cons, List.map_nil, m_r_cat]; exact Nat.le_of_ble_eq_true rfl) d_Arc_init_85 ⟨Nat.le_of_ble_eq_true rfl, Nat.le_of_ble_eq_true rfl⟩ (fun H locs S => ?_)
  refine W.widen (k := 96) (n := 2052) (Nat.le_of_ble_eq_true rfl) (Nat.le_of_ble_eq_true rfl) ?_
  refine W.eq (g2 := F0 m 88 ls [.ref (B + (n + 92)), .int 4, m_r B v_52]) rfl ?_
  replace hF := Option.bind_eq_some_iff.mp hF
  obtain ⟨a_56, ea_56, hF⟩ := hF
  subst ea_56
  replace hF := Option.bind_eq_some_iff.mp hF
  obtain ⟨g_57, eg_57, hF⟩ := hF
  refine m_aast (B := B) (a := a_56) (v := (n + 92)) (t := 5) (ci := 4) (r := (R_Message, F_Message, 9)) E S rfl rfl eg_57 d_Arc_init_88 (fun H locs S => ?_)
  refine lv_iinc (v := 5) (lv' := [(1, .int 5), (0, .ref (B + a0))]) hx hb d_Arc_init_89 hl (k := 0) rfl (by decide) (by decide) rfl (fun ls hl => ?_)
  refine lv_goto (tgt := 70) hx hb d_Arc_init_92 (by decide) ?_
  refine lv_iload_n hx hb d_Arc_init_70 rfl (lv_at hl 0 rfl) ?_
  refine lv_bipush (v := 12) hx hb d_Arc_init_71 (by decide) ?_
  refine lv_icmp_ge (tgt := 95) hx hb d_Arc_init_73 (by decide) (fun c_58 => absurd c_58 (by decide)) (fun c_58 => ?_)
  refine lv_aload_n hx hb d_Arc_init_76 rfl (lv_at hl 1 rfl) ?_
  replace hF := Option.bind_eq_some_iff.mp hF
  obtain ⟨v_59, ev_59, hF⟩ := hF
  refine m_getR (B := B) (a := a0) E S fd_Arc_messages (Or.inl qw_75) ev_59 d_Arc_init_77 ?_
  refine lv_iload_n hx hb d_Arc_init_80 rfl (lv_at hl 0 rfl) ?_
  replace hF := Option.bind_eq_some_iff.mp hF
  obtain ⟨g_60, eg_60, hF⟩ := hF
  refine m_new (B := B) (ci := 4) (fs := [.null, .null, .null, .int 0, .int 0, .int 0, .int 0, .int 0, .int 0]) E S (show s.heap.size + 96 = B + (n + 96) by omega) t_Message t_Message_ok i_Message rfl qw_74 qw_76 qw_77 (z_Message B) (Nat.le_of_ble_eq_true rfl) (Nat.le_of_ble_eq_true rfl) eg_60 d_Arc_init_81 (fun H S => ?_)
  refine W.widen (k := 97) (n := 2061) (Nat.le_of_ble_eq_true rfl) (Nat.le_of_ble_eq_true rfl) ?_
  refine W.eq (g2 := F0 m 84 ls [.ref (B + (n + 96)), .int 5, m_r B v_59]) rfl ?_
  refine lv_dup hx hb d_Arc_init_84 rfl ?_
  replace hF := m_bd_inv hF
  obtain ⟨v_62, g_61, eg_61, hF⟩ := hF
  refine m_callI (B := B) (nn := 0) (b := (n + 96)) (As := []) (rest := [.ref (B + (n + 96)), .int 5, m_r B v_59]) (v := none) E S (show s.heap.size + 97 = B + (n + 97) by omega) (c_Message_init l D B K (n + 97) g_60 (n + 96) v_62 g_61 eg_61) qc_Message_init ⟨rfl, rfl⟩ (Or.inr ⟨_, qn_9⟩) qw_78 qw_77 rfl (by decide +kernel) ⟨Nat.le_of_ble_eq_true rfl, Nat.le_of_ble_eq_true rfl⟩ rfl hl.1 (by simp only [List.map_cons, List.map_nil, m_r_cat]; exact Nat.le_of_ble_eq_true rfl) d_Arc_init_85 ⟨Nat.le_of_ble_eq_true rfl, Nat.le_of_ble_eq_true rfl⟩ (fun H locs S => ?_)
  refine W.widen (k := 100) (n := 2165) (Nat.le_of_ble_eq_true rfl) (Nat.le_of_ble_eq_true rfl) ?_
  refine W.eq (g2 := F0 m 88 ls [.ref (B + (n + 96)), .int 5, m_r B v_59]) rfl ?_
  replace hF := Option.bind_eq_some_iff.mp hF
  obtain ⟨a_63, ea_63, hF⟩ := hF
  subst ea_63
  replace hF := Option.bind_eq_some_iff.mp hF
  obtain ⟨g_64, eg_64, hF⟩ := hF
  refine m_aast (B := B) (a := a_63) (v := (n + 96)) (t := 5) (ci := 4) (r := (R_Message, F_Message, 9)) E S rfl rfl eg_64 d_Arc_init_88 (fun H locs S => ?_)
  refine lv_iinc (v := 6) (lv' := [(1, .int 6), (0, .ref (B + a0))]) hx hb d_Arc_init_89 hl (k := 0) rfl (by decide) (by decide) rfl (fun ls hl => ?_)
  refine lv_goto (tgt := 70) hx hb d_Arc_init_92 (by decide) ?_
  refine lv_iload_n hx hb d_Arc_init_70 rfl (lv_at hl 0 rfl) ?_
  refine lv_bipush (v := 12) hx hb d_Arc_init_71 (by decide) ?_
  refine lv_icmp_ge (tgt := 95) hx hb d_Arc_init_73 (by decide) (fun c_65 => absurd c_65 (by decide)) (fun c_65 => ?_)
  refine lv_aload_n hx hb d_Arc_init_76 rfl (lv_at hl 1 rfl) ?_
  replace hF := Option.bind_eq_some_iff.mp hF
  obtain ⟨v_66, ev_66, hF⟩ := hF
  refine m_getR (B := B) (a := a0) E S fd_Arc_messages (Or.inl qw_75) ev_66 d_Arc_init_77 ?_
  refine lv_iload_n hx hb d_Arc_init_80 rfl (lv_at hl 0 rfl) ?_
  replace hF := Option.bind_eq_some_iff.mp hF
  obtain ⟨g_67, eg_67, hF⟩ := hF
  refine m_new (B := B) (ci := 4) (fs := [.null, .null, .null, .int 0, .int 0, .int 0, .int 0, .int 0, .int 0]) E S (show s.heap.size + 100 = B + (n + 100) by omega) t_Message t_Message_ok i_Message rfl qw_74 qw_76 qw_77 (z_Message B) (Nat.le_of_ble_eq_true rfl) (Nat.le_of_ble_eq_true rfl) eg_67 d_Arc_init_81 (fun H S => ?_)
  refine W.widen (k := 101) (n := 2174) (Nat.le_of_ble_eq_true rfl) (Nat.le_of_ble_eq_true rfl) ?_
  refine W.eq (g2 := F0 m 84 ls [.ref (B + (n + 100)), .int 6, m_r B v_66]) rfl ?_
  refine lv_dup hx hb d_Arc_init_84 rfl ?_
  replace hF := m_bd_inv hF
  obtain ⟨v_69, g_68, eg_68, hF⟩ := hF
  refine m_callI (B := B) (nn := 0) (b := (n + 100)) (As := []) (rest := [.ref (B + (n + 100)), .int 6, m_r B v_66]) (v := none) E S (show s.heap.size + 101 = B + (n + 101) by omega) (c_Message_init l D B K (n + 101) g_67 (n + 100) v_69 g_68 eg_68) qc_Message_init ⟨rfl, rfl⟩ (Or.inr ⟨_, qn_9⟩) qw_78 qw_77 rfl (by decide +kernel) ⟨Nat.le_of_ble_eq_true rfl, Nat.le_of_ble_eq_true rfl⟩ rfl hl.1 (by simp only [List.map_cons, List.map_nil, m_r_cat]; exact Nat.le_of_ble_eq_true rfl) d_Arc_init_85 ⟨Nat.le_of_ble_eq_true rfl, Nat.le_of_ble_eq_true rfl⟩ (fun H locs S => ?_)
  refine W.widen (k := 104) (n := 2278) (Nat.le_of_ble_eq_true rfl) (Nat.le_of_ble_eq_true rfl) ?_
  refine W.eq (g2 := F0 m 88 ls [.ref (B + (n + 100)), .int 6, m_r B v_66]) rfl ?_
  replace hF := Option.bind_eq_some_iff.mp hF
  obtain ⟨a_70, ea_70, hF⟩ := hF
  subst ea_70
  replace hF := Option.bind_eq_some_iff.mp hF
  obtain ⟨g_71, eg_71, hF⟩ := hF
  refine m_aast (B := B) (a := a_70) (v := (n + 100)) (t := 5) (ci := 4) (r := (R_Message, F_Message, 9)) E S rfl rfl eg_71 d_Arc_init_88 (fun H locs S => ?_)
  refine lv_iinc (v := 7) (lv' := [(1, .int 7), (0, .ref (B + a0))]) hx hb d_Arc_init_89 hl (k := 0) rfl (by decide) (by decide) rfl (fun ls hl => ?_)
  refine lv_goto (tgt := 70) hx hb d_Arc_init_92 (by decide) ?_
  refine lv_iload_n hx hb d_Arc_init_70 rfl (lv_at hl 0 rfl) ?_
  refine lv_bipush (v := 12) hx hb d_Arc_init_71 (by decide) ?_
  refine lv_icmp_ge (tgt := 95) hx hb d_Arc_init_73 (by decide) (fun c_72 => absurd c_72 (by decide)) (fun c_72 => ?_)
  refine lv_aload_n hx hb d_Arc_init_76 rfl (lv_at hl 1 rfl) ?_
  replace hF := Option.bind_eq_some_iff.mp hF
  obtain ⟨v_73, ev_73, hF⟩ := hF
  refine m_getR (B := B) (a := a0) E S fd_Arc_messages (Or.inl qw_75) ev_73 d_Arc_init_77 ?_
  refine lv_iload_n hx hb d_Arc_init_80 rfl (lv_at hl 0 rfl) ?_
  replace hF := Option.bind_eq_some_iff.mp hF
  obtain ⟨g_74, eg_74, hF⟩ := hF
  refine m_new (B := B) (ci := 4) (fs := [.null, .null, .null, .int 0, .int 0, .int 0, .int 0, .int 0, .int 0]) E S (show s.heap.size + 104 = B + (n + 104) by omega) t_Message t_Message_ok i_Message rfl qw_74 qw_76 qw_77 (z_Message B) (Nat.le_of_ble_eq_true rfl) (Nat.le_of_ble_eq_true rfl) eg_74 d_Arc_init_81 (fun H S => ?_)
  refine W.widen (k := 105) (n := 2287) (Nat.le_of_ble_eq_true rfl) (Nat.le_of_ble_eq_true rfl) ?_
  refine W.eq (g2 := F0 m 84 ls [.ref (B + (n + 104)), .int 7, m_r B v_73]) rfl ?_
  refine lv_dup hx hb d_Arc_init_84 rfl ?_
  replace hF := m_bd_inv hF
  obtain ⟨v_76, g_75, eg_75, hF⟩ := hF
  refine m_callI (B := B) (nn := 0) (b := (n + 104)) (As := []) (rest := [.ref (B + (n + 104)), .int 7, m_r B v_73]) (v := none) E S (show s.heap.size + 105 = B + (n + 105) by omega) (c_Message_init l D B K (n + 105) g_74 (n + 104) v_76 g_75 eg_75) qc_Message_init ⟨rfl, rfl⟩ (Or.inr ⟨_, qn_9⟩) qw_78 qw_77 rfl (by decide +kernel) ⟨Nat.le_of_ble_eq_true rfl, Nat.le_of_ble_eq_true rfl⟩ rfl hl.1 (by simp only [List.map_cons, List.map_nil, m_r_cat]; exact Nat.le_of_ble_eq_true rfl) d_Arc_init_85 ⟨Nat.le_of_ble_eq_true rfl, Nat.le_of_ble_eq_true rfl⟩ (fun H locs S => ?_)
  refine W.widen (k := 108) (n := 2391) (Nat.le_of_ble_eq_true rfl) (Nat.le_of_ble_eq_true rfl) ?_
  refine W.eq (g2 := F0 m 88 ls [.ref (B + (n + 104)), .int 7, m_r B v_73]) rfl ?_
  replace hF := Option.bind_eq_some_iff.mp hF
  obtain ⟨a_77, ea_77, hF⟩ := hF
  subst ea_77
  replace hF := Option.bind_eq_some_iff.mp hF
  obtain ⟨g_78, eg_78, hF⟩ := hF
  refine m_aast (B := B) (a := a_77) (v := (n + 104)) (t := 5) (ci := 4) (r := (R_Message, F_Message, 9)) E S rfl rfl eg_78 d_Arc_init_88 (fun H locs S => ?_)
  refine lv_iinc (v := 8) (lv' := [(1, .int 8), (0, .ref (B + a0))]) hx hb d_Arc_init_89 hl (k := 0) rfl (by decide) (by decide) rfl (fun ls hl => ?_)
  refine lv_goto (tgt := 70) hx hb d_Arc_init_92 (by decide) ?_
  refine lv_iload_n hx hb d_Arc_init_70 rfl (lv_at hl 0 rfl) ?_
  refine lv_bipush (v := 12) hx hb d_Arc_init_71 (by decide) ?_
  refine lv_icmp_ge (tgt := 95) hx hb d_Arc_init_73 (by decide) (fun c_79 => absurd c_79 (by decide)) (fun c_79 => ?_)
  refine lv_aload_n hx hb d_Arc_init_76 rfl (lv_at hl 1 rfl) ?_
  replace hF := Option.bind_eq_some_iff.mp hF
  obtain ⟨v_80, ev_80, hF⟩ := hF
  refine m_getR (B := B) (a := a0) E S fd_Arc_messages (Or.inl qw_75) ev_80 d_Arc_init_77 ?_
  refine lv_iload_n hx hb d_Arc_init_80 rfl (lv_at hl 0 rfl) ?_
  replace hF := Option.bind_eq_some_iff.mp hF
  obtain ⟨g_81, eg_81, hF⟩ := hF
  refine m_new (B := B) (ci := 4) (fs := [.null, .null, .null, .int 0, .int 0, .int 0, .int 0, .int 0, .int 0]) E S (show s.heap.size + 108 = B + (n + 108) by omega) t_Message t_Message_ok i_Message rfl qw_74 qw_76 qw_77 (z_Message B) (Nat.le_of_ble_eq_true rfl) (Nat.le_of_ble_eq_true rfl) eg_81 d_Arc_init_81 (fun H S => ?_)
  refine W.widen (k := 109) (n := 2400) (Nat.le_of_ble_eq_true rfl) (Nat.le_of_ble_eq_true rfl) ?_
  refine W.eq (g2 := F0 m 84 ls [.ref (B + (n + 108)), .int 8, m_r B v_80]) rfl ?_
  refine lv_dup hx hb d_Arc_init_84 rfl ?_
  replace hF := m_bd_inv hF
  obtain ⟨v_83, g_82, eg_82, hF⟩ := hF
  refine m_callI (B := B) (nn := 0) (b := (n + 108)) (As := []) (rest := [.ref (B + (n + 108)), .int 8, m_r B v_80]) (v := none) E S (show s.heap.size + 109 = B + (n + 109) by omega) (c_Message_init l D B K (n + 109) g_81 (n + 108) v_83 g_82 eg_82) qc_Message_init ⟨rfl, rfl⟩ (Or.inr ⟨_, qn_9⟩) qw_78 qw_77 rfl (by decide +kernel) ⟨Nat.le_of_ble_eq_true rfl, Nat.le_of_ble_eq_true rfl⟩ rfl hl.1 (by simp only [List.map_cons, List.map_nil, m_r_cat]; exact Nat.le_of_ble_eq_true rfl) d_Arc_init_85 ⟨Nat.le_of_ble_eq_true rfl, Nat.le_of_ble_eq_true rfl⟩ (fun H locs S => ?_)
  refine W.widen (k := 112) (n := 2504) (Nat.le_of_ble_eq_true rfl) (Nat.le_of_ble_eq_true rfl) ?_
  refine W.eq (g2 := F0 m 88 ls [.ref (B + (n + 108)), .int 8, m_r B v_80]) rfl ?_
  replace hF := Option.bind_eq_some_iff.mp hF
  obtain ⟨a_84, ea_84, hF⟩ := hF
  subst ea_84
  replace hF := Option.bind_eq_some_iff.mp hF
  obtain ⟨g_85, eg_85, hF⟩ := hF
  refine m_aast (B := B) (a := a_84) (v := (n + 108)) (t := 5) (ci := 4) (r := (R_Message, F_Message, 9)) E S rfl rfl eg_85 d_Arc_init_88 (fun H locs S => ?_)
  refine lv_iinc (v := 9) (lv' := [(1, .int 9), (0, .ref (B + a0))]) hx hb d_Arc_init_89 hl (k := 0) rfl (by decide) (by decide) rfl (fun ls hl => ?_)
  refine lv_goto (tgt := 70) hx hb d_Arc_init_92 (by decide) ?_
  refine lv_iload_n hx hb d_Arc_init_70 rfl (lv_at hl 0 rfl) ?_
  refine lv_bipush (v := 12) hx hb d_Arc_init_71 (by decide) ?_
  refine lv_icmp_ge (tgt := 95) hx hb d_Arc_init_73 (by decide) (fun c_86 => absurd c_86 (by decide)) (fun c_86 => ?_)
  refine lv_aload_n hx hb d_Arc_init_76 rfl (lv_at hl 1 rfl) ?_
  replace hF := Option.bind_eq_some_iff.mp hF
  obtain ⟨v_87, ev_87, hF⟩ := hF
  refine m_getR (B := B) (a := a0) E S fd_Arc_messages (Or.inl qw_75) ev_87 d_Arc_init_77 ?_
  refine lv_iload_n hx hb d_Arc_init_80 rfl (lv_at hl 0 rfl) ?_
  replace hF := Option.bind_eq_some_iff.mp hF
  obtain ⟨g_88, eg_88, hF⟩ := hF
  refine m_new (B := B) (ci := 4) (fs := [.null, .null, .null, .int 0, .int 0, .int 0, .int 0, .int 0, .int 0]) E S (show s.heap.size + 112 = B + (n + 112) by omega) t_Message t_Message_ok i_Message rfl qw_74 qw_76 qw_77 (z_Message B) (Nat.le_of_ble_eq_true rfl) (Nat.le_of_ble_eq_true rfl) eg_88 d_Arc_init_81 (fun H S => ?_)
  refine W.widen (k := 113) (n := 2513) (Nat.le_of_ble_eq_true rfl) (Nat.le_of_ble_eq_true rfl) ?_
  refine W.eq (g2 := F0 m 84 ls [.ref (B + (n + 112)), .int 9, m_r B v_87]) rfl ?_
  refine lv_dup hx hb d_Arc_init_84 rfl ?_
  replace hF := m_bd_inv hF
  obtain ⟨v_90, g_89, eg_89, hF⟩ := hF
  refine m_callI (B := B) (nn := 0) (b := (n + 112)) (As := []) (rest := [.ref (B + (n + 112)), .int 9, m_r B v_87]) (v := none) E S (show s.heap.size + 113 = B + (n + 113) by omega) (c_Message_init l D B K (n + 113) g_88 (n + 112) v_90 g_89 eg_89) qc_Message_init ⟨rfl, rfl⟩ (Or.inr ⟨_, qn_9⟩) qw_78 qw_77 rfl (by decide +kernel) ⟨Nat.le_of_ble_eq_true rfl, Nat.le_of_ble_eq_true rfl⟩ rfl hl.1 (by simp only [List.map_cons, List.map_nil, m_r_cat]; exact Nat.le_of_ble_eq_true rfl) d_Arc_init_85 ⟨Nat.le_of_ble_eq_true rfl, Nat.le_of_ble_eq_true rfl⟩ (fun H locs S => ?_)
  refine W.widen (k := 116) (n := 2617) (Nat.le_of_ble_eq_true rfl) (Nat.le_of_ble_eq_true rfl) ?_
  refine W.eq (g2 := F0 m 88 ls [.ref (B + (n + 112)), .int 9, m_r B v_87]) rfl ?_
  replace hF := Option.bind_eq_some_iff.mp hF
  obtain ⟨a_91, ea_91, hF⟩ := hF
  subst ea_91
  replace hF := Option.bind_eq_some_iff.mp hF
  obtain ⟨g_92, eg_92, hF⟩ := hF
  refine m_aast (B := B) (a := a_91) (v := (n + 112)) (t := 5) (ci := 4) (r := (R_Message, F_Message, 9)) E S rfl rfl eg_92 d_Arc_init_88 (fun H locs S => ?_)
  refine lv_iinc (v := 10) (lv' := [(1, .int 10), (0, .ref (B + a0))]) hx hb d_Arc_init_89 hl (k := 0) rfl (by decide) (by decide) rfl (fun ls hl => ?_)
  refine lv_goto (tgt := 70) hx hb d_Arc_init_92 (by decide) ?_
  refine lv_iload_n hx hb d_Arc_init_70 rfl (lv_at hl 0 rfl) ?_
  refine lv_bipush (v := 12) hx hb d_Arc_init_71 (by decide) ?_
  refine lv_icmp_ge (tgt := 95) hx hb d_Arc_init_73 (by decide) (fun c_93 => absurd c_93 (by decide)) (fun c_93 => ?_)
  refine lv_aload_n hx hb d_Arc_init_76 rfl (lv_at hl 1 rfl) ?_
  replace hF := Option.bind_eq_some_iff.mp hF
  obtain ⟨v_94, ev_94, hF⟩ := hF
  refine m_getR (B := B) (a := a0) E S fd_Arc_messages (Or.inl qw_75) ev_94 d_Arc_init_77 ?_
  refine lv_iload_n hx hb d_Arc_init_80 rfl (lv_at hl 0 rfl) ?_
  replace hF := Option.bind_eq_some_iff.mp hF
  obtain ⟨g_95, eg_95, hF⟩ := hF
  refine m_new (B := B) (ci := 4) (fs := [.null, .null, .null, .int 0, .int 0, .int 0, .int 0, .int 0, .int 0]) E S (show s.heap.size + 116 = B + (n + 116) by omega) t_Message t_Message_ok i_Message rfl qw_74 qw_76 qw_77 (z_Message B) (Nat.le_of_ble_eq_true rfl) (Nat.le_of_ble_eq_true rfl) eg_95 d_Arc_init_81 (fun H S => ?_)
  refine W.widen (k := 117) (n := 2626) (Nat.le_of_ble_eq_true rfl) (Nat.le_of_ble_eq_true rfl) ?_
  refine W.eq (g2 := F0 m 84 ls [.ref (B + (n + 116)), .int 10, m_r B v_94]) rfl ?_
  refine lv_dup hx hb d_Arc_init_84 rfl ?_
  replace hF := m_bd_inv hF
  obtain ⟨v_97, g_96, eg_96, hF⟩ := hF
  refine m_callI (B := B) (nn := 0) (b := (n + 116)) (As := []) (rest := [.ref (B + (n + 116)), .int 10, m_r B v_94]) (v := none) E S (show s.heap.size + 117 = B + (n + 117) by omega) (c_Message_init l D B K (n + 117) g_95 (n + 116) v_97 g_96 eg_96) qc_Message_init ⟨rfl, rfl⟩ (Or.inr ⟨_, qn_9⟩) qw_78 qw_77 rfl (by decide +kernel) ⟨Nat.le_of_ble_eq_true rfl, Nat.le_of_ble_eq_true rfl⟩ rfl hl.1 (by simp only [List.map_cons, List.map_nil, m_r_cat]; exact Nat.le_of_ble_eq_true rfl) d_Arc_init_85 ⟨Nat.le_of_ble_eq_true rfl, Nat.le_of_ble_eq_true rfl⟩ (fun H locs S => ?_)
  refine W.widen (k := 120) (n := 2730) (Nat.le_of_ble_eq_true rfl) (Nat.le_of_ble_eq_true rfl) ?_
  refine W.eq (g2 := F0 m 88 ls [.ref (B + (n + 116)), .int 10, m_r B v_94]) rfl ?_
  replace hF := Option.bind_eq_some_iff.mp hF
  obtain ⟨a_98, ea_98, hF⟩ := hF
  subst ea_98
  replace hF := Option.bind_eq_some_iff.mp hF
  obtain ⟨g_99, eg_99, hF⟩ := hF
  refine m_aast (B := B) (a := a_98) (v := (n + 116)) (t := 5) (ci := 4) (r := (R_Message, F_Message, 9)) E S rfl rfl eg_99 d_Arc_init_88 (fun H locs S => ?_)
  refine lv_iinc (v := 11) (lv' := [(1, .int 11), (0, .ref (B + a0))]) hx hb d_Arc_init_89 hl (k := 0) rfl (by decide) (by decide) rfl (fun ls hl => ?_)
  refine lv_goto (tgt := 70) hx hb d_Arc_init_92 (by decide) ?_
  refine lv_iload_n hx hb d_Arc_init_70 rfl (lv_at hl 0 rfl) ?_
  refine lv_bipush (v := 12) hx hb d_Arc_init_71 (by decide) ?_
  refine lv_icmp_ge (tgt := 95) hx hb d_Arc_init_73 (by decide) (fun c_100 => absurd c_100 (by decide)) (fun c_100 => ?_)
  refine lv_aload_n hx hb d_Arc_init_76 rfl (lv_at hl 1 rfl) ?_
  replace hF := Option.bind_eq_some_iff.mp hF
  obtain ⟨v_101, ev_101, hF⟩ := hF
  refine m_getR (B := B) (a := a0) E S fd_Arc_messages (Or.inl qw_75) ev_101 d_Arc_init_77 ?_
  refine lv_iload_n hx hb d_Arc_init_80 rfl (lv_at hl 0 rfl) ?_
  replace hF := Option.bind_eq_some_iff.mp hF
  obtain ⟨g_102, eg_102, hF⟩ := hF
  refine m_new (B := B) (ci := 4) (fs := [.null, .null, .null, .int 0, .int 0, .int 0, .int 0, .int 0, .int 0]) E S (show s.heap.size + 120 = B + (n + 120) by omega) t_Message t_Message_ok i_Message rfl qw_74 qw_76 qw_77 (z_Message B) (Nat.le_of_ble_eq_true rfl) (Nat.le_of_ble_eq_true rfl) eg_102 d_Arc_init_81 (fun H S => ?_)
  refine W.widen (k := 121) (n := 2739) (Nat.le_of_ble_eq_true rfl) (Nat.le_of_ble_eq_true rfl) ?_
  refine W.eq (g2 := F0 m 84 ls [.ref (B + (n + 120)), .int 11, m_r B v_101]) rfl ?_
  refine lv_dup hx hb d_Arc_init_84 rfl ?_
  replace hF := m_bd_inv hF
  obtain ⟨v_104, g_103, eg_103, hF⟩ := hF
  refine m_callI (B := B) (nn := 0) (b := (n + 120)) (As := []) (rest := [.ref (B + (n + 120)), .int 11, m_r B v_101]) (v := none) E S (show s.heap.size + 121 = B + (n + 121) by omega) (c_Message_init l D B K (n + 121) g_102 (n + 120) v_104 g_103 eg_103) qc_Message_init ⟨rfl, rfl⟩ (Or.inr ⟨_, qn_9⟩) qw_78 qw_77 rfl (by decide +kernel) ⟨Nat.le_of_ble_eq_true rfl, Nat.le_of_ble_eq_true rfl⟩ rfl hl.1 (by simp only [List.map_cons, List.map_nil, m_r_cat]; exact Nat.le_of_ble_eq_true rfl) d_Arc_init_85 ⟨Nat.le_of_ble_eq_true rfl, Nat.le_of_ble_eq_true rfl⟩ (fun H locs S => ?_)
  refine W.widen (k := 124) (n := 2843) (Nat.le_of_ble_eq_true rfl) (Nat.le_of_ble_eq_true rfl) ?_
  refine W.eq (g2 := F0 m 88 ls [.ref (B + (n + 120)), .int 11, m_r B v_101]) rfl ?_
  replace hF := Option.bind_eq_some_iff.mp hF
  obtain ⟨a_105, ea_105, hF⟩ := hF
  subst ea_105
  replace hF := Option.bind_eq_some_iff.mp hF
  obtain ⟨g_106, eg_106, hF⟩ := hF
  refine m_aast (B := B) (a := a_105) (v := (n + 120)) (t := 5) (ci := 4) (r := (R_Message, F_Message, 9)) E S rfl rfl eg_106 d_Arc_init_88 (fun H locs S => ?_)
  refine lv_iinc (v := 12) (lv' := [(1, .int 12), (0, .ref (B + a0))]) hx hb d_Arc_init_89 hl (k := 0) rfl (by decide) (by decide) rfl (fun ls hl => ?_)
  refine lv_goto (tgt := 70) hx hb d_Arc_init_92 (by decide) ?_
  refine lv_iload_n hx hb d_Arc_init_70 rfl (lv_at hl 0 rfl) ?_
  refine lv_bipush (v := 12) hx hb d_Arc_init_71 (by decide) ?_
  refine lv_icmp_ge (tgt := 95) hx hb d_Arc_init_73 (by decide) (fun c_107 => ?_) (fun c_107 => absurd (by decide) c_107)
  refine lv_aload_n hx hb d_Arc_init_95 rfl (lv_at hl 1 rfl) ?_
  refine lv_bipush (v := 12) hx hb d_Arc_init_96 (by decide) ?_
  replace hF := Option.bind_eq_some_iff.mp hF
  obtain ⟨g_108, eg_108, hF⟩ := hF
  refine m_newa (B := B) (atype := .int) (t := 0) (N := 12) (a0 := (12, .inl (fun _ => 0))) E S (show s.heap.size + 124 = B + (n + 124) by omega) qw_14 rfl (fun _ => rfl) rfl (by decide) (by decide) (Nat.le_of_ble_eq_true rfl) (Nat.le_of_ble_eq_true rfl) (Nat.le_of_ble_eq_true rfl) eg_108 d_Arc_init_98 (fun H S => ?_)
  refine W.widen (k := 125) (n := 2855) (Nat.le_of_ble_eq_true rfl) (Nat.le_of_ble_eq_true rfl) ?_
  refine W.eq (g2 := F0 m 100 ls [.ref (B + (n + 124)), .ref (B + a0)]) rfl ?_
  replace hF := Option.bind_eq_some_iff.mp hF
  obtain ⟨g_109, eg_109, hF⟩ := hF
  refine m_putFR (B := B) (a := a0) (x := (some (n + 124))) E S fd_Arc_order (Or.inr ⟨_, rfl⟩) hin qw_79 eg_109 d_Arc_init_100 (fun H locs S => ?_)
  refine lv_aload_n hx hb d_Arc_init_103 rfl (lv_at hl 1 rfl) ?_
  refine lv_iconst (v := 0) hx hb d_Arc_init_104 (by decide) ?_
  replace hF := Option.bind_eq_some_iff.mp hF
  obtain ⟨g_110, eg_110, hF⟩ := hF
  refine m_putI (B := B) (a := a0) E S fd_Arc_messageCount (Or.inl qw_80) eg_110 d_Arc_init_105 (fun H locs S => ?_)
  refine lv_aload_n hx hb d_Arc_init_108 rfl (lv_at hl 1 rfl) ?_
  refine lv_iconst (v := 0) hx hb d_Arc_init_109 (by decide) ?_
  replace hF := Option.bind_eq_some_iff.mp hF
  obtain ⟨g_111, eg_111, hF⟩ := hF
  refine m_putI (B := B) (a := a0) E S fd_Arc_found (Or.inl qw_81) eg_111 d_Arc_init_110 (fun H locs S => ?_)
  refine lv_aload_n hx hb d_Arc_init_113 rfl (lv_at hl 1 rfl) ?_
  refine lv_iconst (v := (-1)) hx hb d_Arc_init_114 (by decide) ?_
  replace hF := Option.bind_eq_some_iff.mp hF
  obtain ⟨g_112, eg_112, hF⟩ := hF
  refine m_putI (B := B) (a := a0) E S fd_Arc_errorPlace (Or.inl qw_82) eg_112 d_Arc_init_115 (fun H locs S => ?_)
  cases hF
  skip
  exact m_vret E S (show s.heap.size + 125 = B + (n + 125) by omega) hr hlk d_Arc_init_118
def f_Line_put  (g : m_G) (a0 : Nat) (x1 : Int32) : Option (Int32 × m_G) :=
  (m_gI g a0 1 1).bind fun v_1 =>
  if (v_1 : Int32) < 40 then
    (m_gR g a0 1 0).bind fun v_3 =>
    (m_gI g a0 1 1).bind fun v_4 =>
    Option.bind v_3 fun a_5 =>
    (m_st g a_5 1 v_4 (vp_nar .char x1)).bind fun g_6 =>
    (m_gI g_6 a0 1 1).bind fun v_7 =>
    (m_pI g_6 a0 1 1 (v_7 + 1)).bind fun g_8 =>
    some (1, g_8)
  else
    some (0, g)
set_option maxHeartbeats 1000000 in
set_option maxRecDepth 100000 in
theorem c_Line_put (l : Launch) (D : va_G) (B : Nat) (K : Nat → ClassId)  (n : Nat) (g : m_G) (a0 : Nat) (x1 : Int32) (r : Int32) (g' : m_G) (hF : f_Line_put g a0 x1 = some (r, g')) : Met l y_Line_put (Cond.code y_Line_put b_Line_put 2 (some .boolean) :: m_TB) ({ frames := 0, cells := 0, slots := 0, locals := 0 } : Room) (m_Pc D B K n g [.ref (B + a0), .int x1]) (m_Q D B K (some (.int r)) n g') 0 0 (fun q => B ≤ q) := by
  refine m_met (by decide) (Nat.le_of_ble_eq_true rfl) ?_
  intro p e s m args below meth c ls E hr hlk hin hsz S hl
  have E : m_V p m c b_Line_put 2 s args R_Line D K := E
  have hz : s.heap.size + 0 = B + n := hsz
  have hl : lv_has ls 2 [(0, .ref (B + a0)), (1, .int x1)] := hl
  have hx := E.1.1
  have hb := E.1.2.1
  have hts := E.1.2.2.2.2
  unfold f_Line_put at hF
  refine lv_aload_n hx hb d_Line_put_0 rfl (lv_at hl 0 rfl) ?_
  replace hF := Option.bind_eq_some_iff.mp hF
  obtain ⟨v_1, ev_1, hF⟩ := hF
  refine m_getI (B := B) (a := a0) E S fd_Line_length (Or.inl qw_5) ev_1 d_Line_put_1 ?_
  refine lv_bipush (v := 40) hx hb d_Line_put_4 (by decide) ?_
  refine lv_icmp_lt (tgt := 11) hx hb d_Line_put_6 (by decide) (fun c_2 => ?_) (fun c_2 => ?_)
  · rw [if_pos c_2] at hF
    refine lv_aload_n hx hb d_Line_put_11 rfl (lv_at hl 0 rfl) ?_
    replace hF := Option.bind_eq_some_iff.mp hF
    obtain ⟨v_3, ev_3, hF⟩ := hF
    refine m_getR (B := B) (a := a0) E S fd_Line_characters (Or.inl qw_4) ev_3 d_Line_put_12 ?_
    refine lv_aload_n hx hb d_Line_put_15 rfl (lv_at hl 0 rfl) ?_
    replace hF := Option.bind_eq_some_iff.mp hF
    obtain ⟨v_4, ev_4, hF⟩ := hF
    refine m_getI (B := B) (a := a0) E S fd_Line_length (Or.inl qw_5) ev_4 d_Line_put_16 ?_
    refine lv_iload_n hx hb d_Line_put_19 rfl (lv_at hl 1 rfl) ?_
    replace hF := Option.bind_eq_some_iff.mp hF
    obtain ⟨a_5, ea_5, hF⟩ := hF
    subst ea_5
    replace hF := Option.bind_eq_some_iff.mp hF
    obtain ⟨g_6, eg_6, hF⟩ := hF
    refine m_cast (B := B) (a := a_5) (t := 1) E S rfl eg_6 d_Line_put_20 (fun H locs S => ?_)
    refine lv_aload_n hx hb d_Line_put_21 rfl (lv_at hl 0 rfl) ?_
    refine lv_dup hx hb d_Line_put_22 rfl ?_
    replace hF := Option.bind_eq_some_iff.mp hF
    obtain ⟨v_7, ev_7, hF⟩ := hF
    refine m_getI (B := B) (a := a0) E S fd_Line_length (Or.inl qw_5) ev_7 d_Line_put_23 ?_
    refine lv_iconst (v := 1) hx hb d_Line_put_26 (by decide) ?_
    refine lv_iadd hx hb d_Line_put_27 ?_
    replace hF := Option.bind_eq_some_iff.mp hF
    obtain ⟨g_8, eg_8, hF⟩ := hF
    refine m_putI (B := B) (a := a0) E S fd_Line_length (Or.inl qw_5) eg_8 d_Line_put_28 (fun H locs S => ?_)
    refine lv_iconst (v := 1) hx hb d_Line_put_31 (by decide) ?_
    cases hF
    exact m_zret E S hz hr hlk (by decide) d_Line_put_32
  · rw [if_neg c_2] at hF
    refine lv_iconst (v := 0) hx hb d_Line_put_9 (by decide) ?_
    cases hF
    exact m_zret E S hz hr hlk (by decide) d_Line_put_10
section S_Arc_type
variable {p : Program} {l : Launch} {e : Env} {s : State} {m : MethodId} {args : Array Value} {below : List Frame} {meth : Method} {c : Code} {D : va_G} {B n : Nat} {K : Nat → ClassId}
def f_Arc_type_11   (g : m_G)  : Option (Int32 × m_G) :=
  some ((-1), g)
set_option maxHeartbeats 1000000 in
set_option maxRecDepth 100000 in
theorem c_Arc_type_11 (E : m_V p m c b_Arc_type 2 s args R_Arc D K) (hr : meth.sig.returnType = (some .int)) (hlk : meth.locks = false) (hz : s.heap.size + 0 = B + n)   : ∀ (g : m_G)  (r : Int32) (g' : m_G), f_Arc_type_11 g  = some (r, g') → ∀ (H : Heap) (locs : List Loc), m_S D B K n g s.heap H locs → ∀ ls : Array Slot, lv_has ls 2 [] → W p l e ({ frames := 1, cells := 0, slots := 0, locals := 21 } : Room) s m args below meth c H locs 0 0 (MQ below (m_Q D B K (some (.int r)) n g') args s 0 0 (fun q => B ≤ q)) (F0 m 11 ls []) := by
  have hx := E.1.1
  have hb := E.1.2.1
  have hts := E.1.2.2.2.2
  intro g  r g' hF H locs S ls hl
  unfold f_Arc_type_11 at hF
  refine lv_iconst (v := (-1)) hx hb d_Arc_type_11 (by decide) ?_
  cases hF
  exact m_iret E S hz hr hlk d_Arc_type_12
def f_Arc_type_37   (g : m_G) (y0 : Int32) : Option (Int32 × m_G) :=
  some (y0, g)
set_option maxHeartbeats 1000000 in
set_option maxRecDepth 100000 in
theorem c_Arc_type_37 (E : m_V p m c b_Arc_type 2 s args R_Arc D K) (hr : meth.sig.returnType = (some .int)) (hlk : meth.locks = false) (hz : s.heap.size + 0 = B + n)   : ∀ (g : m_G) (y0 : Int32) (r : Int32) (g' : m_G), f_Arc_type_37 g y0 = some (r, g') → ∀ (H : Heap) (locs : List Loc), m_S D B K n g s.heap H locs → ∀ ls : Array Slot, lv_has ls 2 [] → W p l e ({ frames := 1, cells := 0, slots := 0, locals := 21 } : Room) s m args below meth c H locs 0 0 (MQ below (m_Q D B K (some (.int r)) n g') args s 0 0 (fun q => B ≤ q)) (F0 m 37 ls [.int y0]) := by
  have hx := E.1.1
  have hb := E.1.2.1
  have hts := E.1.2.2.2.2
  intro g y0 r g' hF H locs S ls hl
  unfold f_Arc_type_37 at hF
  cases hF
  exact m_iret E S hz hr hlk d_Arc_type_37
end S_Arc_type
def f_Arc_type  (g : m_G) (a0 : Nat) (x1 : Int32) : Option (Int32 × m_G) :=
  if (x1 : Int32) < 0 then
    f_Arc_type_11 g 
  else
    if (x1 : Int32) < 256 then
      (m_gR g a0 0 0).bind fun v_3 =>
      Option.bind v_3 fun a_4 =>
      m_gd (m_is g a_4 1) <|
      m_bd (f_Line_put g a_4 (((x1 : Int32).toUInt32 % 65536).toInt32)) fun v_6 g_5 =>
      if (v_6 : Int32) = 0 then
        f_Arc_type_37 g_5 (-2)
      else
        (m_gR g_5 a0 0 0).bind fun v_8 =>
        Option.bind v_8 fun a_9 =>
        (m_gI g_5 a_9 1 1).bind fun v_10 =>
        f_Arc_type_37 g_5 v_10
    else
      f_Arc_type_11 g 
set_option maxHeartbeats 1000000 in
set_option maxRecDepth 100000 in
theorem c_Arc_type (l : Launch) (D : va_G) (B : Nat) (K : Nat → ClassId)  (n : Nat) (g : m_G) (a0 : Nat) (x1 : Int32) (r : Int32) (g' : m_G) (hF : f_Arc_type g a0 x1 = some (r, g')) : Met l y_Arc_type (Cond.code y_Arc_type b_Arc_type 2 (some .int) :: m_TB) ({ frames := 1, cells := 0, slots := 0, locals := 21 } : Room) (m_Pc D B K n g [.ref (B + a0), .int x1]) (m_Q D B K (some (.int r)) n g') 0 0 (fun q => B ≤ q) := by
  refine m_met (by decide) (Nat.le_of_ble_eq_true rfl) ?_
  intro p e s m args below meth c ls E hr hlk hin hsz S hl
  have E : m_V p m c b_Arc_type 2 s args R_Arc D K := E
  have hz : s.heap.size + 0 = B + n := hsz
  have hl : lv_has ls 2 [(0, .ref (B + a0)), (1, .int x1)] := hl
  have hx := E.1.1
  have hb := E.1.2.1
  have hts := E.1.2.2.2.2
  unfold f_Arc_type at hF
  refine lv_iload_n hx hb d_Arc_type_0 rfl (lv_at hl 1 rfl) ?_
  refine lv_if_lt (tgt := 11) hx hb d_Arc_type_1 (by decide) (fun c_1 => ?_) (fun c_1 => ?_)
  · rw [if_pos c_1] at hF
    exact c_Arc_type_11 E hr hlk hz _ _ _ hF _ _ S _ (lv_sub hl [] rfl)
  · rw [if_neg c_1] at hF
    refine lv_iload_n hx hb d_Arc_type_4 rfl (lv_at hl 1 rfl) ?_
    refine lv_sipush (v := 256) hx hb d_Arc_type_5 (by decide) ?_
    refine lv_icmp_lt (tgt := 13) hx hb d_Arc_type_8 (by decide) (fun c_2 => ?_) (fun c_2 => ?_)
    · rw [if_pos c_2] at hF
      refine lv_aload_n hx hb d_Arc_type_13 rfl (lv_at hl 0 rfl) ?_
      replace hF := Option.bind_eq_some_iff.mp hF
      obtain ⟨v_3, ev_3, hF⟩ := hF
      refine m_getR (B := B) (a := a0) E S fd_Arc_line (Or.inl qw_54) ev_3 d_Arc_type_14 ?_
      refine lv_iload_n hx hb d_Arc_type_17 rfl (lv_at hl 1 rfl) ?_
      refine lv_i2c hx hb d_Arc_type_18 rfl ?_
      replace hF := Option.bind_eq_some_iff.mp hF
      obtain ⟨a_4, ea_4, hF⟩ := hF
      subst ea_4
      replace hF := m_gd_inv hF
      obtain ⟨eog_5, hF⟩ := hF
      replace hF := m_bd_inv hF
      obtain ⟨v_6, g_5, eg_5, hF⟩ := hF
      refine m_callV (B := B) (nn := 1) (b := a_4) (As := [.int (((x1 : Int32).toUInt32 % 65536).toInt32)]) (rest := []) (v := (some (.int v_6))) E S hz (c_Line_put l D B K n g a_4 (((x1 : Int32).toUInt32 % 65536).toInt32) v_6 g_5 eg_5) qc_Line_put ⟨rfl, rfl⟩ (Or.inr ⟨_, qn_10⟩) qw_83 qw_84 qw_11 (by decide +kernel) ⟨Nat.le_of_ble_eq_true rfl, Nat.le_of_ble_eq_true rfl⟩ eog_5 rfl rfl hl.1 (Nat.le_of_ble_eq_true rfl) d_Arc_type_19 ⟨Nat.le_of_ble_eq_true rfl, Nat.le_of_ble_eq_true rfl⟩ (fun H locs S => ?_)
      refine W.eq (g2 := F0 m 22 ls [.int v_6]) rfl ?_
      refine lv_if_eq (tgt := 35) hx hb d_Arc_type_22 (by decide) (fun c_7 => ?_) (fun c_7 => ?_)
      · rw [if_pos c_7] at hF
        refine lv_bipush (v := (-2)) hx hb d_Arc_type_35 (by decide) ?_
        exact c_Arc_type_37 E hr hlk hz _ _ _ _ hF _ _ S _ (lv_sub hl [] rfl)
      · rw [if_neg c_7] at hF
        refine lv_aload_n hx hb d_Arc_type_25 rfl (lv_at hl 0 rfl) ?_
        replace hF := Option.bind_eq_some_iff.mp hF
        obtain ⟨v_8, ev_8, hF⟩ := hF
        refine m_getR (B := B) (a := a0) E S fd_Arc_line (Or.inl qw_54) ev_8 d_Arc_type_26 ?_
        replace hF := Option.bind_eq_some_iff.mp hF
        obtain ⟨a_9, ea_9, hF⟩ := hF
        subst ea_9
        replace hF := Option.bind_eq_some_iff.mp hF
        obtain ⟨v_10, ev_10, hF⟩ := hF
        refine m_getI (B := B) (a := a_9) E S fd_Line_length (Or.inr ⟨_, qn_11⟩) ev_10 d_Arc_type_29 ?_
        refine lv_goto (tgt := 37) hx hb d_Arc_type_32 (by decide) ?_
        exact c_Arc_type_37 E hr hlk hz _ _ _ _ hF _ _ S _ (lv_sub hl [] rfl)
    · rw [if_neg c_2] at hF
      exact c_Arc_type_11 E hr hlk hz _ _ _ hF _ _ S _ (lv_sub hl [] rfl)
def f_Line_copyFrom  (g : m_G) (a0 : Nat) (r1 : Option Nat) : Option (Unit × m_G) :=
  Option.bind r1 fun a_1 =>
  (m_gR g a_1 1 0).bind fun v_2 =>
  (m_gR g a0 1 0).bind fun v_3 =>
  Option.bind v_2 fun a_4 =>
  Option.bind v_3 fun a_5 =>
  (m_cpy g a_4 a_5 1 .char 0 0 40).bind fun g_6 =>
  (m_gI g_6 a_1 1 1).bind fun v_7 =>
  (m_pI g_6 a0 1 1 v_7).bind fun g_8 =>
  some ((), g_8)
set_option maxHeartbeats 1000000 in
set_option maxRecDepth 100000 in
theorem c_Line_copyFrom (l : Launch) (D : va_G) (B : Nat) (K : Nat → ClassId)  (n : Nat) (g : m_G) (a0 : Nat) (r1 : Option Nat) (r : Unit) (g' : m_G) (hF : f_Line_copyFrom g a0 r1 = some (r, g')) : Met l y_Line_copyFrom (Cond.code y_Line_copyFrom b_Line_copyFrom 2 none :: m_TB) ({ frames := 1, cells := 0, slots := 0, locals := 60 } : Room) (m_Pc D B K n g [.ref (B + a0), m_r B r1]) (m_Q D B K none n g') 0 0 (fun q => B ≤ q) := by
  refine m_met (by decide) (by simp only [lg_sl, List.flatMap_cons, List.flatMap_nil, m_r_cat]; exact Nat.le_of_ble_eq_true rfl) ?_
  intro p e s m args below meth c ls E hr hlk hin hsz S hl
  have E : m_V p m c b_Line_copyFrom 2 s args R_Line D K := E
  have hz : s.heap.size + 0 = B + n := hsz
  have hl : lv_has ls 2 [(0, .ref (B + a0)), (1, m_r B r1)] := by simp only [lv_args, m_r_cat] at hl; exact hl
  have hx := E.1.1
  have hb := E.1.2.1
  have hts := E.1.2.2.2.2
  unfold f_Line_copyFrom at hF
  refine m_aload_n (B := B) (r := r1) E d_Line_copyFrom_0 rfl (lv_at hl 1 rfl) ?_
  replace hF := Option.bind_eq_some_iff.mp hF
  obtain ⟨a_1, ea_1, hF⟩ := hF
  subst ea_1
  replace hF := Option.bind_eq_some_iff.mp hF
  obtain ⟨v_2, ev_2, hF⟩ := hF
  refine m_getR (B := B) (a := a_1) E S fd_Line_characters (Or.inl qw_4) ev_2 d_Line_copyFrom_1 ?_
  refine lv_iconst (v := 0) hx hb d_Line_copyFrom_4 (by decide) ?_
  refine lv_aload_n hx hb d_Line_copyFrom_5 rfl (lv_at hl 0 rfl) ?_
  replace hF := Option.bind_eq_some_iff.mp hF
  obtain ⟨v_3, ev_3, hF⟩ := hF
  refine m_getR (B := B) (a := a0) E S fd_Line_characters (Or.inl qw_4) ev_3 d_Line_copyFrom_6 ?_
  refine lv_iconst (v := 0) hx hb d_Line_copyFrom_9 (by decide) ?_
  refine lv_bipush (v := 40) hx hb d_Line_copyFrom_10 (by decide) ?_
  replace hF := Option.bind_eq_some_iff.mp hF
  obtain ⟨a_4, ea_4, hF⟩ := hF
  subst ea_4
  replace hF := Option.bind_eq_some_iff.mp hF
  obtain ⟨a_5, ea_5, hF⟩ := hF
  subst ea_5
  replace hF := Option.bind_eq_some_iff.mp hF
  obtain ⟨g_6, eg_6, hF⟩ := hF
  refine m_copy (B := B) (a0 := a_4) (a := a_5) (t := 1) (ty := .char) E hl.1 S rfl rfl qw_85 qw_86 qw_87 qw_88 (Nat.le_of_ble_eq_true rfl) (Nat.le_of_ble_eq_true rfl) eg_6 d_Line_copyFrom_12 (fun H locs S => ?_)
  refine lv_aload_n hx hb d_Line_copyFrom_15 rfl (lv_at hl 0 rfl) ?_
  refine m_aload_n (B := B) (r := (some a_1)) E d_Line_copyFrom_16 rfl (lv_at hl 1 rfl) ?_
  replace hF := Option.bind_eq_some_iff.mp hF
  obtain ⟨v_7, ev_7, hF⟩ := hF
  refine m_getI (B := B) (a := a_1) E S fd_Line_length (Or.inl qw_5) ev_7 d_Line_copyFrom_17 ?_
  replace hF := Option.bind_eq_some_iff.mp hF
  obtain ⟨g_8, eg_8, hF⟩ := hF
  refine m_putI (B := B) (a := a0) E S fd_Line_length (Or.inl qw_5) eg_8 d_Line_copyFrom_20 (fun H locs S => ?_)
  cases hF
  skip
  exact m_vret E S hz hr hlk d_Line_copyFrom_23
def f_Draft_take  (g : m_G) (a0 : Nat) (r1 : Option Nat) : Option (Int32 × m_G) :=
  (m_gI g a0 2 1).bind fun v_1 =>
  if (v_1 : Int32) < 30 then
    (m_gR g a0 2 0).bind fun v_3 =>
    (m_gI g a0 2 1).bind fun v_4 =>
    Option.bind v_3 fun a_5 =>
    (m_ldR g a_5 4 v_4).bind fun v_6 =>
    Option.bind v_6 fun a_7 =>
    m_gd (m_is g a_7 1) <|
    m_bd (f_Line_copyFrom g a_7 r1) fun v_9 g_8 =>
    (m_gI g_8 a0 2 1).bind fun v_10 =>
    (m_pI g_8 a0 2 1 (v_10 + 1)).bind fun g_11 =>
    some (1, g_11)
  else
    some (0, g)
set_option maxHeartbeats 1000000 in
set_option maxRecDepth 100000 in
theorem c_Draft_take (l : Launch) (D : va_G) (B : Nat) (K : Nat → ClassId)  (n : Nat) (g : m_G) (a0 : Nat) (r1 : Option Nat) (r : Int32) (g' : m_G) (hF : f_Draft_take g a0 r1 = some (r, g')) : Met l y_Draft_take (Cond.code y_Draft_take b_Draft_take 2 (some .boolean) :: m_TB) ({ frames := 2, cells := 0, slots := 0, locals := 81 } : Room) (m_Pc D B K n g [.ref (B + a0), m_r B r1]) (m_Q D B K (some (.int r)) n g') 0 0 (fun q => B ≤ q) := by
  refine m_met (by decide) (by simp only [lg_sl, List.flatMap_cons, List.flatMap_nil, m_r_cat]; exact Nat.le_of_ble_eq_true rfl) ?_
  intro p e s m args below meth c ls E hr hlk hin hsz S hl
  have E : m_V p m c b_Draft_take 2 s args R_Draft D K := E
  have hz : s.heap.size + 0 = B + n := hsz
  have hl : lv_has ls 2 [(0, .ref (B + a0)), (1, m_r B r1)] := by simp only [lv_args, m_r_cat] at hl; exact hl
  have hx := E.1.1
  have hb := E.1.2.1
  have hts := E.1.2.2.2.2
  unfold f_Draft_take at hF
  refine lv_aload_n hx hb d_Draft_take_0 rfl (lv_at hl 0 rfl) ?_
  replace hF := Option.bind_eq_some_iff.mp hF
  obtain ⟨v_1, ev_1, hF⟩ := hF
  refine m_getI (B := B) (a := a0) E S fd_Draft_size (Or.inl qw_9) ev_1 d_Draft_take_1 ?_
  refine lv_bipush (v := 30) hx hb d_Draft_take_4 (by decide) ?_
  refine lv_icmp_lt (tgt := 11) hx hb d_Draft_take_6 (by decide) (fun c_2 => ?_) (fun c_2 => ?_)
  · rw [if_pos c_2] at hF
    refine lv_aload_n hx hb d_Draft_take_11 rfl (lv_at hl 0 rfl) ?_
    replace hF := Option.bind_eq_some_iff.mp hF
    obtain ⟨v_3, ev_3, hF⟩ := hF
    refine m_getR (B := B) (a := a0) E S fd_Draft_lines (Or.inl qw_8) ev_3 d_Draft_take_12 ?_
    refine lv_aload_n hx hb d_Draft_take_15 rfl (lv_at hl 0 rfl) ?_
    replace hF := Option.bind_eq_some_iff.mp hF
    obtain ⟨v_4, ev_4, hF⟩ := hF
    refine m_getI (B := B) (a := a0) E S fd_Draft_size (Or.inl qw_9) ev_4 d_Draft_take_16 ?_
    replace hF := Option.bind_eq_some_iff.mp hF
    obtain ⟨a_5, ea_5, hF⟩ := hF
    subst ea_5
    replace hF := Option.bind_eq_some_iff.mp hF
    obtain ⟨v_6, ev_6, hF⟩ := hF
    refine m_aald (B := B) (a := a_5) (t := 4) E S rfl ev_6 d_Draft_take_19 ?_
    refine m_aload_n (B := B) (r := r1) E d_Draft_take_20 rfl (lv_at hl 1 rfl) ?_
    replace hF := Option.bind_eq_some_iff.mp hF
    obtain ⟨a_7, ea_7, hF⟩ := hF
    subst ea_7
    replace hF := m_gd_inv hF
    obtain ⟨eog_8, hF⟩ := hF
    replace hF := m_bd_inv hF
    obtain ⟨v_9, g_8, eg_8, hF⟩ := hF
    refine m_callV (B := B) (nn := 1) (b := a_7) (As := [m_r B r1]) (rest := []) (v := none) E S hz (c_Line_copyFrom l D B K n g a_7 r1 v_9 g_8 eg_8) qc_Line_copyFrom ⟨rfl, rfl⟩ (Or.inr ⟨_, qn_12⟩) qw_89 qw_90 qw_11 (by decide +kernel) ⟨Nat.le_of_ble_eq_true rfl, Nat.le_of_ble_eq_true rfl⟩ eog_8 rfl rfl hl.1 (Nat.le_of_ble_eq_true rfl) d_Draft_take_21 ⟨Nat.le_of_ble_eq_true rfl, Nat.le_of_ble_eq_true rfl⟩ (fun H locs S => ?_)
    refine W.eq (g2 := F0 m 24 ls []) rfl ?_
    refine lv_aload_n hx hb d_Draft_take_24 rfl (lv_at hl 0 rfl) ?_
    refine lv_dup hx hb d_Draft_take_25 rfl ?_
    replace hF := Option.bind_eq_some_iff.mp hF
    obtain ⟨v_10, ev_10, hF⟩ := hF
    refine m_getI (B := B) (a := a0) E S fd_Draft_size (Or.inl qw_9) ev_10 d_Draft_take_26 ?_
    refine lv_iconst (v := 1) hx hb d_Draft_take_29 (by decide) ?_
    refine lv_iadd hx hb d_Draft_take_30 ?_
    replace hF := Option.bind_eq_some_iff.mp hF
    obtain ⟨g_11, eg_11, hF⟩ := hF
    refine m_putI (B := B) (a := a0) E S fd_Draft_size (Or.inl qw_9) eg_11 d_Draft_take_31 (fun H locs S => ?_)
    refine lv_iconst (v := 1) hx hb d_Draft_take_34 (by decide) ?_
    cases hF
    exact m_zret E S hz hr hlk (by decide) d_Draft_take_35
  · rw [if_neg c_2] at hF
    refine lv_iconst (v := 0) hx hb d_Draft_take_9 (by decide) ?_
    cases hF
    exact m_zret E S hz hr hlk (by decide) d_Draft_take_10
def f_Line_clear  (g : m_G) (a0 : Nat) : Option (Unit × m_G) :=
  (m_pI g a0 1 1 0).bind fun g_1 =>
  some ((), g_1)
set_option maxHeartbeats 1000000 in
set_option maxRecDepth 100000 in
theorem c_Line_clear (l : Launch) (D : va_G) (B : Nat) (K : Nat → ClassId)  (n : Nat) (g : m_G) (a0 : Nat) (r : Unit) (g' : m_G) (hF : f_Line_clear g a0 = some (r, g')) : Met l y_Line_clear (Cond.code y_Line_clear b_Line_clear 1 none :: m_TB) ({ frames := 0, cells := 0, slots := 0, locals := 0 } : Room) (m_Pc D B K n g [.ref (B + a0)]) (m_Q D B K none n g') 0 0 (fun q => B ≤ q) := by
  refine m_met (by decide) (Nat.le_of_ble_eq_true rfl) ?_
  intro p e s m args below meth c ls E hr hlk hin hsz S hl
  have E : m_V p m c b_Line_clear 1 s args R_Line D K := E
  have hz : s.heap.size + 0 = B + n := hsz
  have hl : lv_has ls 1 [(0, .ref (B + a0))] := hl
  have hx := E.1.1
  have hb := E.1.2.1
  have hts := E.1.2.2.2.2
  unfold f_Line_clear at hF
  refine lv_aload_n hx hb d_Line_clear_0 rfl (lv_at hl 0 rfl) ?_
  refine lv_iconst (v := 0) hx hb d_Line_clear_1 (by decide) ?_
  replace hF := Option.bind_eq_some_iff.mp hF
  obtain ⟨g_1, eg_1, hF⟩ := hF
  refine m_putI (B := B) (a := a0) E S fd_Line_length (Or.inl qw_5) eg_1 d_Line_clear_2 (fun H locs S => ?_)
  cases hF
  skip
  exact m_vret E S hz hr hlk d_Line_clear_5
