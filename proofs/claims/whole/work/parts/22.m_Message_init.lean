def f_Message_init (n : Nat)  (g : m_G) (a0 : Nat) : Option (Unit × m_G) :=
  (m_nw g n (.inl (0, 4, .inl (fun _ => 0)))).bind fun g_1 =>
  (m_pR g_1 a0 4 0 (some n)).bind fun g_2 =>
  (m_nw g_2 (n + 1) (.inl (2, 50, .inr (.inl (fun _ => 0))))).bind fun g_3 =>
  (m_pR g_3 a0 4 1 (some (n + 1))).bind fun g_4 =>
  (m_nw g_4 (n + 2) (.inl (0, 50, .inl (fun _ => 0)))).bind fun g_5 =>
  (m_pR g_5 a0 4 2 (some (n + 2))).bind fun g_6 =>
  (m_pZ g_6 a0 4 3 0).bind fun g_7 =>
  (m_pI g_7 a0 4 4 0).bind fun g_8 =>
  (m_pI g_8 a0 4 5 0).bind fun g_9 =>
  (m_pI g_9 a0 4 6 0).bind fun g_10 =>
  (m_pI g_10 a0 4 7 0).bind fun g_11 =>
  (m_pI g_11 a0 4 8 0).bind fun g_12 =>
  some ((), g_12)
set_option maxHeartbeats 1000000 in
set_option maxRecDepth 100000 in
theorem c_Message_init (l : Launch) (D : va_G) (B : Nat) (K : Nat → ClassId)  (n : Nat) (g : m_G) (a0 : Nat) (r : Unit) (g' : m_G) (hF : f_Message_init n g a0 = some (r, g')) : Met l y_Message_init (Cond.code y_Message_init b_Message_init 1 none :: m_TB) ({ frames := 1, cells := 3, slots := 104, locals := 20 } : Room) (m_Pc D B K n g [.ref (B + a0)]) (m_Q D B K none (n + 3) g') 3 104 (fun q => B ≤ q) := by
  refine m_met (by decide) (Nat.le_of_ble_eq_true rfl) ?_
  intro p e s m args below meth c ls E hr hlk hin hsz S hl
  have E : m_V p m c b_Message_init 1 s args R_Message D K := E
  have hz : s.heap.size + 0 = B + n := hsz
  have hl : lv_has ls 1 [(0, .ref (B + a0))] := hl
  have hx := E.1.1
  have hb := E.1.2.1
  have hts := E.1.2.2.2.2
  unfold f_Message_init at hF
  refine lv_aload_n hx hb d_Message_init_0 rfl (lv_at hl 0 rfl) ?_
  refine W.objInit hx hb E.1.2.2.2.1 (hts _ qw_13) (hts _ qw_1) (hts _ qw_2) rfl (hl.1.trans E.1.2.2.1.symm) rfl d_Message_init_1 (Nat.le_of_ble_eq_true rfl) (Nat.le_of_ble_eq_true rfl) ?_
  refine W.eq (g2 := F0 m 4 ls []) rfl ?_
  refine lv_aload_n hx hb d_Message_init_4 rfl (lv_at hl 0 rfl) ?_
  refine lv_iconst (v := 4) hx hb d_Message_init_5 (by decide) ?_
  replace hF := Option.bind_eq_some_iff.mp hF
  obtain ⟨g_1, eg_1, hF⟩ := hF
  refine m_newa (B := B) (atype := .int) (t := 0) (N := 4) (a0 := (4, .inl (fun _ => 0))) E S hz qw_14 rfl (fun _ => rfl) rfl (by decide) (by decide) (Nat.le_of_ble_eq_true rfl) (Nat.le_of_ble_eq_true rfl) (Nat.le_of_ble_eq_true rfl) eg_1 d_Message_init_6 (fun H S => ?_)
  refine W.widen (k := 1) (n := 4) (Nat.le_of_ble_eq_true rfl) (Nat.le_of_ble_eq_true rfl) ?_
  refine W.eq (g2 := F0 m 8 ls [.ref (B + n), .ref (B + a0)]) rfl ?_
  replace hF := Option.bind_eq_some_iff.mp hF
  obtain ⟨g_2, eg_2, hF⟩ := hF
  refine m_putFR (B := B) (a := a0) (x := (some n)) E S fd_Message_references (Or.inr ⟨_, rfl⟩) hin qw_15 eg_2 d_Message_init_8 (fun H locs S => ?_)
  refine lv_aload_n hx hb d_Message_init_11 rfl (lv_at hl 0 rfl) ?_
  refine lv_bipush (v := 50) hx hb d_Message_init_12 (by decide) ?_
  replace hF := Option.bind_eq_some_iff.mp hF
  obtain ⟨g_3, eg_3, hF⟩ := hF
  refine m_newa (B := B) (atype := .long) (t := 2) (N := 50) (a0 := (50, .inr (.inl (fun _ => 0)))) E S (show s.heap.size + 1 = B + (n + 1) by omega) qw_16 rfl (fun _ => rfl) rfl (by decide) (by decide) (Nat.le_of_ble_eq_true rfl) (Nat.le_of_ble_eq_true rfl) (Nat.le_of_ble_eq_true rfl) eg_3 d_Message_init_14 (fun H S => ?_)
  refine W.widen (k := 2) (n := 54) (Nat.le_of_ble_eq_true rfl) (Nat.le_of_ble_eq_true rfl) ?_
  refine W.eq (g2 := F0 m 16 ls [.ref (B + (n + 1)), .ref (B + a0)]) rfl ?_
  replace hF := Option.bind_eq_some_iff.mp hF
  obtain ⟨g_4, eg_4, hF⟩ := hF
  refine m_putFR (B := B) (a := a0) (x := (some (n + 1))) E S fd_Message_codes (Or.inr ⟨_, rfl⟩) hin qw_17 eg_4 d_Message_init_16 (fun H locs S => ?_)
  refine lv_aload_n hx hb d_Message_init_19 rfl (lv_at hl 0 rfl) ?_
  refine lv_bipush (v := 50) hx hb d_Message_init_20 (by decide) ?_
  replace hF := Option.bind_eq_some_iff.mp hF
  obtain ⟨g_5, eg_5, hF⟩ := hF
  refine m_newa (B := B) (atype := .int) (t := 0) (N := 50) (a0 := (50, .inl (fun _ => 0))) E S (show s.heap.size + 2 = B + (n + 2) by omega) qw_14 rfl (fun _ => rfl) rfl (by decide) (by decide) (Nat.le_of_ble_eq_true rfl) (Nat.le_of_ble_eq_true rfl) (Nat.le_of_ble_eq_true rfl) eg_5 d_Message_init_22 (fun H S => ?_)
  refine W.widen (k := 3) (n := 104) (Nat.le_of_ble_eq_true rfl) (Nat.le_of_ble_eq_true rfl) ?_
  refine W.eq (g2 := F0 m 24 ls [.ref (B + (n + 2)), .ref (B + a0)]) rfl ?_
  replace hF := Option.bind_eq_some_iff.mp hF
  obtain ⟨g_6, eg_6, hF⟩ := hF
  refine m_putFR (B := B) (a := a0) (x := (some (n + 2))) E S fd_Message_fields (Or.inr ⟨_, rfl⟩) hin qw_18 eg_6 d_Message_init_24 (fun H locs S => ?_)
  refine lv_aload_n hx hb d_Message_init_27 rfl (lv_at hl 0 rfl) ?_
  refine lv_iconst (v := 0) hx hb d_Message_init_28 (by decide) ?_
  replace hF := Option.bind_eq_some_iff.mp hF
  obtain ⟨g_7, eg_7, hF⟩ := hF
  refine m_putZ (B := B) (a := a0) E S fd_Message_there (Or.inl qw_19) eg_7 d_Message_init_29 (fun H locs S => ?_)
  refine lv_aload_n hx hb d_Message_init_32 rfl (lv_at hl 0 rfl) ?_
  refine lv_iconst (v := 0) hx hb d_Message_init_33 (by decide) ?_
  replace hF := Option.bind_eq_some_iff.mp hF
  obtain ⟨g_8, eg_8, hF⟩ := hF
  refine m_putI (B := B) (a := a0) E S fd_Message_id (Or.inl qw_20) eg_8 d_Message_init_34 (fun H locs S => ?_)
  refine lv_aload_n hx hb d_Message_init_37 rfl (lv_at hl 0 rfl) ?_
  refine lv_iconst (v := 0) hx hb d_Message_init_38 (by decide) ?_
  replace hF := Option.bind_eq_some_iff.mp hF
  obtain ⟨g_9, eg_9, hF⟩ := hF
  refine m_putI (B := B) (a := a0) E S fd_Message_referenceCount (Or.inl qw_21) eg_9 d_Message_init_39 (fun H locs S => ?_)
  refine lv_aload_n hx hb d_Message_init_42 rfl (lv_at hl 0 rfl) ?_
  refine lv_iconst (v := 0) hx hb d_Message_init_43 (by decide) ?_
  replace hF := Option.bind_eq_some_iff.mp hF
  obtain ⟨g_10, eg_10, hF⟩ := hF
  refine m_putI (B := B) (a := a0) E S fd_Message_wordCount (Or.inl qw_22) eg_10 d_Message_init_44 (fun H locs S => ?_)
  refine lv_aload_n hx hb d_Message_init_47 rfl (lv_at hl 0 rfl) ?_
  refine lv_iconst (v := 0) hx hb d_Message_init_48 (by decide) ?_
  replace hF := Option.bind_eq_some_iff.mp hF
  obtain ⟨g_11, eg_11, hF⟩ := hF
  refine m_putI (B := B) (a := a0) E S fd_Message_leaves (Or.inl qw_23) eg_11 d_Message_init_49 (fun H locs S => ?_)
  refine lv_aload_n hx hb d_Message_init_52 rfl (lv_at hl 0 rfl) ?_
  refine lv_iconst (v := 0) hx hb d_Message_init_53 (by decide) ?_
  replace hF := Option.bind_eq_some_iff.mp hF
  obtain ⟨g_12, eg_12, hF⟩ := hF
  refine m_putI (B := B) (a := a0) E S fd_Message_tags (Or.inl qw_24) eg_12 d_Message_init_54 (fun H locs S => ?_)
  cases hF
  skip
  exact m_vret E S (show s.heap.size + 3 = B + (n + 3) by omega) hr hlk d_Message_init_57
def f_Letters_init  (g : m_G) (a0 : Nat) : Option (Unit × m_G) :=
  (m_pL g a0 3 0 0).bind fun g_1 =>
  (m_pI g_1 a0 3 1 0).bind fun g_2 =>
  some ((), g_2)
set_option maxHeartbeats 1000000 in
set_option maxRecDepth 100000 in
theorem c_Letters_init (l : Launch) (D : va_G) (B : Nat) (K : Nat → ClassId)  (n : Nat) (g : m_G) (a0 : Nat) (r : Unit) (g' : m_G) (hF : f_Letters_init g a0 = some (r, g')) : Met l y_Letters_init (Cond.code y_Letters_init b_Letters_init 1 none :: m_TB) ({ frames := 1, cells := 0, slots := 0, locals := 20 } : Room) (m_Pc D B K n g [.ref (B + a0)]) (m_Q D B K none n g') 0 0 (fun q => B ≤ q) := by
  refine m_met (by decide) (Nat.le_of_ble_eq_true rfl) ?_
  intro p e s m args below meth c ls E hr hlk hin hsz S hl
  have E : m_V p m c b_Letters_init 1 s args R_Letters D K := E
  have hz : s.heap.size + 0 = B + n := hsz
  have hl : lv_has ls 1 [(0, .ref (B + a0))] := hl
  have hx := E.1.1
  have hb := E.1.2.1
  have hts := E.1.2.2.2.2
  unfold f_Letters_init at hF
  refine lv_aload_n hx hb d_Letters_init_0 rfl (lv_at hl 0 rfl) ?_
  refine W.objInit hx hb E.1.2.2.2.1 (hts _ qw_25) (hts _ qw_1) (hts _ qw_2) rfl (hl.1.trans E.1.2.2.1.symm) rfl d_Letters_init_1 (Nat.le_of_ble_eq_true rfl) (Nat.le_of_ble_eq_true rfl) ?_
  refine W.eq (g2 := F0 m 4 ls []) rfl ?_
  refine lv_aload_n hx hb d_Letters_init_4 rfl (lv_at hl 0 rfl) ?_
  refine lv_lconst (v := 0) hx hb d_Letters_init_5 (by decide) ?_
  replace hF := Option.bind_eq_some_iff.mp hF
  obtain ⟨g_1, eg_1, hF⟩ := hF
  refine m_putL (B := B) (a := a0) E S fd_Letters_code (Or.inl qw_26) eg_1 d_Letters_init_6 (fun H locs S => ?_)
  refine lv_aload_n hx hb d_Letters_init_9 rfl (lv_at hl 0 rfl) ?_
  refine lv_iconst (v := 0) hx hb d_Letters_init_10 (by decide) ?_
  replace hF := Option.bind_eq_some_iff.mp hF
  obtain ⟨g_2, eg_2, hF⟩ := hF
  refine m_putI (B := B) (a := a0) E S fd_Letters_number (Or.inl qw_27) eg_2 d_Letters_init_11 (fun H locs S => ?_)
  cases hF
  skip
  exact m_vret E S hz hr hlk d_Letters_init_14
def f_Reader_init (n : Nat)  (g : m_G) (a0 : Nat) : Option (Unit × m_G) :=
  (m_nw g n (.inr (3, [.long 0, .int 0]))).bind fun g_1 =>
  m_bd (f_Letters_init g_1 n) fun v_3 g_2 =>
  (m_pR g_2 a0 5 0 (some n)).bind fun g_4 =>
  (m_nw g_4 (n + 1) (.inr (1, [.null, .int 0]))).bind fun g_5 =>
  m_bd (f_Line_init (n + 2) g_5 (n + 1)) fun v_7 g_6 =>
  (m_pR g_6 a0 5 1 (some (n + 1))).bind fun g_8 =>
  some ((), g_8)
set_option maxHeartbeats 1000000 in
set_option maxRecDepth 100000 in
theorem c_Reader_init (l : Launch) (D : va_G) (B : Nat) (K : Nat → ClassId)  (n : Nat) (g : m_G) (a0 : Nat) (r : Unit) (g' : m_G) (hF : f_Reader_init n g a0 = some (r, g')) : Met l y_Reader_init (Cond.code y_Reader_init b_Reader_init 1 none :: m_TB) ({ frames := 2, cells := 3, slots := 44, locals := 40 } : Room) (m_Pc D B K n g [.ref (B + a0)]) (m_Q D B K none (n + 3) g') 3 44 (fun q => B ≤ q) := by
  refine m_met (by decide) (Nat.le_of_ble_eq_true rfl) ?_
  intro p e s m args below meth c ls E hr hlk hin hsz S hl
  have E : m_V p m c b_Reader_init 1 s args R_Reader D K := E
  have hz : s.heap.size + 0 = B + n := hsz
  have hl : lv_has ls 1 [(0, .ref (B + a0))] := hl
  have hx := E.1.1
  have hb := E.1.2.1
  have hts := E.1.2.2.2.2
  unfold f_Reader_init at hF
  refine lv_aload_n hx hb d_Reader_init_0 rfl (lv_at hl 0 rfl) ?_
  refine W.objInit hx hb E.1.2.2.2.1 (hts _ qw_28) (hts _ qw_1) (hts _ qw_2) rfl (hl.1.trans E.1.2.2.1.symm) rfl d_Reader_init_1 (Nat.le_of_ble_eq_true rfl) (Nat.le_of_ble_eq_true rfl) ?_
  refine W.eq (g2 := F0 m 4 ls []) rfl ?_
  refine lv_aload_n hx hb d_Reader_init_4 rfl (lv_at hl 0 rfl) ?_
  replace hF := Option.bind_eq_some_iff.mp hF
  obtain ⟨g_1, eg_1, hF⟩ := hF
  refine m_new (B := B) (ci := 3) (fs := [.long 0, .int 0]) E S hz t_Letters t_Letters_ok i_Letters rfl qw_29 qw_30 qw_31 (z_Letters B) (Nat.le_of_ble_eq_true rfl) (Nat.le_of_ble_eq_true rfl) eg_1 d_Reader_init_5 (fun H S => ?_)
  refine W.widen (k := 1) (n := 2) (Nat.le_of_ble_eq_true rfl) (Nat.le_of_ble_eq_true rfl) ?_
  refine W.eq (g2 := F0 m 8 ls [.ref (B + n), .ref (B + a0)]) rfl ?_
  refine lv_dup hx hb d_Reader_init_8 rfl ?_
  replace hF := m_bd_inv hF
  obtain ⟨v_3, g_2, eg_2, hF⟩ := hF
  refine m_callI (B := B) (nn := 0) (b := n) (As := []) (rest := [.ref (B + n), .ref (B + a0)]) (v := none) E S (show s.heap.size + 1 = B + (n + 1) by omega) (c_Letters_init l D B K (n + 1) g_1 n v_3 g_2 eg_2) qc_Letters_init ⟨rfl, rfl⟩ (Or.inr ⟨_, qn_1⟩) qw_32 qw_31 rfl (by decide +kernel) ⟨Nat.le_of_ble_eq_true rfl, Nat.le_of_ble_eq_true rfl⟩ rfl hl.1 (Nat.le_of_ble_eq_true rfl) d_Reader_init_9 ⟨Nat.le_of_ble_eq_true rfl, Nat.le_of_ble_eq_true rfl⟩ (fun H locs S => ?_)
  refine W.eq (g2 := F0 m 12 ls [.ref (B + n), .ref (B + a0)]) rfl ?_
  replace hF := Option.bind_eq_some_iff.mp hF
  obtain ⟨g_4, eg_4, hF⟩ := hF
  refine m_putFR (B := B) (a := a0) (x := (some n)) E S fd_Reader_letters (Or.inl ⟨_, rfl⟩) hin qw_33 eg_4 d_Reader_init_12 (fun H locs S => ?_)
  refine lv_aload_n hx hb d_Reader_init_15 rfl (lv_at hl 0 rfl) ?_
  replace hF := Option.bind_eq_some_iff.mp hF
  obtain ⟨g_5, eg_5, hF⟩ := hF
  refine m_new (B := B) (ci := 1) (fs := [.null, .int 0]) E S (show s.heap.size + 1 = B + (n + 1) by omega) t_Line t_Line_ok i_Line rfl qw_34 qw_10 qw_11 (z_Line B) (Nat.le_of_ble_eq_true rfl) (Nat.le_of_ble_eq_true rfl) eg_5 d_Reader_init_16 (fun H S => ?_)
  refine W.widen (k := 2) (n := 4) (Nat.le_of_ble_eq_true rfl) (Nat.le_of_ble_eq_true rfl) ?_
  refine W.eq (g2 := F0 m 19 ls [.ref (B + (n + 1)), .ref (B + a0)]) rfl ?_
  refine lv_dup hx hb d_Reader_init_19 rfl ?_
  replace hF := m_bd_inv hF
  obtain ⟨v_7, g_6, eg_6, hF⟩ := hF
  refine m_callI (B := B) (nn := 0) (b := (n + 1)) (As := []) (rest := [.ref (B + (n + 1)), .ref (B + a0)]) (v := none) E S (show s.heap.size + 2 = B + (n + 2) by omega) (c_Line_init l D B K (n + 2) g_5 (n + 1) v_7 g_6 eg_6) qc_Line_init ⟨rfl, rfl⟩ (Or.inr ⟨_, qn_2⟩) qw_12 qw_11 rfl (by decide +kernel) ⟨Nat.le_of_ble_eq_true rfl, Nat.le_of_ble_eq_true rfl⟩ rfl hl.1 (Nat.le_of_ble_eq_true rfl) d_Reader_init_20 ⟨Nat.le_of_ble_eq_true rfl, Nat.le_of_ble_eq_true rfl⟩ (fun H locs S => ?_)
  refine W.widen (k := 3) (n := 44) (Nat.le_of_ble_eq_true rfl) (Nat.le_of_ble_eq_true rfl) ?_
  refine W.eq (g2 := F0 m 23 ls [.ref (B + (n + 1)), .ref (B + a0)]) rfl ?_
  replace hF := Option.bind_eq_some_iff.mp hF
  obtain ⟨g_8, eg_8, hF⟩ := hF
  refine m_putFR (B := B) (a := a0) (x := (some (n + 1))) E S fd_Reader_decoded (Or.inl ⟨_, rfl⟩) hin qw_35 eg_8 d_Reader_init_23 (fun H locs S => ?_)
  cases hF
  skip
  exact m_vret E S (show s.heap.size + 3 = B + (n + 3) by omega) hr hlk d_Reader_init_26
def f_Query_init (n : Nat)  (g : m_G) (a0 : Nat) : Option (Unit × m_G) :=
  (m_nw g n (.inl (0, 7, .inl (fun _ => 0)))).bind fun g_1 =>
  (m_pR g_1 a0 7 0 (some n)).bind fun g_2 =>
  (m_nw g_2 (n + 1) (.inl (0, 7, .inl (fun _ => 0)))).bind fun g_3 =>
  (m_pR g_3 a0 7 1 (some (n + 1))).bind fun g_4 =>
  (m_nw g_4 (n + 2) (.inl (3, 7, .inl (fun _ => 0)))).bind fun g_5 =>
  (m_pR g_5 a0 7 2 (some (n + 2))).bind fun g_6 =>
  (m_nw g_6 (n + 3) (.inr (3, [.long 0, .int 0]))).bind fun g_7 =>
  m_bd (f_Letters_init g_7 (n + 3)) fun v_9 g_8 =>
  (m_pR g_8 a0 7 3 (some (n + 3))).bind fun g_10 =>
  (m_pI g_10 a0 7 4 0).bind fun g_11 =>
  (m_pI g_11 a0 7 5 0).bind fun g_12 =>
  (m_pI g_12 a0 7 6 (-1)).bind fun g_13 =>
  some ((), g_13)
set_option maxHeartbeats 1000000 in
set_option maxRecDepth 100000 in
theorem c_Query_init (l : Launch) (D : va_G) (B : Nat) (K : Nat → ClassId)  (n : Nat) (g : m_G) (a0 : Nat) (r : Unit) (g' : m_G) (hF : f_Query_init n g a0 = some (r, g')) : Met l y_Query_init (Cond.code y_Query_init b_Query_init 1 none :: m_TB) ({ frames := 2, cells := 4, slots := 23, locals := 40 } : Room) (m_Pc D B K n g [.ref (B + a0)]) (m_Q D B K none (n + 4) g') 4 23 (fun q => B ≤ q) := by
  refine m_met (by decide) (Nat.le_of_ble_eq_true rfl) ?_
  intro p e s m args below meth c ls E hr hlk hin hsz S hl
  have E : m_V p m c b_Query_init 1 s args R_Query D K := E
  have hz : s.heap.size + 0 = B + n := hsz
  have hl : lv_has ls 1 [(0, .ref (B + a0))] := hl
  have hx := E.1.1
  have hb := E.1.2.1
  have hts := E.1.2.2.2.2
  unfold f_Query_init at hF
  refine lv_aload_n hx hb d_Query_init_0 rfl (lv_at hl 0 rfl) ?_
  refine W.objInit hx hb E.1.2.2.2.1 (hts _ qw_36) (hts _ qw_1) (hts _ qw_2) rfl (hl.1.trans E.1.2.2.1.symm) rfl d_Query_init_1 (Nat.le_of_ble_eq_true rfl) (Nat.le_of_ble_eq_true rfl) ?_
  refine W.eq (g2 := F0 m 4 ls []) rfl ?_
  refine lv_aload_n hx hb d_Query_init_4 rfl (lv_at hl 0 rfl) ?_
  refine lv_bipush (v := 7) hx hb d_Query_init_5 (by decide) ?_
  replace hF := Option.bind_eq_some_iff.mp hF
  obtain ⟨g_1, eg_1, hF⟩ := hF
  refine m_newa (B := B) (atype := .int) (t := 0) (N := 7) (a0 := (7, .inl (fun _ => 0))) E S hz qw_14 rfl (fun _ => rfl) rfl (by decide) (by decide) (Nat.le_of_ble_eq_true rfl) (Nat.le_of_ble_eq_true rfl) (Nat.le_of_ble_eq_true rfl) eg_1 d_Query_init_7 (fun H S => ?_)
  refine W.widen (k := 1) (n := 7) (Nat.le_of_ble_eq_true rfl) (Nat.le_of_ble_eq_true rfl) ?_
  refine W.eq (g2 := F0 m 9 ls [.ref (B + n), .ref (B + a0)]) rfl ?_
  replace hF := Option.bind_eq_some_iff.mp hF
  obtain ⟨g_2, eg_2, hF⟩ := hF
  refine m_putFR (B := B) (a := a0) (x := (some n)) E S fd_Query_any (Or.inr ⟨_, rfl⟩) hin qw_37 eg_2 d_Query_init_9 (fun H locs S => ?_)
  refine lv_aload_n hx hb d_Query_init_12 rfl (lv_at hl 0 rfl) ?_
  refine lv_bipush (v := 7) hx hb d_Query_init_13 (by decide) ?_
  replace hF := Option.bind_eq_some_iff.mp hF
  obtain ⟨g_3, eg_3, hF⟩ := hF
  refine m_newa (B := B) (atype := .int) (t := 0) (N := 7) (a0 := (7, .inl (fun _ => 0))) E S (show s.heap.size + 1 = B + (n + 1) by omega) qw_14 rfl (fun _ => rfl) rfl (by decide) (by decide) (Nat.le_of_ble_eq_true rfl) (Nat.le_of_ble_eq_true rfl) (Nat.le_of_ble_eq_true rfl) eg_3 d_Query_init_15 (fun H S => ?_)
  refine W.widen (k := 2) (n := 14) (Nat.le_of_ble_eq_true rfl) (Nat.le_of_ble_eq_true rfl) ?_
  refine W.eq (g2 := F0 m 17 ls [.ref (B + (n + 1)), .ref (B + a0)]) rfl ?_
  replace hF := Option.bind_eq_some_iff.mp hF
  obtain ⟨g_4, eg_4, hF⟩ := hF
  refine m_putFR (B := B) (a := a0) (x := (some (n + 1))) E S fd_Query_all (Or.inr ⟨_, rfl⟩) hin qw_38 eg_4 d_Query_init_17 (fun H locs S => ?_)
  refine lv_aload_n hx hb d_Query_init_20 rfl (lv_at hl 0 rfl) ?_
  refine lv_bipush (v := 7) hx hb d_Query_init_21 (by decide) ?_
  replace hF := Option.bind_eq_some_iff.mp hF
  obtain ⟨g_5, eg_5, hF⟩ := hF
  refine m_newa (B := B) (atype := .boolean) (t := 3) (N := 7) (a0 := (7, .inl (fun _ => 0))) E S (show s.heap.size + 2 = B + (n + 2) by omega) qw_39 rfl (fun _ => rfl) rfl (by decide) (by decide) (Nat.le_of_ble_eq_true rfl) (Nat.le_of_ble_eq_true rfl) (Nat.le_of_ble_eq_true rfl) eg_5 d_Query_init_23 (fun H S => ?_)
  refine W.widen (k := 3) (n := 21) (Nat.le_of_ble_eq_true rfl) (Nat.le_of_ble_eq_true rfl) ?_
  refine W.eq (g2 := F0 m 25 ls [.ref (B + (n + 2)), .ref (B + a0)]) rfl ?_
  replace hF := Option.bind_eq_some_iff.mp hF
  obtain ⟨g_6, eg_6, hF⟩ := hF
  refine m_putFR (B := B) (a := a0) (x := (some (n + 2))) E S fd_Query_isNegated (Or.inr ⟨_, rfl⟩) hin qw_40 eg_6 d_Query_init_25 (fun H locs S => ?_)
  refine lv_aload_n hx hb d_Query_init_28 rfl (lv_at hl 0 rfl) ?_
  replace hF := Option.bind_eq_some_iff.mp hF
  obtain ⟨g_7, eg_7, hF⟩ := hF
  refine m_new (B := B) (ci := 3) (fs := [.long 0, .int 0]) E S (show s.heap.size + 3 = B + (n + 3) by omega) t_Letters t_Letters_ok i_Letters rfl qw_41 qw_30 qw_31 (z_Letters B) (Nat.le_of_ble_eq_true rfl) (Nat.le_of_ble_eq_true rfl) eg_7 d_Query_init_29 (fun H S => ?_)
  refine W.widen (k := 4) (n := 23) (Nat.le_of_ble_eq_true rfl) (Nat.le_of_ble_eq_true rfl) ?_
  refine W.eq (g2 := F0 m 32 ls [.ref (B + (n + 3)), .ref (B + a0)]) rfl ?_
  refine lv_dup hx hb d_Query_init_32 rfl ?_
  replace hF := m_bd_inv hF
  obtain ⟨v_9, g_8, eg_8, hF⟩ := hF
  refine m_callI (B := B) (nn := 0) (b := (n + 3)) (As := []) (rest := [.ref (B + (n + 3)), .ref (B + a0)]) (v := none) E S (show s.heap.size + 4 = B + (n + 4) by omega) (c_Letters_init l D B K (n + 4) g_7 (n + 3) v_9 g_8 eg_8) qc_Letters_init ⟨rfl, rfl⟩ (Or.inr ⟨_, qn_3⟩) qw_32 qw_31 rfl (by decide +kernel) ⟨Nat.le_of_ble_eq_true rfl, Nat.le_of_ble_eq_true rfl⟩ rfl hl.1 (Nat.le_of_ble_eq_true rfl) d_Query_init_33 ⟨Nat.le_of_ble_eq_true rfl, Nat.le_of_ble_eq_true rfl⟩ (fun H locs S => ?_)
  refine W.eq (g2 := F0 m 36 ls [.ref (B + (n + 3)), .ref (B + a0)]) rfl ?_
  replace hF := Option.bind_eq_some_iff.mp hF
  obtain ⟨g_10, eg_10, hF⟩ := hF
  refine m_putFR (B := B) (a := a0) (x := (some (n + 3))) E S fd_Query_letters (Or.inl ⟨_, rfl⟩) hin qw_42 eg_10 d_Query_init_36 (fun H locs S => ?_)
  refine lv_aload_n hx hb d_Query_init_39 rfl (lv_at hl 0 rfl) ?_
  refine lv_iconst (v := 0) hx hb d_Query_init_40 (by decide) ?_
  replace hF := Option.bind_eq_some_iff.mp hF
  obtain ⟨g_11, eg_11, hF⟩ := hF
  refine m_putI (B := B) (a := a0) E S fd_Query_level (Or.inl qw_43) eg_11 d_Query_init_41 (fun H locs S => ?_)
  refine lv_aload_n hx hb d_Query_init_44 rfl (lv_at hl 0 rfl) ?_
  refine lv_iconst (v := 0) hx hb d_Query_init_45 (by decide) ?_
  replace hF := Option.bind_eq_some_iff.mp hF
  obtain ⟨g_12, eg_12, hF⟩ := hF
  refine m_putI (B := B) (a := a0) E S fd_Query_state (Or.inl qw_44) eg_12 d_Query_init_46 (fun H locs S => ?_)
  refine lv_aload_n hx hb d_Query_init_49 rfl (lv_at hl 0 rfl) ?_
  refine lv_iconst (v := (-1)) hx hb d_Query_init_50 (by decide) ?_
  replace hF := Option.bind_eq_some_iff.mp hF
  obtain ⟨g_13, eg_13, hF⟩ := hF
  refine m_putI (B := B) (a := a0) E S fd_Query_inField (Or.inl qw_45) eg_13 d_Query_init_51 (fun H locs S => ?_)
  cases hF
  skip
  exact m_vret E S (show s.heap.size + 4 = B + (n + 4) by omega) hr hlk d_Query_init_54
section S_Threads_clear
variable {p : Program} {l : Launch} {e : Env} {s : State} {m : MethodId} {args : Array Value} {below : List Frame} {meth : Method} {c : Code} {D : va_G} {B n : Nat} {K : Nat → ClassId}
def f_Threads_clear_2   : Nat → m_G → Nat → Int32 → Option (Unit × m_G)
  | 0, _, _, _ => none
  | fu + 1, g, a0, x1 =>
    if (64 : Int32) ≤ x1 then
      some ((), g)
    else
      (m_gR g a0 6 0).bind fun v_2 =>
      Option.bind v_2 fun a_3 =>
      (m_st g a_3 0 x1 (-1)).bind fun g_4 =>
      f_Threads_clear_2 fu g_4 a0 (x1 + 1)
set_option maxHeartbeats 1000000 in
set_option maxRecDepth 100000 in
theorem c_Threads_clear_2 (E : m_V p m c b_Threads_clear 2 s args R_Threads D K) (hr : meth.sig.returnType = none) (hlk : meth.locks = false) (hz : s.heap.size + 0 = B + n)   : ∀ fu : Nat, ∀ (g : m_G) (a0 : Nat) (x1 : Int32) (r : Unit) (g' : m_G), f_Threads_clear_2  fu g a0 x1 = some (r, g') → ∀ (H : Heap) (locs : List Loc), m_S D B K n g s.heap H locs → ∀ ls : Array Slot, lv_has ls 2 [(0, .ref (B + a0)), (1, .int x1)] → W p l e ({ frames := 0, cells := 0, slots := 0, locals := 0 } : Room) s m args below meth c H locs 0 0 (MQ below (m_Q D B K none n g') args s 0 0 (fun q => B ≤ q)) (F0 m 2 ls []) := by
  have hx := E.1.1
  have hb := E.1.2.1
  have hts := E.1.2.2.2.2
  intro fu
  induction fu with
  | zero => intro g a0 x1 r g' hF; cases hF
  | succ fu ih =>
    intro g a0 x1 r g' hF H locs S ls hl
    rw [f_Threads_clear_2] at hF
    refine lv_iload_n hx hb d_Threads_clear_2 rfl (lv_at hl 1 rfl) ?_
    refine lv_bipush (v := 64) hx hb d_Threads_clear_3 (by decide) ?_
    refine lv_icmp_ge (tgt := 21) hx hb d_Threads_clear_5 (by decide) (fun c_1 => ?_) (fun c_1 => ?_)
    · rw [if_pos c_1] at hF
      cases hF
      skip
      exact m_vret E S hz hr hlk d_Threads_clear_21
    · rw [if_neg c_1] at hF
      refine lv_aload_n hx hb d_Threads_clear_8 rfl (lv_at hl 0 rfl) ?_
      replace hF := Option.bind_eq_some_iff.mp hF
      obtain ⟨v_2, ev_2, hF⟩ := hF
      refine m_getR (B := B) (a := a0) E S fd_Threads_parents (Or.inl qw_46) ev_2 d_Threads_clear_9 ?_
      refine lv_iload_n hx hb d_Threads_clear_12 rfl (lv_at hl 1 rfl) ?_
      refine lv_iconst (v := (-1)) hx hb d_Threads_clear_13 (by decide) ?_
      replace hF := Option.bind_eq_some_iff.mp hF
      obtain ⟨a_3, ea_3, hF⟩ := hF
      subst ea_3
      replace hF := Option.bind_eq_some_iff.mp hF
      obtain ⟨g_4, eg_4, hF⟩ := hF
      refine m_iast (B := B) (a := a_3) (t := 0) E S rfl eg_4 d_Threads_clear_14 (fun H locs S => ?_)
      refine lv_iinc (v := (x1 + 1)) (lv' := [(1, .int (x1 + 1)), (0, .ref (B + a0))]) hx hb d_Threads_clear_15 hl (k := 1) rfl rfl (by decide) rfl (fun ls hl => ?_)
      refine lv_goto (tgt := 2) hx hb d_Threads_clear_18 (by decide) ?_
      exact ih _ _ _ _ _ hF _ _ S _ (lv_sub hl [1, 0] rfl)
end S_Threads_clear
def f_Threads_clear  (g : m_G) (a0 : Nat) : Option (Unit × m_G) :=
  f_Threads_clear_2 m_fu g a0 0
set_option maxHeartbeats 1000000 in
set_option maxRecDepth 100000 in
theorem c_Threads_clear (l : Launch) (D : va_G) (B : Nat) (K : Nat → ClassId)  (n : Nat) (g : m_G) (a0 : Nat) (r : Unit) (g' : m_G) (hF : f_Threads_clear g a0 = some (r, g')) : Met l y_Threads_clear (Cond.code y_Threads_clear b_Threads_clear 2 none :: m_TB) ({ frames := 0, cells := 0, slots := 0, locals := 0 } : Room) (m_Pc D B K n g [.ref (B + a0)]) (m_Q D B K none n g') 0 0 (fun q => B ≤ q) := by
  refine m_met (by decide) (Nat.le_of_ble_eq_true rfl) ?_
  intro p e s m args below meth c ls E hr hlk hin hsz S hl
  have E : m_V p m c b_Threads_clear 2 s args R_Threads D K := E
  have hz : s.heap.size + 0 = B + n := hsz
  have hl : lv_has ls 2 [(0, .ref (B + a0))] := hl
  have hx := E.1.1
  have hb := E.1.2.1
  have hts := E.1.2.2.2.2
  unfold f_Threads_clear at hF
  refine lv_iconst (v := 0) hx hb d_Threads_clear_0 (by decide) ?_
  refine lv_istore_n (lv' := [(1, .int 0), (0, .ref (B + a0))]) hx hb d_Threads_clear_1 rfl hl (by decide) rfl (fun ls hl => ?_)
  exact c_Threads_clear_2 E hr hlk hz m_fu _ _ _ _ _ hF _ _ S _ (lv_sub hl [1, 0] rfl)
def f_Threads_init (n : Nat)  (g : m_G) (a0 : Nat) : Option (Unit × m_G) :=
  (m_nw g n (.inl (0, 64, .inl (fun _ => 0)))).bind fun g_1 =>
  (m_pR g_1 a0 6 0 (some n)).bind fun g_2 =>
  m_gd (m_is g_2 a0 6) <|
  m_bd (f_Threads_clear g_2 a0) fun v_4 g_3 =>
  some ((), g_3)
set_option maxHeartbeats 1000000 in
set_option maxRecDepth 100000 in
theorem c_Threads_init (l : Launch) (D : va_G) (B : Nat) (K : Nat → ClassId)  (n : Nat) (g : m_G) (a0 : Nat) (r : Unit) (g' : m_G) (hF : f_Threads_init n g a0 = some (r, g')) : Met l y_Threads_init (Cond.code y_Threads_init b_Threads_init 1 none :: m_TB) ({ frames := 1, cells := 1, slots := 64, locals := 21 } : Room) (m_Pc D B K n g [.ref (B + a0)]) (m_Q D B K none (n + 1) g') 1 64 (fun q => B ≤ q) := by
  refine m_met (by decide) (Nat.le_of_ble_eq_true rfl) ?_
  intro p e s m args below meth c ls E hr hlk hin hsz S hl
  have E : m_V p m c b_Threads_init 1 s args R_Threads D K := E
  have hz : s.heap.size + 0 = B + n := hsz
  have hl : lv_has ls 1 [(0, .ref (B + a0))] := hl
  have hx := E.1.1
  have hb := E.1.2.1
  have hts := E.1.2.2.2.2
  unfold f_Threads_init at hF
  refine lv_aload_n hx hb d_Threads_init_0 rfl (lv_at hl 0 rfl) ?_
  refine W.objInit hx hb E.1.2.2.2.1 (hts _ qw_47) (hts _ qw_1) (hts _ qw_2) rfl (hl.1.trans E.1.2.2.1.symm) rfl d_Threads_init_1 (Nat.le_of_ble_eq_true rfl) (Nat.le_of_ble_eq_true rfl) ?_
  refine W.eq (g2 := F0 m 4 ls []) rfl ?_
  refine lv_aload_n hx hb d_Threads_init_4 rfl (lv_at hl 0 rfl) ?_
  refine lv_bipush (v := 64) hx hb d_Threads_init_5 (by decide) ?_
  replace hF := Option.bind_eq_some_iff.mp hF
  obtain ⟨g_1, eg_1, hF⟩ := hF
  refine m_newa (B := B) (atype := .int) (t := 0) (N := 64) (a0 := (64, .inl (fun _ => 0))) E S hz qw_14 rfl (fun _ => rfl) rfl (by decide) (by decide) (Nat.le_of_ble_eq_true rfl) (Nat.le_of_ble_eq_true rfl) (Nat.le_of_ble_eq_true rfl) eg_1 d_Threads_init_7 (fun H S => ?_)
  refine W.widen (k := 1) (n := 64) (Nat.le_of_ble_eq_true rfl) (Nat.le_of_ble_eq_true rfl) ?_
  refine W.eq (g2 := F0 m 9 ls [.ref (B + n), .ref (B + a0)]) rfl ?_
  replace hF := Option.bind_eq_some_iff.mp hF
  obtain ⟨g_2, eg_2, hF⟩ := hF
  refine m_putFR (B := B) (a := a0) (x := (some n)) E S fd_Threads_parents (Or.inr ⟨_, rfl⟩) hin qw_46 eg_2 d_Threads_init_9 (fun H locs S => ?_)
  refine lv_aload_n hx hb d_Threads_init_12 rfl (lv_at hl 0 rfl) ?_
  replace hF := m_gd_inv hF
  obtain ⟨eog_3, hF⟩ := hF
  replace hF := m_bd_inv hF
  obtain ⟨v_4, g_3, eg_3, hF⟩ := hF
  refine m_callV (B := B) (nn := 0) (b := a0) (As := []) (rest := []) (v := none) E S (show s.heap.size + 1 = B + (n + 1) by omega) (c_Threads_clear l D B K (n + 1) g_2 a0 v_4 g_3 eg_3) qc_Threads_clear ⟨rfl, rfl⟩ (Or.inl qw_48) qw_50 qw_51 qw_49 (by decide +kernel) ⟨Nat.le_of_ble_eq_true rfl, Nat.le_of_ble_eq_true rfl⟩ eog_3 rfl rfl hl.1 (Nat.le_of_ble_eq_true rfl) d_Threads_init_13 ⟨Nat.le_of_ble_eq_true rfl, Nat.le_of_ble_eq_true rfl⟩ (fun H locs S => ?_)
  refine W.eq (g2 := F0 m 16 ls []) rfl ?_
  cases hF
  skip
  exact m_vret E S (show s.heap.size + 1 = B + (n + 1) by omega) hr hlk d_Threads_init_16
