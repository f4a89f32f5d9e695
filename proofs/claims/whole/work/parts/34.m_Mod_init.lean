def f_Mod_init (n : Nat)  (g : m_G) (a0 : Nat) : Option (Unit × m_G) :=
  (m_nw g n (.inl (0, 1240, .inl (fun _ => 0)))).bind fun g_1 =>
  (m_pR g_1 a0 8 0 (some n)).bind fun g_2 =>
  (m_nw g_2 (n + 1) (.inl (0, 31, .inl (fun _ => 0)))).bind fun g_3 =>
  (m_pR g_3 a0 8 1 (some (n + 1))).bind fun g_4 =>
  (m_nw g_4 (n + 2) (.inl (0, 40, .inl (fun _ => 0)))).bind fun g_5 =>
  (m_pR g_5 a0 8 3 (some (n + 2))).bind fun g_6 =>
  (m_nw g_6 (n + 3) (.inl (0, 40, .inl (fun _ => 0)))).bind fun g_7 =>
  (m_pR g_7 a0 8 4 (some (n + 3))).bind fun g_8 =>
  (m_nw g_8 (n + 4) (.inl (0, 40, .inl (fun _ => 0)))).bind fun g_9 =>
  (m_pR g_9 a0 8 5 (some (n + 4))).bind fun g_10 =>
  (m_nw g_10 (n + 5) (.inl (3, 12, .inl (fun _ => 0)))).bind fun g_11 =>
  (m_pR g_11 a0 8 7 (some (n + 5))).bind fun g_12 =>
  (m_nw g_12 (n + 6) (.inl (0, 12, .inl (fun _ => 0)))).bind fun g_13 =>
  (m_pR g_13 a0 8 8 (some (n + 6))).bind fun g_14 =>
  (m_nw g_14 (n + 7) (.inl (0, 12, .inl (fun _ => 0)))).bind fun g_15 =>
  (m_pR g_15 a0 8 9 (some (n + 7))).bind fun g_16 =>
  (m_nw g_16 (n + 8) (.inl (0, 48, .inl (fun _ => 0)))).bind fun g_17 =>
  (m_pR g_17 a0 8 11 (some (n + 8))).bind fun g_18 =>
  (m_nw g_18 (n + 9) (.inl (0, 12, .inl (fun _ => 0)))).bind fun g_19 =>
  (m_pR g_19 a0 8 12 (some (n + 9))).bind fun g_20 =>
  (m_nw g_20 (n + 10) (.inl (0, 12, .inl (fun _ => 0)))).bind fun g_21 =>
  (m_pR g_21 a0 8 13 (some (n + 10))).bind fun g_22 =>
  (m_nw g_22 (n + 11) (.inl (0, 12, .inl (fun _ => 0)))).bind fun g_23 =>
  (m_pR g_23 a0 8 14 (some (n + 11))).bind fun g_24 =>
  (m_nw g_24 (n + 12) (.inl (0, 12, .inl (fun _ => 0)))).bind fun g_25 =>
  (m_pR g_25 a0 8 15 (some (n + 12))).bind fun g_26 =>
  (m_nw g_26 (n + 13) (.inl (2, 600, .inr (.inl (fun _ => 0))))).bind fun g_27 =>
  (m_pR g_27 a0 8 16 (some (n + 13))).bind fun g_28 =>
  (m_nw g_28 (n + 14) (.inl (0, 600, .inl (fun _ => 0)))).bind fun g_29 =>
  (m_pR g_29 a0 8 17 (some (n + 14))).bind fun g_30 =>
  (m_nw g_30 (n + 15) (.inl (0, 64, .inl (fun _ => 0)))).bind fun g_31 =>
  (m_pR g_31 a0 8 19 (some (n + 15))).bind fun g_32 =>
  (m_pI g_32 a0 8 21 (-1)).bind fun g_33 =>
  (m_nw g_33 (n + 16) (.inl (0, 44, .inl (fun _ => 0)))).bind fun g_34 =>
  (m_pR g_34 a0 8 22 (some (n + 16))).bind fun g_35 =>
  (m_nw g_35 (n + 17) (.inl (0, 44, .inl (fun _ => 0)))).bind fun g_36 =>
  (m_pR g_36 a0 8 23 (some (n + 17))).bind fun g_37 =>
  some ((), g_37)
set_option maxHeartbeats 1000000 in
set_option maxRecDepth 100000 in
theorem c_Mod_init (l : Launch) (D : va_G) (B : Nat) (K : Nat → ClassId)  (n : Nat) (g : m_G) (a0 : Nat) (r : Unit) (g' : m_G) (hF : f_Mod_init n g a0 = some (r, g')) : Met l y_Mod_init (Cond.code y_Mod_init b_Mod_init 1 none :: m_TB) ({ frames := 1, cells := 18, slots := 2875, locals := 20 } : Room) (m_Pc D B K n g [.ref (B + a0)]) (m_Q D B K none (n + 18) g') 18 2875 (fun q => B ≤ q) := by
  refine m_met (by decide) (Nat.le_of_ble_eq_true rfl) ?_
  intro p e s m args below meth c ls E hr hlk hin hsz S hl
  have E : m_V p m c b_Mod_init 1 s args R_Mod D K := E
  have hz : s.heap.size + 0 = B + n := hsz
  have hl : lv_has ls 1 [(0, .ref (B + a0))] := hl
  have hx := E.1.1
  have hb := E.1.2.1
  have hts := E.1.2.2.2.2
  unfold f_Mod_init at hF
  refine lv_aload_n hx hb d_Mod_init_0 rfl (lv_at hl 0 rfl) ?_
  refine W.objInit hx hb E.1.2.2.2.1 (hts _ qw_283) (hts _ qw_1) (hts _ qw_2) rfl (hl.1.trans E.1.2.2.1.symm) rfl d_Mod_init_1 (Nat.le_of_ble_eq_true rfl) (Nat.le_of_ble_eq_true rfl) ?_
  refine W.eq (g2 := F0 m 4 ls []) rfl ?_
  refine lv_aload_n hx hb d_Mod_init_4 rfl (lv_at hl 0 rfl) ?_
  refine lv_sipush (v := 1240) hx hb d_Mod_init_5 (by decide) ?_
  replace hF := Option.bind_eq_some_iff.mp hF
  obtain ⟨g_1, eg_1, hF⟩ := hF
  refine m_newa (B := B) (atype := .int) (t := 0) (N := 1240) (a0 := (1240, .inl (fun _ => 0))) E S hz qw_14 rfl (fun _ => rfl) rfl (by decide) (by decide) (Nat.le_of_ble_eq_true rfl) (Nat.le_of_ble_eq_true rfl) (Nat.le_of_ble_eq_true rfl) eg_1 d_Mod_init_8 (fun H S => ?_)
  refine W.widen (k := 1) (n := 1240) (Nat.le_of_ble_eq_true rfl) (Nat.le_of_ble_eq_true rfl) ?_
  refine W.eq (g2 := F0 m 10 ls [.ref (B + n), .ref (B + a0)]) rfl ?_
  replace hF := Option.bind_eq_some_iff.mp hF
  obtain ⟨g_2, eg_2, hF⟩ := hF
  refine m_putFR (B := B) (a := a0) (x := (some n)) E S fd_Mod_chars (Or.inr ⟨_, rfl⟩) hin qw_284 eg_2 d_Mod_init_10 (fun H locs S => ?_)
  refine lv_aload_n hx hb d_Mod_init_13 rfl (lv_at hl 0 rfl) ?_
  refine lv_bipush (v := 31) hx hb d_Mod_init_14 (by decide) ?_
  replace hF := Option.bind_eq_some_iff.mp hF
  obtain ⟨g_3, eg_3, hF⟩ := hF
  refine m_newa (B := B) (atype := .int) (t := 0) (N := 31) (a0 := (31, .inl (fun _ => 0))) E S (show s.heap.size + 1 = B + (n + 1) by omega) qw_14 rfl (fun _ => rfl) rfl (by decide) (by decide) (Nat.le_of_ble_eq_true rfl) (Nat.le_of_ble_eq_true rfl) (Nat.le_of_ble_eq_true rfl) eg_3 d_Mod_init_16 (fun H S => ?_)
  refine W.widen (k := 2) (n := 1271) (Nat.le_of_ble_eq_true rfl) (Nat.le_of_ble_eq_true rfl) ?_
  refine W.eq (g2 := F0 m 18 ls [.ref (B + (n + 1)), .ref (B + a0)]) rfl ?_
  replace hF := Option.bind_eq_some_iff.mp hF
  obtain ⟨g_4, eg_4, hF⟩ := hF
  refine m_putFR (B := B) (a := a0) (x := (some (n + 1))) E S fd_Mod_lengths (Or.inr ⟨_, rfl⟩) hin qw_285 eg_4 d_Mod_init_18 (fun H locs S => ?_)
  refine lv_aload_n hx hb d_Mod_init_21 rfl (lv_at hl 0 rfl) ?_
  refine lv_bipush (v := 40) hx hb d_Mod_init_22 (by decide) ?_
  replace hF := Option.bind_eq_some_iff.mp hF
  obtain ⟨g_5, eg_5, hF⟩ := hF
  refine m_newa (B := B) (atype := .int) (t := 0) (N := 40) (a0 := (40, .inl (fun _ => 0))) E S (show s.heap.size + 2 = B + (n + 2) by omega) qw_14 rfl (fun _ => rfl) rfl (by decide) (by decide) (Nat.le_of_ble_eq_true rfl) (Nat.le_of_ble_eq_true rfl) (Nat.le_of_ble_eq_true rfl) eg_5 d_Mod_init_24 (fun H S => ?_)
  refine W.widen (k := 3) (n := 1311) (Nat.le_of_ble_eq_true rfl) (Nat.le_of_ble_eq_true rfl) ?_
  refine W.eq (g2 := F0 m 26 ls [.ref (B + (n + 2)), .ref (B + a0)]) rfl ?_
  replace hF := Option.bind_eq_some_iff.mp hF
  obtain ⟨g_6, eg_6, hF⟩ := hF
  refine m_putFR (B := B) (a := a0) (x := (some (n + 2))) E S fd_Mod_partFrom (Or.inr ⟨_, rfl⟩) hin qw_286 eg_6 d_Mod_init_26 (fun H locs S => ?_)
  refine lv_aload_n hx hb d_Mod_init_29 rfl (lv_at hl 0 rfl) ?_
  refine lv_bipush (v := 40) hx hb d_Mod_init_30 (by decide) ?_
  replace hF := Option.bind_eq_some_iff.mp hF
  obtain ⟨g_7, eg_7, hF⟩ := hF
  refine m_newa (B := B) (atype := .int) (t := 0) (N := 40) (a0 := (40, .inl (fun _ => 0))) E S (show s.heap.size + 3 = B + (n + 3) by omega) qw_14 rfl (fun _ => rfl) rfl (by decide) (by decide) (Nat.le_of_ble_eq_true rfl) (Nat.le_of_ble_eq_true rfl) (Nat.le_of_ble_eq_true rfl) eg_7 d_Mod_init_32 (fun H S => ?_)
  refine W.widen (k := 4) (n := 1351) (Nat.le_of_ble_eq_true rfl) (Nat.le_of_ble_eq_true rfl) ?_
  refine W.eq (g2 := F0 m 34 ls [.ref (B + (n + 3)), .ref (B + a0)]) rfl ?_
  replace hF := Option.bind_eq_some_iff.mp hF
  obtain ⟨g_8, eg_8, hF⟩ := hF
  refine m_putFR (B := B) (a := a0) (x := (some (n + 3))) E S fd_Mod_partTo (Or.inr ⟨_, rfl⟩) hin qw_287 eg_8 d_Mod_init_34 (fun H locs S => ?_)
  refine lv_aload_n hx hb d_Mod_init_37 rfl (lv_at hl 0 rfl) ?_
  refine lv_bipush (v := 40) hx hb d_Mod_init_38 (by decide) ?_
  replace hF := Option.bind_eq_some_iff.mp hF
  obtain ⟨g_9, eg_9, hF⟩ := hF
  refine m_newa (B := B) (atype := .int) (t := 0) (N := 40) (a0 := (40, .inl (fun _ => 0))) E S (show s.heap.size + 4 = B + (n + 4) by omega) qw_14 rfl (fun _ => rfl) rfl (by decide) (by decide) (Nat.le_of_ble_eq_true rfl) (Nat.le_of_ble_eq_true rfl) (Nat.le_of_ble_eq_true rfl) eg_9 d_Mod_init_40 (fun H S => ?_)
  refine W.widen (k := 5) (n := 1391) (Nat.le_of_ble_eq_true rfl) (Nat.le_of_ble_eq_true rfl) ?_
  refine W.eq (g2 := F0 m 42 ls [.ref (B + (n + 4)), .ref (B + a0)]) rfl ?_
  replace hF := Option.bind_eq_some_iff.mp hF
  obtain ⟨g_10, eg_10, hF⟩ := hF
  refine m_putFR (B := B) (a := a0) (x := (some (n + 4))) E S fd_Mod_partDepth (Or.inr ⟨_, rfl⟩) hin qw_288 eg_10 d_Mod_init_42 (fun H locs S => ?_)
  refine lv_aload_n hx hb d_Mod_init_45 rfl (lv_at hl 0 rfl) ?_
  refine lv_bipush (v := 12) hx hb d_Mod_init_46 (by decide) ?_
  replace hF := Option.bind_eq_some_iff.mp hF
  obtain ⟨g_11, eg_11, hF⟩ := hF
  refine m_newa (B := B) (atype := .boolean) (t := 3) (N := 12) (a0 := (12, .inl (fun _ => 0))) E S (show s.heap.size + 5 = B + (n + 5) by omega) qw_39 rfl (fun _ => rfl) rfl (by decide) (by decide) (Nat.le_of_ble_eq_true rfl) (Nat.le_of_ble_eq_true rfl) (Nat.le_of_ble_eq_true rfl) eg_11 d_Mod_init_48 (fun H S => ?_)
  refine W.widen (k := 6) (n := 1403) (Nat.le_of_ble_eq_true rfl) (Nat.le_of_ble_eq_true rfl) ?_
  refine W.eq (g2 := F0 m 50 ls [.ref (B + (n + 5)), .ref (B + a0)]) rfl ?_
  replace hF := Option.bind_eq_some_iff.mp hF
  obtain ⟨g_12, eg_12, hF⟩ := hF
  refine m_putFR (B := B) (a := a0) (x := (some (n + 5))) E S fd_Mod_there (Or.inr ⟨_, rfl⟩) hin qw_289 eg_12 d_Mod_init_50 (fun H locs S => ?_)
  refine lv_aload_n hx hb d_Mod_init_53 rfl (lv_at hl 0 rfl) ?_
  refine lv_bipush (v := 12) hx hb d_Mod_init_54 (by decide) ?_
  replace hF := Option.bind_eq_some_iff.mp hF
  obtain ⟨g_13, eg_13, hF⟩ := hF
  refine m_newa (B := B) (atype := .int) (t := 0) (N := 12) (a0 := (12, .inl (fun _ => 0))) E S (show s.heap.size + 6 = B + (n + 6) by omega) qw_14 rfl (fun _ => rfl) rfl (by decide) (by decide) (Nat.le_of_ble_eq_true rfl) (Nat.le_of_ble_eq_true rfl) (Nat.le_of_ble_eq_true rfl) eg_13 d_Mod_init_56 (fun H S => ?_)
  refine W.widen (k := 7) (n := 1415) (Nat.le_of_ble_eq_true rfl) (Nat.le_of_ble_eq_true rfl) ?_
  refine W.eq (g2 := F0 m 58 ls [.ref (B + (n + 6)), .ref (B + a0)]) rfl ?_
  replace hF := Option.bind_eq_some_iff.mp hF
  obtain ⟨g_14, eg_14, hF⟩ := hF
  refine m_putFR (B := B) (a := a0) (x := (some (n + 6))) E S fd_Mod_ids (Or.inr ⟨_, rfl⟩) hin qw_290 eg_14 d_Mod_init_58 (fun H locs S => ?_)
  refine lv_aload_n hx hb d_Mod_init_61 rfl (lv_at hl 0 rfl) ?_
  refine lv_bipush (v := 12) hx hb d_Mod_init_62 (by decide) ?_
  replace hF := Option.bind_eq_some_iff.mp hF
  obtain ⟨g_15, eg_15, hF⟩ := hF
  refine m_newa (B := B) (atype := .int) (t := 0) (N := 12) (a0 := (12, .inl (fun _ => 0))) E S (show s.heap.size + 7 = B + (n + 7) by omega) qw_14 rfl (fun _ => rfl) rfl (by decide) (by decide) (Nat.le_of_ble_eq_true rfl) (Nat.le_of_ble_eq_true rfl) (Nat.le_of_ble_eq_true rfl) eg_15 d_Mod_init_64 (fun H S => ?_)
  refine W.widen (k := 8) (n := 1427) (Nat.le_of_ble_eq_true rfl) (Nat.le_of_ble_eq_true rfl) ?_
  refine W.eq (g2 := F0 m 66 ls [.ref (B + (n + 7)), .ref (B + a0)]) rfl ?_
  replace hF := Option.bind_eq_some_iff.mp hF
  obtain ⟨g_16, eg_16, hF⟩ := hF
  refine m_putFR (B := B) (a := a0) (x := (some (n + 7))) E S fd_Mod_order (Or.inr ⟨_, rfl⟩) hin qw_291 eg_16 d_Mod_init_66 (fun H locs S => ?_)
  refine lv_aload_n hx hb d_Mod_init_69 rfl (lv_at hl 0 rfl) ?_
  refine lv_bipush (v := 48) hx hb d_Mod_init_70 (by decide) ?_
  replace hF := Option.bind_eq_some_iff.mp hF
  obtain ⟨g_17, eg_17, hF⟩ := hF
  refine m_newa (B := B) (atype := .int) (t := 0) (N := 48) (a0 := (48, .inl (fun _ => 0))) E S (show s.heap.size + 8 = B + (n + 8) by omega) qw_14 rfl (fun _ => rfl) rfl (by decide) (by decide) (Nat.le_of_ble_eq_true rfl) (Nat.le_of_ble_eq_true rfl) (Nat.le_of_ble_eq_true rfl) eg_17 d_Mod_init_72 (fun H S => ?_)
  refine W.widen (k := 9) (n := 1475) (Nat.le_of_ble_eq_true rfl) (Nat.le_of_ble_eq_true rfl) ?_
  refine W.eq (g2 := F0 m 74 ls [.ref (B + (n + 8)), .ref (B + a0)]) rfl ?_
  replace hF := Option.bind_eq_some_iff.mp hF
  obtain ⟨g_18, eg_18, hF⟩ := hF
  refine m_putFR (B := B) (a := a0) (x := (some (n + 8))) E S fd_Mod_references (Or.inr ⟨_, rfl⟩) hin qw_292 eg_18 d_Mod_init_74 (fun H locs S => ?_)
  refine lv_aload_n hx hb d_Mod_init_77 rfl (lv_at hl 0 rfl) ?_
  refine lv_bipush (v := 12) hx hb d_Mod_init_78 (by decide) ?_
  replace hF := Option.bind_eq_some_iff.mp hF
  obtain ⟨g_19, eg_19, hF⟩ := hF
  refine m_newa (B := B) (atype := .int) (t := 0) (N := 12) (a0 := (12, .inl (fun _ => 0))) E S (show s.heap.size + 9 = B + (n + 9) by omega) qw_14 rfl (fun _ => rfl) rfl (by decide) (by decide) (Nat.le_of_ble_eq_true rfl) (Nat.le_of_ble_eq_true rfl) (Nat.le_of_ble_eq_true rfl) eg_19 d_Mod_init_80 (fun H S => ?_)
  refine W.widen (k := 10) (n := 1487) (Nat.le_of_ble_eq_true rfl) (Nat.le_of_ble_eq_true rfl) ?_
  refine W.eq (g2 := F0 m 82 ls [.ref (B + (n + 9)), .ref (B + a0)]) rfl ?_
  replace hF := Option.bind_eq_some_iff.mp hF
  obtain ⟨g_20, eg_20, hF⟩ := hF
  refine m_putFR (B := B) (a := a0) (x := (some (n + 9))) E S fd_Mod_referenceCount (Or.inr ⟨_, rfl⟩) hin qw_293 eg_20 d_Mod_init_82 (fun H locs S => ?_)
  refine lv_aload_n hx hb d_Mod_init_85 rfl (lv_at hl 0 rfl) ?_
  refine lv_bipush (v := 12) hx hb d_Mod_init_86 (by decide) ?_
  replace hF := Option.bind_eq_some_iff.mp hF
  obtain ⟨g_21, eg_21, hF⟩ := hF
  refine m_newa (B := B) (atype := .int) (t := 0) (N := 12) (a0 := (12, .inl (fun _ => 0))) E S (show s.heap.size + 10 = B + (n + 10) by omega) qw_14 rfl (fun _ => rfl) rfl (by decide) (by decide) (Nat.le_of_ble_eq_true rfl) (Nat.le_of_ble_eq_true rfl) (Nat.le_of_ble_eq_true rfl) eg_21 d_Mod_init_88 (fun H S => ?_)
  refine W.widen (k := 11) (n := 1499) (Nat.le_of_ble_eq_true rfl) (Nat.le_of_ble_eq_true rfl) ?_
  refine W.eq (g2 := F0 m 90 ls [.ref (B + (n + 10)), .ref (B + a0)]) rfl ?_
  replace hF := Option.bind_eq_some_iff.mp hF
  obtain ⟨g_22, eg_22, hF⟩ := hF
  refine m_putFR (B := B) (a := a0) (x := (some (n + 10))) E S fd_Mod_tags (Or.inr ⟨_, rfl⟩) hin qw_294 eg_22 d_Mod_init_90 (fun H locs S => ?_)
  refine lv_aload_n hx hb d_Mod_init_93 rfl (lv_at hl 0 rfl) ?_
  refine lv_bipush (v := 12) hx hb d_Mod_init_94 (by decide) ?_
  replace hF := Option.bind_eq_some_iff.mp hF
  obtain ⟨g_23, eg_23, hF⟩ := hF
  refine m_newa (B := B) (atype := .int) (t := 0) (N := 12) (a0 := (12, .inl (fun _ => 0))) E S (show s.heap.size + 11 = B + (n + 11) by omega) qw_14 rfl (fun _ => rfl) rfl (by decide) (by decide) (Nat.le_of_ble_eq_true rfl) (Nat.le_of_ble_eq_true rfl) (Nat.le_of_ble_eq_true rfl) eg_23 d_Mod_init_96 (fun H S => ?_)
  refine W.widen (k := 12) (n := 1511) (Nat.le_of_ble_eq_true rfl) (Nat.le_of_ble_eq_true rfl) ?_
  refine W.eq (g2 := F0 m 98 ls [.ref (B + (n + 11)), .ref (B + a0)]) rfl ?_
  replace hF := Option.bind_eq_some_iff.mp hF
  obtain ⟨g_24, eg_24, hF⟩ := hF
  refine m_putFR (B := B) (a := a0) (x := (some (n + 11))) E S fd_Mod_leaves (Or.inr ⟨_, rfl⟩) hin qw_295 eg_24 d_Mod_init_98 (fun H locs S => ?_)
  refine lv_aload_n hx hb d_Mod_init_101 rfl (lv_at hl 0 rfl) ?_
  refine lv_bipush (v := 12) hx hb d_Mod_init_102 (by decide) ?_
  replace hF := Option.bind_eq_some_iff.mp hF
  obtain ⟨g_25, eg_25, hF⟩ := hF
  refine m_newa (B := B) (atype := .int) (t := 0) (N := 12) (a0 := (12, .inl (fun _ => 0))) E S (show s.heap.size + 12 = B + (n + 12) by omega) qw_14 rfl (fun _ => rfl) rfl (by decide) (by decide) (Nat.le_of_ble_eq_true rfl) (Nat.le_of_ble_eq_true rfl) (Nat.le_of_ble_eq_true rfl) eg_25 d_Mod_init_104 (fun H S => ?_)
  refine W.widen (k := 13) (n := 1523) (Nat.le_of_ble_eq_true rfl) (Nat.le_of_ble_eq_true rfl) ?_
  refine W.eq (g2 := F0 m 106 ls [.ref (B + (n + 12)), .ref (B + a0)]) rfl ?_
  replace hF := Option.bind_eq_some_iff.mp hF
  obtain ⟨g_26, eg_26, hF⟩ := hF
  refine m_putFR (B := B) (a := a0) (x := (some (n + 12))) E S fd_Mod_words (Or.inr ⟨_, rfl⟩) hin qw_296 eg_26 d_Mod_init_106 (fun H locs S => ?_)
  refine lv_aload_n hx hb d_Mod_init_109 rfl (lv_at hl 0 rfl) ?_
  refine lv_sipush (v := 600) hx hb d_Mod_init_110 (by decide) ?_
  replace hF := Option.bind_eq_some_iff.mp hF
  obtain ⟨g_27, eg_27, hF⟩ := hF
  refine m_newa (B := B) (atype := .long) (t := 2) (N := 600) (a0 := (600, .inr (.inl (fun _ => 0)))) E S (show s.heap.size + 13 = B + (n + 13) by omega) qw_16 rfl (fun _ => rfl) rfl (by decide) (by decide) (Nat.le_of_ble_eq_true rfl) (Nat.le_of_ble_eq_true rfl) (Nat.le_of_ble_eq_true rfl) eg_27 d_Mod_init_113 (fun H S => ?_)
  refine W.widen (k := 14) (n := 2123) (Nat.le_of_ble_eq_true rfl) (Nat.le_of_ble_eq_true rfl) ?_
  refine W.eq (g2 := F0 m 115 ls [.ref (B + (n + 13)), .ref (B + a0)]) rfl ?_
  replace hF := Option.bind_eq_some_iff.mp hF
  obtain ⟨g_28, eg_28, hF⟩ := hF
  refine m_putFR (B := B) (a := a0) (x := (some (n + 13))) E S fd_Mod_codes (Or.inr ⟨_, rfl⟩) hin qw_297 eg_28 d_Mod_init_115 (fun H locs S => ?_)
  refine lv_aload_n hx hb d_Mod_init_118 rfl (lv_at hl 0 rfl) ?_
  refine lv_sipush (v := 600) hx hb d_Mod_init_119 (by decide) ?_
  replace hF := Option.bind_eq_some_iff.mp hF
  obtain ⟨g_29, eg_29, hF⟩ := hF
  refine m_newa (B := B) (atype := .int) (t := 0) (N := 600) (a0 := (600, .inl (fun _ => 0))) E S (show s.heap.size + 14 = B + (n + 14) by omega) qw_14 rfl (fun _ => rfl) rfl (by decide) (by decide) (Nat.le_of_ble_eq_true rfl) (Nat.le_of_ble_eq_true rfl) (Nat.le_of_ble_eq_true rfl) eg_29 d_Mod_init_122 (fun H S => ?_)
  refine W.widen (k := 15) (n := 2723) (Nat.le_of_ble_eq_true rfl) (Nat.le_of_ble_eq_true rfl) ?_
  refine W.eq (g2 := F0 m 124 ls [.ref (B + (n + 14)), .ref (B + a0)]) rfl ?_
  replace hF := Option.bind_eq_some_iff.mp hF
  obtain ⟨g_30, eg_30, hF⟩ := hF
  refine m_putFR (B := B) (a := a0) (x := (some (n + 14))) E S fd_Mod_fields (Or.inr ⟨_, rfl⟩) hin qw_298 eg_30 d_Mod_init_124 (fun H locs S => ?_)
  refine lv_aload_n hx hb d_Mod_init_127 rfl (lv_at hl 0 rfl) ?_
  refine lv_bipush (v := 64) hx hb d_Mod_init_128 (by decide) ?_
  replace hF := Option.bind_eq_some_iff.mp hF
  obtain ⟨g_31, eg_31, hF⟩ := hF
  refine m_newa (B := B) (atype := .int) (t := 0) (N := 64) (a0 := (64, .inl (fun _ => 0))) E S (show s.heap.size + 15 = B + (n + 15) by omega) qw_14 rfl (fun _ => rfl) rfl (by decide) (by decide) (Nat.le_of_ble_eq_true rfl) (Nat.le_of_ble_eq_true rfl) (Nat.le_of_ble_eq_true rfl) eg_31 d_Mod_init_130 (fun H S => ?_)
  refine W.widen (k := 16) (n := 2787) (Nat.le_of_ble_eq_true rfl) (Nat.le_of_ble_eq_true rfl) ?_
  refine W.eq (g2 := F0 m 132 ls [.ref (B + (n + 15)), .ref (B + a0)]) rfl ?_
  replace hF := Option.bind_eq_some_iff.mp hF
  obtain ⟨g_32, eg_32, hF⟩ := hF
  refine m_putFR (B := B) (a := a0) (x := (some (n + 15))) E S fd_Mod_parent (Or.inr ⟨_, rfl⟩) hin qw_299 eg_32 d_Mod_init_132 (fun H locs S => ?_)
  refine lv_aload_n hx hb d_Mod_init_135 rfl (lv_at hl 0 rfl) ?_
  refine lv_iconst (v := (-1)) hx hb d_Mod_init_136 (by decide) ?_
  replace hF := Option.bind_eq_some_iff.mp hF
  obtain ⟨g_33, eg_33, hF⟩ := hF
  refine m_putI (B := B) (a := a0) E S fd_Mod_errorAt (Or.inl qw_300) eg_33 d_Mod_init_137 (fun H locs S => ?_)
  refine lv_aload_n hx hb d_Mod_init_140 rfl (lv_at hl 0 rfl) ?_
  refine lv_bipush (v := 44) hx hb d_Mod_init_141 (by decide) ?_
  replace hF := Option.bind_eq_some_iff.mp hF
  obtain ⟨g_34, eg_34, hF⟩ := hF
  refine m_newa (B := B) (atype := .int) (t := 0) (N := 44) (a0 := (44, .inl (fun _ => 0))) E S (show s.heap.size + 16 = B + (n + 16) by omega) qw_14 rfl (fun _ => rfl) rfl (by decide) (by decide) (Nat.le_of_ble_eq_true rfl) (Nat.le_of_ble_eq_true rfl) (Nat.le_of_ble_eq_true rfl) eg_34 d_Mod_init_143 (fun H S => ?_)
  refine W.widen (k := 17) (n := 2831) (Nat.le_of_ble_eq_true rfl) (Nat.le_of_ble_eq_true rfl) ?_
  refine W.eq (g2 := F0 m 145 ls [.ref (B + (n + 16)), .ref (B + a0)]) rfl ?_
  replace hF := Option.bind_eq_some_iff.mp hF
  obtain ⟨g_35, eg_35, hF⟩ := hF
  refine m_putFR (B := B) (a := a0) (x := (some (n + 16))) E S fd_Mod_sets (Or.inr ⟨_, rfl⟩) hin qw_301 eg_35 d_Mod_init_145 (fun H locs S => ?_)
  refine lv_aload_n hx hb d_Mod_init_148 rfl (lv_at hl 0 rfl) ?_
  refine lv_bipush (v := 44) hx hb d_Mod_init_149 (by decide) ?_
  replace hF := Option.bind_eq_some_iff.mp hF
  obtain ⟨g_36, eg_36, hF⟩ := hF
  refine m_newa (B := B) (atype := .int) (t := 0) (N := 44) (a0 := (44, .inl (fun _ => 0))) E S (show s.heap.size + 17 = B + (n + 17) by omega) qw_14 rfl (fun _ => rfl) rfl (by decide) (by decide) (Nat.le_of_ble_eq_true rfl) (Nat.le_of_ble_eq_true rfl) (Nat.le_of_ble_eq_true rfl) eg_36 d_Mod_init_151 (fun H S => ?_)
  refine W.widen (k := 18) (n := 2875) (Nat.le_of_ble_eq_true rfl) (Nat.le_of_ble_eq_true rfl) ?_
  refine W.eq (g2 := F0 m 153 ls [.ref (B + (n + 17)), .ref (B + a0)]) rfl ?_
  replace hF := Option.bind_eq_some_iff.mp hF
  obtain ⟨g_37, eg_37, hF⟩ := hF
  refine m_putFR (B := B) (a := a0) (x := (some (n + 17))) E S fd_Mod_signs (Or.inr ⟨_, rfl⟩) hin qw_302 eg_37 d_Mod_init_153 (fun H locs S => ?_)
  cases hF
  skip
  exact m_vret E S (show s.heap.size + 18 = B + (n + 18) by omega) hr hlk d_Mod_init_156
section S_Mod_out
variable {p : Program} {l : Launch} {e : Env} {s : State} {m : MethodId} {args : Array Value} {below : List Frame} {meth : Method} {c : Code} {D : va_G} {B n : Nat} {K : Nat → ClassId}
def f_Mod_out_14   (g : m_G) (y0 : Int32) : Option (Int32 × m_G) :=
  if (y0 : Int32) = 0 ∨ y0 = 1 then some (y0, g) else none
set_option maxHeartbeats 1000000 in
set_option maxRecDepth 100000 in
theorem c_Mod_out_14 (E : m_V p m c b_Mod_out 2 s args R_Mod D K) (hr : meth.sig.returnType = (some .boolean)) (hlk : meth.locks = false) (hz : s.heap.size + 0 = B + n)   : ∀ (g : m_G) (y0 : Int32) (r : Int32) (g' : m_G), f_Mod_out_14 g y0 = some (r, g') → ∀ (H : Heap) (locs : List Loc), m_S D B K n g s.heap H locs → ∀ ls : Array Slot, lv_has ls 2 [] → W p l e ({ frames := 0, cells := 0, slots := 0, locals := 0 } : Room) s m args below meth c H locs 0 0 (MQ below (m_Q D B K (some (.int r)) n g') args s 0 0 (fun q => B ≤ q)) (F0 m 14 ls [.int y0]) := by
  have hx := E.1.1
  have hb := E.1.2.1
  have hts := E.1.2.2.2.2
  intro g y0 r g' hF H locs S ls hl
  unfold f_Mod_out_14 at hF
  by_cases c_1 : (y0 : Int32) = 0 ∨ y0 = 1
  · rw [if_pos c_1] at hF
    cases hF
    exact m_zret E S hz hr hlk c_1 d_Mod_out_14
  · rw [if_neg c_1] at hF
    cases hF
def f_Mod_out_9   (g : m_G)  : Option (Int32 × m_G) :=
  f_Mod_out_14 g 1
set_option maxHeartbeats 1000000 in
set_option maxRecDepth 100000 in
theorem c_Mod_out_9 (E : m_V p m c b_Mod_out 2 s args R_Mod D K) (hr : meth.sig.returnType = (some .boolean)) (hlk : meth.locks = false) (hz : s.heap.size + 0 = B + n)   : ∀ (g : m_G)  (r : Int32) (g' : m_G), f_Mod_out_9 g  = some (r, g') → ∀ (H : Heap) (locs : List Loc), m_S D B K n g s.heap H locs → ∀ ls : Array Slot, lv_has ls 2 [] → W p l e ({ frames := 0, cells := 0, slots := 0, locals := 0 } : Room) s m args below meth c H locs 0 0 (MQ below (m_Q D B K (some (.int r)) n g') args s 0 0 (fun q => B ≤ q)) (F0 m 9 ls []) := by
  have hx := E.1.1
  have hb := E.1.2.1
  have hts := E.1.2.2.2.2
  intro g  r g' hF H locs S ls hl
  unfold f_Mod_out_9 at hF
  refine lv_iconst (v := 1) hx hb d_Mod_out_9 (by decide) ?_
  refine lv_goto (tgt := 14) hx hb d_Mod_out_10 (by decide) ?_
  exact c_Mod_out_14 E hr hlk hz _ _ _ _ hF _ _ S _ (lv_sub hl [] rfl)
end S_Mod_out
def f_Mod_out  (g : m_G) (x0 : Int32) (x1 : Int32) : Option (Int32 × m_G) :=
  if (x0 : Int32) < 0 then
    f_Mod_out_9 g 
  else
    if (x0 : Int32) < x1 then
      f_Mod_out_14 g 0
    else
      f_Mod_out_9 g 
set_option maxHeartbeats 1000000 in
set_option maxRecDepth 100000 in
theorem c_Mod_out (l : Launch) (D : va_G) (B : Nat) (K : Nat → ClassId)  (n : Nat) (g : m_G) (x0 : Int32) (x1 : Int32) (r : Int32) (g' : m_G) (hF : f_Mod_out g x0 x1 = some (r, g')) : Met l y_Mod_out (Cond.code y_Mod_out b_Mod_out 2 (some .boolean) :: m_TB) ({ frames := 0, cells := 0, slots := 0, locals := 0 } : Room) (m_Pc D B K n g [.int x0, .int x1]) (m_Q D B K (some (.int r)) n g') 0 0 (fun q => B ≤ q) := by
  refine m_met (by decide) (Nat.le_of_ble_eq_true rfl) ?_
  intro p e s m args below meth c ls E hr hlk hin hsz S hl
  have E : m_V p m c b_Mod_out 2 s args R_Mod D K := E
  have hz : s.heap.size + 0 = B + n := hsz
  have hl : lv_has ls 2 [(0, .int x0), (1, .int x1)] := hl
  have hx := E.1.1
  have hb := E.1.2.1
  have hts := E.1.2.2.2.2
  unfold f_Mod_out at hF
  refine lv_iload_n hx hb d_Mod_out_0 rfl (lv_at hl 0 rfl) ?_
  refine lv_if_lt (tgt := 9) hx hb d_Mod_out_1 (by decide) (fun c_1 => ?_) (fun c_1 => ?_)
  · rw [if_pos c_1] at hF
    exact c_Mod_out_9 E hr hlk hz _ _ _ hF _ _ S _ (lv_sub hl [] rfl)
  · rw [if_neg c_1] at hF
    refine lv_iload_n hx hb d_Mod_out_4 rfl (lv_at hl 0 rfl) ?_
    refine lv_iload_n hx hb d_Mod_out_5 rfl (lv_at hl 1 rfl) ?_
    refine lv_icmp_lt (tgt := 13) hx hb d_Mod_out_6 (by decide) (fun c_2 => ?_) (fun c_2 => ?_)
    · rw [if_pos c_2] at hF
      refine lv_iconst (v := 0) hx hb d_Mod_out_13 (by decide) ?_
      exact c_Mod_out_14 E hr hlk hz _ _ _ _ hF _ _ S _ (lv_sub hl [] rfl)
    · rw [if_neg c_2] at hF
      exact c_Mod_out_9 E hr hlk hz _ _ _ hF _ _ S _ (lv_sub hl [] rfl)
def f_Mod_type  (g : m_G) (a0 : Nat) (x1 : Int32) : Option (Int32 × m_G) :=
  m_bd (f_Mod_out g x1 256) fun v_2 g_1 =>
  if (v_2 : Int32) = 0 then
    (m_gR g_1 a0 8 1).bind fun v_4 =>
    Option.bind v_4 fun a_5 =>
    (m_ld g_1 a_5 0 30).bind fun v_6 =>
    if (v_6 : Int32) = 40 then
      some ((-2), g_1)
    else
      (m_gR g_1 a0 8 0).bind fun v_8 =>
      (m_gR g_1 a0 8 1).bind fun v_9 =>
      Option.bind v_9 fun a_10 =>
      (m_ld g_1 a_10 0 30).bind fun v_11 =>
      Option.bind v_8 fun a_12 =>
      (m_st g_1 a_12 0 (1200 + v_11) x1).bind fun g_13 =>
      (m_gR g_13 a0 8 1).bind fun v_14 =>
      Option.bind v_14 fun a_15 =>
      (m_ld g_13 a_15 0 30).bind fun v_16 =>
      (m_st g_13 a_15 0 30 (v_16 + 1)).bind fun g_17 =>
      (m_gR g_17 a0 8 1).bind fun v_18 =>
      Option.bind v_18 fun a_19 =>
      (m_ld g_17 a_19 0 30).bind fun v_20 =>
      some (v_20, g_17)
  else
    some ((-1), g_1)
set_option maxHeartbeats 1000000 in
set_option maxRecDepth 100000 in
theorem c_Mod_type (l : Launch) (D : va_G) (B : Nat) (K : Nat → ClassId)  (n : Nat) (g : m_G) (a0 : Nat) (x1 : Int32) (r : Int32) (g' : m_G) (hF : f_Mod_type g a0 x1 = some (r, g')) : Met l y_Mod_type (Cond.code y_Mod_type b_Mod_type 2 (some .int) :: m_TB) ({ frames := 1, cells := 0, slots := 0, locals := 21 } : Room) (m_Pc D B K n g [.ref (B + a0), .int x1]) (m_Q D B K (some (.int r)) n g') 0 0 (fun q => B ≤ q) := by
  refine m_met (by decide) (Nat.le_of_ble_eq_true rfl) ?_
  intro p e s m args below meth c ls E hr hlk hin hsz S hl
  have E : m_V p m c b_Mod_type 2 s args R_Mod D K := E
  have hz : s.heap.size + 0 = B + n := hsz
  have hl : lv_has ls 2 [(0, .ref (B + a0)), (1, .int x1)] := hl
  have hx := E.1.1
  have hb := E.1.2.1
  have hts := E.1.2.2.2.2
  unfold f_Mod_type at hF
  refine lv_iload_n hx hb d_Mod_type_0 rfl (lv_at hl 1 rfl) ?_
  refine lv_sipush (v := 256) hx hb d_Mod_type_1 (by decide) ?_
  replace hF := m_bd_inv hF
  obtain ⟨v_2, g_1, eg_1, hF⟩ := hF
  refine m_callS (B := B) (nn := 2) (As := [.int x1, .int 256]) (rest := []) (v := (some (.int v_2))) E S hz (c_Mod_out l D B K n g x1 256 v_2 g_1 eg_1) qc_Mod_out ⟨rfl, rfl⟩ (Or.inl qw_303) qw_305 qw_304 (by decide +kernel) ⟨Nat.le_of_ble_eq_true rfl, Nat.le_of_ble_eq_true rfl⟩ rfl hl.1 (Nat.le_of_ble_eq_true rfl) d_Mod_type_4 ⟨Nat.le_of_ble_eq_true rfl, Nat.le_of_ble_eq_true rfl⟩ (fun H locs S => ?_)
  refine W.eq (g2 := F0 m 7 ls [.int v_2]) rfl ?_
  refine lv_if_eq (tgt := 12) hx hb d_Mod_type_7 (by decide) (fun c_3 => ?_) (fun c_3 => ?_)
  · rw [if_pos c_3] at hF
    refine lv_aload_n hx hb d_Mod_type_12 rfl (lv_at hl 0 rfl) ?_
    replace hF := Option.bind_eq_some_iff.mp hF
    obtain ⟨v_4, ev_4, hF⟩ := hF
    refine m_getR (B := B) (a := a0) E S fd_Mod_lengths (Or.inl qw_285) ev_4 d_Mod_type_13 ?_
    refine lv_bipush (v := 30) hx hb d_Mod_type_16 (by decide) ?_
    replace hF := Option.bind_eq_some_iff.mp hF
    obtain ⟨a_5, ea_5, hF⟩ := hF
    subst ea_5
    replace hF := Option.bind_eq_some_iff.mp hF
    obtain ⟨v_6, ev_6, hF⟩ := hF
    refine m_iald (B := B) (a := a_5) (t := 0) E S rfl ev_6 d_Mod_type_18 ?_
    refine lv_bipush (v := 40) hx hb d_Mod_type_19 (by decide) ?_
    refine lv_icmp_ne (tgt := 27) hx hb d_Mod_type_21 (by decide) (fun c_7 => ?_) (fun c_7 => ?_)
    · rw [if_neg c_7] at hF
      refine lv_aload_n hx hb d_Mod_type_27 rfl (lv_at hl 0 rfl) ?_
      replace hF := Option.bind_eq_some_iff.mp hF
      obtain ⟨v_8, ev_8, hF⟩ := hF
      refine m_getR (B := B) (a := a0) E S fd_Mod_chars (Or.inl qw_284) ev_8 d_Mod_type_28 ?_
      refine lv_sipush (v := 1200) hx hb d_Mod_type_31 (by decide) ?_
      refine lv_aload_n hx hb d_Mod_type_34 rfl (lv_at hl 0 rfl) ?_
      replace hF := Option.bind_eq_some_iff.mp hF
      obtain ⟨v_9, ev_9, hF⟩ := hF
      refine m_getR (B := B) (a := a0) E S fd_Mod_lengths (Or.inl qw_285) ev_9 d_Mod_type_35 ?_
      refine lv_bipush (v := 30) hx hb d_Mod_type_38 (by decide) ?_
      replace hF := Option.bind_eq_some_iff.mp hF
      obtain ⟨a_10, ea_10, hF⟩ := hF
      subst ea_10
      replace hF := Option.bind_eq_some_iff.mp hF
      obtain ⟨v_11, ev_11, hF⟩ := hF
      refine m_iald (B := B) (a := a_10) (t := 0) E S rfl ev_11 d_Mod_type_40 ?_
      refine lv_iadd hx hb d_Mod_type_41 ?_
      refine lv_iload_n hx hb d_Mod_type_42 rfl (lv_at hl 1 rfl) ?_
      replace hF := Option.bind_eq_some_iff.mp hF
      obtain ⟨a_12, ea_12, hF⟩ := hF
      subst ea_12
      replace hF := Option.bind_eq_some_iff.mp hF
      obtain ⟨g_13, eg_13, hF⟩ := hF
      refine m_iast (B := B) (a := a_12) (t := 0) E S rfl eg_13 d_Mod_type_43 (fun H locs S => ?_)
      refine lv_aload_n hx hb d_Mod_type_44 rfl (lv_at hl 0 rfl) ?_
      replace hF := Option.bind_eq_some_iff.mp hF
      obtain ⟨v_14, ev_14, hF⟩ := hF
      refine m_getR (B := B) (a := a0) E S fd_Mod_lengths (Or.inl qw_285) ev_14 d_Mod_type_45 ?_
      refine lv_bipush (v := 30) hx hb d_Mod_type_48 (by decide) ?_
      refine lv_dup2_11 hx hb d_Mod_type_50 rfl (m_r_cat B v_14) ?_
      replace hF := Option.bind_eq_some_iff.mp hF
      obtain ⟨a_15, ea_15, hF⟩ := hF
      subst ea_15
      replace hF := Option.bind_eq_some_iff.mp hF
      obtain ⟨v_16, ev_16, hF⟩ := hF
      refine m_iald (B := B) (a := a_15) (t := 0) E S rfl ev_16 d_Mod_type_51 ?_
      refine lv_iconst (v := 1) hx hb d_Mod_type_52 (by decide) ?_
      refine lv_iadd hx hb d_Mod_type_53 ?_
      replace hF := Option.bind_eq_some_iff.mp hF
      obtain ⟨g_17, eg_17, hF⟩ := hF
      refine m_iast (B := B) (a := a_15) (t := 0) E S rfl eg_17 d_Mod_type_54 (fun H locs S => ?_)
      refine lv_aload_n hx hb d_Mod_type_55 rfl (lv_at hl 0 rfl) ?_
      replace hF := Option.bind_eq_some_iff.mp hF
      obtain ⟨v_18, ev_18, hF⟩ := hF
      refine m_getR (B := B) (a := a0) E S fd_Mod_lengths (Or.inl qw_285) ev_18 d_Mod_type_56 ?_
      refine lv_bipush (v := 30) hx hb d_Mod_type_59 (by decide) ?_
      replace hF := Option.bind_eq_some_iff.mp hF
      obtain ⟨a_19, ea_19, hF⟩ := hF
      subst ea_19
      replace hF := Option.bind_eq_some_iff.mp hF
      obtain ⟨v_20, ev_20, hF⟩ := hF
      refine m_iald (B := B) (a := a_19) (t := 0) E S rfl ev_20 d_Mod_type_61 ?_
      cases hF
      exact m_iret E S hz hr hlk d_Mod_type_62
    · rw [if_pos c_7] at hF
      refine lv_bipush (v := (-2)) hx hb d_Mod_type_24 (by decide) ?_
      cases hF
      exact m_iret E S hz hr hlk d_Mod_type_26
  · rw [if_neg c_3] at hF
    refine lv_iconst (v := (-1)) hx hb d_Mod_type_10 (by decide) ?_
    cases hF
    exact m_iret E S hz hr hlk d_Mod_type_11
def f_Mod_at  (g : m_G) (a0 : Nat) (x1 : Int32) (x2 : Int32) : Option (Int32 × m_G) :=
  (m_gR g a0 8 0).bind fun v_1 =>
  Option.bind v_1 fun a_2 =>
  (m_ld g a_2 0 ((40 * x1) + x2)).bind fun v_3 =>
  some (v_3, g)
set_option maxHeartbeats 1000000 in
set_option maxRecDepth 100000 in
theorem c_Mod_at (l : Launch) (D : va_G) (B : Nat) (K : Nat → ClassId)  (n : Nat) (g : m_G) (a0 : Nat) (x1 : Int32) (x2 : Int32) (r : Int32) (g' : m_G) (hF : f_Mod_at g a0 x1 x2 = some (r, g')) : Met l y_Mod_at (Cond.code y_Mod_at b_Mod_at 3 (some .int) :: m_TB) ({ frames := 0, cells := 0, slots := 0, locals := 0 } : Room) (m_Pc D B K n g [.ref (B + a0), .int x1, .int x2]) (m_Q D B K (some (.int r)) n g') 0 0 (fun q => B ≤ q) := by
  refine m_met (by decide) (Nat.le_of_ble_eq_true rfl) ?_
  intro p e s m args below meth c ls E hr hlk hin hsz S hl
  have E : m_V p m c b_Mod_at 3 s args R_Mod D K := E
  have hz : s.heap.size + 0 = B + n := hsz
  have hl : lv_has ls 3 [(0, .ref (B + a0)), (1, .int x1), (2, .int x2)] := hl
  have hx := E.1.1
  have hb := E.1.2.1
  have hts := E.1.2.2.2.2
  unfold f_Mod_at at hF
  refine lv_aload_n hx hb d_Mod_at_0 rfl (lv_at hl 0 rfl) ?_
  replace hF := Option.bind_eq_some_iff.mp hF
  obtain ⟨v_1, ev_1, hF⟩ := hF
  refine m_getR (B := B) (a := a0) E S fd_Mod_chars (Or.inl qw_284) ev_1 d_Mod_at_1 ?_
  refine lv_bipush (v := 40) hx hb d_Mod_at_4 (by decide) ?_
  refine lv_iload_n hx hb d_Mod_at_6 rfl (lv_at hl 1 rfl) ?_
  refine lv_imul hx hb d_Mod_at_7 ?_
  refine lv_iload_n hx hb d_Mod_at_8 rfl (lv_at hl 2 rfl) ?_
  refine lv_iadd hx hb d_Mod_at_9 ?_
  replace hF := Option.bind_eq_some_iff.mp hF
  obtain ⟨a_2, ea_2, hF⟩ := hF
  subst ea_2
  replace hF := Option.bind_eq_some_iff.mp hF
  obtain ⟨v_3, ev_3, hF⟩ := hF
  refine m_iald (B := B) (a := a_2) (t := 0) E S rfl ev_3 d_Mod_at_10 ?_
  cases hF
  exact m_iret E S hz hr hlk d_Mod_at_11
section S_Mod_enter
variable {p : Program} {l : Launch} {e : Env} {s : State} {m : MethodId} {args : Array Value} {below : List Frame} {meth : Method} {c : Code} {D : va_G} {B n : Nat} {K : Nat → ClassId}
def f_Mod_enter_14   : Nat → m_G → Nat → Int32 → Option (Int32 × m_G)
  | 0, _, _, _ => none
  | fu + 1, g, a0, x1 =>
    (m_gR g a0 8 1).bind fun v_1 =>
    Option.bind v_1 fun a_2 =>
    (m_ld g a_2 0 30).bind fun v_3 =>
    if (v_3 : Int32) ≤ x1 then
      (m_gR g a0 8 1).bind fun v_5 =>
      (m_gI g a0 8 2).bind fun v_6 =>
      (m_gR g a0 8 1).bind fun v_7 =>
      Option.bind v_7 fun a_8 =>
      (m_ld g a_8 0 30).bind fun v_9 =>
      Option.bind v_5 fun a_10 =>
      (m_st g a_10 0 v_6 v_9).bind fun g_11 =>
      (m_gR g_11 a0 8 1).bind fun v_12 =>
      Option.bind v_12 fun a_13 =>
      (m_st g_11 a_13 0 30 0).bind fun g_14 =>
      (m_gI g_14 a0 8 2).bind fun v_15 =>
      (m_pI g_14 a0 8 2 (v_15 + 1)).bind fun g_16 =>
      (m_gI g_16 a0 8 2).bind fun v_17 =>
      some (v_17, g_16)
    else
      (m_gR g a0 8 0).bind fun v_18 =>
      (m_gI g a0 8 2).bind fun v_19 =>
      m_gd (m_is g a0 8) <|
      m_bd (f_Mod_at g a0 30 x1) fun v_21 g_20 =>
      Option.bind v_18 fun a_22 =>
      (m_st g_20 a_22 0 ((40 * v_19) + x1) v_21).bind fun g_23 =>
      f_Mod_enter_14 fu g_23 a0 (x1 + 1)
set_option maxHeartbeats 1000000 in
set_option maxRecDepth 100000 in
theorem c_Mod_enter_14 (E : m_V p m c b_Mod_enter 2 s args R_Mod D K) (hr : meth.sig.returnType = (some .int)) (hlk : meth.locks = false) (hz : s.heap.size + 0 = B + n)   : ∀ fu : Nat, ∀ (g : m_G) (a0 : Nat) (x1 : Int32) (r : Int32) (g' : m_G), f_Mod_enter_14  fu g a0 x1 = some (r, g') → ∀ (H : Heap) (locs : List Loc), m_S D B K n g s.heap H locs → ∀ ls : Array Slot, lv_has ls 2 [(0, .ref (B + a0)), (1, .int x1)] → W p l e ({ frames := 1, cells := 0, slots := 0, locals := 22 } : Room) s m args below meth c H locs 0 0 (MQ below (m_Q D B K (some (.int r)) n g') args s 0 0 (fun q => B ≤ q)) (F0 m 14 ls []) := by
  have hx := E.1.1
  have hb := E.1.2.1
  have hts := E.1.2.2.2.2
  intro fu
  induction fu with
  | zero => intro g a0 x1 r g' hF; cases hF
  | succ fu ih =>
    intro g a0 x1 r g' hF H locs S ls hl
    rw [f_Mod_enter_14] at hF
    refine lv_iload_n hx hb d_Mod_enter_14 rfl (lv_at hl 1 rfl) ?_
    refine lv_aload_n hx hb d_Mod_enter_15 rfl (lv_at hl 0 rfl) ?_
    replace hF := Option.bind_eq_some_iff.mp hF
    obtain ⟨v_1, ev_1, hF⟩ := hF
    refine m_getR (B := B) (a := a0) E S fd_Mod_lengths (Or.inl qw_285) ev_1 d_Mod_enter_16 ?_
    refine lv_bipush (v := 30) hx hb d_Mod_enter_19 (by decide) ?_
    replace hF := Option.bind_eq_some_iff.mp hF
    obtain ⟨a_2, ea_2, hF⟩ := hF
    subst ea_2
    replace hF := Option.bind_eq_some_iff.mp hF
    obtain ⟨v_3, ev_3, hF⟩ := hF
    refine m_iald (B := B) (a := a_2) (t := 0) E S rfl ev_3 d_Mod_enter_21 ?_
    refine lv_icmp_ge (tgt := 52) hx hb d_Mod_enter_22 (by decide) (fun c_4 => ?_) (fun c_4 => ?_)
    · rw [if_pos c_4] at hF
      refine lv_aload_n hx hb d_Mod_enter_52 rfl (lv_at hl 0 rfl) ?_
      replace hF := Option.bind_eq_some_iff.mp hF
      obtain ⟨v_5, ev_5, hF⟩ := hF
      refine m_getR (B := B) (a := a0) E S fd_Mod_lengths (Or.inl qw_285) ev_5 d_Mod_enter_53 ?_
      refine lv_aload_n hx hb d_Mod_enter_56 rfl (lv_at hl 0 rfl) ?_
      replace hF := Option.bind_eq_some_iff.mp hF
      obtain ⟨v_6, ev_6, hF⟩ := hF
      refine m_getI (B := B) (a := a0) E S fd_Mod_lines (Or.inl qw_306) ev_6 d_Mod_enter_57 ?_
      refine lv_aload_n hx hb d_Mod_enter_60 rfl (lv_at hl 0 rfl) ?_
      replace hF := Option.bind_eq_some_iff.mp hF
      obtain ⟨v_7, ev_7, hF⟩ := hF
      refine m_getR (B := B) (a := a0) E S fd_Mod_lengths (Or.inl qw_285) ev_7 d_Mod_enter_61 ?_
      refine lv_bipush (v := 30) hx hb d_Mod_enter_64 (by decide) ?_
      replace hF := Option.bind_eq_some_iff.mp hF
      obtain ⟨a_8, ea_8, hF⟩ := hF
      subst ea_8
      replace hF := Option.bind_eq_some_iff.mp hF
      obtain ⟨v_9, ev_9, hF⟩ := hF
      refine m_iald (B := B) (a := a_8) (t := 0) E S rfl ev_9 d_Mod_enter_66 ?_
      replace hF := Option.bind_eq_some_iff.mp hF
      obtain ⟨a_10, ea_10, hF⟩ := hF
      subst ea_10
      replace hF := Option.bind_eq_some_iff.mp hF
      obtain ⟨g_11, eg_11, hF⟩ := hF
      refine m_iast (B := B) (a := a_10) (t := 0) E S rfl eg_11 d_Mod_enter_67 (fun H locs S => ?_)
      refine lv_aload_n hx hb d_Mod_enter_68 rfl (lv_at hl 0 rfl) ?_
      replace hF := Option.bind_eq_some_iff.mp hF
      obtain ⟨v_12, ev_12, hF⟩ := hF
      refine m_getR (B := B) (a := a0) E S fd_Mod_lengths (Or.inl qw_285) ev_12 d_Mod_enter_69 ?_
      refine lv_bipush (v := 30) hx hb d_Mod_enter_72 (by decide) ?_
      refine lv_iconst (v := 0) hx hb d_Mod_enter_74 (by decide) ?_
      replace hF := Option.bind_eq_some_iff.mp hF
      obtain ⟨a_13, ea_13, hF⟩ := hF
      subst ea_13
      replace hF := Option.bind_eq_some_iff.mp hF
      obtain ⟨g_14, eg_14, hF⟩ := hF
      refine m_iast (B := B) (a := a_13) (t := 0) E S rfl eg_14 d_Mod_enter_75 (fun H locs S => ?_)
      refine lv_aload_n hx hb d_Mod_enter_76 rfl (lv_at hl 0 rfl) ?_
      refine lv_dup hx hb d_Mod_enter_77 rfl ?_
      replace hF := Option.bind_eq_some_iff.mp hF
      obtain ⟨v_15, ev_15, hF⟩ := hF
      refine m_getI (B := B) (a := a0) E S fd_Mod_lines (Or.inl qw_306) ev_15 d_Mod_enter_78 ?_
      refine lv_iconst (v := 1) hx hb d_Mod_enter_81 (by decide) ?_
      refine lv_iadd hx hb d_Mod_enter_82 ?_
      replace hF := Option.bind_eq_some_iff.mp hF
      obtain ⟨g_16, eg_16, hF⟩ := hF
      refine m_putI (B := B) (a := a0) E S fd_Mod_lines (Or.inl qw_306) eg_16 d_Mod_enter_83 (fun H locs S => ?_)
      refine lv_aload_n hx hb d_Mod_enter_86 rfl (lv_at hl 0 rfl) ?_
      replace hF := Option.bind_eq_some_iff.mp hF
      obtain ⟨v_17, ev_17, hF⟩ := hF
      refine m_getI (B := B) (a := a0) E S fd_Mod_lines (Or.inl qw_306) ev_17 d_Mod_enter_87 ?_
      cases hF
      exact m_iret E S hz hr hlk d_Mod_enter_90
    · rw [if_neg c_4] at hF
      refine lv_aload_n hx hb d_Mod_enter_25 rfl (lv_at hl 0 rfl) ?_
      replace hF := Option.bind_eq_some_iff.mp hF
      obtain ⟨v_18, ev_18, hF⟩ := hF
      refine m_getR (B := B) (a := a0) E S fd_Mod_chars (Or.inl qw_284) ev_18 d_Mod_enter_26 ?_
      refine lv_bipush (v := 40) hx hb d_Mod_enter_29 (by decide) ?_
      refine lv_aload_n hx hb d_Mod_enter_31 rfl (lv_at hl 0 rfl) ?_
      replace hF := Option.bind_eq_some_iff.mp hF
      obtain ⟨v_19, ev_19, hF⟩ := hF
      refine m_getI (B := B) (a := a0) E S fd_Mod_lines (Or.inl qw_306) ev_19 d_Mod_enter_32 ?_
      refine lv_imul hx hb d_Mod_enter_35 ?_
      refine lv_iload_n hx hb d_Mod_enter_36 rfl (lv_at hl 1 rfl) ?_
      refine lv_iadd hx hb d_Mod_enter_37 ?_
      refine lv_aload_n hx hb d_Mod_enter_38 rfl (lv_at hl 0 rfl) ?_
      refine lv_bipush (v := 30) hx hb d_Mod_enter_39 (by decide) ?_
      refine lv_iload_n hx hb d_Mod_enter_41 rfl (lv_at hl 1 rfl) ?_
      replace hF := m_gd_inv hF
      obtain ⟨eog_20, hF⟩ := hF
      replace hF := m_bd_inv hF
      obtain ⟨v_21, g_20, eg_20, hF⟩ := hF
      refine m_callV (B := B) (nn := 2) (b := a0) (As := [.int 30, .int x1]) (rest := [.int ((40 * v_19) + x1), m_r B v_18]) (v := (some (.int v_21))) E S hz (c_Mod_at l D B K n g a0 30 x1 v_21 g_20 eg_20) qc_Mod_at ⟨rfl, rfl⟩ (Or.inl qw_307) qw_308 qw_309 qw_304 (by decide +kernel) ⟨Nat.le_of_ble_eq_true rfl, Nat.le_of_ble_eq_true rfl⟩ eog_20 rfl rfl hl.1 (by simp only [List.map_cons, List.map_nil, m_r_cat]; exact Nat.le_of_ble_eq_true rfl) d_Mod_enter_42 ⟨Nat.le_of_ble_eq_true rfl, Nat.le_of_ble_eq_true rfl⟩ (fun H locs S => ?_)
      refine W.eq (g2 := F0 m 45 ls [.int v_21, .int ((40 * v_19) + x1), m_r B v_18]) rfl ?_
      replace hF := Option.bind_eq_some_iff.mp hF
      obtain ⟨a_22, ea_22, hF⟩ := hF
      subst ea_22
      replace hF := Option.bind_eq_some_iff.mp hF
      obtain ⟨g_23, eg_23, hF⟩ := hF
      refine m_iast (B := B) (a := a_22) (t := 0) E S rfl eg_23 d_Mod_enter_45 (fun H locs S => ?_)
      refine lv_iinc (v := (x1 + 1)) (lv' := [(1, .int (x1 + 1)), (0, .ref (B + a0))]) hx hb d_Mod_enter_46 hl (k := 1) rfl rfl (by decide) rfl (fun ls hl => ?_)
      refine lv_goto (tgt := 14) hx hb d_Mod_enter_49 (by decide) ?_
      exact ih _ _ _ _ _ hF _ _ S _ (lv_sub hl [1, 0] rfl)
end S_Mod_enter
def f_Mod_enter  (g : m_G) (a0 : Nat) : Option (Int32 × m_G) :=
  (m_gI g a0 8 2).bind fun v_1 =>
  if (v_1 : Int32) = 30 then
    some ((-2), g)
  else
    f_Mod_enter_14 m_fu g a0 0
set_option maxHeartbeats 1000000 in
set_option maxRecDepth 100000 in
theorem c_Mod_enter (l : Launch) (D : va_G) (B : Nat) (K : Nat → ClassId)  (n : Nat) (g : m_G) (a0 : Nat) (r : Int32) (g' : m_G) (hF : f_Mod_enter g a0 = some (r, g')) : Met l y_Mod_enter (Cond.code y_Mod_enter b_Mod_enter 2 (some .int) :: m_TB) ({ frames := 1, cells := 0, slots := 0, locals := 22 } : Room) (m_Pc D B K n g [.ref (B + a0)]) (m_Q D B K (some (.int r)) n g') 0 0 (fun q => B ≤ q) := by
  refine m_met (by decide) (Nat.le_of_ble_eq_true rfl) ?_
  intro p e s m args below meth c ls E hr hlk hin hsz S hl
  have E : m_V p m c b_Mod_enter 2 s args R_Mod D K := E
  have hz : s.heap.size + 0 = B + n := hsz
  have hl : lv_has ls 2 [(0, .ref (B + a0))] := hl
  have hx := E.1.1
  have hb := E.1.2.1
  have hts := E.1.2.2.2.2
  unfold f_Mod_enter at hF
  refine lv_aload_n hx hb d_Mod_enter_0 rfl (lv_at hl 0 rfl) ?_
  replace hF := Option.bind_eq_some_iff.mp hF
  obtain ⟨v_1, ev_1, hF⟩ := hF
  refine m_getI (B := B) (a := a0) E S fd_Mod_lines (Or.inl qw_306) ev_1 d_Mod_enter_1 ?_
  refine lv_bipush (v := 30) hx hb d_Mod_enter_4 (by decide) ?_
  refine lv_icmp_ne (tgt := 12) hx hb d_Mod_enter_6 (by decide) (fun c_2 => ?_) (fun c_2 => ?_)
  · rw [if_neg c_2] at hF
    refine lv_iconst (v := 0) hx hb d_Mod_enter_12 (by decide) ?_
    refine lv_istore_n (lv' := [(1, .int 0), (0, .ref (B + a0))]) hx hb d_Mod_enter_13 rfl hl (by decide) rfl (fun ls hl => ?_)
    exact c_Mod_enter_14 E hr hlk hz m_fu _ _ _ _ _ hF _ _ S _ (lv_sub hl [1, 0] rfl)
  · rw [if_pos c_2] at hF
    refine lv_bipush (v := (-2)) hx hb d_Mod_enter_9 (by decide) ?_
    cases hF
    exact m_iret E S hz hr hlk d_Mod_enter_11
def f_Mod_wipe  (g : m_G) (a0 : Nat) : Option (Int32 × m_G) :=
  (m_gI g a0 8 2).bind fun v_1 =>
  (m_pI g a0 8 2 0).bind fun g_2 =>
  (m_gR g_2 a0 8 1).bind fun v_3 =>
  Option.bind v_3 fun a_4 =>
  (m_st g_2 a_4 0 30 0).bind fun g_5 =>
  some (v_1, g_5)
set_option maxHeartbeats 1000000 in
set_option maxRecDepth 100000 in
theorem c_Mod_wipe (l : Launch) (D : va_G) (B : Nat) (K : Nat → ClassId)  (n : Nat) (g : m_G) (a0 : Nat) (r : Int32) (g' : m_G) (hF : f_Mod_wipe g a0 = some (r, g')) : Met l y_Mod_wipe (Cond.code y_Mod_wipe b_Mod_wipe 2 (some .int) :: m_TB) ({ frames := 0, cells := 0, slots := 0, locals := 0 } : Room) (m_Pc D B K n g [.ref (B + a0)]) (m_Q D B K (some (.int r)) n g') 0 0 (fun q => B ≤ q) := by
  refine m_met (by decide) (Nat.le_of_ble_eq_true rfl) ?_
  intro p e s m args below meth c ls E hr hlk hin hsz S hl
  have E : m_V p m c b_Mod_wipe 2 s args R_Mod D K := E
  have hz : s.heap.size + 0 = B + n := hsz
  have hl : lv_has ls 2 [(0, .ref (B + a0))] := hl
  have hx := E.1.1
  have hb := E.1.2.1
  have hts := E.1.2.2.2.2
  unfold f_Mod_wipe at hF
  refine lv_aload_n hx hb d_Mod_wipe_0 rfl (lv_at hl 0 rfl) ?_
  replace hF := Option.bind_eq_some_iff.mp hF
  obtain ⟨v_1, ev_1, hF⟩ := hF
  refine m_getI (B := B) (a := a0) E S fd_Mod_lines (Or.inl qw_306) ev_1 d_Mod_wipe_1 ?_
  refine lv_istore_n (lv' := [(1, .int v_1), (0, .ref (B + a0))]) hx hb d_Mod_wipe_4 rfl hl (by decide) rfl (fun ls hl => ?_)
  refine lv_aload_n hx hb d_Mod_wipe_5 rfl (lv_at hl 1 rfl) ?_
  refine lv_iconst (v := 0) hx hb d_Mod_wipe_6 (by decide) ?_
  replace hF := Option.bind_eq_some_iff.mp hF
  obtain ⟨g_2, eg_2, hF⟩ := hF
  refine m_putI (B := B) (a := a0) E S fd_Mod_lines (Or.inl qw_306) eg_2 d_Mod_wipe_7 (fun H locs S => ?_)
  refine lv_aload_n hx hb d_Mod_wipe_10 rfl (lv_at hl 1 rfl) ?_
  replace hF := Option.bind_eq_some_iff.mp hF
  obtain ⟨v_3, ev_3, hF⟩ := hF
  refine m_getR (B := B) (a := a0) E S fd_Mod_lengths (Or.inl qw_285) ev_3 d_Mod_wipe_11 ?_
  refine lv_bipush (v := 30) hx hb d_Mod_wipe_14 (by decide) ?_
  refine lv_iconst (v := 0) hx hb d_Mod_wipe_16 (by decide) ?_
  replace hF := Option.bind_eq_some_iff.mp hF
  obtain ⟨a_4, ea_4, hF⟩ := hF
  subst ea_4
  replace hF := Option.bind_eq_some_iff.mp hF
  obtain ⟨g_5, eg_5, hF⟩ := hF
  refine m_iast (B := B) (a := a_4) (t := 0) E S rfl eg_5 d_Mod_wipe_17 (fun H locs S => ?_)
  refine lv_iload_n hx hb d_Mod_wipe_18 rfl (lv_at hl 0 rfl) ?_
  cases hF
  exact m_iret E S hz hr hlk d_Mod_wipe_19
section S_Mod_letter
variable {p : Program} {l : Launch} {e : Env} {s : State} {m : MethodId} {args : Array Value} {below : List Frame} {meth : Method} {c : Code} {D : va_G} {B n : Nat} {K : Nat → ClassId}
def f_Mod_letter_166   (g : m_G) (a0 : Nat) : Option (Unit × m_G) :=
  (m_pL g a0 8 26 0).bind fun g_1 =>
  (m_pI g_1 a0 8 27 0).bind fun g_2 =>
  some ((), g_2)
set_option maxHeartbeats 1000000 in
set_option maxRecDepth 100000 in
theorem c_Mod_letter_166 (E : m_V p m c b_Mod_letter 4 s args R_Mod D K) (hr : meth.sig.returnType = none) (hlk : meth.locks = false) (hz : s.heap.size + 0 = B + n)   : ∀ (g : m_G) (a0 : Nat) (r : Unit) (g' : m_G), f_Mod_letter_166 g a0 = some (r, g') → ∀ (H : Heap) (locs : List Loc), m_S D B K n g s.heap H locs → ∀ ls : Array Slot, lv_has ls 4 [(0, .ref (B + a0))] → W p l e ({ frames := 0, cells := 0, slots := 0, locals := 0 } : Room) s m args below meth c H locs 0 0 (MQ below (m_Q D B K none n g') args s 0 0 (fun q => B ≤ q)) (F0 m 166 ls []) := by
  have hx := E.1.1
  have hb := E.1.2.1
  have hts := E.1.2.2.2.2
  intro g a0 r g' hF H locs S ls hl
  unfold f_Mod_letter_166 at hF
  refine lv_aload_n hx hb d_Mod_letter_166 rfl (lv_at hl 0 rfl) ?_
  refine lv_lconst (v := 0) hx hb d_Mod_letter_167 (by decide) ?_
  replace hF := Option.bind_eq_some_iff.mp hF
  obtain ⟨g_1, eg_1, hF⟩ := hF
  refine m_putL (B := B) (a := a0) E S fd_Mod_code (Or.inl qw_312) eg_1 d_Mod_letter_168 (fun H locs S => ?_)
  refine lv_aload_n hx hb d_Mod_letter_171 rfl (lv_at hl 0 rfl) ?_
  refine lv_iconst (v := 0) hx hb d_Mod_letter_172 (by decide) ?_
  replace hF := Option.bind_eq_some_iff.mp hF
  obtain ⟨g_2, eg_2, hF⟩ := hF
  refine m_putI (B := B) (a := a0) E S fd_Mod_letters (Or.inl qw_310) eg_2 d_Mod_letter_173 (fun H locs S => ?_)
  cases hF
  skip
  exact m_vret E S hz hr hlk d_Mod_letter_176
def f_Mod_letter_72   (g : m_G) (a0 : Nat) : Option (Unit × m_G) :=
  (m_gI g a0 8 27).bind fun v_1 =>
  (m_pI g a0 8 27 (v_1 + 1)).bind fun g_2 =>
  some ((), g_2)
set_option maxHeartbeats 1000000 in
set_option maxRecDepth 100000 in
theorem c_Mod_letter_72 (E : m_V p m c b_Mod_letter 4 s args R_Mod D K) (hr : meth.sig.returnType = none) (hlk : meth.locks = false) (hz : s.heap.size + 0 = B + n)   : ∀ (g : m_G) (a0 : Nat) (r : Unit) (g' : m_G), f_Mod_letter_72 g a0 = some (r, g') → ∀ (H : Heap) (locs : List Loc), m_S D B K n g s.heap H locs → ∀ ls : Array Slot, lv_has ls 4 [(0, .ref (B + a0))] → W p l e ({ frames := 0, cells := 0, slots := 0, locals := 0 } : Room) s m args below meth c H locs 0 0 (MQ below (m_Q D B K none n g') args s 0 0 (fun q => B ≤ q)) (F0 m 72 ls []) := by
  have hx := E.1.1
  have hb := E.1.2.1
  have hts := E.1.2.2.2.2
  intro g a0 r g' hF H locs S ls hl
  unfold f_Mod_letter_72 at hF
  refine lv_aload_n hx hb d_Mod_letter_72 rfl (lv_at hl 0 rfl) ?_
  refine lv_dup hx hb d_Mod_letter_73 rfl ?_
  replace hF := Option.bind_eq_some_iff.mp hF
  obtain ⟨v_1, ev_1, hF⟩ := hF
  refine m_getI (B := B) (a := a0) E S fd_Mod_letters (Or.inl qw_310) ev_1 d_Mod_letter_74 ?_
  refine lv_iconst (v := 1) hx hb d_Mod_letter_77 (by decide) ?_
  refine lv_iadd hx hb d_Mod_letter_78 ?_
  replace hF := Option.bind_eq_some_iff.mp hF
  obtain ⟨g_2, eg_2, hF⟩ := hF
  refine m_putI (B := B) (a := a0) E S fd_Mod_letters (Or.inl qw_310) eg_2 d_Mod_letter_79 (fun H locs S => ?_)
  cases hF
  skip
  exact m_vret E S hz hr hlk d_Mod_letter_82
def f_Mod_letter_43   (g : m_G) (a0 : Nat) (x2 : Int32) (y0 : Int32) : Option (Unit × m_G) :=
  if (y0 : Int32) ≤ 0 then
    (m_gI g a0 8 27).bind fun v_2 =>
    if (v_2 : Int32) ≤ 0 then
      f_Mod_letter_166 g a0
    else
      (m_gR g a0 8 15).bind fun v_4 =>
      (m_gI g a0 8 18).bind fun v_5 =>
      Option.bind v_4 fun a_6 =>
      (m_ld g a_6 0 v_5).bind fun v_7 =>
      if (50 : Int32) ≤ v_7 then
        f_Mod_letter_166 g a0
      else
        (m_gR g a0 8 16).bind fun v_9 =>
        (m_gI g a0 8 18).bind fun v_10 =>
        (m_gR g a0 8 15).bind fun v_11 =>
        (m_gI g a0 8 18).bind fun v_12 =>
        Option.bind v_11 fun a_13 =>
        (m_ld g a_13 0 v_12).bind fun v_14 =>
        (m_gL g a0 8 26).bind fun v_15 =>
        Option.bind v_9 fun a_16 =>
        (m_stL g a_16 2 ((50 * v_10) + v_14) v_15).bind fun g_17 =>
        (m_gR g_17 a0 8 17).bind fun v_18 =>
        (m_gI g_17 a0 8 18).bind fun v_19 =>
        (m_gR g_17 a0 8 15).bind fun v_20 =>
        (m_gI g_17 a0 8 18).bind fun v_21 =>
        Option.bind v_20 fun a_22 =>
        (m_ld g_17 a_22 0 v_21).bind fun v_23 =>
        Option.bind v_18 fun a_24 =>
        (m_st g_17 a_24 0 ((50 * v_19) + v_23) x2).bind fun g_25 =>
        (m_gR g_25 a0 8 15).bind fun v_26 =>
        (m_gI g_25 a0 8 18).bind fun v_27 =>
        Option.bind v_26 fun a_28 =>
        (m_ld g_25 a_28 0 v_27).bind fun v_29 =>
        (m_st g_25 a_28 0 v_27 (v_29 + 1)).bind fun g_30 =>
        f_Mod_letter_166 g_30 a0
  else
    (m_gI g a0 8 27).bind fun v_31 =>
    if (12 : Int32) ≤ v_31 then
      f_Mod_letter_72 g a0
    else
      (m_gL g a0 8 26).bind fun v_33 =>
      (m_pL g a0 8 26 ((32 * v_33) + (y0 : Int32).toInt64)).bind fun g_34 =>
      f_Mod_letter_72 g_34 a0
set_option maxHeartbeats 1000000 in
set_option maxRecDepth 100000 in
theorem c_Mod_letter_43 (E : m_V p m c b_Mod_letter 4 s args R_Mod D K) (hr : meth.sig.returnType = none) (hlk : meth.locks = false) (hz : s.heap.size + 0 = B + n)   : ∀ (g : m_G) (a0 : Nat) (x2 : Int32) (y0 : Int32) (r : Unit) (g' : m_G), f_Mod_letter_43 g a0 x2 y0 = some (r, g') → ∀ (H : Heap) (locs : List Loc), m_S D B K n g s.heap H locs → ∀ ls : Array Slot, lv_has ls 4 [(0, .ref (B + a0)), (2, .int x2)] → W p l e ({ frames := 0, cells := 0, slots := 0, locals := 0 } : Room) s m args below meth c H locs 0 0 (MQ below (m_Q D B K none n g') args s 0 0 (fun q => B ≤ q)) (F0 m 43 ls [.int y0]) := by
  have hx := E.1.1
  have hb := E.1.2.1
  have hts := E.1.2.2.2.2
  intro g a0 x2 y0 r g' hF H locs S ls hl
  unfold f_Mod_letter_43 at hF
  refine lv_istore_n (lv' := [(3, .int y0), (0, .ref (B + a0)), (2, .int x2)]) hx hb d_Mod_letter_43 rfl hl (by decide) rfl (fun ls hl => ?_)
  refine lv_iload_n hx hb d_Mod_letter_44 rfl (lv_at hl 0 rfl) ?_
  refine lv_if_le (tgt := 83) hx hb d_Mod_letter_45 (by decide) (fun c_1 => ?_) (fun c_1 => ?_)
  · rw [if_pos c_1] at hF
    refine lv_aload_n hx hb d_Mod_letter_83 rfl (lv_at hl 1 rfl) ?_
    replace hF := Option.bind_eq_some_iff.mp hF
    obtain ⟨v_2, ev_2, hF⟩ := hF
    refine m_getI (B := B) (a := a0) E S fd_Mod_letters (Or.inl qw_310) ev_2 d_Mod_letter_84 ?_
    refine lv_if_le (tgt := 166) hx hb d_Mod_letter_87 (by decide) (fun c_3 => ?_) (fun c_3 => ?_)
    · rw [if_pos c_3] at hF
      exact c_Mod_letter_166 E hr hlk hz _ _ _ _ hF _ _ S _ (lv_sub hl [1] rfl)
    · rw [if_neg c_3] at hF
      refine lv_aload_n hx hb d_Mod_letter_90 rfl (lv_at hl 1 rfl) ?_
      replace hF := Option.bind_eq_some_iff.mp hF
      obtain ⟨v_4, ev_4, hF⟩ := hF
      refine m_getR (B := B) (a := a0) E S fd_Mod_words (Or.inl qw_296) ev_4 d_Mod_letter_91 ?_
      refine lv_aload_n hx hb d_Mod_letter_94 rfl (lv_at hl 1 rfl) ?_
      replace hF := Option.bind_eq_some_iff.mp hF
      obtain ⟨v_5, ev_5, hF⟩ := hF
      refine m_getI (B := B) (a := a0) E S fd_Mod_target (Or.inl qw_311) ev_5 d_Mod_letter_95 ?_
      replace hF := Option.bind_eq_some_iff.mp hF
      obtain ⟨a_6, ea_6, hF⟩ := hF
      subst ea_6
      replace hF := Option.bind_eq_some_iff.mp hF
      obtain ⟨v_7, ev_7, hF⟩ := hF
      refine m_iald (B := B) (a := a_6) (t := 0) E S rfl ev_7 d_Mod_letter_98 ?_
      refine lv_bipush (v := 50) hx hb d_Mod_letter_99 (by decide) ?_
      refine lv_icmp_ge (tgt := 166) hx hb d_Mod_letter_101 (by decide) (fun c_8 => ?_) (fun c_8 => ?_)
      · rw [if_pos c_8] at hF
        exact c_Mod_letter_166 E hr hlk hz _ _ _ _ hF _ _ S _ (lv_sub hl [1] rfl)
      · rw [if_neg c_8] at hF
        refine lv_aload_n hx hb d_Mod_letter_104 rfl (lv_at hl 1 rfl) ?_
        replace hF := Option.bind_eq_some_iff.mp hF
        obtain ⟨v_9, ev_9, hF⟩ := hF
        refine m_getR (B := B) (a := a0) E S fd_Mod_codes (Or.inl qw_297) ev_9 d_Mod_letter_105 ?_
        refine lv_bipush (v := 50) hx hb d_Mod_letter_108 (by decide) ?_
        refine lv_aload_n hx hb d_Mod_letter_110 rfl (lv_at hl 1 rfl) ?_
        replace hF := Option.bind_eq_some_iff.mp hF
        obtain ⟨v_10, ev_10, hF⟩ := hF
        refine m_getI (B := B) (a := a0) E S fd_Mod_target (Or.inl qw_311) ev_10 d_Mod_letter_111 ?_
        refine lv_imul hx hb d_Mod_letter_114 ?_
        refine lv_aload_n hx hb d_Mod_letter_115 rfl (lv_at hl 1 rfl) ?_
        replace hF := Option.bind_eq_some_iff.mp hF
        obtain ⟨v_11, ev_11, hF⟩ := hF
        refine m_getR (B := B) (a := a0) E S fd_Mod_words (Or.inl qw_296) ev_11 d_Mod_letter_116 ?_
        refine lv_aload_n hx hb d_Mod_letter_119 rfl (lv_at hl 1 rfl) ?_
        replace hF := Option.bind_eq_some_iff.mp hF
        obtain ⟨v_12, ev_12, hF⟩ := hF
        refine m_getI (B := B) (a := a0) E S fd_Mod_target (Or.inl qw_311) ev_12 d_Mod_letter_120 ?_
        replace hF := Option.bind_eq_some_iff.mp hF
        obtain ⟨a_13, ea_13, hF⟩ := hF
        subst ea_13
        replace hF := Option.bind_eq_some_iff.mp hF
        obtain ⟨v_14, ev_14, hF⟩ := hF
        refine m_iald (B := B) (a := a_13) (t := 0) E S rfl ev_14 d_Mod_letter_123 ?_
        refine lv_iadd hx hb d_Mod_letter_124 ?_
        refine lv_aload_n hx hb d_Mod_letter_125 rfl (lv_at hl 1 rfl) ?_
        replace hF := Option.bind_eq_some_iff.mp hF
        obtain ⟨v_15, ev_15, hF⟩ := hF
        refine m_getL (B := B) (a := a0) E S fd_Mod_code (Or.inl qw_312) ev_15 d_Mod_letter_126 ?_
        replace hF := Option.bind_eq_some_iff.mp hF
        obtain ⟨a_16, ea_16, hF⟩ := hF
        subst ea_16
        replace hF := Option.bind_eq_some_iff.mp hF
        obtain ⟨g_17, eg_17, hF⟩ := hF
        refine m_last (B := B) (a := a_16) (t := 2) E S rfl eg_17 d_Mod_letter_129 (fun H locs S => ?_)
        refine lv_aload_n hx hb d_Mod_letter_130 rfl (lv_at hl 1 rfl) ?_
        replace hF := Option.bind_eq_some_iff.mp hF
        obtain ⟨v_18, ev_18, hF⟩ := hF
        refine m_getR (B := B) (a := a0) E S fd_Mod_fields (Or.inl qw_298) ev_18 d_Mod_letter_131 ?_
        refine lv_bipush (v := 50) hx hb d_Mod_letter_134 (by decide) ?_
        refine lv_aload_n hx hb d_Mod_letter_136 rfl (lv_at hl 1 rfl) ?_
        replace hF := Option.bind_eq_some_iff.mp hF
        obtain ⟨v_19, ev_19, hF⟩ := hF
        refine m_getI (B := B) (a := a0) E S fd_Mod_target (Or.inl qw_311) ev_19 d_Mod_letter_137 ?_
        refine lv_imul hx hb d_Mod_letter_140 ?_
        refine lv_aload_n hx hb d_Mod_letter_141 rfl (lv_at hl 1 rfl) ?_
        replace hF := Option.bind_eq_some_iff.mp hF
        obtain ⟨v_20, ev_20, hF⟩ := hF
        refine m_getR (B := B) (a := a0) E S fd_Mod_words (Or.inl qw_296) ev_20 d_Mod_letter_142 ?_
        refine lv_aload_n hx hb d_Mod_letter_145 rfl (lv_at hl 1 rfl) ?_
        replace hF := Option.bind_eq_some_iff.mp hF
        obtain ⟨v_21, ev_21, hF⟩ := hF
        refine m_getI (B := B) (a := a0) E S fd_Mod_target (Or.inl qw_311) ev_21 d_Mod_letter_146 ?_
        replace hF := Option.bind_eq_some_iff.mp hF
        obtain ⟨a_22, ea_22, hF⟩ := hF
        subst ea_22
        replace hF := Option.bind_eq_some_iff.mp hF
        obtain ⟨v_23, ev_23, hF⟩ := hF
        refine m_iald (B := B) (a := a_22) (t := 0) E S rfl ev_23 d_Mod_letter_149 ?_
        refine lv_iadd hx hb d_Mod_letter_150 ?_
        refine lv_iload_n hx hb d_Mod_letter_151 rfl (lv_at hl 2 rfl) ?_
        replace hF := Option.bind_eq_some_iff.mp hF
        obtain ⟨a_24, ea_24, hF⟩ := hF
        subst ea_24
        replace hF := Option.bind_eq_some_iff.mp hF
        obtain ⟨g_25, eg_25, hF⟩ := hF
        refine m_iast (B := B) (a := a_24) (t := 0) E S rfl eg_25 d_Mod_letter_152 (fun H locs S => ?_)
        refine lv_aload_n hx hb d_Mod_letter_153 rfl (lv_at hl 1 rfl) ?_
        replace hF := Option.bind_eq_some_iff.mp hF
        obtain ⟨v_26, ev_26, hF⟩ := hF
        refine m_getR (B := B) (a := a0) E S fd_Mod_words (Or.inl qw_296) ev_26 d_Mod_letter_154 ?_
        refine lv_aload_n hx hb d_Mod_letter_157 rfl (lv_at hl 1 rfl) ?_
        replace hF := Option.bind_eq_some_iff.mp hF
        obtain ⟨v_27, ev_27, hF⟩ := hF
        refine m_getI (B := B) (a := a0) E S fd_Mod_target (Or.inl qw_311) ev_27 d_Mod_letter_158 ?_
        refine lv_dup2_11 hx hb d_Mod_letter_161 rfl (m_r_cat B v_26) ?_
        replace hF := Option.bind_eq_some_iff.mp hF
        obtain ⟨a_28, ea_28, hF⟩ := hF
        subst ea_28
        replace hF := Option.bind_eq_some_iff.mp hF
        obtain ⟨v_29, ev_29, hF⟩ := hF
        refine m_iald (B := B) (a := a_28) (t := 0) E S rfl ev_29 d_Mod_letter_162 ?_
        refine lv_iconst (v := 1) hx hb d_Mod_letter_163 (by decide) ?_
        refine lv_iadd hx hb d_Mod_letter_164 ?_
        replace hF := Option.bind_eq_some_iff.mp hF
        obtain ⟨g_30, eg_30, hF⟩ := hF
        refine m_iast (B := B) (a := a_28) (t := 0) E S rfl eg_30 d_Mod_letter_165 (fun H locs S => ?_)
        exact c_Mod_letter_166 E hr hlk hz _ _ _ _ hF _ _ S _ (lv_sub hl [1] rfl)
  · rw [if_neg c_1] at hF
    refine lv_aload_n hx hb d_Mod_letter_48 rfl (lv_at hl 1 rfl) ?_
    replace hF := Option.bind_eq_some_iff.mp hF
    obtain ⟨v_31, ev_31, hF⟩ := hF
    refine m_getI (B := B) (a := a0) E S fd_Mod_letters (Or.inl qw_310) ev_31 d_Mod_letter_49 ?_
    refine lv_bipush (v := 12) hx hb d_Mod_letter_52 (by decide) ?_
    refine lv_icmp_ge (tgt := 72) hx hb d_Mod_letter_54 (by decide) (fun c_32 => ?_) (fun c_32 => ?_)
    · rw [if_pos c_32] at hF
      exact c_Mod_letter_72 E hr hlk hz _ _ _ _ hF _ _ S _ (lv_sub hl [1] rfl)
    · rw [if_neg c_32] at hF
      refine lv_aload_n hx hb d_Mod_letter_57 rfl (lv_at hl 1 rfl) ?_
      refine lv_ldc2 (v := 32) hx hb E.1.2.2.2.1 (hts _ qw_313) d_Mod_letter_58 ?_
      refine lv_aload_n hx hb d_Mod_letter_61 rfl (lv_at hl 1 rfl) ?_
      replace hF := Option.bind_eq_some_iff.mp hF
      obtain ⟨v_33, ev_33, hF⟩ := hF
      refine m_getL (B := B) (a := a0) E S fd_Mod_code (Or.inl qw_312) ev_33 d_Mod_letter_62 ?_
      refine lv_lmul hx hb d_Mod_letter_65 ?_
      refine lv_iload_n hx hb d_Mod_letter_66 rfl (lv_at hl 0 rfl) ?_
      refine lv_i2l hx hb d_Mod_letter_67 rfl ?_
      refine lv_ladd hx hb d_Mod_letter_68 ?_
      replace hF := Option.bind_eq_some_iff.mp hF
      obtain ⟨g_34, eg_34, hF⟩ := hF
      refine m_putL (B := B) (a := a0) E S fd_Mod_code (Or.inl qw_312) eg_34 d_Mod_letter_69 (fun H locs S => ?_)
      exact c_Mod_letter_72 E hr hlk hz _ _ _ _ hF _ _ S _ (lv_sub hl [1] rfl)
def f_Mod_letter_42   (g : m_G) (a0 : Nat) (x2 : Int32) : Option (Unit × m_G) :=
  f_Mod_letter_43 g a0 x2 0
set_option maxHeartbeats 1000000 in
set_option maxRecDepth 100000 in
theorem c_Mod_letter_42 (E : m_V p m c b_Mod_letter 4 s args R_Mod D K) (hr : meth.sig.returnType = none) (hlk : meth.locks = false) (hz : s.heap.size + 0 = B + n)   : ∀ (g : m_G) (a0 : Nat) (x2 : Int32) (r : Unit) (g' : m_G), f_Mod_letter_42 g a0 x2 = some (r, g') → ∀ (H : Heap) (locs : List Loc), m_S D B K n g s.heap H locs → ∀ ls : Array Slot, lv_has ls 4 [(0, .ref (B + a0)), (2, .int x2)] → W p l e ({ frames := 0, cells := 0, slots := 0, locals := 0 } : Room) s m args below meth c H locs 0 0 (MQ below (m_Q D B K none n g') args s 0 0 (fun q => B ≤ q)) (F0 m 42 ls []) := by
  have hx := E.1.1
  have hb := E.1.2.1
  have hts := E.1.2.2.2.2
  intro g a0 x2 r g' hF H locs S ls hl
  unfold f_Mod_letter_42 at hF
  refine lv_iconst (v := 0) hx hb d_Mod_letter_42 (by decide) ?_
  exact c_Mod_letter_43 E hr hlk hz _ _ _ _ _ _ hF _ _ S _ (lv_sub hl [0, 1] rfl)
def f_Mod_letter_21   (g : m_G) (a0 : Nat) (x1 : Int32) (x2 : Int32) : Option (Unit × m_G) :=
  if (x1 : Int32) < 65 then
    f_Mod_letter_42 g a0 x2
  else
    if (90 : Int32) < x1 then
      f_Mod_letter_42 g a0 x2
    else
      f_Mod_letter_43 g a0 x2 ((x1 - 65) + 1)
set_option maxHeartbeats 1000000 in
set_option maxRecDepth 100000 in
theorem c_Mod_letter_21 (E : m_V p m c b_Mod_letter 4 s args R_Mod D K) (hr : meth.sig.returnType = none) (hlk : meth.locks = false) (hz : s.heap.size + 0 = B + n)   : ∀ (g : m_G) (a0 : Nat) (x1 : Int32) (x2 : Int32) (r : Unit) (g' : m_G), f_Mod_letter_21 g a0 x1 x2 = some (r, g') → ∀ (H : Heap) (locs : List Loc), m_S D B K n g s.heap H locs → ∀ ls : Array Slot, lv_has ls 4 [(0, .ref (B + a0)), (1, .int x1), (2, .int x2)] → W p l e ({ frames := 0, cells := 0, slots := 0, locals := 0 } : Room) s m args below meth c H locs 0 0 (MQ below (m_Q D B K none n g') args s 0 0 (fun q => B ≤ q)) (F0 m 21 ls []) := by
  have hx := E.1.1
  have hb := E.1.2.1
  have hts := E.1.2.2.2.2
  intro g a0 x1 x2 r g' hF H locs S ls hl
  unfold f_Mod_letter_21 at hF
  refine lv_iload_n hx hb d_Mod_letter_21 rfl (lv_at hl 1 rfl) ?_
  refine lv_bipush (v := 65) hx hb d_Mod_letter_22 (by decide) ?_
  refine lv_icmp_lt (tgt := 42) hx hb d_Mod_letter_24 (by decide) (fun c_1 => ?_) (fun c_1 => ?_)
  · rw [if_pos c_1] at hF
    exact c_Mod_letter_42 E hr hlk hz _ _ _ _ _ hF _ _ S _ (lv_sub hl [0, 2] rfl)
  · rw [if_neg c_1] at hF
    refine lv_iload_n hx hb d_Mod_letter_27 rfl (lv_at hl 1 rfl) ?_
    refine lv_bipush (v := 90) hx hb d_Mod_letter_28 (by decide) ?_
    refine lv_icmp_gt (tgt := 42) hx hb d_Mod_letter_30 (by decide) (fun c_2 => ?_) (fun c_2 => ?_)
    · rw [if_pos c_2] at hF
      exact c_Mod_letter_42 E hr hlk hz _ _ _ _ _ hF _ _ S _ (lv_sub hl [0, 2] rfl)
    · rw [if_neg c_2] at hF
      refine lv_iload_n hx hb d_Mod_letter_33 rfl (lv_at hl 1 rfl) ?_
      refine lv_bipush (v := 65) hx hb d_Mod_letter_34 (by decide) ?_
      refine lv_isub hx hb d_Mod_letter_36 ?_
      refine lv_iconst (v := 1) hx hb d_Mod_letter_37 (by decide) ?_
      refine lv_iadd hx hb d_Mod_letter_38 ?_
      refine lv_goto (tgt := 43) hx hb d_Mod_letter_39 (by decide) ?_
      exact c_Mod_letter_43 E hr hlk hz _ _ _ _ _ _ hF _ _ S _ (lv_sub hl [0, 2] rfl)
end S_Mod_letter
def f_Mod_letter  (g : m_G) (a0 : Nat) (x1 : Int32) (x2 : Int32) : Option (Unit × m_G) :=
  if (x1 : Int32) < 97 then
    f_Mod_letter_21 g a0 x1 x2
  else
    if (122 : Int32) < x1 then
      f_Mod_letter_21 g a0 x1 x2
    else
      f_Mod_letter_43 g a0 x2 ((x1 - 97) + 1)
set_option maxHeartbeats 1000000 in
set_option maxRecDepth 100000 in
theorem c_Mod_letter (l : Launch) (D : va_G) (B : Nat) (K : Nat → ClassId)  (n : Nat) (g : m_G) (a0 : Nat) (x1 : Int32) (x2 : Int32) (r : Unit) (g' : m_G) (hF : f_Mod_letter g a0 x1 x2 = some (r, g')) : Met l y_Mod_letter (Cond.code y_Mod_letter b_Mod_letter 4 none :: m_TB) ({ frames := 0, cells := 0, slots := 0, locals := 0 } : Room) (m_Pc D B K n g [.ref (B + a0), .int x1, .int x2]) (m_Q D B K none n g') 0 0 (fun q => B ≤ q) := by
  refine m_met (by decide) (Nat.le_of_ble_eq_true rfl) ?_
  intro p e s m args below meth c ls E hr hlk hin hsz S hl
  have E : m_V p m c b_Mod_letter 4 s args R_Mod D K := E
  have hz : s.heap.size + 0 = B + n := hsz
  have hl : lv_has ls 4 [(0, .ref (B + a0)), (1, .int x1), (2, .int x2)] := hl
  have hx := E.1.1
  have hb := E.1.2.1
  have hts := E.1.2.2.2.2
  unfold f_Mod_letter at hF
  refine lv_iload_n hx hb d_Mod_letter_0 rfl (lv_at hl 1 rfl) ?_
  refine lv_bipush (v := 97) hx hb d_Mod_letter_1 (by decide) ?_
  refine lv_icmp_lt (tgt := 21) hx hb d_Mod_letter_3 (by decide) (fun c_1 => ?_) (fun c_1 => ?_)
  · rw [if_pos c_1] at hF
    exact c_Mod_letter_21 E hr hlk hz _ _ _ _ _ _ hF _ _ S _ (lv_sub hl [0, 1, 2] rfl)
  · rw [if_neg c_1] at hF
    refine lv_iload_n hx hb d_Mod_letter_6 rfl (lv_at hl 1 rfl) ?_
    refine lv_bipush (v := 122) hx hb d_Mod_letter_7 (by decide) ?_
    refine lv_icmp_gt (tgt := 21) hx hb d_Mod_letter_9 (by decide) (fun c_2 => ?_) (fun c_2 => ?_)
    · rw [if_pos c_2] at hF
      exact c_Mod_letter_21 E hr hlk hz _ _ _ _ _ _ hF _ _ S _ (lv_sub hl [0, 1, 2] rfl)
    · rw [if_neg c_2] at hF
      refine lv_iload_n hx hb d_Mod_letter_12 rfl (lv_at hl 1 rfl) ?_
      refine lv_bipush (v := 97) hx hb d_Mod_letter_13 (by decide) ?_
      refine lv_isub hx hb d_Mod_letter_15 ?_
      refine lv_iconst (v := 1) hx hb d_Mod_letter_16 (by decide) ?_
      refine lv_iadd hx hb d_Mod_letter_17 ?_
      refine lv_goto (tgt := 43) hx hb d_Mod_letter_18 (by decide) ?_
      exact c_Mod_letter_43 E hr hlk hz _ _ _ _ _ _ hF _ _ S _ (lv_sub hl [0, 2] rfl)
