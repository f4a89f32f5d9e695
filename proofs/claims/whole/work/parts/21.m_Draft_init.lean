def f_Draft_init (n : Nat)  (g : m_G) (a0 : Nat) : Option (Unit × m_G) :=
  (m_nw g n (.inl (4, 30, .inr (.inr (.inr (.inr (fun _ => none))))))).bind fun g_1 =>
  (m_pR g_1 a0 2 0 (some n)).bind fun g_2 =>
  (m_pI g_2 a0 2 1 0).bind fun g_3 =>
  (m_gR g_3 a0 2 0).bind fun v_5 =>
  (m_nw g_3 (n + 1) (.inr (1, [.null, .int 0]))).bind fun g_6 =>
  m_bd (f_Line_init (n + 2) g_6 (n + 1)) fun v_8 g_7 =>
  Option.bind v_5 fun a_9 =>
  (m_stR g_7 a_9 4 1 0 (n + 1)).bind fun g_10 =>
  (m_gR g_10 a0 2 0).bind fun v_12 =>
  (m_nw g_10 (n + 3) (.inr (1, [.null, .int 0]))).bind fun g_13 =>
  m_bd (f_Line_init (n + 4) g_13 (n + 3)) fun v_15 g_14 =>
  Option.bind v_12 fun a_16 =>
  (m_stR g_14 a_16 4 1 1 (n + 3)).bind fun g_17 =>
  (m_gR g_17 a0 2 0).bind fun v_19 =>
  (m_nw g_17 (n + 5) (.inr (1, [.null, .int 0]))).bind fun g_20 =>
  m_bd (f_Line_init (n + 6) g_20 (n + 5)) fun v_22 g_21 =>
  Option.bind v_19 fun a_23 =>
  (m_stR g_21 a_23 4 1 2 (n + 5)).bind fun g_24 =>
  (m_gR g_24 a0 2 0).bind fun v_26 =>
  (m_nw g_24 (n + 7) (.inr (1, [.null, .int 0]))).bind fun g_27 =>
  m_bd (f_Line_init (n + 8) g_27 (n + 7)) fun v_29 g_28 =>
  Option.bind v_26 fun a_30 =>
  (m_stR g_28 a_30 4 1 3 (n + 7)).bind fun g_31 =>
  (m_gR g_31 a0 2 0).bind fun v_33 =>
  (m_nw g_31 (n + 9) (.inr (1, [.null, .int 0]))).bind fun g_34 =>
  m_bd (f_Line_init (n + 10) g_34 (n + 9)) fun v_36 g_35 =>
  Option.bind v_33 fun a_37 =>
  (m_stR g_35 a_37 4 1 4 (n + 9)).bind fun g_38 =>
  (m_gR g_38 a0 2 0).bind fun v_40 =>
  (m_nw g_38 (n + 11) (.inr (1, [.null, .int 0]))).bind fun g_41 =>
  m_bd (f_Line_init (n + 12) g_41 (n + 11)) fun v_43 g_42 =>
  Option.bind v_40 fun a_44 =>
  (m_stR g_42 a_44 4 1 5 (n + 11)).bind fun g_45 =>
  (m_gR g_45 a0 2 0).bind fun v_47 =>
  (m_nw g_45 (n + 13) (.inr (1, [.null, .int 0]))).bind fun g_48 =>
  m_bd (f_Line_init (n + 14) g_48 (n + 13)) fun v_50 g_49 =>
  Option.bind v_47 fun a_51 =>
  (m_stR g_49 a_51 4 1 6 (n + 13)).bind fun g_52 =>
  (m_gR g_52 a0 2 0).bind fun v_54 =>
  (m_nw g_52 (n + 15) (.inr (1, [.null, .int 0]))).bind fun g_55 =>
  m_bd (f_Line_init (n + 16) g_55 (n + 15)) fun v_57 g_56 =>
  Option.bind v_54 fun a_58 =>
  (m_stR g_56 a_58 4 1 7 (n + 15)).bind fun g_59 =>
  (m_gR g_59 a0 2 0).bind fun v_61 =>
  (m_nw g_59 (n + 17) (.inr (1, [.null, .int 0]))).bind fun g_62 =>
  m_bd (f_Line_init (n + 18) g_62 (n + 17)) fun v_64 g_63 =>
  Option.bind v_61 fun a_65 =>
  (m_stR g_63 a_65 4 1 8 (n + 17)).bind fun g_66 =>
  (m_gR g_66 a0 2 0).bind fun v_68 =>
  (m_nw g_66 (n + 19) (.inr (1, [.null, .int 0]))).bind fun g_69 =>
  m_bd (f_Line_init (n + 20) g_69 (n + 19)) fun v_71 g_70 =>
  Option.bind v_68 fun a_72 =>
  (m_stR g_70 a_72 4 1 9 (n + 19)).bind fun g_73 =>
  (m_gR g_73 a0 2 0).bind fun v_75 =>
  (m_nw g_73 (n + 21) (.inr (1, [.null, .int 0]))).bind fun g_76 =>
  m_bd (f_Line_init (n + 22) g_76 (n + 21)) fun v_78 g_77 =>
  Option.bind v_75 fun a_79 =>
  (m_stR g_77 a_79 4 1 10 (n + 21)).bind fun g_80 =>
  (m_gR g_80 a0 2 0).bind fun v_82 =>
  (m_nw g_80 (n + 23) (.inr (1, [.null, .int 0]))).bind fun g_83 =>
  m_bd (f_Line_init (n + 24) g_83 (n + 23)) fun v_85 g_84 =>
  Option.bind v_82 fun a_86 =>
  (m_stR g_84 a_86 4 1 11 (n + 23)).bind fun g_87 =>
  (m_gR g_87 a0 2 0).bind fun v_89 =>
  (m_nw g_87 (n + 25) (.inr (1, [.null, .int 0]))).bind fun g_90 =>
  m_bd (f_Line_init (n + 26) g_90 (n + 25)) fun v_92 g_91 =>
  Option.bind v_89 fun a_93 =>
  (m_stR g_91 a_93 4 1 12 (n + 25)).bind fun g_94 =>
  (m_gR g_94 a0 2 0).bind fun v_96 =>
  (m_nw g_94 (n + 27) (.inr (1, [.null, .int 0]))).bind fun g_97 =>
  m_bd (f_Line_init (n + 28) g_97 (n + 27)) fun v_99 g_98 =>
  Option.bind v_96 fun a_100 =>
  (m_stR g_98 a_100 4 1 13 (n + 27)).bind fun g_101 =>
  (m_gR g_101 a0 2 0).bind fun v_103 =>
  (m_nw g_101 (n + 29) (.inr (1, [.null, .int 0]))).bind fun g_104 =>
  m_bd (f_Line_init (n + 30) g_104 (n + 29)) fun v_106 g_105 =>
  Option.bind v_103 fun a_107 =>
  (m_stR g_105 a_107 4 1 14 (n + 29)).bind fun g_108 =>
  (m_gR g_108 a0 2 0).bind fun v_110 =>
  (m_nw g_108 (n + 31) (.inr (1, [.null, .int 0]))).bind fun g_111 =>
  m_bd (f_Line_init (n + 32) g_111 (n + 31)) fun v_113 g_112 =>
  Option.bind v_110 fun a_114 =>
  (m_stR g_112 a_114 4 1 15 (n + 31)).bind fun g_115 =>
  (m_gR g_115 a0 2 0).bind fun v_117 =>
  (m_nw g_115 (n + 33) (.inr (1, [.null, .int 0]))).bind fun g_118 =>
  m_bd (f_Line_init (n + 34) g_118 (n + 33)) fun v_120 g_119 =>
  Option.bind v_117 fun a_121 =>
  (m_stR g_119 a_121 4 1 16 (n + 33)).bind fun g_122 =>
  (m_gR g_122 a0 2 0).bind fun v_124 =>
  (m_nw g_122 (n + 35) (.inr (1, [.null, .int 0]))).bind fun g_125 =>
  m_bd (f_Line_init (n + 36) g_125 (n + 35)) fun v_127 g_126 =>
  Option.bind v_124 fun a_128 =>
  (m_stR g_126 a_128 4 1 17 (n + 35)).bind fun g_129 =>
  (m_gR g_129 a0 2 0).bind fun v_131 =>
  (m_nw g_129 (n + 37) (.inr (1, [.null, .int 0]))).bind fun g_132 =>
  m_bd (f_Line_init (n + 38) g_132 (n + 37)) fun v_134 g_133 =>
  Option.bind v_131 fun a_135 =>
  (m_stR g_133 a_135 4 1 18 (n + 37)).bind fun g_136 =>
  (m_gR g_136 a0 2 0).bind fun v_138 =>
  (m_nw g_136 (n + 39) (.inr (1, [.null, .int 0]))).bind fun g_139 =>
  m_bd (f_Line_init (n + 40) g_139 (n + 39)) fun v_141 g_140 =>
  Option.bind v_138 fun a_142 =>
  (m_stR g_140 a_142 4 1 19 (n + 39)).bind fun g_143 =>
  (m_gR g_143 a0 2 0).bind fun v_145 =>
  (m_nw g_143 (n + 41) (.inr (1, [.null, .int 0]))).bind fun g_146 =>
  m_bd (f_Line_init (n + 42) g_146 (n + 41)) fun v_148 g_147 =>
  Option.bind v_145 fun a_149 =>
  (m_stR g_147 a_149 4 1 20 (n + 41)).bind fun g_150 =>
  (m_gR g_150 a0 2 0).bind fun v_152 =>
  (m_nw g_150 (n + 43) (.inr (1, [.null, .int 0]))).bind fun g_153 =>
  m_bd (f_Line_init (n + 44) g_153 (n + 43)) fun v_155 g_154 =>
  Option.bind v_152 fun a_156 =>
  (m_stR g_154 a_156 4 1 21 (n + 43)).bind fun g_157 =>
  (m_gR g_157 a0 2 0).bind fun v_159 =>
  (m_nw g_157 (n + 45) (.inr (1, [.null, .int 0]))).bind fun g_160 =>
  m_bd (f_Line_init (n + 46) g_160 (n + 45)) fun v_162 g_161 =>
  Option.bind v_159 fun a_163 =>
  (m_stR g_161 a_163 4 1 22 (n + 45)).bind fun g_164 =>
  (m_gR g_164 a0 2 0).bind fun v_166 =>
  (m_nw g_164 (n + 47) (.inr (1, [.null, .int 0]))).bind fun g_167 =>
  m_bd (f_Line_init (n + 48) g_167 (n + 47)) fun v_169 g_168 =>
  Option.bind v_166 fun a_170 =>
  (m_stR g_168 a_170 4 1 23 (n + 47)).bind fun g_171 =>
  (m_gR g_171 a0 2 0).bind fun v_173 =>
  (m_nw g_171 (n + 49) (.inr (1, [.null, .int 0]))).bind fun g_174 =>
  m_bd (f_Line_init (n + 50) g_174 (n + 49)) fun v_176 g_175 =>
  Option.bind v_173 fun a_177 =>
  (m_stR g_175 a_177 4 1 24 (n + 49)).bind fun g_178 =>
  (m_gR g_178 a0 2 0).bind fun v_180 =>
  (m_nw g_178 (n + 51) (.inr (1, [.null, .int 0]))).bind fun g_181 =>
  m_bd (f_Line_init (n + 52) g_181 (n + 51)) fun v_183 g_182 =>
  Option.bind v_180 fun a_184 =>
  (m_stR g_182 a_184 4 1 25 (n + 51)).bind fun g_185 =>
  (m_gR g_185 a0 2 0).bind fun v_187 =>
  (m_nw g_185 (n + 53) (.inr (1, [.null, .int 0]))).bind fun g_188 =>
  m_bd (f_Line_init (n + 54) g_188 (n + 53)) fun v_190 g_189 =>
  Option.bind v_187 fun a_191 =>
  (m_stR g_189 a_191 4 1 26 (n + 53)).bind fun g_192 =>
  (m_gR g_192 a0 2 0).bind fun v_194 =>
  (m_nw g_192 (n + 55) (.inr (1, [.null, .int 0]))).bind fun g_195 =>
  m_bd (f_Line_init (n + 56) g_195 (n + 55)) fun v_197 g_196 =>
  Option.bind v_194 fun a_198 =>
  (m_stR g_196 a_198 4 1 27 (n + 55)).bind fun g_199 =>
  (m_gR g_199 a0 2 0).bind fun v_201 =>
  (m_nw g_199 (n + 57) (.inr (1, [.null, .int 0]))).bind fun g_202 =>
  m_bd (f_Line_init (n + 58) g_202 (n + 57)) fun v_204 g_203 =>
  Option.bind v_201 fun a_205 =>
  (m_stR g_203 a_205 4 1 28 (n + 57)).bind fun g_206 =>
  (m_gR g_206 a0 2 0).bind fun v_208 =>
  (m_nw g_206 (n + 59) (.inr (1, [.null, .int 0]))).bind fun g_209 =>
  m_bd (f_Line_init (n + 60) g_209 (n + 59)) fun v_211 g_210 =>
  Option.bind v_208 fun a_212 =>
  (m_stR g_210 a_212 4 1 29 (n + 59)).bind fun g_213 =>
  some ((), g_213)
set_option maxHeartbeats 1000000 in
set_option maxRecDepth 100000 in
theorem c_Draft_init (l : Launch) (D : va_G) (B : Nat) (K : Nat → ClassId)  (n : Nat) (g : m_G) (a0 : Nat) (r : Unit) (g' : m_G) (hF : f_Draft_init n g a0 = some (r, g')) : Met l y_Draft_init (Cond.code y_Draft_init b_Draft_init 2 none :: m_TB) ({ frames := 2, cells := 61, slots := 1290, locals := 40 } : Room) (m_Pc D B K n g [.ref (B + a0)]) (m_Q D B K none (n + 61) g') 61 1290 (fun q => B ≤ q) := by
  refine m_met (by decide) (Nat.le_of_ble_eq_true rfl) ?_
  intro p e s m args below meth c ls E hr hlk hin hsz S hl
  have E : m_V p m c b_Draft_init 2 s args R_Draft D K := E
  have hz : s.heap.size + 0 = B + n := hsz
  have hl : lv_has ls 2 [(0, .ref (B + a0))] := hl
  have hx := E.1.1
  have hb := E.1.2.1
  have hts := E.1.2.2.2.2
  unfold f_Draft_init at hF
  refine lv_aload_n hx hb d_Draft_init_0 rfl (lv_at hl 0 rfl) ?_
  refine W.objInit hx hb E.1.2.2.2.1 (hts _ qw_6) (hts _ qw_1) (hts _ qw_2) rfl (hl.1.trans E.1.2.2.1.symm) rfl d_Draft_init_1 (Nat.le_of_ble_eq_true rfl) (Nat.le_of_ble_eq_true rfl) ?_
  refine W.eq (g2 := F0 m 4 ls []) rfl ?_
  refine lv_aload_n hx hb d_Draft_init_4 rfl (lv_at hl 0 rfl) ?_
  refine lv_bipush (v := 30) hx hb d_Draft_init_5 (by decide) ?_
  replace hF := Option.bind_eq_some_iff.mp hF
  obtain ⟨g_1, eg_1, hF⟩ := hF
  refine m_newq (B := B) (t := 4) (N := 30) (C := R_Line) E S hz qw_7 ao_Line rfl (by decide) (by decide) (Nat.le_of_ble_eq_true rfl) (Nat.le_of_ble_eq_true rfl) (Nat.le_of_ble_eq_true rfl) eg_1 d_Draft_init_7 (fun H S => ?_)
  refine W.widen (k := 1) (n := 30) (Nat.le_of_ble_eq_true rfl) (Nat.le_of_ble_eq_true rfl) ?_
  refine W.eq (g2 := F0 m 10 ls [.ref (B + n), .ref (B + a0)]) rfl ?_
  replace hF := Option.bind_eq_some_iff.mp hF
  obtain ⟨g_2, eg_2, hF⟩ := hF
  refine m_putFR (B := B) (a := a0) (x := (some n)) E S fd_Draft_lines (Or.inr ⟨_, rfl⟩) hin qw_8 eg_2 d_Draft_init_10 (fun H locs S => ?_)
  refine lv_aload_n hx hb d_Draft_init_13 rfl (lv_at hl 0 rfl) ?_
  refine lv_iconst (v := 0) hx hb d_Draft_init_14 (by decide) ?_
  replace hF := Option.bind_eq_some_iff.mp hF
  obtain ⟨g_3, eg_3, hF⟩ := hF
  refine m_putI (B := B) (a := a0) E S fd_Draft_size (Or.inl qw_9) eg_3 d_Draft_init_15 (fun H locs S => ?_)
  refine lv_iconst (v := 0) hx hb d_Draft_init_18 (by decide) ?_
  refine lv_istore_n (lv' := [(1, .int 0), (0, .ref (B + a0))]) hx hb d_Draft_init_19 rfl hl (by decide) rfl (fun ls hl => ?_)
  refine lv_iload_n hx hb d_Draft_init_20 rfl (lv_at hl 0 rfl) ?_
  refine lv_bipush (v := 30) hx hb d_Draft_init_21 (by decide) ?_
  refine lv_icmp_ge (tgt := 45) hx hb d_Draft_init_23 (by decide) (fun c_4 => absurd c_4 (by decide)) (fun c_4 => ?_)
  refine lv_aload_n hx hb d_Draft_init_26 rfl (lv_at hl 1 rfl) ?_
  replace hF := Option.bind_eq_some_iff.mp hF
  obtain ⟨v_5, ev_5, hF⟩ := hF
  refine m_getR (B := B) (a := a0) E S fd_Draft_lines (Or.inl qw_8) ev_5 d_Draft_init_27 ?_
  refine lv_iload_n hx hb d_Draft_init_30 rfl (lv_at hl 0 rfl) ?_
  replace hF := Option.bind_eq_some_iff.mp hF
  obtain ⟨g_6, eg_6, hF⟩ := hF
  refine m_new (B := B) (ci := 1) (fs := [.null, .int 0]) E S (show s.heap.size + 1 = B + (n + 1) by omega) t_Line t_Line_ok i_Line rfl qw_7 qw_10 qw_11 (z_Line B) (Nat.le_of_ble_eq_true rfl) (Nat.le_of_ble_eq_true rfl) eg_6 d_Draft_init_31 (fun H S => ?_)
  refine W.widen (k := 2) (n := 32) (Nat.le_of_ble_eq_true rfl) (Nat.le_of_ble_eq_true rfl) ?_
  refine W.eq (g2 := F0 m 34 ls [.ref (B + (n + 1)), .int 0, m_r B v_5]) rfl ?_
  refine lv_dup hx hb d_Draft_init_34 rfl ?_
  replace hF := m_bd_inv hF
  obtain ⟨v_8, g_7, eg_7, hF⟩ := hF
  refine m_callI (B := B) (nn := 0) (b := (n + 1)) (As := []) (rest := [.ref (B + (n + 1)), .int 0, m_r B v_5]) (v := none) E S (show s.heap.size + 2 = B + (n + 2) by omega) (c_Line_init l D B K (n + 2) g_6 (n + 1) v_8 g_7 eg_7) qc_Line_init ⟨rfl, rfl⟩ (Or.inr ⟨_, qn_0⟩) qw_12 qw_11 rfl (by decide +kernel) ⟨Nat.le_of_ble_eq_true rfl, Nat.le_of_ble_eq_true rfl⟩ rfl hl.1 (by simp only [List.map_cons, List.map_nil, m_r_cat]; exact Nat.le_of_ble_eq_true rfl) d_Draft_init_35 ⟨Nat.le_of_ble_eq_true rfl, Nat.le_of_ble_eq_true rfl⟩ (fun H locs S => ?_)
  refine W.widen (k := 3) (n := 72) (Nat.le_of_ble_eq_true rfl) (Nat.le_of_ble_eq_true rfl) ?_
  refine W.eq (g2 := F0 m 38 ls [.ref (B + (n + 1)), .int 0, m_r B v_5]) rfl ?_
  replace hF := Option.bind_eq_some_iff.mp hF
  obtain ⟨a_9, ea_9, hF⟩ := hF
  subst ea_9
  replace hF := Option.bind_eq_some_iff.mp hF
  obtain ⟨g_10, eg_10, hF⟩ := hF
  refine m_aast (B := B) (a := a_9) (v := (n + 1)) (t := 4) (ci := 1) (r := (R_Line, F_Line, 2)) E S rfl rfl eg_10 d_Draft_init_38 (fun H locs S => ?_)
  refine lv_iinc (v := 1) (lv' := [(1, .int 1), (0, .ref (B + a0))]) hx hb d_Draft_init_39 hl (k := 0) rfl (by decide) (by decide) rfl (fun ls hl => ?_)
  refine lv_goto (tgt := 20) hx hb d_Draft_init_42 (by decide) ?_
  refine lv_iload_n hx hb d_Draft_init_20 rfl (lv_at hl 0 rfl) ?_
  refine lv_bipush (v := 30) hx hb d_Draft_init_21 (by decide) ?_
  refine lv_icmp_ge (tgt := 45) hx hb d_Draft_init_23 (by decide) (fun c_11 => absurd c_11 (by decide)) (fun c_11 => ?_)
  refine lv_aload_n hx hb d_Draft_init_26 rfl (lv_at hl 1 rfl) ?_
  replace hF := Option.bind_eq_some_iff.mp hF
  obtain ⟨v_12, ev_12, hF⟩ := hF
  refine m_getR (B := B) (a := a0) E S fd_Draft_lines (Or.inl qw_8) ev_12 d_Draft_init_27 ?_
  refine lv_iload_n hx hb d_Draft_init_30 rfl (lv_at hl 0 rfl) ?_
  replace hF := Option.bind_eq_some_iff.mp hF
  obtain ⟨g_13, eg_13, hF⟩ := hF
  refine m_new (B := B) (ci := 1) (fs := [.null, .int 0]) E S (show s.heap.size + 3 = B + (n + 3) by omega) t_Line t_Line_ok i_Line rfl qw_7 qw_10 qw_11 (z_Line B) (Nat.le_of_ble_eq_true rfl) (Nat.le_of_ble_eq_true rfl) eg_13 d_Draft_init_31 (fun H S => ?_)
  refine W.widen (k := 4) (n := 74) (Nat.le_of_ble_eq_true rfl) (Nat.le_of_ble_eq_true rfl) ?_
  refine W.eq (g2 := F0 m 34 ls [.ref (B + (n + 3)), .int 1, m_r B v_12]) rfl ?_
  refine lv_dup hx hb d_Draft_init_34 rfl ?_
  replace hF := m_bd_inv hF
  obtain ⟨v_15, g_14, eg_14, hF⟩ := hF
  refine m_callI (B := B) (nn := 0) (b := (n + 3)) (As := []) (rest := [.ref (B + (n + 3)), .int 1, m_r B v_12]) (v := none) E S (show s.heap.size + 4 = B + (n + 4) by omega) (c_Line_init l D B K (n + 4) g_13 (n + 3) v_15 g_14 eg_14) qc_Line_init ⟨rfl, rfl⟩ (Or.inr ⟨_, qn_0⟩) qw_12 qw_11 rfl (by decide +kernel) ⟨Nat.le_of_ble_eq_true rfl, Nat.le_of_ble_eq_true rfl⟩ rfl hl.1 (by simp only [List.map_cons, List.map_nil, m_r_cat]; exact Nat.le_of_ble_eq_true rfl) d_Draft_init_35 ⟨Nat.le_of_ble_eq_true rfl, Nat.le_of_ble_eq_true rfl⟩ (fun H locs S => ?_)
  refine W.widen (k := 5) (n := 114) (Nat.le_of_ble_eq_true rfl) (Nat.le_of_ble_eq_true rfl) ?_
  refine W.eq (g2 := F0 m 38 ls [.ref (B + (n + 3)), .int 1, m_r B v_12]) rfl ?_
  replace hF := Option.bind_eq_some_iff.mp hF
  obtain ⟨a_16, ea_16, hF⟩ := hF
  subst ea_16
  replace hF := Option.bind_eq_some_iff.mp hF
  obtain ⟨g_17, eg_17, hF⟩ := hF
  refine m_aast (B := B) (a := a_16) (v := (n + 3)) (t := 4) (ci := 1) (r := (R_Line, F_Line, 2)) E S rfl rfl eg_17 d_Draft_init_38 (fun H locs S => ?_)
  refine lv_iinc (v := 2) (lv' := [(1, .int 2), (0, .ref (B + a0))]) hx hb d_Draft_init_39 hl (k := 0) rfl (by decide) (by decide) rfl (fun ls hl => ?_)
  refine lv_goto (tgt := 20) hx hb d_Draft_init_42 (by decide) ?_
  refine lv_iload_n hx hb d_Draft_init_20 rfl (lv_at hl 0 rfl) ?_
  refine lv_bipush (v := 30) hx hb d_Draft_init_21 (by decide) ?_
  refine lv_icmp_ge (tgt := 45) hx hb d_Draft_init_23 (by decide) (fun c_18 => absurd c_18 (by decide)) (fun c_18 => ?_)
  refine lv_aload_n hx hb d_Draft_init_26 rfl (lv_at hl 1 rfl) ?_
  replace hF := Option.bind_eq_some_iff.mp hF
  obtain ⟨v_19, ev_19, hF⟩ := hF
  refine m_getR (B := B) (a := a0) E S fd_Draft_lines (Or.inl qw_8) ev_19 d_Draft_init_27 ?_
  refine lv_iload_n hx hb d_Draft_init_30 rfl (lv_at hl 0 rfl) ?_
  replace hF := Option.bind_eq_some_iff.mp hF
  obtain ⟨g_20, eg_20, hF⟩ := hF
  refine m_new (B := B) (ci := 1) (fs := [.null, .int 0]) E S (show s.heap.size + 5 = B + (n + 5) by omega) t_Line t_Line_ok i_Line rfl qw_7 qw_10 qw_11 (z_Line B) (Nat.le_of_ble_eq_true rfl) (Nat.le_of_ble_eq_true rfl) eg_20 d_Draft_init_31 (fun H S => ?_)
  refine W.widen (k := 6) (n := 116) (Nat.le_of_ble_eq_true rfl) (Nat.le_of_ble_eq_true rfl) ?_
  refine W.eq (g2 := F0 m 34 ls [.ref (B + (n + 5)), .int 2, m_r B v_19]) rfl ?_
  refine lv_dup hx hb d_Draft_init_34 rfl ?_
  replace hF := m_bd_inv hF
  obtain ⟨v_22, g_21, eg_21, hF⟩ := hF
  refine m_callI (B := B) (nn := 0) (b := (n + 5)) (As := []) (rest := [.ref (B + (n + 5)), .int 2, m_r B v_19]) (v := none) E S (show s.heap.size + 6 = B + (n + 6) by omega) (c_Line_init l D B K (n + 6) g_20 (n + 5) v_22 g_21 eg_21) qc_Line_init ⟨rfl, rfl⟩ (Or.inr ⟨_, qn_0⟩) qw_12 qw_11 rfl (by decide +kernel) ⟨Nat.le_of_ble_eq_true rfl, Nat.le_of_ble_eq_true rfl⟩ rfl hl.1 (by simp only [List.map_cons, List.map_nil, m_r_cat]; exact Nat.le_of_ble_eq_true rfl) d_Draft_init_35 ⟨Nat.le_of_ble_eq_true rfl, Nat.le_of_ble_eq_true rfl⟩ (fun H locs S => ?_)
  refine W.widen (k := 7) (n := 156) (Nat.le_of_ble_eq_true rfl) (Nat.le_of_ble_eq_true rfl) ?_
  refine W.eq (g2 := F0 m 38 ls [.ref (B + (n + 5)), .int 2, m_r B v_19]) rfl ?_
  replace hF := Option.bind_eq_some_iff.mp hF
  obtain ⟨a_23, ea_23, hF⟩ := hF
  subst ea_23
  replace hF := Option.bind_eq_some_iff.mp hF
  obtain ⟨g_24, eg_24, hF⟩ := hF
  refine m_aast (B := B) (a := a_23) (v := (n + 5)) (t := 4) (ci := 1) (r := (R_Line, F_Line, 2)) E S rfl rfl eg_24 d_Draft_init_38 (fun H locs S => ?_)
  refine lv_iinc (v := 3) (lv' := [(1, .int 3), (0, .ref (B + a0))]) hx hb d_Draft_init_39 hl (k := 0) rfl (by decide) (by decide) rfl (fun ls hl => ?_)
  refine lv_goto (tgt := 20) hx hb d_Draft_init_42 (by decide) ?_
  refine lv_iload_n hx hb d_Draft_init_20 rfl (lv_at hl 0 rfl) ?_
  refine lv_bipush (v := 30) hx hb d_Draft_init_21 (by decide) ?_
  refine lv_icmp_ge (tgt := 45) hx hb d_Draft_init_23 (by decide) (fun c_25 => absurd c_25 (by decide)) (fun c_25 => ?_)
  refine lv_aload_n hx hb d_Draft_init_26 rfl (lv_at hl 1 rfl) ?_
  replace hF := Option.bind_eq_some_iff.mp hF
  obtain ⟨v_26, ev_26, hF⟩ := hF
  refine m_getR (B := B) (a := a0) E S fd_Draft_lines (Or.inl qw_8) ev_26 d_Draft_init_27 ?_
  refine lv_iload_n hx hb d_Draft_init_30 rfl (lv_at hl 0 rfl) ?_
  replace hF := Option.bind_eq_some_iff.mp hF
  obtain ⟨g_27, eg_27, hF⟩ := hF
  refine m_new (B := B) (ci := 1) (fs := [.null, .int 0]) E S (show s.heap.size + 7 = B + (n + 7) by omega) t_Line t_Line_ok i_Line rfl qw_7 qw_10 qw_11 (z_Line B) (Nat.le_of_ble_eq_true rfl) (Nat.le_of_ble_eq_true rfl) eg_27 d_Draft_init_31 (fun H S => ?_)
  refine W.widen (k := 8) (n := 158) (Nat.le_of_ble_eq_true rfl) (Nat.le_of_ble_eq_true rfl) ?_
  refine W.eq (g2 := F0 m 34 ls [.ref (B + (n + 7)), .int 3, m_r B v_26]) rfl ?_
  refine lv_dup hx hb d_Draft_init_34 rfl ?_
  replace hF := m_bd_inv hF
  obtain ⟨v_29, g_28, eg_28, hF⟩ := hF
  refine m_callI (B := B) (nn := 0) (b := (n + 7)) (As := []) (rest := [.ref (B + (n + 7)), .int 3, m_r B v_26]) (v := none) E S (show s.heap.size + 8 = B + (n + 8) by omega) (c_Line_init l D B K (n + 8) g_27 (n + 7) v_29 g_28 eg_28) qc_Line_init ⟨rfl, rfl⟩ (Or.inr ⟨_, qn_0⟩) qw_12 qw_11 rfl (by decide +kernel) ⟨Nat.le_of_ble_eq_true rfl, Nat.le_of_ble_eq_true rfl⟩ rfl hl.1 (by simp only [List.map_cons, List.map_nil, m_r_cat]; exact Nat.le_of_ble_eq_true rfl) d_Draft_init_35 ⟨Nat.le_of_ble_eq_true rfl, Nat.le_of_ble_eq_true rfl⟩ (fun H locs S => ?_)
  refine W.widen (k := 9) (n := 198) (Nat.le_of_ble_eq_true rfl) (Nat.le_of_ble_eq_true rfl) ?_
  refine W.eq (g2 := F0 m 38 ls [.ref (B + (n + 7)), .int 3, m_r B v_26]) rfl ?_
  replace hF := Option.bind_eq_some_iff.mp hF
  obtain ⟨a_30, ea_30, hF⟩ := hF
  subst ea_30
  replace hF := Option.bind_eq_some_iff.mp hF
  obtain ⟨g_31, eg_31, hF⟩ := hF
  refine m_aast (B := B) (a := a_30) (v := (n + 7)) (t := 4) (ci := 1) (r := (R_Line, F_Line, 2)) E S rfl rfl eg_31 d_Draft_init_38 (fun H locs S => ?_)
  refine lv_iinc (v := 4) (lv' := [(1, .int 4), (0, .ref (B + a0))]) hx hb d_Draft_init_39 hl (k := 0) rfl (by decide) (by decide) rfl (fun ls hl => ?_)
  refine lv_goto (tgt := 20) hx hb d_Draft_init_42 (by decide) ?_
  refine lv_iload_n hx hb d_Draft_init_20 rfl (lv_at hl 0 rfl) ?_
  refine lv_bipush (v := 30) hx hb d_Draft_init_21 (by decide) ?_
  refine lv_icmp_ge (tgt := 45) hx hb d_Draft_init_23 (by decide) (fun c_32 => absurd c_32 (by decide)) (fun c_32 => ?_)
  refine lv_aload_n hx hb d_Draft_init_26 rfl (lv_at hl 1 rfl) ?_
  replace hF := Option.bind_eq_some_iff.mp hF
  obtain ⟨v_33, ev_33, hF⟩ := hF
  refine m_getR (B := B) (a := a0) E S fd_Draft_lines (Or.inl qw_8) ev_33 d_Draft_init_27 ?_
  refine lv_iload_n hx hb d_Draft_init_30 rfl (lv_at hl 0 rfl) ?_
  replace hF := Option.bind_eq_some_iff.mp hF
  obtain ⟨g_34, eg_34, hF⟩ := hF
  refine m_new (B := B) (ci := 1) (fs := [.null, .int 0]) E S (show s.heap.size + 9 = B + (n + 9) by omega) t_Line t_Line_ok i_Line rfl qw_7 qw_10 qw_11 (z_Line B) (Nat.le_of_ble_eq_true rfl) (Nat.le_of_ble_eq_true rfl) eg_34 d_Draft_init_31 (fun H S => ?_)
  refine W.widen (k := 10) (n := 200) (Nat.le_of_ble_eq_true rfl) (Nat.le_of_ble_eq_true rfl) ?_
  refine W.eq (g2 := F0 m 34 ls [.ref (B + (n + 9)), .int 4, m_r B v_33]) rfl ?_
  refine lv_dup hx hb d_Draft_init_34 rfl ?_
  replace hF := m_bd_inv hF
  obtain ⟨v_36, g_35, eg_35, hF⟩ := hF
  refine m_callI (B := B) (nn := 0) (b := (n + 9)) (As := []) (rest := [.ref (B + (n + 9)), .int 4, m_r B v_33]) (v := none) E S (show s.heap.size + 10 = B + (n + 10) by omega) (c_Line_init l D B K (n + 10) g_34 (n + 9) v_36 g_35 eg_35) qc_Line_init ⟨rfl, rfl⟩ (Or.inr ⟨_, qn_0⟩) qw_12 qw_11 rfl (by decide +kernel) ⟨Nat.le_of_ble_eq_true rfl, Nat.le_of_ble_eq_true rfl⟩ rfl hl.1 (by simp only [List.map_cons, List.map_nil, m_r_cat]; exact Nat.le_of_ble_eq_true rfl) d_Draft_init_35 ⟨Nat.le_of_ble_eq_true rfl, Nat.le_of_ble_eq_true rfl⟩ (fun H locs S => ?_)
  refine W.widen (k := 11) (n := 240) (Nat.le_of_ble_eq_true rfl) (Nat.le_of_ble_eq_true rfl) ?_
  refine W.eq (g2 := F0 m 38 ls [.ref (B + (n + 9)), .int 4, m_r B v_33]) rfl ?_
  replace hF := Option.bind_eq_some_iff.mp hF
  obtain ⟨a_37, ea_37, hF⟩ := hF
  subst ea_37
  replace hF := Option.bind_eq_some_iff.mp hF
  obtain ⟨g_38, eg_38, hF⟩ := hF
  refine m_aast (B := B) (a := a_37) (v := (n + 9)) (t := 4) (ci := 1) (r := (R_Line, F_Line, 2)) E S rfl rfl eg_38 d_Draft_init_38 (fun H locs S => ?_)
  refine lv_iinc (v := 5) (lv' := [(1, .int 5), (0, .ref (B + a0))]) hx hb d_Draft_init_39 hl (k := 0) rfl (by decide) (by decide) rfl (fun ls hl => ?_)
  refine lv_goto (tgt := 20) hx hb d_Draft_init_42 (by decide) ?_
  refine lv_iload_n hx hb d_Draft_init_20 rfl (lv_at hl 0 rfl) ?_
  refine lv_bipush (v := 30) hx hb d_Draft_init_21 (by decide) ?_
  refine lv_icmp_ge (tgt := 45) hx hb d_Draft_init_23 (by decide) (fun c_39 => absurd c_39 (by decide)) (fun c_39 => ?_)
  refine lv_aload_n hx hb d_Draft_init_26 rfl (lv_at hl 1 rfl) ?_
  replace hF := Option.bind_eq_some_iff.mp hF
  obtain ⟨v_40, ev_40, hF⟩ := hF
  refine m_getR (B := B) (a := a0) E S fd_Draft_lines (Or.inl qw_8) ev_40 d_Draft_init_27 ?_
  refine lv_iload_n hx hb d_Draft_init_30 rfl (lv_at hl 0 rfl) ?_
  replace hF := Option.bind_eq_some_iff.mp hF
  obtain ⟨g_41, eg_41, hF⟩ := hF
  refine m_new (B := B) (ci := 1) (fs := [.null, .int 0]) E S (show s.heap.size + 11 = B + (n + 11) by omega) t_Line t_Line_ok i_Line rfl qw_7 qw_10 qw_11 (z_Line B) (Nat.le_of_ble_eq_true rfl) (Nat.le_of_ble_eq_true rfl) eg_41 d_Draft_init_31 (fun H S => ?_)
  refine W.widen (k := 12) (n := 242) (Nat.le_of_ble_eq_true rfl) (Nat.le_of_ble_eq_true rfl) ?_
  refine W.eq (g2 := F0 m 34 ls [.ref (B + (n + 11)), .int 5, m_r B v_40]) rfl ?_
  refine lv_dup hx hb d_Draft_init_34 rfl ?_
  replace hF := m_bd_inv hF
  obtain ⟨v_43, g_42, eg_42, hF⟩ := hF
  refine m_callI (B := B) (nn := 0) (b := (n + 11)) (As := []) (rest := [.ref (B + (n + 11)), .int 5, m_r B v_40]) (v := none) E S (show s.heap.size + 12 = B + (n + 12) by omega) (c_Line_init l D B K (n + 12) g_41 (n + 11) v_43 g_42 eg_42) qc_Line_init ⟨rfl, rfl⟩ (Or.inr ⟨_, qn_0⟩) qw_12 qw_11 rfl (by decide +kernel) ⟨Nat.le_of_ble_eq_true rfl, Nat.le_of_ble_eq_true rfl⟩ rfl hl.1 (by simp only [List.map_cons, List.map_nil, m_r_cat]; exact Nat.le_of_ble_eq_true rfl) d_Draft_init_35 ⟨Nat.le_of_ble_eq_true rfl, Nat.le_of_ble_eq_true rfl⟩ (fun H locs S => ?_)
  refine W.widen (k := 13) (n := 282) (Nat.le_of_ble_eq_true rfl) (Nat.le_of_ble_eq_true rfl) ?_
  refine W.eq (g2 := F0 m 38 ls [.ref (B + (n + 11)), .int 5, m_r B v_40]) rfl ?_
  replace hF := Option.bind_eq_some_iff.mp hF
  obtain ⟨a_44, ea_44, hF⟩ := hF
  subst ea_44
  replace hF := Option.bind_eq_some_iff.mp hF
  obtain ⟨g_45, eg_45, hF⟩ := hF
  refine m_aast (B := B) (a := a_44) (v := (n + 11)) (t := 4) (ci := 1) (r := (R_Line, F_Line, 2)) E S rfl rfl eg_45 d_Draft_init_38 (fun H locs S => ?_)
  refine lv_iinc (v := 6) (lv' := [(1, .int 6), (0, .ref (B + a0))]) hx hb d_Draft_init_39 hl (k := 0) rfl (by decide) (by decide) rfl (fun ls hl => ?_)
  refine lv_goto (tgt := 20) hx hb d_Draft_init_42 (by decide) ?_
  refine lv_iload_n hx hb d_Draft_init_20 rfl (lv_at hl 0 rfl) ?_
  refine lv_bipush (v := 30) hx hb d_Draft_init_21 (by decide) ?_
  refine lv_icmp_ge (tgt := 45) hx hb d_Draft_init_23 (by decide) (fun c_46 => absurd c_46 (by decide)) (fun c_46 => ?_)
  refine lv_aload_n hx hb d_Draft_init_26 rfl (lv_at hl 1 rfl) ?_
  replace hF := Option.bind_eq_some_iff.mp hF
  obtain ⟨v_47, ev_47, hF⟩ := hF
  refine m_getR (B := B) (a := a0) E S fd_Draft_lines (Or.inl qw_8) ev_47 d_Draft_init_27 ?_
  refine lv_iload_n hx hb d_Draft_init_30 rfl (lv_at hl 0 rfl) ?_
  replace hF := Option.bind_eq_some_iff.mp hF
  obtain ⟨g_48, eg_48, hF⟩ := hF
  refine m_new (B := B) (ci := 1) (fs := [.null, .int 0]) E S (show s.heap.size + 13 = B + (n + 13) by omega) t_Line t_Line_ok i_Line rfl qw_7 qw_10 qw_11 (z_Line B) (Nat.le_of_ble_eq_true rfl) (Nat.le_of_ble_eq_true rfl) eg_48 d_Draft_init_31 (fun H S => ?_)
  refine W.widen (k := 14) (n := 284) (Nat.le_of_ble_eq_true rfl) (Nat.le_of_ble_eq_true rfl) ?_
  refine W.eq (g2 := F0 m 34 ls [.ref (B + (n + 13)), .int 6, m_r B v_47]) rfl ?_
  refine lv_dup hx hb d_Draft_init_34 rfl ?_
  replace hF := m_bd_inv hF
  obtain ⟨v_50, g_49, eg_49, hF⟩ := hF
  refine m_callI (B := B) (nn := 0) (b := (n + 13)) (As := []) (rest := [.ref (B + (n + 13)), .int 6, m_r B v_47]) (v := none) E S (show s.heap.size + 14 = B + (n + 14) by omega) (c_Line_init l D B K (n + 14) g_48 (n + 13) v_50 g_49 eg_49) qc_Line_init ⟨rfl, rfl⟩ (Or.inr ⟨_, qn_0⟩) qw_12 qw_11 rfl (by decide +kernel) ⟨Nat.le_of_ble_eq_true rfl, Nat.le_of_ble_eq_true rfl⟩ rfl hl.1 (by simp only [List.map_cons, List.map_nil, m_r_cat]; exact Nat.le_of_ble_eq_true rfl) d_Draft_init_35 ⟨Nat.le_of_ble_eq_true rfl, Nat.le_of_ble_eq_true rfl⟩ (fun H locs S => ?_)
  refine W.widen (k := 15) (n := 324) (Nat.le_of_ble_eq_true rfl) (Nat.le_of_ble_eq_true rfl) ?_
  refine W.eq (g2 := F0 m 38 ls [.ref (B + (n + 13)), .int 6, m_r B v_47]) rfl ?_
  replace hF := Option.bind_eq_some_iff.mp hF
  obtain ⟨a_51, ea_51, hF⟩ := hF
  subst ea_51
  replace hF := Option.bind_eq_some_iff.mp hF
  obtain ⟨g_52, eg_52, hF⟩ := hF
  refine m_aast (B := B) (a := a_51) (v := (n + 13)) (t := 4) (ci := 1) (r := (R_Line, F_Line, 2)) E S rfl rfl eg_52 d_Draft_init_38 (fun H locs S => ?_)
  refine lv_iinc (v := 7) (lv' := [(1, .int 7), (0, .ref (B + a0))]) hx hb d_Draft_init_39 hl (k := 0) rfl (by decide) (by decide) rfl (fun ls hl => ?_)
  refine lv_goto (tgt := 20) hx hb d_Draft_init_42 (by decide) ?_
  refine lv_iload_n hx hb d_Draft_init_20 rfl (lv_at hl 0 rfl) ?_
  refine lv_bipush (v := 30) hx hb d_Draft_init_21 (by decide) ?_
  refine lv_icmp_ge (tgt := 45) hx hb d_Draft_init_23 (by decide) (fun c_53 => absurd c_53 (by decide)) (fun c_53 => ?_)
  refine lv_aload_n hx hb d_Draft_init_26 rfl (lv_at hl 1 rfl) ?_
  replace hF := Option.bind_eq_some_iff.mp hF
  obtain ⟨v_54, ev_54, hF⟩ := hF
  refine m_getR (B := B) (a := a0) E S fd_Draft_lines (Or.inl qw_8) ev_54 d_Draft_init_27 ?_
  refine lv_iload_n hx hb d_Draft_init_30 rfl (lv_at hl 0 rfl) ?_
  replace hF := Option.bind_eq_some_iff.mp hF
  obtain ⟨g_55, eg_55, hF⟩ := hF
  refine m_new (B := B) (ci := 1) (fs := [.null, .int 0]) E S (show s.heap.size + 15 = B + (n + 15) by omega) t_Line t_Line_ok i_Line rfl qw_7 qw_10 qw_11 (z_Line B) (Nat.le_of_ble_eq_true rfl) (Nat.le_of_ble_eq_true rfl) eg_55 d_Draft_init_31 (fun H S => ?_)
  refine W.widen (k := 16) (n := 326) (Nat.le_of_ble_eq_true rfl) (Nat.le_of_ble_eq_true rfl) ?_
  refine W.eq (g2 := F0 m 34 ls [.ref (B + (n + 15)), .int 7, m_r B v_54]) rfl ?_
  refine lv_dup hx hb d_Draft_init_34 rfl ?_
  replace hF := m_bd_inv hF
  obtain ⟨v_57, g_56, eg_56, hF⟩ := hF
  refine m_callI (B := B) (nn := 0) (b := (n + 15)) (As := []) (rest := [.ref (B + (n + 15)), .int 7, m_r B v_54]) (v := none) E S (show s.heap.size + 16 = B + (n + 16) by omega) (c_Line_init l D B K (n + 16) g_55 (n + 15) v_57 g_56 eg_56) qc_Line_init ⟨rfl, rfl⟩ (Or.inr ⟨_, qn_0⟩) qw_12 qw_11 rfl (by decide +kernel) ⟨Nat.le_of_ble_eq_true rfl, Nat.le_of_ble_eq_true rfl⟩ rfl hl.1 (by simp only [List.map_cons, List.map_nil, m_r_cat]; exact Nat.le_of_ble_eq_true rfl) d_Draft_init_35 ⟨Nat.le_of_ble_eq_true rfl, Nat.le_of_ble_eq_true rfl⟩ (fun H locs S => ?_)
  refine W.widen (k := 17) (n := 366) (Nat.le_of_ble_eq_true rfl) (Nat.le_of_ble_eq_true rfl) ?_
  refine W.eq (g2 := F0 m 38 ls [.ref (B + (n + 15)), .int 7, m_r B v_54]) rfl ?_
  replace hF := Option.bind_eq_some_iff.mp hF
  obtain ⟨a_58, ea_58, hF⟩ := hF
  subst ea_58
  replace hF := Option.bind_eq_some_iff.mp hF
  obtain ⟨g_59, eg_59, hF⟩ := hF
  refine m_aast (B := B) (a := a_58) (v := (n + 15)) (t := 4) (ci := 1) (r := (R_Line, F_Line, 2)) E S rfl rfl eg_59 d_Draft_init_38 (fun H locs S => ?_)
  refine lv_iinc (v := 8) (lv' := [(1, .int 8), (0, .ref (B + a0))]) hx hb d_Draft_init_39 hl (k := 0) rfl (by decide) (by decide) rfl (fun ls hl => ?_)
  refine lv_goto (tgt := 20) hx hb d_Draft_init_42 (by decide) ?_
  refine lv_iload_n hx hb d_Draft_init_20 rfl (lv_at hl 0 rfl) ?_
  refine lv_bipush (v := 30) hx hb d_Draft_init_21 (by decide) ?_
  refine lv_icmp_ge (tgt := 45) hx hb d_Draft_init_23 (by decide) (fun c_60 => absurd c_60 (by decide)) (fun c_60 => ?_)
  refine lv_aload_n hx hb d_Draft_init_26 rfl (lv_at hl 1 rfl) ?_
  replace hF := Option.bind_eq_some_iff.mp hF
  obtain ⟨v_61, ev_61, hF⟩ := hF
  refine m_getR (B := B) (a := a0) E S fd_Draft_lines (Or.inl qw_8) ev_61 d_Draft_init_27 ?_
  refine lv_iload_n hx hb d_Draft_init_30 rfl (lv_at hl 0 rfl) ?_
  replace hF := Option.bind_eq_some_iff.mp hF
  obtain ⟨g_62, eg_62, hF⟩ := hF
  refine m_new (B := B) (ci := 1) (fs := [.null, .int 0]) E S (show s.heap.size + 17 = B + (n + 17) by omega) t_Line t_Line_ok i_Line rfl qw_7 qw_10 qw_11 (z_Line B) (Nat.le_of_ble_eq_true rfl) (Nat.le_of_ble_eq_true rfl) eg_62 d_Draft_init_31 (fun H S => ?_)
  refine W.widen (k := 18) (n := 368) (Nat.le_of_ble_eq_true rfl) (Nat.le_of_ble_eq_true rfl) ?_
  refine W.eq (g2 := F0 m 34 ls [.ref (B + (n + 17)), .int 8, m_r B v_61]) rfl ?_
  refine lv_dup hx hb d_Draft_init_34 rfl ?_
  replace hF := m_bd_inv hF
  obtain ⟨v_64, g_63, eg_63, hF⟩ := hF
  refine m_callI (B := B) (nn := 0) (b := (n + 17)) (As := []) (rest := [.ref (B + (n + 17)), .int 8, m_r B v_61]) (v := none) E S (show s.heap.size + 18 = B + (n + 18) by omega) (c_Line_init l D B K (n + 18) g_62 (n + 17) v_64 g_63 eg_63) qc_Line_init ⟨rfl, rfl⟩ (Or.inr ⟨_, qn_0⟩) qw_12 qw_11 rfl (by decide +kernel) ⟨Nat.le_of_ble_eq_true rfl, Nat.le_of_ble_eq_true rfl⟩ rfl hl.1 (by simp only [List.map_cons, List.map_nil, m_r_cat]; exact Nat.le_of_ble_eq_true rfl) d_Draft_init_35 ⟨Nat.le_of_ble_eq_true rfl, Nat.le_of_ble_eq_true rfl⟩ (fun H locs S => ?_)
  refine W.widen (k := 19) (n := 408) (Nat.le_of_ble_eq_true rfl) (Nat.le_of_ble_eq_true rfl) ?_
  refine W.eq (g2 := F0 m 38 ls [.ref (B + (n + 17)), .int 8, m_r B v_61]) rfl ?_
  replace hF := Option.bind_eq_some_iff.mp hF
  obtain ⟨a_65, ea_65, hF⟩ := hF
  subst ea_65
  replace hF := Option.bind_eq_some_iff.mp hF
  obtain ⟨g_66, eg_66, hF⟩ := hF
  refine m_aast (B := B) (a := a_65) (v := (n + 17)) (t := 4) (ci := 1) (r := (R_Line, F_Line, 2)) E S rfl rfl eg_66 d_Draft_init_38 (fun H locs S => ?_)
  refine lv_iinc (v := 9) (lv' := [(1, .int 9), (0, .ref (B + a0))]) hx hb d_Draft_init_39 hl (k := 0) rfl (by decide) (by decide) rfl (fun ls hl => ?_)
  refine lv_goto (tgt := 20) hx hb d_Draft_init_42 (by decide) ?_
  refine lv_iload_n hx hb d_Draft_init_20 rfl (lv_at hl 0 rfl) ?_
  refine lv_bipush (v := 30) hx hb d_Draft_init_21 (by decide) ?_
  refine lv_icmp_ge (tgt := 45) hx hb d_Draft_init_23 (by decide) (fun c_67 => absurd c_67 (by decide)) (fun c_67 => ?_)
  refine lv_aload_n hx hb d_Draft_init_26 rfl (lv_at hl 1 rfl) ?_
  replace hF := Option.bind_eq_some_iff.mp hF
  obtain ⟨v_68, ev_68, hF⟩ := hF
  refine m_getR (B := B) (a := a0) E S fd_Draft_lines (Or.inl qw_8) ev_68 d_Draft_init_27 ?_
  refine lv_iload_n hx hb d_Draft_init_30 rfl (lv_at hl 0 rfl) ?_
  replace hF := Option.bind_eq_some_iff.mp hF
  obtain ⟨g_69, eg_69, hF⟩ := hF
  refine m_new (B := B) (ci := 1) (fs := [.null, .int 0]) E S (show s.heap.size + 19 = B + (n + 19) by omega) t_Line t_Line_ok i_Line rfl qw_7 qw_10 qw_11 (z_Line B) (Nat.le_of_ble_eq_true rfl) (Nat.le_of_ble_eq_true rfl) eg_69 d_Draft_init_31 (fun H S => ?_)
  refine W.widen (k := 20) (n := 410) (Nat.le_of_ble_eq_true rfl) (Nat.le_of_ble_eq_true rfl) ?_
  refine W.eq (g2 := F0 m 34 ls [.ref (B + (n + 19)), .int 9, m_r B v_68]) rfl ?_
  refine lv_dup hx hb d_Draft_init_34 rfl ?_
  replace hF := m_bd_inv hF
  obtain ⟨v_71, g_70, eg_70, hF⟩ := hF
  refine m_callI (B := B) (nn := 0) (b := (n + 19)) (As := []) (rest := [.ref (B + (n + 19)), .int 9, m_r B v_68]) (v := none) E S (show s.heap.size + 20 = B + (n + 20) by omega) (c_Line_init l D B K (n + 20) g_69 (n + 19) v_71 g_70 eg_70) qc_Line_init ⟨rfl, rfl⟩ (Or.inr ⟨_, qn_0⟩) qw_12 qw_11 rfl (by decide +kernel) ⟨Nat.le_of_ble_eq_true rfl, Nat.le_of_ble_eq_true rfl⟩ rfl hl.1 (by simp only [List.map_cons, List.map_nil, m_r_cat]; exact Nat.le_of_ble_eq_true rfl) d_Draft_init_35 ⟨Nat.le_of_ble_eq_true rfl, Nat.le_of_ble_eq_true rfl⟩ (fun H locs S => ?_)
  refine W.widen (k := 21) (n := 450) (Nat.le_of_ble_eq_true rfl) (Nat.le_of_ble_eq_true rfl) ?_
  refine W.eq (g2 := F0 m 38 ls [.ref (B + (n + 19)), .int 9, m_r B v_68]) rfl ?_
  replace hF := Option.bind_eq_some_iff.mp hF
  obtain ⟨a_72, ea_72, hF⟩ := hF
  subst ea_72
  replace hF := Option.bind_eq_some_iff.mp hF
  obtain ⟨g_73, eg_73, hF⟩ := hF
  refine m_aast (B := B) (a := a_72) (v := (n + 19)) (t := 4) (ci := 1) (r := (R_Line, F_Line, 2)) E S rfl rfl eg_73 d_Draft_init_38 (fun H locs S => ?_)
  refine lv_iinc (v := 10) (lv' := [(1, .int 10), (0, .ref (B + a0))]) hx hb d_Draft_init_39 hl (k := 0) rfl (by decide) (by decide) rfl (fun ls hl => ?_)
  refine lv_goto (tgt := 20) hx hb d_Draft_init_42 (by decide) ?_
  refine lv_iload_n hx hb d_Draft_init_20 rfl (lv_at hl 0 rfl) ?_
  refine lv_bipush (v := 30) hx hb d_Draft_init_21 (by decide) ?_
  refine lv_icmp_ge (tgt := 45) hx hb d_Draft_init_23 (by decide) (fun c_74 => absurd c_74 (by decide)) (fun c_74 => ?_)
  refine lv_aload_n hx hb d_Draft_init_26 rfl (lv_at hl 1 rfl) ?_
  replace hF := Option.bind_eq_some_iff.mp hF
  obtain ⟨v_75, ev_75, hF⟩ := hF
  refine m_getR (B := B) (a := a0) E S fd_Draft_lines (Or.inl qw_8) ev_75 d_Draft_init_27 ?_
  refine lv_iload_n hx hb d_Draft_init_30 rfl (lv_at hl 0 rfl) ?_
  replace hF := Option.bind_eq_some_iff.mp hF
  obtain ⟨g_76, eg_76, hF⟩ := hF
  refine m_new (B := B) (ci := 1) (fs := [.null, .int 0]) E S (show s.heap.size + 21 = B + (n + 21) by omega) t_Line t_Line_ok i_Line rfl qw_7 qw_10 qw_11 (z_Line B) (Nat.le_of_ble_eq_true rfl) (Nat.le_of_ble_eq_true rfl) eg_76 d_Draft_init_31 (fun H S => ?_)
  refine W.widen (k := 22) (n := 452) (Nat.le_of_ble_eq_true rfl) (Nat.le_of_ble_eq_true rfl) ?_
  refine W.eq (g2 := F0 m 34 ls [.ref (B + (n + 21)), .int 10, m_r B v_75]) rfl ?_
  refine lv_dup hx hb d_Draft_init_34 rfl ?_
  replace hF := m_bd_inv hF
  obtain ⟨v_78, g_77, eg_77, hF⟩ := hF
  refine m_callI (B := B) (nn := 0) (b := (n + 21)) (As := []) (rest := [.ref (B + (n + 21)), .int 10, m_r B v_75]) (v := none) E S (show s.heap.size + 22 = B + (n + 22) by omega) (c_Line_init l D B K (n + 22) g_76 (n + 21) v_78 g_77 eg_77) qc_Line_init ⟨rfl, rfl⟩ (Or.inr ⟨_, qn_0⟩) qw_12 qw_11 rfl (by decide +kernel) ⟨Nat.le_of_ble_eq_true rfl, Nat.le_of_ble_eq_true rfl⟩ rfl hl.1 (by simp only [List.map_cons, List.map_nil, m_r_cat]; exact Nat.le_of_ble_eq_true rfl) d_Draft_init_35 ⟨Nat.le_of_ble_eq_true rfl, Nat.le_of_ble_eq_true rfl⟩ (fun H locs S => ?_)
  refine W.widen (k := 23) (n := 492) (Nat.le_of_ble_eq_true rfl) (Nat.le_of_ble_eq_true rfl) ?_
  refine W.eq (g2 := F0 m 38 ls [.ref (B + (n + 21)), .int 10, m_r B v_75]) rfl ?_
  replace hF := Option.bind_eq_some_iff.mp hF
  obtain ⟨a_79, ea_79, hF⟩ := hF
  subst ea_79
  replace hF := Option.bind_eq_some_iff.mp hF
  obtain ⟨g_80, eg_80, hF⟩ := hF
  refine m_aast (B := B) (a := a_79) (v := (n + 21)) (t := 4) (ci := 1) (r := (R_Line, F_Line, 2)) E S rfl rfl eg_80 d_Draft_init_38 (fun H locs S => ?_)
  refine lv_iinc (v := 11) (lv' := [(1, .int 11), (0, .ref (B + a0))]) hx hb d_Draft_init_39 hl (k := 0) rfl (by decide) (by decide) rfl (fun ls hl => ?_)
  refine lv_goto (tgt := 20) hx hb d_Draft_init_42 (by decide) ?_
  refine lv_iload_n hx hb d_Draft_init_20 rfl (lv_at hl 0 rfl) ?_
  refine lv_bipush (v := 30) hx hb d_Draft_init_21 (by decide) ?_
  refine lv_icmp_ge (tgt := 45) hx hb d_Draft_init_23 (by decide) (fun c_81 => absurd c_81 (by decide)) (fun c_81 => ?_)
  refine lv_aload_n hx hb d_Draft_init_26 rfl (lv_at hl 1 rfl) ?_
  replace hF := Option.bind_eq_some_iff.mp hF
  obtain ⟨v_82, ev_82, hF⟩ := hF
  refine m_getR (B := B) (a := a0) E S fd_Draft_lines (Or.inl qw_8) ev_82 d_Draft_init_27 ?_
  refine lv_iload_n hx hb d_Draft_init_30 rfl (lv_at hl 0 rfl) ?_
  replace hF := Option.bind_eq_some_iff.mp hF
  obtain ⟨g_83, eg_83, hF⟩ := hF
  refine m_new (B := B) (ci := 1) (fs := [.null, .int 0]) E S (show s.heap.size + 23 = B + (n + 23) by omega) t_Line t_Line_ok i_Line rfl qw_7 qw_10 qw_11 (z_Line B) (Nat.le_of_ble_eq_true rfl) (Nat.le_of_ble_eq_true rfl) eg_83 d_Draft_init_31 (fun H S => ?_)
  refine W.widen (k := 24) (n := 494) (Nat.le_of_ble_eq_true rfl) (Nat.le_of_ble_eq_true rfl) ?_
  refine W.eq (g2 := F0 m 34 ls [.ref (B + (n + 23)), .int 11, m_r B v_82]) rfl ?_
  refine lv_dup hx hb d_Draft_init_34 rfl ?_
  replace hF := m_bd_inv hF
  obtain ⟨v_85, g_84, eg_84, hF⟩ := hF
  refine m_callI (B := B) (nn := 0) (b := (n + 23)) (As := []) (rest := [.ref (B + (n + 23)), .int 11, m_r B v_82]) (v := none) E S (show s.heap.size + 24 = B + (n + 24) by omega) (c_Line_init l D B K (n + 24) g_83 (n + 23) v_85 g_84 eg_84) qc_Line_init ⟨rfl, rfl⟩ (Or.inr ⟨_, qn_0⟩) qw_12 qw_11 rfl (by decide +kernel) ⟨Nat.le_of_ble_eq_true rfl, Nat.le_of_ble_eq_true rfl⟩ rfl hl.1 (by simp only [List.map_cons, List.map_nil, m_r_cat]; exact Nat.le_of_ble_eq_true rfl) d_Draft_init_35 ⟨Nat.le_of_ble_eq_true rfl, Nat.le_of_ble_eq_true rfl⟩ (fun H locs S => ?_)
  refine W.widen (k := 25) (n := 534) (Nat.le_of_ble_eq_true rfl) (Nat.le_of_ble_eq_true rfl) ?_
  refine W.eq (g2 := F0 m 38 ls [.ref (B + (n + 23)), .int 11, m_r B v_82]) rfl ?_
  replace hF := Option.bind_eq_some_iff.mp hF
  obtain ⟨a_86, ea_86, hF⟩ := hF
  subst ea_86
  replace hF := Option.bind_eq_some_iff.mp hF
  obtain ⟨g_87, eg_87, hF⟩ := hF
  refine m_aast (B := B) (a := a_86) (v := (n + 23)) (t := 4) (ci := 1) (r := (R_Line, F_Line, 2)) E S rfl rfl eg_87 d_Draft_init_38 (fun H locs S => ?_)
  refine lv_iinc (v := 12) (lv' := [(1, .int 12), (0, .ref (B + a0))]) hx hb d_Draft_init_39 hl (k := 0) rfl (by decide) (by decide) rfl (fun ls hl => ?_)
  refine lv_goto (tgt := 20) hx hb d_Draft_init_42 (by decide) ?_
  refine lv_iload_n hx hb d_Draft_init_20 rfl (lv_at hl 0 rfl) ?_
  refine lv_bipush (v := 30) hx hb d_Draft_init_21 (by decide) ?_
  refine lv_icmp_ge (tgt := 45) hx hb d_Draft_init_23 (by decide) (fun c_88 => absurd c_88 (by decide)) (fun c_88 => ?_)
  refine lv_aload_n hx hb d_Draft_init_26 rfl (lv_at hl 1 rfl) ?_
  replace hF := Option.bind_eq_some_iff.mp hF
  obtain ⟨v_89, ev_89, hF⟩ := hF
  refine m_getR (B := B) (a := a0) E S fd_Draft_lines (Or.inl qw_8) ev_89 d_Draft_init_27 ?_
  refine lv_iload_n hx hb d_Draft_init_30 rfl (lv_at hl 0 rfl) ?_
  replace hF := Option.bind_eq_some_iff.mp hF
  obtain ⟨g_90, eg_90, hF⟩ := hF
  refine m_new (B := B) (ci := 1) (fs := [.null, .int 0]) E S (show s.heap.size + 25 = B + (n + 25) by omega) t_Line t_Line_ok i_Line rfl qw_7 qw_10 qw_11 (z_Line B) (Nat.le_of_ble_eq_true rfl) (Nat.le_of_ble_eq_true rfl) eg_90 d_Draft_init_31 (fun H S => ?_)
  refine W.widen (k := 26) (n := 536) (Nat.le_of_ble_eq_true rfl) (Nat.le_of_ble_eq_true rfl) ?_
  refine W.eq (g2 := F0 m 34 ls [.ref (B + (n + 25)), .int 12, m_r B v_89]) rfl ?_
  refine lv_dup hx hb d_Draft_init_34 rfl ?_
  replace hF := m_bd_inv hF
  obtain ⟨v_92, g_91, eg_91, hF⟩ := hF
  refine m_callI (B := B) (nn := 0) (b := (n + 25)) (As := []) (rest := [.ref (B + (n + 25)), .int 12, m_r B v_89]) (v := none) E S (show s.heap.size + 26 = B + (n + 26) by omega) (c_Line_init l D B K (n + 26) g_90 (n + 25) v_92 g_91 eg_91) qc_Line_init ⟨rfl, rfl⟩ (Or.inr ⟨_, qn_0⟩) qw_12 qw_11 rfl (by decide +kernel) ⟨Nat.le_of_ble_eq_true rfl, Nat.le_of_ble_eq_true rfl⟩ rfl hl.1 (by simp only [List.map_cons, List.map_nil, m_r_cat]; exact Nat.le_of_ble_eq_true rfl) d_Draft_init_35 ⟨Nat.le_of_ble_eq_true rfl, Nat.le_of_ble_eq_true rfl⟩ (fun H locs S => ?_)
  refine W.widen (k := 27) (n := 576) (Nat.le_of_ble_eq_true rfl) (Nat.le_of_ble_eq_true rfl) ?_
  refine W.eq (g2 := F0 m 38 ls [.ref (B + (n + 25)), .int 12, m_r B v_89]) rfl ?_
  replace hF := Option.bind_eq_some_iff.mp hF
  obtain ⟨a_93, ea_93, hF⟩ := hF
  subst ea_93
  replace hF := Option.bind_eq_some_iff.mp hF
  obtain ⟨g_94, eg_94, hF⟩ := hF
  refine m_aast (B := B) (a := a_93) (v := (n + 25)) (t := 4) (ci := 1) (r := (R_Line, F_Line, 2)) E S rfl rfl eg_94 d_Draft_init_38 (fun H locs S => ?_)
  refine lv_iinc (v := 13) (lv' := [(1, .int 13), (0, .ref (B + a0))]) hx hb d_Draft_init_39 hl (k := 0) rfl (by decide) (by decide) rfl (fun ls hl => ?_)
  refine lv_goto (tgt := 20) hx hb d_Draft_init_42 (by decide) ?_
  refine lv_iload_n hx hb d_Draft_init_20 rfl (lv_at hl 0 rfl) ?_
  refine lv_bipush (v := 30) hx hb d_Draft_init_21 (by decide) ?_
  refine lv_icmp_ge (tgt := 45) hx hb d_Draft_init_23 (by decide) (fun c_95 => absurd c_95 (by decide)) (fun c_95 => ?_)
  refine lv_aload_n hx hb d_Draft_init_26 rfl (lv_at hl 1 rfl) ?_
  replace hF := Option.bind_eq_some_iff.mp hF
  obtain ⟨v_96, ev_96, hF⟩ := hF
  refine m_getR (B := B) (a := a0) E S fd_Draft_lines (Or.inl qw_8) ev_96 d_Draft_init_27 ?_
  refine lv_iload_n hx hb d_Draft_init_30 rfl (lv_at hl 0 rfl) ?_
  replace hF := Option.bind_eq_some_iff.mp hF
  obtain ⟨g_97, eg_97, hF⟩ := hF
  refine m_new (B := B) (ci := 1) (fs := [.null, .int 0]) E S (show s.heap.size + 27 = B + (n + 27) by omega) t_Line t_Line_ok i_Line rfl qw_7 qw_10 qw_11 (z_Line B) (Nat.le_of_ble_eq_true rfl) (Nat.le_of_ble_eq_true rfl) eg_97 d_Draft_init_31 (fun H S => ?_)
  refine W.widen (k := 28) (n := 578) (Nat.le_of_ble_eq_true rfl) (Nat.le_of_ble_eq_true rfl) ?_
  refine W.eq (g2 := F0 m 34 ls [.ref (B + (n + 27)), .int 13, m_r B v_96]) rfl ?_
  refine lv_dup hx hb d_Draft_init_34 rfl ?_
  replace hF := m_bd_inv hF
  obtain ⟨v_99, g_98, eg_98, hF⟩ := hF
  refine m_callI (B := B) (nn := 0) (b := (n + 27)) (As := []) (rest := [.ref (B + (n + 27)), .int 13, m_r B v_96]) (v := none) E S (show s.heap.size + 28 = B + (n + 28) by omega) (c_Line_init l D B K (n + 28) g_97 (n + 27) v_99 g_98 eg_98) qc_Line_init ⟨rfl, rfl⟩ (Or.inr ⟨_, qn_0⟩) qw_12 qw_11 rfl (by decide +kernel) ⟨Nat.le_of_ble_eq_true rfl, Nat.le_of_ble_eq_true rfl⟩ rfl hl.1 (by simp only [List.map_cons, List.map_nil, m_r_cat]; exact Nat.le_of_ble_eq_true rfl) d_Draft_init_35 ⟨Nat.le_of_ble_eq_true rfl, Nat.le_of_ble_eq_true rfl⟩ (fun H locs S => ?_)
  refine W.widen (k := 29) (n := 618) (Nat.le_of_ble_eq_true rfl) (Nat.le_of_ble_eq_true rfl) ?_
  refine W.eq (g2 := F0 m 38 ls [.ref (B + (n + 27)), .int 13, m_r B v_96]) rfl ?_
  replace hF := Option.bind_eq_some_iff.mp hF
  obtain ⟨a_100, ea_100, hF⟩ := hF
  subst ea_100
  replace hF := Option.bind_eq_some_iff.mp hF
  obtain ⟨g_101, eg_101, hF⟩ := hF
  refine m_aast (B := B) (a := a_100) (v := (n + 27)) (t := 4) (ci := 1) (r := (R_Line, F_Line, 2)) E S rfl rfl eg_101 d_Draft_init_38 (fun H locs S => ?_)
  refine lv_iinc (v := 14) (lv' := [(1, .int 14), (0, .ref (B + a0))]) hx hb d_Draft_init_39 hl (k := 0) rfl (by decide) (by decide) rfl (fun ls hl => ?_)
  refine lv_goto (tgt := 20) hx hb d_Draft_init_42 (by decide) ?_
  refine lv_iload_n hx hb d_Draft_init_20 rfl (lv_at hl 0 rfl) ?_
  refine lv_bipush (v := 30) hx hb d_Draft_init_21 (by decide) ?_
  refine lv_icmp_ge (tgt := 45) hx hb d_Draft_init_23 (by decide) (fun c_102 => absurd c_102 (by decide)) (fun c_102 => ?_)
  refine lv_aload_n hx hb d_Draft_init_26 rfl (lv_at hl 1 rfl) ?_
  replace hF := Option.bind_eq_some_iff.mp hF
  obtain ⟨v_103, ev_103, hF⟩ := hF
  refine m_getR (B := B) (a := a0) E S fd_Draft_lines (Or.inl qw_8) ev_103 d_Draft_init_27 ?_
  refine lv_iload_n hx hb d_Draft_init_30 rfl (lv_at hl 0 rfl) ?_
  replace hF := Option.bind_eq_some_iff.mp hF
  obtain ⟨g_104, eg_104, hF⟩ := hF
  refine m_new (B := B) (ci := 1) (fs := [.null, .int 0]) E S (show s.heap.size + 29 = B + (n + 29) by omega) t_Line t_Line_ok i_Line rfl qw_7 qw_10 qw_11 (z_Line B) (Nat.le_of_ble_eq_true rfl) (Nat.le_of_ble_eq_true rfl) eg_104 d_Draft_init_31 (fun H S => ?_)
  refine W.widen (k := 30) (n := 620) (Nat.le_of_ble_eq_true rfl) (Nat.le_of_ble_eq_true rfl) ?_
  refine W.eq (g2 := F0 m 34 ls [.ref (B + (n + 29)), .int 14, m_r B v_103]) rfl ?_
  refine lv_dup hx hb d_Draft_init_34 rfl ?_
  replace hF := m_bd_inv hF
  obtain ⟨v_106, g_105, eg_105, hF⟩ := hF
  refine m_callI (B := B) (nn := 0) (b := (n + 29)) (As := []) (rest := [.ref (B + (n + 29)), .int 14, m_r B v_103]) (v := none) E S (show s.heap.size + 30 = B + (n + 30) by omega) (c_Line_init l D B K (n + 30) g_104 (n + 29) v_106 g_105 eg_105) qc_Line_init ⟨rfl, rfl⟩ (Or.inr ⟨_, qn_0⟩) qw_12 qw_11 rfl (by decide +kernel) ⟨Nat.le_of_ble_eq_true rfl, Nat.le_of_ble_eq_true rfl⟩ rfl hl.1 (by simp only [List.map_cons, List.map_nil, m_r_cat]; exact Nat.le_of_ble_eq_true rfl) d_Draft_init_35 ⟨Nat.le_of_ble_eq_true rfl, Nat.le_of_ble_eq_true rfl⟩ (fun H locs S => ?_)
  refine W.widen (k := 31) (n := 660) (Nat.le_of_ble_eq_true rfl) (Nat.le_of_ble_eq_true rfl) ?_
  refine W.eq (g2 := F0 m 38 ls [.ref (B + (n + 29)), .int 14, m_r B v_103]) rfl ?_
  replace hF := Option.bind_eq_some_iff.mp hF
  obtain ⟨a_107, ea_107, hF⟩ := hF
  subst ea_107
  replace hF := Option.bind_eq_some_iff.mp hF
  obtain ⟨g_108, eg_108, hF⟩ := hF
  refine m_aast (B := B) (a := a_107) (v := (n + 29)) (t := 4) (ci := 1) (r := (R_Line, F_Line, 2)) E S rfl rfl eg_108 d_Draft_init_38 (fun H locs S => ?_)
  refine lv_iinc (v := 15) (lv' := [(1, .int 15), (0, .ref (B + a0))]) hx hb d_Draft_init_39 hl (k := 0) rfl (by decide) (by decide) rfl (fun ls hl => ?_)
  refine lv_goto (tgt := 20) hx hb d_Draft_init_42 (by decide) ?_
  refine lv_iload_n hx hb d_Draft_init_20 rfl (lv_at hl 0 rfl) ?_
  refine lv_bipush (v := 30) hx hb d_Draft_init_21 (by decide) ?_
  refine lv_icmp_ge (tgt := 45) hx hb d_Draft_init_23 (by decide) (fun c_109 => absurd c_109 (by decide)) (fun c_109 => ?_)
  refine lv_aload_n hx hb d_Draft_init_26 rfl (lv_at hl 1 rfl) ?_
  replace hF := Option.bind_eq_some_iff.mp hF
  obtain ⟨v_110, ev_110, hF⟩ := hF
  refine m_getR (B := B) (a := a0) E S fd_Draft_lines (Or.inl qw_8) ev_110 d_Draft_init_27 ?_
  refine lv_iload_n hx hb d_Draft_init_30 rfl (lv_at hl 0 rfl) ?_
  replace hF := Option.bind_eq_some_iff.mp hF
  obtain ⟨g_111, eg_111, hF⟩ := hF
  refine m_new (B := B) (ci := 1) (fs := [.null, .int 0]) E S (show s.heap.size + 31 = B + (n + 31) by omega) t_Line t_Line_ok i_Line rfl qw_7 qw_10 qw_11 (z_Line B) (Nat.le_of_ble_eq_true rfl) (Nat.le_of_ble_eq_true rfl) eg_111 d_Draft_init_31 (fun H S => ?_)
  refine W.widen (k := 32) (n := 662) (Nat.le_of_ble_eq_true rfl) (Nat.le_of_ble_eq_true rfl) ?_
  refine W.eq (g2 := F0 m 34 ls [.ref (B + (n + 31)), .int 15, m_r B v_110]) rfl ?_
  refine lv_dup hx hb d_Draft_init_34 rfl ?_
  replace hF := m_bd_inv hF
  obtain ⟨v_113, g_112, eg_112, hF⟩ := hF
  refine m_callI (B := B) (nn := 0) (b := (n + 31)) (As := []) (rest := [.ref (B + (n + 31)), .int 15, m_r B v_110]) (v := none) E S (show s.heap.size + 32 = B + (n + 32) by omega) (c_Line_init l D B K (n + 32) g_111 (n + 31) v_113 g_112 eg_112) qc_Line_init ⟨rfl, rfl⟩ (Or.inr ⟨_, qn_0⟩) qw_12 qw_11 rfl (by decide +kernel) ⟨Nat.le_of_ble_eq_true rfl, Nat.le_of_ble_eq_true rfl⟩ rfl hl.1 (by simp only [List.map_cons, List.map_nil, m_r_cat]; exact Nat.le_of_ble_eq_true rfl) d_Draft_init_35 ⟨Nat.le_of_ble_eq_true rfl, Nat.le_of_ble_eq_true rfl⟩ (fun H locs S => ?_)
  refine W.widen (k := 33) (n := 702) (Nat.le_of_ble_eq_true rfl) (Nat.le_of_ble_eq_true rfl) ?_
  refine W.eq (g2 := F0 m 38 ls [.ref (B + (n + 31)), .int 15, m_r B v_110]) rfl ?_
  replace hF := Option.bind_eq_some_iff.mp hF
  obtain ⟨a_114, ea_114, hF⟩ := hF
  subst ea_114
  replace hF := Option.bind_eq_some_iff.mp hF
  obtain ⟨g_115, eg_115, hF⟩ := hF
  refine m_aast (B := B) (a := a_114) (v := (n + 31)) (t := 4) (ci := 1) (r := (R_Line, F_Line, 2)) E S rfl rfl eg_115 d_Draft_init_38 (fun H locs S => ?_)
  refine lv_iinc (v := 16) (lv' := [(1, .int 16), (0, .ref (B + a0))]) hx hb d_Draft_init_39 hl (k := 0) rfl (by decide) (by decide) rfl (fun ls hl => ?_)
  refine lv_goto (tgt := 20) hx hb d_Draft_init_42 (by decide) ?_
  refine lv_iload_n hx hb d_Draft_init_20 rfl (lv_at hl 0 rfl) ?_
  refine lv_bipush (v := 30) hx hb d_Draft_init_21 (by decide) ?_
  refine lv_icmp_ge (tgt := 45) hx hb d_Draft_init_23 (by decide) (fun c_116 => absurd c_116 (by decide)) (fun c_116 => ?_)
  refine lv_aload_n hx hb d_Draft_init_26 rfl (lv_at hl 1 rfl) ?_
  replace hF := Option.bind_eq_some_iff.mp hF
  obtain ⟨v_117, ev_117, hF⟩ := hF
  refine m_getR (B := B) (a := a0) E S fd_Draft_lines (Or.inl qw_8) ev_117 d_Draft_init_27 ?_
  refine lv_iload_n hx hb d_Draft_init_30 rfl (lv_at hl 0 rfl) ?_
  replace hF := Option.bind_eq_some_iff.mp hF
  obtain ⟨g_118, eg_118, hF⟩ := hF
  refine m_new (B := B) (ci := 1) (fs := [.null, .int 0]) E S (show s.heap.size + 33 = B + (n + 33) by omega) t_Line t_Line_ok i_Line rfl qw_7 qw_10 qw_11 (z_Line B) (Nat.le_of_ble_eq_true rfl) (Nat.le_of_ble_eq_true rfl) eg_118 d_Draft_init_31 (fun H S => ?_)
  refine W.widen (k := 34) (n := 704) (Nat.le_of_ble_eq_true rfl) (Nat.le_of_ble_eq_true rfl) ?_
  refine W.eq (g2 := F0 m 34 ls [.ref (B + (n + 33)), .int 16, m_r B v_117]) rfl ?_
  refine lv_dup hx hb d_Draft_init_34 rfl ?_
  replace hF := m_bd_inv hF
  obtain ⟨v_120, g_119, eg_119, hF⟩ := hF
  refine m_callI (B := B) (nn := 0) (b := (n + 33)) (As := []) (rest := [.ref (B + (n + 33)), .int 16, m_r B v_117]) (v := none) E S (show s.heap.size + 34 = B + (n + 34) by omega) (c_Line_init l D B K (n + 34) g_118 (n + 33) v_120 g_119 eg_119) qc_Line_init ⟨rfl, rfl⟩ (Or.inr ⟨_, qn_0⟩) qw_12 qw_11 rfl (by decide +kernel) ⟨Nat.le_of_ble_eq_true rfl, Nat.le_of_ble_eq_true rfl⟩ rfl hl.1 (by simp only [List.map_cons, List.map_nil, m_r_cat]; exact Nat.le_of_ble_eq_true rfl) d_Draft_init_35 ⟨Nat.le_of_ble_eq_true rfl, Nat.le_of_ble_eq_true rfl⟩ (fun H locs S => ?_)
  refine W.widen (k := 35) (n := 744) (Nat.le_of_ble_eq_true rfl) (Nat.le_of_ble_eq_true rfl) ?_
  refine W.eq (g2 := F0 m 38 ls [.ref (B + (n + 33)), .int 16, m_r B v_117]) rfl ?_
  replace hF := Option.bind_eq_some_iff.mp hF
  obtain ⟨a_121, ea_121, hF⟩ := hF
  subst ea_121
  replace hF := Option.bind_eq_some_iff.mp hF
  obtain ⟨g_122, eg_122, hF⟩ := hF
  refine m_aast (B := B) (a := a_121) (v := (n + 33)) (t := 4) (ci := 1) (r := (R_Line, F_Line, 2)) E S rfl rfl eg_122 d_Draft_init_38 (fun H locs S => ?_)
  refine lv_iinc (v := 17) (lv' := [(1, .int 17), (0, .ref (B + a0))]) hx hb d_Draft_init_39 hl (k := 0) rfl (by decide) (by decide) rfl (fun ls hl => ?_)
  refine lv_goto (tgt := 20) hx hb d_Draft_init_42 (by decide) ?_
  refine lv_iload_n hx hb d_Draft_init_20 rfl (lv_at hl 0 rfl) ?_
  refine lv_bipush (v := 30) hx hb d_Draft_init_21 (by decide) ?_
  refine lv_icmp_ge (tgt := 45) hx hb d_Draft_init_23 (by decide) (fun c_123 => absurd c_123 (by decide)) (fun c_123 => ?_)
  refine lv_aload_n hx hb d_Draft_init_26 rfl (lv_at hl 1 rfl) ?_
  replace hF := Option.bind_eq_some_iff.mp hF
  obtain ⟨v_124, ev_124, hF⟩ := hF
  refine m_getR (B := B) (a := a0) E S fd_Draft_lines (Or.inl qw_8) ev_124 d_Draft_init_27 ?_
  refine lv_iload_n hx hb d_Draft_init_30 rfl (lv_at hl 0 rfl) ?_
  replace hF := Option.bind_eq_some_iff.mp hF
  obtain ⟨g_125, eg_125, hF⟩ := hF
  refine m_new (B := B) (ci := 1) (fs := [.null, .int 0]) E S (show s.heap.size + 35 = B + (n + 35) by omega) t_Line t_Line_ok i_Line rfl qw_7 qw_10 qw_11 (z_Line B) (Nat.le_of_ble_eq_true rfl) (Nat.le_of_ble_eq_true rfl) eg_125 d_Draft_init_31 (fun H S => ?_)
  refine W.widen (k := 36) (n := 746) (Nat.le_of_ble_eq_true rfl) (Nat.le_of_ble_eq_true rfl) ?_
  refine W.eq (g2 := F0 m 34 ls [.ref (B + (n + 35)), .int 17, m_r B v_124]) rfl ?_
  refine lv_dup hx hb d_Draft_init_34 rfl ?_
  replace hF := m_bd_inv hF
  obtain ⟨v_127, g_126, eg_126, hF⟩ := hF
  refine m_callI (B := B) (nn := 0) (b := (n + 35)) (As := []) (rest := [.ref (B + (n + 35)), .int 17, m_r B v_124]) (v := none) E S (show s.heap.size + 36 = B + (n + 36) by omega) (c_Line_init l D B K (n + 36) g_125 (n + 35) v_127 g_126 eg_126) qc_Line_init ⟨rfl, rfl⟩ (Or.inr ⟨_, qn_0⟩) qw_12 qw_11 rfl (by decide +kernel) ⟨Nat.le_of_ble_eq_true rfl, Nat.le_of_ble_eq_true rfl⟩ rfl hl.1 (by simp only [List.map_cons, List.map_nil, m_r_cat]; exact Nat.le_of_ble_eq_true rfl) d_Draft_init_35 ⟨Nat.le_of_ble_eq_true rfl, Nat.le_of_ble_eq_true rfl⟩ (fun H locs S => ?_)
  refine W.widen (k := 37) (n := 786) (Nat.le_of_ble_eq_true rfl) (Nat.le_of_ble_eq_true rfl) ?_
  refine W.eq (g2 := F0 m 38 ls [.ref (B + (n + 35)), .int 17, m_r B v_124]) rfl ?_
  replace hF := Option.bind_eq_some_iff.mp hF
  obtain ⟨a_128, ea_128, hF⟩ := hF
  subst ea_128
  replace hF := Option.bind_eq_some_iff.mp hF
  obtain ⟨g_129, eg_129, hF⟩ := hF
  refine m_aast (B := B) (a := a_128) (v := (n + 35)) (t := 4) (ci := 1) (r := (R_Line, F_Line, 2)) E S rfl rfl eg_129 d_Draft_init_38 (fun H locs S => ?_)
  refine lv_iinc (v := 18) (lv' := [(1, .int 18), (0, .ref (B + a0))]) hx hb d_Draft_init_39 hl (k := 0) rfl (by decide) (by decide) rfl (fun ls hl => ?_)
  refine lv_goto (tgt := 20) hx hb d_Draft_init_42 (by decide) ?_
  refine lv_iload_n hx hb d_Draft_init_20 rfl (lv_at hl 0 rfl) ?_
  refine lv_bipush (v := 30) hx hb d_Draft_init_21 (by decide) ?_
  refine lv_icmp_ge (tgt := 45) hx hb d_Draft_init_23 (by decide) (fun c_130 => absurd c_130 (by decide)) (fun c_130 => ?_)
  refine lv_aload_n hx hb d_Draft_init_26 rfl (lv_at hl 1 rfl) ?_
  replace hF := Option.bind_eq_some_iff.mp hF
  obtain ⟨v_131, ev_131, hF⟩ := hF
  refine m_getR (B := B) (a := a0) E S fd_Draft_lines (Or.inl qw_8) ev_131 d_Draft_init_27 ?_
  refine lv_iload_n hx hb d_Draft_init_30 rfl (lv_at hl 0 rfl) ?_
  replace hF := Option.bind_eq_some_iff.mp hF
  obtain ⟨g_132, eg_132, hF⟩ := hF
  refine m_new (B := B) (ci := 1) (fs := [.null, .int 0]) E S (show s.heap.size + 37 = B + (n + 37) by omega) t_Line t_Line_ok i_Line rfl qw_7 qw_10 qw_11 (z_Line B) (Nat.le_of_ble_eq_true rfl) (Nat.le_of_ble_eq_true rfl) eg_132 d_Draft_init_31 (fun H S => ?_)
  refine W.widen (k := 38) (n := 788) (Nat.le_of_ble_eq_true rfl) (Nat.le_of_ble_eq_true rfl) ?_
  refine W.eq (g2 := F0 m 34 ls [.ref (B + (n + 37)), .int 18, m_r B v_131]) rfl ?_
  refine lv_dup hx hb d_Draft_init_34 rfl ?_
  replace hF := m_bd_inv hF
  obtain ⟨v_134, g_133, eg_133, hF⟩ := hF
  refine m_callI (B := B) (nn := 0) (b := (n + 37)) (As := []) (rest := [.ref (B + (n + 37)), .int 18, m_r B v_131]) (v := none) E S (show s.heap.size + 38 = B + (n + 38) by omega) (c_Line_init l D B K (n + 38) g_132 (n + 37) v_134 g_133 eg_133) qc_Line_init ⟨rfl, rfl⟩ (Or.inr ⟨_, qn_0⟩) qw_12 qw_11 rfl (by decide +kernel) ⟨Nat.le_of_ble_eq_true rfl, Nat.le_of_ble_eq_true rfl⟩ rfl hl.1 (by simp only [List.map_cons, List.map_nil, m_r_cat]; exact Nat.le_of_ble_eq_true rfl) d_Draft_init_35 ⟨Nat.le_of_ble_eq_true rfl, Nat.le_of_ble_eq_true rfl⟩ (fun H locs S => ?_)
  refine W.widen (k := 39) (n := 828) (Nat.le_of_ble_eq_true rfl) (Nat.le_of_ble_eq_true rfl) ?_
  refine W.eq (g2 := F0 m 38 ls [.ref (B + (n + 37)), .int 18, m_r B v_131]) rfl ?_
  replace hF := Option.bind_eq_some_iff.mp hF
  obtain ⟨a_135, ea_135, hF⟩ := hF
  subst ea_135
  replace hF := Option.bind_eq_some_iff.mp hF
  obtain ⟨g_136, eg_136, hF⟩ := hF
  refine m_aast (B := B) (a := a_135) (v := (n + 37)) (t := 4) (ci := 1) (r := (R_Line, F_Line, 2)) E S rfl rfl eg_136 d_Draft_init_38 (fun H locs S => ?_)
  refine lv_iinc (v := 19) (lv' := [(1, .int 19), (0, .ref (B + a0))]) hx hb d_Draft_init_39 hl (k := 0) rfl (by decide) (by decide) rfl (fun ls hl => ?_)
  refine lv_goto (tgt := 20) hx hb d_Draft_init_42 (by decide) ?_
  refine lv_iload_n hx hb d_Draft_init_20 rfl (lv_at hl 0 rfl) ?_
  refine lv_bipush (v := 30) hx hb d_Draft_init_21 (by decide) ?_
  refine lv_icmp_ge (tgt := 45) hx hb d_Draft_init_23 (by decide) (fun c_137 => absurd c_137 (by decide)) (fun c_137 => ?_)
  refine lv_aload_n hx hb d_Draft_init_26 rfl (lv_at hl 1 rfl) ?_
  replace hF := Option.bind_eq_some_iff.mp hF
  obtain ⟨v_138, ev_138, hF⟩ := hF
  refine m_getR (B := B) (a := a0) E S fd_Draft_lines (Or.inl qw_8) ev_138 d_Draft_init_27 ?_
  refine lv_iload_n hx hb d_Draft_init_30 rfl (lv_at hl 0 rfl) ?_
  replace hF := Option.bind_eq_some_iff.mp hF
  obtain ⟨g_139, eg_139, hF⟩ := hF
  refine m_new (B := B) (ci := 1) (fs := [.null, .int 0]) E S (show s.heap.size + 39 = B + (n + 39) by omega) t_Line t_Line_ok i_Line rfl qw_7 qw_10 qw_11 (z_Line B) (Nat.le_of_ble_eq_true rfl) (Nat.le_of_ble_eq_true rfl) eg_139 d_Draft_init_31 (fun H S => ?_)
  refine W.widen (k := 40) (n := 830) (Nat.le_of_ble_eq_true rfl) (Nat.le_of_ble_eq_true rfl) ?_
  refine W.eq (g2 := F0 m 34 ls [.ref (B + (n + 39)), .int 19, m_r B v_138]) rfl ?_
  refine lv_dup hx hb d_Draft_init_34 rfl ?_
  replace hF := m_bd_inv hF
  obtain ⟨v_141, g_140, eg_140, hF⟩ := hF
  refine m_callI (B := B) (nn := 0) (b := (n + 39)) (As := []) (rest := [.ref (B + (n + 39)), .int 19, m_r B v_138]) (v := none) E S (show s.heap.size + 40 = B + (n + 40) by omega) (c_Line_init l D B K (n + 40) g_139 (n + 39) v_141 g_140 eg_140) qc_Line_init ⟨rfl, rfl⟩ (Or.inr ⟨_, qn_0⟩) qw_12 qw_11 rfl (by decide +kernel) ⟨Nat.le_of_ble_eq_true rfl, Nat.le_of_ble_eq_true rfl⟩ rfl hl.1 (by simp only [List.map_cons, List.map_nil, m_r_cat]; exact Nat.le_of_ble_eq_true rfl) d_Draft_init_35 ⟨Nat.le_of_ble_eq_true rfl, Nat.le_of_ble_eq_true rfl⟩ (fun H locs S => ?_)
  refine W.widen (k := 41) (n := 870) (Nat.le_of_ble_eq_true rfl) (Nat.le_of_ble_eq_true rfl) ?_
  refine W.eq (g2 := F0 m 38 ls [.ref (B + (n + 39)), .int 19, m_r B v_138]) rfl ?_
  replace hF := Option.bind_eq_some_iff.mp hF
  obtain ⟨a_142, ea_142, hF⟩ := hF
  subst ea_142
  replace hF := Option.bind_eq_some_iff.mp hF
  obtain ⟨g_143, eg_143, hF⟩ := hF
  refine m_aast (B := B) (a := a_142) (v := (n + 39)) (t := 4) (ci := 1) (r := (R_Line, F_Line, 2)) E S rfl rfl eg_143 d_Draft_init_38 (fun H locs S => ?_)
  refine lv_iinc (v := 20) (lv' := [(1, .int 20), (0, .ref (B + a0))]) hx hb d_Draft_init_39 hl (k := 0) rfl (by decide) (by decide) rfl (fun ls hl => ?_)
  refine lv_goto (tgt := 20) hx hb d_Draft_init_42 (by decide) ?_
  refine lv_iload_n hx hb d_Draft_init_20 rfl (lv_at hl 0 rfl) ?_
  refine lv_bipush (v := 30) hx hb d_Draft_init_21 (by decide) ?_
  refine lv_icmp_ge (tgt := 45) hx hb d_Draft_init_23 (by decide) (fun c_144 => absurd c_144 (by decide)) (fun c_144 => ?_)
  refine lv_aload_n hx hb d_Draft_init_26 rfl (lv_at hl 1 rfl) ?_
  replace hF := Option.bind_eq_some_iff.mp hF
  obtain ⟨v_145, ev_145, hF⟩ := hF
  refine m_getR (B := B) (a := a0) E S fd_Draft_lines (Or.inl qw_8) ev_145 d_Draft_init_27 ?_
  refine lv_iload_n hx hb d_Draft_init_30 rfl (lv_at hl 0 rfl) ?_
  replace hF := Option.bind_eq_some_iff.mp hF
  obtain ⟨g_146, eg_146, hF⟩ := hF
  refine m_new (B := B) (ci := 1) (fs := [.null, .int 0]) E S (show s.heap.size + 41 = B + (n + 41) by omega) t_Line t_Line_ok i_Line rfl qw_7 qw_10 qw_11 (z_Line B) (Nat.le_of_ble_eq_true rfl) (Nat.le_of_ble_eq_true rfl) eg_146 d_Draft_init_31 (fun H S => ?_)
  refine W.widen (k := 42) (n := 872) (Nat.le_of_ble_eq_true rfl) (Nat.le_of_ble_eq_true rfl) ?_
  refine W.eq (g2 := F0 m 34 ls [.ref (B + (n + 41)), .int 20, m_r B v_145]) rfl ?_
  refine lv_dup hx hb d_Draft_init_34 rfl ?_
  replace hF := m_bd_inv hF
  obtain ⟨v_148, g_147, eg_147, hF⟩ := hF
  refine m_callI (B := B) (nn := 0) (b := (n + 41)) (As := []) (rest := [.ref (B + (n + 41)), .int 20, m_r B v_145]) (v := none) E S (show s.heap.size + 42 = B + (n + 42) by omega) (c_Line_init l D B K (n + 42) g_146 (n + 41) v_148 g_147 eg_147) qc_Line_init ⟨rfl, rfl⟩ (Or.inr ⟨_, qn_0⟩) qw_12 qw_11 rfl (by decide +kernel) ⟨Nat.le_of_ble_eq_true rfl, Nat.le_of_ble_eq_true rfl⟩ rfl hl.1 (by simp only [List.map_cons, List.map_nil, m_r_cat]; exact Nat.le_of_ble_eq_true rfl) d_Draft_init_35 ⟨Nat.le_of_ble_eq_true rfl, Nat.le_of_ble_eq_true rfl⟩ (fun H locs S => ?_)
  refine W.widen (k := 43) (n := 912) (Nat.le_of_ble_eq_true rfl) (Nat.le_of_ble_eq_true rfl) ?_
  refine W.eq (g2 := F0 m 38 ls [.ref (B + (n + 41)), .int 20, m_r B v_145]) rfl ?_
  replace hF := Option.bind_eq_some_iff.mp hF
  obtain ⟨a_149, ea_149, hF⟩ := hF
  subst ea_149
  replace hF := Option.bind_eq_some_iff.mp hF
  obtain ⟨g_150, eg_150, hF⟩ := hF
  refine m_aast (B := B) (a := a_149) (v := (n + 41)) (t := 4) (ci := 1) (r := (R_Line, F_Line, 2)) E S rfl rfl eg_150 d_Draft_init_38 (fun H locs S => ?_)
  refine lv_iinc (v := 21) (lv' := [(1, .int 21), (0, .ref (B + a0))]) hx hb d_Draft_init_39 hl (k := 0) rfl (by decide) (by decide) rfl (fun ls hl => ?_)
  refine lv_goto (tgt := 20) hx hb d_Draft_init_42 (by decide) ?_
  refine lv_iload_n hx hb d_Draft_init_20 rfl (lv_at hl 0 rfl) ?_
  refine lv_bipush (v := 30) hx hb d_Draft_init_21 (by decide) ?_
  refine lv_icmp_ge (tgt := 45) hx hb d_Draft_init_23 (by decide) (fun c_151 => absurd c_151 (by decide)) (fun c_151 => ?_)
  refine lv_aload_n hx hb d_Draft_init_26 rfl (lv_at hl 1 rfl) ?_
  replace hF := Option.bind_eq_some_iff.mp hF
  obtain ⟨v_152, ev_152, hF⟩ := hF
  refine m_getR (B := B) (a := a0) E S fd_Draft_lines (Or.inl qw_8) ev_152 d_Draft_init_27 ?_
  refine lv_iload_n hx hb d_Draft_init_30 rfl (lv_at hl 0 rfl) ?_
  replace hF := Option.bind_eq_some_iff.mp hF
  obtain ⟨g_153, eg_153, hF⟩ := hF
  refine m_new (B := B) (ci := 1) (fs := [.null, .int 0]) E S (show s.heap.size + 43 = B + (n + 43) by omega) t_Line t_Line_ok i_Line rfl qw_7 qw_10 qw_11 (z_Line B) (Nat.le_of_ble_eq_true rfl) (Nat.le_of_ble_eq_true rfl) eg_153 d_Draft_init_31 (fun H S => ?_)
  refine W.widen (k := 44) (n := 914) (Nat.le_of_ble_eq_true rfl) (Nat.le_of_ble_eq_true rfl) ?_
  refine W.eq (g2 := F0 m 34 ls [.ref (B + (n + 43)), .int 21, m_r B v_152]) rfl ?_
  refine lv_dup hx hb d_Draft_init_34 rfl ?_
  replace hF := m_bd_inv hF
  obtain ⟨v_155, g_154, eg_154, hF⟩ := hF
  refine m_callI (B := B) (nn := 0) (b := (n + 43)) (As := []) (rest := [.ref (B + (n + 43)), .int 21, m_r B v_152]) (v := none) E S (show s.heap.size + 44 = B + (n + 44) by omega) (c_Line_init l D B K (n + 44) g_153 (n + 43) v_155 g_154 eg_154) qc_Line_init ⟨rfl, rfl⟩ (Or.inr ⟨_, qn_0⟩) qw_12 qw_11 rfl (by decide +kernel) ⟨Nat.le_of_ble_eq_true rfl, Nat.le_of_ble_eq_true rfl⟩ rfl hl.1 (by simp only [List.map_cons, List.map_nil, m_r_cat]; exact Nat.le_of_ble_eq_true rfl) d_Draft_init_35 ⟨Nat.le_of_ble_eq_true rfl, Nat.le_of_ble_eq_true rfl⟩ (fun H locs S => ?_)
  refine W.widen (k := 45) (n := 954) (Nat.le_of_ble_eq_true rfl) (Nat.le_of_ble_eq_true rfl) ?_
  refine W.eq (g2 := F0 m 38 ls [.ref (B + (n + 43)), .int 21, m_r B v_152]) rfl ?_
  replace hF := Option.bind_eq_some_iff.mp hF
  obtain ⟨a_156, ea_156, hF⟩ := hF
  subst ea_156
  replace hF := Option.bind_eq_some_iff.mp hF
  obtain ⟨g_157, eg_157, hF⟩ := hF
  refine m_aast (B := B) (a := a_156) (v := (n + 43)) (t := 4) (ci := 1) (r := (R_Line, F_Line, 2)) E S rfl rfl eg_157 d_Draft_init_38 (fun H locs S => ?_)
  refine lv_iinc (v := 22) (lv' := [(1, .int 22), (0, .ref (B + a0))]) hx hb d_Draft_init_39 hl (k := 0) rfl (by decide) (by decide) rfl (fun ls hl => ?_)
  refine lv_goto (tgt := 20) hx hb d_Draft_init_42 (by decide) ?_
  refine lv_iload_n hx hb d_Draft_init_20 rfl (lv_at hl 0 rfl) ?_
  refine lv_bipush (v := 30) hx hb d_Draft_init_21 (by decide) ?_
  refine lv_icmp_ge (tgt := 45) hx hb d_Draft_init_23 (by decide) (fun c_158 => absurd c_158 (by decide)) (fun c_158 => ?_)
  refine lv_aload_n hx hb d_Draft_init_26 rfl (lv_at hl 1 rfl) ?_
  replace hF := Option.bind_eq_some_iff.mp hF
  obtain ⟨v_159, ev_159, hF⟩ := hF
  refine m_getR (B := B) (a := a0) E S fd_Draft_lines (Or.inl qw_8) ev_159 d_Draft_init_27 ?_
  refine lv_iload_n hx hb d_Draft_init_30 rfl (lv_at hl 0 rfl) ?_
  replace hF := Option.bind_eq_some_iff.mp hF
  obtain ⟨g_160, eg_160, hF⟩ := hF
  refine m_new (B := B) (ci := 1) (fs := [.null, .int 0]) E S (show s.heap.size + 45 = B + (n + 45) by omega) t_Line t_Line_ok i_Line rfl qw_7 qw_10 qw_11 (z_Line B) (Nat.le_of_ble_eq_true rfl) (Nat.le_of_ble_eq_true rfl) eg_160 d_Draft_init_31 (fun H S => ?_)
  refine W.widen (k := 46) (n := 956) (Nat.le_of_ble_eq_true rfl) (Nat.le_of_ble_eq_true rfl) ?_
  refine W.eq (g2 := F0 m 34 ls [.ref (B + (n + 45)), .int 22, m_r B v_159]) rfl ?_
  refine lv_dup hx hb d_Draft_init_34 rfl ?_
  replace hF := m_bd_inv hF
  obtain ⟨v_162, g_161, eg_161, hF⟩ := hF
  refine m_callI (B := B) (nn := 0) (b := (n + 45)) (As := []) (rest := [.ref (B + (n + 45)), .int 22, m_r B v_159]) (v := none) E S (show s.heap.size + 46 = B + (n + 46) by omega) (c_Line_init l D B K (n + 46) g_160 (n + 45) v_162 g_161 eg_161) qc_Line_init ⟨rfl, rfl⟩ (Or.inr ⟨_, qn_0⟩) qw_12 qw_11 rfl (by decide +kernel) ⟨Nat.le_of_ble_eq_true rfl, Nat.le_of_ble_eq_true rfl⟩ rfl hl.1 (by simp only [List.map_cons, List.map_nil, m_r_cat]; exact Nat.le_of_ble_eq_true rfl) d_Draft_init_35 ⟨Nat.le_of_ble_eq_true rfl, Nat.le_of_ble_eq_true rfl⟩ (fun H locs S => ?_)
  refine W.widen (k := 47) (n := 996) (Nat.le_of_ble_eq_true rfl) (Nat.le_of_ble_eq_true rfl) ?_
  refine W.eq (g2 := F0 m 38 ls [.ref (B + (n + 45)), .int 22, m_r B v_159]) rfl ?_
  replace hF := Option.bind_eq_some_iff.mp hF
  obtain ⟨a_163, ea_163, hF⟩ := hF
  subst ea_163
  replace hF := Option.bind_eq_some_iff.mp hF
  obtain ⟨g_164, eg_164, hF⟩ := hF
  refine m_aast (B := B) (a := a_163) (v := (n + 45)) (t := 4) (ci := 1) (r := (R_Line, F_Line, 2)) E S rfl rfl eg_164 d_Draft_init_38 (fun H locs S => ?_)
  refine lv_iinc (v := 23) (lv' := [(1, .int 23), (0, .ref (B + a0))]) hx hb d_Draft_init_39 hl (k := 0) rfl (by decide) (by decide) rfl (fun ls hl => ?_)
  refine lv_goto (tgt := 20) hx hb d_Draft_init_42 (by decide) ?_
  refine lv_iload_n hx hb d_Draft_init_20 rfl (lv_at hl 0 rfl) ?_
  refine lv_bipush (v := 30) hx hb d_Draft_init_21 (by decide) ?_
  refine lv_icmp_ge (tgt := 45) hx hb d_Draft_init_23 (by decide) (fun c_165 => absurd c_165 (by decide)) (fun c_165 => ?_)
  refine lv_aload_n hx hb d_Draft_init_26 rfl (lv_at hl 1 rfl) ?_
  replace hF := Option.bind_eq_some_iff.mp hF
  obtain ⟨v_166, ev_166, hF⟩ := hF
  refine m_getR (B := B) (a := a0) E S fd_Draft_lines (Or.inl qw_8) ev_166 d_Draft_init_27 ?_
  refine lv_iload_n hx hb d_Draft_init_30 rfl (lv_at hl 0 rfl) ?_
  replace hF := Option.bind_eq_some_iff.mp hF
  obtain ⟨g_167, eg_167, hF⟩ := hF
  refine m_new (B := B) (ci := 1) (fs := [.null, .int 0]) E S (show s.heap.size + 47 = B + (n + 47) by omega) t_Line t_Line_ok i_Line rfl qw_7 qw_10 qw_11 (z_Line B) (Nat.le_of_ble_eq_true rfl) (Nat.le_of_ble_eq_true rfl) eg_167 d_Draft_init_31 (fun H S => ?_)
  refine W.widen (k := 48) (n := 998) (Nat.le_of_ble_eq_true rfl) (Nat.le_of_ble_eq_true rfl) ?_
  refine W.eq (g2 := F0 m 34 ls [.ref (B + (n + 47)), .int 23, m_r B v_166]) rfl ?_
  refine lv_dup hx hb d_Draft_init_34 rfl ?_
  replace hF := m_bd_inv hF
  obtain ⟨v_169, g_168, eg_168, hF⟩ := hF
  refine m_callI (B := B) (nn := 0) (b := (n + 47)) (As := []) (rest := [.ref (B + (n + 47)), .int 23, m_r B v_166]) (v := none) E S (show s.heap.size + 48 = B + (n + 48) by omega) (c_Line_init l D B K (n + 48) g_167 (n + 47) v_169 g_168 eg_168) qc_Line_init ⟨rfl, rfl⟩ (Or.inr ⟨_, qn_0⟩) qw_12 qw_11 rfl (by decide +kernel) ⟨Nat.le_of_ble_eq_true rfl, Nat.le_of_ble_eq_true rfl⟩ rfl hl.1 (by simp only [List.map_cons, List.map_nil, m_r_cat]; exact Nat.le_of_ble_eq_true rfl) d_Draft_init_35 ⟨Nat.le_of_ble_eq_true rfl, Nat.le_of_ble_eq_true rfl⟩ (fun H locs S => ?_)
  refine W.widen (k := 49) (n := 1038) (Nat.le_of_ble_eq_true rfl) (Nat.le_of_ble_eq_true rfl) ?_
  refine W.eq (g2 := F0 m 38 ls [.ref (B + (n + 47)), .int 23, m_r B v_166]) rfl ?_
  replace hF := Option.bind_eq_some_iff.mp hF
  obtain ⟨a_170, ea_170, hF⟩ := hF
  subst ea_170
  replace hF := Option.bind_eq_some_iff.mp hF
  obtain ⟨g_171, eg_171, hF⟩ := hF
  refine m_aast (B := B) (a := a_170) (v := (n + 47)) (t := 4) (ci := 1) (r := (R_Line, F_Line, 2)) E S rfl rfl eg_171 d_Draft_init_38 (fun H locs S => ?_)
  refine lv_iinc (v := 24) (lv' := [(1, .int 24), (0, .ref (B + a0))]) hx hb d_Draft_init_39 hl (k := 0) rfl (by decide) (by decide) rfl (fun ls hl => ?_)
  refine lv_goto (tgt := 20) hx hb d_Draft_init_42 (by decide) ?_
  refine lv_iload_n hx hb d_Draft_init_20 rfl (lv_at hl 0 rfl) ?_
  refine lv_bipush (v := 30) hx hb d_Draft_init_21 (by decide) ?_
  refine lv_icmp_ge (tgt := 45) hx hb d_Draft_init_23 (by decide) (fun c_172 => absurd c_172 (by decide)) (fun c_172 => ?_)
  refine lv_aload_n hx hb d_Draft_init_26 rfl (lv_at hl 1 rfl) ?_
  replace hF := Option.bind_eq_some_iff.mp hF
  obtain ⟨v_173, ev_173, hF⟩ := hF
  refine m_getR (B := B) (a := a0) E S fd_Draft_lines (Or.inl qw_8) ev_173 d_Draft_init_27 ?_
  refine lv_iload_n hx hb d_Draft_init_30 rfl (lv_at hl 0 rfl) ?_
  replace hF := Option.bind_eq_some_iff.mp hF
  obtain ⟨g_174, eg_174, hF⟩ := hF
  refine m_new (B := B) (ci := 1) (fs := [.null, .int 0]) E S (show s.heap.size + 49 = B + (n + 49) by omega) t_Line t_Line_ok i_Line rfl qw_7 qw_10 qw_11 (z_Line B) (Nat.le_of_ble_eq_true rfl) (Nat.le_of_ble_eq_true rfl) eg_174 d_Draft_init_31 (fun H S => ?_)
  refine W.widen (k := 50) (n := 1040) (Nat.le_of_ble_eq_true rfl) (Nat.le_of_ble_eq_true rfl) ?_
  refine W.eq (g2 := F0 m 34 ls [.ref (B + (n + 49)), .int 24, m_r B v_173]) rfl ?_
  refine lv_dup hx hb d_Draft_init_34 rfl ?_
  replace hF := m_bd_inv hF
  obtain ⟨v_176, g_175, eg_175, hF⟩ := hF
  refine m_callI (B := B) (nn := 0) (b := (n + 49)) (As := []) (rest := [.ref (B + (n + 49)), .int 24, m_r B v_173]) (v := none) E S (show s.heap.size + 50 = B + (n + 50) by omega) (c_Line_init l D B K (n + 50) g_174 (n + 49) v_176 g_175 eg_175) qc_Line_init ⟨rfl, rfl⟩ (Or.inr ⟨_, qn_0⟩) qw_12 qw_11 rfl (by decide +kernel) ⟨Nat.le_of_ble_eq_true rfl, Nat.le_of_ble_eq_true rfl⟩ rfl hl.1 (by simp only [List.map_cons, List.map_nil, m_r_cat]; exact Nat.le_of_ble_eq_true rfl) d_Draft_init_35 ⟨Nat.le_of_ble_eq_true rfl, Nat.le_of_ble_eq_true rfl⟩ (fun H locs S => ?_)
  refine W.widen (k := 51) (n := 1080) (Nat.le_of_ble_eq_true rfl) (Nat.le_of_ble_eq_true rfl) ?_
  refine W.eq (g2 := F0 m 38 ls [.ref (B + (n + 49)), .int 24, m_r B v_173]) rfl ?_
  replace hF := Option.bind_eq_some_iff.mp hF
  obtain ⟨a_177, ea_177, hF⟩ := hF
  subst ea_177
  replace hF := Option.bind_eq_some_iff.mp hF
  obtain ⟨g_178, eg_178, hF⟩ := hF
  refine m_aast (B := B) (a := a_177) (v := (n + 49)) (t := 4) (ci := 1) (r := (R_Line, F_Line, 2)) E S rfl rfl eg_178 d_Draft_init_38 (fun H locs S => ?_)
  refine lv_iinc (v := 25) (lv' := [(1, .int 25), (0, .ref (B + a0))]) hx hb d_Draft_init_39 hl (k := 0) rfl (by decide) (by decide) rfl (fun ls hl => ?_)
  refine lv_goto (tgt := 20) hx hb d_Draft_init_42 (by decide) ?_
  refine lv_iload_n hx hb d_Draft_init_20 rfl (lv_at hl 0 rfl) ?_
  refine lv_bipush (v := 30) hx hb d_Draft_init_21 (by decide) ?_
  refine lv_icmp_ge (tgt := 45) hx hb d_Draft_init_23 (by decide) (fun c_179 => absurd c_179 (by decide)) (fun c_179 => ?_)
  refine lv_aload_n hx hb d_Draft_init_26 rfl (lv_at hl 1 rfl) ?_
  replace hF := Option.bind_eq_some_iff.mp hF
  obtain ⟨v_180, ev_180, hF⟩ := hF
  refine m_getR (B := B) (a := a0) E S fd_Draft_lines (Or.inl qw_8) ev_180 d_Draft_init_27 ?_
  refine lv_iload_n hx hb d_Draft_init_30 rfl (lv_at hl 0 rfl) ?_
  replace hF := Option.bind_eq_some_iff.mp hF
  obtain ⟨g_181, eg_181, hF⟩ := hF
  refine m_new (B := B) (ci := 1) (fs := [.null, .int 0]) E S (show s.heap.size + 51 = B + (n + 51) by omega) t_Line t_Line_ok i_Line rfl qw_7 qw_10 qw_11 (z_Line B) (Nat.le_of_ble_eq_true rfl) (Nat.le_of_ble_eq_true rfl) eg_181 d_Draft_init_31 (fun H S => ?_)
  refine W.widen (k := 52) (n := 1082) (Nat.le_of_ble_eq_true rfl) (Nat.le_of_ble_eq_true rfl) ?_
  refine W.eq (g2 := F0 m 34 ls [.ref (B + (n + 51)), .int 25, m_r B v_180]) rfl ?_
  refine lv_dup hx hb d_Draft_init_34 rfl ?_
  replace hF := m_bd_inv hF
  obtain ⟨v_183, g_182, eg_182, hF⟩ := hF
  refine m_callI (B := B) (nn := 0) (b := (n + 51)) (As := []) (rest := [.ref (B + (n + 51)), .int 25, m_r B v_180]) (v := none) E S (show s.heap.size + 52 = B + (n + 52) by omega) (c_Line_init l D B K (n + 52) g_181 (n + 51) v_183 g_182 eg_182) qc_Line_init ⟨rfl, rfl⟩ (Or.inr ⟨_, qn_0⟩) qw_12 qw_11 rfl (by decide +kernel) ⟨Nat.le_of_ble_eq_true rfl, Nat.le_of_ble_eq_true rfl⟩ rfl hl.1 (by simp only [List.map_cons, List.map_nil, m_r_cat]; exact Nat.le_of_ble_eq_true rfl) d_Draft_init_35 ⟨Nat.le_of_ble_eq_true rfl, Nat.le_of_ble_eq_true rfl⟩ (fun H locs S => ?_)
  refine W.widen (k := 53) (n := 1122) (Nat.le_of_ble_eq_true rfl) (Nat.le_of_ble_eq_true rfl) ?_
  refine W.eq (g2 := F0 m 38 ls [.ref (B + (n + 51)), .int 25, m_r B v_180]) rfl ?_
  replace hF := Option.bind_eq_some_iff.mp hF
  obtain ⟨a_184, ea_184, hF⟩ := hF
  subst ea_184
  replace hF := Option.bind_eq_some_iff.mp hF
  obtain ⟨g_185, eg_185, hF⟩ := hF
  refine m_aast (B := B) (a := a_184) (v := (n + 51)) (t := 4) (ci := 1) (r := (R_Line, F_Line, 2)) E S rfl rfl eg_185 d_Draft_init_38 (fun H locs S => ?_)
  refine lv_iinc (v := 26) (lv' := [(1, .int 26), (0, .ref (B + a0))]) hx hb d_Draft_init_39 hl (k := 0) rfl (by decide) (by decide) rfl (fun ls hl => ?_)
  refine lv_goto (tgt := 20) hx hb d_Draft_init_42 (by decide) ?_
  refine lv_iload_n hx hb d_Draft_init_20 rfl (lv_at hl 0 rfl) ?_
  refine lv_bipush (v := 30) hx hb d_Draft_init_21 (by decide) ?_
  refine lv_icmp_ge (tgt := 45) hx hb d_Draft_init_23 (by decide) (fun c_186 => absurd c_186 (by decide)) (fun c_186 => ?_)
  refine lv_aload_n hx hb d_Draft_init_26 rfl (lv_at hl 1 rfl) ?_
  replace hF := Option.bind_eq_some_iff.mp hF
  obtain ⟨v_187, ev_187, hF⟩ := hF
  refine m_getR (B := B) (a := a0) E S fd_Draft_lines (Or.inl qw_8) ev_187 d_Draft_init_27 ?_
  refine lv_iload_n hx hb d_Draft_init_30 rfl (lv_at hl 0 rfl) ?_
  replace hF := Option.bind_eq_some_iff.mp hF
  obtain ⟨g_188, eg_188, hF⟩ := hF
  refine m_new (B := B) (ci := 1) (fs := [.null, .int 0]) E S (show s.heap.size + 53 = B + (n + 53) by omega) t_Line t_Line_ok i_Line rfl qw_7 qw_10 qw_11 (z_Line B) (Nat.le_of_ble_eq_true rfl) (Nat.le_of_ble_eq_true rfl) eg_188 d_Draft_init_31 (fun H S => ?_)
  refine W.widen (k := 54) (n := 1124) (Nat.le_of_ble_eq_true rfl) (Nat.le_of_ble_eq_true rfl) ?_
  refine W.eq (g2 := F0 m 34 ls [.ref (B + (n + 53)), .int 26, m_r B v_187]) rfl ?_
  refine lv_dup hx hb d_Draft_init_34 rfl ?_
  replace hF := m_bd_inv hF
  obtain ⟨v_190, g_189, eg_189, hF⟩ := hF
  refine m_callI (B := B) (nn := 0) (b := (n + 53)) (As := []) (rest := [.ref (B + (n + 53)), .int 26, m_r B v_187]) (v := none) E S (show s.heap.size + 54 = B + (n + 54) by omega) (c_Line_init l D B K (n + 54) g_188 (n + 53) v_190 g_189 eg_189) qc_Line_init ⟨rfl, rfl⟩ (Or.inr ⟨_, qn_0⟩) qw_12 qw_11 rfl (by decide +kernel) ⟨Nat.le_of_ble_eq_true rfl, Nat.le_of_ble_eq_true rfl⟩ rfl hl.1 (by simp only [List.map_cons, List.map_nil, m_r_cat]; exact Nat.le_of_ble_eq_true rfl) d_Draft_init_35 ⟨Nat.le_of_ble_eq_true rfl, Nat.le_of_ble_eq_true rfl⟩ (fun H locs S => ?_)
  refine W.widen (k := 55) (n := 1164) (Nat.le_of_ble_eq_true rfl) (Nat.le_of_ble_eq_true rfl) ?_
  refine W.eq (g2 := F0 m 38 ls [.ref (B + (n + 53)), .int 26, m_r B v_187]) rfl ?_
  replace hF := Option.bind_eq_some_iff.mp hF
  obtain ⟨a_191, ea_191, hF⟩ := hF
  subst ea_191
  replace hF := Option.bind_eq_some_iff.mp hF
  obtain ⟨g_192, eg_192, hF⟩ := hF
  refine m_aast (B := B) (a := a_191) (v := (n + 53)) (t := 4) (ci := 1) (r := (R_Line, F_Line, 2)) E S rfl rfl eg_192 d_Draft_init_38 (fun H locs S => ?_)
  refine lv_iinc (v := 27) (lv' := [(1, .int 27), (0, .ref (B + a0))]) hx hb d_Draft_init_39 hl (k := 0) rfl (by decide) (by decide) rfl (fun ls hl => ?_)
  refine lv_goto (tgt := 20) hx hb d_Draft_init_42 (by decide) ?_
  refine lv_iload_n hx hb d_Draft_init_20 rfl (lv_at hl 0 rfl) ?_
  refine lv_bipush (v := 30) hx hb d_Draft_init_21 (by decide) ?_
  refine lv_icmp_ge (tgt := 45) hx hb d_Draft_init_23 (by decide) (fun c_193 => absurd c_193 (by decide)) (fun c_193 => ?_)
  refine lv_aload_n hx hb d_Draft_init_26 rfl (lv_at hl 1 rfl) ?_
  replace hF := Option.bind_eq_some_iff.mp hF
  obtain ⟨v_194, ev_194, hF⟩ := hF
  refine m_getR (B := B) (a := a0) E S fd_Draft_lines (Or.inl qw_8) ev_194 d_Draft_init_27 ?_
  refine lv_iload_n hx hb d_Draft_init_30 rfl (lv_at hl 0 rfl) ?_
  replace hF := Option.bind_eq_some_iff.mp hF
  obtain ⟨g_195, eg_195, hF⟩ := hF
  refine m_new (B := B) (ci := 1) (fs := [.null, .int 0]) E S (show s.heap.size + 55 = B + (n + 55) by omega) t_Line t_Line_ok i_Line rfl qw_7 qw_10 qw_11 (z_Line B) (Nat.le_of_ble_eq_true rfl) (Nat.le_of_ble_eq_true rfl) eg_195 d_Draft_init_31 (fun H S => ?_)
  refine W.widen (k := 56) (n := 1166) (Nat.le_of_ble_eq_true rfl) (Nat.le_of_ble_eq_true rfl) ?_
  refine W.eq (g2 := F0 m 34 ls [.ref (B + (n + 55)), .int 27, m_r B v_194]) rfl ?_
  refine lv_dup hx hb d_Draft_init_34 rfl ?_
  replace hF := m_bd_inv hF
  obtain ⟨v_197, g_196, eg_196, hF⟩ := hF
  refine m_callI (B := B) (nn := 0) (b := (n + 55)) (As := []) (rest := [.ref (B + (n + 55)), .int 27, m_r B v_194]) (v := none) E S (show s.heap.size + 56 = B + (n + 56) by omega) (c_Line_init l D B K (n + 56) g_195 (n + 55) v_197 g_196 eg_196) qc_Line_init ⟨rfl, rfl⟩ (Or.inr ⟨_, qn_0⟩) qw_12 qw_11 rfl (by decide +kernel) ⟨Nat.le_of_ble_eq_true rfl, Nat.le_of_ble_eq_true rfl⟩ rfl hl.1 (by simp only [List.map_cons, List.map_nil, m_r_cat]; exact Nat.le_of_ble_eq_true rfl) d_Draft_init_35 ⟨Nat.le_of_ble_eq_true rfl, Nat.le_of_ble_eq_true rfl⟩ (fun H locs S => ?_)
  refine W.widen (k := 57) (n := 1206) (Nat.le_of_ble_eq_true rfl) (Nat.le_of_ble_eq_true rfl) ?_
  refine W.eq (g2 := F0 m 38 ls [.ref (B + (n + 55)), .int 27, m_r B v_194]) rfl ?_
  replace hF := Option.bind_eq_some_iff.mp hF
  obtain ⟨a_198, ea_198, hF⟩ := hF
  subst ea_198
  replace hF := Option.bind_eq_some_iff.mp hF
  obtain ⟨g_199, eg_199, hF⟩ := hF
  refine m_aast (B := B) (a := a_198) (v := (n + 55)) (t := 4) (ci := 1) (r := (R_Line, F_Line, 2)) E S rfl rfl eg_199 d_Draft_init_38 (fun H locs S => ?_)
  refine lv_iinc (v := 28) (lv' := [(1, .int 28), (0, .ref (B + a0))]) hx hb d_Draft_init_39 hl (k := 0) rfl (by decide) (by decide) rfl (fun ls hl => ?_)
  refine lv_goto (tgt := 20) hx hb d_Draft_init_42 (by decide) ?_
  refine lv_iload_n hx hb d_Draft_init_20 rfl (lv_at hl 0 rfl) ?_
  refine lv_bipush (v := 30) hx hb d_Draft_init_21 (by decide) ?_
  refine lv_icmp_ge (tgt := 45) hx hb d_Draft_init_23 (by decide) (fun c_200 => absurd c_200 (by decide)) (fun c_200 => ?_)
  refine lv_aload_n hx hb d_Draft_init_26 rfl (lv_at hl 1 rfl) ?_
  replace hF := Option.bind_eq_some_iff.mp hF
  obtain ⟨v_201, ev_201, hF⟩ := hF
  refine m_getR (B := B) (a := a0) E S fd_Draft_lines (Or.inl qw_8) ev_201 d_Draft_init_27 ?_
  refine lv_iload_n hx hb d_Draft_init_30 rfl (lv_at hl 0 rfl) ?_
  replace hF := Option.bind_eq_some_iff.mp hF
  obtain ⟨g_202, eg_202, hF⟩ := hF
  refine m_new (B := B) (ci := 1) (fs := [.null, .int 0]) E S (show s.heap.size + 57 = B + (n + 57) by omega) t_Line t_Line_ok i_Line rfl qw_7 qw_10 qw_11 (z_Line B) (Nat.le_of_ble_eq_true rfl) (Nat.le_of_ble_eq_true rfl) eg_202 d_Draft_init_31 (fun H S => ?_)
  refine W.widen (k := 58) (n := 1208) (Nat.le_of_ble_eq_true rfl) (Nat.le_of_ble_eq_true rfl) ?_
  refine W.eq (g2 := F0 m 34 ls [.ref (B + (n + 57)), .int 28, m_r B v_201]) rfl ?_
  refine lv_dup hx hb d_Draft_init_34 rfl ?_
  replace hF := m_bd_inv hF
  obtain ⟨v_204, g_203, eg_203, hF⟩ := hF
  refine m_callI (B := B) (nn := 0) (b := (n + 57)) (As := []) (rest := [.ref (B + (n + 57)), .int 28, m_r B v_201]) (v := none) E S (show s.heap.size + 58 = B + (n + 58) by omega) (c_Line_init l D B K (n + 58) g_202 (n + 57) v_204 g_203 eg_203) qc_Line_init ⟨rfl, rfl⟩ (Or.inr ⟨_, qn_0⟩) qw_12 qw_11 rfl (by decide +kernel) ⟨Nat.le_of_ble_eq_true rfl, Nat.le_of_ble_eq_true rfl⟩ rfl hl.1 (by simp only [List.map_cons, List.map_nil, m_r_cat]; exact Nat.le_of_ble_eq_true rfl) d_Draft_init_35 ⟨Nat.le_of_ble_eq_true rfl, Nat.le_of_ble_eq_true rfl⟩ (fun H locs S => ?_)
  refine W.widen (k := 59) (n := 1248) (Nat.le_of_ble_eq_true rfl) (Nat.le_of_ble_eq_true rfl) ?_
  refine W.eq (g2 := F0 m 38 ls [.ref (B + (n + 57)), .int 28, m_r B v_201]) rfl ?_
  replace hF := Option.bind_eq_some_iff.mp hF
  obtain ⟨a_205, ea_205, hF⟩ := hF
  subst ea_205
  replace hF := Option.bind_eq_some_iff.mp hF
  obtain ⟨g_206, eg_206, hF⟩ := hF
  refine m_aast (B := B) (a := a_205) (v := (n + 57)) (t := 4) (ci := 1) (r := (R_Line, F_Line, 2)) E S rfl rfl eg_206 d_Draft_init_38 (fun H locs S => ?_)
  refine lv_iinc (v := 29) (lv' := [(1, .int 29), (0, .ref (B + a0))]) hx hb d_Draft_init_39 hl (k := 0) rfl (by decide) (by decide) rfl (fun ls hl => ?_)
  refine lv_goto (tgt := 20) hx hb d_Draft_init_42 (by decide) ?_
  refine lv_iload_n hx hb d_Draft_init_20 rfl (lv_at hl 0 rfl) ?_
  refine lv_bipush (v := 30) hx hb d_Draft_init_21 (by decide) ?_
  refine lv_icmp_ge (tgt := 45) hx hb d_Draft_init_23 (by decide) (fun c_207 => absurd c_207 (by decide)) (fun c_207 => ?_)
  refine lv_aload_n hx hb d_Draft_init_26 rfl (lv_at hl 1 rfl) ?_
  replace hF := Option.bind_eq_some_iff.mp hF
  obtain ⟨v_208, ev_208, hF⟩ := hF
  refine m_getR (B := B) (a := a0) E S fd_Draft_lines (Or.inl qw_8) ev_208 d_Draft_init_27 ?_
  refine lv_iload_n hx hb d_Draft_init_30 rfl (lv_at hl 0 rfl) ?_
  replace hF := Option.bind_eq_some_iff.mp hF
  obtain ⟨g_209, eg_209, hF⟩ := hF
  refine m_new (B := B) (ci := 1) (fs := [.null, .int 0]) E S (show s.heap.size + 59 = B + (n + 59) by omega) t_Line t_Line_ok i_Line rfl qw_7 qw_10 qw_11 (z_Line B) (Nat.le_of_ble_eq_true rfl) (Nat.le_of_ble_eq_true rfl) eg_209 d_Draft_init_31 (fun H S => ?_)
  refine W.widen (k := 60) (n := 1250) (Nat.le_of_ble_eq_true rfl) (Nat.le_of_ble_eq_true rfl) ?_
  refine W.eq (g2 := F0 m 34 ls [.ref (B + (n + 59)), .int 29, m_r B v_208]) rfl ?_
  refine lv_dup hx hb d_Draft_init_34 rfl ?_
  replace hF := m_bd_inv hF
  obtain ⟨v_211, g_210, eg_210, hF⟩ := hF
  refine m_callI (B := B) (nn := 0) (b := (n + 59)) (As := []) (rest := [.ref (B + (n + 59)), .int 29, m_r B v_208]) (v := none) E S (show s.heap.size + 60 = B + (n + 60) by omega) (c_Line_init l D B K (n + 60) g_209 (n + 59) v_211 g_210 eg_210) qc_Line_init ⟨rfl, rfl⟩ (Or.inr ⟨_, qn_0⟩) qw_12 qw_11 rfl (by decide +kernel) ⟨Nat.le_of_ble_eq_true rfl, Nat.le_of_ble_eq_true rfl⟩ rfl hl.1 (by simp only [List.map_cons, List.map_nil, m_r_cat]; exact Nat.le_of_ble_eq_true rfl) d_Draft_init_35 ⟨Nat.le_of_ble_eq_true rfl, Nat.le_of_ble_eq_true rfl⟩ (fun H locs S => ?_)
  refine W.widen (k := 61) (n := 1290) (Nat.le_of_ble_eq_true rfl) (Nat.le_of_ble_eq_true rfl) ?_
  refine W.eq (g2 := F0 m 38 ls [.ref (B + (n + 59)), .int 29, m_r B v_208]) rfl ?_
  replace hF := Option.bind_eq_some_iff.mp hF
  obtain ⟨a_212, ea_212, hF⟩ := hF
  subst ea_212
  replace hF := Option.bind_eq_some_iff.mp hF
  obtain ⟨g_213, eg_213, hF⟩ := hF
  refine m_aast (B := B) (a := a_212) (v := (n + 59)) (t := 4) (ci := 1) (r := (R_Line, F_Line, 2)) E S rfl rfl eg_213 d_Draft_init_38 (fun H locs S => ?_)
  refine lv_iinc (v := 30) (lv' := [(1, .int 30), (0, .ref (B + a0))]) hx hb d_Draft_init_39 hl (k := 0) rfl (by decide) (by decide) rfl (fun ls hl => ?_)
  refine lv_goto (tgt := 20) hx hb d_Draft_init_42 (by decide) ?_
  refine lv_iload_n hx hb d_Draft_init_20 rfl (lv_at hl 0 rfl) ?_
  refine lv_bipush (v := 30) hx hb d_Draft_init_21 (by decide) ?_
  refine lv_icmp_ge (tgt := 45) hx hb d_Draft_init_23 (by decide) (fun c_214 => ?_) (fun c_214 => absurd (by decide) c_214)
  cases hF
  skip
  exact m_vret E S (show s.heap.size + 61 = B + (n + 61) by omega) hr hlk d_Draft_init_45
