def f_Line_init (n : Nat)  (g : m_G) (a0 : Nat) : Option (Unit × m_G) :=
  (m_nw g n (.inl (1, 40, .inl (fun _ => 0)))).bind fun g_1 =>
  (m_pR g_1 a0 1 0 (some n)).bind fun g_2 =>
  (m_pI g_2 a0 1 1 0).bind fun g_3 =>
  some ((), g_3)
set_option maxHeartbeats 1000000 in
set_option maxRecDepth 100000 in
theorem c_Line_init (l : Launch) (D : va_G) (B : Nat) (K : Nat → ClassId)  (n : Nat) (g : m_G) (a0 : Nat) (r : Unit) (g' : m_G) (hF : f_Line_init n g a0 = some (r, g')) : Met l y_Line_init (Cond.code y_Line_init b_Line_init 1 none :: m_TB) ({ frames := 1, cells := 1, slots := 40, locals := 20 } : Room) (m_Pc D B K n g [.ref (B + a0)]) (m_Q D B K none (n + 1) g') 1 40 (fun q => B ≤ q) := by
  refine m_met (by decide) (Nat.le_of_ble_eq_true rfl) ?_
  intro p e s m args below meth c ls E hr hlk hin hsz S hl
  have E : m_V p m c b_Line_init 1 s args R_Line D K := E
  have hz : s.heap.size + 0 = B + n := hsz
  have hl : lv_has ls 1 [(0, .ref (B + a0))] := hl
  have hx := E.1.1
  have hb := E.1.2.1
  have hts := E.1.2.2.2.2
  unfold f_Line_init at hF
  refine lv_aload_n hx hb d_Line_init_0 rfl (lv_at hl 0 rfl) ?_
  refine W.objInit hx hb E.1.2.2.2.1 (hts _ qw_0) (hts _ qw_1) (hts _ qw_2) rfl (hl.1.trans E.1.2.2.1.symm) rfl d_Line_init_1 (Nat.le_of_ble_eq_true rfl) (Nat.le_of_ble_eq_true rfl) ?_
  refine W.eq (g2 := F0 m 4 ls []) rfl ?_
  refine lv_aload_n hx hb d_Line_init_4 rfl (lv_at hl 0 rfl) ?_
  refine lv_bipush (v := 40) hx hb d_Line_init_5 (by decide) ?_
  replace hF := Option.bind_eq_some_iff.mp hF
  obtain ⟨g_1, eg_1, hF⟩ := hF
  refine m_newa (B := B) (atype := .char) (t := 1) (N := 40) (a0 := (40, .inl (fun _ => 0))) E S hz qw_3 rfl (fun _ => rfl) rfl (by decide) (by decide) (Nat.le_of_ble_eq_true rfl) (Nat.le_of_ble_eq_true rfl) (Nat.le_of_ble_eq_true rfl) eg_1 d_Line_init_7 (fun H S => ?_)
  refine W.widen (k := 1) (n := 40) (Nat.le_of_ble_eq_true rfl) (Nat.le_of_ble_eq_true rfl) ?_
  refine W.eq (g2 := F0 m 9 ls [.ref (B + n), .ref (B + a0)]) rfl ?_
  replace hF := Option.bind_eq_some_iff.mp hF
  obtain ⟨g_2, eg_2, hF⟩ := hF
  refine m_putFR (B := B) (a := a0) (x := (some n)) E S fd_Line_characters (Or.inr ⟨_, rfl⟩) hin qw_4 eg_2 d_Line_init_9 (fun H locs S => ?_)
  refine lv_aload_n hx hb d_Line_init_12 rfl (lv_at hl 0 rfl) ?_
  refine lv_iconst (v := 0) hx hb d_Line_init_13 (by decide) ?_
  replace hF := Option.bind_eq_some_iff.mp hF
  obtain ⟨g_3, eg_3, hF⟩ := hF
  refine m_putI (B := B) (a := a0) E S fd_Line_length (Or.inl qw_5) eg_3 d_Line_init_14 (fun H locs S => ?_)
  cases hF
  skip
  exact m_vret E S (show s.heap.size + 1 = B + (n + 1) by omega) hr hlk d_Line_init_17
