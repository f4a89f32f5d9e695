section S_Mod_takePart
variable {p : Program} {l : Launch} {e : Env} {s : State} {m : MethodId} {args : Array Value} {below : List Frame} {meth : Method} {c : Code} {D : va_G} {B n : Nat} {K : Nat → ClassId}
def f_Mod_takePart_95   (g : m_G) (a0 : Nat) (x1 : Int32) (x2 : Int32) (x6 : Int32) : Option (Unit × m_G) :=
  m_gd (m_is g a0 8) <|
  m_bd (f_Mod_leaf g a0 x1 x6 x2) fun v_2 g_1 =>
  some ((), g_1)
set_option maxHeartbeats 1000000 in
set_option maxRecDepth 100000 in
theorem c_Mod_takePart_95 (E : m_V p m c b_Mod_takePart 10 s args R_Mod D K) (hr : meth.sig.returnType = none) (hlk : meth.locks = false) (hz : s.heap.size + 0 = B + n)   : ∀ (g : m_G) (a0 : Nat) (x1 : Int32) (x2 : Int32) (x6 : Int32) (r : Unit) (g' : m_G), f_Mod_takePart_95 g a0 x1 x2 x6 = some (r, g') → ∀ (H : Heap) (locs : List Loc), m_S D B K n g s.heap H locs → ∀ ls : Array Slot, lv_has ls 10 [(0, .ref (B + a0)), (1, .int x1), (2, .int x2), (6, .int x6)] → W p l e ({ frames := 3, cells := 0, slots := 0, locals := 75 } : Room) s m args below meth c H locs 0 0 (MQ below (m_Q D B K none n g') args s 0 0 (fun q => B ≤ q)) (F0 m 95 ls []) := by
  have hx := E.1.1
  have hb := E.1.2.1
  have hts := E.1.2.2.2.2
  intro g a0 x1 x2 x6 r g' hF H locs S ls hl
  unfold f_Mod_takePart_95 at hF
  refine lv_aload_n hx hb d_Mod_takePart_95 rfl (lv_at hl 0 rfl) ?_
  refine lv_iload_n hx hb d_Mod_takePart_96 rfl (lv_at hl 1 rfl) ?_
  refine lv_iload hx hb d_Mod_takePart_97 (lv_at hl 3 rfl) ?_
  refine lv_iload_n hx hb d_Mod_takePart_99 rfl (lv_at hl 2 rfl) ?_
  replace hF := m_gd_inv hF
  obtain ⟨eog_1, hF⟩ := hF
  replace hF := m_bd_inv hF
  obtain ⟨v_2, g_1, eg_1, hF⟩ := hF
  refine m_callV (B := B) (nn := 3) (b := a0) (As := [.int x1, .int x6, .int x2]) (rest := []) (v := none) E S hz (c_Mod_leaf l D B K n g a0 x1 x6 x2 v_2 g_1 eg_1) qc_Mod_leaf ⟨rfl, rfl⟩ (Or.inl qw_335) qw_336 qw_337 qw_304 (by decide +kernel) ⟨Nat.le_of_ble_eq_true rfl, Nat.le_of_ble_eq_true rfl⟩ eog_1 rfl rfl hl.1 (Nat.le_of_ble_eq_true rfl) d_Mod_takePart_100 ⟨Nat.le_of_ble_eq_true rfl, Nat.le_of_ble_eq_true rfl⟩ (fun H locs S => ?_)
  refine W.eq (g2 := F0 m 103 ls []) rfl ?_
  cases hF
  skip
  exact m_vret E S hz hr hlk d_Mod_takePart_103
def f_Mod_takePart_184  (k_146 : m_G → Nat → Int32 → Int32 → Int32 → Int32 → Int32 → Option (Unit × m_G)) (g : m_G) (a0 : Nat) (x3 : Int32) (x6 : Int32) (x7 : Int32) (x8 : Int32) (x9 : Int32) : Option (Unit × m_G) :=
  k_146 g a0 x3 x6 x7 x8 (x9 + (-1))
set_option maxHeartbeats 1000000 in
set_option maxRecDepth 100000 in
theorem c_Mod_takePart_184 (E : m_V p m c b_Mod_takePart 10 s args R_Mod D K) (hr : meth.sig.returnType = none) (hlk : meth.locks = false) (hz : s.heap.size + 0 = B + n)  (k_146 : m_G → Nat → Int32 → Int32 → Int32 → Int32 → Int32 → Option (Unit × m_G)) (hk_146 : ∀ (g : m_G) (a0 : Nat) (x3 : Int32) (x6 : Int32) (x7 : Int32) (x8 : Int32) (x9 : Int32) (r : Unit) (g' : m_G), k_146 g a0 x3 x6 x7 x8 x9 = some (r, g') → ∀ (H : Heap) (locs : List Loc), m_S D B K n g s.heap H locs → ∀ ls : Array Slot, lv_has ls 10 [(0, .ref (B + a0)), (3, .int x3), (6, .int x6), (7, .int x7), (8, .int x8), (9, .int x9)] → W p l e ({ frames := 3, cells := 0, slots := 0, locals := 75 } : Room) s m args below meth c H locs 0 0 (MQ below (m_Q D B K none n g') args s 0 0 (fun q => B ≤ q)) (F0 m 146 ls [])) : ∀ (g : m_G) (a0 : Nat) (x3 : Int32) (x6 : Int32) (x7 : Int32) (x8 : Int32) (x9 : Int32) (r : Unit) (g' : m_G), f_Mod_takePart_184 k_146 g a0 x3 x6 x7 x8 x9 = some (r, g') → ∀ (H : Heap) (locs : List Loc), m_S D B K n g s.heap H locs → ∀ ls : Array Slot, lv_has ls 10 [(0, .ref (B + a0)), (3, .int x3), (6, .int x6), (7, .int x7), (8, .int x8), (9, .int x9)] → W p l e ({ frames := 3, cells := 0, slots := 0, locals := 75 } : Room) s m args below meth c H locs 0 0 (MQ below (m_Q D B K none n g') args s 0 0 (fun q => B ≤ q)) (F0 m 184 ls []) := by
  have hx := E.1.1
  have hb := E.1.2.1
  have hts := E.1.2.2.2.2
  intro g a0 x3 x6 x7 x8 x9 r g' hF H locs S ls hl
  unfold f_Mod_takePart_184 at hF
  refine lv_iinc (v := (x9 + (-1))) (lv' := [(9, .int (x9 + (-1))), (0, .ref (B + a0)), (3, .int x3), (6, .int x6), (7, .int x7), (8, .int x8)]) hx hb d_Mod_takePart_184 hl (k := 5) rfl rfl (by decide) rfl (fun ls hl => ?_)
  refine lv_goto (tgt := 146) hx hb d_Mod_takePart_187 (by decide) ?_
  exact hk_146 _ _ _ _ _ _ _ _ _ hF _ _ S _ (lv_sub hl [1, 2, 3, 4, 5, 0] rfl)
def f_Mod_takePart_146   : Nat → m_G → Nat → Int32 → Int32 → Int32 → Int32 → Int32 → Option (Unit × m_G)
  | 0, _, _, _, _, _, _, _ => none
  | fu + 1, g, a0, x3, x6, x7, x8, x9 =>
    if (x9 : Int32) < x6 then
      some ((), g)
    else
      m_gd (m_is g a0 8) <|
      m_bd (f_Mod_cuts g a0 x9 x7) fun v_3 g_2 =>
      if (v_3 : Int32) = 0 then
        f_Mod_takePart_184 (f_Mod_takePart_146 fu) g_2 a0 x3 x6 x7 x8 x9
      else
        m_gd (m_is g_2 a0 8) <|
        m_bd (f_Mod_push g_2 a0 (x9 + 1) x8 (x3 + 1)) fun v_6 g_5 =>
        f_Mod_takePart_184 (f_Mod_takePart_146 fu) g_5 a0 x3 x6 x7 x9 x9
set_option maxHeartbeats 1000000 in
set_option maxRecDepth 100000 in
theorem c_Mod_takePart_146 (E : m_V p m c b_Mod_takePart 10 s args R_Mod D K) (hr : meth.sig.returnType = none) (hlk : meth.locks = false) (hz : s.heap.size + 0 = B + n)   : ∀ fu : Nat, ∀ (g : m_G) (a0 : Nat) (x3 : Int32) (x6 : Int32) (x7 : Int32) (x8 : Int32) (x9 : Int32) (r : Unit) (g' : m_G), f_Mod_takePart_146  fu g a0 x3 x6 x7 x8 x9 = some (r, g') → ∀ (H : Heap) (locs : List Loc), m_S D B K n g s.heap H locs → ∀ ls : Array Slot, lv_has ls 10 [(0, .ref (B + a0)), (3, .int x3), (6, .int x6), (7, .int x7), (8, .int x8), (9, .int x9)] → W p l e ({ frames := 3, cells := 0, slots := 0, locals := 75 } : Room) s m args below meth c H locs 0 0 (MQ below (m_Q D B K none n g') args s 0 0 (fun q => B ≤ q)) (F0 m 146 ls []) := by
  have hx := E.1.1
  have hb := E.1.2.1
  have hts := E.1.2.2.2.2
  intro fu
  induction fu with
  | zero => intro g a0 x3 x6 x7 x8 x9 r g' hF; cases hF
  | succ fu ih =>
    intro g a0 x3 x6 x7 x8 x9 r g' hF H locs S ls hl
    rw [f_Mod_takePart_146] at hF
    refine lv_iload hx hb d_Mod_takePart_146 (lv_at hl 5 rfl) ?_
    refine lv_iload hx hb d_Mod_takePart_148 (lv_at hl 2 rfl) ?_
    refine lv_icmp_lt (tgt := 190) hx hb d_Mod_takePart_150 (by decide) (fun c_1 => ?_) (fun c_1 => ?_)
    · rw [if_pos c_1] at hF
      cases hF
      skip
      exact m_vret E S hz hr hlk d_Mod_takePart_190
    · rw [if_neg c_1] at hF
      refine lv_aload_n hx hb d_Mod_takePart_153 rfl (lv_at hl 0 rfl) ?_
      refine lv_iload hx hb d_Mod_takePart_154 (lv_at hl 5 rfl) ?_
      refine lv_iload hx hb d_Mod_takePart_156 (lv_at hl 3 rfl) ?_
      replace hF := m_gd_inv hF
      obtain ⟨eog_2, hF⟩ := hF
      replace hF := m_bd_inv hF
      obtain ⟨v_3, g_2, eg_2, hF⟩ := hF
      refine m_callV (B := B) (nn := 2) (b := a0) (As := [.int x9, .int x7]) (rest := []) (v := (some (.int v_3))) E S hz (c_Mod_cuts l D B K n g a0 x9 x7 v_3 g_2 eg_2) qc_Mod_cuts ⟨rfl, rfl⟩ (Or.inl qw_341) qw_342 qw_343 qw_304 (by decide +kernel) ⟨Nat.le_of_ble_eq_true rfl, Nat.le_of_ble_eq_true rfl⟩ eog_2 rfl rfl hl.1 (Nat.le_of_ble_eq_true rfl) d_Mod_takePart_158 ⟨Nat.le_of_ble_eq_true rfl, Nat.le_of_ble_eq_true rfl⟩ (fun H locs S => ?_)
      refine W.eq (g2 := F0 m 161 ls [.int v_3]) rfl ?_
      refine lv_if_ne (tgt := 167) hx hb d_Mod_takePart_161 (by decide) (fun c_4 => ?_) (fun c_4 => ?_)
      · rw [if_neg c_4] at hF
        refine lv_aload_n hx hb d_Mod_takePart_167 rfl (lv_at hl 0 rfl) ?_
        refine lv_iload hx hb d_Mod_takePart_168 (lv_at hl 5 rfl) ?_
        refine lv_iconst (v := 1) hx hb d_Mod_takePart_170 (by decide) ?_
        refine lv_iadd hx hb d_Mod_takePart_171 ?_
        refine lv_iload hx hb d_Mod_takePart_172 (lv_at hl 4 rfl) ?_
        refine lv_iload_n hx hb d_Mod_takePart_174 rfl (lv_at hl 1 rfl) ?_
        refine lv_iconst (v := 1) hx hb d_Mod_takePart_175 (by decide) ?_
        refine lv_iadd hx hb d_Mod_takePart_176 ?_
        replace hF := m_gd_inv hF
        obtain ⟨eog_5, hF⟩ := hF
        replace hF := m_bd_inv hF
        obtain ⟨v_6, g_5, eg_5, hF⟩ := hF
        refine m_callV (B := B) (nn := 3) (b := a0) (As := [.int (x9 + 1), .int x8, .int (x3 + 1)]) (rest := []) (v := none) E S hz (c_Mod_push l D B K n g_2 a0 (x9 + 1) x8 (x3 + 1) v_6 g_5 eg_5) qc_Mod_push ⟨rfl, rfl⟩ (Or.inl qw_344) qw_345 qw_346 qw_304 (by decide +kernel) ⟨Nat.le_of_ble_eq_true rfl, Nat.le_of_ble_eq_true rfl⟩ eog_5 rfl rfl hl.1 (Nat.le_of_ble_eq_true rfl) d_Mod_takePart_177 ⟨Nat.le_of_ble_eq_true rfl, Nat.le_of_ble_eq_true rfl⟩ (fun H locs S => ?_)
        refine W.eq (g2 := F0 m 180 ls []) rfl ?_
        refine lv_iload hx hb d_Mod_takePart_180 (lv_at hl 5 rfl) ?_
        refine lv_istore (lv' := [(8, .int x9), (0, .ref (B + a0)), (3, .int x3), (6, .int x6), (7, .int x7), (9, .int x9)]) hx hb d_Mod_takePart_182 hl (by decide) rfl (fun ls hl => ?_)
        exact c_Mod_takePart_184 E hr hlk hz (f_Mod_takePart_146 fu) ih _ _ _ _ _ _ _ _ _ hF _ _ S _ (lv_sub hl [1, 2, 3, 4, 0, 5] rfl)
      · rw [if_pos c_4] at hF
        refine lv_goto (tgt := 184) hx hb d_Mod_takePart_164 (by decide) ?_
        exact c_Mod_takePart_184 E hr hlk hz (f_Mod_takePart_146 fu) ih _ _ _ _ _ _ _ _ _ hF _ _ S _ (lv_sub hl [0, 1, 2, 3, 4, 5] rfl)
def f_Mod_takePart_140   (g : m_G) (a0 : Nat) (x3 : Int32) (x6 : Int32) (x7 : Int32) (x8 : Int32) : Option (Unit × m_G) :=
  f_Mod_takePart_146 m_fu g a0 x3 x6 x7 x8 (x8 - 1)
set_option maxHeartbeats 1000000 in
set_option maxRecDepth 100000 in
theorem c_Mod_takePart_140 (E : m_V p m c b_Mod_takePart 10 s args R_Mod D K) (hr : meth.sig.returnType = none) (hlk : meth.locks = false) (hz : s.heap.size + 0 = B + n)   : ∀ (g : m_G) (a0 : Nat) (x3 : Int32) (x6 : Int32) (x7 : Int32) (x8 : Int32) (r : Unit) (g' : m_G), f_Mod_takePart_140 g a0 x3 x6 x7 x8 = some (r, g') → ∀ (H : Heap) (locs : List Loc), m_S D B K n g s.heap H locs → ∀ ls : Array Slot, lv_has ls 10 [(0, .ref (B + a0)), (3, .int x3), (6, .int x6), (7, .int x7), (8, .int x8)] → W p l e ({ frames := 3, cells := 0, slots := 0, locals := 75 } : Room) s m args below meth c H locs 0 0 (MQ below (m_Q D B K none n g') args s 0 0 (fun q => B ≤ q)) (F0 m 140 ls []) := by
  have hx := E.1.1
  have hb := E.1.2.1
  have hts := E.1.2.2.2.2
  intro g a0 x3 x6 x7 x8 r g' hF H locs S ls hl
  unfold f_Mod_takePart_140 at hF
  refine lv_iload hx hb d_Mod_takePart_140 (lv_at hl 4 rfl) ?_
  refine lv_iconst (v := 1) hx hb d_Mod_takePart_142 (by decide) ?_
  refine lv_isub hx hb d_Mod_takePart_143 ?_
  refine lv_istore (lv' := [(9, .int (x8 - 1)), (0, .ref (B + a0)), (3, .int x3), (6, .int x6), (7, .int x7), (8, .int x8)]) hx hb d_Mod_takePart_144 hl (by decide) rfl (fun ls hl => ?_)
  exact c_Mod_takePart_146 E hr hlk hz m_fu _ _ _ _ _ _ _ _ _ hF _ _ S _ (lv_sub hl [1, 2, 3, 4, 5, 0] rfl)
def f_Mod_takePart_117   : Nat → m_G → Nat → Int32 → Int32 → Int32 → Int32 → Int32 → Option (Unit × m_G)
  | 0, _, _, _, _, _, _, _ => none
  | fu + 1, g, a0, x2, x3, x6, x7, x8 =>
    if (x2 : Int32) ≤ x8 then
      f_Mod_takePart_140 g a0 x3 x6 x7 x8
    else
      m_gd (m_is g a0 8) <|
      m_bd (f_Mod_closes g a0 x8 x7) fun v_3 g_2 =>
      if (v_3 : Int32) = 0 then
        f_Mod_takePart_117 fu g_2 a0 x2 x3 x6 x7 (x8 + 1)
      else
        f_Mod_takePart_140 g_2 a0 x3 x6 x7 x8
set_option maxHeartbeats 1000000 in
set_option maxRecDepth 100000 in
theorem c_Mod_takePart_117 (E : m_V p m c b_Mod_takePart 10 s args R_Mod D K) (hr : meth.sig.returnType = none) (hlk : meth.locks = false) (hz : s.heap.size + 0 = B + n)   : ∀ fu : Nat, ∀ (g : m_G) (a0 : Nat) (x2 : Int32) (x3 : Int32) (x6 : Int32) (x7 : Int32) (x8 : Int32) (r : Unit) (g' : m_G), f_Mod_takePart_117  fu g a0 x2 x3 x6 x7 x8 = some (r, g') → ∀ (H : Heap) (locs : List Loc), m_S D B K n g s.heap H locs → ∀ ls : Array Slot, lv_has ls 10 [(0, .ref (B + a0)), (2, .int x2), (3, .int x3), (6, .int x6), (7, .int x7), (8, .int x8)] → W p l e ({ frames := 3, cells := 0, slots := 0, locals := 75 } : Room) s m args below meth c H locs 0 0 (MQ below (m_Q D B K none n g') args s 0 0 (fun q => B ≤ q)) (F0 m 117 ls []) := by
  have hx := E.1.1
  have hb := E.1.2.1
  have hts := E.1.2.2.2.2
  intro fu
  induction fu with
  | zero => intro g a0 x2 x3 x6 x7 x8 r g' hF; cases hF
  | succ fu ih =>
    intro g a0 x2 x3 x6 x7 x8 r g' hF H locs S ls hl
    rw [f_Mod_takePart_117] at hF
    refine lv_iload hx hb d_Mod_takePart_117 (lv_at hl 5 rfl) ?_
    refine lv_iload_n hx hb d_Mod_takePart_119 rfl (lv_at hl 1 rfl) ?_
    refine lv_icmp_ge (tgt := 140) hx hb d_Mod_takePart_120 (by decide) (fun c_1 => ?_) (fun c_1 => ?_)
    · rw [if_pos c_1] at hF
      exact c_Mod_takePart_140 E hr hlk hz _ _ _ _ _ _ _ _ hF _ _ S _ (lv_sub hl [0, 2, 3, 4, 5] rfl)
    · rw [if_neg c_1] at hF
      refine lv_aload_n hx hb d_Mod_takePart_123 rfl (lv_at hl 0 rfl) ?_
      refine lv_iload hx hb d_Mod_takePart_124 (lv_at hl 5 rfl) ?_
      refine lv_iload hx hb d_Mod_takePart_126 (lv_at hl 4 rfl) ?_
      replace hF := m_gd_inv hF
      obtain ⟨eog_2, hF⟩ := hF
      replace hF := m_bd_inv hF
      obtain ⟨v_3, g_2, eg_2, hF⟩ := hF
      refine m_callV (B := B) (nn := 2) (b := a0) (As := [.int x8, .int x7]) (rest := []) (v := (some (.int v_3))) E S hz (c_Mod_closes l D B K n g a0 x8 x7 v_3 g_2 eg_2) qc_Mod_closes ⟨rfl, rfl⟩ (Or.inl qw_338) qw_339 qw_340 qw_304 (by decide +kernel) ⟨Nat.le_of_ble_eq_true rfl, Nat.le_of_ble_eq_true rfl⟩ eog_2 rfl rfl hl.1 (Nat.le_of_ble_eq_true rfl) d_Mod_takePart_128 ⟨Nat.le_of_ble_eq_true rfl, Nat.le_of_ble_eq_true rfl⟩ (fun H locs S => ?_)
      refine W.eq (g2 := F0 m 131 ls [.int v_3]) rfl ?_
      refine lv_if_ne (tgt := 140) hx hb d_Mod_takePart_131 (by decide) (fun c_4 => ?_) (fun c_4 => ?_)
      · rw [if_neg c_4] at hF
        exact c_Mod_takePart_140 E hr hlk hz _ _ _ _ _ _ _ _ hF _ _ S _ (lv_sub hl [0, 2, 3, 4, 5] rfl)
      · rw [if_pos c_4] at hF
        refine lv_iinc (v := (x8 + 1)) (lv' := [(8, .int (x8 + 1)), (0, .ref (B + a0)), (2, .int x2), (3, .int x3), (6, .int x6), (7, .int x7)]) hx hb d_Mod_takePart_134 hl (k := 5) rfl rfl (by decide) rfl (fun ls hl => ?_)
        refine lv_goto (tgt := 117) hx hb d_Mod_takePart_137 (by decide) ?_
        exact ih _ _ _ _ _ _ _ _ _ hF _ _ S _ (lv_sub hl [1, 2, 3, 4, 5, 0] rfl)
def f_Mod_takePart_72   (g : m_G) (a0 : Nat) (x1 : Int32) (x2 : Int32) (x3 : Int32) (x4 : Int32) (y0 : Int32) : Option (Unit × m_G) :=
  if (3 : Int32) < x3 then
    f_Mod_takePart_95 g a0 x1 x2 y0
  else
    if (x4 : Int32) < 0 then
      f_Mod_takePart_95 g a0 x1 x2 y0
    else
      (m_gR g a0 8 1).bind fun v_3 =>
      Option.bind v_3 fun a_4 =>
      (m_ld g a_4 0 x4).bind fun v_5 =>
      if (v_5 : Int32) = 3 then
        m_gd (m_is g a0 8) <|
        m_bd (f_Mod_at g a0 x4 2) fun v_8 g_7 =>
        f_Mod_takePart_117 m_fu g_7 a0 x2 x3 y0 v_8 y0
      else
        f_Mod_takePart_95 g a0 x1 x2 y0
set_option maxHeartbeats 1000000 in
set_option maxRecDepth 100000 in
theorem c_Mod_takePart_72 (E : m_V p m c b_Mod_takePart 10 s args R_Mod D K) (hr : meth.sig.returnType = none) (hlk : meth.locks = false) (hz : s.heap.size + 0 = B + n)   : ∀ (g : m_G) (a0 : Nat) (x1 : Int32) (x2 : Int32) (x3 : Int32) (x4 : Int32) (y0 : Int32) (r : Unit) (g' : m_G), f_Mod_takePart_72 g a0 x1 x2 x3 x4 y0 = some (r, g') → ∀ (H : Heap) (locs : List Loc), m_S D B K n g s.heap H locs → ∀ ls : Array Slot, lv_has ls 10 [(0, .ref (B + a0)), (1, .int x1), (2, .int x2), (3, .int x3), (4, .int x4)] → W p l e ({ frames := 3, cells := 0, slots := 0, locals := 75 } : Room) s m args below meth c H locs 0 0 (MQ below (m_Q D B K none n g') args s 0 0 (fun q => B ≤ q)) (F0 m 72 ls [.int y0]) := by
  have hx := E.1.1
  have hb := E.1.2.1
  have hts := E.1.2.2.2.2
  intro g a0 x1 x2 x3 x4 y0 r g' hF H locs S ls hl
  unfold f_Mod_takePart_72 at hF
  refine lv_istore (lv' := [(6, .int y0), (0, .ref (B + a0)), (1, .int x1), (2, .int x2), (3, .int x3), (4, .int x4)]) hx hb d_Mod_takePart_72 hl (by decide) rfl (fun ls hl => ?_)
  refine lv_iload_n hx hb d_Mod_takePart_74 rfl (lv_at hl 4 rfl) ?_
  refine lv_iconst (v := 3) hx hb d_Mod_takePart_75 (by decide) ?_
  refine lv_icmp_gt (tgt := 95) hx hb d_Mod_takePart_76 (by decide) (fun c_1 => ?_) (fun c_1 => ?_)
  · rw [if_pos c_1] at hF
    exact c_Mod_takePart_95 E hr hlk hz _ _ _ _ _ _ _ hF _ _ S _ (lv_sub hl [1, 2, 3, 0] rfl)
  · rw [if_neg c_1] at hF
    refine lv_iload hx hb d_Mod_takePart_79 (lv_at hl 5 rfl) ?_
    refine lv_if_lt (tgt := 95) hx hb d_Mod_takePart_81 (by decide) (fun c_2 => ?_) (fun c_2 => ?_)
    · rw [if_pos c_2] at hF
      exact c_Mod_takePart_95 E hr hlk hz _ _ _ _ _ _ _ hF _ _ S _ (lv_sub hl [1, 2, 3, 0] rfl)
    · rw [if_neg c_2] at hF
      refine lv_aload_n hx hb d_Mod_takePart_84 rfl (lv_at hl 1 rfl) ?_
      replace hF := Option.bind_eq_some_iff.mp hF
      obtain ⟨v_3, ev_3, hF⟩ := hF
      refine m_getR (B := B) (a := a0) E S fd_Mod_lengths (Or.inl qw_285) ev_3 d_Mod_takePart_85 ?_
      refine lv_iload hx hb d_Mod_takePart_88 (lv_at hl 5 rfl) ?_
      replace hF := Option.bind_eq_some_iff.mp hF
      obtain ⟨a_4, ea_4, hF⟩ := hF
      subst ea_4
      replace hF := Option.bind_eq_some_iff.mp hF
      obtain ⟨v_5, ev_5, hF⟩ := hF
      refine m_iald (B := B) (a := a_4) (t := 0) E S rfl ev_5 d_Mod_takePart_90 ?_
      refine lv_iconst (v := 3) hx hb d_Mod_takePart_91 (by decide) ?_
      refine lv_icmp_eq (tgt := 104) hx hb d_Mod_takePart_92 (by decide) (fun c_6 => ?_) (fun c_6 => ?_)
      · rw [if_pos c_6] at hF
        refine lv_aload_n hx hb d_Mod_takePart_104 rfl (lv_at hl 1 rfl) ?_
        refine lv_iload hx hb d_Mod_takePart_105 (lv_at hl 5 rfl) ?_
        refine lv_iconst (v := 2) hx hb d_Mod_takePart_107 (by decide) ?_
        replace hF := m_gd_inv hF
        obtain ⟨eog_7, hF⟩ := hF
        replace hF := m_bd_inv hF
        obtain ⟨v_8, g_7, eg_7, hF⟩ := hF
        refine m_callV (B := B) (nn := 2) (b := a0) (As := [.int x4, .int 2]) (rest := []) (v := (some (.int v_8))) E S hz (c_Mod_at l D B K n g a0 x4 2 v_8 g_7 eg_7) qc_Mod_at ⟨rfl, rfl⟩ (Or.inl qw_307) qw_308 qw_309 qw_304 (by decide +kernel) ⟨Nat.le_of_ble_eq_true rfl, Nat.le_of_ble_eq_true rfl⟩ eog_7 rfl rfl hl.1 (Nat.le_of_ble_eq_true rfl) d_Mod_takePart_108 ⟨Nat.le_of_ble_eq_true rfl, Nat.le_of_ble_eq_true rfl⟩ (fun H locs S => ?_)
        refine W.eq (g2 := F0 m 111 ls [.int v_8]) rfl ?_
        refine lv_istore (lv' := [(7, .int v_8), (6, .int y0), (0, .ref (B + a0)), (1, .int x1), (2, .int x2), (3, .int x3), (4, .int x4)]) hx hb d_Mod_takePart_111 hl (by decide) rfl (fun ls hl => ?_)
        refine lv_iload hx hb d_Mod_takePart_113 (lv_at hl 1 rfl) ?_
        refine lv_istore (lv' := [(8, .int y0), (7, .int v_8), (6, .int y0), (0, .ref (B + a0)), (1, .int x1), (2, .int x2), (3, .int x3), (4, .int x4)]) hx hb d_Mod_takePart_115 hl (by decide) rfl (fun ls hl => ?_)
        exact c_Mod_takePart_117 E hr hlk hz m_fu _ _ _ _ _ _ _ _ _ hF _ _ S _ (lv_sub hl [3, 5, 6, 2, 1, 0] rfl)
      · rw [if_neg c_6] at hF
        exact c_Mod_takePart_95 E hr hlk hz _ _ _ _ _ _ _ hF _ _ S _ (lv_sub hl [1, 2, 3, 0] rfl)
end S_Mod_takePart
def f_Mod_takePart  (g : m_G) (a0 : Nat) : Option (Unit × m_G) :=
  (m_gI g a0 8 6).bind fun v_1 =>
  (m_pI g a0 8 6 (v_1 - 1)).bind fun g_2 =>
  (m_gR g_2 a0 8 3).bind fun v_3 =>
  (m_gI g_2 a0 8 6).bind fun v_4 =>
  Option.bind v_3 fun a_5 =>
  (m_ld g_2 a_5 0 v_4).bind fun v_6 =>
  (m_gR g_2 a0 8 4).bind fun v_7 =>
  (m_gI g_2 a0 8 6).bind fun v_8 =>
  Option.bind v_7 fun a_9 =>
  (m_ld g_2 a_9 0 v_8).bind fun v_10 =>
  (m_gR g_2 a0 8 5).bind fun v_11 =>
  (m_gI g_2 a0 8 6).bind fun v_12 =>
  Option.bind v_11 fun a_13 =>
  (m_ld g_2 a_13 0 v_12).bind fun v_14 =>
  m_gd (m_is g_2 a0 8) <|
  m_bd (f_Mod_header g_2 a0 v_6 v_10 109) fun v_16 g_15 =>
  m_gd (m_is g_15 a0 8) <|
  m_bd (f_Mod_emptyLine g_15 a0 v_6 v_10) fun v_18 g_17 =>
  if (v_10 : Int32) ≤ v_18 then
    f_Mod_takePart_72 g_17 a0 v_6 v_10 v_14 v_16 v_10
  else
    f_Mod_takePart_72 g_17 a0 v_6 v_10 v_14 v_16 (v_18 + 1)
set_option maxHeartbeats 1000000 in
set_option maxRecDepth 100000 in
theorem c_Mod_takePart (l : Launch) (D : va_G) (B : Nat) (K : Nat → ClassId)  (n : Nat) (g : m_G) (a0 : Nat) (r : Unit) (g' : m_G) (hF : f_Mod_takePart g a0 = some (r, g')) : Met l y_Mod_takePart (Cond.code y_Mod_takePart b_Mod_takePart 10 none :: m_TB) ({ frames := 3, cells := 0, slots := 0, locals := 75 } : Room) (m_Pc D B K n g [.ref (B + a0)]) (m_Q D B K none n g') 0 0 (fun q => B ≤ q) := by
  refine m_met (by decide) (Nat.le_of_ble_eq_true rfl) ?_
  intro p e s m args below meth c ls E hr hlk hin hsz S hl
  have E : m_V p m c b_Mod_takePart 10 s args R_Mod D K := E
  have hz : s.heap.size + 0 = B + n := hsz
  have hl : lv_has ls 10 [(0, .ref (B + a0))] := hl
  have hx := E.1.1
  have hb := E.1.2.1
  have hts := E.1.2.2.2.2
  unfold f_Mod_takePart at hF
  refine lv_aload_n hx hb d_Mod_takePart_0 rfl (lv_at hl 0 rfl) ?_
  refine lv_dup hx hb d_Mod_takePart_1 rfl ?_
  replace hF := Option.bind_eq_some_iff.mp hF
  obtain ⟨v_1, ev_1, hF⟩ := hF
  refine m_getI (B := B) (a := a0) E S fd_Mod_parts (Or.inl qw_320) ev_1 d_Mod_takePart_2 ?_
  refine lv_iconst (v := 1) hx hb d_Mod_takePart_5 (by decide) ?_
  refine lv_isub hx hb d_Mod_takePart_6 ?_
  replace hF := Option.bind_eq_some_iff.mp hF
  obtain ⟨g_2, eg_2, hF⟩ := hF
  refine m_putI (B := B) (a := a0) E S fd_Mod_parts (Or.inl qw_320) eg_2 d_Mod_takePart_7 (fun H locs S => ?_)
  refine lv_aload_n hx hb d_Mod_takePart_10 rfl (lv_at hl 0 rfl) ?_
  replace hF := Option.bind_eq_some_iff.mp hF
  obtain ⟨v_3, ev_3, hF⟩ := hF
  refine m_getR (B := B) (a := a0) E S fd_Mod_partFrom (Or.inl qw_286) ev_3 d_Mod_takePart_11 ?_
  refine lv_aload_n hx hb d_Mod_takePart_14 rfl (lv_at hl 0 rfl) ?_
  replace hF := Option.bind_eq_some_iff.mp hF
  obtain ⟨v_4, ev_4, hF⟩ := hF
  refine m_getI (B := B) (a := a0) E S fd_Mod_parts (Or.inl qw_320) ev_4 d_Mod_takePart_15 ?_
  replace hF := Option.bind_eq_some_iff.mp hF
  obtain ⟨a_5, ea_5, hF⟩ := hF
  subst ea_5
  replace hF := Option.bind_eq_some_iff.mp hF
  obtain ⟨v_6, ev_6, hF⟩ := hF
  refine m_iald (B := B) (a := a_5) (t := 0) E S rfl ev_6 d_Mod_takePart_18 ?_
  refine lv_istore_n (lv' := [(1, .int v_6), (0, .ref (B + a0))]) hx hb d_Mod_takePart_19 rfl hl (by decide) rfl (fun ls hl => ?_)
  refine lv_aload_n hx hb d_Mod_takePart_20 rfl (lv_at hl 1 rfl) ?_
  replace hF := Option.bind_eq_some_iff.mp hF
  obtain ⟨v_7, ev_7, hF⟩ := hF
  refine m_getR (B := B) (a := a0) E S fd_Mod_partTo (Or.inl qw_287) ev_7 d_Mod_takePart_21 ?_
  refine lv_aload_n hx hb d_Mod_takePart_24 rfl (lv_at hl 1 rfl) ?_
  replace hF := Option.bind_eq_some_iff.mp hF
  obtain ⟨v_8, ev_8, hF⟩ := hF
  refine m_getI (B := B) (a := a0) E S fd_Mod_parts (Or.inl qw_320) ev_8 d_Mod_takePart_25 ?_
  replace hF := Option.bind_eq_some_iff.mp hF
  obtain ⟨a_9, ea_9, hF⟩ := hF
  subst ea_9
  replace hF := Option.bind_eq_some_iff.mp hF
  obtain ⟨v_10, ev_10, hF⟩ := hF
  refine m_iald (B := B) (a := a_9) (t := 0) E S rfl ev_10 d_Mod_takePart_28 ?_
  refine lv_istore_n (lv' := [(2, .int v_10), (1, .int v_6), (0, .ref (B + a0))]) hx hb d_Mod_takePart_29 rfl hl (by decide) rfl (fun ls hl => ?_)
  refine lv_aload_n hx hb d_Mod_takePart_30 rfl (lv_at hl 2 rfl) ?_
  replace hF := Option.bind_eq_some_iff.mp hF
  obtain ⟨v_11, ev_11, hF⟩ := hF
  refine m_getR (B := B) (a := a0) E S fd_Mod_partDepth (Or.inl qw_288) ev_11 d_Mod_takePart_31 ?_
  refine lv_aload_n hx hb d_Mod_takePart_34 rfl (lv_at hl 2 rfl) ?_
  replace hF := Option.bind_eq_some_iff.mp hF
  obtain ⟨v_12, ev_12, hF⟩ := hF
  refine m_getI (B := B) (a := a0) E S fd_Mod_parts (Or.inl qw_320) ev_12 d_Mod_takePart_35 ?_
  replace hF := Option.bind_eq_some_iff.mp hF
  obtain ⟨a_13, ea_13, hF⟩ := hF
  subst ea_13
  replace hF := Option.bind_eq_some_iff.mp hF
  obtain ⟨v_14, ev_14, hF⟩ := hF
  refine m_iald (B := B) (a := a_13) (t := 0) E S rfl ev_14 d_Mod_takePart_38 ?_
  refine lv_istore_n (lv' := [(3, .int v_14), (2, .int v_10), (1, .int v_6), (0, .ref (B + a0))]) hx hb d_Mod_takePart_39 rfl hl (by decide) rfl (fun ls hl => ?_)
  refine lv_aload_n hx hb d_Mod_takePart_40 rfl (lv_at hl 3 rfl) ?_
  refine lv_iload_n hx hb d_Mod_takePart_41 rfl (lv_at hl 2 rfl) ?_
  refine lv_iload_n hx hb d_Mod_takePart_42 rfl (lv_at hl 1 rfl) ?_
  refine lv_bipush (v := 109) hx hb d_Mod_takePart_43 (by decide) ?_
  replace hF := m_gd_inv hF
  obtain ⟨eog_15, hF⟩ := hF
  replace hF := m_bd_inv hF
  obtain ⟨v_16, g_15, eg_15, hF⟩ := hF
  refine m_callV (B := B) (nn := 3) (b := a0) (As := [.int v_6, .int v_10, .int 109]) (rest := []) (v := (some (.int v_16))) E S hz (c_Mod_header l D B K n g_2 a0 v_6 v_10 109 v_16 g_15 eg_15) qc_Mod_header ⟨rfl, rfl⟩ (Or.inl qw_326) qw_327 qw_328 qw_304 (by decide +kernel) ⟨Nat.le_of_ble_eq_true rfl, Nat.le_of_ble_eq_true rfl⟩ eog_15 rfl rfl hl.1 (Nat.le_of_ble_eq_true rfl) d_Mod_takePart_45 ⟨Nat.le_of_ble_eq_true rfl, Nat.le_of_ble_eq_true rfl⟩ (fun H locs S => ?_)
  refine W.eq (g2 := F0 m 48 ls [.int v_16]) rfl ?_
  refine lv_istore (lv' := [(4, .int v_16), (3, .int v_14), (2, .int v_10), (1, .int v_6), (0, .ref (B + a0))]) hx hb d_Mod_takePart_48 hl (by decide) rfl (fun ls hl => ?_)
  refine lv_aload_n hx hb d_Mod_takePart_50 rfl (lv_at hl 4 rfl) ?_
  refine lv_iload_n hx hb d_Mod_takePart_51 rfl (lv_at hl 3 rfl) ?_
  refine lv_iload_n hx hb d_Mod_takePart_52 rfl (lv_at hl 2 rfl) ?_
  replace hF := m_gd_inv hF
  obtain ⟨eog_17, hF⟩ := hF
  replace hF := m_bd_inv hF
  obtain ⟨v_18, g_17, eg_17, hF⟩ := hF
  refine m_callV (B := B) (nn := 2) (b := a0) (As := [.int v_6, .int v_10]) (rest := []) (v := (some (.int v_18))) E S hz (c_Mod_emptyLine l D B K n g_15 a0 v_6 v_10 v_18 g_17 eg_17) qc_Mod_emptyLine ⟨rfl, rfl⟩ (Or.inl qw_317) qw_318 qw_319 qw_304 (by decide +kernel) ⟨Nat.le_of_ble_eq_true rfl, Nat.le_of_ble_eq_true rfl⟩ eog_17 rfl rfl hl.1 (Nat.le_of_ble_eq_true rfl) d_Mod_takePart_53 ⟨Nat.le_of_ble_eq_true rfl, Nat.le_of_ble_eq_true rfl⟩ (fun H locs S => ?_)
  refine W.eq (g2 := F0 m 56 ls [.int v_18]) rfl ?_
  refine lv_istore (lv' := [(5, .int v_18), (4, .int v_16), (3, .int v_14), (2, .int v_10), (1, .int v_6), (0, .ref (B + a0))]) hx hb d_Mod_takePart_56 hl (by decide) rfl (fun ls hl => ?_)
  refine lv_iload hx hb d_Mod_takePart_58 (lv_at hl 0 rfl) ?_
  refine lv_iload_n hx hb d_Mod_takePart_60 rfl (lv_at hl 3 rfl) ?_
  refine lv_icmp_ge (tgt := 71) hx hb d_Mod_takePart_61 (by decide) (fun c_19 => ?_) (fun c_19 => ?_)
  · rw [if_pos c_19] at hF
    refine lv_iload_n hx hb d_Mod_takePart_71 rfl (lv_at hl 3 rfl) ?_
    exact c_Mod_takePart_72 E hr hlk hz _ _ _ _ _ _ _ _ _ hF _ _ S _ (lv_sub hl [5, 4, 3, 2, 1] rfl)
  · rw [if_neg c_19] at hF
    refine lv_iload hx hb d_Mod_takePart_64 (lv_at hl 0 rfl) ?_
    refine lv_iconst (v := 1) hx hb d_Mod_takePart_66 (by decide) ?_
    refine lv_iadd hx hb d_Mod_takePart_67 ?_
    refine lv_goto (tgt := 72) hx hb d_Mod_takePart_68 (by decide) ?_
    exact c_Mod_takePart_72 E hr hlk hz _ _ _ _ _ _ _ _ _ hF _ _ S _ (lv_sub hl [5, 4, 3, 2, 1] rfl)
section S_Mod_fill
variable {p : Program} {l : Launch} {e : Env} {s : State} {m : MethodId} {args : Array Value} {below : List Frame} {meth : Method} {c : Code} {D : va_G} {B n : Nat} {K : Nat → ClassId}
def f_Mod_fill_147   : Nat → m_G → Nat → Option (Unit × m_G)
  | 0, _, _ => none
  | fu + 1, g, a0 =>
    (m_gI g a0 8 6).bind fun v_1 =>
    if (v_1 : Int32) ≤ 0 then
      some ((), g)
    else
      m_gd (m_is g a0 8) <|
      m_bd (f_Mod_takePart g a0) fun v_4 g_3 =>
      f_Mod_fill_147 fu g_3 a0
set_option maxHeartbeats 1000000 in
set_option maxRecDepth 100000 in
theorem c_Mod_fill_147 (E : m_V p m c b_Mod_fill 7 s args R_Mod D K) (hr : meth.sig.returnType = none) (hlk : meth.locks = false) (hz : s.heap.size + 0 = B + n)   : ∀ fu : Nat, ∀ (g : m_G) (a0 : Nat) (r : Unit) (g' : m_G), f_Mod_fill_147  fu g a0 = some (r, g') → ∀ (H : Heap) (locs : List Loc), m_S D B K n g s.heap H locs → ∀ ls : Array Slot, lv_has ls 7 [(0, .ref (B + a0))] → W p l e ({ frames := 4, cells := 0, slots := 0, locals := 104 } : Room) s m args below meth c H locs 0 0 (MQ below (m_Q D B K none n g') args s 0 0 (fun q => B ≤ q)) (F0 m 147 ls []) := by
  have hx := E.1.1
  have hb := E.1.2.1
  have hts := E.1.2.2.2.2
  intro fu
  induction fu with
  | zero => intro g a0 r g' hF; cases hF
  | succ fu ih =>
    intro g a0 r g' hF H locs S ls hl
    rw [f_Mod_fill_147] at hF
    refine lv_aload_n hx hb d_Mod_fill_147 rfl (lv_at hl 0 rfl) ?_
    replace hF := Option.bind_eq_some_iff.mp hF
    obtain ⟨v_1, ev_1, hF⟩ := hF
    refine m_getI (B := B) (a := a0) E S fd_Mod_parts (Or.inl qw_320) ev_1 d_Mod_fill_148 ?_
    refine lv_if_le (tgt := 161) hx hb d_Mod_fill_151 (by decide) (fun c_2 => ?_) (fun c_2 => ?_)
    · rw [if_pos c_2] at hF
      cases hF
      skip
      exact m_vret E S hz hr hlk d_Mod_fill_161
    · rw [if_neg c_2] at hF
      refine lv_aload_n hx hb d_Mod_fill_154 rfl (lv_at hl 0 rfl) ?_
      replace hF := m_gd_inv hF
      obtain ⟨eog_3, hF⟩ := hF
      replace hF := m_bd_inv hF
      obtain ⟨v_4, g_3, eg_3, hF⟩ := hF
      refine m_callV (B := B) (nn := 0) (b := a0) (As := []) (rest := []) (v := none) E S hz (c_Mod_takePart l D B K n g a0 v_4 g_3 eg_3) qc_Mod_takePart ⟨rfl, rfl⟩ (Or.inl qw_351) qw_352 qw_353 qw_304 (by decide +kernel) ⟨Nat.le_of_ble_eq_true rfl, Nat.le_of_ble_eq_true rfl⟩ eog_3 rfl rfl hl.1 (Nat.le_of_ble_eq_true rfl) d_Mod_fill_155 ⟨Nat.le_of_ble_eq_true rfl, Nat.le_of_ble_eq_true rfl⟩ (fun H locs S => ?_)
      refine W.eq (g2 := F0 m 158 ls []) rfl ?_
      refine lv_goto (tgt := 147) hx hb d_Mod_fill_158 (by decide) ?_
      exact ih _ _ _ _ hF _ _ S _ (lv_sub hl [0] rfl)
def f_Mod_fill_135   (g : m_G) (a0 : Nat) (x3 : Int32) : Option (Unit × m_G) :=
  (m_pI g a0 8 6 0).bind fun g_1 =>
  m_gd (m_is g_1 a0 8) <|
  m_bd (f_Mod_push g_1 a0 0 x3 1) fun v_3 g_2 =>
  f_Mod_fill_147 m_fu g_2 a0
set_option maxHeartbeats 1000000 in
set_option maxRecDepth 100000 in
theorem c_Mod_fill_135 (E : m_V p m c b_Mod_fill 7 s args R_Mod D K) (hr : meth.sig.returnType = none) (hlk : meth.locks = false) (hz : s.heap.size + 0 = B + n)   : ∀ (g : m_G) (a0 : Nat) (x3 : Int32) (r : Unit) (g' : m_G), f_Mod_fill_135 g a0 x3 = some (r, g') → ∀ (H : Heap) (locs : List Loc), m_S D B K n g s.heap H locs → ∀ ls : Array Slot, lv_has ls 7 [(0, .ref (B + a0)), (3, .int x3)] → W p l e ({ frames := 4, cells := 0, slots := 0, locals := 104 } : Room) s m args below meth c H locs 0 0 (MQ below (m_Q D B K none n g') args s 0 0 (fun q => B ≤ q)) (F0 m 135 ls []) := by
  have hx := E.1.1
  have hb := E.1.2.1
  have hts := E.1.2.2.2.2
  intro g a0 x3 r g' hF H locs S ls hl
  unfold f_Mod_fill_135 at hF
  refine lv_aload_n hx hb d_Mod_fill_135 rfl (lv_at hl 0 rfl) ?_
  refine lv_iconst (v := 0) hx hb d_Mod_fill_136 (by decide) ?_
  replace hF := Option.bind_eq_some_iff.mp hF
  obtain ⟨g_1, eg_1, hF⟩ := hF
  refine m_putI (B := B) (a := a0) E S fd_Mod_parts (Or.inl qw_320) eg_1 d_Mod_fill_137 (fun H locs S => ?_)
  refine lv_aload_n hx hb d_Mod_fill_140 rfl (lv_at hl 0 rfl) ?_
  refine lv_iconst (v := 0) hx hb d_Mod_fill_141 (by decide) ?_
  refine lv_iload_n hx hb d_Mod_fill_142 rfl (lv_at hl 1 rfl) ?_
  refine lv_iconst (v := 1) hx hb d_Mod_fill_143 (by decide) ?_
  replace hF := m_gd_inv hF
  obtain ⟨eog_2, hF⟩ := hF
  replace hF := m_bd_inv hF
  obtain ⟨v_3, g_2, eg_2, hF⟩ := hF
  refine m_callV (B := B) (nn := 3) (b := a0) (As := [.int 0, .int x3, .int 1]) (rest := []) (v := none) E S hz (c_Mod_push l D B K n g_1 a0 0 x3 1 v_3 g_2 eg_2) qc_Mod_push ⟨rfl, rfl⟩ (Or.inl qw_344) qw_345 qw_346 qw_304 (by decide +kernel) ⟨Nat.le_of_ble_eq_true rfl, Nat.le_of_ble_eq_true rfl⟩ eog_2 rfl rfl hl.1 (Nat.le_of_ble_eq_true rfl) d_Mod_fill_144 ⟨Nat.le_of_ble_eq_true rfl, Nat.le_of_ble_eq_true rfl⟩ (fun H locs S => ?_)
  refine W.eq (g2 := F0 m 147 ls []) rfl ?_
  exact c_Mod_fill_147 E hr hlk hz m_fu _ _ _ _ hF _ _ S _ (lv_sub hl [0] rfl)
def f_Mod_fill_122   (g : m_G) (a0 : Nat) (x3 : Int32) (x6 : Int32) : Option (Unit × m_G) :=
  if (x6 : Int32) < 0 then
    f_Mod_fill_135 g a0 x3
  else
    m_gd (m_is g a0 8) <|
    m_bd (f_Mod_collect g a0 x6 2 1) fun v_3 g_2 =>
    f_Mod_fill_135 g_2 a0 x3
set_option maxHeartbeats 1000000 in
set_option maxRecDepth 100000 in
theorem c_Mod_fill_122 (E : m_V p m c b_Mod_fill 7 s args R_Mod D K) (hr : meth.sig.returnType = none) (hlk : meth.locks = false) (hz : s.heap.size + 0 = B + n)   : ∀ (g : m_G) (a0 : Nat) (x3 : Int32) (x6 : Int32) (r : Unit) (g' : m_G), f_Mod_fill_122 g a0 x3 x6 = some (r, g') → ∀ (H : Heap) (locs : List Loc), m_S D B K n g s.heap H locs → ∀ ls : Array Slot, lv_has ls 7 [(0, .ref (B + a0)), (3, .int x3), (6, .int x6)] → W p l e ({ frames := 4, cells := 0, slots := 0, locals := 104 } : Room) s m args below meth c H locs 0 0 (MQ below (m_Q D B K none n g') args s 0 0 (fun q => B ≤ q)) (F0 m 122 ls []) := by
  have hx := E.1.1
  have hb := E.1.2.1
  have hts := E.1.2.2.2.2
  intro g a0 x3 x6 r g' hF H locs S ls hl
  unfold f_Mod_fill_122 at hF
  refine lv_iload hx hb d_Mod_fill_122 (lv_at hl 2 rfl) ?_
  refine lv_if_lt (tgt := 135) hx hb d_Mod_fill_124 (by decide) (fun c_1 => ?_) (fun c_1 => ?_)
  · rw [if_pos c_1] at hF
    exact c_Mod_fill_135 E hr hlk hz _ _ _ _ _ hF _ _ S _ (lv_sub hl [0, 1] rfl)
  · rw [if_neg c_1] at hF
    refine lv_aload_n hx hb d_Mod_fill_127 rfl (lv_at hl 0 rfl) ?_
    refine lv_iload hx hb d_Mod_fill_128 (lv_at hl 2 rfl) ?_
    refine lv_iconst (v := 2) hx hb d_Mod_fill_130 (by decide) ?_
    refine lv_iconst (v := 1) hx hb d_Mod_fill_131 (by decide) ?_
    replace hF := m_gd_inv hF
    obtain ⟨eog_2, hF⟩ := hF
    replace hF := m_bd_inv hF
    obtain ⟨v_3, g_2, eg_2, hF⟩ := hF
    refine m_callV (B := B) (nn := 3) (b := a0) (As := [.int x6, .int 2, .int 1]) (rest := []) (v := none) E S hz (c_Mod_collect l D B K n g a0 x6 2 1 v_3 g_2 eg_2) qc_Mod_collect ⟨rfl, rfl⟩ (Or.inl qw_329) qw_330 qw_331 qw_304 (by decide +kernel) ⟨Nat.le_of_ble_eq_true rfl, Nat.le_of_ble_eq_true rfl⟩ eog_2 rfl rfl hl.1 (Nat.le_of_ble_eq_true rfl) d_Mod_fill_132 ⟨Nat.le_of_ble_eq_true rfl, Nat.le_of_ble_eq_true rfl⟩ (fun H locs S => ?_)
    refine W.eq (g2 := F0 m 135 ls []) rfl ?_
    exact c_Mod_fill_135 E hr hlk hz _ _ _ _ _ hF _ _ S _ (lv_sub hl [0, 1] rfl)
def f_Mod_fill_109   (g : m_G) (a0 : Nat) (x3 : Int32) (x5 : Int32) (x6 : Int32) : Option (Unit × m_G) :=
  if (x5 : Int32) < 0 then
    f_Mod_fill_122 g a0 x3 x6
  else
    m_gd (m_is g a0 8) <|
    m_bd (f_Mod_collect g a0 x5 2 0) fun v_3 g_2 =>
    f_Mod_fill_122 g_2 a0 x3 x6
set_option maxHeartbeats 1000000 in
set_option maxRecDepth 100000 in
theorem c_Mod_fill_109 (E : m_V p m c b_Mod_fill 7 s args R_Mod D K) (hr : meth.sig.returnType = none) (hlk : meth.locks = false) (hz : s.heap.size + 0 = B + n)   : ∀ (g : m_G) (a0 : Nat) (x3 : Int32) (x5 : Int32) (x6 : Int32) (r : Unit) (g' : m_G), f_Mod_fill_109 g a0 x3 x5 x6 = some (r, g') → ∀ (H : Heap) (locs : List Loc), m_S D B K n g s.heap H locs → ∀ ls : Array Slot, lv_has ls 7 [(0, .ref (B + a0)), (3, .int x3), (5, .int x5), (6, .int x6)] → W p l e ({ frames := 4, cells := 0, slots := 0, locals := 104 } : Room) s m args below meth c H locs 0 0 (MQ below (m_Q D B K none n g') args s 0 0 (fun q => B ≤ q)) (F0 m 109 ls []) := by
  have hx := E.1.1
  have hb := E.1.2.1
  have hts := E.1.2.2.2.2
  intro g a0 x3 x5 x6 r g' hF H locs S ls hl
  unfold f_Mod_fill_109 at hF
  refine lv_iload hx hb d_Mod_fill_109 (lv_at hl 2 rfl) ?_
  refine lv_if_lt (tgt := 122) hx hb d_Mod_fill_111 (by decide) (fun c_1 => ?_) (fun c_1 => ?_)
  · rw [if_pos c_1] at hF
    exact c_Mod_fill_122 E hr hlk hz _ _ _ _ _ _ hF _ _ S _ (lv_sub hl [0, 1, 3] rfl)
  · rw [if_neg c_1] at hF
    refine lv_aload_n hx hb d_Mod_fill_114 rfl (lv_at hl 0 rfl) ?_
    refine lv_iload hx hb d_Mod_fill_115 (lv_at hl 2 rfl) ?_
    refine lv_iconst (v := 2) hx hb d_Mod_fill_117 (by decide) ?_
    refine lv_iconst (v := 0) hx hb d_Mod_fill_118 (by decide) ?_
    replace hF := m_gd_inv hF
    obtain ⟨eog_2, hF⟩ := hF
    replace hF := m_bd_inv hF
    obtain ⟨v_3, g_2, eg_2, hF⟩ := hF
    refine m_callV (B := B) (nn := 3) (b := a0) (As := [.int x5, .int 2, .int 0]) (rest := []) (v := none) E S hz (c_Mod_collect l D B K n g a0 x5 2 0 v_3 g_2 eg_2) qc_Mod_collect ⟨rfl, rfl⟩ (Or.inl qw_329) qw_330 qw_331 qw_304 (by decide +kernel) ⟨Nat.le_of_ble_eq_true rfl, Nat.le_of_ble_eq_true rfl⟩ eog_2 rfl rfl hl.1 (Nat.le_of_ble_eq_true rfl) d_Mod_fill_119 ⟨Nat.le_of_ble_eq_true rfl, Nat.le_of_ble_eq_true rfl⟩ (fun H locs S => ?_)
    refine W.eq (g2 := F0 m 122 ls []) rfl ?_
    exact c_Mod_fill_122 E hr hlk hz _ _ _ _ _ _ hF _ _ S _ (lv_sub hl [0, 1, 3] rfl)
end S_Mod_fill
def f_Mod_fill  (g : m_G) (a0 : Nat) (x1 : Int32) (x2 : Int32) (x3 : Int32) : Option (Unit × m_G) :=
  (m_pI g a0 8 18 x1).bind fun g_1 =>
  (m_gR g_1 a0 8 7).bind fun v_2 =>
  Option.bind v_2 fun a_3 =>
  (m_st g_1 a_3 3 x1 (vp_nar .boolean 1)).bind fun g_4 =>
  (m_gR g_4 a0 8 8).bind fun v_5 =>
  Option.bind v_5 fun a_6 =>
  (m_st g_4 a_6 0 x1 x2).bind fun g_7 =>
  (m_gI g_7 a0 8 10).bind fun v_8 =>
  (m_pI g_7 a0 8 10 (v_8 + 1)).bind fun g_9 =>
  (m_gR g_9 a0 8 9).bind fun v_10 =>
  (m_gI g_9 a0 8 10).bind fun v_11 =>
  Option.bind v_10 fun a_12 =>
  (m_st g_9 a_12 0 x1 v_11).bind fun g_13 =>
  (m_gR g_13 a0 8 13).bind fun v_14 =>
  Option.bind v_14 fun a_15 =>
  (m_st g_13 a_15 0 x1 0).bind fun g_16 =>
  (m_gR g_16 a0 8 14).bind fun v_17 =>
  Option.bind v_17 fun a_18 =>
  (m_st g_16 a_18 0 x1 0).bind fun g_19 =>
  (m_gR g_19 a0 8 15).bind fun v_20 =>
  Option.bind v_20 fun a_21 =>
  (m_st g_19 a_21 0 x1 0).bind fun g_22 =>
  (m_gR g_22 a0 8 12).bind fun v_23 =>
  Option.bind v_23 fun a_24 =>
  (m_st g_22 a_24 0 x1 0).bind fun g_25 =>
  m_gd (m_is g_25 a0 8) <|
  m_bd (f_Mod_header g_25 a0 0 x3 114) fun v_27 g_26 =>
  m_gd (m_is g_26 a0 8) <|
  m_bd (f_Mod_header g_26 a0 0 x3 115) fun v_29 g_28 =>
  m_gd (m_is g_28 a0 8) <|
  m_bd (f_Mod_header g_28 a0 0 x3 102) fun v_31 g_30 =>
  if (v_27 : Int32) < 0 then
    f_Mod_fill_109 g_30 a0 x3 v_29 v_31
  else
    m_gd (m_is g_30 a0 8) <|
    m_bd (f_Mod_readReferences g_30 a0 x1 v_27) fun v_34 g_33 =>
    f_Mod_fill_109 g_33 a0 x3 v_29 v_31
set_option maxHeartbeats 1000000 in
set_option maxRecDepth 100000 in
theorem c_Mod_fill (l : Launch) (D : va_G) (B : Nat) (K : Nat → ClassId)  (n : Nat) (g : m_G) (a0 : Nat) (x1 : Int32) (x2 : Int32) (x3 : Int32) (r : Unit) (g' : m_G) (hF : f_Mod_fill g a0 x1 x2 x3 = some (r, g')) : Met l y_Mod_fill (Cond.code y_Mod_fill b_Mod_fill 7 none :: m_TB) ({ frames := 4, cells := 0, slots := 0, locals := 104 } : Room) (m_Pc D B K n g [.ref (B + a0), .int x1, .int x2, .int x3]) (m_Q D B K none n g') 0 0 (fun q => B ≤ q) := by
  refine m_met (by decide) (Nat.le_of_ble_eq_true rfl) ?_
  intro p e s m args below meth c ls E hr hlk hin hsz S hl
  have E : m_V p m c b_Mod_fill 7 s args R_Mod D K := E
  have hz : s.heap.size + 0 = B + n := hsz
  have hl : lv_has ls 7 [(0, .ref (B + a0)), (1, .int x1), (2, .int x2), (3, .int x3)] := hl
  have hx := E.1.1
  have hb := E.1.2.1
  have hts := E.1.2.2.2.2
  unfold f_Mod_fill at hF
  refine lv_aload_n hx hb d_Mod_fill_0 rfl (lv_at hl 0 rfl) ?_
  refine lv_iload_n hx hb d_Mod_fill_1 rfl (lv_at hl 1 rfl) ?_
  replace hF := Option.bind_eq_some_iff.mp hF
  obtain ⟨g_1, eg_1, hF⟩ := hF
  refine m_putI (B := B) (a := a0) E S fd_Mod_target (Or.inl qw_311) eg_1 d_Mod_fill_2 (fun H locs S => ?_)
  refine lv_aload_n hx hb d_Mod_fill_5 rfl (lv_at hl 0 rfl) ?_
  replace hF := Option.bind_eq_some_iff.mp hF
  obtain ⟨v_2, ev_2, hF⟩ := hF
  refine m_getR (B := B) (a := a0) E S fd_Mod_there (Or.inl qw_289) ev_2 d_Mod_fill_6 ?_
  refine lv_iload_n hx hb d_Mod_fill_9 rfl (lv_at hl 1 rfl) ?_
  refine lv_iconst (v := 1) hx hb d_Mod_fill_10 (by decide) ?_
  replace hF := Option.bind_eq_some_iff.mp hF
  obtain ⟨a_3, ea_3, hF⟩ := hF
  subst ea_3
  replace hF := Option.bind_eq_some_iff.mp hF
  obtain ⟨g_4, eg_4, hF⟩ := hF
  refine m_zast (B := B) (a := a_3) (t := 3) E S rfl eg_4 d_Mod_fill_11 (fun H locs S => ?_)
  refine lv_aload_n hx hb d_Mod_fill_12 rfl (lv_at hl 0 rfl) ?_
  replace hF := Option.bind_eq_some_iff.mp hF
  obtain ⟨v_5, ev_5, hF⟩ := hF
  refine m_getR (B := B) (a := a0) E S fd_Mod_ids (Or.inl qw_290) ev_5 d_Mod_fill_13 ?_
  refine lv_iload_n hx hb d_Mod_fill_16 rfl (lv_at hl 1 rfl) ?_
  refine lv_iload_n hx hb d_Mod_fill_17 rfl (lv_at hl 2 rfl) ?_
  replace hF := Option.bind_eq_some_iff.mp hF
  obtain ⟨a_6, ea_6, hF⟩ := hF
  subst ea_6
  replace hF := Option.bind_eq_some_iff.mp hF
  obtain ⟨g_7, eg_7, hF⟩ := hF
  refine m_iast (B := B) (a := a_6) (t := 0) E S rfl eg_7 d_Mod_fill_18 (fun H locs S => ?_)
  refine lv_aload_n hx hb d_Mod_fill_19 rfl (lv_at hl 0 rfl) ?_
  refine lv_dup hx hb d_Mod_fill_20 rfl ?_
  replace hF := Option.bind_eq_some_iff.mp hF
  obtain ⟨v_8, ev_8, hF⟩ := hF
  refine m_getI (B := B) (a := a0) E S fd_Mod_added (Or.inl qw_347) ev_8 d_Mod_fill_21 ?_
  refine lv_iconst (v := 1) hx hb d_Mod_fill_24 (by decide) ?_
  refine lv_iadd hx hb d_Mod_fill_25 ?_
  replace hF := Option.bind_eq_some_iff.mp hF
  obtain ⟨g_9, eg_9, hF⟩ := hF
  refine m_putI (B := B) (a := a0) E S fd_Mod_added (Or.inl qw_347) eg_9 d_Mod_fill_26 (fun H locs S => ?_)
  refine lv_aload_n hx hb d_Mod_fill_29 rfl (lv_at hl 0 rfl) ?_
  replace hF := Option.bind_eq_some_iff.mp hF
  obtain ⟨v_10, ev_10, hF⟩ := hF
  refine m_getR (B := B) (a := a0) E S fd_Mod_order (Or.inl qw_291) ev_10 d_Mod_fill_30 ?_
  refine lv_iload_n hx hb d_Mod_fill_33 rfl (lv_at hl 1 rfl) ?_
  refine lv_aload_n hx hb d_Mod_fill_34 rfl (lv_at hl 0 rfl) ?_
  replace hF := Option.bind_eq_some_iff.mp hF
  obtain ⟨v_11, ev_11, hF⟩ := hF
  refine m_getI (B := B) (a := a0) E S fd_Mod_added (Or.inl qw_347) ev_11 d_Mod_fill_35 ?_
  replace hF := Option.bind_eq_some_iff.mp hF
  obtain ⟨a_12, ea_12, hF⟩ := hF
  subst ea_12
  replace hF := Option.bind_eq_some_iff.mp hF
  obtain ⟨g_13, eg_13, hF⟩ := hF
  refine m_iast (B := B) (a := a_12) (t := 0) E S rfl eg_13 d_Mod_fill_38 (fun H locs S => ?_)
  refine lv_aload_n hx hb d_Mod_fill_39 rfl (lv_at hl 0 rfl) ?_
  replace hF := Option.bind_eq_some_iff.mp hF
  obtain ⟨v_14, ev_14, hF⟩ := hF
  refine m_getR (B := B) (a := a0) E S fd_Mod_tags (Or.inl qw_294) ev_14 d_Mod_fill_40 ?_
  refine lv_iload_n hx hb d_Mod_fill_43 rfl (lv_at hl 1 rfl) ?_
  refine lv_iconst (v := 0) hx hb d_Mod_fill_44 (by decide) ?_
  replace hF := Option.bind_eq_some_iff.mp hF
  obtain ⟨a_15, ea_15, hF⟩ := hF
  subst ea_15
  replace hF := Option.bind_eq_some_iff.mp hF
  obtain ⟨g_16, eg_16, hF⟩ := hF
  refine m_iast (B := B) (a := a_15) (t := 0) E S rfl eg_16 d_Mod_fill_45 (fun H locs S => ?_)
  refine lv_aload_n hx hb d_Mod_fill_46 rfl (lv_at hl 0 rfl) ?_
  replace hF := Option.bind_eq_some_iff.mp hF
  obtain ⟨v_17, ev_17, hF⟩ := hF
  refine m_getR (B := B) (a := a0) E S fd_Mod_leaves (Or.inl qw_295) ev_17 d_Mod_fill_47 ?_
  refine lv_iload_n hx hb d_Mod_fill_50 rfl (lv_at hl 1 rfl) ?_
  refine lv_iconst (v := 0) hx hb d_Mod_fill_51 (by decide) ?_
  replace hF := Option.bind_eq_some_iff.mp hF
  obtain ⟨a_18, ea_18, hF⟩ := hF
  subst ea_18
  replace hF := Option.bind_eq_some_iff.mp hF
  obtain ⟨g_19, eg_19, hF⟩ := hF
  refine m_iast (B := B) (a := a_18) (t := 0) E S rfl eg_19 d_Mod_fill_52 (fun H locs S => ?_)
  refine lv_aload_n hx hb d_Mod_fill_53 rfl (lv_at hl 0 rfl) ?_
  replace hF := Option.bind_eq_some_iff.mp hF
  obtain ⟨v_20, ev_20, hF⟩ := hF
  refine m_getR (B := B) (a := a0) E S fd_Mod_words (Or.inl qw_296) ev_20 d_Mod_fill_54 ?_
  refine lv_iload_n hx hb d_Mod_fill_57 rfl (lv_at hl 1 rfl) ?_
  refine lv_iconst (v := 0) hx hb d_Mod_fill_58 (by decide) ?_
  replace hF := Option.bind_eq_some_iff.mp hF
  obtain ⟨a_21, ea_21, hF⟩ := hF
  subst ea_21
  replace hF := Option.bind_eq_some_iff.mp hF
  obtain ⟨g_22, eg_22, hF⟩ := hF
  refine m_iast (B := B) (a := a_21) (t := 0) E S rfl eg_22 d_Mod_fill_59 (fun H locs S => ?_)
  refine lv_aload_n hx hb d_Mod_fill_60 rfl (lv_at hl 0 rfl) ?_
  replace hF := Option.bind_eq_some_iff.mp hF
  obtain ⟨v_23, ev_23, hF⟩ := hF
  refine m_getR (B := B) (a := a0) E S fd_Mod_referenceCount (Or.inl qw_293) ev_23 d_Mod_fill_61 ?_
  refine lv_iload_n hx hb d_Mod_fill_64 rfl (lv_at hl 1 rfl) ?_
  refine lv_iconst (v := 0) hx hb d_Mod_fill_65 (by decide) ?_
  replace hF := Option.bind_eq_some_iff.mp hF
  obtain ⟨a_24, ea_24, hF⟩ := hF
  subst ea_24
  replace hF := Option.bind_eq_some_iff.mp hF
  obtain ⟨g_25, eg_25, hF⟩ := hF
  refine m_iast (B := B) (a := a_24) (t := 0) E S rfl eg_25 d_Mod_fill_66 (fun H locs S => ?_)
  refine lv_aload_n hx hb d_Mod_fill_67 rfl (lv_at hl 0 rfl) ?_
  refine lv_iconst (v := 0) hx hb d_Mod_fill_68 (by decide) ?_
  refine lv_iload_n hx hb d_Mod_fill_69 rfl (lv_at hl 3 rfl) ?_
  refine lv_bipush (v := 114) hx hb d_Mod_fill_70 (by decide) ?_
  replace hF := m_gd_inv hF
  obtain ⟨eog_26, hF⟩ := hF
  replace hF := m_bd_inv hF
  obtain ⟨v_27, g_26, eg_26, hF⟩ := hF
  refine m_callV (B := B) (nn := 3) (b := a0) (As := [.int 0, .int x3, .int 114]) (rest := []) (v := (some (.int v_27))) E S hz (c_Mod_header l D B K n g_25 a0 0 x3 114 v_27 g_26 eg_26) qc_Mod_header ⟨rfl, rfl⟩ (Or.inl qw_326) qw_327 qw_328 qw_304 (by decide +kernel) ⟨Nat.le_of_ble_eq_true rfl, Nat.le_of_ble_eq_true rfl⟩ eog_26 rfl rfl hl.1 (Nat.le_of_ble_eq_true rfl) d_Mod_fill_72 ⟨Nat.le_of_ble_eq_true rfl, Nat.le_of_ble_eq_true rfl⟩ (fun H locs S => ?_)
  refine W.eq (g2 := F0 m 75 ls [.int v_27]) rfl ?_
  refine lv_istore (lv' := [(4, .int v_27), (0, .ref (B + a0)), (1, .int x1), (2, .int x2), (3, .int x3)]) hx hb d_Mod_fill_75 hl (by decide) rfl (fun ls hl => ?_)
  refine lv_aload_n hx hb d_Mod_fill_77 rfl (lv_at hl 1 rfl) ?_
  refine lv_iconst (v := 0) hx hb d_Mod_fill_78 (by decide) ?_
  refine lv_iload_n hx hb d_Mod_fill_79 rfl (lv_at hl 4 rfl) ?_
  refine lv_bipush (v := 115) hx hb d_Mod_fill_80 (by decide) ?_
  replace hF := m_gd_inv hF
  obtain ⟨eog_28, hF⟩ := hF
  replace hF := m_bd_inv hF
  obtain ⟨v_29, g_28, eg_28, hF⟩ := hF
  refine m_callV (B := B) (nn := 3) (b := a0) (As := [.int 0, .int x3, .int 115]) (rest := []) (v := (some (.int v_29))) E S hz (c_Mod_header l D B K n g_26 a0 0 x3 115 v_29 g_28 eg_28) qc_Mod_header ⟨rfl, rfl⟩ (Or.inl qw_326) qw_327 qw_328 qw_304 (by decide +kernel) ⟨Nat.le_of_ble_eq_true rfl, Nat.le_of_ble_eq_true rfl⟩ eog_28 rfl rfl hl.1 (Nat.le_of_ble_eq_true rfl) d_Mod_fill_82 ⟨Nat.le_of_ble_eq_true rfl, Nat.le_of_ble_eq_true rfl⟩ (fun H locs S => ?_)
  refine W.eq (g2 := F0 m 85 ls [.int v_29]) rfl ?_
  refine lv_istore (lv' := [(5, .int v_29), (4, .int v_27), (0, .ref (B + a0)), (1, .int x1), (2, .int x2), (3, .int x3)]) hx hb d_Mod_fill_85 hl (by decide) rfl (fun ls hl => ?_)
  refine lv_aload_n hx hb d_Mod_fill_87 rfl (lv_at hl 2 rfl) ?_
  refine lv_iconst (v := 0) hx hb d_Mod_fill_88 (by decide) ?_
  refine lv_iload_n hx hb d_Mod_fill_89 rfl (lv_at hl 5 rfl) ?_
  refine lv_bipush (v := 102) hx hb d_Mod_fill_90 (by decide) ?_
  replace hF := m_gd_inv hF
  obtain ⟨eog_30, hF⟩ := hF
  replace hF := m_bd_inv hF
  obtain ⟨v_31, g_30, eg_30, hF⟩ := hF
  refine m_callV (B := B) (nn := 3) (b := a0) (As := [.int 0, .int x3, .int 102]) (rest := []) (v := (some (.int v_31))) E S hz (c_Mod_header l D B K n g_28 a0 0 x3 102 v_31 g_30 eg_30) qc_Mod_header ⟨rfl, rfl⟩ (Or.inl qw_326) qw_327 qw_328 qw_304 (by decide +kernel) ⟨Nat.le_of_ble_eq_true rfl, Nat.le_of_ble_eq_true rfl⟩ eog_30 rfl rfl hl.1 (Nat.le_of_ble_eq_true rfl) d_Mod_fill_92 ⟨Nat.le_of_ble_eq_true rfl, Nat.le_of_ble_eq_true rfl⟩ (fun H locs S => ?_)
  refine W.eq (g2 := F0 m 95 ls [.int v_31]) rfl ?_
  refine lv_istore (lv' := [(6, .int v_31), (5, .int v_29), (4, .int v_27), (0, .ref (B + a0)), (1, .int x1), (2, .int x2), (3, .int x3)]) hx hb d_Mod_fill_95 hl (by decide) rfl (fun ls hl => ?_)
  refine lv_iload hx hb d_Mod_fill_97 (lv_at hl 2 rfl) ?_
  refine lv_if_lt (tgt := 109) hx hb d_Mod_fill_99 (by decide) (fun c_32 => ?_) (fun c_32 => ?_)
  · rw [if_pos c_32] at hF
    exact c_Mod_fill_109 E hr hlk hz _ _ _ _ _ _ _ hF _ _ S _ (lv_sub hl [3, 6, 1, 0] rfl)
  · rw [if_neg c_32] at hF
    refine lv_aload_n hx hb d_Mod_fill_102 rfl (lv_at hl 3 rfl) ?_
    refine lv_iload_n hx hb d_Mod_fill_103 rfl (lv_at hl 4 rfl) ?_
    refine lv_iload hx hb d_Mod_fill_104 (lv_at hl 2 rfl) ?_
    replace hF := m_gd_inv hF
    obtain ⟨eog_33, hF⟩ := hF
    replace hF := m_bd_inv hF
    obtain ⟨v_34, g_33, eg_33, hF⟩ := hF
    refine m_callV (B := B) (nn := 2) (b := a0) (As := [.int x1, .int v_27]) (rest := []) (v := none) E S hz (c_Mod_readReferences l D B K n g_30 a0 x1 v_27 v_34 g_33 eg_33) qc_Mod_readReferences ⟨rfl, rfl⟩ (Or.inl qw_348) qw_349 qw_350 qw_304 (by decide +kernel) ⟨Nat.le_of_ble_eq_true rfl, Nat.le_of_ble_eq_true rfl⟩ eog_33 rfl rfl hl.1 (Nat.le_of_ble_eq_true rfl) d_Mod_fill_106 ⟨Nat.le_of_ble_eq_true rfl, Nat.le_of_ble_eq_true rfl⟩ (fun H locs S => ?_)
    refine W.eq (g2 := F0 m 109 ls []) rfl ?_
    exact c_Mod_fill_109 E hr hlk hz _ _ _ _ _ _ _ hF _ _ S _ (lv_sub hl [3, 6, 1, 0] rfl)
section S_Mod_add
variable {p : Program} {l : Launch} {e : Env} {s : State} {m : MethodId} {args : Array Value} {below : List Frame} {meth : Method} {c : Code} {D : va_G} {B n : Nat} {K : Nat → ClassId}
def f_Mod_add_97  (k_55 : m_G → Nat → Int32 → Int32 → Int32 → Int32 → Option (Int32 × m_G)) (g : m_G) (a0 : Nat) (x1 : Int32) (x3 : Int32) (x4 : Int32) (x5 : Int32) : Option (Int32 × m_G) :=
  k_55 g a0 x1 x3 x4 (x5 + (-1))
set_option maxHeartbeats 1000000 in
set_option maxRecDepth 100000 in
theorem c_Mod_add_97 (E : m_V p m c b_Mod_add 6 s args R_Mod D K) (hr : meth.sig.returnType = (some .int)) (hlk : meth.locks = false) (hz : s.heap.size + 0 = B + n)  (k_55 : m_G → Nat → Int32 → Int32 → Int32 → Int32 → Option (Int32 × m_G)) (hk_55 : ∀ (g : m_G) (a0 : Nat) (x1 : Int32) (x3 : Int32) (x4 : Int32) (x5 : Int32) (r : Int32) (g' : m_G), k_55 g a0 x1 x3 x4 x5 = some (r, g') → ∀ (H : Heap) (locs : List Loc), m_S D B K n g s.heap H locs → ∀ ls : Array Slot, lv_has ls 6 [(0, .ref (B + a0)), (1, .int x1), (3, .int x3), (4, .int x4), (5, .int x5)] → W p l e ({ frames := 5, cells := 0, slots := 0, locals := 130 } : Room) s m args below meth c H locs 0 0 (MQ below (m_Q D B K (some (.int r)) n g') args s 0 0 (fun q => B ≤ q)) (F0 m 55 ls [])) : ∀ (g : m_G) (a0 : Nat) (x1 : Int32) (x3 : Int32) (x4 : Int32) (x5 : Int32) (r : Int32) (g' : m_G), f_Mod_add_97 k_55 g a0 x1 x3 x4 x5 = some (r, g') → ∀ (H : Heap) (locs : List Loc), m_S D B K n g s.heap H locs → ∀ ls : Array Slot, lv_has ls 6 [(0, .ref (B + a0)), (1, .int x1), (3, .int x3), (4, .int x4), (5, .int x5)] → W p l e ({ frames := 5, cells := 0, slots := 0, locals := 130 } : Room) s m args below meth c H locs 0 0 (MQ below (m_Q D B K (some (.int r)) n g') args s 0 0 (fun q => B ≤ q)) (F0 m 97 ls []) := by
  have hx := E.1.1
  have hb := E.1.2.1
  have hts := E.1.2.2.2.2
  intro g a0 x1 x3 x4 x5 r g' hF H locs S ls hl
  unfold f_Mod_add_97 at hF
  refine lv_iinc (v := (x5 + (-1))) (lv' := [(5, .int (x5 + (-1))), (0, .ref (B + a0)), (1, .int x1), (3, .int x3), (4, .int x4)]) hx hb d_Mod_add_97 hl (k := 4) rfl rfl (by decide) rfl (fun ls hl => ?_)
  refine lv_goto (tgt := 55) hx hb d_Mod_add_100 (by decide) ?_
  exact hk_55 _ _ _ _ _ _ _ _ hF _ _ S _ (lv_sub hl [1, 2, 3, 4, 0] rfl)
def f_Mod_add_83  (k_55 : m_G → Nat → Int32 → Int32 → Int32 → Int32 → Option (Int32 × m_G)) (g : m_G) (a0 : Nat) (x1 : Int32) (x3 : Int32) (x4 : Int32) (x5 : Int32) : Option (Int32 × m_G) :=
  (m_gR g a0 8 7).bind fun v_1 =>
  Option.bind v_1 fun a_2 =>
  (m_ld g a_2 3 x5).bind fun v_3 =>
  if (v_3 : Int32) = 0 then
    f_Mod_add_97 k_55 g a0 x1 x3 x5 x5
  else
    f_Mod_add_97 k_55 g a0 x1 x3 x4 x5
set_option maxHeartbeats 1000000 in
set_option maxRecDepth 100000 in
theorem c_Mod_add_83 (E : m_V p m c b_Mod_add 6 s args R_Mod D K) (hr : meth.sig.returnType = (some .int)) (hlk : meth.locks = false) (hz : s.heap.size + 0 = B + n)  (k_55 : m_G → Nat → Int32 → Int32 → Int32 → Int32 → Option (Int32 × m_G)) (hk_55 : ∀ (g : m_G) (a0 : Nat) (x1 : Int32) (x3 : Int32) (x4 : Int32) (x5 : Int32) (r : Int32) (g' : m_G), k_55 g a0 x1 x3 x4 x5 = some (r, g') → ∀ (H : Heap) (locs : List Loc), m_S D B K n g s.heap H locs → ∀ ls : Array Slot, lv_has ls 6 [(0, .ref (B + a0)), (1, .int x1), (3, .int x3), (4, .int x4), (5, .int x5)] → W p l e ({ frames := 5, cells := 0, slots := 0, locals := 130 } : Room) s m args below meth c H locs 0 0 (MQ below (m_Q D B K (some (.int r)) n g') args s 0 0 (fun q => B ≤ q)) (F0 m 55 ls [])) : ∀ (g : m_G) (a0 : Nat) (x1 : Int32) (x3 : Int32) (x4 : Int32) (x5 : Int32) (r : Int32) (g' : m_G), f_Mod_add_83 k_55 g a0 x1 x3 x4 x5 = some (r, g') → ∀ (H : Heap) (locs : List Loc), m_S D B K n g s.heap H locs → ∀ ls : Array Slot, lv_has ls 6 [(0, .ref (B + a0)), (1, .int x1), (3, .int x3), (4, .int x4), (5, .int x5)] → W p l e ({ frames := 5, cells := 0, slots := 0, locals := 130 } : Room) s m args below meth c H locs 0 0 (MQ below (m_Q D B K (some (.int r)) n g') args s 0 0 (fun q => B ≤ q)) (F0 m 83 ls []) := by
  have hx := E.1.1
  have hb := E.1.2.1
  have hts := E.1.2.2.2.2
  intro g a0 x1 x3 x4 x5 r g' hF H locs S ls hl
  unfold f_Mod_add_83 at hF
  refine lv_aload_n hx hb d_Mod_add_83 rfl (lv_at hl 0 rfl) ?_
  replace hF := Option.bind_eq_some_iff.mp hF
  obtain ⟨v_1, ev_1, hF⟩ := hF
  refine m_getR (B := B) (a := a0) E S fd_Mod_there (Or.inl qw_289) ev_1 d_Mod_add_84 ?_
  refine lv_iload hx hb d_Mod_add_87 (lv_at hl 4 rfl) ?_
  replace hF := Option.bind_eq_some_iff.mp hF
  obtain ⟨a_2, ea_2, hF⟩ := hF
  subst ea_2
  replace hF := Option.bind_eq_some_iff.mp hF
  obtain ⟨v_3, ev_3, hF⟩ := hF
  refine m_zald (B := B) (a := a_2) (t := 3) E S rfl ev_3 d_Mod_add_89 ?_
  refine lv_if_ne (tgt := 97) hx hb d_Mod_add_90 (by decide) (fun c_4 => ?_) (fun c_4 => ?_)
  · rw [if_neg c_4] at hF
    exact c_Mod_add_97 E hr hlk hz k_55 hk_55 _ _ _ _ _ _ _ _ hF _ _ S _ (lv_sub hl [0, 1, 2, 3, 4] rfl)
  · rw [if_pos c_4] at hF
    refine lv_iload hx hb d_Mod_add_93 (lv_at hl 4 rfl) ?_
    refine lv_istore (lv' := [(4, .int x5), (0, .ref (B + a0)), (1, .int x1), (3, .int x3), (5, .int x5)]) hx hb d_Mod_add_95 hl (by decide) rfl (fun ls hl => ?_)
    exact c_Mod_add_97 E hr hlk hz k_55 hk_55 _ _ _ _ _ _ _ _ hF _ _ S _ (lv_sub hl [1, 2, 3, 0, 4] rfl)
def f_Mod_add_55   : Nat → m_G → Nat → Int32 → Int32 → Int32 → Int32 → Option (Int32 × m_G)
  | 0, _, _, _, _, _, _ => none
  | fu + 1, g, a0, x1, x3, x4, x5 =>
    if (x5 : Int32) < 0 then
      if (x4 : Int32) = 12 then
        some ((-2), g)
      else
        m_gd (m_is g a0 8) <|
        m_bd (f_Mod_fill g a0 x4 x3 x1) fun v_4 g_3 =>
        some (x4, g_3)
    else
      (m_gR g a0 8 7).bind fun v_5 =>
      Option.bind v_5 fun a_6 =>
      (m_ld g a_6 3 x5).bind fun v_7 =>
      if (v_7 : Int32) = 0 then
        f_Mod_add_83 (f_Mod_add_55 fu) g a0 x1 x3 x4 x5
      else
        (m_gR g a0 8 8).bind fun v_9 =>
        Option.bind v_9 fun a_10 =>
        (m_ld g a_10 0 x5).bind fun v_11 =>
        if (v_11 : Int32) = x3 then
          some ((-1), g)
        else
          f_Mod_add_83 (f_Mod_add_55 fu) g a0 x1 x3 x4 x5
set_option maxHeartbeats 1000000 in
set_option maxRecDepth 100000 in
theorem c_Mod_add_55 (E : m_V p m c b_Mod_add 6 s args R_Mod D K) (hr : meth.sig.returnType = (some .int)) (hlk : meth.locks = false) (hz : s.heap.size + 0 = B + n)   : ∀ fu : Nat, ∀ (g : m_G) (a0 : Nat) (x1 : Int32) (x3 : Int32) (x4 : Int32) (x5 : Int32) (r : Int32) (g' : m_G), f_Mod_add_55  fu g a0 x1 x3 x4 x5 = some (r, g') → ∀ (H : Heap) (locs : List Loc), m_S D B K n g s.heap H locs → ∀ ls : Array Slot, lv_has ls 6 [(0, .ref (B + a0)), (1, .int x1), (3, .int x3), (4, .int x4), (5, .int x5)] → W p l e ({ frames := 5, cells := 0, slots := 0, locals := 130 } : Room) s m args below meth c H locs 0 0 (MQ below (m_Q D B K (some (.int r)) n g') args s 0 0 (fun q => B ≤ q)) (F0 m 55 ls []) := by
  have hx := E.1.1
  have hb := E.1.2.1
  have hts := E.1.2.2.2.2
  intro fu
  induction fu with
  | zero => intro g a0 x1 x3 x4 x5 r g' hF; cases hF
  | succ fu ih =>
    intro g a0 x1 x3 x4 x5 r g' hF H locs S ls hl
    rw [f_Mod_add_55] at hF
    refine lv_iload hx hb d_Mod_add_55 (lv_at hl 4 rfl) ?_
    refine lv_if_lt (tgt := 103) hx hb d_Mod_add_57 (by decide) (fun c_1 => ?_) (fun c_1 => ?_)
    · rw [if_pos c_1] at hF
      refine lv_iload hx hb d_Mod_add_103 (lv_at hl 3 rfl) ?_
      refine lv_bipush (v := 12) hx hb d_Mod_add_105 (by decide) ?_
      refine lv_icmp_ne (tgt := 113) hx hb d_Mod_add_107 (by decide) (fun c_2 => ?_) (fun c_2 => ?_)
      · rw [if_neg c_2] at hF
        refine lv_aload_n hx hb d_Mod_add_113 rfl (lv_at hl 0 rfl) ?_
        refine lv_iload hx hb d_Mod_add_114 (lv_at hl 3 rfl) ?_
        refine lv_iload_n hx hb d_Mod_add_116 rfl (lv_at hl 2 rfl) ?_
        refine lv_iload_n hx hb d_Mod_add_117 rfl (lv_at hl 1 rfl) ?_
        replace hF := m_gd_inv hF
        obtain ⟨eog_3, hF⟩ := hF
        replace hF := m_bd_inv hF
        obtain ⟨v_4, g_3, eg_3, hF⟩ := hF
        refine m_callV (B := B) (nn := 3) (b := a0) (As := [.int x4, .int x3, .int x1]) (rest := []) (v := none) E S hz (c_Mod_fill l D B K n g a0 x4 x3 x1 v_4 g_3 eg_3) qc_Mod_fill ⟨rfl, rfl⟩ (Or.inl qw_354) qw_355 qw_356 qw_304 (by decide +kernel) ⟨Nat.le_of_ble_eq_true rfl, Nat.le_of_ble_eq_true rfl⟩ eog_3 rfl rfl hl.1 (Nat.le_of_ble_eq_true rfl) d_Mod_add_118 ⟨Nat.le_of_ble_eq_true rfl, Nat.le_of_ble_eq_true rfl⟩ (fun H locs S => ?_)
        refine W.eq (g2 := F0 m 121 ls []) rfl ?_
        refine lv_iload hx hb d_Mod_add_121 (lv_at hl 3 rfl) ?_
        cases hF
        exact m_iret E S hz hr hlk d_Mod_add_123
      · rw [if_pos c_2] at hF
        refine lv_bipush (v := (-2)) hx hb d_Mod_add_110 (by decide) ?_
        cases hF
        exact m_iret E S hz hr hlk d_Mod_add_112
    · rw [if_neg c_1] at hF
      refine lv_aload_n hx hb d_Mod_add_60 rfl (lv_at hl 0 rfl) ?_
      replace hF := Option.bind_eq_some_iff.mp hF
      obtain ⟨v_5, ev_5, hF⟩ := hF
      refine m_getR (B := B) (a := a0) E S fd_Mod_there (Or.inl qw_289) ev_5 d_Mod_add_61 ?_
      refine lv_iload hx hb d_Mod_add_64 (lv_at hl 4 rfl) ?_
      replace hF := Option.bind_eq_some_iff.mp hF
      obtain ⟨a_6, ea_6, hF⟩ := hF
      subst ea_6
      replace hF := Option.bind_eq_some_iff.mp hF
      obtain ⟨v_7, ev_7, hF⟩ := hF
      refine m_zald (B := B) (a := a_6) (t := 3) E S rfl ev_7 d_Mod_add_66 ?_
      refine lv_if_eq (tgt := 83) hx hb d_Mod_add_67 (by decide) (fun c_8 => ?_) (fun c_8 => ?_)
      · rw [if_pos c_8] at hF
        exact c_Mod_add_83 E hr hlk hz (f_Mod_add_55 fu) ih _ _ _ _ _ _ _ _ hF _ _ S _ (lv_sub hl [0, 1, 2, 3, 4] rfl)
      · rw [if_neg c_8] at hF
        refine lv_aload_n hx hb d_Mod_add_70 rfl (lv_at hl 0 rfl) ?_
        replace hF := Option.bind_eq_some_iff.mp hF
        obtain ⟨v_9, ev_9, hF⟩ := hF
        refine m_getR (B := B) (a := a0) E S fd_Mod_ids (Or.inl qw_290) ev_9 d_Mod_add_71 ?_
        refine lv_iload hx hb d_Mod_add_74 (lv_at hl 4 rfl) ?_
        replace hF := Option.bind_eq_some_iff.mp hF
        obtain ⟨a_10, ea_10, hF⟩ := hF
        subst ea_10
        replace hF := Option.bind_eq_some_iff.mp hF
        obtain ⟨v_11, ev_11, hF⟩ := hF
        refine m_iald (B := B) (a := a_10) (t := 0) E S rfl ev_11 d_Mod_add_76 ?_
        refine lv_iload_n hx hb d_Mod_add_77 rfl (lv_at hl 2 rfl) ?_
        refine lv_icmp_ne (tgt := 83) hx hb d_Mod_add_78 (by decide) (fun c_12 => ?_) (fun c_12 => ?_)
        · rw [if_neg c_12] at hF
          exact c_Mod_add_83 E hr hlk hz (f_Mod_add_55 fu) ih _ _ _ _ _ _ _ _ hF _ _ S _ (lv_sub hl [0, 1, 2, 3, 4] rfl)
        · rw [if_pos c_12] at hF
          refine lv_iconst (v := (-1)) hx hb d_Mod_add_81 (by decide) ?_
          cases hF
          exact m_iret E S hz hr hlk d_Mod_add_82
def f_Mod_add_39   (g : m_G) (a0 : Nat) (x1 : Int32) (y0 : Int32) : Option (Int32 × m_G) :=
  if (0 : Int32) ≤ y0 then
    f_Mod_add_55 m_fu g a0 x1 y0 12 11
  else
    some ((-3), g)
set_option maxHeartbeats 1000000 in
set_option maxRecDepth 100000 in
theorem c_Mod_add_39 (E : m_V p m c b_Mod_add 6 s args R_Mod D K) (hr : meth.sig.returnType = (some .int)) (hlk : meth.locks = false) (hz : s.heap.size + 0 = B + n)   : ∀ (g : m_G) (a0 : Nat) (x1 : Int32) (y0 : Int32) (r : Int32) (g' : m_G), f_Mod_add_39 g a0 x1 y0 = some (r, g') → ∀ (H : Heap) (locs : List Loc), m_S D B K n g s.heap H locs → ∀ ls : Array Slot, lv_has ls 6 [(0, .ref (B + a0)), (1, .int x1)] → W p l e ({ frames := 5, cells := 0, slots := 0, locals := 130 } : Room) s m args below meth c H locs 0 0 (MQ below (m_Q D B K (some (.int r)) n g') args s 0 0 (fun q => B ≤ q)) (F0 m 39 ls [.int y0]) := by
  have hx := E.1.1
  have hb := E.1.2.1
  have hts := E.1.2.2.2.2
  intro g a0 x1 y0 r g' hF H locs S ls hl
  unfold f_Mod_add_39 at hF
  refine lv_istore_n (lv' := [(3, .int y0), (0, .ref (B + a0)), (1, .int x1)]) hx hb d_Mod_add_39 rfl hl (by decide) rfl (fun ls hl => ?_)
  refine lv_iload_n hx hb d_Mod_add_40 rfl (lv_at hl 0 rfl) ?_
  refine lv_if_ge (tgt := 47) hx hb d_Mod_add_41 (by decide) (fun c_1 => ?_) (fun c_1 => ?_)
  · rw [if_pos c_1] at hF
    refine lv_bipush (v := 12) hx hb d_Mod_add_47 (by decide) ?_
    refine lv_istore (lv' := [(4, .int 12), (3, .int y0), (0, .ref (B + a0)), (1, .int x1)]) hx hb d_Mod_add_49 hl (by decide) rfl (fun ls hl => ?_)
    refine lv_bipush (v := 11) hx hb d_Mod_add_51 (by decide) ?_
    refine lv_istore (lv' := [(5, .int 11), (4, .int 12), (3, .int y0), (0, .ref (B + a0)), (1, .int x1)]) hx hb d_Mod_add_53 hl (by decide) rfl (fun ls hl => ?_)
    exact c_Mod_add_55 E hr hlk hz m_fu _ _ _ _ _ _ _ _ hF _ _ S _ (lv_sub hl [3, 4, 2, 1, 0] rfl)
  · rw [if_neg c_1] at hF
    refine lv_bipush (v := (-3)) hx hb d_Mod_add_44 (by decide) ?_
    cases hF
    exact m_iret E S hz hr hlk d_Mod_add_46
end S_Mod_add
def f_Mod_add  (g : m_G) (a0 : Nat) : Option (Int32 × m_G) :=
  (m_gI g a0 8 2).bind fun v_1 =>
  (m_pI g a0 8 2 0).bind fun g_2 =>
  m_gd (m_is g_2 a0 8) <|
  m_bd (f_Mod_header g_2 a0 0 v_1 105) fun v_4 g_3 =>
  if (0 : Int32) ≤ v_4 then
    (m_gR g_3 a0 8 1).bind fun v_6 =>
    Option.bind v_6 fun a_7 =>
    (m_ld g_3 a_7 0 v_4).bind fun v_8 =>
    m_gd (m_is g_3 a0 8) <|
    m_bd (f_Mod_number g_3 a0 v_4 2 v_8) fun v_10 g_9 =>
    f_Mod_add_39 g_9 a0 v_1 v_10
  else
    f_Mod_add_39 g_3 a0 v_1 (-1)
set_option maxHeartbeats 1000000 in
set_option maxRecDepth 100000 in
theorem c_Mod_add (l : Launch) (D : va_G) (B : Nat) (K : Nat → ClassId)  (n : Nat) (g : m_G) (a0 : Nat) (r : Int32) (g' : m_G) (hF : f_Mod_add g a0 = some (r, g')) : Met l y_Mod_add (Cond.code y_Mod_add b_Mod_add 6 (some .int) :: m_TB) ({ frames := 5, cells := 0, slots := 0, locals := 130 } : Room) (m_Pc D B K n g [.ref (B + a0)]) (m_Q D B K (some (.int r)) n g') 0 0 (fun q => B ≤ q) := by
  refine m_met (by decide) (Nat.le_of_ble_eq_true rfl) ?_
  intro p e s m args below meth c ls E hr hlk hin hsz S hl
  have E : m_V p m c b_Mod_add 6 s args R_Mod D K := E
  have hz : s.heap.size + 0 = B + n := hsz
  have hl : lv_has ls 6 [(0, .ref (B + a0))] := hl
  have hx := E.1.1
  have hb := E.1.2.1
  have hts := E.1.2.2.2.2
  unfold f_Mod_add at hF
  refine lv_aload_n hx hb d_Mod_add_0 rfl (lv_at hl 0 rfl) ?_
  replace hF := Option.bind_eq_some_iff.mp hF
  obtain ⟨v_1, ev_1, hF⟩ := hF
  refine m_getI (B := B) (a := a0) E S fd_Mod_lines (Or.inl qw_306) ev_1 d_Mod_add_1 ?_
  refine lv_istore_n (lv' := [(1, .int v_1), (0, .ref (B + a0))]) hx hb d_Mod_add_4 rfl hl (by decide) rfl (fun ls hl => ?_)
  refine lv_aload_n hx hb d_Mod_add_5 rfl (lv_at hl 1 rfl) ?_
  refine lv_iconst (v := 0) hx hb d_Mod_add_6 (by decide) ?_
  replace hF := Option.bind_eq_some_iff.mp hF
  obtain ⟨g_2, eg_2, hF⟩ := hF
  refine m_putI (B := B) (a := a0) E S fd_Mod_lines (Or.inl qw_306) eg_2 d_Mod_add_7 (fun H locs S => ?_)
  refine lv_aload_n hx hb d_Mod_add_10 rfl (lv_at hl 1 rfl) ?_
  refine lv_iconst (v := 0) hx hb d_Mod_add_11 (by decide) ?_
  refine lv_iload_n hx hb d_Mod_add_12 rfl (lv_at hl 0 rfl) ?_
  refine lv_bipush (v := 105) hx hb d_Mod_add_13 (by decide) ?_
  replace hF := m_gd_inv hF
  obtain ⟨eog_3, hF⟩ := hF
  replace hF := m_bd_inv hF
  obtain ⟨v_4, g_3, eg_3, hF⟩ := hF
  refine m_callV (B := B) (nn := 3) (b := a0) (As := [.int 0, .int v_1, .int 105]) (rest := []) (v := (some (.int v_4))) E S hz (c_Mod_header l D B K n g_2 a0 0 v_1 105 v_4 g_3 eg_3) qc_Mod_header ⟨rfl, rfl⟩ (Or.inl qw_326) qw_327 qw_328 qw_304 (by decide +kernel) ⟨Nat.le_of_ble_eq_true rfl, Nat.le_of_ble_eq_true rfl⟩ eog_3 rfl rfl hl.1 (Nat.le_of_ble_eq_true rfl) d_Mod_add_15 ⟨Nat.le_of_ble_eq_true rfl, Nat.le_of_ble_eq_true rfl⟩ (fun H locs S => ?_)
  refine W.eq (g2 := F0 m 18 ls [.int v_4]) rfl ?_
  refine lv_istore_n (lv' := [(2, .int v_4), (1, .int v_1), (0, .ref (B + a0))]) hx hb d_Mod_add_18 rfl hl (by decide) rfl (fun ls hl => ?_)
  refine lv_iload_n hx hb d_Mod_add_19 rfl (lv_at hl 0 rfl) ?_
  refine lv_if_ge (tgt := 27) hx hb d_Mod_add_20 (by decide) (fun c_5 => ?_) (fun c_5 => ?_)
  · rw [if_pos c_5] at hF
    refine lv_aload_n hx hb d_Mod_add_27 rfl (lv_at hl 2 rfl) ?_
    refine lv_iload_n hx hb d_Mod_add_28 rfl (lv_at hl 0 rfl) ?_
    refine lv_iconst (v := 2) hx hb d_Mod_add_29 (by decide) ?_
    refine lv_aload_n hx hb d_Mod_add_30 rfl (lv_at hl 2 rfl) ?_
    replace hF := Option.bind_eq_some_iff.mp hF
    obtain ⟨v_6, ev_6, hF⟩ := hF
    refine m_getR (B := B) (a := a0) E S fd_Mod_lengths (Or.inl qw_285) ev_6 d_Mod_add_31 ?_
    refine lv_iload_n hx hb d_Mod_add_34 rfl (lv_at hl 0 rfl) ?_
    replace hF := Option.bind_eq_some_iff.mp hF
    obtain ⟨a_7, ea_7, hF⟩ := hF
    subst ea_7
    replace hF := Option.bind_eq_some_iff.mp hF
    obtain ⟨v_8, ev_8, hF⟩ := hF
    refine m_iald (B := B) (a := a_7) (t := 0) E S rfl ev_8 d_Mod_add_35 ?_
    replace hF := m_gd_inv hF
    obtain ⟨eog_9, hF⟩ := hF
    replace hF := m_bd_inv hF
    obtain ⟨v_10, g_9, eg_9, hF⟩ := hF
    refine m_callV (B := B) (nn := 3) (b := a0) (As := [.int v_4, .int 2, .int v_8]) (rest := []) (v := (some (.int v_10))) E S hz (c_Mod_number l D B K n g_3 a0 v_4 2 v_8 v_10 g_9 eg_9) qc_Mod_number ⟨rfl, rfl⟩ (Or.inl qw_321) qw_322 qw_323 qw_304 (by decide +kernel) ⟨Nat.le_of_ble_eq_true rfl, Nat.le_of_ble_eq_true rfl⟩ eog_9 rfl rfl hl.1 (Nat.le_of_ble_eq_true rfl) d_Mod_add_36 ⟨Nat.le_of_ble_eq_true rfl, Nat.le_of_ble_eq_true rfl⟩ (fun H locs S => ?_)
    refine W.eq (g2 := F0 m 39 ls [.int v_10]) rfl ?_
    exact c_Mod_add_39 E hr hlk hz _ _ _ _ _ _ hF _ _ S _ (lv_sub hl [2, 1] rfl)
  · rw [if_neg c_5] at hF
    refine lv_iconst (v := (-1)) hx hb d_Mod_add_23 (by decide) ?_
    refine lv_goto (tgt := 39) hx hb d_Mod_add_24 (by decide) ?_
    exact c_Mod_add_39 E hr hlk hz _ _ _ _ _ _ hF _ _ S _ (lv_sub hl [2, 1] rfl)
