section S_Mod_term
variable {p : Program} {l : Launch} {e : Env} {s : State} {m : MethodId} {args : Array Value} {below : List Frame} {meth : Method} {c : Code} {D : va_G} {B n : Nat} {K : Nat → ClassId}
def f_Mod_term_205   (g : m_G) (y0 : Int32) : Option (Int32 × m_G) :=
  some (y0, g)
set_option maxHeartbeats 1000000 in
set_option maxRecDepth 100000 in
theorem c_Mod_term_205 (E : m_V p m c b_Mod_term 9 s args R_Mod D K) (hr : meth.sig.returnType = (some .int)) (hlk : meth.locks = false) (hz : s.heap.size + 0 = B + n)   : ∀ (g : m_G) (y0 : Int32) (r : Int32) (g' : m_G), f_Mod_term_205 g y0 = some (r, g') → ∀ (H : Heap) (locs : List Loc), m_S D B K n g s.heap H locs → ∀ ls : Array Slot, lv_has ls 9 [] → W p l e ({ frames := 3, cells := 0, slots := 0, locals := 79 } : Room) s m args below meth c H locs 0 0 (MQ below (m_Q D B K (some (.int r)) n g') args s 0 0 (fun q => B ≤ q)) (F0 m 205 ls [.int y0]) := by
  have hx := E.1.1
  have hb := E.1.2.1
  have hts := E.1.2.2.2.2
  intro g y0 r g' hF H locs S ls hl
  unfold f_Mod_term_205 at hF
  cases hF
  exact m_iret E S hz hr hlk d_Mod_term_205
def f_Mod_term_177   (g : m_G) (a0 : Nat) (x3 : Int32) (x4 : Int32) (x5 : Int64) (y0 : Int32) : Option (Int32 × m_G) :=
  m_gd (m_is g a0 8) <|
  m_bd (f_Mod_withWord g a0 x5 y0 x4) fun v_2 g_1 =>
  m_gd (m_is g_1 a0 8) <|
  m_bd (f_Mod_one g_1 a0 v_2) fun v_4 g_3 =>
  if (y0 : Int32) = 0 then
    f_Mod_term_205 g_3 x3
  else
    f_Mod_term_205 g_3 (x3 + 1)
set_option maxHeartbeats 1000000 in
set_option maxRecDepth 100000 in
theorem c_Mod_term_177 (E : m_V p m c b_Mod_term 9 s args R_Mod D K) (hr : meth.sig.returnType = (some .int)) (hlk : meth.locks = false) (hz : s.heap.size + 0 = B + n)   : ∀ (g : m_G) (a0 : Nat) (x3 : Int32) (x4 : Int32) (x5 : Int64) (y0 : Int32) (r : Int32) (g' : m_G), f_Mod_term_177 g a0 x3 x4 x5 y0 = some (r, g') → ∀ (H : Heap) (locs : List Loc), m_S D B K n g s.heap H locs → ∀ ls : Array Slot, lv_has ls 9 [(0, .ref (B + a0)), (3, .int x3), (4, .int x4), (5, .long x5)] → W p l e ({ frames := 3, cells := 0, slots := 0, locals := 79 } : Room) s m args below meth c H locs 0 0 (MQ below (m_Q D B K (some (.int r)) n g') args s 0 0 (fun q => B ≤ q)) (F0 m 177 ls [.int y0]) := by
  have hx := E.1.1
  have hb := E.1.2.1
  have hts := E.1.2.2.2.2
  intro g a0 x3 x4 x5 y0 r g' hF H locs S ls hl
  unfold f_Mod_term_177 at hF
  refine lv_istore (lv' := [(8, .int y0), (0, .ref (B + a0)), (3, .int x3), (4, .int x4), (5, .long x5)]) hx hb d_Mod_term_177 hl (by decide) rfl (fun ls hl => ?_)
  refine lv_aload_n hx hb d_Mod_term_179 rfl (lv_at hl 1 rfl) ?_
  refine lv_aload_n hx hb d_Mod_term_180 rfl (lv_at hl 1 rfl) ?_
  refine lv_lload hx hb d_Mod_term_181 (lv_at hl 4 rfl) ?_
  refine lv_iload hx hb d_Mod_term_183 (lv_at hl 0 rfl) ?_
  refine lv_iload hx hb d_Mod_term_185 (lv_at hl 3 rfl) ?_
  replace hF := m_gd_inv hF
  obtain ⟨eog_1, hF⟩ := hF
  replace hF := m_bd_inv hF
  obtain ⟨v_2, g_1, eg_1, hF⟩ := hF
  refine m_callV (B := B) (nn := 3) (b := a0) (As := [.long x5, .int y0, .int x4]) (rest := [.ref (B + a0)]) (v := (some (.int v_2))) E S hz (c_Mod_withWord l D B K n g a0 x5 y0 x4 v_2 g_1 eg_1) qc_Mod_withWord ⟨rfl, rfl⟩ (Or.inl qw_384) qw_385 qw_386 qw_304 (by decide +kernel) ⟨Nat.le_of_ble_eq_true rfl, Nat.le_of_ble_eq_true rfl⟩ eog_1 rfl rfl hl.1 (Nat.le_of_ble_eq_true rfl) d_Mod_term_187 ⟨Nat.le_of_ble_eq_true rfl, Nat.le_of_ble_eq_true rfl⟩ (fun H locs S => ?_)
  refine W.eq (g2 := F0 m 190 ls [.int v_2, .ref (B + a0)]) rfl ?_
  replace hF := m_gd_inv hF
  obtain ⟨eog_3, hF⟩ := hF
  replace hF := m_bd_inv hF
  obtain ⟨v_4, g_3, eg_3, hF⟩ := hF
  refine m_callV (B := B) (nn := 1) (b := a0) (As := [.int v_2]) (rest := []) (v := none) E S hz (c_Mod_one l D B K n g_1 a0 v_2 v_4 g_3 eg_3) qc_Mod_one ⟨rfl, rfl⟩ (Or.inl qw_373) qw_374 qw_375 qw_304 (by decide +kernel) ⟨Nat.le_of_ble_eq_true rfl, Nat.le_of_ble_eq_true rfl⟩ eog_3 rfl rfl hl.1 (Nat.le_of_ble_eq_true rfl) d_Mod_term_190 ⟨Nat.le_of_ble_eq_true rfl, Nat.le_of_ble_eq_true rfl⟩ (fun H locs S => ?_)
  refine W.eq (g2 := F0 m 193 ls []) rfl ?_
  refine lv_iload hx hb d_Mod_term_193 (lv_at hl 0 rfl) ?_
  refine lv_if_eq (tgt := 204) hx hb d_Mod_term_195 (by decide) (fun c_5 => ?_) (fun c_5 => ?_)
  · rw [if_pos c_5] at hF
    refine lv_iload_n hx hb d_Mod_term_204 rfl (lv_at hl 2 rfl) ?_
    exact c_Mod_term_205 E hr hlk hz _ _ _ _ hF _ _ S _ (lv_sub hl [] rfl)
  · rw [if_neg c_5] at hF
    refine lv_iload_n hx hb d_Mod_term_198 rfl (lv_at hl 2 rfl) ?_
    refine lv_iconst (v := 1) hx hb d_Mod_term_199 (by decide) ?_
    refine lv_iadd hx hb d_Mod_term_200 ?_
    refine lv_goto (tgt := 205) hx hb d_Mod_term_201 (by decide) ?_
    exact c_Mod_term_205 E hr hlk hz _ _ _ _ hF _ _ S _ (lv_sub hl [] rfl)
def f_Mod_term_176   (g : m_G) (a0 : Nat) (x3 : Int32) (x4 : Int32) (x5 : Int64) : Option (Int32 × m_G) :=
  f_Mod_term_177 g a0 x3 x4 x5 0
set_option maxHeartbeats 1000000 in
set_option maxRecDepth 100000 in
theorem c_Mod_term_176 (E : m_V p m c b_Mod_term 9 s args R_Mod D K) (hr : meth.sig.returnType = (some .int)) (hlk : meth.locks = false) (hz : s.heap.size + 0 = B + n)   : ∀ (g : m_G) (a0 : Nat) (x3 : Int32) (x4 : Int32) (x5 : Int64) (r : Int32) (g' : m_G), f_Mod_term_176 g a0 x3 x4 x5 = some (r, g') → ∀ (H : Heap) (locs : List Loc), m_S D B K n g s.heap H locs → ∀ ls : Array Slot, lv_has ls 9 [(0, .ref (B + a0)), (3, .int x3), (4, .int x4), (5, .long x5)] → W p l e ({ frames := 3, cells := 0, slots := 0, locals := 79 } : Room) s m args below meth c H locs 0 0 (MQ below (m_Q D B K (some (.int r)) n g') args s 0 0 (fun q => B ≤ q)) (F0 m 176 ls []) := by
  have hx := E.1.1
  have hb := E.1.2.1
  have hts := E.1.2.2.2.2
  intro g a0 x3 x4 x5 r g' hF H locs S ls hl
  unfold f_Mod_term_176 at hF
  refine lv_iconst (v := 0) hx hb d_Mod_term_176 (by decide) ?_
  exact c_Mod_term_177 E hr hlk hz _ _ _ _ _ _ _ _ hF _ _ S _ (lv_sub hl [0, 1, 2, 3] rfl)
def f_Mod_term_155   (g : m_G) (a0 : Nat) (x2 : Int32) (x3 : Int32) (x4 : Int32) (x5 : Int64) : Option (Int32 × m_G) :=
  if (x2 : Int32) ≤ x3 then
    f_Mod_term_176 g a0 x3 x4 x5
  else
    m_gd (m_is g a0 8) <|
    m_bd (f_Mod_at g a0 30 x3) fun v_3 g_2 =>
    if (v_3 : Int32) = 42 then
      f_Mod_term_177 g_2 a0 x3 x4 x5 1
    else
      f_Mod_term_176 g_2 a0 x3 x4 x5
set_option maxHeartbeats 1000000 in
set_option maxRecDepth 100000 in
theorem c_Mod_term_155 (E : m_V p m c b_Mod_term 9 s args R_Mod D K) (hr : meth.sig.returnType = (some .int)) (hlk : meth.locks = false) (hz : s.heap.size + 0 = B + n)   : ∀ (g : m_G) (a0 : Nat) (x2 : Int32) (x3 : Int32) (x4 : Int32) (x5 : Int64) (r : Int32) (g' : m_G), f_Mod_term_155 g a0 x2 x3 x4 x5 = some (r, g') → ∀ (H : Heap) (locs : List Loc), m_S D B K n g s.heap H locs → ∀ ls : Array Slot, lv_has ls 9 [(0, .ref (B + a0)), (2, .int x2), (3, .int x3), (4, .int x4), (5, .long x5)] → W p l e ({ frames := 3, cells := 0, slots := 0, locals := 79 } : Room) s m args below meth c H locs 0 0 (MQ below (m_Q D B K (some (.int r)) n g') args s 0 0 (fun q => B ≤ q)) (F0 m 155 ls []) := by
  have hx := E.1.1
  have hb := E.1.2.1
  have hts := E.1.2.2.2.2
  intro g a0 x2 x3 x4 x5 r g' hF H locs S ls hl
  unfold f_Mod_term_155 at hF
  refine lv_iload_n hx hb d_Mod_term_155 rfl (lv_at hl 2 rfl) ?_
  refine lv_iload_n hx hb d_Mod_term_156 rfl (lv_at hl 1 rfl) ?_
  refine lv_icmp_ge (tgt := 176) hx hb d_Mod_term_157 (by decide) (fun c_1 => ?_) (fun c_1 => ?_)
  · rw [if_pos c_1] at hF
    exact c_Mod_term_176 E hr hlk hz _ _ _ _ _ _ _ hF _ _ S _ (lv_sub hl [0, 2, 3, 4] rfl)
  · rw [if_neg c_1] at hF
    refine lv_aload_n hx hb d_Mod_term_160 rfl (lv_at hl 0 rfl) ?_
    refine lv_bipush (v := 30) hx hb d_Mod_term_161 (by decide) ?_
    refine lv_iload_n hx hb d_Mod_term_163 rfl (lv_at hl 2 rfl) ?_
    replace hF := m_gd_inv hF
    obtain ⟨eog_2, hF⟩ := hF
    replace hF := m_bd_inv hF
    obtain ⟨v_3, g_2, eg_2, hF⟩ := hF
    refine m_callV (B := B) (nn := 2) (b := a0) (As := [.int 30, .int x3]) (rest := []) (v := (some (.int v_3))) E S hz (c_Mod_at l D B K n g a0 30 x3 v_3 g_2 eg_2) qc_Mod_at ⟨rfl, rfl⟩ (Or.inl qw_307) qw_308 qw_309 qw_304 (by decide +kernel) ⟨Nat.le_of_ble_eq_true rfl, Nat.le_of_ble_eq_true rfl⟩ eog_2 rfl rfl hl.1 (Nat.le_of_ble_eq_true rfl) d_Mod_term_164 ⟨Nat.le_of_ble_eq_true rfl, Nat.le_of_ble_eq_true rfl⟩ (fun H locs S => ?_)
    refine W.eq (g2 := F0 m 167 ls [.int v_3]) rfl ?_
    refine lv_bipush (v := 42) hx hb d_Mod_term_167 (by decide) ?_
    refine lv_icmp_ne (tgt := 176) hx hb d_Mod_term_169 (by decide) (fun c_4 => ?_) (fun c_4 => ?_)
    · rw [if_neg c_4] at hF
      exact c_Mod_term_176 E hr hlk hz _ _ _ _ _ _ _ hF _ _ S _ (lv_sub hl [0, 2, 3, 4] rfl)
    · rw [if_pos c_4] at hF
      refine lv_iconst (v := 1) hx hb d_Mod_term_172 (by decide) ?_
      refine lv_goto (tgt := 177) hx hb d_Mod_term_173 (by decide) ?_
      exact c_Mod_term_177 E hr hlk hz _ _ _ _ _ _ _ _ hF _ _ S _ (lv_sub hl [0, 2, 3, 4] rfl)
def f_Mod_term_146  (k_98 : m_G → Nat → Int32 → Int32 → Int32 → Int64 → Int32 → Option (Int32 × m_G)) (g : m_G) (a0 : Nat) (x2 : Int32) (x3 : Int32) (x4 : Int32) (x5 : Int64) (x7 : Int32) : Option (Int32 × m_G) :=
  k_98 g a0 x2 (x3 + 1) x4 x5 (x7 + 1)
set_option maxHeartbeats 1000000 in
set_option maxRecDepth 100000 in
theorem c_Mod_term_146 (E : m_V p m c b_Mod_term 9 s args R_Mod D K) (hr : meth.sig.returnType = (some .int)) (hlk : meth.locks = false) (hz : s.heap.size + 0 = B + n)  (k_98 : m_G → Nat → Int32 → Int32 → Int32 → Int64 → Int32 → Option (Int32 × m_G)) (hk_98 : ∀ (g : m_G) (a0 : Nat) (x2 : Int32) (x3 : Int32) (x4 : Int32) (x5 : Int64) (x7 : Int32) (r : Int32) (g' : m_G), k_98 g a0 x2 x3 x4 x5 x7 = some (r, g') → ∀ (H : Heap) (locs : List Loc), m_S D B K n g s.heap H locs → ∀ ls : Array Slot, lv_has ls 9 [(0, .ref (B + a0)), (2, .int x2), (3, .int x3), (4, .int x4), (5, .long x5), (7, .int x7)] → W p l e ({ frames := 3, cells := 0, slots := 0, locals := 79 } : Room) s m args below meth c H locs 0 0 (MQ below (m_Q D B K (some (.int r)) n g') args s 0 0 (fun q => B ≤ q)) (F0 m 98 ls [])) : ∀ (g : m_G) (a0 : Nat) (x2 : Int32) (x3 : Int32) (x4 : Int32) (x5 : Int64) (x7 : Int32) (r : Int32) (g' : m_G), f_Mod_term_146 k_98 g a0 x2 x3 x4 x5 x7 = some (r, g') → ∀ (H : Heap) (locs : List Loc), m_S D B K n g s.heap H locs → ∀ ls : Array Slot, lv_has ls 9 [(0, .ref (B + a0)), (2, .int x2), (3, .int x3), (4, .int x4), (5, .long x5), (7, .int x7)] → W p l e ({ frames := 3, cells := 0, slots := 0, locals := 79 } : Room) s m args below meth c H locs 0 0 (MQ below (m_Q D B K (some (.int r)) n g') args s 0 0 (fun q => B ≤ q)) (F0 m 146 ls []) := by
  have hx := E.1.1
  have hb := E.1.2.1
  have hts := E.1.2.2.2.2
  intro g a0 x2 x3 x4 x5 x7 r g' hF H locs S ls hl
  unfold f_Mod_term_146 at hF
  refine lv_iinc (v := (x7 + 1)) (lv' := [(7, .int (x7 + 1)), (0, .ref (B + a0)), (2, .int x2), (3, .int x3), (4, .int x4), (5, .long x5)]) hx hb d_Mod_term_146 hl (k := 5) rfl rfl (by decide) rfl (fun ls hl => ?_)
  refine lv_iinc (v := (x3 + 1)) (lv' := [(3, .int (x3 + 1)), (7, .int (x7 + 1)), (0, .ref (B + a0)), (2, .int x2), (4, .int x4), (5, .long x5)]) hx hb d_Mod_term_149 hl (k := 3) rfl rfl (by decide) rfl (fun ls hl => ?_)
  refine lv_goto (tgt := 98) hx hb d_Mod_term_152 (by decide) ?_
  exact hk_98 _ _ _ _ _ _ _ _ _ hF _ _ S _ (lv_sub hl [2, 3, 0, 4, 5, 1] rfl)
def f_Mod_term_98   : Nat → m_G → Nat → Int32 → Int32 → Int32 → Int64 → Int32 → Option (Int32 × m_G)
  | 0, _, _, _, _, _, _, _ => none
  | fu + 1, g, a0, x2, x3, x4, x5, x7 =>
    if (x2 : Int32) ≤ x3 then
      f_Mod_term_155 g a0 x2 x3 x4 x5
    else
      m_gd (m_is g a0 8) <|
      m_bd (f_Mod_at g a0 30 x3) fun v_3 g_2 =>
      m_bd (f_Mod_isLetter g_2 v_3) fun v_5 g_4 =>
      if (v_5 : Int32) = 0 then
        f_Mod_term_155 g_4 a0 x2 x3 x4 x5
      else
        if (12 : Int32) ≤ x7 then
          f_Mod_term_146 (f_Mod_term_98 fu) g_4 a0 x2 x3 x4 x5 x7
        else
          m_gd (m_is g_4 a0 8) <|
          m_bd (f_Mod_at g_4 a0 30 x3) fun v_9 g_8 =>
          f_Mod_term_146 (f_Mod_term_98 fu) g_8 a0 x2 x3 x4 ((((32 * x5) + (v_9 : Int32).toInt64) - 97) + 1) x7
set_option maxHeartbeats 1000000 in
set_option maxRecDepth 100000 in
theorem c_Mod_term_98 (E : m_V p m c b_Mod_term 9 s args R_Mod D K) (hr : meth.sig.returnType = (some .int)) (hlk : meth.locks = false) (hz : s.heap.size + 0 = B + n)   : ∀ fu : Nat, ∀ (g : m_G) (a0 : Nat) (x2 : Int32) (x3 : Int32) (x4 : Int32) (x5 : Int64) (x7 : Int32) (r : Int32) (g' : m_G), f_Mod_term_98  fu g a0 x2 x3 x4 x5 x7 = some (r, g') → ∀ (H : Heap) (locs : List Loc), m_S D B K n g s.heap H locs → ∀ ls : Array Slot, lv_has ls 9 [(0, .ref (B + a0)), (2, .int x2), (3, .int x3), (4, .int x4), (5, .long x5), (7, .int x7)] → W p l e ({ frames := 3, cells := 0, slots := 0, locals := 79 } : Room) s m args below meth c H locs 0 0 (MQ below (m_Q D B K (some (.int r)) n g') args s 0 0 (fun q => B ≤ q)) (F0 m 98 ls []) := by
  have hx := E.1.1
  have hb := E.1.2.1
  have hts := E.1.2.2.2.2
  intro fu
  induction fu with
  | zero => intro g a0 x2 x3 x4 x5 x7 r g' hF; cases hF
  | succ fu ih =>
    intro g a0 x2 x3 x4 x5 x7 r g' hF H locs S ls hl
    rw [f_Mod_term_98] at hF
    refine lv_iload_n hx hb d_Mod_term_98 rfl (lv_at hl 2 rfl) ?_
    refine lv_iload_n hx hb d_Mod_term_99 rfl (lv_at hl 1 rfl) ?_
    refine lv_icmp_ge (tgt := 155) hx hb d_Mod_term_100 (by decide) (fun c_1 => ?_) (fun c_1 => ?_)
    · rw [if_pos c_1] at hF
      exact c_Mod_term_155 E hr hlk hz _ _ _ _ _ _ _ _ hF _ _ S _ (lv_sub hl [0, 1, 2, 3, 4] rfl)
    · rw [if_neg c_1] at hF
      refine lv_aload_n hx hb d_Mod_term_103 rfl (lv_at hl 0 rfl) ?_
      refine lv_bipush (v := 30) hx hb d_Mod_term_104 (by decide) ?_
      refine lv_iload_n hx hb d_Mod_term_106 rfl (lv_at hl 2 rfl) ?_
      replace hF := m_gd_inv hF
      obtain ⟨eog_2, hF⟩ := hF
      replace hF := m_bd_inv hF
      obtain ⟨v_3, g_2, eg_2, hF⟩ := hF
      refine m_callV (B := B) (nn := 2) (b := a0) (As := [.int 30, .int x3]) (rest := []) (v := (some (.int v_3))) E S hz (c_Mod_at l D B K n g a0 30 x3 v_3 g_2 eg_2) qc_Mod_at ⟨rfl, rfl⟩ (Or.inl qw_307) qw_308 qw_309 qw_304 (by decide +kernel) ⟨Nat.le_of_ble_eq_true rfl, Nat.le_of_ble_eq_true rfl⟩ eog_2 rfl rfl hl.1 (Nat.le_of_ble_eq_true rfl) d_Mod_term_107 ⟨Nat.le_of_ble_eq_true rfl, Nat.le_of_ble_eq_true rfl⟩ (fun H locs S => ?_)
      refine W.eq (g2 := F0 m 110 ls [.int v_3]) rfl ?_
      replace hF := m_bd_inv hF
      obtain ⟨v_5, g_4, eg_4, hF⟩ := hF
      refine m_callS (B := B) (nn := 1) (As := [.int v_3]) (rest := []) (v := (some (.int v_5))) E S hz (c_Mod_isLetter l D B K n g_2 v_3 v_5 g_4 eg_4) qc_Mod_isLetter ⟨rfl, rfl⟩ (Or.inl qw_360) qw_361 qw_304 (by decide +kernel) ⟨Nat.le_of_ble_eq_true rfl, Nat.le_of_ble_eq_true rfl⟩ rfl hl.1 (Nat.le_of_ble_eq_true rfl) d_Mod_term_110 ⟨Nat.le_of_ble_eq_true rfl, Nat.le_of_ble_eq_true rfl⟩ (fun H locs S => ?_)
      refine W.eq (g2 := F0 m 113 ls [.int v_5]) rfl ?_
      refine lv_if_eq (tgt := 155) hx hb d_Mod_term_113 (by decide) (fun c_6 => ?_) (fun c_6 => ?_)
      · rw [if_pos c_6] at hF
        exact c_Mod_term_155 E hr hlk hz _ _ _ _ _ _ _ _ hF _ _ S _ (lv_sub hl [0, 1, 2, 3, 4] rfl)
      · rw [if_neg c_6] at hF
        refine lv_iload hx hb d_Mod_term_116 (lv_at hl 5 rfl) ?_
        refine lv_bipush (v := 12) hx hb d_Mod_term_118 (by decide) ?_
        refine lv_icmp_ge (tgt := 146) hx hb d_Mod_term_120 (by decide) (fun c_7 => ?_) (fun c_7 => ?_)
        · rw [if_pos c_7] at hF
          exact c_Mod_term_146 E hr hlk hz (f_Mod_term_98 fu) ih _ _ _ _ _ _ _ _ _ hF _ _ S _ (lv_sub hl [0, 1, 2, 3, 4, 5] rfl)
        · rw [if_neg c_7] at hF
          refine lv_ldc2 (v := 32) hx hb E.1.2.2.2.1 (hts _ qw_313) d_Mod_term_123 ?_
          refine lv_lload hx hb d_Mod_term_126 (lv_at hl 4 rfl) ?_
          refine lv_lmul hx hb d_Mod_term_128 ?_
          refine lv_aload_n hx hb d_Mod_term_129 rfl (lv_at hl 0 rfl) ?_
          refine lv_bipush (v := 30) hx hb d_Mod_term_130 (by decide) ?_
          refine lv_iload_n hx hb d_Mod_term_132 rfl (lv_at hl 2 rfl) ?_
          replace hF := m_gd_inv hF
          obtain ⟨eog_8, hF⟩ := hF
          replace hF := m_bd_inv hF
          obtain ⟨v_9, g_8, eg_8, hF⟩ := hF
          refine m_callV (B := B) (nn := 2) (b := a0) (As := [.int 30, .int x3]) (rest := [.long (32 * x5)]) (v := (some (.int v_9))) E S hz (c_Mod_at l D B K n g_4 a0 30 x3 v_9 g_8 eg_8) qc_Mod_at ⟨rfl, rfl⟩ (Or.inl qw_307) qw_308 qw_309 qw_304 (by decide +kernel) ⟨Nat.le_of_ble_eq_true rfl, Nat.le_of_ble_eq_true rfl⟩ eog_8 rfl rfl hl.1 (Nat.le_of_ble_eq_true rfl) d_Mod_term_133 ⟨Nat.le_of_ble_eq_true rfl, Nat.le_of_ble_eq_true rfl⟩ (fun H locs S => ?_)
          refine W.eq (g2 := F0 m 136 ls [.int v_9, .long (32 * x5)]) rfl ?_
          refine lv_i2l hx hb d_Mod_term_136 rfl ?_
          refine lv_ladd hx hb d_Mod_term_137 ?_
          refine lv_ldc2 (v := 97) hx hb E.1.2.2.2.1 (hts _ qw_383) d_Mod_term_138 ?_
          refine lv_lsub hx hb d_Mod_term_141 ?_
          refine lv_lconst (v := 1) hx hb d_Mod_term_142 (by decide) ?_
          refine lv_ladd hx hb d_Mod_term_143 ?_
          refine lv_lstore (lv' := [(5, .long ((((32 * x5) + (v_9 : Int32).toInt64) - 97) + 1)), (0, .ref (B + a0)), (2, .int x2), (3, .int x3), (4, .int x4), (7, .int x7)]) hx hb d_Mod_term_144 hl (by decide) rfl (fun ls hl => ?_)
          exact c_Mod_term_146 E hr hlk hz (f_Mod_term_98 fu) ih _ _ _ _ _ _ _ _ _ hF _ _ S _ (lv_sub hl [1, 2, 3, 4, 0, 5] rfl)
def f_Mod_term_92   (g : m_G) (a0 : Nat) (x2 : Int32) (x3 : Int32) (x4 : Int32) : Option (Int32 × m_G) :=
  f_Mod_term_98 m_fu g a0 x2 x3 x4 0 0
set_option maxHeartbeats 1000000 in
set_option maxRecDepth 100000 in
theorem c_Mod_term_92 (E : m_V p m c b_Mod_term 9 s args R_Mod D K) (hr : meth.sig.returnType = (some .int)) (hlk : meth.locks = false) (hz : s.heap.size + 0 = B + n)   : ∀ (g : m_G) (a0 : Nat) (x2 : Int32) (x3 : Int32) (x4 : Int32) (r : Int32) (g' : m_G), f_Mod_term_92 g a0 x2 x3 x4 = some (r, g') → ∀ (H : Heap) (locs : List Loc), m_S D B K n g s.heap H locs → ∀ ls : Array Slot, lv_has ls 9 [(0, .ref (B + a0)), (2, .int x2), (3, .int x3), (4, .int x4)] → W p l e ({ frames := 3, cells := 0, slots := 0, locals := 79 } : Room) s m args below meth c H locs 0 0 (MQ below (m_Q D B K (some (.int r)) n g') args s 0 0 (fun q => B ≤ q)) (F0 m 92 ls []) := by
  have hx := E.1.1
  have hb := E.1.2.1
  have hts := E.1.2.2.2.2
  intro g a0 x2 x3 x4 r g' hF H locs S ls hl
  unfold f_Mod_term_92 at hF
  refine lv_lconst (v := 0) hx hb d_Mod_term_92 (by decide) ?_
  refine lv_lstore (lv' := [(5, .long 0), (0, .ref (B + a0)), (2, .int x2), (3, .int x3), (4, .int x4)]) hx hb d_Mod_term_93 hl (by decide) rfl (fun ls hl => ?_)
  refine lv_iconst (v := 0) hx hb d_Mod_term_95 (by decide) ?_
  refine lv_istore (lv' := [(7, .int 0), (5, .long 0), (0, .ref (B + a0)), (2, .int x2), (3, .int x3), (4, .int x4)]) hx hb d_Mod_term_96 hl (by decide) rfl (fun ls hl => ?_)
  exact c_Mod_term_98 E hr hlk hz m_fu _ _ _ _ _ _ _ _ _ hF _ _ S _ (lv_sub hl [2, 3, 4, 5, 1, 0] rfl)
def f_Mod_term_90   (g : m_G) (a0 : Nat) (x2 : Int32) (x3 : Int32) (y0 : Int32) : Option (Int32 × m_G) :=
  f_Mod_term_92 g a0 x2 x3 y0
set_option maxHeartbeats 1000000 in
set_option maxRecDepth 100000 in
theorem c_Mod_term_90 (E : m_V p m c b_Mod_term 9 s args R_Mod D K) (hr : meth.sig.returnType = (some .int)) (hlk : meth.locks = false) (hz : s.heap.size + 0 = B + n)   : ∀ (g : m_G) (a0 : Nat) (x2 : Int32) (x3 : Int32) (y0 : Int32) (r : Int32) (g' : m_G), f_Mod_term_90 g a0 x2 x3 y0 = some (r, g') → ∀ (H : Heap) (locs : List Loc), m_S D B K n g s.heap H locs → ∀ ls : Array Slot, lv_has ls 9 [(0, .ref (B + a0)), (2, .int x2), (3, .int x3)] → W p l e ({ frames := 3, cells := 0, slots := 0, locals := 79 } : Room) s m args below meth c H locs 0 0 (MQ below (m_Q D B K (some (.int r)) n g') args s 0 0 (fun q => B ≤ q)) (F0 m 90 ls [.int y0]) := by
  have hx := E.1.1
  have hb := E.1.2.1
  have hts := E.1.2.2.2.2
  intro g a0 x2 x3 y0 r g' hF H locs S ls hl
  unfold f_Mod_term_90 at hF
  refine lv_istore (lv' := [(4, .int y0), (0, .ref (B + a0)), (2, .int x2), (3, .int x3)]) hx hb d_Mod_term_90 hl (by decide) rfl (fun ls hl => ?_)
  exact c_Mod_term_92 E hr hlk hz _ _ _ _ _ _ _ hF _ _ S _ (lv_sub hl [1, 2, 3, 0] rfl)
end S_Mod_term
def f_Mod_term  (g : m_G) (a0 : Nat) (x1 : Int32) (x2 : Int32) : Option (Int32 × m_G) :=
  if (x2 : Int32) ≤ (x1 + 1) then
    f_Mod_term_92 g a0 x2 x1 (-1)
  else
    m_gd (m_is g a0 8) <|
    m_bd (f_Mod_at g a0 30 (x1 + 1)) fun v_3 g_2 =>
    if (v_3 : Int32) = 58 then
      m_gd (m_is g_2 a0 8) <|
      m_bd (f_Mod_at g_2 a0 30 x1) fun v_6 g_5 =>
      if (v_6 : Int32) = 116 then
        m_gd (m_is g_5 a0 8) <|
        m_bd (f_Mod_at g_5 a0 30 (x1 + 2)) fun v_11 g_10 =>
        m_gd (m_is g_10 a0 8) <|
        m_bd (f_Mod_withTag g_10 a0 (v_11 - 48)) fun v_13 g_12 =>
        m_gd (m_is g_12 a0 8) <|
        m_bd (f_Mod_one g_12 a0 v_13) fun v_15 g_14 =>
        some (((x1 + 2) + 1), g_14)
      else
        if (v_6 : Int32) = 115 then
          f_Mod_term_90 g_5 a0 x2 (x1 + 2) 0
        else
          if (v_6 : Int32) = 102 then
            f_Mod_term_90 g_5 a0 x2 (x1 + 2) 1
          else
            f_Mod_term_90 g_5 a0 x2 (x1 + 2) 2
    else
      f_Mod_term_92 g_2 a0 x2 x1 (-1)
set_option maxHeartbeats 1000000 in
set_option maxRecDepth 100000 in
theorem c_Mod_term (l : Launch) (D : va_G) (B : Nat) (K : Nat → ClassId)  (n : Nat) (g : m_G) (a0 : Nat) (x1 : Int32) (x2 : Int32) (r : Int32) (g' : m_G) (hF : f_Mod_term g a0 x1 x2 = some (r, g')) : Met l y_Mod_term (Cond.code y_Mod_term b_Mod_term 9 (some .int) :: m_TB) ({ frames := 3, cells := 0, slots := 0, locals := 79 } : Room) (m_Pc D B K n g [.ref (B + a0), .int x1, .int x2]) (m_Q D B K (some (.int r)) n g') 0 0 (fun q => B ≤ q) := by
  refine m_met (by decide) (Nat.le_of_ble_eq_true rfl) ?_
  intro p e s m args below meth c ls E hr hlk hin hsz S hl
  have E : m_V p m c b_Mod_term 9 s args R_Mod D K := E
  have hz : s.heap.size + 0 = B + n := hsz
  have hl : lv_has ls 9 [(0, .ref (B + a0)), (1, .int x1), (2, .int x2)] := hl
  have hx := E.1.1
  have hb := E.1.2.1
  have hts := E.1.2.2.2.2
  unfold f_Mod_term at hF
  refine lv_iload_n hx hb d_Mod_term_0 rfl (lv_at hl 1 rfl) ?_
  refine lv_istore_n (lv' := [(3, .int x1), (0, .ref (B + a0)), (1, .int x1), (2, .int x2)]) hx hb d_Mod_term_1 rfl hl (by decide) rfl (fun ls hl => ?_)
  refine lv_iconst (v := (-1)) hx hb d_Mod_term_2 (by decide) ?_
  refine lv_istore (lv' := [(4, .int (-1)), (3, .int x1), (0, .ref (B + a0)), (1, .int x1), (2, .int x2)]) hx hb d_Mod_term_3 hl (by decide) rfl (fun ls hl => ?_)
  refine lv_iload_n hx hb d_Mod_term_5 rfl (lv_at hl 1 rfl) ?_
  refine lv_iconst (v := 1) hx hb d_Mod_term_6 (by decide) ?_
  refine lv_iadd hx hb d_Mod_term_7 ?_
  refine lv_iload_n hx hb d_Mod_term_8 rfl (lv_at hl 4 rfl) ?_
  refine lv_icmp_ge (tgt := 92) hx hb d_Mod_term_9 (by decide) (fun c_1 => ?_) (fun c_1 => ?_)
  · rw [if_pos c_1] at hF
    exact c_Mod_term_92 E hr hlk hz _ _ _ _ _ _ _ hF _ _ S _ (lv_sub hl [2, 4, 1, 0] rfl)
  · rw [if_neg c_1] at hF
    refine lv_aload_n hx hb d_Mod_term_12 rfl (lv_at hl 2 rfl) ?_
    refine lv_bipush (v := 30) hx hb d_Mod_term_13 (by decide) ?_
    refine lv_iload_n hx hb d_Mod_term_15 rfl (lv_at hl 1 rfl) ?_
    refine lv_iconst (v := 1) hx hb d_Mod_term_16 (by decide) ?_
    refine lv_iadd hx hb d_Mod_term_17 ?_
    replace hF := m_gd_inv hF
    obtain ⟨eog_2, hF⟩ := hF
    replace hF := m_bd_inv hF
    obtain ⟨v_3, g_2, eg_2, hF⟩ := hF
    refine m_callV (B := B) (nn := 2) (b := a0) (As := [.int 30, .int (x1 + 1)]) (rest := []) (v := (some (.int v_3))) E S hz (c_Mod_at l D B K n g a0 30 (x1 + 1) v_3 g_2 eg_2) qc_Mod_at ⟨rfl, rfl⟩ (Or.inl qw_307) qw_308 qw_309 qw_304 (by decide +kernel) ⟨Nat.le_of_ble_eq_true rfl, Nat.le_of_ble_eq_true rfl⟩ eog_2 rfl rfl hl.1 (Nat.le_of_ble_eq_true rfl) d_Mod_term_18 ⟨Nat.le_of_ble_eq_true rfl, Nat.le_of_ble_eq_true rfl⟩ (fun H locs S => ?_)
    refine W.eq (g2 := F0 m 21 ls [.int v_3]) rfl ?_
    refine lv_bipush (v := 58) hx hb d_Mod_term_21 (by decide) ?_
    refine lv_icmp_ne (tgt := 92) hx hb d_Mod_term_23 (by decide) (fun c_4 => ?_) (fun c_4 => ?_)
    · rw [if_neg c_4] at hF
      exact c_Mod_term_92 E hr hlk hz _ _ _ _ _ _ _ hF _ _ S _ (lv_sub hl [2, 4, 1, 0] rfl)
    · rw [if_pos c_4] at hF
      refine lv_aload_n hx hb d_Mod_term_26 rfl (lv_at hl 2 rfl) ?_
      refine lv_bipush (v := 30) hx hb d_Mod_term_27 (by decide) ?_
      refine lv_iload_n hx hb d_Mod_term_29 rfl (lv_at hl 1 rfl) ?_
      replace hF := m_gd_inv hF
      obtain ⟨eog_5, hF⟩ := hF
      replace hF := m_bd_inv hF
      obtain ⟨v_6, g_5, eg_5, hF⟩ := hF
      refine m_callV (B := B) (nn := 2) (b := a0) (As := [.int 30, .int x1]) (rest := []) (v := (some (.int v_6))) E S hz (c_Mod_at l D B K n g_2 a0 30 x1 v_6 g_5 eg_5) qc_Mod_at ⟨rfl, rfl⟩ (Or.inl qw_307) qw_308 qw_309 qw_304 (by decide +kernel) ⟨Nat.le_of_ble_eq_true rfl, Nat.le_of_ble_eq_true rfl⟩ eog_5 rfl rfl hl.1 (Nat.le_of_ble_eq_true rfl) d_Mod_term_30 ⟨Nat.le_of_ble_eq_true rfl, Nat.le_of_ble_eq_true rfl⟩ (fun H locs S => ?_)
      refine W.eq (g2 := F0 m 33 ls [.int v_6]) rfl ?_
      refine lv_istore (lv' := [(5, .int v_6), (4, .int (-1)), (3, .int x1), (0, .ref (B + a0)), (1, .int x1), (2, .int x2)]) hx hb d_Mod_term_33 hl (by decide) rfl (fun ls hl => ?_)
      refine lv_iinc (v := (x1 + 2)) (lv' := [(3, .int (x1 + 2)), (5, .int v_6), (4, .int (-1)), (0, .ref (B + a0)), (1, .int x1), (2, .int x2)]) hx hb d_Mod_term_35 hl (k := 2) rfl rfl (by decide) rfl (fun ls hl => ?_)
      refine lv_iload hx hb d_Mod_term_38 (lv_at hl 1 rfl) ?_
      refine lv_bipush (v := 116) hx hb d_Mod_term_40 (by decide) ?_
      refine lv_icmp_ne (tgt := 67) hx hb d_Mod_term_42 (by decide) (fun c_7 => ?_) (fun c_7 => ?_)
      · rw [if_neg c_7] at hF
        refine lv_iload hx hb d_Mod_term_67 (lv_at hl 1 rfl) ?_
        refine lv_bipush (v := 115) hx hb d_Mod_term_69 (by decide) ?_
        refine lv_icmp_ne (tgt := 78) hx hb d_Mod_term_71 (by decide) (fun c_8 => ?_) (fun c_8 => ?_)
        · rw [if_neg c_8] at hF
          refine lv_iload hx hb d_Mod_term_78 (lv_at hl 1 rfl) ?_
          refine lv_bipush (v := 102) hx hb d_Mod_term_80 (by decide) ?_
          refine lv_icmp_ne (tgt := 89) hx hb d_Mod_term_82 (by decide) (fun c_9 => ?_) (fun c_9 => ?_)
          · rw [if_neg c_9] at hF
            refine lv_iconst (v := 2) hx hb d_Mod_term_89 (by decide) ?_
            exact c_Mod_term_90 E hr hlk hz _ _ _ _ _ _ _ hF _ _ S _ (lv_sub hl [3, 5, 0] rfl)
          · rw [if_pos c_9] at hF
            refine lv_iconst (v := 1) hx hb d_Mod_term_85 (by decide) ?_
            refine lv_goto (tgt := 90) hx hb d_Mod_term_86 (by decide) ?_
            exact c_Mod_term_90 E hr hlk hz _ _ _ _ _ _ _ hF _ _ S _ (lv_sub hl [3, 5, 0] rfl)
        · rw [if_pos c_8] at hF
          refine lv_iconst (v := 0) hx hb d_Mod_term_74 (by decide) ?_
          refine lv_goto (tgt := 90) hx hb d_Mod_term_75 (by decide) ?_
          exact c_Mod_term_90 E hr hlk hz _ _ _ _ _ _ _ hF _ _ S _ (lv_sub hl [3, 5, 0] rfl)
      · rw [if_pos c_7] at hF
        refine lv_aload_n hx hb d_Mod_term_45 rfl (lv_at hl 3 rfl) ?_
        refine lv_aload_n hx hb d_Mod_term_46 rfl (lv_at hl 3 rfl) ?_
        refine lv_aload_n hx hb d_Mod_term_47 rfl (lv_at hl 3 rfl) ?_
        refine lv_bipush (v := 30) hx hb d_Mod_term_48 (by decide) ?_
        refine lv_iload_n hx hb d_Mod_term_50 rfl (lv_at hl 0 rfl) ?_
        replace hF := m_gd_inv hF
        obtain ⟨eog_10, hF⟩ := hF
        replace hF := m_bd_inv hF
        obtain ⟨v_11, g_10, eg_10, hF⟩ := hF
        refine m_callV (B := B) (nn := 2) (b := a0) (As := [.int 30, .int (x1 + 2)]) (rest := [.ref (B + a0), .ref (B + a0)]) (v := (some (.int v_11))) E S hz (c_Mod_at l D B K n g_5 a0 30 (x1 + 2) v_11 g_10 eg_10) qc_Mod_at ⟨rfl, rfl⟩ (Or.inl qw_307) qw_308 qw_309 qw_304 (by decide +kernel) ⟨Nat.le_of_ble_eq_true rfl, Nat.le_of_ble_eq_true rfl⟩ eog_10 rfl rfl hl.1 (Nat.le_of_ble_eq_true rfl) d_Mod_term_51 ⟨Nat.le_of_ble_eq_true rfl, Nat.le_of_ble_eq_true rfl⟩ (fun H locs S => ?_)
        refine W.eq (g2 := F0 m 54 ls [.int v_11, .ref (B + a0), .ref (B + a0)]) rfl ?_
        refine lv_bipush (v := 48) hx hb d_Mod_term_54 (by decide) ?_
        refine lv_isub hx hb d_Mod_term_56 ?_
        replace hF := m_gd_inv hF
        obtain ⟨eog_12, hF⟩ := hF
        replace hF := m_bd_inv hF
        obtain ⟨v_13, g_12, eg_12, hF⟩ := hF
        refine m_callV (B := B) (nn := 1) (b := a0) (As := [.int (v_11 - 48)]) (rest := [.ref (B + a0)]) (v := (some (.int v_13))) E S hz (c_Mod_withTag l D B K n g_10 a0 (v_11 - 48) v_13 g_12 eg_12) qc_Mod_withTag ⟨rfl, rfl⟩ (Or.inl qw_380) qw_381 qw_382 qw_304 (by decide +kernel) ⟨Nat.le_of_ble_eq_true rfl, Nat.le_of_ble_eq_true rfl⟩ eog_12 rfl rfl hl.1 (Nat.le_of_ble_eq_true rfl) d_Mod_term_57 ⟨Nat.le_of_ble_eq_true rfl, Nat.le_of_ble_eq_true rfl⟩ (fun H locs S => ?_)
        refine W.eq (g2 := F0 m 60 ls [.int v_13, .ref (B + a0)]) rfl ?_
        replace hF := m_gd_inv hF
        obtain ⟨eog_14, hF⟩ := hF
        replace hF := m_bd_inv hF
        obtain ⟨v_15, g_14, eg_14, hF⟩ := hF
        refine m_callV (B := B) (nn := 1) (b := a0) (As := [.int v_13]) (rest := []) (v := none) E S hz (c_Mod_one l D B K n g_12 a0 v_13 v_15 g_14 eg_14) qc_Mod_one ⟨rfl, rfl⟩ (Or.inl qw_373) qw_374 qw_375 qw_304 (by decide +kernel) ⟨Nat.le_of_ble_eq_true rfl, Nat.le_of_ble_eq_true rfl⟩ eog_14 rfl rfl hl.1 (Nat.le_of_ble_eq_true rfl) d_Mod_term_60 ⟨Nat.le_of_ble_eq_true rfl, Nat.le_of_ble_eq_true rfl⟩ (fun H locs S => ?_)
        refine W.eq (g2 := F0 m 63 ls []) rfl ?_
        refine lv_iload_n hx hb d_Mod_term_63 rfl (lv_at hl 0 rfl) ?_
        refine lv_iconst (v := 1) hx hb d_Mod_term_64 (by decide) ?_
        refine lv_iadd hx hb d_Mod_term_65 ?_
        cases hF
        exact m_iret E S hz hr hlk d_Mod_term_66
section S_Mod_search
variable {p : Program} {l : Launch} {e : Env} {s : State} {m : MethodId} {args : Array Value} {below : List Frame} {meth : Method} {c : Code} {D : va_G} {B n : Nat} {K : Nat → ClassId}
def f_Mod_search_46   : Nat → m_G → Nat → Int32 → Int32 → Option (Int32 × m_G)
  | 0, _, _, _, _ => none
  | fu + 1, g, a0, x1, x3 =>
    if (x1 : Int32) ≤ x3 then
      m_gd (m_is g a0 8) <|
      m_bd (f_Mod_reduce g a0 1) fun v_3 g_2 =>
      (m_gR g_2 a0 8 22).bind fun v_4 =>
      Option.bind v_4 fun a_5 =>
      (m_ld g_2 a_5 0 0).bind fun v_6 =>
      (m_pI g_2 a0 8 20 v_6).bind fun g_7 =>
      (m_gI g_7 a0 8 20).bind fun v_8 =>
      m_bd (f_Mod_size g_7 v_8) fun v_10 g_9 =>
      some (v_10, g_9)
    else
      m_gd (m_is g a0 8) <|
      m_bd (f_Mod_at g a0 30 x3) fun v_12 g_11 =>
      m_bd (f_Mod_isLetter g_11 v_12) fun v_14 g_13 =>
      if (v_14 : Int32) = 0 then
        m_gd (m_is g_13 a0 8) <|
        m_bd (f_Mod_at g_13 a0 30 x3) fun v_17 g_16 =>
        m_gd (m_is g_16 a0 8) <|
        m_bd (f_Mod_sign g_16 a0 v_17) fun v_19 g_18 =>
        f_Mod_search_46 fu g_18 a0 x1 (x3 + 1)
      else
        m_gd (m_is g_13 a0 8) <|
        m_bd (f_Mod_term g_13 a0 x3 x1) fun v_21 g_20 =>
        f_Mod_search_46 fu g_20 a0 x1 v_21
set_option maxHeartbeats 1000000 in
set_option maxRecDepth 100000 in
theorem c_Mod_search_46 (E : m_V p m c b_Mod_search 4 s args R_Mod D K) (hr : meth.sig.returnType = (some .int)) (hlk : meth.locks = false) (hz : s.heap.size + 0 = B + n)   : ∀ fu : Nat, ∀ (g : m_G) (a0 : Nat) (x1 : Int32) (x3 : Int32) (r : Int32) (g' : m_G), f_Mod_search_46  fu g a0 x1 x3 = some (r, g') → ∀ (H : Heap) (locs : List Loc), m_S D B K n g s.heap H locs → ∀ ls : Array Slot, lv_has ls 4 [(0, .ref (B + a0)), (1, .int x1), (3, .int x3)] → W p l e ({ frames := 4, cells := 0, slots := 0, locals := 107 } : Room) s m args below meth c H locs 0 0 (MQ below (m_Q D B K (some (.int r)) n g') args s 0 0 (fun q => B ≤ q)) (F0 m 46 ls []) := by
  have hx := E.1.1
  have hb := E.1.2.1
  have hts := E.1.2.2.2.2
  intro fu
  induction fu with
  | zero => intro g a0 x1 x3 r g' hF; cases hF
  | succ fu ih =>
    intro g a0 x1 x3 r g' hF H locs S ls hl
    rw [f_Mod_search_46] at hF
    refine lv_iload_n hx hb d_Mod_search_46 rfl (lv_at hl 2 rfl) ?_
    refine lv_iload_n hx hb d_Mod_search_47 rfl (lv_at hl 1 rfl) ?_
    refine lv_icmp_ge (tgt := 91) hx hb d_Mod_search_48 (by decide) (fun c_1 => ?_) (fun c_1 => ?_)
    · rw [if_pos c_1] at hF
      refine lv_aload_n hx hb d_Mod_search_91 rfl (lv_at hl 0 rfl) ?_
      refine lv_iconst (v := 1) hx hb d_Mod_search_92 (by decide) ?_
      replace hF := m_gd_inv hF
      obtain ⟨eog_2, hF⟩ := hF
      replace hF := m_bd_inv hF
      obtain ⟨v_3, g_2, eg_2, hF⟩ := hF
      refine m_callV (B := B) (nn := 1) (b := a0) (As := [.int 1]) (rest := []) (v := none) E S hz (c_Mod_reduce l D B K n g a0 1 v_3 g_2 eg_2) qc_Mod_reduce ⟨rfl, rfl⟩ (Or.inl qw_370) qw_371 qw_372 qw_304 (by decide +kernel) ⟨Nat.le_of_ble_eq_true rfl, Nat.le_of_ble_eq_true rfl⟩ eog_2 rfl rfl hl.1 (Nat.le_of_ble_eq_true rfl) d_Mod_search_93 ⟨Nat.le_of_ble_eq_true rfl, Nat.le_of_ble_eq_true rfl⟩ (fun H locs S => ?_)
      refine W.eq (g2 := F0 m 96 ls []) rfl ?_
      refine lv_aload_n hx hb d_Mod_search_96 rfl (lv_at hl 0 rfl) ?_
      refine lv_aload_n hx hb d_Mod_search_97 rfl (lv_at hl 0 rfl) ?_
      replace hF := Option.bind_eq_some_iff.mp hF
      obtain ⟨v_4, ev_4, hF⟩ := hF
      refine m_getR (B := B) (a := a0) E S fd_Mod_sets (Or.inl qw_301) ev_4 d_Mod_search_98 ?_
      refine lv_iconst (v := 0) hx hb d_Mod_search_101 (by decide) ?_
      replace hF := Option.bind_eq_some_iff.mp hF
      obtain ⟨a_5, ea_5, hF⟩ := hF
      subst ea_5
      replace hF := Option.bind_eq_some_iff.mp hF
      obtain ⟨v_6, ev_6, hF⟩ := hF
      refine m_iald (B := B) (a := a_5) (t := 0) E S rfl ev_6 d_Mod_search_102 ?_
      replace hF := Option.bind_eq_some_iff.mp hF
      obtain ⟨g_7, eg_7, hF⟩ := hF
      refine m_putI (B := B) (a := a0) E S fd_Mod_found (Or.inl qw_390) eg_7 d_Mod_search_103 (fun H locs S => ?_)
      refine lv_aload_n hx hb d_Mod_search_106 rfl (lv_at hl 0 rfl) ?_
      replace hF := Option.bind_eq_some_iff.mp hF
      obtain ⟨v_8, ev_8, hF⟩ := hF
      refine m_getI (B := B) (a := a0) E S fd_Mod_found (Or.inl qw_390) ev_8 d_Mod_search_107 ?_
      replace hF := m_bd_inv hF
      obtain ⟨v_10, g_9, eg_9, hF⟩ := hF
      refine m_callS (B := B) (nn := 1) (As := [.int v_8]) (rest := []) (v := (some (.int v_10))) E S hz (c_Mod_size l D B K n g_7 v_8 v_10 g_9 eg_9) qc_Mod_size ⟨rfl, rfl⟩ (Or.inl qw_391) qw_392 qw_304 (by decide +kernel) ⟨Nat.le_of_ble_eq_true rfl, Nat.le_of_ble_eq_true rfl⟩ rfl hl.1 (Nat.le_of_ble_eq_true rfl) d_Mod_search_110 ⟨Nat.le_of_ble_eq_true rfl, Nat.le_of_ble_eq_true rfl⟩ (fun H locs S => ?_)
      refine W.eq (g2 := F0 m 113 ls [.int v_10]) rfl ?_
      cases hF
      exact m_iret E S hz hr hlk d_Mod_search_113
    · rw [if_neg c_1] at hF
      refine lv_aload_n hx hb d_Mod_search_51 rfl (lv_at hl 0 rfl) ?_
      refine lv_bipush (v := 30) hx hb d_Mod_search_52 (by decide) ?_
      refine lv_iload_n hx hb d_Mod_search_54 rfl (lv_at hl 2 rfl) ?_
      replace hF := m_gd_inv hF
      obtain ⟨eog_11, hF⟩ := hF
      replace hF := m_bd_inv hF
      obtain ⟨v_12, g_11, eg_11, hF⟩ := hF
      refine m_callV (B := B) (nn := 2) (b := a0) (As := [.int 30, .int x3]) (rest := []) (v := (some (.int v_12))) E S hz (c_Mod_at l D B K n g a0 30 x3 v_12 g_11 eg_11) qc_Mod_at ⟨rfl, rfl⟩ (Or.inl qw_307) qw_308 qw_309 qw_304 (by decide +kernel) ⟨Nat.le_of_ble_eq_true rfl, Nat.le_of_ble_eq_true rfl⟩ eog_11 rfl rfl hl.1 (Nat.le_of_ble_eq_true rfl) d_Mod_search_55 ⟨Nat.le_of_ble_eq_true rfl, Nat.le_of_ble_eq_true rfl⟩ (fun H locs S => ?_)
      refine W.eq (g2 := F0 m 58 ls [.int v_12]) rfl ?_
      replace hF := m_bd_inv hF
      obtain ⟨v_14, g_13, eg_13, hF⟩ := hF
      refine m_callS (B := B) (nn := 1) (As := [.int v_12]) (rest := []) (v := (some (.int v_14))) E S hz (c_Mod_isLetter l D B K n g_11 v_12 v_14 g_13 eg_13) qc_Mod_isLetter ⟨rfl, rfl⟩ (Or.inl qw_360) qw_361 qw_304 (by decide +kernel) ⟨Nat.le_of_ble_eq_true rfl, Nat.le_of_ble_eq_true rfl⟩ rfl hl.1 (Nat.le_of_ble_eq_true rfl) d_Mod_search_58 ⟨Nat.le_of_ble_eq_true rfl, Nat.le_of_ble_eq_true rfl⟩ (fun H locs S => ?_)
      refine W.eq (g2 := F0 m 61 ls [.int v_14]) rfl ?_
      refine lv_if_eq (tgt := 74) hx hb d_Mod_search_61 (by decide) (fun c_15 => ?_) (fun c_15 => ?_)
      · rw [if_pos c_15] at hF
        refine lv_aload_n hx hb d_Mod_search_74 rfl (lv_at hl 0 rfl) ?_
        refine lv_aload_n hx hb d_Mod_search_75 rfl (lv_at hl 0 rfl) ?_
        refine lv_bipush (v := 30) hx hb d_Mod_search_76 (by decide) ?_
        refine lv_iload_n hx hb d_Mod_search_78 rfl (lv_at hl 2 rfl) ?_
        replace hF := m_gd_inv hF
        obtain ⟨eog_16, hF⟩ := hF
        replace hF := m_bd_inv hF
        obtain ⟨v_17, g_16, eg_16, hF⟩ := hF
        refine m_callV (B := B) (nn := 2) (b := a0) (As := [.int 30, .int x3]) (rest := [.ref (B + a0)]) (v := (some (.int v_17))) E S hz (c_Mod_at l D B K n g_13 a0 30 x3 v_17 g_16 eg_16) qc_Mod_at ⟨rfl, rfl⟩ (Or.inl qw_307) qw_308 qw_309 qw_304 (by decide +kernel) ⟨Nat.le_of_ble_eq_true rfl, Nat.le_of_ble_eq_true rfl⟩ eog_16 rfl rfl hl.1 (Nat.le_of_ble_eq_true rfl) d_Mod_search_79 ⟨Nat.le_of_ble_eq_true rfl, Nat.le_of_ble_eq_true rfl⟩ (fun H locs S => ?_)
        refine W.eq (g2 := F0 m 82 ls [.int v_17, .ref (B + a0)]) rfl ?_
        replace hF := m_gd_inv hF
        obtain ⟨eog_18, hF⟩ := hF
        replace hF := m_bd_inv hF
        obtain ⟨v_19, g_18, eg_18, hF⟩ := hF
        refine m_callV (B := B) (nn := 1) (b := a0) (As := [.int v_17]) (rest := []) (v := none) E S hz (c_Mod_sign l D B K n g_16 a0 v_17 v_19 g_18 eg_18) qc_Mod_sign ⟨rfl, rfl⟩ (Or.inl qw_393) qw_394 qw_395 qw_304 (by decide +kernel) ⟨Nat.le_of_ble_eq_true rfl, Nat.le_of_ble_eq_true rfl⟩ eog_18 rfl rfl hl.1 (Nat.le_of_ble_eq_true rfl) d_Mod_search_82 ⟨Nat.le_of_ble_eq_true rfl, Nat.le_of_ble_eq_true rfl⟩ (fun H locs S => ?_)
        refine W.eq (g2 := F0 m 85 ls []) rfl ?_
        refine lv_iinc (v := (x3 + 1)) (lv' := [(3, .int (x3 + 1)), (0, .ref (B + a0)), (1, .int x1)]) hx hb d_Mod_search_85 hl (k := 2) rfl rfl (by decide) rfl (fun ls hl => ?_)
        refine lv_goto (tgt := 46) hx hb d_Mod_search_88 (by decide) ?_
        exact ih _ _ _ _ _ _ hF _ _ S _ (lv_sub hl [1, 2, 0] rfl)
      · rw [if_neg c_15] at hF
        refine lv_aload_n hx hb d_Mod_search_64 rfl (lv_at hl 0 rfl) ?_
        refine lv_iload_n hx hb d_Mod_search_65 rfl (lv_at hl 2 rfl) ?_
        refine lv_iload_n hx hb d_Mod_search_66 rfl (lv_at hl 1 rfl) ?_
        replace hF := m_gd_inv hF
        obtain ⟨eog_20, hF⟩ := hF
        replace hF := m_bd_inv hF
        obtain ⟨v_21, g_20, eg_20, hF⟩ := hF
        refine m_callV (B := B) (nn := 2) (b := a0) (As := [.int x3, .int x1]) (rest := []) (v := (some (.int v_21))) E S hz (c_Mod_term l D B K n g_13 a0 x3 x1 v_21 g_20 eg_20) qc_Mod_term ⟨rfl, rfl⟩ (Or.inl qw_396) qw_397 qw_398 qw_304 (by decide +kernel) ⟨Nat.le_of_ble_eq_true rfl, Nat.le_of_ble_eq_true rfl⟩ eog_20 rfl rfl hl.1 (Nat.le_of_ble_eq_true rfl) d_Mod_search_67 ⟨Nat.le_of_ble_eq_true rfl, Nat.le_of_ble_eq_true rfl⟩ (fun H locs S => ?_)
        refine W.eq (g2 := F0 m 70 ls [.int v_21]) rfl ?_
        refine lv_istore_n (lv' := [(3, .int v_21), (0, .ref (B + a0)), (1, .int x1)]) hx hb d_Mod_search_70 rfl hl (by decide) rfl (fun ls hl => ?_)
        refine lv_goto (tgt := 46) hx hb d_Mod_search_71 (by decide) ?_
        exact ih _ _ _ _ _ _ hF _ _ S _ (lv_sub hl [1, 2, 0] rfl)
end S_Mod_search
def f_Mod_search  (g : m_G) (a0 : Nat) : Option (Int32 × m_G) :=
  (m_gR g a0 8 1).bind fun v_1 =>
  Option.bind v_1 fun a_2 =>
  (m_ld g a_2 0 30).bind fun v_3 =>
  (m_gR g a0 8 1).bind fun v_4 =>
  Option.bind v_4 fun a_5 =>
  (m_st g a_5 0 30 0).bind fun g_6 =>
  m_gd (m_is g_6 a0 8) <|
  m_bd (f_Mod_fault g_6 a0 v_3) fun v_8 g_7 =>
  (m_pI g_7 a0 8 21 v_8).bind fun g_9 =>
  if (v_8 : Int32) < 0 then
    (m_pI g_9 a0 8 24 0).bind fun g_11 =>
    (m_pI g_11 a0 8 25 0).bind fun g_12 =>
    f_Mod_search_46 m_fu g_12 a0 v_3 0
  else
    some ((-3), g_9)
set_option maxHeartbeats 1000000 in
set_option maxRecDepth 100000 in
theorem c_Mod_search (l : Launch) (D : va_G) (B : Nat) (K : Nat → ClassId)  (n : Nat) (g : m_G) (a0 : Nat) (r : Int32) (g' : m_G) (hF : f_Mod_search g a0 = some (r, g')) : Met l y_Mod_search (Cond.code y_Mod_search b_Mod_search 4 (some .int) :: m_TB) ({ frames := 4, cells := 0, slots := 0, locals := 107 } : Room) (m_Pc D B K n g [.ref (B + a0)]) (m_Q D B K (some (.int r)) n g') 0 0 (fun q => B ≤ q) := by
  refine m_met (by decide) (Nat.le_of_ble_eq_true rfl) ?_
  intro p e s m args below meth c ls E hr hlk hin hsz S hl
  have E : m_V p m c b_Mod_search 4 s args R_Mod D K := E
  have hz : s.heap.size + 0 = B + n := hsz
  have hl : lv_has ls 4 [(0, .ref (B + a0))] := hl
  have hx := E.1.1
  have hb := E.1.2.1
  have hts := E.1.2.2.2.2
  unfold f_Mod_search at hF
  refine lv_aload_n hx hb d_Mod_search_0 rfl (lv_at hl 0 rfl) ?_
  replace hF := Option.bind_eq_some_iff.mp hF
  obtain ⟨v_1, ev_1, hF⟩ := hF
  refine m_getR (B := B) (a := a0) E S fd_Mod_lengths (Or.inl qw_285) ev_1 d_Mod_search_1 ?_
  refine lv_bipush (v := 30) hx hb d_Mod_search_4 (by decide) ?_
  replace hF := Option.bind_eq_some_iff.mp hF
  obtain ⟨a_2, ea_2, hF⟩ := hF
  subst ea_2
  replace hF := Option.bind_eq_some_iff.mp hF
  obtain ⟨v_3, ev_3, hF⟩ := hF
  refine m_iald (B := B) (a := a_2) (t := 0) E S rfl ev_3 d_Mod_search_6 ?_
  refine lv_istore_n (lv' := [(1, .int v_3), (0, .ref (B + a0))]) hx hb d_Mod_search_7 rfl hl (by decide) rfl (fun ls hl => ?_)
  refine lv_aload_n hx hb d_Mod_search_8 rfl (lv_at hl 1 rfl) ?_
  replace hF := Option.bind_eq_some_iff.mp hF
  obtain ⟨v_4, ev_4, hF⟩ := hF
  refine m_getR (B := B) (a := a0) E S fd_Mod_lengths (Or.inl qw_285) ev_4 d_Mod_search_9 ?_
  refine lv_bipush (v := 30) hx hb d_Mod_search_12 (by decide) ?_
  refine lv_iconst (v := 0) hx hb d_Mod_search_14 (by decide) ?_
  replace hF := Option.bind_eq_some_iff.mp hF
  obtain ⟨a_5, ea_5, hF⟩ := hF
  subst ea_5
  replace hF := Option.bind_eq_some_iff.mp hF
  obtain ⟨g_6, eg_6, hF⟩ := hF
  refine m_iast (B := B) (a := a_5) (t := 0) E S rfl eg_6 d_Mod_search_15 (fun H locs S => ?_)
  refine lv_aload_n hx hb d_Mod_search_16 rfl (lv_at hl 1 rfl) ?_
  refine lv_iload_n hx hb d_Mod_search_17 rfl (lv_at hl 0 rfl) ?_
  replace hF := m_gd_inv hF
  obtain ⟨eog_7, hF⟩ := hF
  replace hF := m_bd_inv hF
  obtain ⟨v_8, g_7, eg_7, hF⟩ := hF
  refine m_callV (B := B) (nn := 1) (b := a0) (As := [.int v_3]) (rest := []) (v := (some (.int v_8))) E S hz (c_Mod_fault l D B K n g_6 a0 v_3 v_8 g_7 eg_7) qc_Mod_fault ⟨rfl, rfl⟩ (Or.inl qw_387) qw_388 qw_389 qw_304 (by decide +kernel) ⟨Nat.le_of_ble_eq_true rfl, Nat.le_of_ble_eq_true rfl⟩ eog_7 rfl rfl hl.1 (Nat.le_of_ble_eq_true rfl) d_Mod_search_18 ⟨Nat.le_of_ble_eq_true rfl, Nat.le_of_ble_eq_true rfl⟩ (fun H locs S => ?_)
  refine W.eq (g2 := F0 m 21 ls [.int v_8]) rfl ?_
  refine lv_istore_n (lv' := [(2, .int v_8), (1, .int v_3), (0, .ref (B + a0))]) hx hb d_Mod_search_21 rfl hl (by decide) rfl (fun ls hl => ?_)
  refine lv_aload_n hx hb d_Mod_search_22 rfl (lv_at hl 2 rfl) ?_
  refine lv_iload_n hx hb d_Mod_search_23 rfl (lv_at hl 0 rfl) ?_
  replace hF := Option.bind_eq_some_iff.mp hF
  obtain ⟨g_9, eg_9, hF⟩ := hF
  refine m_putI (B := B) (a := a0) E S fd_Mod_errorAt (Or.inl qw_300) eg_9 d_Mod_search_24 (fun H locs S => ?_)
  refine lv_iload_n hx hb d_Mod_search_27 rfl (lv_at hl 0 rfl) ?_
  refine lv_if_lt (tgt := 34) hx hb d_Mod_search_28 (by decide) (fun c_10 => ?_) (fun c_10 => ?_)
  · rw [if_pos c_10] at hF
    refine lv_aload_n hx hb d_Mod_search_34 rfl (lv_at hl 2 rfl) ?_
    refine lv_iconst (v := 0) hx hb d_Mod_search_35 (by decide) ?_
    replace hF := Option.bind_eq_some_iff.mp hF
    obtain ⟨g_11, eg_11, hF⟩ := hF
    refine m_putI (B := B) (a := a0) E S fd_Mod_setCount (Or.inl qw_366) eg_11 d_Mod_search_36 (fun H locs S => ?_)
    refine lv_aload_n hx hb d_Mod_search_39 rfl (lv_at hl 2 rfl) ?_
    refine lv_iconst (v := 0) hx hb d_Mod_search_40 (by decide) ?_
    replace hF := Option.bind_eq_some_iff.mp hF
    obtain ⟨g_12, eg_12, hF⟩ := hF
    refine m_putI (B := B) (a := a0) E S fd_Mod_signCount (Or.inl qw_365) eg_12 d_Mod_search_41 (fun H locs S => ?_)
    refine lv_iconst (v := 0) hx hb d_Mod_search_44 (by decide) ?_
    refine lv_istore_n (lv' := [(3, .int 0), (2, .int v_8), (1, .int v_3), (0, .ref (B + a0))]) hx hb d_Mod_search_45 rfl hl (by decide) rfl (fun ls hl => ?_)
    exact c_Mod_search_46 E hr hlk hz m_fu _ _ _ _ _ _ hF _ _ S _ (lv_sub hl [3, 2, 0] rfl)
  · rw [if_neg c_10] at hF
    refine lv_bipush (v := (-3)) hx hb d_Mod_search_31 (by decide) ?_
    cases hF
    exact m_iret E S hz hr hlk d_Mod_search_33
def f_Mod_errorAt  (g : m_G) (a0 : Nat) : Option (Int32 × m_G) :=
  (m_gI g a0 8 21).bind fun v_1 =>
  some (v_1, g)
set_option maxHeartbeats 1000000 in
set_option maxRecDepth 100000 in
theorem c_Mod_errorAt (l : Launch) (D : va_G) (B : Nat) (K : Nat → ClassId)  (n : Nat) (g : m_G) (a0 : Nat) (r : Int32) (g' : m_G) (hF : f_Mod_errorAt g a0 = some (r, g')) : Met l y_Mod_errorAt (Cond.code y_Mod_errorAt b_Mod_errorAt 1 (some .int) :: m_TB) ({ frames := 0, cells := 0, slots := 0, locals := 0 } : Room) (m_Pc D B K n g [.ref (B + a0)]) (m_Q D B K (some (.int r)) n g') 0 0 (fun q => B ≤ q) := by
  refine m_met (by decide) (Nat.le_of_ble_eq_true rfl) ?_
  intro p e s m args below meth c ls E hr hlk hin hsz S hl
  have E : m_V p m c b_Mod_errorAt 1 s args R_Mod D K := E
  have hz : s.heap.size + 0 = B + n := hsz
  have hl : lv_has ls 1 [(0, .ref (B + a0))] := hl
  have hx := E.1.1
  have hb := E.1.2.1
  have hts := E.1.2.2.2.2
  unfold f_Mod_errorAt at hF
  refine lv_aload_n hx hb d_Mod_errorAt_0 rfl (lv_at hl 0 rfl) ?_
  replace hF := Option.bind_eq_some_iff.mp hF
  obtain ⟨v_1, ev_1, hF⟩ := hF
  refine m_getI (B := B) (a := a0) E S fd_Mod_errorAt (Or.inl qw_300) ev_1 d_Mod_errorAt_1 ?_
  cases hF
  exact m_iret E S hz hr hlk d_Mod_errorAt_4
section S_Mod_pick
variable {p : Program} {l : Launch} {e : Env} {s : State} {m : MethodId} {args : Array Value} {below : List Frame} {meth : Method} {c : Code} {D : va_G} {B n : Nat} {K : Nat → ClassId}
def f_Mod_pick_31  (k_4 : m_G → Int32 → Int32 → Int32 → Int32 → Option (Int32 × m_G)) (g : m_G) (x0 : Int32) (x1 : Int32) (x2 : Int32) (x3 : Int32) : Option (Int32 × m_G) :=
  k_4 g x0 x1 x2 (x3 + 1)
set_option maxHeartbeats 1000000 in
set_option maxRecDepth 100000 in
theorem c_Mod_pick_31 (E : m_V p m c b_Mod_pick 4 s args R_Mod D K) (hr : meth.sig.returnType = (some .int)) (hlk : meth.locks = false) (hz : s.heap.size + 0 = B + n)  (k_4 : m_G → Int32 → Int32 → Int32 → Int32 → Option (Int32 × m_G)) (hk_4 : ∀ (g : m_G) (x0 : Int32) (x1 : Int32) (x2 : Int32) (x3 : Int32) (r : Int32) (g' : m_G), k_4 g x0 x1 x2 x3 = some (r, g') → ∀ (H : Heap) (locs : List Loc), m_S D B K n g s.heap H locs → ∀ ls : Array Slot, lv_has ls 4 [(0, .int x0), (1, .int x1), (2, .int x2), (3, .int x3)] → W p l e ({ frames := 0, cells := 0, slots := 0, locals := 0 } : Room) s m args below meth c H locs 0 0 (MQ below (m_Q D B K (some (.int r)) n g') args s 0 0 (fun q => B ≤ q)) (F0 m 4 ls [])) : ∀ (g : m_G) (x0 : Int32) (x1 : Int32) (x2 : Int32) (x3 : Int32) (r : Int32) (g' : m_G), f_Mod_pick_31 k_4 g x0 x1 x2 x3 = some (r, g') → ∀ (H : Heap) (locs : List Loc), m_S D B K n g s.heap H locs → ∀ ls : Array Slot, lv_has ls 4 [(0, .int x0), (1, .int x1), (2, .int x2), (3, .int x3)] → W p l e ({ frames := 0, cells := 0, slots := 0, locals := 0 } : Room) s m args below meth c H locs 0 0 (MQ below (m_Q D B K (some (.int r)) n g') args s 0 0 (fun q => B ≤ q)) (F0 m 31 ls []) := by
  have hx := E.1.1
  have hb := E.1.2.1
  have hts := E.1.2.2.2.2
  intro g x0 x1 x2 x3 r g' hF H locs S ls hl
  unfold f_Mod_pick_31 at hF
  refine lv_iinc (v := (x3 + 1)) (lv' := [(3, .int (x3 + 1)), (0, .int x0), (1, .int x1), (2, .int x2)]) hx hb d_Mod_pick_31 hl (k := 3) rfl rfl (by decide) rfl (fun ls hl => ?_)
  refine lv_goto (tgt := 4) hx hb d_Mod_pick_34 (by decide) ?_
  exact hk_4 _ _ _ _ _ _ _ hF _ _ S _ (lv_sub hl [1, 2, 3, 0] rfl)
def f_Mod_pick_4   : Nat → m_G → Int32 → Int32 → Int32 → Int32 → Option (Int32 × m_G)
  | 0, _, _, _, _, _ => none
  | fu + 1, g, x0, x1, x2, x3 =>
    if (12 : Int32) ≤ x3 then
      some ((-4), g)
    else
      if (((x0 >>> (x3 &&& 31)) &&& 1) : Int32) = 0 then
        f_Mod_pick_31 (f_Mod_pick_4 fu) g x0 x1 x2 x3
      else
        if (x2 : Int32) = x1 then
          some (x3, g)
        else
          f_Mod_pick_31 (f_Mod_pick_4 fu) g x0 x1 (x2 + 1) x3
set_option maxHeartbeats 1000000 in
set_option maxRecDepth 100000 in
theorem c_Mod_pick_4 (E : m_V p m c b_Mod_pick 4 s args R_Mod D K) (hr : meth.sig.returnType = (some .int)) (hlk : meth.locks = false) (hz : s.heap.size + 0 = B + n)   : ∀ fu : Nat, ∀ (g : m_G) (x0 : Int32) (x1 : Int32) (x2 : Int32) (x3 : Int32) (r : Int32) (g' : m_G), f_Mod_pick_4  fu g x0 x1 x2 x3 = some (r, g') → ∀ (H : Heap) (locs : List Loc), m_S D B K n g s.heap H locs → ∀ ls : Array Slot, lv_has ls 4 [(0, .int x0), (1, .int x1), (2, .int x2), (3, .int x3)] → W p l e ({ frames := 0, cells := 0, slots := 0, locals := 0 } : Room) s m args below meth c H locs 0 0 (MQ below (m_Q D B K (some (.int r)) n g') args s 0 0 (fun q => B ≤ q)) (F0 m 4 ls []) := by
  have hx := E.1.1
  have hb := E.1.2.1
  have hts := E.1.2.2.2.2
  intro fu
  induction fu with
  | zero => intro g x0 x1 x2 x3 r g' hF; cases hF
  | succ fu ih =>
    intro g x0 x1 x2 x3 r g' hF H locs S ls hl
    rw [f_Mod_pick_4] at hF
    refine lv_iload_n hx hb d_Mod_pick_4 rfl (lv_at hl 3 rfl) ?_
    refine lv_bipush (v := 12) hx hb d_Mod_pick_5 (by decide) ?_
    refine lv_icmp_ge (tgt := 37) hx hb d_Mod_pick_7 (by decide) (fun c_1 => ?_) (fun c_1 => ?_)
    · rw [if_pos c_1] at hF
      refine lv_bipush (v := (-4)) hx hb d_Mod_pick_37 (by decide) ?_
      cases hF
      exact m_iret E S hz hr hlk d_Mod_pick_39
    · rw [if_neg c_1] at hF
      refine lv_iload_n hx hb d_Mod_pick_10 rfl (lv_at hl 0 rfl) ?_
      refine lv_iload_n hx hb d_Mod_pick_11 rfl (lv_at hl 3 rfl) ?_
      refine lv_ishr hx hb d_Mod_pick_12 ?_
      refine lv_iconst (v := 1) hx hb d_Mod_pick_13 (by decide) ?_
      refine lv_iand hx hb d_Mod_pick_14 ?_
      refine lv_if_ne (tgt := 21) hx hb d_Mod_pick_15 (by decide) (fun c_2 => ?_) (fun c_2 => ?_)
      · rw [if_neg c_2] at hF
        refine lv_iload_n hx hb d_Mod_pick_21 rfl (lv_at hl 2 rfl) ?_
        refine lv_iload_n hx hb d_Mod_pick_22 rfl (lv_at hl 1 rfl) ?_
        refine lv_icmp_ne (tgt := 28) hx hb d_Mod_pick_23 (by decide) (fun c_3 => ?_) (fun c_3 => ?_)
        · rw [if_neg c_3] at hF
          refine lv_iinc (v := (x2 + 1)) (lv' := [(2, .int (x2 + 1)), (0, .int x0), (1, .int x1), (3, .int x3)]) hx hb d_Mod_pick_28 hl (k := 2) rfl rfl (by decide) rfl (fun ls hl => ?_)
          exact c_Mod_pick_31 E hr hlk hz (f_Mod_pick_4 fu) ih _ _ _ _ _ _ _ hF _ _ S _ (lv_sub hl [1, 2, 0, 3] rfl)
        · rw [if_pos c_3] at hF
          refine lv_iload_n hx hb d_Mod_pick_26 rfl (lv_at hl 3 rfl) ?_
          cases hF
          exact m_iret E S hz hr hlk d_Mod_pick_27
      · rw [if_pos c_2] at hF
        refine lv_goto (tgt := 31) hx hb d_Mod_pick_18 (by decide) ?_
        exact c_Mod_pick_31 E hr hlk hz (f_Mod_pick_4 fu) ih _ _ _ _ _ _ _ hF _ _ S _ (lv_sub hl [0, 1, 2, 3] rfl)
end S_Mod_pick
def f_Mod_pick  (g : m_G) (x0 : Int32) (x1 : Int32) : Option (Int32 × m_G) :=
  f_Mod_pick_4 m_fu g x0 x1 0 0
set_option maxHeartbeats 1000000 in
set_option maxRecDepth 100000 in
theorem c_Mod_pick (l : Launch) (D : va_G) (B : Nat) (K : Nat → ClassId)  (n : Nat) (g : m_G) (x0 : Int32) (x1 : Int32) (r : Int32) (g' : m_G) (hF : f_Mod_pick g x0 x1 = some (r, g')) : Met l y_Mod_pick (Cond.code y_Mod_pick b_Mod_pick 4 (some .int) :: m_TB) ({ frames := 0, cells := 0, slots := 0, locals := 0 } : Room) (m_Pc D B K n g [.int x0, .int x1]) (m_Q D B K (some (.int r)) n g') 0 0 (fun q => B ≤ q) := by
  refine m_met (by decide) (Nat.le_of_ble_eq_true rfl) ?_
  intro p e s m args below meth c ls E hr hlk hin hsz S hl
  have E : m_V p m c b_Mod_pick 4 s args R_Mod D K := E
  have hz : s.heap.size + 0 = B + n := hsz
  have hl : lv_has ls 4 [(0, .int x0), (1, .int x1)] := hl
  have hx := E.1.1
  have hb := E.1.2.1
  have hts := E.1.2.2.2.2
  unfold f_Mod_pick at hF
  refine lv_iconst (v := 0) hx hb d_Mod_pick_0 (by decide) ?_
  refine lv_istore_n (lv' := [(2, .int 0), (0, .int x0), (1, .int x1)]) hx hb d_Mod_pick_1 rfl hl (by decide) rfl (fun ls hl => ?_)
  refine lv_iconst (v := 0) hx hb d_Mod_pick_2 (by decide) ?_
  refine lv_istore_n (lv' := [(3, .int 0), (2, .int 0), (0, .int x0), (1, .int x1)]) hx hb d_Mod_pick_3 rfl hl (by decide) rfl (fun ls hl => ?_)
  exact c_Mod_pick_4 E hr hlk hz m_fu _ _ _ _ _ _ _ hF _ _ S _ (lv_sub hl [2, 3, 1, 0] rfl)
def f_Mod_hit  (g : m_G) (a0 : Nat) (x1 : Int32) : Option (Int32 × m_G) :=
  (m_gI g a0 8 20).bind fun v_1 =>
  m_bd (f_Mod_pick g v_1 x1) fun v_3 g_2 =>
  some (v_3, g_2)
set_option maxHeartbeats 1000000 in
set_option maxRecDepth 100000 in
theorem c_Mod_hit (l : Launch) (D : va_G) (B : Nat) (K : Nat → ClassId)  (n : Nat) (g : m_G) (a0 : Nat) (x1 : Int32) (r : Int32) (g' : m_G) (hF : f_Mod_hit g a0 x1 = some (r, g')) : Met l y_Mod_hit (Cond.code y_Mod_hit b_Mod_hit 2 (some .int) :: m_TB) ({ frames := 1, cells := 0, slots := 0, locals := 23 } : Room) (m_Pc D B K n g [.ref (B + a0), .int x1]) (m_Q D B K (some (.int r)) n g') 0 0 (fun q => B ≤ q) := by
  refine m_met (by decide) (Nat.le_of_ble_eq_true rfl) ?_
  intro p e s m args below meth c ls E hr hlk hin hsz S hl
  have E : m_V p m c b_Mod_hit 2 s args R_Mod D K := E
  have hz : s.heap.size + 0 = B + n := hsz
  have hl : lv_has ls 2 [(0, .ref (B + a0)), (1, .int x1)] := hl
  have hx := E.1.1
  have hb := E.1.2.1
  have hts := E.1.2.2.2.2
  unfold f_Mod_hit at hF
  refine lv_aload_n hx hb d_Mod_hit_0 rfl (lv_at hl 0 rfl) ?_
  replace hF := Option.bind_eq_some_iff.mp hF
  obtain ⟨v_1, ev_1, hF⟩ := hF
  refine m_getI (B := B) (a := a0) E S fd_Mod_found (Or.inl qw_390) ev_1 d_Mod_hit_1 ?_
  refine lv_iload_n hx hb d_Mod_hit_4 rfl (lv_at hl 1 rfl) ?_
  replace hF := m_bd_inv hF
  obtain ⟨v_3, g_2, eg_2, hF⟩ := hF
  refine m_callS (B := B) (nn := 2) (As := [.int v_1, .int x1]) (rest := []) (v := (some (.int v_3))) E S hz (c_Mod_pick l D B K n g v_1 x1 v_3 g_2 eg_2) qc_Mod_pick ⟨rfl, rfl⟩ (Or.inl qw_399) qw_400 qw_304 (by decide +kernel) ⟨Nat.le_of_ble_eq_true rfl, Nat.le_of_ble_eq_true rfl⟩ rfl hl.1 (Nat.le_of_ble_eq_true rfl) d_Mod_hit_5 ⟨Nat.le_of_ble_eq_true rfl, Nat.le_of_ble_eq_true rfl⟩ (fun H locs S => ?_)
  refine W.eq (g2 := F0 m 8 ls [.int v_3]) rfl ?_
  cases hF
  exact m_iret E S hz hr hlk d_Mod_hit_8
section S_Mod_addedAfter
variable {p : Program} {l : Launch} {e : Env} {s : State} {m : MethodId} {args : Array Value} {below : List Frame} {meth : Method} {c : Code} {D : va_G} {B n : Nat} {K : Nat → ClassId}
def f_Mod_addedAfter_50  (k_4 : m_G → Nat → Int32 → Int32 → Int32 → Option (Int32 × m_G)) (g : m_G) (a0 : Nat) (x1 : Int32) (x2 : Int32) (x3 : Int32) : Option (Int32 × m_G) :=
  k_4 g a0 x1 x2 (x3 + 1)
set_option maxHeartbeats 1000000 in
set_option maxRecDepth 100000 in
theorem c_Mod_addedAfter_50 (E : m_V p m c b_Mod_addedAfter 4 s args R_Mod D K) (hr : meth.sig.returnType = (some .int)) (hlk : meth.locks = false) (hz : s.heap.size + 0 = B + n)  (k_4 : m_G → Nat → Int32 → Int32 → Int32 → Option (Int32 × m_G)) (hk_4 : ∀ (g : m_G) (a0 : Nat) (x1 : Int32) (x2 : Int32) (x3 : Int32) (r : Int32) (g' : m_G), k_4 g a0 x1 x2 x3 = some (r, g') → ∀ (H : Heap) (locs : List Loc), m_S D B K n g s.heap H locs → ∀ ls : Array Slot, lv_has ls 4 [(0, .ref (B + a0)), (1, .int x1), (2, .int x2), (3, .int x3)] → W p l e ({ frames := 0, cells := 0, slots := 0, locals := 0 } : Room) s m args below meth c H locs 0 0 (MQ below (m_Q D B K (some (.int r)) n g') args s 0 0 (fun q => B ≤ q)) (F0 m 4 ls [])) : ∀ (g : m_G) (a0 : Nat) (x1 : Int32) (x2 : Int32) (x3 : Int32) (r : Int32) (g' : m_G), f_Mod_addedAfter_50 k_4 g a0 x1 x2 x3 = some (r, g') → ∀ (H : Heap) (locs : List Loc), m_S D B K n g s.heap H locs → ∀ ls : Array Slot, lv_has ls 4 [(0, .ref (B + a0)), (1, .int x1), (2, .int x2), (3, .int x3)] → W p l e ({ frames := 0, cells := 0, slots := 0, locals := 0 } : Room) s m args below meth c H locs 0 0 (MQ below (m_Q D B K (some (.int r)) n g') args s 0 0 (fun q => B ≤ q)) (F0 m 50 ls []) := by
  have hx := E.1.1
  have hb := E.1.2.1
  have hts := E.1.2.2.2.2
  intro g a0 x1 x2 x3 r g' hF H locs S ls hl
  unfold f_Mod_addedAfter_50 at hF
  refine lv_iinc (v := (x3 + 1)) (lv' := [(3, .int (x3 + 1)), (0, .ref (B + a0)), (1, .int x1), (2, .int x2)]) hx hb d_Mod_addedAfter_50 hl (k := 3) rfl rfl (by decide) rfl (fun ls hl => ?_)
  refine lv_goto (tgt := 4) hx hb d_Mod_addedAfter_53 (by decide) ?_
  exact hk_4 _ _ _ _ _ _ _ hF _ _ S _ (lv_sub hl [1, 2, 3, 0] rfl)
def f_Mod_addedAfter_48  (k_4 : m_G → Nat → Int32 → Int32 → Int32 → Option (Int32 × m_G)) (g : m_G) (a0 : Nat) (x1 : Int32) (x3 : Int32) : Option (Int32 × m_G) :=
  f_Mod_addedAfter_50 k_4 g a0 x1 x3 x3
set_option maxHeartbeats 1000000 in
set_option maxRecDepth 100000 in
theorem c_Mod_addedAfter_48 (E : m_V p m c b_Mod_addedAfter 4 s args R_Mod D K) (hr : meth.sig.returnType = (some .int)) (hlk : meth.locks = false) (hz : s.heap.size + 0 = B + n)  (k_4 : m_G → Nat → Int32 → Int32 → Int32 → Option (Int32 × m_G)) (hk_4 : ∀ (g : m_G) (a0 : Nat) (x1 : Int32) (x2 : Int32) (x3 : Int32) (r : Int32) (g' : m_G), k_4 g a0 x1 x2 x3 = some (r, g') → ∀ (H : Heap) (locs : List Loc), m_S D B K n g s.heap H locs → ∀ ls : Array Slot, lv_has ls 4 [(0, .ref (B + a0)), (1, .int x1), (2, .int x2), (3, .int x3)] → W p l e ({ frames := 0, cells := 0, slots := 0, locals := 0 } : Room) s m args below meth c H locs 0 0 (MQ below (m_Q D B K (some (.int r)) n g') args s 0 0 (fun q => B ≤ q)) (F0 m 4 ls [])) : ∀ (g : m_G) (a0 : Nat) (x1 : Int32) (x3 : Int32) (r : Int32) (g' : m_G), f_Mod_addedAfter_48 k_4 g a0 x1 x3 = some (r, g') → ∀ (H : Heap) (locs : List Loc), m_S D B K n g s.heap H locs → ∀ ls : Array Slot, lv_has ls 4 [(0, .ref (B + a0)), (1, .int x1), (3, .int x3)] → W p l e ({ frames := 0, cells := 0, slots := 0, locals := 0 } : Room) s m args below meth c H locs 0 0 (MQ below (m_Q D B K (some (.int r)) n g') args s 0 0 (fun q => B ≤ q)) (F0 m 48 ls []) := by
  have hx := E.1.1
  have hb := E.1.2.1
  have hts := E.1.2.2.2.2
  intro g a0 x1 x3 r g' hF H locs S ls hl
  unfold f_Mod_addedAfter_48 at hF
  refine lv_iload_n hx hb d_Mod_addedAfter_48 rfl (lv_at hl 2 rfl) ?_
  refine lv_istore_n (lv' := [(2, .int x3), (0, .ref (B + a0)), (1, .int x1), (3, .int x3)]) hx hb d_Mod_addedAfter_49 rfl hl (by decide) rfl (fun ls hl => ?_)
  exact c_Mod_addedAfter_50 E hr hlk hz k_4 hk_4 _ _ _ _ _ _ _ hF _ _ S _ (lv_sub hl [1, 2, 0, 3] rfl)
def f_Mod_addedAfter_4   : Nat → m_G → Nat → Int32 → Int32 → Int32 → Option (Int32 × m_G)
  | 0, _, _, _, _, _ => none
  | fu + 1, g, a0, x1, x2, x3 =>
    if (12 : Int32) ≤ x3 then
      some (x2, g)
    else
      (m_gR g a0 8 7).bind fun v_2 =>
      Option.bind v_2 fun a_3 =>
      (m_ld g a_3 3 x3).bind fun v_4 =>
      if (v_4 : Int32) = 0 then
        f_Mod_addedAfter_50 (f_Mod_addedAfter_4 fu) g a0 x1 x2 x3
      else
        (m_gR g a0 8 9).bind fun v_6 =>
        Option.bind v_6 fun a_7 =>
        (m_ld g a_7 0 x3).bind fun v_8 =>
        if (v_8 : Int32) ≤ x1 then
          f_Mod_addedAfter_50 (f_Mod_addedAfter_4 fu) g a0 x1 x2 x3
        else
          if (x2 : Int32) < 0 then
            f_Mod_addedAfter_48 (f_Mod_addedAfter_4 fu) g a0 x1 x3
          else
            (m_gR g a0 8 9).bind fun v_11 =>
            Option.bind v_11 fun a_12 =>
            (m_ld g a_12 0 x3).bind fun v_13 =>
            (m_gR g a0 8 9).bind fun v_14 =>
            Option.bind v_14 fun a_15 =>
            (m_ld g a_15 0 x2).bind fun v_16 =>
            if (v_16 : Int32) ≤ v_13 then
              f_Mod_addedAfter_50 (f_Mod_addedAfter_4 fu) g a0 x1 x2 x3
            else
              f_Mod_addedAfter_48 (f_Mod_addedAfter_4 fu) g a0 x1 x3
set_option maxHeartbeats 1000000 in
set_option maxRecDepth 100000 in
theorem c_Mod_addedAfter_4 (E : m_V p m c b_Mod_addedAfter 4 s args R_Mod D K) (hr : meth.sig.returnType = (some .int)) (hlk : meth.locks = false) (hz : s.heap.size + 0 = B + n)   : ∀ fu : Nat, ∀ (g : m_G) (a0 : Nat) (x1 : Int32) (x2 : Int32) (x3 : Int32) (r : Int32) (g' : m_G), f_Mod_addedAfter_4  fu g a0 x1 x2 x3 = some (r, g') → ∀ (H : Heap) (locs : List Loc), m_S D B K n g s.heap H locs → ∀ ls : Array Slot, lv_has ls 4 [(0, .ref (B + a0)), (1, .int x1), (2, .int x2), (3, .int x3)] → W p l e ({ frames := 0, cells := 0, slots := 0, locals := 0 } : Room) s m args below meth c H locs 0 0 (MQ below (m_Q D B K (some (.int r)) n g') args s 0 0 (fun q => B ≤ q)) (F0 m 4 ls []) := by
  have hx := E.1.1
  have hb := E.1.2.1
  have hts := E.1.2.2.2.2
  intro fu
  induction fu with
  | zero => intro g a0 x1 x2 x3 r g' hF; cases hF
  | succ fu ih =>
    intro g a0 x1 x2 x3 r g' hF H locs S ls hl
    rw [f_Mod_addedAfter_4] at hF
    refine lv_iload_n hx hb d_Mod_addedAfter_4 rfl (lv_at hl 3 rfl) ?_
    refine lv_bipush (v := 12) hx hb d_Mod_addedAfter_5 (by decide) ?_
    refine lv_icmp_ge (tgt := 56) hx hb d_Mod_addedAfter_7 (by decide) (fun c_1 => ?_) (fun c_1 => ?_)
    · rw [if_pos c_1] at hF
      refine lv_iload_n hx hb d_Mod_addedAfter_56 rfl (lv_at hl 2 rfl) ?_
      cases hF
      exact m_iret E S hz hr hlk d_Mod_addedAfter_57
    · rw [if_neg c_1] at hF
      refine lv_aload_n hx hb d_Mod_addedAfter_10 rfl (lv_at hl 0 rfl) ?_
      replace hF := Option.bind_eq_some_iff.mp hF
      obtain ⟨v_2, ev_2, hF⟩ := hF
      refine m_getR (B := B) (a := a0) E S fd_Mod_there (Or.inl qw_289) ev_2 d_Mod_addedAfter_11 ?_
      refine lv_iload_n hx hb d_Mod_addedAfter_14 rfl (lv_at hl 3 rfl) ?_
      replace hF := Option.bind_eq_some_iff.mp hF
      obtain ⟨a_3, ea_3, hF⟩ := hF
      subst ea_3
      replace hF := Option.bind_eq_some_iff.mp hF
      obtain ⟨v_4, ev_4, hF⟩ := hF
      refine m_zald (B := B) (a := a_3) (t := 3) E S rfl ev_4 d_Mod_addedAfter_15 ?_
      refine lv_if_eq (tgt := 50) hx hb d_Mod_addedAfter_16 (by decide) (fun c_5 => ?_) (fun c_5 => ?_)
      · rw [if_pos c_5] at hF
        exact c_Mod_addedAfter_50 E hr hlk hz (f_Mod_addedAfter_4 fu) ih _ _ _ _ _ _ _ hF _ _ S _ (lv_sub hl [0, 1, 2, 3] rfl)
      · rw [if_neg c_5] at hF
        refine lv_aload_n hx hb d_Mod_addedAfter_19 rfl (lv_at hl 0 rfl) ?_
        replace hF := Option.bind_eq_some_iff.mp hF
        obtain ⟨v_6, ev_6, hF⟩ := hF
        refine m_getR (B := B) (a := a0) E S fd_Mod_order (Or.inl qw_291) ev_6 d_Mod_addedAfter_20 ?_
        refine lv_iload_n hx hb d_Mod_addedAfter_23 rfl (lv_at hl 3 rfl) ?_
        replace hF := Option.bind_eq_some_iff.mp hF
        obtain ⟨a_7, ea_7, hF⟩ := hF
        subst ea_7
        replace hF := Option.bind_eq_some_iff.mp hF
        obtain ⟨v_8, ev_8, hF⟩ := hF
        refine m_iald (B := B) (a := a_7) (t := 0) E S rfl ev_8 d_Mod_addedAfter_24 ?_
        refine lv_iload_n hx hb d_Mod_addedAfter_25 rfl (lv_at hl 1 rfl) ?_
        refine lv_icmp_le (tgt := 50) hx hb d_Mod_addedAfter_26 (by decide) (fun c_9 => ?_) (fun c_9 => ?_)
        · rw [if_pos c_9] at hF
          exact c_Mod_addedAfter_50 E hr hlk hz (f_Mod_addedAfter_4 fu) ih _ _ _ _ _ _ _ hF _ _ S _ (lv_sub hl [0, 1, 2, 3] rfl)
        · rw [if_neg c_9] at hF
          refine lv_iload_n hx hb d_Mod_addedAfter_29 rfl (lv_at hl 2 rfl) ?_
          refine lv_if_lt (tgt := 48) hx hb d_Mod_addedAfter_30 (by decide) (fun c_10 => ?_) (fun c_10 => ?_)
          · rw [if_pos c_10] at hF
            exact c_Mod_addedAfter_48 E hr hlk hz (f_Mod_addedAfter_4 fu) ih _ _ _ _ _ _ hF _ _ S _ (lv_sub hl [0, 1, 3] rfl)
          · rw [if_neg c_10] at hF
            refine lv_aload_n hx hb d_Mod_addedAfter_33 rfl (lv_at hl 0 rfl) ?_
            replace hF := Option.bind_eq_some_iff.mp hF
            obtain ⟨v_11, ev_11, hF⟩ := hF
            refine m_getR (B := B) (a := a0) E S fd_Mod_order (Or.inl qw_291) ev_11 d_Mod_addedAfter_34 ?_
            refine lv_iload_n hx hb d_Mod_addedAfter_37 rfl (lv_at hl 3 rfl) ?_
            replace hF := Option.bind_eq_some_iff.mp hF
            obtain ⟨a_12, ea_12, hF⟩ := hF
            subst ea_12
            replace hF := Option.bind_eq_some_iff.mp hF
            obtain ⟨v_13, ev_13, hF⟩ := hF
            refine m_iald (B := B) (a := a_12) (t := 0) E S rfl ev_13 d_Mod_addedAfter_38 ?_
            refine lv_aload_n hx hb d_Mod_addedAfter_39 rfl (lv_at hl 0 rfl) ?_
            replace hF := Option.bind_eq_some_iff.mp hF
            obtain ⟨v_14, ev_14, hF⟩ := hF
            refine m_getR (B := B) (a := a0) E S fd_Mod_order (Or.inl qw_291) ev_14 d_Mod_addedAfter_40 ?_
            refine lv_iload_n hx hb d_Mod_addedAfter_43 rfl (lv_at hl 2 rfl) ?_
            replace hF := Option.bind_eq_some_iff.mp hF
            obtain ⟨a_15, ea_15, hF⟩ := hF
            subst ea_15
            replace hF := Option.bind_eq_some_iff.mp hF
            obtain ⟨v_16, ev_16, hF⟩ := hF
            refine m_iald (B := B) (a := a_15) (t := 0) E S rfl ev_16 d_Mod_addedAfter_44 ?_
            refine lv_icmp_ge (tgt := 50) hx hb d_Mod_addedAfter_45 (by decide) (fun c_17 => ?_) (fun c_17 => ?_)
            · rw [if_pos c_17] at hF
              exact c_Mod_addedAfter_50 E hr hlk hz (f_Mod_addedAfter_4 fu) ih _ _ _ _ _ _ _ hF _ _ S _ (lv_sub hl [0, 1, 2, 3] rfl)
            · rw [if_neg c_17] at hF
              exact c_Mod_addedAfter_48 E hr hlk hz (f_Mod_addedAfter_4 fu) ih _ _ _ _ _ _ hF _ _ S _ (lv_sub hl [0, 1, 3] rfl)
end S_Mod_addedAfter
def f_Mod_addedAfter  (g : m_G) (a0 : Nat) (x1 : Int32) : Option (Int32 × m_G) :=
  f_Mod_addedAfter_4 m_fu g a0 x1 (-1) 0
set_option maxHeartbeats 1000000 in
set_option maxRecDepth 100000 in
theorem c_Mod_addedAfter (l : Launch) (D : va_G) (B : Nat) (K : Nat → ClassId)  (n : Nat) (g : m_G) (a0 : Nat) (x1 : Int32) (r : Int32) (g' : m_G) (hF : f_Mod_addedAfter g a0 x1 = some (r, g')) : Met l y_Mod_addedAfter (Cond.code y_Mod_addedAfter b_Mod_addedAfter 4 (some .int) :: m_TB) ({ frames := 0, cells := 0, slots := 0, locals := 0 } : Room) (m_Pc D B K n g [.ref (B + a0), .int x1]) (m_Q D B K (some (.int r)) n g') 0 0 (fun q => B ≤ q) := by
  refine m_met (by decide) (Nat.le_of_ble_eq_true rfl) ?_
  intro p e s m args below meth c ls E hr hlk hin hsz S hl
  have E : m_V p m c b_Mod_addedAfter 4 s args R_Mod D K := E
  have hz : s.heap.size + 0 = B + n := hsz
  have hl : lv_has ls 4 [(0, .ref (B + a0)), (1, .int x1)] := hl
  have hx := E.1.1
  have hb := E.1.2.1
  have hts := E.1.2.2.2.2
  unfold f_Mod_addedAfter at hF
  refine lv_iconst (v := (-1)) hx hb d_Mod_addedAfter_0 (by decide) ?_
  refine lv_istore_n (lv' := [(2, .int (-1)), (0, .ref (B + a0)), (1, .int x1)]) hx hb d_Mod_addedAfter_1 rfl hl (by decide) rfl (fun ls hl => ?_)
  refine lv_iconst (v := 0) hx hb d_Mod_addedAfter_2 (by decide) ?_
  refine lv_istore_n (lv' := [(3, .int 0), (2, .int (-1)), (0, .ref (B + a0)), (1, .int x1)]) hx hb d_Mod_addedAfter_3 rfl hl (by decide) rfl (fun ls hl => ?_)
  exact c_Mod_addedAfter_4 E hr hlk hz m_fu _ _ _ _ _ _ _ hF _ _ S _ (lv_sub hl [2, 3, 1, 0] rfl)
