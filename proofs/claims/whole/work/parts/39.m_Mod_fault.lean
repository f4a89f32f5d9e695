section S_Mod_fault
variable {p : Program} {l : Launch} {e : Env} {s : State} {m : MethodId} {args : Array Value} {below : List Frame} {meth : Method} {c : Code} {D : va_G} {B n : Nat} {K : Nat → ClassId}
def f_Mod_fault_108   (g : m_G) (y0 : Int32) : Option (Int32 × m_G) :=
  some (y0, g)
set_option maxHeartbeats 1000000 in
set_option maxRecDepth 100000 in
theorem c_Mod_fault_108 (E : m_V p m c b_Mod_fault 6 s args R_Mod D K) (hr : meth.sig.returnType = (some .int)) (hlk : meth.locks = false) (hz : s.heap.size + 0 = B + n)   : ∀ (g : m_G) (y0 : Int32) (r : Int32) (g' : m_G), f_Mod_fault_108 g y0 = some (r, g') → ∀ (H : Heap) (locs : List Loc), m_S D B K n g s.heap H locs → ∀ ls : Array Slot, lv_has ls 6 [] → W p l e ({ frames := 2, cells := 0, slots := 0, locals := 44 } : Room) s m args below meth c H locs 0 0 (MQ below (m_Q D B K (some (.int r)) n g') args s 0 0 (fun q => B ≤ q)) (F0 m 108 ls [.int y0]) := by
  have hx := E.1.1
  have hb := E.1.2.1
  have hts := E.1.2.2.2.2
  intro g y0 r g' hF H locs S ls hl
  unfold f_Mod_fault_108 at hF
  cases hF
  exact m_iret E S hz hr hlk d_Mod_fault_108
def f_Mod_fault_107   (g : m_G) (x1 : Int32) : Option (Int32 × m_G) :=
  f_Mod_fault_108 g x1
set_option maxHeartbeats 1000000 in
set_option maxRecDepth 100000 in
theorem c_Mod_fault_107 (E : m_V p m c b_Mod_fault 6 s args R_Mod D K) (hr : meth.sig.returnType = (some .int)) (hlk : meth.locks = false) (hz : s.heap.size + 0 = B + n)   : ∀ (g : m_G) (x1 : Int32) (r : Int32) (g' : m_G), f_Mod_fault_107 g x1 = some (r, g') → ∀ (H : Heap) (locs : List Loc), m_S D B K n g s.heap H locs → ∀ ls : Array Slot, lv_has ls 6 [(1, .int x1)] → W p l e ({ frames := 2, cells := 0, slots := 0, locals := 44 } : Room) s m args below meth c H locs 0 0 (MQ below (m_Q D B K (some (.int r)) n g') args s 0 0 (fun q => B ≤ q)) (F0 m 107 ls []) := by
  have hx := E.1.1
  have hb := E.1.2.1
  have hts := E.1.2.2.2.2
  intro g x1 r g' hF H locs S ls hl
  unfold f_Mod_fault_107 at hF
  refine lv_iload_n hx hb d_Mod_fault_107 rfl (lv_at hl 0 rfl) ?_
  exact c_Mod_fault_108 E hr hlk hz _ _ _ _ hF _ _ S _ (lv_sub hl [] rfl)
def f_Mod_fault_103   (g : m_G)  : Option (Int32 × m_G) :=
  f_Mod_fault_108 g (-1)
set_option maxHeartbeats 1000000 in
set_option maxRecDepth 100000 in
theorem c_Mod_fault_103 (E : m_V p m c b_Mod_fault 6 s args R_Mod D K) (hr : meth.sig.returnType = (some .int)) (hlk : meth.locks = false) (hz : s.heap.size + 0 = B + n)   : ∀ (g : m_G)  (r : Int32) (g' : m_G), f_Mod_fault_103 g  = some (r, g') → ∀ (H : Heap) (locs : List Loc), m_S D B K n g s.heap H locs → ∀ ls : Array Slot, lv_has ls 6 [] → W p l e ({ frames := 2, cells := 0, slots := 0, locals := 44 } : Room) s m args below meth c H locs 0 0 (MQ below (m_Q D B K (some (.int r)) n g') args s 0 0 (fun q => B ≤ q)) (F0 m 103 ls []) := by
  have hx := E.1.1
  have hb := E.1.2.1
  have hts := E.1.2.2.2.2
  intro g  r g' hF H locs S ls hl
  unfold f_Mod_fault_103 at hF
  refine lv_iconst (v := (-1)) hx hb d_Mod_fault_103 (by decide) ?_
  refine lv_goto (tgt := 108) hx hb d_Mod_fault_104 (by decide) ?_
  exact c_Mod_fault_108 E hr hlk hz _ _ _ _ hF _ _ S _ (lv_sub hl [] rfl)
def f_Mod_fault_78  (k_7 : m_G → Nat → Int32 → Int32 → Int32 → Int32 → Option (Int32 × m_G)) (g : m_G) (a0 : Nat) (x1 : Int32) (x2 : Int32) (x3 : Int32) (x4 : Int32) : Option (Int32 × m_G) :=
  k_7 g a0 x1 x2 x3 (x4 + 1)
set_option maxHeartbeats 1000000 in
set_option maxRecDepth 100000 in
theorem c_Mod_fault_78 (E : m_V p m c b_Mod_fault 6 s args R_Mod D K) (hr : meth.sig.returnType = (some .int)) (hlk : meth.locks = false) (hz : s.heap.size + 0 = B + n)  (k_7 : m_G → Nat → Int32 → Int32 → Int32 → Int32 → Option (Int32 × m_G)) (hk_7 : ∀ (g : m_G) (a0 : Nat) (x1 : Int32) (x2 : Int32) (x3 : Int32) (x4 : Int32) (r : Int32) (g' : m_G), k_7 g a0 x1 x2 x3 x4 = some (r, g') → ∀ (H : Heap) (locs : List Loc), m_S D B K n g s.heap H locs → ∀ ls : Array Slot, lv_has ls 6 [(0, .ref (B + a0)), (1, .int x1), (2, .int x2), (3, .int x3), (4, .int x4)] → W p l e ({ frames := 2, cells := 0, slots := 0, locals := 44 } : Room) s m args below meth c H locs 0 0 (MQ below (m_Q D B K (some (.int r)) n g') args s 0 0 (fun q => B ≤ q)) (F0 m 7 ls [])) : ∀ (g : m_G) (a0 : Nat) (x1 : Int32) (x2 : Int32) (x3 : Int32) (x4 : Int32) (r : Int32) (g' : m_G), f_Mod_fault_78 k_7 g a0 x1 x2 x3 x4 = some (r, g') → ∀ (H : Heap) (locs : List Loc), m_S D B K n g s.heap H locs → ∀ ls : Array Slot, lv_has ls 6 [(0, .ref (B + a0)), (1, .int x1), (2, .int x2), (3, .int x3), (4, .int x4)] → W p l e ({ frames := 2, cells := 0, slots := 0, locals := 44 } : Room) s m args below meth c H locs 0 0 (MQ below (m_Q D B K (some (.int r)) n g') args s 0 0 (fun q => B ≤ q)) (F0 m 78 ls []) := by
  have hx := E.1.1
  have hb := E.1.2.1
  have hts := E.1.2.2.2.2
  intro g a0 x1 x2 x3 x4 r g' hF H locs S ls hl
  unfold f_Mod_fault_78 at hF
  refine lv_iinc (v := (x4 + 1)) (lv' := [(4, .int (x4 + 1)), (0, .ref (B + a0)), (1, .int x1), (2, .int x2), (3, .int x3)]) hx hb d_Mod_fault_78 hl (k := 4) rfl rfl (by decide) rfl (fun ls hl => ?_)
  refine lv_goto (tgt := 7) hx hb d_Mod_fault_81 (by decide) ?_
  exact hk_7 _ _ _ _ _ _ _ _ hF _ _ S _ (lv_sub hl [1, 2, 3, 4, 0] rfl)
def f_Mod_fault_68  (k_7 : m_G → Nat → Int32 → Int32 → Int32 → Int32 → Option (Int32 × m_G)) (g : m_G) (a0 : Nat) (x1 : Int32) (x2 : Int32) (x3 : Int32) (x4 : Int32) (x5 : Int32) : Option (Int32 × m_G) :=
  if (x5 : Int32) = 41 then
    f_Mod_fault_78 k_7 g a0 x1 x2 (x3 + (-1)) x4
  else
    f_Mod_fault_78 k_7 g a0 x1 x2 x3 x4
set_option maxHeartbeats 1000000 in
set_option maxRecDepth 100000 in
theorem c_Mod_fault_68 (E : m_V p m c b_Mod_fault 6 s args R_Mod D K) (hr : meth.sig.returnType = (some .int)) (hlk : meth.locks = false) (hz : s.heap.size + 0 = B + n)  (k_7 : m_G → Nat → Int32 → Int32 → Int32 → Int32 → Option (Int32 × m_G)) (hk_7 : ∀ (g : m_G) (a0 : Nat) (x1 : Int32) (x2 : Int32) (x3 : Int32) (x4 : Int32) (r : Int32) (g' : m_G), k_7 g a0 x1 x2 x3 x4 = some (r, g') → ∀ (H : Heap) (locs : List Loc), m_S D B K n g s.heap H locs → ∀ ls : Array Slot, lv_has ls 6 [(0, .ref (B + a0)), (1, .int x1), (2, .int x2), (3, .int x3), (4, .int x4)] → W p l e ({ frames := 2, cells := 0, slots := 0, locals := 44 } : Room) s m args below meth c H locs 0 0 (MQ below (m_Q D B K (some (.int r)) n g') args s 0 0 (fun q => B ≤ q)) (F0 m 7 ls [])) : ∀ (g : m_G) (a0 : Nat) (x1 : Int32) (x2 : Int32) (x3 : Int32) (x4 : Int32) (x5 : Int32) (r : Int32) (g' : m_G), f_Mod_fault_68 k_7 g a0 x1 x2 x3 x4 x5 = some (r, g') → ∀ (H : Heap) (locs : List Loc), m_S D B K n g s.heap H locs → ∀ ls : Array Slot, lv_has ls 6 [(0, .ref (B + a0)), (1, .int x1), (2, .int x2), (3, .int x3), (4, .int x4), (5, .int x5)] → W p l e ({ frames := 2, cells := 0, slots := 0, locals := 44 } : Room) s m args below meth c H locs 0 0 (MQ below (m_Q D B K (some (.int r)) n g') args s 0 0 (fun q => B ≤ q)) (F0 m 68 ls []) := by
  have hx := E.1.1
  have hb := E.1.2.1
  have hts := E.1.2.2.2.2
  intro g a0 x1 x2 x3 x4 x5 r g' hF H locs S ls hl
  unfold f_Mod_fault_68 at hF
  refine lv_iload hx hb d_Mod_fault_68 (lv_at hl 5 rfl) ?_
  refine lv_bipush (v := 41) hx hb d_Mod_fault_70 (by decide) ?_
  refine lv_icmp_ne (tgt := 78) hx hb d_Mod_fault_72 (by decide) (fun c_1 => ?_) (fun c_1 => ?_)
  · rw [if_neg c_1] at hF
    exact c_Mod_fault_78 E hr hlk hz k_7 hk_7 _ _ _ _ _ _ _ _ hF _ _ S _ (lv_sub hl [0, 1, 2, 3, 4] rfl)
  · rw [if_pos c_1] at hF
    refine lv_iinc (v := (x3 + (-1))) (lv' := [(3, .int (x3 + (-1))), (0, .ref (B + a0)), (1, .int x1), (2, .int x2), (4, .int x4), (5, .int x5)]) hx hb d_Mod_fault_75 hl (k := 3) rfl rfl (by decide) rfl (fun ls hl => ?_)
    exact c_Mod_fault_78 E hr hlk hz k_7 hk_7 _ _ _ _ _ _ _ _ hF _ _ S _ (lv_sub hl [1, 2, 3, 0, 4] rfl)
def f_Mod_fault_46  (k_7 : m_G → Nat → Int32 → Int32 → Int32 → Int32 → Option (Int32 × m_G)) (g : m_G) (a0 : Nat) (x1 : Int32) (x3 : Int32) (x4 : Int32) (x5 : Int32) (y0 : Int32) (y1 : Int32) (y2 : Int32) (t3 : Option Nat) : Option (Int32 × m_G) :=
  Option.bind t3 fun a_1 =>
  m_gd (m_is g a_1 8) <|
  m_bd (f_Mod_nextState g a_1 y2 y1 y0 x3) fun v_3 g_2 =>
  if (0 : Int32) ≤ v_3 then
    if (x5 : Int32) = 40 then
      f_Mod_fault_68 k_7 g_2 a0 x1 v_3 (x3 + 1) x4 x5
    else
      f_Mod_fault_68 k_7 g_2 a0 x1 v_3 x3 x4 x5
  else
    some (x4, g_2)
set_option maxHeartbeats 1000000 in
set_option maxRecDepth 100000 in
theorem c_Mod_fault_46 (E : m_V p m c b_Mod_fault 6 s args R_Mod D K) (hr : meth.sig.returnType = (some .int)) (hlk : meth.locks = false) (hz : s.heap.size + 0 = B + n)  (k_7 : m_G → Nat → Int32 → Int32 → Int32 → Int32 → Option (Int32 × m_G)) (hk_7 : ∀ (g : m_G) (a0 : Nat) (x1 : Int32) (x2 : Int32) (x3 : Int32) (x4 : Int32) (r : Int32) (g' : m_G), k_7 g a0 x1 x2 x3 x4 = some (r, g') → ∀ (H : Heap) (locs : List Loc), m_S D B K n g s.heap H locs → ∀ ls : Array Slot, lv_has ls 6 [(0, .ref (B + a0)), (1, .int x1), (2, .int x2), (3, .int x3), (4, .int x4)] → W p l e ({ frames := 2, cells := 0, slots := 0, locals := 44 } : Room) s m args below meth c H locs 0 0 (MQ below (m_Q D B K (some (.int r)) n g') args s 0 0 (fun q => B ≤ q)) (F0 m 7 ls [])) : ∀ (g : m_G) (a0 : Nat) (x1 : Int32) (x3 : Int32) (x4 : Int32) (x5 : Int32) (y0 : Int32) (y1 : Int32) (y2 : Int32) (t3 : Option Nat) (r : Int32) (g' : m_G), f_Mod_fault_46 k_7 g a0 x1 x3 x4 x5 y0 y1 y2 t3 = some (r, g') → ∀ (H : Heap) (locs : List Loc), m_S D B K n g s.heap H locs → ∀ ls : Array Slot, lv_has ls 6 [(0, .ref (B + a0)), (1, .int x1), (3, .int x3), (4, .int x4), (5, .int x5)] → W p l e ({ frames := 2, cells := 0, slots := 0, locals := 44 } : Room) s m args below meth c H locs 0 0 (MQ below (m_Q D B K (some (.int r)) n g') args s 0 0 (fun q => B ≤ q)) (F0 m 46 ls [.int y0, .int y1, .int y2, m_r B t3]) := by
  have hx := E.1.1
  have hb := E.1.2.1
  have hts := E.1.2.2.2.2
  intro g a0 x1 x3 x4 x5 y0 y1 y2 t3 r g' hF H locs S ls hl
  unfold f_Mod_fault_46 at hF
  refine lv_iload_n hx hb d_Mod_fault_46 rfl (lv_at hl 2 rfl) ?_
  replace hF := Option.bind_eq_some_iff.mp hF
  obtain ⟨a_1, ea_1, hF⟩ := hF
  subst ea_1
  replace hF := m_gd_inv hF
  obtain ⟨eog_2, hF⟩ := hF
  replace hF := m_bd_inv hF
  obtain ⟨v_3, g_2, eg_2, hF⟩ := hF
  refine m_callV (B := B) (nn := 4) (b := a_1) (As := [.int y2, .int y1, .int y0, .int x3]) (rest := []) (v := (some (.int v_3))) E S hz (c_Mod_nextState l D B K n g a_1 y2 y1 y0 x3 v_3 g_2 eg_2) qc_Mod_nextState ⟨rfl, rfl⟩ (Or.inl qw_362) qw_363 qw_364 qw_304 (by decide +kernel) ⟨Nat.le_of_ble_eq_true rfl, Nat.le_of_ble_eq_true rfl⟩ eog_2 rfl rfl hl.1 (Nat.le_of_ble_eq_true rfl) d_Mod_fault_47 ⟨Nat.le_of_ble_eq_true rfl, Nat.le_of_ble_eq_true rfl⟩ (fun H locs S => ?_)
  refine W.eq (g2 := F0 m 50 ls [.int v_3]) rfl ?_
  refine lv_istore_n (lv' := [(2, .int v_3), (0, .ref (B + a0)), (1, .int x1), (3, .int x3), (4, .int x4), (5, .int x5)]) hx hb d_Mod_fault_50 rfl hl (by decide) rfl (fun ls hl => ?_)
  refine lv_iload_n hx hb d_Mod_fault_51 rfl (lv_at hl 0 rfl) ?_
  refine lv_if_ge (tgt := 58) hx hb d_Mod_fault_52 (by decide) (fun c_4 => ?_) (fun c_4 => ?_)
  · rw [if_pos c_4] at hF
    refine lv_iload hx hb d_Mod_fault_58 (lv_at hl 5 rfl) ?_
    refine lv_bipush (v := 40) hx hb d_Mod_fault_60 (by decide) ?_
    refine lv_icmp_ne (tgt := 68) hx hb d_Mod_fault_62 (by decide) (fun c_5 => ?_) (fun c_5 => ?_)
    · rw [if_neg c_5] at hF
      exact c_Mod_fault_68 E hr hlk hz k_7 hk_7 _ _ _ _ _ _ _ _ _ hF _ _ S _ (lv_sub hl [1, 2, 0, 3, 4, 5] rfl)
    · rw [if_pos c_5] at hF
      refine lv_iinc (v := (x3 + 1)) (lv' := [(3, .int (x3 + 1)), (2, .int v_3), (0, .ref (B + a0)), (1, .int x1), (4, .int x4), (5, .int x5)]) hx hb d_Mod_fault_65 hl (k := 3) rfl rfl (by decide) rfl (fun ls hl => ?_)
      exact c_Mod_fault_68 E hr hlk hz k_7 hk_7 _ _ _ _ _ _ _ _ _ hF _ _ S _ (lv_sub hl [2, 3, 1, 0, 4, 5] rfl)
  · rw [if_neg c_4] at hF
    refine lv_iload hx hb d_Mod_fault_55 (lv_at hl 4 rfl) ?_
    cases hF
    exact m_iret E S hz hr hlk d_Mod_fault_57
def f_Mod_fault_7   : Nat → m_G → Nat → Int32 → Int32 → Int32 → Int32 → Option (Int32 × m_G)
  | 0, _, _, _, _, _, _ => none
  | fu + 1, g, a0, x1, x2, x3, x4 =>
    if (x1 : Int32) ≤ x4 then
      if (x3 : Int32) = 0 then
        if (x2 : Int32) = 1 then
          f_Mod_fault_103 g 
        else
          if (x2 : Int32) = 2 then
            f_Mod_fault_103 g 
          else
            if (x2 : Int32) = 5 then
              f_Mod_fault_103 g 
            else
              f_Mod_fault_107 g x1
      else
        f_Mod_fault_107 g x1
    else
      m_gd (m_is g a0 8) <|
      m_bd (f_Mod_at g a0 30 x4) fun v_7 g_6 =>
      if (x4 : Int32) ≤ 0 then
        f_Mod_fault_46 (f_Mod_fault_7 fu) g_6 a0 x1 x3 x4 v_7 0 v_7 x2 (some a0)
      else
        m_gd (m_is g_6 a0 8) <|
        m_bd (f_Mod_at g_6 a0 30 (x4 - 1)) fun v_10 g_9 =>
        f_Mod_fault_46 (f_Mod_fault_7 fu) g_9 a0 x1 x3 x4 v_7 v_10 v_7 x2 (some a0)
set_option maxHeartbeats 1000000 in
set_option maxRecDepth 100000 in
theorem c_Mod_fault_7 (E : m_V p m c b_Mod_fault 6 s args R_Mod D K) (hr : meth.sig.returnType = (some .int)) (hlk : meth.locks = false) (hz : s.heap.size + 0 = B + n)   : ∀ fu : Nat, ∀ (g : m_G) (a0 : Nat) (x1 : Int32) (x2 : Int32) (x3 : Int32) (x4 : Int32) (r : Int32) (g' : m_G), f_Mod_fault_7  fu g a0 x1 x2 x3 x4 = some (r, g') → ∀ (H : Heap) (locs : List Loc), m_S D B K n g s.heap H locs → ∀ ls : Array Slot, lv_has ls 6 [(0, .ref (B + a0)), (1, .int x1), (2, .int x2), (3, .int x3), (4, .int x4)] → W p l e ({ frames := 2, cells := 0, slots := 0, locals := 44 } : Room) s m args below meth c H locs 0 0 (MQ below (m_Q D B K (some (.int r)) n g') args s 0 0 (fun q => B ≤ q)) (F0 m 7 ls []) := by
  have hx := E.1.1
  have hb := E.1.2.1
  have hts := E.1.2.2.2.2
  intro fu
  induction fu with
  | zero => intro g a0 x1 x2 x3 x4 r g' hF; cases hF
  | succ fu ih =>
    intro g a0 x1 x2 x3 x4 r g' hF H locs S ls hl
    rw [f_Mod_fault_7] at hF
    refine lv_iload hx hb d_Mod_fault_7 (lv_at hl 4 rfl) ?_
    refine lv_iload_n hx hb d_Mod_fault_9 rfl (lv_at hl 1 rfl) ?_
    refine lv_icmp_ge (tgt := 84) hx hb d_Mod_fault_10 (by decide) (fun c_1 => ?_) (fun c_1 => ?_)
    · rw [if_pos c_1] at hF
      refine lv_iload_n hx hb d_Mod_fault_84 rfl (lv_at hl 3 rfl) ?_
      refine lv_if_ne (tgt := 107) hx hb d_Mod_fault_85 (by decide) (fun c_2 => ?_) (fun c_2 => ?_)
      · rw [if_neg c_2] at hF
        exact c_Mod_fault_107 E hr hlk hz _ _ _ _ hF _ _ S _ (lv_sub hl [1] rfl)
      · rw [if_pos c_2] at hF
        refine lv_iload_n hx hb d_Mod_fault_88 rfl (lv_at hl 2 rfl) ?_
        refine lv_iconst (v := 1) hx hb d_Mod_fault_89 (by decide) ?_
        refine lv_icmp_eq (tgt := 103) hx hb d_Mod_fault_90 (by decide) (fun c_3 => ?_) (fun c_3 => ?_)
        · rw [if_pos c_3] at hF
          exact c_Mod_fault_103 E hr hlk hz _ _ _ hF _ _ S _ (lv_sub hl [] rfl)
        · rw [if_neg c_3] at hF
          refine lv_iload_n hx hb d_Mod_fault_93 rfl (lv_at hl 2 rfl) ?_
          refine lv_iconst (v := 2) hx hb d_Mod_fault_94 (by decide) ?_
          refine lv_icmp_eq (tgt := 103) hx hb d_Mod_fault_95 (by decide) (fun c_4 => ?_) (fun c_4 => ?_)
          · rw [if_pos c_4] at hF
            exact c_Mod_fault_103 E hr hlk hz _ _ _ hF _ _ S _ (lv_sub hl [] rfl)
          · rw [if_neg c_4] at hF
            refine lv_iload_n hx hb d_Mod_fault_98 rfl (lv_at hl 2 rfl) ?_
            refine lv_iconst (v := 5) hx hb d_Mod_fault_99 (by decide) ?_
            refine lv_icmp_ne (tgt := 107) hx hb d_Mod_fault_100 (by decide) (fun c_5 => ?_) (fun c_5 => ?_)
            · rw [if_neg c_5] at hF
              exact c_Mod_fault_107 E hr hlk hz _ _ _ _ hF _ _ S _ (lv_sub hl [1] rfl)
            · rw [if_pos c_5] at hF
              exact c_Mod_fault_103 E hr hlk hz _ _ _ hF _ _ S _ (lv_sub hl [] rfl)
    · rw [if_neg c_1] at hF
      refine lv_aload_n hx hb d_Mod_fault_13 rfl (lv_at hl 0 rfl) ?_
      refine lv_bipush (v := 30) hx hb d_Mod_fault_14 (by decide) ?_
      refine lv_iload hx hb d_Mod_fault_16 (lv_at hl 4 rfl) ?_
      replace hF := m_gd_inv hF
      obtain ⟨eog_6, hF⟩ := hF
      replace hF := m_bd_inv hF
      obtain ⟨v_7, g_6, eg_6, hF⟩ := hF
      refine m_callV (B := B) (nn := 2) (b := a0) (As := [.int 30, .int x4]) (rest := []) (v := (some (.int v_7))) E S hz (c_Mod_at l D B K n g a0 30 x4 v_7 g_6 eg_6) qc_Mod_at ⟨rfl, rfl⟩ (Or.inl qw_307) qw_308 qw_309 qw_304 (by decide +kernel) ⟨Nat.le_of_ble_eq_true rfl, Nat.le_of_ble_eq_true rfl⟩ eog_6 rfl rfl hl.1 (Nat.le_of_ble_eq_true rfl) d_Mod_fault_18 ⟨Nat.le_of_ble_eq_true rfl, Nat.le_of_ble_eq_true rfl⟩ (fun H locs S => ?_)
      refine W.eq (g2 := F0 m 21 ls [.int v_7]) rfl ?_
      refine lv_istore (lv' := [(5, .int v_7), (0, .ref (B + a0)), (1, .int x1), (2, .int x2), (3, .int x3), (4, .int x4)]) hx hb d_Mod_fault_21 hl (by decide) rfl (fun ls hl => ?_)
      refine lv_aload_n hx hb d_Mod_fault_23 rfl (lv_at hl 1 rfl) ?_
      refine lv_iload_n hx hb d_Mod_fault_24 rfl (lv_at hl 3 rfl) ?_
      refine lv_iload hx hb d_Mod_fault_25 (lv_at hl 0 rfl) ?_
      refine lv_iload hx hb d_Mod_fault_27 (lv_at hl 5 rfl) ?_
      refine lv_if_le (tgt := 45) hx hb d_Mod_fault_29 (by decide) (fun c_8 => ?_) (fun c_8 => ?_)
      · rw [if_pos c_8] at hF
        refine lv_iconst (v := 0) hx hb d_Mod_fault_45 (by decide) ?_
        exact c_Mod_fault_46 E hr hlk hz (f_Mod_fault_7 fu) ih _ _ _ _ _ _ _ _ _ _ _ _ hF _ _ S _ (lv_sub hl [1, 2, 4, 5, 0] rfl)
      · rw [if_neg c_8] at hF
        refine lv_aload_n hx hb d_Mod_fault_32 rfl (lv_at hl 1 rfl) ?_
        refine lv_bipush (v := 30) hx hb d_Mod_fault_33 (by decide) ?_
        refine lv_iload hx hb d_Mod_fault_35 (lv_at hl 5 rfl) ?_
        refine lv_iconst (v := 1) hx hb d_Mod_fault_37 (by decide) ?_
        refine lv_isub hx hb d_Mod_fault_38 ?_
        replace hF := m_gd_inv hF
        obtain ⟨eog_9, hF⟩ := hF
        replace hF := m_bd_inv hF
        obtain ⟨v_10, g_9, eg_9, hF⟩ := hF
        refine m_callV (B := B) (nn := 2) (b := a0) (As := [.int 30, .int (x4 - 1)]) (rest := [.int v_7, .int x2, .ref (B + a0)]) (v := (some (.int v_10))) E S hz (c_Mod_at l D B K n g_6 a0 30 (x4 - 1) v_10 g_9 eg_9) qc_Mod_at ⟨rfl, rfl⟩ (Or.inl qw_307) qw_308 qw_309 qw_304 (by decide +kernel) ⟨Nat.le_of_ble_eq_true rfl, Nat.le_of_ble_eq_true rfl⟩ eog_9 rfl rfl hl.1 (Nat.le_of_ble_eq_true rfl) d_Mod_fault_39 ⟨Nat.le_of_ble_eq_true rfl, Nat.le_of_ble_eq_true rfl⟩ (fun H locs S => ?_)
        refine W.eq (g2 := F0 m 42 ls [.int v_10, .int v_7, .int x2, .ref (B + a0)]) rfl ?_
        refine lv_goto (tgt := 46) hx hb d_Mod_fault_42 (by decide) ?_
        exact c_Mod_fault_46 E hr hlk hz (f_Mod_fault_7 fu) ih _ _ _ _ _ _ _ _ _ _ _ _ hF _ _ S _ (lv_sub hl [1, 2, 4, 5, 0] rfl)
end S_Mod_fault
def f_Mod_fault  (g : m_G) (a0 : Nat) (x1 : Int32) : Option (Int32 × m_G) :=
  f_Mod_fault_7 m_fu g a0 x1 0 0 0
set_option maxHeartbeats 1000000 in
set_option maxRecDepth 100000 in
theorem c_Mod_fault (l : Launch) (D : va_G) (B : Nat) (K : Nat → ClassId)  (n : Nat) (g : m_G) (a0 : Nat) (x1 : Int32) (r : Int32) (g' : m_G) (hF : f_Mod_fault g a0 x1 = some (r, g')) : Met l y_Mod_fault (Cond.code y_Mod_fault b_Mod_fault 6 (some .int) :: m_TB) ({ frames := 2, cells := 0, slots := 0, locals := 44 } : Room) (m_Pc D B K n g [.ref (B + a0), .int x1]) (m_Q D B K (some (.int r)) n g') 0 0 (fun q => B ≤ q) := by
  refine m_met (by decide) (Nat.le_of_ble_eq_true rfl) ?_
  intro p e s m args below meth c ls E hr hlk hin hsz S hl
  have E : m_V p m c b_Mod_fault 6 s args R_Mod D K := E
  have hz : s.heap.size + 0 = B + n := hsz
  have hl : lv_has ls 6 [(0, .ref (B + a0)), (1, .int x1)] := hl
  have hx := E.1.1
  have hb := E.1.2.1
  have hts := E.1.2.2.2.2
  unfold f_Mod_fault at hF
  refine lv_iconst (v := 0) hx hb d_Mod_fault_0 (by decide) ?_
  refine lv_istore_n (lv' := [(2, .int 0), (0, .ref (B + a0)), (1, .int x1)]) hx hb d_Mod_fault_1 rfl hl (by decide) rfl (fun ls hl => ?_)
  refine lv_iconst (v := 0) hx hb d_Mod_fault_2 (by decide) ?_
  refine lv_istore_n (lv' := [(3, .int 0), (2, .int 0), (0, .ref (B + a0)), (1, .int x1)]) hx hb d_Mod_fault_3 rfl hl (by decide) rfl (fun ls hl => ?_)
  refine lv_iconst (v := 0) hx hb d_Mod_fault_4 (by decide) ?_
  refine lv_istore (lv' := [(4, .int 0), (3, .int 0), (2, .int 0), (0, .ref (B + a0)), (1, .int x1)]) hx hb d_Mod_fault_5 hl (by decide) rfl (fun ls hl => ?_)
  exact c_Mod_fault_7 E hr hlk hz m_fu _ _ _ _ _ _ _ _ hF _ _ S _ (lv_sub hl [3, 4, 2, 1, 0] rfl)
section S_Mod_reduce
variable {p : Program} {l : Launch} {e : Env} {s : State} {m : MethodId} {args : Array Value} {below : List Frame} {meth : Method} {c : Code} {D : va_G} {B n : Nat} {K : Nat → ClassId}
def f_Mod_reduce_129   (g : m_G)  : Option (Unit × m_G) :=
  some ((), g)
set_option maxHeartbeats 1000000 in
set_option maxRecDepth 100000 in
theorem c_Mod_reduce_129 (E : m_V p m c b_Mod_reduce 2 s args R_Mod D K) (hr : meth.sig.returnType = none) (hlk : meth.locks = false) (hz : s.heap.size + 0 = B + n)   : ∀ (g : m_G)  (r : Unit) (g' : m_G), f_Mod_reduce_129 g  = some (r, g') → ∀ (H : Heap) (locs : List Loc), m_S D B K n g s.heap H locs → ∀ ls : Array Slot, lv_has ls 2 [] → W p l e ({ frames := 0, cells := 0, slots := 0, locals := 0 } : Room) s m args below meth c H locs 0 0 (MQ below (m_Q D B K none n g') args s 0 0 (fun q => B ≤ q)) (F0 m 129 ls []) := by
  have hx := E.1.1
  have hb := E.1.2.1
  have hts := E.1.2.2.2.2
  intro g  r g' hF H locs S ls hl
  unfold f_Mod_reduce_129 at hF
  cases hF
  skip
  exact m_vret E S hz hr hlk d_Mod_reduce_129
def f_Mod_reduce_43  (k_0 : m_G → Nat → Int32 → Option (Unit × m_G)) (g : m_G) (a0 : Nat) (x1 : Int32) : Option (Unit × m_G) :=
  (m_gI g a0 8 25).bind fun v_1 =>
  (m_pI g a0 8 25 (v_1 - 1)).bind fun g_2 =>
  (m_gI g_2 a0 8 24).bind fun v_3 =>
  (m_pI g_2 a0 8 24 (v_3 - 1)).bind fun g_4 =>
  (m_gR g_4 a0 8 23).bind fun v_5 =>
  (m_gI g_4 a0 8 25).bind fun v_6 =>
  Option.bind v_5 fun a_7 =>
  (m_ld g_4 a_7 0 v_6).bind fun v_8 =>
  if (v_8 : Int32) = 38 then
    (m_gR g_4 a0 8 22).bind fun v_19 =>
    (m_gI g_4 a0 8 24).bind fun v_20 =>
    Option.bind v_19 fun a_21 =>
    (m_ld g_4 a_21 0 (v_20 - 1)).bind fun v_22 =>
    (m_gR g_4 a0 8 22).bind fun v_23 =>
    (m_gI g_4 a0 8 24).bind fun v_24 =>
    Option.bind v_23 fun a_25 =>
    (m_ld g_4 a_25 0 v_24).bind fun v_26 =>
    (m_st g_4 a_21 0 (v_20 - 1) (v_22 &&& v_26)).bind fun g_27 =>
    k_0 g_27 a0 x1
  else
    (m_gR g_4 a0 8 22).bind fun v_10 =>
    (m_gI g_4 a0 8 24).bind fun v_11 =>
    Option.bind v_10 fun a_12 =>
    (m_ld g_4 a_12 0 (v_11 - 1)).bind fun v_13 =>
    (m_gR g_4 a0 8 22).bind fun v_14 =>
    (m_gI g_4 a0 8 24).bind fun v_15 =>
    Option.bind v_14 fun a_16 =>
    (m_ld g_4 a_16 0 v_15).bind fun v_17 =>
    (m_st g_4 a_12 0 (v_11 - 1) (v_13 ||| v_17)).bind fun g_18 =>
    k_0 g_18 a0 x1
set_option maxHeartbeats 1000000 in
set_option maxRecDepth 100000 in
theorem c_Mod_reduce_43 (E : m_V p m c b_Mod_reduce 2 s args R_Mod D K) (hr : meth.sig.returnType = none) (hlk : meth.locks = false) (hz : s.heap.size + 0 = B + n)  (k_0 : m_G → Nat → Int32 → Option (Unit × m_G)) (hk_0 : ∀ (g : m_G) (a0 : Nat) (x1 : Int32) (r : Unit) (g' : m_G), k_0 g a0 x1 = some (r, g') → ∀ (H : Heap) (locs : List Loc), m_S D B K n g s.heap H locs → ∀ ls : Array Slot, lv_has ls 2 [(0, .ref (B + a0)), (1, .int x1)] → W p l e ({ frames := 0, cells := 0, slots := 0, locals := 0 } : Room) s m args below meth c H locs 0 0 (MQ below (m_Q D B K none n g') args s 0 0 (fun q => B ≤ q)) (F0 m 0 ls [])) : ∀ (g : m_G) (a0 : Nat) (x1 : Int32) (r : Unit) (g' : m_G), f_Mod_reduce_43 k_0 g a0 x1 = some (r, g') → ∀ (H : Heap) (locs : List Loc), m_S D B K n g s.heap H locs → ∀ ls : Array Slot, lv_has ls 2 [(0, .ref (B + a0)), (1, .int x1)] → W p l e ({ frames := 0, cells := 0, slots := 0, locals := 0 } : Room) s m args below meth c H locs 0 0 (MQ below (m_Q D B K none n g') args s 0 0 (fun q => B ≤ q)) (F0 m 43 ls []) := by
  have hx := E.1.1
  have hb := E.1.2.1
  have hts := E.1.2.2.2.2
  intro g a0 x1 r g' hF H locs S ls hl
  unfold f_Mod_reduce_43 at hF
  refine lv_aload_n hx hb d_Mod_reduce_43 rfl (lv_at hl 0 rfl) ?_
  refine lv_dup hx hb d_Mod_reduce_44 rfl ?_
  replace hF := Option.bind_eq_some_iff.mp hF
  obtain ⟨v_1, ev_1, hF⟩ := hF
  refine m_getI (B := B) (a := a0) E S fd_Mod_signCount (Or.inl qw_365) ev_1 d_Mod_reduce_45 ?_
  refine lv_iconst (v := 1) hx hb d_Mod_reduce_48 (by decide) ?_
  refine lv_isub hx hb d_Mod_reduce_49 ?_
  replace hF := Option.bind_eq_some_iff.mp hF
  obtain ⟨g_2, eg_2, hF⟩ := hF
  refine m_putI (B := B) (a := a0) E S fd_Mod_signCount (Or.inl qw_365) eg_2 d_Mod_reduce_50 (fun H locs S => ?_)
  refine lv_aload_n hx hb d_Mod_reduce_53 rfl (lv_at hl 0 rfl) ?_
  refine lv_dup hx hb d_Mod_reduce_54 rfl ?_
  replace hF := Option.bind_eq_some_iff.mp hF
  obtain ⟨v_3, ev_3, hF⟩ := hF
  refine m_getI (B := B) (a := a0) E S fd_Mod_setCount (Or.inl qw_366) ev_3 d_Mod_reduce_55 ?_
  refine lv_iconst (v := 1) hx hb d_Mod_reduce_58 (by decide) ?_
  refine lv_isub hx hb d_Mod_reduce_59 ?_
  replace hF := Option.bind_eq_some_iff.mp hF
  obtain ⟨g_4, eg_4, hF⟩ := hF
  refine m_putI (B := B) (a := a0) E S fd_Mod_setCount (Or.inl qw_366) eg_4 d_Mod_reduce_60 (fun H locs S => ?_)
  refine lv_aload_n hx hb d_Mod_reduce_63 rfl (lv_at hl 0 rfl) ?_
  replace hF := Option.bind_eq_some_iff.mp hF
  obtain ⟨v_5, ev_5, hF⟩ := hF
  refine m_getR (B := B) (a := a0) E S fd_Mod_signs (Or.inl qw_302) ev_5 d_Mod_reduce_64 ?_
  refine lv_aload_n hx hb d_Mod_reduce_67 rfl (lv_at hl 0 rfl) ?_
  replace hF := Option.bind_eq_some_iff.mp hF
  obtain ⟨v_6, ev_6, hF⟩ := hF
  refine m_getI (B := B) (a := a0) E S fd_Mod_signCount (Or.inl qw_365) ev_6 d_Mod_reduce_68 ?_
  replace hF := Option.bind_eq_some_iff.mp hF
  obtain ⟨a_7, ea_7, hF⟩ := hF
  subst ea_7
  replace hF := Option.bind_eq_some_iff.mp hF
  obtain ⟨v_8, ev_8, hF⟩ := hF
  refine m_iald (B := B) (a := a_7) (t := 0) E S rfl ev_8 d_Mod_reduce_71 ?_
  refine lv_bipush (v := 38) hx hb d_Mod_reduce_72 (by decide) ?_
  refine lv_icmp_ne (tgt := 103) hx hb d_Mod_reduce_74 (by decide) (fun c_9 => ?_) (fun c_9 => ?_)
  · rw [if_neg c_9] at hF
    refine lv_aload_n hx hb d_Mod_reduce_103 rfl (lv_at hl 0 rfl) ?_
    replace hF := Option.bind_eq_some_iff.mp hF
    obtain ⟨v_10, ev_10, hF⟩ := hF
    refine m_getR (B := B) (a := a0) E S fd_Mod_sets (Or.inl qw_301) ev_10 d_Mod_reduce_104 ?_
    refine lv_aload_n hx hb d_Mod_reduce_107 rfl (lv_at hl 0 rfl) ?_
    replace hF := Option.bind_eq_some_iff.mp hF
    obtain ⟨v_11, ev_11, hF⟩ := hF
    refine m_getI (B := B) (a := a0) E S fd_Mod_setCount (Or.inl qw_366) ev_11 d_Mod_reduce_108 ?_
    refine lv_iconst (v := 1) hx hb d_Mod_reduce_111 (by decide) ?_
    refine lv_isub hx hb d_Mod_reduce_112 ?_
    refine lv_dup2_11 hx hb d_Mod_reduce_113 rfl (m_r_cat B v_10) ?_
    replace hF := Option.bind_eq_some_iff.mp hF
    obtain ⟨a_12, ea_12, hF⟩ := hF
    subst ea_12
    replace hF := Option.bind_eq_some_iff.mp hF
    obtain ⟨v_13, ev_13, hF⟩ := hF
    refine m_iald (B := B) (a := a_12) (t := 0) E S rfl ev_13 d_Mod_reduce_114 ?_
    refine lv_aload_n hx hb d_Mod_reduce_115 rfl (lv_at hl 0 rfl) ?_
    replace hF := Option.bind_eq_some_iff.mp hF
    obtain ⟨v_14, ev_14, hF⟩ := hF
    refine m_getR (B := B) (a := a0) E S fd_Mod_sets (Or.inl qw_301) ev_14 d_Mod_reduce_116 ?_
    refine lv_aload_n hx hb d_Mod_reduce_119 rfl (lv_at hl 0 rfl) ?_
    replace hF := Option.bind_eq_some_iff.mp hF
    obtain ⟨v_15, ev_15, hF⟩ := hF
    refine m_getI (B := B) (a := a0) E S fd_Mod_setCount (Or.inl qw_366) ev_15 d_Mod_reduce_120 ?_
    replace hF := Option.bind_eq_some_iff.mp hF
    obtain ⟨a_16, ea_16, hF⟩ := hF
    subst ea_16
    replace hF := Option.bind_eq_some_iff.mp hF
    obtain ⟨v_17, ev_17, hF⟩ := hF
    refine m_iald (B := B) (a := a_16) (t := 0) E S rfl ev_17 d_Mod_reduce_123 ?_
    refine lv_ior hx hb d_Mod_reduce_124 ?_
    replace hF := Option.bind_eq_some_iff.mp hF
    obtain ⟨g_18, eg_18, hF⟩ := hF
    refine m_iast (B := B) (a := a_12) (t := 0) E S rfl eg_18 d_Mod_reduce_125 (fun H locs S => ?_)
    refine lv_goto (tgt := 0) hx hb d_Mod_reduce_126 (by decide) ?_
    exact hk_0 _ _ _ _ _ hF _ _ S _ (lv_sub hl [0, 1] rfl)
  · rw [if_pos c_9] at hF
    refine lv_aload_n hx hb d_Mod_reduce_77 rfl (lv_at hl 0 rfl) ?_
    replace hF := Option.bind_eq_some_iff.mp hF
    obtain ⟨v_19, ev_19, hF⟩ := hF
    refine m_getR (B := B) (a := a0) E S fd_Mod_sets (Or.inl qw_301) ev_19 d_Mod_reduce_78 ?_
    refine lv_aload_n hx hb d_Mod_reduce_81 rfl (lv_at hl 0 rfl) ?_
    replace hF := Option.bind_eq_some_iff.mp hF
    obtain ⟨v_20, ev_20, hF⟩ := hF
    refine m_getI (B := B) (a := a0) E S fd_Mod_setCount (Or.inl qw_366) ev_20 d_Mod_reduce_82 ?_
    refine lv_iconst (v := 1) hx hb d_Mod_reduce_85 (by decide) ?_
    refine lv_isub hx hb d_Mod_reduce_86 ?_
    refine lv_dup2_11 hx hb d_Mod_reduce_87 rfl (m_r_cat B v_19) ?_
    replace hF := Option.bind_eq_some_iff.mp hF
    obtain ⟨a_21, ea_21, hF⟩ := hF
    subst ea_21
    replace hF := Option.bind_eq_some_iff.mp hF
    obtain ⟨v_22, ev_22, hF⟩ := hF
    refine m_iald (B := B) (a := a_21) (t := 0) E S rfl ev_22 d_Mod_reduce_88 ?_
    refine lv_aload_n hx hb d_Mod_reduce_89 rfl (lv_at hl 0 rfl) ?_
    replace hF := Option.bind_eq_some_iff.mp hF
    obtain ⟨v_23, ev_23, hF⟩ := hF
    refine m_getR (B := B) (a := a0) E S fd_Mod_sets (Or.inl qw_301) ev_23 d_Mod_reduce_90 ?_
    refine lv_aload_n hx hb d_Mod_reduce_93 rfl (lv_at hl 0 rfl) ?_
    replace hF := Option.bind_eq_some_iff.mp hF
    obtain ⟨v_24, ev_24, hF⟩ := hF
    refine m_getI (B := B) (a := a0) E S fd_Mod_setCount (Or.inl qw_366) ev_24 d_Mod_reduce_94 ?_
    replace hF := Option.bind_eq_some_iff.mp hF
    obtain ⟨a_25, ea_25, hF⟩ := hF
    subst ea_25
    replace hF := Option.bind_eq_some_iff.mp hF
    obtain ⟨v_26, ev_26, hF⟩ := hF
    refine m_iald (B := B) (a := a_25) (t := 0) E S rfl ev_26 d_Mod_reduce_97 ?_
    refine lv_iand hx hb d_Mod_reduce_98 ?_
    replace hF := Option.bind_eq_some_iff.mp hF
    obtain ⟨g_27, eg_27, hF⟩ := hF
    refine m_iast (B := B) (a := a_21) (t := 0) E S rfl eg_27 d_Mod_reduce_99 (fun H locs S => ?_)
    refine lv_goto (tgt := 0) hx hb d_Mod_reduce_100 (by decide) ?_
    exact hk_0 _ _ _ _ _ hF _ _ S _ (lv_sub hl [0, 1] rfl)
def f_Mod_reduce_0   : Nat → m_G → Nat → Int32 → Option (Unit × m_G)
  | 0, _, _, _ => none
  | fu + 1, g, a0, x1 =>
    (m_gI g a0 8 25).bind fun v_1 =>
    if (v_1 : Int32) ≤ 0 then
      f_Mod_reduce_129 g 
    else
      (m_gR g a0 8 23).bind fun v_3 =>
      (m_gI g a0 8 25).bind fun v_4 =>
      Option.bind v_3 fun a_5 =>
      (m_ld g a_5 0 (v_4 - 1)).bind fun v_6 =>
      if (v_6 : Int32) = 38 then
        f_Mod_reduce_43 (f_Mod_reduce_0 fu) g a0 x1
      else
        if (x1 : Int32) = 0 then
          f_Mod_reduce_129 g 
        else
          (m_gR g a0 8 23).bind fun v_9 =>
          (m_gI g a0 8 25).bind fun v_10 =>
          Option.bind v_9 fun a_11 =>
          (m_ld g a_11 0 (v_10 - 1)).bind fun v_12 =>
          if (v_12 : Int32) = 124 then
            f_Mod_reduce_43 (f_Mod_reduce_0 fu) g a0 x1
          else
            f_Mod_reduce_129 g 
set_option maxHeartbeats 1000000 in
set_option maxRecDepth 100000 in
theorem c_Mod_reduce_0 (E : m_V p m c b_Mod_reduce 2 s args R_Mod D K) (hr : meth.sig.returnType = none) (hlk : meth.locks = false) (hz : s.heap.size + 0 = B + n)   : ∀ fu : Nat, ∀ (g : m_G) (a0 : Nat) (x1 : Int32) (r : Unit) (g' : m_G), f_Mod_reduce_0  fu g a0 x1 = some (r, g') → ∀ (H : Heap) (locs : List Loc), m_S D B K n g s.heap H locs → ∀ ls : Array Slot, lv_has ls 2 [(0, .ref (B + a0)), (1, .int x1)] → W p l e ({ frames := 0, cells := 0, slots := 0, locals := 0 } : Room) s m args below meth c H locs 0 0 (MQ below (m_Q D B K none n g') args s 0 0 (fun q => B ≤ q)) (F0 m 0 ls []) := by
  have hx := E.1.1
  have hb := E.1.2.1
  have hts := E.1.2.2.2.2
  intro fu
  induction fu with
  | zero => intro g a0 x1 r g' hF; cases hF
  | succ fu ih =>
    intro g a0 x1 r g' hF H locs S ls hl
    rw [f_Mod_reduce_0] at hF
    refine lv_aload_n hx hb d_Mod_reduce_0 rfl (lv_at hl 0 rfl) ?_
    replace hF := Option.bind_eq_some_iff.mp hF
    obtain ⟨v_1, ev_1, hF⟩ := hF
    refine m_getI (B := B) (a := a0) E S fd_Mod_signCount (Or.inl qw_365) ev_1 d_Mod_reduce_1 ?_
    refine lv_if_le (tgt := 129) hx hb d_Mod_reduce_4 (by decide) (fun c_2 => ?_) (fun c_2 => ?_)
    · rw [if_pos c_2] at hF
      exact c_Mod_reduce_129 E hr hlk hz _ _ _ hF _ _ S _ (lv_sub hl [] rfl)
    · rw [if_neg c_2] at hF
      refine lv_aload_n hx hb d_Mod_reduce_7 rfl (lv_at hl 0 rfl) ?_
      replace hF := Option.bind_eq_some_iff.mp hF
      obtain ⟨v_3, ev_3, hF⟩ := hF
      refine m_getR (B := B) (a := a0) E S fd_Mod_signs (Or.inl qw_302) ev_3 d_Mod_reduce_8 ?_
      refine lv_aload_n hx hb d_Mod_reduce_11 rfl (lv_at hl 0 rfl) ?_
      replace hF := Option.bind_eq_some_iff.mp hF
      obtain ⟨v_4, ev_4, hF⟩ := hF
      refine m_getI (B := B) (a := a0) E S fd_Mod_signCount (Or.inl qw_365) ev_4 d_Mod_reduce_12 ?_
      refine lv_iconst (v := 1) hx hb d_Mod_reduce_15 (by decide) ?_
      refine lv_isub hx hb d_Mod_reduce_16 ?_
      replace hF := Option.bind_eq_some_iff.mp hF
      obtain ⟨a_5, ea_5, hF⟩ := hF
      subst ea_5
      replace hF := Option.bind_eq_some_iff.mp hF
      obtain ⟨v_6, ev_6, hF⟩ := hF
      refine m_iald (B := B) (a := a_5) (t := 0) E S rfl ev_6 d_Mod_reduce_17 ?_
      refine lv_bipush (v := 38) hx hb d_Mod_reduce_18 (by decide) ?_
      refine lv_icmp_eq (tgt := 43) hx hb d_Mod_reduce_20 (by decide) (fun c_7 => ?_) (fun c_7 => ?_)
      · rw [if_pos c_7] at hF
        exact c_Mod_reduce_43 E hr hlk hz (f_Mod_reduce_0 fu) ih _ _ _ _ _ hF _ _ S _ (lv_sub hl [0, 1] rfl)
      · rw [if_neg c_7] at hF
        refine lv_iload_n hx hb d_Mod_reduce_23 rfl (lv_at hl 1 rfl) ?_
        refine lv_if_eq (tgt := 129) hx hb d_Mod_reduce_24 (by decide) (fun c_8 => ?_) (fun c_8 => ?_)
        · rw [if_pos c_8] at hF
          exact c_Mod_reduce_129 E hr hlk hz _ _ _ hF _ _ S _ (lv_sub hl [] rfl)
        · rw [if_neg c_8] at hF
          refine lv_aload_n hx hb d_Mod_reduce_27 rfl (lv_at hl 0 rfl) ?_
          replace hF := Option.bind_eq_some_iff.mp hF
          obtain ⟨v_9, ev_9, hF⟩ := hF
          refine m_getR (B := B) (a := a0) E S fd_Mod_signs (Or.inl qw_302) ev_9 d_Mod_reduce_28 ?_
          refine lv_aload_n hx hb d_Mod_reduce_31 rfl (lv_at hl 0 rfl) ?_
          replace hF := Option.bind_eq_some_iff.mp hF
          obtain ⟨v_10, ev_10, hF⟩ := hF
          refine m_getI (B := B) (a := a0) E S fd_Mod_signCount (Or.inl qw_365) ev_10 d_Mod_reduce_32 ?_
          refine lv_iconst (v := 1) hx hb d_Mod_reduce_35 (by decide) ?_
          refine lv_isub hx hb d_Mod_reduce_36 ?_
          replace hF := Option.bind_eq_some_iff.mp hF
          obtain ⟨a_11, ea_11, hF⟩ := hF
          subst ea_11
          replace hF := Option.bind_eq_some_iff.mp hF
          obtain ⟨v_12, ev_12, hF⟩ := hF
          refine m_iald (B := B) (a := a_11) (t := 0) E S rfl ev_12 d_Mod_reduce_37 ?_
          refine lv_bipush (v := 124) hx hb d_Mod_reduce_38 (by decide) ?_
          refine lv_icmp_ne (tgt := 129) hx hb d_Mod_reduce_40 (by decide) (fun c_13 => ?_) (fun c_13 => ?_)
          · rw [if_neg c_13] at hF
            exact c_Mod_reduce_129 E hr hlk hz _ _ _ hF _ _ S _ (lv_sub hl [] rfl)
          · rw [if_pos c_13] at hF
            exact c_Mod_reduce_43 E hr hlk hz (f_Mod_reduce_0 fu) ih _ _ _ _ _ hF _ _ S _ (lv_sub hl [0, 1] rfl)
end S_Mod_reduce
def f_Mod_reduce  (g : m_G) (a0 : Nat) (x1 : Int32) : Option (Unit × m_G) :=
  f_Mod_reduce_0 m_fu g a0 x1
set_option maxHeartbeats 1000000 in
set_option maxRecDepth 100000 in
theorem c_Mod_reduce (l : Launch) (D : va_G) (B : Nat) (K : Nat → ClassId)  (n : Nat) (g : m_G) (a0 : Nat) (x1 : Int32) (r : Unit) (g' : m_G) (hF : f_Mod_reduce g a0 x1 = some (r, g')) : Met l y_Mod_reduce (Cond.code y_Mod_reduce b_Mod_reduce 2 none :: m_TB) ({ frames := 0, cells := 0, slots := 0, locals := 0 } : Room) (m_Pc D B K n g [.ref (B + a0), .int x1]) (m_Q D B K none n g') 0 0 (fun q => B ≤ q) := by
  refine m_met (by decide) (Nat.le_of_ble_eq_true rfl) ?_
  intro p e s m args below meth c ls E hr hlk hin hsz S hl
  have E : m_V p m c b_Mod_reduce 2 s args R_Mod D K := E
  have hz : s.heap.size + 0 = B + n := hsz
  have hl : lv_has ls 2 [(0, .ref (B + a0)), (1, .int x1)] := hl
  have hx := E.1.1
  have hb := E.1.2.1
  have hts := E.1.2.2.2.2
  unfold f_Mod_reduce at hF
  exact c_Mod_reduce_0 E hr hlk hz m_fu _ _ _ _ _ hF _ _ S _ (lv_sub hl [0, 1] rfl)
section S_Mod_present
variable {p : Program} {l : Launch} {e : Env} {s : State} {m : MethodId} {args : Array Value} {below : List Frame} {meth : Method} {c : Code} {D : va_G} {B n : Nat} {K : Nat → ClassId}
def f_Mod_present_25  (k_4 : m_G → Nat → Int32 → Int32 → Option (Int32 × m_G)) (g : m_G) (a0 : Nat) (x1 : Int32) (x2 : Int32) : Option (Int32 × m_G) :=
  k_4 g a0 x1 (x2 + 1)
set_option maxHeartbeats 1000000 in
set_option maxRecDepth 100000 in
theorem c_Mod_present_25 (E : m_V p m c b_Mod_present 3 s args R_Mod D K) (hr : meth.sig.returnType = (some .int)) (hlk : meth.locks = false) (hz : s.heap.size + 0 = B + n)  (k_4 : m_G → Nat → Int32 → Int32 → Option (Int32 × m_G)) (hk_4 : ∀ (g : m_G) (a0 : Nat) (x1 : Int32) (x2 : Int32) (r : Int32) (g' : m_G), k_4 g a0 x1 x2 = some (r, g') → ∀ (H : Heap) (locs : List Loc), m_S D B K n g s.heap H locs → ∀ ls : Array Slot, lv_has ls 3 [(0, .ref (B + a0)), (1, .int x1), (2, .int x2)] → W p l e ({ frames := 0, cells := 0, slots := 0, locals := 0 } : Room) s m args below meth c H locs 0 0 (MQ below (m_Q D B K (some (.int r)) n g') args s 0 0 (fun q => B ≤ q)) (F0 m 4 ls [])) : ∀ (g : m_G) (a0 : Nat) (x1 : Int32) (x2 : Int32) (r : Int32) (g' : m_G), f_Mod_present_25 k_4 g a0 x1 x2 = some (r, g') → ∀ (H : Heap) (locs : List Loc), m_S D B K n g s.heap H locs → ∀ ls : Array Slot, lv_has ls 3 [(0, .ref (B + a0)), (1, .int x1), (2, .int x2)] → W p l e ({ frames := 0, cells := 0, slots := 0, locals := 0 } : Room) s m args below meth c H locs 0 0 (MQ below (m_Q D B K (some (.int r)) n g') args s 0 0 (fun q => B ≤ q)) (F0 m 25 ls []) := by
  have hx := E.1.1
  have hb := E.1.2.1
  have hts := E.1.2.2.2.2
  intro g a0 x1 x2 r g' hF H locs S ls hl
  unfold f_Mod_present_25 at hF
  refine lv_iinc (v := (x2 + 1)) (lv' := [(2, .int (x2 + 1)), (0, .ref (B + a0)), (1, .int x1)]) hx hb d_Mod_present_25 hl (k := 2) rfl rfl (by decide) rfl (fun ls hl => ?_)
  refine lv_goto (tgt := 4) hx hb d_Mod_present_28 (by decide) ?_
  exact hk_4 _ _ _ _ _ _ hF _ _ S _ (lv_sub hl [1, 2, 0] rfl)
def f_Mod_present_4   : Nat → m_G → Nat → Int32 → Int32 → Option (Int32 × m_G)
  | 0, _, _, _, _ => none
  | fu + 1, g, a0, x1, x2 =>
    if (12 : Int32) ≤ x2 then
      some (x1, g)
    else
      (m_gR g a0 8 7).bind fun v_2 =>
      Option.bind v_2 fun a_3 =>
      (m_ld g a_3 3 x2).bind fun v_4 =>
      if (v_4 : Int32) = 0 then
        f_Mod_present_25 (f_Mod_present_4 fu) g a0 x1 x2
      else
        f_Mod_present_25 (f_Mod_present_4 fu) g a0 (x1 ||| (1 <<< (x2 &&& 31))) x2
set_option maxHeartbeats 1000000 in
set_option maxRecDepth 100000 in
theorem c_Mod_present_4 (E : m_V p m c b_Mod_present 3 s args R_Mod D K) (hr : meth.sig.returnType = (some .int)) (hlk : meth.locks = false) (hz : s.heap.size + 0 = B + n)   : ∀ fu : Nat, ∀ (g : m_G) (a0 : Nat) (x1 : Int32) (x2 : Int32) (r : Int32) (g' : m_G), f_Mod_present_4  fu g a0 x1 x2 = some (r, g') → ∀ (H : Heap) (locs : List Loc), m_S D B K n g s.heap H locs → ∀ ls : Array Slot, lv_has ls 3 [(0, .ref (B + a0)), (1, .int x1), (2, .int x2)] → W p l e ({ frames := 0, cells := 0, slots := 0, locals := 0 } : Room) s m args below meth c H locs 0 0 (MQ below (m_Q D B K (some (.int r)) n g') args s 0 0 (fun q => B ≤ q)) (F0 m 4 ls []) := by
  have hx := E.1.1
  have hb := E.1.2.1
  have hts := E.1.2.2.2.2
  intro fu
  induction fu with
  | zero => intro g a0 x1 x2 r g' hF; cases hF
  | succ fu ih =>
    intro g a0 x1 x2 r g' hF H locs S ls hl
    rw [f_Mod_present_4] at hF
    refine lv_iload_n hx hb d_Mod_present_4 rfl (lv_at hl 2 rfl) ?_
    refine lv_bipush (v := 12) hx hb d_Mod_present_5 (by decide) ?_
    refine lv_icmp_ge (tgt := 31) hx hb d_Mod_present_7 (by decide) (fun c_1 => ?_) (fun c_1 => ?_)
    · rw [if_pos c_1] at hF
      refine lv_iload_n hx hb d_Mod_present_31 rfl (lv_at hl 1 rfl) ?_
      cases hF
      exact m_iret E S hz hr hlk d_Mod_present_32
    · rw [if_neg c_1] at hF
      refine lv_aload_n hx hb d_Mod_present_10 rfl (lv_at hl 0 rfl) ?_
      replace hF := Option.bind_eq_some_iff.mp hF
      obtain ⟨v_2, ev_2, hF⟩ := hF
      refine m_getR (B := B) (a := a0) E S fd_Mod_there (Or.inl qw_289) ev_2 d_Mod_present_11 ?_
      refine lv_iload_n hx hb d_Mod_present_14 rfl (lv_at hl 2 rfl) ?_
      replace hF := Option.bind_eq_some_iff.mp hF
      obtain ⟨a_3, ea_3, hF⟩ := hF
      subst ea_3
      replace hF := Option.bind_eq_some_iff.mp hF
      obtain ⟨v_4, ev_4, hF⟩ := hF
      refine m_zald (B := B) (a := a_3) (t := 3) E S rfl ev_4 d_Mod_present_15 ?_
      refine lv_if_eq (tgt := 25) hx hb d_Mod_present_16 (by decide) (fun c_5 => ?_) (fun c_5 => ?_)
      · rw [if_pos c_5] at hF
        exact c_Mod_present_25 E hr hlk hz (f_Mod_present_4 fu) ih _ _ _ _ _ _ hF _ _ S _ (lv_sub hl [0, 1, 2] rfl)
      · rw [if_neg c_5] at hF
        refine lv_iload_n hx hb d_Mod_present_19 rfl (lv_at hl 1 rfl) ?_
        refine lv_iconst (v := 1) hx hb d_Mod_present_20 (by decide) ?_
        refine lv_iload_n hx hb d_Mod_present_21 rfl (lv_at hl 2 rfl) ?_
        refine lv_ishl hx hb d_Mod_present_22 ?_
        refine lv_ior hx hb d_Mod_present_23 ?_
        refine lv_istore_n (lv' := [(1, .int (x1 ||| (1 <<< (x2 &&& 31)))), (0, .ref (B + a0)), (2, .int x2)]) hx hb d_Mod_present_24 rfl hl (by decide) rfl (fun ls hl => ?_)
        exact c_Mod_present_25 E hr hlk hz (f_Mod_present_4 fu) ih _ _ _ _ _ _ hF _ _ S _ (lv_sub hl [1, 0, 2] rfl)
end S_Mod_present
def f_Mod_present  (g : m_G) (a0 : Nat) : Option (Int32 × m_G) :=
  f_Mod_present_4 m_fu g a0 0 0
set_option maxHeartbeats 1000000 in
set_option maxRecDepth 100000 in
theorem c_Mod_present (l : Launch) (D : va_G) (B : Nat) (K : Nat → ClassId)  (n : Nat) (g : m_G) (a0 : Nat) (r : Int32) (g' : m_G) (hF : f_Mod_present g a0 = some (r, g')) : Met l y_Mod_present (Cond.code y_Mod_present b_Mod_present 3 (some .int) :: m_TB) ({ frames := 0, cells := 0, slots := 0, locals := 0 } : Room) (m_Pc D B K n g [.ref (B + a0)]) (m_Q D B K (some (.int r)) n g') 0 0 (fun q => B ≤ q) := by
  refine m_met (by decide) (Nat.le_of_ble_eq_true rfl) ?_
  intro p e s m args below meth c ls E hr hlk hin hsz S hl
  have E : m_V p m c b_Mod_present 3 s args R_Mod D K := E
  have hz : s.heap.size + 0 = B + n := hsz
  have hl : lv_has ls 3 [(0, .ref (B + a0))] := hl
  have hx := E.1.1
  have hb := E.1.2.1
  have hts := E.1.2.2.2.2
  unfold f_Mod_present at hF
  refine lv_iconst (v := 0) hx hb d_Mod_present_0 (by decide) ?_
  refine lv_istore_n (lv' := [(1, .int 0), (0, .ref (B + a0))]) hx hb d_Mod_present_1 rfl hl (by decide) rfl (fun ls hl => ?_)
  refine lv_iconst (v := 0) hx hb d_Mod_present_2 (by decide) ?_
  refine lv_istore_n (lv' := [(2, .int 0), (1, .int 0), (0, .ref (B + a0))]) hx hb d_Mod_present_3 rfl hl (by decide) rfl (fun ls hl => ?_)
  exact c_Mod_present_4 E hr hlk hz m_fu _ _ _ _ _ _ hF _ _ S _ (lv_sub hl [2, 1, 0] rfl)
section S_Mod_one
variable {p : Program} {l : Launch} {e : Env} {s : State} {m : MethodId} {args : Array Value} {below : List Frame} {meth : Method} {c : Code} {D : va_G} {B n : Nat} {K : Nat → ClassId}
def f_Mod_one_47   (g : m_G) (a0 : Nat) (x2 : Int32) : Option (Unit × m_G) :=
  (m_gR g a0 8 22).bind fun v_1 =>
  (m_gI g a0 8 24).bind fun v_2 =>
  Option.bind v_1 fun a_3 =>
  (m_st g a_3 0 v_2 x2).bind fun g_4 =>
  (m_gI g_4 a0 8 24).bind fun v_5 =>
  (m_pI g_4 a0 8 24 (v_5 + 1)).bind fun g_6 =>
  some ((), g_6)
set_option maxHeartbeats 1000000 in
set_option maxRecDepth 100000 in
theorem c_Mod_one_47 (E : m_V p m c b_Mod_one 3 s args R_Mod D K) (hr : meth.sig.returnType = none) (hlk : meth.locks = false) (hz : s.heap.size + 0 = B + n)   : ∀ (g : m_G) (a0 : Nat) (x2 : Int32) (r : Unit) (g' : m_G), f_Mod_one_47 g a0 x2 = some (r, g') → ∀ (H : Heap) (locs : List Loc), m_S D B K n g s.heap H locs → ∀ ls : Array Slot, lv_has ls 3 [(0, .ref (B + a0)), (2, .int x2)] → W p l e ({ frames := 1, cells := 0, slots := 0, locals := 22 } : Room) s m args below meth c H locs 0 0 (MQ below (m_Q D B K none n g') args s 0 0 (fun q => B ≤ q)) (F0 m 47 ls []) := by
  have hx := E.1.1
  have hb := E.1.2.1
  have hts := E.1.2.2.2.2
  intro g a0 x2 r g' hF H locs S ls hl
  unfold f_Mod_one_47 at hF
  refine lv_aload_n hx hb d_Mod_one_47 rfl (lv_at hl 0 rfl) ?_
  replace hF := Option.bind_eq_some_iff.mp hF
  obtain ⟨v_1, ev_1, hF⟩ := hF
  refine m_getR (B := B) (a := a0) E S fd_Mod_sets (Or.inl qw_301) ev_1 d_Mod_one_48 ?_
  refine lv_aload_n hx hb d_Mod_one_51 rfl (lv_at hl 0 rfl) ?_
  replace hF := Option.bind_eq_some_iff.mp hF
  obtain ⟨v_2, ev_2, hF⟩ := hF
  refine m_getI (B := B) (a := a0) E S fd_Mod_setCount (Or.inl qw_366) ev_2 d_Mod_one_52 ?_
  refine lv_iload_n hx hb d_Mod_one_55 rfl (lv_at hl 1 rfl) ?_
  replace hF := Option.bind_eq_some_iff.mp hF
  obtain ⟨a_3, ea_3, hF⟩ := hF
  subst ea_3
  replace hF := Option.bind_eq_some_iff.mp hF
  obtain ⟨g_4, eg_4, hF⟩ := hF
  refine m_iast (B := B) (a := a_3) (t := 0) E S rfl eg_4 d_Mod_one_56 (fun H locs S => ?_)
  refine lv_aload_n hx hb d_Mod_one_57 rfl (lv_at hl 0 rfl) ?_
  refine lv_dup hx hb d_Mod_one_58 rfl ?_
  replace hF := Option.bind_eq_some_iff.mp hF
  obtain ⟨v_5, ev_5, hF⟩ := hF
  refine m_getI (B := B) (a := a0) E S fd_Mod_setCount (Or.inl qw_366) ev_5 d_Mod_one_59 ?_
  refine lv_iconst (v := 1) hx hb d_Mod_one_62 (by decide) ?_
  refine lv_iadd hx hb d_Mod_one_63 ?_
  replace hF := Option.bind_eq_some_iff.mp hF
  obtain ⟨g_6, eg_6, hF⟩ := hF
  refine m_putI (B := B) (a := a0) E S fd_Mod_setCount (Or.inl qw_366) eg_6 d_Mod_one_64 (fun H locs S => ?_)
  cases hF
  skip
  exact m_vret E S hz hr hlk d_Mod_one_67
def f_Mod_one_2   : Nat → m_G → Nat → Int32 → Option (Unit × m_G)
  | 0, _, _, _ => none
  | fu + 1, g, a0, x2 =>
    (m_gI g a0 8 25).bind fun v_1 =>
    if (v_1 : Int32) ≤ 0 then
      f_Mod_one_47 g a0 x2
    else
      (m_gR g a0 8 23).bind fun v_3 =>
      (m_gI g a0 8 25).bind fun v_4 =>
      Option.bind v_3 fun a_5 =>
      (m_ld g a_5 0 (v_4 - 1)).bind fun v_6 =>
      if (v_6 : Int32) = 33 then
        m_gd (m_is g a0 8) <|
        m_bd (f_Mod_present g a0) fun v_9 g_8 =>
        (m_gI g_8 a0 8 25).bind fun v_10 =>
        (m_pI g_8 a0 8 25 (v_10 - 1)).bind fun g_11 =>
        f_Mod_one_2 fu g_11 a0 (v_9 &&& (x2 ^^^ (-1)))
      else
        f_Mod_one_47 g a0 x2
set_option maxHeartbeats 1000000 in
set_option maxRecDepth 100000 in
theorem c_Mod_one_2 (E : m_V p m c b_Mod_one 3 s args R_Mod D K) (hr : meth.sig.returnType = none) (hlk : meth.locks = false) (hz : s.heap.size + 0 = B + n)   : ∀ fu : Nat, ∀ (g : m_G) (a0 : Nat) (x2 : Int32) (r : Unit) (g' : m_G), f_Mod_one_2  fu g a0 x2 = some (r, g') → ∀ (H : Heap) (locs : List Loc), m_S D B K n g s.heap H locs → ∀ ls : Array Slot, lv_has ls 3 [(0, .ref (B + a0)), (2, .int x2)] → W p l e ({ frames := 1, cells := 0, slots := 0, locals := 22 } : Room) s m args below meth c H locs 0 0 (MQ below (m_Q D B K none n g') args s 0 0 (fun q => B ≤ q)) (F0 m 2 ls []) := by
  have hx := E.1.1
  have hb := E.1.2.1
  have hts := E.1.2.2.2.2
  intro fu
  induction fu with
  | zero => intro g a0 x2 r g' hF; cases hF
  | succ fu ih =>
    intro g a0 x2 r g' hF H locs S ls hl
    rw [f_Mod_one_2] at hF
    refine lv_aload_n hx hb d_Mod_one_2 rfl (lv_at hl 0 rfl) ?_
    replace hF := Option.bind_eq_some_iff.mp hF
    obtain ⟨v_1, ev_1, hF⟩ := hF
    refine m_getI (B := B) (a := a0) E S fd_Mod_signCount (Or.inl qw_365) ev_1 d_Mod_one_3 ?_
    refine lv_if_le (tgt := 47) hx hb d_Mod_one_6 (by decide) (fun c_2 => ?_) (fun c_2 => ?_)
    · rw [if_pos c_2] at hF
      exact c_Mod_one_47 E hr hlk hz _ _ _ _ _ hF _ _ S _ (lv_sub hl [0, 1] rfl)
    · rw [if_neg c_2] at hF
      refine lv_aload_n hx hb d_Mod_one_9 rfl (lv_at hl 0 rfl) ?_
      replace hF := Option.bind_eq_some_iff.mp hF
      obtain ⟨v_3, ev_3, hF⟩ := hF
      refine m_getR (B := B) (a := a0) E S fd_Mod_signs (Or.inl qw_302) ev_3 d_Mod_one_10 ?_
      refine lv_aload_n hx hb d_Mod_one_13 rfl (lv_at hl 0 rfl) ?_
      replace hF := Option.bind_eq_some_iff.mp hF
      obtain ⟨v_4, ev_4, hF⟩ := hF
      refine m_getI (B := B) (a := a0) E S fd_Mod_signCount (Or.inl qw_365) ev_4 d_Mod_one_14 ?_
      refine lv_iconst (v := 1) hx hb d_Mod_one_17 (by decide) ?_
      refine lv_isub hx hb d_Mod_one_18 ?_
      replace hF := Option.bind_eq_some_iff.mp hF
      obtain ⟨a_5, ea_5, hF⟩ := hF
      subst ea_5
      replace hF := Option.bind_eq_some_iff.mp hF
      obtain ⟨v_6, ev_6, hF⟩ := hF
      refine m_iald (B := B) (a := a_5) (t := 0) E S rfl ev_6 d_Mod_one_19 ?_
      refine lv_bipush (v := 33) hx hb d_Mod_one_20 (by decide) ?_
      refine lv_icmp_ne (tgt := 47) hx hb d_Mod_one_22 (by decide) (fun c_7 => ?_) (fun c_7 => ?_)
      · rw [if_neg c_7] at hF
        exact c_Mod_one_47 E hr hlk hz _ _ _ _ _ hF _ _ S _ (lv_sub hl [0, 1] rfl)
      · rw [if_pos c_7] at hF
        refine lv_aload_n hx hb d_Mod_one_25 rfl (lv_at hl 0 rfl) ?_
        replace hF := m_gd_inv hF
        obtain ⟨eog_8, hF⟩ := hF
        replace hF := m_bd_inv hF
        obtain ⟨v_9, g_8, eg_8, hF⟩ := hF
        refine m_callV (B := B) (nn := 0) (b := a0) (As := []) (rest := []) (v := (some (.int v_9))) E S hz (c_Mod_present l D B K n g a0 v_9 g_8 eg_8) qc_Mod_present ⟨rfl, rfl⟩ (Or.inl qw_367) qw_368 qw_369 qw_304 (by decide +kernel) ⟨Nat.le_of_ble_eq_true rfl, Nat.le_of_ble_eq_true rfl⟩ eog_8 rfl rfl hl.1 (Nat.le_of_ble_eq_true rfl) d_Mod_one_26 ⟨Nat.le_of_ble_eq_true rfl, Nat.le_of_ble_eq_true rfl⟩ (fun H locs S => ?_)
        refine W.eq (g2 := F0 m 29 ls [.int v_9]) rfl ?_
        refine lv_iload_n hx hb d_Mod_one_29 rfl (lv_at hl 1 rfl) ?_
        refine lv_iconst (v := (-1)) hx hb d_Mod_one_30 (by decide) ?_
        refine lv_ixor hx hb d_Mod_one_31 ?_
        refine lv_iand hx hb d_Mod_one_32 ?_
        refine lv_istore_n (lv' := [(2, .int (v_9 &&& (x2 ^^^ (-1)))), (0, .ref (B + a0))]) hx hb d_Mod_one_33 rfl hl (by decide) rfl (fun ls hl => ?_)
        refine lv_aload_n hx hb d_Mod_one_34 rfl (lv_at hl 1 rfl) ?_
        refine lv_dup hx hb d_Mod_one_35 rfl ?_
        replace hF := Option.bind_eq_some_iff.mp hF
        obtain ⟨v_10, ev_10, hF⟩ := hF
        refine m_getI (B := B) (a := a0) E S fd_Mod_signCount (Or.inl qw_365) ev_10 d_Mod_one_36 ?_
        refine lv_iconst (v := 1) hx hb d_Mod_one_39 (by decide) ?_
        refine lv_isub hx hb d_Mod_one_40 ?_
        replace hF := Option.bind_eq_some_iff.mp hF
        obtain ⟨g_11, eg_11, hF⟩ := hF
        refine m_putI (B := B) (a := a0) E S fd_Mod_signCount (Or.inl qw_365) eg_11 d_Mod_one_41 (fun H locs S => ?_)
        refine lv_goto (tgt := 2) hx hb d_Mod_one_44 (by decide) ?_
        exact ih _ _ _ _ _ hF _ _ S _ (lv_sub hl [1, 0] rfl)
end S_Mod_one
def f_Mod_one  (g : m_G) (a0 : Nat) (x1 : Int32) : Option (Unit × m_G) :=
  f_Mod_one_2 m_fu g a0 x1
set_option maxHeartbeats 1000000 in
set_option maxRecDepth 100000 in
theorem c_Mod_one (l : Launch) (D : va_G) (B : Nat) (K : Nat → ClassId)  (n : Nat) (g : m_G) (a0 : Nat) (x1 : Int32) (r : Unit) (g' : m_G) (hF : f_Mod_one g a0 x1 = some (r, g')) : Met l y_Mod_one (Cond.code y_Mod_one b_Mod_one 3 none :: m_TB) ({ frames := 1, cells := 0, slots := 0, locals := 22 } : Room) (m_Pc D B K n g [.ref (B + a0), .int x1]) (m_Q D B K none n g') 0 0 (fun q => B ≤ q) := by
  refine m_met (by decide) (Nat.le_of_ble_eq_true rfl) ?_
  intro p e s m args below meth c ls E hr hlk hin hsz S hl
  have E : m_V p m c b_Mod_one 3 s args R_Mod D K := E
  have hz : s.heap.size + 0 = B + n := hsz
  have hl : lv_has ls 3 [(0, .ref (B + a0)), (1, .int x1)] := hl
  have hx := E.1.1
  have hb := E.1.2.1
  have hts := E.1.2.2.2.2
  unfold f_Mod_one at hF
  refine lv_iload_n hx hb d_Mod_one_0 rfl (lv_at hl 1 rfl) ?_
  refine lv_istore_n (lv' := [(2, .int x1), (0, .ref (B + a0)), (1, .int x1)]) hx hb d_Mod_one_1 rfl hl (by decide) rfl (fun ls hl => ?_)
  exact c_Mod_one_2 E hr hlk hz m_fu _ _ _ _ _ hF _ _ S _ (lv_sub hl [1, 0] rfl)
section S_Mod_sign
variable {p : Program} {l : Launch} {e : Env} {s : State} {m : MethodId} {args : Array Value} {below : List Frame} {meth : Method} {c : Code} {D : va_G} {B n : Nat} {K : Nat → ClassId}
def f_Mod_sign_117   (g : m_G)  : Option (Unit × m_G) :=
  some ((), g)
set_option maxHeartbeats 1000000 in
set_option maxRecDepth 100000 in
theorem c_Mod_sign_117 (E : m_V p m c b_Mod_sign 2 s args R_Mod D K) (hr : meth.sig.returnType = none) (hlk : meth.locks = false) (hz : s.heap.size + 0 = B + n)   : ∀ (g : m_G)  (r : Unit) (g' : m_G), f_Mod_sign_117 g  = some (r, g') → ∀ (H : Heap) (locs : List Loc), m_S D B K n g s.heap H locs → ∀ ls : Array Slot, lv_has ls 2 [] → W p l e ({ frames := 2, cells := 0, slots := 0, locals := 44 } : Room) s m args below meth c H locs 0 0 (MQ below (m_Q D B K none n g') args s 0 0 (fun q => B ≤ q)) (F0 m 117 ls []) := by
  have hx := E.1.1
  have hb := E.1.2.1
  have hts := E.1.2.2.2.2
  intro g  r g' hF H locs S ls hl
  unfold f_Mod_sign_117 at hF
  cases hF
  skip
  exact m_vret E S hz hr hlk d_Mod_sign_117
def f_Mod_sign_12   (g : m_G) (a0 : Nat) (x1 : Int32) : Option (Unit × m_G) :=
  (m_gR g a0 8 23).bind fun v_1 =>
  (m_gI g a0 8 25).bind fun v_2 =>
  Option.bind v_1 fun a_3 =>
  (m_st g a_3 0 v_2 x1).bind fun g_4 =>
  (m_gI g_4 a0 8 25).bind fun v_5 =>
  (m_pI g_4 a0 8 25 (v_5 + 1)).bind fun g_6 =>
  f_Mod_sign_117 g_6 
set_option maxHeartbeats 1000000 in
set_option maxRecDepth 100000 in
theorem c_Mod_sign_12 (E : m_V p m c b_Mod_sign 2 s args R_Mod D K) (hr : meth.sig.returnType = none) (hlk : meth.locks = false) (hz : s.heap.size + 0 = B + n)   : ∀ (g : m_G) (a0 : Nat) (x1 : Int32) (r : Unit) (g' : m_G), f_Mod_sign_12 g a0 x1 = some (r, g') → ∀ (H : Heap) (locs : List Loc), m_S D B K n g s.heap H locs → ∀ ls : Array Slot, lv_has ls 2 [(0, .ref (B + a0)), (1, .int x1)] → W p l e ({ frames := 2, cells := 0, slots := 0, locals := 44 } : Room) s m args below meth c H locs 0 0 (MQ below (m_Q D B K none n g') args s 0 0 (fun q => B ≤ q)) (F0 m 12 ls []) := by
  have hx := E.1.1
  have hb := E.1.2.1
  have hts := E.1.2.2.2.2
  intro g a0 x1 r g' hF H locs S ls hl
  unfold f_Mod_sign_12 at hF
  refine lv_aload_n hx hb d_Mod_sign_12 rfl (lv_at hl 0 rfl) ?_
  replace hF := Option.bind_eq_some_iff.mp hF
  obtain ⟨v_1, ev_1, hF⟩ := hF
  refine m_getR (B := B) (a := a0) E S fd_Mod_signs (Or.inl qw_302) ev_1 d_Mod_sign_13 ?_
  refine lv_aload_n hx hb d_Mod_sign_16 rfl (lv_at hl 0 rfl) ?_
  replace hF := Option.bind_eq_some_iff.mp hF
  obtain ⟨v_2, ev_2, hF⟩ := hF
  refine m_getI (B := B) (a := a0) E S fd_Mod_signCount (Or.inl qw_365) ev_2 d_Mod_sign_17 ?_
  refine lv_iload_n hx hb d_Mod_sign_20 rfl (lv_at hl 1 rfl) ?_
  replace hF := Option.bind_eq_some_iff.mp hF
  obtain ⟨a_3, ea_3, hF⟩ := hF
  subst ea_3
  replace hF := Option.bind_eq_some_iff.mp hF
  obtain ⟨g_4, eg_4, hF⟩ := hF
  refine m_iast (B := B) (a := a_3) (t := 0) E S rfl eg_4 d_Mod_sign_21 (fun H locs S => ?_)
  refine lv_aload_n hx hb d_Mod_sign_22 rfl (lv_at hl 0 rfl) ?_
  refine lv_dup hx hb d_Mod_sign_23 rfl ?_
  replace hF := Option.bind_eq_some_iff.mp hF
  obtain ⟨v_5, ev_5, hF⟩ := hF
  refine m_getI (B := B) (a := a0) E S fd_Mod_signCount (Or.inl qw_365) ev_5 d_Mod_sign_24 ?_
  refine lv_iconst (v := 1) hx hb d_Mod_sign_27 (by decide) ?_
  refine lv_iadd hx hb d_Mod_sign_28 ?_
  replace hF := Option.bind_eq_some_iff.mp hF
  obtain ⟨g_6, eg_6, hF⟩ := hF
  refine m_putI (B := B) (a := a0) E S fd_Mod_signCount (Or.inl qw_365) eg_6 d_Mod_sign_29 (fun H locs S => ?_)
  refine lv_goto (tgt := 117) hx hb d_Mod_sign_32 (by decide) ?_
  exact c_Mod_sign_117 E hr hlk hz _ _ _ hF _ _ S _ (lv_sub hl [] rfl)
def f_Mod_sign_94   (g : m_G) (a0 : Nat) (x1 : Int32) (y0 : Int32) (t1 : Option Nat) : Option (Unit × m_G) :=
  Option.bind t1 fun a_1 =>
  m_gd (m_is g a_1 8) <|
  m_bd (f_Mod_reduce g a_1 y0) fun v_3 g_2 =>
  (m_gR g_2 a0 8 23).bind fun v_4 =>
  (m_gI g_2 a0 8 25).bind fun v_5 =>
  Option.bind v_4 fun a_6 =>
  (m_st g_2 a_6 0 v_5 x1).bind fun g_7 =>
  (m_gI g_7 a0 8 25).bind fun v_8 =>
  (m_pI g_7 a0 8 25 (v_8 + 1)).bind fun g_9 =>
  f_Mod_sign_117 g_9 
set_option maxHeartbeats 1000000 in
set_option maxRecDepth 100000 in
theorem c_Mod_sign_94 (E : m_V p m c b_Mod_sign 2 s args R_Mod D K) (hr : meth.sig.returnType = none) (hlk : meth.locks = false) (hz : s.heap.size + 0 = B + n)   : ∀ (g : m_G) (a0 : Nat) (x1 : Int32) (y0 : Int32) (t1 : Option Nat) (r : Unit) (g' : m_G), f_Mod_sign_94 g a0 x1 y0 t1 = some (r, g') → ∀ (H : Heap) (locs : List Loc), m_S D B K n g s.heap H locs → ∀ ls : Array Slot, lv_has ls 2 [(0, .ref (B + a0)), (1, .int x1)] → W p l e ({ frames := 2, cells := 0, slots := 0, locals := 44 } : Room) s m args below meth c H locs 0 0 (MQ below (m_Q D B K none n g') args s 0 0 (fun q => B ≤ q)) (F0 m 94 ls [.int y0, m_r B t1]) := by
  have hx := E.1.1
  have hb := E.1.2.1
  have hts := E.1.2.2.2.2
  intro g a0 x1 y0 t1 r g' hF H locs S ls hl
  unfold f_Mod_sign_94 at hF
  replace hF := Option.bind_eq_some_iff.mp hF
  obtain ⟨a_1, ea_1, hF⟩ := hF
  subst ea_1
  replace hF := m_gd_inv hF
  obtain ⟨eog_2, hF⟩ := hF
  replace hF := m_bd_inv hF
  obtain ⟨v_3, g_2, eg_2, hF⟩ := hF
  refine m_callV (B := B) (nn := 1) (b := a_1) (As := [.int y0]) (rest := []) (v := none) E S hz (c_Mod_reduce l D B K n g a_1 y0 v_3 g_2 eg_2) qc_Mod_reduce ⟨rfl, rfl⟩ (Or.inl qw_370) qw_371 qw_372 qw_304 (by decide +kernel) ⟨Nat.le_of_ble_eq_true rfl, Nat.le_of_ble_eq_true rfl⟩ eog_2 rfl rfl hl.1 (Nat.le_of_ble_eq_true rfl) d_Mod_sign_94 ⟨Nat.le_of_ble_eq_true rfl, Nat.le_of_ble_eq_true rfl⟩ (fun H locs S => ?_)
  refine W.eq (g2 := F0 m 97 ls []) rfl ?_
  refine lv_aload_n hx hb d_Mod_sign_97 rfl (lv_at hl 0 rfl) ?_
  replace hF := Option.bind_eq_some_iff.mp hF
  obtain ⟨v_4, ev_4, hF⟩ := hF
  refine m_getR (B := B) (a := a0) E S fd_Mod_signs (Or.inl qw_302) ev_4 d_Mod_sign_98 ?_
  refine lv_aload_n hx hb d_Mod_sign_101 rfl (lv_at hl 0 rfl) ?_
  replace hF := Option.bind_eq_some_iff.mp hF
  obtain ⟨v_5, ev_5, hF⟩ := hF
  refine m_getI (B := B) (a := a0) E S fd_Mod_signCount (Or.inl qw_365) ev_5 d_Mod_sign_102 ?_
  refine lv_iload_n hx hb d_Mod_sign_105 rfl (lv_at hl 1 rfl) ?_
  replace hF := Option.bind_eq_some_iff.mp hF
  obtain ⟨a_6, ea_6, hF⟩ := hF
  subst ea_6
  replace hF := Option.bind_eq_some_iff.mp hF
  obtain ⟨g_7, eg_7, hF⟩ := hF
  refine m_iast (B := B) (a := a_6) (t := 0) E S rfl eg_7 d_Mod_sign_106 (fun H locs S => ?_)
  refine lv_aload_n hx hb d_Mod_sign_107 rfl (lv_at hl 0 rfl) ?_
  refine lv_dup hx hb d_Mod_sign_108 rfl ?_
  replace hF := Option.bind_eq_some_iff.mp hF
  obtain ⟨v_8, ev_8, hF⟩ := hF
  refine m_getI (B := B) (a := a0) E S fd_Mod_signCount (Or.inl qw_365) ev_8 d_Mod_sign_109 ?_
  refine lv_iconst (v := 1) hx hb d_Mod_sign_112 (by decide) ?_
  refine lv_iadd hx hb d_Mod_sign_113 ?_
  replace hF := Option.bind_eq_some_iff.mp hF
  obtain ⟨g_9, eg_9, hF⟩ := hF
  refine m_putI (B := B) (a := a0) E S fd_Mod_signCount (Or.inl qw_365) eg_9 d_Mod_sign_114 (fun H locs S => ?_)
  exact c_Mod_sign_117 E hr hlk hz _ _ _ hF _ _ S _ (lv_sub hl [] rfl)
end S_Mod_sign
def f_Mod_sign  (g : m_G) (a0 : Nat) (x1 : Int32) : Option (Unit × m_G) :=
  if (x1 : Int32) = 33 then
    f_Mod_sign_12 g a0 x1
  else
    if (x1 : Int32) = 40 then
      f_Mod_sign_12 g a0 x1
    else
      if (x1 : Int32) = 41 then
        m_gd (m_is g a0 8) <|
        m_bd (f_Mod_reduce g a0 1) fun v_6 g_5 =>
        (m_gI g_5 a0 8 25).bind fun v_7 =>
        (m_pI g_5 a0 8 25 (v_7 - 1)).bind fun g_8 =>
        (m_gI g_8 a0 8 24).bind fun v_9 =>
        (m_pI g_8 a0 8 24 (v_9 - 1)).bind fun g_10 =>
        (m_gR g_10 a0 8 22).bind fun v_11 =>
        (m_gI g_10 a0 8 24).bind fun v_12 =>
        Option.bind v_11 fun a_13 =>
        (m_ld g_10 a_13 0 v_12).bind fun v_14 =>
        m_gd (m_is g_10 a0 8) <|
        m_bd (f_Mod_one g_10 a0 v_14) fun v_16 g_15 =>
        f_Mod_sign_117 g_15 
      else
        if (x1 : Int32) = 124 then
          f_Mod_sign_94 g a0 x1 1 (some a0)
        else
          f_Mod_sign_94 g a0 x1 0 (some a0)
set_option maxHeartbeats 1000000 in
set_option maxRecDepth 100000 in
theorem c_Mod_sign (l : Launch) (D : va_G) (B : Nat) (K : Nat → ClassId)  (n : Nat) (g : m_G) (a0 : Nat) (x1 : Int32) (r : Unit) (g' : m_G) (hF : f_Mod_sign g a0 x1 = some (r, g')) : Met l y_Mod_sign (Cond.code y_Mod_sign b_Mod_sign 2 none :: m_TB) ({ frames := 2, cells := 0, slots := 0, locals := 44 } : Room) (m_Pc D B K n g [.ref (B + a0), .int x1]) (m_Q D B K none n g') 0 0 (fun q => B ≤ q) := by
  refine m_met (by decide) (Nat.le_of_ble_eq_true rfl) ?_
  intro p e s m args below meth c ls E hr hlk hin hsz S hl
  have E : m_V p m c b_Mod_sign 2 s args R_Mod D K := E
  have hz : s.heap.size + 0 = B + n := hsz
  have hl : lv_has ls 2 [(0, .ref (B + a0)), (1, .int x1)] := hl
  have hx := E.1.1
  have hb := E.1.2.1
  have hts := E.1.2.2.2.2
  unfold f_Mod_sign at hF
  refine lv_iload_n hx hb d_Mod_sign_0 rfl (lv_at hl 1 rfl) ?_
  refine lv_bipush (v := 33) hx hb d_Mod_sign_1 (by decide) ?_
  refine lv_icmp_eq (tgt := 12) hx hb d_Mod_sign_3 (by decide) (fun c_1 => ?_) (fun c_1 => ?_)
  · rw [if_pos c_1] at hF
    exact c_Mod_sign_12 E hr hlk hz _ _ _ _ _ hF _ _ S _ (lv_sub hl [0, 1] rfl)
  · rw [if_neg c_1] at hF
    refine lv_iload_n hx hb d_Mod_sign_6 rfl (lv_at hl 1 rfl) ?_
    refine lv_bipush (v := 40) hx hb d_Mod_sign_7 (by decide) ?_
    refine lv_icmp_ne (tgt := 35) hx hb d_Mod_sign_9 (by decide) (fun c_2 => ?_) (fun c_2 => ?_)
    · rw [if_neg c_2] at hF
      refine lv_iload_n hx hb d_Mod_sign_35 rfl (lv_at hl 1 rfl) ?_
      refine lv_bipush (v := 41) hx hb d_Mod_sign_36 (by decide) ?_
      refine lv_icmp_ne (tgt := 82) hx hb d_Mod_sign_38 (by decide) (fun c_3 => ?_) (fun c_3 => ?_)
      · rw [if_neg c_3] at hF
        refine lv_aload_n hx hb d_Mod_sign_82 rfl (lv_at hl 0 rfl) ?_
        refine lv_iload_n hx hb d_Mod_sign_83 rfl (lv_at hl 1 rfl) ?_
        refine lv_bipush (v := 124) hx hb d_Mod_sign_84 (by decide) ?_
        refine lv_icmp_ne (tgt := 93) hx hb d_Mod_sign_86 (by decide) (fun c_4 => ?_) (fun c_4 => ?_)
        · rw [if_neg c_4] at hF
          refine lv_iconst (v := 0) hx hb d_Mod_sign_93 (by decide) ?_
          exact c_Mod_sign_94 E hr hlk hz _ _ _ _ _ _ _ hF _ _ S _ (lv_sub hl [0, 1] rfl)
        · rw [if_pos c_4] at hF
          refine lv_iconst (v := 1) hx hb d_Mod_sign_89 (by decide) ?_
          refine lv_goto (tgt := 94) hx hb d_Mod_sign_90 (by decide) ?_
          exact c_Mod_sign_94 E hr hlk hz _ _ _ _ _ _ _ hF _ _ S _ (lv_sub hl [0, 1] rfl)
      · rw [if_pos c_3] at hF
        refine lv_aload_n hx hb d_Mod_sign_41 rfl (lv_at hl 0 rfl) ?_
        refine lv_iconst (v := 1) hx hb d_Mod_sign_42 (by decide) ?_
        replace hF := m_gd_inv hF
        obtain ⟨eog_5, hF⟩ := hF
        replace hF := m_bd_inv hF
        obtain ⟨v_6, g_5, eg_5, hF⟩ := hF
        refine m_callV (B := B) (nn := 1) (b := a0) (As := [.int 1]) (rest := []) (v := none) E S hz (c_Mod_reduce l D B K n g a0 1 v_6 g_5 eg_5) qc_Mod_reduce ⟨rfl, rfl⟩ (Or.inl qw_370) qw_371 qw_372 qw_304 (by decide +kernel) ⟨Nat.le_of_ble_eq_true rfl, Nat.le_of_ble_eq_true rfl⟩ eog_5 rfl rfl hl.1 (Nat.le_of_ble_eq_true rfl) d_Mod_sign_43 ⟨Nat.le_of_ble_eq_true rfl, Nat.le_of_ble_eq_true rfl⟩ (fun H locs S => ?_)
        refine W.eq (g2 := F0 m 46 ls []) rfl ?_
        refine lv_aload_n hx hb d_Mod_sign_46 rfl (lv_at hl 0 rfl) ?_
        refine lv_dup hx hb d_Mod_sign_47 rfl ?_
        replace hF := Option.bind_eq_some_iff.mp hF
        obtain ⟨v_7, ev_7, hF⟩ := hF
        refine m_getI (B := B) (a := a0) E S fd_Mod_signCount (Or.inl qw_365) ev_7 d_Mod_sign_48 ?_
        refine lv_iconst (v := 1) hx hb d_Mod_sign_51 (by decide) ?_
        refine lv_isub hx hb d_Mod_sign_52 ?_
        replace hF := Option.bind_eq_some_iff.mp hF
        obtain ⟨g_8, eg_8, hF⟩ := hF
        refine m_putI (B := B) (a := a0) E S fd_Mod_signCount (Or.inl qw_365) eg_8 d_Mod_sign_53 (fun H locs S => ?_)
        refine lv_aload_n hx hb d_Mod_sign_56 rfl (lv_at hl 0 rfl) ?_
        refine lv_dup hx hb d_Mod_sign_57 rfl ?_
        replace hF := Option.bind_eq_some_iff.mp hF
        obtain ⟨v_9, ev_9, hF⟩ := hF
        refine m_getI (B := B) (a := a0) E S fd_Mod_setCount (Or.inl qw_366) ev_9 d_Mod_sign_58 ?_
        refine lv_iconst (v := 1) hx hb d_Mod_sign_61 (by decide) ?_
        refine lv_isub hx hb d_Mod_sign_62 ?_
        replace hF := Option.bind_eq_some_iff.mp hF
        obtain ⟨g_10, eg_10, hF⟩ := hF
        refine m_putI (B := B) (a := a0) E S fd_Mod_setCount (Or.inl qw_366) eg_10 d_Mod_sign_63 (fun H locs S => ?_)
        refine lv_aload_n hx hb d_Mod_sign_66 rfl (lv_at hl 0 rfl) ?_
        refine lv_aload_n hx hb d_Mod_sign_67 rfl (lv_at hl 0 rfl) ?_
        replace hF := Option.bind_eq_some_iff.mp hF
        obtain ⟨v_11, ev_11, hF⟩ := hF
        refine m_getR (B := B) (a := a0) E S fd_Mod_sets (Or.inl qw_301) ev_11 d_Mod_sign_68 ?_
        refine lv_aload_n hx hb d_Mod_sign_71 rfl (lv_at hl 0 rfl) ?_
        replace hF := Option.bind_eq_some_iff.mp hF
        obtain ⟨v_12, ev_12, hF⟩ := hF
        refine m_getI (B := B) (a := a0) E S fd_Mod_setCount (Or.inl qw_366) ev_12 d_Mod_sign_72 ?_
        replace hF := Option.bind_eq_some_iff.mp hF
        obtain ⟨a_13, ea_13, hF⟩ := hF
        subst ea_13
        replace hF := Option.bind_eq_some_iff.mp hF
        obtain ⟨v_14, ev_14, hF⟩ := hF
        refine m_iald (B := B) (a := a_13) (t := 0) E S rfl ev_14 d_Mod_sign_75 ?_
        replace hF := m_gd_inv hF
        obtain ⟨eog_15, hF⟩ := hF
        replace hF := m_bd_inv hF
        obtain ⟨v_16, g_15, eg_15, hF⟩ := hF
        refine m_callV (B := B) (nn := 1) (b := a0) (As := [.int v_14]) (rest := []) (v := none) E S hz (c_Mod_one l D B K n g_10 a0 v_14 v_16 g_15 eg_15) qc_Mod_one ⟨rfl, rfl⟩ (Or.inl qw_373) qw_374 qw_375 qw_304 (by decide +kernel) ⟨Nat.le_of_ble_eq_true rfl, Nat.le_of_ble_eq_true rfl⟩ eog_15 rfl rfl hl.1 (Nat.le_of_ble_eq_true rfl) d_Mod_sign_76 ⟨Nat.le_of_ble_eq_true rfl, Nat.le_of_ble_eq_true rfl⟩ (fun H locs S => ?_)
        refine W.eq (g2 := F0 m 79 ls []) rfl ?_
        refine lv_goto (tgt := 117) hx hb d_Mod_sign_79 (by decide) ?_
        exact c_Mod_sign_117 E hr hlk hz _ _ _ hF _ _ S _ (lv_sub hl [] rfl)
    · rw [if_pos c_2] at hF
      exact c_Mod_sign_12 E hr hlk hz _ _ _ _ _ hF _ _ S _ (lv_sub hl [0, 1] rfl)
