section S_Line_isClosing
variable {p : Program} {l : Launch} {e : Env} {s : State} {m : MethodId} {args : Array Value} {below : List Frame} {meth : Method} {c : Code} {D : va_G} {B n : Nat} {K : Nat → ClassId}
def f_Line_isClosing_42   (g : m_G) (y0 : Int32) : Option (Int32 × m_G) :=
  if (y0 : Int32) = 0 ∨ y0 = 1 then some (y0, g) else none
set_option maxHeartbeats 1000000 in
set_option maxRecDepth 100000 in
theorem c_Line_isClosing_42 (E : m_V p m c b_Line_isClosing 2 s args R_Line D K) (hr : meth.sig.returnType = (some .boolean)) (hlk : meth.locks = false) (hz : s.heap.size + 0 = B + n)   : ∀ (g : m_G) (y0 : Int32) (r : Int32) (g' : m_G), f_Line_isClosing_42 g y0 = some (r, g') → ∀ (H : Heap) (locs : List Loc), m_S D B K n g s.heap H locs → ∀ ls : Array Slot, lv_has ls 2 [] → W p l e ({ frames := 1, cells := 0, slots := 0, locals := 21 } : Room) s m args below meth c H locs 0 0 (MQ below (m_Q D B K (some (.int r)) n g') args s 0 0 (fun q => B ≤ q)) (F0 m 42 ls [.int y0]) := by
  have hx := E.1.1
  have hb := E.1.2.1
  have hts := E.1.2.2.2.2
  intro g y0 r g' hF H locs S ls hl
  unfold f_Line_isClosing_42 at hF
  by_cases c_1 : (y0 : Int32) = 0 ∨ y0 = 1
  · rw [if_pos c_1] at hF
    cases hF
    exact m_zret E S hz hr hlk c_1 d_Line_isClosing_42
  · rw [if_neg c_1] at hF
    cases hF
def f_Line_isClosing_41   (g : m_G)  : Option (Int32 × m_G) :=
  f_Line_isClosing_42 g 0
set_option maxHeartbeats 1000000 in
set_option maxRecDepth 100000 in
theorem c_Line_isClosing_41 (E : m_V p m c b_Line_isClosing 2 s args R_Line D K) (hr : meth.sig.returnType = (some .boolean)) (hlk : meth.locks = false) (hz : s.heap.size + 0 = B + n)   : ∀ (g : m_G)  (r : Int32) (g' : m_G), f_Line_isClosing_41 g  = some (r, g') → ∀ (H : Heap) (locs : List Loc), m_S D B K n g s.heap H locs → ∀ ls : Array Slot, lv_has ls 2 [] → W p l e ({ frames := 1, cells := 0, slots := 0, locals := 21 } : Room) s m args below meth c H locs 0 0 (MQ below (m_Q D B K (some (.int r)) n g') args s 0 0 (fun q => B ≤ q)) (F0 m 41 ls []) := by
  have hx := E.1.1
  have hb := E.1.2.1
  have hts := E.1.2.2.2.2
  intro g  r g' hF H locs S ls hl
  unfold f_Line_isClosing_41 at hF
  refine lv_iconst (v := 0) hx hb d_Line_isClosing_41 (by decide) ?_
  exact c_Line_isClosing_42 E hr hlk hz _ _ _ _ hF _ _ S _ (lv_sub hl [] rfl)
end S_Line_isClosing
def f_Line_isClosing  (g : m_G) (a0 : Nat) (x1 : Int32) : Option (Int32 × m_G) :=
  (m_gI g a0 1 1).bind fun v_1 =>
  if (v_1 : Int32) = 3 then
    m_gd (m_is g a0 1) <|
    m_bd (f_Line_at g a0 0) fun v_4 g_3 =>
    if (v_4 : Int32) = 45 then
      m_gd (m_is g_3 a0 1) <|
      m_bd (f_Line_at g_3 a0 1) fun v_7 g_6 =>
      if (v_7 : Int32) = x1 then
        m_gd (m_is g_6 a0 1) <|
        m_bd (f_Line_at g_6 a0 2) fun v_10 g_9 =>
        if (v_10 : Int32) = 46 then
          f_Line_isClosing_42 g_9 1
        else
          f_Line_isClosing_41 g_9 
      else
        f_Line_isClosing_41 g_6 
    else
      f_Line_isClosing_41 g_3 
  else
    f_Line_isClosing_41 g 
set_option maxHeartbeats 1000000 in
set_option maxRecDepth 100000 in
theorem c_Line_isClosing (l : Launch) (D : va_G) (B : Nat) (K : Nat → ClassId)  (n : Nat) (g : m_G) (a0 : Nat) (x1 : Int32) (r : Int32) (g' : m_G) (hF : f_Line_isClosing g a0 x1 = some (r, g')) : Met l y_Line_isClosing (Cond.code y_Line_isClosing b_Line_isClosing 2 (some .boolean) :: m_TB) ({ frames := 1, cells := 0, slots := 0, locals := 21 } : Room) (m_Pc D B K n g [.ref (B + a0), .int x1]) (m_Q D B K (some (.int r)) n g') 0 0 (fun q => B ≤ q) := by
  refine m_met (by decide) (Nat.le_of_ble_eq_true rfl) ?_
  intro p e s m args below meth c ls E hr hlk hin hsz S hl
  have E : m_V p m c b_Line_isClosing 2 s args R_Line D K := E
  have hz : s.heap.size + 0 = B + n := hsz
  have hl : lv_has ls 2 [(0, .ref (B + a0)), (1, .int x1)] := hl
  have hx := E.1.1
  have hb := E.1.2.1
  have hts := E.1.2.2.2.2
  unfold f_Line_isClosing at hF
  refine lv_aload_n hx hb d_Line_isClosing_0 rfl (lv_at hl 0 rfl) ?_
  replace hF := Option.bind_eq_some_iff.mp hF
  obtain ⟨v_1, ev_1, hF⟩ := hF
  refine m_getI (B := B) (a := a0) E S fd_Line_length (Or.inl qw_5) ev_1 d_Line_isClosing_1 ?_
  refine lv_iconst (v := 3) hx hb d_Line_isClosing_4 (by decide) ?_
  refine lv_icmp_ne (tgt := 41) hx hb d_Line_isClosing_5 (by decide) (fun c_2 => ?_) (fun c_2 => ?_)
  · rw [if_neg c_2] at hF
    exact c_Line_isClosing_41 E hr hlk hz _ _ _ hF _ _ S _ (lv_sub hl [] rfl)
  · rw [if_pos c_2] at hF
    refine lv_aload_n hx hb d_Line_isClosing_8 rfl (lv_at hl 0 rfl) ?_
    refine lv_iconst (v := 0) hx hb d_Line_isClosing_9 (by decide) ?_
    replace hF := m_gd_inv hF
    obtain ⟨eog_3, hF⟩ := hF
    replace hF := m_bd_inv hF
    obtain ⟨v_4, g_3, eg_3, hF⟩ := hF
    refine m_callV (B := B) (nn := 1) (b := a0) (As := [.int 0]) (rest := []) (v := (some (.int v_4))) E S hz (c_Line_at l D B K n g a0 0 v_4 g_3 eg_3) qc_Line_at ⟨rfl, rfl⟩ (Or.inl qw_97) qw_98 qw_99 qw_11 (by decide +kernel) ⟨Nat.le_of_ble_eq_true rfl, Nat.le_of_ble_eq_true rfl⟩ eog_3 rfl rfl hl.1 (Nat.le_of_ble_eq_true rfl) d_Line_isClosing_10 ⟨Nat.le_of_ble_eq_true rfl, Nat.le_of_ble_eq_true rfl⟩ (fun H locs S => ?_)
    refine W.eq (g2 := F0 m 13 ls [.int v_4]) rfl ?_
    refine lv_bipush (v := 45) hx hb d_Line_isClosing_13 (by decide) ?_
    refine lv_icmp_ne (tgt := 41) hx hb d_Line_isClosing_15 (by decide) (fun c_5 => ?_) (fun c_5 => ?_)
    · rw [if_neg c_5] at hF
      exact c_Line_isClosing_41 E hr hlk hz _ _ _ hF _ _ S _ (lv_sub hl [] rfl)
    · rw [if_pos c_5] at hF
      refine lv_aload_n hx hb d_Line_isClosing_18 rfl (lv_at hl 0 rfl) ?_
      refine lv_iconst (v := 1) hx hb d_Line_isClosing_19 (by decide) ?_
      replace hF := m_gd_inv hF
      obtain ⟨eog_6, hF⟩ := hF
      replace hF := m_bd_inv hF
      obtain ⟨v_7, g_6, eg_6, hF⟩ := hF
      refine m_callV (B := B) (nn := 1) (b := a0) (As := [.int 1]) (rest := []) (v := (some (.int v_7))) E S hz (c_Line_at l D B K n g_3 a0 1 v_7 g_6 eg_6) qc_Line_at ⟨rfl, rfl⟩ (Or.inl qw_97) qw_98 qw_99 qw_11 (by decide +kernel) ⟨Nat.le_of_ble_eq_true rfl, Nat.le_of_ble_eq_true rfl⟩ eog_6 rfl rfl hl.1 (Nat.le_of_ble_eq_true rfl) d_Line_isClosing_20 ⟨Nat.le_of_ble_eq_true rfl, Nat.le_of_ble_eq_true rfl⟩ (fun H locs S => ?_)
      refine W.eq (g2 := F0 m 23 ls [.int v_7]) rfl ?_
      refine lv_iload_n hx hb d_Line_isClosing_23 rfl (lv_at hl 1 rfl) ?_
      refine lv_icmp_ne (tgt := 41) hx hb d_Line_isClosing_24 (by decide) (fun c_8 => ?_) (fun c_8 => ?_)
      · rw [if_neg c_8] at hF
        exact c_Line_isClosing_41 E hr hlk hz _ _ _ hF _ _ S _ (lv_sub hl [] rfl)
      · rw [if_pos c_8] at hF
        refine lv_aload_n hx hb d_Line_isClosing_27 rfl (lv_at hl 0 rfl) ?_
        refine lv_iconst (v := 2) hx hb d_Line_isClosing_28 (by decide) ?_
        replace hF := m_gd_inv hF
        obtain ⟨eog_9, hF⟩ := hF
        replace hF := m_bd_inv hF
        obtain ⟨v_10, g_9, eg_9, hF⟩ := hF
        refine m_callV (B := B) (nn := 1) (b := a0) (As := [.int 2]) (rest := []) (v := (some (.int v_10))) E S hz (c_Line_at l D B K n g_6 a0 2 v_10 g_9 eg_9) qc_Line_at ⟨rfl, rfl⟩ (Or.inl qw_97) qw_98 qw_99 qw_11 (by decide +kernel) ⟨Nat.le_of_ble_eq_true rfl, Nat.le_of_ble_eq_true rfl⟩ eog_9 rfl rfl hl.1 (Nat.le_of_ble_eq_true rfl) d_Line_isClosing_29 ⟨Nat.le_of_ble_eq_true rfl, Nat.le_of_ble_eq_true rfl⟩ (fun H locs S => ?_)
        refine W.eq (g2 := F0 m 32 ls [.int v_10]) rfl ?_
        refine lv_bipush (v := 46) hx hb d_Line_isClosing_32 (by decide) ?_
        refine lv_icmp_ne (tgt := 41) hx hb d_Line_isClosing_34 (by decide) (fun c_11 => ?_) (fun c_11 => ?_)
        · rw [if_neg c_11] at hF
          exact c_Line_isClosing_41 E hr hlk hz _ _ _ hF _ _ S _ (lv_sub hl [] rfl)
        · rw [if_pos c_11] at hF
          refine lv_iconst (v := 1) hx hb d_Line_isClosing_37 (by decide) ?_
          refine lv_goto (tgt := 42) hx hb d_Line_isClosing_38 (by decide) ?_
          exact c_Line_isClosing_42 E hr hlk hz _ _ _ _ hF _ _ S _ (lv_sub hl [] rfl)
section S_Draft_closingPlace
variable {p : Program} {l : Launch} {e : Env} {s : State} {m : MethodId} {args : Array Value} {below : List Frame} {meth : Method} {c : Code} {D : va_G} {B n : Nat} {K : Nat → ClassId}
def f_Draft_closingPlace_3   : Nat → m_G → Nat → Int32 → Int32 → Int32 → Option (Int32 × m_G)
  | 0, _, _, _, _, _ => none
  | fu + 1, g, a0, x2, x3, x4 =>
    if (x2 : Int32) ≤ x4 then
      some (x2, g)
    else
      (m_gR g a0 2 0).bind fun v_2 =>
      Option.bind v_2 fun a_3 =>
      (m_ldR g a_3 4 x4).bind fun v_4 =>
      Option.bind v_4 fun a_5 =>
      m_gd (m_is g a_5 1) <|
      m_bd (f_Line_isClosing g a_5 x3) fun v_7 g_6 =>
      if (v_7 : Int32) = 0 then
        f_Draft_closingPlace_3 fu g_6 a0 x2 x3 (x4 + 1)
      else
        some (x4, g_6)
set_option maxHeartbeats 1000000 in
set_option maxRecDepth 100000 in
theorem c_Draft_closingPlace_3 (E : m_V p m c b_Draft_closingPlace 5 s args R_Draft D K) (hr : meth.sig.returnType = (some .int)) (hlk : meth.locks = false) (hz : s.heap.size + 0 = B + n)   : ∀ fu : Nat, ∀ (g : m_G) (a0 : Nat) (x2 : Int32) (x3 : Int32) (x4 : Int32) (r : Int32) (g' : m_G), f_Draft_closingPlace_3  fu g a0 x2 x3 x4 = some (r, g') → ∀ (H : Heap) (locs : List Loc), m_S D B K n g s.heap H locs → ∀ ls : Array Slot, lv_has ls 5 [(0, .ref (B + a0)), (2, .int x2), (3, .int x3), (4, .int x4)] → W p l e ({ frames := 2, cells := 0, slots := 0, locals := 42 } : Room) s m args below meth c H locs 0 0 (MQ below (m_Q D B K (some (.int r)) n g') args s 0 0 (fun q => B ≤ q)) (F0 m 3 ls []) := by
  have hx := E.1.1
  have hb := E.1.2.1
  have hts := E.1.2.2.2.2
  intro fu
  induction fu with
  | zero => intro g a0 x2 x3 x4 r g' hF; cases hF
  | succ fu ih =>
    intro g a0 x2 x3 x4 r g' hF H locs S ls hl
    rw [f_Draft_closingPlace_3] at hF
    refine lv_iload hx hb d_Draft_closingPlace_3 (lv_at hl 3 rfl) ?_
    refine lv_iload_n hx hb d_Draft_closingPlace_5 rfl (lv_at hl 1 rfl) ?_
    refine lv_icmp_ge (tgt := 32) hx hb d_Draft_closingPlace_6 (by decide) (fun c_1 => ?_) (fun c_1 => ?_)
    · rw [if_pos c_1] at hF
      refine lv_iload_n hx hb d_Draft_closingPlace_32 rfl (lv_at hl 1 rfl) ?_
      cases hF
      exact m_iret E S hz hr hlk d_Draft_closingPlace_33
    · rw [if_neg c_1] at hF
      refine lv_aload_n hx hb d_Draft_closingPlace_9 rfl (lv_at hl 0 rfl) ?_
      replace hF := Option.bind_eq_some_iff.mp hF
      obtain ⟨v_2, ev_2, hF⟩ := hF
      refine m_getR (B := B) (a := a0) E S fd_Draft_lines (Or.inl qw_8) ev_2 d_Draft_closingPlace_10 ?_
      refine lv_iload hx hb d_Draft_closingPlace_13 (lv_at hl 3 rfl) ?_
      replace hF := Option.bind_eq_some_iff.mp hF
      obtain ⟨a_3, ea_3, hF⟩ := hF
      subst ea_3
      replace hF := Option.bind_eq_some_iff.mp hF
      obtain ⟨v_4, ev_4, hF⟩ := hF
      refine m_aald (B := B) (a := a_3) (t := 4) E S rfl ev_4 d_Draft_closingPlace_15 ?_
      refine lv_iload_n hx hb d_Draft_closingPlace_16 rfl (lv_at hl 2 rfl) ?_
      replace hF := Option.bind_eq_some_iff.mp hF
      obtain ⟨a_5, ea_5, hF⟩ := hF
      subst ea_5
      replace hF := m_gd_inv hF
      obtain ⟨eog_6, hF⟩ := hF
      replace hF := m_bd_inv hF
      obtain ⟨v_7, g_6, eg_6, hF⟩ := hF
      refine m_callV (B := B) (nn := 1) (b := a_5) (As := [.int x3]) (rest := []) (v := (some (.int v_7))) E S hz (c_Line_isClosing l D B K n g a_5 x3 v_7 g_6 eg_6) qc_Line_isClosing ⟨rfl, rfl⟩ (Or.inr ⟨_, qn_45⟩) qw_151 qw_152 qw_11 (by decide +kernel) ⟨Nat.le_of_ble_eq_true rfl, Nat.le_of_ble_eq_true rfl⟩ eog_6 rfl rfl hl.1 (Nat.le_of_ble_eq_true rfl) d_Draft_closingPlace_17 ⟨Nat.le_of_ble_eq_true rfl, Nat.le_of_ble_eq_true rfl⟩ (fun H locs S => ?_)
      refine W.eq (g2 := F0 m 20 ls [.int v_7]) rfl ?_
      refine lv_if_eq (tgt := 26) hx hb d_Draft_closingPlace_20 (by decide) (fun c_8 => ?_) (fun c_8 => ?_)
      · rw [if_pos c_8] at hF
        refine lv_iinc (v := (x4 + 1)) (lv' := [(4, .int (x4 + 1)), (0, .ref (B + a0)), (2, .int x2), (3, .int x3)]) hx hb d_Draft_closingPlace_26 hl (k := 3) rfl rfl (by decide) rfl (fun ls hl => ?_)
        refine lv_goto (tgt := 3) hx hb d_Draft_closingPlace_29 (by decide) ?_
        exact ih _ _ _ _ _ _ _ hF _ _ S _ (lv_sub hl [1, 2, 3, 0] rfl)
      · rw [if_neg c_8] at hF
        refine lv_iload hx hb d_Draft_closingPlace_23 (lv_at hl 3 rfl) ?_
        cases hF
        exact m_iret E S hz hr hlk d_Draft_closingPlace_25
end S_Draft_closingPlace
def f_Draft_closingPlace  (g : m_G) (a0 : Nat) (x1 : Int32) (x2 : Int32) (x3 : Int32) : Option (Int32 × m_G) :=
  f_Draft_closingPlace_3 m_fu g a0 x2 x3 x1
set_option maxHeartbeats 1000000 in
set_option maxRecDepth 100000 in
theorem c_Draft_closingPlace (l : Launch) (D : va_G) (B : Nat) (K : Nat → ClassId)  (n : Nat) (g : m_G) (a0 : Nat) (x1 : Int32) (x2 : Int32) (x3 : Int32) (r : Int32) (g' : m_G) (hF : f_Draft_closingPlace g a0 x1 x2 x3 = some (r, g')) : Met l y_Draft_closingPlace (Cond.code y_Draft_closingPlace b_Draft_closingPlace 5 (some .int) :: m_TB) ({ frames := 2, cells := 0, slots := 0, locals := 42 } : Room) (m_Pc D B K n g [.ref (B + a0), .int x1, .int x2, .int x3]) (m_Q D B K (some (.int r)) n g') 0 0 (fun q => B ≤ q) := by
  refine m_met (by decide) (Nat.le_of_ble_eq_true rfl) ?_
  intro p e s m args below meth c ls E hr hlk hin hsz S hl
  have E : m_V p m c b_Draft_closingPlace 5 s args R_Draft D K := E
  have hz : s.heap.size + 0 = B + n := hsz
  have hl : lv_has ls 5 [(0, .ref (B + a0)), (1, .int x1), (2, .int x2), (3, .int x3)] := hl
  have hx := E.1.1
  have hb := E.1.2.1
  have hts := E.1.2.2.2.2
  unfold f_Draft_closingPlace at hF
  refine lv_iload_n hx hb d_Draft_closingPlace_0 rfl (lv_at hl 1 rfl) ?_
  refine lv_istore (lv' := [(4, .int x1), (0, .ref (B + a0)), (1, .int x1), (2, .int x2), (3, .int x3)]) hx hb d_Draft_closingPlace_1 hl (by decide) rfl (fun ls hl => ?_)
  exact c_Draft_closingPlace_3 E hr hlk hz m_fu _ _ _ _ _ _ _ hF _ _ S _ (lv_sub hl [1, 3, 4, 0] rfl)
section S_Line_isCut
variable {p : Program} {l : Launch} {e : Env} {s : State} {m : MethodId} {args : Array Value} {below : List Frame} {meth : Method} {c : Code} {D : va_G} {B n : Nat} {K : Nat → ClassId}
def f_Line_isCut_32   (g : m_G) (y0 : Int32) : Option (Int32 × m_G) :=
  if (y0 : Int32) = 0 ∨ y0 = 1 then some (y0, g) else none
set_option maxHeartbeats 1000000 in
set_option maxRecDepth 100000 in
theorem c_Line_isCut_32 (E : m_V p m c b_Line_isCut 2 s args R_Line D K) (hr : meth.sig.returnType = (some .boolean)) (hlk : meth.locks = false) (hz : s.heap.size + 0 = B + n)   : ∀ (g : m_G) (y0 : Int32) (r : Int32) (g' : m_G), f_Line_isCut_32 g y0 = some (r, g') → ∀ (H : Heap) (locs : List Loc), m_S D B K n g s.heap H locs → ∀ ls : Array Slot, lv_has ls 2 [] → W p l e ({ frames := 1, cells := 0, slots := 0, locals := 21 } : Room) s m args below meth c H locs 0 0 (MQ below (m_Q D B K (some (.int r)) n g') args s 0 0 (fun q => B ≤ q)) (F0 m 32 ls [.int y0]) := by
  have hx := E.1.1
  have hb := E.1.2.1
  have hts := E.1.2.2.2.2
  intro g y0 r g' hF H locs S ls hl
  unfold f_Line_isCut_32 at hF
  by_cases c_1 : (y0 : Int32) = 0 ∨ y0 = 1
  · rw [if_pos c_1] at hF
    cases hF
    exact m_zret E S hz hr hlk c_1 d_Line_isCut_32
  · rw [if_neg c_1] at hF
    cases hF
def f_Line_isCut_31   (g : m_G)  : Option (Int32 × m_G) :=
  f_Line_isCut_32 g 0
set_option maxHeartbeats 1000000 in
set_option maxRecDepth 100000 in
theorem c_Line_isCut_31 (E : m_V p m c b_Line_isCut 2 s args R_Line D K) (hr : meth.sig.returnType = (some .boolean)) (hlk : meth.locks = false) (hz : s.heap.size + 0 = B + n)   : ∀ (g : m_G)  (r : Int32) (g' : m_G), f_Line_isCut_31 g  = some (r, g') → ∀ (H : Heap) (locs : List Loc), m_S D B K n g s.heap H locs → ∀ ls : Array Slot, lv_has ls 2 [] → W p l e ({ frames := 1, cells := 0, slots := 0, locals := 21 } : Room) s m args below meth c H locs 0 0 (MQ below (m_Q D B K (some (.int r)) n g') args s 0 0 (fun q => B ≤ q)) (F0 m 31 ls []) := by
  have hx := E.1.1
  have hb := E.1.2.1
  have hts := E.1.2.2.2.2
  intro g  r g' hF H locs S ls hl
  unfold f_Line_isCut_31 at hF
  refine lv_iconst (v := 0) hx hb d_Line_isCut_31 (by decide) ?_
  exact c_Line_isCut_32 E hr hlk hz _ _ _ _ hF _ _ S _ (lv_sub hl [] rfl)
end S_Line_isCut
def f_Line_isCut  (g : m_G) (a0 : Nat) (x1 : Int32) : Option (Int32 × m_G) :=
  (m_gI g a0 1 1).bind fun v_1 =>
  if (v_1 : Int32) = 2 then
    m_gd (m_is g a0 1) <|
    m_bd (f_Line_at g a0 0) fun v_4 g_3 =>
    if (v_4 : Int32) = 45 then
      m_gd (m_is g_3 a0 1) <|
      m_bd (f_Line_at g_3 a0 1) fun v_7 g_6 =>
      if (v_7 : Int32) = x1 then
        f_Line_isCut_32 g_6 1
      else
        f_Line_isCut_31 g_6 
    else
      f_Line_isCut_31 g_3 
  else
    f_Line_isCut_31 g 
set_option maxHeartbeats 1000000 in
set_option maxRecDepth 100000 in
theorem c_Line_isCut (l : Launch) (D : va_G) (B : Nat) (K : Nat → ClassId)  (n : Nat) (g : m_G) (a0 : Nat) (x1 : Int32) (r : Int32) (g' : m_G) (hF : f_Line_isCut g a0 x1 = some (r, g')) : Met l y_Line_isCut (Cond.code y_Line_isCut b_Line_isCut 2 (some .boolean) :: m_TB) ({ frames := 1, cells := 0, slots := 0, locals := 21 } : Room) (m_Pc D B K n g [.ref (B + a0), .int x1]) (m_Q D B K (some (.int r)) n g') 0 0 (fun q => B ≤ q) := by
  refine m_met (by decide) (Nat.le_of_ble_eq_true rfl) ?_
  intro p e s m args below meth c ls E hr hlk hin hsz S hl
  have E : m_V p m c b_Line_isCut 2 s args R_Line D K := E
  have hz : s.heap.size + 0 = B + n := hsz
  have hl : lv_has ls 2 [(0, .ref (B + a0)), (1, .int x1)] := hl
  have hx := E.1.1
  have hb := E.1.2.1
  have hts := E.1.2.2.2.2
  unfold f_Line_isCut at hF
  refine lv_aload_n hx hb d_Line_isCut_0 rfl (lv_at hl 0 rfl) ?_
  replace hF := Option.bind_eq_some_iff.mp hF
  obtain ⟨v_1, ev_1, hF⟩ := hF
  refine m_getI (B := B) (a := a0) E S fd_Line_length (Or.inl qw_5) ev_1 d_Line_isCut_1 ?_
  refine lv_iconst (v := 2) hx hb d_Line_isCut_4 (by decide) ?_
  refine lv_icmp_ne (tgt := 31) hx hb d_Line_isCut_5 (by decide) (fun c_2 => ?_) (fun c_2 => ?_)
  · rw [if_neg c_2] at hF
    exact c_Line_isCut_31 E hr hlk hz _ _ _ hF _ _ S _ (lv_sub hl [] rfl)
  · rw [if_pos c_2] at hF
    refine lv_aload_n hx hb d_Line_isCut_8 rfl (lv_at hl 0 rfl) ?_
    refine lv_iconst (v := 0) hx hb d_Line_isCut_9 (by decide) ?_
    replace hF := m_gd_inv hF
    obtain ⟨eog_3, hF⟩ := hF
    replace hF := m_bd_inv hF
    obtain ⟨v_4, g_3, eg_3, hF⟩ := hF
    refine m_callV (B := B) (nn := 1) (b := a0) (As := [.int 0]) (rest := []) (v := (some (.int v_4))) E S hz (c_Line_at l D B K n g a0 0 v_4 g_3 eg_3) qc_Line_at ⟨rfl, rfl⟩ (Or.inl qw_97) qw_98 qw_99 qw_11 (by decide +kernel) ⟨Nat.le_of_ble_eq_true rfl, Nat.le_of_ble_eq_true rfl⟩ eog_3 rfl rfl hl.1 (Nat.le_of_ble_eq_true rfl) d_Line_isCut_10 ⟨Nat.le_of_ble_eq_true rfl, Nat.le_of_ble_eq_true rfl⟩ (fun H locs S => ?_)
    refine W.eq (g2 := F0 m 13 ls [.int v_4]) rfl ?_
    refine lv_bipush (v := 45) hx hb d_Line_isCut_13 (by decide) ?_
    refine lv_icmp_ne (tgt := 31) hx hb d_Line_isCut_15 (by decide) (fun c_5 => ?_) (fun c_5 => ?_)
    · rw [if_neg c_5] at hF
      exact c_Line_isCut_31 E hr hlk hz _ _ _ hF _ _ S _ (lv_sub hl [] rfl)
    · rw [if_pos c_5] at hF
      refine lv_aload_n hx hb d_Line_isCut_18 rfl (lv_at hl 0 rfl) ?_
      refine lv_iconst (v := 1) hx hb d_Line_isCut_19 (by decide) ?_
      replace hF := m_gd_inv hF
      obtain ⟨eog_6, hF⟩ := hF
      replace hF := m_bd_inv hF
      obtain ⟨v_7, g_6, eg_6, hF⟩ := hF
      refine m_callV (B := B) (nn := 1) (b := a0) (As := [.int 1]) (rest := []) (v := (some (.int v_7))) E S hz (c_Line_at l D B K n g_3 a0 1 v_7 g_6 eg_6) qc_Line_at ⟨rfl, rfl⟩ (Or.inl qw_97) qw_98 qw_99 qw_11 (by decide +kernel) ⟨Nat.le_of_ble_eq_true rfl, Nat.le_of_ble_eq_true rfl⟩ eog_6 rfl rfl hl.1 (Nat.le_of_ble_eq_true rfl) d_Line_isCut_20 ⟨Nat.le_of_ble_eq_true rfl, Nat.le_of_ble_eq_true rfl⟩ (fun H locs S => ?_)
      refine W.eq (g2 := F0 m 23 ls [.int v_7]) rfl ?_
      refine lv_iload_n hx hb d_Line_isCut_23 rfl (lv_at hl 1 rfl) ?_
      refine lv_icmp_ne (tgt := 31) hx hb d_Line_isCut_24 (by decide) (fun c_8 => ?_) (fun c_8 => ?_)
      · rw [if_neg c_8] at hF
        exact c_Line_isCut_31 E hr hlk hz _ _ _ hF _ _ S _ (lv_sub hl [] rfl)
      · rw [if_pos c_8] at hF
        refine lv_iconst (v := 1) hx hb d_Line_isCut_27 (by decide) ?_
        refine lv_goto (tgt := 32) hx hb d_Line_isCut_28 (by decide) ?_
        exact c_Line_isCut_32 E hr hlk hz _ _ _ _ hF _ _ S _ (lv_sub hl [] rfl)
section S_Reader_readMulti
variable {p : Program} {l : Launch} {e : Env} {s : State} {m : MethodId} {args : Array Value} {below : List Frame} {meth : Method} {c : Code} {D : va_G} {B n : Nat} {K : Nat → ClassId} {d : Nat}
def f_Reader_readMulti_90 (k_Reader_readPart : m_G → Nat → Option Nat → Int32 → Int32 → Int32 → Option Nat → Option (Unit × m_G))  (g : m_G)  : Option (Unit × m_G) :=
  some ((), g)
set_option maxHeartbeats 1000000 in
set_option maxRecDepth 100000 in
theorem c_Reader_readMulti_90 (E : m_V p m c b_Reader_readMulti 10 s args R_Reader D K) (hr : meth.sig.returnType = none) (hlk : meth.locks = false) (hz : s.heap.size + 0 = B + n) (k_Reader_readPart : m_G → Nat → Option Nat → Int32 → Int32 → Int32 → Option Nat → Option (Unit × m_G)) (hk_Reader_readPart : ∀ (n : Nat) (g : m_G) (a0 : Nat) (r1 : Option Nat) (x2 : Int32) (x3 : Int32) (x4 : Int32) (r5 : Option Nat) (r : Unit) (g' : m_G), k_Reader_readPart g a0 r1 x2 x3 x4 r5 = some (r, g') → Met l y_Reader_readPart (Cond.code y_Reader_readPart b_Reader_readPart 8 none :: m_TB) ({ frames := 20 + 2 * d, cells := 0, slots := 0, locals := 300 + 80 * d } : Room) (m_Pc D B K n g [.ref (B + a0), m_r B r1, .int x2, .int x3, .int x4, m_r B r5]) (m_Q D B K none n g') 0 0 (fun q => B ≤ q))  : ∀ (g : m_G)  (r : Unit) (g' : m_G), f_Reader_readMulti_90 k_Reader_readPart g  = some (r, g') → ∀ (H : Heap) (locs : List Loc), m_S D B K n g s.heap H locs → ∀ ls : Array Slot, lv_has ls 10 [] → W p l e ({ frames := 21 + 2 * d, cells := 0, slots := 0, locals := 340 + 80 * d } : Room) s m args below meth c H locs 0 0 (MQ below (m_Q D B K none n g') args s 0 0 (fun q => B ≤ q)) (F0 m 90 ls []) := by
  have hx := E.1.1
  have hb := E.1.2.1
  have hts := E.1.2.2.2.2
  intro g  r g' hF H locs S ls hl
  unfold f_Reader_readMulti_90 at hF
  cases hF
  skip
  exact m_vret E S hz hr hlk d_Reader_readMulti_90
def f_Reader_readMulti_64 (k_Reader_readPart : m_G → Nat → Option Nat → Int32 → Int32 → Int32 → Option Nat → Option (Unit × m_G)) (k_16 : m_G → Nat → Option Nat → Int32 → Option Nat → Int32 → Int32 → Int32 → Int32 → Option (Unit × m_G)) (g : m_G) (a0 : Nat) (r1 : Option Nat) (x4 : Int32) (r5 : Option Nat) (x6 : Int32) (x7 : Int32) (x8 : Int32) (x9 : Int32) : Option (Unit × m_G) :=
  k_16 g a0 r1 x4 r5 x6 x7 x8 (x9 + 1)
set_option maxHeartbeats 1000000 in
set_option maxRecDepth 100000 in
theorem c_Reader_readMulti_64 (E : m_V p m c b_Reader_readMulti 10 s args R_Reader D K) (hr : meth.sig.returnType = none) (hlk : meth.locks = false) (hz : s.heap.size + 0 = B + n) (k_Reader_readPart : m_G → Nat → Option Nat → Int32 → Int32 → Int32 → Option Nat → Option (Unit × m_G)) (hk_Reader_readPart : ∀ (n : Nat) (g : m_G) (a0 : Nat) (r1 : Option Nat) (x2 : Int32) (x3 : Int32) (x4 : Int32) (r5 : Option Nat) (r : Unit) (g' : m_G), k_Reader_readPart g a0 r1 x2 x3 x4 r5 = some (r, g') → Met l y_Reader_readPart (Cond.code y_Reader_readPart b_Reader_readPart 8 none :: m_TB) ({ frames := 20 + 2 * d, cells := 0, slots := 0, locals := 300 + 80 * d } : Room) (m_Pc D B K n g [.ref (B + a0), m_r B r1, .int x2, .int x3, .int x4, m_r B r5]) (m_Q D B K none n g') 0 0 (fun q => B ≤ q)) (k_16 : m_G → Nat → Option Nat → Int32 → Option Nat → Int32 → Int32 → Int32 → Int32 → Option (Unit × m_G)) (hk_16 : ∀ (g : m_G) (a0 : Nat) (r1 : Option Nat) (x4 : Int32) (r5 : Option Nat) (x6 : Int32) (x7 : Int32) (x8 : Int32) (x9 : Int32) (r : Unit) (g' : m_G), k_16 g a0 r1 x4 r5 x6 x7 x8 x9 = some (r, g') → ∀ (H : Heap) (locs : List Loc), m_S D B K n g s.heap H locs → ∀ ls : Array Slot, lv_has ls 10 [(0, .ref (B + a0)), (1, m_r B r1), (4, .int x4), (5, m_r B r5), (6, .int x6), (7, .int x7), (8, .int x8), (9, .int x9)] → W p l e ({ frames := 21 + 2 * d, cells := 0, slots := 0, locals := 340 + 80 * d } : Room) s m args below meth c H locs 0 0 (MQ below (m_Q D B K none n g') args s 0 0 (fun q => B ≤ q)) (F0 m 16 ls [])) : ∀ (g : m_G) (a0 : Nat) (r1 : Option Nat) (x4 : Int32) (r5 : Option Nat) (x6 : Int32) (x7 : Int32) (x8 : Int32) (x9 : Int32) (r : Unit) (g' : m_G), f_Reader_readMulti_64 k_Reader_readPart k_16 g a0 r1 x4 r5 x6 x7 x8 x9 = some (r, g') → ∀ (H : Heap) (locs : List Loc), m_S D B K n g s.heap H locs → ∀ ls : Array Slot, lv_has ls 10 [(0, .ref (B + a0)), (1, m_r B r1), (4, .int x4), (5, m_r B r5), (6, .int x6), (7, .int x7), (8, .int x8), (9, .int x9)] → W p l e ({ frames := 21 + 2 * d, cells := 0, slots := 0, locals := 340 + 80 * d } : Room) s m args below meth c H locs 0 0 (MQ below (m_Q D B K none n g') args s 0 0 (fun q => B ≤ q)) (F0 m 64 ls []) := by
  have hx := E.1.1
  have hb := E.1.2.1
  have hts := E.1.2.2.2.2
  intro g a0 r1 x4 r5 x6 x7 x8 x9 r g' hF H locs S ls hl
  unfold f_Reader_readMulti_64 at hF
  refine lv_iinc (v := (x9 + 1)) (lv' := [(9, .int (x9 + 1)), (0, .ref (B + a0)), (1, m_r B r1), (4, .int x4), (5, m_r B r5), (6, .int x6), (7, .int x7), (8, .int x8)]) hx hb d_Reader_readMulti_64 hl (k := 7) rfl rfl (by decide) rfl (fun ls hl => ?_)
  refine lv_goto (tgt := 16) hx hb d_Reader_readMulti_67 (by decide) ?_
  exact hk_16 _ _ _ _ _ _ _ _ _ _ _ hF _ _ S _ (lv_sub hl [1, 2, 3, 4, 5, 6, 7, 0] rfl)
def f_Reader_readMulti_58 (k_Reader_readPart : m_G → Nat → Option Nat → Int32 → Int32 → Int32 → Option Nat → Option (Unit × m_G)) (k_16 : m_G → Nat → Option Nat → Int32 → Option Nat → Int32 → Int32 → Int32 → Int32 → Option (Unit × m_G)) (g : m_G) (a0 : Nat) (r1 : Option Nat) (x4 : Int32) (r5 : Option Nat) (x6 : Int32) (x7 : Int32) (x9 : Int32) : Option (Unit × m_G) :=
  f_Reader_readMulti_64 k_Reader_readPart k_16 g a0 r1 x4 r5 x6 x7 (x9 + 1) x9
set_option maxHeartbeats 1000000 in
set_option maxRecDepth 100000 in
theorem c_Reader_readMulti_58 (E : m_V p m c b_Reader_readMulti 10 s args R_Reader D K) (hr : meth.sig.returnType = none) (hlk : meth.locks = false) (hz : s.heap.size + 0 = B + n) (k_Reader_readPart : m_G → Nat → Option Nat → Int32 → Int32 → Int32 → Option Nat → Option (Unit × m_G)) (hk_Reader_readPart : ∀ (n : Nat) (g : m_G) (a0 : Nat) (r1 : Option Nat) (x2 : Int32) (x3 : Int32) (x4 : Int32) (r5 : Option Nat) (r : Unit) (g' : m_G), k_Reader_readPart g a0 r1 x2 x3 x4 r5 = some (r, g') → Met l y_Reader_readPart (Cond.code y_Reader_readPart b_Reader_readPart 8 none :: m_TB) ({ frames := 20 + 2 * d, cells := 0, slots := 0, locals := 300 + 80 * d } : Room) (m_Pc D B K n g [.ref (B + a0), m_r B r1, .int x2, .int x3, .int x4, m_r B r5]) (m_Q D B K none n g') 0 0 (fun q => B ≤ q)) (k_16 : m_G → Nat → Option Nat → Int32 → Option Nat → Int32 → Int32 → Int32 → Int32 → Option (Unit × m_G)) (hk_16 : ∀ (g : m_G) (a0 : Nat) (r1 : Option Nat) (x4 : Int32) (r5 : Option Nat) (x6 : Int32) (x7 : Int32) (x8 : Int32) (x9 : Int32) (r : Unit) (g' : m_G), k_16 g a0 r1 x4 r5 x6 x7 x8 x9 = some (r, g') → ∀ (H : Heap) (locs : List Loc), m_S D B K n g s.heap H locs → ∀ ls : Array Slot, lv_has ls 10 [(0, .ref (B + a0)), (1, m_r B r1), (4, .int x4), (5, m_r B r5), (6, .int x6), (7, .int x7), (8, .int x8), (9, .int x9)] → W p l e ({ frames := 21 + 2 * d, cells := 0, slots := 0, locals := 340 + 80 * d } : Room) s m args below meth c H locs 0 0 (MQ below (m_Q D B K none n g') args s 0 0 (fun q => B ≤ q)) (F0 m 16 ls [])) : ∀ (g : m_G) (a0 : Nat) (r1 : Option Nat) (x4 : Int32) (r5 : Option Nat) (x6 : Int32) (x7 : Int32) (x9 : Int32) (r : Unit) (g' : m_G), f_Reader_readMulti_58 k_Reader_readPart k_16 g a0 r1 x4 r5 x6 x7 x9 = some (r, g') → ∀ (H : Heap) (locs : List Loc), m_S D B K n g s.heap H locs → ∀ ls : Array Slot, lv_has ls 10 [(0, .ref (B + a0)), (1, m_r B r1), (4, .int x4), (5, m_r B r5), (6, .int x6), (7, .int x7), (9, .int x9)] → W p l e ({ frames := 21 + 2 * d, cells := 0, slots := 0, locals := 340 + 80 * d } : Room) s m args below meth c H locs 0 0 (MQ below (m_Q D B K none n g') args s 0 0 (fun q => B ≤ q)) (F0 m 58 ls []) := by
  have hx := E.1.1
  have hb := E.1.2.1
  have hts := E.1.2.2.2.2
  intro g a0 r1 x4 r5 x6 x7 x9 r g' hF H locs S ls hl
  unfold f_Reader_readMulti_58 at hF
  refine lv_iload hx hb d_Reader_readMulti_58 (lv_at hl 6 rfl) ?_
  refine lv_iconst (v := 1) hx hb d_Reader_readMulti_60 (by decide) ?_
  refine lv_iadd hx hb d_Reader_readMulti_61 ?_
  refine lv_istore (lv' := [(8, .int (x9 + 1)), (0, .ref (B + a0)), (1, m_r B r1), (4, .int x4), (5, m_r B r5), (6, .int x6), (7, .int x7), (9, .int x9)]) hx hb d_Reader_readMulti_62 hl (by decide) rfl (fun ls hl => ?_)
  exact c_Reader_readMulti_64 E hr hlk hz k_Reader_readPart hk_Reader_readPart k_16 hk_16 _ _ _ _ _ _ _ _ _ _ _ hF _ _ S _ (lv_sub hl [1, 2, 3, 4, 5, 6, 0, 7] rfl)
def f_Reader_readMulti_16 (k_Reader_readPart : m_G → Nat → Option Nat → Int32 → Int32 → Int32 → Option Nat → Option (Unit × m_G))  : Nat → m_G → Nat → Option Nat → Int32 → Option Nat → Int32 → Int32 → Int32 → Int32 → Option (Unit × m_G)
  | 0, _, _, _, _, _, _, _, _, _ => none
  | fu + 1, g, a0, r1, x4, r5, x6, x7, x8, x9 =>
    if (x7 : Int32) ≤ x9 then
      if (x8 : Int32) < 0 then
        f_Reader_readMulti_90 k_Reader_readPart g 
      else
        m_gd (m_is g a0 5) <|
        m_bd (k_Reader_readPart g a0 r1 x8 x7 (x4 + 1) r5) fun v_4 g_3 =>
        f_Reader_readMulti_90 k_Reader_readPart g_3 
    else
      Option.bind r1 fun a_5 =>
      (m_gR g a_5 2 0).bind fun v_6 =>
      Option.bind v_6 fun a_7 =>
      (m_ldR g a_7 4 x9).bind fun v_8 =>
      Option.bind v_8 fun a_9 =>
      m_gd (m_is g a_9 1) <|
      m_bd (f_Line_isCut g a_9 x6) fun v_11 g_10 =>
      if (v_11 : Int32) = 0 then
        f_Reader_readMulti_64 k_Reader_readPart (f_Reader_readMulti_16 k_Reader_readPart fu) g_10 a0 (some a_5) x4 r5 x6 x7 x8 x9
      else
        if (x8 : Int32) < 0 then
          f_Reader_readMulti_58 k_Reader_readPart (f_Reader_readMulti_16 k_Reader_readPart fu) g_10 a0 (some a_5) x4 r5 x6 x7 x9
        else
          m_gd (m_is g_10 a0 5) <|
          m_bd (k_Reader_readPart g_10 a0 (some a_5) x8 x9 (x4 + 1) r5) fun v_15 g_14 =>
          f_Reader_readMulti_58 k_Reader_readPart (f_Reader_readMulti_16 k_Reader_readPart fu) g_14 a0 (some a_5) x4 r5 x6 x7 x9
set_option maxHeartbeats 1000000 in
set_option maxRecDepth 100000 in
theorem c_Reader_readMulti_16 (E : m_V p m c b_Reader_readMulti 10 s args R_Reader D K) (hr : meth.sig.returnType = none) (hlk : meth.locks = false) (hz : s.heap.size + 0 = B + n) (k_Reader_readPart : m_G → Nat → Option Nat → Int32 → Int32 → Int32 → Option Nat → Option (Unit × m_G)) (hk_Reader_readPart : ∀ (n : Nat) (g : m_G) (a0 : Nat) (r1 : Option Nat) (x2 : Int32) (x3 : Int32) (x4 : Int32) (r5 : Option Nat) (r : Unit) (g' : m_G), k_Reader_readPart g a0 r1 x2 x3 x4 r5 = some (r, g') → Met l y_Reader_readPart (Cond.code y_Reader_readPart b_Reader_readPart 8 none :: m_TB) ({ frames := 20 + 2 * d, cells := 0, slots := 0, locals := 300 + 80 * d } : Room) (m_Pc D B K n g [.ref (B + a0), m_r B r1, .int x2, .int x3, .int x4, m_r B r5]) (m_Q D B K none n g') 0 0 (fun q => B ≤ q))  : ∀ fu : Nat, ∀ (g : m_G) (a0 : Nat) (r1 : Option Nat) (x4 : Int32) (r5 : Option Nat) (x6 : Int32) (x7 : Int32) (x8 : Int32) (x9 : Int32) (r : Unit) (g' : m_G), f_Reader_readMulti_16 k_Reader_readPart  fu g a0 r1 x4 r5 x6 x7 x8 x9 = some (r, g') → ∀ (H : Heap) (locs : List Loc), m_S D B K n g s.heap H locs → ∀ ls : Array Slot, lv_has ls 10 [(0, .ref (B + a0)), (1, m_r B r1), (4, .int x4), (5, m_r B r5), (6, .int x6), (7, .int x7), (8, .int x8), (9, .int x9)] → W p l e ({ frames := 21 + 2 * d, cells := 0, slots := 0, locals := 340 + 80 * d } : Room) s m args below meth c H locs 0 0 (MQ below (m_Q D B K none n g') args s 0 0 (fun q => B ≤ q)) (F0 m 16 ls []) := by
  have hx := E.1.1
  have hb := E.1.2.1
  have hts := E.1.2.2.2.2
  intro fu
  induction fu with
  | zero => intro g a0 r1 x4 r5 x6 x7 x8 x9 r g' hF; cases hF
  | succ fu ih =>
    intro g a0 r1 x4 r5 x6 x7 x8 x9 r g' hF H locs S ls hl
    rw [f_Reader_readMulti_16] at hF
    refine lv_iload hx hb d_Reader_readMulti_16 (lv_at hl 7 rfl) ?_
    refine lv_iload hx hb d_Reader_readMulti_18 (lv_at hl 5 rfl) ?_
    refine lv_icmp_ge (tgt := 70) hx hb d_Reader_readMulti_20 (by decide) (fun c_1 => ?_) (fun c_1 => ?_)
    · rw [if_pos c_1] at hF
      refine lv_iload hx hb d_Reader_readMulti_70 (lv_at hl 6 rfl) ?_
      refine lv_if_lt (tgt := 90) hx hb d_Reader_readMulti_72 (by decide) (fun c_2 => ?_) (fun c_2 => ?_)
      · rw [if_pos c_2] at hF
        exact c_Reader_readMulti_90 E hr hlk hz k_Reader_readPart hk_Reader_readPart _ _ _ hF _ _ S _ (lv_sub hl [] rfl)
      · rw [if_neg c_2] at hF
        refine lv_aload_n hx hb d_Reader_readMulti_75 rfl (lv_at hl 0 rfl) ?_
        refine m_aload_n (B := B) (r := r1) E d_Reader_readMulti_76 rfl (lv_at hl 1 rfl) ?_
        refine lv_iload hx hb d_Reader_readMulti_77 (lv_at hl 6 rfl) ?_
        refine lv_iload hx hb d_Reader_readMulti_79 (lv_at hl 5 rfl) ?_
        refine lv_iload hx hb d_Reader_readMulti_81 (lv_at hl 2 rfl) ?_
        refine lv_iconst (v := 1) hx hb d_Reader_readMulti_83 (by decide) ?_
        refine lv_iadd hx hb d_Reader_readMulti_84 ?_
        refine m_aload (B := B) (r := r5) E d_Reader_readMulti_85 (lv_at hl 3 rfl) ?_
        replace hF := m_gd_inv hF
        obtain ⟨eog_3, hF⟩ := hF
        replace hF := m_bd_inv hF
        obtain ⟨v_4, g_3, eg_3, hF⟩ := hF
        refine m_callV (B := B) (nn := 5) (b := a0) (As := [m_r B r1, .int x8, .int x7, .int (x4 + 1), m_r B r5]) (rest := []) (v := none) E S hz (hk_Reader_readPart n g a0 r1 x8 x7 (x4 + 1) r5 v_4 g_3 eg_3) qc_Reader_readPart ⟨rfl, rfl⟩ (Or.inl qw_155) qw_156 qw_157 qw_62 (by decide +kernel) ⟨by dsimp only; omega, by dsimp only; omega⟩ eog_3 rfl rfl hl.1 (Nat.le_of_ble_eq_true rfl) d_Reader_readMulti_87 ⟨Nat.le_of_ble_eq_true rfl, Nat.le_of_ble_eq_true rfl⟩ (fun H locs S => ?_)
        refine W.eq (g2 := F0 m 90 ls []) rfl ?_
        exact c_Reader_readMulti_90 E hr hlk hz k_Reader_readPart hk_Reader_readPart _ _ _ hF _ _ S _ (lv_sub hl [] rfl)
    · rw [if_neg c_1] at hF
      refine m_aload_n (B := B) (r := r1) E d_Reader_readMulti_23 rfl (lv_at hl 1 rfl) ?_
      replace hF := Option.bind_eq_some_iff.mp hF
      obtain ⟨a_5, ea_5, hF⟩ := hF
      subst ea_5
      replace hF := Option.bind_eq_some_iff.mp hF
      obtain ⟨v_6, ev_6, hF⟩ := hF
      refine m_getR (B := B) (a := a_5) E S fd_Draft_lines (Or.inr ⟨_, qn_44⟩) ev_6 d_Reader_readMulti_24 ?_
      refine lv_iload hx hb d_Reader_readMulti_27 (lv_at hl 7 rfl) ?_
      replace hF := Option.bind_eq_some_iff.mp hF
      obtain ⟨a_7, ea_7, hF⟩ := hF
      subst ea_7
      replace hF := Option.bind_eq_some_iff.mp hF
      obtain ⟨v_8, ev_8, hF⟩ := hF
      refine m_aald (B := B) (a := a_7) (t := 4) E S rfl ev_8 d_Reader_readMulti_29 ?_
      refine lv_iload hx hb d_Reader_readMulti_30 (lv_at hl 4 rfl) ?_
      replace hF := Option.bind_eq_some_iff.mp hF
      obtain ⟨a_9, ea_9, hF⟩ := hF
      subst ea_9
      replace hF := m_gd_inv hF
      obtain ⟨eog_10, hF⟩ := hF
      replace hF := m_bd_inv hF
      obtain ⟨v_11, g_10, eg_10, hF⟩ := hF
      refine m_callV (B := B) (nn := 1) (b := a_9) (As := [.int x6]) (rest := []) (v := (some (.int v_11))) E S hz (c_Line_isCut l D B K n g a_9 x6 v_11 g_10 eg_10) qc_Line_isCut ⟨rfl, rfl⟩ (Or.inr ⟨_, qn_47⟩) qw_158 qw_159 qw_11 (by decide +kernel) ⟨by dsimp only; omega, by dsimp only; omega⟩ eog_10 rfl rfl hl.1 (Nat.le_of_ble_eq_true rfl) d_Reader_readMulti_32 ⟨Nat.le_of_ble_eq_true rfl, Nat.le_of_ble_eq_true rfl⟩ (fun H locs S => ?_)
      refine W.eq (g2 := F0 m 35 ls [.int v_11]) rfl ?_
      refine lv_if_eq (tgt := 64) hx hb d_Reader_readMulti_35 (by decide) (fun c_12 => ?_) (fun c_12 => ?_)
      · rw [if_pos c_12] at hF
        exact c_Reader_readMulti_64 E hr hlk hz k_Reader_readPart hk_Reader_readPart (f_Reader_readMulti_16 k_Reader_readPart fu) ih _ _ _ _ _ _ _ _ _ _ _ hF _ _ S _ (lv_sub hl [0, 1, 2, 3, 4, 5, 6, 7] rfl)
      · rw [if_neg c_12] at hF
        refine lv_iload hx hb d_Reader_readMulti_38 (lv_at hl 6 rfl) ?_
        refine lv_if_lt (tgt := 58) hx hb d_Reader_readMulti_40 (by decide) (fun c_13 => ?_) (fun c_13 => ?_)
        · rw [if_pos c_13] at hF
          exact c_Reader_readMulti_58 E hr hlk hz k_Reader_readPart hk_Reader_readPart (f_Reader_readMulti_16 k_Reader_readPart fu) ih _ _ _ _ _ _ _ _ _ _ hF _ _ S _ (lv_sub hl [0, 1, 2, 3, 4, 5, 7] rfl)
        · rw [if_neg c_13] at hF
          refine lv_aload_n hx hb d_Reader_readMulti_43 rfl (lv_at hl 0 rfl) ?_
          refine m_aload_n (B := B) (r := (some a_5)) E d_Reader_readMulti_44 rfl (lv_at hl 1 rfl) ?_
          refine lv_iload hx hb d_Reader_readMulti_45 (lv_at hl 6 rfl) ?_
          refine lv_iload hx hb d_Reader_readMulti_47 (lv_at hl 7 rfl) ?_
          refine lv_iload hx hb d_Reader_readMulti_49 (lv_at hl 2 rfl) ?_
          refine lv_iconst (v := 1) hx hb d_Reader_readMulti_51 (by decide) ?_
          refine lv_iadd hx hb d_Reader_readMulti_52 ?_
          refine m_aload (B := B) (r := r5) E d_Reader_readMulti_53 (lv_at hl 3 rfl) ?_
          replace hF := m_gd_inv hF
          obtain ⟨eog_14, hF⟩ := hF
          replace hF := m_bd_inv hF
          obtain ⟨v_15, g_14, eg_14, hF⟩ := hF
          refine m_callV (B := B) (nn := 5) (b := a0) (As := [m_r B (some a_5), .int x8, .int x9, .int (x4 + 1), m_r B r5]) (rest := []) (v := none) E S hz (hk_Reader_readPart n g_10 a0 (some a_5) x8 x9 (x4 + 1) r5 v_15 g_14 eg_14) qc_Reader_readPart ⟨rfl, rfl⟩ (Or.inl qw_155) qw_156 qw_157 qw_62 (by decide +kernel) ⟨by dsimp only; omega, by dsimp only; omega⟩ eog_14 rfl rfl hl.1 (Nat.le_of_ble_eq_true rfl) d_Reader_readMulti_55 ⟨Nat.le_of_ble_eq_true rfl, Nat.le_of_ble_eq_true rfl⟩ (fun H locs S => ?_)
          refine W.eq (g2 := F0 m 58 ls []) rfl ?_
          exact c_Reader_readMulti_58 E hr hlk hz k_Reader_readPart hk_Reader_readPart (f_Reader_readMulti_16 k_Reader_readPart fu) ih _ _ _ _ _ _ _ _ _ _ hF _ _ S _ (lv_sub hl [0, 1, 2, 3, 4, 5, 7] rfl)
end S_Reader_readMulti
def f_Reader_readMulti (k_Reader_readPart : m_G → Nat → Option Nat → Int32 → Int32 → Int32 → Option Nat → Option (Unit × m_G)) (g : m_G) (a0 : Nat) (r1 : Option Nat) (x2 : Int32) (x3 : Int32) (x4 : Int32) (r5 : Option Nat) (x6 : Int32) : Option (Unit × m_G) :=
  Option.bind r1 fun a_1 =>
  m_gd (m_is g a_1 2) <|
  m_bd (f_Draft_closingPlace g a_1 x2 x3 x6) fun v_3 g_2 =>
  f_Reader_readMulti_16 k_Reader_readPart m_fu g_2 a0 (some a_1) x4 r5 x6 v_3 (-1) x2
set_option maxHeartbeats 1000000 in
set_option maxRecDepth 100000 in
theorem c_Reader_readMulti {d : Nat} (l : Launch) (D : va_G) (B : Nat) (K : Nat → ClassId) (k_Reader_readPart : m_G → Nat → Option Nat → Int32 → Int32 → Int32 → Option Nat → Option (Unit × m_G)) (hk_Reader_readPart : ∀ (n : Nat) (g : m_G) (a0 : Nat) (r1 : Option Nat) (x2 : Int32) (x3 : Int32) (x4 : Int32) (r5 : Option Nat) (r : Unit) (g' : m_G), k_Reader_readPart g a0 r1 x2 x3 x4 r5 = some (r, g') → Met l y_Reader_readPart (Cond.code y_Reader_readPart b_Reader_readPart 8 none :: m_TB) ({ frames := 20 + 2 * d, cells := 0, slots := 0, locals := 300 + 80 * d } : Room) (m_Pc D B K n g [.ref (B + a0), m_r B r1, .int x2, .int x3, .int x4, m_r B r5]) (m_Q D B K none n g') 0 0 (fun q => B ≤ q)) (n : Nat) (g : m_G) (a0 : Nat) (r1 : Option Nat) (x2 : Int32) (x3 : Int32) (x4 : Int32) (r5 : Option Nat) (x6 : Int32) (r : Unit) (g' : m_G) (hF : f_Reader_readMulti k_Reader_readPart g a0 r1 x2 x3 x4 r5 x6 = some (r, g')) : Met l y_Reader_readMulti (Cond.code y_Reader_readMulti b_Reader_readMulti 10 none :: m_TB) ({ frames := 21 + 2 * d, cells := 0, slots := 0, locals := 340 + 80 * d } : Room) (m_Pc D B K n g [.ref (B + a0), m_r B r1, .int x2, .int x3, .int x4, m_r B r5, .int x6]) (m_Q D B K none n g') 0 0 (fun q => B ≤ q) := by
  refine m_met (by decide) (by simp only [lg_sl, List.flatMap_cons, List.flatMap_nil, m_r_cat]; exact Nat.le_of_ble_eq_true rfl) ?_
  intro p e s m args below meth c ls E hr hlk hin hsz S hl
  have E : m_V p m c b_Reader_readMulti 10 s args R_Reader D K := E
  have hz : s.heap.size + 0 = B + n := hsz
  have hl : lv_has ls 10 [(0, .ref (B + a0)), (1, m_r B r1), (2, .int x2), (3, .int x3), (4, .int x4), (5, m_r B r5), (6, .int x6)] := by simp only [lv_args, m_r_cat] at hl; exact hl
  have hx := E.1.1
  have hb := E.1.2.1
  have hts := E.1.2.2.2.2
  unfold f_Reader_readMulti at hF
  refine m_aload_n (B := B) (r := r1) E d_Reader_readMulti_0 rfl (lv_at hl 1 rfl) ?_
  refine lv_iload_n hx hb d_Reader_readMulti_1 rfl (lv_at hl 2 rfl) ?_
  refine lv_iload_n hx hb d_Reader_readMulti_2 rfl (lv_at hl 3 rfl) ?_
  refine lv_iload hx hb d_Reader_readMulti_3 (lv_at hl 6 rfl) ?_
  replace hF := Option.bind_eq_some_iff.mp hF
  obtain ⟨a_1, ea_1, hF⟩ := hF
  subst ea_1
  replace hF := m_gd_inv hF
  obtain ⟨eog_2, hF⟩ := hF
  replace hF := m_bd_inv hF
  obtain ⟨v_3, g_2, eg_2, hF⟩ := hF
  refine m_callV (B := B) (nn := 3) (b := a_1) (As := [.int x2, .int x3, .int x6]) (rest := []) (v := (some (.int v_3))) E S hz (c_Draft_closingPlace l D B K n g a_1 x2 x3 x6 v_3 g_2 eg_2) qc_Draft_closingPlace ⟨rfl, rfl⟩ (Or.inr ⟨_, qn_46⟩) qw_153 qw_154 qw_57 (by decide +kernel) ⟨by dsimp only; omega, by dsimp only; omega⟩ eog_2 rfl rfl hl.1 (Nat.le_of_ble_eq_true rfl) d_Reader_readMulti_5 ⟨Nat.le_of_ble_eq_true rfl, Nat.le_of_ble_eq_true rfl⟩ (fun H locs S => ?_)
  refine W.eq (g2 := F0 m 8 ls [.int v_3]) rfl ?_
  refine lv_istore (lv' := [(7, .int v_3), (0, .ref (B + a0)), (1, m_r B (some a_1)), (2, .int x2), (3, .int x3), (4, .int x4), (5, m_r B r5), (6, .int x6)]) hx hb d_Reader_readMulti_8 hl (by decide) rfl (fun ls hl => ?_)
  refine lv_iconst (v := (-1)) hx hb d_Reader_readMulti_10 (by decide) ?_
  refine lv_istore (lv' := [(8, .int (-1)), (7, .int v_3), (0, .ref (B + a0)), (1, m_r B (some a_1)), (2, .int x2), (3, .int x3), (4, .int x4), (5, m_r B r5), (6, .int x6)]) hx hb d_Reader_readMulti_11 hl (by decide) rfl (fun ls hl => ?_)
  refine lv_iload_n hx hb d_Reader_readMulti_13 rfl (lv_at hl 4 rfl) ?_
  refine lv_istore (lv' := [(9, .int x2), (8, .int (-1)), (7, .int v_3), (0, .ref (B + a0)), (1, m_r B (some a_1)), (2, .int x2), (3, .int x3), (4, .int x4), (5, m_r B r5), (6, .int x6)]) hx hb d_Reader_readMulti_14 hl (by decide) rfl (fun ls hl => ?_)
  exact c_Reader_readMulti_16 E hr hlk hz k_Reader_readPart hk_Reader_readPart m_fu _ _ _ _ _ _ _ _ _ _ _ hF _ _ S _ (lv_sub hl [3, 4, 7, 8, 9, 2, 1, 0] rfl)
section S_Reader_readPart
variable {p : Program} {l : Launch} {e : Env} {s : State} {m : MethodId} {args : Array Value} {below : List Frame} {meth : Method} {c : Code} {D : va_G} {B n : Nat} {K : Nat → ClassId} {d : Nat}
def f_Reader_readPart_81 (k_Reader_readMulti : m_G → Nat → Option Nat → Int32 → Int32 → Int32 → Option Nat → Int32 → Option (Unit × m_G))  (g : m_G)  : Option (Unit × m_G) :=
  some ((), g)
set_option maxHeartbeats 1000000 in
set_option maxRecDepth 100000 in
theorem c_Reader_readPart_81 (E : m_V p m c b_Reader_readPart 8 s args R_Reader D K) (hr : meth.sig.returnType = none) (hlk : meth.locks = false) (hz : s.heap.size + 0 = B + n) (k_Reader_readMulti : m_G → Nat → Option Nat → Int32 → Int32 → Int32 → Option Nat → Int32 → Option (Unit × m_G)) (hk_Reader_readMulti : ∀ (n : Nat) (g : m_G) (a0 : Nat) (r1 : Option Nat) (x2 : Int32) (x3 : Int32) (x4 : Int32) (r5 : Option Nat) (x6 : Int32) (r : Unit) (g' : m_G), k_Reader_readMulti g a0 r1 x2 x3 x4 r5 x6 = some (r, g') → Met l y_Reader_readMulti (Cond.code y_Reader_readMulti b_Reader_readMulti 10 none :: m_TB) ({ frames := 21 + 2 * d, cells := 0, slots := 0, locals := 340 + 80 * d } : Room) (m_Pc D B K n g [.ref (B + a0), m_r B r1, .int x2, .int x3, .int x4, m_r B r5, .int x6]) (m_Q D B K none n g') 0 0 (fun q => B ≤ q))  : ∀ (g : m_G)  (r : Unit) (g' : m_G), f_Reader_readPart_81 k_Reader_readMulti g  = some (r, g') → ∀ (H : Heap) (locs : List Loc), m_S D B K n g s.heap H locs → ∀ ls : Array Slot, lv_has ls 8 [] → W p l e ({ frames := 20 + 2 * (d + 1), cells := 0, slots := 0, locals := 300 + 80 * (d + 1) } : Room) s m args below meth c H locs 0 0 (MQ below (m_Q D B K none n g') args s 0 0 (fun q => B ≤ q)) (F0 m 81 ls []) := by
  have hx := E.1.1
  have hb := E.1.2.1
  have hts := E.1.2.2.2.2
  intro g  r g' hF H locs S ls hl
  unfold f_Reader_readPart_81 at hF
  cases hF
  skip
  exact m_vret E S hz hr hlk d_Reader_readPart_81
def f_Reader_readPart_63 (k_Reader_readMulti : m_G → Nat → Option Nat → Int32 → Int32 → Int32 → Option Nat → Int32 → Option (Unit × m_G))  (g : m_G) (a0 : Nat) (r1 : Option Nat) (x2 : Int32) (x3 : Int32) (r5 : Option Nat) (x7 : Int32) : Option (Unit × m_G) :=
  Option.bind r1 fun a_1 =>
  m_gd (m_is g a_1 2) <|
  m_bd (f_Draft_header g a_1 x2 x3 101) fun v_3 g_2 =>
  m_gd (m_is g_2 a0 5) <|
  m_bd (f_Reader_readLeaf g_2 a0 (some a_1) x7 x3 v_3 r5) fun v_5 g_4 =>
  f_Reader_readPart_81 k_Reader_readMulti g_4 
set_option maxHeartbeats 1000000 in
set_option maxRecDepth 100000 in
theorem c_Reader_readPart_63 (E : m_V p m c b_Reader_readPart 8 s args R_Reader D K) (hr : meth.sig.returnType = none) (hlk : meth.locks = false) (hz : s.heap.size + 0 = B + n) (k_Reader_readMulti : m_G → Nat → Option Nat → Int32 → Int32 → Int32 → Option Nat → Int32 → Option (Unit × m_G)) (hk_Reader_readMulti : ∀ (n : Nat) (g : m_G) (a0 : Nat) (r1 : Option Nat) (x2 : Int32) (x3 : Int32) (x4 : Int32) (r5 : Option Nat) (x6 : Int32) (r : Unit) (g' : m_G), k_Reader_readMulti g a0 r1 x2 x3 x4 r5 x6 = some (r, g') → Met l y_Reader_readMulti (Cond.code y_Reader_readMulti b_Reader_readMulti 10 none :: m_TB) ({ frames := 21 + 2 * d, cells := 0, slots := 0, locals := 340 + 80 * d } : Room) (m_Pc D B K n g [.ref (B + a0), m_r B r1, .int x2, .int x3, .int x4, m_r B r5, .int x6]) (m_Q D B K none n g') 0 0 (fun q => B ≤ q))  : ∀ (g : m_G) (a0 : Nat) (r1 : Option Nat) (x2 : Int32) (x3 : Int32) (r5 : Option Nat) (x7 : Int32) (r : Unit) (g' : m_G), f_Reader_readPart_63 k_Reader_readMulti g a0 r1 x2 x3 r5 x7 = some (r, g') → ∀ (H : Heap) (locs : List Loc), m_S D B K n g s.heap H locs → ∀ ls : Array Slot, lv_has ls 8 [(0, .ref (B + a0)), (1, m_r B r1), (2, .int x2), (3, .int x3), (5, m_r B r5), (7, .int x7)] → W p l e ({ frames := 20 + 2 * (d + 1), cells := 0, slots := 0, locals := 300 + 80 * (d + 1) } : Room) s m args below meth c H locs 0 0 (MQ below (m_Q D B K none n g') args s 0 0 (fun q => B ≤ q)) (F0 m 63 ls []) := by
  have hx := E.1.1
  have hb := E.1.2.1
  have hts := E.1.2.2.2.2
  intro g a0 r1 x2 x3 r5 x7 r g' hF H locs S ls hl
  unfold f_Reader_readPart_63 at hF
  refine lv_aload_n hx hb d_Reader_readPart_63 rfl (lv_at hl 0 rfl) ?_
  refine m_aload_n (B := B) (r := r1) E d_Reader_readPart_64 rfl (lv_at hl 1 rfl) ?_
  refine lv_iload hx hb d_Reader_readPart_65 (lv_at hl 5 rfl) ?_
  refine lv_iload_n hx hb d_Reader_readPart_67 rfl (lv_at hl 3 rfl) ?_
  refine m_aload_n (B := B) (r := r1) E d_Reader_readPart_68 rfl (lv_at hl 1 rfl) ?_
  refine lv_iload_n hx hb d_Reader_readPart_69 rfl (lv_at hl 2 rfl) ?_
  refine lv_iload_n hx hb d_Reader_readPart_70 rfl (lv_at hl 3 rfl) ?_
  refine lv_bipush (v := 101) hx hb d_Reader_readPart_71 (by decide) ?_
  replace hF := Option.bind_eq_some_iff.mp hF
  obtain ⟨a_1, ea_1, hF⟩ := hF
  subst ea_1
  replace hF := m_gd_inv hF
  obtain ⟨eog_2, hF⟩ := hF
  replace hF := m_bd_inv hF
  obtain ⟨v_3, g_2, eg_2, hF⟩ := hF
  refine m_callV (B := B) (nn := 3) (b := a_1) (As := [.int x2, .int x3, .int 101]) (rest := [.int x3, .int x7, m_r B (some a_1), .ref (B + a0)]) (v := (some (m_r B v_3))) E S hz (c_Draft_header l D B K n g a_1 x2 x3 101 v_3 g_2 eg_2) qc_Draft_header ⟨rfl, rfl⟩ (Or.inr ⟨_, qn_48⟩) qw_108 qw_109 qw_57 (by decide +kernel) ⟨by dsimp only; omega, by dsimp only; omega⟩ eog_2 rfl rfl hl.1 (by simp only [List.map_cons, List.map_nil, m_r_cat]; exact Nat.le_of_ble_eq_true rfl) d_Reader_readPart_73 ⟨Nat.le_of_ble_eq_true rfl, Nat.le_of_ble_eq_true rfl⟩ (fun H locs S => ?_)
  refine W.eq (g2 := F0 m 76 ls [m_r B v_3, .int x3, .int x7, m_r B (some a_1), .ref (B + a0)]) rfl ?_
  refine m_aload (B := B) (r := r5) E d_Reader_readPart_76 (lv_at hl 4 rfl) ?_
  replace hF := m_gd_inv hF
  obtain ⟨eog_4, hF⟩ := hF
  replace hF := m_bd_inv hF
  obtain ⟨v_5, g_4, eg_4, hF⟩ := hF
  refine m_callV (B := B) (nn := 5) (b := a0) (As := [m_r B (some a_1), .int x7, .int x3, m_r B v_3, m_r B r5]) (rest := []) (v := none) E S hz (c_Reader_readLeaf l D B K n g_2 a0 (some a_1) x7 x3 v_3 r5 v_5 g_4 eg_4) qc_Reader_readLeaf ⟨rfl, rfl⟩ (Or.inl qw_165) qw_166 qw_167 qw_62 (by decide +kernel) ⟨by dsimp only; omega, by dsimp only; omega⟩ eog_4 rfl rfl hl.1 (Nat.le_of_ble_eq_true rfl) d_Reader_readPart_78 ⟨Nat.le_of_ble_eq_true rfl, Nat.le_of_ble_eq_true rfl⟩ (fun H locs S => ?_)
  refine W.eq (g2 := F0 m 81 ls []) rfl ?_
  exact c_Reader_readPart_81 E hr hlk hz k_Reader_readMulti hk_Reader_readMulti _ _ _ hF _ _ S _ (lv_sub hl [] rfl)
def f_Reader_readPart_18 (k_Reader_readMulti : m_G → Nat → Option Nat → Int32 → Int32 → Int32 → Option Nat → Int32 → Option (Unit × m_G))  (g : m_G) (a0 : Nat) (r1 : Option Nat) (x2 : Int32) (x3 : Int32) (x4 : Int32) (r5 : Option Nat) (t0 : Option Nat) : Option (Unit × m_G) :=
  Option.bind r1 fun a_1 =>
  m_gd (m_is g a_1 2) <|
  m_bd (f_Draft_bodyStart g a_1 x2 x3) fun v_3 g_2 =>
  match t0 with
  | none =>
    f_Reader_readPart_63 k_Reader_readMulti g_2 a0 (some a_1) x2 x3 r5 v_3
  | some a_4 =>
    (m_gI g_2 a_4 1 1).bind fun v_5 =>
    if (v_5 : Int32) = 3 then
      m_gd (m_is g_2 a_4 1) <|
      m_bd (f_Line_at g_2 a_4 2) fun v_8 g_7 =>
      m_gd (m_is g_7 a0 5) <|
      m_bd (k_Reader_readMulti g_7 a0 (some a_1) v_3 x3 x4 r5 v_8) fun v_10 g_9 =>
      f_Reader_readPart_81 k_Reader_readMulti g_9 
    else
      f_Reader_readPart_63 k_Reader_readMulti g_2 a0 (some a_1) x2 x3 r5 v_3
set_option maxHeartbeats 1000000 in
set_option maxRecDepth 100000 in
theorem c_Reader_readPart_18 (E : m_V p m c b_Reader_readPart 8 s args R_Reader D K) (hr : meth.sig.returnType = none) (hlk : meth.locks = false) (hz : s.heap.size + 0 = B + n) (k_Reader_readMulti : m_G → Nat → Option Nat → Int32 → Int32 → Int32 → Option Nat → Int32 → Option (Unit × m_G)) (hk_Reader_readMulti : ∀ (n : Nat) (g : m_G) (a0 : Nat) (r1 : Option Nat) (x2 : Int32) (x3 : Int32) (x4 : Int32) (r5 : Option Nat) (x6 : Int32) (r : Unit) (g' : m_G), k_Reader_readMulti g a0 r1 x2 x3 x4 r5 x6 = some (r, g') → Met l y_Reader_readMulti (Cond.code y_Reader_readMulti b_Reader_readMulti 10 none :: m_TB) ({ frames := 21 + 2 * d, cells := 0, slots := 0, locals := 340 + 80 * d } : Room) (m_Pc D B K n g [.ref (B + a0), m_r B r1, .int x2, .int x3, .int x4, m_r B r5, .int x6]) (m_Q D B K none n g') 0 0 (fun q => B ≤ q))  : ∀ (g : m_G) (a0 : Nat) (r1 : Option Nat) (x2 : Int32) (x3 : Int32) (x4 : Int32) (r5 : Option Nat) (t0 : Option Nat) (r : Unit) (g' : m_G), f_Reader_readPart_18 k_Reader_readMulti g a0 r1 x2 x3 x4 r5 t0 = some (r, g') → ∀ (H : Heap) (locs : List Loc), m_S D B K n g s.heap H locs → ∀ ls : Array Slot, lv_has ls 8 [(0, .ref (B + a0)), (1, m_r B r1), (2, .int x2), (3, .int x3), (4, .int x4), (5, m_r B r5)] → W p l e ({ frames := 20 + 2 * (d + 1), cells := 0, slots := 0, locals := 300 + 80 * (d + 1) } : Room) s m args below meth c H locs 0 0 (MQ below (m_Q D B K none n g') args s 0 0 (fun q => B ≤ q)) (F0 m 18 ls [m_r B t0]) := by
  have hx := E.1.1
  have hb := E.1.2.1
  have hts := E.1.2.2.2.2
  intro g a0 r1 x2 x3 x4 r5 t0 r g' hF H locs S ls hl
  unfold f_Reader_readPart_18 at hF
  refine m_astore (B := B) (r := t0) (lv' := [(6, m_r B t0), (0, .ref (B + a0)), (1, m_r B r1), (2, .int x2), (3, .int x3), (4, .int x4), (5, m_r B r5)]) E d_Reader_readPart_18 hl (by decide) (by cases r5 <;> rfl) (fun ls hl => ?_)
  refine m_aload_n (B := B) (r := r1) E d_Reader_readPart_20 rfl (lv_at hl 2 rfl) ?_
  refine lv_iload_n hx hb d_Reader_readPart_21 rfl (lv_at hl 3 rfl) ?_
  refine lv_iload_n hx hb d_Reader_readPart_22 rfl (lv_at hl 4 rfl) ?_
  replace hF := Option.bind_eq_some_iff.mp hF
  obtain ⟨a_1, ea_1, hF⟩ := hF
  subst ea_1
  replace hF := m_gd_inv hF
  obtain ⟨eog_2, hF⟩ := hF
  replace hF := m_bd_inv hF
  obtain ⟨v_3, g_2, eg_2, hF⟩ := hF
  refine m_callV (B := B) (nn := 2) (b := a_1) (As := [.int x2, .int x3]) (rest := []) (v := (some (.int v_3))) E S hz (c_Draft_bodyStart l D B K n g a_1 x2 x3 v_3 g_2 eg_2) qc_Draft_bodyStart ⟨rfl, rfl⟩ (Or.inr ⟨_, qn_49⟩) qw_160 qw_161 qw_57 (by decide +kernel) ⟨by dsimp only; omega, by dsimp only; omega⟩ eog_2 rfl rfl hl.1 (Nat.le_of_ble_eq_true rfl) d_Reader_readPart_23 ⟨Nat.le_of_ble_eq_true rfl, Nat.le_of_ble_eq_true rfl⟩ (fun H locs S => ?_)
  refine W.eq (g2 := F0 m 26 ls [.int v_3]) rfl ?_
  refine lv_istore (lv' := [(7, .int v_3), (6, m_r B t0), (0, .ref (B + a0)), (1, m_r B (some a_1)), (2, .int x2), (3, .int x3), (4, .int x4), (5, m_r B r5)]) hx hb d_Reader_readPart_26 hl (by decide) (by cases t0 <;> rfl) (fun ls hl => ?_)
  refine m_aload (B := B) (r := t0) E d_Reader_readPart_28 (lv_at hl 1 rfl) ?_
  refine m_ifnull (B := B) (r := t0) (tgt := 63) E d_Reader_readPart_30 (by decide) (fun ea_4 => ?_) (fun a_4 ea_4 => ?_)
  · subst ea_4
    dsimp only at hF
    exact c_Reader_readPart_63 E hr hlk hz k_Reader_readMulti hk_Reader_readMulti _ _ _ _ _ _ _ _ _ hF _ _ S _ (lv_sub hl [2, 3, 4, 5, 7, 0] rfl)
  · subst ea_4
    dsimp only at hF
    refine m_aload (B := B) (r := (some a_4)) E d_Reader_readPart_33 (lv_at hl 1 rfl) ?_
    replace hF := Option.bind_eq_some_iff.mp hF
    obtain ⟨v_5, ev_5, hF⟩ := hF
    refine m_getI (B := B) (a := a_4) E S fd_Line_length (Or.inr ⟨_, qn_35⟩) ev_5 d_Reader_readPart_35 ?_
    refine lv_iconst (v := 3) hx hb d_Reader_readPart_38 (by decide) ?_
    refine lv_icmp_ne (tgt := 63) hx hb d_Reader_readPart_39 (by decide) (fun c_6 => ?_) (fun c_6 => ?_)
    · rw [if_neg c_6] at hF
      exact c_Reader_readPart_63 E hr hlk hz k_Reader_readMulti hk_Reader_readMulti _ _ _ _ _ _ _ _ _ hF _ _ S _ (lv_sub hl [2, 3, 4, 5, 7, 0] rfl)
    · rw [if_pos c_6] at hF
      refine lv_aload_n hx hb d_Reader_readPart_42 rfl (lv_at hl 2 rfl) ?_
      refine m_aload_n (B := B) (r := (some a_1)) E d_Reader_readPart_43 rfl (lv_at hl 3 rfl) ?_
      refine lv_iload hx hb d_Reader_readPart_44 (lv_at hl 0 rfl) ?_
      refine lv_iload_n hx hb d_Reader_readPart_46 rfl (lv_at hl 5 rfl) ?_
      refine lv_iload hx hb d_Reader_readPart_47 (lv_at hl 6 rfl) ?_
      refine m_aload (B := B) (r := r5) E d_Reader_readPart_49 (lv_at hl 7 rfl) ?_
      refine m_aload (B := B) (r := (some a_4)) E d_Reader_readPart_51 (lv_at hl 1 rfl) ?_
      refine lv_iconst (v := 2) hx hb d_Reader_readPart_53 (by decide) ?_
      replace hF := m_gd_inv hF
      obtain ⟨eog_7, hF⟩ := hF
      replace hF := m_bd_inv hF
      obtain ⟨v_8, g_7, eg_7, hF⟩ := hF
      refine m_callV (B := B) (nn := 1) (b := a_4) (As := [.int 2]) (rest := [m_r B r5, .int x4, .int x3, .int v_3, m_r B (some a_1), .ref (B + a0)]) (v := (some (.int v_8))) E S hz (c_Line_at l D B K n g_2 a_4 2 v_8 g_7 eg_7) qc_Line_at ⟨rfl, rfl⟩ (Or.inr ⟨_, qn_37⟩) qw_98 qw_99 qw_11 (by decide +kernel) ⟨by dsimp only; omega, by dsimp only; omega⟩ eog_7 rfl rfl hl.1 (by simp only [List.map_cons, List.map_nil, m_r_cat]; exact Nat.le_of_ble_eq_true rfl) d_Reader_readPart_54 ⟨Nat.le_of_ble_eq_true rfl, Nat.le_of_ble_eq_true rfl⟩ (fun H locs S => ?_)
      refine W.eq (g2 := F0 m 57 ls [.int v_8, m_r B r5, .int x4, .int x3, .int v_3, m_r B (some a_1), .ref (B + a0)]) rfl ?_
      replace hF := m_gd_inv hF
      obtain ⟨eog_9, hF⟩ := hF
      replace hF := m_bd_inv hF
      obtain ⟨v_10, g_9, eg_9, hF⟩ := hF
      refine m_callV (B := B) (nn := 6) (b := a0) (As := [m_r B (some a_1), .int v_3, .int x3, .int x4, m_r B r5, .int v_8]) (rest := []) (v := none) E S hz (hk_Reader_readMulti n g_7 a0 (some a_1) v_3 x3 x4 r5 v_8 v_10 g_9 eg_9) qc_Reader_readMulti ⟨rfl, rfl⟩ (Or.inl qw_162) qw_163 qw_164 qw_62 (by decide +kernel) ⟨by dsimp only; omega, by dsimp only; omega⟩ eog_9 rfl rfl hl.1 (Nat.le_of_ble_eq_true rfl) d_Reader_readPart_57 ⟨Nat.le_of_ble_eq_true rfl, Nat.le_of_ble_eq_true rfl⟩ (fun H locs S => ?_)
      refine W.eq (g2 := F0 m 60 ls []) rfl ?_
      refine lv_goto (tgt := 81) hx hb d_Reader_readPart_60 (by decide) ?_
      exact c_Reader_readPart_81 E hr hlk hz k_Reader_readMulti hk_Reader_readMulti _ _ _ hF _ _ S _ (lv_sub hl [] rfl)
end S_Reader_readPart
def f_Reader_readPartB (k_Reader_readMulti : m_G → Nat → Option Nat → Int32 → Int32 → Int32 → Option Nat → Int32 → Option (Unit × m_G)) (g : m_G) (a0 : Nat) (r1 : Option Nat) (x2 : Int32) (x3 : Int32) (x4 : Int32) (r5 : Option Nat) : Option (Unit × m_G) :=
  if (4 : Int32) ≤ x4 then
    f_Reader_readPart_18 k_Reader_readMulti g a0 r1 x2 x3 x4 r5 none
  else
    Option.bind r1 fun a_2 =>
    m_gd (m_is g a_2 2) <|
    m_bd (f_Draft_header g a_2 x2 x3 109) fun v_4 g_3 =>
    f_Reader_readPart_18 k_Reader_readMulti g_3 a0 (some a_2) x2 x3 x4 r5 v_4
set_option maxHeartbeats 1000000 in
set_option maxRecDepth 100000 in
theorem c_Reader_readPartB {d : Nat} (l : Launch) (D : va_G) (B : Nat) (K : Nat → ClassId) (k_Reader_readMulti : m_G → Nat → Option Nat → Int32 → Int32 → Int32 → Option Nat → Int32 → Option (Unit × m_G)) (hk_Reader_readMulti : ∀ (n : Nat) (g : m_G) (a0 : Nat) (r1 : Option Nat) (x2 : Int32) (x3 : Int32) (x4 : Int32) (r5 : Option Nat) (x6 : Int32) (r : Unit) (g' : m_G), k_Reader_readMulti g a0 r1 x2 x3 x4 r5 x6 = some (r, g') → Met l y_Reader_readMulti (Cond.code y_Reader_readMulti b_Reader_readMulti 10 none :: m_TB) ({ frames := 21 + 2 * d, cells := 0, slots := 0, locals := 340 + 80 * d } : Room) (m_Pc D B K n g [.ref (B + a0), m_r B r1, .int x2, .int x3, .int x4, m_r B r5, .int x6]) (m_Q D B K none n g') 0 0 (fun q => B ≤ q)) (n : Nat) (g : m_G) (a0 : Nat) (r1 : Option Nat) (x2 : Int32) (x3 : Int32) (x4 : Int32) (r5 : Option Nat) (r : Unit) (g' : m_G) (hF : f_Reader_readPartB k_Reader_readMulti g a0 r1 x2 x3 x4 r5 = some (r, g')) : Met l y_Reader_readPart (Cond.code y_Reader_readPart b_Reader_readPart 8 none :: m_TB) ({ frames := 20 + 2 * (d + 1), cells := 0, slots := 0, locals := 300 + 80 * (d + 1) } : Room) (m_Pc D B K n g [.ref (B + a0), m_r B r1, .int x2, .int x3, .int x4, m_r B r5]) (m_Q D B K none n g') 0 0 (fun q => B ≤ q) := by
  refine m_met (by decide) (by simp only [lg_sl, List.flatMap_cons, List.flatMap_nil, m_r_cat]; exact Nat.le_of_ble_eq_true rfl) ?_
  intro p e s m args below meth c ls E hr hlk hin hsz S hl
  have E : m_V p m c b_Reader_readPart 8 s args R_Reader D K := E
  have hz : s.heap.size + 0 = B + n := hsz
  have hl : lv_has ls 8 [(0, .ref (B + a0)), (1, m_r B r1), (2, .int x2), (3, .int x3), (4, .int x4), (5, m_r B r5)] := by simp only [lv_args, m_r_cat] at hl; exact hl
  have hx := E.1.1
  have hb := E.1.2.1
  have hts := E.1.2.2.2.2
  unfold f_Reader_readPartB at hF
  refine lv_iload hx hb d_Reader_readPart_0 (lv_at hl 4 rfl) ?_
  refine lv_iconst (v := 4) hx hb d_Reader_readPart_2 (by decide) ?_
  refine lv_icmp_ge (tgt := 17) hx hb d_Reader_readPart_3 (by decide) (fun c_1 => ?_) (fun c_1 => ?_)
  · rw [if_pos c_1] at hF
    refine lv_null hx hb d_Reader_readPart_17 ?_
    refine W.eq (g2 := F0 m 18 _ (m_r B none :: [])) rfl ?_
    exact c_Reader_readPart_18 E hr hlk hz k_Reader_readMulti hk_Reader_readMulti _ _ _ _ _ _ _ _ _ _ hF _ _ S _ (lv_sub hl [0, 1, 2, 3, 4, 5] rfl)
  · rw [if_neg c_1] at hF
    refine m_aload_n (B := B) (r := r1) E d_Reader_readPart_6 rfl (lv_at hl 1 rfl) ?_
    refine lv_iload_n hx hb d_Reader_readPart_7 rfl (lv_at hl 2 rfl) ?_
    refine lv_iload_n hx hb d_Reader_readPart_8 rfl (lv_at hl 3 rfl) ?_
    refine lv_bipush (v := 109) hx hb d_Reader_readPart_9 (by decide) ?_
    replace hF := Option.bind_eq_some_iff.mp hF
    obtain ⟨a_2, ea_2, hF⟩ := hF
    subst ea_2
    replace hF := m_gd_inv hF
    obtain ⟨eog_3, hF⟩ := hF
    replace hF := m_bd_inv hF
    obtain ⟨v_4, g_3, eg_3, hF⟩ := hF
    refine m_callV (B := B) (nn := 3) (b := a_2) (As := [.int x2, .int x3, .int 109]) (rest := []) (v := (some (m_r B v_4))) E S hz (c_Draft_header l D B K n g a_2 x2 x3 109 v_4 g_3 eg_3) qc_Draft_header ⟨rfl, rfl⟩ (Or.inr ⟨_, qn_48⟩) qw_108 qw_109 qw_57 (by decide +kernel) ⟨by dsimp only; omega, by dsimp only; omega⟩ eog_3 rfl rfl hl.1 (Nat.le_of_ble_eq_true rfl) d_Reader_readPart_11 ⟨Nat.le_of_ble_eq_true rfl, Nat.le_of_ble_eq_true rfl⟩ (fun H locs S => ?_)
    refine W.eq (g2 := F0 m 14 ls [m_r B v_4]) rfl ?_
    refine lv_goto (tgt := 18) hx hb d_Reader_readPart_14 (by decide) ?_
    exact c_Reader_readPart_18 E hr hlk hz k_Reader_readMulti hk_Reader_readMulti _ _ _ _ _ _ _ _ _ _ hF _ _ S _ (lv_sub hl [0, 1, 2, 3, 4, 5] rfl)
def f_Reader_readPart : Nat → m_G → Nat → Option Nat → Int32 → Int32 → Int32 → Option Nat → Option (Unit × m_G)
  | 0, _, _, _, _, _, _, _ => none
  | d + 1, g, a0, r1, x2, x3, x4, r5 => f_Reader_readPartB (f_Reader_readMulti (f_Reader_readPart d)) g a0 r1 x2 x3 x4 r5
theorem c_Reader_readPart (d : Nat) (l : Launch) (D : va_G) (B : Nat) (K : Nat → ClassId) : ∀ (n : Nat) (g : m_G) (a0 : Nat) (r1 : Option Nat) (x2 : Int32) (x3 : Int32) (x4 : Int32) (r5 : Option Nat) (r : Unit) (g' : m_G) (_ : f_Reader_readPart d g a0 r1 x2 x3 x4 r5 = some (r, g')), Met l y_Reader_readPart (Cond.code y_Reader_readPart b_Reader_readPart 8 none :: m_TB) ({ frames := 20 + 2 * d, cells := 0, slots := 0, locals := 300 + 80 * d } : Room) (m_Pc D B K n g [.ref (B + a0), m_r B r1, .int x2, .int x3, .int x4, m_r B r5]) (m_Q D B K none n g') 0 0 (fun q => B ≤ q) := by
  induction d with
  | zero => intro n g a0 r1 x2 x3 x4 r5 r g' hF; cases hF
  | succ d ih =>
    intro n g a0 r1 x2 x3 x4 r5 r g' hF
    rw [f_Reader_readPart] at hF
    exact c_Reader_readPartB l D B K _ (fun n g a0 r1 x2 x3 x4 r5 x6 r g' h => c_Reader_readMulti l D B K _ ih n g a0 r1 x2 x3 x4 r5 x6 r g' h) n g a0 r1 x2 x3 x4 r5 r g' hF
