section S_Mod_closes
variable {p : Program} {l : Launch} {e : Env} {s : State} {m : MethodId} {args : Array Value} {below : List Frame} {meth : Method} {c : Code} {D : va_G} {B n : Nat} {K : Nat → ClassId}
def f_Mod_closes_47   (g : m_G) (y0 : Int32) : Option (Int32 × m_G) :=
  if (y0 : Int32) = 0 ∨ y0 = 1 then some (y0, g) else none
set_option maxHeartbeats 1000000 in
set_option maxRecDepth 100000 in
theorem c_Mod_closes_47 (E : m_V p m c b_Mod_closes 3 s args R_Mod D K) (hr : meth.sig.returnType = (some .boolean)) (hlk : meth.locks = false) (hz : s.heap.size + 0 = B + n)   : ∀ (g : m_G) (y0 : Int32) (r : Int32) (g' : m_G), f_Mod_closes_47 g y0 = some (r, g') → ∀ (H : Heap) (locs : List Loc), m_S D B K n g s.heap H locs → ∀ ls : Array Slot, lv_has ls 3 [] → W p l e ({ frames := 1, cells := 0, slots := 0, locals := 22 } : Room) s m args below meth c H locs 0 0 (MQ below (m_Q D B K (some (.int r)) n g') args s 0 0 (fun q => B ≤ q)) (F0 m 47 ls [.int y0]) := by
  have hx := E.1.1
  have hb := E.1.2.1
  have hts := E.1.2.2.2.2
  intro g y0 r g' hF H locs S ls hl
  unfold f_Mod_closes_47 at hF
  by_cases c_1 : (y0 : Int32) = 0 ∨ y0 = 1
  · rw [if_pos c_1] at hF
    cases hF
    exact m_zret E S hz hr hlk c_1 d_Mod_closes_47
  · rw [if_neg c_1] at hF
    cases hF
def f_Mod_closes_46   (g : m_G)  : Option (Int32 × m_G) :=
  f_Mod_closes_47 g 0
set_option maxHeartbeats 1000000 in
set_option maxRecDepth 100000 in
theorem c_Mod_closes_46 (E : m_V p m c b_Mod_closes 3 s args R_Mod D K) (hr : meth.sig.returnType = (some .boolean)) (hlk : meth.locks = false) (hz : s.heap.size + 0 = B + n)   : ∀ (g : m_G)  (r : Int32) (g' : m_G), f_Mod_closes_46 g  = some (r, g') → ∀ (H : Heap) (locs : List Loc), m_S D B K n g s.heap H locs → ∀ ls : Array Slot, lv_has ls 3 [] → W p l e ({ frames := 1, cells := 0, slots := 0, locals := 22 } : Room) s m args below meth c H locs 0 0 (MQ below (m_Q D B K (some (.int r)) n g') args s 0 0 (fun q => B ≤ q)) (F0 m 46 ls []) := by
  have hx := E.1.1
  have hb := E.1.2.1
  have hts := E.1.2.2.2.2
  intro g  r g' hF H locs S ls hl
  unfold f_Mod_closes_46 at hF
  refine lv_iconst (v := 0) hx hb d_Mod_closes_46 (by decide) ?_
  exact c_Mod_closes_47 E hr hlk hz _ _ _ _ hF _ _ S _ (lv_sub hl [] rfl)
end S_Mod_closes
def f_Mod_closes  (g : m_G) (a0 : Nat) (x1 : Int32) (x2 : Int32) : Option (Int32 × m_G) :=
  (m_gR g a0 8 1).bind fun v_1 =>
  Option.bind v_1 fun a_2 =>
  (m_ld g a_2 0 x1).bind fun v_3 =>
  if (v_3 : Int32) = 3 then
    m_gd (m_is g a0 8) <|
    m_bd (f_Mod_at g a0 x1 0) fun v_6 g_5 =>
    if (v_6 : Int32) = 45 then
      m_gd (m_is g_5 a0 8) <|
      m_bd (f_Mod_at g_5 a0 x1 1) fun v_9 g_8 =>
      if (v_9 : Int32) = x2 then
        m_gd (m_is g_8 a0 8) <|
        m_bd (f_Mod_at g_8 a0 x1 2) fun v_12 g_11 =>
        if (v_12 : Int32) = 46 then
          f_Mod_closes_47 g_11 1
        else
          f_Mod_closes_46 g_11 
      else
        f_Mod_closes_46 g_8 
    else
      f_Mod_closes_46 g_5 
  else
    f_Mod_closes_46 g 
set_option maxHeartbeats 1000000 in
set_option maxRecDepth 100000 in
theorem c_Mod_closes (l : Launch) (D : va_G) (B : Nat) (K : Nat → ClassId)  (n : Nat) (g : m_G) (a0 : Nat) (x1 : Int32) (x2 : Int32) (r : Int32) (g' : m_G) (hF : f_Mod_closes g a0 x1 x2 = some (r, g')) : Met l y_Mod_closes (Cond.code y_Mod_closes b_Mod_closes 3 (some .boolean) :: m_TB) ({ frames := 1, cells := 0, slots := 0, locals := 22 } : Room) (m_Pc D B K n g [.ref (B + a0), .int x1, .int x2]) (m_Q D B K (some (.int r)) n g') 0 0 (fun q => B ≤ q) := by
  refine m_met (by decide) (Nat.le_of_ble_eq_true rfl) ?_
  intro p e s m args below meth c ls E hr hlk hin hsz S hl
  have E : m_V p m c b_Mod_closes 3 s args R_Mod D K := E
  have hz : s.heap.size + 0 = B + n := hsz
  have hl : lv_has ls 3 [(0, .ref (B + a0)), (1, .int x1), (2, .int x2)] := hl
  have hx := E.1.1
  have hb := E.1.2.1
  have hts := E.1.2.2.2.2
  unfold f_Mod_closes at hF
  refine lv_aload_n hx hb d_Mod_closes_0 rfl (lv_at hl 0 rfl) ?_
  replace hF := Option.bind_eq_some_iff.mp hF
  obtain ⟨v_1, ev_1, hF⟩ := hF
  refine m_getR (B := B) (a := a0) E S fd_Mod_lengths (Or.inl qw_285) ev_1 d_Mod_closes_1 ?_
  refine lv_iload_n hx hb d_Mod_closes_4 rfl (lv_at hl 1 rfl) ?_
  replace hF := Option.bind_eq_some_iff.mp hF
  obtain ⟨a_2, ea_2, hF⟩ := hF
  subst ea_2
  replace hF := Option.bind_eq_some_iff.mp hF
  obtain ⟨v_3, ev_3, hF⟩ := hF
  refine m_iald (B := B) (a := a_2) (t := 0) E S rfl ev_3 d_Mod_closes_5 ?_
  refine lv_iconst (v := 3) hx hb d_Mod_closes_6 (by decide) ?_
  refine lv_icmp_ne (tgt := 46) hx hb d_Mod_closes_7 (by decide) (fun c_4 => ?_) (fun c_4 => ?_)
  · rw [if_neg c_4] at hF
    exact c_Mod_closes_46 E hr hlk hz _ _ _ hF _ _ S _ (lv_sub hl [] rfl)
  · rw [if_pos c_4] at hF
    refine lv_aload_n hx hb d_Mod_closes_10 rfl (lv_at hl 0 rfl) ?_
    refine lv_iload_n hx hb d_Mod_closes_11 rfl (lv_at hl 1 rfl) ?_
    refine lv_iconst (v := 0) hx hb d_Mod_closes_12 (by decide) ?_
    replace hF := m_gd_inv hF
    obtain ⟨eog_5, hF⟩ := hF
    replace hF := m_bd_inv hF
    obtain ⟨v_6, g_5, eg_5, hF⟩ := hF
    refine m_callV (B := B) (nn := 2) (b := a0) (As := [.int x1, .int 0]) (rest := []) (v := (some (.int v_6))) E S hz (c_Mod_at l D B K n g a0 x1 0 v_6 g_5 eg_5) qc_Mod_at ⟨rfl, rfl⟩ (Or.inl qw_307) qw_308 qw_309 qw_304 (by decide +kernel) ⟨Nat.le_of_ble_eq_true rfl, Nat.le_of_ble_eq_true rfl⟩ eog_5 rfl rfl hl.1 (Nat.le_of_ble_eq_true rfl) d_Mod_closes_13 ⟨Nat.le_of_ble_eq_true rfl, Nat.le_of_ble_eq_true rfl⟩ (fun H locs S => ?_)
    refine W.eq (g2 := F0 m 16 ls [.int v_6]) rfl ?_
    refine lv_bipush (v := 45) hx hb d_Mod_closes_16 (by decide) ?_
    refine lv_icmp_ne (tgt := 46) hx hb d_Mod_closes_18 (by decide) (fun c_7 => ?_) (fun c_7 => ?_)
    · rw [if_neg c_7] at hF
      exact c_Mod_closes_46 E hr hlk hz _ _ _ hF _ _ S _ (lv_sub hl [] rfl)
    · rw [if_pos c_7] at hF
      refine lv_aload_n hx hb d_Mod_closes_21 rfl (lv_at hl 0 rfl) ?_
      refine lv_iload_n hx hb d_Mod_closes_22 rfl (lv_at hl 1 rfl) ?_
      refine lv_iconst (v := 1) hx hb d_Mod_closes_23 (by decide) ?_
      replace hF := m_gd_inv hF
      obtain ⟨eog_8, hF⟩ := hF
      replace hF := m_bd_inv hF
      obtain ⟨v_9, g_8, eg_8, hF⟩ := hF
      refine m_callV (B := B) (nn := 2) (b := a0) (As := [.int x1, .int 1]) (rest := []) (v := (some (.int v_9))) E S hz (c_Mod_at l D B K n g_5 a0 x1 1 v_9 g_8 eg_8) qc_Mod_at ⟨rfl, rfl⟩ (Or.inl qw_307) qw_308 qw_309 qw_304 (by decide +kernel) ⟨Nat.le_of_ble_eq_true rfl, Nat.le_of_ble_eq_true rfl⟩ eog_8 rfl rfl hl.1 (Nat.le_of_ble_eq_true rfl) d_Mod_closes_24 ⟨Nat.le_of_ble_eq_true rfl, Nat.le_of_ble_eq_true rfl⟩ (fun H locs S => ?_)
      refine W.eq (g2 := F0 m 27 ls [.int v_9]) rfl ?_
      refine lv_iload_n hx hb d_Mod_closes_27 rfl (lv_at hl 2 rfl) ?_
      refine lv_icmp_ne (tgt := 46) hx hb d_Mod_closes_28 (by decide) (fun c_10 => ?_) (fun c_10 => ?_)
      · rw [if_neg c_10] at hF
        exact c_Mod_closes_46 E hr hlk hz _ _ _ hF _ _ S _ (lv_sub hl [] rfl)
      · rw [if_pos c_10] at hF
        refine lv_aload_n hx hb d_Mod_closes_31 rfl (lv_at hl 0 rfl) ?_
        refine lv_iload_n hx hb d_Mod_closes_32 rfl (lv_at hl 1 rfl) ?_
        refine lv_iconst (v := 2) hx hb d_Mod_closes_33 (by decide) ?_
        replace hF := m_gd_inv hF
        obtain ⟨eog_11, hF⟩ := hF
        replace hF := m_bd_inv hF
        obtain ⟨v_12, g_11, eg_11, hF⟩ := hF
        refine m_callV (B := B) (nn := 2) (b := a0) (As := [.int x1, .int 2]) (rest := []) (v := (some (.int v_12))) E S hz (c_Mod_at l D B K n g_8 a0 x1 2 v_12 g_11 eg_11) qc_Mod_at ⟨rfl, rfl⟩ (Or.inl qw_307) qw_308 qw_309 qw_304 (by decide +kernel) ⟨Nat.le_of_ble_eq_true rfl, Nat.le_of_ble_eq_true rfl⟩ eog_11 rfl rfl hl.1 (Nat.le_of_ble_eq_true rfl) d_Mod_closes_34 ⟨Nat.le_of_ble_eq_true rfl, Nat.le_of_ble_eq_true rfl⟩ (fun H locs S => ?_)
        refine W.eq (g2 := F0 m 37 ls [.int v_12]) rfl ?_
        refine lv_bipush (v := 46) hx hb d_Mod_closes_37 (by decide) ?_
        refine lv_icmp_ne (tgt := 46) hx hb d_Mod_closes_39 (by decide) (fun c_13 => ?_) (fun c_13 => ?_)
        · rw [if_neg c_13] at hF
          exact c_Mod_closes_46 E hr hlk hz _ _ _ hF _ _ S _ (lv_sub hl [] rfl)
        · rw [if_pos c_13] at hF
          refine lv_iconst (v := 1) hx hb d_Mod_closes_42 (by decide) ?_
          refine lv_goto (tgt := 47) hx hb d_Mod_closes_43 (by decide) ?_
          exact c_Mod_closes_47 E hr hlk hz _ _ _ _ hF _ _ S _ (lv_sub hl [] rfl)
section S_Mod_cuts
variable {p : Program} {l : Launch} {e : Env} {s : State} {m : MethodId} {args : Array Value} {below : List Frame} {meth : Method} {c : Code} {D : va_G} {B n : Nat} {K : Nat → ClassId}
def f_Mod_cuts_36   (g : m_G) (y0 : Int32) : Option (Int32 × m_G) :=
  if (y0 : Int32) = 0 ∨ y0 = 1 then some (y0, g) else none
set_option maxHeartbeats 1000000 in
set_option maxRecDepth 100000 in
theorem c_Mod_cuts_36 (E : m_V p m c b_Mod_cuts 3 s args R_Mod D K) (hr : meth.sig.returnType = (some .boolean)) (hlk : meth.locks = false) (hz : s.heap.size + 0 = B + n)   : ∀ (g : m_G) (y0 : Int32) (r : Int32) (g' : m_G), f_Mod_cuts_36 g y0 = some (r, g') → ∀ (H : Heap) (locs : List Loc), m_S D B K n g s.heap H locs → ∀ ls : Array Slot, lv_has ls 3 [] → W p l e ({ frames := 1, cells := 0, slots := 0, locals := 22 } : Room) s m args below meth c H locs 0 0 (MQ below (m_Q D B K (some (.int r)) n g') args s 0 0 (fun q => B ≤ q)) (F0 m 36 ls [.int y0]) := by
  have hx := E.1.1
  have hb := E.1.2.1
  have hts := E.1.2.2.2.2
  intro g y0 r g' hF H locs S ls hl
  unfold f_Mod_cuts_36 at hF
  by_cases c_1 : (y0 : Int32) = 0 ∨ y0 = 1
  · rw [if_pos c_1] at hF
    cases hF
    exact m_zret E S hz hr hlk c_1 d_Mod_cuts_36
  · rw [if_neg c_1] at hF
    cases hF
def f_Mod_cuts_35   (g : m_G)  : Option (Int32 × m_G) :=
  f_Mod_cuts_36 g 0
set_option maxHeartbeats 1000000 in
set_option maxRecDepth 100000 in
theorem c_Mod_cuts_35 (E : m_V p m c b_Mod_cuts 3 s args R_Mod D K) (hr : meth.sig.returnType = (some .boolean)) (hlk : meth.locks = false) (hz : s.heap.size + 0 = B + n)   : ∀ (g : m_G)  (r : Int32) (g' : m_G), f_Mod_cuts_35 g  = some (r, g') → ∀ (H : Heap) (locs : List Loc), m_S D B K n g s.heap H locs → ∀ ls : Array Slot, lv_has ls 3 [] → W p l e ({ frames := 1, cells := 0, slots := 0, locals := 22 } : Room) s m args below meth c H locs 0 0 (MQ below (m_Q D B K (some (.int r)) n g') args s 0 0 (fun q => B ≤ q)) (F0 m 35 ls []) := by
  have hx := E.1.1
  have hb := E.1.2.1
  have hts := E.1.2.2.2.2
  intro g  r g' hF H locs S ls hl
  unfold f_Mod_cuts_35 at hF
  refine lv_iconst (v := 0) hx hb d_Mod_cuts_35 (by decide) ?_
  exact c_Mod_cuts_36 E hr hlk hz _ _ _ _ hF _ _ S _ (lv_sub hl [] rfl)
end S_Mod_cuts
def f_Mod_cuts  (g : m_G) (a0 : Nat) (x1 : Int32) (x2 : Int32) : Option (Int32 × m_G) :=
  (m_gR g a0 8 1).bind fun v_1 =>
  Option.bind v_1 fun a_2 =>
  (m_ld g a_2 0 x1).bind fun v_3 =>
  if (v_3 : Int32) = 2 then
    m_gd (m_is g a0 8) <|
    m_bd (f_Mod_at g a0 x1 0) fun v_6 g_5 =>
    if (v_6 : Int32) = 45 then
      m_gd (m_is g_5 a0 8) <|
      m_bd (f_Mod_at g_5 a0 x1 1) fun v_9 g_8 =>
      if (v_9 : Int32) = x2 then
        f_Mod_cuts_36 g_8 1
      else
        f_Mod_cuts_35 g_8 
    else
      f_Mod_cuts_35 g_5 
  else
    f_Mod_cuts_35 g 
set_option maxHeartbeats 1000000 in
set_option maxRecDepth 100000 in
theorem c_Mod_cuts (l : Launch) (D : va_G) (B : Nat) (K : Nat → ClassId)  (n : Nat) (g : m_G) (a0 : Nat) (x1 : Int32) (x2 : Int32) (r : Int32) (g' : m_G) (hF : f_Mod_cuts g a0 x1 x2 = some (r, g')) : Met l y_Mod_cuts (Cond.code y_Mod_cuts b_Mod_cuts 3 (some .boolean) :: m_TB) ({ frames := 1, cells := 0, slots := 0, locals := 22 } : Room) (m_Pc D B K n g [.ref (B + a0), .int x1, .int x2]) (m_Q D B K (some (.int r)) n g') 0 0 (fun q => B ≤ q) := by
  refine m_met (by decide) (Nat.le_of_ble_eq_true rfl) ?_
  intro p e s m args below meth c ls E hr hlk hin hsz S hl
  have E : m_V p m c b_Mod_cuts 3 s args R_Mod D K := E
  have hz : s.heap.size + 0 = B + n := hsz
  have hl : lv_has ls 3 [(0, .ref (B + a0)), (1, .int x1), (2, .int x2)] := hl
  have hx := E.1.1
  have hb := E.1.2.1
  have hts := E.1.2.2.2.2
  unfold f_Mod_cuts at hF
  refine lv_aload_n hx hb d_Mod_cuts_0 rfl (lv_at hl 0 rfl) ?_
  replace hF := Option.bind_eq_some_iff.mp hF
  obtain ⟨v_1, ev_1, hF⟩ := hF
  refine m_getR (B := B) (a := a0) E S fd_Mod_lengths (Or.inl qw_285) ev_1 d_Mod_cuts_1 ?_
  refine lv_iload_n hx hb d_Mod_cuts_4 rfl (lv_at hl 1 rfl) ?_
  replace hF := Option.bind_eq_some_iff.mp hF
  obtain ⟨a_2, ea_2, hF⟩ := hF
  subst ea_2
  replace hF := Option.bind_eq_some_iff.mp hF
  obtain ⟨v_3, ev_3, hF⟩ := hF
  refine m_iald (B := B) (a := a_2) (t := 0) E S rfl ev_3 d_Mod_cuts_5 ?_
  refine lv_iconst (v := 2) hx hb d_Mod_cuts_6 (by decide) ?_
  refine lv_icmp_ne (tgt := 35) hx hb d_Mod_cuts_7 (by decide) (fun c_4 => ?_) (fun c_4 => ?_)
  · rw [if_neg c_4] at hF
    exact c_Mod_cuts_35 E hr hlk hz _ _ _ hF _ _ S _ (lv_sub hl [] rfl)
  · rw [if_pos c_4] at hF
    refine lv_aload_n hx hb d_Mod_cuts_10 rfl (lv_at hl 0 rfl) ?_
    refine lv_iload_n hx hb d_Mod_cuts_11 rfl (lv_at hl 1 rfl) ?_
    refine lv_iconst (v := 0) hx hb d_Mod_cuts_12 (by decide) ?_
    replace hF := m_gd_inv hF
    obtain ⟨eog_5, hF⟩ := hF
    replace hF := m_bd_inv hF
    obtain ⟨v_6, g_5, eg_5, hF⟩ := hF
    refine m_callV (B := B) (nn := 2) (b := a0) (As := [.int x1, .int 0]) (rest := []) (v := (some (.int v_6))) E S hz (c_Mod_at l D B K n g a0 x1 0 v_6 g_5 eg_5) qc_Mod_at ⟨rfl, rfl⟩ (Or.inl qw_307) qw_308 qw_309 qw_304 (by decide +kernel) ⟨Nat.le_of_ble_eq_true rfl, Nat.le_of_ble_eq_true rfl⟩ eog_5 rfl rfl hl.1 (Nat.le_of_ble_eq_true rfl) d_Mod_cuts_13 ⟨Nat.le_of_ble_eq_true rfl, Nat.le_of_ble_eq_true rfl⟩ (fun H locs S => ?_)
    refine W.eq (g2 := F0 m 16 ls [.int v_6]) rfl ?_
    refine lv_bipush (v := 45) hx hb d_Mod_cuts_16 (by decide) ?_
    refine lv_icmp_ne (tgt := 35) hx hb d_Mod_cuts_18 (by decide) (fun c_7 => ?_) (fun c_7 => ?_)
    · rw [if_neg c_7] at hF
      exact c_Mod_cuts_35 E hr hlk hz _ _ _ hF _ _ S _ (lv_sub hl [] rfl)
    · rw [if_pos c_7] at hF
      refine lv_aload_n hx hb d_Mod_cuts_21 rfl (lv_at hl 0 rfl) ?_
      refine lv_iload_n hx hb d_Mod_cuts_22 rfl (lv_at hl 1 rfl) ?_
      refine lv_iconst (v := 1) hx hb d_Mod_cuts_23 (by decide) ?_
      replace hF := m_gd_inv hF
      obtain ⟨eog_8, hF⟩ := hF
      replace hF := m_bd_inv hF
      obtain ⟨v_9, g_8, eg_8, hF⟩ := hF
      refine m_callV (B := B) (nn := 2) (b := a0) (As := [.int x1, .int 1]) (rest := []) (v := (some (.int v_9))) E S hz (c_Mod_at l D B K n g_5 a0 x1 1 v_9 g_8 eg_8) qc_Mod_at ⟨rfl, rfl⟩ (Or.inl qw_307) qw_308 qw_309 qw_304 (by decide +kernel) ⟨Nat.le_of_ble_eq_true rfl, Nat.le_of_ble_eq_true rfl⟩ eog_8 rfl rfl hl.1 (Nat.le_of_ble_eq_true rfl) d_Mod_cuts_24 ⟨Nat.le_of_ble_eq_true rfl, Nat.le_of_ble_eq_true rfl⟩ (fun H locs S => ?_)
      refine W.eq (g2 := F0 m 27 ls [.int v_9]) rfl ?_
      refine lv_iload_n hx hb d_Mod_cuts_27 rfl (lv_at hl 2 rfl) ?_
      refine lv_icmp_ne (tgt := 35) hx hb d_Mod_cuts_28 (by decide) (fun c_10 => ?_) (fun c_10 => ?_)
      · rw [if_neg c_10] at hF
        exact c_Mod_cuts_35 E hr hlk hz _ _ _ hF _ _ S _ (lv_sub hl [] rfl)
      · rw [if_pos c_10] at hF
        refine lv_iconst (v := 1) hx hb d_Mod_cuts_31 (by decide) ?_
        refine lv_goto (tgt := 36) hx hb d_Mod_cuts_32 (by decide) ?_
        exact c_Mod_cuts_36 E hr hlk hz _ _ _ _ hF _ _ S _ (lv_sub hl [] rfl)
section S_Mod_hex
variable {p : Program} {l : Launch} {e : Env} {s : State} {m : MethodId} {args : Array Value} {below : List Frame} {meth : Method} {c : Code} {D : va_G} {B n : Nat} {K : Nat → ClassId}
def f_Mod_hex_60   (g : m_G) (y0 : Int32) : Option (Int32 × m_G) :=
  some (y0, g)
set_option maxHeartbeats 1000000 in
set_option maxRecDepth 100000 in
theorem c_Mod_hex_60 (E : m_V p m c b_Mod_hex 1 s args R_Mod D K) (hr : meth.sig.returnType = (some .int)) (hlk : meth.locks = false) (hz : s.heap.size + 0 = B + n)   : ∀ (g : m_G) (y0 : Int32) (r : Int32) (g' : m_G), f_Mod_hex_60 g y0 = some (r, g') → ∀ (H : Heap) (locs : List Loc), m_S D B K n g s.heap H locs → ∀ ls : Array Slot, lv_has ls 1 [] → W p l e ({ frames := 0, cells := 0, slots := 0, locals := 0 } : Room) s m args below meth c H locs 0 0 (MQ below (m_Q D B K (some (.int r)) n g') args s 0 0 (fun q => B ≤ q)) (F0 m 60 ls [.int y0]) := by
  have hx := E.1.1
  have hb := E.1.2.1
  have hts := E.1.2.2.2.2
  intro g y0 r g' hF H locs S ls hl
  unfold f_Mod_hex_60 at hF
  cases hF
  exact m_iret E S hz hr hlk d_Mod_hex_60
def f_Mod_hex_59   (g : m_G)  : Option (Int32 × m_G) :=
  f_Mod_hex_60 g (-1)
set_option maxHeartbeats 1000000 in
set_option maxRecDepth 100000 in
theorem c_Mod_hex_59 (E : m_V p m c b_Mod_hex 1 s args R_Mod D K) (hr : meth.sig.returnType = (some .int)) (hlk : meth.locks = false) (hz : s.heap.size + 0 = B + n)   : ∀ (g : m_G)  (r : Int32) (g' : m_G), f_Mod_hex_59 g  = some (r, g') → ∀ (H : Heap) (locs : List Loc), m_S D B K n g s.heap H locs → ∀ ls : Array Slot, lv_has ls 1 [] → W p l e ({ frames := 0, cells := 0, slots := 0, locals := 0 } : Room) s m args below meth c H locs 0 0 (MQ below (m_Q D B K (some (.int r)) n g') args s 0 0 (fun q => B ≤ q)) (F0 m 59 ls []) := by
  have hx := E.1.1
  have hb := E.1.2.1
  have hts := E.1.2.2.2.2
  intro g  r g' hF H locs S ls hl
  unfold f_Mod_hex_59 at hF
  refine lv_iconst (v := (-1)) hx hb d_Mod_hex_59 (by decide) ?_
  exact c_Mod_hex_60 E hr hlk hz _ _ _ _ hF _ _ S _ (lv_sub hl [] rfl)
def f_Mod_hex_37   (g : m_G) (x0 : Int32) : Option (Int32 × m_G) :=
  if (x0 : Int32) < 65 then
    f_Mod_hex_59 g 
  else
    if (70 : Int32) < x0 then
      f_Mod_hex_59 g 
    else
      f_Mod_hex_60 g ((x0 - 65) + 10)
set_option maxHeartbeats 1000000 in
set_option maxRecDepth 100000 in
theorem c_Mod_hex_37 (E : m_V p m c b_Mod_hex 1 s args R_Mod D K) (hr : meth.sig.returnType = (some .int)) (hlk : meth.locks = false) (hz : s.heap.size + 0 = B + n)   : ∀ (g : m_G) (x0 : Int32) (r : Int32) (g' : m_G), f_Mod_hex_37 g x0 = some (r, g') → ∀ (H : Heap) (locs : List Loc), m_S D B K n g s.heap H locs → ∀ ls : Array Slot, lv_has ls 1 [(0, .int x0)] → W p l e ({ frames := 0, cells := 0, slots := 0, locals := 0 } : Room) s m args below meth c H locs 0 0 (MQ below (m_Q D B K (some (.int r)) n g') args s 0 0 (fun q => B ≤ q)) (F0 m 37 ls []) := by
  have hx := E.1.1
  have hb := E.1.2.1
  have hts := E.1.2.2.2.2
  intro g x0 r g' hF H locs S ls hl
  unfold f_Mod_hex_37 at hF
  refine lv_iload_n hx hb d_Mod_hex_37 rfl (lv_at hl 0 rfl) ?_
  refine lv_bipush (v := 65) hx hb d_Mod_hex_38 (by decide) ?_
  refine lv_icmp_lt (tgt := 59) hx hb d_Mod_hex_40 (by decide) (fun c_1 => ?_) (fun c_1 => ?_)
  · rw [if_pos c_1] at hF
    exact c_Mod_hex_59 E hr hlk hz _ _ _ hF _ _ S _ (lv_sub hl [] rfl)
  · rw [if_neg c_1] at hF
    refine lv_iload_n hx hb d_Mod_hex_43 rfl (lv_at hl 0 rfl) ?_
    refine lv_bipush (v := 70) hx hb d_Mod_hex_44 (by decide) ?_
    refine lv_icmp_gt (tgt := 59) hx hb d_Mod_hex_46 (by decide) (fun c_2 => ?_) (fun c_2 => ?_)
    · rw [if_pos c_2] at hF
      exact c_Mod_hex_59 E hr hlk hz _ _ _ hF _ _ S _ (lv_sub hl [] rfl)
    · rw [if_neg c_2] at hF
      refine lv_iload_n hx hb d_Mod_hex_49 rfl (lv_at hl 0 rfl) ?_
      refine lv_bipush (v := 65) hx hb d_Mod_hex_50 (by decide) ?_
      refine lv_isub hx hb d_Mod_hex_52 ?_
      refine lv_bipush (v := 10) hx hb d_Mod_hex_53 (by decide) ?_
      refine lv_iadd hx hb d_Mod_hex_55 ?_
      refine lv_goto (tgt := 60) hx hb d_Mod_hex_56 (by decide) ?_
      exact c_Mod_hex_60 E hr hlk hz _ _ _ _ hF _ _ S _ (lv_sub hl [] rfl)
def f_Mod_hex_17   (g : m_G) (x0 : Int32) : Option (Int32 × m_G) :=
  if (x0 : Int32) < 97 then
    f_Mod_hex_37 g x0
  else
    if (102 : Int32) < x0 then
      f_Mod_hex_37 g x0
    else
      some (((x0 - 97) + 10), g)
set_option maxHeartbeats 1000000 in
set_option maxRecDepth 100000 in
theorem c_Mod_hex_17 (E : m_V p m c b_Mod_hex 1 s args R_Mod D K) (hr : meth.sig.returnType = (some .int)) (hlk : meth.locks = false) (hz : s.heap.size + 0 = B + n)   : ∀ (g : m_G) (x0 : Int32) (r : Int32) (g' : m_G), f_Mod_hex_17 g x0 = some (r, g') → ∀ (H : Heap) (locs : List Loc), m_S D B K n g s.heap H locs → ∀ ls : Array Slot, lv_has ls 1 [(0, .int x0)] → W p l e ({ frames := 0, cells := 0, slots := 0, locals := 0 } : Room) s m args below meth c H locs 0 0 (MQ below (m_Q D B K (some (.int r)) n g') args s 0 0 (fun q => B ≤ q)) (F0 m 17 ls []) := by
  have hx := E.1.1
  have hb := E.1.2.1
  have hts := E.1.2.2.2.2
  intro g x0 r g' hF H locs S ls hl
  unfold f_Mod_hex_17 at hF
  refine lv_iload_n hx hb d_Mod_hex_17 rfl (lv_at hl 0 rfl) ?_
  refine lv_bipush (v := 97) hx hb d_Mod_hex_18 (by decide) ?_
  refine lv_icmp_lt (tgt := 37) hx hb d_Mod_hex_20 (by decide) (fun c_1 => ?_) (fun c_1 => ?_)
  · rw [if_pos c_1] at hF
    exact c_Mod_hex_37 E hr hlk hz _ _ _ _ hF _ _ S _ (lv_sub hl [0] rfl)
  · rw [if_neg c_1] at hF
    refine lv_iload_n hx hb d_Mod_hex_23 rfl (lv_at hl 0 rfl) ?_
    refine lv_bipush (v := 102) hx hb d_Mod_hex_24 (by decide) ?_
    refine lv_icmp_gt (tgt := 37) hx hb d_Mod_hex_26 (by decide) (fun c_2 => ?_) (fun c_2 => ?_)
    · rw [if_pos c_2] at hF
      exact c_Mod_hex_37 E hr hlk hz _ _ _ _ hF _ _ S _ (lv_sub hl [0] rfl)
    · rw [if_neg c_2] at hF
      refine lv_iload_n hx hb d_Mod_hex_29 rfl (lv_at hl 0 rfl) ?_
      refine lv_bipush (v := 97) hx hb d_Mod_hex_30 (by decide) ?_
      refine lv_isub hx hb d_Mod_hex_32 ?_
      refine lv_bipush (v := 10) hx hb d_Mod_hex_33 (by decide) ?_
      refine lv_iadd hx hb d_Mod_hex_35 ?_
      cases hF
      exact m_iret E S hz hr hlk d_Mod_hex_36
end S_Mod_hex
def f_Mod_hex  (g : m_G) (x0 : Int32) : Option (Int32 × m_G) :=
  if (x0 : Int32) < 48 then
    f_Mod_hex_17 g x0
  else
    if (57 : Int32) < x0 then
      f_Mod_hex_17 g x0
    else
      some ((x0 - 48), g)
set_option maxHeartbeats 1000000 in
set_option maxRecDepth 100000 in
theorem c_Mod_hex (l : Launch) (D : va_G) (B : Nat) (K : Nat → ClassId)  (n : Nat) (g : m_G) (x0 : Int32) (r : Int32) (g' : m_G) (hF : f_Mod_hex g x0 = some (r, g')) : Met l y_Mod_hex (Cond.code y_Mod_hex b_Mod_hex 1 (some .int) :: m_TB) ({ frames := 0, cells := 0, slots := 0, locals := 0 } : Room) (m_Pc D B K n g [.int x0]) (m_Q D B K (some (.int r)) n g') 0 0 (fun q => B ≤ q) := by
  refine m_met (by decide) (Nat.le_of_ble_eq_true rfl) ?_
  intro p e s m args below meth c ls E hr hlk hin hsz S hl
  have E : m_V p m c b_Mod_hex 1 s args R_Mod D K := E
  have hz : s.heap.size + 0 = B + n := hsz
  have hl : lv_has ls 1 [(0, .int x0)] := hl
  have hx := E.1.1
  have hb := E.1.2.1
  have hts := E.1.2.2.2.2
  unfold f_Mod_hex at hF
  refine lv_iload_n hx hb d_Mod_hex_0 rfl (lv_at hl 0 rfl) ?_
  refine lv_bipush (v := 48) hx hb d_Mod_hex_1 (by decide) ?_
  refine lv_icmp_lt (tgt := 17) hx hb d_Mod_hex_3 (by decide) (fun c_1 => ?_) (fun c_1 => ?_)
  · rw [if_pos c_1] at hF
    exact c_Mod_hex_17 E hr hlk hz _ _ _ _ hF _ _ S _ (lv_sub hl [0] rfl)
  · rw [if_neg c_1] at hF
    refine lv_iload_n hx hb d_Mod_hex_6 rfl (lv_at hl 0 rfl) ?_
    refine lv_bipush (v := 57) hx hb d_Mod_hex_7 (by decide) ?_
    refine lv_icmp_gt (tgt := 17) hx hb d_Mod_hex_9 (by decide) (fun c_2 => ?_) (fun c_2 => ?_)
    · rw [if_pos c_2] at hF
      exact c_Mod_hex_17 E hr hlk hz _ _ _ _ hF _ _ S _ (lv_sub hl [0] rfl)
    · rw [if_neg c_2] at hF
      refine lv_iload_n hx hb d_Mod_hex_12 rfl (lv_at hl 0 rfl) ?_
      refine lv_bipush (v := 48) hx hb d_Mod_hex_13 (by decide) ?_
      refine lv_isub hx hb d_Mod_hex_15 ?_
      cases hF
      exact m_iret E S hz hr hlk d_Mod_hex_16
section S_Mod_collectCoded
variable {p : Program} {l : Launch} {e : Env} {s : State} {m : MethodId} {args : Array Value} {below : List Frame} {meth : Method} {c : Code} {D : va_G} {B n : Nat} {K : Nat → ClassId}
def f_Mod_collectCoded_60  (k_4 : m_G → Nat → Int32 → Int32 → Int32 → Option (Unit × m_G)) (g : m_G) (a0 : Nat) (x1 : Int32) (x2 : Int32) (x3 : Int32) : Option (Unit × m_G) :=
  k_4 g a0 x1 x2 (x3 + 1)
set_option maxHeartbeats 1000000 in
set_option maxRecDepth 100000 in
theorem c_Mod_collectCoded_60 (E : m_V p m c b_Mod_collectCoded 5 s args R_Mod D K) (hr : meth.sig.returnType = none) (hlk : meth.locks = false) (hz : s.heap.size + 0 = B + n)  (k_4 : m_G → Nat → Int32 → Int32 → Int32 → Option (Unit × m_G)) (hk_4 : ∀ (g : m_G) (a0 : Nat) (x1 : Int32) (x2 : Int32) (x3 : Int32) (r : Unit) (g' : m_G), k_4 g a0 x1 x2 x3 = some (r, g') → ∀ (H : Heap) (locs : List Loc), m_S D B K n g s.heap H locs → ∀ ls : Array Slot, lv_has ls 5 [(0, .ref (B + a0)), (1, .int x1), (2, .int x2), (3, .int x3)] → W p l e ({ frames := 1, cells := 0, slots := 0, locals := 23 } : Room) s m args below meth c H locs 0 0 (MQ below (m_Q D B K none n g') args s 0 0 (fun q => B ≤ q)) (F0 m 4 ls [])) : ∀ (g : m_G) (a0 : Nat) (x1 : Int32) (x2 : Int32) (x3 : Int32) (r : Unit) (g' : m_G), f_Mod_collectCoded_60 k_4 g a0 x1 x2 x3 = some (r, g') → ∀ (H : Heap) (locs : List Loc), m_S D B K n g s.heap H locs → ∀ ls : Array Slot, lv_has ls 5 [(0, .ref (B + a0)), (1, .int x1), (2, .int x2), (3, .int x3)] → W p l e ({ frames := 1, cells := 0, slots := 0, locals := 23 } : Room) s m args below meth c H locs 0 0 (MQ below (m_Q D B K none n g') args s 0 0 (fun q => B ≤ q)) (F0 m 60 ls []) := by
  have hx := E.1.1
  have hb := E.1.2.1
  have hts := E.1.2.2.2.2
  intro g a0 x1 x2 x3 r g' hF H locs S ls hl
  unfold f_Mod_collectCoded_60 at hF
  refine lv_iinc (v := (x3 + 1)) (lv' := [(3, .int (x3 + 1)), (0, .ref (B + a0)), (1, .int x1), (2, .int x2)]) hx hb d_Mod_collectCoded_60 hl (k := 3) rfl rfl (by decide) rfl (fun ls hl => ?_)
  refine lv_goto (tgt := 4) hx hb d_Mod_collectCoded_63 (by decide) ?_
  exact hk_4 _ _ _ _ _ _ _ hF _ _ S _ (lv_sub hl [1, 2, 3, 0] rfl)
def f_Mod_collectCoded_59  (k_4 : m_G → Nat → Int32 → Int32 → Int32 → Option (Unit × m_G)) (g : m_G) (a0 : Nat) (x1 : Int32) (x3 : Int32) (y0 : Int32) : Option (Unit × m_G) :=
  f_Mod_collectCoded_60 k_4 g a0 x1 y0 x3
set_option maxHeartbeats 1000000 in
set_option maxRecDepth 100000 in
theorem c_Mod_collectCoded_59 (E : m_V p m c b_Mod_collectCoded 5 s args R_Mod D K) (hr : meth.sig.returnType = none) (hlk : meth.locks = false) (hz : s.heap.size + 0 = B + n)  (k_4 : m_G → Nat → Int32 → Int32 → Int32 → Option (Unit × m_G)) (hk_4 : ∀ (g : m_G) (a0 : Nat) (x1 : Int32) (x2 : Int32) (x3 : Int32) (r : Unit) (g' : m_G), k_4 g a0 x1 x2 x3 = some (r, g') → ∀ (H : Heap) (locs : List Loc), m_S D B K n g s.heap H locs → ∀ ls : Array Slot, lv_has ls 5 [(0, .ref (B + a0)), (1, .int x1), (2, .int x2), (3, .int x3)] → W p l e ({ frames := 1, cells := 0, slots := 0, locals := 23 } : Room) s m args below meth c H locs 0 0 (MQ below (m_Q D B K none n g') args s 0 0 (fun q => B ≤ q)) (F0 m 4 ls [])) : ∀ (g : m_G) (a0 : Nat) (x1 : Int32) (x3 : Int32) (y0 : Int32) (r : Unit) (g' : m_G), f_Mod_collectCoded_59 k_4 g a0 x1 x3 y0 = some (r, g') → ∀ (H : Heap) (locs : List Loc), m_S D B K n g s.heap H locs → ∀ ls : Array Slot, lv_has ls 5 [(0, .ref (B + a0)), (1, .int x1), (3, .int x3)] → W p l e ({ frames := 1, cells := 0, slots := 0, locals := 23 } : Room) s m args below meth c H locs 0 0 (MQ below (m_Q D B K none n g') args s 0 0 (fun q => B ≤ q)) (F0 m 59 ls [.int y0]) := by
  have hx := E.1.1
  have hb := E.1.2.1
  have hts := E.1.2.2.2.2
  intro g a0 x1 x3 y0 r g' hF H locs S ls hl
  unfold f_Mod_collectCoded_59 at hF
  refine lv_istore_n (lv' := [(2, .int y0), (0, .ref (B + a0)), (1, .int x1), (3, .int x3)]) hx hb d_Mod_collectCoded_59 rfl hl (by decide) rfl (fun ls hl => ?_)
  exact c_Mod_collectCoded_60 E hr hlk hz k_4 hk_4 _ _ _ _ _ _ _ hF _ _ S _ (lv_sub hl [1, 2, 0, 3] rfl)
def f_Mod_collectCoded_49  (k_4 : m_G → Nat → Int32 → Int32 → Int32 → Option (Unit × m_G)) (g : m_G) (a0 : Nat) (x1 : Int32) (x2 : Int32) (x3 : Int32) (x4 : Int32) : Option (Unit × m_G) :=
  if (0 : Int32) ≤ x2 then
    f_Mod_collectCoded_59 k_4 g a0 x1 x3 (-1)
  else
    f_Mod_collectCoded_59 k_4 g a0 x1 x3 x4
set_option maxHeartbeats 1000000 in
set_option maxRecDepth 100000 in
theorem c_Mod_collectCoded_49 (E : m_V p m c b_Mod_collectCoded 5 s args R_Mod D K) (hr : meth.sig.returnType = none) (hlk : meth.locks = false) (hz : s.heap.size + 0 = B + n)  (k_4 : m_G → Nat → Int32 → Int32 → Int32 → Option (Unit × m_G)) (hk_4 : ∀ (g : m_G) (a0 : Nat) (x1 : Int32) (x2 : Int32) (x3 : Int32) (r : Unit) (g' : m_G), k_4 g a0 x1 x2 x3 = some (r, g') → ∀ (H : Heap) (locs : List Loc), m_S D B K n g s.heap H locs → ∀ ls : Array Slot, lv_has ls 5 [(0, .ref (B + a0)), (1, .int x1), (2, .int x2), (3, .int x3)] → W p l e ({ frames := 1, cells := 0, slots := 0, locals := 23 } : Room) s m args below meth c H locs 0 0 (MQ below (m_Q D B K none n g') args s 0 0 (fun q => B ≤ q)) (F0 m 4 ls [])) : ∀ (g : m_G) (a0 : Nat) (x1 : Int32) (x2 : Int32) (x3 : Int32) (x4 : Int32) (r : Unit) (g' : m_G), f_Mod_collectCoded_49 k_4 g a0 x1 x2 x3 x4 = some (r, g') → ∀ (H : Heap) (locs : List Loc), m_S D B K n g s.heap H locs → ∀ ls : Array Slot, lv_has ls 5 [(0, .ref (B + a0)), (1, .int x1), (2, .int x2), (3, .int x3), (4, .int x4)] → W p l e ({ frames := 1, cells := 0, slots := 0, locals := 23 } : Room) s m args below meth c H locs 0 0 (MQ below (m_Q D B K none n g') args s 0 0 (fun q => B ≤ q)) (F0 m 49 ls []) := by
  have hx := E.1.1
  have hb := E.1.2.1
  have hts := E.1.2.2.2.2
  intro g a0 x1 x2 x3 x4 r g' hF H locs S ls hl
  unfold f_Mod_collectCoded_49 at hF
  refine lv_iload_n hx hb d_Mod_collectCoded_49 rfl (lv_at hl 2 rfl) ?_
  refine lv_if_ge (tgt := 58) hx hb d_Mod_collectCoded_50 (by decide) (fun c_1 => ?_) (fun c_1 => ?_)
  · rw [if_pos c_1] at hF
    refine lv_iconst (v := (-1)) hx hb d_Mod_collectCoded_58 (by decide) ?_
    exact c_Mod_collectCoded_59 E hr hlk hz k_4 hk_4 _ _ _ _ _ _ _ hF _ _ S _ (lv_sub hl [0, 1, 3] rfl)
  · rw [if_neg c_1] at hF
    refine lv_iload hx hb d_Mod_collectCoded_53 (lv_at hl 4 rfl) ?_
    refine lv_goto (tgt := 59) hx hb d_Mod_collectCoded_55 (by decide) ?_
    exact c_Mod_collectCoded_59 E hr hlk hz k_4 hk_4 _ _ _ _ _ _ _ hF _ _ S _ (lv_sub hl [0, 1, 3] rfl)
def f_Mod_collectCoded_4   : Nat → m_G → Nat → Int32 → Int32 → Int32 → Option (Unit × m_G)
  | 0, _, _, _, _, _ => none
  | fu + 1, g, a0, x1, x2, x3 =>
    (m_gR g a0 8 1).bind fun v_1 =>
    Option.bind v_1 fun a_2 =>
    (m_ld g a_2 0 x1).bind fun v_3 =>
    if (v_3 : Int32) ≤ x3 then
      m_gd (m_is g a0 8) <|
      m_bd (f_Mod_letter g a0 0 2) fun v_6 g_5 =>
      some ((), g_5)
    else
      m_gd (m_is g a0 8) <|
      m_bd (f_Mod_at g a0 x1 x3) fun v_8 g_7 =>
      m_bd (f_Mod_hex g_7 v_8) fun v_10 g_9 =>
      if (0 : Int32) ≤ v_10 then
        if (x2 : Int32) < 0 then
          f_Mod_collectCoded_49 (f_Mod_collectCoded_4 fu) g_9 a0 x1 x2 x3 v_10
        else
          m_gd (m_is g_9 a0 8) <|
          m_bd (f_Mod_letter g_9 a0 ((16 * x2) + v_10) 2) fun v_14 g_13 =>
          f_Mod_collectCoded_49 (f_Mod_collectCoded_4 fu) g_13 a0 x1 x2 x3 v_10
      else
        f_Mod_collectCoded_60 (f_Mod_collectCoded_4 fu) g_9 a0 x1 x2 x3
set_option maxHeartbeats 1000000 in
set_option maxRecDepth 100000 in
theorem c_Mod_collectCoded_4 (E : m_V p m c b_Mod_collectCoded 5 s args R_Mod D K) (hr : meth.sig.returnType = none) (hlk : meth.locks = false) (hz : s.heap.size + 0 = B + n)   : ∀ fu : Nat, ∀ (g : m_G) (a0 : Nat) (x1 : Int32) (x2 : Int32) (x3 : Int32) (r : Unit) (g' : m_G), f_Mod_collectCoded_4  fu g a0 x1 x2 x3 = some (r, g') → ∀ (H : Heap) (locs : List Loc), m_S D B K n g s.heap H locs → ∀ ls : Array Slot, lv_has ls 5 [(0, .ref (B + a0)), (1, .int x1), (2, .int x2), (3, .int x3)] → W p l e ({ frames := 1, cells := 0, slots := 0, locals := 23 } : Room) s m args below meth c H locs 0 0 (MQ below (m_Q D B K none n g') args s 0 0 (fun q => B ≤ q)) (F0 m 4 ls []) := by
  have hx := E.1.1
  have hb := E.1.2.1
  have hts := E.1.2.2.2.2
  intro fu
  induction fu with
  | zero => intro g a0 x1 x2 x3 r g' hF; cases hF
  | succ fu ih =>
    intro g a0 x1 x2 x3 r g' hF H locs S ls hl
    rw [f_Mod_collectCoded_4] at hF
    refine lv_iload_n hx hb d_Mod_collectCoded_4 rfl (lv_at hl 3 rfl) ?_
    refine lv_aload_n hx hb d_Mod_collectCoded_5 rfl (lv_at hl 0 rfl) ?_
    replace hF := Option.bind_eq_some_iff.mp hF
    obtain ⟨v_1, ev_1, hF⟩ := hF
    refine m_getR (B := B) (a := a0) E S fd_Mod_lengths (Or.inl qw_285) ev_1 d_Mod_collectCoded_6 ?_
    refine lv_iload_n hx hb d_Mod_collectCoded_9 rfl (lv_at hl 1 rfl) ?_
    replace hF := Option.bind_eq_some_iff.mp hF
    obtain ⟨a_2, ea_2, hF⟩ := hF
    subst ea_2
    replace hF := Option.bind_eq_some_iff.mp hF
    obtain ⟨v_3, ev_3, hF⟩ := hF
    refine m_iald (B := B) (a := a_2) (t := 0) E S rfl ev_3 d_Mod_collectCoded_10 ?_
    refine lv_icmp_ge (tgt := 66) hx hb d_Mod_collectCoded_11 (by decide) (fun c_4 => ?_) (fun c_4 => ?_)
    · rw [if_pos c_4] at hF
      refine lv_aload_n hx hb d_Mod_collectCoded_66 rfl (lv_at hl 0 rfl) ?_
      refine lv_iconst (v := 0) hx hb d_Mod_collectCoded_67 (by decide) ?_
      refine lv_iconst (v := 2) hx hb d_Mod_collectCoded_68 (by decide) ?_
      replace hF := m_gd_inv hF
      obtain ⟨eog_5, hF⟩ := hF
      replace hF := m_bd_inv hF
      obtain ⟨v_6, g_5, eg_5, hF⟩ := hF
      refine m_callV (B := B) (nn := 2) (b := a0) (As := [.int 0, .int 2]) (rest := []) (v := none) E S hz (c_Mod_letter l D B K n g a0 0 2 v_6 g_5 eg_5) qc_Mod_letter ⟨rfl, rfl⟩ (Or.inl qw_314) qw_315 qw_316 qw_304 (by decide +kernel) ⟨Nat.le_of_ble_eq_true rfl, Nat.le_of_ble_eq_true rfl⟩ eog_5 rfl rfl hl.1 (Nat.le_of_ble_eq_true rfl) d_Mod_collectCoded_69 ⟨Nat.le_of_ble_eq_true rfl, Nat.le_of_ble_eq_true rfl⟩ (fun H locs S => ?_)
      refine W.eq (g2 := F0 m 72 ls []) rfl ?_
      cases hF
      skip
      exact m_vret E S hz hr hlk d_Mod_collectCoded_72
    · rw [if_neg c_4] at hF
      refine lv_aload_n hx hb d_Mod_collectCoded_14 rfl (lv_at hl 0 rfl) ?_
      refine lv_iload_n hx hb d_Mod_collectCoded_15 rfl (lv_at hl 1 rfl) ?_
      refine lv_iload_n hx hb d_Mod_collectCoded_16 rfl (lv_at hl 3 rfl) ?_
      replace hF := m_gd_inv hF
      obtain ⟨eog_7, hF⟩ := hF
      replace hF := m_bd_inv hF
      obtain ⟨v_8, g_7, eg_7, hF⟩ := hF
      refine m_callV (B := B) (nn := 2) (b := a0) (As := [.int x1, .int x3]) (rest := []) (v := (some (.int v_8))) E S hz (c_Mod_at l D B K n g a0 x1 x3 v_8 g_7 eg_7) qc_Mod_at ⟨rfl, rfl⟩ (Or.inl qw_307) qw_308 qw_309 qw_304 (by decide +kernel) ⟨Nat.le_of_ble_eq_true rfl, Nat.le_of_ble_eq_true rfl⟩ eog_7 rfl rfl hl.1 (Nat.le_of_ble_eq_true rfl) d_Mod_collectCoded_17 ⟨Nat.le_of_ble_eq_true rfl, Nat.le_of_ble_eq_true rfl⟩ (fun H locs S => ?_)
      refine W.eq (g2 := F0 m 20 ls [.int v_8]) rfl ?_
      replace hF := m_bd_inv hF
      obtain ⟨v_10, g_9, eg_9, hF⟩ := hF
      refine m_callS (B := B) (nn := 1) (As := [.int v_8]) (rest := []) (v := (some (.int v_10))) E S hz (c_Mod_hex l D B K n g_7 v_8 v_10 g_9 eg_9) qc_Mod_hex ⟨rfl, rfl⟩ (Or.inl qw_324) qw_325 qw_304 (by decide +kernel) ⟨Nat.le_of_ble_eq_true rfl, Nat.le_of_ble_eq_true rfl⟩ rfl hl.1 (Nat.le_of_ble_eq_true rfl) d_Mod_collectCoded_20 ⟨Nat.le_of_ble_eq_true rfl, Nat.le_of_ble_eq_true rfl⟩ (fun H locs S => ?_)
      refine W.eq (g2 := F0 m 23 ls [.int v_10]) rfl ?_
      refine lv_istore (lv' := [(4, .int v_10), (0, .ref (B + a0)), (1, .int x1), (2, .int x2), (3, .int x3)]) hx hb d_Mod_collectCoded_23 hl (by decide) rfl (fun ls hl => ?_)
      refine lv_iload hx hb d_Mod_collectCoded_25 (lv_at hl 0 rfl) ?_
      refine lv_if_ge (tgt := 33) hx hb d_Mod_collectCoded_27 (by decide) (fun c_11 => ?_) (fun c_11 => ?_)
      · rw [if_pos c_11] at hF
        refine lv_iload_n hx hb d_Mod_collectCoded_33 rfl (lv_at hl 3 rfl) ?_
        refine lv_if_lt (tgt := 49) hx hb d_Mod_collectCoded_34 (by decide) (fun c_12 => ?_) (fun c_12 => ?_)
        · rw [if_pos c_12] at hF
          exact c_Mod_collectCoded_49 E hr hlk hz (f_Mod_collectCoded_4 fu) ih _ _ _ _ _ _ _ _ hF _ _ S _ (lv_sub hl [1, 2, 3, 4, 0] rfl)
        · rw [if_neg c_12] at hF
          refine lv_aload_n hx hb d_Mod_collectCoded_37 rfl (lv_at hl 1 rfl) ?_
          refine lv_bipush (v := 16) hx hb d_Mod_collectCoded_38 (by decide) ?_
          refine lv_iload_n hx hb d_Mod_collectCoded_40 rfl (lv_at hl 3 rfl) ?_
          refine lv_imul hx hb d_Mod_collectCoded_41 ?_
          refine lv_iload hx hb d_Mod_collectCoded_42 (lv_at hl 0 rfl) ?_
          refine lv_iadd hx hb d_Mod_collectCoded_44 ?_
          refine lv_iconst (v := 2) hx hb d_Mod_collectCoded_45 (by decide) ?_
          replace hF := m_gd_inv hF
          obtain ⟨eog_13, hF⟩ := hF
          replace hF := m_bd_inv hF
          obtain ⟨v_14, g_13, eg_13, hF⟩ := hF
          refine m_callV (B := B) (nn := 2) (b := a0) (As := [.int ((16 * x2) + v_10), .int 2]) (rest := []) (v := none) E S hz (c_Mod_letter l D B K n g_9 a0 ((16 * x2) + v_10) 2 v_14 g_13 eg_13) qc_Mod_letter ⟨rfl, rfl⟩ (Or.inl qw_314) qw_315 qw_316 qw_304 (by decide +kernel) ⟨Nat.le_of_ble_eq_true rfl, Nat.le_of_ble_eq_true rfl⟩ eog_13 rfl rfl hl.1 (Nat.le_of_ble_eq_true rfl) d_Mod_collectCoded_46 ⟨Nat.le_of_ble_eq_true rfl, Nat.le_of_ble_eq_true rfl⟩ (fun H locs S => ?_)
          refine W.eq (g2 := F0 m 49 ls []) rfl ?_
          exact c_Mod_collectCoded_49 E hr hlk hz (f_Mod_collectCoded_4 fu) ih _ _ _ _ _ _ _ _ hF _ _ S _ (lv_sub hl [1, 2, 3, 4, 0] rfl)
      · rw [if_neg c_11] at hF
        refine lv_goto (tgt := 60) hx hb d_Mod_collectCoded_30 (by decide) ?_
        exact c_Mod_collectCoded_60 E hr hlk hz (f_Mod_collectCoded_4 fu) ih _ _ _ _ _ _ _ hF _ _ S _ (lv_sub hl [1, 2, 3, 4] rfl)
end S_Mod_collectCoded
def f_Mod_collectCoded  (g : m_G) (a0 : Nat) (x1 : Int32) : Option (Unit × m_G) :=
  f_Mod_collectCoded_4 m_fu g a0 x1 (-1) 0
set_option maxHeartbeats 1000000 in
set_option maxRecDepth 100000 in
theorem c_Mod_collectCoded (l : Launch) (D : va_G) (B : Nat) (K : Nat → ClassId)  (n : Nat) (g : m_G) (a0 : Nat) (x1 : Int32) (r : Unit) (g' : m_G) (hF : f_Mod_collectCoded g a0 x1 = some (r, g')) : Met l y_Mod_collectCoded (Cond.code y_Mod_collectCoded b_Mod_collectCoded 5 none :: m_TB) ({ frames := 1, cells := 0, slots := 0, locals := 23 } : Room) (m_Pc D B K n g [.ref (B + a0), .int x1]) (m_Q D B K none n g') 0 0 (fun q => B ≤ q) := by
  refine m_met (by decide) (Nat.le_of_ble_eq_true rfl) ?_
  intro p e s m args below meth c ls E hr hlk hin hsz S hl
  have E : m_V p m c b_Mod_collectCoded 5 s args R_Mod D K := E
  have hz : s.heap.size + 0 = B + n := hsz
  have hl : lv_has ls 5 [(0, .ref (B + a0)), (1, .int x1)] := hl
  have hx := E.1.1
  have hb := E.1.2.1
  have hts := E.1.2.2.2.2
  unfold f_Mod_collectCoded at hF
  refine lv_iconst (v := (-1)) hx hb d_Mod_collectCoded_0 (by decide) ?_
  refine lv_istore_n (lv' := [(2, .int (-1)), (0, .ref (B + a0)), (1, .int x1)]) hx hb d_Mod_collectCoded_1 rfl hl (by decide) rfl (fun ls hl => ?_)
  refine lv_iconst (v := 0) hx hb d_Mod_collectCoded_2 (by decide) ?_
  refine lv_istore_n (lv' := [(3, .int 0), (2, .int (-1)), (0, .ref (B + a0)), (1, .int x1)]) hx hb d_Mod_collectCoded_3 rfl hl (by decide) rfl (fun ls hl => ?_)
  exact c_Mod_collectCoded_4 E hr hlk hz m_fu _ _ _ _ _ _ _ hF _ _ S _ (lv_sub hl [2, 3, 1, 0] rfl)
section S_Mod_leaf
variable {p : Program} {l : Launch} {e : Env} {s : State} {m : MethodId} {args : Array Value} {below : List Frame} {meth : Method} {c : Code} {D : va_G} {B n : Nat} {K : Nat → ClassId}
def f_Mod_leaf_89  (k_61 : m_G → Nat → Int32 → Int32 → Int32 → Option (Unit × m_G)) (g : m_G) (a0 : Nat) (x3 : Int32) (x5 : Int32) (x6 : Int32) : Option (Unit × m_G) :=
  k_61 g a0 x3 x5 (x6 + 1)
set_option maxHeartbeats 1000000 in
set_option maxRecDepth 100000 in
theorem c_Mod_leaf_89 (E : m_V p m c b_Mod_leaf 7 s args R_Mod D K) (hr : meth.sig.returnType = none) (hlk : meth.locks = false) (hz : s.heap.size + 0 = B + n)  (k_61 : m_G → Nat → Int32 → Int32 → Int32 → Option (Unit × m_G)) (hk_61 : ∀ (g : m_G) (a0 : Nat) (x3 : Int32) (x5 : Int32) (x6 : Int32) (r : Unit) (g' : m_G), k_61 g a0 x3 x5 x6 = some (r, g') → ∀ (H : Heap) (locs : List Loc), m_S D B K n g s.heap H locs → ∀ ls : Array Slot, lv_has ls 7 [(0, .ref (B + a0)), (3, .int x3), (5, .int x5), (6, .int x6)] → W p l e ({ frames := 2, cells := 0, slots := 0, locals := 49 } : Room) s m args below meth c H locs 0 0 (MQ below (m_Q D B K none n g') args s 0 0 (fun q => B ≤ q)) (F0 m 61 ls [])) : ∀ (g : m_G) (a0 : Nat) (x3 : Int32) (x5 : Int32) (x6 : Int32) (r : Unit) (g' : m_G), f_Mod_leaf_89 k_61 g a0 x3 x5 x6 = some (r, g') → ∀ (H : Heap) (locs : List Loc), m_S D B K n g s.heap H locs → ∀ ls : Array Slot, lv_has ls 7 [(0, .ref (B + a0)), (3, .int x3), (5, .int x5), (6, .int x6)] → W p l e ({ frames := 2, cells := 0, slots := 0, locals := 49 } : Room) s m args below meth c H locs 0 0 (MQ below (m_Q D B K none n g') args s 0 0 (fun q => B ≤ q)) (F0 m 89 ls []) := by
  have hx := E.1.1
  have hb := E.1.2.1
  have hts := E.1.2.2.2.2
  intro g a0 x3 x5 x6 r g' hF H locs S ls hl
  unfold f_Mod_leaf_89 at hF
  refine lv_iinc (v := (x6 + 1)) (lv' := [(6, .int (x6 + 1)), (0, .ref (B + a0)), (3, .int x3), (5, .int x5)]) hx hb d_Mod_leaf_89 hl (k := 3) rfl rfl (by decide) rfl (fun ls hl => ?_)
  refine lv_goto (tgt := 61) hx hb d_Mod_leaf_92 (by decide) ?_
  exact hk_61 _ _ _ _ _ _ _ hF _ _ S _ (lv_sub hl [1, 2, 3, 0] rfl)
def f_Mod_leaf_61   : Nat → m_G → Nat → Int32 → Int32 → Int32 → Option (Unit × m_G)
  | 0, _, _, _, _, _ => none
  | fu + 1, g, a0, x3, x5, x6 =>
    if (x3 : Int32) ≤ x6 then
      some ((), g)
    else
      if (x5 : Int32) = 0 then
        m_gd (m_is g a0 8) <|
        m_bd (f_Mod_collect g a0 x6 0 2) fun v_4 g_3 =>
        f_Mod_leaf_89 (f_Mod_leaf_61 fu) g_3 a0 x3 x5 x6
      else
        m_gd (m_is g a0 8) <|
        m_bd (f_Mod_collectCoded g a0 x6) fun v_6 g_5 =>
        f_Mod_leaf_89 (f_Mod_leaf_61 fu) g_5 a0 x3 x5 x6
set_option maxHeartbeats 1000000 in
set_option maxRecDepth 100000 in
theorem c_Mod_leaf_61 (E : m_V p m c b_Mod_leaf 7 s args R_Mod D K) (hr : meth.sig.returnType = none) (hlk : meth.locks = false) (hz : s.heap.size + 0 = B + n)   : ∀ fu : Nat, ∀ (g : m_G) (a0 : Nat) (x3 : Int32) (x5 : Int32) (x6 : Int32) (r : Unit) (g' : m_G), f_Mod_leaf_61  fu g a0 x3 x5 x6 = some (r, g') → ∀ (H : Heap) (locs : List Loc), m_S D B K n g s.heap H locs → ∀ ls : Array Slot, lv_has ls 7 [(0, .ref (B + a0)), (3, .int x3), (5, .int x5), (6, .int x6)] → W p l e ({ frames := 2, cells := 0, slots := 0, locals := 49 } : Room) s m args below meth c H locs 0 0 (MQ below (m_Q D B K none n g') args s 0 0 (fun q => B ≤ q)) (F0 m 61 ls []) := by
  have hx := E.1.1
  have hb := E.1.2.1
  have hts := E.1.2.2.2.2
  intro fu
  induction fu with
  | zero => intro g a0 x3 x5 x6 r g' hF; cases hF
  | succ fu ih =>
    intro g a0 x3 x5 x6 r g' hF H locs S ls hl
    rw [f_Mod_leaf_61] at hF
    refine lv_iload hx hb d_Mod_leaf_61 (lv_at hl 3 rfl) ?_
    refine lv_iload_n hx hb d_Mod_leaf_63 rfl (lv_at hl 1 rfl) ?_
    refine lv_icmp_ge (tgt := 95) hx hb d_Mod_leaf_64 (by decide) (fun c_1 => ?_) (fun c_1 => ?_)
    · rw [if_pos c_1] at hF
      cases hF
      skip
      exact m_vret E S hz hr hlk d_Mod_leaf_95
    · rw [if_neg c_1] at hF
      refine lv_iload hx hb d_Mod_leaf_67 (lv_at hl 2 rfl) ?_
      refine lv_if_eq (tgt := 81) hx hb d_Mod_leaf_69 (by decide) (fun c_2 => ?_) (fun c_2 => ?_)
      · rw [if_pos c_2] at hF
        refine lv_aload_n hx hb d_Mod_leaf_81 rfl (lv_at hl 0 rfl) ?_
        refine lv_iload hx hb d_Mod_leaf_82 (lv_at hl 3 rfl) ?_
        refine lv_iconst (v := 0) hx hb d_Mod_leaf_84 (by decide) ?_
        refine lv_iconst (v := 2) hx hb d_Mod_leaf_85 (by decide) ?_
        replace hF := m_gd_inv hF
        obtain ⟨eog_3, hF⟩ := hF
        replace hF := m_bd_inv hF
        obtain ⟨v_4, g_3, eg_3, hF⟩ := hF
        refine m_callV (B := B) (nn := 3) (b := a0) (As := [.int x6, .int 0, .int 2]) (rest := []) (v := none) E S hz (c_Mod_collect l D B K n g a0 x6 0 2 v_4 g_3 eg_3) qc_Mod_collect ⟨rfl, rfl⟩ (Or.inl qw_329) qw_330 qw_331 qw_304 (by decide +kernel) ⟨Nat.le_of_ble_eq_true rfl, Nat.le_of_ble_eq_true rfl⟩ eog_3 rfl rfl hl.1 (Nat.le_of_ble_eq_true rfl) d_Mod_leaf_86 ⟨Nat.le_of_ble_eq_true rfl, Nat.le_of_ble_eq_true rfl⟩ (fun H locs S => ?_)
        refine W.eq (g2 := F0 m 89 ls []) rfl ?_
        exact c_Mod_leaf_89 E hr hlk hz (f_Mod_leaf_61 fu) ih _ _ _ _ _ _ _ hF _ _ S _ (lv_sub hl [0, 1, 2, 3] rfl)
      · rw [if_neg c_2] at hF
        refine lv_aload_n hx hb d_Mod_leaf_72 rfl (lv_at hl 0 rfl) ?_
        refine lv_iload hx hb d_Mod_leaf_73 (lv_at hl 3 rfl) ?_
        replace hF := m_gd_inv hF
        obtain ⟨eog_5, hF⟩ := hF
        replace hF := m_bd_inv hF
        obtain ⟨v_6, g_5, eg_5, hF⟩ := hF
        refine m_callV (B := B) (nn := 1) (b := a0) (As := [.int x6]) (rest := []) (v := none) E S hz (c_Mod_collectCoded l D B K n g a0 x6 v_6 g_5 eg_5) qc_Mod_collectCoded ⟨rfl, rfl⟩ (Or.inl qw_332) qw_333 qw_334 qw_304 (by decide +kernel) ⟨Nat.le_of_ble_eq_true rfl, Nat.le_of_ble_eq_true rfl⟩ eog_5 rfl rfl hl.1 (Nat.le_of_ble_eq_true rfl) d_Mod_leaf_75 ⟨Nat.le_of_ble_eq_true rfl, Nat.le_of_ble_eq_true rfl⟩ (fun H locs S => ?_)
        refine W.eq (g2 := F0 m 78 ls []) rfl ?_
        refine lv_goto (tgt := 89) hx hb d_Mod_leaf_78 (by decide) ?_
        exact c_Mod_leaf_89 E hr hlk hz (f_Mod_leaf_61 fu) ih _ _ _ _ _ _ _ hF _ _ S _ (lv_sub hl [0, 1, 2, 3] rfl)
def f_Mod_leaf_56   (g : m_G) (a0 : Nat) (x2 : Int32) (x3 : Int32) (y0 : Int32) : Option (Unit × m_G) :=
  f_Mod_leaf_61 m_fu g a0 x3 y0 x2
set_option maxHeartbeats 1000000 in
set_option maxRecDepth 100000 in
theorem c_Mod_leaf_56 (E : m_V p m c b_Mod_leaf 7 s args R_Mod D K) (hr : meth.sig.returnType = none) (hlk : meth.locks = false) (hz : s.heap.size + 0 = B + n)   : ∀ (g : m_G) (a0 : Nat) (x2 : Int32) (x3 : Int32) (y0 : Int32) (r : Unit) (g' : m_G), f_Mod_leaf_56 g a0 x2 x3 y0 = some (r, g') → ∀ (H : Heap) (locs : List Loc), m_S D B K n g s.heap H locs → ∀ ls : Array Slot, lv_has ls 7 [(0, .ref (B + a0)), (2, .int x2), (3, .int x3)] → W p l e ({ frames := 2, cells := 0, slots := 0, locals := 49 } : Room) s m args below meth c H locs 0 0 (MQ below (m_Q D B K none n g') args s 0 0 (fun q => B ≤ q)) (F0 m 56 ls [.int y0]) := by
  have hx := E.1.1
  have hb := E.1.2.1
  have hts := E.1.2.2.2.2
  intro g a0 x2 x3 y0 r g' hF H locs S ls hl
  unfold f_Mod_leaf_56 at hF
  refine lv_istore (lv' := [(5, .int y0), (0, .ref (B + a0)), (2, .int x2), (3, .int x3)]) hx hb d_Mod_leaf_56 hl (by decide) rfl (fun ls hl => ?_)
  refine lv_iload_n hx hb d_Mod_leaf_58 rfl (lv_at hl 2 rfl) ?_
  refine lv_istore (lv' := [(6, .int x2), (5, .int y0), (0, .ref (B + a0)), (2, .int x2), (3, .int x3)]) hx hb d_Mod_leaf_59 hl (by decide) rfl (fun ls hl => ?_)
  exact c_Mod_leaf_61 E hr hlk hz m_fu _ _ _ _ _ _ _ hF _ _ S _ (lv_sub hl [2, 4, 1, 0] rfl)
def f_Mod_leaf_55   (g : m_G) (a0 : Nat) (x2 : Int32) (x3 : Int32) : Option (Unit × m_G) :=
  f_Mod_leaf_56 g a0 x2 x3 0
set_option maxHeartbeats 1000000 in
set_option maxRecDepth 100000 in
theorem c_Mod_leaf_55 (E : m_V p m c b_Mod_leaf 7 s args R_Mod D K) (hr : meth.sig.returnType = none) (hlk : meth.locks = false) (hz : s.heap.size + 0 = B + n)   : ∀ (g : m_G) (a0 : Nat) (x2 : Int32) (x3 : Int32) (r : Unit) (g' : m_G), f_Mod_leaf_55 g a0 x2 x3 = some (r, g') → ∀ (H : Heap) (locs : List Loc), m_S D B K n g s.heap H locs → ∀ ls : Array Slot, lv_has ls 7 [(0, .ref (B + a0)), (2, .int x2), (3, .int x3)] → W p l e ({ frames := 2, cells := 0, slots := 0, locals := 49 } : Room) s m args below meth c H locs 0 0 (MQ below (m_Q D B K none n g') args s 0 0 (fun q => B ≤ q)) (F0 m 55 ls []) := by
  have hx := E.1.1
  have hb := E.1.2.1
  have hts := E.1.2.2.2.2
  intro g a0 x2 x3 r g' hF H locs S ls hl
  unfold f_Mod_leaf_55 at hF
  refine lv_iconst (v := 0) hx hb d_Mod_leaf_55 (by decide) ?_
  exact c_Mod_leaf_56 E hr hlk hz _ _ _ _ _ _ _ hF _ _ S _ (lv_sub hl [0, 1, 2] rfl)
end S_Mod_leaf
def f_Mod_leaf  (g : m_G) (a0 : Nat) (x1 : Int32) (x2 : Int32) (x3 : Int32) : Option (Unit × m_G) :=
  (m_gR g a0 8 14).bind fun v_1 =>
  (m_gI g a0 8 18).bind fun v_2 =>
  Option.bind v_1 fun a_3 =>
  (m_ld g a_3 0 v_2).bind fun v_4 =>
  (m_st g a_3 0 v_2 (v_4 + 1)).bind fun g_5 =>
  m_gd (m_is g_5 a0 8) <|
  m_bd (f_Mod_header g_5 a0 x1 x3 101) fun v_7 g_6 =>
  if (v_7 : Int32) < 0 then
    f_Mod_leaf_55 g_6 a0 x2 x3
  else
    (m_gR g_6 a0 8 1).bind fun v_9 =>
    Option.bind v_9 fun a_10 =>
    (m_ld g_6 a_10 0 v_7).bind fun v_11 =>
    if (v_11 : Int32) = 3 then
      m_gd (m_is g_6 a0 8) <|
      m_bd (f_Mod_at g_6 a0 v_7 2) fun v_14 g_13 =>
      if (v_14 : Int32) = 104 then
        f_Mod_leaf_56 g_13 a0 x2 x3 1
      else
        f_Mod_leaf_55 g_13 a0 x2 x3
    else
      f_Mod_leaf_55 g_6 a0 x2 x3
set_option maxHeartbeats 1000000 in
set_option maxRecDepth 100000 in
theorem c_Mod_leaf (l : Launch) (D : va_G) (B : Nat) (K : Nat → ClassId)  (n : Nat) (g : m_G) (a0 : Nat) (x1 : Int32) (x2 : Int32) (x3 : Int32) (r : Unit) (g' : m_G) (hF : f_Mod_leaf g a0 x1 x2 x3 = some (r, g')) : Met l y_Mod_leaf (Cond.code y_Mod_leaf b_Mod_leaf 7 none :: m_TB) ({ frames := 2, cells := 0, slots := 0, locals := 49 } : Room) (m_Pc D B K n g [.ref (B + a0), .int x1, .int x2, .int x3]) (m_Q D B K none n g') 0 0 (fun q => B ≤ q) := by
  refine m_met (by decide) (Nat.le_of_ble_eq_true rfl) ?_
  intro p e s m args below meth c ls E hr hlk hin hsz S hl
  have E : m_V p m c b_Mod_leaf 7 s args R_Mod D K := E
  have hz : s.heap.size + 0 = B + n := hsz
  have hl : lv_has ls 7 [(0, .ref (B + a0)), (1, .int x1), (2, .int x2), (3, .int x3)] := hl
  have hx := E.1.1
  have hb := E.1.2.1
  have hts := E.1.2.2.2.2
  unfold f_Mod_leaf at hF
  refine lv_aload_n hx hb d_Mod_leaf_0 rfl (lv_at hl 0 rfl) ?_
  replace hF := Option.bind_eq_some_iff.mp hF
  obtain ⟨v_1, ev_1, hF⟩ := hF
  refine m_getR (B := B) (a := a0) E S fd_Mod_leaves (Or.inl qw_295) ev_1 d_Mod_leaf_1 ?_
  refine lv_aload_n hx hb d_Mod_leaf_4 rfl (lv_at hl 0 rfl) ?_
  replace hF := Option.bind_eq_some_iff.mp hF
  obtain ⟨v_2, ev_2, hF⟩ := hF
  refine m_getI (B := B) (a := a0) E S fd_Mod_target (Or.inl qw_311) ev_2 d_Mod_leaf_5 ?_
  refine lv_dup2_11 hx hb d_Mod_leaf_8 rfl (m_r_cat B v_1) ?_
  replace hF := Option.bind_eq_some_iff.mp hF
  obtain ⟨a_3, ea_3, hF⟩ := hF
  subst ea_3
  replace hF := Option.bind_eq_some_iff.mp hF
  obtain ⟨v_4, ev_4, hF⟩ := hF
  refine m_iald (B := B) (a := a_3) (t := 0) E S rfl ev_4 d_Mod_leaf_9 ?_
  refine lv_iconst (v := 1) hx hb d_Mod_leaf_10 (by decide) ?_
  refine lv_iadd hx hb d_Mod_leaf_11 ?_
  replace hF := Option.bind_eq_some_iff.mp hF
  obtain ⟨g_5, eg_5, hF⟩ := hF
  refine m_iast (B := B) (a := a_3) (t := 0) E S rfl eg_5 d_Mod_leaf_12 (fun H locs S => ?_)
  refine lv_aload_n hx hb d_Mod_leaf_13 rfl (lv_at hl 0 rfl) ?_
  refine lv_iload_n hx hb d_Mod_leaf_14 rfl (lv_at hl 1 rfl) ?_
  refine lv_iload_n hx hb d_Mod_leaf_15 rfl (lv_at hl 3 rfl) ?_
  refine lv_bipush (v := 101) hx hb d_Mod_leaf_16 (by decide) ?_
  replace hF := m_gd_inv hF
  obtain ⟨eog_6, hF⟩ := hF
  replace hF := m_bd_inv hF
  obtain ⟨v_7, g_6, eg_6, hF⟩ := hF
  refine m_callV (B := B) (nn := 3) (b := a0) (As := [.int x1, .int x3, .int 101]) (rest := []) (v := (some (.int v_7))) E S hz (c_Mod_header l D B K n g_5 a0 x1 x3 101 v_7 g_6 eg_6) qc_Mod_header ⟨rfl, rfl⟩ (Or.inl qw_326) qw_327 qw_328 qw_304 (by decide +kernel) ⟨Nat.le_of_ble_eq_true rfl, Nat.le_of_ble_eq_true rfl⟩ eog_6 rfl rfl hl.1 (Nat.le_of_ble_eq_true rfl) d_Mod_leaf_18 ⟨Nat.le_of_ble_eq_true rfl, Nat.le_of_ble_eq_true rfl⟩ (fun H locs S => ?_)
  refine W.eq (g2 := F0 m 21 ls [.int v_7]) rfl ?_
  refine lv_istore (lv' := [(4, .int v_7), (0, .ref (B + a0)), (1, .int x1), (2, .int x2), (3, .int x3)]) hx hb d_Mod_leaf_21 hl (by decide) rfl (fun ls hl => ?_)
  refine lv_iload hx hb d_Mod_leaf_23 (lv_at hl 0 rfl) ?_
  refine lv_if_lt (tgt := 55) hx hb d_Mod_leaf_25 (by decide) (fun c_8 => ?_) (fun c_8 => ?_)
  · rw [if_pos c_8] at hF
    exact c_Mod_leaf_55 E hr hlk hz _ _ _ _ _ _ hF _ _ S _ (lv_sub hl [1, 3, 4] rfl)
  · rw [if_neg c_8] at hF
    refine lv_aload_n hx hb d_Mod_leaf_28 rfl (lv_at hl 1 rfl) ?_
    replace hF := Option.bind_eq_some_iff.mp hF
    obtain ⟨v_9, ev_9, hF⟩ := hF
    refine m_getR (B := B) (a := a0) E S fd_Mod_lengths (Or.inl qw_285) ev_9 d_Mod_leaf_29 ?_
    refine lv_iload hx hb d_Mod_leaf_32 (lv_at hl 0 rfl) ?_
    replace hF := Option.bind_eq_some_iff.mp hF
    obtain ⟨a_10, ea_10, hF⟩ := hF
    subst ea_10
    replace hF := Option.bind_eq_some_iff.mp hF
    obtain ⟨v_11, ev_11, hF⟩ := hF
    refine m_iald (B := B) (a := a_10) (t := 0) E S rfl ev_11 d_Mod_leaf_34 ?_
    refine lv_iconst (v := 3) hx hb d_Mod_leaf_35 (by decide) ?_
    refine lv_icmp_ne (tgt := 55) hx hb d_Mod_leaf_36 (by decide) (fun c_12 => ?_) (fun c_12 => ?_)
    · rw [if_neg c_12] at hF
      exact c_Mod_leaf_55 E hr hlk hz _ _ _ _ _ _ hF _ _ S _ (lv_sub hl [1, 3, 4] rfl)
    · rw [if_pos c_12] at hF
      refine lv_aload_n hx hb d_Mod_leaf_39 rfl (lv_at hl 1 rfl) ?_
      refine lv_iload hx hb d_Mod_leaf_40 (lv_at hl 0 rfl) ?_
      refine lv_iconst (v := 2) hx hb d_Mod_leaf_42 (by decide) ?_
      replace hF := m_gd_inv hF
      obtain ⟨eog_13, hF⟩ := hF
      replace hF := m_bd_inv hF
      obtain ⟨v_14, g_13, eg_13, hF⟩ := hF
      refine m_callV (B := B) (nn := 2) (b := a0) (As := [.int v_7, .int 2]) (rest := []) (v := (some (.int v_14))) E S hz (c_Mod_at l D B K n g_6 a0 v_7 2 v_14 g_13 eg_13) qc_Mod_at ⟨rfl, rfl⟩ (Or.inl qw_307) qw_308 qw_309 qw_304 (by decide +kernel) ⟨Nat.le_of_ble_eq_true rfl, Nat.le_of_ble_eq_true rfl⟩ eog_13 rfl rfl hl.1 (Nat.le_of_ble_eq_true rfl) d_Mod_leaf_43 ⟨Nat.le_of_ble_eq_true rfl, Nat.le_of_ble_eq_true rfl⟩ (fun H locs S => ?_)
      refine W.eq (g2 := F0 m 46 ls [.int v_14]) rfl ?_
      refine lv_bipush (v := 104) hx hb d_Mod_leaf_46 (by decide) ?_
      refine lv_icmp_ne (tgt := 55) hx hb d_Mod_leaf_48 (by decide) (fun c_15 => ?_) (fun c_15 => ?_)
      · rw [if_neg c_15] at hF
        exact c_Mod_leaf_55 E hr hlk hz _ _ _ _ _ _ hF _ _ S _ (lv_sub hl [1, 3, 4] rfl)
      · rw [if_pos c_15] at hF
        refine lv_iconst (v := 1) hx hb d_Mod_leaf_51 (by decide) ?_
        refine lv_goto (tgt := 56) hx hb d_Mod_leaf_52 (by decide) ?_
        exact c_Mod_leaf_56 E hr hlk hz _ _ _ _ _ _ _ hF _ _ S _ (lv_sub hl [1, 3, 4] rfl)
