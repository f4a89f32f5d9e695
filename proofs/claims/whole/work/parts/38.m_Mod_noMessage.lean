section S_Mod_noMessage
variable {p : Program} {l : Launch} {e : Env} {s : State} {m : MethodId} {args : Array Value} {below : List Frame} {meth : Method} {c : Code} {D : va_G} {B n : Nat} {K : Nat → ClassId}
def f_Mod_noMessage_23   (g : m_G) (y0 : Int32) : Option (Int32 × m_G) :=
  if (y0 : Int32) = 0 ∨ y0 = 1 then some (y0, g) else none
set_option maxHeartbeats 1000000 in
set_option maxRecDepth 100000 in
theorem c_Mod_noMessage_23 (E : m_V p m c b_Mod_noMessage 2 s args R_Mod D K) (hr : meth.sig.returnType = (some .boolean)) (hlk : meth.locks = false) (hz : s.heap.size + 0 = B + n)   : ∀ (g : m_G) (y0 : Int32) (r : Int32) (g' : m_G), f_Mod_noMessage_23 g y0 = some (r, g') → ∀ (H : Heap) (locs : List Loc), m_S D B K n g s.heap H locs → ∀ ls : Array Slot, lv_has ls 2 [] → W p l e ({ frames := 1, cells := 0, slots := 0, locals := 21 } : Room) s m args below meth c H locs 0 0 (MQ below (m_Q D B K (some (.int r)) n g') args s 0 0 (fun q => B ≤ q)) (F0 m 23 ls [.int y0]) := by
  have hx := E.1.1
  have hb := E.1.2.1
  have hts := E.1.2.2.2.2
  intro g y0 r g' hF H locs S ls hl
  unfold f_Mod_noMessage_23 at hF
  by_cases c_1 : (y0 : Int32) = 0 ∨ y0 = 1
  · rw [if_pos c_1] at hF
    cases hF
    exact m_zret E S hz hr hlk c_1 d_Mod_noMessage_23
  · rw [if_neg c_1] at hF
    cases hF
def f_Mod_noMessage_18   (g : m_G)  : Option (Int32 × m_G) :=
  f_Mod_noMessage_23 g 1
set_option maxHeartbeats 1000000 in
set_option maxRecDepth 100000 in
theorem c_Mod_noMessage_18 (E : m_V p m c b_Mod_noMessage 2 s args R_Mod D K) (hr : meth.sig.returnType = (some .boolean)) (hlk : meth.locks = false) (hz : s.heap.size + 0 = B + n)   : ∀ (g : m_G)  (r : Int32) (g' : m_G), f_Mod_noMessage_18 g  = some (r, g') → ∀ (H : Heap) (locs : List Loc), m_S D B K n g s.heap H locs → ∀ ls : Array Slot, lv_has ls 2 [] → W p l e ({ frames := 1, cells := 0, slots := 0, locals := 21 } : Room) s m args below meth c H locs 0 0 (MQ below (m_Q D B K (some (.int r)) n g') args s 0 0 (fun q => B ≤ q)) (F0 m 18 ls []) := by
  have hx := E.1.1
  have hb := E.1.2.1
  have hts := E.1.2.2.2.2
  intro g  r g' hF H locs S ls hl
  unfold f_Mod_noMessage_18 at hF
  refine lv_iconst (v := 1) hx hb d_Mod_noMessage_18 (by decide) ?_
  refine lv_goto (tgt := 23) hx hb d_Mod_noMessage_19 (by decide) ?_
  exact c_Mod_noMessage_23 E hr hlk hz _ _ _ _ hF _ _ S _ (lv_sub hl [] rfl)
end S_Mod_noMessage
def f_Mod_noMessage  (g : m_G) (a0 : Nat) (x1 : Int32) : Option (Int32 × m_G) :=
  m_bd (f_Mod_out g x1 12) fun v_2 g_1 =>
  if (v_2 : Int32) = 0 then
    (m_gR g_1 a0 8 7).bind fun v_4 =>
    Option.bind v_4 fun a_5 =>
    (m_ld g_1 a_5 3 x1).bind fun v_6 =>
    if (v_6 : Int32) = 0 then
      f_Mod_noMessage_18 g_1 
    else
      f_Mod_noMessage_23 g_1 0
  else
    f_Mod_noMessage_18 g_1 
set_option maxHeartbeats 1000000 in
set_option maxRecDepth 100000 in
theorem c_Mod_noMessage (l : Launch) (D : va_G) (B : Nat) (K : Nat → ClassId)  (n : Nat) (g : m_G) (a0 : Nat) (x1 : Int32) (r : Int32) (g' : m_G) (hF : f_Mod_noMessage g a0 x1 = some (r, g')) : Met l y_Mod_noMessage (Cond.code y_Mod_noMessage b_Mod_noMessage 2 (some .boolean) :: m_TB) ({ frames := 1, cells := 0, slots := 0, locals := 21 } : Room) (m_Pc D B K n g [.ref (B + a0), .int x1]) (m_Q D B K (some (.int r)) n g') 0 0 (fun q => B ≤ q) := by
  refine m_met (by decide) (Nat.le_of_ble_eq_true rfl) ?_
  intro p e s m args below meth c ls E hr hlk hin hsz S hl
  have E : m_V p m c b_Mod_noMessage 2 s args R_Mod D K := E
  have hz : s.heap.size + 0 = B + n := hsz
  have hl : lv_has ls 2 [(0, .ref (B + a0)), (1, .int x1)] := hl
  have hx := E.1.1
  have hb := E.1.2.1
  have hts := E.1.2.2.2.2
  unfold f_Mod_noMessage at hF
  refine lv_iload_n hx hb d_Mod_noMessage_0 rfl (lv_at hl 1 rfl) ?_
  refine lv_bipush (v := 12) hx hb d_Mod_noMessage_1 (by decide) ?_
  replace hF := m_bd_inv hF
  obtain ⟨v_2, g_1, eg_1, hF⟩ := hF
  refine m_callS (B := B) (nn := 2) (As := [.int x1, .int 12]) (rest := []) (v := (some (.int v_2))) E S hz (c_Mod_out l D B K n g x1 12 v_2 g_1 eg_1) qc_Mod_out ⟨rfl, rfl⟩ (Or.inl qw_303) qw_305 qw_304 (by decide +kernel) ⟨Nat.le_of_ble_eq_true rfl, Nat.le_of_ble_eq_true rfl⟩ rfl hl.1 (Nat.le_of_ble_eq_true rfl) d_Mod_noMessage_3 ⟨Nat.le_of_ble_eq_true rfl, Nat.le_of_ble_eq_true rfl⟩ (fun H locs S => ?_)
  refine W.eq (g2 := F0 m 6 ls [.int v_2]) rfl ?_
  refine lv_if_ne (tgt := 18) hx hb d_Mod_noMessage_6 (by decide) (fun c_3 => ?_) (fun c_3 => ?_)
  · rw [if_neg c_3] at hF
    exact c_Mod_noMessage_18 E hr hlk hz _ _ _ hF _ _ S _ (lv_sub hl [] rfl)
  · rw [if_pos c_3] at hF
    refine lv_aload_n hx hb d_Mod_noMessage_9 rfl (lv_at hl 0 rfl) ?_
    replace hF := Option.bind_eq_some_iff.mp hF
    obtain ⟨v_4, ev_4, hF⟩ := hF
    refine m_getR (B := B) (a := a0) E S fd_Mod_there (Or.inl qw_289) ev_4 d_Mod_noMessage_10 ?_
    refine lv_iload_n hx hb d_Mod_noMessage_13 rfl (lv_at hl 1 rfl) ?_
    replace hF := Option.bind_eq_some_iff.mp hF
    obtain ⟨a_5, ea_5, hF⟩ := hF
    subst ea_5
    replace hF := Option.bind_eq_some_iff.mp hF
    obtain ⟨v_6, ev_6, hF⟩ := hF
    refine m_zald (B := B) (a := a_5) (t := 3) E S rfl ev_6 d_Mod_noMessage_14 ?_
    refine lv_if_ne (tgt := 22) hx hb d_Mod_noMessage_15 (by decide) (fun c_7 => ?_) (fun c_7 => ?_)
    · rw [if_neg c_7] at hF
      refine lv_iconst (v := 0) hx hb d_Mod_noMessage_22 (by decide) ?_
      exact c_Mod_noMessage_23 E hr hlk hz _ _ _ _ hF _ _ S _ (lv_sub hl [] rfl)
    · rw [if_pos c_7] at hF
      exact c_Mod_noMessage_18 E hr hlk hz _ _ _ hF _ _ S _ (lv_sub hl [] rfl)
def f_Mod_drop  (g : m_G) (a0 : Nat) (x1 : Int32) : Option (Int32 × m_G) :=
  m_gd (m_is g a0 8) <|
  m_bd (f_Mod_noMessage g a0 x1) fun v_2 g_1 =>
  if (v_2 : Int32) = 0 then
    (m_gR g_1 a0 8 7).bind fun v_4 =>
    Option.bind v_4 fun a_5 =>
    (m_st g_1 a_5 3 x1 (vp_nar .boolean 0)).bind fun g_6 =>
    some (0, g_6)
  else
    some ((-1), g_1)
set_option maxHeartbeats 1000000 in
set_option maxRecDepth 100000 in
theorem c_Mod_drop (l : Launch) (D : va_G) (B : Nat) (K : Nat → ClassId)  (n : Nat) (g : m_G) (a0 : Nat) (x1 : Int32) (r : Int32) (g' : m_G) (hF : f_Mod_drop g a0 x1 = some (r, g')) : Met l y_Mod_drop (Cond.code y_Mod_drop b_Mod_drop 2 (some .int) :: m_TB) ({ frames := 2, cells := 0, slots := 0, locals := 42 } : Room) (m_Pc D B K n g [.ref (B + a0), .int x1]) (m_Q D B K (some (.int r)) n g') 0 0 (fun q => B ≤ q) := by
  refine m_met (by decide) (Nat.le_of_ble_eq_true rfl) ?_
  intro p e s m args below meth c ls E hr hlk hin hsz S hl
  have E : m_V p m c b_Mod_drop 2 s args R_Mod D K := E
  have hz : s.heap.size + 0 = B + n := hsz
  have hl : lv_has ls 2 [(0, .ref (B + a0)), (1, .int x1)] := hl
  have hx := E.1.1
  have hb := E.1.2.1
  have hts := E.1.2.2.2.2
  unfold f_Mod_drop at hF
  refine lv_aload_n hx hb d_Mod_drop_0 rfl (lv_at hl 0 rfl) ?_
  refine lv_iload_n hx hb d_Mod_drop_1 rfl (lv_at hl 1 rfl) ?_
  replace hF := m_gd_inv hF
  obtain ⟨eog_1, hF⟩ := hF
  replace hF := m_bd_inv hF
  obtain ⟨v_2, g_1, eg_1, hF⟩ := hF
  refine m_callV (B := B) (nn := 1) (b := a0) (As := [.int x1]) (rest := []) (v := (some (.int v_2))) E S hz (c_Mod_noMessage l D B K n g a0 x1 v_2 g_1 eg_1) qc_Mod_noMessage ⟨rfl, rfl⟩ (Or.inl qw_357) qw_358 qw_359 qw_304 (by decide +kernel) ⟨Nat.le_of_ble_eq_true rfl, Nat.le_of_ble_eq_true rfl⟩ eog_1 rfl rfl hl.1 (Nat.le_of_ble_eq_true rfl) d_Mod_drop_2 ⟨Nat.le_of_ble_eq_true rfl, Nat.le_of_ble_eq_true rfl⟩ (fun H locs S => ?_)
  refine W.eq (g2 := F0 m 5 ls [.int v_2]) rfl ?_
  refine lv_if_eq (tgt := 10) hx hb d_Mod_drop_5 (by decide) (fun c_3 => ?_) (fun c_3 => ?_)
  · rw [if_pos c_3] at hF
    refine lv_aload_n hx hb d_Mod_drop_10 rfl (lv_at hl 0 rfl) ?_
    replace hF := Option.bind_eq_some_iff.mp hF
    obtain ⟨v_4, ev_4, hF⟩ := hF
    refine m_getR (B := B) (a := a0) E S fd_Mod_there (Or.inl qw_289) ev_4 d_Mod_drop_11 ?_
    refine lv_iload_n hx hb d_Mod_drop_14 rfl (lv_at hl 1 rfl) ?_
    refine lv_iconst (v := 0) hx hb d_Mod_drop_15 (by decide) ?_
    replace hF := Option.bind_eq_some_iff.mp hF
    obtain ⟨a_5, ea_5, hF⟩ := hF
    subst ea_5
    replace hF := Option.bind_eq_some_iff.mp hF
    obtain ⟨g_6, eg_6, hF⟩ := hF
    refine m_zast (B := B) (a := a_5) (t := 3) E S rfl eg_6 d_Mod_drop_16 (fun H locs S => ?_)
    refine lv_iconst (v := 0) hx hb d_Mod_drop_17 (by decide) ?_
    cases hF
    exact m_iret E S hz hr hlk d_Mod_drop_18
  · rw [if_neg c_3] at hF
    refine lv_iconst (v := (-1)) hx hb d_Mod_drop_8 (by decide) ?_
    cases hF
    exact m_iret E S hz hr hlk d_Mod_drop_9
section S_Mod_tag
variable {p : Program} {l : Launch} {e : Env} {s : State} {m : MethodId} {args : Array Value} {below : List Frame} {meth : Method} {c : Code} {D : va_G} {B n : Nat} {K : Nat → ClassId}
def f_Mod_tag_17   (g : m_G)  : Option (Int32 × m_G) :=
  some ((-1), g)
set_option maxHeartbeats 1000000 in
set_option maxRecDepth 100000 in
theorem c_Mod_tag_17 (E : m_V p m c b_Mod_tag 4 s args R_Mod D K) (hr : meth.sig.returnType = (some .int)) (hlk : meth.locks = false) (hz : s.heap.size + 0 = B + n)   : ∀ (g : m_G)  (r : Int32) (g' : m_G), f_Mod_tag_17 g  = some (r, g') → ∀ (H : Heap) (locs : List Loc), m_S D B K n g s.heap H locs → ∀ ls : Array Slot, lv_has ls 4 [] → W p l e ({ frames := 2, cells := 0, slots := 0, locals := 42 } : Room) s m args below meth c H locs 0 0 (MQ below (m_Q D B K (some (.int r)) n g') args s 0 0 (fun q => B ≤ q)) (F0 m 17 ls []) := by
  have hx := E.1.1
  have hb := E.1.2.1
  have hts := E.1.2.2.2.2
  intro g  r g' hF H locs S ls hl
  unfold f_Mod_tag_17 at hF
  refine lv_iconst (v := (-1)) hx hb d_Mod_tag_17 (by decide) ?_
  cases hF
  exact m_iret E S hz hr hlk d_Mod_tag_18
def f_Mod_tag_53   (g : m_G) (y0 : Int32) (y1 : Int32) (t2 : Option Nat) : Option (Int32 × m_G) :=
  Option.bind t2 fun a_1 =>
  (m_st g a_1 0 y1 y0).bind fun g_2 =>
  some (0, g_2)
set_option maxHeartbeats 1000000 in
set_option maxRecDepth 100000 in
theorem c_Mod_tag_53 (E : m_V p m c b_Mod_tag 4 s args R_Mod D K) (hr : meth.sig.returnType = (some .int)) (hlk : meth.locks = false) (hz : s.heap.size + 0 = B + n)   : ∀ (g : m_G) (y0 : Int32) (y1 : Int32) (t2 : Option Nat) (r : Int32) (g' : m_G), f_Mod_tag_53 g y0 y1 t2 = some (r, g') → ∀ (H : Heap) (locs : List Loc), m_S D B K n g s.heap H locs → ∀ ls : Array Slot, lv_has ls 4 [] → W p l e ({ frames := 2, cells := 0, slots := 0, locals := 42 } : Room) s m args below meth c H locs 0 0 (MQ below (m_Q D B K (some (.int r)) n g') args s 0 0 (fun q => B ≤ q)) (F0 m 53 ls [.int y0, .int y1, m_r B t2]) := by
  have hx := E.1.1
  have hb := E.1.2.1
  have hts := E.1.2.2.2.2
  intro g y0 y1 t2 r g' hF H locs S ls hl
  unfold f_Mod_tag_53 at hF
  replace hF := Option.bind_eq_some_iff.mp hF
  obtain ⟨a_1, ea_1, hF⟩ := hF
  subst ea_1
  replace hF := Option.bind_eq_some_iff.mp hF
  obtain ⟨g_2, eg_2, hF⟩ := hF
  refine m_iast (B := B) (a := a_1) (t := 0) E S rfl eg_2 d_Mod_tag_53 (fun H locs S => ?_)
  refine lv_iconst (v := 0) hx hb d_Mod_tag_54 (by decide) ?_
  cases hF
  exact m_iret E S hz hr hlk d_Mod_tag_55
end S_Mod_tag
def f_Mod_tag  (g : m_G) (a0 : Nat) (x1 : Int32) (x2 : Int32) (x3 : Int32) : Option (Int32 × m_G) :=
  m_gd (m_is g a0 8) <|
  m_bd (f_Mod_noMessage g a0 x1) fun v_2 g_1 =>
  if (v_2 : Int32) = 0 then
    m_bd (f_Mod_out g_1 x2 8) fun v_5 g_4 =>
    if (v_5 : Int32) = 0 then
      (m_gR g_4 a0 8 13).bind fun v_7 =>
      if (x3 : Int32) = 0 then
        (m_gR g_4 a0 8 13).bind fun v_9 =>
        Option.bind v_9 fun a_10 =>
        (m_ld g_4 a_10 0 x1).bind fun v_11 =>
        f_Mod_tag_53 g_4 (v_11 &&& ((1 <<< (x2 &&& 31)) ^^^ (-1))) x1 v_7
      else
        (m_gR g_4 a0 8 13).bind fun v_12 =>
        Option.bind v_12 fun a_13 =>
        (m_ld g_4 a_13 0 x1).bind fun v_14 =>
        f_Mod_tag_53 g_4 (v_14 ||| (1 <<< (x2 &&& 31))) x1 v_7
    else
      f_Mod_tag_17 g_4 
  else
    f_Mod_tag_17 g_1 
set_option maxHeartbeats 1000000 in
set_option maxRecDepth 100000 in
theorem c_Mod_tag (l : Launch) (D : va_G) (B : Nat) (K : Nat → ClassId)  (n : Nat) (g : m_G) (a0 : Nat) (x1 : Int32) (x2 : Int32) (x3 : Int32) (r : Int32) (g' : m_G) (hF : f_Mod_tag g a0 x1 x2 x3 = some (r, g')) : Met l y_Mod_tag (Cond.code y_Mod_tag b_Mod_tag 4 (some .int) :: m_TB) ({ frames := 2, cells := 0, slots := 0, locals := 42 } : Room) (m_Pc D B K n g [.ref (B + a0), .int x1, .int x2, .int x3]) (m_Q D B K (some (.int r)) n g') 0 0 (fun q => B ≤ q) := by
  refine m_met (by decide) (Nat.le_of_ble_eq_true rfl) ?_
  intro p e s m args below meth c ls E hr hlk hin hsz S hl
  have E : m_V p m c b_Mod_tag 4 s args R_Mod D K := E
  have hz : s.heap.size + 0 = B + n := hsz
  have hl : lv_has ls 4 [(0, .ref (B + a0)), (1, .int x1), (2, .int x2), (3, .int x3)] := hl
  have hx := E.1.1
  have hb := E.1.2.1
  have hts := E.1.2.2.2.2
  unfold f_Mod_tag at hF
  refine lv_aload_n hx hb d_Mod_tag_0 rfl (lv_at hl 0 rfl) ?_
  refine lv_iload_n hx hb d_Mod_tag_1 rfl (lv_at hl 1 rfl) ?_
  replace hF := m_gd_inv hF
  obtain ⟨eog_1, hF⟩ := hF
  replace hF := m_bd_inv hF
  obtain ⟨v_2, g_1, eg_1, hF⟩ := hF
  refine m_callV (B := B) (nn := 1) (b := a0) (As := [.int x1]) (rest := []) (v := (some (.int v_2))) E S hz (c_Mod_noMessage l D B K n g a0 x1 v_2 g_1 eg_1) qc_Mod_noMessage ⟨rfl, rfl⟩ (Or.inl qw_357) qw_358 qw_359 qw_304 (by decide +kernel) ⟨Nat.le_of_ble_eq_true rfl, Nat.le_of_ble_eq_true rfl⟩ eog_1 rfl rfl hl.1 (Nat.le_of_ble_eq_true rfl) d_Mod_tag_2 ⟨Nat.le_of_ble_eq_true rfl, Nat.le_of_ble_eq_true rfl⟩ (fun H locs S => ?_)
  refine W.eq (g2 := F0 m 5 ls [.int v_2]) rfl ?_
  refine lv_if_ne (tgt := 17) hx hb d_Mod_tag_5 (by decide) (fun c_3 => ?_) (fun c_3 => ?_)
  · rw [if_neg c_3] at hF
    exact c_Mod_tag_17 E hr hlk hz _ _ _ hF _ _ S _ (lv_sub hl [] rfl)
  · rw [if_pos c_3] at hF
    refine lv_iload_n hx hb d_Mod_tag_8 rfl (lv_at hl 2 rfl) ?_
    refine lv_bipush (v := 8) hx hb d_Mod_tag_9 (by decide) ?_
    replace hF := m_bd_inv hF
    obtain ⟨v_5, g_4, eg_4, hF⟩ := hF
    refine m_callS (B := B) (nn := 2) (As := [.int x2, .int 8]) (rest := []) (v := (some (.int v_5))) E S hz (c_Mod_out l D B K n g_1 x2 8 v_5 g_4 eg_4) qc_Mod_out ⟨rfl, rfl⟩ (Or.inl qw_303) qw_305 qw_304 (by decide +kernel) ⟨Nat.le_of_ble_eq_true rfl, Nat.le_of_ble_eq_true rfl⟩ rfl hl.1 (Nat.le_of_ble_eq_true rfl) d_Mod_tag_11 ⟨Nat.le_of_ble_eq_true rfl, Nat.le_of_ble_eq_true rfl⟩ (fun H locs S => ?_)
    refine W.eq (g2 := F0 m 14 ls [.int v_5]) rfl ?_
    refine lv_if_eq (tgt := 19) hx hb d_Mod_tag_14 (by decide) (fun c_6 => ?_) (fun c_6 => ?_)
    · rw [if_pos c_6] at hF
      refine lv_aload_n hx hb d_Mod_tag_19 rfl (lv_at hl 0 rfl) ?_
      replace hF := Option.bind_eq_some_iff.mp hF
      obtain ⟨v_7, ev_7, hF⟩ := hF
      refine m_getR (B := B) (a := a0) E S fd_Mod_tags (Or.inl qw_294) ev_7 d_Mod_tag_20 ?_
      refine lv_iload_n hx hb d_Mod_tag_23 rfl (lv_at hl 1 rfl) ?_
      refine lv_iload_n hx hb d_Mod_tag_24 rfl (lv_at hl 3 rfl) ?_
      refine lv_if_eq (tgt := 41) hx hb d_Mod_tag_25 (by decide) (fun c_8 => ?_) (fun c_8 => ?_)
      · rw [if_pos c_8] at hF
        refine lv_aload_n hx hb d_Mod_tag_41 rfl (lv_at hl 0 rfl) ?_
        replace hF := Option.bind_eq_some_iff.mp hF
        obtain ⟨v_9, ev_9, hF⟩ := hF
        refine m_getR (B := B) (a := a0) E S fd_Mod_tags (Or.inl qw_294) ev_9 d_Mod_tag_42 ?_
        refine lv_iload_n hx hb d_Mod_tag_45 rfl (lv_at hl 1 rfl) ?_
        replace hF := Option.bind_eq_some_iff.mp hF
        obtain ⟨a_10, ea_10, hF⟩ := hF
        subst ea_10
        replace hF := Option.bind_eq_some_iff.mp hF
        obtain ⟨v_11, ev_11, hF⟩ := hF
        refine m_iald (B := B) (a := a_10) (t := 0) E S rfl ev_11 d_Mod_tag_46 ?_
        refine lv_iconst (v := 1) hx hb d_Mod_tag_47 (by decide) ?_
        refine lv_iload_n hx hb d_Mod_tag_48 rfl (lv_at hl 2 rfl) ?_
        refine lv_ishl hx hb d_Mod_tag_49 ?_
        refine lv_iconst (v := (-1)) hx hb d_Mod_tag_50 (by decide) ?_
        refine lv_ixor hx hb d_Mod_tag_51 ?_
        refine lv_iand hx hb d_Mod_tag_52 ?_
        exact c_Mod_tag_53 E hr hlk hz _ _ _ _ _ _ hF _ _ S _ (lv_sub hl [] rfl)
      · rw [if_neg c_8] at hF
        refine lv_aload_n hx hb d_Mod_tag_28 rfl (lv_at hl 0 rfl) ?_
        replace hF := Option.bind_eq_some_iff.mp hF
        obtain ⟨v_12, ev_12, hF⟩ := hF
        refine m_getR (B := B) (a := a0) E S fd_Mod_tags (Or.inl qw_294) ev_12 d_Mod_tag_29 ?_
        refine lv_iload_n hx hb d_Mod_tag_32 rfl (lv_at hl 1 rfl) ?_
        replace hF := Option.bind_eq_some_iff.mp hF
        obtain ⟨a_13, ea_13, hF⟩ := hF
        subst ea_13
        replace hF := Option.bind_eq_some_iff.mp hF
        obtain ⟨v_14, ev_14, hF⟩ := hF
        refine m_iald (B := B) (a := a_13) (t := 0) E S rfl ev_14 d_Mod_tag_33 ?_
        refine lv_iconst (v := 1) hx hb d_Mod_tag_34 (by decide) ?_
        refine lv_iload_n hx hb d_Mod_tag_35 rfl (lv_at hl 2 rfl) ?_
        refine lv_ishl hx hb d_Mod_tag_36 ?_
        refine lv_ior hx hb d_Mod_tag_37 ?_
        refine lv_goto (tgt := 53) hx hb d_Mod_tag_38 (by decide) ?_
        exact c_Mod_tag_53 E hr hlk hz _ _ _ _ _ _ hF _ _ S _ (lv_sub hl [] rfl)
    · rw [if_neg c_6] at hF
      exact c_Mod_tag_17 E hr hlk hz _ _ _ hF _ _ S _ (lv_sub hl [] rfl)
section S_Mod_isLetter
variable {p : Program} {l : Launch} {e : Env} {s : State} {m : MethodId} {args : Array Value} {below : List Frame} {meth : Method} {c : Code} {D : va_G} {B n : Nat} {K : Nat → ClassId}
def f_Mod_isLetter_17   (g : m_G) (y0 : Int32) : Option (Int32 × m_G) :=
  if (y0 : Int32) = 0 ∨ y0 = 1 then some (y0, g) else none
set_option maxHeartbeats 1000000 in
set_option maxRecDepth 100000 in
theorem c_Mod_isLetter_17 (E : m_V p m c b_Mod_isLetter 1 s args R_Mod D K) (hr : meth.sig.returnType = (some .boolean)) (hlk : meth.locks = false) (hz : s.heap.size + 0 = B + n)   : ∀ (g : m_G) (y0 : Int32) (r : Int32) (g' : m_G), f_Mod_isLetter_17 g y0 = some (r, g') → ∀ (H : Heap) (locs : List Loc), m_S D B K n g s.heap H locs → ∀ ls : Array Slot, lv_has ls 1 [] → W p l e ({ frames := 0, cells := 0, slots := 0, locals := 0 } : Room) s m args below meth c H locs 0 0 (MQ below (m_Q D B K (some (.int r)) n g') args s 0 0 (fun q => B ≤ q)) (F0 m 17 ls [.int y0]) := by
  have hx := E.1.1
  have hb := E.1.2.1
  have hts := E.1.2.2.2.2
  intro g y0 r g' hF H locs S ls hl
  unfold f_Mod_isLetter_17 at hF
  by_cases c_1 : (y0 : Int32) = 0 ∨ y0 = 1
  · rw [if_pos c_1] at hF
    cases hF
    exact m_zret E S hz hr hlk c_1 d_Mod_isLetter_17
  · rw [if_neg c_1] at hF
    cases hF
def f_Mod_isLetter_16   (g : m_G)  : Option (Int32 × m_G) :=
  f_Mod_isLetter_17 g 0
set_option maxHeartbeats 1000000 in
set_option maxRecDepth 100000 in
theorem c_Mod_isLetter_16 (E : m_V p m c b_Mod_isLetter 1 s args R_Mod D K) (hr : meth.sig.returnType = (some .boolean)) (hlk : meth.locks = false) (hz : s.heap.size + 0 = B + n)   : ∀ (g : m_G)  (r : Int32) (g' : m_G), f_Mod_isLetter_16 g  = some (r, g') → ∀ (H : Heap) (locs : List Loc), m_S D B K n g s.heap H locs → ∀ ls : Array Slot, lv_has ls 1 [] → W p l e ({ frames := 0, cells := 0, slots := 0, locals := 0 } : Room) s m args below meth c H locs 0 0 (MQ below (m_Q D B K (some (.int r)) n g') args s 0 0 (fun q => B ≤ q)) (F0 m 16 ls []) := by
  have hx := E.1.1
  have hb := E.1.2.1
  have hts := E.1.2.2.2.2
  intro g  r g' hF H locs S ls hl
  unfold f_Mod_isLetter_16 at hF
  refine lv_iconst (v := 0) hx hb d_Mod_isLetter_16 (by decide) ?_
  exact c_Mod_isLetter_17 E hr hlk hz _ _ _ _ hF _ _ S _ (lv_sub hl [] rfl)
end S_Mod_isLetter
def f_Mod_isLetter  (g : m_G) (x0 : Int32) : Option (Int32 × m_G) :=
  if (x0 : Int32) < 97 then
    f_Mod_isLetter_16 g 
  else
    if (122 : Int32) < x0 then
      f_Mod_isLetter_16 g 
    else
      f_Mod_isLetter_17 g 1
set_option maxHeartbeats 1000000 in
set_option maxRecDepth 100000 in
theorem c_Mod_isLetter (l : Launch) (D : va_G) (B : Nat) (K : Nat → ClassId)  (n : Nat) (g : m_G) (x0 : Int32) (r : Int32) (g' : m_G) (hF : f_Mod_isLetter g x0 = some (r, g')) : Met l y_Mod_isLetter (Cond.code y_Mod_isLetter b_Mod_isLetter 1 (some .boolean) :: m_TB) ({ frames := 0, cells := 0, slots := 0, locals := 0 } : Room) (m_Pc D B K n g [.int x0]) (m_Q D B K (some (.int r)) n g') 0 0 (fun q => B ≤ q) := by
  refine m_met (by decide) (Nat.le_of_ble_eq_true rfl) ?_
  intro p e s m args below meth c ls E hr hlk hin hsz S hl
  have E : m_V p m c b_Mod_isLetter 1 s args R_Mod D K := E
  have hz : s.heap.size + 0 = B + n := hsz
  have hl : lv_has ls 1 [(0, .int x0)] := hl
  have hx := E.1.1
  have hb := E.1.2.1
  have hts := E.1.2.2.2.2
  unfold f_Mod_isLetter at hF
  refine lv_iload_n hx hb d_Mod_isLetter_0 rfl (lv_at hl 0 rfl) ?_
  refine lv_bipush (v := 97) hx hb d_Mod_isLetter_1 (by decide) ?_
  refine lv_icmp_lt (tgt := 16) hx hb d_Mod_isLetter_3 (by decide) (fun c_1 => ?_) (fun c_1 => ?_)
  · rw [if_pos c_1] at hF
    exact c_Mod_isLetter_16 E hr hlk hz _ _ _ hF _ _ S _ (lv_sub hl [] rfl)
  · rw [if_neg c_1] at hF
    refine lv_iload_n hx hb d_Mod_isLetter_6 rfl (lv_at hl 0 rfl) ?_
    refine lv_bipush (v := 122) hx hb d_Mod_isLetter_7 (by decide) ?_
    refine lv_icmp_gt (tgt := 16) hx hb d_Mod_isLetter_9 (by decide) (fun c_2 => ?_) (fun c_2 => ?_)
    · rw [if_pos c_2] at hF
      exact c_Mod_isLetter_16 E hr hlk hz _ _ _ hF _ _ S _ (lv_sub hl [] rfl)
    · rw [if_neg c_2] at hF
      refine lv_iconst (v := 1) hx hb d_Mod_isLetter_12 (by decide) ?_
      refine lv_goto (tgt := 17) hx hb d_Mod_isLetter_13 (by decide) ?_
      exact c_Mod_isLetter_17 E hr hlk hz _ _ _ _ hF _ _ S _ (lv_sub hl [] rfl)
section S_Mod_nextState
variable {p : Program} {l : Launch} {e : Env} {s : State} {m : MethodId} {args : Array Value} {below : List Frame} {meth : Method} {c : Code} {D : va_G} {B n : Nat} {K : Nat → ClassId}
def f_Mod_nextState_177   (g : m_G)  : Option (Int32 × m_G) :=
  some (0, g)
set_option maxHeartbeats 1000000 in
set_option maxRecDepth 100000 in
theorem c_Mod_nextState_177 (E : m_V p m c b_Mod_nextState 5 s args R_Mod D K) (hr : meth.sig.returnType = (some .int)) (hlk : meth.locks = false) (hz : s.heap.size + 0 = B + n)   : ∀ (g : m_G)  (r : Int32) (g' : m_G), f_Mod_nextState_177 g  = some (r, g') → ∀ (H : Heap) (locs : List Loc), m_S D B K n g s.heap H locs → ∀ ls : Array Slot, lv_has ls 5 [] → W p l e ({ frames := 1, cells := 0, slots := 0, locals := 20 } : Room) s m args below meth c H locs 0 0 (MQ below (m_Q D B K (some (.int r)) n g') args s 0 0 (fun q => B ≤ q)) (F0 m 177 ls []) := by
  have hx := E.1.1
  have hb := E.1.2.1
  have hts := E.1.2.2.2.2
  intro g  r g' hF H locs S ls hl
  unfold f_Mod_nextState_177 at hF
  refine lv_iconst (v := 0) hx hb d_Mod_nextState_177 (by decide) ?_
  cases hF
  exact m_iret E S hz hr hlk d_Mod_nextState_178
def f_Mod_nextState_195   (g : m_G) (y0 : Int32) : Option (Int32 × m_G) :=
  some (y0, g)
set_option maxHeartbeats 1000000 in
set_option maxRecDepth 100000 in
theorem c_Mod_nextState_195 (E : m_V p m c b_Mod_nextState 5 s args R_Mod D K) (hr : meth.sig.returnType = (some .int)) (hlk : meth.locks = false) (hz : s.heap.size + 0 = B + n)   : ∀ (g : m_G) (y0 : Int32) (r : Int32) (g' : m_G), f_Mod_nextState_195 g y0 = some (r, g') → ∀ (H : Heap) (locs : List Loc), m_S D B K n g s.heap H locs → ∀ ls : Array Slot, lv_has ls 5 [] → W p l e ({ frames := 1, cells := 0, slots := 0, locals := 20 } : Room) s m args below meth c H locs 0 0 (MQ below (m_Q D B K (some (.int r)) n g') args s 0 0 (fun q => B ≤ q)) (F0 m 195 ls [.int y0]) := by
  have hx := E.1.1
  have hb := E.1.2.1
  have hts := E.1.2.2.2.2
  intro g y0 r g' hF H locs S ls hl
  unfold f_Mod_nextState_195 at hF
  cases hF
  exact m_iret E S hz hr hlk d_Mod_nextState_195
def f_Mod_nextState_194   (g : m_G)  : Option (Int32 × m_G) :=
  f_Mod_nextState_195 g (-1)
set_option maxHeartbeats 1000000 in
set_option maxRecDepth 100000 in
theorem c_Mod_nextState_194 (E : m_V p m c b_Mod_nextState 5 s args R_Mod D K) (hr : meth.sig.returnType = (some .int)) (hlk : meth.locks = false) (hz : s.heap.size + 0 = B + n)   : ∀ (g : m_G)  (r : Int32) (g' : m_G), f_Mod_nextState_194 g  = some (r, g') → ∀ (H : Heap) (locs : List Loc), m_S D B K n g s.heap H locs → ∀ ls : Array Slot, lv_has ls 5 [] → W p l e ({ frames := 1, cells := 0, slots := 0, locals := 20 } : Room) s m args below meth c H locs 0 0 (MQ below (m_Q D B K (some (.int r)) n g') args s 0 0 (fun q => B ≤ q)) (F0 m 194 ls []) := by
  have hx := E.1.1
  have hb := E.1.2.1
  have hts := E.1.2.2.2.2
  intro g  r g' hF H locs S ls hl
  unfold f_Mod_nextState_194 at hF
  refine lv_iconst (v := (-1)) hx hb d_Mod_nextState_194 (by decide) ?_
  exact c_Mod_nextState_195 E hr hlk hz _ _ _ _ hF _ _ S _ (lv_sub hl [] rfl)
def f_Mod_nextState_165   (g : m_G) (x2 : Int32) (x4 : Int32) : Option (Int32 × m_G) :=
  if (x2 : Int32) = 124 then
    f_Mod_nextState_177 g 
  else
    if (x2 : Int32) = 38 then
      f_Mod_nextState_177 g 
    else
      if (x2 : Int32) = 41 then
        if (x4 : Int32) ≤ 0 then
          f_Mod_nextState_194 g 
        else
          f_Mod_nextState_195 g 5
      else
        f_Mod_nextState_194 g 
set_option maxHeartbeats 1000000 in
set_option maxRecDepth 100000 in
theorem c_Mod_nextState_165 (E : m_V p m c b_Mod_nextState 5 s args R_Mod D K) (hr : meth.sig.returnType = (some .int)) (hlk : meth.locks = false) (hz : s.heap.size + 0 = B + n)   : ∀ (g : m_G) (x2 : Int32) (x4 : Int32) (r : Int32) (g' : m_G), f_Mod_nextState_165 g x2 x4 = some (r, g') → ∀ (H : Heap) (locs : List Loc), m_S D B K n g s.heap H locs → ∀ ls : Array Slot, lv_has ls 5 [(2, .int x2), (4, .int x4)] → W p l e ({ frames := 1, cells := 0, slots := 0, locals := 20 } : Room) s m args below meth c H locs 0 0 (MQ below (m_Q D B K (some (.int r)) n g') args s 0 0 (fun q => B ≤ q)) (F0 m 165 ls []) := by
  have hx := E.1.1
  have hb := E.1.2.1
  have hts := E.1.2.2.2.2
  intro g x2 x4 r g' hF H locs S ls hl
  unfold f_Mod_nextState_165 at hF
  refine lv_iload_n hx hb d_Mod_nextState_165 rfl (lv_at hl 0 rfl) ?_
  refine lv_bipush (v := 124) hx hb d_Mod_nextState_166 (by decide) ?_
  refine lv_icmp_eq (tgt := 177) hx hb d_Mod_nextState_168 (by decide) (fun c_1 => ?_) (fun c_1 => ?_)
  · rw [if_pos c_1] at hF
    exact c_Mod_nextState_177 E hr hlk hz _ _ _ hF _ _ S _ (lv_sub hl [] rfl)
  · rw [if_neg c_1] at hF
    refine lv_iload_n hx hb d_Mod_nextState_171 rfl (lv_at hl 0 rfl) ?_
    refine lv_bipush (v := 38) hx hb d_Mod_nextState_172 (by decide) ?_
    refine lv_icmp_ne (tgt := 179) hx hb d_Mod_nextState_174 (by decide) (fun c_2 => ?_) (fun c_2 => ?_)
    · rw [if_neg c_2] at hF
      refine lv_iload_n hx hb d_Mod_nextState_179 rfl (lv_at hl 0 rfl) ?_
      refine lv_bipush (v := 41) hx hb d_Mod_nextState_180 (by decide) ?_
      refine lv_icmp_ne (tgt := 194) hx hb d_Mod_nextState_182 (by decide) (fun c_3 => ?_) (fun c_3 => ?_)
      · rw [if_neg c_3] at hF
        exact c_Mod_nextState_194 E hr hlk hz _ _ _ hF _ _ S _ (lv_sub hl [] rfl)
      · rw [if_pos c_3] at hF
        refine lv_iload hx hb d_Mod_nextState_185 (lv_at hl 1 rfl) ?_
        refine lv_if_le (tgt := 194) hx hb d_Mod_nextState_187 (by decide) (fun c_4 => ?_) (fun c_4 => ?_)
        · rw [if_pos c_4] at hF
          exact c_Mod_nextState_194 E hr hlk hz _ _ _ hF _ _ S _ (lv_sub hl [] rfl)
        · rw [if_neg c_4] at hF
          refine lv_iconst (v := 5) hx hb d_Mod_nextState_190 (by decide) ?_
          refine lv_goto (tgt := 195) hx hb d_Mod_nextState_191 (by decide) ?_
          exact c_Mod_nextState_195 E hr hlk hz _ _ _ _ hF _ _ S _ (lv_sub hl [] rfl)
    · rw [if_pos c_2] at hF
      exact c_Mod_nextState_177 E hr hlk hz _ _ _ hF _ _ S _ (lv_sub hl [] rfl)
def f_Mod_nextState_164   (g : m_G) (y0 : Int32) : Option (Int32 × m_G) :=
  some (y0, g)
set_option maxHeartbeats 1000000 in
set_option maxRecDepth 100000 in
theorem c_Mod_nextState_164 (E : m_V p m c b_Mod_nextState 5 s args R_Mod D K) (hr : meth.sig.returnType = (some .int)) (hlk : meth.locks = false) (hz : s.heap.size + 0 = B + n)   : ∀ (g : m_G) (y0 : Int32) (r : Int32) (g' : m_G), f_Mod_nextState_164 g y0 = some (r, g') → ∀ (H : Heap) (locs : List Loc), m_S D B K n g s.heap H locs → ∀ ls : Array Slot, lv_has ls 5 [] → W p l e ({ frames := 1, cells := 0, slots := 0, locals := 20 } : Room) s m args below meth c H locs 0 0 (MQ below (m_Q D B K (some (.int r)) n g') args s 0 0 (fun q => B ≤ q)) (F0 m 164 ls [.int y0]) := by
  have hx := E.1.1
  have hb := E.1.2.1
  have hts := E.1.2.2.2.2
  intro g y0 r g' hF H locs S ls hl
  unfold f_Mod_nextState_164 at hF
  cases hF
  exact m_iret E S hz hr hlk d_Mod_nextState_164
def f_Mod_nextState_149   (g : m_G)  : Option (Int32 × m_G) :=
  f_Mod_nextState_164 g 3
set_option maxHeartbeats 1000000 in
set_option maxRecDepth 100000 in
theorem c_Mod_nextState_149 (E : m_V p m c b_Mod_nextState 5 s args R_Mod D K) (hr : meth.sig.returnType = (some .int)) (hlk : meth.locks = false) (hz : s.heap.size + 0 = B + n)   : ∀ (g : m_G)  (r : Int32) (g' : m_G), f_Mod_nextState_149 g  = some (r, g') → ∀ (H : Heap) (locs : List Loc), m_S D B K n g s.heap H locs → ∀ ls : Array Slot, lv_has ls 5 [] → W p l e ({ frames := 1, cells := 0, slots := 0, locals := 20 } : Room) s m args below meth c H locs 0 0 (MQ below (m_Q D B K (some (.int r)) n g') args s 0 0 (fun q => B ≤ q)) (F0 m 149 ls []) := by
  have hx := E.1.1
  have hb := E.1.2.1
  have hts := E.1.2.2.2.2
  intro g  r g' hF H locs S ls hl
  unfold f_Mod_nextState_149 at hF
  refine lv_iconst (v := 3) hx hb d_Mod_nextState_149 (by decide) ?_
  refine lv_goto (tgt := 164) hx hb d_Mod_nextState_150 (by decide) ?_
  exact c_Mod_nextState_164 E hr hlk hz _ _ _ _ hF _ _ S _ (lv_sub hl [] rfl)
def f_Mod_nextState_120   (g : m_G) (x1 : Int32) (x2 : Int32) (x3 : Int32) (x4 : Int32) : Option (Int32 × m_G) :=
  if (x1 : Int32) = 1 then
    if (x2 : Int32) = 58 then
      if (x3 : Int32) = 115 then
        f_Mod_nextState_149 g 
      else
        if (x3 : Int32) = 102 then
          f_Mod_nextState_149 g 
        else
          if (x3 : Int32) = 98 then
            f_Mod_nextState_149 g 
          else
            if (x3 : Int32) = 116 then
              f_Mod_nextState_164 g 4
            else
              f_Mod_nextState_164 g (-1)
    else
      f_Mod_nextState_165 g x2 x4
  else
    f_Mod_nextState_165 g x2 x4
set_option maxHeartbeats 1000000 in
set_option maxRecDepth 100000 in
theorem c_Mod_nextState_120 (E : m_V p m c b_Mod_nextState 5 s args R_Mod D K) (hr : meth.sig.returnType = (some .int)) (hlk : meth.locks = false) (hz : s.heap.size + 0 = B + n)   : ∀ (g : m_G) (x1 : Int32) (x2 : Int32) (x3 : Int32) (x4 : Int32) (r : Int32) (g' : m_G), f_Mod_nextState_120 g x1 x2 x3 x4 = some (r, g') → ∀ (H : Heap) (locs : List Loc), m_S D B K n g s.heap H locs → ∀ ls : Array Slot, lv_has ls 5 [(1, .int x1), (2, .int x2), (3, .int x3), (4, .int x4)] → W p l e ({ frames := 1, cells := 0, slots := 0, locals := 20 } : Room) s m args below meth c H locs 0 0 (MQ below (m_Q D B K (some (.int r)) n g') args s 0 0 (fun q => B ≤ q)) (F0 m 120 ls []) := by
  have hx := E.1.1
  have hb := E.1.2.1
  have hts := E.1.2.2.2.2
  intro g x1 x2 x3 x4 r g' hF H locs S ls hl
  unfold f_Mod_nextState_120 at hF
  refine lv_iload_n hx hb d_Mod_nextState_120 rfl (lv_at hl 0 rfl) ?_
  refine lv_iconst (v := 1) hx hb d_Mod_nextState_121 (by decide) ?_
  refine lv_icmp_ne (tgt := 165) hx hb d_Mod_nextState_122 (by decide) (fun c_1 => ?_) (fun c_1 => ?_)
  · rw [if_neg c_1] at hF
    exact c_Mod_nextState_165 E hr hlk hz _ _ _ _ _ hF _ _ S _ (lv_sub hl [1, 3] rfl)
  · rw [if_pos c_1] at hF
    refine lv_iload_n hx hb d_Mod_nextState_125 rfl (lv_at hl 1 rfl) ?_
    refine lv_bipush (v := 58) hx hb d_Mod_nextState_126 (by decide) ?_
    refine lv_icmp_ne (tgt := 165) hx hb d_Mod_nextState_128 (by decide) (fun c_2 => ?_) (fun c_2 => ?_)
    · rw [if_neg c_2] at hF
      exact c_Mod_nextState_165 E hr hlk hz _ _ _ _ _ hF _ _ S _ (lv_sub hl [1, 3] rfl)
    · rw [if_pos c_2] at hF
      refine lv_iload_n hx hb d_Mod_nextState_131 rfl (lv_at hl 2 rfl) ?_
      refine lv_bipush (v := 115) hx hb d_Mod_nextState_132 (by decide) ?_
      refine lv_icmp_eq (tgt := 149) hx hb d_Mod_nextState_134 (by decide) (fun c_3 => ?_) (fun c_3 => ?_)
      · rw [if_pos c_3] at hF
        exact c_Mod_nextState_149 E hr hlk hz _ _ _ hF _ _ S _ (lv_sub hl [] rfl)
      · rw [if_neg c_3] at hF
        refine lv_iload_n hx hb d_Mod_nextState_137 rfl (lv_at hl 2 rfl) ?_
        refine lv_bipush (v := 102) hx hb d_Mod_nextState_138 (by decide) ?_
        refine lv_icmp_eq (tgt := 149) hx hb d_Mod_nextState_140 (by decide) (fun c_4 => ?_) (fun c_4 => ?_)
        · rw [if_pos c_4] at hF
          exact c_Mod_nextState_149 E hr hlk hz _ _ _ hF _ _ S _ (lv_sub hl [] rfl)
        · rw [if_neg c_4] at hF
          refine lv_iload_n hx hb d_Mod_nextState_143 rfl (lv_at hl 2 rfl) ?_
          refine lv_bipush (v := 98) hx hb d_Mod_nextState_144 (by decide) ?_
          refine lv_icmp_ne (tgt := 153) hx hb d_Mod_nextState_146 (by decide) (fun c_5 => ?_) (fun c_5 => ?_)
          · rw [if_neg c_5] at hF
            refine lv_iload_n hx hb d_Mod_nextState_153 rfl (lv_at hl 2 rfl) ?_
            refine lv_bipush (v := 116) hx hb d_Mod_nextState_154 (by decide) ?_
            refine lv_icmp_ne (tgt := 163) hx hb d_Mod_nextState_156 (by decide) (fun c_6 => ?_) (fun c_6 => ?_)
            · rw [if_neg c_6] at hF
              refine lv_iconst (v := (-1)) hx hb d_Mod_nextState_163 (by decide) ?_
              exact c_Mod_nextState_164 E hr hlk hz _ _ _ _ hF _ _ S _ (lv_sub hl [] rfl)
            · rw [if_pos c_6] at hF
              refine lv_iconst (v := 4) hx hb d_Mod_nextState_159 (by decide) ?_
              refine lv_goto (tgt := 164) hx hb d_Mod_nextState_160 (by decide) ?_
              exact c_Mod_nextState_164 E hr hlk hz _ _ _ _ hF _ _ S _ (lv_sub hl [] rfl)
          · rw [if_pos c_5] at hF
            exact c_Mod_nextState_149 E hr hlk hz _ _ _ hF _ _ S _ (lv_sub hl [] rfl)
def f_Mod_nextState_107   (g : m_G) (x1 : Int32) (x2 : Int32) (x3 : Int32) (x4 : Int32) : Option (Int32 × m_G) :=
  if (x1 : Int32) = 5 then
    f_Mod_nextState_120 g x1 x2 x3 x4
  else
    if (x2 : Int32) = 42 then
      some (5, g)
    else
      f_Mod_nextState_120 g x1 x2 x3 x4
set_option maxHeartbeats 1000000 in
set_option maxRecDepth 100000 in
theorem c_Mod_nextState_107 (E : m_V p m c b_Mod_nextState 5 s args R_Mod D K) (hr : meth.sig.returnType = (some .int)) (hlk : meth.locks = false) (hz : s.heap.size + 0 = B + n)   : ∀ (g : m_G) (x1 : Int32) (x2 : Int32) (x3 : Int32) (x4 : Int32) (r : Int32) (g' : m_G), f_Mod_nextState_107 g x1 x2 x3 x4 = some (r, g') → ∀ (H : Heap) (locs : List Loc), m_S D B K n g s.heap H locs → ∀ ls : Array Slot, lv_has ls 5 [(1, .int x1), (2, .int x2), (3, .int x3), (4, .int x4)] → W p l e ({ frames := 1, cells := 0, slots := 0, locals := 20 } : Room) s m args below meth c H locs 0 0 (MQ below (m_Q D B K (some (.int r)) n g') args s 0 0 (fun q => B ≤ q)) (F0 m 107 ls []) := by
  have hx := E.1.1
  have hb := E.1.2.1
  have hts := E.1.2.2.2.2
  intro g x1 x2 x3 x4 r g' hF H locs S ls hl
  unfold f_Mod_nextState_107 at hF
  refine lv_iload_n hx hb d_Mod_nextState_107 rfl (lv_at hl 0 rfl) ?_
  refine lv_iconst (v := 5) hx hb d_Mod_nextState_108 (by decide) ?_
  refine lv_icmp_eq (tgt := 120) hx hb d_Mod_nextState_109 (by decide) (fun c_1 => ?_) (fun c_1 => ?_)
  · rw [if_pos c_1] at hF
    exact c_Mod_nextState_120 E hr hlk hz _ _ _ _ _ _ _ hF _ _ S _ (lv_sub hl [0, 1, 2, 3] rfl)
  · rw [if_neg c_1] at hF
    refine lv_iload_n hx hb d_Mod_nextState_112 rfl (lv_at hl 1 rfl) ?_
    refine lv_bipush (v := 42) hx hb d_Mod_nextState_113 (by decide) ?_
    refine lv_icmp_ne (tgt := 120) hx hb d_Mod_nextState_115 (by decide) (fun c_2 => ?_) (fun c_2 => ?_)
    · rw [if_neg c_2] at hF
      exact c_Mod_nextState_120 E hr hlk hz _ _ _ _ _ _ _ hF _ _ S _ (lv_sub hl [0, 1, 2, 3] rfl)
    · rw [if_pos c_2] at hF
      refine lv_iconst (v := 5) hx hb d_Mod_nextState_118 (by decide) ?_
      cases hF
      exact m_iret E S hz hr hlk d_Mod_nextState_119
def f_Mod_nextState_92   (g : m_G) (y0 : Int32) : Option (Int32 × m_G) :=
  some (y0, g)
set_option maxHeartbeats 1000000 in
set_option maxRecDepth 100000 in
theorem c_Mod_nextState_92 (E : m_V p m c b_Mod_nextState 5 s args R_Mod D K) (hr : meth.sig.returnType = (some .int)) (hlk : meth.locks = false) (hz : s.heap.size + 0 = B + n)   : ∀ (g : m_G) (y0 : Int32) (r : Int32) (g' : m_G), f_Mod_nextState_92 g y0 = some (r, g') → ∀ (H : Heap) (locs : List Loc), m_S D B K n g s.heap H locs → ∀ ls : Array Slot, lv_has ls 5 [] → W p l e ({ frames := 1, cells := 0, slots := 0, locals := 20 } : Room) s m args below meth c H locs 0 0 (MQ below (m_Q D B K (some (.int r)) n g') args s 0 0 (fun q => B ≤ q)) (F0 m 92 ls [.int y0]) := by
  have hx := E.1.1
  have hb := E.1.2.1
  have hts := E.1.2.2.2.2
  intro g y0 r g' hF H locs S ls hl
  unfold f_Mod_nextState_92 at hF
  cases hF
  exact m_iret E S hz hr hlk d_Mod_nextState_92
def f_Mod_nextState_91   (g : m_G)  : Option (Int32 × m_G) :=
  f_Mod_nextState_92 g (-1)
set_option maxHeartbeats 1000000 in
set_option maxRecDepth 100000 in
theorem c_Mod_nextState_91 (E : m_V p m c b_Mod_nextState 5 s args R_Mod D K) (hr : meth.sig.returnType = (some .int)) (hlk : meth.locks = false) (hz : s.heap.size + 0 = B + n)   : ∀ (g : m_G)  (r : Int32) (g' : m_G), f_Mod_nextState_91 g  = some (r, g') → ∀ (H : Heap) (locs : List Loc), m_S D B K n g s.heap H locs → ∀ ls : Array Slot, lv_has ls 5 [] → W p l e ({ frames := 1, cells := 0, slots := 0, locals := 20 } : Room) s m args below meth c H locs 0 0 (MQ below (m_Q D B K (some (.int r)) n g') args s 0 0 (fun q => B ≤ q)) (F0 m 91 ls []) := by
  have hx := E.1.1
  have hb := E.1.2.1
  have hts := E.1.2.2.2.2
  intro g  r g' hF H locs S ls hl
  unfold f_Mod_nextState_91 at hF
  refine lv_iconst (v := (-1)) hx hb d_Mod_nextState_91 (by decide) ?_
  exact c_Mod_nextState_92 E hr hlk hz _ _ _ _ hF _ _ S _ (lv_sub hl [] rfl)
def f_Mod_nextState_69   (g : m_G) (y0 : Int32) : Option (Int32 × m_G) :=
  some (y0, g)
set_option maxHeartbeats 1000000 in
set_option maxRecDepth 100000 in
theorem c_Mod_nextState_69 (E : m_V p m c b_Mod_nextState 5 s args R_Mod D K) (hr : meth.sig.returnType = (some .int)) (hlk : meth.locks = false) (hz : s.heap.size + 0 = B + n)   : ∀ (g : m_G) (y0 : Int32) (r : Int32) (g' : m_G), f_Mod_nextState_69 g y0 = some (r, g') → ∀ (H : Heap) (locs : List Loc), m_S D B K n g s.heap H locs → ∀ ls : Array Slot, lv_has ls 5 [] → W p l e ({ frames := 1, cells := 0, slots := 0, locals := 20 } : Room) s m args below meth c H locs 0 0 (MQ below (m_Q D B K (some (.int r)) n g') args s 0 0 (fun q => B ≤ q)) (F0 m 69 ls [.int y0]) := by
  have hx := E.1.1
  have hb := E.1.2.1
  have hts := E.1.2.2.2.2
  intro g y0 r g' hF H locs S ls hl
  unfold f_Mod_nextState_69 at hF
  cases hF
  exact m_iret E S hz hr hlk d_Mod_nextState_69
def f_Mod_nextState_51   (g : m_G) (y0 : Int32) : Option (Int32 × m_G) :=
  some (y0, g)
set_option maxHeartbeats 1000000 in
set_option maxRecDepth 100000 in
theorem c_Mod_nextState_51 (E : m_V p m c b_Mod_nextState 5 s args R_Mod D K) (hr : meth.sig.returnType = (some .int)) (hlk : meth.locks = false) (hz : s.heap.size + 0 = B + n)   : ∀ (g : m_G) (y0 : Int32) (r : Int32) (g' : m_G), f_Mod_nextState_51 g y0 = some (r, g') → ∀ (H : Heap) (locs : List Loc), m_S D B K n g s.heap H locs → ∀ ls : Array Slot, lv_has ls 5 [] → W p l e ({ frames := 1, cells := 0, slots := 0, locals := 20 } : Room) s m args below meth c H locs 0 0 (MQ below (m_Q D B K (some (.int r)) n g') args s 0 0 (fun q => B ≤ q)) (F0 m 51 ls [.int y0]) := by
  have hx := E.1.1
  have hb := E.1.2.1
  have hts := E.1.2.2.2.2
  intro g y0 r g' hF H locs S ls hl
  unfold f_Mod_nextState_51 at hF
  cases hF
  exact m_iret E S hz hr hlk d_Mod_nextState_51
def f_Mod_nextState_35   (g : m_G) (x1 : Int32) (x2 : Int32) (x3 : Int32) (x4 : Int32) : Option (Int32 × m_G) :=
  if (x1 : Int32) = 0 then
    m_bd (f_Mod_isLetter g x2) fun v_14 g_13 =>
    if (v_14 : Int32) = 0 then
      f_Mod_nextState_51 g_13 (-1)
    else
      f_Mod_nextState_51 g_13 1
  else
    if (x1 : Int32) = 3 then
      m_bd (f_Mod_isLetter g x2) fun v_11 g_10 =>
      if (v_11 : Int32) = 0 then
        f_Mod_nextState_69 g_10 (-1)
      else
        f_Mod_nextState_69 g_10 2
    else
      if (x1 : Int32) = 4 then
        if (x2 : Int32) < 48 then
          f_Mod_nextState_91 g 
        else
          if (55 : Int32) < x2 then
            f_Mod_nextState_91 g 
          else
            f_Mod_nextState_92 g 5
      else
        if (x1 : Int32) = 5 then
          f_Mod_nextState_107 g x1 x2 x3 x4
        else
          m_bd (f_Mod_isLetter g x2) fun v_6 g_5 =>
          if (v_6 : Int32) = 0 then
            f_Mod_nextState_107 g_5 x1 x2 x3 x4
          else
            some (2, g_5)
set_option maxHeartbeats 1000000 in
set_option maxRecDepth 100000 in
theorem c_Mod_nextState_35 (E : m_V p m c b_Mod_nextState 5 s args R_Mod D K) (hr : meth.sig.returnType = (some .int)) (hlk : meth.locks = false) (hz : s.heap.size + 0 = B + n)   : ∀ (g : m_G) (x1 : Int32) (x2 : Int32) (x3 : Int32) (x4 : Int32) (r : Int32) (g' : m_G), f_Mod_nextState_35 g x1 x2 x3 x4 = some (r, g') → ∀ (H : Heap) (locs : List Loc), m_S D B K n g s.heap H locs → ∀ ls : Array Slot, lv_has ls 5 [(1, .int x1), (2, .int x2), (3, .int x3), (4, .int x4)] → W p l e ({ frames := 1, cells := 0, slots := 0, locals := 20 } : Room) s m args below meth c H locs 0 0 (MQ below (m_Q D B K (some (.int r)) n g') args s 0 0 (fun q => B ≤ q)) (F0 m 35 ls []) := by
  have hx := E.1.1
  have hb := E.1.2.1
  have hts := E.1.2.2.2.2
  intro g x1 x2 x3 x4 r g' hF H locs S ls hl
  unfold f_Mod_nextState_35 at hF
  refine lv_iload_n hx hb d_Mod_nextState_35 rfl (lv_at hl 0 rfl) ?_
  refine lv_if_ne (tgt := 52) hx hb d_Mod_nextState_36 (by decide) (fun c_1 => ?_) (fun c_1 => ?_)
  · rw [if_neg c_1] at hF
    refine lv_iload_n hx hb d_Mod_nextState_52 rfl (lv_at hl 0 rfl) ?_
    refine lv_iconst (v := 3) hx hb d_Mod_nextState_53 (by decide) ?_
    refine lv_icmp_ne (tgt := 70) hx hb d_Mod_nextState_54 (by decide) (fun c_2 => ?_) (fun c_2 => ?_)
    · rw [if_neg c_2] at hF
      refine lv_iload_n hx hb d_Mod_nextState_70 rfl (lv_at hl 0 rfl) ?_
      refine lv_iconst (v := 4) hx hb d_Mod_nextState_71 (by decide) ?_
      refine lv_icmp_ne (tgt := 93) hx hb d_Mod_nextState_72 (by decide) (fun c_3 => ?_) (fun c_3 => ?_)
      · rw [if_neg c_3] at hF
        refine lv_iload_n hx hb d_Mod_nextState_93 rfl (lv_at hl 0 rfl) ?_
        refine lv_iconst (v := 5) hx hb d_Mod_nextState_94 (by decide) ?_
        refine lv_icmp_eq (tgt := 107) hx hb d_Mod_nextState_95 (by decide) (fun c_4 => ?_) (fun c_4 => ?_)
        · rw [if_pos c_4] at hF
          exact c_Mod_nextState_107 E hr hlk hz _ _ _ _ _ _ _ hF _ _ S _ (lv_sub hl [0, 1, 2, 3] rfl)
        · rw [if_neg c_4] at hF
          refine lv_iload_n hx hb d_Mod_nextState_98 rfl (lv_at hl 1 rfl) ?_
          replace hF := m_bd_inv hF
          obtain ⟨v_6, g_5, eg_5, hF⟩ := hF
          refine m_callS (B := B) (nn := 1) (As := [.int x2]) (rest := []) (v := (some (.int v_6))) E S hz (c_Mod_isLetter l D B K n g x2 v_6 g_5 eg_5) qc_Mod_isLetter ⟨rfl, rfl⟩ (Or.inl qw_360) qw_361 qw_304 (by decide +kernel) ⟨Nat.le_of_ble_eq_true rfl, Nat.le_of_ble_eq_true rfl⟩ rfl hl.1 (Nat.le_of_ble_eq_true rfl) d_Mod_nextState_99 ⟨Nat.le_of_ble_eq_true rfl, Nat.le_of_ble_eq_true rfl⟩ (fun H locs S => ?_)
          refine W.eq (g2 := F0 m 102 ls [.int v_6]) rfl ?_
          refine lv_if_eq (tgt := 107) hx hb d_Mod_nextState_102 (by decide) (fun c_7 => ?_) (fun c_7 => ?_)
          · rw [if_pos c_7] at hF
            exact c_Mod_nextState_107 E hr hlk hz _ _ _ _ _ _ _ hF _ _ S _ (lv_sub hl [0, 1, 2, 3] rfl)
          · rw [if_neg c_7] at hF
            refine lv_iconst (v := 2) hx hb d_Mod_nextState_105 (by decide) ?_
            cases hF
            exact m_iret E S hz hr hlk d_Mod_nextState_106
      · rw [if_pos c_3] at hF
        refine lv_iload_n hx hb d_Mod_nextState_75 rfl (lv_at hl 1 rfl) ?_
        refine lv_bipush (v := 48) hx hb d_Mod_nextState_76 (by decide) ?_
        refine lv_icmp_lt (tgt := 91) hx hb d_Mod_nextState_78 (by decide) (fun c_8 => ?_) (fun c_8 => ?_)
        · rw [if_pos c_8] at hF
          exact c_Mod_nextState_91 E hr hlk hz _ _ _ hF _ _ S _ (lv_sub hl [] rfl)
        · rw [if_neg c_8] at hF
          refine lv_iload_n hx hb d_Mod_nextState_81 rfl (lv_at hl 1 rfl) ?_
          refine lv_bipush (v := 55) hx hb d_Mod_nextState_82 (by decide) ?_
          refine lv_icmp_gt (tgt := 91) hx hb d_Mod_nextState_84 (by decide) (fun c_9 => ?_) (fun c_9 => ?_)
          · rw [if_pos c_9] at hF
            exact c_Mod_nextState_91 E hr hlk hz _ _ _ hF _ _ S _ (lv_sub hl [] rfl)
          · rw [if_neg c_9] at hF
            refine lv_iconst (v := 5) hx hb d_Mod_nextState_87 (by decide) ?_
            refine lv_goto (tgt := 92) hx hb d_Mod_nextState_88 (by decide) ?_
            exact c_Mod_nextState_92 E hr hlk hz _ _ _ _ hF _ _ S _ (lv_sub hl [] rfl)
    · rw [if_pos c_2] at hF
      refine lv_iload_n hx hb d_Mod_nextState_57 rfl (lv_at hl 1 rfl) ?_
      replace hF := m_bd_inv hF
      obtain ⟨v_11, g_10, eg_10, hF⟩ := hF
      refine m_callS (B := B) (nn := 1) (As := [.int x2]) (rest := []) (v := (some (.int v_11))) E S hz (c_Mod_isLetter l D B K n g x2 v_11 g_10 eg_10) qc_Mod_isLetter ⟨rfl, rfl⟩ (Or.inl qw_360) qw_361 qw_304 (by decide +kernel) ⟨Nat.le_of_ble_eq_true rfl, Nat.le_of_ble_eq_true rfl⟩ rfl hl.1 (Nat.le_of_ble_eq_true rfl) d_Mod_nextState_58 ⟨Nat.le_of_ble_eq_true rfl, Nat.le_of_ble_eq_true rfl⟩ (fun H locs S => ?_)
      refine W.eq (g2 := F0 m 61 ls [.int v_11]) rfl ?_
      refine lv_if_eq (tgt := 68) hx hb d_Mod_nextState_61 (by decide) (fun c_12 => ?_) (fun c_12 => ?_)
      · rw [if_pos c_12] at hF
        refine lv_iconst (v := (-1)) hx hb d_Mod_nextState_68 (by decide) ?_
        exact c_Mod_nextState_69 E hr hlk hz _ _ _ _ hF _ _ S _ (lv_sub hl [] rfl)
      · rw [if_neg c_12] at hF
        refine lv_iconst (v := 2) hx hb d_Mod_nextState_64 (by decide) ?_
        refine lv_goto (tgt := 69) hx hb d_Mod_nextState_65 (by decide) ?_
        exact c_Mod_nextState_69 E hr hlk hz _ _ _ _ hF _ _ S _ (lv_sub hl [] rfl)
  · rw [if_pos c_1] at hF
    refine lv_iload_n hx hb d_Mod_nextState_39 rfl (lv_at hl 1 rfl) ?_
    replace hF := m_bd_inv hF
    obtain ⟨v_14, g_13, eg_13, hF⟩ := hF
    refine m_callS (B := B) (nn := 1) (As := [.int x2]) (rest := []) (v := (some (.int v_14))) E S hz (c_Mod_isLetter l D B K n g x2 v_14 g_13 eg_13) qc_Mod_isLetter ⟨rfl, rfl⟩ (Or.inl qw_360) qw_361 qw_304 (by decide +kernel) ⟨Nat.le_of_ble_eq_true rfl, Nat.le_of_ble_eq_true rfl⟩ rfl hl.1 (Nat.le_of_ble_eq_true rfl) d_Mod_nextState_40 ⟨Nat.le_of_ble_eq_true rfl, Nat.le_of_ble_eq_true rfl⟩ (fun H locs S => ?_)
    refine W.eq (g2 := F0 m 43 ls [.int v_14]) rfl ?_
    refine lv_if_eq (tgt := 50) hx hb d_Mod_nextState_43 (by decide) (fun c_15 => ?_) (fun c_15 => ?_)
    · rw [if_pos c_15] at hF
      refine lv_iconst (v := (-1)) hx hb d_Mod_nextState_50 (by decide) ?_
      exact c_Mod_nextState_51 E hr hlk hz _ _ _ _ hF _ _ S _ (lv_sub hl [] rfl)
    · rw [if_neg c_15] at hF
      refine lv_iconst (v := 1) hx hb d_Mod_nextState_46 (by decide) ?_
      refine lv_goto (tgt := 51) hx hb d_Mod_nextState_47 (by decide) ?_
      exact c_Mod_nextState_51 E hr hlk hz _ _ _ _ hF _ _ S _ (lv_sub hl [] rfl)
def f_Mod_nextState_34   (g : m_G) (y0 : Int32) : Option (Int32 × m_G) :=
  some (y0, g)
set_option maxHeartbeats 1000000 in
set_option maxRecDepth 100000 in
theorem c_Mod_nextState_34 (E : m_V p m c b_Mod_nextState 5 s args R_Mod D K) (hr : meth.sig.returnType = (some .int)) (hlk : meth.locks = false) (hz : s.heap.size + 0 = B + n)   : ∀ (g : m_G) (y0 : Int32) (r : Int32) (g' : m_G), f_Mod_nextState_34 g y0 = some (r, g') → ∀ (H : Heap) (locs : List Loc), m_S D B K n g s.heap H locs → ∀ ls : Array Slot, lv_has ls 5 [] → W p l e ({ frames := 1, cells := 0, slots := 0, locals := 20 } : Room) s m args below meth c H locs 0 0 (MQ below (m_Q D B K (some (.int r)) n g') args s 0 0 (fun q => B ≤ q)) (F0 m 34 ls [.int y0]) := by
  have hx := E.1.1
  have hb := E.1.2.1
  have hts := E.1.2.2.2.2
  intro g y0 r g' hF H locs S ls hl
  unfold f_Mod_nextState_34 at hF
  cases hF
  exact m_iret E S hz hr hlk d_Mod_nextState_34
def f_Mod_nextState_12   (g : m_G) (x1 : Int32) (x2 : Int32) (x3 : Int32) (x4 : Int32) : Option (Int32 × m_G) :=
  if (x1 : Int32) = 0 then
    if (x2 : Int32) = 40 then
      if (x4 : Int32) = 6 then
        f_Mod_nextState_34 g (-1)
      else
        f_Mod_nextState_34 g 0
    else
      f_Mod_nextState_35 g x1 x2 x3 x4
  else
    f_Mod_nextState_35 g x1 x2 x3 x4
set_option maxHeartbeats 1000000 in
set_option maxRecDepth 100000 in
theorem c_Mod_nextState_12 (E : m_V p m c b_Mod_nextState 5 s args R_Mod D K) (hr : meth.sig.returnType = (some .int)) (hlk : meth.locks = false) (hz : s.heap.size + 0 = B + n)   : ∀ (g : m_G) (x1 : Int32) (x2 : Int32) (x3 : Int32) (x4 : Int32) (r : Int32) (g' : m_G), f_Mod_nextState_12 g x1 x2 x3 x4 = some (r, g') → ∀ (H : Heap) (locs : List Loc), m_S D B K n g s.heap H locs → ∀ ls : Array Slot, lv_has ls 5 [(1, .int x1), (2, .int x2), (3, .int x3), (4, .int x4)] → W p l e ({ frames := 1, cells := 0, slots := 0, locals := 20 } : Room) s m args below meth c H locs 0 0 (MQ below (m_Q D B K (some (.int r)) n g') args s 0 0 (fun q => B ≤ q)) (F0 m 12 ls []) := by
  have hx := E.1.1
  have hb := E.1.2.1
  have hts := E.1.2.2.2.2
  intro g x1 x2 x3 x4 r g' hF H locs S ls hl
  unfold f_Mod_nextState_12 at hF
  refine lv_iload_n hx hb d_Mod_nextState_12 rfl (lv_at hl 0 rfl) ?_
  refine lv_if_ne (tgt := 35) hx hb d_Mod_nextState_13 (by decide) (fun c_1 => ?_) (fun c_1 => ?_)
  · rw [if_neg c_1] at hF
    exact c_Mod_nextState_35 E hr hlk hz _ _ _ _ _ _ _ hF _ _ S _ (lv_sub hl [0, 1, 2, 3] rfl)
  · rw [if_pos c_1] at hF
    refine lv_iload_n hx hb d_Mod_nextState_16 rfl (lv_at hl 1 rfl) ?_
    refine lv_bipush (v := 40) hx hb d_Mod_nextState_17 (by decide) ?_
    refine lv_icmp_ne (tgt := 35) hx hb d_Mod_nextState_19 (by decide) (fun c_2 => ?_) (fun c_2 => ?_)
    · rw [if_neg c_2] at hF
      exact c_Mod_nextState_35 E hr hlk hz _ _ _ _ _ _ _ hF _ _ S _ (lv_sub hl [0, 1, 2, 3] rfl)
    · rw [if_pos c_2] at hF
      refine lv_iload hx hb d_Mod_nextState_22 (lv_at hl 3 rfl) ?_
      refine lv_bipush (v := 6) hx hb d_Mod_nextState_24 (by decide) ?_
      refine lv_icmp_ne (tgt := 33) hx hb d_Mod_nextState_26 (by decide) (fun c_3 => ?_) (fun c_3 => ?_)
      · rw [if_neg c_3] at hF
        refine lv_iconst (v := 0) hx hb d_Mod_nextState_33 (by decide) ?_
        exact c_Mod_nextState_34 E hr hlk hz _ _ _ _ hF _ _ S _ (lv_sub hl [] rfl)
      · rw [if_pos c_3] at hF
        refine lv_iconst (v := (-1)) hx hb d_Mod_nextState_29 (by decide) ?_
        refine lv_goto (tgt := 34) hx hb d_Mod_nextState_30 (by decide) ?_
        exact c_Mod_nextState_34 E hr hlk hz _ _ _ _ hF _ _ S _ (lv_sub hl [] rfl)
end S_Mod_nextState
def f_Mod_nextState  (g : m_G) (a0 : Nat) (x1 : Int32) (x2 : Int32) (x3 : Int32) (x4 : Int32) : Option (Int32 × m_G) :=
  if (x1 : Int32) = 0 then
    if (x2 : Int32) = 33 then
      some (0, g)
    else
      f_Mod_nextState_12 g x1 x2 x3 x4
  else
    f_Mod_nextState_12 g x1 x2 x3 x4
set_option maxHeartbeats 1000000 in
set_option maxRecDepth 100000 in
theorem c_Mod_nextState (l : Launch) (D : va_G) (B : Nat) (K : Nat → ClassId)  (n : Nat) (g : m_G) (a0 : Nat) (x1 : Int32) (x2 : Int32) (x3 : Int32) (x4 : Int32) (r : Int32) (g' : m_G) (hF : f_Mod_nextState g a0 x1 x2 x3 x4 = some (r, g')) : Met l y_Mod_nextState (Cond.code y_Mod_nextState b_Mod_nextState 5 (some .int) :: m_TB) ({ frames := 1, cells := 0, slots := 0, locals := 20 } : Room) (m_Pc D B K n g [.ref (B + a0), .int x1, .int x2, .int x3, .int x4]) (m_Q D B K (some (.int r)) n g') 0 0 (fun q => B ≤ q) := by
  refine m_met (by decide) (Nat.le_of_ble_eq_true rfl) ?_
  intro p e s m args below meth c ls E hr hlk hin hsz S hl
  have E : m_V p m c b_Mod_nextState 5 s args R_Mod D K := E
  have hz : s.heap.size + 0 = B + n := hsz
  have hl : lv_has ls 5 [(0, .ref (B + a0)), (1, .int x1), (2, .int x2), (3, .int x3), (4, .int x4)] := hl
  have hx := E.1.1
  have hb := E.1.2.1
  have hts := E.1.2.2.2.2
  unfold f_Mod_nextState at hF
  refine lv_iload_n hx hb d_Mod_nextState_0 rfl (lv_at hl 1 rfl) ?_
  refine lv_if_ne (tgt := 12) hx hb d_Mod_nextState_1 (by decide) (fun c_1 => ?_) (fun c_1 => ?_)
  · rw [if_neg c_1] at hF
    exact c_Mod_nextState_12 E hr hlk hz _ _ _ _ _ _ _ hF _ _ S _ (lv_sub hl [1, 2, 3, 4] rfl)
  · rw [if_pos c_1] at hF
    refine lv_iload_n hx hb d_Mod_nextState_4 rfl (lv_at hl 2 rfl) ?_
    refine lv_bipush (v := 33) hx hb d_Mod_nextState_5 (by decide) ?_
    refine lv_icmp_ne (tgt := 12) hx hb d_Mod_nextState_7 (by decide) (fun c_2 => ?_) (fun c_2 => ?_)
    · rw [if_neg c_2] at hF
      exact c_Mod_nextState_12 E hr hlk hz _ _ _ _ _ _ _ hF _ _ S _ (lv_sub hl [1, 2, 3, 4] rfl)
    · rw [if_pos c_2] at hF
      refine lv_iconst (v := 0) hx hb d_Mod_nextState_10 (by decide) ?_
      cases hF
      exact m_iret E S hz hr hlk d_Mod_nextState_11
