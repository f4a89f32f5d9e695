section S_Query_readColon
variable {p : Program} {l : Launch} {e : Env} {s : State} {m : MethodId} {args : Array Value} {below : List Frame} {meth : Method} {c : Code} {D : va_G} {B n : Nat} {K : Nat → ClassId}
def f_Query_readColon_25   (g : m_G)  : Option (Int32 × m_G) :=
  some (0, g)
set_option maxHeartbeats 1000000 in
set_option maxRecDepth 100000 in
theorem c_Query_readColon_25 (E : m_V p m c b_Query_readColon 3 s args R_Query D K) (hr : meth.sig.returnType = (some .boolean)) (hlk : meth.locks = false) (hz : s.heap.size + 0 = B + n)   : ∀ (g : m_G)  (r : Int32) (g' : m_G), f_Query_readColon_25 g  = some (r, g') → ∀ (H : Heap) (locs : List Loc), m_S D B K n g s.heap H locs → ∀ ls : Array Slot, lv_has ls 3 [] → W p l e ({ frames := 2, cells := 0, slots := 0, locals := 41 } : Room) s m args below meth c H locs 0 0 (MQ below (m_Q D B K (some (.int r)) n g') args s 0 0 (fun q => B ≤ q)) (F0 m 25 ls []) := by
  have hx := E.1.1
  have hb := E.1.2.1
  have hts := E.1.2.2.2.2
  intro g  r g' hF H locs S ls hl
  unfold f_Query_readColon_25 at hF
  refine lv_iconst (v := 0) hx hb d_Query_readColon_25 (by decide) ?_
  cases hF
  exact m_zret E S hz hr hlk (by decide) d_Query_readColon_26
def f_Query_readColon_101   (g : m_G) (y0 : Int32) : Option (Int32 × m_G) :=
  if (y0 : Int32) = 0 ∨ y0 = 1 then some (y0, g) else none
set_option maxHeartbeats 1000000 in
set_option maxRecDepth 100000 in
theorem c_Query_readColon_101 (E : m_V p m c b_Query_readColon 3 s args R_Query D K) (hr : meth.sig.returnType = (some .boolean)) (hlk : meth.locks = false) (hz : s.heap.size + 0 = B + n)   : ∀ (g : m_G) (y0 : Int32) (r : Int32) (g' : m_G), f_Query_readColon_101 g y0 = some (r, g') → ∀ (H : Heap) (locs : List Loc), m_S D B K n g s.heap H locs → ∀ ls : Array Slot, lv_has ls 3 [] → W p l e ({ frames := 2, cells := 0, slots := 0, locals := 41 } : Room) s m args below meth c H locs 0 0 (MQ below (m_Q D B K (some (.int r)) n g') args s 0 0 (fun q => B ≤ q)) (F0 m 101 ls [.int y0]) := by
  have hx := E.1.1
  have hb := E.1.2.1
  have hts := E.1.2.2.2.2
  intro g y0 r g' hF H locs S ls hl
  unfold f_Query_readColon_101 at hF
  by_cases c_1 : (y0 : Int32) = 0 ∨ y0 = 1
  · rw [if_pos c_1] at hF
    cases hF
    exact m_zret E S hz hr hlk c_1 d_Query_readColon_101
  · rw [if_neg c_1] at hF
    cases hF
def f_Query_readColon_96   (g : m_G)  : Option (Int32 × m_G) :=
  f_Query_readColon_101 g 1
set_option maxHeartbeats 1000000 in
set_option maxRecDepth 100000 in
theorem c_Query_readColon_96 (E : m_V p m c b_Query_readColon 3 s args R_Query D K) (hr : meth.sig.returnType = (some .boolean)) (hlk : meth.locks = false) (hz : s.heap.size + 0 = B + n)   : ∀ (g : m_G)  (r : Int32) (g' : m_G), f_Query_readColon_96 g  = some (r, g') → ∀ (H : Heap) (locs : List Loc), m_S D B K n g s.heap H locs → ∀ ls : Array Slot, lv_has ls 3 [] → W p l e ({ frames := 2, cells := 0, slots := 0, locals := 41 } : Room) s m args below meth c H locs 0 0 (MQ below (m_Q D B K (some (.int r)) n g') args s 0 0 (fun q => B ≤ q)) (F0 m 96 ls []) := by
  have hx := E.1.1
  have hb := E.1.2.1
  have hts := E.1.2.2.2.2
  intro g  r g' hF H locs S ls hl
  unfold f_Query_readColon_96 at hF
  refine lv_iconst (v := 1) hx hb d_Query_readColon_96 (by decide) ?_
  refine lv_goto (tgt := 101) hx hb d_Query_readColon_97 (by decide) ?_
  exact c_Query_readColon_101 E hr hlk hz _ _ _ _ hF _ _ S _ (lv_sub hl [] rfl)
def f_Query_readColon_81   (g : m_G) (a0 : Nat) (x2 : Int32) (y0 : Int32) (t1 : Option Nat) : Option (Int32 × m_G) :=
  Option.bind t1 fun a_1 =>
  (m_pI g a_1 7 5 y0).bind fun g_2 =>
  if (x2 : Int32) = 0 then
    (m_gI g_2 a0 7 6).bind fun v_4 =>
    if (v_4 : Int32) = (-1) then
      f_Query_readColon_101 g_2 0
    else
      f_Query_readColon_96 g_2 
  else
    f_Query_readColon_96 g_2 
set_option maxHeartbeats 1000000 in
set_option maxRecDepth 100000 in
theorem c_Query_readColon_81 (E : m_V p m c b_Query_readColon 3 s args R_Query D K) (hr : meth.sig.returnType = (some .boolean)) (hlk : meth.locks = false) (hz : s.heap.size + 0 = B + n)   : ∀ (g : m_G) (a0 : Nat) (x2 : Int32) (y0 : Int32) (t1 : Option Nat) (r : Int32) (g' : m_G), f_Query_readColon_81 g a0 x2 y0 t1 = some (r, g') → ∀ (H : Heap) (locs : List Loc), m_S D B K n g s.heap H locs → ∀ ls : Array Slot, lv_has ls 3 [(0, .ref (B + a0)), (2, .int x2)] → W p l e ({ frames := 2, cells := 0, slots := 0, locals := 41 } : Room) s m args below meth c H locs 0 0 (MQ below (m_Q D B K (some (.int r)) n g') args s 0 0 (fun q => B ≤ q)) (F0 m 81 ls [.int y0, m_r B t1]) := by
  have hx := E.1.1
  have hb := E.1.2.1
  have hts := E.1.2.2.2.2
  intro g a0 x2 y0 t1 r g' hF H locs S ls hl
  unfold f_Query_readColon_81 at hF
  replace hF := Option.bind_eq_some_iff.mp hF
  obtain ⟨a_1, ea_1, hF⟩ := hF
  subst ea_1
  replace hF := Option.bind_eq_some_iff.mp hF
  obtain ⟨g_2, eg_2, hF⟩ := hF
  refine m_putI (B := B) (a := a_1) E S fd_Query_state (Or.inl qw_44) eg_2 d_Query_readColon_81 (fun H locs S => ?_)
  refine lv_iload_n hx hb d_Query_readColon_84 rfl (lv_at hl 1 rfl) ?_
  refine lv_if_ne (tgt := 96) hx hb d_Query_readColon_85 (by decide) (fun c_3 => ?_) (fun c_3 => ?_)
  · rw [if_neg c_3] at hF
    exact c_Query_readColon_96 E hr hlk hz _ _ _ hF _ _ S _ (lv_sub hl [] rfl)
  · rw [if_pos c_3] at hF
    refine lv_aload_n hx hb d_Query_readColon_88 rfl (lv_at hl 0 rfl) ?_
    replace hF := Option.bind_eq_some_iff.mp hF
    obtain ⟨v_4, ev_4, hF⟩ := hF
    refine m_getI (B := B) (a := a0) E S fd_Query_inField (Or.inl qw_45) ev_4 d_Query_readColon_89 ?_
    refine lv_iconst (v := (-1)) hx hb d_Query_readColon_92 (by decide) ?_
    refine lv_icmp_eq (tgt := 100) hx hb d_Query_readColon_93 (by decide) (fun c_5 => ?_) (fun c_5 => ?_)
    · rw [if_pos c_5] at hF
      refine lv_iconst (v := 0) hx hb d_Query_readColon_100 (by decide) ?_
      exact c_Query_readColon_101 E hr hlk hz _ _ _ _ hF _ _ S _ (lv_sub hl [] rfl)
    · rw [if_neg c_5] at hF
      exact c_Query_readColon_96 E hr hlk hz _ _ _ hF _ _ S _ (lv_sub hl [] rfl)
def f_Query_readColon_49   (g : m_G) (a0 : Nat) (y0 : Int32) : Option (Int32 × m_G) :=
  (m_gR g a0 7 3).bind fun v_1 =>
  Option.bind v_1 fun a_2 =>
  (m_gL g a_2 3 0).bind fun v_3 =>
  m_bd (f_Query_fieldNamed g v_3) fun v_5 g_4 =>
  (m_pI g_4 a0 7 6 v_5).bind fun g_6 =>
  (m_gR g_6 a0 7 3).bind fun v_7 =>
  Option.bind v_7 fun a_8 =>
  m_gd (m_is g_6 a_8 3) <|
  m_bd (f_Letters_clear g_6 a_8) fun v_10 g_9 =>
  if (y0 : Int32) = 0 then
    f_Query_readColon_81 g_9 a0 y0 1 (some a0)
  else
    f_Query_readColon_81 g_9 a0 y0 3 (some a0)
set_option maxHeartbeats 1000000 in
set_option maxRecDepth 100000 in
theorem c_Query_readColon_49 (E : m_V p m c b_Query_readColon 3 s args R_Query D K) (hr : meth.sig.returnType = (some .boolean)) (hlk : meth.locks = false) (hz : s.heap.size + 0 = B + n)   : ∀ (g : m_G) (a0 : Nat) (y0 : Int32) (r : Int32) (g' : m_G), f_Query_readColon_49 g a0 y0 = some (r, g') → ∀ (H : Heap) (locs : List Loc), m_S D B K n g s.heap H locs → ∀ ls : Array Slot, lv_has ls 3 [(0, .ref (B + a0))] → W p l e ({ frames := 2, cells := 0, slots := 0, locals := 41 } : Room) s m args below meth c H locs 0 0 (MQ below (m_Q D B K (some (.int r)) n g') args s 0 0 (fun q => B ≤ q)) (F0 m 49 ls [.int y0]) := by
  have hx := E.1.1
  have hb := E.1.2.1
  have hts := E.1.2.2.2.2
  intro g a0 y0 r g' hF H locs S ls hl
  unfold f_Query_readColon_49 at hF
  refine lv_istore_n (lv' := [(2, .int y0), (0, .ref (B + a0))]) hx hb d_Query_readColon_49 rfl hl (by decide) rfl (fun ls hl => ?_)
  refine lv_aload_n hx hb d_Query_readColon_50 rfl (lv_at hl 1 rfl) ?_
  refine lv_aload_n hx hb d_Query_readColon_51 rfl (lv_at hl 1 rfl) ?_
  replace hF := Option.bind_eq_some_iff.mp hF
  obtain ⟨v_1, ev_1, hF⟩ := hF
  refine m_getR (B := B) (a := a0) E S fd_Query_letters (Or.inl qw_42) ev_1 d_Query_readColon_52 ?_
  replace hF := Option.bind_eq_some_iff.mp hF
  obtain ⟨a_2, ea_2, hF⟩ := hF
  subst ea_2
  replace hF := Option.bind_eq_some_iff.mp hF
  obtain ⟨v_3, ev_3, hF⟩ := hF
  refine m_getL (B := B) (a := a_2) E S fd_Letters_code (Or.inr ⟨_, qn_57⟩) ev_3 d_Query_readColon_55 ?_
  replace hF := m_bd_inv hF
  obtain ⟨v_5, g_4, eg_4, hF⟩ := hF
  refine m_callS (B := B) (nn := 1) (As := [.long v_3]) (rest := [.ref (B + a0)]) (v := (some (.int v_5))) E S hz (c_Query_fieldNamed l D B K n g v_3 v_5 g_4 eg_4) qc_Query_fieldNamed ⟨rfl, rfl⟩ (Or.inl qw_210) qw_211 qw_71 (by decide +kernel) ⟨Nat.le_of_ble_eq_true rfl, Nat.le_of_ble_eq_true rfl⟩ rfl hl.1 (Nat.le_of_ble_eq_true rfl) d_Query_readColon_58 ⟨Nat.le_of_ble_eq_true rfl, Nat.le_of_ble_eq_true rfl⟩ (fun H locs S => ?_)
  refine W.eq (g2 := F0 m 61 ls [.int v_5, .ref (B + a0)]) rfl ?_
  replace hF := Option.bind_eq_some_iff.mp hF
  obtain ⟨g_6, eg_6, hF⟩ := hF
  refine m_putI (B := B) (a := a0) E S fd_Query_inField (Or.inl qw_45) eg_6 d_Query_readColon_61 (fun H locs S => ?_)
  refine lv_aload_n hx hb d_Query_readColon_64 rfl (lv_at hl 1 rfl) ?_
  replace hF := Option.bind_eq_some_iff.mp hF
  obtain ⟨v_7, ev_7, hF⟩ := hF
  refine m_getR (B := B) (a := a0) E S fd_Query_letters (Or.inl qw_42) ev_7 d_Query_readColon_65 ?_
  replace hF := Option.bind_eq_some_iff.mp hF
  obtain ⟨a_8, ea_8, hF⟩ := hF
  subst ea_8
  replace hF := m_gd_inv hF
  obtain ⟨eog_9, hF⟩ := hF
  replace hF := m_bd_inv hF
  obtain ⟨v_10, g_9, eg_9, hF⟩ := hF
  refine m_callV (B := B) (nn := 0) (b := a_8) (As := []) (rest := []) (v := none) E S hz (c_Letters_clear l D B K n g_6 a_8 v_10 g_9 eg_9) qc_Letters_clear ⟨rfl, rfl⟩ (Or.inr ⟨_, qn_56⟩) qw_133 qw_134 qw_31 (by decide +kernel) ⟨Nat.le_of_ble_eq_true rfl, Nat.le_of_ble_eq_true rfl⟩ eog_9 rfl rfl hl.1 (Nat.le_of_ble_eq_true rfl) d_Query_readColon_68 ⟨Nat.le_of_ble_eq_true rfl, Nat.le_of_ble_eq_true rfl⟩ (fun H locs S => ?_)
  refine W.eq (g2 := F0 m 71 ls []) rfl ?_
  refine lv_aload_n hx hb d_Query_readColon_71 rfl (lv_at hl 1 rfl) ?_
  refine lv_iload_n hx hb d_Query_readColon_72 rfl (lv_at hl 0 rfl) ?_
  refine lv_if_eq (tgt := 80) hx hb d_Query_readColon_73 (by decide) (fun c_11 => ?_) (fun c_11 => ?_)
  · rw [if_pos c_11] at hF
    refine lv_iconst (v := 1) hx hb d_Query_readColon_80 (by decide) ?_
    exact c_Query_readColon_81 E hr hlk hz _ _ _ _ _ _ _ hF _ _ S _ (lv_sub hl [1, 0] rfl)
  · rw [if_neg c_11] at hF
    refine lv_iconst (v := 3) hx hb d_Query_readColon_76 (by decide) ?_
    refine lv_goto (tgt := 81) hx hb d_Query_readColon_77 (by decide) ?_
    exact c_Query_readColon_81 E hr hlk hz _ _ _ _ _ _ _ hF _ _ S _ (lv_sub hl [1, 0] rfl)
end S_Query_readColon
def f_Query_readColon  (g : m_G) (a0 : Nat) (x1 : Int32) : Option (Int32 × m_G) :=
  if (x1 : Int32) = 58 then
    (m_gR g a0 7 3).bind fun v_2 =>
    Option.bind v_2 fun a_3 =>
    (m_gI g a_3 3 1).bind fun v_4 =>
    if (v_4 : Int32) = 1 then
      (m_gI g a0 7 6).bind fun v_6 =>
      if (v_6 : Int32) = (-1) then
        (m_gR g a0 7 3).bind fun v_8 =>
        Option.bind v_8 fun a_9 =>
        (m_gL g a_9 3 0).bind fun v_10 =>
        m_bd (f_Arc_smallLetter g 116) fun v_12 g_11 =>
        if ((lg_cmp v_10 ((v_12 : Int32).toInt64)) : Int32) = 0 then
          f_Query_readColon_49 g_11 a0 1
        else
          f_Query_readColon_49 g_11 a0 0
      else
        f_Query_readColon_25 g 
    else
      f_Query_readColon_25 g 
  else
    f_Query_readColon_25 g 
set_option maxHeartbeats 1000000 in
set_option maxRecDepth 100000 in
theorem c_Query_readColon (l : Launch) (D : va_G) (B : Nat) (K : Nat → ClassId)  (n : Nat) (g : m_G) (a0 : Nat) (x1 : Int32) (r : Int32) (g' : m_G) (hF : f_Query_readColon g a0 x1 = some (r, g')) : Met l y_Query_readColon (Cond.code y_Query_readColon b_Query_readColon 3 (some .boolean) :: m_TB) ({ frames := 2, cells := 0, slots := 0, locals := 41 } : Room) (m_Pc D B K n g [.ref (B + a0), .int x1]) (m_Q D B K (some (.int r)) n g') 0 0 (fun q => B ≤ q) := by
  refine m_met (by decide) (Nat.le_of_ble_eq_true rfl) ?_
  intro p e s m args below meth c ls E hr hlk hin hsz S hl
  have E : m_V p m c b_Query_readColon 3 s args R_Query D K := E
  have hz : s.heap.size + 0 = B + n := hsz
  have hl : lv_has ls 3 [(0, .ref (B + a0)), (1, .int x1)] := hl
  have hx := E.1.1
  have hb := E.1.2.1
  have hts := E.1.2.2.2.2
  unfold f_Query_readColon at hF
  refine lv_iload_n hx hb d_Query_readColon_0 rfl (lv_at hl 1 rfl) ?_
  refine lv_bipush (v := 58) hx hb d_Query_readColon_1 (by decide) ?_
  refine lv_icmp_ne (tgt := 25) hx hb d_Query_readColon_3 (by decide) (fun c_1 => ?_) (fun c_1 => ?_)
  · rw [if_neg c_1] at hF
    exact c_Query_readColon_25 E hr hlk hz _ _ _ hF _ _ S _ (lv_sub hl [] rfl)
  · rw [if_pos c_1] at hF
    refine lv_aload_n hx hb d_Query_readColon_6 rfl (lv_at hl 0 rfl) ?_
    replace hF := Option.bind_eq_some_iff.mp hF
    obtain ⟨v_2, ev_2, hF⟩ := hF
    refine m_getR (B := B) (a := a0) E S fd_Query_letters (Or.inl qw_42) ev_2 d_Query_readColon_7 ?_
    replace hF := Option.bind_eq_some_iff.mp hF
    obtain ⟨a_3, ea_3, hF⟩ := hF
    subst ea_3
    replace hF := Option.bind_eq_some_iff.mp hF
    obtain ⟨v_4, ev_4, hF⟩ := hF
    refine m_getI (B := B) (a := a_3) E S fd_Letters_number (Or.inr ⟨_, qn_60⟩) ev_4 d_Query_readColon_10 ?_
    refine lv_iconst (v := 1) hx hb d_Query_readColon_13 (by decide) ?_
    refine lv_icmp_ne (tgt := 25) hx hb d_Query_readColon_14 (by decide) (fun c_5 => ?_) (fun c_5 => ?_)
    · rw [if_neg c_5] at hF
      exact c_Query_readColon_25 E hr hlk hz _ _ _ hF _ _ S _ (lv_sub hl [] rfl)
    · rw [if_pos c_5] at hF
      refine lv_aload_n hx hb d_Query_readColon_17 rfl (lv_at hl 0 rfl) ?_
      replace hF := Option.bind_eq_some_iff.mp hF
      obtain ⟨v_6, ev_6, hF⟩ := hF
      refine m_getI (B := B) (a := a0) E S fd_Query_inField (Or.inl qw_45) ev_6 d_Query_readColon_18 ?_
      refine lv_iconst (v := (-1)) hx hb d_Query_readColon_21 (by decide) ?_
      refine lv_icmp_eq (tgt := 27) hx hb d_Query_readColon_22 (by decide) (fun c_7 => ?_) (fun c_7 => ?_)
      · rw [if_pos c_7] at hF
        refine lv_aload_n hx hb d_Query_readColon_27 rfl (lv_at hl 0 rfl) ?_
        replace hF := Option.bind_eq_some_iff.mp hF
        obtain ⟨v_8, ev_8, hF⟩ := hF
        refine m_getR (B := B) (a := a0) E S fd_Query_letters (Or.inl qw_42) ev_8 d_Query_readColon_28 ?_
        replace hF := Option.bind_eq_some_iff.mp hF
        obtain ⟨a_9, ea_9, hF⟩ := hF
        subst ea_9
        replace hF := Option.bind_eq_some_iff.mp hF
        obtain ⟨v_10, ev_10, hF⟩ := hF
        refine m_getL (B := B) (a := a_9) E S fd_Letters_code (Or.inr ⟨_, qn_57⟩) ev_10 d_Query_readColon_31 ?_
        refine lv_bipush (v := 116) hx hb d_Query_readColon_34 (by decide) ?_
        replace hF := m_bd_inv hF
        obtain ⟨v_12, g_11, eg_11, hF⟩ := hF
        refine m_callS (B := B) (nn := 1) (As := [.int 116]) (rest := [.long v_10]) (v := (some (.int v_12))) E S hz (c_Arc_smallLetter l D B K n g 116 v_12 g_11 eg_11) qc_Arc_smallLetter ⟨rfl, rfl⟩ (Or.inr ⟨_, qn_59⟩) qw_131 qw_105 (by decide +kernel) ⟨Nat.le_of_ble_eq_true rfl, Nat.le_of_ble_eq_true rfl⟩ rfl hl.1 (Nat.le_of_ble_eq_true rfl) d_Query_readColon_36 ⟨Nat.le_of_ble_eq_true rfl, Nat.le_of_ble_eq_true rfl⟩ (fun H locs S => ?_)
        refine W.eq (g2 := F0 m 39 ls [.int v_12, .long v_10]) rfl ?_
        refine lv_i2l hx hb d_Query_readColon_39 rfl ?_
        refine W.lcmp hx hb d_Query_readColon_40 ?_
        refine lv_if_ne (tgt := 48) hx hb d_Query_readColon_41 (by decide) (fun c_13 => ?_) (fun c_13 => ?_)
        · rw [if_neg c_13] at hF
          refine lv_iconst (v := 0) hx hb d_Query_readColon_48 (by decide) ?_
          exact c_Query_readColon_49 E hr hlk hz _ _ _ _ _ hF _ _ S _ (lv_sub hl [0] rfl)
        · rw [if_pos c_13] at hF
          refine lv_iconst (v := 1) hx hb d_Query_readColon_44 (by decide) ?_
          refine lv_goto (tgt := 49) hx hb d_Query_readColon_45 (by decide) ?_
          exact c_Query_readColon_49 E hr hlk hz _ _ _ _ _ hF _ _ S _ (lv_sub hl [0] rfl)
      · rw [if_neg c_7] at hF
        exact c_Query_readColon_25 E hr hlk hz _ _ _ hF _ _ S _ (lv_sub hl [] rfl)
def f_Query_readLetter  (g : m_G) (a0 : Nat) (x1 : Int32) : Option (Int32 × m_G) :=
  m_bd (f_Arc_smallLetter g x1) fun v_2 g_1 =>
  if (v_2 : Int32) = 0 then
    some (0, g_1)
  else
    (m_gR g_1 a0 7 3).bind fun v_4 =>
    Option.bind v_4 fun a_5 =>
    m_gd (m_is g_1 a_5 3) <|
    m_bd (f_Letters_put g_1 a_5 v_2) fun v_7 g_6 =>
    (m_pI g_6 a0 7 5 2).bind fun g_8 =>
    some (1, g_8)
set_option maxHeartbeats 1000000 in
set_option maxRecDepth 100000 in
theorem c_Query_readLetter (l : Launch) (D : va_G) (B : Nat) (K : Nat → ClassId)  (n : Nat) (g : m_G) (a0 : Nat) (x1 : Int32) (r : Int32) (g' : m_G) (hF : f_Query_readLetter g a0 x1 = some (r, g')) : Met l y_Query_readLetter (Cond.code y_Query_readLetter b_Query_readLetter 3 (some .boolean) :: m_TB) ({ frames := 1, cells := 0, slots := 0, locals := 21 } : Room) (m_Pc D B K n g [.ref (B + a0), .int x1]) (m_Q D B K (some (.int r)) n g') 0 0 (fun q => B ≤ q) := by
  refine m_met (by decide) (Nat.le_of_ble_eq_true rfl) ?_
  intro p e s m args below meth c ls E hr hlk hin hsz S hl
  have E : m_V p m c b_Query_readLetter 3 s args R_Query D K := E
  have hz : s.heap.size + 0 = B + n := hsz
  have hl : lv_has ls 3 [(0, .ref (B + a0)), (1, .int x1)] := hl
  have hx := E.1.1
  have hb := E.1.2.1
  have hts := E.1.2.2.2.2
  unfold f_Query_readLetter at hF
  refine lv_iload_n hx hb d_Query_readLetter_0 rfl (lv_at hl 1 rfl) ?_
  replace hF := m_bd_inv hF
  obtain ⟨v_2, g_1, eg_1, hF⟩ := hF
  refine m_callS (B := B) (nn := 1) (As := [.int x1]) (rest := []) (v := (some (.int v_2))) E S hz (c_Arc_smallLetter l D B K n g x1 v_2 g_1 eg_1) qc_Arc_smallLetter ⟨rfl, rfl⟩ (Or.inr ⟨_, qn_59⟩) qw_131 qw_105 (by decide +kernel) ⟨Nat.le_of_ble_eq_true rfl, Nat.le_of_ble_eq_true rfl⟩ rfl hl.1 (Nat.le_of_ble_eq_true rfl) d_Query_readLetter_1 ⟨Nat.le_of_ble_eq_true rfl, Nat.le_of_ble_eq_true rfl⟩ (fun H locs S => ?_)
  refine W.eq (g2 := F0 m 4 ls [.int v_2]) rfl ?_
  refine lv_istore_n (lv' := [(2, .int v_2), (0, .ref (B + a0)), (1, .int x1)]) hx hb d_Query_readLetter_4 rfl hl (by decide) rfl (fun ls hl => ?_)
  refine lv_iload_n hx hb d_Query_readLetter_5 rfl (lv_at hl 0 rfl) ?_
  refine lv_if_ne (tgt := 11) hx hb d_Query_readLetter_6 (by decide) (fun c_3 => ?_) (fun c_3 => ?_)
  · rw [if_neg c_3] at hF
    refine lv_aload_n hx hb d_Query_readLetter_11 rfl (lv_at hl 1 rfl) ?_
    replace hF := Option.bind_eq_some_iff.mp hF
    obtain ⟨v_4, ev_4, hF⟩ := hF
    refine m_getR (B := B) (a := a0) E S fd_Query_letters (Or.inl qw_42) ev_4 d_Query_readLetter_12 ?_
    refine lv_iload_n hx hb d_Query_readLetter_15 rfl (lv_at hl 0 rfl) ?_
    replace hF := Option.bind_eq_some_iff.mp hF
    obtain ⟨a_5, ea_5, hF⟩ := hF
    subst ea_5
    replace hF := m_gd_inv hF
    obtain ⟨eog_6, hF⟩ := hF
    replace hF := m_bd_inv hF
    obtain ⟨v_7, g_6, eg_6, hF⟩ := hF
    refine m_callV (B := B) (nn := 1) (b := a_5) (As := [.int v_2]) (rest := []) (v := none) E S hz (c_Letters_put l D B K n g_1 a_5 v_2 v_7 g_6 eg_6) qc_Letters_put ⟨rfl, rfl⟩ (Or.inr ⟨_, qn_61⟩) qw_138 qw_139 qw_31 (by decide +kernel) ⟨Nat.le_of_ble_eq_true rfl, Nat.le_of_ble_eq_true rfl⟩ eog_6 rfl rfl hl.1 (Nat.le_of_ble_eq_true rfl) d_Query_readLetter_16 ⟨Nat.le_of_ble_eq_true rfl, Nat.le_of_ble_eq_true rfl⟩ (fun H locs S => ?_)
    refine W.eq (g2 := F0 m 19 ls []) rfl ?_
    refine lv_aload_n hx hb d_Query_readLetter_19 rfl (lv_at hl 1 rfl) ?_
    refine lv_iconst (v := 2) hx hb d_Query_readLetter_20 (by decide) ?_
    replace hF := Option.bind_eq_some_iff.mp hF
    obtain ⟨g_8, eg_8, hF⟩ := hF
    refine m_putI (B := B) (a := a0) E S fd_Query_state (Or.inl qw_44) eg_8 d_Query_readLetter_21 (fun H locs S => ?_)
    refine lv_iconst (v := 1) hx hb d_Query_readLetter_24 (by decide) ?_
    cases hF
    exact m_zret E S hz hr hlk (by decide) d_Query_readLetter_25
  · rw [if_pos c_3] at hF
    refine lv_iconst (v := 0) hx hb d_Query_readLetter_9 (by decide) ?_
    cases hF
    exact m_zret E S hz hr hlk (by decide) d_Query_readLetter_10
section S_Query_readNot
variable {p : Program} {l : Launch} {e : Env} {s : State} {m : MethodId} {args : Array Value} {below : List Frame} {meth : Method} {c : Code} {D : va_G} {B n : Nat} {K : Nat → ClassId}
def f_Query_readNot_33   (g : m_G) (y0 : Int32) (y1 : Int32) (t2 : Option Nat) : Option (Int32 × m_G) :=
  Option.bind t2 fun a_1 =>
  (m_st g a_1 3 y1 (vp_nar .boolean y0)).bind fun g_2 =>
  some (1, g_2)
set_option maxHeartbeats 1000000 in
set_option maxRecDepth 100000 in
theorem c_Query_readNot_33 (E : m_V p m c b_Query_readNot 2 s args R_Query D K) (hr : meth.sig.returnType = (some .boolean)) (hlk : meth.locks = false) (hz : s.heap.size + 0 = B + n)   : ∀ (g : m_G) (y0 : Int32) (y1 : Int32) (t2 : Option Nat) (r : Int32) (g' : m_G), f_Query_readNot_33 g y0 y1 t2 = some (r, g') → ∀ (H : Heap) (locs : List Loc), m_S D B K n g s.heap H locs → ∀ ls : Array Slot, lv_has ls 2 [] → W p l e ({ frames := 0, cells := 0, slots := 0, locals := 0 } : Room) s m args below meth c H locs 0 0 (MQ below (m_Q D B K (some (.int r)) n g') args s 0 0 (fun q => B ≤ q)) (F0 m 33 ls [.int y0, .int y1, m_r B t2]) := by
  have hx := E.1.1
  have hb := E.1.2.1
  have hts := E.1.2.2.2.2
  intro g y0 y1 t2 r g' hF H locs S ls hl
  unfold f_Query_readNot_33 at hF
  replace hF := Option.bind_eq_some_iff.mp hF
  obtain ⟨a_1, ea_1, hF⟩ := hF
  subst ea_1
  replace hF := Option.bind_eq_some_iff.mp hF
  obtain ⟨g_2, eg_2, hF⟩ := hF
  refine m_zast (B := B) (a := a_1) (t := 3) E S rfl eg_2 d_Query_readNot_33 (fun H locs S => ?_)
  refine lv_iconst (v := 1) hx hb d_Query_readNot_34 (by decide) ?_
  cases hF
  exact m_zret E S hz hr hlk (by decide) d_Query_readNot_35
end S_Query_readNot
def f_Query_readNot  (g : m_G) (a0 : Nat) (x1 : Int32) : Option (Int32 × m_G) :=
  if (x1 : Int32) = 33 then
    (m_gR g a0 7 2).bind fun v_2 =>
    (m_gI g a0 7 4).bind fun v_3 =>
    (m_gR g a0 7 2).bind fun v_4 =>
    (m_gI g a0 7 4).bind fun v_5 =>
    Option.bind v_4 fun a_6 =>
    (m_ld g a_6 3 v_5).bind fun v_7 =>
    if (v_7 : Int32) = 0 then
      f_Query_readNot_33 g 1 v_3 v_2
    else
      f_Query_readNot_33 g 0 v_3 v_2
  else
    some (0, g)
set_option maxHeartbeats 1000000 in
set_option maxRecDepth 100000 in
theorem c_Query_readNot (l : Launch) (D : va_G) (B : Nat) (K : Nat → ClassId)  (n : Nat) (g : m_G) (a0 : Nat) (x1 : Int32) (r : Int32) (g' : m_G) (hF : f_Query_readNot g a0 x1 = some (r, g')) : Met l y_Query_readNot (Cond.code y_Query_readNot b_Query_readNot 2 (some .boolean) :: m_TB) ({ frames := 0, cells := 0, slots := 0, locals := 0 } : Room) (m_Pc D B K n g [.ref (B + a0), .int x1]) (m_Q D B K (some (.int r)) n g') 0 0 (fun q => B ≤ q) := by
  refine m_met (by decide) (Nat.le_of_ble_eq_true rfl) ?_
  intro p e s m args below meth c ls E hr hlk hin hsz S hl
  have E : m_V p m c b_Query_readNot 2 s args R_Query D K := E
  have hz : s.heap.size + 0 = B + n := hsz
  have hl : lv_has ls 2 [(0, .ref (B + a0)), (1, .int x1)] := hl
  have hx := E.1.1
  have hb := E.1.2.1
  have hts := E.1.2.2.2.2
  unfold f_Query_readNot at hF
  refine lv_iload_n hx hb d_Query_readNot_0 rfl (lv_at hl 1 rfl) ?_
  refine lv_bipush (v := 33) hx hb d_Query_readNot_1 (by decide) ?_
  refine lv_icmp_eq (tgt := 8) hx hb d_Query_readNot_3 (by decide) (fun c_1 => ?_) (fun c_1 => ?_)
  · rw [if_pos c_1] at hF
    refine lv_aload_n hx hb d_Query_readNot_8 rfl (lv_at hl 0 rfl) ?_
    replace hF := Option.bind_eq_some_iff.mp hF
    obtain ⟨v_2, ev_2, hF⟩ := hF
    refine m_getR (B := B) (a := a0) E S fd_Query_isNegated (Or.inl qw_40) ev_2 d_Query_readNot_9 ?_
    refine lv_aload_n hx hb d_Query_readNot_12 rfl (lv_at hl 0 rfl) ?_
    replace hF := Option.bind_eq_some_iff.mp hF
    obtain ⟨v_3, ev_3, hF⟩ := hF
    refine m_getI (B := B) (a := a0) E S fd_Query_level (Or.inl qw_43) ev_3 d_Query_readNot_13 ?_
    refine lv_aload_n hx hb d_Query_readNot_16 rfl (lv_at hl 0 rfl) ?_
    replace hF := Option.bind_eq_some_iff.mp hF
    obtain ⟨v_4, ev_4, hF⟩ := hF
    refine m_getR (B := B) (a := a0) E S fd_Query_isNegated (Or.inl qw_40) ev_4 d_Query_readNot_17 ?_
    refine lv_aload_n hx hb d_Query_readNot_20 rfl (lv_at hl 0 rfl) ?_
    replace hF := Option.bind_eq_some_iff.mp hF
    obtain ⟨v_5, ev_5, hF⟩ := hF
    refine m_getI (B := B) (a := a0) E S fd_Query_level (Or.inl qw_43) ev_5 d_Query_readNot_21 ?_
    replace hF := Option.bind_eq_some_iff.mp hF
    obtain ⟨a_6, ea_6, hF⟩ := hF
    subst ea_6
    replace hF := Option.bind_eq_some_iff.mp hF
    obtain ⟨v_7, ev_7, hF⟩ := hF
    refine m_zald (B := B) (a := a_6) (t := 3) E S rfl ev_7 d_Query_readNot_24 ?_
    refine lv_if_ne (tgt := 32) hx hb d_Query_readNot_25 (by decide) (fun c_8 => ?_) (fun c_8 => ?_)
    · rw [if_neg c_8] at hF
      refine lv_iconst (v := 0) hx hb d_Query_readNot_32 (by decide) ?_
      exact c_Query_readNot_33 E hr hlk hz _ _ _ _ _ _ hF _ _ S _ (lv_sub hl [] rfl)
    · rw [if_pos c_8] at hF
      refine lv_iconst (v := 1) hx hb d_Query_readNot_28 (by decide) ?_
      refine lv_goto (tgt := 33) hx hb d_Query_readNot_29 (by decide) ?_
      exact c_Query_readNot_33 E hr hlk hz _ _ _ _ _ _ hF _ _ S _ (lv_sub hl [] rfl)
  · rw [if_neg c_1] at hF
    refine lv_iconst (v := 0) hx hb d_Query_readNot_6 (by decide) ?_
    cases hF
    exact m_zret E S hz hr hlk (by decide) d_Query_readNot_7
section S_Query_readOpening
variable {p : Program} {l : Launch} {e : Env} {s : State} {m : MethodId} {args : Array Value} {below : List Frame} {meth : Method} {c : Code} {D : va_G} {B n : Nat} {K : Nat → ClassId}
def f_Query_readOpening_17   (g : m_G)  : Option (Int32 × m_G) :=
  some (0, g)
set_option maxHeartbeats 1000000 in
set_option maxRecDepth 100000 in
theorem c_Query_readOpening_17 (E : m_V p m c b_Query_readOpening 2 s args R_Query D K) (hr : meth.sig.returnType = (some .boolean)) (hlk : meth.locks = false) (hz : s.heap.size + 0 = B + n)   : ∀ (g : m_G)  (r : Int32) (g' : m_G), f_Query_readOpening_17 g  = some (r, g') → ∀ (H : Heap) (locs : List Loc), m_S D B K n g s.heap H locs → ∀ ls : Array Slot, lv_has ls 2 [] → W p l e ({ frames := 3, cells := 0, slots := 0, locals := 60 } : Room) s m args below meth c H locs 0 0 (MQ below (m_Q D B K (some (.int r)) n g') args s 0 0 (fun q => B ≤ q)) (F0 m 17 ls []) := by
  have hx := E.1.1
  have hb := E.1.2.1
  have hts := E.1.2.2.2.2
  intro g  r g' hF H locs S ls hl
  unfold f_Query_readOpening_17 at hF
  refine lv_iconst (v := 0) hx hb d_Query_readOpening_17 (by decide) ?_
  cases hF
  exact m_zret E S hz hr hlk (by decide) d_Query_readOpening_18
end S_Query_readOpening
def f_Query_readOpening  (g : m_G) (a0 : Nat) (x1 : Int32) : Option (Int32 × m_G) :=
  if (x1 : Int32) = 40 then
    (m_gI g a0 7 4).bind fun v_2 =>
    if ((v_2 + 1) : Int32) < 7 then
      (m_gI g a0 7 4).bind fun v_4 =>
      (m_pI g a0 7 4 (v_4 + 1)).bind fun g_5 =>
      m_gd (m_is g_5 a0 7) <|
      m_bd (f_Query_beginLevel g_5 a0) fun v_7 g_6 =>
      some (1, g_6)
    else
      f_Query_readOpening_17 g 
  else
    f_Query_readOpening_17 g 
set_option maxHeartbeats 1000000 in
set_option maxRecDepth 100000 in
theorem c_Query_readOpening (l : Launch) (D : va_G) (B : Nat) (K : Nat → ClassId)  (n : Nat) (g : m_G) (a0 : Nat) (x1 : Int32) (r : Int32) (g' : m_G) (hF : f_Query_readOpening g a0 x1 = some (r, g')) : Met l y_Query_readOpening (Cond.code y_Query_readOpening b_Query_readOpening 2 (some .boolean) :: m_TB) ({ frames := 3, cells := 0, slots := 0, locals := 60 } : Room) (m_Pc D B K n g [.ref (B + a0), .int x1]) (m_Q D B K (some (.int r)) n g') 0 0 (fun q => B ≤ q) := by
  refine m_met (by decide) (Nat.le_of_ble_eq_true rfl) ?_
  intro p e s m args below meth c ls E hr hlk hin hsz S hl
  have E : m_V p m c b_Query_readOpening 2 s args R_Query D K := E
  have hz : s.heap.size + 0 = B + n := hsz
  have hl : lv_has ls 2 [(0, .ref (B + a0)), (1, .int x1)] := hl
  have hx := E.1.1
  have hb := E.1.2.1
  have hts := E.1.2.2.2.2
  unfold f_Query_readOpening at hF
  refine lv_iload_n hx hb d_Query_readOpening_0 rfl (lv_at hl 1 rfl) ?_
  refine lv_bipush (v := 40) hx hb d_Query_readOpening_1 (by decide) ?_
  refine lv_icmp_ne (tgt := 17) hx hb d_Query_readOpening_3 (by decide) (fun c_1 => ?_) (fun c_1 => ?_)
  · rw [if_neg c_1] at hF
    exact c_Query_readOpening_17 E hr hlk hz _ _ _ hF _ _ S _ (lv_sub hl [] rfl)
  · rw [if_pos c_1] at hF
    refine lv_aload_n hx hb d_Query_readOpening_6 rfl (lv_at hl 0 rfl) ?_
    replace hF := Option.bind_eq_some_iff.mp hF
    obtain ⟨v_2, ev_2, hF⟩ := hF
    refine m_getI (B := B) (a := a0) E S fd_Query_level (Or.inl qw_43) ev_2 d_Query_readOpening_7 ?_
    refine lv_iconst (v := 1) hx hb d_Query_readOpening_10 (by decide) ?_
    refine lv_iadd hx hb d_Query_readOpening_11 ?_
    refine lv_bipush (v := 7) hx hb d_Query_readOpening_12 (by decide) ?_
    refine lv_icmp_lt (tgt := 19) hx hb d_Query_readOpening_14 (by decide) (fun c_3 => ?_) (fun c_3 => ?_)
    · rw [if_pos c_3] at hF
      refine lv_aload_n hx hb d_Query_readOpening_19 rfl (lv_at hl 0 rfl) ?_
      refine lv_dup hx hb d_Query_readOpening_20 rfl ?_
      replace hF := Option.bind_eq_some_iff.mp hF
      obtain ⟨v_4, ev_4, hF⟩ := hF
      refine m_getI (B := B) (a := a0) E S fd_Query_level (Or.inl qw_43) ev_4 d_Query_readOpening_21 ?_
      refine lv_iconst (v := 1) hx hb d_Query_readOpening_24 (by decide) ?_
      refine lv_iadd hx hb d_Query_readOpening_25 ?_
      replace hF := Option.bind_eq_some_iff.mp hF
      obtain ⟨g_5, eg_5, hF⟩ := hF
      refine m_putI (B := B) (a := a0) E S fd_Query_level (Or.inl qw_43) eg_5 d_Query_readOpening_26 (fun H locs S => ?_)
      refine lv_aload_n hx hb d_Query_readOpening_29 rfl (lv_at hl 0 rfl) ?_
      replace hF := m_gd_inv hF
      obtain ⟨eog_6, hF⟩ := hF
      replace hF := m_bd_inv hF
      obtain ⟨v_7, g_6, eg_6, hF⟩ := hF
      refine m_callV (B := B) (nn := 0) (b := a0) (As := []) (rest := []) (v := none) E S hz (c_Query_beginLevel l D B K n g_5 a0 v_7 g_6 eg_6) qc_Query_beginLevel ⟨rfl, rfl⟩ (Or.inl qw_212) qw_213 qw_214 qw_71 (by decide +kernel) ⟨Nat.le_of_ble_eq_true rfl, Nat.le_of_ble_eq_true rfl⟩ eog_6 rfl rfl hl.1 (Nat.le_of_ble_eq_true rfl) d_Query_readOpening_30 ⟨Nat.le_of_ble_eq_true rfl, Nat.le_of_ble_eq_true rfl⟩ (fun H locs S => ?_)
      refine W.eq (g2 := F0 m 33 ls []) rfl ?_
      refine lv_iconst (v := 1) hx hb d_Query_readOpening_33 (by decide) ?_
      cases hF
      exact m_zret E S hz hr hlk (by decide) d_Query_readOpening_34
    · rw [if_neg c_3] at hF
      exact c_Query_readOpening_17 E hr hlk hz _ _ _ hF _ _ S _ (lv_sub hl [] rfl)
section S_Message_hasTag
variable {p : Program} {l : Launch} {e : Env} {s : State} {m : MethodId} {args : Array Value} {below : List Frame} {meth : Method} {c : Code} {D : va_G} {B n : Nat} {K : Nat → ClassId}
def f_Message_hasTag_16   (g : m_G) (y0 : Int32) : Option (Int32 × m_G) :=
  if (y0 : Int32) = 0 ∨ y0 = 1 then some (y0, g) else none
set_option maxHeartbeats 1000000 in
set_option maxRecDepth 100000 in
theorem c_Message_hasTag_16 (E : m_V p m c b_Message_hasTag 2 s args R_Message D K) (hr : meth.sig.returnType = (some .boolean)) (hlk : meth.locks = false) (hz : s.heap.size + 0 = B + n)   : ∀ (g : m_G) (y0 : Int32) (r : Int32) (g' : m_G), f_Message_hasTag_16 g y0 = some (r, g') → ∀ (H : Heap) (locs : List Loc), m_S D B K n g s.heap H locs → ∀ ls : Array Slot, lv_has ls 2 [] → W p l e ({ frames := 0, cells := 0, slots := 0, locals := 0 } : Room) s m args below meth c H locs 0 0 (MQ below (m_Q D B K (some (.int r)) n g') args s 0 0 (fun q => B ≤ q)) (F0 m 16 ls [.int y0]) := by
  have hx := E.1.1
  have hb := E.1.2.1
  have hts := E.1.2.2.2.2
  intro g y0 r g' hF H locs S ls hl
  unfold f_Message_hasTag_16 at hF
  by_cases c_1 : (y0 : Int32) = 0 ∨ y0 = 1
  · rw [if_pos c_1] at hF
    cases hF
    exact m_zret E S hz hr hlk c_1 d_Message_hasTag_16
  · rw [if_neg c_1] at hF
    cases hF
end S_Message_hasTag
def f_Message_hasTag  (g : m_G) (a0 : Nat) (x1 : Int32) : Option (Int32 × m_G) :=
  (m_gI g a0 4 8).bind fun v_1 =>
  if (((v_1 >>> (x1 &&& 31)) &&& 1) : Int32) = 0 then
    f_Message_hasTag_16 g 0
  else
    f_Message_hasTag_16 g 1
set_option maxHeartbeats 1000000 in
set_option maxRecDepth 100000 in
theorem c_Message_hasTag (l : Launch) (D : va_G) (B : Nat) (K : Nat → ClassId)  (n : Nat) (g : m_G) (a0 : Nat) (x1 : Int32) (r : Int32) (g' : m_G) (hF : f_Message_hasTag g a0 x1 = some (r, g')) : Met l y_Message_hasTag (Cond.code y_Message_hasTag b_Message_hasTag 2 (some .boolean) :: m_TB) ({ frames := 0, cells := 0, slots := 0, locals := 0 } : Room) (m_Pc D B K n g [.ref (B + a0), .int x1]) (m_Q D B K (some (.int r)) n g') 0 0 (fun q => B ≤ q) := by
  refine m_met (by decide) (Nat.le_of_ble_eq_true rfl) ?_
  intro p e s m args below meth c ls E hr hlk hin hsz S hl
  have E : m_V p m c b_Message_hasTag 2 s args R_Message D K := E
  have hz : s.heap.size + 0 = B + n := hsz
  have hl : lv_has ls 2 [(0, .ref (B + a0)), (1, .int x1)] := hl
  have hx := E.1.1
  have hb := E.1.2.1
  have hts := E.1.2.2.2.2
  unfold f_Message_hasTag at hF
  refine lv_aload_n hx hb d_Message_hasTag_0 rfl (lv_at hl 0 rfl) ?_
  replace hF := Option.bind_eq_some_iff.mp hF
  obtain ⟨v_1, ev_1, hF⟩ := hF
  refine m_getI (B := B) (a := a0) E S fd_Message_tags (Or.inl qw_24) ev_1 d_Message_hasTag_1 ?_
  refine lv_iload_n hx hb d_Message_hasTag_4 rfl (lv_at hl 1 rfl) ?_
  refine lv_ishr hx hb d_Message_hasTag_5 ?_
  refine lv_iconst (v := 1) hx hb d_Message_hasTag_6 (by decide) ?_
  refine lv_iand hx hb d_Message_hasTag_7 ?_
  refine lv_if_eq (tgt := 15) hx hb d_Message_hasTag_8 (by decide) (fun c_2 => ?_) (fun c_2 => ?_)
  · rw [if_pos c_2] at hF
    refine lv_iconst (v := 0) hx hb d_Message_hasTag_15 (by decide) ?_
    exact c_Message_hasTag_16 E hr hlk hz _ _ _ _ hF _ _ S _ (lv_sub hl [] rfl)
  · rw [if_neg c_2] at hF
    refine lv_iconst (v := 1) hx hb d_Message_hasTag_11 (by decide) ?_
    refine lv_goto (tgt := 16) hx hb d_Message_hasTag_12 (by decide) ?_
    exact c_Message_hasTag_16 E hr hlk hz _ _ _ _ hF _ _ S _ (lv_sub hl [] rfl)
section S_Query_readTag
variable {p : Program} {l : Launch} {e : Env} {s : State} {m : MethodId} {args : Array Value} {below : List Frame} {meth : Method} {c : Code} {D : va_G} {B n : Nat} {K : Nat → ClassId}
def f_Query_readTag_15   (g : m_G)  : Option (Int32 × m_G) :=
  some (0, g)
set_option maxHeartbeats 1000000 in
set_option maxRecDepth 100000 in
theorem c_Query_readTag_15 (E : m_V p m c b_Query_readTag 6 s args R_Query D K) (hr : meth.sig.returnType = (some .boolean)) (hlk : meth.locks = false) (hz : s.heap.size + 0 = B + n)   : ∀ (g : m_G)  (r : Int32) (g' : m_G), f_Query_readTag_15 g  = some (r, g') → ∀ (H : Heap) (locs : List Loc), m_S D B K n g s.heap H locs → ∀ ls : Array Slot, lv_has ls 6 [] → W p l e ({ frames := 1, cells := 0, slots := 0, locals := 21 } : Room) s m args below meth c H locs 0 0 (MQ below (m_Q D B K (some (.int r)) n g') args s 0 0 (fun q => B ≤ q)) (F0 m 15 ls []) := by
  have hx := E.1.1
  have hb := E.1.2.1
  have hts := E.1.2.2.2.2
  intro g  r g' hF H locs S ls hl
  unfold f_Query_readTag_15 at hF
  refine lv_iconst (v := 0) hx hb d_Query_readTag_15 (by decide) ?_
  cases hF
  exact m_zret E S hz hr hlk (by decide) d_Query_readTag_16
def f_Query_readTag_50  (k_23 : m_G → Nat → Option Nat → Int32 → Int32 → Int32 → Option (Int32 × m_G)) (g : m_G) (a0 : Nat) (r2 : Option Nat) (x3 : Int32) (x4 : Int32) (x5 : Int32) : Option (Int32 × m_G) :=
  k_23 g a0 r2 x3 x4 (x5 + 1)
set_option maxHeartbeats 1000000 in
set_option maxRecDepth 100000 in
theorem c_Query_readTag_50 (E : m_V p m c b_Query_readTag 6 s args R_Query D K) (hr : meth.sig.returnType = (some .boolean)) (hlk : meth.locks = false) (hz : s.heap.size + 0 = B + n)  (k_23 : m_G → Nat → Option Nat → Int32 → Int32 → Int32 → Option (Int32 × m_G)) (hk_23 : ∀ (g : m_G) (a0 : Nat) (r2 : Option Nat) (x3 : Int32) (x4 : Int32) (x5 : Int32) (r : Int32) (g' : m_G), k_23 g a0 r2 x3 x4 x5 = some (r, g') → ∀ (H : Heap) (locs : List Loc), m_S D B K n g s.heap H locs → ∀ ls : Array Slot, lv_has ls 6 [(0, .ref (B + a0)), (2, m_r B r2), (3, .int x3), (4, .int x4), (5, .int x5)] → W p l e ({ frames := 1, cells := 0, slots := 0, locals := 21 } : Room) s m args below meth c H locs 0 0 (MQ below (m_Q D B K (some (.int r)) n g') args s 0 0 (fun q => B ≤ q)) (F0 m 23 ls [])) : ∀ (g : m_G) (a0 : Nat) (r2 : Option Nat) (x3 : Int32) (x4 : Int32) (x5 : Int32) (r : Int32) (g' : m_G), f_Query_readTag_50 k_23 g a0 r2 x3 x4 x5 = some (r, g') → ∀ (H : Heap) (locs : List Loc), m_S D B K n g s.heap H locs → ∀ ls : Array Slot, lv_has ls 6 [(0, .ref (B + a0)), (2, m_r B r2), (3, .int x3), (4, .int x4), (5, .int x5)] → W p l e ({ frames := 1, cells := 0, slots := 0, locals := 21 } : Room) s m args below meth c H locs 0 0 (MQ below (m_Q D B K (some (.int r)) n g') args s 0 0 (fun q => B ≤ q)) (F0 m 50 ls []) := by
  have hx := E.1.1
  have hb := E.1.2.1
  have hts := E.1.2.2.2.2
  intro g a0 r2 x3 x4 x5 r g' hF H locs S ls hl
  unfold f_Query_readTag_50 at hF
  refine lv_iinc (v := (x5 + 1)) (lv' := [(5, .int (x5 + 1)), (0, .ref (B + a0)), (2, m_r B r2), (3, .int x3), (4, .int x4)]) hx hb d_Query_readTag_50 hl (k := 4) rfl rfl (by decide) rfl (fun ls hl => ?_)
  refine lv_goto (tgt := 23) hx hb d_Query_readTag_53 (by decide) ?_
  exact hk_23 _ _ _ _ _ _ _ _ hF _ _ S _ (lv_sub hl [1, 2, 3, 4, 0] rfl)
def f_Query_readTag_23   : Nat → m_G → Nat → Option Nat → Int32 → Int32 → Int32 → Option (Int32 × m_G)
  | 0, _, _, _, _, _, _ => none
  | fu + 1, g, a0, r2, x3, x4, x5 =>
    Option.bind r2 fun a_1 =>
    (m_len g a_1).bind fun v_2 =>
    if (v_2 : Int32) ≤ x5 then
      m_gd (m_is g a0 7) <|
      m_bd (f_Query_endOne g a0 x4) fun v_5 g_4 =>
      some (1, g_4)
    else
      (m_ldR g a_1 5 x5).bind fun v_6 =>
      Option.bind v_6 fun a_7 =>
      m_gd (m_is g a_7 4) <|
      m_bd (f_Message_hasTag g a_7 x3) fun v_9 g_8 =>
      if (v_9 : Int32) = 0 then
        f_Query_readTag_50 (f_Query_readTag_23 fu) g_8 a0 (some a_1) x3 x4 x5
      else
        f_Query_readTag_50 (f_Query_readTag_23 fu) g_8 a0 (some a_1) x3 (x4 ||| (1 <<< (x5 &&& 31))) x5
set_option maxHeartbeats 1000000 in
set_option maxRecDepth 100000 in
theorem c_Query_readTag_23 (E : m_V p m c b_Query_readTag 6 s args R_Query D K) (hr : meth.sig.returnType = (some .boolean)) (hlk : meth.locks = false) (hz : s.heap.size + 0 = B + n)   : ∀ fu : Nat, ∀ (g : m_G) (a0 : Nat) (r2 : Option Nat) (x3 : Int32) (x4 : Int32) (x5 : Int32) (r : Int32) (g' : m_G), f_Query_readTag_23  fu g a0 r2 x3 x4 x5 = some (r, g') → ∀ (H : Heap) (locs : List Loc), m_S D B K n g s.heap H locs → ∀ ls : Array Slot, lv_has ls 6 [(0, .ref (B + a0)), (2, m_r B r2), (3, .int x3), (4, .int x4), (5, .int x5)] → W p l e ({ frames := 1, cells := 0, slots := 0, locals := 21 } : Room) s m args below meth c H locs 0 0 (MQ below (m_Q D B K (some (.int r)) n g') args s 0 0 (fun q => B ≤ q)) (F0 m 23 ls []) := by
  have hx := E.1.1
  have hb := E.1.2.1
  have hts := E.1.2.2.2.2
  intro fu
  induction fu with
  | zero => intro g a0 r2 x3 x4 x5 r g' hF; cases hF
  | succ fu ih =>
    intro g a0 r2 x3 x4 x5 r g' hF H locs S ls hl
    rw [f_Query_readTag_23] at hF
    refine lv_iload hx hb d_Query_readTag_23 (lv_at hl 4 rfl) ?_
    refine m_aload_n (B := B) (r := r2) E d_Query_readTag_25 rfl (lv_at hl 1 rfl) ?_
    replace hF := Option.bind_eq_some_iff.mp hF
    obtain ⟨a_1, ea_1, hF⟩ := hF
    subst ea_1
    replace hF := Option.bind_eq_some_iff.mp hF
    obtain ⟨v_2, ev_2, hF⟩ := hF
    refine m_alen (B := B) (a := a_1) E S ev_2 d_Query_readTag_26 ?_
    refine lv_icmp_ge (tgt := 56) hx hb d_Query_readTag_27 (by decide) (fun c_3 => ?_) (fun c_3 => ?_)
    · rw [if_pos c_3] at hF
      refine lv_aload_n hx hb d_Query_readTag_56 rfl (lv_at hl 0 rfl) ?_
      refine lv_iload hx hb d_Query_readTag_57 (lv_at hl 3 rfl) ?_
      replace hF := m_gd_inv hF
      obtain ⟨eog_4, hF⟩ := hF
      replace hF := m_bd_inv hF
      obtain ⟨v_5, g_4, eg_4, hF⟩ := hF
      refine m_callV (B := B) (nn := 1) (b := a0) (As := [.int x4]) (rest := []) (v := none) E S hz (c_Query_endOne l D B K n g a0 x4 v_5 g_4 eg_4) qc_Query_endOne ⟨rfl, rfl⟩ (Or.inl qw_196) qw_197 qw_198 qw_71 (by decide +kernel) ⟨Nat.le_of_ble_eq_true rfl, Nat.le_of_ble_eq_true rfl⟩ eog_4 rfl rfl hl.1 (Nat.le_of_ble_eq_true rfl) d_Query_readTag_59 ⟨Nat.le_of_ble_eq_true rfl, Nat.le_of_ble_eq_true rfl⟩ (fun H locs S => ?_)
      refine W.eq (g2 := F0 m 62 ls []) rfl ?_
      refine lv_iconst (v := 1) hx hb d_Query_readTag_62 (by decide) ?_
      cases hF
      exact m_zret E S hz hr hlk (by decide) d_Query_readTag_63
    · rw [if_neg c_3] at hF
      refine m_aload_n (B := B) (r := (some a_1)) E d_Query_readTag_30 rfl (lv_at hl 1 rfl) ?_
      refine lv_iload hx hb d_Query_readTag_31 (lv_at hl 4 rfl) ?_
      replace hF := Option.bind_eq_some_iff.mp hF
      obtain ⟨v_6, ev_6, hF⟩ := hF
      refine m_aald (B := B) (a := a_1) (t := 5) E S rfl ev_6 d_Query_readTag_33 ?_
      refine lv_iload_n hx hb d_Query_readTag_34 rfl (lv_at hl 2 rfl) ?_
      replace hF := Option.bind_eq_some_iff.mp hF
      obtain ⟨a_7, ea_7, hF⟩ := hF
      subst ea_7
      replace hF := m_gd_inv hF
      obtain ⟨eog_8, hF⟩ := hF
      replace hF := m_bd_inv hF
      obtain ⟨v_9, g_8, eg_8, hF⟩ := hF
      refine m_callV (B := B) (nn := 1) (b := a_7) (As := [.int x3]) (rest := []) (v := (some (.int v_9))) E S hz (c_Message_hasTag l D B K n g a_7 x3 v_9 g_8 eg_8) qc_Message_hasTag ⟨rfl, rfl⟩ (Or.inr ⟨_, qn_63⟩) qw_215 qw_216 qw_77 (by decide +kernel) ⟨Nat.le_of_ble_eq_true rfl, Nat.le_of_ble_eq_true rfl⟩ eog_8 rfl rfl hl.1 (Nat.le_of_ble_eq_true rfl) d_Query_readTag_35 ⟨Nat.le_of_ble_eq_true rfl, Nat.le_of_ble_eq_true rfl⟩ (fun H locs S => ?_)
      refine W.eq (g2 := F0 m 38 ls [.int v_9]) rfl ?_
      refine lv_if_eq (tgt := 50) hx hb d_Query_readTag_38 (by decide) (fun c_10 => ?_) (fun c_10 => ?_)
      · rw [if_pos c_10] at hF
        exact c_Query_readTag_50 E hr hlk hz (f_Query_readTag_23 fu) ih _ _ _ _ _ _ _ _ hF _ _ S _ (lv_sub hl [0, 1, 2, 3, 4] rfl)
      · rw [if_neg c_10] at hF
        refine lv_iload hx hb d_Query_readTag_41 (lv_at hl 3 rfl) ?_
        refine lv_iconst (v := 1) hx hb d_Query_readTag_43 (by decide) ?_
        refine lv_iload hx hb d_Query_readTag_44 (lv_at hl 4 rfl) ?_
        refine lv_ishl hx hb d_Query_readTag_46 ?_
        refine lv_ior hx hb d_Query_readTag_47 ?_
        refine lv_istore (lv' := [(4, .int (x4 ||| (1 <<< (x5 &&& 31)))), (0, .ref (B + a0)), (2, m_r B (some a_1)), (3, .int x3), (5, .int x5)]) hx hb d_Query_readTag_48 hl (by decide) rfl (fun ls hl => ?_)
        exact c_Query_readTag_50 E hr hlk hz (f_Query_readTag_23 fu) ih _ _ _ _ _ _ _ _ hF _ _ S _ (lv_sub hl [1, 2, 3, 0, 4] rfl)
end S_Query_readTag
def f_Query_readTag  (g : m_G) (a0 : Nat) (x1 : Int32) (r2 : Option Nat) : Option (Int32 × m_G) :=
  m_bd (f_Arc_digit g x1) fun v_2 g_1 =>
  if (v_2 : Int32) < 0 then
    f_Query_readTag_15 g_1 
  else
    if (v_2 : Int32) < 8 then
      f_Query_readTag_23 m_fu g_1 a0 r2 v_2 0 0
    else
      f_Query_readTag_15 g_1 
set_option maxHeartbeats 1000000 in
set_option maxRecDepth 100000 in
theorem c_Query_readTag (l : Launch) (D : va_G) (B : Nat) (K : Nat → ClassId)  (n : Nat) (g : m_G) (a0 : Nat) (x1 : Int32) (r2 : Option Nat) (r : Int32) (g' : m_G) (hF : f_Query_readTag g a0 x1 r2 = some (r, g')) : Met l y_Query_readTag (Cond.code y_Query_readTag b_Query_readTag 6 (some .boolean) :: m_TB) ({ frames := 1, cells := 0, slots := 0, locals := 21 } : Room) (m_Pc D B K n g [.ref (B + a0), .int x1, m_r B r2]) (m_Q D B K (some (.int r)) n g') 0 0 (fun q => B ≤ q) := by
  refine m_met (by decide) (by simp only [lg_sl, List.flatMap_cons, List.flatMap_nil, m_r_cat]; exact Nat.le_of_ble_eq_true rfl) ?_
  intro p e s m args below meth c ls E hr hlk hin hsz S hl
  have E : m_V p m c b_Query_readTag 6 s args R_Query D K := E
  have hz : s.heap.size + 0 = B + n := hsz
  have hl : lv_has ls 6 [(0, .ref (B + a0)), (1, .int x1), (2, m_r B r2)] := by simp only [lv_args, m_r_cat] at hl; exact hl
  have hx := E.1.1
  have hb := E.1.2.1
  have hts := E.1.2.2.2.2
  unfold f_Query_readTag at hF
  refine lv_iload_n hx hb d_Query_readTag_0 rfl (lv_at hl 1 rfl) ?_
  replace hF := m_bd_inv hF
  obtain ⟨v_2, g_1, eg_1, hF⟩ := hF
  refine m_callS (B := B) (nn := 1) (As := [.int x1]) (rest := []) (v := (some (.int v_2))) E S hz (c_Arc_digit l D B K n g x1 v_2 g_1 eg_1) qc_Arc_digit ⟨rfl, rfl⟩ (Or.inr ⟨_, qn_62⟩) qw_106 qw_105 (by decide +kernel) ⟨Nat.le_of_ble_eq_true rfl, Nat.le_of_ble_eq_true rfl⟩ rfl hl.1 (Nat.le_of_ble_eq_true rfl) d_Query_readTag_1 ⟨Nat.le_of_ble_eq_true rfl, Nat.le_of_ble_eq_true rfl⟩ (fun H locs S => ?_)
  refine W.eq (g2 := F0 m 4 ls [.int v_2]) rfl ?_
  refine lv_istore_n (lv' := [(3, .int v_2), (0, .ref (B + a0)), (1, .int x1), (2, m_r B r2)]) hx hb d_Query_readTag_4 rfl hl (by decide) (by cases r2 <;> rfl) (fun ls hl => ?_)
  refine lv_iload_n hx hb d_Query_readTag_5 rfl (lv_at hl 0 rfl) ?_
  refine lv_if_lt (tgt := 15) hx hb d_Query_readTag_6 (by decide) (fun c_3 => ?_) (fun c_3 => ?_)
  · rw [if_pos c_3] at hF
    exact c_Query_readTag_15 E hr hlk hz _ _ _ hF _ _ S _ (lv_sub hl [] rfl)
  · rw [if_neg c_3] at hF
    refine lv_iload_n hx hb d_Query_readTag_9 rfl (lv_at hl 0 rfl) ?_
    refine lv_bipush (v := 8) hx hb d_Query_readTag_10 (by decide) ?_
    refine lv_icmp_lt (tgt := 17) hx hb d_Query_readTag_12 (by decide) (fun c_4 => ?_) (fun c_4 => ?_)
    · rw [if_pos c_4] at hF
      refine lv_iconst (v := 0) hx hb d_Query_readTag_17 (by decide) ?_
      refine lv_istore (lv' := [(4, .int 0), (3, .int v_2), (0, .ref (B + a0)), (1, .int x1), (2, m_r B r2)]) hx hb d_Query_readTag_18 hl (by decide) rfl (fun ls hl => ?_)
      refine lv_iconst (v := 0) hx hb d_Query_readTag_20 (by decide) ?_
      refine lv_istore (lv' := [(5, .int 0), (4, .int 0), (3, .int v_2), (0, .ref (B + a0)), (1, .int x1), (2, m_r B r2)]) hx hb d_Query_readTag_21 hl (by decide) rfl (fun ls hl => ?_)
      exact c_Query_readTag_23 E hr hlk hz m_fu _ _ _ _ _ _ _ _ hF _ _ S _ (lv_sub hl [3, 5, 2, 1, 0] rfl)
    · rw [if_neg c_4] at hF
      exact c_Query_readTag_15 E hr hlk hz _ _ _ hF _ _ S _ (lv_sub hl [] rfl)
section S_Query_readCharacter
variable {p : Program} {l : Launch} {e : Env} {s : State} {m : MethodId} {args : Array Value} {below : List Frame} {meth : Method} {c : Code} {D : va_G} {B n : Nat} {K : Nat → ClassId}
def f_Query_readCharacter_65   (g : m_G) (y0 : Int32) : Option (Int32 × m_G) :=
  if (y0 : Int32) = 0 ∨ y0 = 1 then some (y0, g) else none
set_option maxHeartbeats 1000000 in
set_option maxRecDepth 100000 in
theorem c_Query_readCharacter_65 (E : m_V p m c b_Query_readCharacter 3 s args R_Query D K) (hr : meth.sig.returnType = (some .boolean)) (hlk : meth.locks = false) (hz : s.heap.size + 0 = B + n)   : ∀ (g : m_G) (y0 : Int32) (r : Int32) (g' : m_G), f_Query_readCharacter_65 g y0 = some (r, g') → ∀ (H : Heap) (locs : List Loc), m_S D B K n g s.heap H locs → ∀ ls : Array Slot, lv_has ls 3 [] → W p l e ({ frames := 4, cells := 0, slots := 0, locals := 98 } : Room) s m args below meth c H locs 0 0 (MQ below (m_Q D B K (some (.int r)) n g') args s 0 0 (fun q => B ≤ q)) (F0 m 65 ls [.int y0]) := by
  have hx := E.1.1
  have hb := E.1.2.1
  have hts := E.1.2.2.2.2
  intro g y0 r g' hF H locs S ls hl
  unfold f_Query_readCharacter_65 at hF
  by_cases c_1 : (y0 : Int32) = 0 ∨ y0 = 1
  · rw [if_pos c_1] at hF
    cases hF
    exact m_zret E S hz hr hlk c_1 d_Query_readCharacter_65
  · rw [if_neg c_1] at hF
    cases hF
def f_Query_readCharacter_60   (g : m_G)  : Option (Int32 × m_G) :=
  f_Query_readCharacter_65 g 1
set_option maxHeartbeats 1000000 in
set_option maxRecDepth 100000 in
theorem c_Query_readCharacter_60 (E : m_V p m c b_Query_readCharacter 3 s args R_Query D K) (hr : meth.sig.returnType = (some .boolean)) (hlk : meth.locks = false) (hz : s.heap.size + 0 = B + n)   : ∀ (g : m_G)  (r : Int32) (g' : m_G), f_Query_readCharacter_60 g  = some (r, g') → ∀ (H : Heap) (locs : List Loc), m_S D B K n g s.heap H locs → ∀ ls : Array Slot, lv_has ls 3 [] → W p l e ({ frames := 4, cells := 0, slots := 0, locals := 98 } : Room) s m args below meth c H locs 0 0 (MQ below (m_Q D B K (some (.int r)) n g') args s 0 0 (fun q => B ≤ q)) (F0 m 60 ls []) := by
  have hx := E.1.1
  have hb := E.1.2.1
  have hts := E.1.2.2.2.2
  intro g  r g' hF H locs S ls hl
  unfold f_Query_readCharacter_60 at hF
  refine lv_iconst (v := 1) hx hb d_Query_readCharacter_60 (by decide) ?_
  refine lv_goto (tgt := 65) hx hb d_Query_readCharacter_61 (by decide) ?_
  exact c_Query_readCharacter_65 E hr hlk hz _ _ _ _ hF _ _ S _ (lv_sub hl [] rfl)
def f_Query_readCharacter_102   (g : m_G) (y0 : Int32) : Option (Int32 × m_G) :=
  if (y0 : Int32) = 0 ∨ y0 = 1 then some (y0, g) else none
set_option maxHeartbeats 1000000 in
set_option maxRecDepth 100000 in
theorem c_Query_readCharacter_102 (E : m_V p m c b_Query_readCharacter 3 s args R_Query D K) (hr : meth.sig.returnType = (some .boolean)) (hlk : meth.locks = false) (hz : s.heap.size + 0 = B + n)   : ∀ (g : m_G) (y0 : Int32) (r : Int32) (g' : m_G), f_Query_readCharacter_102 g y0 = some (r, g') → ∀ (H : Heap) (locs : List Loc), m_S D B K n g s.heap H locs → ∀ ls : Array Slot, lv_has ls 3 [] → W p l e ({ frames := 4, cells := 0, slots := 0, locals := 98 } : Room) s m args below meth c H locs 0 0 (MQ below (m_Q D B K (some (.int r)) n g') args s 0 0 (fun q => B ≤ q)) (F0 m 102 ls [.int y0]) := by
  have hx := E.1.1
  have hb := E.1.2.1
  have hts := E.1.2.2.2.2
  intro g y0 r g' hF H locs S ls hl
  unfold f_Query_readCharacter_102 at hF
  by_cases c_1 : (y0 : Int32) = 0 ∨ y0 = 1
  · rw [if_pos c_1] at hF
    cases hF
    exact m_zret E S hz hr hlk c_1 d_Query_readCharacter_102
  · rw [if_neg c_1] at hF
    cases hF
def f_Query_readCharacter_97   (g : m_G)  : Option (Int32 × m_G) :=
  f_Query_readCharacter_102 g 1
set_option maxHeartbeats 1000000 in
set_option maxRecDepth 100000 in
theorem c_Query_readCharacter_97 (E : m_V p m c b_Query_readCharacter 3 s args R_Query D K) (hr : meth.sig.returnType = (some .boolean)) (hlk : meth.locks = false) (hz : s.heap.size + 0 = B + n)   : ∀ (g : m_G)  (r : Int32) (g' : m_G), f_Query_readCharacter_97 g  = some (r, g') → ∀ (H : Heap) (locs : List Loc), m_S D B K n g s.heap H locs → ∀ ls : Array Slot, lv_has ls 3 [] → W p l e ({ frames := 4, cells := 0, slots := 0, locals := 98 } : Room) s m args below meth c H locs 0 0 (MQ below (m_Q D B K (some (.int r)) n g') args s 0 0 (fun q => B ≤ q)) (F0 m 97 ls []) := by
  have hx := E.1.1
  have hb := E.1.2.1
  have hts := E.1.2.2.2.2
  intro g  r g' hF H locs S ls hl
  unfold f_Query_readCharacter_97 at hF
  refine lv_iconst (v := 1) hx hb d_Query_readCharacter_97 (by decide) ?_
  refine lv_goto (tgt := 102) hx hb d_Query_readCharacter_98 (by decide) ?_
  exact c_Query_readCharacter_102 E hr hlk hz _ _ _ _ hF _ _ S _ (lv_sub hl [] rfl)
end S_Query_readCharacter
def f_Query_readCharacter  (g : m_G) (a0 : Nat) (x1 : Int32) (r2 : Option Nat) : Option (Int32 × m_G) :=
  (m_gI g a0 7 5).bind fun v_1 =>
  if (v_1 : Int32) = 0 then
    m_gd (m_is g a0 7) <|
    m_bd (f_Query_readLetter g a0 x1) fun v_4 g_3 =>
    if (v_4 : Int32) = 0 then
      m_gd (m_is g_3 a0 7) <|
      m_bd (f_Query_readNot g_3 a0 x1) fun v_7 g_6 =>
      if (v_7 : Int32) = 0 then
        m_gd (m_is g_6 a0 7) <|
        m_bd (f_Query_readOpening g_6 a0 x1) fun v_10 g_9 =>
        if (v_10 : Int32) = 0 then
          f_Query_readCharacter_65 g_9 0
        else
          f_Query_readCharacter_60 g_9 
      else
        f_Query_readCharacter_60 g_6 
    else
      f_Query_readCharacter_60 g_3 
  else
  if (v_1 : Int32) = 1 then
    m_gd (m_is g a0 7) <|
    m_bd (f_Query_readLetter g a0 x1) fun v_14 g_13 =>
    if (v_14 : Int32) = 0 ∨ v_14 = 1 then some (v_14, g_13) else none
  else
  if (v_1 : Int32) = 2 then
    m_gd (m_is g a0 7) <|
    m_bd (f_Query_readLetter g a0 x1) fun v_18 g_17 =>
    if (v_18 : Int32) = 0 then
      m_gd (m_is g_17 a0 7) <|
      m_bd (f_Query_readColon g_17 a0 x1) fun v_21 g_20 =>
      if (v_21 : Int32) = 0 then
        m_gd (m_is g_20 a0 7) <|
        m_bd (f_Query_readBehindWord g_20 a0 x1 r2) fun v_24 g_23 =>
        if (v_24 : Int32) = 0 then
          f_Query_readCharacter_102 g_23 0
        else
          f_Query_readCharacter_97 g_23 
      else
        f_Query_readCharacter_97 g_20 
    else
      f_Query_readCharacter_97 g_17 
  else
  if (v_1 : Int32) = 3 then
    m_gd (m_is g a0 7) <|
    m_bd (f_Query_readTag g a0 x1 r2) fun v_28 g_27 =>
    if (v_28 : Int32) = 0 ∨ v_28 = 1 then some (v_28, g_27) else none
  else
    m_gd (m_is g a0 7) <|
    m_bd (f_Query_readBehindOne g a0 x1) fun v_31 g_30 =>
    if (v_31 : Int32) = 0 ∨ v_31 = 1 then some (v_31, g_30) else none
set_option maxHeartbeats 1000000 in
set_option maxRecDepth 100000 in
theorem c_Query_readCharacter (l : Launch) (D : va_G) (B : Nat) (K : Nat → ClassId)  (n : Nat) (g : m_G) (a0 : Nat) (x1 : Int32) (r2 : Option Nat) (r : Int32) (g' : m_G) (hF : f_Query_readCharacter g a0 x1 r2 = some (r, g')) : Met l y_Query_readCharacter (Cond.code y_Query_readCharacter b_Query_readCharacter 3 (some .boolean) :: m_TB) ({ frames := 4, cells := 0, slots := 0, locals := 98 } : Room) (m_Pc D B K n g [.ref (B + a0), .int x1, m_r B r2]) (m_Q D B K (some (.int r)) n g') 0 0 (fun q => B ≤ q) := by
  refine m_met (by decide) (by simp only [lg_sl, List.flatMap_cons, List.flatMap_nil, m_r_cat]; exact Nat.le_of_ble_eq_true rfl) ?_
  intro p e s m args below meth c ls E hr hlk hin hsz S hl
  have E : m_V p m c b_Query_readCharacter 3 s args R_Query D K := E
  have hz : s.heap.size + 0 = B + n := hsz
  have hl : lv_has ls 3 [(0, .ref (B + a0)), (1, .int x1), (2, m_r B r2)] := by simp only [lv_args, m_r_cat] at hl; exact hl
  have hx := E.1.1
  have hb := E.1.2.1
  have hts := E.1.2.2.2.2
  unfold f_Query_readCharacter at hF
  refine lv_aload_n hx hb d_Query_readCharacter_0 rfl (lv_at hl 0 rfl) ?_
  replace hF := Option.bind_eq_some_iff.mp hF
  obtain ⟨v_1, ev_1, hF⟩ := hF
  refine m_getI (B := B) (a := a0) E S fd_Query_state (Or.inl qw_44) ev_1 d_Query_readCharacter_1 ?_
  by_cases c_2 : (v_1 : Int32) = 0
  · rw [if_pos c_2] at hF
    refine lv_tableIn (off := 32) (tgt := 36) hx hb d_Query_readCharacter_4 (by rw [c_2]; decide) (by rw [c_2]; decide) (by rw [c_2]; rfl) (by decide) ?_
    refine lv_aload_n hx hb d_Query_readCharacter_36 rfl (lv_at hl 0 rfl) ?_
    refine lv_iload_n hx hb d_Query_readCharacter_37 rfl (lv_at hl 1 rfl) ?_
    replace hF := m_gd_inv hF
    obtain ⟨eog_3, hF⟩ := hF
    replace hF := m_bd_inv hF
    obtain ⟨v_4, g_3, eg_3, hF⟩ := hF
    refine m_callV (B := B) (nn := 1) (b := a0) (As := [.int x1]) (rest := []) (v := (some (.int v_4))) E S hz (c_Query_readLetter l D B K n g a0 x1 v_4 g_3 eg_3) qc_Query_readLetter ⟨rfl, rfl⟩ (Or.inl qw_217) qw_218 qw_219 qw_71 (by decide +kernel) ⟨Nat.le_of_ble_eq_true rfl, Nat.le_of_ble_eq_true rfl⟩ eog_3 rfl rfl hl.1 (Nat.le_of_ble_eq_true rfl) d_Query_readCharacter_38 ⟨Nat.le_of_ble_eq_true rfl, Nat.le_of_ble_eq_true rfl⟩ (fun H locs S => ?_)
    refine W.eq (g2 := F0 m 41 ls [.int v_4]) rfl ?_
    refine lv_if_ne (tgt := 60) hx hb d_Query_readCharacter_41 (by decide) (fun c_5 => ?_) (fun c_5 => ?_)
    · rw [if_neg c_5] at hF
      exact c_Query_readCharacter_60 E hr hlk hz _ _ _ hF _ _ S _ (lv_sub hl [] rfl)
    · rw [if_pos c_5] at hF
      refine lv_aload_n hx hb d_Query_readCharacter_44 rfl (lv_at hl 0 rfl) ?_
      refine lv_iload_n hx hb d_Query_readCharacter_45 rfl (lv_at hl 1 rfl) ?_
      replace hF := m_gd_inv hF
      obtain ⟨eog_6, hF⟩ := hF
      replace hF := m_bd_inv hF
      obtain ⟨v_7, g_6, eg_6, hF⟩ := hF
      refine m_callV (B := B) (nn := 1) (b := a0) (As := [.int x1]) (rest := []) (v := (some (.int v_7))) E S hz (c_Query_readNot l D B K n g_3 a0 x1 v_7 g_6 eg_6) qc_Query_readNot ⟨rfl, rfl⟩ (Or.inl qw_220) qw_221 qw_222 qw_71 (by decide +kernel) ⟨Nat.le_of_ble_eq_true rfl, Nat.le_of_ble_eq_true rfl⟩ eog_6 rfl rfl hl.1 (Nat.le_of_ble_eq_true rfl) d_Query_readCharacter_46 ⟨Nat.le_of_ble_eq_true rfl, Nat.le_of_ble_eq_true rfl⟩ (fun H locs S => ?_)
      refine W.eq (g2 := F0 m 49 ls [.int v_7]) rfl ?_
      refine lv_if_ne (tgt := 60) hx hb d_Query_readCharacter_49 (by decide) (fun c_8 => ?_) (fun c_8 => ?_)
      · rw [if_neg c_8] at hF
        exact c_Query_readCharacter_60 E hr hlk hz _ _ _ hF _ _ S _ (lv_sub hl [] rfl)
      · rw [if_pos c_8] at hF
        refine lv_aload_n hx hb d_Query_readCharacter_52 rfl (lv_at hl 0 rfl) ?_
        refine lv_iload_n hx hb d_Query_readCharacter_53 rfl (lv_at hl 1 rfl) ?_
        replace hF := m_gd_inv hF
        obtain ⟨eog_9, hF⟩ := hF
        replace hF := m_bd_inv hF
        obtain ⟨v_10, g_9, eg_9, hF⟩ := hF
        refine m_callV (B := B) (nn := 1) (b := a0) (As := [.int x1]) (rest := []) (v := (some (.int v_10))) E S hz (c_Query_readOpening l D B K n g_6 a0 x1 v_10 g_9 eg_9) qc_Query_readOpening ⟨rfl, rfl⟩ (Or.inl qw_223) qw_224 qw_225 qw_71 (by decide +kernel) ⟨Nat.le_of_ble_eq_true rfl, Nat.le_of_ble_eq_true rfl⟩ eog_9 rfl rfl hl.1 (Nat.le_of_ble_eq_true rfl) d_Query_readCharacter_54 ⟨Nat.le_of_ble_eq_true rfl, Nat.le_of_ble_eq_true rfl⟩ (fun H locs S => ?_)
        refine W.eq (g2 := F0 m 57 ls [.int v_10]) rfl ?_
        refine lv_if_eq (tgt := 64) hx hb d_Query_readCharacter_57 (by decide) (fun c_11 => ?_) (fun c_11 => ?_)
        · rw [if_pos c_11] at hF
          refine lv_iconst (v := 0) hx hb d_Query_readCharacter_64 (by decide) ?_
          exact c_Query_readCharacter_65 E hr hlk hz _ _ _ _ hF _ _ S _ (lv_sub hl [] rfl)
        · rw [if_neg c_11] at hF
          exact c_Query_readCharacter_60 E hr hlk hz _ _ _ hF _ _ S _ (lv_sub hl [] rfl)
  rw [if_neg c_2] at hF
  by_cases c_12 : (v_1 : Int32) = 1
  · rw [if_pos c_12] at hF
    refine lv_tableIn (off := 62) (tgt := 66) hx hb d_Query_readCharacter_4 (by rw [c_12]; decide) (by rw [c_12]; decide) (by rw [c_12]; rfl) (by decide) ?_
    refine lv_aload_n hx hb d_Query_readCharacter_66 rfl (lv_at hl 0 rfl) ?_
    refine lv_iload_n hx hb d_Query_readCharacter_67 rfl (lv_at hl 1 rfl) ?_
    replace hF := m_gd_inv hF
    obtain ⟨eog_13, hF⟩ := hF
    replace hF := m_bd_inv hF
    obtain ⟨v_14, g_13, eg_13, hF⟩ := hF
    refine m_callV (B := B) (nn := 1) (b := a0) (As := [.int x1]) (rest := []) (v := (some (.int v_14))) E S hz (c_Query_readLetter l D B K n g a0 x1 v_14 g_13 eg_13) qc_Query_readLetter ⟨rfl, rfl⟩ (Or.inl qw_217) qw_218 qw_219 qw_71 (by decide +kernel) ⟨Nat.le_of_ble_eq_true rfl, Nat.le_of_ble_eq_true rfl⟩ eog_13 rfl rfl hl.1 (Nat.le_of_ble_eq_true rfl) d_Query_readCharacter_68 ⟨Nat.le_of_ble_eq_true rfl, Nat.le_of_ble_eq_true rfl⟩ (fun H locs S => ?_)
    refine W.eq (g2 := F0 m 71 ls [.int v_14]) rfl ?_
    by_cases c_15 : (v_14 : Int32) = 0 ∨ v_14 = 1
    · rw [if_pos c_15] at hF
      cases hF
      exact m_zret E S hz hr hlk c_15 d_Query_readCharacter_71
    · rw [if_neg c_15] at hF
      cases hF
  rw [if_neg c_12] at hF
  by_cases c_16 : (v_1 : Int32) = 2
  · rw [if_pos c_16] at hF
    refine lv_tableIn (off := 68) (tgt := 72) hx hb d_Query_readCharacter_4 (by rw [c_16]; decide) (by rw [c_16]; decide) (by rw [c_16]; rfl) (by decide) ?_
    refine lv_aload_n hx hb d_Query_readCharacter_72 rfl (lv_at hl 0 rfl) ?_
    refine lv_iload_n hx hb d_Query_readCharacter_73 rfl (lv_at hl 1 rfl) ?_
    replace hF := m_gd_inv hF
    obtain ⟨eog_17, hF⟩ := hF
    replace hF := m_bd_inv hF
    obtain ⟨v_18, g_17, eg_17, hF⟩ := hF
    refine m_callV (B := B) (nn := 1) (b := a0) (As := [.int x1]) (rest := []) (v := (some (.int v_18))) E S hz (c_Query_readLetter l D B K n g a0 x1 v_18 g_17 eg_17) qc_Query_readLetter ⟨rfl, rfl⟩ (Or.inl qw_217) qw_218 qw_219 qw_71 (by decide +kernel) ⟨Nat.le_of_ble_eq_true rfl, Nat.le_of_ble_eq_true rfl⟩ eog_17 rfl rfl hl.1 (Nat.le_of_ble_eq_true rfl) d_Query_readCharacter_74 ⟨Nat.le_of_ble_eq_true rfl, Nat.le_of_ble_eq_true rfl⟩ (fun H locs S => ?_)
    refine W.eq (g2 := F0 m 77 ls [.int v_18]) rfl ?_
    refine lv_if_ne (tgt := 97) hx hb d_Query_readCharacter_77 (by decide) (fun c_19 => ?_) (fun c_19 => ?_)
    · rw [if_neg c_19] at hF
      exact c_Query_readCharacter_97 E hr hlk hz _ _ _ hF _ _ S _ (lv_sub hl [] rfl)
    · rw [if_pos c_19] at hF
      refine lv_aload_n hx hb d_Query_readCharacter_80 rfl (lv_at hl 0 rfl) ?_
      refine lv_iload_n hx hb d_Query_readCharacter_81 rfl (lv_at hl 1 rfl) ?_
      replace hF := m_gd_inv hF
      obtain ⟨eog_20, hF⟩ := hF
      replace hF := m_bd_inv hF
      obtain ⟨v_21, g_20, eg_20, hF⟩ := hF
      refine m_callV (B := B) (nn := 1) (b := a0) (As := [.int x1]) (rest := []) (v := (some (.int v_21))) E S hz (c_Query_readColon l D B K n g_17 a0 x1 v_21 g_20 eg_20) qc_Query_readColon ⟨rfl, rfl⟩ (Or.inl qw_226) qw_227 qw_228 qw_71 (by decide +kernel) ⟨Nat.le_of_ble_eq_true rfl, Nat.le_of_ble_eq_true rfl⟩ eog_20 rfl rfl hl.1 (Nat.le_of_ble_eq_true rfl) d_Query_readCharacter_82 ⟨Nat.le_of_ble_eq_true rfl, Nat.le_of_ble_eq_true rfl⟩ (fun H locs S => ?_)
      refine W.eq (g2 := F0 m 85 ls [.int v_21]) rfl ?_
      refine lv_if_ne (tgt := 97) hx hb d_Query_readCharacter_85 (by decide) (fun c_22 => ?_) (fun c_22 => ?_)
      · rw [if_neg c_22] at hF
        exact c_Query_readCharacter_97 E hr hlk hz _ _ _ hF _ _ S _ (lv_sub hl [] rfl)
      · rw [if_pos c_22] at hF
        refine lv_aload_n hx hb d_Query_readCharacter_88 rfl (lv_at hl 0 rfl) ?_
        refine lv_iload_n hx hb d_Query_readCharacter_89 rfl (lv_at hl 1 rfl) ?_
        refine m_aload_n (B := B) (r := r2) E d_Query_readCharacter_90 rfl (lv_at hl 2 rfl) ?_
        replace hF := m_gd_inv hF
        obtain ⟨eog_23, hF⟩ := hF
        replace hF := m_bd_inv hF
        obtain ⟨v_24, g_23, eg_23, hF⟩ := hF
        refine m_callV (B := B) (nn := 2) (b := a0) (As := [.int x1, m_r B r2]) (rest := []) (v := (some (.int v_24))) E S hz (c_Query_readBehindWord l D B K n g_20 a0 x1 r2 v_24 g_23 eg_23) qc_Query_readBehindWord ⟨rfl, rfl⟩ (Or.inl qw_229) qw_230 qw_231 qw_71 (by decide +kernel) ⟨Nat.le_of_ble_eq_true rfl, Nat.le_of_ble_eq_true rfl⟩ eog_23 rfl rfl hl.1 (Nat.le_of_ble_eq_true rfl) d_Query_readCharacter_91 ⟨Nat.le_of_ble_eq_true rfl, Nat.le_of_ble_eq_true rfl⟩ (fun H locs S => ?_)
        refine W.eq (g2 := F0 m 94 ls [.int v_24]) rfl ?_
        refine lv_if_eq (tgt := 101) hx hb d_Query_readCharacter_94 (by decide) (fun c_25 => ?_) (fun c_25 => ?_)
        · rw [if_pos c_25] at hF
          refine lv_iconst (v := 0) hx hb d_Query_readCharacter_101 (by decide) ?_
          exact c_Query_readCharacter_102 E hr hlk hz _ _ _ _ hF _ _ S _ (lv_sub hl [] rfl)
        · rw [if_neg c_25] at hF
          exact c_Query_readCharacter_97 E hr hlk hz _ _ _ hF _ _ S _ (lv_sub hl [] rfl)
  rw [if_neg c_16] at hF
  by_cases c_26 : (v_1 : Int32) = 3
  · rw [if_pos c_26] at hF
    refine lv_tableIn (off := 99) (tgt := 103) hx hb d_Query_readCharacter_4 (by rw [c_26]; decide) (by rw [c_26]; decide) (by rw [c_26]; rfl) (by decide) ?_
    refine lv_aload_n hx hb d_Query_readCharacter_103 rfl (lv_at hl 0 rfl) ?_
    refine lv_iload_n hx hb d_Query_readCharacter_104 rfl (lv_at hl 1 rfl) ?_
    refine m_aload_n (B := B) (r := r2) E d_Query_readCharacter_105 rfl (lv_at hl 2 rfl) ?_
    replace hF := m_gd_inv hF
    obtain ⟨eog_27, hF⟩ := hF
    replace hF := m_bd_inv hF
    obtain ⟨v_28, g_27, eg_27, hF⟩ := hF
    refine m_callV (B := B) (nn := 2) (b := a0) (As := [.int x1, m_r B r2]) (rest := []) (v := (some (.int v_28))) E S hz (c_Query_readTag l D B K n g a0 x1 r2 v_28 g_27 eg_27) qc_Query_readTag ⟨rfl, rfl⟩ (Or.inl qw_232) qw_233 qw_234 qw_71 (by decide +kernel) ⟨Nat.le_of_ble_eq_true rfl, Nat.le_of_ble_eq_true rfl⟩ eog_27 rfl rfl hl.1 (Nat.le_of_ble_eq_true rfl) d_Query_readCharacter_106 ⟨Nat.le_of_ble_eq_true rfl, Nat.le_of_ble_eq_true rfl⟩ (fun H locs S => ?_)
    refine W.eq (g2 := F0 m 109 ls [.int v_28]) rfl ?_
    by_cases c_29 : (v_28 : Int32) = 0 ∨ v_28 = 1
    · rw [if_pos c_29] at hF
      cases hF
      exact m_zret E S hz hr hlk c_29 d_Query_readCharacter_109
    · rw [if_neg c_29] at hF
      cases hF
  rw [if_neg c_26] at hF
  have z0 := lv_neT (a := 0) c_2 (by decide)
  have z1 := lv_neT (a := 1) c_12 (by decide)
  have z2 := lv_neT (a := 2) c_16 (by decide)
  have z3 := lv_neT (a := 3) c_26 (by decide)
  refine lv_tableOut (tgt := 110) hx hb d_Query_readCharacter_4 (by omega) (by decide) ?_
  refine lv_aload_n hx hb d_Query_readCharacter_110 rfl (lv_at hl 0 rfl) ?_
  refine lv_iload_n hx hb d_Query_readCharacter_111 rfl (lv_at hl 1 rfl) ?_
  replace hF := m_gd_inv hF
  obtain ⟨eog_30, hF⟩ := hF
  replace hF := m_bd_inv hF
  obtain ⟨v_31, g_30, eg_30, hF⟩ := hF
  refine m_callV (B := B) (nn := 1) (b := a0) (As := [.int x1]) (rest := []) (v := (some (.int v_31))) E S hz (c_Query_readBehindOne l D B K n g a0 x1 v_31 g_30 eg_30) qc_Query_readBehindOne ⟨rfl, rfl⟩ (Or.inl qw_207) qw_208 qw_209 qw_71 (by decide +kernel) ⟨Nat.le_of_ble_eq_true rfl, Nat.le_of_ble_eq_true rfl⟩ eog_30 rfl rfl hl.1 (Nat.le_of_ble_eq_true rfl) d_Query_readCharacter_112 ⟨Nat.le_of_ble_eq_true rfl, Nat.le_of_ble_eq_true rfl⟩ (fun H locs S => ?_)
  refine W.eq (g2 := F0 m 115 ls [.int v_31]) rfl ?_
  by_cases c_32 : (v_31 : Int32) = 0 ∨ v_31 = 1
  · rw [if_pos c_32] at hF
    cases hF
    exact m_zret E S hz hr hlk c_32 d_Query_readCharacter_115
  · rw [if_neg c_32] at hF
    cases hF
