section S_Query_read
variable {p : Program} {l : Launch} {e : Env} {s : State} {m : MethodId} {args : Array Value} {below : List Frame} {meth : Method} {c : Code} {D : va_G} {B n : Nat} {K : Nat → ClassId}
def f_Query_read_77   (g : m_G) (y0 : Int32) : Option (Int32 × m_G) :=
  some (y0, g)
set_option maxHeartbeats 1000000 in
set_option maxRecDepth 100000 in
theorem c_Query_read_77 (E : m_V p m c b_Query_read 4 s args R_Query D K) (hr : meth.sig.returnType = (some .int)) (hlk : meth.locks = false) (hz : s.heap.size + 0 = B + n)   : ∀ (g : m_G) (y0 : Int32) (r : Int32) (g' : m_G), f_Query_read_77 g y0 = some (r, g') → ∀ (H : Heap) (locs : List Loc), m_S D B K n g s.heap H locs → ∀ ls : Array Slot, lv_has ls 4 [] → W p l e ({ frames := 5, cells := 0, slots := 0, locals := 120 } : Room) s m args below meth c H locs 0 0 (MQ below (m_Q D B K (some (.int r)) n g') args s 0 0 (fun q => B ≤ q)) (F0 m 77 ls [.int y0]) := by
  have hx := E.1.1
  have hb := E.1.2.1
  have hts := E.1.2.2.2.2
  intro g y0 r g' hF H locs S ls hl
  unfold f_Query_read_77 at hF
  cases hF
  exact m_iret E S hz hr hlk d_Query_read_77
def f_Query_read_73   (g : m_G) (r1 : Option Nat) : Option (Int32 × m_G) :=
  Option.bind r1 fun a_1 =>
  (m_gI g a_1 1 1).bind fun v_2 =>
  f_Query_read_77 g v_2
set_option maxHeartbeats 1000000 in
set_option maxRecDepth 100000 in
theorem c_Query_read_73 (E : m_V p m c b_Query_read 4 s args R_Query D K) (hr : meth.sig.returnType = (some .int)) (hlk : meth.locks = false) (hz : s.heap.size + 0 = B + n)   : ∀ (g : m_G) (r1 : Option Nat) (r : Int32) (g' : m_G), f_Query_read_73 g r1 = some (r, g') → ∀ (H : Heap) (locs : List Loc), m_S D B K n g s.heap H locs → ∀ ls : Array Slot, lv_has ls 4 [(1, m_r B r1)] → W p l e ({ frames := 5, cells := 0, slots := 0, locals := 120 } : Room) s m args below meth c H locs 0 0 (MQ below (m_Q D B K (some (.int r)) n g') args s 0 0 (fun q => B ≤ q)) (F0 m 73 ls []) := by
  have hx := E.1.1
  have hb := E.1.2.1
  have hts := E.1.2.2.2.2
  intro g r1 r g' hF H locs S ls hl
  unfold f_Query_read_73 at hF
  refine m_aload_n (B := B) (r := r1) E d_Query_read_73 rfl (lv_at hl 0 rfl) ?_
  replace hF := Option.bind_eq_some_iff.mp hF
  obtain ⟨a_1, ea_1, hF⟩ := hF
  subst ea_1
  replace hF := Option.bind_eq_some_iff.mp hF
  obtain ⟨v_2, ev_2, hF⟩ := hF
  refine m_getI (B := B) (a := a_1) E S fd_Line_length (Or.inr ⟨_, qn_64⟩) ev_2 d_Query_read_74 ?_
  exact c_Query_read_77 E hr hlk hz _ _ _ _ hF _ _ S _ (lv_sub hl [] rfl)
def f_Query_read_54   (g : m_G) (a0 : Nat) (r1 : Option Nat) : Option (Int32 × m_G) :=
  (m_gI g a0 7 5).bind fun v_1 =>
  if (v_1 : Int32) = 4 then
    (m_gI g a0 7 4).bind fun v_3 =>
    if (v_3 : Int32) = 0 then
      f_Query_read_77 g (-1)
    else
      f_Query_read_73 g r1
  else
    f_Query_read_73 g r1
set_option maxHeartbeats 1000000 in
set_option maxRecDepth 100000 in
theorem c_Query_read_54 (E : m_V p m c b_Query_read 4 s args R_Query D K) (hr : meth.sig.returnType = (some .int)) (hlk : meth.locks = false) (hz : s.heap.size + 0 = B + n)   : ∀ (g : m_G) (a0 : Nat) (r1 : Option Nat) (r : Int32) (g' : m_G), f_Query_read_54 g a0 r1 = some (r, g') → ∀ (H : Heap) (locs : List Loc), m_S D B K n g s.heap H locs → ∀ ls : Array Slot, lv_has ls 4 [(0, .ref (B + a0)), (1, m_r B r1)] → W p l e ({ frames := 5, cells := 0, slots := 0, locals := 120 } : Room) s m args below meth c H locs 0 0 (MQ below (m_Q D B K (some (.int r)) n g') args s 0 0 (fun q => B ≤ q)) (F0 m 54 ls []) := by
  have hx := E.1.1
  have hb := E.1.2.1
  have hts := E.1.2.2.2.2
  intro g a0 r1 r g' hF H locs S ls hl
  unfold f_Query_read_54 at hF
  refine lv_aload_n hx hb d_Query_read_54 rfl (lv_at hl 0 rfl) ?_
  replace hF := Option.bind_eq_some_iff.mp hF
  obtain ⟨v_1, ev_1, hF⟩ := hF
  refine m_getI (B := B) (a := a0) E S fd_Query_state (Or.inl qw_44) ev_1 d_Query_read_55 ?_
  refine lv_iconst (v := 4) hx hb d_Query_read_58 (by decide) ?_
  refine lv_icmp_ne (tgt := 73) hx hb d_Query_read_59 (by decide) (fun c_2 => ?_) (fun c_2 => ?_)
  · rw [if_neg c_2] at hF
    exact c_Query_read_73 E hr hlk hz _ _ _ _ hF _ _ S _ (lv_sub hl [1] rfl)
  · rw [if_pos c_2] at hF
    refine lv_aload_n hx hb d_Query_read_62 rfl (lv_at hl 0 rfl) ?_
    replace hF := Option.bind_eq_some_iff.mp hF
    obtain ⟨v_3, ev_3, hF⟩ := hF
    refine m_getI (B := B) (a := a0) E S fd_Query_level (Or.inl qw_43) ev_3 d_Query_read_63 ?_
    refine lv_if_ne (tgt := 73) hx hb d_Query_read_66 (by decide) (fun c_4 => ?_) (fun c_4 => ?_)
    · rw [if_neg c_4] at hF
      exact c_Query_read_73 E hr hlk hz _ _ _ _ hF _ _ S _ (lv_sub hl [1] rfl)
    · rw [if_pos c_4] at hF
      refine lv_iconst (v := (-1)) hx hb d_Query_read_69 (by decide) ?_
      refine lv_goto (tgt := 77) hx hb d_Query_read_70 (by decide) ?_
      exact c_Query_read_77 E hr hlk hz _ _ _ _ hF _ _ S _ (lv_sub hl [] rfl)
def f_Query_read_11   : Nat → m_G → Nat → Option Nat → Option Nat → Int32 → Option (Int32 × m_G)
  | 0, _, _, _, _, _ => none
  | fu + 1, g, a0, r1, r2, x3 =>
    Option.bind r1 fun a_1 =>
    (m_gI g a_1 1 1).bind fun v_2 =>
    if (v_2 : Int32) ≤ x3 then
      (m_gI g a0 7 5).bind fun v_4 =>
      if (v_4 : Int32) = 2 then
        m_gd (m_is g a0 7) <|
        m_bd (f_Query_endWord g a0 r2 0) fun v_7 g_6 =>
        f_Query_read_54 g_6 a0 (some a_1)
      else
        f_Query_read_54 g a0 (some a_1)
    else
      m_gd (m_is g a_1 1) <|
      m_bd (f_Line_at g a_1 x3) fun v_9 g_8 =>
      m_gd (m_is g_8 a0 7) <|
      m_bd (f_Query_readCharacter g_8 a0 v_9 r2) fun v_11 g_10 =>
      if (v_11 : Int32) = 0 then
        some (x3, g_10)
      else
        f_Query_read_11 fu g_10 a0 (some a_1) r2 (x3 + 1)
set_option maxHeartbeats 1000000 in
set_option maxRecDepth 100000 in
theorem c_Query_read_11 (E : m_V p m c b_Query_read 4 s args R_Query D K) (hr : meth.sig.returnType = (some .int)) (hlk : meth.locks = false) (hz : s.heap.size + 0 = B + n)   : ∀ fu : Nat, ∀ (g : m_G) (a0 : Nat) (r1 : Option Nat) (r2 : Option Nat) (x3 : Int32) (r : Int32) (g' : m_G), f_Query_read_11  fu g a0 r1 r2 x3 = some (r, g') → ∀ (H : Heap) (locs : List Loc), m_S D B K n g s.heap H locs → ∀ ls : Array Slot, lv_has ls 4 [(0, .ref (B + a0)), (1, m_r B r1), (2, m_r B r2), (3, .int x3)] → W p l e ({ frames := 5, cells := 0, slots := 0, locals := 120 } : Room) s m args below meth c H locs 0 0 (MQ below (m_Q D B K (some (.int r)) n g') args s 0 0 (fun q => B ≤ q)) (F0 m 11 ls []) := by
  have hx := E.1.1
  have hb := E.1.2.1
  have hts := E.1.2.2.2.2
  intro fu
  induction fu with
  | zero => intro g a0 r1 r2 x3 r g' hF; cases hF
  | succ fu ih =>
    intro g a0 r1 r2 x3 r g' hF H locs S ls hl
    rw [f_Query_read_11] at hF
    refine lv_iload_n hx hb d_Query_read_11 rfl (lv_at hl 3 rfl) ?_
    refine m_aload_n (B := B) (r := r1) E d_Query_read_12 rfl (lv_at hl 1 rfl) ?_
    replace hF := Option.bind_eq_some_iff.mp hF
    obtain ⟨a_1, ea_1, hF⟩ := hF
    subst ea_1
    replace hF := Option.bind_eq_some_iff.mp hF
    obtain ⟨v_2, ev_2, hF⟩ := hF
    refine m_getI (B := B) (a := a_1) E S fd_Line_length (Or.inr ⟨_, qn_64⟩) ev_2 d_Query_read_13 ?_
    refine lv_icmp_ge (tgt := 40) hx hb d_Query_read_16 (by decide) (fun c_3 => ?_) (fun c_3 => ?_)
    · rw [if_pos c_3] at hF
      refine lv_aload_n hx hb d_Query_read_40 rfl (lv_at hl 0 rfl) ?_
      replace hF := Option.bind_eq_some_iff.mp hF
      obtain ⟨v_4, ev_4, hF⟩ := hF
      refine m_getI (B := B) (a := a0) E S fd_Query_state (Or.inl qw_44) ev_4 d_Query_read_41 ?_
      refine lv_iconst (v := 2) hx hb d_Query_read_44 (by decide) ?_
      refine lv_icmp_ne (tgt := 54) hx hb d_Query_read_45 (by decide) (fun c_5 => ?_) (fun c_5 => ?_)
      · rw [if_neg c_5] at hF
        exact c_Query_read_54 E hr hlk hz _ _ _ _ _ hF _ _ S _ (lv_sub hl [0, 1] rfl)
      · rw [if_pos c_5] at hF
        refine lv_aload_n hx hb d_Query_read_48 rfl (lv_at hl 0 rfl) ?_
        refine m_aload_n (B := B) (r := r2) E d_Query_read_49 rfl (lv_at hl 2 rfl) ?_
        refine lv_iconst (v := 0) hx hb d_Query_read_50 (by decide) ?_
        replace hF := m_gd_inv hF
        obtain ⟨eog_6, hF⟩ := hF
        replace hF := m_bd_inv hF
        obtain ⟨v_7, g_6, eg_6, hF⟩ := hF
        refine m_callV (B := B) (nn := 2) (b := a0) (As := [m_r B r2, .int 0]) (rest := []) (v := none) E S hz (c_Query_endWord l D B K n g a0 r2 0 v_7 g_6 eg_6) qc_Query_endWord ⟨rfl, rfl⟩ (Or.inl qw_204) qw_205 qw_206 qw_71 (by decide +kernel) ⟨Nat.le_of_ble_eq_true rfl, Nat.le_of_ble_eq_true rfl⟩ eog_6 rfl rfl hl.1 (Nat.le_of_ble_eq_true rfl) d_Query_read_51 ⟨Nat.le_of_ble_eq_true rfl, Nat.le_of_ble_eq_true rfl⟩ (fun H locs S => ?_)
        refine W.eq (g2 := F0 m 54 ls []) rfl ?_
        exact c_Query_read_54 E hr hlk hz _ _ _ _ _ hF _ _ S _ (lv_sub hl [0, 1] rfl)
    · rw [if_neg c_3] at hF
      refine lv_aload_n hx hb d_Query_read_19 rfl (lv_at hl 0 rfl) ?_
      refine m_aload_n (B := B) (r := (some a_1)) E d_Query_read_20 rfl (lv_at hl 1 rfl) ?_
      refine lv_iload_n hx hb d_Query_read_21 rfl (lv_at hl 3 rfl) ?_
      replace hF := m_gd_inv hF
      obtain ⟨eog_8, hF⟩ := hF
      replace hF := m_bd_inv hF
      obtain ⟨v_9, g_8, eg_8, hF⟩ := hF
      refine m_callV (B := B) (nn := 1) (b := a_1) (As := [.int x3]) (rest := [.ref (B + a0)]) (v := (some (.int v_9))) E S hz (c_Line_at l D B K n g a_1 x3 v_9 g_8 eg_8) qc_Line_at ⟨rfl, rfl⟩ (Or.inr ⟨_, qn_65⟩) qw_98 qw_99 qw_11 (by decide +kernel) ⟨Nat.le_of_ble_eq_true rfl, Nat.le_of_ble_eq_true rfl⟩ eog_8 rfl rfl hl.1 (Nat.le_of_ble_eq_true rfl) d_Query_read_22 ⟨Nat.le_of_ble_eq_true rfl, Nat.le_of_ble_eq_true rfl⟩ (fun H locs S => ?_)
      refine W.eq (g2 := F0 m 25 ls [.int v_9, .ref (B + a0)]) rfl ?_
      refine m_aload_n (B := B) (r := r2) E d_Query_read_25 rfl (lv_at hl 2 rfl) ?_
      replace hF := m_gd_inv hF
      obtain ⟨eog_10, hF⟩ := hF
      replace hF := m_bd_inv hF
      obtain ⟨v_11, g_10, eg_10, hF⟩ := hF
      refine m_callV (B := B) (nn := 2) (b := a0) (As := [.int v_9, m_r B r2]) (rest := []) (v := (some (.int v_11))) E S hz (c_Query_readCharacter l D B K n g_8 a0 v_9 r2 v_11 g_10 eg_10) qc_Query_readCharacter ⟨rfl, rfl⟩ (Or.inl qw_235) qw_236 qw_237 qw_71 (by decide +kernel) ⟨Nat.le_of_ble_eq_true rfl, Nat.le_of_ble_eq_true rfl⟩ eog_10 rfl rfl hl.1 (Nat.le_of_ble_eq_true rfl) d_Query_read_26 ⟨Nat.le_of_ble_eq_true rfl, Nat.le_of_ble_eq_true rfl⟩ (fun H locs S => ?_)
      refine W.eq (g2 := F0 m 29 ls [.int v_11]) rfl ?_
      refine lv_if_ne (tgt := 34) hx hb d_Query_read_29 (by decide) (fun c_12 => ?_) (fun c_12 => ?_)
      · rw [if_neg c_12] at hF
        refine lv_iinc (v := (x3 + 1)) (lv' := [(3, .int (x3 + 1)), (0, .ref (B + a0)), (1, m_r B (some a_1)), (2, m_r B r2)]) hx hb d_Query_read_34 hl (k := 3) rfl rfl (by decide) (by cases r2 <;> rfl) (fun ls hl => ?_)
        refine lv_goto (tgt := 11) hx hb d_Query_read_37 (by decide) ?_
        exact ih _ _ _ _ _ _ _ hF _ _ S _ (lv_sub hl [1, 2, 3, 0] rfl)
      · rw [if_pos c_12] at hF
        refine lv_iload_n hx hb d_Query_read_32 rfl (lv_at hl 3 rfl) ?_
        cases hF
        exact m_iret E S hz hr hlk d_Query_read_33
end S_Query_read
def f_Query_read  (g : m_G) (a0 : Nat) (r1 : Option Nat) (r2 : Option Nat) : Option (Int32 × m_G) :=
  (m_pI g a0 7 4 0).bind fun g_1 =>
  m_gd (m_is g_1 a0 7) <|
  m_bd (f_Query_beginLevel g_1 a0) fun v_3 g_2 =>
  f_Query_read_11 m_fu g_2 a0 r1 r2 0
set_option maxHeartbeats 1000000 in
set_option maxRecDepth 100000 in
theorem c_Query_read (l : Launch) (D : va_G) (B : Nat) (K : Nat → ClassId)  (n : Nat) (g : m_G) (a0 : Nat) (r1 : Option Nat) (r2 : Option Nat) (r : Int32) (g' : m_G) (hF : f_Query_read g a0 r1 r2 = some (r, g')) : Met l y_Query_read (Cond.code y_Query_read b_Query_read 4 (some .int) :: m_TB) ({ frames := 5, cells := 0, slots := 0, locals := 120 } : Room) (m_Pc D B K n g [.ref (B + a0), m_r B r1, m_r B r2]) (m_Q D B K (some (.int r)) n g') 0 0 (fun q => B ≤ q) := by
  refine m_met (by decide) (by simp only [lg_sl, List.flatMap_cons, List.flatMap_nil, m_r_cat]; exact Nat.le_of_ble_eq_true rfl) ?_
  intro p e s m args below meth c ls E hr hlk hin hsz S hl
  have E : m_V p m c b_Query_read 4 s args R_Query D K := E
  have hz : s.heap.size + 0 = B + n := hsz
  have hl : lv_has ls 4 [(0, .ref (B + a0)), (1, m_r B r1), (2, m_r B r2)] := by simp only [lv_args, m_r_cat] at hl; exact hl
  have hx := E.1.1
  have hb := E.1.2.1
  have hts := E.1.2.2.2.2
  unfold f_Query_read at hF
  refine lv_aload_n hx hb d_Query_read_0 rfl (lv_at hl 0 rfl) ?_
  refine lv_iconst (v := 0) hx hb d_Query_read_1 (by decide) ?_
  replace hF := Option.bind_eq_some_iff.mp hF
  obtain ⟨g_1, eg_1, hF⟩ := hF
  refine m_putI (B := B) (a := a0) E S fd_Query_level (Or.inl qw_43) eg_1 d_Query_read_2 (fun H locs S => ?_)
  refine lv_aload_n hx hb d_Query_read_5 rfl (lv_at hl 0 rfl) ?_
  replace hF := m_gd_inv hF
  obtain ⟨eog_2, hF⟩ := hF
  replace hF := m_bd_inv hF
  obtain ⟨v_3, g_2, eg_2, hF⟩ := hF
  refine m_callV (B := B) (nn := 0) (b := a0) (As := []) (rest := []) (v := none) E S hz (c_Query_beginLevel l D B K n g_1 a0 v_3 g_2 eg_2) qc_Query_beginLevel ⟨rfl, rfl⟩ (Or.inl qw_212) qw_213 qw_214 qw_71 (by decide +kernel) ⟨Nat.le_of_ble_eq_true rfl, Nat.le_of_ble_eq_true rfl⟩ eog_2 rfl rfl hl.1 (Nat.le_of_ble_eq_true rfl) d_Query_read_6 ⟨Nat.le_of_ble_eq_true rfl, Nat.le_of_ble_eq_true rfl⟩ (fun H locs S => ?_)
  refine W.eq (g2 := F0 m 9 ls []) rfl ?_
  refine lv_iconst (v := 0) hx hb d_Query_read_9 (by decide) ?_
  refine lv_istore_n (lv' := [(3, .int 0), (0, .ref (B + a0)), (1, m_r B r1), (2, m_r B r2)]) hx hb d_Query_read_10 rfl hl (by decide) (by cases r2 <;> rfl) (fun ls hl => ?_)
  exact c_Query_read_11 E hr hlk hz m_fu _ _ _ _ _ _ _ hF _ _ S _ (lv_sub hl [1, 2, 3, 0] rfl)
def f_Integer_bitCount  (g : m_G) (x0 : Int32) : Option (Int32 × m_G) :=
  some (((((((((x0 - ((x0.toUInt32 >>> ((1 : Int32).toUInt32 &&& Int32.toUInt32 31)).toInt32 &&& 1431655765)) &&& 858993459) + (((x0 - ((x0.toUInt32 >>> ((1 : Int32).toUInt32 &&& Int32.toUInt32 31)).toInt32 &&& 1431655765)).toUInt32 >>> ((2 : Int32).toUInt32 &&& Int32.toUInt32 31)).toInt32 &&& 858993459)) + ((((x0 - ((x0.toUInt32 >>> ((1 : Int32).toUInt32 &&& Int32.toUInt32 31)).toInt32 &&& 1431655765)) &&& 858993459) + (((x0 - ((x0.toUInt32 >>> ((1 : Int32).toUInt32 &&& Int32.toUInt32 31)).toInt32 &&& 1431655765)).toUInt32 >>> ((2 : Int32).toUInt32 &&& Int32.toUInt32 31)).toInt32 &&& 858993459)).toUInt32 >>> ((4 : Int32).toUInt32 &&& Int32.toUInt32 31)).toInt32) &&& 252645135) + ((((((x0 - ((x0.toUInt32 >>> ((1 : Int32).toUInt32 &&& Int32.toUInt32 31)).toInt32 &&& 1431655765)) &&& 858993459) + (((x0 - ((x0.toUInt32 >>> ((1 : Int32).toUInt32 &&& Int32.toUInt32 31)).toInt32 &&& 1431655765)).toUInt32 >>> ((2 : Int32).toUInt32 &&& Int32.toUInt32 31)).toInt32 &&& 858993459)) + ((((x0 - ((x0.toUInt32 >>> ((1 : Int32).toUInt32 &&& Int32.toUInt32 31)).toInt32 &&& 1431655765)) &&& 858993459) + (((x0 - ((x0.toUInt32 >>> ((1 : Int32).toUInt32 &&& Int32.toUInt32 31)).toInt32 &&& 1431655765)).toUInt32 >>> ((2 : Int32).toUInt32 &&& Int32.toUInt32 31)).toInt32 &&& 858993459)).toUInt32 >>> ((4 : Int32).toUInt32 &&& Int32.toUInt32 31)).toInt32) &&& 252645135).toUInt32 >>> ((8 : Int32).toUInt32 &&& Int32.toUInt32 31)).toInt32) + (((((((x0 - ((x0.toUInt32 >>> ((1 : Int32).toUInt32 &&& Int32.toUInt32 31)).toInt32 &&& 1431655765)) &&& 858993459) + (((x0 - ((x0.toUInt32 >>> ((1 : Int32).toUInt32 &&& Int32.toUInt32 31)).toInt32 &&& 1431655765)).toUInt32 >>> ((2 : Int32).toUInt32 &&& Int32.toUInt32 31)).toInt32 &&& 858993459)) + ((((x0 - ((x0.toUInt32 >>> ((1 : Int32).toUInt32 &&& Int32.toUInt32 31)).toInt32 &&& 1431655765)) &&& 858993459) + (((x0 - ((x0.toUInt32 >>> ((1 : Int32).toUInt32 &&& Int32.toUInt32 31)).toInt32 &&& 1431655765)).toUInt32 >>> ((2 : Int32).toUInt32 &&& Int32.toUInt32 31)).toInt32 &&& 858993459)).toUInt32 >>> ((4 : Int32).toUInt32 &&& Int32.toUInt32 31)).toInt32) &&& 252645135) + ((((((x0 - ((x0.toUInt32 >>> ((1 : Int32).toUInt32 &&& Int32.toUInt32 31)).toInt32 &&& 1431655765)) &&& 858993459) + (((x0 - ((x0.toUInt32 >>> ((1 : Int32).toUInt32 &&& Int32.toUInt32 31)).toInt32 &&& 1431655765)).toUInt32 >>> ((2 : Int32).toUInt32 &&& Int32.toUInt32 31)).toInt32 &&& 858993459)) + ((((x0 - ((x0.toUInt32 >>> ((1 : Int32).toUInt32 &&& Int32.toUInt32 31)).toInt32 &&& 1431655765)) &&& 858993459) + (((x0 - ((x0.toUInt32 >>> ((1 : Int32).toUInt32 &&& Int32.toUInt32 31)).toInt32 &&& 1431655765)).toUInt32 >>> ((2 : Int32).toUInt32 &&& Int32.toUInt32 31)).toInt32 &&& 858993459)).toUInt32 >>> ((4 : Int32).toUInt32 &&& Int32.toUInt32 31)).toInt32) &&& 252645135).toUInt32 >>> ((8 : Int32).toUInt32 &&& Int32.toUInt32 31)).toInt32).toUInt32 >>> ((16 : Int32).toUInt32 &&& Int32.toUInt32 31)).toInt32) &&& 63), g)
set_option maxHeartbeats 1000000 in
set_option maxRecDepth 100000 in
theorem c_Integer_bitCount (l : Launch) (D : va_G) (B : Nat) (K : Nat → ClassId)  (n : Nat) (g : m_G) (x0 : Int32) (r : Int32) (g' : m_G) (hF : f_Integer_bitCount g x0 = some (r, g')) : Met l y_Integer_bitCount (Cond.code y_Integer_bitCount b_Integer_bitCount 1 (some .int) :: m_TB) ({ frames := 0, cells := 0, slots := 0, locals := 0 } : Room) (m_Pc D B K n g [.int x0]) (m_Q D B K (some (.int r)) n g') 0 0 (fun q => B ≤ q) := by
  refine m_met (by decide) (Nat.le_of_ble_eq_true rfl) ?_
  intro p e s m args below meth c ls E hr hlk hin hsz S hl
  have E : m_V p m c b_Integer_bitCount 1 s args R_Integer D K := E
  have hz : s.heap.size + 0 = B + n := hsz
  have hl : lv_has ls 1 [(0, .int x0)] := hl
  have hx := E.1.1
  have hb := E.1.2.1
  have hts := E.1.2.2.2.2
  unfold f_Integer_bitCount at hF
  refine lv_iload_n hx hb d_Integer_bitCount_0 rfl (lv_at hl 0 rfl) ?_
  refine lv_iload_n hx hb d_Integer_bitCount_1 rfl (lv_at hl 0 rfl) ?_
  refine lv_iconst (v := 1) hx hb d_Integer_bitCount_2 (by decide) ?_
  refine lv_iushr hx hb d_Integer_bitCount_3 rfl ?_
  refine lv_ldcw (v := 1431655765) hx hb E.1.2.2.2.1 (hts _ qw_238) d_Integer_bitCount_4 ?_
  refine lv_iand hx hb d_Integer_bitCount_7 ?_
  refine lv_isub hx hb d_Integer_bitCount_8 ?_
  refine lv_istore_n (lv' := [(0, .int (x0 - ((x0.toUInt32 >>> ((1 : Int32).toUInt32 &&& Int32.toUInt32 31)).toInt32 &&& 1431655765)))]) hx hb d_Integer_bitCount_9 rfl hl (by decide) rfl (fun ls hl => ?_)
  refine lv_iload_n hx hb d_Integer_bitCount_10 rfl (lv_at hl 0 rfl) ?_
  refine lv_ldcw (v := 858993459) hx hb E.1.2.2.2.1 (hts _ qw_239) d_Integer_bitCount_11 ?_
  refine lv_iand hx hb d_Integer_bitCount_14 ?_
  refine lv_iload_n hx hb d_Integer_bitCount_15 rfl (lv_at hl 0 rfl) ?_
  refine lv_iconst (v := 2) hx hb d_Integer_bitCount_16 (by decide) ?_
  refine lv_iushr hx hb d_Integer_bitCount_17 rfl ?_
  refine lv_ldcw (v := 858993459) hx hb E.1.2.2.2.1 (hts _ qw_239) d_Integer_bitCount_18 ?_
  refine lv_iand hx hb d_Integer_bitCount_21 ?_
  refine lv_iadd hx hb d_Integer_bitCount_22 ?_
  refine lv_istore_n (lv' := [(0, .int (((x0 - ((x0.toUInt32 >>> ((1 : Int32).toUInt32 &&& Int32.toUInt32 31)).toInt32 &&& 1431655765)) &&& 858993459) + (((x0 - ((x0.toUInt32 >>> ((1 : Int32).toUInt32 &&& Int32.toUInt32 31)).toInt32 &&& 1431655765)).toUInt32 >>> ((2 : Int32).toUInt32 &&& Int32.toUInt32 31)).toInt32 &&& 858993459)))]) hx hb d_Integer_bitCount_23 rfl hl (by decide) rfl (fun ls hl => ?_)
  refine lv_iload_n hx hb d_Integer_bitCount_24 rfl (lv_at hl 0 rfl) ?_
  refine lv_iload_n hx hb d_Integer_bitCount_25 rfl (lv_at hl 0 rfl) ?_
  refine lv_iconst (v := 4) hx hb d_Integer_bitCount_26 (by decide) ?_
  refine lv_iushr hx hb d_Integer_bitCount_27 rfl ?_
  refine lv_iadd hx hb d_Integer_bitCount_28 ?_
  refine lv_ldcw (v := 252645135) hx hb E.1.2.2.2.1 (hts _ qw_240) d_Integer_bitCount_29 ?_
  refine lv_iand hx hb d_Integer_bitCount_32 ?_
  refine lv_istore_n (lv' := [(0, .int (((((x0 - ((x0.toUInt32 >>> ((1 : Int32).toUInt32 &&& Int32.toUInt32 31)).toInt32 &&& 1431655765)) &&& 858993459) + (((x0 - ((x0.toUInt32 >>> ((1 : Int32).toUInt32 &&& Int32.toUInt32 31)).toInt32 &&& 1431655765)).toUInt32 >>> ((2 : Int32).toUInt32 &&& Int32.toUInt32 31)).toInt32 &&& 858993459)) + ((((x0 - ((x0.toUInt32 >>> ((1 : Int32).toUInt32 &&& Int32.toUInt32 31)).toInt32 &&& 1431655765)) &&& 858993459) + (((x0 - ((x0.toUInt32 >>> ((1 : Int32).toUInt32 &&& Int32.toUInt32 31)).toInt32 &&& 1431655765)).toUInt32 >>> ((2 : Int32).toUInt32 &&& Int32.toUInt32 31)).toInt32 &&& 858993459)).toUInt32 >>> ((4 : Int32).toUInt32 &&& Int32.toUInt32 31)).toInt32) &&& 252645135))]) hx hb d_Integer_bitCount_33 rfl hl (by decide) rfl (fun ls hl => ?_)
  refine lv_iload_n hx hb d_Integer_bitCount_34 rfl (lv_at hl 0 rfl) ?_
  refine lv_iload_n hx hb d_Integer_bitCount_35 rfl (lv_at hl 0 rfl) ?_
  refine lv_bipush (v := 8) hx hb d_Integer_bitCount_36 (by decide) ?_
  refine lv_iushr hx hb d_Integer_bitCount_38 rfl ?_
  refine lv_iadd hx hb d_Integer_bitCount_39 ?_
  refine lv_istore_n (lv' := [(0, .int ((((((x0 - ((x0.toUInt32 >>> ((1 : Int32).toUInt32 &&& Int32.toUInt32 31)).toInt32 &&& 1431655765)) &&& 858993459) + (((x0 - ((x0.toUInt32 >>> ((1 : Int32).toUInt32 &&& Int32.toUInt32 31)).toInt32 &&& 1431655765)).toUInt32 >>> ((2 : Int32).toUInt32 &&& Int32.toUInt32 31)).toInt32 &&& 858993459)) + ((((x0 - ((x0.toUInt32 >>> ((1 : Int32).toUInt32 &&& Int32.toUInt32 31)).toInt32 &&& 1431655765)) &&& 858993459) + (((x0 - ((x0.toUInt32 >>> ((1 : Int32).toUInt32 &&& Int32.toUInt32 31)).toInt32 &&& 1431655765)).toUInt32 >>> ((2 : Int32).toUInt32 &&& Int32.toUInt32 31)).toInt32 &&& 858993459)).toUInt32 >>> ((4 : Int32).toUInt32 &&& Int32.toUInt32 31)).toInt32) &&& 252645135) + ((((((x0 - ((x0.toUInt32 >>> ((1 : Int32).toUInt32 &&& Int32.toUInt32 31)).toInt32 &&& 1431655765)) &&& 858993459) + (((x0 - ((x0.toUInt32 >>> ((1 : Int32).toUInt32 &&& Int32.toUInt32 31)).toInt32 &&& 1431655765)).toUInt32 >>> ((2 : Int32).toUInt32 &&& Int32.toUInt32 31)).toInt32 &&& 858993459)) + ((((x0 - ((x0.toUInt32 >>> ((1 : Int32).toUInt32 &&& Int32.toUInt32 31)).toInt32 &&& 1431655765)) &&& 858993459) + (((x0 - ((x0.toUInt32 >>> ((1 : Int32).toUInt32 &&& Int32.toUInt32 31)).toInt32 &&& 1431655765)).toUInt32 >>> ((2 : Int32).toUInt32 &&& Int32.toUInt32 31)).toInt32 &&& 858993459)).toUInt32 >>> ((4 : Int32).toUInt32 &&& Int32.toUInt32 31)).toInt32) &&& 252645135).toUInt32 >>> ((8 : Int32).toUInt32 &&& Int32.toUInt32 31)).toInt32))]) hx hb d_Integer_bitCount_40 rfl hl (by decide) rfl (fun ls hl => ?_)
  refine lv_iload_n hx hb d_Integer_bitCount_41 rfl (lv_at hl 0 rfl) ?_
  refine lv_iload_n hx hb d_Integer_bitCount_42 rfl (lv_at hl 0 rfl) ?_
  refine lv_bipush (v := 16) hx hb d_Integer_bitCount_43 (by decide) ?_
  refine lv_iushr hx hb d_Integer_bitCount_45 rfl ?_
  refine lv_iadd hx hb d_Integer_bitCount_46 ?_
  refine lv_istore_n (lv' := [(0, .int (((((((x0 - ((x0.toUInt32 >>> ((1 : Int32).toUInt32 &&& Int32.toUInt32 31)).toInt32 &&& 1431655765)) &&& 858993459) + (((x0 - ((x0.toUInt32 >>> ((1 : Int32).toUInt32 &&& Int32.toUInt32 31)).toInt32 &&& 1431655765)).toUInt32 >>> ((2 : Int32).toUInt32 &&& Int32.toUInt32 31)).toInt32 &&& 858993459)) + ((((x0 - ((x0.toUInt32 >>> ((1 : Int32).toUInt32 &&& Int32.toUInt32 31)).toInt32 &&& 1431655765)) &&& 858993459) + (((x0 - ((x0.toUInt32 >>> ((1 : Int32).toUInt32 &&& Int32.toUInt32 31)).toInt32 &&& 1431655765)).toUInt32 >>> ((2 : Int32).toUInt32 &&& Int32.toUInt32 31)).toInt32 &&& 858993459)).toUInt32 >>> ((4 : Int32).toUInt32 &&& Int32.toUInt32 31)).toInt32) &&& 252645135) + ((((((x0 - ((x0.toUInt32 >>> ((1 : Int32).toUInt32 &&& Int32.toUInt32 31)).toInt32 &&& 1431655765)) &&& 858993459) + (((x0 - ((x0.toUInt32 >>> ((1 : Int32).toUInt32 &&& Int32.toUInt32 31)).toInt32 &&& 1431655765)).toUInt32 >>> ((2 : Int32).toUInt32 &&& Int32.toUInt32 31)).toInt32 &&& 858993459)) + ((((x0 - ((x0.toUInt32 >>> ((1 : Int32).toUInt32 &&& Int32.toUInt32 31)).toInt32 &&& 1431655765)) &&& 858993459) + (((x0 - ((x0.toUInt32 >>> ((1 : Int32).toUInt32 &&& Int32.toUInt32 31)).toInt32 &&& 1431655765)).toUInt32 >>> ((2 : Int32).toUInt32 &&& Int32.toUInt32 31)).toInt32 &&& 858993459)).toUInt32 >>> ((4 : Int32).toUInt32 &&& Int32.toUInt32 31)).toInt32) &&& 252645135).toUInt32 >>> ((8 : Int32).toUInt32 &&& Int32.toUInt32 31)).toInt32) + (((((((x0 - ((x0.toUInt32 >>> ((1 : Int32).toUInt32 &&& Int32.toUInt32 31)).toInt32 &&& 1431655765)) &&& 858993459) + (((x0 - ((x0.toUInt32 >>> ((1 : Int32).toUInt32 &&& Int32.toUInt32 31)).toInt32 &&& 1431655765)).toUInt32 >>> ((2 : Int32).toUInt32 &&& Int32.toUInt32 31)).toInt32 &&& 858993459)) + ((((x0 - ((x0.toUInt32 >>> ((1 : Int32).toUInt32 &&& Int32.toUInt32 31)).toInt32 &&& 1431655765)) &&& 858993459) + (((x0 - ((x0.toUInt32 >>> ((1 : Int32).toUInt32 &&& Int32.toUInt32 31)).toInt32 &&& 1431655765)).toUInt32 >>> ((2 : Int32).toUInt32 &&& Int32.toUInt32 31)).toInt32 &&& 858993459)).toUInt32 >>> ((4 : Int32).toUInt32 &&& Int32.toUInt32 31)).toInt32) &&& 252645135) + ((((((x0 - ((x0.toUInt32 >>> ((1 : Int32).toUInt32 &&& Int32.toUInt32 31)).toInt32 &&& 1431655765)) &&& 858993459) + (((x0 - ((x0.toUInt32 >>> ((1 : Int32).toUInt32 &&& Int32.toUInt32 31)).toInt32 &&& 1431655765)).toUInt32 >>> ((2 : Int32).toUInt32 &&& Int32.toUInt32 31)).toInt32 &&& 858993459)) + ((((x0 - ((x0.toUInt32 >>> ((1 : Int32).toUInt32 &&& Int32.toUInt32 31)).toInt32 &&& 1431655765)) &&& 858993459) + (((x0 - ((x0.toUInt32 >>> ((1 : Int32).toUInt32 &&& Int32.toUInt32 31)).toInt32 &&& 1431655765)).toUInt32 >>> ((2 : Int32).toUInt32 &&& Int32.toUInt32 31)).toInt32 &&& 858993459)).toUInt32 >>> ((4 : Int32).toUInt32 &&& Int32.toUInt32 31)).toInt32) &&& 252645135).toUInt32 >>> ((8 : Int32).toUInt32 &&& Int32.toUInt32 31)).toInt32).toUInt32 >>> ((16 : Int32).toUInt32 &&& Int32.toUInt32 31)).toInt32))]) hx hb d_Integer_bitCount_47 rfl hl (by decide) rfl (fun ls hl => ?_)
  refine lv_iload_n hx hb d_Integer_bitCount_48 rfl (lv_at hl 0 rfl) ?_
  refine lv_bipush (v := 63) hx hb d_Integer_bitCount_49 (by decide) ?_
  refine lv_iand hx hb d_Integer_bitCount_51 ?_
  cases hF
  exact m_iret E S hz hr hlk d_Integer_bitCount_52
def f_Arc_search  (g : m_G) (a0 : Nat) : Option (Int32 × m_G) :=
  (m_gR g a0 0 4).bind fun v_1 =>
  (m_gR g a0 0 0).bind fun v_2 =>
  (m_gR g a0 0 5).bind fun v_3 =>
  Option.bind v_1 fun a_4 =>
  m_gd (m_is g a_4 7) <|
  m_bd (f_Query_read g a_4 v_2 v_3) fun v_6 g_5 =>
  (m_pI g_5 a0 0 9 v_6).bind fun g_7 =>
  (m_gR g_7 a0 0 0).bind fun v_8 =>
  Option.bind v_8 fun a_9 =>
  m_gd (m_is g_7 a_9 1) <|
  m_bd (f_Line_clear g_7 a_9) fun v_11 g_10 =>
  (m_gI g_10 a0 0 9).bind fun v_12 =>
  if (v_12 : Int32) < 0 then
    (m_gR g_10 a0 0 4).bind fun v_14 =>
    Option.bind v_14 fun a_15 =>
    m_gd (m_is g_10 a_15 7) <|
    m_bd (f_Query_holding g_10 a_15) fun v_17 g_16 =>
    m_gd (m_is g_16 a0 0) <|
    m_bd (f_Arc_numbersThere g_16 a0) fun v_19 g_18 =>
    (m_pI g_18 a0 0 8 (v_17 &&& v_19)).bind fun g_20 =>
    (m_gI g_20 a0 0 8).bind fun v_21 =>
    m_bd (f_Integer_bitCount g_20 v_21) fun v_23 g_22 =>
    some (v_23, g_22)
  else
    some ((-3), g_10)
set_option maxHeartbeats 1000000 in
set_option maxRecDepth 100000 in
theorem c_Arc_search (l : Launch) (D : va_G) (B : Nat) (K : Nat → ClassId)  (n : Nat) (g : m_G) (a0 : Nat) (r : Int32) (g' : m_G) (hF : f_Arc_search g a0 = some (r, g')) : Met l y_Arc_search (Cond.code y_Arc_search b_Arc_search 1 (some .int) :: m_TB) ({ frames := 6, cells := 0, slots := 0, locals := 143 } : Room) (m_Pc D B K n g [.ref (B + a0)]) (m_Q D B K (some (.int r)) n g') 0 0 (fun q => B ≤ q) := by
  refine m_met (by decide) (Nat.le_of_ble_eq_true rfl) ?_
  intro p e s m args below meth c ls E hr hlk hin hsz S hl
  have E : m_V p m c b_Arc_search 1 s args R_Arc D K := E
  have hz : s.heap.size + 0 = B + n := hsz
  have hl : lv_has ls 1 [(0, .ref (B + a0))] := hl
  have hx := E.1.1
  have hb := E.1.2.1
  have hts := E.1.2.2.2.2
  unfold f_Arc_search at hF
  refine lv_aload_n hx hb d_Arc_search_0 rfl (lv_at hl 0 rfl) ?_
  refine lv_aload_n hx hb d_Arc_search_1 rfl (lv_at hl 0 rfl) ?_
  replace hF := Option.bind_eq_some_iff.mp hF
  obtain ⟨v_1, ev_1, hF⟩ := hF
  refine m_getR (B := B) (a := a0) E S fd_Arc_query (Or.inl qw_73) ev_1 d_Arc_search_2 ?_
  refine lv_aload_n hx hb d_Arc_search_5 rfl (lv_at hl 0 rfl) ?_
  replace hF := Option.bind_eq_some_iff.mp hF
  obtain ⟨v_2, ev_2, hF⟩ := hF
  refine m_getR (B := B) (a := a0) E S fd_Arc_line (Or.inl qw_54) ev_2 d_Arc_search_6 ?_
  refine lv_aload_n hx hb d_Arc_search_9 rfl (lv_at hl 0 rfl) ?_
  replace hF := Option.bind_eq_some_iff.mp hF
  obtain ⟨v_3, ev_3, hF⟩ := hF
  refine m_getR (B := B) (a := a0) E S fd_Arc_messages (Or.inl qw_75) ev_3 d_Arc_search_10 ?_
  replace hF := Option.bind_eq_some_iff.mp hF
  obtain ⟨a_4, ea_4, hF⟩ := hF
  subst ea_4
  replace hF := m_gd_inv hF
  obtain ⟨eog_5, hF⟩ := hF
  replace hF := m_bd_inv hF
  obtain ⟨v_6, g_5, eg_5, hF⟩ := hF
  refine m_callV (B := B) (nn := 2) (b := a_4) (As := [m_r B v_2, m_r B v_3]) (rest := [.ref (B + a0)]) (v := (some (.int v_6))) E S hz (c_Query_read l D B K n g a_4 v_2 v_3 v_6 g_5 eg_5) qc_Query_read ⟨rfl, rfl⟩ (Or.inr ⟨_, qn_66⟩) qw_241 qw_242 qw_71 (by decide +kernel) ⟨Nat.le_of_ble_eq_true rfl, Nat.le_of_ble_eq_true rfl⟩ eog_5 rfl rfl hl.1 (Nat.le_of_ble_eq_true rfl) d_Arc_search_13 ⟨Nat.le_of_ble_eq_true rfl, Nat.le_of_ble_eq_true rfl⟩ (fun H locs S => ?_)
  refine W.eq (g2 := F0 m 16 ls [.int v_6, .ref (B + a0)]) rfl ?_
  replace hF := Option.bind_eq_some_iff.mp hF
  obtain ⟨g_7, eg_7, hF⟩ := hF
  refine m_putI (B := B) (a := a0) E S fd_Arc_errorPlace (Or.inl qw_82) eg_7 d_Arc_search_16 (fun H locs S => ?_)
  refine lv_aload_n hx hb d_Arc_search_19 rfl (lv_at hl 0 rfl) ?_
  replace hF := Option.bind_eq_some_iff.mp hF
  obtain ⟨v_8, ev_8, hF⟩ := hF
  refine m_getR (B := B) (a := a0) E S fd_Arc_line (Or.inl qw_54) ev_8 d_Arc_search_20 ?_
  replace hF := Option.bind_eq_some_iff.mp hF
  obtain ⟨a_9, ea_9, hF⟩ := hF
  subst ea_9
  replace hF := m_gd_inv hF
  obtain ⟨eog_10, hF⟩ := hF
  replace hF := m_bd_inv hF
  obtain ⟨v_11, g_10, eg_10, hF⟩ := hF
  refine m_callV (B := B) (nn := 0) (b := a_9) (As := []) (rest := []) (v := none) E S hz (c_Line_clear l D B K n g_7 a_9 v_11 g_10 eg_10) qc_Line_clear ⟨rfl, rfl⟩ (Or.inr ⟨_, qn_14⟩) qw_93 qw_94 qw_11 (by decide +kernel) ⟨Nat.le_of_ble_eq_true rfl, Nat.le_of_ble_eq_true rfl⟩ eog_10 rfl rfl hl.1 (Nat.le_of_ble_eq_true rfl) d_Arc_search_23 ⟨Nat.le_of_ble_eq_true rfl, Nat.le_of_ble_eq_true rfl⟩ (fun H locs S => ?_)
  refine W.eq (g2 := F0 m 26 ls []) rfl ?_
  refine lv_aload_n hx hb d_Arc_search_26 rfl (lv_at hl 0 rfl) ?_
  replace hF := Option.bind_eq_some_iff.mp hF
  obtain ⟨v_12, ev_12, hF⟩ := hF
  refine m_getI (B := B) (a := a0) E S fd_Arc_errorPlace (Or.inl qw_82) ev_12 d_Arc_search_27 ?_
  refine lv_if_lt (tgt := 36) hx hb d_Arc_search_30 (by decide) (fun c_13 => ?_) (fun c_13 => ?_)
  · rw [if_pos c_13] at hF
    refine lv_aload_n hx hb d_Arc_search_36 rfl (lv_at hl 0 rfl) ?_
    refine lv_aload_n hx hb d_Arc_search_37 rfl (lv_at hl 0 rfl) ?_
    replace hF := Option.bind_eq_some_iff.mp hF
    obtain ⟨v_14, ev_14, hF⟩ := hF
    refine m_getR (B := B) (a := a0) E S fd_Arc_query (Or.inl qw_73) ev_14 d_Arc_search_38 ?_
    replace hF := Option.bind_eq_some_iff.mp hF
    obtain ⟨a_15, ea_15, hF⟩ := hF
    subst ea_15
    replace hF := m_gd_inv hF
    obtain ⟨eog_16, hF⟩ := hF
    replace hF := m_bd_inv hF
    obtain ⟨v_17, g_16, eg_16, hF⟩ := hF
    refine m_callV (B := B) (nn := 0) (b := a_15) (As := []) (rest := [.ref (B + a0)]) (v := (some (.int v_17))) E S hz (c_Query_holding l D B K n g_10 a_15 v_17 g_16 eg_16) qc_Query_holding ⟨rfl, rfl⟩ (Or.inr ⟨_, qn_67⟩) qw_243 qw_244 qw_71 (by decide +kernel) ⟨Nat.le_of_ble_eq_true rfl, Nat.le_of_ble_eq_true rfl⟩ eog_16 rfl rfl hl.1 (Nat.le_of_ble_eq_true rfl) d_Arc_search_41 ⟨Nat.le_of_ble_eq_true rfl, Nat.le_of_ble_eq_true rfl⟩ (fun H locs S => ?_)
    refine W.eq (g2 := F0 m 44 ls [.int v_17, .ref (B + a0)]) rfl ?_
    refine lv_aload_n hx hb d_Arc_search_44 rfl (lv_at hl 0 rfl) ?_
    replace hF := m_gd_inv hF
    obtain ⟨eog_18, hF⟩ := hF
    replace hF := m_bd_inv hF
    obtain ⟨v_19, g_18, eg_18, hF⟩ := hF
    refine m_callV (B := B) (nn := 0) (b := a0) (As := []) (rest := [.int v_17, .ref (B + a0)]) (v := (some (.int v_19))) E S hz (c_Arc_numbersThere l D B K n g_16 a0 v_19 g_18 eg_18) qc_Arc_numbersThere ⟨rfl, rfl⟩ (Or.inl qw_245) qw_246 qw_247 qw_105 (by decide +kernel) ⟨Nat.le_of_ble_eq_true rfl, Nat.le_of_ble_eq_true rfl⟩ eog_18 rfl rfl hl.1 (Nat.le_of_ble_eq_true rfl) d_Arc_search_45 ⟨Nat.le_of_ble_eq_true rfl, Nat.le_of_ble_eq_true rfl⟩ (fun H locs S => ?_)
    refine W.eq (g2 := F0 m 48 ls [.int v_19, .int v_17, .ref (B + a0)]) rfl ?_
    refine lv_iand hx hb d_Arc_search_48 ?_
    replace hF := Option.bind_eq_some_iff.mp hF
    obtain ⟨g_20, eg_20, hF⟩ := hF
    refine m_putI (B := B) (a := a0) E S fd_Arc_found (Or.inl qw_81) eg_20 d_Arc_search_49 (fun H locs S => ?_)
    refine lv_aload_n hx hb d_Arc_search_52 rfl (lv_at hl 0 rfl) ?_
    replace hF := Option.bind_eq_some_iff.mp hF
    obtain ⟨v_21, ev_21, hF⟩ := hF
    refine m_getI (B := B) (a := a0) E S fd_Arc_found (Or.inl qw_81) ev_21 d_Arc_search_53 ?_
    replace hF := m_bd_inv hF
    obtain ⟨v_23, g_22, eg_22, hF⟩ := hF
    refine m_callS (B := B) (nn := 1) (As := [.int v_21]) (rest := []) (v := (some (.int v_23))) E S hz (c_Integer_bitCount l D B K n g_20 v_21 v_23 g_22 eg_22) qc_Integer_bitCount ⟨rfl, rfl⟩ (Or.inl qw_248) qw_250 qw_249 (by decide +kernel) ⟨Nat.le_of_ble_eq_true rfl, Nat.le_of_ble_eq_true rfl⟩ rfl hl.1 (Nat.le_of_ble_eq_true rfl) d_Arc_search_56 ⟨Nat.le_of_ble_eq_true rfl, Nat.le_of_ble_eq_true rfl⟩ (fun H locs S => ?_)
    refine W.eq (g2 := F0 m 59 ls [.int v_23]) rfl ?_
    cases hF
    exact m_iret E S hz hr hlk d_Arc_search_59
  · rw [if_neg c_13] at hF
    refine lv_bipush (v := (-3)) hx hb d_Arc_search_33 (by decide) ?_
    cases hF
    exact m_iret E S hz hr hlk d_Arc_search_35
def f_Arc_errorAt  (g : m_G) (a0 : Nat) : Option (Int32 × m_G) :=
  (m_gI g a0 0 9).bind fun v_1 =>
  some (v_1, g)
set_option maxHeartbeats 1000000 in
set_option maxRecDepth 100000 in
theorem c_Arc_errorAt (l : Launch) (D : va_G) (B : Nat) (K : Nat → ClassId)  (n : Nat) (g : m_G) (a0 : Nat) (r : Int32) (g' : m_G) (hF : f_Arc_errorAt g a0 = some (r, g')) : Met l y_Arc_errorAt (Cond.code y_Arc_errorAt b_Arc_errorAt 1 (some .int) :: m_TB) ({ frames := 0, cells := 0, slots := 0, locals := 0 } : Room) (m_Pc D B K n g [.ref (B + a0)]) (m_Q D B K (some (.int r)) n g') 0 0 (fun q => B ≤ q) := by
  refine m_met (by decide) (Nat.le_of_ble_eq_true rfl) ?_
  intro p e s m args below meth c ls E hr hlk hin hsz S hl
  have E : m_V p m c b_Arc_errorAt 1 s args R_Arc D K := E
  have hz : s.heap.size + 0 = B + n := hsz
  have hl : lv_has ls 1 [(0, .ref (B + a0))] := hl
  have hx := E.1.1
  have hb := E.1.2.1
  have hts := E.1.2.2.2.2
  unfold f_Arc_errorAt at hF
  refine lv_aload_n hx hb d_Arc_errorAt_0 rfl (lv_at hl 0 rfl) ?_
  replace hF := Option.bind_eq_some_iff.mp hF
  obtain ⟨v_1, ev_1, hF⟩ := hF
  refine m_getI (B := B) (a := a0) E S fd_Arc_errorPlace (Or.inl qw_82) ev_1 d_Arc_errorAt_1 ?_
  cases hF
  exact m_iret E S hz hr hlk d_Arc_errorAt_4
section S_Arc_numberInSet
variable {p : Program} {l : Launch} {e : Env} {s : State} {m : MethodId} {args : Array Value} {below : List Frame} {meth : Method} {c : Code} {D : va_G} {B n : Nat} {K : Nat → ClassId}
def f_Arc_numberInSet_28  (k_4 : m_G → Int32 → Int32 → Int32 → Int32 → Option (Int32 × m_G)) (g : m_G) (x0 : Int32) (x1 : Int32) (x2 : Int32) (x3 : Int32) : Option (Int32 × m_G) :=
  k_4 g x0 x1 x2 (x3 + 1)
set_option maxHeartbeats 1000000 in
set_option maxRecDepth 100000 in
theorem c_Arc_numberInSet_28 (E : m_V p m c b_Arc_numberInSet 4 s args R_Arc D K) (hr : meth.sig.returnType = (some .int)) (hlk : meth.locks = false) (hz : s.heap.size + 0 = B + n)  (k_4 : m_G → Int32 → Int32 → Int32 → Int32 → Option (Int32 × m_G)) (hk_4 : ∀ (g : m_G) (x0 : Int32) (x1 : Int32) (x2 : Int32) (x3 : Int32) (r : Int32) (g' : m_G), k_4 g x0 x1 x2 x3 = some (r, g') → ∀ (H : Heap) (locs : List Loc), m_S D B K n g s.heap H locs → ∀ ls : Array Slot, lv_has ls 4 [(0, .int x0), (1, .int x1), (2, .int x2), (3, .int x3)] → W p l e ({ frames := 0, cells := 0, slots := 0, locals := 0 } : Room) s m args below meth c H locs 0 0 (MQ below (m_Q D B K (some (.int r)) n g') args s 0 0 (fun q => B ≤ q)) (F0 m 4 ls [])) : ∀ (g : m_G) (x0 : Int32) (x1 : Int32) (x2 : Int32) (x3 : Int32) (r : Int32) (g' : m_G), f_Arc_numberInSet_28 k_4 g x0 x1 x2 x3 = some (r, g') → ∀ (H : Heap) (locs : List Loc), m_S D B K n g s.heap H locs → ∀ ls : Array Slot, lv_has ls 4 [(0, .int x0), (1, .int x1), (2, .int x2), (3, .int x3)] → W p l e ({ frames := 0, cells := 0, slots := 0, locals := 0 } : Room) s m args below meth c H locs 0 0 (MQ below (m_Q D B K (some (.int r)) n g') args s 0 0 (fun q => B ≤ q)) (F0 m 28 ls []) := by
  have hx := E.1.1
  have hb := E.1.2.1
  have hts := E.1.2.2.2.2
  intro g x0 x1 x2 x3 r g' hF H locs S ls hl
  unfold f_Arc_numberInSet_28 at hF
  refine lv_iinc (v := (x3 + 1)) (lv' := [(3, .int (x3 + 1)), (0, .int x0), (1, .int x1), (2, .int x2)]) hx hb d_Arc_numberInSet_28 hl (k := 3) rfl rfl (by decide) rfl (fun ls hl => ?_)
  refine lv_goto (tgt := 4) hx hb d_Arc_numberInSet_31 (by decide) ?_
  exact hk_4 _ _ _ _ _ _ _ hF _ _ S _ (lv_sub hl [1, 2, 3, 0] rfl)
def f_Arc_numberInSet_4   : Nat → m_G → Int32 → Int32 → Int32 → Int32 → Option (Int32 × m_G)
  | 0, _, _, _, _, _ => none
  | fu + 1, g, x0, x1, x2, x3 =>
    if (12 : Int32) ≤ x3 then
      some ((-4), g)
    else
      if (((x0 >>> (x3 &&& 31)) &&& 1) : Int32) = 0 then
        f_Arc_numberInSet_28 (f_Arc_numberInSet_4 fu) g x0 x1 x2 x3
      else
        if (x2 : Int32) = x1 then
          some (x3, g)
        else
          f_Arc_numberInSet_28 (f_Arc_numberInSet_4 fu) g x0 x1 (x2 + 1) x3
set_option maxHeartbeats 1000000 in
set_option maxRecDepth 100000 in
theorem c_Arc_numberInSet_4 (E : m_V p m c b_Arc_numberInSet 4 s args R_Arc D K) (hr : meth.sig.returnType = (some .int)) (hlk : meth.locks = false) (hz : s.heap.size + 0 = B + n)   : ∀ fu : Nat, ∀ (g : m_G) (x0 : Int32) (x1 : Int32) (x2 : Int32) (x3 : Int32) (r : Int32) (g' : m_G), f_Arc_numberInSet_4  fu g x0 x1 x2 x3 = some (r, g') → ∀ (H : Heap) (locs : List Loc), m_S D B K n g s.heap H locs → ∀ ls : Array Slot, lv_has ls 4 [(0, .int x0), (1, .int x1), (2, .int x2), (3, .int x3)] → W p l e ({ frames := 0, cells := 0, slots := 0, locals := 0 } : Room) s m args below meth c H locs 0 0 (MQ below (m_Q D B K (some (.int r)) n g') args s 0 0 (fun q => B ≤ q)) (F0 m 4 ls []) := by
  have hx := E.1.1
  have hb := E.1.2.1
  have hts := E.1.2.2.2.2
  intro fu
  induction fu with
  | zero => intro g x0 x1 x2 x3 r g' hF; cases hF
  | succ fu ih =>
    intro g x0 x1 x2 x3 r g' hF H locs S ls hl
    rw [f_Arc_numberInSet_4] at hF
    refine lv_iload_n hx hb d_Arc_numberInSet_4 rfl (lv_at hl 3 rfl) ?_
    refine lv_bipush (v := 12) hx hb d_Arc_numberInSet_5 (by decide) ?_
    refine lv_icmp_ge (tgt := 34) hx hb d_Arc_numberInSet_7 (by decide) (fun c_1 => ?_) (fun c_1 => ?_)
    · rw [if_pos c_1] at hF
      refine lv_bipush (v := (-4)) hx hb d_Arc_numberInSet_34 (by decide) ?_
      cases hF
      exact m_iret E S hz hr hlk d_Arc_numberInSet_36
    · rw [if_neg c_1] at hF
      refine lv_iload_n hx hb d_Arc_numberInSet_10 rfl (lv_at hl 0 rfl) ?_
      refine lv_iload_n hx hb d_Arc_numberInSet_11 rfl (lv_at hl 3 rfl) ?_
      refine lv_ishr hx hb d_Arc_numberInSet_12 ?_
      refine lv_iconst (v := 1) hx hb d_Arc_numberInSet_13 (by decide) ?_
      refine lv_iand hx hb d_Arc_numberInSet_14 ?_
      refine lv_if_eq (tgt := 28) hx hb d_Arc_numberInSet_15 (by decide) (fun c_2 => ?_) (fun c_2 => ?_)
      · rw [if_pos c_2] at hF
        exact c_Arc_numberInSet_28 E hr hlk hz (f_Arc_numberInSet_4 fu) ih _ _ _ _ _ _ _ hF _ _ S _ (lv_sub hl [0, 1, 2, 3] rfl)
      · rw [if_neg c_2] at hF
        refine lv_iload_n hx hb d_Arc_numberInSet_18 rfl (lv_at hl 2 rfl) ?_
        refine lv_iload_n hx hb d_Arc_numberInSet_19 rfl (lv_at hl 1 rfl) ?_
        refine lv_icmp_ne (tgt := 25) hx hb d_Arc_numberInSet_20 (by decide) (fun c_3 => ?_) (fun c_3 => ?_)
        · rw [if_neg c_3] at hF
          refine lv_iinc (v := (x2 + 1)) (lv' := [(2, .int (x2 + 1)), (0, .int x0), (1, .int x1), (3, .int x3)]) hx hb d_Arc_numberInSet_25 hl (k := 2) rfl rfl (by decide) rfl (fun ls hl => ?_)
          exact c_Arc_numberInSet_28 E hr hlk hz (f_Arc_numberInSet_4 fu) ih _ _ _ _ _ _ _ hF _ _ S _ (lv_sub hl [1, 2, 0, 3] rfl)
        · rw [if_pos c_3] at hF
          refine lv_iload_n hx hb d_Arc_numberInSet_23 rfl (lv_at hl 3 rfl) ?_
          cases hF
          exact m_iret E S hz hr hlk d_Arc_numberInSet_24
end S_Arc_numberInSet
def f_Arc_numberInSet  (g : m_G) (x0 : Int32) (x1 : Int32) : Option (Int32 × m_G) :=
  f_Arc_numberInSet_4 m_fu g x0 x1 0 0
set_option maxHeartbeats 1000000 in
set_option maxRecDepth 100000 in
theorem c_Arc_numberInSet (l : Launch) (D : va_G) (B : Nat) (K : Nat → ClassId)  (n : Nat) (g : m_G) (x0 : Int32) (x1 : Int32) (r : Int32) (g' : m_G) (hF : f_Arc_numberInSet g x0 x1 = some (r, g')) : Met l y_Arc_numberInSet (Cond.code y_Arc_numberInSet b_Arc_numberInSet 4 (some .int) :: m_TB) ({ frames := 0, cells := 0, slots := 0, locals := 0 } : Room) (m_Pc D B K n g [.int x0, .int x1]) (m_Q D B K (some (.int r)) n g') 0 0 (fun q => B ≤ q) := by
  refine m_met (by decide) (Nat.le_of_ble_eq_true rfl) ?_
  intro p e s m args below meth c ls E hr hlk hin hsz S hl
  have E : m_V p m c b_Arc_numberInSet 4 s args R_Arc D K := E
  have hz : s.heap.size + 0 = B + n := hsz
  have hl : lv_has ls 4 [(0, .int x0), (1, .int x1)] := hl
  have hx := E.1.1
  have hb := E.1.2.1
  have hts := E.1.2.2.2.2
  unfold f_Arc_numberInSet at hF
  refine lv_iconst (v := 0) hx hb d_Arc_numberInSet_0 (by decide) ?_
  refine lv_istore_n (lv' := [(2, .int 0), (0, .int x0), (1, .int x1)]) hx hb d_Arc_numberInSet_1 rfl hl (by decide) rfl (fun ls hl => ?_)
  refine lv_iconst (v := 0) hx hb d_Arc_numberInSet_2 (by decide) ?_
  refine lv_istore_n (lv' := [(3, .int 0), (2, .int 0), (0, .int x0), (1, .int x1)]) hx hb d_Arc_numberInSet_3 rfl hl (by decide) rfl (fun ls hl => ?_)
  exact c_Arc_numberInSet_4 E hr hlk hz m_fu _ _ _ _ _ _ _ hF _ _ S _ (lv_sub hl [2, 3, 1, 0] rfl)
def f_Arc_hit  (g : m_G) (a0 : Nat) (x1 : Int32) : Option (Int32 × m_G) :=
  (m_gI g a0 0 8).bind fun v_1 =>
  m_bd (f_Arc_numberInSet g v_1 x1) fun v_3 g_2 =>
  some (v_3, g_2)
set_option maxHeartbeats 1000000 in
set_option maxRecDepth 100000 in
theorem c_Arc_hit (l : Launch) (D : va_G) (B : Nat) (K : Nat → ClassId)  (n : Nat) (g : m_G) (a0 : Nat) (x1 : Int32) (r : Int32) (g' : m_G) (hF : f_Arc_hit g a0 x1 = some (r, g')) : Met l y_Arc_hit (Cond.code y_Arc_hit b_Arc_hit 2 (some .int) :: m_TB) ({ frames := 1, cells := 0, slots := 0, locals := 23 } : Room) (m_Pc D B K n g [.ref (B + a0), .int x1]) (m_Q D B K (some (.int r)) n g') 0 0 (fun q => B ≤ q) := by
  refine m_met (by decide) (Nat.le_of_ble_eq_true rfl) ?_
  intro p e s m args below meth c ls E hr hlk hin hsz S hl
  have E : m_V p m c b_Arc_hit 2 s args R_Arc D K := E
  have hz : s.heap.size + 0 = B + n := hsz
  have hl : lv_has ls 2 [(0, .ref (B + a0)), (1, .int x1)] := hl
  have hx := E.1.1
  have hb := E.1.2.1
  have hts := E.1.2.2.2.2
  unfold f_Arc_hit at hF
  refine lv_aload_n hx hb d_Arc_hit_0 rfl (lv_at hl 0 rfl) ?_
  replace hF := Option.bind_eq_some_iff.mp hF
  obtain ⟨v_1, ev_1, hF⟩ := hF
  refine m_getI (B := B) (a := a0) E S fd_Arc_found (Or.inl qw_81) ev_1 d_Arc_hit_1 ?_
  refine lv_iload_n hx hb d_Arc_hit_4 rfl (lv_at hl 1 rfl) ?_
  replace hF := m_bd_inv hF
  obtain ⟨v_3, g_2, eg_2, hF⟩ := hF
  refine m_callS (B := B) (nn := 2) (As := [.int v_1, .int x1]) (rest := []) (v := (some (.int v_3))) E S hz (c_Arc_numberInSet l D B K n g v_1 x1 v_3 g_2 eg_2) qc_Arc_numberInSet ⟨rfl, rfl⟩ (Or.inl qw_251) qw_252 qw_105 (by decide +kernel) ⟨Nat.le_of_ble_eq_true rfl, Nat.le_of_ble_eq_true rfl⟩ rfl hl.1 (Nat.le_of_ble_eq_true rfl) d_Arc_hit_5 ⟨Nat.le_of_ble_eq_true rfl, Nat.le_of_ble_eq_true rfl⟩ (fun H locs S => ?_)
  refine W.eq (g2 := F0 m 8 ls [.int v_3]) rfl ?_
  cases hF
  exact m_iret E S hz hr hlk d_Arc_hit_8
section S_Threads_topOf
variable {p : Program} {l : Launch} {e : Env} {s : State} {m : MethodId} {args : Array Value} {below : List Frame} {meth : Method} {c : Code} {D : va_G} {B n : Nat} {K : Nat → ClassId}
def f_Threads_topOf_33   (g : m_G) (x2 : Int32) : Option (Int32 × m_G) :=
  some (x2, g)
set_option maxHeartbeats 1000000 in
set_option maxRecDepth 100000 in
theorem c_Threads_topOf_33 (E : m_V p m c b_Threads_topOf 4 s args R_Threads D K) (hr : meth.sig.returnType = (some .int)) (hlk : meth.locks = false) (hz : s.heap.size + 0 = B + n)   : ∀ (g : m_G) (x2 : Int32) (r : Int32) (g' : m_G), f_Threads_topOf_33 g x2 = some (r, g') → ∀ (H : Heap) (locs : List Loc), m_S D B K n g s.heap H locs → ∀ ls : Array Slot, lv_has ls 4 [(2, .int x2)] → W p l e ({ frames := 0, cells := 0, slots := 0, locals := 0 } : Room) s m args below meth c H locs 0 0 (MQ below (m_Q D B K (some (.int r)) n g') args s 0 0 (fun q => B ≤ q)) (F0 m 33 ls []) := by
  have hx := E.1.1
  have hb := E.1.2.1
  have hts := E.1.2.2.2.2
  intro g x2 r g' hF H locs S ls hl
  unfold f_Threads_topOf_33 at hF
  refine lv_iload_n hx hb d_Threads_topOf_33 rfl (lv_at hl 0 rfl) ?_
  cases hF
  exact m_iret E S hz hr hlk d_Threads_topOf_34
def f_Threads_topOf_4   : Nat → m_G → Nat → Int32 → Int32 → Option (Int32 × m_G)
  | 0, _, _, _, _ => none
  | fu + 1, g, a0, x2, x3 =>
    if (64 : Int32) ≤ x3 then
      f_Threads_topOf_33 g x2
    else
      (m_gR g a0 6 0).bind fun v_2 =>
      Option.bind v_2 fun a_3 =>
      (m_ld g a_3 0 x2).bind fun v_4 =>
      if (v_4 : Int32) = (-1) then
        f_Threads_topOf_33 g x2
      else
        (m_gR g a0 6 0).bind fun v_6 =>
        Option.bind v_6 fun a_7 =>
        (m_ld g a_7 0 x2).bind fun v_8 =>
        f_Threads_topOf_4 fu g a0 v_8 (x3 + 1)
set_option maxHeartbeats 1000000 in
set_option maxRecDepth 100000 in
theorem c_Threads_topOf_4 (E : m_V p m c b_Threads_topOf 4 s args R_Threads D K) (hr : meth.sig.returnType = (some .int)) (hlk : meth.locks = false) (hz : s.heap.size + 0 = B + n)   : ∀ fu : Nat, ∀ (g : m_G) (a0 : Nat) (x2 : Int32) (x3 : Int32) (r : Int32) (g' : m_G), f_Threads_topOf_4  fu g a0 x2 x3 = some (r, g') → ∀ (H : Heap) (locs : List Loc), m_S D B K n g s.heap H locs → ∀ ls : Array Slot, lv_has ls 4 [(0, .ref (B + a0)), (2, .int x2), (3, .int x3)] → W p l e ({ frames := 0, cells := 0, slots := 0, locals := 0 } : Room) s m args below meth c H locs 0 0 (MQ below (m_Q D B K (some (.int r)) n g') args s 0 0 (fun q => B ≤ q)) (F0 m 4 ls []) := by
  have hx := E.1.1
  have hb := E.1.2.1
  have hts := E.1.2.2.2.2
  intro fu
  induction fu with
  | zero => intro g a0 x2 x3 r g' hF; cases hF
  | succ fu ih =>
    intro g a0 x2 x3 r g' hF H locs S ls hl
    rw [f_Threads_topOf_4] at hF
    refine lv_iload_n hx hb d_Threads_topOf_4 rfl (lv_at hl 2 rfl) ?_
    refine lv_bipush (v := 64) hx hb d_Threads_topOf_5 (by decide) ?_
    refine lv_icmp_ge (tgt := 33) hx hb d_Threads_topOf_7 (by decide) (fun c_1 => ?_) (fun c_1 => ?_)
    · rw [if_pos c_1] at hF
      exact c_Threads_topOf_33 E hr hlk hz _ _ _ _ hF _ _ S _ (lv_sub hl [1] rfl)
    · rw [if_neg c_1] at hF
      refine lv_aload_n hx hb d_Threads_topOf_10 rfl (lv_at hl 0 rfl) ?_
      replace hF := Option.bind_eq_some_iff.mp hF
      obtain ⟨v_2, ev_2, hF⟩ := hF
      refine m_getR (B := B) (a := a0) E S fd_Threads_parents (Or.inl qw_46) ev_2 d_Threads_topOf_11 ?_
      refine lv_iload_n hx hb d_Threads_topOf_14 rfl (lv_at hl 1 rfl) ?_
      replace hF := Option.bind_eq_some_iff.mp hF
      obtain ⟨a_3, ea_3, hF⟩ := hF
      subst ea_3
      replace hF := Option.bind_eq_some_iff.mp hF
      obtain ⟨v_4, ev_4, hF⟩ := hF
      refine m_iald (B := B) (a := a_3) (t := 0) E S rfl ev_4 d_Threads_topOf_15 ?_
      refine lv_iconst (v := (-1)) hx hb d_Threads_topOf_16 (by decide) ?_
      refine lv_icmp_eq (tgt := 33) hx hb d_Threads_topOf_17 (by decide) (fun c_5 => ?_) (fun c_5 => ?_)
      · rw [if_pos c_5] at hF
        exact c_Threads_topOf_33 E hr hlk hz _ _ _ _ hF _ _ S _ (lv_sub hl [1] rfl)
      · rw [if_neg c_5] at hF
        refine lv_aload_n hx hb d_Threads_topOf_20 rfl (lv_at hl 0 rfl) ?_
        replace hF := Option.bind_eq_some_iff.mp hF
        obtain ⟨v_6, ev_6, hF⟩ := hF
        refine m_getR (B := B) (a := a0) E S fd_Threads_parents (Or.inl qw_46) ev_6 d_Threads_topOf_21 ?_
        refine lv_iload_n hx hb d_Threads_topOf_24 rfl (lv_at hl 1 rfl) ?_
        replace hF := Option.bind_eq_some_iff.mp hF
        obtain ⟨a_7, ea_7, hF⟩ := hF
        subst ea_7
        replace hF := Option.bind_eq_some_iff.mp hF
        obtain ⟨v_8, ev_8, hF⟩ := hF
        refine m_iald (B := B) (a := a_7) (t := 0) E S rfl ev_8 d_Threads_topOf_25 ?_
        refine lv_istore_n (lv' := [(2, .int v_8), (0, .ref (B + a0)), (3, .int x3)]) hx hb d_Threads_topOf_26 rfl hl (by decide) rfl (fun ls hl => ?_)
        refine lv_iinc (v := (x3 + 1)) (lv' := [(3, .int (x3 + 1)), (2, .int v_8), (0, .ref (B + a0))]) hx hb d_Threads_topOf_27 hl (k := 2) rfl rfl (by decide) rfl (fun ls hl => ?_)
        refine lv_goto (tgt := 4) hx hb d_Threads_topOf_30 (by decide) ?_
        exact ih _ _ _ _ _ _ hF _ _ S _ (lv_sub hl [2, 1, 0] rfl)
end S_Threads_topOf
def f_Threads_topOf  (g : m_G) (a0 : Nat) (x1 : Int32) : Option (Int32 × m_G) :=
  f_Threads_topOf_4 m_fu g a0 x1 0
set_option maxHeartbeats 1000000 in
set_option maxRecDepth 100000 in
theorem c_Threads_topOf (l : Launch) (D : va_G) (B : Nat) (K : Nat → ClassId)  (n : Nat) (g : m_G) (a0 : Nat) (x1 : Int32) (r : Int32) (g' : m_G) (hF : f_Threads_topOf g a0 x1 = some (r, g')) : Met l y_Threads_topOf (Cond.code y_Threads_topOf b_Threads_topOf 4 (some .int) :: m_TB) ({ frames := 0, cells := 0, slots := 0, locals := 0 } : Room) (m_Pc D B K n g [.ref (B + a0), .int x1]) (m_Q D B K (some (.int r)) n g') 0 0 (fun q => B ≤ q) := by
  refine m_met (by decide) (Nat.le_of_ble_eq_true rfl) ?_
  intro p e s m args below meth c ls E hr hlk hin hsz S hl
  have E : m_V p m c b_Threads_topOf 4 s args R_Threads D K := E
  have hz : s.heap.size + 0 = B + n := hsz
  have hl : lv_has ls 4 [(0, .ref (B + a0)), (1, .int x1)] := hl
  have hx := E.1.1
  have hb := E.1.2.1
  have hts := E.1.2.2.2.2
  unfold f_Threads_topOf at hF
  refine lv_iload_n hx hb d_Threads_topOf_0 rfl (lv_at hl 1 rfl) ?_
  refine lv_istore_n (lv' := [(2, .int x1), (0, .ref (B + a0)), (1, .int x1)]) hx hb d_Threads_topOf_1 rfl hl (by decide) rfl (fun ls hl => ?_)
  refine lv_iconst (v := 0) hx hb d_Threads_topOf_2 (by decide) ?_
  refine lv_istore_n (lv' := [(3, .int 0), (2, .int x1), (0, .ref (B + a0)), (1, .int x1)]) hx hb d_Threads_topOf_3 rfl hl (by decide) rfl (fun ls hl => ?_)
  exact c_Threads_topOf_4 E hr hlk hz m_fu _ _ _ _ _ _ hF _ _ S _ (lv_sub hl [2, 1, 0] rfl)
def f_Arc_rootBit  (g : m_G) (a0 : Nat) (r1 : Option Nat) : Option (Int64 × m_G) :=
  (m_gR g a0 0 3).bind fun v_1 =>
  Option.bind r1 fun a_2 =>
  (m_gI g a_2 4 4).bind fun v_3 =>
  Option.bind v_1 fun a_4 =>
  m_gd (m_is g a_4 6) <|
  m_bd (f_Threads_topOf g a_4 v_3) fun v_6 g_5 =>
  some (((1 : Int64) <<< ((v_6 : Int32).toInt64 &&& 63)), g_5)
set_option maxHeartbeats 1000000 in
set_option maxRecDepth 100000 in
theorem c_Arc_rootBit (l : Launch) (D : va_G) (B : Nat) (K : Nat → ClassId)  (n : Nat) (g : m_G) (a0 : Nat) (r1 : Option Nat) (r : Int64) (g' : m_G) (hF : f_Arc_rootBit g a0 r1 = some (r, g')) : Met l y_Arc_rootBit (Cond.code y_Arc_rootBit b_Arc_rootBit 2 (some .long) :: m_TB) ({ frames := 1, cells := 0, slots := 0, locals := 23 } : Room) (m_Pc D B K n g [.ref (B + a0), m_r B r1]) (m_Q D B K (some (.long r)) n g') 0 0 (fun q => B ≤ q) := by
  refine m_met (by decide) (by simp only [lg_sl, List.flatMap_cons, List.flatMap_nil, m_r_cat]; exact Nat.le_of_ble_eq_true rfl) ?_
  intro p e s m args below meth c ls E hr hlk hin hsz S hl
  have E : m_V p m c b_Arc_rootBit 2 s args R_Arc D K := E
  have hz : s.heap.size + 0 = B + n := hsz
  have hl : lv_has ls 2 [(0, .ref (B + a0)), (1, m_r B r1)] := by simp only [lv_args, m_r_cat] at hl; exact hl
  have hx := E.1.1
  have hb := E.1.2.1
  have hts := E.1.2.2.2.2
  unfold f_Arc_rootBit at hF
  refine lv_lconst (v := 1) hx hb d_Arc_rootBit_0 (by decide) ?_
  refine lv_aload_n hx hb d_Arc_rootBit_1 rfl (lv_at hl 0 rfl) ?_
  replace hF := Option.bind_eq_some_iff.mp hF
  obtain ⟨v_1, ev_1, hF⟩ := hF
  refine m_getR (B := B) (a := a0) E S fd_Arc_threads (Or.inl qw_68) ev_1 d_Arc_rootBit_2 ?_
  refine m_aload_n (B := B) (r := r1) E d_Arc_rootBit_5 rfl (lv_at hl 1 rfl) ?_
  replace hF := Option.bind_eq_some_iff.mp hF
  obtain ⟨a_2, ea_2, hF⟩ := hF
  subst ea_2
  replace hF := Option.bind_eq_some_iff.mp hF
  obtain ⟨v_3, ev_3, hF⟩ := hF
  refine m_getI (B := B) (a := a_2) E S fd_Message_id (Or.inr ⟨_, qn_18⟩) ev_3 d_Arc_rootBit_6 ?_
  replace hF := Option.bind_eq_some_iff.mp hF
  obtain ⟨a_4, ea_4, hF⟩ := hF
  subst ea_4
  replace hF := m_gd_inv hF
  obtain ⟨eog_5, hF⟩ := hF
  replace hF := m_bd_inv hF
  obtain ⟨v_6, g_5, eg_5, hF⟩ := hF
  refine m_callV (B := B) (nn := 1) (b := a_4) (As := [.int v_3]) (rest := [.long 1]) (v := (some (.int v_6))) E S hz (c_Threads_topOf l D B K n g a_4 v_3 v_6 g_5 eg_5) qc_Threads_topOf ⟨rfl, rfl⟩ (Or.inr ⟨_, qn_68⟩) qw_253 qw_254 qw_49 (by decide +kernel) ⟨Nat.le_of_ble_eq_true rfl, Nat.le_of_ble_eq_true rfl⟩ eog_5 rfl rfl hl.1 (Nat.le_of_ble_eq_true rfl) d_Arc_rootBit_9 ⟨Nat.le_of_ble_eq_true rfl, Nat.le_of_ble_eq_true rfl⟩ (fun H locs S => ?_)
  refine W.eq (g2 := F0 m 12 ls [.int v_6, .long 1]) rfl ?_
  refine lv_lshl hx hb d_Arc_rootBit_12 rfl ?_
  cases hF
  exact m_lret E S hz hr hlk d_Arc_rootBit_13
section S_Arc_rootsOf
variable {p : Program} {l : Launch} {e : Env} {s : State} {m : MethodId} {args : Array Value} {below : List Frame} {meth : Method} {c : Code} {D : va_G} {B n : Nat} {K : Nat → ClassId}
def f_Arc_rootsOf_35  (k_5 : m_G → Nat → Int32 → Int64 → Int32 → Option (Int64 × m_G)) (g : m_G) (a0 : Nat) (x1 : Int32) (x2 : Int64) (x4 : Int32) : Option (Int64 × m_G) :=
  k_5 g a0 x1 x2 (x4 + 1)
set_option maxHeartbeats 1000000 in
set_option maxRecDepth 100000 in
theorem c_Arc_rootsOf_35 (E : m_V p m c b_Arc_rootsOf 5 s args R_Arc D K) (hr : meth.sig.returnType = (some .long)) (hlk : meth.locks = false) (hz : s.heap.size + 0 = B + n)  (k_5 : m_G → Nat → Int32 → Int64 → Int32 → Option (Int64 × m_G)) (hk_5 : ∀ (g : m_G) (a0 : Nat) (x1 : Int32) (x2 : Int64) (x4 : Int32) (r : Int64) (g' : m_G), k_5 g a0 x1 x2 x4 = some (r, g') → ∀ (H : Heap) (locs : List Loc), m_S D B K n g s.heap H locs → ∀ ls : Array Slot, lv_has ls 5 [(0, .ref (B + a0)), (1, .int x1), (2, .long x2), (4, .int x4)] → W p l e ({ frames := 2, cells := 0, slots := 0, locals := 44 } : Room) s m args below meth c H locs 0 0 (MQ below (m_Q D B K (some (.long r)) n g') args s 0 0 (fun q => B ≤ q)) (F0 m 5 ls [])) : ∀ (g : m_G) (a0 : Nat) (x1 : Int32) (x2 : Int64) (x4 : Int32) (r : Int64) (g' : m_G), f_Arc_rootsOf_35 k_5 g a0 x1 x2 x4 = some (r, g') → ∀ (H : Heap) (locs : List Loc), m_S D B K n g s.heap H locs → ∀ ls : Array Slot, lv_has ls 5 [(0, .ref (B + a0)), (1, .int x1), (2, .long x2), (4, .int x4)] → W p l e ({ frames := 2, cells := 0, slots := 0, locals := 44 } : Room) s m args below meth c H locs 0 0 (MQ below (m_Q D B K (some (.long r)) n g') args s 0 0 (fun q => B ≤ q)) (F0 m 35 ls []) := by
  have hx := E.1.1
  have hb := E.1.2.1
  have hts := E.1.2.2.2.2
  intro g a0 x1 x2 x4 r g' hF H locs S ls hl
  unfold f_Arc_rootsOf_35 at hF
  refine lv_iinc (v := (x4 + 1)) (lv' := [(4, .int (x4 + 1)), (0, .ref (B + a0)), (1, .int x1), (2, .long x2)]) hx hb d_Arc_rootsOf_35 hl (k := 3) rfl rfl (by decide) rfl (fun ls hl => ?_)
  refine lv_goto (tgt := 5) hx hb d_Arc_rootsOf_38 (by decide) ?_
  exact hk_5 _ _ _ _ _ _ _ hF _ _ S _ (lv_sub hl [1, 2, 3, 0] rfl)
def f_Arc_rootsOf_5   : Nat → m_G → Nat → Int32 → Int64 → Int32 → Option (Int64 × m_G)
  | 0, _, _, _, _, _ => none
  | fu + 1, g, a0, x1, x2, x4 =>
    if (12 : Int32) ≤ x4 then
      some (x2, g)
    else
      if (((x1 >>> (x4 &&& 31)) &&& 1) : Int32) = 0 then
        f_Arc_rootsOf_35 (f_Arc_rootsOf_5 fu) g a0 x1 x2 x4
      else
        (m_gR g a0 0 5).bind fun v_3 =>
        Option.bind v_3 fun a_4 =>
        (m_ldR g a_4 5 x4).bind fun v_5 =>
        m_gd (m_is g a0 0) <|
        m_bd (f_Arc_rootBit g a0 v_5) fun v_7 g_6 =>
        f_Arc_rootsOf_35 (f_Arc_rootsOf_5 fu) g_6 a0 x1 (x2 ||| v_7) x4
set_option maxHeartbeats 1000000 in
set_option maxRecDepth 100000 in
theorem c_Arc_rootsOf_5 (E : m_V p m c b_Arc_rootsOf 5 s args R_Arc D K) (hr : meth.sig.returnType = (some .long)) (hlk : meth.locks = false) (hz : s.heap.size + 0 = B + n)   : ∀ fu : Nat, ∀ (g : m_G) (a0 : Nat) (x1 : Int32) (x2 : Int64) (x4 : Int32) (r : Int64) (g' : m_G), f_Arc_rootsOf_5  fu g a0 x1 x2 x4 = some (r, g') → ∀ (H : Heap) (locs : List Loc), m_S D B K n g s.heap H locs → ∀ ls : Array Slot, lv_has ls 5 [(0, .ref (B + a0)), (1, .int x1), (2, .long x2), (4, .int x4)] → W p l e ({ frames := 2, cells := 0, slots := 0, locals := 44 } : Room) s m args below meth c H locs 0 0 (MQ below (m_Q D B K (some (.long r)) n g') args s 0 0 (fun q => B ≤ q)) (F0 m 5 ls []) := by
  have hx := E.1.1
  have hb := E.1.2.1
  have hts := E.1.2.2.2.2
  intro fu
  induction fu with
  | zero => intro g a0 x1 x2 x4 r g' hF; cases hF
  | succ fu ih =>
    intro g a0 x1 x2 x4 r g' hF H locs S ls hl
    rw [f_Arc_rootsOf_5] at hF
    refine lv_iload hx hb d_Arc_rootsOf_5 (lv_at hl 3 rfl) ?_
    refine lv_bipush (v := 12) hx hb d_Arc_rootsOf_7 (by decide) ?_
    refine lv_icmp_ge (tgt := 41) hx hb d_Arc_rootsOf_9 (by decide) (fun c_1 => ?_) (fun c_1 => ?_)
    · rw [if_pos c_1] at hF
      refine lv_lload_n hx hb d_Arc_rootsOf_41 rfl (lv_at hl 2 rfl) ?_
      cases hF
      exact m_lret E S hz hr hlk d_Arc_rootsOf_42
    · rw [if_neg c_1] at hF
      refine lv_iload_n hx hb d_Arc_rootsOf_12 rfl (lv_at hl 1 rfl) ?_
      refine lv_iload hx hb d_Arc_rootsOf_13 (lv_at hl 3 rfl) ?_
      refine lv_ishr hx hb d_Arc_rootsOf_15 ?_
      refine lv_iconst (v := 1) hx hb d_Arc_rootsOf_16 (by decide) ?_
      refine lv_iand hx hb d_Arc_rootsOf_17 ?_
      refine lv_if_eq (tgt := 35) hx hb d_Arc_rootsOf_18 (by decide) (fun c_2 => ?_) (fun c_2 => ?_)
      · rw [if_pos c_2] at hF
        exact c_Arc_rootsOf_35 E hr hlk hz (f_Arc_rootsOf_5 fu) ih _ _ _ _ _ _ _ hF _ _ S _ (lv_sub hl [0, 1, 2, 3] rfl)
      · rw [if_neg c_2] at hF
        refine lv_lload_n hx hb d_Arc_rootsOf_21 rfl (lv_at hl 2 rfl) ?_
        refine lv_aload_n hx hb d_Arc_rootsOf_22 rfl (lv_at hl 0 rfl) ?_
        refine lv_aload_n hx hb d_Arc_rootsOf_23 rfl (lv_at hl 0 rfl) ?_
        replace hF := Option.bind_eq_some_iff.mp hF
        obtain ⟨v_3, ev_3, hF⟩ := hF
        refine m_getR (B := B) (a := a0) E S fd_Arc_messages (Or.inl qw_75) ev_3 d_Arc_rootsOf_24 ?_
        refine lv_iload hx hb d_Arc_rootsOf_27 (lv_at hl 3 rfl) ?_
        replace hF := Option.bind_eq_some_iff.mp hF
        obtain ⟨a_4, ea_4, hF⟩ := hF
        subst ea_4
        replace hF := Option.bind_eq_some_iff.mp hF
        obtain ⟨v_5, ev_5, hF⟩ := hF
        refine m_aald (B := B) (a := a_4) (t := 5) E S rfl ev_5 d_Arc_rootsOf_29 ?_
        replace hF := m_gd_inv hF
        obtain ⟨eog_6, hF⟩ := hF
        replace hF := m_bd_inv hF
        obtain ⟨v_7, g_6, eg_6, hF⟩ := hF
        refine m_callV (B := B) (nn := 1) (b := a0) (As := [m_r B v_5]) (rest := [.long x2]) (v := (some (.long v_7))) E S hz (c_Arc_rootBit l D B K n g a0 v_5 v_7 g_6 eg_6) qc_Arc_rootBit ⟨rfl, rfl⟩ (Or.inl qw_255) qw_256 qw_257 qw_105 (by decide +kernel) ⟨Nat.le_of_ble_eq_true rfl, Nat.le_of_ble_eq_true rfl⟩ eog_6 rfl rfl hl.1 (Nat.le_of_ble_eq_true rfl) d_Arc_rootsOf_30 ⟨Nat.le_of_ble_eq_true rfl, Nat.le_of_ble_eq_true rfl⟩ (fun H locs S => ?_)
        refine W.eq (g2 := F0 m 33 ls [.long v_7, .long x2]) rfl ?_
        refine lv_lor hx hb d_Arc_rootsOf_33 ?_
        refine lv_lstore_n (lv' := [(2, .long (x2 ||| v_7)), (0, .ref (B + a0)), (1, .int x1), (4, .int x4)]) hx hb d_Arc_rootsOf_34 rfl hl (by decide) rfl (fun ls hl => ?_)
        exact c_Arc_rootsOf_35 E hr hlk hz (f_Arc_rootsOf_5 fu) ih _ _ _ _ _ _ _ hF _ _ S _ (lv_sub hl [1, 2, 0, 3] rfl)
end S_Arc_rootsOf
def f_Arc_rootsOf  (g : m_G) (a0 : Nat) (x1 : Int32) : Option (Int64 × m_G) :=
  f_Arc_rootsOf_5 m_fu g a0 x1 0 0
set_option maxHeartbeats 1000000 in
set_option maxRecDepth 100000 in
theorem c_Arc_rootsOf (l : Launch) (D : va_G) (B : Nat) (K : Nat → ClassId)  (n : Nat) (g : m_G) (a0 : Nat) (x1 : Int32) (r : Int64) (g' : m_G) (hF : f_Arc_rootsOf g a0 x1 = some (r, g')) : Met l y_Arc_rootsOf (Cond.code y_Arc_rootsOf b_Arc_rootsOf 5 (some .long) :: m_TB) ({ frames := 2, cells := 0, slots := 0, locals := 44 } : Room) (m_Pc D B K n g [.ref (B + a0), .int x1]) (m_Q D B K (some (.long r)) n g') 0 0 (fun q => B ≤ q) := by
  refine m_met (by decide) (Nat.le_of_ble_eq_true rfl) ?_
  intro p e s m args below meth c ls E hr hlk hin hsz S hl
  have E : m_V p m c b_Arc_rootsOf 5 s args R_Arc D K := E
  have hz : s.heap.size + 0 = B + n := hsz
  have hl : lv_has ls 5 [(0, .ref (B + a0)), (1, .int x1)] := hl
  have hx := E.1.1
  have hb := E.1.2.1
  have hts := E.1.2.2.2.2
  unfold f_Arc_rootsOf at hF
  refine lv_lconst (v := 0) hx hb d_Arc_rootsOf_0 (by decide) ?_
  refine lv_lstore_n (lv' := [(2, .long 0), (0, .ref (B + a0)), (1, .int x1)]) hx hb d_Arc_rootsOf_1 rfl hl (by decide) rfl (fun ls hl => ?_)
  refine lv_iconst (v := 0) hx hb d_Arc_rootsOf_2 (by decide) ?_
  refine lv_istore (lv' := [(4, .int 0), (2, .long 0), (0, .ref (B + a0)), (1, .int x1)]) hx hb d_Arc_rootsOf_3 hl (by decide) rfl (fun ls hl => ?_)
  exact c_Arc_rootsOf_5 E hr hlk hz m_fu _ _ _ _ _ _ _ hF _ _ S _ (lv_sub hl [2, 3, 1, 0] rfl)
