def f_Arc_enter  (g : m_G) (a0 : Nat) : Option (Int32 × m_G) :=
  (m_gR g a0 0 1).bind fun v_1 =>
  (m_gR g a0 0 0).bind fun v_2 =>
  Option.bind v_1 fun a_3 =>
  m_gd (m_is g a_3 2) <|
  m_bd (f_Draft_take g a_3 v_2) fun v_5 g_4 =>
  if (v_5 : Int32) = 0 then
    some ((-2), g_4)
  else
    (m_gR g_4 a0 0 0).bind fun v_7 =>
    Option.bind v_7 fun a_8 =>
    m_gd (m_is g_4 a_8 1) <|
    m_bd (f_Line_clear g_4 a_8) fun v_10 g_9 =>
    (m_gR g_9 a0 0 1).bind fun v_11 =>
    Option.bind v_11 fun a_12 =>
    (m_gI g_9 a_12 2 1).bind fun v_13 =>
    some (v_13, g_9)
set_option maxHeartbeats 1000000 in
set_option maxRecDepth 100000 in
theorem c_Arc_enter (l : Launch) (D : va_G) (B : Nat) (K : Nat → ClassId)  (n : Nat) (g : m_G) (a0 : Nat) (r : Int32) (g' : m_G) (hF : f_Arc_enter g a0 = some (r, g')) : Met l y_Arc_enter (Cond.code y_Arc_enter b_Arc_enter 1 (some .int) :: m_TB) ({ frames := 3, cells := 0, slots := 0, locals := 102 } : Room) (m_Pc D B K n g [.ref (B + a0)]) (m_Q D B K (some (.int r)) n g') 0 0 (fun q => B ≤ q) := by
  refine m_met (by decide) (Nat.le_of_ble_eq_true rfl) ?_
  intro p e s m args below meth c ls E hr hlk hin hsz S hl
  have E : m_V p m c b_Arc_enter 1 s args R_Arc D K := E
  have hz : s.heap.size + 0 = B + n := hsz
  have hl : lv_has ls 1 [(0, .ref (B + a0))] := hl
  have hx := E.1.1
  have hb := E.1.2.1
  have hts := E.1.2.2.2.2
  unfold f_Arc_enter at hF
  refine lv_aload_n hx hb d_Arc_enter_0 rfl (lv_at hl 0 rfl) ?_
  replace hF := Option.bind_eq_some_iff.mp hF
  obtain ⟨v_1, ev_1, hF⟩ := hF
  refine m_getR (B := B) (a := a0) E S fd_Arc_draft (Or.inl qw_59) ev_1 d_Arc_enter_1 ?_
  refine lv_aload_n hx hb d_Arc_enter_4 rfl (lv_at hl 0 rfl) ?_
  replace hF := Option.bind_eq_some_iff.mp hF
  obtain ⟨v_2, ev_2, hF⟩ := hF
  refine m_getR (B := B) (a := a0) E S fd_Arc_line (Or.inl qw_54) ev_2 d_Arc_enter_5 ?_
  replace hF := Option.bind_eq_some_iff.mp hF
  obtain ⟨a_3, ea_3, hF⟩ := hF
  subst ea_3
  replace hF := m_gd_inv hF
  obtain ⟨eog_4, hF⟩ := hF
  replace hF := m_bd_inv hF
  obtain ⟨v_5, g_4, eg_4, hF⟩ := hF
  refine m_callV (B := B) (nn := 1) (b := a_3) (As := [m_r B v_2]) (rest := []) (v := (some (.int v_5))) E S hz (c_Draft_take l D B K n g a_3 v_2 v_5 g_4 eg_4) qc_Draft_take ⟨rfl, rfl⟩ (Or.inr ⟨_, qn_13⟩) qw_91 qw_92 qw_57 (by decide +kernel) ⟨Nat.le_of_ble_eq_true rfl, Nat.le_of_ble_eq_true rfl⟩ eog_4 rfl rfl hl.1 (Nat.le_of_ble_eq_true rfl) d_Arc_enter_8 ⟨Nat.le_of_ble_eq_true rfl, Nat.le_of_ble_eq_true rfl⟩ (fun H locs S => ?_)
  refine W.eq (g2 := F0 m 11 ls [.int v_5]) rfl ?_
  refine lv_if_ne (tgt := 17) hx hb d_Arc_enter_11 (by decide) (fun c_6 => ?_) (fun c_6 => ?_)
  · rw [if_neg c_6] at hF
    refine lv_aload_n hx hb d_Arc_enter_17 rfl (lv_at hl 0 rfl) ?_
    replace hF := Option.bind_eq_some_iff.mp hF
    obtain ⟨v_7, ev_7, hF⟩ := hF
    refine m_getR (B := B) (a := a0) E S fd_Arc_line (Or.inl qw_54) ev_7 d_Arc_enter_18 ?_
    replace hF := Option.bind_eq_some_iff.mp hF
    obtain ⟨a_8, ea_8, hF⟩ := hF
    subst ea_8
    replace hF := m_gd_inv hF
    obtain ⟨eog_9, hF⟩ := hF
    replace hF := m_bd_inv hF
    obtain ⟨v_10, g_9, eg_9, hF⟩ := hF
    refine m_callV (B := B) (nn := 0) (b := a_8) (As := []) (rest := []) (v := none) E S hz (c_Line_clear l D B K n g_4 a_8 v_10 g_9 eg_9) qc_Line_clear ⟨rfl, rfl⟩ (Or.inr ⟨_, qn_14⟩) qw_93 qw_94 qw_11 (by decide +kernel) ⟨Nat.le_of_ble_eq_true rfl, Nat.le_of_ble_eq_true rfl⟩ eog_9 rfl rfl hl.1 (Nat.le_of_ble_eq_true rfl) d_Arc_enter_21 ⟨Nat.le_of_ble_eq_true rfl, Nat.le_of_ble_eq_true rfl⟩ (fun H locs S => ?_)
    refine W.eq (g2 := F0 m 24 ls []) rfl ?_
    refine lv_aload_n hx hb d_Arc_enter_24 rfl (lv_at hl 0 rfl) ?_
    replace hF := Option.bind_eq_some_iff.mp hF
    obtain ⟨v_11, ev_11, hF⟩ := hF
    refine m_getR (B := B) (a := a0) E S fd_Arc_draft (Or.inl qw_59) ev_11 d_Arc_enter_25 ?_
    replace hF := Option.bind_eq_some_iff.mp hF
    obtain ⟨a_12, ea_12, hF⟩ := hF
    subst ea_12
    replace hF := Option.bind_eq_some_iff.mp hF
    obtain ⟨v_13, ev_13, hF⟩ := hF
    refine m_getI (B := B) (a := a_12) E S fd_Draft_size (Or.inr ⟨_, qn_15⟩) ev_13 d_Arc_enter_28 ?_
    cases hF
    exact m_iret E S hz hr hlk d_Arc_enter_31
  · rw [if_pos c_6] at hF
    refine lv_bipush (v := (-2)) hx hb d_Arc_enter_14 (by decide) ?_
    cases hF
    exact m_iret E S hz hr hlk d_Arc_enter_16
def f_Draft_clear  (g : m_G) (a0 : Nat) : Option (Unit × m_G) :=
  (m_pI g a0 2 1 0).bind fun g_1 =>
  some ((), g_1)
set_option maxHeartbeats 1000000 in
set_option maxRecDepth 100000 in
theorem c_Draft_clear (l : Launch) (D : va_G) (B : Nat) (K : Nat → ClassId)  (n : Nat) (g : m_G) (a0 : Nat) (r : Unit) (g' : m_G) (hF : f_Draft_clear g a0 = some (r, g')) : Met l y_Draft_clear (Cond.code y_Draft_clear b_Draft_clear 1 none :: m_TB) ({ frames := 0, cells := 0, slots := 0, locals := 0 } : Room) (m_Pc D B K n g [.ref (B + a0)]) (m_Q D B K none n g') 0 0 (fun q => B ≤ q) := by
  refine m_met (by decide) (Nat.le_of_ble_eq_true rfl) ?_
  intro p e s m args below meth c ls E hr hlk hin hsz S hl
  have E : m_V p m c b_Draft_clear 1 s args R_Draft D K := E
  have hz : s.heap.size + 0 = B + n := hsz
  have hl : lv_has ls 1 [(0, .ref (B + a0))] := hl
  have hx := E.1.1
  have hb := E.1.2.1
  have hts := E.1.2.2.2.2
  unfold f_Draft_clear at hF
  refine lv_aload_n hx hb d_Draft_clear_0 rfl (lv_at hl 0 rfl) ?_
  refine lv_iconst (v := 0) hx hb d_Draft_clear_1 (by decide) ?_
  replace hF := Option.bind_eq_some_iff.mp hF
  obtain ⟨g_1, eg_1, hF⟩ := hF
  refine m_putI (B := B) (a := a0) E S fd_Draft_size (Or.inl qw_9) eg_1 d_Draft_clear_2 (fun H locs S => ?_)
  cases hF
  skip
  exact m_vret E S hz hr hlk d_Draft_clear_5
def f_Arc_wipe  (g : m_G) (a0 : Nat) : Option (Int32 × m_G) :=
  (m_gR g a0 0 1).bind fun v_1 =>
  Option.bind v_1 fun a_2 =>
  (m_gI g a_2 2 1).bind fun v_3 =>
  (m_gR g a0 0 0).bind fun v_4 =>
  Option.bind v_4 fun a_5 =>
  m_gd (m_is g a_5 1) <|
  m_bd (f_Line_clear g a_5) fun v_7 g_6 =>
  (m_gR g_6 a0 0 1).bind fun v_8 =>
  Option.bind v_8 fun a_9 =>
  m_gd (m_is g_6 a_9 2) <|
  m_bd (f_Draft_clear g_6 a_9) fun v_11 g_10 =>
  some (v_3, g_10)
set_option maxHeartbeats 1000000 in
set_option maxRecDepth 100000 in
theorem c_Arc_wipe (l : Launch) (D : va_G) (B : Nat) (K : Nat → ClassId)  (n : Nat) (g : m_G) (a0 : Nat) (r : Int32) (g' : m_G) (hF : f_Arc_wipe g a0 = some (r, g')) : Met l y_Arc_wipe (Cond.code y_Arc_wipe b_Arc_wipe 2 (some .int) :: m_TB) ({ frames := 1, cells := 0, slots := 0, locals := 20 } : Room) (m_Pc D B K n g [.ref (B + a0)]) (m_Q D B K (some (.int r)) n g') 0 0 (fun q => B ≤ q) := by
  refine m_met (by decide) (Nat.le_of_ble_eq_true rfl) ?_
  intro p e s m args below meth c ls E hr hlk hin hsz S hl
  have E : m_V p m c b_Arc_wipe 2 s args R_Arc D K := E
  have hz : s.heap.size + 0 = B + n := hsz
  have hl : lv_has ls 2 [(0, .ref (B + a0))] := hl
  have hx := E.1.1
  have hb := E.1.2.1
  have hts := E.1.2.2.2.2
  unfold f_Arc_wipe at hF
  refine lv_aload_n hx hb d_Arc_wipe_0 rfl (lv_at hl 0 rfl) ?_
  replace hF := Option.bind_eq_some_iff.mp hF
  obtain ⟨v_1, ev_1, hF⟩ := hF
  refine m_getR (B := B) (a := a0) E S fd_Arc_draft (Or.inl qw_59) ev_1 d_Arc_wipe_1 ?_
  replace hF := Option.bind_eq_some_iff.mp hF
  obtain ⟨a_2, ea_2, hF⟩ := hF
  subst ea_2
  replace hF := Option.bind_eq_some_iff.mp hF
  obtain ⟨v_3, ev_3, hF⟩ := hF
  refine m_getI (B := B) (a := a_2) E S fd_Draft_size (Or.inr ⟨_, qn_15⟩) ev_3 d_Arc_wipe_4 ?_
  refine lv_istore_n (lv' := [(1, .int v_3), (0, .ref (B + a0))]) hx hb d_Arc_wipe_7 rfl hl (by decide) rfl (fun ls hl => ?_)
  refine lv_aload_n hx hb d_Arc_wipe_8 rfl (lv_at hl 1 rfl) ?_
  replace hF := Option.bind_eq_some_iff.mp hF
  obtain ⟨v_4, ev_4, hF⟩ := hF
  refine m_getR (B := B) (a := a0) E S fd_Arc_line (Or.inl qw_54) ev_4 d_Arc_wipe_9 ?_
  replace hF := Option.bind_eq_some_iff.mp hF
  obtain ⟨a_5, ea_5, hF⟩ := hF
  subst ea_5
  replace hF := m_gd_inv hF
  obtain ⟨eog_6, hF⟩ := hF
  replace hF := m_bd_inv hF
  obtain ⟨v_7, g_6, eg_6, hF⟩ := hF
  refine m_callV (B := B) (nn := 0) (b := a_5) (As := []) (rest := []) (v := none) E S hz (c_Line_clear l D B K n g a_5 v_7 g_6 eg_6) qc_Line_clear ⟨rfl, rfl⟩ (Or.inr ⟨_, qn_14⟩) qw_93 qw_94 qw_11 (by decide +kernel) ⟨Nat.le_of_ble_eq_true rfl, Nat.le_of_ble_eq_true rfl⟩ eog_6 rfl rfl hl.1 (Nat.le_of_ble_eq_true rfl) d_Arc_wipe_12 ⟨Nat.le_of_ble_eq_true rfl, Nat.le_of_ble_eq_true rfl⟩ (fun H locs S => ?_)
  refine W.eq (g2 := F0 m 15 ls []) rfl ?_
  refine lv_aload_n hx hb d_Arc_wipe_15 rfl (lv_at hl 1 rfl) ?_
  replace hF := Option.bind_eq_some_iff.mp hF
  obtain ⟨v_8, ev_8, hF⟩ := hF
  refine m_getR (B := B) (a := a0) E S fd_Arc_draft (Or.inl qw_59) ev_8 d_Arc_wipe_16 ?_
  replace hF := Option.bind_eq_some_iff.mp hF
  obtain ⟨a_9, ea_9, hF⟩ := hF
  subst ea_9
  replace hF := m_gd_inv hF
  obtain ⟨eog_10, hF⟩ := hF
  replace hF := m_bd_inv hF
  obtain ⟨v_11, g_10, eg_10, hF⟩ := hF
  refine m_callV (B := B) (nn := 0) (b := a_9) (As := []) (rest := []) (v := none) E S hz (c_Draft_clear l D B K n g_6 a_9 v_11 g_10 eg_10) qc_Draft_clear ⟨rfl, rfl⟩ (Or.inr ⟨_, qn_16⟩) qw_95 qw_96 qw_57 (by decide +kernel) ⟨Nat.le_of_ble_eq_true rfl, Nat.le_of_ble_eq_true rfl⟩ eog_10 rfl rfl hl.1 (Nat.le_of_ble_eq_true rfl) d_Arc_wipe_19 ⟨Nat.le_of_ble_eq_true rfl, Nat.le_of_ble_eq_true rfl⟩ (fun H locs S => ?_)
  refine W.eq (g2 := F0 m 22 ls []) rfl ?_
  refine lv_iload_n hx hb d_Arc_wipe_22 rfl (lv_at hl 0 rfl) ?_
  cases hF
  exact m_iret E S hz hr hlk d_Arc_wipe_23
section S_Arc_numberWithId
variable {p : Program} {l : Launch} {e : Env} {s : State} {m : MethodId} {args : Array Value} {below : List Frame} {meth : Method} {c : Code} {D : va_G} {B n : Nat} {K : Nat → ClassId}
def f_Arc_numberWithId_35  (k_2 : m_G → Nat → Int32 → Int32 → Option (Int32 × m_G)) (g : m_G) (a0 : Nat) (x1 : Int32) (x2 : Int32) : Option (Int32 × m_G) :=
  k_2 g a0 x1 (x2 + 1)
set_option maxHeartbeats 1000000 in
set_option maxRecDepth 100000 in
theorem c_Arc_numberWithId_35 (E : m_V p m c b_Arc_numberWithId 3 s args R_Arc D K) (hr : meth.sig.returnType = (some .int)) (hlk : meth.locks = false) (hz : s.heap.size + 0 = B + n)  (k_2 : m_G → Nat → Int32 → Int32 → Option (Int32 × m_G)) (hk_2 : ∀ (g : m_G) (a0 : Nat) (x1 : Int32) (x2 : Int32) (r : Int32) (g' : m_G), k_2 g a0 x1 x2 = some (r, g') → ∀ (H : Heap) (locs : List Loc), m_S D B K n g s.heap H locs → ∀ ls : Array Slot, lv_has ls 3 [(0, .ref (B + a0)), (1, .int x1), (2, .int x2)] → W p l e ({ frames := 0, cells := 0, slots := 0, locals := 0 } : Room) s m args below meth c H locs 0 0 (MQ below (m_Q D B K (some (.int r)) n g') args s 0 0 (fun q => B ≤ q)) (F0 m 2 ls [])) : ∀ (g : m_G) (a0 : Nat) (x1 : Int32) (x2 : Int32) (r : Int32) (g' : m_G), f_Arc_numberWithId_35 k_2 g a0 x1 x2 = some (r, g') → ∀ (H : Heap) (locs : List Loc), m_S D B K n g s.heap H locs → ∀ ls : Array Slot, lv_has ls 3 [(0, .ref (B + a0)), (1, .int x1), (2, .int x2)] → W p l e ({ frames := 0, cells := 0, slots := 0, locals := 0 } : Room) s m args below meth c H locs 0 0 (MQ below (m_Q D B K (some (.int r)) n g') args s 0 0 (fun q => B ≤ q)) (F0 m 35 ls []) := by
  have hx := E.1.1
  have hb := E.1.2.1
  have hts := E.1.2.2.2.2
  intro g a0 x1 x2 r g' hF H locs S ls hl
  unfold f_Arc_numberWithId_35 at hF
  refine lv_iinc (v := (x2 + 1)) (lv' := [(2, .int (x2 + 1)), (0, .ref (B + a0)), (1, .int x1)]) hx hb d_Arc_numberWithId_35 hl (k := 2) rfl rfl (by decide) rfl (fun ls hl => ?_)
  refine lv_goto (tgt := 2) hx hb d_Arc_numberWithId_38 (by decide) ?_
  exact hk_2 _ _ _ _ _ _ hF _ _ S _ (lv_sub hl [1, 2, 0] rfl)
def f_Arc_numberWithId_2   : Nat → m_G → Nat → Int32 → Int32 → Option (Int32 × m_G)
  | 0, _, _, _, _ => none
  | fu + 1, g, a0, x1, x2 =>
    if (12 : Int32) ≤ x2 then
      some ((-1), g)
    else
      (m_gR g a0 0 5).bind fun v_2 =>
      Option.bind v_2 fun a_3 =>
      (m_ldR g a_3 5 x2).bind fun v_4 =>
      Option.bind v_4 fun a_5 =>
      (m_gI g a_5 4 3).bind fun v_6 =>
      if (v_6 : Int32) = 0 then
        f_Arc_numberWithId_35 (f_Arc_numberWithId_2 fu) g a0 x1 x2
      else
        (m_gR g a0 0 5).bind fun v_8 =>
        Option.bind v_8 fun a_9 =>
        (m_ldR g a_9 5 x2).bind fun v_10 =>
        Option.bind v_10 fun a_11 =>
        (m_gI g a_11 4 4).bind fun v_12 =>
        if (v_12 : Int32) = x1 then
          some (x2, g)
        else
          f_Arc_numberWithId_35 (f_Arc_numberWithId_2 fu) g a0 x1 x2
set_option maxHeartbeats 1000000 in
set_option maxRecDepth 100000 in
theorem c_Arc_numberWithId_2 (E : m_V p m c b_Arc_numberWithId 3 s args R_Arc D K) (hr : meth.sig.returnType = (some .int)) (hlk : meth.locks = false) (hz : s.heap.size + 0 = B + n)   : ∀ fu : Nat, ∀ (g : m_G) (a0 : Nat) (x1 : Int32) (x2 : Int32) (r : Int32) (g' : m_G), f_Arc_numberWithId_2  fu g a0 x1 x2 = some (r, g') → ∀ (H : Heap) (locs : List Loc), m_S D B K n g s.heap H locs → ∀ ls : Array Slot, lv_has ls 3 [(0, .ref (B + a0)), (1, .int x1), (2, .int x2)] → W p l e ({ frames := 0, cells := 0, slots := 0, locals := 0 } : Room) s m args below meth c H locs 0 0 (MQ below (m_Q D B K (some (.int r)) n g') args s 0 0 (fun q => B ≤ q)) (F0 m 2 ls []) := by
  have hx := E.1.1
  have hb := E.1.2.1
  have hts := E.1.2.2.2.2
  intro fu
  induction fu with
  | zero => intro g a0 x1 x2 r g' hF; cases hF
  | succ fu ih =>
    intro g a0 x1 x2 r g' hF H locs S ls hl
    rw [f_Arc_numberWithId_2] at hF
    refine lv_iload_n hx hb d_Arc_numberWithId_2 rfl (lv_at hl 2 rfl) ?_
    refine lv_bipush (v := 12) hx hb d_Arc_numberWithId_3 (by decide) ?_
    refine lv_icmp_ge (tgt := 41) hx hb d_Arc_numberWithId_5 (by decide) (fun c_1 => ?_) (fun c_1 => ?_)
    · rw [if_pos c_1] at hF
      refine lv_iconst (v := (-1)) hx hb d_Arc_numberWithId_41 (by decide) ?_
      cases hF
      exact m_iret E S hz hr hlk d_Arc_numberWithId_42
    · rw [if_neg c_1] at hF
      refine lv_aload_n hx hb d_Arc_numberWithId_8 rfl (lv_at hl 0 rfl) ?_
      replace hF := Option.bind_eq_some_iff.mp hF
      obtain ⟨v_2, ev_2, hF⟩ := hF
      refine m_getR (B := B) (a := a0) E S fd_Arc_messages (Or.inl qw_75) ev_2 d_Arc_numberWithId_9 ?_
      refine lv_iload_n hx hb d_Arc_numberWithId_12 rfl (lv_at hl 2 rfl) ?_
      replace hF := Option.bind_eq_some_iff.mp hF
      obtain ⟨a_3, ea_3, hF⟩ := hF
      subst ea_3
      replace hF := Option.bind_eq_some_iff.mp hF
      obtain ⟨v_4, ev_4, hF⟩ := hF
      refine m_aald (B := B) (a := a_3) (t := 5) E S rfl ev_4 d_Arc_numberWithId_13 ?_
      replace hF := Option.bind_eq_some_iff.mp hF
      obtain ⟨a_5, ea_5, hF⟩ := hF
      subst ea_5
      replace hF := Option.bind_eq_some_iff.mp hF
      obtain ⟨v_6, ev_6, hF⟩ := hF
      refine m_getI (B := B) (a := a_5) E S fd_Message_there (Or.inr ⟨_, qn_17⟩) ev_6 d_Arc_numberWithId_14 ?_
      refine lv_if_eq (tgt := 35) hx hb d_Arc_numberWithId_17 (by decide) (fun c_7 => ?_) (fun c_7 => ?_)
      · rw [if_pos c_7] at hF
        exact c_Arc_numberWithId_35 E hr hlk hz (f_Arc_numberWithId_2 fu) ih _ _ _ _ _ _ hF _ _ S _ (lv_sub hl [0, 1, 2] rfl)
      · rw [if_neg c_7] at hF
        refine lv_aload_n hx hb d_Arc_numberWithId_20 rfl (lv_at hl 0 rfl) ?_
        replace hF := Option.bind_eq_some_iff.mp hF
        obtain ⟨v_8, ev_8, hF⟩ := hF
        refine m_getR (B := B) (a := a0) E S fd_Arc_messages (Or.inl qw_75) ev_8 d_Arc_numberWithId_21 ?_
        refine lv_iload_n hx hb d_Arc_numberWithId_24 rfl (lv_at hl 2 rfl) ?_
        replace hF := Option.bind_eq_some_iff.mp hF
        obtain ⟨a_9, ea_9, hF⟩ := hF
        subst ea_9
        replace hF := Option.bind_eq_some_iff.mp hF
        obtain ⟨v_10, ev_10, hF⟩ := hF
        refine m_aald (B := B) (a := a_9) (t := 5) E S rfl ev_10 d_Arc_numberWithId_25 ?_
        replace hF := Option.bind_eq_some_iff.mp hF
        obtain ⟨a_11, ea_11, hF⟩ := hF
        subst ea_11
        replace hF := Option.bind_eq_some_iff.mp hF
        obtain ⟨v_12, ev_12, hF⟩ := hF
        refine m_getI (B := B) (a := a_11) E S fd_Message_id (Or.inr ⟨_, qn_18⟩) ev_12 d_Arc_numberWithId_26 ?_
        refine lv_iload_n hx hb d_Arc_numberWithId_29 rfl (lv_at hl 1 rfl) ?_
        refine lv_icmp_ne (tgt := 35) hx hb d_Arc_numberWithId_30 (by decide) (fun c_13 => ?_) (fun c_13 => ?_)
        · rw [if_neg c_13] at hF
          exact c_Arc_numberWithId_35 E hr hlk hz (f_Arc_numberWithId_2 fu) ih _ _ _ _ _ _ hF _ _ S _ (lv_sub hl [0, 1, 2] rfl)
        · rw [if_pos c_13] at hF
          refine lv_iload_n hx hb d_Arc_numberWithId_33 rfl (lv_at hl 2 rfl) ?_
          cases hF
          exact m_iret E S hz hr hlk d_Arc_numberWithId_34
end S_Arc_numberWithId
def f_Arc_numberWithId  (g : m_G) (a0 : Nat) (x1 : Int32) : Option (Int32 × m_G) :=
  f_Arc_numberWithId_2 m_fu g a0 x1 0
set_option maxHeartbeats 1000000 in
set_option maxRecDepth 100000 in
theorem c_Arc_numberWithId (l : Launch) (D : va_G) (B : Nat) (K : Nat → ClassId)  (n : Nat) (g : m_G) (a0 : Nat) (x1 : Int32) (r : Int32) (g' : m_G) (hF : f_Arc_numberWithId g a0 x1 = some (r, g')) : Met l y_Arc_numberWithId (Cond.code y_Arc_numberWithId b_Arc_numberWithId 3 (some .int) :: m_TB) ({ frames := 0, cells := 0, slots := 0, locals := 0 } : Room) (m_Pc D B K n g [.ref (B + a0), .int x1]) (m_Q D B K (some (.int r)) n g') 0 0 (fun q => B ≤ q) := by
  refine m_met (by decide) (Nat.le_of_ble_eq_true rfl) ?_
  intro p e s m args below meth c ls E hr hlk hin hsz S hl
  have E : m_V p m c b_Arc_numberWithId 3 s args R_Arc D K := E
  have hz : s.heap.size + 0 = B + n := hsz
  have hl : lv_has ls 3 [(0, .ref (B + a0)), (1, .int x1)] := hl
  have hx := E.1.1
  have hb := E.1.2.1
  have hts := E.1.2.2.2.2
  unfold f_Arc_numberWithId at hF
  refine lv_iconst (v := 0) hx hb d_Arc_numberWithId_0 (by decide) ?_
  refine lv_istore_n (lv' := [(2, .int 0), (0, .ref (B + a0)), (1, .int x1)]) hx hb d_Arc_numberWithId_1 rfl hl (by decide) rfl (fun ls hl => ?_)
  exact c_Arc_numberWithId_2 E hr hlk hz m_fu _ _ _ _ _ _ hF _ _ S _ (lv_sub hl [1, 2, 0] rfl)
section S_Draft_headersEnd
variable {p : Program} {l : Launch} {e : Env} {s : State} {m : MethodId} {args : Array Value} {below : List Frame} {meth : Method} {c : Code} {D : va_G} {B n : Nat} {K : Nat → ClassId}
def f_Draft_headersEnd_2   : Nat → m_G → Nat → Int32 → Int32 → Option (Int32 × m_G)
  | 0, _, _, _, _ => none
  | fu + 1, g, a0, x2, x3 =>
    if (x2 : Int32) ≤ x3 then
      some (x2, g)
    else
      (m_gR g a0 2 0).bind fun v_2 =>
      Option.bind v_2 fun a_3 =>
      (m_ldR g a_3 4 x3).bind fun v_4 =>
      Option.bind v_4 fun a_5 =>
      (m_gI g a_5 1 1).bind fun v_6 =>
      if (v_6 : Int32) = 0 then
        some (x3, g)
      else
        f_Draft_headersEnd_2 fu g a0 x2 (x3 + 1)
set_option maxHeartbeats 1000000 in
set_option maxRecDepth 100000 in
theorem c_Draft_headersEnd_2 (E : m_V p m c b_Draft_headersEnd 4 s args R_Draft D K) (hr : meth.sig.returnType = (some .int)) (hlk : meth.locks = false) (hz : s.heap.size + 0 = B + n)   : ∀ fu : Nat, ∀ (g : m_G) (a0 : Nat) (x2 : Int32) (x3 : Int32) (r : Int32) (g' : m_G), f_Draft_headersEnd_2  fu g a0 x2 x3 = some (r, g') → ∀ (H : Heap) (locs : List Loc), m_S D B K n g s.heap H locs → ∀ ls : Array Slot, lv_has ls 4 [(0, .ref (B + a0)), (2, .int x2), (3, .int x3)] → W p l e ({ frames := 0, cells := 0, slots := 0, locals := 0 } : Room) s m args below meth c H locs 0 0 (MQ below (m_Q D B K (some (.int r)) n g') args s 0 0 (fun q => B ≤ q)) (F0 m 2 ls []) := by
  have hx := E.1.1
  have hb := E.1.2.1
  have hts := E.1.2.2.2.2
  intro fu
  induction fu with
  | zero => intro g a0 x2 x3 r g' hF; cases hF
  | succ fu ih =>
    intro g a0 x2 x3 r g' hF H locs S ls hl
    rw [f_Draft_headersEnd_2] at hF
    refine lv_iload_n hx hb d_Draft_headersEnd_2 rfl (lv_at hl 2 rfl) ?_
    refine lv_iload_n hx hb d_Draft_headersEnd_3 rfl (lv_at hl 1 rfl) ?_
    refine lv_icmp_ge (tgt := 27) hx hb d_Draft_headersEnd_4 (by decide) (fun c_1 => ?_) (fun c_1 => ?_)
    · rw [if_pos c_1] at hF
      refine lv_iload_n hx hb d_Draft_headersEnd_27 rfl (lv_at hl 1 rfl) ?_
      cases hF
      exact m_iret E S hz hr hlk d_Draft_headersEnd_28
    · rw [if_neg c_1] at hF
      refine lv_aload_n hx hb d_Draft_headersEnd_7 rfl (lv_at hl 0 rfl) ?_
      replace hF := Option.bind_eq_some_iff.mp hF
      obtain ⟨v_2, ev_2, hF⟩ := hF
      refine m_getR (B := B) (a := a0) E S fd_Draft_lines (Or.inl qw_8) ev_2 d_Draft_headersEnd_8 ?_
      refine lv_iload_n hx hb d_Draft_headersEnd_11 rfl (lv_at hl 2 rfl) ?_
      replace hF := Option.bind_eq_some_iff.mp hF
      obtain ⟨a_3, ea_3, hF⟩ := hF
      subst ea_3
      replace hF := Option.bind_eq_some_iff.mp hF
      obtain ⟨v_4, ev_4, hF⟩ := hF
      refine m_aald (B := B) (a := a_3) (t := 4) E S rfl ev_4 d_Draft_headersEnd_12 ?_
      replace hF := Option.bind_eq_some_iff.mp hF
      obtain ⟨a_5, ea_5, hF⟩ := hF
      subst ea_5
      replace hF := Option.bind_eq_some_iff.mp hF
      obtain ⟨v_6, ev_6, hF⟩ := hF
      refine m_getI (B := B) (a := a_5) E S fd_Line_length (Or.inr ⟨_, qn_19⟩) ev_6 d_Draft_headersEnd_13 ?_
      refine lv_if_ne (tgt := 21) hx hb d_Draft_headersEnd_16 (by decide) (fun c_7 => ?_) (fun c_7 => ?_)
      · rw [if_neg c_7] at hF
        refine lv_iinc (v := (x3 + 1)) (lv' := [(3, .int (x3 + 1)), (0, .ref (B + a0)), (2, .int x2)]) hx hb d_Draft_headersEnd_21 hl (k := 2) rfl rfl (by decide) rfl (fun ls hl => ?_)
        refine lv_goto (tgt := 2) hx hb d_Draft_headersEnd_24 (by decide) ?_
        exact ih _ _ _ _ _ _ hF _ _ S _ (lv_sub hl [1, 2, 0] rfl)
      · rw [if_pos c_7] at hF
        refine lv_iload_n hx hb d_Draft_headersEnd_19 rfl (lv_at hl 2 rfl) ?_
        cases hF
        exact m_iret E S hz hr hlk d_Draft_headersEnd_20
end S_Draft_headersEnd
def f_Draft_headersEnd  (g : m_G) (a0 : Nat) (x1 : Int32) (x2 : Int32) : Option (Int32 × m_G) :=
  f_Draft_headersEnd_2 m_fu g a0 x2 x1
set_option maxHeartbeats 1000000 in
set_option maxRecDepth 100000 in
theorem c_Draft_headersEnd (l : Launch) (D : va_G) (B : Nat) (K : Nat → ClassId)  (n : Nat) (g : m_G) (a0 : Nat) (x1 : Int32) (x2 : Int32) (r : Int32) (g' : m_G) (hF : f_Draft_headersEnd g a0 x1 x2 = some (r, g')) : Met l y_Draft_headersEnd (Cond.code y_Draft_headersEnd b_Draft_headersEnd 4 (some .int) :: m_TB) ({ frames := 0, cells := 0, slots := 0, locals := 0 } : Room) (m_Pc D B K n g [.ref (B + a0), .int x1, .int x2]) (m_Q D B K (some (.int r)) n g') 0 0 (fun q => B ≤ q) := by
  refine m_met (by decide) (Nat.le_of_ble_eq_true rfl) ?_
  intro p e s m args below meth c ls E hr hlk hin hsz S hl
  have E : m_V p m c b_Draft_headersEnd 4 s args R_Draft D K := E
  have hz : s.heap.size + 0 = B + n := hsz
  have hl : lv_has ls 4 [(0, .ref (B + a0)), (1, .int x1), (2, .int x2)] := hl
  have hx := E.1.1
  have hb := E.1.2.1
  have hts := E.1.2.2.2.2
  unfold f_Draft_headersEnd at hF
  refine lv_iload_n hx hb d_Draft_headersEnd_0 rfl (lv_at hl 1 rfl) ?_
  refine lv_istore_n (lv' := [(3, .int x1), (0, .ref (B + a0)), (1, .int x1), (2, .int x2)]) hx hb d_Draft_headersEnd_1 rfl hl (by decide) rfl (fun ls hl => ?_)
  exact c_Draft_headersEnd_2 E hr hlk hz m_fu _ _ _ _ _ _ hF _ _ S _ (lv_sub hl [1, 3, 0] rfl)
section S_Line_at
variable {p : Program} {l : Launch} {e : Env} {s : State} {m : MethodId} {args : Array Value} {below : List Frame} {meth : Method} {c : Code} {D : va_G} {B n : Nat} {K : Nat → ClassId}
def f_Line_at_22   (g : m_G) (y0 : Int32) : Option (Int32 × m_G) :=
  some (y0, g)
set_option maxHeartbeats 1000000 in
set_option maxRecDepth 100000 in
theorem c_Line_at_22 (E : m_V p m c b_Line_at 2 s args R_Line D K) (hr : meth.sig.returnType = (some .int)) (hlk : meth.locks = false) (hz : s.heap.size + 0 = B + n)   : ∀ (g : m_G) (y0 : Int32) (r : Int32) (g' : m_G), f_Line_at_22 g y0 = some (r, g') → ∀ (H : Heap) (locs : List Loc), m_S D B K n g s.heap H locs → ∀ ls : Array Slot, lv_has ls 2 [] → W p l e ({ frames := 0, cells := 0, slots := 0, locals := 0 } : Room) s m args below meth c H locs 0 0 (MQ below (m_Q D B K (some (.int r)) n g') args s 0 0 (fun q => B ≤ q)) (F0 m 22 ls [.int y0]) := by
  have hx := E.1.1
  have hb := E.1.2.1
  have hts := E.1.2.2.2.2
  intro g y0 r g' hF H locs S ls hl
  unfold f_Line_at_22 at hF
  cases hF
  exact m_iret E S hz hr hlk d_Line_at_22
def f_Line_at_12   (g : m_G)  : Option (Int32 × m_G) :=
  f_Line_at_22 g (-1)
set_option maxHeartbeats 1000000 in
set_option maxRecDepth 100000 in
theorem c_Line_at_12 (E : m_V p m c b_Line_at 2 s args R_Line D K) (hr : meth.sig.returnType = (some .int)) (hlk : meth.locks = false) (hz : s.heap.size + 0 = B + n)   : ∀ (g : m_G)  (r : Int32) (g' : m_G), f_Line_at_12 g  = some (r, g') → ∀ (H : Heap) (locs : List Loc), m_S D B K n g s.heap H locs → ∀ ls : Array Slot, lv_has ls 2 [] → W p l e ({ frames := 0, cells := 0, slots := 0, locals := 0 } : Room) s m args below meth c H locs 0 0 (MQ below (m_Q D B K (some (.int r)) n g') args s 0 0 (fun q => B ≤ q)) (F0 m 12 ls []) := by
  have hx := E.1.1
  have hb := E.1.2.1
  have hts := E.1.2.2.2.2
  intro g  r g' hF H locs S ls hl
  unfold f_Line_at_12 at hF
  refine lv_iconst (v := (-1)) hx hb d_Line_at_12 (by decide) ?_
  refine lv_goto (tgt := 22) hx hb d_Line_at_13 (by decide) ?_
  exact c_Line_at_22 E hr hlk hz _ _ _ _ hF _ _ S _ (lv_sub hl [] rfl)
end S_Line_at
def f_Line_at  (g : m_G) (a0 : Nat) (x1 : Int32) : Option (Int32 × m_G) :=
  if (x1 : Int32) < 0 then
    f_Line_at_12 g 
  else
    (m_gI g a0 1 1).bind fun v_2 =>
    if (x1 : Int32) < v_2 then
      (m_gR g a0 1 0).bind fun v_4 =>
      Option.bind v_4 fun a_5 =>
      (m_ld g a_5 1 x1).bind fun v_6 =>
      f_Line_at_22 g v_6
    else
      f_Line_at_12 g 
set_option maxHeartbeats 1000000 in
set_option maxRecDepth 100000 in
theorem c_Line_at (l : Launch) (D : va_G) (B : Nat) (K : Nat → ClassId)  (n : Nat) (g : m_G) (a0 : Nat) (x1 : Int32) (r : Int32) (g' : m_G) (hF : f_Line_at g a0 x1 = some (r, g')) : Met l y_Line_at (Cond.code y_Line_at b_Line_at 2 (some .int) :: m_TB) ({ frames := 0, cells := 0, slots := 0, locals := 0 } : Room) (m_Pc D B K n g [.ref (B + a0), .int x1]) (m_Q D B K (some (.int r)) n g') 0 0 (fun q => B ≤ q) := by
  refine m_met (by decide) (Nat.le_of_ble_eq_true rfl) ?_
  intro p e s m args below meth c ls E hr hlk hin hsz S hl
  have E : m_V p m c b_Line_at 2 s args R_Line D K := E
  have hz : s.heap.size + 0 = B + n := hsz
  have hl : lv_has ls 2 [(0, .ref (B + a0)), (1, .int x1)] := hl
  have hx := E.1.1
  have hb := E.1.2.1
  have hts := E.1.2.2.2.2
  unfold f_Line_at at hF
  refine lv_iload_n hx hb d_Line_at_0 rfl (lv_at hl 1 rfl) ?_
  refine lv_if_lt (tgt := 12) hx hb d_Line_at_1 (by decide) (fun c_1 => ?_) (fun c_1 => ?_)
  · rw [if_pos c_1] at hF
    exact c_Line_at_12 E hr hlk hz _ _ _ hF _ _ S _ (lv_sub hl [] rfl)
  · rw [if_neg c_1] at hF
    refine lv_iload_n hx hb d_Line_at_4 rfl (lv_at hl 1 rfl) ?_
    refine lv_aload_n hx hb d_Line_at_5 rfl (lv_at hl 0 rfl) ?_
    replace hF := Option.bind_eq_some_iff.mp hF
    obtain ⟨v_2, ev_2, hF⟩ := hF
    refine m_getI (B := B) (a := a0) E S fd_Line_length (Or.inl qw_5) ev_2 d_Line_at_6 ?_
    refine lv_icmp_lt (tgt := 16) hx hb d_Line_at_9 (by decide) (fun c_3 => ?_) (fun c_3 => ?_)
    · rw [if_pos c_3] at hF
      refine lv_aload_n hx hb d_Line_at_16 rfl (lv_at hl 0 rfl) ?_
      replace hF := Option.bind_eq_some_iff.mp hF
      obtain ⟨v_4, ev_4, hF⟩ := hF
      refine m_getR (B := B) (a := a0) E S fd_Line_characters (Or.inl qw_4) ev_4 d_Line_at_17 ?_
      refine lv_iload_n hx hb d_Line_at_20 rfl (lv_at hl 1 rfl) ?_
      replace hF := Option.bind_eq_some_iff.mp hF
      obtain ⟨a_5, ea_5, hF⟩ := hF
      subst ea_5
      replace hF := Option.bind_eq_some_iff.mp hF
      obtain ⟨v_6, ev_6, hF⟩ := hF
      refine m_cald (B := B) (a := a_5) (t := 1) E S rfl ev_6 d_Line_at_21 ?_
      exact c_Line_at_22 E hr hlk hz _ _ _ _ hF _ _ S _ (lv_sub hl [] rfl)
    · rw [if_neg c_3] at hF
      exact c_Line_at_12 E hr hlk hz _ _ _ hF _ _ S _ (lv_sub hl [] rfl)
section S_Line_isHeader
variable {p : Program} {l : Launch} {e : Env} {s : State} {m : MethodId} {args : Array Value} {below : List Frame} {meth : Method} {c : Code} {D : va_G} {B n : Nat} {K : Nat → ClassId}
def f_Line_isHeader_24   (g : m_G) (y0 : Int32) : Option (Int32 × m_G) :=
  if (y0 : Int32) = 0 ∨ y0 = 1 then some (y0, g) else none
set_option maxHeartbeats 1000000 in
set_option maxRecDepth 100000 in
theorem c_Line_isHeader_24 (E : m_V p m c b_Line_isHeader 2 s args R_Line D K) (hr : meth.sig.returnType = (some .boolean)) (hlk : meth.locks = false) (hz : s.heap.size + 0 = B + n)   : ∀ (g : m_G) (y0 : Int32) (r : Int32) (g' : m_G), f_Line_isHeader_24 g y0 = some (r, g') → ∀ (H : Heap) (locs : List Loc), m_S D B K n g s.heap H locs → ∀ ls : Array Slot, lv_has ls 2 [] → W p l e ({ frames := 1, cells := 0, slots := 0, locals := 21 } : Room) s m args below meth c H locs 0 0 (MQ below (m_Q D B K (some (.int r)) n g') args s 0 0 (fun q => B ≤ q)) (F0 m 24 ls [.int y0]) := by
  have hx := E.1.1
  have hb := E.1.2.1
  have hts := E.1.2.2.2.2
  intro g y0 r g' hF H locs S ls hl
  unfold f_Line_isHeader_24 at hF
  by_cases c_1 : (y0 : Int32) = 0 ∨ y0 = 1
  · rw [if_pos c_1] at hF
    cases hF
    exact m_zret E S hz hr hlk c_1 d_Line_isHeader_24
  · rw [if_neg c_1] at hF
    cases hF
def f_Line_isHeader_23   (g : m_G)  : Option (Int32 × m_G) :=
  f_Line_isHeader_24 g 0
set_option maxHeartbeats 1000000 in
set_option maxRecDepth 100000 in
theorem c_Line_isHeader_23 (E : m_V p m c b_Line_isHeader 2 s args R_Line D K) (hr : meth.sig.returnType = (some .boolean)) (hlk : meth.locks = false) (hz : s.heap.size + 0 = B + n)   : ∀ (g : m_G)  (r : Int32) (g' : m_G), f_Line_isHeader_23 g  = some (r, g') → ∀ (H : Heap) (locs : List Loc), m_S D B K n g s.heap H locs → ∀ ls : Array Slot, lv_has ls 2 [] → W p l e ({ frames := 1, cells := 0, slots := 0, locals := 21 } : Room) s m args below meth c H locs 0 0 (MQ below (m_Q D B K (some (.int r)) n g') args s 0 0 (fun q => B ≤ q)) (F0 m 23 ls []) := by
  have hx := E.1.1
  have hb := E.1.2.1
  have hts := E.1.2.2.2.2
  intro g  r g' hF H locs S ls hl
  unfold f_Line_isHeader_23 at hF
  refine lv_iconst (v := 0) hx hb d_Line_isHeader_23 (by decide) ?_
  exact c_Line_isHeader_24 E hr hlk hz _ _ _ _ hF _ _ S _ (lv_sub hl [] rfl)
end S_Line_isHeader
def f_Line_isHeader  (g : m_G) (a0 : Nat) (x1 : Int32) : Option (Int32 × m_G) :=
  m_gd (m_is g a0 1) <|
  m_bd (f_Line_at g a0 0) fun v_2 g_1 =>
  if (v_2 : Int32) = x1 then
    m_gd (m_is g_1 a0 1) <|
    m_bd (f_Line_at g_1 a0 1) fun v_5 g_4 =>
    if (v_5 : Int32) = 58 then
      f_Line_isHeader_24 g_4 1
    else
      f_Line_isHeader_23 g_4 
  else
    f_Line_isHeader_23 g_1 
set_option maxHeartbeats 1000000 in
set_option maxRecDepth 100000 in
theorem c_Line_isHeader (l : Launch) (D : va_G) (B : Nat) (K : Nat → ClassId)  (n : Nat) (g : m_G) (a0 : Nat) (x1 : Int32) (r : Int32) (g' : m_G) (hF : f_Line_isHeader g a0 x1 = some (r, g')) : Met l y_Line_isHeader (Cond.code y_Line_isHeader b_Line_isHeader 2 (some .boolean) :: m_TB) ({ frames := 1, cells := 0, slots := 0, locals := 21 } : Room) (m_Pc D B K n g [.ref (B + a0), .int x1]) (m_Q D B K (some (.int r)) n g') 0 0 (fun q => B ≤ q) := by
  refine m_met (by decide) (Nat.le_of_ble_eq_true rfl) ?_
  intro p e s m args below meth c ls E hr hlk hin hsz S hl
  have E : m_V p m c b_Line_isHeader 2 s args R_Line D K := E
  have hz : s.heap.size + 0 = B + n := hsz
  have hl : lv_has ls 2 [(0, .ref (B + a0)), (1, .int x1)] := hl
  have hx := E.1.1
  have hb := E.1.2.1
  have hts := E.1.2.2.2.2
  unfold f_Line_isHeader at hF
  refine lv_aload_n hx hb d_Line_isHeader_0 rfl (lv_at hl 0 rfl) ?_
  refine lv_iconst (v := 0) hx hb d_Line_isHeader_1 (by decide) ?_
  replace hF := m_gd_inv hF
  obtain ⟨eog_1, hF⟩ := hF
  replace hF := m_bd_inv hF
  obtain ⟨v_2, g_1, eg_1, hF⟩ := hF
  refine m_callV (B := B) (nn := 1) (b := a0) (As := [.int 0]) (rest := []) (v := (some (.int v_2))) E S hz (c_Line_at l D B K n g a0 0 v_2 g_1 eg_1) qc_Line_at ⟨rfl, rfl⟩ (Or.inl qw_97) qw_98 qw_99 qw_11 (by decide +kernel) ⟨Nat.le_of_ble_eq_true rfl, Nat.le_of_ble_eq_true rfl⟩ eog_1 rfl rfl hl.1 (Nat.le_of_ble_eq_true rfl) d_Line_isHeader_2 ⟨Nat.le_of_ble_eq_true rfl, Nat.le_of_ble_eq_true rfl⟩ (fun H locs S => ?_)
  refine W.eq (g2 := F0 m 5 ls [.int v_2]) rfl ?_
  refine lv_iload_n hx hb d_Line_isHeader_5 rfl (lv_at hl 1 rfl) ?_
  refine lv_icmp_ne (tgt := 23) hx hb d_Line_isHeader_6 (by decide) (fun c_3 => ?_) (fun c_3 => ?_)
  · rw [if_neg c_3] at hF
    exact c_Line_isHeader_23 E hr hlk hz _ _ _ hF _ _ S _ (lv_sub hl [] rfl)
  · rw [if_pos c_3] at hF
    refine lv_aload_n hx hb d_Line_isHeader_9 rfl (lv_at hl 0 rfl) ?_
    refine lv_iconst (v := 1) hx hb d_Line_isHeader_10 (by decide) ?_
    replace hF := m_gd_inv hF
    obtain ⟨eog_4, hF⟩ := hF
    replace hF := m_bd_inv hF
    obtain ⟨v_5, g_4, eg_4, hF⟩ := hF
    refine m_callV (B := B) (nn := 1) (b := a0) (As := [.int 1]) (rest := []) (v := (some (.int v_5))) E S hz (c_Line_at l D B K n g_1 a0 1 v_5 g_4 eg_4) qc_Line_at ⟨rfl, rfl⟩ (Or.inl qw_97) qw_98 qw_99 qw_11 (by decide +kernel) ⟨Nat.le_of_ble_eq_true rfl, Nat.le_of_ble_eq_true rfl⟩ eog_4 rfl rfl hl.1 (Nat.le_of_ble_eq_true rfl) d_Line_isHeader_11 ⟨Nat.le_of_ble_eq_true rfl, Nat.le_of_ble_eq_true rfl⟩ (fun H locs S => ?_)
    refine W.eq (g2 := F0 m 14 ls [.int v_5]) rfl ?_
    refine lv_bipush (v := 58) hx hb d_Line_isHeader_14 (by decide) ?_
    refine lv_icmp_ne (tgt := 23) hx hb d_Line_isHeader_16 (by decide) (fun c_6 => ?_) (fun c_6 => ?_)
    · rw [if_neg c_6] at hF
      exact c_Line_isHeader_23 E hr hlk hz _ _ _ hF _ _ S _ (lv_sub hl [] rfl)
    · rw [if_pos c_6] at hF
      refine lv_iconst (v := 1) hx hb d_Line_isHeader_19 (by decide) ?_
      refine lv_goto (tgt := 24) hx hb d_Line_isHeader_20 (by decide) ?_
      exact c_Line_isHeader_24 E hr hlk hz _ _ _ _ hF _ _ S _ (lv_sub hl [] rfl)
section S_Draft_header
variable {p : Program} {l : Launch} {e : Env} {s : State} {m : MethodId} {args : Array Value} {below : List Frame} {meth : Method} {c : Code} {D : va_G} {B n : Nat} {K : Nat → ClassId}
def f_Draft_header_10   : Nat → m_G → Nat → Int32 → Int32 → Int32 → Option (Option Nat × m_G)
  | 0, _, _, _, _, _ => none
  | fu + 1, g, a0, x1, x3, x4 =>
    if (x4 : Int32) < x1 then
      some (none, g)
    else
      (m_gR g a0 2 0).bind fun v_2 =>
      Option.bind v_2 fun a_3 =>
      (m_ldR g a_3 4 x4).bind fun v_4 =>
      Option.bind v_4 fun a_5 =>
      m_gd (m_is g a_5 1) <|
      m_bd (f_Line_isHeader g a_5 x3) fun v_7 g_6 =>
      if (v_7 : Int32) = 0 then
        f_Draft_header_10 fu g_6 a0 x1 x3 (x4 + (-1))
      else
        (m_gR g_6 a0 2 0).bind fun v_9 =>
        Option.bind v_9 fun a_10 =>
        (m_ldR g_6 a_10 4 x4).bind fun v_11 =>
        some (v_11, g_6)
set_option maxHeartbeats 1000000 in
set_option maxRecDepth 100000 in
theorem c_Draft_header_10 (E : m_V p m c b_Draft_header 5 s args R_Draft D K) (hr : meth.sig.returnType = (some (.object "ThreadedArchive$Line"))) (hlk : meth.locks = false) (hz : s.heap.size + 0 = B + n)   : ∀ fu : Nat, ∀ (g : m_G) (a0 : Nat) (x1 : Int32) (x3 : Int32) (x4 : Int32) (r : Option Nat) (g' : m_G), f_Draft_header_10  fu g a0 x1 x3 x4 = some (r, g') → ∀ (H : Heap) (locs : List Loc), m_S D B K n g s.heap H locs → ∀ ls : Array Slot, lv_has ls 5 [(0, .ref (B + a0)), (1, .int x1), (3, .int x3), (4, .int x4)] → W p l e ({ frames := 2, cells := 0, slots := 0, locals := 42 } : Room) s m args below meth c H locs 0 0 (MQ below (m_Q D B K (some (m_r B r)) n g') args s 0 0 (fun q => B ≤ q)) (F0 m 10 ls []) := by
  have hx := E.1.1
  have hb := E.1.2.1
  have hts := E.1.2.2.2.2
  intro fu
  induction fu with
  | zero => intro g a0 x1 x3 x4 r g' hF; cases hF
  | succ fu ih =>
    intro g a0 x1 x3 x4 r g' hF H locs S ls hl
    rw [f_Draft_header_10] at hF
    refine lv_iload hx hb d_Draft_header_10 (lv_at hl 3 rfl) ?_
    refine lv_iload_n hx hb d_Draft_header_12 rfl (lv_at hl 1 rfl) ?_
    refine lv_icmp_lt (tgt := 44) hx hb d_Draft_header_13 (by decide) (fun c_1 => ?_) (fun c_1 => ?_)
    · rw [if_pos c_1] at hF
      refine lv_null hx hb d_Draft_header_44 ?_
      refine W.eq (g2 := F0 m 45 _ (m_r B none :: [])) rfl ?_
      cases hF
      exact m_aret E S hz hr (Or.inl ⟨_, rfl⟩) hlk d_Draft_header_45
    · rw [if_neg c_1] at hF
      refine lv_aload_n hx hb d_Draft_header_16 rfl (lv_at hl 0 rfl) ?_
      replace hF := Option.bind_eq_some_iff.mp hF
      obtain ⟨v_2, ev_2, hF⟩ := hF
      refine m_getR (B := B) (a := a0) E S fd_Draft_lines (Or.inl qw_8) ev_2 d_Draft_header_17 ?_
      refine lv_iload hx hb d_Draft_header_20 (lv_at hl 3 rfl) ?_
      replace hF := Option.bind_eq_some_iff.mp hF
      obtain ⟨a_3, ea_3, hF⟩ := hF
      subst ea_3
      replace hF := Option.bind_eq_some_iff.mp hF
      obtain ⟨v_4, ev_4, hF⟩ := hF
      refine m_aald (B := B) (a := a_3) (t := 4) E S rfl ev_4 d_Draft_header_22 ?_
      refine lv_iload_n hx hb d_Draft_header_23 rfl (lv_at hl 2 rfl) ?_
      replace hF := Option.bind_eq_some_iff.mp hF
      obtain ⟨a_5, ea_5, hF⟩ := hF
      subst ea_5
      replace hF := m_gd_inv hF
      obtain ⟨eog_6, hF⟩ := hF
      replace hF := m_bd_inv hF
      obtain ⟨v_7, g_6, eg_6, hF⟩ := hF
      refine m_callV (B := B) (nn := 1) (b := a_5) (As := [.int x3]) (rest := []) (v := (some (.int v_7))) E S hz (c_Line_isHeader l D B K n g a_5 x3 v_7 g_6 eg_6) qc_Line_isHeader ⟨rfl, rfl⟩ (Or.inr ⟨_, qn_20⟩) qw_103 qw_104 qw_11 (by decide +kernel) ⟨Nat.le_of_ble_eq_true rfl, Nat.le_of_ble_eq_true rfl⟩ eog_6 rfl rfl hl.1 (Nat.le_of_ble_eq_true rfl) d_Draft_header_24 ⟨Nat.le_of_ble_eq_true rfl, Nat.le_of_ble_eq_true rfl⟩ (fun H locs S => ?_)
      refine W.eq (g2 := F0 m 27 ls [.int v_7]) rfl ?_
      refine lv_if_eq (tgt := 38) hx hb d_Draft_header_27 (by decide) (fun c_8 => ?_) (fun c_8 => ?_)
      · rw [if_pos c_8] at hF
        refine lv_iinc (v := (x4 + (-1))) (lv' := [(4, .int (x4 + (-1))), (0, .ref (B + a0)), (1, .int x1), (3, .int x3)]) hx hb d_Draft_header_38 hl (k := 3) rfl rfl (by decide) rfl (fun ls hl => ?_)
        refine lv_goto (tgt := 10) hx hb d_Draft_header_41 (by decide) ?_
        exact ih _ _ _ _ _ _ _ hF _ _ S _ (lv_sub hl [1, 2, 3, 0] rfl)
      · rw [if_neg c_8] at hF
        refine lv_aload_n hx hb d_Draft_header_30 rfl (lv_at hl 0 rfl) ?_
        replace hF := Option.bind_eq_some_iff.mp hF
        obtain ⟨v_9, ev_9, hF⟩ := hF
        refine m_getR (B := B) (a := a0) E S fd_Draft_lines (Or.inl qw_8) ev_9 d_Draft_header_31 ?_
        refine lv_iload hx hb d_Draft_header_34 (lv_at hl 3 rfl) ?_
        replace hF := Option.bind_eq_some_iff.mp hF
        obtain ⟨a_10, ea_10, hF⟩ := hF
        subst ea_10
        replace hF := Option.bind_eq_some_iff.mp hF
        obtain ⟨v_11, ev_11, hF⟩ := hF
        refine m_aald (B := B) (a := a_10) (t := 4) E S rfl ev_11 d_Draft_header_36 ?_
        cases hF
        exact m_aret E S hz hr (Or.inl ⟨_, rfl⟩) hlk d_Draft_header_37
end S_Draft_header
def f_Draft_header  (g : m_G) (a0 : Nat) (x1 : Int32) (x2 : Int32) (x3 : Int32) : Option (Option Nat × m_G) :=
  m_gd (m_is g a0 2) <|
  m_bd (f_Draft_headersEnd g a0 x1 x2) fun v_2 g_1 =>
  f_Draft_header_10 m_fu g_1 a0 x1 x3 (v_2 - 1)
set_option maxHeartbeats 1000000 in
set_option maxRecDepth 100000 in
theorem c_Draft_header (l : Launch) (D : va_G) (B : Nat) (K : Nat → ClassId)  (n : Nat) (g : m_G) (a0 : Nat) (x1 : Int32) (x2 : Int32) (x3 : Int32) (r : Option Nat) (g' : m_G) (hF : f_Draft_header g a0 x1 x2 x3 = some (r, g')) : Met l y_Draft_header (Cond.code y_Draft_header b_Draft_header 5 (some (.object "ThreadedArchive$Line")) :: m_TB) ({ frames := 2, cells := 0, slots := 0, locals := 42 } : Room) (m_Pc D B K n g [.ref (B + a0), .int x1, .int x2, .int x3]) (m_Q D B K (some (m_r B r)) n g') 0 0 (fun q => B ≤ q) := by
  refine m_met (by decide) (Nat.le_of_ble_eq_true rfl) ?_
  intro p e s m args below meth c ls E hr hlk hin hsz S hl
  have E : m_V p m c b_Draft_header 5 s args R_Draft D K := E
  have hz : s.heap.size + 0 = B + n := hsz
  have hl : lv_has ls 5 [(0, .ref (B + a0)), (1, .int x1), (2, .int x2), (3, .int x3)] := hl
  have hx := E.1.1
  have hb := E.1.2.1
  have hts := E.1.2.2.2.2
  unfold f_Draft_header at hF
  refine lv_aload_n hx hb d_Draft_header_0 rfl (lv_at hl 0 rfl) ?_
  refine lv_iload_n hx hb d_Draft_header_1 rfl (lv_at hl 1 rfl) ?_
  refine lv_iload_n hx hb d_Draft_header_2 rfl (lv_at hl 2 rfl) ?_
  replace hF := m_gd_inv hF
  obtain ⟨eog_1, hF⟩ := hF
  replace hF := m_bd_inv hF
  obtain ⟨v_2, g_1, eg_1, hF⟩ := hF
  refine m_callV (B := B) (nn := 2) (b := a0) (As := [.int x1, .int x2]) (rest := []) (v := (some (.int v_2))) E S hz (c_Draft_headersEnd l D B K n g a0 x1 x2 v_2 g_1 eg_1) qc_Draft_headersEnd ⟨rfl, rfl⟩ (Or.inl qw_100) qw_101 qw_102 qw_57 (by decide +kernel) ⟨Nat.le_of_ble_eq_true rfl, Nat.le_of_ble_eq_true rfl⟩ eog_1 rfl rfl hl.1 (Nat.le_of_ble_eq_true rfl) d_Draft_header_3 ⟨Nat.le_of_ble_eq_true rfl, Nat.le_of_ble_eq_true rfl⟩ (fun H locs S => ?_)
  refine W.eq (g2 := F0 m 6 ls [.int v_2]) rfl ?_
  refine lv_iconst (v := 1) hx hb d_Draft_header_6 (by decide) ?_
  refine lv_isub hx hb d_Draft_header_7 ?_
  refine lv_istore (lv' := [(4, .int (v_2 - 1)), (0, .ref (B + a0)), (1, .int x1), (2, .int x2), (3, .int x3)]) hx hb d_Draft_header_8 hl (by decide) rfl (fun ls hl => ?_)
  exact c_Draft_header_10 E hr hlk hz m_fu _ _ _ _ _ _ _ hF _ _ S _ (lv_sub hl [1, 2, 4, 0] rfl)
section S_Arc_digit
variable {p : Program} {l : Launch} {e : Env} {s : State} {m : MethodId} {args : Array Value} {below : List Frame} {meth : Method} {c : Code} {D : va_G} {B n : Nat} {K : Nat → ClassId}
def f_Arc_digit_20   (g : m_G) (y0 : Int32) : Option (Int32 × m_G) :=
  some (y0, g)
set_option maxHeartbeats 1000000 in
set_option maxRecDepth 100000 in
theorem c_Arc_digit_20 (E : m_V p m c b_Arc_digit 1 s args R_Arc D K) (hr : meth.sig.returnType = (some .int)) (hlk : meth.locks = false) (hz : s.heap.size + 0 = B + n)   : ∀ (g : m_G) (y0 : Int32) (r : Int32) (g' : m_G), f_Arc_digit_20 g y0 = some (r, g') → ∀ (H : Heap) (locs : List Loc), m_S D B K n g s.heap H locs → ∀ ls : Array Slot, lv_has ls 1 [] → W p l e ({ frames := 0, cells := 0, slots := 0, locals := 0 } : Room) s m args below meth c H locs 0 0 (MQ below (m_Q D B K (some (.int r)) n g') args s 0 0 (fun q => B ≤ q)) (F0 m 20 ls [.int y0]) := by
  have hx := E.1.1
  have hb := E.1.2.1
  have hts := E.1.2.2.2.2
  intro g y0 r g' hF H locs S ls hl
  unfold f_Arc_digit_20 at hF
  cases hF
  exact m_iret E S hz hr hlk d_Arc_digit_20
def f_Arc_digit_19   (g : m_G)  : Option (Int32 × m_G) :=
  f_Arc_digit_20 g (-1)
set_option maxHeartbeats 1000000 in
set_option maxRecDepth 100000 in
theorem c_Arc_digit_19 (E : m_V p m c b_Arc_digit 1 s args R_Arc D K) (hr : meth.sig.returnType = (some .int)) (hlk : meth.locks = false) (hz : s.heap.size + 0 = B + n)   : ∀ (g : m_G)  (r : Int32) (g' : m_G), f_Arc_digit_19 g  = some (r, g') → ∀ (H : Heap) (locs : List Loc), m_S D B K n g s.heap H locs → ∀ ls : Array Slot, lv_has ls 1 [] → W p l e ({ frames := 0, cells := 0, slots := 0, locals := 0 } : Room) s m args below meth c H locs 0 0 (MQ below (m_Q D B K (some (.int r)) n g') args s 0 0 (fun q => B ≤ q)) (F0 m 19 ls []) := by
  have hx := E.1.1
  have hb := E.1.2.1
  have hts := E.1.2.2.2.2
  intro g  r g' hF H locs S ls hl
  unfold f_Arc_digit_19 at hF
  refine lv_iconst (v := (-1)) hx hb d_Arc_digit_19 (by decide) ?_
  exact c_Arc_digit_20 E hr hlk hz _ _ _ _ hF _ _ S _ (lv_sub hl [] rfl)
end S_Arc_digit
def f_Arc_digit  (g : m_G) (x0 : Int32) : Option (Int32 × m_G) :=
  if (x0 : Int32) < 48 then
    f_Arc_digit_19 g 
  else
    if (57 : Int32) < x0 then
      f_Arc_digit_19 g 
    else
      f_Arc_digit_20 g (x0 - 48)
set_option maxHeartbeats 1000000 in
set_option maxRecDepth 100000 in
theorem c_Arc_digit (l : Launch) (D : va_G) (B : Nat) (K : Nat → ClassId)  (n : Nat) (g : m_G) (x0 : Int32) (r : Int32) (g' : m_G) (hF : f_Arc_digit g x0 = some (r, g')) : Met l y_Arc_digit (Cond.code y_Arc_digit b_Arc_digit 1 (some .int) :: m_TB) ({ frames := 0, cells := 0, slots := 0, locals := 0 } : Room) (m_Pc D B K n g [.int x0]) (m_Q D B K (some (.int r)) n g') 0 0 (fun q => B ≤ q) := by
  refine m_met (by decide) (Nat.le_of_ble_eq_true rfl) ?_
  intro p e s m args below meth c ls E hr hlk hin hsz S hl
  have E : m_V p m c b_Arc_digit 1 s args R_Arc D K := E
  have hz : s.heap.size + 0 = B + n := hsz
  have hl : lv_has ls 1 [(0, .int x0)] := hl
  have hx := E.1.1
  have hb := E.1.2.1
  have hts := E.1.2.2.2.2
  unfold f_Arc_digit at hF
  refine lv_iload_n hx hb d_Arc_digit_0 rfl (lv_at hl 0 rfl) ?_
  refine lv_bipush (v := 48) hx hb d_Arc_digit_1 (by decide) ?_
  refine lv_icmp_lt (tgt := 19) hx hb d_Arc_digit_3 (by decide) (fun c_1 => ?_) (fun c_1 => ?_)
  · rw [if_pos c_1] at hF
    exact c_Arc_digit_19 E hr hlk hz _ _ _ hF _ _ S _ (lv_sub hl [] rfl)
  · rw [if_neg c_1] at hF
    refine lv_iload_n hx hb d_Arc_digit_6 rfl (lv_at hl 0 rfl) ?_
    refine lv_bipush (v := 57) hx hb d_Arc_digit_7 (by decide) ?_
    refine lv_icmp_gt (tgt := 19) hx hb d_Arc_digit_9 (by decide) (fun c_2 => ?_) (fun c_2 => ?_)
    · rw [if_pos c_2] at hF
      exact c_Arc_digit_19 E hr hlk hz _ _ _ hF _ _ S _ (lv_sub hl [] rfl)
    · rw [if_neg c_2] at hF
      refine lv_iload_n hx hb d_Arc_digit_12 rfl (lv_at hl 0 rfl) ?_
      refine lv_bipush (v := 48) hx hb d_Arc_digit_13 (by decide) ?_
      refine lv_isub hx hb d_Arc_digit_15 ?_
      refine lv_goto (tgt := 20) hx hb d_Arc_digit_16 (by decide) ?_
      exact c_Arc_digit_20 E hr hlk hz _ _ _ _ hF _ _ S _ (lv_sub hl [] rfl)
section S_Line_idBetween
variable {p : Program} {l : Launch} {e : Env} {s : State} {m : MethodId} {args : Array Value} {below : List Frame} {meth : Method} {c : Code} {D : va_G} {B n : Nat} {K : Nat → ClassId}
def f_Line_idBetween_70   (g : m_G) (y0 : Int32) : Option (Int32 × m_G) :=
  some (y0, g)
set_option maxHeartbeats 1000000 in
set_option maxRecDepth 100000 in
theorem c_Line_idBetween_70 (E : m_V p m c b_Line_idBetween 6 s args R_Line D K) (hr : meth.sig.returnType = (some .int)) (hlk : meth.locks = false) (hz : s.heap.size + 0 = B + n)   : ∀ (g : m_G) (y0 : Int32) (r : Int32) (g' : m_G), f_Line_idBetween_70 g y0 = some (r, g') → ∀ (H : Heap) (locs : List Loc), m_S D B K n g s.heap H locs → ∀ ls : Array Slot, lv_has ls 6 [] → W p l e ({ frames := 1, cells := 0, slots := 0, locals := 21 } : Room) s m args below meth c H locs 0 0 (MQ below (m_Q D B K (some (.int r)) n g') args s 0 0 (fun q => B ≤ q)) (F0 m 70 ls [.int y0]) := by
  have hx := E.1.1
  have hb := E.1.2.1
  have hts := E.1.2.2.2.2
  intro g y0 r g' hF H locs S ls hl
  unfold f_Line_idBetween_70 at hF
  cases hF
  exact m_iret E S hz hr hlk d_Line_idBetween_70
def f_Line_idBetween_69   (g : m_G)  : Option (Int32 × m_G) :=
  f_Line_idBetween_70 g (-1)
set_option maxHeartbeats 1000000 in
set_option maxRecDepth 100000 in
theorem c_Line_idBetween_69 (E : m_V p m c b_Line_idBetween 6 s args R_Line D K) (hr : meth.sig.returnType = (some .int)) (hlk : meth.locks = false) (hz : s.heap.size + 0 = B + n)   : ∀ (g : m_G)  (r : Int32) (g' : m_G), f_Line_idBetween_69 g  = some (r, g') → ∀ (H : Heap) (locs : List Loc), m_S D B K n g s.heap H locs → ∀ ls : Array Slot, lv_has ls 6 [] → W p l e ({ frames := 1, cells := 0, slots := 0, locals := 21 } : Room) s m args below meth c H locs 0 0 (MQ below (m_Q D B K (some (.int r)) n g') args s 0 0 (fun q => B ≤ q)) (F0 m 69 ls []) := by
  have hx := E.1.1
  have hb := E.1.2.1
  have hts := E.1.2.2.2.2
  intro g  r g' hF H locs S ls hl
  unfold f_Line_idBetween_69 at hF
  refine lv_iconst (v := (-1)) hx hb d_Line_idBetween_69 (by decide) ?_
  exact c_Line_idBetween_70 E hr hlk hz _ _ _ _ hF _ _ S _ (lv_sub hl [] rfl)
end S_Line_idBetween
def f_Line_idBetween  (g : m_G) (a0 : Nat) (x1 : Int32) (x2 : Int32) : Option (Int32 × m_G) :=
  m_gd (m_is g a0 1) <|
  m_bd (f_Line_at g a0 x1) fun v_2 g_1 =>
  m_bd (f_Arc_digit g_1 v_2) fun v_4 g_3 =>
  if (0 : Int32) ≤ v_4 then
    if ((x2 - x1) : Int32) = 1 then
      some (v_4, g_3)
    else
      m_gd (m_is g_3 a0 1) <|
      m_bd (f_Line_at g_3 a0 (x1 + 1)) fun v_8 g_7 =>
      m_bd (f_Arc_digit g_7 v_8) fun v_10 g_9 =>
      if ((x2 - x1) : Int32) = 2 then
        if (v_10 : Int32) < 0 then
          f_Line_idBetween_69 g_9 
        else
          if (64 : Int32) ≤ ((v_4 * 10) + v_10) then
            f_Line_idBetween_69 g_9 
          else
            f_Line_idBetween_70 g_9 ((v_4 * 10) + v_10)
      else
        f_Line_idBetween_69 g_9 
  else
    some ((-1), g_3)
set_option maxHeartbeats 1000000 in
set_option maxRecDepth 100000 in
theorem c_Line_idBetween (l : Launch) (D : va_G) (B : Nat) (K : Nat → ClassId)  (n : Nat) (g : m_G) (a0 : Nat) (x1 : Int32) (x2 : Int32) (r : Int32) (g' : m_G) (hF : f_Line_idBetween g a0 x1 x2 = some (r, g')) : Met l y_Line_idBetween (Cond.code y_Line_idBetween b_Line_idBetween 6 (some .int) :: m_TB) ({ frames := 1, cells := 0, slots := 0, locals := 21 } : Room) (m_Pc D B K n g [.ref (B + a0), .int x1, .int x2]) (m_Q D B K (some (.int r)) n g') 0 0 (fun q => B ≤ q) := by
  refine m_met (by decide) (Nat.le_of_ble_eq_true rfl) ?_
  intro p e s m args below meth c ls E hr hlk hin hsz S hl
  have E : m_V p m c b_Line_idBetween 6 s args R_Line D K := E
  have hz : s.heap.size + 0 = B + n := hsz
  have hl : lv_has ls 6 [(0, .ref (B + a0)), (1, .int x1), (2, .int x2)] := hl
  have hx := E.1.1
  have hb := E.1.2.1
  have hts := E.1.2.2.2.2
  unfold f_Line_idBetween at hF
  refine lv_aload_n hx hb d_Line_idBetween_0 rfl (lv_at hl 0 rfl) ?_
  refine lv_iload_n hx hb d_Line_idBetween_1 rfl (lv_at hl 1 rfl) ?_
  replace hF := m_gd_inv hF
  obtain ⟨eog_1, hF⟩ := hF
  replace hF := m_bd_inv hF
  obtain ⟨v_2, g_1, eg_1, hF⟩ := hF
  refine m_callV (B := B) (nn := 1) (b := a0) (As := [.int x1]) (rest := []) (v := (some (.int v_2))) E S hz (c_Line_at l D B K n g a0 x1 v_2 g_1 eg_1) qc_Line_at ⟨rfl, rfl⟩ (Or.inl qw_97) qw_98 qw_99 qw_11 (by decide +kernel) ⟨Nat.le_of_ble_eq_true rfl, Nat.le_of_ble_eq_true rfl⟩ eog_1 rfl rfl hl.1 (Nat.le_of_ble_eq_true rfl) d_Line_idBetween_2 ⟨Nat.le_of_ble_eq_true rfl, Nat.le_of_ble_eq_true rfl⟩ (fun H locs S => ?_)
  refine W.eq (g2 := F0 m 5 ls [.int v_2]) rfl ?_
  replace hF := m_bd_inv hF
  obtain ⟨v_4, g_3, eg_3, hF⟩ := hF
  refine m_callS (B := B) (nn := 1) (As := [.int v_2]) (rest := []) (v := (some (.int v_4))) E S hz (c_Arc_digit l D B K n g_1 v_2 v_4 g_3 eg_3) qc_Arc_digit ⟨rfl, rfl⟩ (Or.inr ⟨_, qn_21⟩) qw_106 qw_105 (by decide +kernel) ⟨Nat.le_of_ble_eq_true rfl, Nat.le_of_ble_eq_true rfl⟩ rfl hl.1 (Nat.le_of_ble_eq_true rfl) d_Line_idBetween_5 ⟨Nat.le_of_ble_eq_true rfl, Nat.le_of_ble_eq_true rfl⟩ (fun H locs S => ?_)
  refine W.eq (g2 := F0 m 8 ls [.int v_4]) rfl ?_
  refine lv_istore_n (lv' := [(3, .int v_4), (0, .ref (B + a0)), (1, .int x1), (2, .int x2)]) hx hb d_Line_idBetween_8 rfl hl (by decide) rfl (fun ls hl => ?_)
  refine lv_iload_n hx hb d_Line_idBetween_9 rfl (lv_at hl 0 rfl) ?_
  refine lv_if_ge (tgt := 15) hx hb d_Line_idBetween_10 (by decide) (fun c_5 => ?_) (fun c_5 => ?_)
  · rw [if_pos c_5] at hF
    refine lv_iload_n hx hb d_Line_idBetween_15 rfl (lv_at hl 3 rfl) ?_
    refine lv_iload_n hx hb d_Line_idBetween_16 rfl (lv_at hl 2 rfl) ?_
    refine lv_isub hx hb d_Line_idBetween_17 ?_
    refine lv_iconst (v := 1) hx hb d_Line_idBetween_18 (by decide) ?_
    refine lv_icmp_ne (tgt := 24) hx hb d_Line_idBetween_19 (by decide) (fun c_6 => ?_) (fun c_6 => ?_)
    · rw [if_neg c_6] at hF
      refine lv_aload_n hx hb d_Line_idBetween_24 rfl (lv_at hl 1 rfl) ?_
      refine lv_iload_n hx hb d_Line_idBetween_25 rfl (lv_at hl 2 rfl) ?_
      refine lv_iconst (v := 1) hx hb d_Line_idBetween_26 (by decide) ?_
      refine lv_iadd hx hb d_Line_idBetween_27 ?_
      replace hF := m_gd_inv hF
      obtain ⟨eog_7, hF⟩ := hF
      replace hF := m_bd_inv hF
      obtain ⟨v_8, g_7, eg_7, hF⟩ := hF
      refine m_callV (B := B) (nn := 1) (b := a0) (As := [.int (x1 + 1)]) (rest := []) (v := (some (.int v_8))) E S hz (c_Line_at l D B K n g_3 a0 (x1 + 1) v_8 g_7 eg_7) qc_Line_at ⟨rfl, rfl⟩ (Or.inl qw_97) qw_98 qw_99 qw_11 (by decide +kernel) ⟨Nat.le_of_ble_eq_true rfl, Nat.le_of_ble_eq_true rfl⟩ eog_7 rfl rfl hl.1 (Nat.le_of_ble_eq_true rfl) d_Line_idBetween_28 ⟨Nat.le_of_ble_eq_true rfl, Nat.le_of_ble_eq_true rfl⟩ (fun H locs S => ?_)
      refine W.eq (g2 := F0 m 31 ls [.int v_8]) rfl ?_
      replace hF := m_bd_inv hF
      obtain ⟨v_10, g_9, eg_9, hF⟩ := hF
      refine m_callS (B := B) (nn := 1) (As := [.int v_8]) (rest := []) (v := (some (.int v_10))) E S hz (c_Arc_digit l D B K n g_7 v_8 v_10 g_9 eg_9) qc_Arc_digit ⟨rfl, rfl⟩ (Or.inr ⟨_, qn_21⟩) qw_106 qw_105 (by decide +kernel) ⟨Nat.le_of_ble_eq_true rfl, Nat.le_of_ble_eq_true rfl⟩ rfl hl.1 (Nat.le_of_ble_eq_true rfl) d_Line_idBetween_31 ⟨Nat.le_of_ble_eq_true rfl, Nat.le_of_ble_eq_true rfl⟩ (fun H locs S => ?_)
      refine W.eq (g2 := F0 m 34 ls [.int v_10]) rfl ?_
      refine lv_istore (lv' := [(4, .int v_10), (3, .int v_4), (0, .ref (B + a0)), (1, .int x1), (2, .int x2)]) hx hb d_Line_idBetween_34 hl (by decide) rfl (fun ls hl => ?_)
      refine lv_iload_n hx hb d_Line_idBetween_36 rfl (lv_at hl 1 rfl) ?_
      refine lv_bipush (v := 10) hx hb d_Line_idBetween_37 (by decide) ?_
      refine lv_imul hx hb d_Line_idBetween_39 ?_
      refine lv_iload hx hb d_Line_idBetween_40 (lv_at hl 0 rfl) ?_
      refine lv_iadd hx hb d_Line_idBetween_42 ?_
      refine lv_istore (lv' := [(5, .int ((v_4 * 10) + v_10)), (4, .int v_10), (3, .int v_4), (0, .ref (B + a0)), (1, .int x1), (2, .int x2)]) hx hb d_Line_idBetween_43 hl (by decide) rfl (fun ls hl => ?_)
      refine lv_iload_n hx hb d_Line_idBetween_45 rfl (lv_at hl 5 rfl) ?_
      refine lv_iload_n hx hb d_Line_idBetween_46 rfl (lv_at hl 4 rfl) ?_
      refine lv_isub hx hb d_Line_idBetween_47 ?_
      refine lv_iconst (v := 2) hx hb d_Line_idBetween_48 (by decide) ?_
      refine lv_icmp_ne (tgt := 69) hx hb d_Line_idBetween_49 (by decide) (fun c_11 => ?_) (fun c_11 => ?_)
      · rw [if_neg c_11] at hF
        exact c_Line_idBetween_69 E hr hlk hz _ _ _ hF _ _ S _ (lv_sub hl [] rfl)
      · rw [if_pos c_11] at hF
        refine lv_iload hx hb d_Line_idBetween_52 (lv_at hl 1 rfl) ?_
        refine lv_if_lt (tgt := 69) hx hb d_Line_idBetween_54 (by decide) (fun c_12 => ?_) (fun c_12 => ?_)
        · rw [if_pos c_12] at hF
          exact c_Line_idBetween_69 E hr hlk hz _ _ _ hF _ _ S _ (lv_sub hl [] rfl)
        · rw [if_neg c_12] at hF
          refine lv_iload hx hb d_Line_idBetween_57 (lv_at hl 0 rfl) ?_
          refine lv_bipush (v := 64) hx hb d_Line_idBetween_59 (by decide) ?_
          refine lv_icmp_ge (tgt := 69) hx hb d_Line_idBetween_61 (by decide) (fun c_13 => ?_) (fun c_13 => ?_)
          · rw [if_pos c_13] at hF
            exact c_Line_idBetween_69 E hr hlk hz _ _ _ hF _ _ S _ (lv_sub hl [] rfl)
          · rw [if_neg c_13] at hF
            refine lv_iload hx hb d_Line_idBetween_64 (lv_at hl 0 rfl) ?_
            refine lv_goto (tgt := 70) hx hb d_Line_idBetween_66 (by decide) ?_
            exact c_Line_idBetween_70 E hr hlk hz _ _ _ _ hF _ _ S _ (lv_sub hl [] rfl)
    · rw [if_pos c_6] at hF
      refine lv_iload_n hx hb d_Line_idBetween_22 rfl (lv_at hl 0 rfl) ?_
      cases hF
      exact m_iret E S hz hr hlk d_Line_idBetween_23
  · rw [if_neg c_5] at hF
    refine lv_iconst (v := (-1)) hx hb d_Line_idBetween_13 (by decide) ?_
    cases hF
    exact m_iret E S hz hr hlk d_Line_idBetween_14
section S_Draft_id
variable {p : Program} {l : Launch} {e : Env} {s : State} {m : MethodId} {args : Array Value} {below : List Frame} {meth : Method} {c : Code} {D : va_G} {B n : Nat} {K : Nat → ClassId}
def f_Draft_id_29   (g : m_G) (y0 : Int32) : Option (Int32 × m_G) :=
  some (y0, g)
set_option maxHeartbeats 1000000 in
set_option maxRecDepth 100000 in
theorem c_Draft_id_29 (E : m_V p m c b_Draft_id 2 s args R_Draft D K) (hr : meth.sig.returnType = (some .int)) (hlk : meth.locks = false) (hz : s.heap.size + 0 = B + n)   : ∀ (g : m_G) (y0 : Int32) (r : Int32) (g' : m_G), f_Draft_id_29 g y0 = some (r, g') → ∀ (H : Heap) (locs : List Loc), m_S D B K n g s.heap H locs → ∀ ls : Array Slot, lv_has ls 2 [] → W p l e ({ frames := 3, cells := 0, slots := 0, locals := 66 } : Room) s m args below meth c H locs 0 0 (MQ below (m_Q D B K (some (.int r)) n g') args s 0 0 (fun q => B ≤ q)) (F0 m 29 ls [.int y0]) := by
  have hx := E.1.1
  have hb := E.1.2.1
  have hts := E.1.2.2.2.2
  intro g y0 r g' hF H locs S ls hl
  unfold f_Draft_id_29 at hF
  cases hF
  exact m_iret E S hz hr hlk d_Draft_id_29
end S_Draft_id
def f_Draft_id  (g : m_G) (a0 : Nat) : Option (Int32 × m_G) :=
  (m_gI g a0 2 1).bind fun v_1 =>
  m_gd (m_is g a0 2) <|
  m_bd (f_Draft_header g a0 0 v_1 105) fun v_3 g_2 =>
  match v_3 with
  | none =>
    f_Draft_id_29 g_2 (-1)
  | some a_4 =>
    (m_gI g_2 a_4 1 1).bind fun v_5 =>
    m_gd (m_is g_2 a_4 1) <|
    m_bd (f_Line_idBetween g_2 a_4 2 v_5) fun v_7 g_6 =>
    f_Draft_id_29 g_6 v_7
set_option maxHeartbeats 1000000 in
set_option maxRecDepth 100000 in
theorem c_Draft_id (l : Launch) (D : va_G) (B : Nat) (K : Nat → ClassId)  (n : Nat) (g : m_G) (a0 : Nat) (r : Int32) (g' : m_G) (hF : f_Draft_id g a0 = some (r, g')) : Met l y_Draft_id (Cond.code y_Draft_id b_Draft_id 2 (some .int) :: m_TB) ({ frames := 3, cells := 0, slots := 0, locals := 66 } : Room) (m_Pc D B K n g [.ref (B + a0)]) (m_Q D B K (some (.int r)) n g') 0 0 (fun q => B ≤ q) := by
  refine m_met (by decide) (Nat.le_of_ble_eq_true rfl) ?_
  intro p e s m args below meth c ls E hr hlk hin hsz S hl
  have E : m_V p m c b_Draft_id 2 s args R_Draft D K := E
  have hz : s.heap.size + 0 = B + n := hsz
  have hl : lv_has ls 2 [(0, .ref (B + a0))] := hl
  have hx := E.1.1
  have hb := E.1.2.1
  have hts := E.1.2.2.2.2
  unfold f_Draft_id at hF
  refine lv_aload_n hx hb d_Draft_id_0 rfl (lv_at hl 0 rfl) ?_
  refine lv_iconst (v := 0) hx hb d_Draft_id_1 (by decide) ?_
  refine lv_aload_n hx hb d_Draft_id_2 rfl (lv_at hl 0 rfl) ?_
  replace hF := Option.bind_eq_some_iff.mp hF
  obtain ⟨v_1, ev_1, hF⟩ := hF
  refine m_getI (B := B) (a := a0) E S fd_Draft_size (Or.inl qw_9) ev_1 d_Draft_id_3 ?_
  refine lv_bipush (v := 105) hx hb d_Draft_id_6 (by decide) ?_
  replace hF := m_gd_inv hF
  obtain ⟨eog_2, hF⟩ := hF
  replace hF := m_bd_inv hF
  obtain ⟨v_3, g_2, eg_2, hF⟩ := hF
  refine m_callV (B := B) (nn := 3) (b := a0) (As := [.int 0, .int v_1, .int 105]) (rest := []) (v := (some (m_r B v_3))) E S hz (c_Draft_header l D B K n g a0 0 v_1 105 v_3 g_2 eg_2) qc_Draft_header ⟨rfl, rfl⟩ (Or.inl qw_107) qw_108 qw_109 qw_57 (by decide +kernel) ⟨Nat.le_of_ble_eq_true rfl, Nat.le_of_ble_eq_true rfl⟩ eog_2 rfl rfl hl.1 (Nat.le_of_ble_eq_true rfl) d_Draft_id_8 ⟨Nat.le_of_ble_eq_true rfl, Nat.le_of_ble_eq_true rfl⟩ (fun H locs S => ?_)
  refine W.eq (g2 := F0 m 11 ls [m_r B v_3]) rfl ?_
  refine m_astore_n (B := B) (r := v_3) (lv' := [(1, m_r B v_3), (0, .ref (B + a0))]) E d_Draft_id_11 rfl hl (by decide) rfl (fun ls hl => ?_)
  refine m_aload_n (B := B) (r := v_3) E d_Draft_id_12 rfl (lv_at hl 0 rfl) ?_
  refine m_ifnonnull (B := B) (r := v_3) (tgt := 20) E d_Draft_id_13 (by decide) (fun a_4 ea_4 => ?_) (fun ea_4 => ?_)
  · subst ea_4
    dsimp only at hF
    refine m_aload_n (B := B) (r := (some a_4)) E d_Draft_id_20 rfl (lv_at hl 0 rfl) ?_
    refine lv_iconst (v := 2) hx hb d_Draft_id_21 (by decide) ?_
    refine m_aload_n (B := B) (r := (some a_4)) E d_Draft_id_22 rfl (lv_at hl 0 rfl) ?_
    replace hF := Option.bind_eq_some_iff.mp hF
    obtain ⟨v_5, ev_5, hF⟩ := hF
    refine m_getI (B := B) (a := a_4) E S fd_Line_length (Or.inr ⟨_, qn_19⟩) ev_5 d_Draft_id_23 ?_
    replace hF := m_gd_inv hF
    obtain ⟨eog_6, hF⟩ := hF
    replace hF := m_bd_inv hF
    obtain ⟨v_7, g_6, eg_6, hF⟩ := hF
    refine m_callV (B := B) (nn := 2) (b := a_4) (As := [.int 2, .int v_5]) (rest := []) (v := (some (.int v_7))) E S hz (c_Line_idBetween l D B K n g_2 a_4 2 v_5 v_7 g_6 eg_6) qc_Line_idBetween ⟨rfl, rfl⟩ (Or.inr ⟨_, qn_22⟩) qw_110 qw_111 qw_11 (by decide +kernel) ⟨Nat.le_of_ble_eq_true rfl, Nat.le_of_ble_eq_true rfl⟩ eog_6 rfl rfl hl.1 (Nat.le_of_ble_eq_true rfl) d_Draft_id_26 ⟨Nat.le_of_ble_eq_true rfl, Nat.le_of_ble_eq_true rfl⟩ (fun H locs S => ?_)
    refine W.eq (g2 := F0 m 29 ls [.int v_7]) rfl ?_
    exact c_Draft_id_29 E hr hlk hz _ _ _ _ hF _ _ S _ (lv_sub hl [] rfl)
  · subst ea_4
    dsimp only at hF
    refine lv_iconst (v := (-1)) hx hb d_Draft_id_16 (by decide) ?_
    refine lv_goto (tgt := 29) hx hb d_Draft_id_17 (by decide) ?_
    exact c_Draft_id_29 E hr hlk hz _ _ _ _ hF _ _ S _ (lv_sub hl [] rfl)
section S_Arc_numberForDraft
variable {p : Program} {l : Launch} {e : Env} {s : State} {m : MethodId} {args : Array Value} {below : List Frame} {meth : Method} {c : Code} {D : va_G} {B n : Nat} {K : Nat → ClassId}
def f_Arc_numberForDraft_27   : Nat → m_G → Nat → Int32 → Option (Int32 × m_G)
  | 0, _, _, _ => none
  | fu + 1, g, a0, x2 =>
    if (12 : Int32) ≤ x2 then
      some ((-2), g)
    else
      (m_gR g a0 0 5).bind fun v_2 =>
      Option.bind v_2 fun a_3 =>
      (m_ldR g a_3 5 x2).bind fun v_4 =>
      Option.bind v_4 fun a_5 =>
      (m_gI g a_5 4 3).bind fun v_6 =>
      if (v_6 : Int32) = 0 then
        some (x2, g)
      else
        f_Arc_numberForDraft_27 fu g a0 (x2 + 1)
set_option maxHeartbeats 1000000 in
set_option maxRecDepth 100000 in
theorem c_Arc_numberForDraft_27 (E : m_V p m c b_Arc_numberForDraft 3 s args R_Arc D K) (hr : meth.sig.returnType = (some .int)) (hlk : meth.locks = false) (hz : s.heap.size + 0 = B + n)   : ∀ fu : Nat, ∀ (g : m_G) (a0 : Nat) (x2 : Int32) (r : Int32) (g' : m_G), f_Arc_numberForDraft_27  fu g a0 x2 = some (r, g') → ∀ (H : Heap) (locs : List Loc), m_S D B K n g s.heap H locs → ∀ ls : Array Slot, lv_has ls 3 [(0, .ref (B + a0)), (2, .int x2)] → W p l e ({ frames := 4, cells := 0, slots := 0, locals := 87 } : Room) s m args below meth c H locs 0 0 (MQ below (m_Q D B K (some (.int r)) n g') args s 0 0 (fun q => B ≤ q)) (F0 m 27 ls []) := by
  have hx := E.1.1
  have hb := E.1.2.1
  have hts := E.1.2.2.2.2
  intro fu
  induction fu with
  | zero => intro g a0 x2 r g' hF; cases hF
  | succ fu ih =>
    intro g a0 x2 r g' hF H locs S ls hl
    rw [f_Arc_numberForDraft_27] at hF
    refine lv_iload_n hx hb d_Arc_numberForDraft_27 rfl (lv_at hl 1 rfl) ?_
    refine lv_bipush (v := 12) hx hb d_Arc_numberForDraft_28 (by decide) ?_
    refine lv_icmp_ge (tgt := 53) hx hb d_Arc_numberForDraft_30 (by decide) (fun c_1 => ?_) (fun c_1 => ?_)
    · rw [if_pos c_1] at hF
      refine lv_bipush (v := (-2)) hx hb d_Arc_numberForDraft_53 (by decide) ?_
      cases hF
      exact m_iret E S hz hr hlk d_Arc_numberForDraft_55
    · rw [if_neg c_1] at hF
      refine lv_aload_n hx hb d_Arc_numberForDraft_33 rfl (lv_at hl 0 rfl) ?_
      replace hF := Option.bind_eq_some_iff.mp hF
      obtain ⟨v_2, ev_2, hF⟩ := hF
      refine m_getR (B := B) (a := a0) E S fd_Arc_messages (Or.inl qw_75) ev_2 d_Arc_numberForDraft_34 ?_
      refine lv_iload_n hx hb d_Arc_numberForDraft_37 rfl (lv_at hl 1 rfl) ?_
      replace hF := Option.bind_eq_some_iff.mp hF
      obtain ⟨a_3, ea_3, hF⟩ := hF
      subst ea_3
      replace hF := Option.bind_eq_some_iff.mp hF
      obtain ⟨v_4, ev_4, hF⟩ := hF
      refine m_aald (B := B) (a := a_3) (t := 5) E S rfl ev_4 d_Arc_numberForDraft_38 ?_
      replace hF := Option.bind_eq_some_iff.mp hF
      obtain ⟨a_5, ea_5, hF⟩ := hF
      subst ea_5
      replace hF := Option.bind_eq_some_iff.mp hF
      obtain ⟨v_6, ev_6, hF⟩ := hF
      refine m_getI (B := B) (a := a_5) E S fd_Message_there (Or.inr ⟨_, qn_17⟩) ev_6 d_Arc_numberForDraft_39 ?_
      refine lv_if_ne (tgt := 47) hx hb d_Arc_numberForDraft_42 (by decide) (fun c_7 => ?_) (fun c_7 => ?_)
      · rw [if_neg c_7] at hF
        refine lv_iinc (v := (x2 + 1)) (lv' := [(2, .int (x2 + 1)), (0, .ref (B + a0))]) hx hb d_Arc_numberForDraft_47 hl (k := 1) rfl rfl (by decide) rfl (fun ls hl => ?_)
        refine lv_goto (tgt := 27) hx hb d_Arc_numberForDraft_50 (by decide) ?_
        exact ih _ _ _ _ _ hF _ _ S _ (lv_sub hl [1, 0] rfl)
      · rw [if_pos c_7] at hF
        refine lv_iload_n hx hb d_Arc_numberForDraft_45 rfl (lv_at hl 1 rfl) ?_
        cases hF
        exact m_iret E S hz hr hlk d_Arc_numberForDraft_46
end S_Arc_numberForDraft
def f_Arc_numberForDraft  (g : m_G) (a0 : Nat) : Option (Int32 × m_G) :=
  (m_gR g a0 0 1).bind fun v_1 =>
  Option.bind v_1 fun a_2 =>
  m_gd (m_is g a_2 2) <|
  m_bd (f_Draft_id g a_2) fun v_4 g_3 =>
  if (0 : Int32) ≤ v_4 then
    m_gd (m_is g_3 a0 0) <|
    m_bd (f_Arc_numberWithId g_3 a0 v_4) fun v_7 g_6 =>
    if (v_7 : Int32) < 0 then
      f_Arc_numberForDraft_27 m_fu g_6 a0 0
    else
      some ((-1), g_6)
  else
    some ((-3), g_3)
set_option maxHeartbeats 1000000 in
set_option maxRecDepth 100000 in
theorem c_Arc_numberForDraft (l : Launch) (D : va_G) (B : Nat) (K : Nat → ClassId)  (n : Nat) (g : m_G) (a0 : Nat) (r : Int32) (g' : m_G) (hF : f_Arc_numberForDraft g a0 = some (r, g')) : Met l y_Arc_numberForDraft (Cond.code y_Arc_numberForDraft b_Arc_numberForDraft 3 (some .int) :: m_TB) ({ frames := 4, cells := 0, slots := 0, locals := 87 } : Room) (m_Pc D B K n g [.ref (B + a0)]) (m_Q D B K (some (.int r)) n g') 0 0 (fun q => B ≤ q) := by
  refine m_met (by decide) (Nat.le_of_ble_eq_true rfl) ?_
  intro p e s m args below meth c ls E hr hlk hin hsz S hl
  have E : m_V p m c b_Arc_numberForDraft 3 s args R_Arc D K := E
  have hz : s.heap.size + 0 = B + n := hsz
  have hl : lv_has ls 3 [(0, .ref (B + a0))] := hl
  have hx := E.1.1
  have hb := E.1.2.1
  have hts := E.1.2.2.2.2
  unfold f_Arc_numberForDraft at hF
  refine lv_aload_n hx hb d_Arc_numberForDraft_0 rfl (lv_at hl 0 rfl) ?_
  replace hF := Option.bind_eq_some_iff.mp hF
  obtain ⟨v_1, ev_1, hF⟩ := hF
  refine m_getR (B := B) (a := a0) E S fd_Arc_draft (Or.inl qw_59) ev_1 d_Arc_numberForDraft_1 ?_
  replace hF := Option.bind_eq_some_iff.mp hF
  obtain ⟨a_2, ea_2, hF⟩ := hF
  subst ea_2
  replace hF := m_gd_inv hF
  obtain ⟨eog_3, hF⟩ := hF
  replace hF := m_bd_inv hF
  obtain ⟨v_4, g_3, eg_3, hF⟩ := hF
  refine m_callV (B := B) (nn := 0) (b := a_2) (As := []) (rest := []) (v := (some (.int v_4))) E S hz (c_Draft_id l D B K n g a_2 v_4 g_3 eg_3) qc_Draft_id ⟨rfl, rfl⟩ (Or.inr ⟨_, qn_23⟩) qw_112 qw_113 qw_57 (by decide +kernel) ⟨Nat.le_of_ble_eq_true rfl, Nat.le_of_ble_eq_true rfl⟩ eog_3 rfl rfl hl.1 (Nat.le_of_ble_eq_true rfl) d_Arc_numberForDraft_4 ⟨Nat.le_of_ble_eq_true rfl, Nat.le_of_ble_eq_true rfl⟩ (fun H locs S => ?_)
  refine W.eq (g2 := F0 m 7 ls [.int v_4]) rfl ?_
  refine lv_istore_n (lv' := [(1, .int v_4), (0, .ref (B + a0))]) hx hb d_Arc_numberForDraft_7 rfl hl (by decide) rfl (fun ls hl => ?_)
  refine lv_iload_n hx hb d_Arc_numberForDraft_8 rfl (lv_at hl 0 rfl) ?_
  refine lv_if_ge (tgt := 15) hx hb d_Arc_numberForDraft_9 (by decide) (fun c_5 => ?_) (fun c_5 => ?_)
  · rw [if_pos c_5] at hF
    refine lv_aload_n hx hb d_Arc_numberForDraft_15 rfl (lv_at hl 1 rfl) ?_
    refine lv_iload_n hx hb d_Arc_numberForDraft_16 rfl (lv_at hl 0 rfl) ?_
    replace hF := m_gd_inv hF
    obtain ⟨eog_6, hF⟩ := hF
    replace hF := m_bd_inv hF
    obtain ⟨v_7, g_6, eg_6, hF⟩ := hF
    refine m_callV (B := B) (nn := 1) (b := a0) (As := [.int v_4]) (rest := []) (v := (some (.int v_7))) E S hz (c_Arc_numberWithId l D B K n g_3 a0 v_4 v_7 g_6 eg_6) qc_Arc_numberWithId ⟨rfl, rfl⟩ (Or.inl qw_114) qw_115 qw_116 qw_105 (by decide +kernel) ⟨Nat.le_of_ble_eq_true rfl, Nat.le_of_ble_eq_true rfl⟩ eog_6 rfl rfl hl.1 (Nat.le_of_ble_eq_true rfl) d_Arc_numberForDraft_17 ⟨Nat.le_of_ble_eq_true rfl, Nat.le_of_ble_eq_true rfl⟩ (fun H locs S => ?_)
    refine W.eq (g2 := F0 m 20 ls [.int v_7]) rfl ?_
    refine lv_if_lt (tgt := 25) hx hb d_Arc_numberForDraft_20 (by decide) (fun c_8 => ?_) (fun c_8 => ?_)
    · rw [if_pos c_8] at hF
      refine lv_iconst (v := 0) hx hb d_Arc_numberForDraft_25 (by decide) ?_
      refine lv_istore_n (lv' := [(2, .int 0), (1, .int v_4), (0, .ref (B + a0))]) hx hb d_Arc_numberForDraft_26 rfl hl (by decide) rfl (fun ls hl => ?_)
      exact c_Arc_numberForDraft_27 E hr hlk hz m_fu _ _ _ _ _ hF _ _ S _ (lv_sub hl [2, 0] rfl)
    · rw [if_neg c_8] at hF
      refine lv_iconst (v := (-1)) hx hb d_Arc_numberForDraft_23 (by decide) ?_
      cases hF
      exact m_iret E S hz hr hlk d_Arc_numberForDraft_24
  · rw [if_neg c_5] at hF
    refine lv_bipush (v := (-3)) hx hb d_Arc_numberForDraft_12 (by decide) ?_
    cases hF
    exact m_iret E S hz hr hlk d_Arc_numberForDraft_14
