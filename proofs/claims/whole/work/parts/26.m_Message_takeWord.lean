section S_Message_takeWord
variable {p : Program} {l : Launch} {e : Env} {s : State} {m : MethodId} {args : Array Value} {below : List Frame} {meth : Method} {c : Code} {D : va_G} {B n : Nat} {K : Nat → ClassId}
def f_Message_takeWord_49   (g : m_G) (r1 : Option Nat) : Option (Unit × m_G) :=
  Option.bind r1 fun a_1 =>
  m_gd (m_is g a_1 3) <|
  m_bd (f_Letters_clear g a_1) fun v_3 g_2 =>
  some ((), g_2)
set_option maxHeartbeats 1000000 in
set_option maxRecDepth 100000 in
theorem c_Message_takeWord_49 (E : m_V p m c b_Message_takeWord 3 s args R_Message D K) (hr : meth.sig.returnType = none) (hlk : meth.locks = false) (hz : s.heap.size + 0 = B + n)   : ∀ (g : m_G) (r1 : Option Nat) (r : Unit) (g' : m_G), f_Message_takeWord_49 g r1 = some (r, g') → ∀ (H : Heap) (locs : List Loc), m_S D B K n g s.heap H locs → ∀ ls : Array Slot, lv_has ls 3 [(1, m_r B r1)] → W p l e ({ frames := 1, cells := 0, slots := 0, locals := 20 } : Room) s m args below meth c H locs 0 0 (MQ below (m_Q D B K none n g') args s 0 0 (fun q => B ≤ q)) (F0 m 49 ls []) := by
  have hx := E.1.1
  have hb := E.1.2.1
  have hts := E.1.2.2.2.2
  intro g r1 r g' hF H locs S ls hl
  unfold f_Message_takeWord_49 at hF
  refine m_aload_n (B := B) (r := r1) E d_Message_takeWord_49 rfl (lv_at hl 0 rfl) ?_
  replace hF := Option.bind_eq_some_iff.mp hF
  obtain ⟨a_1, ea_1, hF⟩ := hF
  subst ea_1
  replace hF := m_gd_inv hF
  obtain ⟨eog_2, hF⟩ := hF
  replace hF := m_bd_inv hF
  obtain ⟨v_3, g_2, eg_2, hF⟩ := hF
  refine m_callV (B := B) (nn := 0) (b := a_1) (As := []) (rest := []) (v := none) E S hz (c_Letters_clear l D B K n g a_1 v_3 g_2 eg_2) qc_Letters_clear ⟨rfl, rfl⟩ (Or.inr ⟨_, qn_34⟩) qw_133 qw_134 qw_31 (by decide +kernel) ⟨Nat.le_of_ble_eq_true rfl, Nat.le_of_ble_eq_true rfl⟩ eog_2 rfl rfl hl.1 (Nat.le_of_ble_eq_true rfl) d_Message_takeWord_50 ⟨Nat.le_of_ble_eq_true rfl, Nat.le_of_ble_eq_true rfl⟩ (fun H locs S => ?_)
  refine W.eq (g2 := F0 m 53 ls []) rfl ?_
  cases hF
  skip
  exact m_vret E S hz hr hlk d_Message_takeWord_53
end S_Message_takeWord
def f_Message_takeWord  (g : m_G) (a0 : Nat) (r1 : Option Nat) (x2 : Int32) : Option (Unit × m_G) :=
  Option.bind r1 fun a_1 =>
  (m_gI g a_1 3 1).bind fun v_2 =>
  if (v_2 : Int32) ≤ 0 then
    f_Message_takeWord_49 g (some a_1)
  else
    (m_gI g a0 4 6).bind fun v_4 =>
    if (50 : Int32) ≤ v_4 then
      f_Message_takeWord_49 g (some a_1)
    else
      (m_gR g a0 4 1).bind fun v_6 =>
      (m_gI g a0 4 6).bind fun v_7 =>
      (m_gL g a_1 3 0).bind fun v_8 =>
      Option.bind v_6 fun a_9 =>
      (m_stL g a_9 2 v_7 v_8).bind fun g_10 =>
      (m_gR g_10 a0 4 2).bind fun v_11 =>
      (m_gI g_10 a0 4 6).bind fun v_12 =>
      Option.bind v_11 fun a_13 =>
      (m_st g_10 a_13 0 v_12 x2).bind fun g_14 =>
      (m_gI g_14 a0 4 6).bind fun v_15 =>
      (m_pI g_14 a0 4 6 (v_15 + 1)).bind fun g_16 =>
      f_Message_takeWord_49 g_16 (some a_1)
set_option maxHeartbeats 1000000 in
set_option maxRecDepth 100000 in
theorem c_Message_takeWord (l : Launch) (D : va_G) (B : Nat) (K : Nat → ClassId)  (n : Nat) (g : m_G) (a0 : Nat) (r1 : Option Nat) (x2 : Int32) (r : Unit) (g' : m_G) (hF : f_Message_takeWord g a0 r1 x2 = some (r, g')) : Met l y_Message_takeWord (Cond.code y_Message_takeWord b_Message_takeWord 3 none :: m_TB) ({ frames := 1, cells := 0, slots := 0, locals := 20 } : Room) (m_Pc D B K n g [.ref (B + a0), m_r B r1, .int x2]) (m_Q D B K none n g') 0 0 (fun q => B ≤ q) := by
  refine m_met (by decide) (by simp only [lg_sl, List.flatMap_cons, List.flatMap_nil, m_r_cat]; exact Nat.le_of_ble_eq_true rfl) ?_
  intro p e s m args below meth c ls E hr hlk hin hsz S hl
  have E : m_V p m c b_Message_takeWord 3 s args R_Message D K := E
  have hz : s.heap.size + 0 = B + n := hsz
  have hl : lv_has ls 3 [(0, .ref (B + a0)), (1, m_r B r1), (2, .int x2)] := by simp only [lv_args, m_r_cat] at hl; exact hl
  have hx := E.1.1
  have hb := E.1.2.1
  have hts := E.1.2.2.2.2
  unfold f_Message_takeWord at hF
  refine m_aload_n (B := B) (r := r1) E d_Message_takeWord_0 rfl (lv_at hl 1 rfl) ?_
  replace hF := Option.bind_eq_some_iff.mp hF
  obtain ⟨a_1, ea_1, hF⟩ := hF
  subst ea_1
  replace hF := Option.bind_eq_some_iff.mp hF
  obtain ⟨v_2, ev_2, hF⟩ := hF
  refine m_getI (B := B) (a := a_1) E S fd_Letters_number (Or.inr ⟨_, qn_32⟩) ev_2 d_Message_takeWord_1 ?_
  refine lv_if_le (tgt := 49) hx hb d_Message_takeWord_4 (by decide) (fun c_3 => ?_) (fun c_3 => ?_)
  · rw [if_pos c_3] at hF
    exact c_Message_takeWord_49 E hr hlk hz _ _ _ _ hF _ _ S _ (lv_sub hl [1] rfl)
  · rw [if_neg c_3] at hF
    refine lv_aload_n hx hb d_Message_takeWord_7 rfl (lv_at hl 0 rfl) ?_
    replace hF := Option.bind_eq_some_iff.mp hF
    obtain ⟨v_4, ev_4, hF⟩ := hF
    refine m_getI (B := B) (a := a0) E S fd_Message_wordCount (Or.inl qw_22) ev_4 d_Message_takeWord_8 ?_
    refine lv_bipush (v := 50) hx hb d_Message_takeWord_11 (by decide) ?_
    refine lv_icmp_ge (tgt := 49) hx hb d_Message_takeWord_13 (by decide) (fun c_5 => ?_) (fun c_5 => ?_)
    · rw [if_pos c_5] at hF
      exact c_Message_takeWord_49 E hr hlk hz _ _ _ _ hF _ _ S _ (lv_sub hl [1] rfl)
    · rw [if_neg c_5] at hF
      refine lv_aload_n hx hb d_Message_takeWord_16 rfl (lv_at hl 0 rfl) ?_
      replace hF := Option.bind_eq_some_iff.mp hF
      obtain ⟨v_6, ev_6, hF⟩ := hF
      refine m_getR (B := B) (a := a0) E S fd_Message_codes (Or.inl qw_17) ev_6 d_Message_takeWord_17 ?_
      refine lv_aload_n hx hb d_Message_takeWord_20 rfl (lv_at hl 0 rfl) ?_
      replace hF := Option.bind_eq_some_iff.mp hF
      obtain ⟨v_7, ev_7, hF⟩ := hF
      refine m_getI (B := B) (a := a0) E S fd_Message_wordCount (Or.inl qw_22) ev_7 d_Message_takeWord_21 ?_
      refine m_aload_n (B := B) (r := (some a_1)) E d_Message_takeWord_24 rfl (lv_at hl 1 rfl) ?_
      replace hF := Option.bind_eq_some_iff.mp hF
      obtain ⟨v_8, ev_8, hF⟩ := hF
      refine m_getL (B := B) (a := a_1) E S fd_Letters_code (Or.inr ⟨_, qn_33⟩) ev_8 d_Message_takeWord_25 ?_
      replace hF := Option.bind_eq_some_iff.mp hF
      obtain ⟨a_9, ea_9, hF⟩ := hF
      subst ea_9
      replace hF := Option.bind_eq_some_iff.mp hF
      obtain ⟨g_10, eg_10, hF⟩ := hF
      refine m_last (B := B) (a := a_9) (t := 2) E S rfl eg_10 d_Message_takeWord_28 (fun H locs S => ?_)
      refine lv_aload_n hx hb d_Message_takeWord_29 rfl (lv_at hl 0 rfl) ?_
      replace hF := Option.bind_eq_some_iff.mp hF
      obtain ⟨v_11, ev_11, hF⟩ := hF
      refine m_getR (B := B) (a := a0) E S fd_Message_fields (Or.inl qw_18) ev_11 d_Message_takeWord_30 ?_
      refine lv_aload_n hx hb d_Message_takeWord_33 rfl (lv_at hl 0 rfl) ?_
      replace hF := Option.bind_eq_some_iff.mp hF
      obtain ⟨v_12, ev_12, hF⟩ := hF
      refine m_getI (B := B) (a := a0) E S fd_Message_wordCount (Or.inl qw_22) ev_12 d_Message_takeWord_34 ?_
      refine lv_iload_n hx hb d_Message_takeWord_37 rfl (lv_at hl 2 rfl) ?_
      replace hF := Option.bind_eq_some_iff.mp hF
      obtain ⟨a_13, ea_13, hF⟩ := hF
      subst ea_13
      replace hF := Option.bind_eq_some_iff.mp hF
      obtain ⟨g_14, eg_14, hF⟩ := hF
      refine m_iast (B := B) (a := a_13) (t := 0) E S rfl eg_14 d_Message_takeWord_38 (fun H locs S => ?_)
      refine lv_aload_n hx hb d_Message_takeWord_39 rfl (lv_at hl 0 rfl) ?_
      refine lv_dup hx hb d_Message_takeWord_40 rfl ?_
      replace hF := Option.bind_eq_some_iff.mp hF
      obtain ⟨v_15, ev_15, hF⟩ := hF
      refine m_getI (B := B) (a := a0) E S fd_Message_wordCount (Or.inl qw_22) ev_15 d_Message_takeWord_41 ?_
      refine lv_iconst (v := 1) hx hb d_Message_takeWord_44 (by decide) ?_
      refine lv_iadd hx hb d_Message_takeWord_45 ?_
      replace hF := Option.bind_eq_some_iff.mp hF
      obtain ⟨g_16, eg_16, hF⟩ := hF
      refine m_putI (B := B) (a := a0) E S fd_Message_wordCount (Or.inl qw_22) eg_16 d_Message_takeWord_46 (fun H locs S => ?_)
      exact c_Message_takeWord_49 E hr hlk hz _ _ _ _ hF _ _ S _ (lv_sub hl [1] rfl)
section S_Reader_readLine
variable {p : Program} {l : Launch} {e : Env} {s : State} {m : MethodId} {args : Array Value} {below : List Frame} {meth : Method} {c : Code} {D : va_G} {B n : Nat} {K : Nat → ClassId}
def f_Reader_readLine_50  (k_3 : m_G → Nat → Option Nat → Option Nat → Int32 → Int32 → Option (Unit × m_G)) (g : m_G) (a0 : Nat) (r1 : Option Nat) (r3 : Option Nat) (x4 : Int32) (x5 : Int32) : Option (Unit × m_G) :=
  k_3 g a0 r1 r3 x4 (x5 + 1)
set_option maxHeartbeats 1000000 in
set_option maxRecDepth 100000 in
theorem c_Reader_readLine_50 (E : m_V p m c b_Reader_readLine 7 s args R_Reader D K) (hr : meth.sig.returnType = none) (hlk : meth.locks = false) (hz : s.heap.size + 0 = B + n)  (k_3 : m_G → Nat → Option Nat → Option Nat → Int32 → Int32 → Option (Unit × m_G)) (hk_3 : ∀ (g : m_G) (a0 : Nat) (r1 : Option Nat) (r3 : Option Nat) (x4 : Int32) (x5 : Int32) (r : Unit) (g' : m_G), k_3 g a0 r1 r3 x4 x5 = some (r, g') → ∀ (H : Heap) (locs : List Loc), m_S D B K n g s.heap H locs → ∀ ls : Array Slot, lv_has ls 7 [(0, .ref (B + a0)), (1, m_r B r1), (3, m_r B r3), (4, .int x4), (5, .int x5)] → W p l e ({ frames := 2, cells := 0, slots := 0, locals := 42 } : Room) s m args below meth c H locs 0 0 (MQ below (m_Q D B K none n g') args s 0 0 (fun q => B ≤ q)) (F0 m 3 ls [])) : ∀ (g : m_G) (a0 : Nat) (r1 : Option Nat) (r3 : Option Nat) (x4 : Int32) (x5 : Int32) (r : Unit) (g' : m_G), f_Reader_readLine_50 k_3 g a0 r1 r3 x4 x5 = some (r, g') → ∀ (H : Heap) (locs : List Loc), m_S D B K n g s.heap H locs → ∀ ls : Array Slot, lv_has ls 7 [(0, .ref (B + a0)), (1, m_r B r1), (3, m_r B r3), (4, .int x4), (5, .int x5)] → W p l e ({ frames := 2, cells := 0, slots := 0, locals := 42 } : Room) s m args below meth c H locs 0 0 (MQ below (m_Q D B K none n g') args s 0 0 (fun q => B ≤ q)) (F0 m 50 ls []) := by
  have hx := E.1.1
  have hb := E.1.2.1
  have hts := E.1.2.2.2.2
  intro g a0 r1 r3 x4 x5 r g' hF H locs S ls hl
  unfold f_Reader_readLine_50 at hF
  refine lv_iinc (v := (x5 + 1)) (lv' := [(5, .int (x5 + 1)), (0, .ref (B + a0)), (1, m_r B r1), (3, m_r B r3), (4, .int x4)]) hx hb d_Reader_readLine_50 hl (k := 4) rfl rfl (by decide) rfl (fun ls hl => ?_)
  refine lv_goto (tgt := 3) hx hb d_Reader_readLine_53 (by decide) ?_
  exact hk_3 _ _ _ _ _ _ _ _ hF _ _ S _ (lv_sub hl [1, 2, 3, 4, 0] rfl)
def f_Reader_readLine_3   : Nat → m_G → Nat → Option Nat → Option Nat → Int32 → Int32 → Option (Unit × m_G)
  | 0, _, _, _, _, _, _ => none
  | fu + 1, g, a0, r1, r3, x4, x5 =>
    Option.bind r1 fun a_1 =>
    (m_gI g a_1 1 1).bind fun v_2 =>
    if (v_2 : Int32) ≤ x5 then
      (m_gR g a0 5 0).bind fun v_4 =>
      Option.bind r3 fun a_5 =>
      m_gd (m_is g a_5 4) <|
      m_bd (f_Message_takeWord g a_5 v_4 x4) fun v_7 g_6 =>
      some ((), g_6)
    else
      m_gd (m_is g a_1 1) <|
      m_bd (f_Line_at g a_1 x5) fun v_9 g_8 =>
      m_bd (f_Arc_letter g_8 v_9) fun v_11 g_10 =>
      if (v_11 : Int32) ≤ 0 then
        (m_gR g_10 a0 5 0).bind fun v_13 =>
        Option.bind r3 fun a_14 =>
        m_gd (m_is g_10 a_14 4) <|
        m_bd (f_Message_takeWord g_10 a_14 v_13 x4) fun v_16 g_15 =>
        f_Reader_readLine_50 (f_Reader_readLine_3 fu) g_15 a0 (some a_1) (some a_14) x4 x5
      else
        (m_gR g_10 a0 5 0).bind fun v_17 =>
        Option.bind v_17 fun a_18 =>
        m_gd (m_is g_10 a_18 3) <|
        m_bd (f_Letters_put g_10 a_18 v_11) fun v_20 g_19 =>
        f_Reader_readLine_50 (f_Reader_readLine_3 fu) g_19 a0 (some a_1) r3 x4 x5
set_option maxHeartbeats 1000000 in
set_option maxRecDepth 100000 in
theorem c_Reader_readLine_3 (E : m_V p m c b_Reader_readLine 7 s args R_Reader D K) (hr : meth.sig.returnType = none) (hlk : meth.locks = false) (hz : s.heap.size + 0 = B + n)   : ∀ fu : Nat, ∀ (g : m_G) (a0 : Nat) (r1 : Option Nat) (r3 : Option Nat) (x4 : Int32) (x5 : Int32) (r : Unit) (g' : m_G), f_Reader_readLine_3  fu g a0 r1 r3 x4 x5 = some (r, g') → ∀ (H : Heap) (locs : List Loc), m_S D B K n g s.heap H locs → ∀ ls : Array Slot, lv_has ls 7 [(0, .ref (B + a0)), (1, m_r B r1), (3, m_r B r3), (4, .int x4), (5, .int x5)] → W p l e ({ frames := 2, cells := 0, slots := 0, locals := 42 } : Room) s m args below meth c H locs 0 0 (MQ below (m_Q D B K none n g') args s 0 0 (fun q => B ≤ q)) (F0 m 3 ls []) := by
  have hx := E.1.1
  have hb := E.1.2.1
  have hts := E.1.2.2.2.2
  intro fu
  induction fu with
  | zero => intro g a0 r1 r3 x4 x5 r g' hF; cases hF
  | succ fu ih =>
    intro g a0 r1 r3 x4 x5 r g' hF H locs S ls hl
    rw [f_Reader_readLine_3] at hF
    refine lv_iload hx hb d_Reader_readLine_3 (lv_at hl 4 rfl) ?_
    refine m_aload_n (B := B) (r := r1) E d_Reader_readLine_5 rfl (lv_at hl 1 rfl) ?_
    replace hF := Option.bind_eq_some_iff.mp hF
    obtain ⟨a_1, ea_1, hF⟩ := hF
    subst ea_1
    replace hF := Option.bind_eq_some_iff.mp hF
    obtain ⟨v_2, ev_2, hF⟩ := hF
    refine m_getI (B := B) (a := a_1) E S fd_Line_length (Or.inr ⟨_, qn_35⟩) ev_2 d_Reader_readLine_6 ?_
    refine lv_icmp_ge (tgt := 56) hx hb d_Reader_readLine_9 (by decide) (fun c_3 => ?_) (fun c_3 => ?_)
    · rw [if_pos c_3] at hF
      refine m_aload_n (B := B) (r := r3) E d_Reader_readLine_56 rfl (lv_at hl 2 rfl) ?_
      refine lv_aload_n hx hb d_Reader_readLine_57 rfl (lv_at hl 0 rfl) ?_
      replace hF := Option.bind_eq_some_iff.mp hF
      obtain ⟨v_4, ev_4, hF⟩ := hF
      refine m_getR (B := B) (a := a0) E S fd_Reader_letters (Or.inl qw_33) ev_4 d_Reader_readLine_58 ?_
      refine lv_iload hx hb d_Reader_readLine_61 (lv_at hl 3 rfl) ?_
      replace hF := Option.bind_eq_some_iff.mp hF
      obtain ⟨a_5, ea_5, hF⟩ := hF
      subst ea_5
      replace hF := m_gd_inv hF
      obtain ⟨eog_6, hF⟩ := hF
      replace hF := m_bd_inv hF
      obtain ⟨v_7, g_6, eg_6, hF⟩ := hF
      refine m_callV (B := B) (nn := 2) (b := a_5) (As := [m_r B v_4, .int x4]) (rest := []) (v := none) E S hz (c_Message_takeWord l D B K n g a_5 v_4 x4 v_7 g_6 eg_6) qc_Message_takeWord ⟨rfl, rfl⟩ (Or.inr ⟨_, qn_36⟩) qw_135 qw_136 qw_77 (by decide +kernel) ⟨Nat.le_of_ble_eq_true rfl, Nat.le_of_ble_eq_true rfl⟩ eog_6 rfl rfl hl.1 (Nat.le_of_ble_eq_true rfl) d_Reader_readLine_63 ⟨Nat.le_of_ble_eq_true rfl, Nat.le_of_ble_eq_true rfl⟩ (fun H locs S => ?_)
      refine W.eq (g2 := F0 m 66 ls []) rfl ?_
      cases hF
      skip
      exact m_vret E S hz hr hlk d_Reader_readLine_66
    · rw [if_neg c_3] at hF
      refine m_aload_n (B := B) (r := (some a_1)) E d_Reader_readLine_12 rfl (lv_at hl 1 rfl) ?_
      refine lv_iload hx hb d_Reader_readLine_13 (lv_at hl 4 rfl) ?_
      replace hF := m_gd_inv hF
      obtain ⟨eog_8, hF⟩ := hF
      replace hF := m_bd_inv hF
      obtain ⟨v_9, g_8, eg_8, hF⟩ := hF
      refine m_callV (B := B) (nn := 1) (b := a_1) (As := [.int x5]) (rest := []) (v := (some (.int v_9))) E S hz (c_Line_at l D B K n g a_1 x5 v_9 g_8 eg_8) qc_Line_at ⟨rfl, rfl⟩ (Or.inr ⟨_, qn_37⟩) qw_98 qw_99 qw_11 (by decide +kernel) ⟨Nat.le_of_ble_eq_true rfl, Nat.le_of_ble_eq_true rfl⟩ eog_8 rfl rfl hl.1 (Nat.le_of_ble_eq_true rfl) d_Reader_readLine_15 ⟨Nat.le_of_ble_eq_true rfl, Nat.le_of_ble_eq_true rfl⟩ (fun H locs S => ?_)
      refine W.eq (g2 := F0 m 18 ls [.int v_9]) rfl ?_
      replace hF := m_bd_inv hF
      obtain ⟨v_11, g_10, eg_10, hF⟩ := hF
      refine m_callS (B := B) (nn := 1) (As := [.int v_9]) (rest := []) (v := (some (.int v_11))) E S hz (c_Arc_letter l D B K n g_8 v_9 v_11 g_10 eg_10) qc_Arc_letter ⟨rfl, rfl⟩ (Or.inr ⟨_, qn_38⟩) qw_137 qw_105 (by decide +kernel) ⟨Nat.le_of_ble_eq_true rfl, Nat.le_of_ble_eq_true rfl⟩ rfl hl.1 (Nat.le_of_ble_eq_true rfl) d_Reader_readLine_18 ⟨Nat.le_of_ble_eq_true rfl, Nat.le_of_ble_eq_true rfl⟩ (fun H locs S => ?_)
      refine W.eq (g2 := F0 m 21 ls [.int v_11]) rfl ?_
      refine lv_istore (lv' := [(6, .int v_11), (0, .ref (B + a0)), (1, m_r B (some a_1)), (3, m_r B r3), (4, .int x4), (5, .int x5)]) hx hb d_Reader_readLine_21 hl (by decide) rfl (fun ls hl => ?_)
      refine lv_iload hx hb d_Reader_readLine_23 (lv_at hl 0 rfl) ?_
      refine lv_if_le (tgt := 40) hx hb d_Reader_readLine_25 (by decide) (fun c_12 => ?_) (fun c_12 => ?_)
      · rw [if_pos c_12] at hF
        refine m_aload_n (B := B) (r := r3) E d_Reader_readLine_40 rfl (lv_at hl 3 rfl) ?_
        refine lv_aload_n hx hb d_Reader_readLine_41 rfl (lv_at hl 1 rfl) ?_
        replace hF := Option.bind_eq_some_iff.mp hF
        obtain ⟨v_13, ev_13, hF⟩ := hF
        refine m_getR (B := B) (a := a0) E S fd_Reader_letters (Or.inl qw_33) ev_13 d_Reader_readLine_42 ?_
        refine lv_iload hx hb d_Reader_readLine_45 (lv_at hl 4 rfl) ?_
        replace hF := Option.bind_eq_some_iff.mp hF
        obtain ⟨a_14, ea_14, hF⟩ := hF
        subst ea_14
        replace hF := m_gd_inv hF
        obtain ⟨eog_15, hF⟩ := hF
        replace hF := m_bd_inv hF
        obtain ⟨v_16, g_15, eg_15, hF⟩ := hF
        refine m_callV (B := B) (nn := 2) (b := a_14) (As := [m_r B v_13, .int x4]) (rest := []) (v := none) E S hz (c_Message_takeWord l D B K n g_10 a_14 v_13 x4 v_16 g_15 eg_15) qc_Message_takeWord ⟨rfl, rfl⟩ (Or.inr ⟨_, qn_36⟩) qw_135 qw_136 qw_77 (by decide +kernel) ⟨Nat.le_of_ble_eq_true rfl, Nat.le_of_ble_eq_true rfl⟩ eog_15 rfl rfl hl.1 (Nat.le_of_ble_eq_true rfl) d_Reader_readLine_47 ⟨Nat.le_of_ble_eq_true rfl, Nat.le_of_ble_eq_true rfl⟩ (fun H locs S => ?_)
        refine W.eq (g2 := F0 m 50 ls []) rfl ?_
        exact c_Reader_readLine_50 E hr hlk hz (f_Reader_readLine_3 fu) ih _ _ _ _ _ _ _ _ hF _ _ S _ (lv_sub hl [1, 2, 3, 4, 5] rfl)
      · rw [if_neg c_12] at hF
        refine lv_aload_n hx hb d_Reader_readLine_28 rfl (lv_at hl 1 rfl) ?_
        replace hF := Option.bind_eq_some_iff.mp hF
        obtain ⟨v_17, ev_17, hF⟩ := hF
        refine m_getR (B := B) (a := a0) E S fd_Reader_letters (Or.inl qw_33) ev_17 d_Reader_readLine_29 ?_
        refine lv_iload hx hb d_Reader_readLine_32 (lv_at hl 0 rfl) ?_
        replace hF := Option.bind_eq_some_iff.mp hF
        obtain ⟨a_18, ea_18, hF⟩ := hF
        subst ea_18
        replace hF := m_gd_inv hF
        obtain ⟨eog_19, hF⟩ := hF
        replace hF := m_bd_inv hF
        obtain ⟨v_20, g_19, eg_19, hF⟩ := hF
        refine m_callV (B := B) (nn := 1) (b := a_18) (As := [.int v_11]) (rest := []) (v := none) E S hz (c_Letters_put l D B K n g_10 a_18 v_11 v_20 g_19 eg_19) qc_Letters_put ⟨rfl, rfl⟩ (Or.inr ⟨_, qn_39⟩) qw_138 qw_139 qw_31 (by decide +kernel) ⟨Nat.le_of_ble_eq_true rfl, Nat.le_of_ble_eq_true rfl⟩ eog_19 rfl rfl hl.1 (Nat.le_of_ble_eq_true rfl) d_Reader_readLine_34 ⟨Nat.le_of_ble_eq_true rfl, Nat.le_of_ble_eq_true rfl⟩ (fun H locs S => ?_)
        refine W.eq (g2 := F0 m 37 ls []) rfl ?_
        refine lv_goto (tgt := 50) hx hb d_Reader_readLine_37 (by decide) ?_
        exact c_Reader_readLine_50 E hr hlk hz (f_Reader_readLine_3 fu) ih _ _ _ _ _ _ _ _ hF _ _ S _ (lv_sub hl [1, 2, 3, 4, 5] rfl)
end S_Reader_readLine
def f_Reader_readLine  (g : m_G) (a0 : Nat) (r1 : Option Nat) (x2 : Int32) (r3 : Option Nat) (x4 : Int32) : Option (Unit × m_G) :=
  f_Reader_readLine_3 m_fu g a0 r1 r3 x4 x2
set_option maxHeartbeats 1000000 in
set_option maxRecDepth 100000 in
theorem c_Reader_readLine (l : Launch) (D : va_G) (B : Nat) (K : Nat → ClassId)  (n : Nat) (g : m_G) (a0 : Nat) (r1 : Option Nat) (x2 : Int32) (r3 : Option Nat) (x4 : Int32) (r : Unit) (g' : m_G) (hF : f_Reader_readLine g a0 r1 x2 r3 x4 = some (r, g')) : Met l y_Reader_readLine (Cond.code y_Reader_readLine b_Reader_readLine 7 none :: m_TB) ({ frames := 2, cells := 0, slots := 0, locals := 42 } : Room) (m_Pc D B K n g [.ref (B + a0), m_r B r1, .int x2, m_r B r3, .int x4]) (m_Q D B K none n g') 0 0 (fun q => B ≤ q) := by
  refine m_met (by decide) (by simp only [lg_sl, List.flatMap_cons, List.flatMap_nil, m_r_cat]; exact Nat.le_of_ble_eq_true rfl) ?_
  intro p e s m args below meth c ls E hr hlk hin hsz S hl
  have E : m_V p m c b_Reader_readLine 7 s args R_Reader D K := E
  have hz : s.heap.size + 0 = B + n := hsz
  have hl : lv_has ls 7 [(0, .ref (B + a0)), (1, m_r B r1), (2, .int x2), (3, m_r B r3), (4, .int x4)] := by simp only [lv_args, m_r_cat] at hl; exact hl
  have hx := E.1.1
  have hb := E.1.2.1
  have hts := E.1.2.2.2.2
  unfold f_Reader_readLine at hF
  refine lv_iload_n hx hb d_Reader_readLine_0 rfl (lv_at hl 2 rfl) ?_
  refine lv_istore (lv' := [(5, .int x2), (0, .ref (B + a0)), (1, m_r B r1), (2, .int x2), (3, m_r B r3), (4, .int x4)]) hx hb d_Reader_readLine_1 hl (by decide) rfl (fun ls hl => ?_)
  exact c_Reader_readLine_3 E hr hlk hz m_fu _ _ _ _ _ _ _ _ hF _ _ S _ (lv_sub hl [1, 2, 4, 5, 0] rfl)
section S_Reader_readHeader
variable {p : Program} {l : Launch} {e : Env} {s : State} {m : MethodId} {args : Array Value} {below : List Frame} {meth : Method} {c : Code} {D : va_G} {B n : Nat} {K : Nat → ClassId}
def f_Reader_readHeader_12   (g : m_G)  : Option (Unit × m_G) :=
  some ((), g)
set_option maxHeartbeats 1000000 in
set_option maxRecDepth 100000 in
theorem c_Reader_readHeader_12 (E : m_V p m c b_Reader_readHeader 4 s args R_Reader D K) (hr : meth.sig.returnType = none) (hlk : meth.locks = false) (hz : s.heap.size + 0 = B + n)   : ∀ (g : m_G)  (r : Unit) (g' : m_G), f_Reader_readHeader_12 g  = some (r, g') → ∀ (H : Heap) (locs : List Loc), m_S D B K n g s.heap H locs → ∀ ls : Array Slot, lv_has ls 4 [] → W p l e ({ frames := 3, cells := 0, slots := 0, locals := 68 } : Room) s m args below meth c H locs 0 0 (MQ below (m_Q D B K none n g') args s 0 0 (fun q => B ≤ q)) (F0 m 12 ls []) := by
  have hx := E.1.1
  have hb := E.1.2.1
  have hts := E.1.2.2.2.2
  intro g  r g' hF H locs S ls hl
  unfold f_Reader_readHeader_12 at hF
  cases hF
  skip
  exact m_vret E S hz hr hlk d_Reader_readHeader_12
end S_Reader_readHeader
def f_Reader_readHeader  (g : m_G) (a0 : Nat) (r1 : Option Nat) (r2 : Option Nat) (x3 : Int32) : Option (Unit × m_G) :=
  match r1 with
  | none =>
    f_Reader_readHeader_12 g 
  | some a_1 =>
    m_gd (m_is g a0 5) <|
    m_bd (f_Reader_readLine g a0 (some a_1) 2 r2 x3) fun v_3 g_2 =>
    f_Reader_readHeader_12 g_2 
set_option maxHeartbeats 1000000 in
set_option maxRecDepth 100000 in
theorem c_Reader_readHeader (l : Launch) (D : va_G) (B : Nat) (K : Nat → ClassId)  (n : Nat) (g : m_G) (a0 : Nat) (r1 : Option Nat) (r2 : Option Nat) (x3 : Int32) (r : Unit) (g' : m_G) (hF : f_Reader_readHeader g a0 r1 r2 x3 = some (r, g')) : Met l y_Reader_readHeader (Cond.code y_Reader_readHeader b_Reader_readHeader 4 none :: m_TB) ({ frames := 3, cells := 0, slots := 0, locals := 68 } : Room) (m_Pc D B K n g [.ref (B + a0), m_r B r1, m_r B r2, .int x3]) (m_Q D B K none n g') 0 0 (fun q => B ≤ q) := by
  refine m_met (by decide) (by simp only [lg_sl, List.flatMap_cons, List.flatMap_nil, m_r_cat]; exact Nat.le_of_ble_eq_true rfl) ?_
  intro p e s m args below meth c ls E hr hlk hin hsz S hl
  have E : m_V p m c b_Reader_readHeader 4 s args R_Reader D K := E
  have hz : s.heap.size + 0 = B + n := hsz
  have hl : lv_has ls 4 [(0, .ref (B + a0)), (1, m_r B r1), (2, m_r B r2), (3, .int x3)] := by simp only [lv_args, m_r_cat] at hl; exact hl
  have hx := E.1.1
  have hb := E.1.2.1
  have hts := E.1.2.2.2.2
  unfold f_Reader_readHeader at hF
  refine m_aload_n (B := B) (r := r1) E d_Reader_readHeader_0 rfl (lv_at hl 1 rfl) ?_
  refine m_ifnull (B := B) (r := r1) (tgt := 12) E d_Reader_readHeader_1 (by decide) (fun ea_1 => ?_) (fun a_1 ea_1 => ?_)
  · subst ea_1
    dsimp only at hF
    exact c_Reader_readHeader_12 E hr hlk hz _ _ _ hF _ _ S _ (lv_sub hl [] rfl)
  · subst ea_1
    dsimp only at hF
    refine lv_aload_n hx hb d_Reader_readHeader_4 rfl (lv_at hl 0 rfl) ?_
    refine m_aload_n (B := B) (r := (some a_1)) E d_Reader_readHeader_5 rfl (lv_at hl 1 rfl) ?_
    refine lv_iconst (v := 2) hx hb d_Reader_readHeader_6 (by decide) ?_
    refine m_aload_n (B := B) (r := r2) E d_Reader_readHeader_7 rfl (lv_at hl 2 rfl) ?_
    refine lv_iload_n hx hb d_Reader_readHeader_8 rfl (lv_at hl 3 rfl) ?_
    replace hF := m_gd_inv hF
    obtain ⟨eog_2, hF⟩ := hF
    replace hF := m_bd_inv hF
    obtain ⟨v_3, g_2, eg_2, hF⟩ := hF
    refine m_callV (B := B) (nn := 4) (b := a0) (As := [m_r B (some a_1), .int 2, m_r B r2, .int x3]) (rest := []) (v := none) E S hz (c_Reader_readLine l D B K n g a0 (some a_1) 2 r2 x3 v_3 g_2 eg_2) qc_Reader_readLine ⟨rfl, rfl⟩ (Or.inl qw_140) qw_141 qw_142 qw_62 (by decide +kernel) ⟨Nat.le_of_ble_eq_true rfl, Nat.le_of_ble_eq_true rfl⟩ eog_2 rfl rfl hl.1 (Nat.le_of_ble_eq_true rfl) d_Reader_readHeader_9 ⟨Nat.le_of_ble_eq_true rfl, Nat.le_of_ble_eq_true rfl⟩ (fun H locs S => ?_)
    refine W.eq (g2 := F0 m 12 ls []) rfl ?_
    exact c_Reader_readHeader_12 E hr hlk hz _ _ _ hF _ _ S _ (lv_sub hl [] rfl)
def f_Draft_bodyStart  (g : m_G) (a0 : Nat) (x1 : Int32) (x2 : Int32) : Option (Int32 × m_G) :=
  m_gd (m_is g a0 2) <|
  m_bd (f_Draft_headersEnd g a0 x1 x2) fun v_2 g_1 =>
  some ((if (x2 : Int32) < (v_2 + 1) then x2 else (v_2 + 1)), g_1)
set_option maxHeartbeats 1000000 in
set_option maxRecDepth 100000 in
theorem c_Draft_bodyStart (l : Launch) (D : va_G) (B : Nat) (K : Nat → ClassId)  (n : Nat) (g : m_G) (a0 : Nat) (x1 : Int32) (x2 : Int32) (r : Int32) (g' : m_G) (hF : f_Draft_bodyStart g a0 x1 x2 = some (r, g')) : Met l y_Draft_bodyStart (Cond.code y_Draft_bodyStart b_Draft_bodyStart 3 (some .int) :: m_TB) ({ frames := 1, cells := 0, slots := 0, locals := 24 } : Room) (m_Pc D B K n g [.ref (B + a0), .int x1, .int x2]) (m_Q D B K (some (.int r)) n g') 0 0 (fun q => B ≤ q) := by
  refine m_met (by decide) (Nat.le_of_ble_eq_true rfl) ?_
  intro p e s m args below meth c ls E hr hlk hin hsz S hl
  have E : m_V p m c b_Draft_bodyStart 3 s args R_Draft D K := E
  have hz : s.heap.size + 0 = B + n := hsz
  have hl : lv_has ls 3 [(0, .ref (B + a0)), (1, .int x1), (2, .int x2)] := hl
  have hx := E.1.1
  have hb := E.1.2.1
  have hts := E.1.2.2.2.2
  unfold f_Draft_bodyStart at hF
  refine lv_aload_n hx hb d_Draft_bodyStart_0 rfl (lv_at hl 0 rfl) ?_
  refine lv_iload_n hx hb d_Draft_bodyStart_1 rfl (lv_at hl 1 rfl) ?_
  refine lv_iload_n hx hb d_Draft_bodyStart_2 rfl (lv_at hl 2 rfl) ?_
  replace hF := m_gd_inv hF
  obtain ⟨eog_1, hF⟩ := hF
  replace hF := m_bd_inv hF
  obtain ⟨v_2, g_1, eg_1, hF⟩ := hF
  refine m_callV (B := B) (nn := 2) (b := a0) (As := [.int x1, .int x2]) (rest := []) (v := (some (.int v_2))) E S hz (c_Draft_headersEnd l D B K n g a0 x1 x2 v_2 g_1 eg_1) qc_Draft_headersEnd ⟨rfl, rfl⟩ (Or.inl qw_100) qw_101 qw_102 qw_57 (by decide +kernel) ⟨Nat.le_of_ble_eq_true rfl, Nat.le_of_ble_eq_true rfl⟩ eog_1 rfl rfl hl.1 (Nat.le_of_ble_eq_true rfl) d_Draft_bodyStart_3 ⟨Nat.le_of_ble_eq_true rfl, Nat.le_of_ble_eq_true rfl⟩ (fun H locs S => ?_)
  refine W.eq (g2 := F0 m 6 ls [.int v_2]) rfl ?_
  refine lv_iconst (v := 1) hx hb d_Draft_bodyStart_6 (by decide) ?_
  refine lv_iadd hx hb d_Draft_bodyStart_7 ?_
  refine lv_iload_n hx hb d_Draft_bodyStart_8 rfl (lv_at hl 2 rfl) ?_
  refine va_mmin hx hb (E.1.2.2.1.trans hl.1.symm) E.1.2.2.2.1 (hts _ qw_143) (hts _ qw_144) (hts _ qw_145) (hts _ qc_Math_min) (Nat.le_of_ble_eq_true rfl) (Nat.le_of_ble_eq_true rfl) (Nat.zero_le _) (Nat.zero_le _) d_Draft_bodyStart_9 ?_
  cases hF
  exact m_iret E S hz hr hlk d_Draft_bodyStart_12
section S_Arc_hexDigit
variable {p : Program} {l : Launch} {e : Env} {s : State} {m : MethodId} {args : Array Value} {below : List Frame} {meth : Method} {c : Code} {D : va_G} {B n : Nat} {K : Nat → ClassId}
def f_Arc_hexDigit_40   (g : m_G) (x0 : Int32) : Option (Int32 × m_G) :=
  m_bd (f_Arc_digit g x0) fun v_2 g_1 =>
  some (v_2, g_1)
set_option maxHeartbeats 1000000 in
set_option maxRecDepth 100000 in
theorem c_Arc_hexDigit_40 (E : m_V p m c b_Arc_hexDigit 1 s args R_Arc D K) (hr : meth.sig.returnType = (some .int)) (hlk : meth.locks = false) (hz : s.heap.size + 0 = B + n)   : ∀ (g : m_G) (x0 : Int32) (r : Int32) (g' : m_G), f_Arc_hexDigit_40 g x0 = some (r, g') → ∀ (H : Heap) (locs : List Loc), m_S D B K n g s.heap H locs → ∀ ls : Array Slot, lv_has ls 1 [(0, .int x0)] → W p l e ({ frames := 1, cells := 0, slots := 0, locals := 20 } : Room) s m args below meth c H locs 0 0 (MQ below (m_Q D B K (some (.int r)) n g') args s 0 0 (fun q => B ≤ q)) (F0 m 40 ls []) := by
  have hx := E.1.1
  have hb := E.1.2.1
  have hts := E.1.2.2.2.2
  intro g x0 r g' hF H locs S ls hl
  unfold f_Arc_hexDigit_40 at hF
  refine lv_iload_n hx hb d_Arc_hexDigit_40 rfl (lv_at hl 0 rfl) ?_
  replace hF := m_bd_inv hF
  obtain ⟨v_2, g_1, eg_1, hF⟩ := hF
  refine m_callS (B := B) (nn := 1) (As := [.int x0]) (rest := []) (v := (some (.int v_2))) E S hz (c_Arc_digit l D B K n g x0 v_2 g_1 eg_1) qc_Arc_digit ⟨rfl, rfl⟩ (Or.inl qw_146) qw_106 qw_105 (by decide +kernel) ⟨Nat.le_of_ble_eq_true rfl, Nat.le_of_ble_eq_true rfl⟩ rfl hl.1 (Nat.le_of_ble_eq_true rfl) d_Arc_hexDigit_41 ⟨Nat.le_of_ble_eq_true rfl, Nat.le_of_ble_eq_true rfl⟩ (fun H locs S => ?_)
  refine W.eq (g2 := F0 m 44 ls [.int v_2]) rfl ?_
  cases hF
  exact m_iret E S hz hr hlk d_Arc_hexDigit_44
def f_Arc_hexDigit_20   (g : m_G) (x0 : Int32) : Option (Int32 × m_G) :=
  if (x0 : Int32) < 65 then
    f_Arc_hexDigit_40 g x0
  else
    if (70 : Int32) < x0 then
      f_Arc_hexDigit_40 g x0
    else
      some (((x0 - 65) + 10), g)
set_option maxHeartbeats 1000000 in
set_option maxRecDepth 100000 in
theorem c_Arc_hexDigit_20 (E : m_V p m c b_Arc_hexDigit 1 s args R_Arc D K) (hr : meth.sig.returnType = (some .int)) (hlk : meth.locks = false) (hz : s.heap.size + 0 = B + n)   : ∀ (g : m_G) (x0 : Int32) (r : Int32) (g' : m_G), f_Arc_hexDigit_20 g x0 = some (r, g') → ∀ (H : Heap) (locs : List Loc), m_S D B K n g s.heap H locs → ∀ ls : Array Slot, lv_has ls 1 [(0, .int x0)] → W p l e ({ frames := 1, cells := 0, slots := 0, locals := 20 } : Room) s m args below meth c H locs 0 0 (MQ below (m_Q D B K (some (.int r)) n g') args s 0 0 (fun q => B ≤ q)) (F0 m 20 ls []) := by
  have hx := E.1.1
  have hb := E.1.2.1
  have hts := E.1.2.2.2.2
  intro g x0 r g' hF H locs S ls hl
  unfold f_Arc_hexDigit_20 at hF
  refine lv_iload_n hx hb d_Arc_hexDigit_20 rfl (lv_at hl 0 rfl) ?_
  refine lv_bipush (v := 65) hx hb d_Arc_hexDigit_21 (by decide) ?_
  refine lv_icmp_lt (tgt := 40) hx hb d_Arc_hexDigit_23 (by decide) (fun c_1 => ?_) (fun c_1 => ?_)
  · rw [if_pos c_1] at hF
    exact c_Arc_hexDigit_40 E hr hlk hz _ _ _ _ hF _ _ S _ (lv_sub hl [0] rfl)
  · rw [if_neg c_1] at hF
    refine lv_iload_n hx hb d_Arc_hexDigit_26 rfl (lv_at hl 0 rfl) ?_
    refine lv_bipush (v := 70) hx hb d_Arc_hexDigit_27 (by decide) ?_
    refine lv_icmp_gt (tgt := 40) hx hb d_Arc_hexDigit_29 (by decide) (fun c_2 => ?_) (fun c_2 => ?_)
    · rw [if_pos c_2] at hF
      exact c_Arc_hexDigit_40 E hr hlk hz _ _ _ _ hF _ _ S _ (lv_sub hl [0] rfl)
    · rw [if_neg c_2] at hF
      refine lv_iload_n hx hb d_Arc_hexDigit_32 rfl (lv_at hl 0 rfl) ?_
      refine lv_bipush (v := 65) hx hb d_Arc_hexDigit_33 (by decide) ?_
      refine lv_isub hx hb d_Arc_hexDigit_35 ?_
      refine lv_bipush (v := 10) hx hb d_Arc_hexDigit_36 (by decide) ?_
      refine lv_iadd hx hb d_Arc_hexDigit_38 ?_
      cases hF
      exact m_iret E S hz hr hlk d_Arc_hexDigit_39
end S_Arc_hexDigit
def f_Arc_hexDigit  (g : m_G) (x0 : Int32) : Option (Int32 × m_G) :=
  if (x0 : Int32) < 97 then
    f_Arc_hexDigit_20 g x0
  else
    if (102 : Int32) < x0 then
      f_Arc_hexDigit_20 g x0
    else
      some (((x0 - 97) + 10), g)
set_option maxHeartbeats 1000000 in
set_option maxRecDepth 100000 in
theorem c_Arc_hexDigit (l : Launch) (D : va_G) (B : Nat) (K : Nat → ClassId)  (n : Nat) (g : m_G) (x0 : Int32) (r : Int32) (g' : m_G) (hF : f_Arc_hexDigit g x0 = some (r, g')) : Met l y_Arc_hexDigit (Cond.code y_Arc_hexDigit b_Arc_hexDigit 1 (some .int) :: m_TB) ({ frames := 1, cells := 0, slots := 0, locals := 20 } : Room) (m_Pc D B K n g [.int x0]) (m_Q D B K (some (.int r)) n g') 0 0 (fun q => B ≤ q) := by
  refine m_met (by decide) (Nat.le_of_ble_eq_true rfl) ?_
  intro p e s m args below meth c ls E hr hlk hin hsz S hl
  have E : m_V p m c b_Arc_hexDigit 1 s args R_Arc D K := E
  have hz : s.heap.size + 0 = B + n := hsz
  have hl : lv_has ls 1 [(0, .int x0)] := hl
  have hx := E.1.1
  have hb := E.1.2.1
  have hts := E.1.2.2.2.2
  unfold f_Arc_hexDigit at hF
  refine lv_iload_n hx hb d_Arc_hexDigit_0 rfl (lv_at hl 0 rfl) ?_
  refine lv_bipush (v := 97) hx hb d_Arc_hexDigit_1 (by decide) ?_
  refine lv_icmp_lt (tgt := 20) hx hb d_Arc_hexDigit_3 (by decide) (fun c_1 => ?_) (fun c_1 => ?_)
  · rw [if_pos c_1] at hF
    exact c_Arc_hexDigit_20 E hr hlk hz _ _ _ _ hF _ _ S _ (lv_sub hl [0] rfl)
  · rw [if_neg c_1] at hF
    refine lv_iload_n hx hb d_Arc_hexDigit_6 rfl (lv_at hl 0 rfl) ?_
    refine lv_bipush (v := 102) hx hb d_Arc_hexDigit_7 (by decide) ?_
    refine lv_icmp_gt (tgt := 20) hx hb d_Arc_hexDigit_9 (by decide) (fun c_2 => ?_) (fun c_2 => ?_)
    · rw [if_pos c_2] at hF
      exact c_Arc_hexDigit_20 E hr hlk hz _ _ _ _ hF _ _ S _ (lv_sub hl [0] rfl)
    · rw [if_neg c_2] at hF
      refine lv_iload_n hx hb d_Arc_hexDigit_12 rfl (lv_at hl 0 rfl) ?_
      refine lv_bipush (v := 97) hx hb d_Arc_hexDigit_13 (by decide) ?_
      refine lv_isub hx hb d_Arc_hexDigit_15 ?_
      refine lv_bipush (v := 10) hx hb d_Arc_hexDigit_16 (by decide) ?_
      refine lv_iadd hx hb d_Arc_hexDigit_18 ?_
      cases hF
      exact m_iret E S hz hr hlk d_Arc_hexDigit_19
section S_Reader_decode
variable {p : Program} {l : Launch} {e : Env} {s : State} {m : MethodId} {args : Array Value} {below : List Frame} {meth : Method} {c : Code} {D : va_G} {B n : Nat} {K : Nat → ClassId}
def f_Reader_decode_67  (k_11 : m_G → Nat → Option Nat → Int32 → Int32 → Option (Option Nat × m_G)) (g : m_G) (a0 : Nat) (r1 : Option Nat) (x2 : Int32) (x3 : Int32) : Option (Option Nat × m_G) :=
  k_11 g a0 r1 x2 (x3 + 1)
set_option maxHeartbeats 1000000 in
set_option maxRecDepth 100000 in
theorem c_Reader_decode_67 (E : m_V p m c b_Reader_decode 5 s args R_Reader D K) (hr : meth.sig.returnType = (some (.object "ThreadedArchive$Line"))) (hlk : meth.locks = false) (hz : s.heap.size + 0 = B + n)  (k_11 : m_G → Nat → Option Nat → Int32 → Int32 → Option (Option Nat × m_G)) (hk_11 : ∀ (g : m_G) (a0 : Nat) (r1 : Option Nat) (x2 : Int32) (x3 : Int32) (r : Option Nat) (g' : m_G), k_11 g a0 r1 x2 x3 = some (r, g') → ∀ (H : Heap) (locs : List Loc), m_S D B K n g s.heap H locs → ∀ ls : Array Slot, lv_has ls 5 [(0, .ref (B + a0)), (1, m_r B r1), (2, .int x2), (3, .int x3)] → W p l e ({ frames := 2, cells := 0, slots := 0, locals := 40 } : Room) s m args below meth c H locs 0 0 (MQ below (m_Q D B K (some (m_r B r)) n g') args s 0 0 (fun q => B ≤ q)) (F0 m 11 ls [])) : ∀ (g : m_G) (a0 : Nat) (r1 : Option Nat) (x2 : Int32) (x3 : Int32) (r : Option Nat) (g' : m_G), f_Reader_decode_67 k_11 g a0 r1 x2 x3 = some (r, g') → ∀ (H : Heap) (locs : List Loc), m_S D B K n g s.heap H locs → ∀ ls : Array Slot, lv_has ls 5 [(0, .ref (B + a0)), (1, m_r B r1), (2, .int x2), (3, .int x3)] → W p l e ({ frames := 2, cells := 0, slots := 0, locals := 40 } : Room) s m args below meth c H locs 0 0 (MQ below (m_Q D B K (some (m_r B r)) n g') args s 0 0 (fun q => B ≤ q)) (F0 m 67 ls []) := by
  have hx := E.1.1
  have hb := E.1.2.1
  have hts := E.1.2.2.2.2
  intro g a0 r1 x2 x3 r g' hF H locs S ls hl
  unfold f_Reader_decode_67 at hF
  refine lv_iinc (v := (x3 + 1)) (lv' := [(3, .int (x3 + 1)), (0, .ref (B + a0)), (1, m_r B r1), (2, .int x2)]) hx hb d_Reader_decode_67 hl (k := 3) rfl rfl (by decide) rfl (fun ls hl => ?_)
  refine lv_goto (tgt := 11) hx hb d_Reader_decode_70 (by decide) ?_
  exact hk_11 _ _ _ _ _ _ _ hF _ _ S _ (lv_sub hl [1, 2, 3, 0] rfl)
def f_Reader_decode_44  (k_11 : m_G → Nat → Option Nat → Int32 → Int32 → Option (Option Nat × m_G)) (g : m_G) (a0 : Nat) (r1 : Option Nat) (x2 : Int32) (x3 : Int32) (x4 : Int32) : Option (Option Nat × m_G) :=
  if (x4 : Int32) < 0 then
    f_Reader_decode_67 k_11 g a0 r1 x2 x3
  else
    (m_gR g a0 5 1).bind fun v_2 =>
    Option.bind v_2 fun a_3 =>
    m_gd (m_is g a_3 1) <|
    m_bd (f_Line_put g a_3 (((((x2 * 16) + x4) : Int32).toUInt32 % 65536).toInt32)) fun v_5 g_4 =>
    f_Reader_decode_67 k_11 g_4 a0 r1 (-1) x3
set_option maxHeartbeats 1000000 in
set_option maxRecDepth 100000 in
theorem c_Reader_decode_44 (E : m_V p m c b_Reader_decode 5 s args R_Reader D K) (hr : meth.sig.returnType = (some (.object "ThreadedArchive$Line"))) (hlk : meth.locks = false) (hz : s.heap.size + 0 = B + n)  (k_11 : m_G → Nat → Option Nat → Int32 → Int32 → Option (Option Nat × m_G)) (hk_11 : ∀ (g : m_G) (a0 : Nat) (r1 : Option Nat) (x2 : Int32) (x3 : Int32) (r : Option Nat) (g' : m_G), k_11 g a0 r1 x2 x3 = some (r, g') → ∀ (H : Heap) (locs : List Loc), m_S D B K n g s.heap H locs → ∀ ls : Array Slot, lv_has ls 5 [(0, .ref (B + a0)), (1, m_r B r1), (2, .int x2), (3, .int x3)] → W p l e ({ frames := 2, cells := 0, slots := 0, locals := 40 } : Room) s m args below meth c H locs 0 0 (MQ below (m_Q D B K (some (m_r B r)) n g') args s 0 0 (fun q => B ≤ q)) (F0 m 11 ls [])) : ∀ (g : m_G) (a0 : Nat) (r1 : Option Nat) (x2 : Int32) (x3 : Int32) (x4 : Int32) (r : Option Nat) (g' : m_G), f_Reader_decode_44 k_11 g a0 r1 x2 x3 x4 = some (r, g') → ∀ (H : Heap) (locs : List Loc), m_S D B K n g s.heap H locs → ∀ ls : Array Slot, lv_has ls 5 [(0, .ref (B + a0)), (1, m_r B r1), (2, .int x2), (3, .int x3), (4, .int x4)] → W p l e ({ frames := 2, cells := 0, slots := 0, locals := 40 } : Room) s m args below meth c H locs 0 0 (MQ below (m_Q D B K (some (m_r B r)) n g') args s 0 0 (fun q => B ≤ q)) (F0 m 44 ls []) := by
  have hx := E.1.1
  have hb := E.1.2.1
  have hts := E.1.2.2.2.2
  intro g a0 r1 x2 x3 x4 r g' hF H locs S ls hl
  unfold f_Reader_decode_44 at hF
  refine lv_iload hx hb d_Reader_decode_44 (lv_at hl 4 rfl) ?_
  refine lv_if_lt (tgt := 67) hx hb d_Reader_decode_46 (by decide) (fun c_1 => ?_) (fun c_1 => ?_)
  · rw [if_pos c_1] at hF
    exact c_Reader_decode_67 E hr hlk hz k_11 hk_11 _ _ _ _ _ _ _ hF _ _ S _ (lv_sub hl [0, 1, 2, 3] rfl)
  · rw [if_neg c_1] at hF
    refine lv_aload_n hx hb d_Reader_decode_49 rfl (lv_at hl 0 rfl) ?_
    replace hF := Option.bind_eq_some_iff.mp hF
    obtain ⟨v_2, ev_2, hF⟩ := hF
    refine m_getR (B := B) (a := a0) E S fd_Reader_decoded (Or.inl qw_35) ev_2 d_Reader_decode_50 ?_
    refine lv_iload_n hx hb d_Reader_decode_53 rfl (lv_at hl 2 rfl) ?_
    refine lv_bipush (v := 16) hx hb d_Reader_decode_54 (by decide) ?_
    refine lv_imul hx hb d_Reader_decode_56 ?_
    refine lv_iload hx hb d_Reader_decode_57 (lv_at hl 4 rfl) ?_
    refine lv_iadd hx hb d_Reader_decode_59 ?_
    refine lv_i2c hx hb d_Reader_decode_60 rfl ?_
    replace hF := Option.bind_eq_some_iff.mp hF
    obtain ⟨a_3, ea_3, hF⟩ := hF
    subst ea_3
    replace hF := m_gd_inv hF
    obtain ⟨eog_4, hF⟩ := hF
    replace hF := m_bd_inv hF
    obtain ⟨v_5, g_4, eg_4, hF⟩ := hF
    refine m_callV (B := B) (nn := 1) (b := a_3) (As := [.int (((((x2 * 16) + x4) : Int32).toUInt32 % 65536).toInt32)]) (rest := []) (v := (some (.int v_5))) E S hz (c_Line_put l D B K n g a_3 (((((x2 * 16) + x4) : Int32).toUInt32 % 65536).toInt32) v_5 g_4 eg_4) qc_Line_put ⟨rfl, rfl⟩ (Or.inr ⟨_, qn_42⟩) qw_83 qw_84 qw_11 (by decide +kernel) ⟨Nat.le_of_ble_eq_true rfl, Nat.le_of_ble_eq_true rfl⟩ eog_4 rfl rfl hl.1 (Nat.le_of_ble_eq_true rfl) d_Reader_decode_61 ⟨Nat.le_of_ble_eq_true rfl, Nat.le_of_ble_eq_true rfl⟩ (fun H locs S => ?_)
    refine W.eq (g2 := F0 m 64 ls [.int v_5]) rfl ?_
    refine lv_pop hx hb d_Reader_decode_64 rfl ?_
    refine lv_iconst (v := (-1)) hx hb d_Reader_decode_65 (by decide) ?_
    refine lv_istore_n (lv' := [(2, .int (-1)), (0, .ref (B + a0)), (1, m_r B r1), (3, .int x3), (4, .int x4)]) hx hb d_Reader_decode_66 rfl hl (by decide) (by cases r1 <;> rfl) (fun ls hl => ?_)
    exact c_Reader_decode_67 E hr hlk hz k_11 hk_11 _ _ _ _ _ _ _ hF _ _ S _ (lv_sub hl [1, 2, 0, 3] rfl)
def f_Reader_decode_11   : Nat → m_G → Nat → Option Nat → Int32 → Int32 → Option (Option Nat × m_G)
  | 0, _, _, _, _, _ => none
  | fu + 1, g, a0, r1, x2, x3 =>
    Option.bind r1 fun a_1 =>
    (m_gI g a_1 1 1).bind fun v_2 =>
    if (v_2 : Int32) ≤ x3 then
      (m_gR g a0 5 1).bind fun v_4 =>
      some (v_4, g)
    else
      m_gd (m_is g a_1 1) <|
      m_bd (f_Line_at g a_1 x3) fun v_6 g_5 =>
      m_bd (f_Arc_hexDigit g_5 v_6) fun v_8 g_7 =>
      if (v_8 : Int32) < 0 then
        f_Reader_decode_44 (f_Reader_decode_11 fu) g_7 a0 (some a_1) x2 x3 v_8
      else
        if (0 : Int32) ≤ x2 then
          f_Reader_decode_44 (f_Reader_decode_11 fu) g_7 a0 (some a_1) x2 x3 v_8
        else
          f_Reader_decode_67 (f_Reader_decode_11 fu) g_7 a0 (some a_1) v_8 x3
set_option maxHeartbeats 1000000 in
set_option maxRecDepth 100000 in
theorem c_Reader_decode_11 (E : m_V p m c b_Reader_decode 5 s args R_Reader D K) (hr : meth.sig.returnType = (some (.object "ThreadedArchive$Line"))) (hlk : meth.locks = false) (hz : s.heap.size + 0 = B + n)   : ∀ fu : Nat, ∀ (g : m_G) (a0 : Nat) (r1 : Option Nat) (x2 : Int32) (x3 : Int32) (r : Option Nat) (g' : m_G), f_Reader_decode_11  fu g a0 r1 x2 x3 = some (r, g') → ∀ (H : Heap) (locs : List Loc), m_S D B K n g s.heap H locs → ∀ ls : Array Slot, lv_has ls 5 [(0, .ref (B + a0)), (1, m_r B r1), (2, .int x2), (3, .int x3)] → W p l e ({ frames := 2, cells := 0, slots := 0, locals := 40 } : Room) s m args below meth c H locs 0 0 (MQ below (m_Q D B K (some (m_r B r)) n g') args s 0 0 (fun q => B ≤ q)) (F0 m 11 ls []) := by
  have hx := E.1.1
  have hb := E.1.2.1
  have hts := E.1.2.2.2.2
  intro fu
  induction fu with
  | zero => intro g a0 r1 x2 x3 r g' hF; cases hF
  | succ fu ih =>
    intro g a0 r1 x2 x3 r g' hF H locs S ls hl
    rw [f_Reader_decode_11] at hF
    refine lv_iload_n hx hb d_Reader_decode_11 rfl (lv_at hl 3 rfl) ?_
    refine m_aload_n (B := B) (r := r1) E d_Reader_decode_12 rfl (lv_at hl 1 rfl) ?_
    replace hF := Option.bind_eq_some_iff.mp hF
    obtain ⟨a_1, ea_1, hF⟩ := hF
    subst ea_1
    replace hF := Option.bind_eq_some_iff.mp hF
    obtain ⟨v_2, ev_2, hF⟩ := hF
    refine m_getI (B := B) (a := a_1) E S fd_Line_length (Or.inr ⟨_, qn_35⟩) ev_2 d_Reader_decode_13 ?_
    refine lv_icmp_ge (tgt := 73) hx hb d_Reader_decode_16 (by decide) (fun c_3 => ?_) (fun c_3 => ?_)
    · rw [if_pos c_3] at hF
      refine lv_aload_n hx hb d_Reader_decode_73 rfl (lv_at hl 0 rfl) ?_
      replace hF := Option.bind_eq_some_iff.mp hF
      obtain ⟨v_4, ev_4, hF⟩ := hF
      refine m_getR (B := B) (a := a0) E S fd_Reader_decoded (Or.inl qw_35) ev_4 d_Reader_decode_74 ?_
      cases hF
      exact m_aret E S hz hr (Or.inl ⟨_, rfl⟩) hlk d_Reader_decode_77
    · rw [if_neg c_3] at hF
      refine m_aload_n (B := B) (r := (some a_1)) E d_Reader_decode_19 rfl (lv_at hl 1 rfl) ?_
      refine lv_iload_n hx hb d_Reader_decode_20 rfl (lv_at hl 3 rfl) ?_
      replace hF := m_gd_inv hF
      obtain ⟨eog_5, hF⟩ := hF
      replace hF := m_bd_inv hF
      obtain ⟨v_6, g_5, eg_5, hF⟩ := hF
      refine m_callV (B := B) (nn := 1) (b := a_1) (As := [.int x3]) (rest := []) (v := (some (.int v_6))) E S hz (c_Line_at l D B K n g a_1 x3 v_6 g_5 eg_5) qc_Line_at ⟨rfl, rfl⟩ (Or.inr ⟨_, qn_37⟩) qw_98 qw_99 qw_11 (by decide +kernel) ⟨Nat.le_of_ble_eq_true rfl, Nat.le_of_ble_eq_true rfl⟩ eog_5 rfl rfl hl.1 (Nat.le_of_ble_eq_true rfl) d_Reader_decode_21 ⟨Nat.le_of_ble_eq_true rfl, Nat.le_of_ble_eq_true rfl⟩ (fun H locs S => ?_)
      refine W.eq (g2 := F0 m 24 ls [.int v_6]) rfl ?_
      replace hF := m_bd_inv hF
      obtain ⟨v_8, g_7, eg_7, hF⟩ := hF
      refine m_callS (B := B) (nn := 1) (As := [.int v_6]) (rest := []) (v := (some (.int v_8))) E S hz (c_Arc_hexDigit l D B K n g_5 v_6 v_8 g_7 eg_7) qc_Arc_hexDigit ⟨rfl, rfl⟩ (Or.inr ⟨_, qn_41⟩) qw_147 qw_105 (by decide +kernel) ⟨Nat.le_of_ble_eq_true rfl, Nat.le_of_ble_eq_true rfl⟩ rfl hl.1 (Nat.le_of_ble_eq_true rfl) d_Reader_decode_24 ⟨Nat.le_of_ble_eq_true rfl, Nat.le_of_ble_eq_true rfl⟩ (fun H locs S => ?_)
      refine W.eq (g2 := F0 m 27 ls [.int v_8]) rfl ?_
      refine lv_istore (lv' := [(4, .int v_8), (0, .ref (B + a0)), (1, m_r B (some a_1)), (2, .int x2), (3, .int x3)]) hx hb d_Reader_decode_27 hl (by decide) rfl (fun ls hl => ?_)
      refine lv_iload hx hb d_Reader_decode_29 (lv_at hl 0 rfl) ?_
      refine lv_if_lt (tgt := 44) hx hb d_Reader_decode_31 (by decide) (fun c_9 => ?_) (fun c_9 => ?_)
      · rw [if_pos c_9] at hF
        exact c_Reader_decode_44 E hr hlk hz (f_Reader_decode_11 fu) ih _ _ _ _ _ _ _ _ hF _ _ S _ (lv_sub hl [1, 2, 3, 4, 0] rfl)
      · rw [if_neg c_9] at hF
        refine lv_iload_n hx hb d_Reader_decode_34 rfl (lv_at hl 3 rfl) ?_
        refine lv_if_ge (tgt := 44) hx hb d_Reader_decode_35 (by decide) (fun c_10 => ?_) (fun c_10 => ?_)
        · rw [if_pos c_10] at hF
          exact c_Reader_decode_44 E hr hlk hz (f_Reader_decode_11 fu) ih _ _ _ _ _ _ _ _ hF _ _ S _ (lv_sub hl [1, 2, 3, 4, 0] rfl)
        · rw [if_neg c_10] at hF
          refine lv_iload hx hb d_Reader_decode_38 (lv_at hl 0 rfl) ?_
          refine lv_istore_n (lv' := [(2, .int v_8), (4, .int v_8), (0, .ref (B + a0)), (1, m_r B (some a_1)), (3, .int x3)]) hx hb d_Reader_decode_40 rfl hl (by decide) rfl (fun ls hl => ?_)
          refine lv_goto (tgt := 67) hx hb d_Reader_decode_41 (by decide) ?_
          exact c_Reader_decode_67 E hr hlk hz (f_Reader_decode_11 fu) ih _ _ _ _ _ _ _ hF _ _ S _ (lv_sub hl [2, 3, 0, 4] rfl)
end S_Reader_decode
def f_Reader_decode  (g : m_G) (a0 : Nat) (r1 : Option Nat) : Option (Option Nat × m_G) :=
  (m_gR g a0 5 1).bind fun v_1 =>
  Option.bind v_1 fun a_2 =>
  m_gd (m_is g a_2 1) <|
  m_bd (f_Line_clear g a_2) fun v_4 g_3 =>
  f_Reader_decode_11 m_fu g_3 a0 r1 (-1) 0
set_option maxHeartbeats 1000000 in
set_option maxRecDepth 100000 in
theorem c_Reader_decode (l : Launch) (D : va_G) (B : Nat) (K : Nat → ClassId)  (n : Nat) (g : m_G) (a0 : Nat) (r1 : Option Nat) (r : Option Nat) (g' : m_G) (hF : f_Reader_decode g a0 r1 = some (r, g')) : Met l y_Reader_decode (Cond.code y_Reader_decode b_Reader_decode 5 (some (.object "ThreadedArchive$Line")) :: m_TB) ({ frames := 2, cells := 0, slots := 0, locals := 40 } : Room) (m_Pc D B K n g [.ref (B + a0), m_r B r1]) (m_Q D B K (some (m_r B r)) n g') 0 0 (fun q => B ≤ q) := by
  refine m_met (by decide) (by simp only [lg_sl, List.flatMap_cons, List.flatMap_nil, m_r_cat]; exact Nat.le_of_ble_eq_true rfl) ?_
  intro p e s m args below meth c ls E hr hlk hin hsz S hl
  have E : m_V p m c b_Reader_decode 5 s args R_Reader D K := E
  have hz : s.heap.size + 0 = B + n := hsz
  have hl : lv_has ls 5 [(0, .ref (B + a0)), (1, m_r B r1)] := by simp only [lv_args, m_r_cat] at hl; exact hl
  have hx := E.1.1
  have hb := E.1.2.1
  have hts := E.1.2.2.2.2
  unfold f_Reader_decode at hF
  refine lv_aload_n hx hb d_Reader_decode_0 rfl (lv_at hl 0 rfl) ?_
  replace hF := Option.bind_eq_some_iff.mp hF
  obtain ⟨v_1, ev_1, hF⟩ := hF
  refine m_getR (B := B) (a := a0) E S fd_Reader_decoded (Or.inl qw_35) ev_1 d_Reader_decode_1 ?_
  replace hF := Option.bind_eq_some_iff.mp hF
  obtain ⟨a_2, ea_2, hF⟩ := hF
  subst ea_2
  replace hF := m_gd_inv hF
  obtain ⟨eog_3, hF⟩ := hF
  replace hF := m_bd_inv hF
  obtain ⟨v_4, g_3, eg_3, hF⟩ := hF
  refine m_callV (B := B) (nn := 0) (b := a_2) (As := []) (rest := []) (v := none) E S hz (c_Line_clear l D B K n g a_2 v_4 g_3 eg_3) qc_Line_clear ⟨rfl, rfl⟩ (Or.inr ⟨_, qn_40⟩) qw_93 qw_94 qw_11 (by decide +kernel) ⟨Nat.le_of_ble_eq_true rfl, Nat.le_of_ble_eq_true rfl⟩ eog_3 rfl rfl hl.1 (Nat.le_of_ble_eq_true rfl) d_Reader_decode_4 ⟨Nat.le_of_ble_eq_true rfl, Nat.le_of_ble_eq_true rfl⟩ (fun H locs S => ?_)
  refine W.eq (g2 := F0 m 7 ls []) rfl ?_
  refine lv_iconst (v := (-1)) hx hb d_Reader_decode_7 (by decide) ?_
  refine lv_istore_n (lv' := [(2, .int (-1)), (0, .ref (B + a0)), (1, m_r B r1)]) hx hb d_Reader_decode_8 rfl hl (by decide) (by cases r1 <;> rfl) (fun ls hl => ?_)
  refine lv_iconst (v := 0) hx hb d_Reader_decode_9 (by decide) ?_
  refine lv_istore_n (lv' := [(3, .int 0), (2, .int (-1)), (0, .ref (B + a0)), (1, m_r B r1)]) hx hb d_Reader_decode_10 rfl hl (by decide) rfl (fun ls hl => ?_)
  exact c_Reader_decode_11 E hr hlk hz m_fu _ _ _ _ _ _ _ hF _ _ S _ (lv_sub hl [2, 3, 1, 0] rfl)
section S_Reader_readLeaf
variable {p : Program} {l : Launch} {e : Env} {s : State} {m : MethodId} {args : Array Value} {below : List Frame} {meth : Method} {c : Code} {D : va_G} {B n : Nat} {K : Nat → ClassId}
def f_Reader_readLeaf_78  (k_46 : m_G → Nat → Option Nat → Int32 → Option Nat → Int32 → Int32 → Option (Unit × m_G)) (g : m_G) (a0 : Nat) (r1 : Option Nat) (x3 : Int32) (r5 : Option Nat) (x6 : Int32) (x7 : Int32) (t0 : Option Nat) : Option (Unit × m_G) :=
  m_gd (m_is g a0 5) <|
  m_bd (f_Reader_readLine g a0 t0 0 r5 2) fun v_2 g_1 =>
  k_46 g_1 a0 r1 x3 r5 x6 (x7 + 1)
set_option maxHeartbeats 1000000 in
set_option maxRecDepth 100000 in
theorem c_Reader_readLeaf_78 (E : m_V p m c b_Reader_readLeaf 9 s args R_Reader D K) (hr : meth.sig.returnType = none) (hlk : meth.locks = false) (hz : s.heap.size + 0 = B + n)  (k_46 : m_G → Nat → Option Nat → Int32 → Option Nat → Int32 → Int32 → Option (Unit × m_G)) (hk_46 : ∀ (g : m_G) (a0 : Nat) (r1 : Option Nat) (x3 : Int32) (r5 : Option Nat) (x6 : Int32) (x7 : Int32) (r : Unit) (g' : m_G), k_46 g a0 r1 x3 r5 x6 x7 = some (r, g') → ∀ (H : Heap) (locs : List Loc), m_S D B K n g s.heap H locs → ∀ ls : Array Slot, lv_has ls 9 [(0, .ref (B + a0)), (1, m_r B r1), (3, .int x3), (5, m_r B r5), (6, .int x6), (7, .int x7)] → W p l e ({ frames := 3, cells := 0, slots := 0, locals := 68 } : Room) s m args below meth c H locs 0 0 (MQ below (m_Q D B K none n g') args s 0 0 (fun q => B ≤ q)) (F0 m 46 ls [])) : ∀ (g : m_G) (a0 : Nat) (r1 : Option Nat) (x3 : Int32) (r5 : Option Nat) (x6 : Int32) (x7 : Int32) (t0 : Option Nat) (r : Unit) (g' : m_G), f_Reader_readLeaf_78 k_46 g a0 r1 x3 r5 x6 x7 t0 = some (r, g') → ∀ (H : Heap) (locs : List Loc), m_S D B K n g s.heap H locs → ∀ ls : Array Slot, lv_has ls 9 [(0, .ref (B + a0)), (1, m_r B r1), (3, .int x3), (5, m_r B r5), (6, .int x6), (7, .int x7)] → W p l e ({ frames := 3, cells := 0, slots := 0, locals := 68 } : Room) s m args below meth c H locs 0 0 (MQ below (m_Q D B K none n g') args s 0 0 (fun q => B ≤ q)) (F0 m 78 ls [m_r B t0]) := by
  have hx := E.1.1
  have hb := E.1.2.1
  have hts := E.1.2.2.2.2
  intro g a0 r1 x3 r5 x6 x7 t0 r g' hF H locs S ls hl
  unfold f_Reader_readLeaf_78 at hF
  refine m_astore (B := B) (r := t0) (lv' := [(8, m_r B t0), (0, .ref (B + a0)), (1, m_r B r1), (3, .int x3), (5, m_r B r5), (6, .int x6), (7, .int x7)]) E d_Reader_readLeaf_78 hl (by decide) rfl (fun ls hl => ?_)
  refine lv_aload_n hx hb d_Reader_readLeaf_80 rfl (lv_at hl 1 rfl) ?_
  refine m_aload (B := B) (r := t0) E d_Reader_readLeaf_81 (lv_at hl 0 rfl) ?_
  refine lv_iconst (v := 0) hx hb d_Reader_readLeaf_83 (by decide) ?_
  refine m_aload (B := B) (r := r5) E d_Reader_readLeaf_84 (lv_at hl 4 rfl) ?_
  refine lv_iconst (v := 2) hx hb d_Reader_readLeaf_86 (by decide) ?_
  replace hF := m_gd_inv hF
  obtain ⟨eog_1, hF⟩ := hF
  replace hF := m_bd_inv hF
  obtain ⟨v_2, g_1, eg_1, hF⟩ := hF
  refine m_callV (B := B) (nn := 4) (b := a0) (As := [m_r B t0, .int 0, m_r B r5, .int 2]) (rest := []) (v := none) E S hz (c_Reader_readLine l D B K n g a0 t0 0 r5 2 v_2 g_1 eg_1) qc_Reader_readLine ⟨rfl, rfl⟩ (Or.inl qw_140) qw_141 qw_142 qw_62 (by decide +kernel) ⟨Nat.le_of_ble_eq_true rfl, Nat.le_of_ble_eq_true rfl⟩ eog_1 rfl rfl hl.1 (Nat.le_of_ble_eq_true rfl) d_Reader_readLeaf_87 ⟨Nat.le_of_ble_eq_true rfl, Nat.le_of_ble_eq_true rfl⟩ (fun H locs S => ?_)
  refine W.eq (g2 := F0 m 90 ls []) rfl ?_
  refine lv_iinc (v := (x7 + 1)) (lv' := [(7, .int (x7 + 1)), (8, m_r B t0), (0, .ref (B + a0)), (1, m_r B r1), (3, .int x3), (5, m_r B r5), (6, .int x6)]) hx hb d_Reader_readLeaf_90 hl (k := 6) rfl rfl (by decide) rfl (fun ls hl => ?_)
  refine lv_goto (tgt := 46) hx hb d_Reader_readLeaf_93 (by decide) ?_
  exact hk_46 _ _ _ _ _ _ _ _ _ hF _ _ S _ (lv_sub hl [2, 3, 4, 5, 6, 0] rfl)
def f_Reader_readLeaf_46   : Nat → m_G → Nat → Option Nat → Int32 → Option Nat → Int32 → Int32 → Option (Unit × m_G)
  | 0, _, _, _, _, _, _, _ => none
  | fu + 1, g, a0, r1, x3, r5, x6, x7 =>
    if (x3 : Int32) ≤ x7 then
      some ((), g)
    else
      if (x6 : Int32) = 0 then
        Option.bind r1 fun a_3 =>
        (m_gR g a_3 2 0).bind fun v_4 =>
        Option.bind v_4 fun a_5 =>
        (m_ldR g a_5 4 x7).bind fun v_6 =>
        f_Reader_readLeaf_78 (f_Reader_readLeaf_46 fu) g a0 (some a_3) x3 r5 x6 x7 v_6
      else
        Option.bind r1 fun a_7 =>
        (m_gR g a_7 2 0).bind fun v_8 =>
        Option.bind v_8 fun a_9 =>
        (m_ldR g a_9 4 x7).bind fun v_10 =>
        m_gd (m_is g a0 5) <|
        m_bd (f_Reader_decode g a0 v_10) fun v_12 g_11 =>
        f_Reader_readLeaf_78 (f_Reader_readLeaf_46 fu) g_11 a0 (some a_7) x3 r5 x6 x7 v_12
set_option maxHeartbeats 1000000 in
set_option maxRecDepth 100000 in
theorem c_Reader_readLeaf_46 (E : m_V p m c b_Reader_readLeaf 9 s args R_Reader D K) (hr : meth.sig.returnType = none) (hlk : meth.locks = false) (hz : s.heap.size + 0 = B + n)   : ∀ fu : Nat, ∀ (g : m_G) (a0 : Nat) (r1 : Option Nat) (x3 : Int32) (r5 : Option Nat) (x6 : Int32) (x7 : Int32) (r : Unit) (g' : m_G), f_Reader_readLeaf_46  fu g a0 r1 x3 r5 x6 x7 = some (r, g') → ∀ (H : Heap) (locs : List Loc), m_S D B K n g s.heap H locs → ∀ ls : Array Slot, lv_has ls 9 [(0, .ref (B + a0)), (1, m_r B r1), (3, .int x3), (5, m_r B r5), (6, .int x6), (7, .int x7)] → W p l e ({ frames := 3, cells := 0, slots := 0, locals := 68 } : Room) s m args below meth c H locs 0 0 (MQ below (m_Q D B K none n g') args s 0 0 (fun q => B ≤ q)) (F0 m 46 ls []) := by
  have hx := E.1.1
  have hb := E.1.2.1
  have hts := E.1.2.2.2.2
  intro fu
  induction fu with
  | zero => intro g a0 r1 x3 r5 x6 x7 r g' hF; cases hF
  | succ fu ih =>
    intro g a0 r1 x3 r5 x6 x7 r g' hF H locs S ls hl
    rw [f_Reader_readLeaf_46] at hF
    refine lv_iload hx hb d_Reader_readLeaf_46 (lv_at hl 5 rfl) ?_
    refine lv_iload_n hx hb d_Reader_readLeaf_48 rfl (lv_at hl 2 rfl) ?_
    refine lv_icmp_ge (tgt := 96) hx hb d_Reader_readLeaf_49 (by decide) (fun c_1 => ?_) (fun c_1 => ?_)
    · rw [if_pos c_1] at hF
      cases hF
      skip
      exact m_vret E S hz hr hlk d_Reader_readLeaf_96
    · rw [if_neg c_1] at hF
      refine lv_iload hx hb d_Reader_readLeaf_52 (lv_at hl 4 rfl) ?_
      refine lv_if_eq (tgt := 71) hx hb d_Reader_readLeaf_54 (by decide) (fun c_2 => ?_) (fun c_2 => ?_)
      · rw [if_pos c_2] at hF
        refine m_aload_n (B := B) (r := r1) E d_Reader_readLeaf_71 rfl (lv_at hl 1 rfl) ?_
        replace hF := Option.bind_eq_some_iff.mp hF
        obtain ⟨a_3, ea_3, hF⟩ := hF
        subst ea_3
        replace hF := Option.bind_eq_some_iff.mp hF
        obtain ⟨v_4, ev_4, hF⟩ := hF
        refine m_getR (B := B) (a := a_3) E S fd_Draft_lines (Or.inr ⟨_, qn_44⟩) ev_4 d_Reader_readLeaf_72 ?_
        refine lv_iload hx hb d_Reader_readLeaf_75 (lv_at hl 5 rfl) ?_
        replace hF := Option.bind_eq_some_iff.mp hF
        obtain ⟨a_5, ea_5, hF⟩ := hF
        subst ea_5
        replace hF := Option.bind_eq_some_iff.mp hF
        obtain ⟨v_6, ev_6, hF⟩ := hF
        refine m_aald (B := B) (a := a_5) (t := 4) E S rfl ev_6 d_Reader_readLeaf_77 ?_
        exact c_Reader_readLeaf_78 E hr hlk hz (f_Reader_readLeaf_46 fu) ih _ _ _ _ _ _ _ _ _ _ hF _ _ S _ (lv_sub hl [0, 1, 2, 3, 4, 5] rfl)
      · rw [if_neg c_2] at hF
        refine lv_aload_n hx hb d_Reader_readLeaf_57 rfl (lv_at hl 0 rfl) ?_
        refine m_aload_n (B := B) (r := r1) E d_Reader_readLeaf_58 rfl (lv_at hl 1 rfl) ?_
        replace hF := Option.bind_eq_some_iff.mp hF
        obtain ⟨a_7, ea_7, hF⟩ := hF
        subst ea_7
        replace hF := Option.bind_eq_some_iff.mp hF
        obtain ⟨v_8, ev_8, hF⟩ := hF
        refine m_getR (B := B) (a := a_7) E S fd_Draft_lines (Or.inr ⟨_, qn_44⟩) ev_8 d_Reader_readLeaf_59 ?_
        refine lv_iload hx hb d_Reader_readLeaf_62 (lv_at hl 5 rfl) ?_
        replace hF := Option.bind_eq_some_iff.mp hF
        obtain ⟨a_9, ea_9, hF⟩ := hF
        subst ea_9
        replace hF := Option.bind_eq_some_iff.mp hF
        obtain ⟨v_10, ev_10, hF⟩ := hF
        refine m_aald (B := B) (a := a_9) (t := 4) E S rfl ev_10 d_Reader_readLeaf_64 ?_
        replace hF := m_gd_inv hF
        obtain ⟨eog_11, hF⟩ := hF
        replace hF := m_bd_inv hF
        obtain ⟨v_12, g_11, eg_11, hF⟩ := hF
        refine m_callV (B := B) (nn := 1) (b := a0) (As := [m_r B v_10]) (rest := []) (v := (some (m_r B v_12))) E S hz (c_Reader_decode l D B K n g a0 v_10 v_12 g_11 eg_11) qc_Reader_decode ⟨rfl, rfl⟩ (Or.inl qw_148) qw_149 qw_150 qw_62 (by decide +kernel) ⟨Nat.le_of_ble_eq_true rfl, Nat.le_of_ble_eq_true rfl⟩ eog_11 rfl rfl hl.1 (Nat.le_of_ble_eq_true rfl) d_Reader_readLeaf_65 ⟨Nat.le_of_ble_eq_true rfl, Nat.le_of_ble_eq_true rfl⟩ (fun H locs S => ?_)
        refine W.eq (g2 := F0 m 68 ls [m_r B v_12]) rfl ?_
        refine lv_goto (tgt := 78) hx hb d_Reader_readLeaf_68 (by decide) ?_
        exact c_Reader_readLeaf_78 E hr hlk hz (f_Reader_readLeaf_46 fu) ih _ _ _ _ _ _ _ _ _ _ hF _ _ S _ (lv_sub hl [0, 1, 2, 3, 4, 5] rfl)
def f_Reader_readLeaf_41   (g : m_G) (a0 : Nat) (r1 : Option Nat) (x2 : Int32) (x3 : Int32) (r5 : Option Nat) (y0 : Int32) : Option (Unit × m_G) :=
  f_Reader_readLeaf_46 m_fu g a0 r1 x3 r5 y0 x2
set_option maxHeartbeats 1000000 in
set_option maxRecDepth 100000 in
theorem c_Reader_readLeaf_41 (E : m_V p m c b_Reader_readLeaf 9 s args R_Reader D K) (hr : meth.sig.returnType = none) (hlk : meth.locks = false) (hz : s.heap.size + 0 = B + n)   : ∀ (g : m_G) (a0 : Nat) (r1 : Option Nat) (x2 : Int32) (x3 : Int32) (r5 : Option Nat) (y0 : Int32) (r : Unit) (g' : m_G), f_Reader_readLeaf_41 g a0 r1 x2 x3 r5 y0 = some (r, g') → ∀ (H : Heap) (locs : List Loc), m_S D B K n g s.heap H locs → ∀ ls : Array Slot, lv_has ls 9 [(0, .ref (B + a0)), (1, m_r B r1), (2, .int x2), (3, .int x3), (5, m_r B r5)] → W p l e ({ frames := 3, cells := 0, slots := 0, locals := 68 } : Room) s m args below meth c H locs 0 0 (MQ below (m_Q D B K none n g') args s 0 0 (fun q => B ≤ q)) (F0 m 41 ls [.int y0]) := by
  have hx := E.1.1
  have hb := E.1.2.1
  have hts := E.1.2.2.2.2
  intro g a0 r1 x2 x3 r5 y0 r g' hF H locs S ls hl
  unfold f_Reader_readLeaf_41 at hF
  refine lv_istore (lv' := [(6, .int y0), (0, .ref (B + a0)), (1, m_r B r1), (2, .int x2), (3, .int x3), (5, m_r B r5)]) hx hb d_Reader_readLeaf_41 hl (by decide) (by cases r5 <;> rfl) (fun ls hl => ?_)
  refine lv_iload_n hx hb d_Reader_readLeaf_43 rfl (lv_at hl 3 rfl) ?_
  refine lv_istore (lv' := [(7, .int x2), (6, .int y0), (0, .ref (B + a0)), (1, m_r B r1), (2, .int x2), (3, .int x3), (5, m_r B r5)]) hx hb d_Reader_readLeaf_44 hl (by decide) rfl (fun ls hl => ?_)
  exact c_Reader_readLeaf_46 E hr hlk hz m_fu _ _ _ _ _ _ _ _ _ hF _ _ S _ (lv_sub hl [2, 3, 5, 6, 1, 0] rfl)
def f_Reader_readLeaf_40   (g : m_G) (a0 : Nat) (r1 : Option Nat) (x2 : Int32) (x3 : Int32) (r5 : Option Nat) : Option (Unit × m_G) :=
  f_Reader_readLeaf_41 g a0 r1 x2 x3 r5 0
set_option maxHeartbeats 1000000 in
set_option maxRecDepth 100000 in
theorem c_Reader_readLeaf_40 (E : m_V p m c b_Reader_readLeaf 9 s args R_Reader D K) (hr : meth.sig.returnType = none) (hlk : meth.locks = false) (hz : s.heap.size + 0 = B + n)   : ∀ (g : m_G) (a0 : Nat) (r1 : Option Nat) (x2 : Int32) (x3 : Int32) (r5 : Option Nat) (r : Unit) (g' : m_G), f_Reader_readLeaf_40 g a0 r1 x2 x3 r5 = some (r, g') → ∀ (H : Heap) (locs : List Loc), m_S D B K n g s.heap H locs → ∀ ls : Array Slot, lv_has ls 9 [(0, .ref (B + a0)), (1, m_r B r1), (2, .int x2), (3, .int x3), (5, m_r B r5)] → W p l e ({ frames := 3, cells := 0, slots := 0, locals := 68 } : Room) s m args below meth c H locs 0 0 (MQ below (m_Q D B K none n g') args s 0 0 (fun q => B ≤ q)) (F0 m 40 ls []) := by
  have hx := E.1.1
  have hb := E.1.2.1
  have hts := E.1.2.2.2.2
  intro g a0 r1 x2 x3 r5 r g' hF H locs S ls hl
  unfold f_Reader_readLeaf_40 at hF
  refine lv_iconst (v := 0) hx hb d_Reader_readLeaf_40 (by decide) ?_
  exact c_Reader_readLeaf_41 E hr hlk hz _ _ _ _ _ _ _ _ _ hF _ _ S _ (lv_sub hl [0, 1, 2, 3, 4] rfl)
end S_Reader_readLeaf
def f_Reader_readLeaf  (g : m_G) (a0 : Nat) (r1 : Option Nat) (x2 : Int32) (x3 : Int32) (r4 : Option Nat) (r5 : Option Nat) : Option (Unit × m_G) :=
  Option.bind r5 fun a_1 =>
  (m_gI g a_1 4 7).bind fun v_2 =>
  (m_pI g a_1 4 7 (v_2 + 1)).bind fun g_3 =>
  match r4 with
  | none =>
    f_Reader_readLeaf_40 g_3 a0 r1 x2 x3 (some a_1)
  | some a_4 =>
    (m_gI g_3 a_4 1 1).bind fun v_5 =>
    if (v_5 : Int32) = 3 then
      m_gd (m_is g_3 a_4 1) <|
      m_bd (f_Line_at g_3 a_4 2) fun v_8 g_7 =>
      if (v_8 : Int32) = 104 then
        f_Reader_readLeaf_41 g_7 a0 r1 x2 x3 (some a_1) 1
      else
        f_Reader_readLeaf_40 g_7 a0 r1 x2 x3 (some a_1)
    else
      f_Reader_readLeaf_40 g_3 a0 r1 x2 x3 (some a_1)
set_option maxHeartbeats 1000000 in
set_option maxRecDepth 100000 in
theorem c_Reader_readLeaf (l : Launch) (D : va_G) (B : Nat) (K : Nat → ClassId)  (n : Nat) (g : m_G) (a0 : Nat) (r1 : Option Nat) (x2 : Int32) (x3 : Int32) (r4 : Option Nat) (r5 : Option Nat) (r : Unit) (g' : m_G) (hF : f_Reader_readLeaf g a0 r1 x2 x3 r4 r5 = some (r, g')) : Met l y_Reader_readLeaf (Cond.code y_Reader_readLeaf b_Reader_readLeaf 9 none :: m_TB) ({ frames := 3, cells := 0, slots := 0, locals := 68 } : Room) (m_Pc D B K n g [.ref (B + a0), m_r B r1, .int x2, .int x3, m_r B r4, m_r B r5]) (m_Q D B K none n g') 0 0 (fun q => B ≤ q) := by
  refine m_met (by decide) (by simp only [lg_sl, List.flatMap_cons, List.flatMap_nil, m_r_cat]; exact Nat.le_of_ble_eq_true rfl) ?_
  intro p e s m args below meth c ls E hr hlk hin hsz S hl
  have E : m_V p m c b_Reader_readLeaf 9 s args R_Reader D K := E
  have hz : s.heap.size + 0 = B + n := hsz
  have hl : lv_has ls 9 [(0, .ref (B + a0)), (1, m_r B r1), (2, .int x2), (3, .int x3), (4, m_r B r4), (5, m_r B r5)] := by simp only [lv_args, m_r_cat] at hl; exact hl
  have hx := E.1.1
  have hb := E.1.2.1
  have hts := E.1.2.2.2.2
  unfold f_Reader_readLeaf at hF
  refine m_aload (B := B) (r := r5) E d_Reader_readLeaf_0 (lv_at hl 5 rfl) ?_
  refine lv_dup hx hb d_Reader_readLeaf_2 (m_r_cat B r5) ?_
  replace hF := Option.bind_eq_some_iff.mp hF
  obtain ⟨a_1, ea_1, hF⟩ := hF
  subst ea_1
  replace hF := Option.bind_eq_some_iff.mp hF
  obtain ⟨v_2, ev_2, hF⟩ := hF
  refine m_getI (B := B) (a := a_1) E S fd_Message_leaves (Or.inr ⟨_, qn_43⟩) ev_2 d_Reader_readLeaf_3 ?_
  refine lv_iconst (v := 1) hx hb d_Reader_readLeaf_6 (by decide) ?_
  refine lv_iadd hx hb d_Reader_readLeaf_7 ?_
  replace hF := Option.bind_eq_some_iff.mp hF
  obtain ⟨g_3, eg_3, hF⟩ := hF
  refine m_putI (B := B) (a := a_1) E S fd_Message_leaves (Or.inr ⟨_, qn_43⟩) eg_3 d_Reader_readLeaf_8 (fun H locs S => ?_)
  refine m_aload (B := B) (r := r4) E d_Reader_readLeaf_11 (lv_at hl 4 rfl) ?_
  refine m_ifnull (B := B) (r := r4) (tgt := 40) E d_Reader_readLeaf_13 (by decide) (fun ea_4 => ?_) (fun a_4 ea_4 => ?_)
  · subst ea_4
    dsimp only at hF
    exact c_Reader_readLeaf_40 E hr hlk hz _ _ _ _ _ _ _ _ hF _ _ S _ (lv_sub hl [0, 1, 2, 3, 5] rfl)
  · subst ea_4
    dsimp only at hF
    refine m_aload (B := B) (r := (some a_4)) E d_Reader_readLeaf_16 (lv_at hl 4 rfl) ?_
    replace hF := Option.bind_eq_some_iff.mp hF
    obtain ⟨v_5, ev_5, hF⟩ := hF
    refine m_getI (B := B) (a := a_4) E S fd_Line_length (Or.inr ⟨_, qn_35⟩) ev_5 d_Reader_readLeaf_18 ?_
    refine lv_iconst (v := 3) hx hb d_Reader_readLeaf_21 (by decide) ?_
    refine lv_icmp_ne (tgt := 40) hx hb d_Reader_readLeaf_22 (by decide) (fun c_6 => ?_) (fun c_6 => ?_)
    · rw [if_neg c_6] at hF
      exact c_Reader_readLeaf_40 E hr hlk hz _ _ _ _ _ _ _ _ hF _ _ S _ (lv_sub hl [0, 1, 2, 3, 5] rfl)
    · rw [if_pos c_6] at hF
      refine m_aload (B := B) (r := (some a_4)) E d_Reader_readLeaf_25 (lv_at hl 4 rfl) ?_
      refine lv_iconst (v := 2) hx hb d_Reader_readLeaf_27 (by decide) ?_
      replace hF := m_gd_inv hF
      obtain ⟨eog_7, hF⟩ := hF
      replace hF := m_bd_inv hF
      obtain ⟨v_8, g_7, eg_7, hF⟩ := hF
      refine m_callV (B := B) (nn := 1) (b := a_4) (As := [.int 2]) (rest := []) (v := (some (.int v_8))) E S hz (c_Line_at l D B K n g_3 a_4 2 v_8 g_7 eg_7) qc_Line_at ⟨rfl, rfl⟩ (Or.inr ⟨_, qn_37⟩) qw_98 qw_99 qw_11 (by decide +kernel) ⟨Nat.le_of_ble_eq_true rfl, Nat.le_of_ble_eq_true rfl⟩ eog_7 rfl rfl hl.1 (Nat.le_of_ble_eq_true rfl) d_Reader_readLeaf_28 ⟨Nat.le_of_ble_eq_true rfl, Nat.le_of_ble_eq_true rfl⟩ (fun H locs S => ?_)
      refine W.eq (g2 := F0 m 31 ls [.int v_8]) rfl ?_
      refine lv_bipush (v := 104) hx hb d_Reader_readLeaf_31 (by decide) ?_
      refine lv_icmp_ne (tgt := 40) hx hb d_Reader_readLeaf_33 (by decide) (fun c_9 => ?_) (fun c_9 => ?_)
      · rw [if_neg c_9] at hF
        exact c_Reader_readLeaf_40 E hr hlk hz _ _ _ _ _ _ _ _ hF _ _ S _ (lv_sub hl [0, 1, 2, 3, 5] rfl)
      · rw [if_pos c_9] at hF
        refine lv_iconst (v := 1) hx hb d_Reader_readLeaf_36 (by decide) ?_
        refine lv_goto (tgt := 41) hx hb d_Reader_readLeaf_37 (by decide) ?_
        exact c_Reader_readLeaf_41 E hr hlk hz _ _ _ _ _ _ _ _ _ hF _ _ S _ (lv_sub hl [0, 1, 2, 3, 5] rfl)
