section S_Arc_differentCodes
variable {p : Program} {l : Launch} {e : Env} {s : State} {m : MethodId} {args : Array Value} {below : List Frame} {meth : Method} {c : Code} {D : va_G} {B n : Nat} {K : Nat → ClassId}
def f_Arc_differentCodes_70  (k_4 : m_G → Nat → Int32 → Int32 → Option (Int32 × m_G)) (k_27 : m_G → Nat → Int32 → Int32 → Option Nat → Int32 → Option (Int32 × m_G)) (g : m_G) (a0 : Nat) (x1 : Int32) (x2 : Int32) (r3 : Option Nat) (x4 : Int32) : Option (Int32 × m_G) :=
  k_27 g a0 x1 x2 r3 (x4 + 1)
set_option maxHeartbeats 1000000 in
set_option maxRecDepth 100000 in
theorem c_Arc_differentCodes_70 (E : m_V p m c b_Arc_differentCodes 5 s args R_Arc D K) (hr : meth.sig.returnType = (some .int)) (hlk : meth.locks = false) (hz : s.heap.size + 0 = B + n)  (k_4 : m_G → Nat → Int32 → Int32 → Option (Int32 × m_G)) (hk_4 : ∀ (g : m_G) (a0 : Nat) (x1 : Int32) (x2 : Int32) (r : Int32) (g' : m_G), k_4 g a0 x1 x2 = some (r, g') → ∀ (H : Heap) (locs : List Loc), m_S D B K n g s.heap H locs → ∀ ls : Array Slot, lv_has ls 5 [(0, .ref (B + a0)), (1, .int x1), (2, .int x2)] → W p l e ({ frames := 2, cells := 0, slots := 0, locals := 49 } : Room) s m args below meth c H locs 0 0 (MQ below (m_Q D B K (some (.int r)) n g') args s 0 0 (fun q => B ≤ q)) (F0 m 4 ls [])) (k_27 : m_G → Nat → Int32 → Int32 → Option Nat → Int32 → Option (Int32 × m_G)) (hk_27 : ∀ (g : m_G) (a0 : Nat) (x1 : Int32) (x2 : Int32) (r3 : Option Nat) (x4 : Int32) (r : Int32) (g' : m_G), k_27 g a0 x1 x2 r3 x4 = some (r, g') → ∀ (H : Heap) (locs : List Loc), m_S D B K n g s.heap H locs → ∀ ls : Array Slot, lv_has ls 5 [(0, .ref (B + a0)), (1, .int x1), (2, .int x2), (3, m_r B r3), (4, .int x4)] → W p l e ({ frames := 2, cells := 0, slots := 0, locals := 49 } : Room) s m args below meth c H locs 0 0 (MQ below (m_Q D B K (some (.int r)) n g') args s 0 0 (fun q => B ≤ q)) (F0 m 27 ls [])) : ∀ (g : m_G) (a0 : Nat) (x1 : Int32) (x2 : Int32) (r3 : Option Nat) (x4 : Int32) (r : Int32) (g' : m_G), f_Arc_differentCodes_70 k_4 k_27 g a0 x1 x2 r3 x4 = some (r, g') → ∀ (H : Heap) (locs : List Loc), m_S D B K n g s.heap H locs → ∀ ls : Array Slot, lv_has ls 5 [(0, .ref (B + a0)), (1, .int x1), (2, .int x2), (3, m_r B r3), (4, .int x4)] → W p l e ({ frames := 2, cells := 0, slots := 0, locals := 49 } : Room) s m args below meth c H locs 0 0 (MQ below (m_Q D B K (some (.int r)) n g') args s 0 0 (fun q => B ≤ q)) (F0 m 70 ls []) := by
  have hx := E.1.1
  have hb := E.1.2.1
  have hts := E.1.2.2.2.2
  intro g a0 x1 x2 r3 x4 r g' hF H locs S ls hl
  unfold f_Arc_differentCodes_70 at hF
  refine lv_iinc (v := (x4 + 1)) (lv' := [(4, .int (x4 + 1)), (0, .ref (B + a0)), (1, .int x1), (2, .int x2), (3, m_r B r3)]) hx hb d_Arc_differentCodes_70 hl (k := 4) rfl rfl (by decide) (by cases r3 <;> rfl) (fun ls hl => ?_)
  refine lv_goto (tgt := 27) hx hb d_Arc_differentCodes_73 (by decide) ?_
  exact hk_27 _ _ _ _ _ _ _ _ hF _ _ S _ (lv_sub hl [1, 2, 3, 4, 0] rfl)
def f_Arc_differentCodes_27  (k_4 : m_G → Nat → Int32 → Int32 → Option (Int32 × m_G)) : Nat → m_G → Nat → Int32 → Int32 → Option Nat → Int32 → Option (Int32 × m_G)
  | 0, _, _, _, _, _, _ => none
  | fu + 1, g, a0, x1, x2, r3, x4 =>
    Option.bind r3 fun a_1 =>
    (m_gI g a_1 4 6).bind fun v_2 =>
    if (v_2 : Int32) ≤ x4 then
      k_4 g a0 x1 (x2 + 1)
    else
      (m_gR g a_1 4 1).bind fun v_4 =>
      Option.bind v_4 fun a_5 =>
      (m_ldL g a_5 2 x4).bind fun v_6 =>
      m_gd (m_is g a_1 4) <|
      m_bd (f_Message_hasCodeBefore g a_1 x4 v_6) fun v_8 g_7 =>
      if (v_8 : Int32) = 0 then
        (m_gR g_7 a_1 4 1).bind fun v_10 =>
        Option.bind v_10 fun a_11 =>
        (m_ldL g_7 a_11 2 x4).bind fun v_12 =>
        m_gd (m_is g_7 a0 0) <|
        m_bd (f_Arc_isCodeEarlier g_7 a0 x2 v_12) fun v_14 g_13 =>
        if (v_14 : Int32) = 0 then
          f_Arc_differentCodes_70 k_4 (f_Arc_differentCodes_27 k_4 fu) g_13 a0 (x1 + 1) x2 (some a_1) x4
        else
          f_Arc_differentCodes_70 k_4 (f_Arc_differentCodes_27 k_4 fu) g_13 a0 x1 x2 (some a_1) x4
      else
        f_Arc_differentCodes_70 k_4 (f_Arc_differentCodes_27 k_4 fu) g_7 a0 x1 x2 (some a_1) x4
set_option maxHeartbeats 1000000 in
set_option maxRecDepth 100000 in
theorem c_Arc_differentCodes_27 (E : m_V p m c b_Arc_differentCodes 5 s args R_Arc D K) (hr : meth.sig.returnType = (some .int)) (hlk : meth.locks = false) (hz : s.heap.size + 0 = B + n)  (k_4 : m_G → Nat → Int32 → Int32 → Option (Int32 × m_G)) (hk_4 : ∀ (g : m_G) (a0 : Nat) (x1 : Int32) (x2 : Int32) (r : Int32) (g' : m_G), k_4 g a0 x1 x2 = some (r, g') → ∀ (H : Heap) (locs : List Loc), m_S D B K n g s.heap H locs → ∀ ls : Array Slot, lv_has ls 5 [(0, .ref (B + a0)), (1, .int x1), (2, .int x2)] → W p l e ({ frames := 2, cells := 0, slots := 0, locals := 49 } : Room) s m args below meth c H locs 0 0 (MQ below (m_Q D B K (some (.int r)) n g') args s 0 0 (fun q => B ≤ q)) (F0 m 4 ls [])) : ∀ fu : Nat, ∀ (g : m_G) (a0 : Nat) (x1 : Int32) (x2 : Int32) (r3 : Option Nat) (x4 : Int32) (r : Int32) (g' : m_G), f_Arc_differentCodes_27 k_4 fu g a0 x1 x2 r3 x4 = some (r, g') → ∀ (H : Heap) (locs : List Loc), m_S D B K n g s.heap H locs → ∀ ls : Array Slot, lv_has ls 5 [(0, .ref (B + a0)), (1, .int x1), (2, .int x2), (3, m_r B r3), (4, .int x4)] → W p l e ({ frames := 2, cells := 0, slots := 0, locals := 49 } : Room) s m args below meth c H locs 0 0 (MQ below (m_Q D B K (some (.int r)) n g') args s 0 0 (fun q => B ≤ q)) (F0 m 27 ls []) := by
  have hx := E.1.1
  have hb := E.1.2.1
  have hts := E.1.2.2.2.2
  intro fu
  induction fu with
  | zero => intro g a0 x1 x2 r3 x4 r g' hF; cases hF
  | succ fu ih =>
    intro g a0 x1 x2 r3 x4 r g' hF H locs S ls hl
    rw [f_Arc_differentCodes_27] at hF
    refine lv_iload hx hb d_Arc_differentCodes_27 (lv_at hl 4 rfl) ?_
    refine m_aload_n (B := B) (r := r3) E d_Arc_differentCodes_29 rfl (lv_at hl 3 rfl) ?_
    replace hF := Option.bind_eq_some_iff.mp hF
    obtain ⟨a_1, ea_1, hF⟩ := hF
    subst ea_1
    replace hF := Option.bind_eq_some_iff.mp hF
    obtain ⟨v_2, ev_2, hF⟩ := hF
    refine m_getI (B := B) (a := a_1) E S fd_Message_wordCount (Or.inr ⟨_, qn_73⟩) ev_2 d_Arc_differentCodes_30 ?_
    refine lv_icmp_ge (tgt := 76) hx hb d_Arc_differentCodes_33 (by decide) (fun c_3 => ?_) (fun c_3 => ?_)
    · rw [if_pos c_3] at hF
      refine lv_iinc (v := (x2 + 1)) (lv' := [(2, .int (x2 + 1)), (0, .ref (B + a0)), (1, .int x1), (3, m_r B (some a_1)), (4, .int x4)]) hx hb d_Arc_differentCodes_76 hl (k := 2) rfl rfl (by decide) rfl (fun ls hl => ?_)
      refine lv_goto (tgt := 4) hx hb d_Arc_differentCodes_79 (by decide) ?_
      exact hk_4 _ _ _ _ _ _ hF _ _ S _ (lv_sub hl [1, 2, 0] rfl)
    · rw [if_neg c_3] at hF
      refine m_aload_n (B := B) (r := (some a_1)) E d_Arc_differentCodes_36 rfl (lv_at hl 3 rfl) ?_
      refine lv_iload hx hb d_Arc_differentCodes_37 (lv_at hl 4 rfl) ?_
      refine m_aload_n (B := B) (r := (some a_1)) E d_Arc_differentCodes_39 rfl (lv_at hl 3 rfl) ?_
      replace hF := Option.bind_eq_some_iff.mp hF
      obtain ⟨v_4, ev_4, hF⟩ := hF
      refine m_getR (B := B) (a := a_1) E S fd_Message_codes (Or.inr ⟨_, qn_71⟩) ev_4 d_Arc_differentCodes_40 ?_
      refine lv_iload hx hb d_Arc_differentCodes_43 (lv_at hl 4 rfl) ?_
      replace hF := Option.bind_eq_some_iff.mp hF
      obtain ⟨a_5, ea_5, hF⟩ := hF
      subst ea_5
      replace hF := Option.bind_eq_some_iff.mp hF
      obtain ⟨v_6, ev_6, hF⟩ := hF
      refine m_lald (B := B) (a := a_5) (t := 2) E S rfl ev_6 d_Arc_differentCodes_45 ?_
      replace hF := m_gd_inv hF
      obtain ⟨eog_7, hF⟩ := hF
      replace hF := m_bd_inv hF
      obtain ⟨v_8, g_7, eg_7, hF⟩ := hF
      refine m_callV (B := B) (nn := 2) (b := a_1) (As := [.int x4, .long v_6]) (rest := []) (v := (some (.int v_8))) E S hz (c_Message_hasCodeBefore l D B K n g a_1 x4 v_6 v_8 g_7 eg_7) qc_Message_hasCodeBefore ⟨rfl, rfl⟩ (Or.inr ⟨_, qn_74⟩) qw_266 qw_267 qw_77 (by decide +kernel) ⟨Nat.le_of_ble_eq_true rfl, Nat.le_of_ble_eq_true rfl⟩ eog_7 rfl rfl hl.1 (Nat.le_of_ble_eq_true rfl) d_Arc_differentCodes_46 ⟨Nat.le_of_ble_eq_true rfl, Nat.le_of_ble_eq_true rfl⟩ (fun H locs S => ?_)
      refine W.eq (g2 := F0 m 49 ls [.int v_8]) rfl ?_
      refine lv_if_ne (tgt := 70) hx hb d_Arc_differentCodes_49 (by decide) (fun c_9 => ?_) (fun c_9 => ?_)
      · rw [if_neg c_9] at hF
        exact c_Arc_differentCodes_70 E hr hlk hz k_4 hk_4 (f_Arc_differentCodes_27 k_4 fu) ih _ _ _ _ _ _ _ _ hF _ _ S _ (lv_sub hl [0, 1, 2, 3, 4] rfl)
      · rw [if_pos c_9] at hF
        refine lv_aload_n hx hb d_Arc_differentCodes_52 rfl (lv_at hl 0 rfl) ?_
        refine lv_iload_n hx hb d_Arc_differentCodes_53 rfl (lv_at hl 2 rfl) ?_
        refine m_aload_n (B := B) (r := (some a_1)) E d_Arc_differentCodes_54 rfl (lv_at hl 3 rfl) ?_
        replace hF := Option.bind_eq_some_iff.mp hF
        obtain ⟨v_10, ev_10, hF⟩ := hF
        refine m_getR (B := B) (a := a_1) E S fd_Message_codes (Or.inr ⟨_, qn_71⟩) ev_10 d_Arc_differentCodes_55 ?_
        refine lv_iload hx hb d_Arc_differentCodes_58 (lv_at hl 4 rfl) ?_
        replace hF := Option.bind_eq_some_iff.mp hF
        obtain ⟨a_11, ea_11, hF⟩ := hF
        subst ea_11
        replace hF := Option.bind_eq_some_iff.mp hF
        obtain ⟨v_12, ev_12, hF⟩ := hF
        refine m_lald (B := B) (a := a_11) (t := 2) E S rfl ev_12 d_Arc_differentCodes_60 ?_
        replace hF := m_gd_inv hF
        obtain ⟨eog_13, hF⟩ := hF
        replace hF := m_bd_inv hF
        obtain ⟨v_14, g_13, eg_13, hF⟩ := hF
        refine m_callV (B := B) (nn := 2) (b := a0) (As := [.int x2, .long v_12]) (rest := []) (v := (some (.int v_14))) E S hz (c_Arc_isCodeEarlier l D B K n g_7 a0 x2 v_12 v_14 g_13 eg_13) qc_Arc_isCodeEarlier ⟨rfl, rfl⟩ (Or.inl qw_268) qw_269 qw_270 qw_105 (by decide +kernel) ⟨Nat.le_of_ble_eq_true rfl, Nat.le_of_ble_eq_true rfl⟩ eog_13 rfl rfl hl.1 (Nat.le_of_ble_eq_true rfl) d_Arc_differentCodes_61 ⟨Nat.le_of_ble_eq_true rfl, Nat.le_of_ble_eq_true rfl⟩ (fun H locs S => ?_)
        refine W.eq (g2 := F0 m 64 ls [.int v_14]) rfl ?_
        refine lv_if_ne (tgt := 70) hx hb d_Arc_differentCodes_64 (by decide) (fun c_15 => ?_) (fun c_15 => ?_)
        · rw [if_neg c_15] at hF
          exact c_Arc_differentCodes_70 E hr hlk hz k_4 hk_4 (f_Arc_differentCodes_27 k_4 fu) ih _ _ _ _ _ _ _ _ hF _ _ S _ (lv_sub hl [0, 1, 2, 3, 4] rfl)
        · rw [if_pos c_15] at hF
          refine lv_iinc (v := (x1 + 1)) (lv' := [(1, .int (x1 + 1)), (0, .ref (B + a0)), (2, .int x2), (3, m_r B (some a_1)), (4, .int x4)]) hx hb d_Arc_differentCodes_67 hl (k := 1) rfl rfl (by decide) rfl (fun ls hl => ?_)
          exact c_Arc_differentCodes_70 E hr hlk hz k_4 hk_4 (f_Arc_differentCodes_27 k_4 fu) ih _ _ _ _ _ _ _ _ hF _ _ S _ (lv_sub hl [1, 0, 2, 3, 4] rfl)
def f_Arc_differentCodes_4   : Nat → m_G → Nat → Int32 → Int32 → Option (Int32 × m_G)
  | 0, _, _, _, _ => none
  | fu + 1, g, a0, x1, x2 =>
    (m_gI g a0 0 7).bind fun v_1 =>
    if (v_1 : Int32) ≤ x2 then
      some (x1, g)
    else
      (m_gR g a0 0 5).bind fun v_3 =>
      (m_gR g a0 0 6).bind fun v_4 =>
      Option.bind v_4 fun a_5 =>
      (m_ld g a_5 0 x2).bind fun v_6 =>
      Option.bind v_3 fun a_7 =>
      (m_ldR g a_7 5 v_6).bind fun v_8 =>
      f_Arc_differentCodes_27 (f_Arc_differentCodes_4 fu) m_fu g a0 x1 x2 v_8 0
set_option maxHeartbeats 1000000 in
set_option maxRecDepth 100000 in
theorem c_Arc_differentCodes_4 (E : m_V p m c b_Arc_differentCodes 5 s args R_Arc D K) (hr : meth.sig.returnType = (some .int)) (hlk : meth.locks = false) (hz : s.heap.size + 0 = B + n)   : ∀ fu : Nat, ∀ (g : m_G) (a0 : Nat) (x1 : Int32) (x2 : Int32) (r : Int32) (g' : m_G), f_Arc_differentCodes_4  fu g a0 x1 x2 = some (r, g') → ∀ (H : Heap) (locs : List Loc), m_S D B K n g s.heap H locs → ∀ ls : Array Slot, lv_has ls 5 [(0, .ref (B + a0)), (1, .int x1), (2, .int x2)] → W p l e ({ frames := 2, cells := 0, slots := 0, locals := 49 } : Room) s m args below meth c H locs 0 0 (MQ below (m_Q D B K (some (.int r)) n g') args s 0 0 (fun q => B ≤ q)) (F0 m 4 ls []) := by
  have hx := E.1.1
  have hb := E.1.2.1
  have hts := E.1.2.2.2.2
  intro fu
  induction fu with
  | zero => intro g a0 x1 x2 r g' hF; cases hF
  | succ fu ih =>
    intro g a0 x1 x2 r g' hF H locs S ls hl
    rw [f_Arc_differentCodes_4] at hF
    refine lv_iload_n hx hb d_Arc_differentCodes_4 rfl (lv_at hl 2 rfl) ?_
    refine lv_aload_n hx hb d_Arc_differentCodes_5 rfl (lv_at hl 0 rfl) ?_
    replace hF := Option.bind_eq_some_iff.mp hF
    obtain ⟨v_1, ev_1, hF⟩ := hF
    refine m_getI (B := B) (a := a0) E S fd_Arc_messageCount (Or.inl qw_80) ev_1 d_Arc_differentCodes_6 ?_
    refine lv_icmp_ge (tgt := 82) hx hb d_Arc_differentCodes_9 (by decide) (fun c_2 => ?_) (fun c_2 => ?_)
    · rw [if_pos c_2] at hF
      refine lv_iload_n hx hb d_Arc_differentCodes_82 rfl (lv_at hl 1 rfl) ?_
      cases hF
      exact m_iret E S hz hr hlk d_Arc_differentCodes_83
    · rw [if_neg c_2] at hF
      refine lv_aload_n hx hb d_Arc_differentCodes_12 rfl (lv_at hl 0 rfl) ?_
      replace hF := Option.bind_eq_some_iff.mp hF
      obtain ⟨v_3, ev_3, hF⟩ := hF
      refine m_getR (B := B) (a := a0) E S fd_Arc_messages (Or.inl qw_75) ev_3 d_Arc_differentCodes_13 ?_
      refine lv_aload_n hx hb d_Arc_differentCodes_16 rfl (lv_at hl 0 rfl) ?_
      replace hF := Option.bind_eq_some_iff.mp hF
      obtain ⟨v_4, ev_4, hF⟩ := hF
      refine m_getR (B := B) (a := a0) E S fd_Arc_order (Or.inl qw_79) ev_4 d_Arc_differentCodes_17 ?_
      refine lv_iload_n hx hb d_Arc_differentCodes_20 rfl (lv_at hl 2 rfl) ?_
      replace hF := Option.bind_eq_some_iff.mp hF
      obtain ⟨a_5, ea_5, hF⟩ := hF
      subst ea_5
      replace hF := Option.bind_eq_some_iff.mp hF
      obtain ⟨v_6, ev_6, hF⟩ := hF
      refine m_iald (B := B) (a := a_5) (t := 0) E S rfl ev_6 d_Arc_differentCodes_21 ?_
      replace hF := Option.bind_eq_some_iff.mp hF
      obtain ⟨a_7, ea_7, hF⟩ := hF
      subst ea_7
      replace hF := Option.bind_eq_some_iff.mp hF
      obtain ⟨v_8, ev_8, hF⟩ := hF
      refine m_aald (B := B) (a := a_7) (t := 5) E S rfl ev_8 d_Arc_differentCodes_22 ?_
      refine m_astore_n (B := B) (r := v_8) (lv' := [(3, m_r B v_8), (0, .ref (B + a0)), (1, .int x1), (2, .int x2)]) E d_Arc_differentCodes_23 rfl hl (by decide) rfl (fun ls hl => ?_)
      refine lv_iconst (v := 0) hx hb d_Arc_differentCodes_24 (by decide) ?_
      refine lv_istore (lv' := [(4, .int 0), (3, m_r B v_8), (0, .ref (B + a0)), (1, .int x1), (2, .int x2)]) hx hb d_Arc_differentCodes_25 hl (by decide) (by cases v_8 <;> rfl) (fun ls hl => ?_)
      exact c_Arc_differentCodes_27 E hr hlk hz (f_Arc_differentCodes_4 fu) ih m_fu _ _ _ _ _ _ _ _ hF _ _ S _ (lv_sub hl [2, 3, 4, 1, 0] rfl)
end S_Arc_differentCodes
def f_Arc_differentCodes  (g : m_G) (a0 : Nat) : Option (Int32 × m_G) :=
  f_Arc_differentCodes_4 m_fu g a0 0 0
set_option maxHeartbeats 1000000 in
set_option maxRecDepth 100000 in
theorem c_Arc_differentCodes (l : Launch) (D : va_G) (B : Nat) (K : Nat → ClassId)  (n : Nat) (g : m_G) (a0 : Nat) (r : Int32) (g' : m_G) (hF : f_Arc_differentCodes g a0 = some (r, g')) : Met l y_Arc_differentCodes (Cond.code y_Arc_differentCodes b_Arc_differentCodes 5 (some .int) :: m_TB) ({ frames := 2, cells := 0, slots := 0, locals := 49 } : Room) (m_Pc D B K n g [.ref (B + a0)]) (m_Q D B K (some (.int r)) n g') 0 0 (fun q => B ≤ q) := by
  refine m_met (by decide) (Nat.le_of_ble_eq_true rfl) ?_
  intro p e s m args below meth c ls E hr hlk hin hsz S hl
  have E : m_V p m c b_Arc_differentCodes 5 s args R_Arc D K := E
  have hz : s.heap.size + 0 = B + n := hsz
  have hl : lv_has ls 5 [(0, .ref (B + a0))] := hl
  have hx := E.1.1
  have hb := E.1.2.1
  have hts := E.1.2.2.2.2
  unfold f_Arc_differentCodes at hF
  refine lv_iconst (v := 0) hx hb d_Arc_differentCodes_0 (by decide) ?_
  refine lv_istore_n (lv' := [(1, .int 0), (0, .ref (B + a0))]) hx hb d_Arc_differentCodes_1 rfl hl (by decide) rfl (fun ls hl => ?_)
  refine lv_iconst (v := 0) hx hb d_Arc_differentCodes_2 (by decide) ?_
  refine lv_istore_n (lv' := [(2, .int 0), (1, .int 0), (0, .ref (B + a0))]) hx hb d_Arc_differentCodes_3 rfl hl (by decide) rfl (fun ls hl => ?_)
  exact c_Arc_differentCodes_4 E hr hlk hz m_fu _ _ _ _ _ _ hF _ _ S _ (lv_sub hl [2, 1, 0] rfl)
section S_Arc_leavesOf
variable {p : Program} {l : Launch} {e : Env} {s : State} {m : MethodId} {args : Array Value} {below : List Frame} {meth : Method} {c : Code} {D : va_G} {B n : Nat} {K : Nat → ClassId}
def f_Arc_leavesOf_18   (g : m_G) (y0 : Int32) : Option (Int32 × m_G) :=
  some (y0, g)
set_option maxHeartbeats 1000000 in
set_option maxRecDepth 100000 in
theorem c_Arc_leavesOf_18 (E : m_V p m c b_Arc_leavesOf 3 s args R_Arc D K) (hr : meth.sig.returnType = (some .int)) (hlk : meth.locks = false) (hz : s.heap.size + 0 = B + n)   : ∀ (g : m_G) (y0 : Int32) (r : Int32) (g' : m_G), f_Arc_leavesOf_18 g y0 = some (r, g') → ∀ (H : Heap) (locs : List Loc), m_S D B K n g s.heap H locs → ∀ ls : Array Slot, lv_has ls 3 [] → W p l e ({ frames := 1, cells := 0, slots := 0, locals := 21 } : Room) s m args below meth c H locs 0 0 (MQ below (m_Q D B K (some (.int r)) n g') args s 0 0 (fun q => B ≤ q)) (F0 m 18 ls [.int y0]) := by
  have hx := E.1.1
  have hb := E.1.2.1
  have hts := E.1.2.2.2.2
  intro g y0 r g' hF H locs S ls hl
  unfold f_Arc_leavesOf_18 at hF
  cases hF
  exact m_iret E S hz hr hlk d_Arc_leavesOf_18
end S_Arc_leavesOf
def f_Arc_leavesOf  (g : m_G) (a0 : Nat) (x1 : Int32) : Option (Int32 × m_G) :=
  m_gd (m_is g a0 0) <|
  m_bd (f_Arc_messageAt g a0 x1) fun v_2 g_1 =>
  match v_2 with
  | none =>
    f_Arc_leavesOf_18 g_1 (-1)
  | some a_3 =>
    (m_gI g_1 a_3 4 7).bind fun v_4 =>
    f_Arc_leavesOf_18 g_1 v_4
set_option maxHeartbeats 1000000 in
set_option maxRecDepth 100000 in
theorem c_Arc_leavesOf (l : Launch) (D : va_G) (B : Nat) (K : Nat → ClassId)  (n : Nat) (g : m_G) (a0 : Nat) (x1 : Int32) (r : Int32) (g' : m_G) (hF : f_Arc_leavesOf g a0 x1 = some (r, g')) : Met l y_Arc_leavesOf (Cond.code y_Arc_leavesOf b_Arc_leavesOf 3 (some .int) :: m_TB) ({ frames := 1, cells := 0, slots := 0, locals := 21 } : Room) (m_Pc D B K n g [.ref (B + a0), .int x1]) (m_Q D B K (some (.int r)) n g') 0 0 (fun q => B ≤ q) := by
  refine m_met (by decide) (Nat.le_of_ble_eq_true rfl) ?_
  intro p e s m args below meth c ls E hr hlk hin hsz S hl
  have E : m_V p m c b_Arc_leavesOf 3 s args R_Arc D K := E
  have hz : s.heap.size + 0 = B + n := hsz
  have hl : lv_has ls 3 [(0, .ref (B + a0)), (1, .int x1)] := hl
  have hx := E.1.1
  have hb := E.1.2.1
  have hts := E.1.2.2.2.2
  unfold f_Arc_leavesOf at hF
  refine lv_aload_n hx hb d_Arc_leavesOf_0 rfl (lv_at hl 0 rfl) ?_
  refine lv_iload_n hx hb d_Arc_leavesOf_1 rfl (lv_at hl 1 rfl) ?_
  replace hF := m_gd_inv hF
  obtain ⟨eog_1, hF⟩ := hF
  replace hF := m_bd_inv hF
  obtain ⟨v_2, g_1, eg_1, hF⟩ := hF
  refine m_callV (B := B) (nn := 1) (b := a0) (As := [.int x1]) (rest := []) (v := (some (m_r B v_2))) E S hz (c_Arc_messageAt l D B K n g a0 x1 v_2 g_1 eg_1) qc_Arc_messageAt ⟨rfl, rfl⟩ (Or.inl qw_183) qw_184 qw_185 qw_105 (by decide +kernel) ⟨Nat.le_of_ble_eq_true rfl, Nat.le_of_ble_eq_true rfl⟩ eog_1 rfl rfl hl.1 (Nat.le_of_ble_eq_true rfl) d_Arc_leavesOf_2 ⟨Nat.le_of_ble_eq_true rfl, Nat.le_of_ble_eq_true rfl⟩ (fun H locs S => ?_)
  refine W.eq (g2 := F0 m 5 ls [m_r B v_2]) rfl ?_
  refine m_astore_n (B := B) (r := v_2) (lv' := [(2, m_r B v_2), (0, .ref (B + a0)), (1, .int x1)]) E d_Arc_leavesOf_5 rfl hl (by decide) rfl (fun ls hl => ?_)
  refine m_aload_n (B := B) (r := v_2) E d_Arc_leavesOf_6 rfl (lv_at hl 0 rfl) ?_
  refine m_ifnonnull (B := B) (r := v_2) (tgt := 14) E d_Arc_leavesOf_7 (by decide) (fun a_3 ea_3 => ?_) (fun ea_3 => ?_)
  · subst ea_3
    dsimp only at hF
    refine m_aload_n (B := B) (r := (some a_3)) E d_Arc_leavesOf_14 rfl (lv_at hl 0 rfl) ?_
    replace hF := Option.bind_eq_some_iff.mp hF
    obtain ⟨v_4, ev_4, hF⟩ := hF
    refine m_getI (B := B) (a := a_3) E S fd_Message_leaves (Or.inr ⟨_, qn_75⟩) ev_4 d_Arc_leavesOf_15 ?_
    exact c_Arc_leavesOf_18 E hr hlk hz _ _ _ _ hF _ _ S _ (lv_sub hl [] rfl)
  · subst ea_3
    dsimp only at hF
    refine lv_iconst (v := (-1)) hx hb d_Arc_leavesOf_10 (by decide) ?_
    refine lv_goto (tgt := 18) hx hb d_Arc_leavesOf_11 (by decide) ?_
    exact c_Arc_leavesOf_18 E hr hlk hz _ _ _ _ hF _ _ S _ (lv_sub hl [] rfl)
def f_Long_bitCount  (g : m_G) (x0 : Int64) : Option (Int32 × m_G) :=
  some (((((((((((x0 - (((x0 : Int64).toUInt64 >>> ((1 : Int32).toInt64.toUInt64 &&& Int64.toUInt64 63)).toInt64 &&& 6148914691236517205)) &&& 3689348814741910323) + ((((x0 - (((x0 : Int64).toUInt64 >>> ((1 : Int32).toInt64.toUInt64 &&& Int64.toUInt64 63)).toInt64 &&& 6148914691236517205)) : Int64).toUInt64 >>> ((2 : Int32).toInt64.toUInt64 &&& Int64.toUInt64 63)).toInt64 &&& 3689348814741910323)) + (((((x0 - (((x0 : Int64).toUInt64 >>> ((1 : Int32).toInt64.toUInt64 &&& Int64.toUInt64 63)).toInt64 &&& 6148914691236517205)) &&& 3689348814741910323) + ((((x0 - (((x0 : Int64).toUInt64 >>> ((1 : Int32).toInt64.toUInt64 &&& Int64.toUInt64 63)).toInt64 &&& 6148914691236517205)) : Int64).toUInt64 >>> ((2 : Int32).toInt64.toUInt64 &&& Int64.toUInt64 63)).toInt64 &&& 3689348814741910323)) : Int64).toUInt64 >>> ((4 : Int32).toInt64.toUInt64 &&& Int64.toUInt64 63)).toInt64) &&& 1085102592571150095) + (((((((x0 - (((x0 : Int64).toUInt64 >>> ((1 : Int32).toInt64.toUInt64 &&& Int64.toUInt64 63)).toInt64 &&& 6148914691236517205)) &&& 3689348814741910323) + ((((x0 - (((x0 : Int64).toUInt64 >>> ((1 : Int32).toInt64.toUInt64 &&& Int64.toUInt64 63)).toInt64 &&& 6148914691236517205)) : Int64).toUInt64 >>> ((2 : Int32).toInt64.toUInt64 &&& Int64.toUInt64 63)).toInt64 &&& 3689348814741910323)) + (((((x0 - (((x0 : Int64).toUInt64 >>> ((1 : Int32).toInt64.toUInt64 &&& Int64.toUInt64 63)).toInt64 &&& 6148914691236517205)) &&& 3689348814741910323) + ((((x0 - (((x0 : Int64).toUInt64 >>> ((1 : Int32).toInt64.toUInt64 &&& Int64.toUInt64 63)).toInt64 &&& 6148914691236517205)) : Int64).toUInt64 >>> ((2 : Int32).toInt64.toUInt64 &&& Int64.toUInt64 63)).toInt64 &&& 3689348814741910323)) : Int64).toUInt64 >>> ((4 : Int32).toInt64.toUInt64 &&& Int64.toUInt64 63)).toInt64) &&& 1085102592571150095) : Int64).toUInt64 >>> ((8 : Int32).toInt64.toUInt64 &&& Int64.toUInt64 63)).toInt64) + ((((((((x0 - (((x0 : Int64).toUInt64 >>> ((1 : Int32).toInt64.toUInt64 &&& Int64.toUInt64 63)).toInt64 &&& 6148914691236517205)) &&& 3689348814741910323) + ((((x0 - (((x0 : Int64).toUInt64 >>> ((1 : Int32).toInt64.toUInt64 &&& Int64.toUInt64 63)).toInt64 &&& 6148914691236517205)) : Int64).toUInt64 >>> ((2 : Int32).toInt64.toUInt64 &&& Int64.toUInt64 63)).toInt64 &&& 3689348814741910323)) + (((((x0 - (((x0 : Int64).toUInt64 >>> ((1 : Int32).toInt64.toUInt64 &&& Int64.toUInt64 63)).toInt64 &&& 6148914691236517205)) &&& 3689348814741910323) + ((((x0 - (((x0 : Int64).toUInt64 >>> ((1 : Int32).toInt64.toUInt64 &&& Int64.toUInt64 63)).toInt64 &&& 6148914691236517205)) : Int64).toUInt64 >>> ((2 : Int32).toInt64.toUInt64 &&& Int64.toUInt64 63)).toInt64 &&& 3689348814741910323)) : Int64).toUInt64 >>> ((4 : Int32).toInt64.toUInt64 &&& Int64.toUInt64 63)).toInt64) &&& 1085102592571150095) + (((((((x0 - (((x0 : Int64).toUInt64 >>> ((1 : Int32).toInt64.toUInt64 &&& Int64.toUInt64 63)).toInt64 &&& 6148914691236517205)) &&& 3689348814741910323) + ((((x0 - (((x0 : Int64).toUInt64 >>> ((1 : Int32).toInt64.toUInt64 &&& Int64.toUInt64 63)).toInt64 &&& 6148914691236517205)) : Int64).toUInt64 >>> ((2 : Int32).toInt64.toUInt64 &&& Int64.toUInt64 63)).toInt64 &&& 3689348814741910323)) + (((((x0 - (((x0 : Int64).toUInt64 >>> ((1 : Int32).toInt64.toUInt64 &&& Int64.toUInt64 63)).toInt64 &&& 6148914691236517205)) &&& 3689348814741910323) + ((((x0 - (((x0 : Int64).toUInt64 >>> ((1 : Int32).toInt64.toUInt64 &&& Int64.toUInt64 63)).toInt64 &&& 6148914691236517205)) : Int64).toUInt64 >>> ((2 : Int32).toInt64.toUInt64 &&& Int64.toUInt64 63)).toInt64 &&& 3689348814741910323)) : Int64).toUInt64 >>> ((4 : Int32).toInt64.toUInt64 &&& Int64.toUInt64 63)).toInt64) &&& 1085102592571150095) : Int64).toUInt64 >>> ((8 : Int32).toInt64.toUInt64 &&& Int64.toUInt64 63)).toInt64) : Int64).toUInt64 >>> ((16 : Int32).toInt64.toUInt64 &&& Int64.toUInt64 63)).toInt64) + (((((((((x0 - (((x0 : Int64).toUInt64 >>> ((1 : Int32).toInt64.toUInt64 &&& Int64.toUInt64 63)).toInt64 &&& 6148914691236517205)) &&& 3689348814741910323) + ((((x0 - (((x0 : Int64).toUInt64 >>> ((1 : Int32).toInt64.toUInt64 &&& Int64.toUInt64 63)).toInt64 &&& 6148914691236517205)) : Int64).toUInt64 >>> ((2 : Int32).toInt64.toUInt64 &&& Int64.toUInt64 63)).toInt64 &&& 3689348814741910323)) + (((((x0 - (((x0 : Int64).toUInt64 >>> ((1 : Int32).toInt64.toUInt64 &&& Int64.toUInt64 63)).toInt64 &&& 6148914691236517205)) &&& 3689348814741910323) + ((((x0 - (((x0 : Int64).toUInt64 >>> ((1 : Int32).toInt64.toUInt64 &&& Int64.toUInt64 63)).toInt64 &&& 6148914691236517205)) : Int64).toUInt64 >>> ((2 : Int32).toInt64.toUInt64 &&& Int64.toUInt64 63)).toInt64 &&& 3689348814741910323)) : Int64).toUInt64 >>> ((4 : Int32).toInt64.toUInt64 &&& Int64.toUInt64 63)).toInt64) &&& 1085102592571150095) + (((((((x0 - (((x0 : Int64).toUInt64 >>> ((1 : Int32).toInt64.toUInt64 &&& Int64.toUInt64 63)).toInt64 &&& 6148914691236517205)) &&& 3689348814741910323) + ((((x0 - (((x0 : Int64).toUInt64 >>> ((1 : Int32).toInt64.toUInt64 &&& Int64.toUInt64 63)).toInt64 &&& 6148914691236517205)) : Int64).toUInt64 >>> ((2 : Int32).toInt64.toUInt64 &&& Int64.toUInt64 63)).toInt64 &&& 3689348814741910323)) + (((((x0 - (((x0 : Int64).toUInt64 >>> ((1 : Int32).toInt64.toUInt64 &&& Int64.toUInt64 63)).toInt64 &&& 6148914691236517205)) &&& 3689348814741910323) + ((((x0 - (((x0 : Int64).toUInt64 >>> ((1 : Int32).toInt64.toUInt64 &&& Int64.toUInt64 63)).toInt64 &&& 6148914691236517205)) : Int64).toUInt64 >>> ((2 : Int32).toInt64.toUInt64 &&& Int64.toUInt64 63)).toInt64 &&& 3689348814741910323)) : Int64).toUInt64 >>> ((4 : Int32).toInt64.toUInt64 &&& Int64.toUInt64 63)).toInt64) &&& 1085102592571150095) : Int64).toUInt64 >>> ((8 : Int32).toInt64.toUInt64 &&& Int64.toUInt64 63)).toInt64) + ((((((((x0 - (((x0 : Int64).toUInt64 >>> ((1 : Int32).toInt64.toUInt64 &&& Int64.toUInt64 63)).toInt64 &&& 6148914691236517205)) &&& 3689348814741910323) + ((((x0 - (((x0 : Int64).toUInt64 >>> ((1 : Int32).toInt64.toUInt64 &&& Int64.toUInt64 63)).toInt64 &&& 6148914691236517205)) : Int64).toUInt64 >>> ((2 : Int32).toInt64.toUInt64 &&& Int64.toUInt64 63)).toInt64 &&& 3689348814741910323)) + (((((x0 - (((x0 : Int64).toUInt64 >>> ((1 : Int32).toInt64.toUInt64 &&& Int64.toUInt64 63)).toInt64 &&& 6148914691236517205)) &&& 3689348814741910323) + ((((x0 - (((x0 : Int64).toUInt64 >>> ((1 : Int32).toInt64.toUInt64 &&& Int64.toUInt64 63)).toInt64 &&& 6148914691236517205)) : Int64).toUInt64 >>> ((2 : Int32).toInt64.toUInt64 &&& Int64.toUInt64 63)).toInt64 &&& 3689348814741910323)) : Int64).toUInt64 >>> ((4 : Int32).toInt64.toUInt64 &&& Int64.toUInt64 63)).toInt64) &&& 1085102592571150095) + (((((((x0 - (((x0 : Int64).toUInt64 >>> ((1 : Int32).toInt64.toUInt64 &&& Int64.toUInt64 63)).toInt64 &&& 6148914691236517205)) &&& 3689348814741910323) + ((((x0 - (((x0 : Int64).toUInt64 >>> ((1 : Int32).toInt64.toUInt64 &&& Int64.toUInt64 63)).toInt64 &&& 6148914691236517205)) : Int64).toUInt64 >>> ((2 : Int32).toInt64.toUInt64 &&& Int64.toUInt64 63)).toInt64 &&& 3689348814741910323)) + (((((x0 - (((x0 : Int64).toUInt64 >>> ((1 : Int32).toInt64.toUInt64 &&& Int64.toUInt64 63)).toInt64 &&& 6148914691236517205)) &&& 3689348814741910323) + ((((x0 - (((x0 : Int64).toUInt64 >>> ((1 : Int32).toInt64.toUInt64 &&& Int64.toUInt64 63)).toInt64 &&& 6148914691236517205)) : Int64).toUInt64 >>> ((2 : Int32).toInt64.toUInt64 &&& Int64.toUInt64 63)).toInt64 &&& 3689348814741910323)) : Int64).toUInt64 >>> ((4 : Int32).toInt64.toUInt64 &&& Int64.toUInt64 63)).toInt64) &&& 1085102592571150095) : Int64).toUInt64 >>> ((8 : Int32).toInt64.toUInt64 &&& Int64.toUInt64 63)).toInt64) : Int64).toUInt64 >>> ((16 : Int32).toInt64.toUInt64 &&& Int64.toUInt64 63)).toInt64) : Int64).toUInt64 >>> ((32 : Int32).toInt64.toUInt64 &&& Int64.toUInt64 63)).toInt64) : Int64).toInt32 &&& 127), g)
set_option maxHeartbeats 1000000 in
set_option maxRecDepth 100000 in
theorem c_Long_bitCount (l : Launch) (D : va_G) (B : Nat) (K : Nat → ClassId)  (n : Nat) (g : m_G) (x0 : Int64) (r : Int32) (g' : m_G) (hF : f_Long_bitCount g x0 = some (r, g')) : Met l y_Long_bitCount (Cond.code y_Long_bitCount b_Long_bitCount 2 (some .int) :: m_TB) ({ frames := 0, cells := 0, slots := 0, locals := 0 } : Room) (m_Pc D B K n g [.long x0]) (m_Q D B K (some (.int r)) n g') 0 0 (fun q => B ≤ q) := by
  refine m_met (by decide) (Nat.le_of_ble_eq_true rfl) ?_
  intro p e s m args below meth c ls E hr hlk hin hsz S hl
  have E : m_V p m c b_Long_bitCount 2 s args R_Long D K := E
  have hz : s.heap.size + 0 = B + n := hsz
  have hl : lv_has ls 2 [(0, .long x0)] := hl
  have hx := E.1.1
  have hb := E.1.2.1
  have hts := E.1.2.2.2.2
  unfold f_Long_bitCount at hF
  refine lv_lload_n hx hb d_Long_bitCount_0 rfl (lv_at hl 0 rfl) ?_
  refine lv_lload_n hx hb d_Long_bitCount_1 rfl (lv_at hl 0 rfl) ?_
  refine lv_iconst (v := 1) hx hb d_Long_bitCount_2 (by decide) ?_
  refine lv_lushr hx hb d_Long_bitCount_3 rfl ?_
  refine lv_ldc2 (v := 6148914691236517205) hx hb E.1.2.2.2.1 (hts _ qw_271) d_Long_bitCount_4 ?_
  refine lv_land hx hb d_Long_bitCount_7 ?_
  refine lv_lsub hx hb d_Long_bitCount_8 ?_
  refine lv_lstore_n (lv' := [(0, .long (x0 - (((x0 : Int64).toUInt64 >>> ((1 : Int32).toInt64.toUInt64 &&& Int64.toUInt64 63)).toInt64 &&& 6148914691236517205)))]) hx hb d_Long_bitCount_9 rfl hl (by decide) rfl (fun ls hl => ?_)
  refine lv_lload_n hx hb d_Long_bitCount_10 rfl (lv_at hl 0 rfl) ?_
  refine lv_ldc2 (v := 3689348814741910323) hx hb E.1.2.2.2.1 (hts _ qw_272) d_Long_bitCount_11 ?_
  refine lv_land hx hb d_Long_bitCount_14 ?_
  refine lv_lload_n hx hb d_Long_bitCount_15 rfl (lv_at hl 0 rfl) ?_
  refine lv_iconst (v := 2) hx hb d_Long_bitCount_16 (by decide) ?_
  refine lv_lushr hx hb d_Long_bitCount_17 rfl ?_
  refine lv_ldc2 (v := 3689348814741910323) hx hb E.1.2.2.2.1 (hts _ qw_272) d_Long_bitCount_18 ?_
  refine lv_land hx hb d_Long_bitCount_21 ?_
  refine lv_ladd hx hb d_Long_bitCount_22 ?_
  refine lv_lstore_n (lv' := [(0, .long (((x0 - (((x0 : Int64).toUInt64 >>> ((1 : Int32).toInt64.toUInt64 &&& Int64.toUInt64 63)).toInt64 &&& 6148914691236517205)) &&& 3689348814741910323) + ((((x0 - (((x0 : Int64).toUInt64 >>> ((1 : Int32).toInt64.toUInt64 &&& Int64.toUInt64 63)).toInt64 &&& 6148914691236517205)) : Int64).toUInt64 >>> ((2 : Int32).toInt64.toUInt64 &&& Int64.toUInt64 63)).toInt64 &&& 3689348814741910323)))]) hx hb d_Long_bitCount_23 rfl hl (by decide) rfl (fun ls hl => ?_)
  refine lv_lload_n hx hb d_Long_bitCount_24 rfl (lv_at hl 0 rfl) ?_
  refine lv_lload_n hx hb d_Long_bitCount_25 rfl (lv_at hl 0 rfl) ?_
  refine lv_iconst (v := 4) hx hb d_Long_bitCount_26 (by decide) ?_
  refine lv_lushr hx hb d_Long_bitCount_27 rfl ?_
  refine lv_ladd hx hb d_Long_bitCount_28 ?_
  refine lv_ldc2 (v := 1085102592571150095) hx hb E.1.2.2.2.1 (hts _ qw_273) d_Long_bitCount_29 ?_
  refine lv_land hx hb d_Long_bitCount_32 ?_
  refine lv_lstore_n (lv' := [(0, .long (((((x0 - (((x0 : Int64).toUInt64 >>> ((1 : Int32).toInt64.toUInt64 &&& Int64.toUInt64 63)).toInt64 &&& 6148914691236517205)) &&& 3689348814741910323) + ((((x0 - (((x0 : Int64).toUInt64 >>> ((1 : Int32).toInt64.toUInt64 &&& Int64.toUInt64 63)).toInt64 &&& 6148914691236517205)) : Int64).toUInt64 >>> ((2 : Int32).toInt64.toUInt64 &&& Int64.toUInt64 63)).toInt64 &&& 3689348814741910323)) + (((((x0 - (((x0 : Int64).toUInt64 >>> ((1 : Int32).toInt64.toUInt64 &&& Int64.toUInt64 63)).toInt64 &&& 6148914691236517205)) &&& 3689348814741910323) + ((((x0 - (((x0 : Int64).toUInt64 >>> ((1 : Int32).toInt64.toUInt64 &&& Int64.toUInt64 63)).toInt64 &&& 6148914691236517205)) : Int64).toUInt64 >>> ((2 : Int32).toInt64.toUInt64 &&& Int64.toUInt64 63)).toInt64 &&& 3689348814741910323)) : Int64).toUInt64 >>> ((4 : Int32).toInt64.toUInt64 &&& Int64.toUInt64 63)).toInt64) &&& 1085102592571150095))]) hx hb d_Long_bitCount_33 rfl hl (by decide) rfl (fun ls hl => ?_)
  refine lv_lload_n hx hb d_Long_bitCount_34 rfl (lv_at hl 0 rfl) ?_
  refine lv_lload_n hx hb d_Long_bitCount_35 rfl (lv_at hl 0 rfl) ?_
  refine lv_bipush (v := 8) hx hb d_Long_bitCount_36 (by decide) ?_
  refine lv_lushr hx hb d_Long_bitCount_38 rfl ?_
  refine lv_ladd hx hb d_Long_bitCount_39 ?_
  refine lv_lstore_n (lv' := [(0, .long ((((((x0 - (((x0 : Int64).toUInt64 >>> ((1 : Int32).toInt64.toUInt64 &&& Int64.toUInt64 63)).toInt64 &&& 6148914691236517205)) &&& 3689348814741910323) + ((((x0 - (((x0 : Int64).toUInt64 >>> ((1 : Int32).toInt64.toUInt64 &&& Int64.toUInt64 63)).toInt64 &&& 6148914691236517205)) : Int64).toUInt64 >>> ((2 : Int32).toInt64.toUInt64 &&& Int64.toUInt64 63)).toInt64 &&& 3689348814741910323)) + (((((x0 - (((x0 : Int64).toUInt64 >>> ((1 : Int32).toInt64.toUInt64 &&& Int64.toUInt64 63)).toInt64 &&& 6148914691236517205)) &&& 3689348814741910323) + ((((x0 - (((x0 : Int64).toUInt64 >>> ((1 : Int32).toInt64.toUInt64 &&& Int64.toUInt64 63)).toInt64 &&& 6148914691236517205)) : Int64).toUInt64 >>> ((2 : Int32).toInt64.toUInt64 &&& Int64.toUInt64 63)).toInt64 &&& 3689348814741910323)) : Int64).toUInt64 >>> ((4 : Int32).toInt64.toUInt64 &&& Int64.toUInt64 63)).toInt64) &&& 1085102592571150095) + (((((((x0 - (((x0 : Int64).toUInt64 >>> ((1 : Int32).toInt64.toUInt64 &&& Int64.toUInt64 63)).toInt64 &&& 6148914691236517205)) &&& 3689348814741910323) + ((((x0 - (((x0 : Int64).toUInt64 >>> ((1 : Int32).toInt64.toUInt64 &&& Int64.toUInt64 63)).toInt64 &&& 6148914691236517205)) : Int64).toUInt64 >>> ((2 : Int32).toInt64.toUInt64 &&& Int64.toUInt64 63)).toInt64 &&& 3689348814741910323)) + (((((x0 - (((x0 : Int64).toUInt64 >>> ((1 : Int32).toInt64.toUInt64 &&& Int64.toUInt64 63)).toInt64 &&& 6148914691236517205)) &&& 3689348814741910323) + ((((x0 - (((x0 : Int64).toUInt64 >>> ((1 : Int32).toInt64.toUInt64 &&& Int64.toUInt64 63)).toInt64 &&& 6148914691236517205)) : Int64).toUInt64 >>> ((2 : Int32).toInt64.toUInt64 &&& Int64.toUInt64 63)).toInt64 &&& 3689348814741910323)) : Int64).toUInt64 >>> ((4 : Int32).toInt64.toUInt64 &&& Int64.toUInt64 63)).toInt64) &&& 1085102592571150095) : Int64).toUInt64 >>> ((8 : Int32).toInt64.toUInt64 &&& Int64.toUInt64 63)).toInt64))]) hx hb d_Long_bitCount_40 rfl hl (by decide) rfl (fun ls hl => ?_)
  refine lv_lload_n hx hb d_Long_bitCount_41 rfl (lv_at hl 0 rfl) ?_
  refine lv_lload_n hx hb d_Long_bitCount_42 rfl (lv_at hl 0 rfl) ?_
  refine lv_bipush (v := 16) hx hb d_Long_bitCount_43 (by decide) ?_
  refine lv_lushr hx hb d_Long_bitCount_45 rfl ?_
  refine lv_ladd hx hb d_Long_bitCount_46 ?_
  refine lv_lstore_n (lv' := [(0, .long (((((((x0 - (((x0 : Int64).toUInt64 >>> ((1 : Int32).toInt64.toUInt64 &&& Int64.toUInt64 63)).toInt64 &&& 6148914691236517205)) &&& 3689348814741910323) + ((((x0 - (((x0 : Int64).toUInt64 >>> ((1 : Int32).toInt64.toUInt64 &&& Int64.toUInt64 63)).toInt64 &&& 6148914691236517205)) : Int64).toUInt64 >>> ((2 : Int32).toInt64.toUInt64 &&& Int64.toUInt64 63)).toInt64 &&& 3689348814741910323)) + (((((x0 - (((x0 : Int64).toUInt64 >>> ((1 : Int32).toInt64.toUInt64 &&& Int64.toUInt64 63)).toInt64 &&& 6148914691236517205)) &&& 3689348814741910323) + ((((x0 - (((x0 : Int64).toUInt64 >>> ((1 : Int32).toInt64.toUInt64 &&& Int64.toUInt64 63)).toInt64 &&& 6148914691236517205)) : Int64).toUInt64 >>> ((2 : Int32).toInt64.toUInt64 &&& Int64.toUInt64 63)).toInt64 &&& 3689348814741910323)) : Int64).toUInt64 >>> ((4 : Int32).toInt64.toUInt64 &&& Int64.toUInt64 63)).toInt64) &&& 1085102592571150095) + (((((((x0 - (((x0 : Int64).toUInt64 >>> ((1 : Int32).toInt64.toUInt64 &&& Int64.toUInt64 63)).toInt64 &&& 6148914691236517205)) &&& 3689348814741910323) + ((((x0 - (((x0 : Int64).toUInt64 >>> ((1 : Int32).toInt64.toUInt64 &&& Int64.toUInt64 63)).toInt64 &&& 6148914691236517205)) : Int64).toUInt64 >>> ((2 : Int32).toInt64.toUInt64 &&& Int64.toUInt64 63)).toInt64 &&& 3689348814741910323)) + (((((x0 - (((x0 : Int64).toUInt64 >>> ((1 : Int32).toInt64.toUInt64 &&& Int64.toUInt64 63)).toInt64 &&& 6148914691236517205)) &&& 3689348814741910323) + ((((x0 - (((x0 : Int64).toUInt64 >>> ((1 : Int32).toInt64.toUInt64 &&& Int64.toUInt64 63)).toInt64 &&& 6148914691236517205)) : Int64).toUInt64 >>> ((2 : Int32).toInt64.toUInt64 &&& Int64.toUInt64 63)).toInt64 &&& 3689348814741910323)) : Int64).toUInt64 >>> ((4 : Int32).toInt64.toUInt64 &&& Int64.toUInt64 63)).toInt64) &&& 1085102592571150095) : Int64).toUInt64 >>> ((8 : Int32).toInt64.toUInt64 &&& Int64.toUInt64 63)).toInt64) + ((((((((x0 - (((x0 : Int64).toUInt64 >>> ((1 : Int32).toInt64.toUInt64 &&& Int64.toUInt64 63)).toInt64 &&& 6148914691236517205)) &&& 3689348814741910323) + ((((x0 - (((x0 : Int64).toUInt64 >>> ((1 : Int32).toInt64.toUInt64 &&& Int64.toUInt64 63)).toInt64 &&& 6148914691236517205)) : Int64).toUInt64 >>> ((2 : Int32).toInt64.toUInt64 &&& Int64.toUInt64 63)).toInt64 &&& 3689348814741910323)) + (((((x0 - (((x0 : Int64).toUInt64 >>> ((1 : Int32).toInt64.toUInt64 &&& Int64.toUInt64 63)).toInt64 &&& 6148914691236517205)) &&& 3689348814741910323) + ((((x0 - (((x0 : Int64).toUInt64 >>> ((1 : Int32).toInt64.toUInt64 &&& Int64.toUInt64 63)).toInt64 &&& 6148914691236517205)) : Int64).toUInt64 >>> ((2 : Int32).toInt64.toUInt64 &&& Int64.toUInt64 63)).toInt64 &&& 3689348814741910323)) : Int64).toUInt64 >>> ((4 : Int32).toInt64.toUInt64 &&& Int64.toUInt64 63)).toInt64) &&& 1085102592571150095) + (((((((x0 - (((x0 : Int64).toUInt64 >>> ((1 : Int32).toInt64.toUInt64 &&& Int64.toUInt64 63)).toInt64 &&& 6148914691236517205)) &&& 3689348814741910323) + ((((x0 - (((x0 : Int64).toUInt64 >>> ((1 : Int32).toInt64.toUInt64 &&& Int64.toUInt64 63)).toInt64 &&& 6148914691236517205)) : Int64).toUInt64 >>> ((2 : Int32).toInt64.toUInt64 &&& Int64.toUInt64 63)).toInt64 &&& 3689348814741910323)) + (((((x0 - (((x0 : Int64).toUInt64 >>> ((1 : Int32).toInt64.toUInt64 &&& Int64.toUInt64 63)).toInt64 &&& 6148914691236517205)) &&& 3689348814741910323) + ((((x0 - (((x0 : Int64).toUInt64 >>> ((1 : Int32).toInt64.toUInt64 &&& Int64.toUInt64 63)).toInt64 &&& 6148914691236517205)) : Int64).toUInt64 >>> ((2 : Int32).toInt64.toUInt64 &&& Int64.toUInt64 63)).toInt64 &&& 3689348814741910323)) : Int64).toUInt64 >>> ((4 : Int32).toInt64.toUInt64 &&& Int64.toUInt64 63)).toInt64) &&& 1085102592571150095) : Int64).toUInt64 >>> ((8 : Int32).toInt64.toUInt64 &&& Int64.toUInt64 63)).toInt64) : Int64).toUInt64 >>> ((16 : Int32).toInt64.toUInt64 &&& Int64.toUInt64 63)).toInt64))]) hx hb d_Long_bitCount_47 rfl hl (by decide) rfl (fun ls hl => ?_)
  refine lv_lload_n hx hb d_Long_bitCount_48 rfl (lv_at hl 0 rfl) ?_
  refine lv_lload_n hx hb d_Long_bitCount_49 rfl (lv_at hl 0 rfl) ?_
  refine lv_bipush (v := 32) hx hb d_Long_bitCount_50 (by decide) ?_
  refine lv_lushr hx hb d_Long_bitCount_52 rfl ?_
  refine lv_ladd hx hb d_Long_bitCount_53 ?_
  refine lv_lstore_n (lv' := [(0, .long ((((((((x0 - (((x0 : Int64).toUInt64 >>> ((1 : Int32).toInt64.toUInt64 &&& Int64.toUInt64 63)).toInt64 &&& 6148914691236517205)) &&& 3689348814741910323) + ((((x0 - (((x0 : Int64).toUInt64 >>> ((1 : Int32).toInt64.toUInt64 &&& Int64.toUInt64 63)).toInt64 &&& 6148914691236517205)) : Int64).toUInt64 >>> ((2 : Int32).toInt64.toUInt64 &&& Int64.toUInt64 63)).toInt64 &&& 3689348814741910323)) + (((((x0 - (((x0 : Int64).toUInt64 >>> ((1 : Int32).toInt64.toUInt64 &&& Int64.toUInt64 63)).toInt64 &&& 6148914691236517205)) &&& 3689348814741910323) + ((((x0 - (((x0 : Int64).toUInt64 >>> ((1 : Int32).toInt64.toUInt64 &&& Int64.toUInt64 63)).toInt64 &&& 6148914691236517205)) : Int64).toUInt64 >>> ((2 : Int32).toInt64.toUInt64 &&& Int64.toUInt64 63)).toInt64 &&& 3689348814741910323)) : Int64).toUInt64 >>> ((4 : Int32).toInt64.toUInt64 &&& Int64.toUInt64 63)).toInt64) &&& 1085102592571150095) + (((((((x0 - (((x0 : Int64).toUInt64 >>> ((1 : Int32).toInt64.toUInt64 &&& Int64.toUInt64 63)).toInt64 &&& 6148914691236517205)) &&& 3689348814741910323) + ((((x0 - (((x0 : Int64).toUInt64 >>> ((1 : Int32).toInt64.toUInt64 &&& Int64.toUInt64 63)).toInt64 &&& 6148914691236517205)) : Int64).toUInt64 >>> ((2 : Int32).toInt64.toUInt64 &&& Int64.toUInt64 63)).toInt64 &&& 3689348814741910323)) + (((((x0 - (((x0 : Int64).toUInt64 >>> ((1 : Int32).toInt64.toUInt64 &&& Int64.toUInt64 63)).toInt64 &&& 6148914691236517205)) &&& 3689348814741910323) + ((((x0 - (((x0 : Int64).toUInt64 >>> ((1 : Int32).toInt64.toUInt64 &&& Int64.toUInt64 63)).toInt64 &&& 6148914691236517205)) : Int64).toUInt64 >>> ((2 : Int32).toInt64.toUInt64 &&& Int64.toUInt64 63)).toInt64 &&& 3689348814741910323)) : Int64).toUInt64 >>> ((4 : Int32).toInt64.toUInt64 &&& Int64.toUInt64 63)).toInt64) &&& 1085102592571150095) : Int64).toUInt64 >>> ((8 : Int32).toInt64.toUInt64 &&& Int64.toUInt64 63)).toInt64) + ((((((((x0 - (((x0 : Int64).toUInt64 >>> ((1 : Int32).toInt64.toUInt64 &&& Int64.toUInt64 63)).toInt64 &&& 6148914691236517205)) &&& 3689348814741910323) + ((((x0 - (((x0 : Int64).toUInt64 >>> ((1 : Int32).toInt64.toUInt64 &&& Int64.toUInt64 63)).toInt64 &&& 6148914691236517205)) : Int64).toUInt64 >>> ((2 : Int32).toInt64.toUInt64 &&& Int64.toUInt64 63)).toInt64 &&& 3689348814741910323)) + (((((x0 - (((x0 : Int64).toUInt64 >>> ((1 : Int32).toInt64.toUInt64 &&& Int64.toUInt64 63)).toInt64 &&& 6148914691236517205)) &&& 3689348814741910323) + ((((x0 - (((x0 : Int64).toUInt64 >>> ((1 : Int32).toInt64.toUInt64 &&& Int64.toUInt64 63)).toInt64 &&& 6148914691236517205)) : Int64).toUInt64 >>> ((2 : Int32).toInt64.toUInt64 &&& Int64.toUInt64 63)).toInt64 &&& 3689348814741910323)) : Int64).toUInt64 >>> ((4 : Int32).toInt64.toUInt64 &&& Int64.toUInt64 63)).toInt64) &&& 1085102592571150095) + (((((((x0 - (((x0 : Int64).toUInt64 >>> ((1 : Int32).toInt64.toUInt64 &&& Int64.toUInt64 63)).toInt64 &&& 6148914691236517205)) &&& 3689348814741910323) + ((((x0 - (((x0 : Int64).toUInt64 >>> ((1 : Int32).toInt64.toUInt64 &&& Int64.toUInt64 63)).toInt64 &&& 6148914691236517205)) : Int64).toUInt64 >>> ((2 : Int32).toInt64.toUInt64 &&& Int64.toUInt64 63)).toInt64 &&& 3689348814741910323)) + (((((x0 - (((x0 : Int64).toUInt64 >>> ((1 : Int32).toInt64.toUInt64 &&& Int64.toUInt64 63)).toInt64 &&& 6148914691236517205)) &&& 3689348814741910323) + ((((x0 - (((x0 : Int64).toUInt64 >>> ((1 : Int32).toInt64.toUInt64 &&& Int64.toUInt64 63)).toInt64 &&& 6148914691236517205)) : Int64).toUInt64 >>> ((2 : Int32).toInt64.toUInt64 &&& Int64.toUInt64 63)).toInt64 &&& 3689348814741910323)) : Int64).toUInt64 >>> ((4 : Int32).toInt64.toUInt64 &&& Int64.toUInt64 63)).toInt64) &&& 1085102592571150095) : Int64).toUInt64 >>> ((8 : Int32).toInt64.toUInt64 &&& Int64.toUInt64 63)).toInt64) : Int64).toUInt64 >>> ((16 : Int32).toInt64.toUInt64 &&& Int64.toUInt64 63)).toInt64) + (((((((((x0 - (((x0 : Int64).toUInt64 >>> ((1 : Int32).toInt64.toUInt64 &&& Int64.toUInt64 63)).toInt64 &&& 6148914691236517205)) &&& 3689348814741910323) + ((((x0 - (((x0 : Int64).toUInt64 >>> ((1 : Int32).toInt64.toUInt64 &&& Int64.toUInt64 63)).toInt64 &&& 6148914691236517205)) : Int64).toUInt64 >>> ((2 : Int32).toInt64.toUInt64 &&& Int64.toUInt64 63)).toInt64 &&& 3689348814741910323)) + (((((x0 - (((x0 : Int64).toUInt64 >>> ((1 : Int32).toInt64.toUInt64 &&& Int64.toUInt64 63)).toInt64 &&& 6148914691236517205)) &&& 3689348814741910323) + ((((x0 - (((x0 : Int64).toUInt64 >>> ((1 : Int32).toInt64.toUInt64 &&& Int64.toUInt64 63)).toInt64 &&& 6148914691236517205)) : Int64).toUInt64 >>> ((2 : Int32).toInt64.toUInt64 &&& Int64.toUInt64 63)).toInt64 &&& 3689348814741910323)) : Int64).toUInt64 >>> ((4 : Int32).toInt64.toUInt64 &&& Int64.toUInt64 63)).toInt64) &&& 1085102592571150095) + (((((((x0 - (((x0 : Int64).toUInt64 >>> ((1 : Int32).toInt64.toUInt64 &&& Int64.toUInt64 63)).toInt64 &&& 6148914691236517205)) &&& 3689348814741910323) + ((((x0 - (((x0 : Int64).toUInt64 >>> ((1 : Int32).toInt64.toUInt64 &&& Int64.toUInt64 63)).toInt64 &&& 6148914691236517205)) : Int64).toUInt64 >>> ((2 : Int32).toInt64.toUInt64 &&& Int64.toUInt64 63)).toInt64 &&& 3689348814741910323)) + (((((x0 - (((x0 : Int64).toUInt64 >>> ((1 : Int32).toInt64.toUInt64 &&& Int64.toUInt64 63)).toInt64 &&& 6148914691236517205)) &&& 3689348814741910323) + ((((x0 - (((x0 : Int64).toUInt64 >>> ((1 : Int32).toInt64.toUInt64 &&& Int64.toUInt64 63)).toInt64 &&& 6148914691236517205)) : Int64).toUInt64 >>> ((2 : Int32).toInt64.toUInt64 &&& Int64.toUInt64 63)).toInt64 &&& 3689348814741910323)) : Int64).toUInt64 >>> ((4 : Int32).toInt64.toUInt64 &&& Int64.toUInt64 63)).toInt64) &&& 1085102592571150095) : Int64).toUInt64 >>> ((8 : Int32).toInt64.toUInt64 &&& Int64.toUInt64 63)).toInt64) + ((((((((x0 - (((x0 : Int64).toUInt64 >>> ((1 : Int32).toInt64.toUInt64 &&& Int64.toUInt64 63)).toInt64 &&& 6148914691236517205)) &&& 3689348814741910323) + ((((x0 - (((x0 : Int64).toUInt64 >>> ((1 : Int32).toInt64.toUInt64 &&& Int64.toUInt64 63)).toInt64 &&& 6148914691236517205)) : Int64).toUInt64 >>> ((2 : Int32).toInt64.toUInt64 &&& Int64.toUInt64 63)).toInt64 &&& 3689348814741910323)) + (((((x0 - (((x0 : Int64).toUInt64 >>> ((1 : Int32).toInt64.toUInt64 &&& Int64.toUInt64 63)).toInt64 &&& 6148914691236517205)) &&& 3689348814741910323) + ((((x0 - (((x0 : Int64).toUInt64 >>> ((1 : Int32).toInt64.toUInt64 &&& Int64.toUInt64 63)).toInt64 &&& 6148914691236517205)) : Int64).toUInt64 >>> ((2 : Int32).toInt64.toUInt64 &&& Int64.toUInt64 63)).toInt64 &&& 3689348814741910323)) : Int64).toUInt64 >>> ((4 : Int32).toInt64.toUInt64 &&& Int64.toUInt64 63)).toInt64) &&& 1085102592571150095) + (((((((x0 - (((x0 : Int64).toUInt64 >>> ((1 : Int32).toInt64.toUInt64 &&& Int64.toUInt64 63)).toInt64 &&& 6148914691236517205)) &&& 3689348814741910323) + ((((x0 - (((x0 : Int64).toUInt64 >>> ((1 : Int32).toInt64.toUInt64 &&& Int64.toUInt64 63)).toInt64 &&& 6148914691236517205)) : Int64).toUInt64 >>> ((2 : Int32).toInt64.toUInt64 &&& Int64.toUInt64 63)).toInt64 &&& 3689348814741910323)) + (((((x0 - (((x0 : Int64).toUInt64 >>> ((1 : Int32).toInt64.toUInt64 &&& Int64.toUInt64 63)).toInt64 &&& 6148914691236517205)) &&& 3689348814741910323) + ((((x0 - (((x0 : Int64).toUInt64 >>> ((1 : Int32).toInt64.toUInt64 &&& Int64.toUInt64 63)).toInt64 &&& 6148914691236517205)) : Int64).toUInt64 >>> ((2 : Int32).toInt64.toUInt64 &&& Int64.toUInt64 63)).toInt64 &&& 3689348814741910323)) : Int64).toUInt64 >>> ((4 : Int32).toInt64.toUInt64 &&& Int64.toUInt64 63)).toInt64) &&& 1085102592571150095) : Int64).toUInt64 >>> ((8 : Int32).toInt64.toUInt64 &&& Int64.toUInt64 63)).toInt64) : Int64).toUInt64 >>> ((16 : Int32).toInt64.toUInt64 &&& Int64.toUInt64 63)).toInt64) : Int64).toUInt64 >>> ((32 : Int32).toInt64.toUInt64 &&& Int64.toUInt64 63)).toInt64))]) hx hb d_Long_bitCount_54 rfl hl (by decide) rfl (fun ls hl => ?_)
  refine lv_lload_n hx hb d_Long_bitCount_55 rfl (lv_at hl 0 rfl) ?_
  refine lv_l2i hx hb d_Long_bitCount_56 rfl ?_
  refine lv_bipush (v := 127) hx hb d_Long_bitCount_57 (by decide) ?_
  refine lv_iand hx hb d_Long_bitCount_59 ?_
  cases hF
  exact m_iret E S hz hr hlk d_Long_bitCount_60
section S_Arc_count
variable {p : Program} {l : Launch} {e : Env} {s : State} {m : MethodId} {args : Array Value} {below : List Frame} {meth : Method} {c : Code} {D : va_G} {B n : Nat} {K : Nat → ClassId}
def f_Arc_count_102   (g : m_G) (y0 : Int32) : Option (Int32 × m_G) :=
  some (y0, g)
set_option maxHeartbeats 1000000 in
set_option maxRecDepth 100000 in
theorem c_Arc_count_102 (E : m_V p m c b_Arc_count 2 s args R_Arc D K) (hr : meth.sig.returnType = (some .int)) (hlk : meth.locks = false) (hz : s.heap.size + 0 = B + n)   : ∀ (g : m_G) (y0 : Int32) (r : Int32) (g' : m_G), f_Arc_count_102 g y0 = some (r, g') → ∀ (H : Heap) (locs : List Loc), m_S D B K n g s.heap H locs → ∀ ls : Array Slot, lv_has ls 2 [] → W p l e ({ frames := 3, cells := 0, slots := 0, locals := 73 } : Room) s m args below meth c H locs 0 0 (MQ below (m_Q D B K (some (.int r)) n g') args s 0 0 (fun q => B ≤ q)) (F0 m 102 ls [.int y0]) := by
  have hx := E.1.1
  have hb := E.1.2.1
  have hts := E.1.2.2.2.2
  intro g y0 r g' hF H locs S ls hl
  unfold f_Arc_count_102 at hF
  cases hF
  exact m_iret E S hz hr hlk d_Arc_count_102
end S_Arc_count
def f_Arc_count  (g : m_G) (a0 : Nat) (x1 : Int32) : Option (Int32 × m_G) :=
  if (x1 : Int32) = 0 then
    (m_gI g a0 0 7).bind fun v_2 =>
    some (v_2, g)
  else
  if (x1 : Int32) = 1 then
    (m_gR g a0 0 0).bind fun v_4 =>
    Option.bind v_4 fun a_5 =>
    (m_gI g a_5 1 1).bind fun v_6 =>
    some (v_6, g)
  else
  if (x1 : Int32) = 2 then
    (m_gR g a0 0 1).bind fun v_8 =>
    Option.bind v_8 fun a_9 =>
    (m_gI g a_9 2 1).bind fun v_10 =>
    some (v_10, g)
  else
  if (x1 : Int32) = 3 then
    (m_gI g a0 0 8).bind fun v_12 =>
    m_bd (f_Integer_bitCount g v_12) fun v_14 g_13 =>
    some (v_14, g_13)
  else
  if (x1 : Int32) = 4 then
    m_gd (m_is g a0 0) <|
    m_bd (f_Arc_numbersThere g a0) fun v_17 g_16 =>
    m_gd (m_is g_16 a0 0) <|
    m_bd (f_Arc_rootsOf g_16 a0 v_17) fun v_19 g_18 =>
    m_bd (f_Long_bitCount g_18 v_19) fun v_21 g_20 =>
    some (v_21, g_20)
  else
  if (x1 : Int32) = 5 then
    m_gd (m_is g a0 0) <|
    m_bd (f_Arc_differentCodes g a0) fun v_24 g_23 =>
    some (v_24, g_23)
  else
    if (0 : Int32) ≤ x1 then
      m_gd (m_is g a0 0) <|
      m_bd (f_Arc_leavesOf g a0 (x1 - 6)) fun v_27 g_26 =>
      f_Arc_count_102 g_26 v_27
    else
      f_Arc_count_102 g (-1)
set_option maxHeartbeats 1000000 in
set_option maxRecDepth 100000 in
theorem c_Arc_count (l : Launch) (D : va_G) (B : Nat) (K : Nat → ClassId)  (n : Nat) (g : m_G) (a0 : Nat) (x1 : Int32) (r : Int32) (g' : m_G) (hF : f_Arc_count g a0 x1 = some (r, g')) : Met l y_Arc_count (Cond.code y_Arc_count b_Arc_count 2 (some .int) :: m_TB) ({ frames := 3, cells := 0, slots := 0, locals := 73 } : Room) (m_Pc D B K n g [.ref (B + a0), .int x1]) (m_Q D B K (some (.int r)) n g') 0 0 (fun q => B ≤ q) := by
  refine m_met (by decide) (Nat.le_of_ble_eq_true rfl) ?_
  intro p e s m args below meth c ls E hr hlk hin hsz S hl
  have E : m_V p m c b_Arc_count 2 s args R_Arc D K := E
  have hz : s.heap.size + 0 = B + n := hsz
  have hl : lv_has ls 2 [(0, .ref (B + a0)), (1, .int x1)] := hl
  have hx := E.1.1
  have hb := E.1.2.1
  have hts := E.1.2.2.2.2
  unfold f_Arc_count at hF
  refine lv_iload_n hx hb d_Arc_count_0 rfl (lv_at hl 1 rfl) ?_
  by_cases c_1 : (x1 : Int32) = 0
  · rw [if_pos c_1] at hF
    refine lv_tableIn (off := 39) (tgt := 40) hx hb d_Arc_count_1 (by rw [c_1]; decide) (by rw [c_1]; decide) (by rw [c_1]; rfl) (by decide) ?_
    refine lv_aload_n hx hb d_Arc_count_40 rfl (lv_at hl 0 rfl) ?_
    replace hF := Option.bind_eq_some_iff.mp hF
    obtain ⟨v_2, ev_2, hF⟩ := hF
    refine m_getI (B := B) (a := a0) E S fd_Arc_messageCount (Or.inl qw_80) ev_2 d_Arc_count_41 ?_
    cases hF
    exact m_iret E S hz hr hlk d_Arc_count_44
  rw [if_neg c_1] at hF
  by_cases c_3 : (x1 : Int32) = 1
  · rw [if_pos c_3] at hF
    refine lv_tableIn (off := 44) (tgt := 45) hx hb d_Arc_count_1 (by rw [c_3]; decide) (by rw [c_3]; decide) (by rw [c_3]; rfl) (by decide) ?_
    refine lv_aload_n hx hb d_Arc_count_45 rfl (lv_at hl 0 rfl) ?_
    replace hF := Option.bind_eq_some_iff.mp hF
    obtain ⟨v_4, ev_4, hF⟩ := hF
    refine m_getR (B := B) (a := a0) E S fd_Arc_line (Or.inl qw_54) ev_4 d_Arc_count_46 ?_
    replace hF := Option.bind_eq_some_iff.mp hF
    obtain ⟨a_5, ea_5, hF⟩ := hF
    subst ea_5
    replace hF := Option.bind_eq_some_iff.mp hF
    obtain ⟨v_6, ev_6, hF⟩ := hF
    refine m_getI (B := B) (a := a_5) E S fd_Line_length (Or.inr ⟨_, qn_11⟩) ev_6 d_Arc_count_49 ?_
    cases hF
    exact m_iret E S hz hr hlk d_Arc_count_52
  rw [if_neg c_3] at hF
  by_cases c_7 : (x1 : Int32) = 2
  · rw [if_pos c_7] at hF
    refine lv_tableIn (off := 52) (tgt := 53) hx hb d_Arc_count_1 (by rw [c_7]; decide) (by rw [c_7]; decide) (by rw [c_7]; rfl) (by decide) ?_
    refine lv_aload_n hx hb d_Arc_count_53 rfl (lv_at hl 0 rfl) ?_
    replace hF := Option.bind_eq_some_iff.mp hF
    obtain ⟨v_8, ev_8, hF⟩ := hF
    refine m_getR (B := B) (a := a0) E S fd_Arc_draft (Or.inl qw_59) ev_8 d_Arc_count_54 ?_
    replace hF := Option.bind_eq_some_iff.mp hF
    obtain ⟨a_9, ea_9, hF⟩ := hF
    subst ea_9
    replace hF := Option.bind_eq_some_iff.mp hF
    obtain ⟨v_10, ev_10, hF⟩ := hF
    refine m_getI (B := B) (a := a_9) E S fd_Draft_size (Or.inr ⟨_, qn_15⟩) ev_10 d_Arc_count_57 ?_
    cases hF
    exact m_iret E S hz hr hlk d_Arc_count_60
  rw [if_neg c_7] at hF
  by_cases c_11 : (x1 : Int32) = 3
  · rw [if_pos c_11] at hF
    refine lv_tableIn (off := 60) (tgt := 61) hx hb d_Arc_count_1 (by rw [c_11]; decide) (by rw [c_11]; decide) (by rw [c_11]; rfl) (by decide) ?_
    refine lv_aload_n hx hb d_Arc_count_61 rfl (lv_at hl 0 rfl) ?_
    replace hF := Option.bind_eq_some_iff.mp hF
    obtain ⟨v_12, ev_12, hF⟩ := hF
    refine m_getI (B := B) (a := a0) E S fd_Arc_found (Or.inl qw_81) ev_12 d_Arc_count_62 ?_
    replace hF := m_bd_inv hF
    obtain ⟨v_14, g_13, eg_13, hF⟩ := hF
    refine m_callS (B := B) (nn := 1) (As := [.int v_12]) (rest := []) (v := (some (.int v_14))) E S hz (c_Integer_bitCount l D B K n g v_12 v_14 g_13 eg_13) qc_Integer_bitCount ⟨rfl, rfl⟩ (Or.inl qw_248) qw_250 qw_249 (by decide +kernel) ⟨Nat.le_of_ble_eq_true rfl, Nat.le_of_ble_eq_true rfl⟩ rfl hl.1 (Nat.le_of_ble_eq_true rfl) d_Arc_count_65 ⟨Nat.le_of_ble_eq_true rfl, Nat.le_of_ble_eq_true rfl⟩ (fun H locs S => ?_)
    refine W.eq (g2 := F0 m 68 ls [.int v_14]) rfl ?_
    cases hF
    exact m_iret E S hz hr hlk d_Arc_count_68
  rw [if_neg c_11] at hF
  by_cases c_15 : (x1 : Int32) = 4
  · rw [if_pos c_15] at hF
    refine lv_tableIn (off := 68) (tgt := 69) hx hb d_Arc_count_1 (by rw [c_15]; decide) (by rw [c_15]; decide) (by rw [c_15]; rfl) (by decide) ?_
    refine lv_aload_n hx hb d_Arc_count_69 rfl (lv_at hl 0 rfl) ?_
    refine lv_aload_n hx hb d_Arc_count_70 rfl (lv_at hl 0 rfl) ?_
    replace hF := m_gd_inv hF
    obtain ⟨eog_16, hF⟩ := hF
    replace hF := m_bd_inv hF
    obtain ⟨v_17, g_16, eg_16, hF⟩ := hF
    refine m_callV (B := B) (nn := 0) (b := a0) (As := []) (rest := [.ref (B + a0)]) (v := (some (.int v_17))) E S hz (c_Arc_numbersThere l D B K n g a0 v_17 g_16 eg_16) qc_Arc_numbersThere ⟨rfl, rfl⟩ (Or.inl qw_245) qw_246 qw_247 qw_105 (by decide +kernel) ⟨Nat.le_of_ble_eq_true rfl, Nat.le_of_ble_eq_true rfl⟩ eog_16 rfl rfl hl.1 (Nat.le_of_ble_eq_true rfl) d_Arc_count_71 ⟨Nat.le_of_ble_eq_true rfl, Nat.le_of_ble_eq_true rfl⟩ (fun H locs S => ?_)
    refine W.eq (g2 := F0 m 74 ls [.int v_17, .ref (B + a0)]) rfl ?_
    replace hF := m_gd_inv hF
    obtain ⟨eog_18, hF⟩ := hF
    replace hF := m_bd_inv hF
    obtain ⟨v_19, g_18, eg_18, hF⟩ := hF
    refine m_callV (B := B) (nn := 1) (b := a0) (As := [.int v_17]) (rest := []) (v := (some (.long v_19))) E S hz (c_Arc_rootsOf l D B K n g_16 a0 v_17 v_19 g_18 eg_18) qc_Arc_rootsOf ⟨rfl, rfl⟩ (Or.inl qw_258) qw_259 qw_260 qw_105 (by decide +kernel) ⟨Nat.le_of_ble_eq_true rfl, Nat.le_of_ble_eq_true rfl⟩ eog_18 rfl rfl hl.1 (Nat.le_of_ble_eq_true rfl) d_Arc_count_74 ⟨Nat.le_of_ble_eq_true rfl, Nat.le_of_ble_eq_true rfl⟩ (fun H locs S => ?_)
    refine W.eq (g2 := F0 m 77 ls [.long v_19]) rfl ?_
    replace hF := m_bd_inv hF
    obtain ⟨v_21, g_20, eg_20, hF⟩ := hF
    refine m_callS (B := B) (nn := 1) (As := [.long v_19]) (rest := []) (v := (some (.int v_21))) E S hz (c_Long_bitCount l D B K n g_18 v_19 v_21 g_20 eg_20) qc_Long_bitCount ⟨rfl, rfl⟩ (Or.inl qw_274) qw_276 qw_275 (by decide +kernel) ⟨Nat.le_of_ble_eq_true rfl, Nat.le_of_ble_eq_true rfl⟩ rfl hl.1 (Nat.le_of_ble_eq_true rfl) d_Arc_count_77 ⟨Nat.le_of_ble_eq_true rfl, Nat.le_of_ble_eq_true rfl⟩ (fun H locs S => ?_)
    refine W.eq (g2 := F0 m 80 ls [.int v_21]) rfl ?_
    cases hF
    exact m_iret E S hz hr hlk d_Arc_count_80
  rw [if_neg c_15] at hF
  by_cases c_22 : (x1 : Int32) = 5
  · rw [if_pos c_22] at hF
    refine lv_tableIn (off := 80) (tgt := 81) hx hb d_Arc_count_1 (by rw [c_22]; decide) (by rw [c_22]; decide) (by rw [c_22]; rfl) (by decide) ?_
    refine lv_aload_n hx hb d_Arc_count_81 rfl (lv_at hl 0 rfl) ?_
    replace hF := m_gd_inv hF
    obtain ⟨eog_23, hF⟩ := hF
    replace hF := m_bd_inv hF
    obtain ⟨v_24, g_23, eg_23, hF⟩ := hF
    refine m_callV (B := B) (nn := 0) (b := a0) (As := []) (rest := []) (v := (some (.int v_24))) E S hz (c_Arc_differentCodes l D B K n g a0 v_24 g_23 eg_23) qc_Arc_differentCodes ⟨rfl, rfl⟩ (Or.inl qw_277) qw_278 qw_279 qw_105 (by decide +kernel) ⟨Nat.le_of_ble_eq_true rfl, Nat.le_of_ble_eq_true rfl⟩ eog_23 rfl rfl hl.1 (Nat.le_of_ble_eq_true rfl) d_Arc_count_82 ⟨Nat.le_of_ble_eq_true rfl, Nat.le_of_ble_eq_true rfl⟩ (fun H locs S => ?_)
    refine W.eq (g2 := F0 m 85 ls [.int v_24]) rfl ?_
    cases hF
    exact m_iret E S hz hr hlk d_Arc_count_85
  rw [if_neg c_22] at hF
  have z0 := lv_neT (a := 0) c_1 (by decide)
  have z1 := lv_neT (a := 1) c_3 (by decide)
  have z2 := lv_neT (a := 2) c_7 (by decide)
  have z3 := lv_neT (a := 3) c_11 (by decide)
  have z4 := lv_neT (a := 4) c_15 (by decide)
  have z5 := lv_neT (a := 5) c_22 (by decide)
  refine lv_tableOut (tgt := 86) hx hb d_Arc_count_1 (by omega) (by decide) ?_
  refine lv_iload_n hx hb d_Arc_count_86 rfl (lv_at hl 1 rfl) ?_
  refine lv_if_ge (tgt := 94) hx hb d_Arc_count_87 (by decide) (fun c_25 => ?_) (fun c_25 => ?_)
  · rw [if_pos c_25] at hF
    refine lv_aload_n hx hb d_Arc_count_94 rfl (lv_at hl 0 rfl) ?_
    refine lv_iload_n hx hb d_Arc_count_95 rfl (lv_at hl 1 rfl) ?_
    refine lv_bipush (v := 6) hx hb d_Arc_count_96 (by decide) ?_
    refine lv_isub hx hb d_Arc_count_98 ?_
    replace hF := m_gd_inv hF
    obtain ⟨eog_26, hF⟩ := hF
    replace hF := m_bd_inv hF
    obtain ⟨v_27, g_26, eg_26, hF⟩ := hF
    refine m_callV (B := B) (nn := 1) (b := a0) (As := [.int (x1 - 6)]) (rest := []) (v := (some (.int v_27))) E S hz (c_Arc_leavesOf l D B K n g a0 (x1 - 6) v_27 g_26 eg_26) qc_Arc_leavesOf ⟨rfl, rfl⟩ (Or.inl qw_280) qw_281 qw_282 qw_105 (by decide +kernel) ⟨Nat.le_of_ble_eq_true rfl, Nat.le_of_ble_eq_true rfl⟩ eog_26 rfl rfl hl.1 (Nat.le_of_ble_eq_true rfl) d_Arc_count_99 ⟨Nat.le_of_ble_eq_true rfl, Nat.le_of_ble_eq_true rfl⟩ (fun H locs S => ?_)
    refine W.eq (g2 := F0 m 102 ls [.int v_27]) rfl ?_
    exact c_Arc_count_102 E hr hlk hz _ _ _ _ hF _ _ S _ (lv_sub hl [] rfl)
  · rw [if_neg c_25] at hF
    refine lv_iconst (v := (-1)) hx hb d_Arc_count_90 (by decide) ?_
    refine lv_goto (tgt := 102) hx hb d_Arc_count_91 (by decide) ?_
    exact c_Arc_count_102 E hr hlk hz _ _ _ _ hF _ _ S _ (lv_sub hl [] rfl)
