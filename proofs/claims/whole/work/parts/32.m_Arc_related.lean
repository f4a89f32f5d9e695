section S_Arc_related
variable {p : Program} {l : Launch} {e : Env} {s : State} {m : MethodId} {args : Array Value} {below : List Frame} {meth : Method} {c : Code} {D : va_G} {B n : Nat} {K : Nat → ClassId}
def f_Arc_related_67  (k_20 : m_G → Nat → Int32 → Int64 → Int32 → Int32 → Option (Int32 × m_G)) (g : m_G) (a0 : Nat) (x1 : Int32) (x2 : Int64) (x4 : Int32) (x5 : Int32) : Option (Int32 × m_G) :=
  k_20 g a0 x1 x2 x4 (x5 + 1)
set_option maxHeartbeats 1000000 in
set_option maxRecDepth 100000 in
theorem c_Arc_related_67 (E : m_V p m c b_Arc_related 6 s args R_Arc D K) (hr : meth.sig.returnType = (some .int)) (hlk : meth.locks = false) (hz : s.heap.size + 0 = B + n)  (k_20 : m_G → Nat → Int32 → Int64 → Int32 → Int32 → Option (Int32 × m_G)) (hk_20 : ∀ (g : m_G) (a0 : Nat) (x1 : Int32) (x2 : Int64) (x4 : Int32) (x5 : Int32) (r : Int32) (g' : m_G), k_20 g a0 x1 x2 x4 x5 = some (r, g') → ∀ (H : Heap) (locs : List Loc), m_S D B K n g s.heap H locs → ∀ ls : Array Slot, lv_has ls 6 [(0, .ref (B + a0)), (1, .int x1), (2, .long x2), (4, .int x4), (5, .int x5)] → W p l e ({ frames := 3, cells := 0, slots := 0, locals := 68 } : Room) s m args below meth c H locs 0 0 (MQ below (m_Q D B K (some (.int r)) n g') args s 0 0 (fun q => B ≤ q)) (F0 m 20 ls [])) : ∀ (g : m_G) (a0 : Nat) (x1 : Int32) (x2 : Int64) (x4 : Int32) (x5 : Int32) (r : Int32) (g' : m_G), f_Arc_related_67 k_20 g a0 x1 x2 x4 x5 = some (r, g') → ∀ (H : Heap) (locs : List Loc), m_S D B K n g s.heap H locs → ∀ ls : Array Slot, lv_has ls 6 [(0, .ref (B + a0)), (1, .int x1), (2, .long x2), (4, .int x4), (5, .int x5)] → W p l e ({ frames := 3, cells := 0, slots := 0, locals := 68 } : Room) s m args below meth c H locs 0 0 (MQ below (m_Q D B K (some (.int r)) n g') args s 0 0 (fun q => B ≤ q)) (F0 m 67 ls []) := by
  have hx := E.1.1
  have hb := E.1.2.1
  have hts := E.1.2.2.2.2
  intro g a0 x1 x2 x4 x5 r g' hF H locs S ls hl
  unfold f_Arc_related_67 at hF
  refine lv_iinc (v := (x5 + 1)) (lv' := [(5, .int (x5 + 1)), (0, .ref (B + a0)), (1, .int x1), (2, .long x2), (4, .int x4)]) hx hb d_Arc_related_67 hl (k := 4) rfl rfl (by decide) rfl (fun ls hl => ?_)
  refine lv_goto (tgt := 20) hx hb d_Arc_related_70 (by decide) ?_
  exact hk_20 _ _ _ _ _ _ _ _ hF _ _ S _ (lv_sub hl [1, 2, 3, 4, 0] rfl)
def f_Arc_related_20   : Nat → m_G → Nat → Int32 → Int64 → Int32 → Int32 → Option (Int32 × m_G)
  | 0, _, _, _, _, _, _ => none
  | fu + 1, g, a0, x1, x2, x4, x5 =>
    if (12 : Int32) ≤ x5 then
      m_bd (f_Arc_numberInSet g x4 x1) fun v_3 g_2 =>
      some (v_3, g_2)
    else
      (m_gR g a0 0 5).bind fun v_4 =>
      Option.bind v_4 fun a_5 =>
      (m_ldR g a_5 5 x5).bind fun v_6 =>
      Option.bind v_6 fun a_7 =>
      (m_gI g a_7 4 3).bind fun v_8 =>
      if (v_8 : Int32) = 0 then
        f_Arc_related_67 (f_Arc_related_20 fu) g a0 x1 x2 x4 x5
      else
        (m_gR g a0 0 5).bind fun v_10 =>
        Option.bind v_10 fun a_11 =>
        (m_ldR g a_11 5 x5).bind fun v_12 =>
        m_gd (m_is g a0 0) <|
        m_bd (f_Arc_rootBit g a0 v_12) fun v_14 g_13 =>
        if ((lg_cmp (x2 &&& v_14) 0) : Int32) = 0 then
          f_Arc_related_67 (f_Arc_related_20 fu) g_13 a0 x1 x2 x4 x5
        else
          f_Arc_related_67 (f_Arc_related_20 fu) g_13 a0 x1 x2 (x4 ||| (1 <<< (x5 &&& 31))) x5
set_option maxHeartbeats 1000000 in
set_option maxRecDepth 100000 in
theorem c_Arc_related_20 (E : m_V p m c b_Arc_related 6 s args R_Arc D K) (hr : meth.sig.returnType = (some .int)) (hlk : meth.locks = false) (hz : s.heap.size + 0 = B + n)   : ∀ fu : Nat, ∀ (g : m_G) (a0 : Nat) (x1 : Int32) (x2 : Int64) (x4 : Int32) (x5 : Int32) (r : Int32) (g' : m_G), f_Arc_related_20  fu g a0 x1 x2 x4 x5 = some (r, g') → ∀ (H : Heap) (locs : List Loc), m_S D B K n g s.heap H locs → ∀ ls : Array Slot, lv_has ls 6 [(0, .ref (B + a0)), (1, .int x1), (2, .long x2), (4, .int x4), (5, .int x5)] → W p l e ({ frames := 3, cells := 0, slots := 0, locals := 68 } : Room) s m args below meth c H locs 0 0 (MQ below (m_Q D B K (some (.int r)) n g') args s 0 0 (fun q => B ≤ q)) (F0 m 20 ls []) := by
  have hx := E.1.1
  have hb := E.1.2.1
  have hts := E.1.2.2.2.2
  intro fu
  induction fu with
  | zero => intro g a0 x1 x2 x4 x5 r g' hF; cases hF
  | succ fu ih =>
    intro g a0 x1 x2 x4 x5 r g' hF H locs S ls hl
    rw [f_Arc_related_20] at hF
    refine lv_iload hx hb d_Arc_related_20 (lv_at hl 4 rfl) ?_
    refine lv_bipush (v := 12) hx hb d_Arc_related_22 (by decide) ?_
    refine lv_icmp_ge (tgt := 73) hx hb d_Arc_related_24 (by decide) (fun c_1 => ?_) (fun c_1 => ?_)
    · rw [if_pos c_1] at hF
      refine lv_iload hx hb d_Arc_related_73 (lv_at hl 3 rfl) ?_
      refine lv_iload_n hx hb d_Arc_related_75 rfl (lv_at hl 1 rfl) ?_
      replace hF := m_bd_inv hF
      obtain ⟨v_3, g_2, eg_2, hF⟩ := hF
      refine m_callS (B := B) (nn := 2) (As := [.int x4, .int x1]) (rest := []) (v := (some (.int v_3))) E S hz (c_Arc_numberInSet l D B K n g x4 x1 v_3 g_2 eg_2) qc_Arc_numberInSet ⟨rfl, rfl⟩ (Or.inl qw_251) qw_252 qw_105 (by decide +kernel) ⟨Nat.le_of_ble_eq_true rfl, Nat.le_of_ble_eq_true rfl⟩ rfl hl.1 (Nat.le_of_ble_eq_true rfl) d_Arc_related_76 ⟨Nat.le_of_ble_eq_true rfl, Nat.le_of_ble_eq_true rfl⟩ (fun H locs S => ?_)
      refine W.eq (g2 := F0 m 79 ls [.int v_3]) rfl ?_
      cases hF
      exact m_iret E S hz hr hlk d_Arc_related_79
    · rw [if_neg c_1] at hF
      refine lv_aload_n hx hb d_Arc_related_27 rfl (lv_at hl 0 rfl) ?_
      replace hF := Option.bind_eq_some_iff.mp hF
      obtain ⟨v_4, ev_4, hF⟩ := hF
      refine m_getR (B := B) (a := a0) E S fd_Arc_messages (Or.inl qw_75) ev_4 d_Arc_related_28 ?_
      refine lv_iload hx hb d_Arc_related_31 (lv_at hl 4 rfl) ?_
      replace hF := Option.bind_eq_some_iff.mp hF
      obtain ⟨a_5, ea_5, hF⟩ := hF
      subst ea_5
      replace hF := Option.bind_eq_some_iff.mp hF
      obtain ⟨v_6, ev_6, hF⟩ := hF
      refine m_aald (B := B) (a := a_5) (t := 5) E S rfl ev_6 d_Arc_related_33 ?_
      replace hF := Option.bind_eq_some_iff.mp hF
      obtain ⟨a_7, ea_7, hF⟩ := hF
      subst ea_7
      replace hF := Option.bind_eq_some_iff.mp hF
      obtain ⟨v_8, ev_8, hF⟩ := hF
      refine m_getI (B := B) (a := a_7) E S fd_Message_there (Or.inr ⟨_, qn_17⟩) ev_8 d_Arc_related_34 ?_
      refine lv_if_eq (tgt := 67) hx hb d_Arc_related_37 (by decide) (fun c_9 => ?_) (fun c_9 => ?_)
      · rw [if_pos c_9] at hF
        exact c_Arc_related_67 E hr hlk hz (f_Arc_related_20 fu) ih _ _ _ _ _ _ _ _ hF _ _ S _ (lv_sub hl [0, 1, 2, 3, 4] rfl)
      · rw [if_neg c_9] at hF
        refine lv_lload_n hx hb d_Arc_related_40 rfl (lv_at hl 2 rfl) ?_
        refine lv_aload_n hx hb d_Arc_related_41 rfl (lv_at hl 0 rfl) ?_
        refine lv_aload_n hx hb d_Arc_related_42 rfl (lv_at hl 0 rfl) ?_
        replace hF := Option.bind_eq_some_iff.mp hF
        obtain ⟨v_10, ev_10, hF⟩ := hF
        refine m_getR (B := B) (a := a0) E S fd_Arc_messages (Or.inl qw_75) ev_10 d_Arc_related_43 ?_
        refine lv_iload hx hb d_Arc_related_46 (lv_at hl 4 rfl) ?_
        replace hF := Option.bind_eq_some_iff.mp hF
        obtain ⟨a_11, ea_11, hF⟩ := hF
        subst ea_11
        replace hF := Option.bind_eq_some_iff.mp hF
        obtain ⟨v_12, ev_12, hF⟩ := hF
        refine m_aald (B := B) (a := a_11) (t := 5) E S rfl ev_12 d_Arc_related_48 ?_
        replace hF := m_gd_inv hF
        obtain ⟨eog_13, hF⟩ := hF
        replace hF := m_bd_inv hF
        obtain ⟨v_14, g_13, eg_13, hF⟩ := hF
        refine m_callV (B := B) (nn := 1) (b := a0) (As := [m_r B v_12]) (rest := [.long x2]) (v := (some (.long v_14))) E S hz (c_Arc_rootBit l D B K n g a0 v_12 v_14 g_13 eg_13) qc_Arc_rootBit ⟨rfl, rfl⟩ (Or.inl qw_255) qw_256 qw_257 qw_105 (by decide +kernel) ⟨Nat.le_of_ble_eq_true rfl, Nat.le_of_ble_eq_true rfl⟩ eog_13 rfl rfl hl.1 (Nat.le_of_ble_eq_true rfl) d_Arc_related_49 ⟨Nat.le_of_ble_eq_true rfl, Nat.le_of_ble_eq_true rfl⟩ (fun H locs S => ?_)
        refine W.eq (g2 := F0 m 52 ls [.long v_14, .long x2]) rfl ?_
        refine lv_land hx hb d_Arc_related_52 ?_
        refine lv_lconst (v := 0) hx hb d_Arc_related_53 (by decide) ?_
        refine W.lcmp hx hb d_Arc_related_54 ?_
        refine lv_if_eq (tgt := 67) hx hb d_Arc_related_55 (by decide) (fun c_15 => ?_) (fun c_15 => ?_)
        · rw [if_pos c_15] at hF
          exact c_Arc_related_67 E hr hlk hz (f_Arc_related_20 fu) ih _ _ _ _ _ _ _ _ hF _ _ S _ (lv_sub hl [0, 1, 2, 3, 4] rfl)
        · rw [if_neg c_15] at hF
          refine lv_iload hx hb d_Arc_related_58 (lv_at hl 3 rfl) ?_
          refine lv_iconst (v := 1) hx hb d_Arc_related_60 (by decide) ?_
          refine lv_iload hx hb d_Arc_related_61 (lv_at hl 4 rfl) ?_
          refine lv_ishl hx hb d_Arc_related_63 ?_
          refine lv_ior hx hb d_Arc_related_64 ?_
          refine lv_istore (lv' := [(4, .int (x4 ||| (1 <<< (x5 &&& 31)))), (0, .ref (B + a0)), (1, .int x1), (2, .long x2), (5, .int x5)]) hx hb d_Arc_related_65 hl (by decide) rfl (fun ls hl => ?_)
          exact c_Arc_related_67 E hr hlk hz (f_Arc_related_20 fu) ih _ _ _ _ _ _ _ _ hF _ _ S _ (lv_sub hl [1, 2, 3, 0, 4] rfl)
end S_Arc_related
def f_Arc_related  (g : m_G) (a0 : Nat) (x1 : Int32) : Option (Int32 × m_G) :=
  (m_gI g a0 0 8).bind fun v_1 =>
  m_gd (m_is g a0 0) <|
  m_bd (f_Arc_numbersThere g a0) fun v_3 g_2 =>
  m_gd (m_is g_2 a0 0) <|
  m_bd (f_Arc_rootsOf g_2 a0 (v_1 &&& v_3)) fun v_5 g_4 =>
  f_Arc_related_20 m_fu g_4 a0 x1 v_5 0 0
set_option maxHeartbeats 1000000 in
set_option maxRecDepth 100000 in
theorem c_Arc_related (l : Launch) (D : va_G) (B : Nat) (K : Nat → ClassId)  (n : Nat) (g : m_G) (a0 : Nat) (x1 : Int32) (r : Int32) (g' : m_G) (hF : f_Arc_related g a0 x1 = some (r, g')) : Met l y_Arc_related (Cond.code y_Arc_related b_Arc_related 6 (some .int) :: m_TB) ({ frames := 3, cells := 0, slots := 0, locals := 68 } : Room) (m_Pc D B K n g [.ref (B + a0), .int x1]) (m_Q D B K (some (.int r)) n g') 0 0 (fun q => B ≤ q) := by
  refine m_met (by decide) (Nat.le_of_ble_eq_true rfl) ?_
  intro p e s m args below meth c ls E hr hlk hin hsz S hl
  have E : m_V p m c b_Arc_related 6 s args R_Arc D K := E
  have hz : s.heap.size + 0 = B + n := hsz
  have hl : lv_has ls 6 [(0, .ref (B + a0)), (1, .int x1)] := hl
  have hx := E.1.1
  have hb := E.1.2.1
  have hts := E.1.2.2.2.2
  unfold f_Arc_related at hF
  refine lv_aload_n hx hb d_Arc_related_0 rfl (lv_at hl 0 rfl) ?_
  refine lv_aload_n hx hb d_Arc_related_1 rfl (lv_at hl 0 rfl) ?_
  replace hF := Option.bind_eq_some_iff.mp hF
  obtain ⟨v_1, ev_1, hF⟩ := hF
  refine m_getI (B := B) (a := a0) E S fd_Arc_found (Or.inl qw_81) ev_1 d_Arc_related_2 ?_
  refine lv_aload_n hx hb d_Arc_related_5 rfl (lv_at hl 0 rfl) ?_
  replace hF := m_gd_inv hF
  obtain ⟨eog_2, hF⟩ := hF
  replace hF := m_bd_inv hF
  obtain ⟨v_3, g_2, eg_2, hF⟩ := hF
  refine m_callV (B := B) (nn := 0) (b := a0) (As := []) (rest := [.int v_1, .ref (B + a0)]) (v := (some (.int v_3))) E S hz (c_Arc_numbersThere l D B K n g a0 v_3 g_2 eg_2) qc_Arc_numbersThere ⟨rfl, rfl⟩ (Or.inl qw_245) qw_246 qw_247 qw_105 (by decide +kernel) ⟨Nat.le_of_ble_eq_true rfl, Nat.le_of_ble_eq_true rfl⟩ eog_2 rfl rfl hl.1 (Nat.le_of_ble_eq_true rfl) d_Arc_related_6 ⟨Nat.le_of_ble_eq_true rfl, Nat.le_of_ble_eq_true rfl⟩ (fun H locs S => ?_)
  refine W.eq (g2 := F0 m 9 ls [.int v_3, .int v_1, .ref (B + a0)]) rfl ?_
  refine lv_iand hx hb d_Arc_related_9 ?_
  replace hF := m_gd_inv hF
  obtain ⟨eog_4, hF⟩ := hF
  replace hF := m_bd_inv hF
  obtain ⟨v_5, g_4, eg_4, hF⟩ := hF
  refine m_callV (B := B) (nn := 1) (b := a0) (As := [.int (v_1 &&& v_3)]) (rest := []) (v := (some (.long v_5))) E S hz (c_Arc_rootsOf l D B K n g_2 a0 (v_1 &&& v_3) v_5 g_4 eg_4) qc_Arc_rootsOf ⟨rfl, rfl⟩ (Or.inl qw_258) qw_259 qw_260 qw_105 (by decide +kernel) ⟨Nat.le_of_ble_eq_true rfl, Nat.le_of_ble_eq_true rfl⟩ eog_4 rfl rfl hl.1 (Nat.le_of_ble_eq_true rfl) d_Arc_related_10 ⟨Nat.le_of_ble_eq_true rfl, Nat.le_of_ble_eq_true rfl⟩ (fun H locs S => ?_)
  refine W.eq (g2 := F0 m 13 ls [.long v_5]) rfl ?_
  refine lv_lstore_n (lv' := [(2, .long v_5), (0, .ref (B + a0)), (1, .int x1)]) hx hb d_Arc_related_13 rfl hl (by decide) rfl (fun ls hl => ?_)
  refine lv_iconst (v := 0) hx hb d_Arc_related_14 (by decide) ?_
  refine lv_istore (lv' := [(4, .int 0), (2, .long v_5), (0, .ref (B + a0)), (1, .int x1)]) hx hb d_Arc_related_15 hl (by decide) rfl (fun ls hl => ?_)
  refine lv_iconst (v := 0) hx hb d_Arc_related_17 (by decide) ?_
  refine lv_istore (lv' := [(5, .int 0), (4, .int 0), (2, .long v_5), (0, .ref (B + a0)), (1, .int x1)]) hx hb d_Arc_related_18 hl (by decide) rfl (fun ls hl => ?_)
  exact c_Arc_related_20 E hr hlk hz m_fu _ _ _ _ _ _ _ _ hF _ _ S _ (lv_sub hl [3, 4, 2, 1, 0] rfl)
section S_Arc_idOf
variable {p : Program} {l : Launch} {e : Env} {s : State} {m : MethodId} {args : Array Value} {below : List Frame} {meth : Method} {c : Code} {D : va_G} {B n : Nat} {K : Nat → ClassId}
def f_Arc_idOf_18   (g : m_G) (y0 : Int32) : Option (Int32 × m_G) :=
  some (y0, g)
set_option maxHeartbeats 1000000 in
set_option maxRecDepth 100000 in
theorem c_Arc_idOf_18 (E : m_V p m c b_Arc_idOf 3 s args R_Arc D K) (hr : meth.sig.returnType = (some .int)) (hlk : meth.locks = false) (hz : s.heap.size + 0 = B + n)   : ∀ (g : m_G) (y0 : Int32) (r : Int32) (g' : m_G), f_Arc_idOf_18 g y0 = some (r, g') → ∀ (H : Heap) (locs : List Loc), m_S D B K n g s.heap H locs → ∀ ls : Array Slot, lv_has ls 3 [] → W p l e ({ frames := 1, cells := 0, slots := 0, locals := 21 } : Room) s m args below meth c H locs 0 0 (MQ below (m_Q D B K (some (.int r)) n g') args s 0 0 (fun q => B ≤ q)) (F0 m 18 ls [.int y0]) := by
  have hx := E.1.1
  have hb := E.1.2.1
  have hts := E.1.2.2.2.2
  intro g y0 r g' hF H locs S ls hl
  unfold f_Arc_idOf_18 at hF
  cases hF
  exact m_iret E S hz hr hlk d_Arc_idOf_18
end S_Arc_idOf
def f_Arc_idOf  (g : m_G) (a0 : Nat) (x1 : Int32) : Option (Int32 × m_G) :=
  m_gd (m_is g a0 0) <|
  m_bd (f_Arc_messageAt g a0 x1) fun v_2 g_1 =>
  match v_2 with
  | none =>
    f_Arc_idOf_18 g_1 (-1)
  | some a_3 =>
    (m_gI g_1 a_3 4 4).bind fun v_4 =>
    f_Arc_idOf_18 g_1 v_4
set_option maxHeartbeats 1000000 in
set_option maxRecDepth 100000 in
theorem c_Arc_idOf (l : Launch) (D : va_G) (B : Nat) (K : Nat → ClassId)  (n : Nat) (g : m_G) (a0 : Nat) (x1 : Int32) (r : Int32) (g' : m_G) (hF : f_Arc_idOf g a0 x1 = some (r, g')) : Met l y_Arc_idOf (Cond.code y_Arc_idOf b_Arc_idOf 3 (some .int) :: m_TB) ({ frames := 1, cells := 0, slots := 0, locals := 21 } : Room) (m_Pc D B K n g [.ref (B + a0), .int x1]) (m_Q D B K (some (.int r)) n g') 0 0 (fun q => B ≤ q) := by
  refine m_met (by decide) (Nat.le_of_ble_eq_true rfl) ?_
  intro p e s m args below meth c ls E hr hlk hin hsz S hl
  have E : m_V p m c b_Arc_idOf 3 s args R_Arc D K := E
  have hz : s.heap.size + 0 = B + n := hsz
  have hl : lv_has ls 3 [(0, .ref (B + a0)), (1, .int x1)] := hl
  have hx := E.1.1
  have hb := E.1.2.1
  have hts := E.1.2.2.2.2
  unfold f_Arc_idOf at hF
  refine lv_aload_n hx hb d_Arc_idOf_0 rfl (lv_at hl 0 rfl) ?_
  refine lv_iload_n hx hb d_Arc_idOf_1 rfl (lv_at hl 1 rfl) ?_
  replace hF := m_gd_inv hF
  obtain ⟨eog_1, hF⟩ := hF
  replace hF := m_bd_inv hF
  obtain ⟨v_2, g_1, eg_1, hF⟩ := hF
  refine m_callV (B := B) (nn := 1) (b := a0) (As := [.int x1]) (rest := []) (v := (some (m_r B v_2))) E S hz (c_Arc_messageAt l D B K n g a0 x1 v_2 g_1 eg_1) qc_Arc_messageAt ⟨rfl, rfl⟩ (Or.inl qw_183) qw_184 qw_185 qw_105 (by decide +kernel) ⟨Nat.le_of_ble_eq_true rfl, Nat.le_of_ble_eq_true rfl⟩ eog_1 rfl rfl hl.1 (Nat.le_of_ble_eq_true rfl) d_Arc_idOf_2 ⟨Nat.le_of_ble_eq_true rfl, Nat.le_of_ble_eq_true rfl⟩ (fun H locs S => ?_)
  refine W.eq (g2 := F0 m 5 ls [m_r B v_2]) rfl ?_
  refine m_astore_n (B := B) (r := v_2) (lv' := [(2, m_r B v_2), (0, .ref (B + a0)), (1, .int x1)]) E d_Arc_idOf_5 rfl hl (by decide) rfl (fun ls hl => ?_)
  refine m_aload_n (B := B) (r := v_2) E d_Arc_idOf_6 rfl (lv_at hl 0 rfl) ?_
  refine m_ifnonnull (B := B) (r := v_2) (tgt := 14) E d_Arc_idOf_7 (by decide) (fun a_3 ea_3 => ?_) (fun ea_3 => ?_)
  · subst ea_3
    dsimp only at hF
    refine m_aload_n (B := B) (r := (some a_3)) E d_Arc_idOf_14 rfl (lv_at hl 0 rfl) ?_
    replace hF := Option.bind_eq_some_iff.mp hF
    obtain ⟨v_4, ev_4, hF⟩ := hF
    refine m_getI (B := B) (a := a_3) E S fd_Message_id (Or.inr ⟨_, qn_18⟩) ev_4 d_Arc_idOf_15 ?_
    exact c_Arc_idOf_18 E hr hlk hz _ _ _ _ hF _ _ S _ (lv_sub hl [] rfl)
  · subst ea_3
    dsimp only at hF
    refine lv_iconst (v := (-1)) hx hb d_Arc_idOf_10 (by decide) ?_
    refine lv_goto (tgt := 18) hx hb d_Arc_idOf_11 (by decide) ?_
    exact c_Arc_idOf_18 E hr hlk hz _ _ _ _ hF _ _ S _ (lv_sub hl [] rfl)
section S_Threads_parentOf
variable {p : Program} {l : Launch} {e : Env} {s : State} {m : MethodId} {args : Array Value} {below : List Frame} {meth : Method} {c : Code} {D : va_G} {B n : Nat} {K : Nat → ClassId}
def f_Threads_parentOf_20   (g : m_G) (y0 : Int32) : Option (Int32 × m_G) :=
  some (y0, g)
set_option maxHeartbeats 1000000 in
set_option maxRecDepth 100000 in
theorem c_Threads_parentOf_20 (E : m_V p m c b_Threads_parentOf 2 s args R_Threads D K) (hr : meth.sig.returnType = (some .int)) (hlk : meth.locks = false) (hz : s.heap.size + 0 = B + n)   : ∀ (g : m_G) (y0 : Int32) (r : Int32) (g' : m_G), f_Threads_parentOf_20 g y0 = some (r, g') → ∀ (H : Heap) (locs : List Loc), m_S D B K n g s.heap H locs → ∀ ls : Array Slot, lv_has ls 2 [] → W p l e ({ frames := 0, cells := 0, slots := 0, locals := 0 } : Room) s m args below meth c H locs 0 0 (MQ below (m_Q D B K (some (.int r)) n g') args s 0 0 (fun q => B ≤ q)) (F0 m 20 ls [.int y0]) := by
  have hx := E.1.1
  have hb := E.1.2.1
  have hts := E.1.2.2.2.2
  intro g y0 r g' hF H locs S ls hl
  unfold f_Threads_parentOf_20 at hF
  cases hF
  exact m_iret E S hz hr hlk d_Threads_parentOf_20
def f_Threads_parentOf_10   (g : m_G)  : Option (Int32 × m_G) :=
  f_Threads_parentOf_20 g (-1)
set_option maxHeartbeats 1000000 in
set_option maxRecDepth 100000 in
theorem c_Threads_parentOf_10 (E : m_V p m c b_Threads_parentOf 2 s args R_Threads D K) (hr : meth.sig.returnType = (some .int)) (hlk : meth.locks = false) (hz : s.heap.size + 0 = B + n)   : ∀ (g : m_G)  (r : Int32) (g' : m_G), f_Threads_parentOf_10 g  = some (r, g') → ∀ (H : Heap) (locs : List Loc), m_S D B K n g s.heap H locs → ∀ ls : Array Slot, lv_has ls 2 [] → W p l e ({ frames := 0, cells := 0, slots := 0, locals := 0 } : Room) s m args below meth c H locs 0 0 (MQ below (m_Q D B K (some (.int r)) n g') args s 0 0 (fun q => B ≤ q)) (F0 m 10 ls []) := by
  have hx := E.1.1
  have hb := E.1.2.1
  have hts := E.1.2.2.2.2
  intro g  r g' hF H locs S ls hl
  unfold f_Threads_parentOf_10 at hF
  refine lv_iconst (v := (-1)) hx hb d_Threads_parentOf_10 (by decide) ?_
  refine lv_goto (tgt := 20) hx hb d_Threads_parentOf_11 (by decide) ?_
  exact c_Threads_parentOf_20 E hr hlk hz _ _ _ _ hF _ _ S _ (lv_sub hl [] rfl)
end S_Threads_parentOf
def f_Threads_parentOf  (g : m_G) (a0 : Nat) (x1 : Int32) : Option (Int32 × m_G) :=
  if (x1 : Int32) < 0 then
    f_Threads_parentOf_10 g 
  else
    if (x1 : Int32) < 64 then
      (m_gR g a0 6 0).bind fun v_3 =>
      Option.bind v_3 fun a_4 =>
      (m_ld g a_4 0 x1).bind fun v_5 =>
      f_Threads_parentOf_20 g v_5
    else
      f_Threads_parentOf_10 g 
set_option maxHeartbeats 1000000 in
set_option maxRecDepth 100000 in
theorem c_Threads_parentOf (l : Launch) (D : va_G) (B : Nat) (K : Nat → ClassId)  (n : Nat) (g : m_G) (a0 : Nat) (x1 : Int32) (r : Int32) (g' : m_G) (hF : f_Threads_parentOf g a0 x1 = some (r, g')) : Met l y_Threads_parentOf (Cond.code y_Threads_parentOf b_Threads_parentOf 2 (some .int) :: m_TB) ({ frames := 0, cells := 0, slots := 0, locals := 0 } : Room) (m_Pc D B K n g [.ref (B + a0), .int x1]) (m_Q D B K (some (.int r)) n g') 0 0 (fun q => B ≤ q) := by
  refine m_met (by decide) (Nat.le_of_ble_eq_true rfl) ?_
  intro p e s m args below meth c ls E hr hlk hin hsz S hl
  have E : m_V p m c b_Threads_parentOf 2 s args R_Threads D K := E
  have hz : s.heap.size + 0 = B + n := hsz
  have hl : lv_has ls 2 [(0, .ref (B + a0)), (1, .int x1)] := hl
  have hx := E.1.1
  have hb := E.1.2.1
  have hts := E.1.2.2.2.2
  unfold f_Threads_parentOf at hF
  refine lv_iload_n hx hb d_Threads_parentOf_0 rfl (lv_at hl 1 rfl) ?_
  refine lv_if_lt (tgt := 10) hx hb d_Threads_parentOf_1 (by decide) (fun c_1 => ?_) (fun c_1 => ?_)
  · rw [if_pos c_1] at hF
    exact c_Threads_parentOf_10 E hr hlk hz _ _ _ hF _ _ S _ (lv_sub hl [] rfl)
  · rw [if_neg c_1] at hF
    refine lv_iload_n hx hb d_Threads_parentOf_4 rfl (lv_at hl 1 rfl) ?_
    refine lv_bipush (v := 64) hx hb d_Threads_parentOf_5 (by decide) ?_
    refine lv_icmp_lt (tgt := 14) hx hb d_Threads_parentOf_7 (by decide) (fun c_2 => ?_) (fun c_2 => ?_)
    · rw [if_pos c_2] at hF
      refine lv_aload_n hx hb d_Threads_parentOf_14 rfl (lv_at hl 0 rfl) ?_
      replace hF := Option.bind_eq_some_iff.mp hF
      obtain ⟨v_3, ev_3, hF⟩ := hF
      refine m_getR (B := B) (a := a0) E S fd_Threads_parents (Or.inl qw_46) ev_3 d_Threads_parentOf_15 ?_
      refine lv_iload_n hx hb d_Threads_parentOf_18 rfl (lv_at hl 1 rfl) ?_
      replace hF := Option.bind_eq_some_iff.mp hF
      obtain ⟨a_4, ea_4, hF⟩ := hF
      subst ea_4
      replace hF := Option.bind_eq_some_iff.mp hF
      obtain ⟨v_5, ev_5, hF⟩ := hF
      refine m_iald (B := B) (a := a_4) (t := 0) E S rfl ev_5 d_Threads_parentOf_19 ?_
      exact c_Threads_parentOf_20 E hr hlk hz _ _ _ _ hF _ _ S _ (lv_sub hl [] rfl)
    · rw [if_neg c_2] at hF
      exact c_Threads_parentOf_10 E hr hlk hz _ _ _ hF _ _ S _ (lv_sub hl [] rfl)
section S_Arc_answers
variable {p : Program} {l : Launch} {e : Env} {s : State} {m : MethodId} {args : Array Value} {below : List Frame} {meth : Method} {c : Code} {D : va_G} {B n : Nat} {K : Nat → ClassId}
def f_Arc_answers_68   (g : m_G)  : Option (Int32 × m_G) :=
  some ((-4), g)
set_option maxHeartbeats 1000000 in
set_option maxRecDepth 100000 in
theorem c_Arc_answers_68 (E : m_V p m c b_Arc_answers 6 s args R_Arc D K) (hr : meth.sig.returnType = (some .int)) (hlk : meth.locks = false) (hz : s.heap.size + 0 = B + n)   : ∀ (g : m_G)  (r : Int32) (g' : m_G), f_Arc_answers_68 g  = some (r, g') → ∀ (H : Heap) (locs : List Loc), m_S D B K n g s.heap H locs → ∀ ls : Array Slot, lv_has ls 6 [] → W p l e ({ frames := 1, cells := 0, slots := 0, locals := 22 } : Room) s m args below meth c H locs 0 0 (MQ below (m_Q D B K (some (.int r)) n g') args s 0 0 (fun q => B ≤ q)) (F0 m 68 ls []) := by
  have hx := E.1.1
  have hb := E.1.2.1
  have hts := E.1.2.2.2.2
  intro g  r g' hF H locs S ls hl
  unfold f_Arc_answers_68 at hF
  refine lv_bipush (v := (-4)) hx hb d_Arc_answers_68 (by decide) ?_
  cases hF
  exact m_iret E S hz hr hlk d_Arc_answers_70
def f_Arc_answers_27   : Nat → m_G → Nat → Int32 → Int32 → Option (Int32 × m_G)
  | 0, _, _, _, _ => none
  | fu + 1, g, a0, x3, x4 =>
    if (64 : Int32) ≤ x4 then
      f_Arc_answers_68 g 
    else
      if (x3 : Int32) < 0 then
        f_Arc_answers_68 g 
      else
        m_gd (m_is g a0 0) <|
        m_bd (f_Arc_numberWithId g a0 x3) fun v_4 g_3 =>
        if (v_4 : Int32) < 0 then
          (m_gR g_3 a0 0 3).bind fun v_6 =>
          Option.bind v_6 fun a_7 =>
          m_gd (m_is g_3 a_7 6) <|
          m_bd (f_Threads_parentOf g_3 a_7 x3) fun v_9 g_8 =>
          f_Arc_answers_27 fu g_8 a0 v_9 (x4 + 1)
        else
          some (v_4, g_3)
set_option maxHeartbeats 1000000 in
set_option maxRecDepth 100000 in
theorem c_Arc_answers_27 (E : m_V p m c b_Arc_answers 6 s args R_Arc D K) (hr : meth.sig.returnType = (some .int)) (hlk : meth.locks = false) (hz : s.heap.size + 0 = B + n)   : ∀ fu : Nat, ∀ (g : m_G) (a0 : Nat) (x3 : Int32) (x4 : Int32) (r : Int32) (g' : m_G), f_Arc_answers_27  fu g a0 x3 x4 = some (r, g') → ∀ (H : Heap) (locs : List Loc), m_S D B K n g s.heap H locs → ∀ ls : Array Slot, lv_has ls 6 [(0, .ref (B + a0)), (3, .int x3), (4, .int x4)] → W p l e ({ frames := 1, cells := 0, slots := 0, locals := 22 } : Room) s m args below meth c H locs 0 0 (MQ below (m_Q D B K (some (.int r)) n g') args s 0 0 (fun q => B ≤ q)) (F0 m 27 ls []) := by
  have hx := E.1.1
  have hb := E.1.2.1
  have hts := E.1.2.2.2.2
  intro fu
  induction fu with
  | zero => intro g a0 x3 x4 r g' hF; cases hF
  | succ fu ih =>
    intro g a0 x3 x4 r g' hF H locs S ls hl
    rw [f_Arc_answers_27] at hF
    refine lv_iload hx hb d_Arc_answers_27 (lv_at hl 2 rfl) ?_
    refine lv_bipush (v := 64) hx hb d_Arc_answers_29 (by decide) ?_
    refine lv_icmp_ge (tgt := 68) hx hb d_Arc_answers_31 (by decide) (fun c_1 => ?_) (fun c_1 => ?_)
    · rw [if_pos c_1] at hF
      exact c_Arc_answers_68 E hr hlk hz _ _ _ hF _ _ S _ (lv_sub hl [] rfl)
    · rw [if_neg c_1] at hF
      refine lv_iload_n hx hb d_Arc_answers_34 rfl (lv_at hl 1 rfl) ?_
      refine lv_if_lt (tgt := 68) hx hb d_Arc_answers_35 (by decide) (fun c_2 => ?_) (fun c_2 => ?_)
      · rw [if_pos c_2] at hF
        exact c_Arc_answers_68 E hr hlk hz _ _ _ hF _ _ S _ (lv_sub hl [] rfl)
      · rw [if_neg c_2] at hF
        refine lv_aload_n hx hb d_Arc_answers_38 rfl (lv_at hl 0 rfl) ?_
        refine lv_iload_n hx hb d_Arc_answers_39 rfl (lv_at hl 1 rfl) ?_
        replace hF := m_gd_inv hF
        obtain ⟨eog_3, hF⟩ := hF
        replace hF := m_bd_inv hF
        obtain ⟨v_4, g_3, eg_3, hF⟩ := hF
        refine m_callV (B := B) (nn := 1) (b := a0) (As := [.int x3]) (rest := []) (v := (some (.int v_4))) E S hz (c_Arc_numberWithId l D B K n g a0 x3 v_4 g_3 eg_3) qc_Arc_numberWithId ⟨rfl, rfl⟩ (Or.inl qw_114) qw_115 qw_116 qw_105 (by decide +kernel) ⟨Nat.le_of_ble_eq_true rfl, Nat.le_of_ble_eq_true rfl⟩ eog_3 rfl rfl hl.1 (Nat.le_of_ble_eq_true rfl) d_Arc_answers_40 ⟨Nat.le_of_ble_eq_true rfl, Nat.le_of_ble_eq_true rfl⟩ (fun H locs S => ?_)
        refine W.eq (g2 := F0 m 43 ls [.int v_4]) rfl ?_
        refine lv_istore (lv' := [(5, .int v_4), (0, .ref (B + a0)), (3, .int x3), (4, .int x4)]) hx hb d_Arc_answers_43 hl (by decide) rfl (fun ls hl => ?_)
        refine lv_iload hx hb d_Arc_answers_45 (lv_at hl 0 rfl) ?_
        refine lv_if_lt (tgt := 53) hx hb d_Arc_answers_47 (by decide) (fun c_5 => ?_) (fun c_5 => ?_)
        · rw [if_pos c_5] at hF
          refine lv_aload_n hx hb d_Arc_answers_53 rfl (lv_at hl 1 rfl) ?_
          replace hF := Option.bind_eq_some_iff.mp hF
          obtain ⟨v_6, ev_6, hF⟩ := hF
          refine m_getR (B := B) (a := a0) E S fd_Arc_threads (Or.inl qw_68) ev_6 d_Arc_answers_54 ?_
          refine lv_iload_n hx hb d_Arc_answers_57 rfl (lv_at hl 2 rfl) ?_
          replace hF := Option.bind_eq_some_iff.mp hF
          obtain ⟨a_7, ea_7, hF⟩ := hF
          subst ea_7
          replace hF := m_gd_inv hF
          obtain ⟨eog_8, hF⟩ := hF
          replace hF := m_bd_inv hF
          obtain ⟨v_9, g_8, eg_8, hF⟩ := hF
          refine m_callV (B := B) (nn := 1) (b := a_7) (As := [.int x3]) (rest := []) (v := (some (.int v_9))) E S hz (c_Threads_parentOf l D B K n g_3 a_7 x3 v_9 g_8 eg_8) qc_Threads_parentOf ⟨rfl, rfl⟩ (Or.inr ⟨_, qn_69⟩) qw_261 qw_262 qw_49 (by decide +kernel) ⟨Nat.le_of_ble_eq_true rfl, Nat.le_of_ble_eq_true rfl⟩ eog_8 rfl rfl hl.1 (Nat.le_of_ble_eq_true rfl) d_Arc_answers_58 ⟨Nat.le_of_ble_eq_true rfl, Nat.le_of_ble_eq_true rfl⟩ (fun H locs S => ?_)
          refine W.eq (g2 := F0 m 61 ls [.int v_9]) rfl ?_
          refine lv_istore_n (lv' := [(3, .int v_9), (5, .int v_4), (0, .ref (B + a0)), (4, .int x4)]) hx hb d_Arc_answers_61 rfl hl (by decide) rfl (fun ls hl => ?_)
          refine lv_iinc (v := (x4 + 1)) (lv' := [(4, .int (x4 + 1)), (3, .int v_9), (5, .int v_4), (0, .ref (B + a0))]) hx hb d_Arc_answers_62 hl (k := 3) rfl rfl (by decide) rfl (fun ls hl => ?_)
          refine lv_goto (tgt := 27) hx hb d_Arc_answers_65 (by decide) ?_
          exact ih _ _ _ _ _ _ hF _ _ S _ (lv_sub hl [3, 1, 0] rfl)
        · rw [if_neg c_5] at hF
          refine lv_iload hx hb d_Arc_answers_50 (lv_at hl 0 rfl) ?_
          cases hF
          exact m_iret E S hz hr hlk d_Arc_answers_52
end S_Arc_answers
def f_Arc_answers  (g : m_G) (a0 : Nat) (x1 : Int32) : Option (Int32 × m_G) :=
  m_gd (m_is g a0 0) <|
  m_bd (f_Arc_messageAt g a0 x1) fun v_2 g_1 =>
  match v_2 with
  | none =>
    some ((-1), g_1)
  | some a_3 =>
    (m_gR g_1 a0 0 3).bind fun v_4 =>
    (m_gI g_1 a_3 4 4).bind fun v_5 =>
    Option.bind v_4 fun a_6 =>
    m_gd (m_is g_1 a_6 6) <|
    m_bd (f_Threads_parentOf g_1 a_6 v_5) fun v_8 g_7 =>
    f_Arc_answers_27 m_fu g_7 a0 v_8 0
set_option maxHeartbeats 1000000 in
set_option maxRecDepth 100000 in
theorem c_Arc_answers (l : Launch) (D : va_G) (B : Nat) (K : Nat → ClassId)  (n : Nat) (g : m_G) (a0 : Nat) (x1 : Int32) (r : Int32) (g' : m_G) (hF : f_Arc_answers g a0 x1 = some (r, g')) : Met l y_Arc_answers (Cond.code y_Arc_answers b_Arc_answers 6 (some .int) :: m_TB) ({ frames := 1, cells := 0, slots := 0, locals := 22 } : Room) (m_Pc D B K n g [.ref (B + a0), .int x1]) (m_Q D B K (some (.int r)) n g') 0 0 (fun q => B ≤ q) := by
  refine m_met (by decide) (Nat.le_of_ble_eq_true rfl) ?_
  intro p e s m args below meth c ls E hr hlk hin hsz S hl
  have E : m_V p m c b_Arc_answers 6 s args R_Arc D K := E
  have hz : s.heap.size + 0 = B + n := hsz
  have hl : lv_has ls 6 [(0, .ref (B + a0)), (1, .int x1)] := hl
  have hx := E.1.1
  have hb := E.1.2.1
  have hts := E.1.2.2.2.2
  unfold f_Arc_answers at hF
  refine lv_aload_n hx hb d_Arc_answers_0 rfl (lv_at hl 0 rfl) ?_
  refine lv_iload_n hx hb d_Arc_answers_1 rfl (lv_at hl 1 rfl) ?_
  replace hF := m_gd_inv hF
  obtain ⟨eog_1, hF⟩ := hF
  replace hF := m_bd_inv hF
  obtain ⟨v_2, g_1, eg_1, hF⟩ := hF
  refine m_callV (B := B) (nn := 1) (b := a0) (As := [.int x1]) (rest := []) (v := (some (m_r B v_2))) E S hz (c_Arc_messageAt l D B K n g a0 x1 v_2 g_1 eg_1) qc_Arc_messageAt ⟨rfl, rfl⟩ (Or.inl qw_183) qw_184 qw_185 qw_105 (by decide +kernel) ⟨Nat.le_of_ble_eq_true rfl, Nat.le_of_ble_eq_true rfl⟩ eog_1 rfl rfl hl.1 (Nat.le_of_ble_eq_true rfl) d_Arc_answers_2 ⟨Nat.le_of_ble_eq_true rfl, Nat.le_of_ble_eq_true rfl⟩ (fun H locs S => ?_)
  refine W.eq (g2 := F0 m 5 ls [m_r B v_2]) rfl ?_
  refine m_astore_n (B := B) (r := v_2) (lv' := [(2, m_r B v_2), (0, .ref (B + a0)), (1, .int x1)]) E d_Arc_answers_5 rfl hl (by decide) rfl (fun ls hl => ?_)
  refine m_aload_n (B := B) (r := v_2) E d_Arc_answers_6 rfl (lv_at hl 0 rfl) ?_
  refine m_ifnonnull (B := B) (r := v_2) (tgt := 12) E d_Arc_answers_7 (by decide) (fun a_3 ea_3 => ?_) (fun ea_3 => ?_)
  · subst ea_3
    dsimp only at hF
    refine lv_aload_n hx hb d_Arc_answers_12 rfl (lv_at hl 1 rfl) ?_
    replace hF := Option.bind_eq_some_iff.mp hF
    obtain ⟨v_4, ev_4, hF⟩ := hF
    refine m_getR (B := B) (a := a0) E S fd_Arc_threads (Or.inl qw_68) ev_4 d_Arc_answers_13 ?_
    refine m_aload_n (B := B) (r := (some a_3)) E d_Arc_answers_16 rfl (lv_at hl 0 rfl) ?_
    replace hF := Option.bind_eq_some_iff.mp hF
    obtain ⟨v_5, ev_5, hF⟩ := hF
    refine m_getI (B := B) (a := a_3) E S fd_Message_id (Or.inr ⟨_, qn_18⟩) ev_5 d_Arc_answers_17 ?_
    replace hF := Option.bind_eq_some_iff.mp hF
    obtain ⟨a_6, ea_6, hF⟩ := hF
    subst ea_6
    replace hF := m_gd_inv hF
    obtain ⟨eog_7, hF⟩ := hF
    replace hF := m_bd_inv hF
    obtain ⟨v_8, g_7, eg_7, hF⟩ := hF
    refine m_callV (B := B) (nn := 1) (b := a_6) (As := [.int v_5]) (rest := []) (v := (some (.int v_8))) E S hz (c_Threads_parentOf l D B K n g_1 a_6 v_5 v_8 g_7 eg_7) qc_Threads_parentOf ⟨rfl, rfl⟩ (Or.inr ⟨_, qn_69⟩) qw_261 qw_262 qw_49 (by decide +kernel) ⟨Nat.le_of_ble_eq_true rfl, Nat.le_of_ble_eq_true rfl⟩ eog_7 rfl rfl hl.1 (Nat.le_of_ble_eq_true rfl) d_Arc_answers_20 ⟨Nat.le_of_ble_eq_true rfl, Nat.le_of_ble_eq_true rfl⟩ (fun H locs S => ?_)
    refine W.eq (g2 := F0 m 23 ls [.int v_8]) rfl ?_
    refine lv_istore_n (lv' := [(3, .int v_8), (2, m_r B (some a_3)), (0, .ref (B + a0)), (1, .int x1)]) hx hb d_Arc_answers_23 rfl hl (by decide) rfl (fun ls hl => ?_)
    refine lv_iconst (v := 0) hx hb d_Arc_answers_24 (by decide) ?_
    refine lv_istore (lv' := [(4, .int 0), (3, .int v_8), (2, m_r B (some a_3)), (0, .ref (B + a0)), (1, .int x1)]) hx hb d_Arc_answers_25 hl (by decide) rfl (fun ls hl => ?_)
    exact c_Arc_answers_27 E hr hlk hz m_fu _ _ _ _ _ _ hF _ _ S _ (lv_sub hl [3, 1, 0] rfl)
  · subst ea_3
    dsimp only at hF
    refine lv_iconst (v := (-1)) hx hb d_Arc_answers_10 (by decide) ?_
    cases hF
    exact m_iret E S hz hr hlk d_Arc_answers_11
section S_Arc_root
variable {p : Program} {l : Launch} {e : Env} {s : State} {m : MethodId} {args : Array Value} {below : List Frame} {meth : Method} {c : Code} {D : va_G} {B n : Nat} {K : Nat → ClassId}
def f_Arc_root_10   (g : m_G)  : Option (Int32 × m_G) :=
  some ((-1), g)
set_option maxHeartbeats 1000000 in
set_option maxRecDepth 100000 in
theorem c_Arc_root_10 (E : m_V p m c b_Arc_root 2 s args R_Arc D K) (hr : meth.sig.returnType = (some .int)) (hlk : meth.locks = false) (hz : s.heap.size + 0 = B + n)   : ∀ (g : m_G)  (r : Int32) (g' : m_G), f_Arc_root_10 g  = some (r, g') → ∀ (H : Heap) (locs : List Loc), m_S D B K n g s.heap H locs → ∀ ls : Array Slot, lv_has ls 2 [] → W p l e ({ frames := 1, cells := 0, slots := 0, locals := 23 } : Room) s m args below meth c H locs 0 0 (MQ below (m_Q D B K (some (.int r)) n g') args s 0 0 (fun q => B ≤ q)) (F0 m 10 ls []) := by
  have hx := E.1.1
  have hb := E.1.2.1
  have hts := E.1.2.2.2.2
  intro g  r g' hF H locs S ls hl
  unfold f_Arc_root_10 at hF
  refine lv_iconst (v := (-1)) hx hb d_Arc_root_10 (by decide) ?_
  cases hF
  exact m_iret E S hz hr hlk d_Arc_root_11
end S_Arc_root
def f_Arc_root  (g : m_G) (a0 : Nat) (x1 : Int32) : Option (Int32 × m_G) :=
  if (x1 : Int32) < 0 then
    f_Arc_root_10 g 
  else
    if (x1 : Int32) < 64 then
      (m_gR g a0 0 3).bind fun v_3 =>
      Option.bind v_3 fun a_4 =>
      m_gd (m_is g a_4 6) <|
      m_bd (f_Threads_topOf g a_4 x1) fun v_6 g_5 =>
      some (v_6, g_5)
    else
      f_Arc_root_10 g 
set_option maxHeartbeats 1000000 in
set_option maxRecDepth 100000 in
theorem c_Arc_root (l : Launch) (D : va_G) (B : Nat) (K : Nat → ClassId)  (n : Nat) (g : m_G) (a0 : Nat) (x1 : Int32) (r : Int32) (g' : m_G) (hF : f_Arc_root g a0 x1 = some (r, g')) : Met l y_Arc_root (Cond.code y_Arc_root b_Arc_root 2 (some .int) :: m_TB) ({ frames := 1, cells := 0, slots := 0, locals := 23 } : Room) (m_Pc D B K n g [.ref (B + a0), .int x1]) (m_Q D B K (some (.int r)) n g') 0 0 (fun q => B ≤ q) := by
  refine m_met (by decide) (Nat.le_of_ble_eq_true rfl) ?_
  intro p e s m args below meth c ls E hr hlk hin hsz S hl
  have E : m_V p m c b_Arc_root 2 s args R_Arc D K := E
  have hz : s.heap.size + 0 = B + n := hsz
  have hl : lv_has ls 2 [(0, .ref (B + a0)), (1, .int x1)] := hl
  have hx := E.1.1
  have hb := E.1.2.1
  have hts := E.1.2.2.2.2
  unfold f_Arc_root at hF
  refine lv_iload_n hx hb d_Arc_root_0 rfl (lv_at hl 1 rfl) ?_
  refine lv_if_lt (tgt := 10) hx hb d_Arc_root_1 (by decide) (fun c_1 => ?_) (fun c_1 => ?_)
  · rw [if_pos c_1] at hF
    exact c_Arc_root_10 E hr hlk hz _ _ _ hF _ _ S _ (lv_sub hl [] rfl)
  · rw [if_neg c_1] at hF
    refine lv_iload_n hx hb d_Arc_root_4 rfl (lv_at hl 1 rfl) ?_
    refine lv_bipush (v := 64) hx hb d_Arc_root_5 (by decide) ?_
    refine lv_icmp_lt (tgt := 12) hx hb d_Arc_root_7 (by decide) (fun c_2 => ?_) (fun c_2 => ?_)
    · rw [if_pos c_2] at hF
      refine lv_aload_n hx hb d_Arc_root_12 rfl (lv_at hl 0 rfl) ?_
      replace hF := Option.bind_eq_some_iff.mp hF
      obtain ⟨v_3, ev_3, hF⟩ := hF
      refine m_getR (B := B) (a := a0) E S fd_Arc_threads (Or.inl qw_68) ev_3 d_Arc_root_13 ?_
      refine lv_iload_n hx hb d_Arc_root_16 rfl (lv_at hl 1 rfl) ?_
      replace hF := Option.bind_eq_some_iff.mp hF
      obtain ⟨a_4, ea_4, hF⟩ := hF
      subst ea_4
      replace hF := m_gd_inv hF
      obtain ⟨eog_5, hF⟩ := hF
      replace hF := m_bd_inv hF
      obtain ⟨v_6, g_5, eg_5, hF⟩ := hF
      refine m_callV (B := B) (nn := 1) (b := a_4) (As := [.int x1]) (rest := []) (v := (some (.int v_6))) E S hz (c_Threads_topOf l D B K n g a_4 x1 v_6 g_5 eg_5) qc_Threads_topOf ⟨rfl, rfl⟩ (Or.inr ⟨_, qn_68⟩) qw_253 qw_254 qw_49 (by decide +kernel) ⟨Nat.le_of_ble_eq_true rfl, Nat.le_of_ble_eq_true rfl⟩ eog_5 rfl rfl hl.1 (Nat.le_of_ble_eq_true rfl) d_Arc_root_17 ⟨Nat.le_of_ble_eq_true rfl, Nat.le_of_ble_eq_true rfl⟩ (fun H locs S => ?_)
      refine W.eq (g2 := F0 m 20 ls [.int v_6]) rfl ?_
      cases hF
      exact m_iret E S hz hr hlk d_Arc_root_20
    · rw [if_neg c_2] at hF
      exact c_Arc_root_10 E hr hlk hz _ _ _ hF _ _ S _ (lv_sub hl [] rfl)
section S_Message_hasWord
variable {p : Program} {l : Launch} {e : Env} {s : State} {m : MethodId} {args : Array Value} {below : List Frame} {meth : Method} {c : Code} {D : va_G} {B n : Nat} {K : Nat → ClassId}
def f_Message_hasWord_17   (g : m_G) (y0 : Int32) : Option (Int32 × m_G) :=
  if (y0 : Int32) = 0 ∨ y0 = 1 then some (y0, g) else none
set_option maxHeartbeats 1000000 in
set_option maxRecDepth 100000 in
theorem c_Message_hasWord_17 (E : m_V p m c b_Message_hasWord 2 s args R_Message D K) (hr : meth.sig.returnType = (some .boolean)) (hlk : meth.locks = false) (hz : s.heap.size + 0 = B + n)   : ∀ (g : m_G) (y0 : Int32) (r : Int32) (g' : m_G), f_Message_hasWord_17 g y0 = some (r, g') → ∀ (H : Heap) (locs : List Loc), m_S D B K n g s.heap H locs → ∀ ls : Array Slot, lv_has ls 2 [] → W p l e ({ frames := 0, cells := 0, slots := 0, locals := 0 } : Room) s m args below meth c H locs 0 0 (MQ below (m_Q D B K (some (.int r)) n g') args s 0 0 (fun q => B ≤ q)) (F0 m 17 ls [.int y0]) := by
  have hx := E.1.1
  have hb := E.1.2.1
  have hts := E.1.2.2.2.2
  intro g y0 r g' hF H locs S ls hl
  unfold f_Message_hasWord_17 at hF
  by_cases c_1 : (y0 : Int32) = 0 ∨ y0 = 1
  · rw [if_pos c_1] at hF
    cases hF
    exact m_zret E S hz hr hlk c_1 d_Message_hasWord_17
  · rw [if_neg c_1] at hF
    cases hF
def f_Message_hasWord_16   (g : m_G)  : Option (Int32 × m_G) :=
  f_Message_hasWord_17 g 0
set_option maxHeartbeats 1000000 in
set_option maxRecDepth 100000 in
theorem c_Message_hasWord_16 (E : m_V p m c b_Message_hasWord 2 s args R_Message D K) (hr : meth.sig.returnType = (some .boolean)) (hlk : meth.locks = false) (hz : s.heap.size + 0 = B + n)   : ∀ (g : m_G)  (r : Int32) (g' : m_G), f_Message_hasWord_16 g  = some (r, g') → ∀ (H : Heap) (locs : List Loc), m_S D B K n g s.heap H locs → ∀ ls : Array Slot, lv_has ls 2 [] → W p l e ({ frames := 0, cells := 0, slots := 0, locals := 0 } : Room) s m args below meth c H locs 0 0 (MQ below (m_Q D B K (some (.int r)) n g') args s 0 0 (fun q => B ≤ q)) (F0 m 16 ls []) := by
  have hx := E.1.1
  have hb := E.1.2.1
  have hts := E.1.2.2.2.2
  intro g  r g' hF H locs S ls hl
  unfold f_Message_hasWord_16 at hF
  refine lv_iconst (v := 0) hx hb d_Message_hasWord_16 (by decide) ?_
  exact c_Message_hasWord_17 E hr hlk hz _ _ _ _ hF _ _ S _ (lv_sub hl [] rfl)
end S_Message_hasWord
def f_Message_hasWord  (g : m_G) (a0 : Nat) (x1 : Int32) : Option (Int32 × m_G) :=
  if (x1 : Int32) < 0 then
    f_Message_hasWord_16 g 
  else
    (m_gI g a0 4 6).bind fun v_2 =>
    if (v_2 : Int32) ≤ x1 then
      f_Message_hasWord_16 g 
    else
      f_Message_hasWord_17 g 1
set_option maxHeartbeats 1000000 in
set_option maxRecDepth 100000 in
theorem c_Message_hasWord (l : Launch) (D : va_G) (B : Nat) (K : Nat → ClassId)  (n : Nat) (g : m_G) (a0 : Nat) (x1 : Int32) (r : Int32) (g' : m_G) (hF : f_Message_hasWord g a0 x1 = some (r, g')) : Met l y_Message_hasWord (Cond.code y_Message_hasWord b_Message_hasWord 2 (some .boolean) :: m_TB) ({ frames := 0, cells := 0, slots := 0, locals := 0 } : Room) (m_Pc D B K n g [.ref (B + a0), .int x1]) (m_Q D B K (some (.int r)) n g') 0 0 (fun q => B ≤ q) := by
  refine m_met (by decide) (Nat.le_of_ble_eq_true rfl) ?_
  intro p e s m args below meth c ls E hr hlk hin hsz S hl
  have E : m_V p m c b_Message_hasWord 2 s args R_Message D K := E
  have hz : s.heap.size + 0 = B + n := hsz
  have hl : lv_has ls 2 [(0, .ref (B + a0)), (1, .int x1)] := hl
  have hx := E.1.1
  have hb := E.1.2.1
  have hts := E.1.2.2.2.2
  unfold f_Message_hasWord at hF
  refine lv_iload_n hx hb d_Message_hasWord_0 rfl (lv_at hl 1 rfl) ?_
  refine lv_if_lt (tgt := 16) hx hb d_Message_hasWord_1 (by decide) (fun c_1 => ?_) (fun c_1 => ?_)
  · rw [if_pos c_1] at hF
    exact c_Message_hasWord_16 E hr hlk hz _ _ _ hF _ _ S _ (lv_sub hl [] rfl)
  · rw [if_neg c_1] at hF
    refine lv_iload_n hx hb d_Message_hasWord_4 rfl (lv_at hl 1 rfl) ?_
    refine lv_aload_n hx hb d_Message_hasWord_5 rfl (lv_at hl 0 rfl) ?_
    replace hF := Option.bind_eq_some_iff.mp hF
    obtain ⟨v_2, ev_2, hF⟩ := hF
    refine m_getI (B := B) (a := a0) E S fd_Message_wordCount (Or.inl qw_22) ev_2 d_Message_hasWord_6 ?_
    refine lv_icmp_ge (tgt := 16) hx hb d_Message_hasWord_9 (by decide) (fun c_3 => ?_) (fun c_3 => ?_)
    · rw [if_pos c_3] at hF
      exact c_Message_hasWord_16 E hr hlk hz _ _ _ hF _ _ S _ (lv_sub hl [] rfl)
    · rw [if_neg c_3] at hF
      refine lv_iconst (v := 1) hx hb d_Message_hasWord_12 (by decide) ?_
      refine lv_goto (tgt := 17) hx hb d_Message_hasWord_13 (by decide) ?_
      exact c_Message_hasWord_17 E hr hlk hz _ _ _ _ hF _ _ S _ (lv_sub hl [] rfl)
section S_Arc_word
variable {p : Program} {l : Launch} {e : Env} {s : State} {m : MethodId} {args : Array Value} {below : List Frame} {meth : Method} {c : Code} {D : va_G} {B n : Nat} {K : Nat → ClassId}
def f_Arc_word_18   (g : m_G)  : Option (Int64 × m_G) :=
  some ((-1), g)
set_option maxHeartbeats 1000000 in
set_option maxRecDepth 100000 in
theorem c_Arc_word_18 (E : m_V p m c b_Arc_word 4 s args R_Arc D K) (hr : meth.sig.returnType = (some .long)) (hlk : meth.locks = false) (hz : s.heap.size + 0 = B + n)   : ∀ (g : m_G)  (r : Int64) (g' : m_G), f_Arc_word_18 g  = some (r, g') → ∀ (H : Heap) (locs : List Loc), m_S D B K n g s.heap H locs → ∀ ls : Array Slot, lv_has ls 4 [] → W p l e ({ frames := 1, cells := 0, slots := 0, locals := 21 } : Room) s m args below meth c H locs 0 0 (MQ below (m_Q D B K (some (.long r)) n g') args s 0 0 (fun q => B ≤ q)) (F0 m 18 ls []) := by
  have hx := E.1.1
  have hb := E.1.2.1
  have hts := E.1.2.2.2.2
  intro g  r g' hF H locs S ls hl
  unfold f_Arc_word_18 at hF
  refine lv_ldc2 (v := (-1)) hx hb E.1.2.2.2.1 (hts _ qw_265) d_Arc_word_18 ?_
  cases hF
  exact m_lret E S hz hr hlk d_Arc_word_21
end S_Arc_word
def f_Arc_word  (g : m_G) (a0 : Nat) (x1 : Int32) (x2 : Int32) : Option (Int64 × m_G) :=
  m_gd (m_is g a0 0) <|
  m_bd (f_Arc_messageAt g a0 x1) fun v_2 g_1 =>
  match v_2 with
  | none =>
    f_Arc_word_18 g_1 
  | some a_3 =>
    m_gd (m_is g_1 a_3 4) <|
    m_bd (f_Message_hasWord g_1 a_3 x2) fun v_5 g_4 =>
    if (v_5 : Int32) = 0 then
      f_Arc_word_18 g_4 
    else
      (m_gR g_4 a_3 4 1).bind fun v_7 =>
      Option.bind v_7 fun a_8 =>
      (m_ldL g_4 a_8 2 x2).bind fun v_9 =>
      some (v_9, g_4)
set_option maxHeartbeats 1000000 in
set_option maxRecDepth 100000 in
theorem c_Arc_word (l : Launch) (D : va_G) (B : Nat) (K : Nat → ClassId)  (n : Nat) (g : m_G) (a0 : Nat) (x1 : Int32) (x2 : Int32) (r : Int64) (g' : m_G) (hF : f_Arc_word g a0 x1 x2 = some (r, g')) : Met l y_Arc_word (Cond.code y_Arc_word b_Arc_word 4 (some .long) :: m_TB) ({ frames := 1, cells := 0, slots := 0, locals := 21 } : Room) (m_Pc D B K n g [.ref (B + a0), .int x1, .int x2]) (m_Q D B K (some (.long r)) n g') 0 0 (fun q => B ≤ q) := by
  refine m_met (by decide) (Nat.le_of_ble_eq_true rfl) ?_
  intro p e s m args below meth c ls E hr hlk hin hsz S hl
  have E : m_V p m c b_Arc_word 4 s args R_Arc D K := E
  have hz : s.heap.size + 0 = B + n := hsz
  have hl : lv_has ls 4 [(0, .ref (B + a0)), (1, .int x1), (2, .int x2)] := hl
  have hx := E.1.1
  have hb := E.1.2.1
  have hts := E.1.2.2.2.2
  unfold f_Arc_word at hF
  refine lv_aload_n hx hb d_Arc_word_0 rfl (lv_at hl 0 rfl) ?_
  refine lv_iload_n hx hb d_Arc_word_1 rfl (lv_at hl 1 rfl) ?_
  replace hF := m_gd_inv hF
  obtain ⟨eog_1, hF⟩ := hF
  replace hF := m_bd_inv hF
  obtain ⟨v_2, g_1, eg_1, hF⟩ := hF
  refine m_callV (B := B) (nn := 1) (b := a0) (As := [.int x1]) (rest := []) (v := (some (m_r B v_2))) E S hz (c_Arc_messageAt l D B K n g a0 x1 v_2 g_1 eg_1) qc_Arc_messageAt ⟨rfl, rfl⟩ (Or.inl qw_183) qw_184 qw_185 qw_105 (by decide +kernel) ⟨Nat.le_of_ble_eq_true rfl, Nat.le_of_ble_eq_true rfl⟩ eog_1 rfl rfl hl.1 (Nat.le_of_ble_eq_true rfl) d_Arc_word_2 ⟨Nat.le_of_ble_eq_true rfl, Nat.le_of_ble_eq_true rfl⟩ (fun H locs S => ?_)
  refine W.eq (g2 := F0 m 5 ls [m_r B v_2]) rfl ?_
  refine m_astore_n (B := B) (r := v_2) (lv' := [(3, m_r B v_2), (0, .ref (B + a0)), (1, .int x1), (2, .int x2)]) E d_Arc_word_5 rfl hl (by decide) rfl (fun ls hl => ?_)
  refine m_aload_n (B := B) (r := v_2) E d_Arc_word_6 rfl (lv_at hl 0 rfl) ?_
  refine m_ifnull (B := B) (r := v_2) (tgt := 18) E d_Arc_word_7 (by decide) (fun ea_3 => ?_) (fun a_3 ea_3 => ?_)
  · subst ea_3
    dsimp only at hF
    exact c_Arc_word_18 E hr hlk hz _ _ _ hF _ _ S _ (lv_sub hl [] rfl)
  · subst ea_3
    dsimp only at hF
    refine m_aload_n (B := B) (r := (some a_3)) E d_Arc_word_10 rfl (lv_at hl 0 rfl) ?_
    refine lv_iload_n hx hb d_Arc_word_11 rfl (lv_at hl 3 rfl) ?_
    replace hF := m_gd_inv hF
    obtain ⟨eog_4, hF⟩ := hF
    replace hF := m_bd_inv hF
    obtain ⟨v_5, g_4, eg_4, hF⟩ := hF
    refine m_callV (B := B) (nn := 1) (b := a_3) (As := [.int x2]) (rest := []) (v := (some (.int v_5))) E S hz (c_Message_hasWord l D B K n g_1 a_3 x2 v_5 g_4 eg_4) qc_Message_hasWord ⟨rfl, rfl⟩ (Or.inr ⟨_, qn_70⟩) qw_263 qw_264 qw_77 (by decide +kernel) ⟨Nat.le_of_ble_eq_true rfl, Nat.le_of_ble_eq_true rfl⟩ eog_4 rfl rfl hl.1 (Nat.le_of_ble_eq_true rfl) d_Arc_word_12 ⟨Nat.le_of_ble_eq_true rfl, Nat.le_of_ble_eq_true rfl⟩ (fun H locs S => ?_)
    refine W.eq (g2 := F0 m 15 ls [.int v_5]) rfl ?_
    refine lv_if_ne (tgt := 22) hx hb d_Arc_word_15 (by decide) (fun c_6 => ?_) (fun c_6 => ?_)
    · rw [if_neg c_6] at hF
      refine m_aload_n (B := B) (r := (some a_3)) E d_Arc_word_22 rfl (lv_at hl 0 rfl) ?_
      replace hF := Option.bind_eq_some_iff.mp hF
      obtain ⟨v_7, ev_7, hF⟩ := hF
      refine m_getR (B := B) (a := a_3) E S fd_Message_codes (Or.inr ⟨_, qn_71⟩) ev_7 d_Arc_word_23 ?_
      refine lv_iload_n hx hb d_Arc_word_26 rfl (lv_at hl 3 rfl) ?_
      replace hF := Option.bind_eq_some_iff.mp hF
      obtain ⟨a_8, ea_8, hF⟩ := hF
      subst ea_8
      replace hF := Option.bind_eq_some_iff.mp hF
      obtain ⟨v_9, ev_9, hF⟩ := hF
      refine m_lald (B := B) (a := a_8) (t := 2) E S rfl ev_9 d_Arc_word_27 ?_
      cases hF
      exact m_lret E S hz hr hlk d_Arc_word_28
    · rw [if_pos c_6] at hF
      exact c_Arc_word_18 E hr hlk hz _ _ _ hF _ _ S _ (lv_sub hl [] rfl)
section S_Arc_field
variable {p : Program} {l : Launch} {e : Env} {s : State} {m : MethodId} {args : Array Value} {below : List Frame} {meth : Method} {c : Code} {D : va_G} {B n : Nat} {K : Nat → ClassId}
def f_Arc_field_18   (g : m_G)  : Option (Int32 × m_G) :=
  some ((-1), g)
set_option maxHeartbeats 1000000 in
set_option maxRecDepth 100000 in
theorem c_Arc_field_18 (E : m_V p m c b_Arc_field 4 s args R_Arc D K) (hr : meth.sig.returnType = (some .int)) (hlk : meth.locks = false) (hz : s.heap.size + 0 = B + n)   : ∀ (g : m_G)  (r : Int32) (g' : m_G), f_Arc_field_18 g  = some (r, g') → ∀ (H : Heap) (locs : List Loc), m_S D B K n g s.heap H locs → ∀ ls : Array Slot, lv_has ls 4 [] → W p l e ({ frames := 1, cells := 0, slots := 0, locals := 21 } : Room) s m args below meth c H locs 0 0 (MQ below (m_Q D B K (some (.int r)) n g') args s 0 0 (fun q => B ≤ q)) (F0 m 18 ls []) := by
  have hx := E.1.1
  have hb := E.1.2.1
  have hts := E.1.2.2.2.2
  intro g  r g' hF H locs S ls hl
  unfold f_Arc_field_18 at hF
  refine lv_iconst (v := (-1)) hx hb d_Arc_field_18 (by decide) ?_
  cases hF
  exact m_iret E S hz hr hlk d_Arc_field_19
end S_Arc_field
def f_Arc_field  (g : m_G) (a0 : Nat) (x1 : Int32) (x2 : Int32) : Option (Int32 × m_G) :=
  m_gd (m_is g a0 0) <|
  m_bd (f_Arc_messageAt g a0 x1) fun v_2 g_1 =>
  match v_2 with
  | none =>
    f_Arc_field_18 g_1 
  | some a_3 =>
    m_gd (m_is g_1 a_3 4) <|
    m_bd (f_Message_hasWord g_1 a_3 x2) fun v_5 g_4 =>
    if (v_5 : Int32) = 0 then
      f_Arc_field_18 g_4 
    else
      (m_gR g_4 a_3 4 2).bind fun v_7 =>
      Option.bind v_7 fun a_8 =>
      (m_ld g_4 a_8 0 x2).bind fun v_9 =>
      some (v_9, g_4)
set_option maxHeartbeats 1000000 in
set_option maxRecDepth 100000 in
theorem c_Arc_field (l : Launch) (D : va_G) (B : Nat) (K : Nat → ClassId)  (n : Nat) (g : m_G) (a0 : Nat) (x1 : Int32) (x2 : Int32) (r : Int32) (g' : m_G) (hF : f_Arc_field g a0 x1 x2 = some (r, g')) : Met l y_Arc_field (Cond.code y_Arc_field b_Arc_field 4 (some .int) :: m_TB) ({ frames := 1, cells := 0, slots := 0, locals := 21 } : Room) (m_Pc D B K n g [.ref (B + a0), .int x1, .int x2]) (m_Q D B K (some (.int r)) n g') 0 0 (fun q => B ≤ q) := by
  refine m_met (by decide) (Nat.le_of_ble_eq_true rfl) ?_
  intro p e s m args below meth c ls E hr hlk hin hsz S hl
  have E : m_V p m c b_Arc_field 4 s args R_Arc D K := E
  have hz : s.heap.size + 0 = B + n := hsz
  have hl : lv_has ls 4 [(0, .ref (B + a0)), (1, .int x1), (2, .int x2)] := hl
  have hx := E.1.1
  have hb := E.1.2.1
  have hts := E.1.2.2.2.2
  unfold f_Arc_field at hF
  refine lv_aload_n hx hb d_Arc_field_0 rfl (lv_at hl 0 rfl) ?_
  refine lv_iload_n hx hb d_Arc_field_1 rfl (lv_at hl 1 rfl) ?_
  replace hF := m_gd_inv hF
  obtain ⟨eog_1, hF⟩ := hF
  replace hF := m_bd_inv hF
  obtain ⟨v_2, g_1, eg_1, hF⟩ := hF
  refine m_callV (B := B) (nn := 1) (b := a0) (As := [.int x1]) (rest := []) (v := (some (m_r B v_2))) E S hz (c_Arc_messageAt l D B K n g a0 x1 v_2 g_1 eg_1) qc_Arc_messageAt ⟨rfl, rfl⟩ (Or.inl qw_183) qw_184 qw_185 qw_105 (by decide +kernel) ⟨Nat.le_of_ble_eq_true rfl, Nat.le_of_ble_eq_true rfl⟩ eog_1 rfl rfl hl.1 (Nat.le_of_ble_eq_true rfl) d_Arc_field_2 ⟨Nat.le_of_ble_eq_true rfl, Nat.le_of_ble_eq_true rfl⟩ (fun H locs S => ?_)
  refine W.eq (g2 := F0 m 5 ls [m_r B v_2]) rfl ?_
  refine m_astore_n (B := B) (r := v_2) (lv' := [(3, m_r B v_2), (0, .ref (B + a0)), (1, .int x1), (2, .int x2)]) E d_Arc_field_5 rfl hl (by decide) rfl (fun ls hl => ?_)
  refine m_aload_n (B := B) (r := v_2) E d_Arc_field_6 rfl (lv_at hl 0 rfl) ?_
  refine m_ifnull (B := B) (r := v_2) (tgt := 18) E d_Arc_field_7 (by decide) (fun ea_3 => ?_) (fun a_3 ea_3 => ?_)
  · subst ea_3
    dsimp only at hF
    exact c_Arc_field_18 E hr hlk hz _ _ _ hF _ _ S _ (lv_sub hl [] rfl)
  · subst ea_3
    dsimp only at hF
    refine m_aload_n (B := B) (r := (some a_3)) E d_Arc_field_10 rfl (lv_at hl 0 rfl) ?_
    refine lv_iload_n hx hb d_Arc_field_11 rfl (lv_at hl 3 rfl) ?_
    replace hF := m_gd_inv hF
    obtain ⟨eog_4, hF⟩ := hF
    replace hF := m_bd_inv hF
    obtain ⟨v_5, g_4, eg_4, hF⟩ := hF
    refine m_callV (B := B) (nn := 1) (b := a_3) (As := [.int x2]) (rest := []) (v := (some (.int v_5))) E S hz (c_Message_hasWord l D B K n g_1 a_3 x2 v_5 g_4 eg_4) qc_Message_hasWord ⟨rfl, rfl⟩ (Or.inr ⟨_, qn_70⟩) qw_263 qw_264 qw_77 (by decide +kernel) ⟨Nat.le_of_ble_eq_true rfl, Nat.le_of_ble_eq_true rfl⟩ eog_4 rfl rfl hl.1 (Nat.le_of_ble_eq_true rfl) d_Arc_field_12 ⟨Nat.le_of_ble_eq_true rfl, Nat.le_of_ble_eq_true rfl⟩ (fun H locs S => ?_)
    refine W.eq (g2 := F0 m 15 ls [.int v_5]) rfl ?_
    refine lv_if_ne (tgt := 20) hx hb d_Arc_field_15 (by decide) (fun c_6 => ?_) (fun c_6 => ?_)
    · rw [if_neg c_6] at hF
      refine m_aload_n (B := B) (r := (some a_3)) E d_Arc_field_20 rfl (lv_at hl 0 rfl) ?_
      replace hF := Option.bind_eq_some_iff.mp hF
      obtain ⟨v_7, ev_7, hF⟩ := hF
      refine m_getR (B := B) (a := a_3) E S fd_Message_fields (Or.inr ⟨_, qn_72⟩) ev_7 d_Arc_field_21 ?_
      refine lv_iload_n hx hb d_Arc_field_24 rfl (lv_at hl 3 rfl) ?_
      replace hF := Option.bind_eq_some_iff.mp hF
      obtain ⟨a_8, ea_8, hF⟩ := hF
      subst ea_8
      replace hF := Option.bind_eq_some_iff.mp hF
      obtain ⟨v_9, ev_9, hF⟩ := hF
      refine m_iald (B := B) (a := a_8) (t := 0) E S rfl ev_9 d_Arc_field_25 ?_
      cases hF
      exact m_iret E S hz hr hlk d_Arc_field_26
    · rw [if_pos c_6] at hF
      exact c_Arc_field_18 E hr hlk hz _ _ _ hF _ _ S _ (lv_sub hl [] rfl)
section S_Message_hasCodeBefore
variable {p : Program} {l : Launch} {e : Env} {s : State} {m : MethodId} {args : Array Value} {below : List Frame} {meth : Method} {c : Code} {D : va_G} {B n : Nat} {K : Nat → ClassId}
def f_Message_hasCodeBefore_3   : Nat → m_G → Nat → Int32 → Int64 → Int32 → Option (Int32 × m_G)
  | 0, _, _, _, _, _ => none
  | fu + 1, g, a0, x1, x2, x4 =>
    if (x1 : Int32) ≤ x4 then
      some (0, g)
    else
      (m_gR g a0 4 1).bind fun v_2 =>
      Option.bind v_2 fun a_3 =>
      (m_ldL g a_3 2 x4).bind fun v_4 =>
      if ((lg_cmp v_4 x2) : Int32) = 0 then
        some (1, g)
      else
        f_Message_hasCodeBefore_3 fu g a0 x1 x2 (x4 + 1)
set_option maxHeartbeats 1000000 in
set_option maxRecDepth 100000 in
theorem c_Message_hasCodeBefore_3 (E : m_V p m c b_Message_hasCodeBefore 5 s args R_Message D K) (hr : meth.sig.returnType = (some .boolean)) (hlk : meth.locks = false) (hz : s.heap.size + 0 = B + n)   : ∀ fu : Nat, ∀ (g : m_G) (a0 : Nat) (x1 : Int32) (x2 : Int64) (x4 : Int32) (r : Int32) (g' : m_G), f_Message_hasCodeBefore_3  fu g a0 x1 x2 x4 = some (r, g') → ∀ (H : Heap) (locs : List Loc), m_S D B K n g s.heap H locs → ∀ ls : Array Slot, lv_has ls 5 [(0, .ref (B + a0)), (1, .int x1), (2, .long x2), (4, .int x4)] → W p l e ({ frames := 0, cells := 0, slots := 0, locals := 0 } : Room) s m args below meth c H locs 0 0 (MQ below (m_Q D B K (some (.int r)) n g') args s 0 0 (fun q => B ≤ q)) (F0 m 3 ls []) := by
  have hx := E.1.1
  have hb := E.1.2.1
  have hts := E.1.2.2.2.2
  intro fu
  induction fu with
  | zero => intro g a0 x1 x2 x4 r g' hF; cases hF
  | succ fu ih =>
    intro g a0 x1 x2 x4 r g' hF H locs S ls hl
    rw [f_Message_hasCodeBefore_3] at hF
    refine lv_iload hx hb d_Message_hasCodeBefore_3 (lv_at hl 3 rfl) ?_
    refine lv_iload_n hx hb d_Message_hasCodeBefore_5 rfl (lv_at hl 1 rfl) ?_
    refine lv_icmp_ge (tgt := 29) hx hb d_Message_hasCodeBefore_6 (by decide) (fun c_1 => ?_) (fun c_1 => ?_)
    · rw [if_pos c_1] at hF
      refine lv_iconst (v := 0) hx hb d_Message_hasCodeBefore_29 (by decide) ?_
      cases hF
      exact m_zret E S hz hr hlk (by decide) d_Message_hasCodeBefore_30
    · rw [if_neg c_1] at hF
      refine lv_aload_n hx hb d_Message_hasCodeBefore_9 rfl (lv_at hl 0 rfl) ?_
      replace hF := Option.bind_eq_some_iff.mp hF
      obtain ⟨v_2, ev_2, hF⟩ := hF
      refine m_getR (B := B) (a := a0) E S fd_Message_codes (Or.inl qw_17) ev_2 d_Message_hasCodeBefore_10 ?_
      refine lv_iload hx hb d_Message_hasCodeBefore_13 (lv_at hl 3 rfl) ?_
      replace hF := Option.bind_eq_some_iff.mp hF
      obtain ⟨a_3, ea_3, hF⟩ := hF
      subst ea_3
      replace hF := Option.bind_eq_some_iff.mp hF
      obtain ⟨v_4, ev_4, hF⟩ := hF
      refine m_lald (B := B) (a := a_3) (t := 2) E S rfl ev_4 d_Message_hasCodeBefore_15 ?_
      refine lv_lload_n hx hb d_Message_hasCodeBefore_16 rfl (lv_at hl 2 rfl) ?_
      refine W.lcmp hx hb d_Message_hasCodeBefore_17 ?_
      refine lv_if_ne (tgt := 23) hx hb d_Message_hasCodeBefore_18 (by decide) (fun c_5 => ?_) (fun c_5 => ?_)
      · rw [if_neg c_5] at hF
        refine lv_iinc (v := (x4 + 1)) (lv' := [(4, .int (x4 + 1)), (0, .ref (B + a0)), (1, .int x1), (2, .long x2)]) hx hb d_Message_hasCodeBefore_23 hl (k := 3) rfl rfl (by decide) rfl (fun ls hl => ?_)
        refine lv_goto (tgt := 3) hx hb d_Message_hasCodeBefore_26 (by decide) ?_
        exact ih _ _ _ _ _ _ _ hF _ _ S _ (lv_sub hl [1, 2, 3, 0] rfl)
      · rw [if_pos c_5] at hF
        refine lv_iconst (v := 1) hx hb d_Message_hasCodeBefore_21 (by decide) ?_
        cases hF
        exact m_zret E S hz hr hlk (by decide) d_Message_hasCodeBefore_22
end S_Message_hasCodeBefore
def f_Message_hasCodeBefore  (g : m_G) (a0 : Nat) (x1 : Int32) (x2 : Int64) : Option (Int32 × m_G) :=
  f_Message_hasCodeBefore_3 m_fu g a0 x1 x2 0
set_option maxHeartbeats 1000000 in
set_option maxRecDepth 100000 in
theorem c_Message_hasCodeBefore (l : Launch) (D : va_G) (B : Nat) (K : Nat → ClassId)  (n : Nat) (g : m_G) (a0 : Nat) (x1 : Int32) (x2 : Int64) (r : Int32) (g' : m_G) (hF : f_Message_hasCodeBefore g a0 x1 x2 = some (r, g')) : Met l y_Message_hasCodeBefore (Cond.code y_Message_hasCodeBefore b_Message_hasCodeBefore 5 (some .boolean) :: m_TB) ({ frames := 0, cells := 0, slots := 0, locals := 0 } : Room) (m_Pc D B K n g [.ref (B + a0), .int x1, .long x2]) (m_Q D B K (some (.int r)) n g') 0 0 (fun q => B ≤ q) := by
  refine m_met (by decide) (Nat.le_of_ble_eq_true rfl) ?_
  intro p e s m args below meth c ls E hr hlk hin hsz S hl
  have E : m_V p m c b_Message_hasCodeBefore 5 s args R_Message D K := E
  have hz : s.heap.size + 0 = B + n := hsz
  have hl : lv_has ls 5 [(0, .ref (B + a0)), (1, .int x1), (2, .long x2)] := hl
  have hx := E.1.1
  have hb := E.1.2.1
  have hts := E.1.2.2.2.2
  unfold f_Message_hasCodeBefore at hF
  refine lv_iconst (v := 0) hx hb d_Message_hasCodeBefore_0 (by decide) ?_
  refine lv_istore (lv' := [(4, .int 0), (0, .ref (B + a0)), (1, .int x1), (2, .long x2)]) hx hb d_Message_hasCodeBefore_1 hl (by decide) rfl (fun ls hl => ?_)
  exact c_Message_hasCodeBefore_3 E hr hlk hz m_fu _ _ _ _ _ _ _ hF _ _ S _ (lv_sub hl [1, 2, 3, 0] rfl)
section S_Arc_isCodeEarlier
variable {p : Program} {l : Launch} {e : Env} {s : State} {m : MethodId} {args : Array Value} {below : List Frame} {meth : Method} {c : Code} {D : va_G} {B n : Nat} {K : Nat → ClassId}
def f_Arc_isCodeEarlier_3   : Nat → m_G → Nat → Int32 → Int64 → Int32 → Option (Int32 × m_G)
  | 0, _, _, _, _, _ => none
  | fu + 1, g, a0, x1, x2, x4 =>
    if (x1 : Int32) ≤ x4 then
      some (0, g)
    else
      (m_gR g a0 0 5).bind fun v_2 =>
      (m_gR g a0 0 6).bind fun v_3 =>
      Option.bind v_3 fun a_4 =>
      (m_ld g a_4 0 x4).bind fun v_5 =>
      Option.bind v_2 fun a_6 =>
      (m_ldR g a_6 5 v_5).bind fun v_7 =>
      Option.bind v_7 fun a_8 =>
      (m_gI g a_8 4 6).bind fun v_9 =>
      m_gd (m_is g a_8 4) <|
      m_bd (f_Message_hasCodeBefore g a_8 v_9 x2) fun v_11 g_10 =>
      if (v_11 : Int32) = 0 then
        f_Arc_isCodeEarlier_3 fu g_10 a0 x1 x2 (x4 + 1)
      else
        some (1, g_10)
set_option maxHeartbeats 1000000 in
set_option maxRecDepth 100000 in
theorem c_Arc_isCodeEarlier_3 (E : m_V p m c b_Arc_isCodeEarlier 6 s args R_Arc D K) (hr : meth.sig.returnType = (some .boolean)) (hlk : meth.locks = false) (hz : s.heap.size + 0 = B + n)   : ∀ fu : Nat, ∀ (g : m_G) (a0 : Nat) (x1 : Int32) (x2 : Int64) (x4 : Int32) (r : Int32) (g' : m_G), f_Arc_isCodeEarlier_3  fu g a0 x1 x2 x4 = some (r, g') → ∀ (H : Heap) (locs : List Loc), m_S D B K n g s.heap H locs → ∀ ls : Array Slot, lv_has ls 6 [(0, .ref (B + a0)), (1, .int x1), (2, .long x2), (4, .int x4)] → W p l e ({ frames := 1, cells := 0, slots := 0, locals := 24 } : Room) s m args below meth c H locs 0 0 (MQ below (m_Q D B K (some (.int r)) n g') args s 0 0 (fun q => B ≤ q)) (F0 m 3 ls []) := by
  have hx := E.1.1
  have hb := E.1.2.1
  have hts := E.1.2.2.2.2
  intro fu
  induction fu with
  | zero => intro g a0 x1 x2 x4 r g' hF; cases hF
  | succ fu ih =>
    intro g a0 x1 x2 x4 r g' hF H locs S ls hl
    rw [f_Arc_isCodeEarlier_3] at hF
    refine lv_iload hx hb d_Arc_isCodeEarlier_3 (lv_at hl 3 rfl) ?_
    refine lv_iload_n hx hb d_Arc_isCodeEarlier_5 rfl (lv_at hl 1 rfl) ?_
    refine lv_icmp_ge (tgt := 45) hx hb d_Arc_isCodeEarlier_6 (by decide) (fun c_1 => ?_) (fun c_1 => ?_)
    · rw [if_pos c_1] at hF
      refine lv_iconst (v := 0) hx hb d_Arc_isCodeEarlier_45 (by decide) ?_
      cases hF
      exact m_zret E S hz hr hlk (by decide) d_Arc_isCodeEarlier_46
    · rw [if_neg c_1] at hF
      refine lv_aload_n hx hb d_Arc_isCodeEarlier_9 rfl (lv_at hl 0 rfl) ?_
      replace hF := Option.bind_eq_some_iff.mp hF
      obtain ⟨v_2, ev_2, hF⟩ := hF
      refine m_getR (B := B) (a := a0) E S fd_Arc_messages (Or.inl qw_75) ev_2 d_Arc_isCodeEarlier_10 ?_
      refine lv_aload_n hx hb d_Arc_isCodeEarlier_13 rfl (lv_at hl 0 rfl) ?_
      replace hF := Option.bind_eq_some_iff.mp hF
      obtain ⟨v_3, ev_3, hF⟩ := hF
      refine m_getR (B := B) (a := a0) E S fd_Arc_order (Or.inl qw_79) ev_3 d_Arc_isCodeEarlier_14 ?_
      refine lv_iload hx hb d_Arc_isCodeEarlier_17 (lv_at hl 3 rfl) ?_
      replace hF := Option.bind_eq_some_iff.mp hF
      obtain ⟨a_4, ea_4, hF⟩ := hF
      subst ea_4
      replace hF := Option.bind_eq_some_iff.mp hF
      obtain ⟨v_5, ev_5, hF⟩ := hF
      refine m_iald (B := B) (a := a_4) (t := 0) E S rfl ev_5 d_Arc_isCodeEarlier_19 ?_
      replace hF := Option.bind_eq_some_iff.mp hF
      obtain ⟨a_6, ea_6, hF⟩ := hF
      subst ea_6
      replace hF := Option.bind_eq_some_iff.mp hF
      obtain ⟨v_7, ev_7, hF⟩ := hF
      refine m_aald (B := B) (a := a_6) (t := 5) E S rfl ev_7 d_Arc_isCodeEarlier_20 ?_
      refine m_astore (B := B) (r := v_7) (lv' := [(5, m_r B v_7), (0, .ref (B + a0)), (1, .int x1), (2, .long x2), (4, .int x4)]) E d_Arc_isCodeEarlier_21 hl (by decide) rfl (fun ls hl => ?_)
      refine m_aload (B := B) (r := v_7) E d_Arc_isCodeEarlier_23 (lv_at hl 0 rfl) ?_
      refine m_aload (B := B) (r := v_7) E d_Arc_isCodeEarlier_25 (lv_at hl 0 rfl) ?_
      replace hF := Option.bind_eq_some_iff.mp hF
      obtain ⟨a_8, ea_8, hF⟩ := hF
      subst ea_8
      replace hF := Option.bind_eq_some_iff.mp hF
      obtain ⟨v_9, ev_9, hF⟩ := hF
      refine m_getI (B := B) (a := a_8) E S fd_Message_wordCount (Or.inr ⟨_, qn_73⟩) ev_9 d_Arc_isCodeEarlier_27 ?_
      refine lv_lload_n hx hb d_Arc_isCodeEarlier_30 rfl (lv_at hl 3 rfl) ?_
      replace hF := m_gd_inv hF
      obtain ⟨eog_10, hF⟩ := hF
      replace hF := m_bd_inv hF
      obtain ⟨v_11, g_10, eg_10, hF⟩ := hF
      refine m_callV (B := B) (nn := 2) (b := a_8) (As := [.int v_9, .long x2]) (rest := []) (v := (some (.int v_11))) E S hz (c_Message_hasCodeBefore l D B K n g a_8 v_9 x2 v_11 g_10 eg_10) qc_Message_hasCodeBefore ⟨rfl, rfl⟩ (Or.inr ⟨_, qn_74⟩) qw_266 qw_267 qw_77 (by decide +kernel) ⟨Nat.le_of_ble_eq_true rfl, Nat.le_of_ble_eq_true rfl⟩ eog_10 rfl rfl hl.1 (Nat.le_of_ble_eq_true rfl) d_Arc_isCodeEarlier_31 ⟨Nat.le_of_ble_eq_true rfl, Nat.le_of_ble_eq_true rfl⟩ (fun H locs S => ?_)
      refine W.eq (g2 := F0 m 34 ls [.int v_11]) rfl ?_
      refine lv_if_eq (tgt := 39) hx hb d_Arc_isCodeEarlier_34 (by decide) (fun c_12 => ?_) (fun c_12 => ?_)
      · rw [if_pos c_12] at hF
        refine lv_iinc (v := (x4 + 1)) (lv' := [(4, .int (x4 + 1)), (5, m_r B (some a_8)), (0, .ref (B + a0)), (1, .int x1), (2, .long x2)]) hx hb d_Arc_isCodeEarlier_39 hl (k := 4) rfl rfl (by decide) rfl (fun ls hl => ?_)
        refine lv_goto (tgt := 3) hx hb d_Arc_isCodeEarlier_42 (by decide) ?_
        exact ih _ _ _ _ _ _ _ hF _ _ S _ (lv_sub hl [2, 3, 4, 0] rfl)
      · rw [if_neg c_12] at hF
        refine lv_iconst (v := 1) hx hb d_Arc_isCodeEarlier_37 (by decide) ?_
        cases hF
        exact m_zret E S hz hr hlk (by decide) d_Arc_isCodeEarlier_38
end S_Arc_isCodeEarlier
def f_Arc_isCodeEarlier  (g : m_G) (a0 : Nat) (x1 : Int32) (x2 : Int64) : Option (Int32 × m_G) :=
  f_Arc_isCodeEarlier_3 m_fu g a0 x1 x2 0
set_option maxHeartbeats 1000000 in
set_option maxRecDepth 100000 in
theorem c_Arc_isCodeEarlier (l : Launch) (D : va_G) (B : Nat) (K : Nat → ClassId)  (n : Nat) (g : m_G) (a0 : Nat) (x1 : Int32) (x2 : Int64) (r : Int32) (g' : m_G) (hF : f_Arc_isCodeEarlier g a0 x1 x2 = some (r, g')) : Met l y_Arc_isCodeEarlier (Cond.code y_Arc_isCodeEarlier b_Arc_isCodeEarlier 6 (some .boolean) :: m_TB) ({ frames := 1, cells := 0, slots := 0, locals := 24 } : Room) (m_Pc D B K n g [.ref (B + a0), .int x1, .long x2]) (m_Q D B K (some (.int r)) n g') 0 0 (fun q => B ≤ q) := by
  refine m_met (by decide) (Nat.le_of_ble_eq_true rfl) ?_
  intro p e s m args below meth c ls E hr hlk hin hsz S hl
  have E : m_V p m c b_Arc_isCodeEarlier 6 s args R_Arc D K := E
  have hz : s.heap.size + 0 = B + n := hsz
  have hl : lv_has ls 6 [(0, .ref (B + a0)), (1, .int x1), (2, .long x2)] := hl
  have hx := E.1.1
  have hb := E.1.2.1
  have hts := E.1.2.2.2.2
  unfold f_Arc_isCodeEarlier at hF
  refine lv_iconst (v := 0) hx hb d_Arc_isCodeEarlier_0 (by decide) ?_
  refine lv_istore (lv' := [(4, .int 0), (0, .ref (B + a0)), (1, .int x1), (2, .long x2)]) hx hb d_Arc_isCodeEarlier_1 hl (by decide) rfl (fun ls hl => ?_)
  exact c_Arc_isCodeEarlier_3 E hr hlk hz m_fu _ _ _ _ _ _ _ hF _ _ S _ (lv_sub hl [1, 2, 3, 0] rfl)
