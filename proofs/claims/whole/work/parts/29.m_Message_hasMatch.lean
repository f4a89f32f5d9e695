section S_Message_hasMatch
variable {p : Program} {l : Launch} {e : Env} {s : State} {m : MethodId} {args : Array Value} {below : List Frame} {meth : Method} {c : Code} {D : va_G} {B n : Nat} {K : Nat → ClassId}
def f_Message_hasMatch_77  (k_3 : m_G → Nat → Int64 → Int32 → Int32 → Int32 → Option (Int32 × m_G)) (g : m_G) (a0 : Nat) (x1 : Int64) (x3 : Int32) (x4 : Int32) (x5 : Int32) : Option (Int32 × m_G) :=
  k_3 g a0 x1 x3 x4 (x5 + 1)
set_option maxHeartbeats 1000000 in
set_option maxRecDepth 100000 in
theorem c_Message_hasMatch_77 (E : m_V p m c b_Message_hasMatch 7 s args R_Message D K) (hr : meth.sig.returnType = (some .boolean)) (hlk : meth.locks = false) (hz : s.heap.size + 0 = B + n)  (k_3 : m_G → Nat → Int64 → Int32 → Int32 → Int32 → Option (Int32 × m_G)) (hk_3 : ∀ (g : m_G) (a0 : Nat) (x1 : Int64) (x3 : Int32) (x4 : Int32) (x5 : Int32) (r : Int32) (g' : m_G), k_3 g a0 x1 x3 x4 x5 = some (r, g') → ∀ (H : Heap) (locs : List Loc), m_S D B K n g s.heap H locs → ∀ ls : Array Slot, lv_has ls 7 [(0, .ref (B + a0)), (1, .long x1), (3, .int x3), (4, .int x4), (5, .int x5)] → W p l e ({ frames := 1, cells := 0, slots := 0, locals := 26 } : Room) s m args below meth c H locs 0 0 (MQ below (m_Q D B K (some (.int r)) n g') args s 0 0 (fun q => B ≤ q)) (F0 m 3 ls [])) : ∀ (g : m_G) (a0 : Nat) (x1 : Int64) (x3 : Int32) (x4 : Int32) (x5 : Int32) (r : Int32) (g' : m_G), f_Message_hasMatch_77 k_3 g a0 x1 x3 x4 x5 = some (r, g') → ∀ (H : Heap) (locs : List Loc), m_S D B K n g s.heap H locs → ∀ ls : Array Slot, lv_has ls 7 [(0, .ref (B + a0)), (1, .long x1), (3, .int x3), (4, .int x4), (5, .int x5)] → W p l e ({ frames := 1, cells := 0, slots := 0, locals := 26 } : Room) s m args below meth c H locs 0 0 (MQ below (m_Q D B K (some (.int r)) n g') args s 0 0 (fun q => B ≤ q)) (F0 m 77 ls []) := by
  have hx := E.1.1
  have hb := E.1.2.1
  have hts := E.1.2.2.2.2
  intro g a0 x1 x3 x4 x5 r g' hF H locs S ls hl
  unfold f_Message_hasMatch_77 at hF
  refine lv_iinc (v := (x5 + 1)) (lv' := [(5, .int (x5 + 1)), (0, .ref (B + a0)), (1, .long x1), (3, .int x3), (4, .int x4)]) hx hb d_Message_hasMatch_77 hl (k := 4) rfl rfl (by decide) rfl (fun ls hl => ?_)
  refine lv_goto (tgt := 3) hx hb d_Message_hasMatch_80 (by decide) ?_
  exact hk_3 _ _ _ _ _ _ _ _ hF _ _ S _ (lv_sub hl [1, 2, 3, 4, 0] rfl)
def f_Message_hasMatch_75   (g : m_G)  : Option (Int32 × m_G) :=
  some (1, g)
set_option maxHeartbeats 1000000 in
set_option maxRecDepth 100000 in
theorem c_Message_hasMatch_75 (E : m_V p m c b_Message_hasMatch 7 s args R_Message D K) (hr : meth.sig.returnType = (some .boolean)) (hlk : meth.locks = false) (hz : s.heap.size + 0 = B + n)   : ∀ (g : m_G)  (r : Int32) (g' : m_G), f_Message_hasMatch_75 g  = some (r, g') → ∀ (H : Heap) (locs : List Loc), m_S D B K n g s.heap H locs → ∀ ls : Array Slot, lv_has ls 7 [] → W p l e ({ frames := 1, cells := 0, slots := 0, locals := 26 } : Room) s m args below meth c H locs 0 0 (MQ below (m_Q D B K (some (.int r)) n g') args s 0 0 (fun q => B ≤ q)) (F0 m 75 ls []) := by
  have hx := E.1.1
  have hb := E.1.2.1
  have hts := E.1.2.2.2.2
  intro g  r g' hF H locs S ls hl
  unfold f_Message_hasMatch_75 at hF
  refine lv_iconst (v := 1) hx hb d_Message_hasMatch_75 (by decide) ?_
  cases hF
  exact m_zret E S hz hr hlk (by decide) d_Message_hasMatch_76
def f_Message_hasMatch_35  (k_3 : m_G → Nat → Int64 → Int32 → Int32 → Int32 → Option (Int32 × m_G)) (g : m_G) (a0 : Nat) (x1 : Int64) (x3 : Int32) (x4 : Int32) (x5 : Int32) (y0 : Int32) : Option (Int32 × m_G) :=
  if (y0 : Int32) = 0 then
    f_Message_hasMatch_77 k_3 g a0 x1 x3 x4 x5
  else
    if (x3 : Int32) = 0 then
      (m_gR g a0 4 1).bind fun v_3 =>
      Option.bind v_3 fun a_4 =>
      (m_ldL g a_4 2 x5).bind fun v_5 =>
      if ((lg_cmp v_5 x1) : Int32) = 0 then
        f_Message_hasMatch_75 g 
      else
        f_Message_hasMatch_77 k_3 g a0 x1 x3 x4 x5
    else
      (m_gR g a0 4 1).bind fun v_7 =>
      Option.bind v_7 fun a_8 =>
      (m_ldL g a_8 2 x5).bind fun v_9 =>
      m_bd (f_Message_beginsWith g v_9 x1) fun v_11 g_10 =>
      if (v_11 : Int32) = 0 then
        f_Message_hasMatch_77 k_3 g_10 a0 x1 x3 x4 x5
      else
        f_Message_hasMatch_75 g_10 
set_option maxHeartbeats 1000000 in
set_option maxRecDepth 100000 in
theorem c_Message_hasMatch_35 (E : m_V p m c b_Message_hasMatch 7 s args R_Message D K) (hr : meth.sig.returnType = (some .boolean)) (hlk : meth.locks = false) (hz : s.heap.size + 0 = B + n)  (k_3 : m_G → Nat → Int64 → Int32 → Int32 → Int32 → Option (Int32 × m_G)) (hk_3 : ∀ (g : m_G) (a0 : Nat) (x1 : Int64) (x3 : Int32) (x4 : Int32) (x5 : Int32) (r : Int32) (g' : m_G), k_3 g a0 x1 x3 x4 x5 = some (r, g') → ∀ (H : Heap) (locs : List Loc), m_S D B K n g s.heap H locs → ∀ ls : Array Slot, lv_has ls 7 [(0, .ref (B + a0)), (1, .long x1), (3, .int x3), (4, .int x4), (5, .int x5)] → W p l e ({ frames := 1, cells := 0, slots := 0, locals := 26 } : Room) s m args below meth c H locs 0 0 (MQ below (m_Q D B K (some (.int r)) n g') args s 0 0 (fun q => B ≤ q)) (F0 m 3 ls [])) : ∀ (g : m_G) (a0 : Nat) (x1 : Int64) (x3 : Int32) (x4 : Int32) (x5 : Int32) (y0 : Int32) (r : Int32) (g' : m_G), f_Message_hasMatch_35 k_3 g a0 x1 x3 x4 x5 y0 = some (r, g') → ∀ (H : Heap) (locs : List Loc), m_S D B K n g s.heap H locs → ∀ ls : Array Slot, lv_has ls 7 [(0, .ref (B + a0)), (1, .long x1), (3, .int x3), (4, .int x4), (5, .int x5)] → W p l e ({ frames := 1, cells := 0, slots := 0, locals := 26 } : Room) s m args below meth c H locs 0 0 (MQ below (m_Q D B K (some (.int r)) n g') args s 0 0 (fun q => B ≤ q)) (F0 m 35 ls [.int y0]) := by
  have hx := E.1.1
  have hb := E.1.2.1
  have hts := E.1.2.2.2.2
  intro g a0 x1 x3 x4 x5 y0 r g' hF H locs S ls hl
  unfold f_Message_hasMatch_35 at hF
  refine lv_istore (lv' := [(6, .int y0), (0, .ref (B + a0)), (1, .long x1), (3, .int x3), (4, .int x4), (5, .int x5)]) hx hb d_Message_hasMatch_35 hl (by decide) rfl (fun ls hl => ?_)
  refine lv_iload hx hb d_Message_hasMatch_37 (lv_at hl 0 rfl) ?_
  refine lv_if_eq (tgt := 77) hx hb d_Message_hasMatch_39 (by decide) (fun c_1 => ?_) (fun c_1 => ?_)
  · rw [if_pos c_1] at hF
    exact c_Message_hasMatch_77 E hr hlk hz k_3 hk_3 _ _ _ _ _ _ _ _ hF _ _ S _ (lv_sub hl [1, 2, 3, 4, 5] rfl)
  · rw [if_neg c_1] at hF
    refine lv_iload_n hx hb d_Message_hasMatch_42 rfl (lv_at hl 3 rfl) ?_
    refine lv_if_eq (tgt := 63) hx hb d_Message_hasMatch_43 (by decide) (fun c_2 => ?_) (fun c_2 => ?_)
    · rw [if_pos c_2] at hF
      refine lv_aload_n hx hb d_Message_hasMatch_63 rfl (lv_at hl 1 rfl) ?_
      replace hF := Option.bind_eq_some_iff.mp hF
      obtain ⟨v_3, ev_3, hF⟩ := hF
      refine m_getR (B := B) (a := a0) E S fd_Message_codes (Or.inl qw_17) ev_3 d_Message_hasMatch_64 ?_
      refine lv_iload hx hb d_Message_hasMatch_67 (lv_at hl 5 rfl) ?_
      replace hF := Option.bind_eq_some_iff.mp hF
      obtain ⟨a_4, ea_4, hF⟩ := hF
      subst ea_4
      replace hF := Option.bind_eq_some_iff.mp hF
      obtain ⟨v_5, ev_5, hF⟩ := hF
      refine m_lald (B := B) (a := a_4) (t := 2) E S rfl ev_5 d_Message_hasMatch_69 ?_
      refine lv_lload_n hx hb d_Message_hasMatch_70 rfl (lv_at hl 2 rfl) ?_
      refine W.lcmp hx hb d_Message_hasMatch_71 ?_
      refine lv_if_ne (tgt := 77) hx hb d_Message_hasMatch_72 (by decide) (fun c_6 => ?_) (fun c_6 => ?_)
      · rw [if_neg c_6] at hF
        exact c_Message_hasMatch_77 E hr hlk hz k_3 hk_3 _ _ _ _ _ _ _ _ hF _ _ S _ (lv_sub hl [1, 2, 3, 4, 5] rfl)
      · rw [if_pos c_6] at hF
        exact c_Message_hasMatch_75 E hr hlk hz _ _ _ hF _ _ S _ (lv_sub hl [] rfl)
    · rw [if_neg c_2] at hF
      refine lv_aload_n hx hb d_Message_hasMatch_46 rfl (lv_at hl 1 rfl) ?_
      replace hF := Option.bind_eq_some_iff.mp hF
      obtain ⟨v_7, ev_7, hF⟩ := hF
      refine m_getR (B := B) (a := a0) E S fd_Message_codes (Or.inl qw_17) ev_7 d_Message_hasMatch_47 ?_
      refine lv_iload hx hb d_Message_hasMatch_50 (lv_at hl 5 rfl) ?_
      replace hF := Option.bind_eq_some_iff.mp hF
      obtain ⟨a_8, ea_8, hF⟩ := hF
      subst ea_8
      replace hF := Option.bind_eq_some_iff.mp hF
      obtain ⟨v_9, ev_9, hF⟩ := hF
      refine m_lald (B := B) (a := a_8) (t := 2) E S rfl ev_9 d_Message_hasMatch_52 ?_
      refine lv_lload_n hx hb d_Message_hasMatch_53 rfl (lv_at hl 2 rfl) ?_
      replace hF := m_bd_inv hF
      obtain ⟨v_11, g_10, eg_10, hF⟩ := hF
      refine m_callS (B := B) (nn := 2) (As := [.long v_9, .long x1]) (rest := []) (v := (some (.int v_11))) E S hz (c_Message_beginsWith l D B K n g v_9 x1 v_11 g_10 eg_10) qc_Message_beginsWith ⟨rfl, rfl⟩ (Or.inl qw_194) qw_195 qw_77 (by decide +kernel) ⟨Nat.le_of_ble_eq_true rfl, Nat.le_of_ble_eq_true rfl⟩ rfl hl.1 (Nat.le_of_ble_eq_true rfl) d_Message_hasMatch_54 ⟨Nat.le_of_ble_eq_true rfl, Nat.le_of_ble_eq_true rfl⟩ (fun H locs S => ?_)
      refine W.eq (g2 := F0 m 57 ls [.int v_11]) rfl ?_
      refine lv_if_eq (tgt := 77) hx hb d_Message_hasMatch_57 (by decide) (fun c_12 => ?_) (fun c_12 => ?_)
      · rw [if_pos c_12] at hF
        exact c_Message_hasMatch_77 E hr hlk hz k_3 hk_3 _ _ _ _ _ _ _ _ hF _ _ S _ (lv_sub hl [1, 2, 3, 4, 5] rfl)
      · rw [if_neg c_12] at hF
        refine lv_goto (tgt := 75) hx hb d_Message_hasMatch_60 (by decide) ?_
        exact c_Message_hasMatch_75 E hr hlk hz _ _ _ hF _ _ S _ (lv_sub hl [] rfl)
def f_Message_hasMatch_30  (k_3 : m_G → Nat → Int64 → Int32 → Int32 → Int32 → Option (Int32 × m_G)) (g : m_G) (a0 : Nat) (x1 : Int64) (x3 : Int32) (x4 : Int32) (x5 : Int32) : Option (Int32 × m_G) :=
  f_Message_hasMatch_35 k_3 g a0 x1 x3 x4 x5 1
set_option maxHeartbeats 1000000 in
set_option maxRecDepth 100000 in
theorem c_Message_hasMatch_30 (E : m_V p m c b_Message_hasMatch 7 s args R_Message D K) (hr : meth.sig.returnType = (some .boolean)) (hlk : meth.locks = false) (hz : s.heap.size + 0 = B + n)  (k_3 : m_G → Nat → Int64 → Int32 → Int32 → Int32 → Option (Int32 × m_G)) (hk_3 : ∀ (g : m_G) (a0 : Nat) (x1 : Int64) (x3 : Int32) (x4 : Int32) (x5 : Int32) (r : Int32) (g' : m_G), k_3 g a0 x1 x3 x4 x5 = some (r, g') → ∀ (H : Heap) (locs : List Loc), m_S D B K n g s.heap H locs → ∀ ls : Array Slot, lv_has ls 7 [(0, .ref (B + a0)), (1, .long x1), (3, .int x3), (4, .int x4), (5, .int x5)] → W p l e ({ frames := 1, cells := 0, slots := 0, locals := 26 } : Room) s m args below meth c H locs 0 0 (MQ below (m_Q D B K (some (.int r)) n g') args s 0 0 (fun q => B ≤ q)) (F0 m 3 ls [])) : ∀ (g : m_G) (a0 : Nat) (x1 : Int64) (x3 : Int32) (x4 : Int32) (x5 : Int32) (r : Int32) (g' : m_G), f_Message_hasMatch_30 k_3 g a0 x1 x3 x4 x5 = some (r, g') → ∀ (H : Heap) (locs : List Loc), m_S D B K n g s.heap H locs → ∀ ls : Array Slot, lv_has ls 7 [(0, .ref (B + a0)), (1, .long x1), (3, .int x3), (4, .int x4), (5, .int x5)] → W p l e ({ frames := 1, cells := 0, slots := 0, locals := 26 } : Room) s m args below meth c H locs 0 0 (MQ below (m_Q D B K (some (.int r)) n g') args s 0 0 (fun q => B ≤ q)) (F0 m 30 ls []) := by
  have hx := E.1.1
  have hb := E.1.2.1
  have hts := E.1.2.2.2.2
  intro g a0 x1 x3 x4 x5 r g' hF H locs S ls hl
  unfold f_Message_hasMatch_30 at hF
  refine lv_iconst (v := 1) hx hb d_Message_hasMatch_30 (by decide) ?_
  refine lv_goto (tgt := 35) hx hb d_Message_hasMatch_31 (by decide) ?_
  exact c_Message_hasMatch_35 E hr hlk hz k_3 hk_3 _ _ _ _ _ _ _ _ _ hF _ _ S _ (lv_sub hl [0, 1, 2, 3, 4] rfl)
def f_Message_hasMatch_3   : Nat → m_G → Nat → Int64 → Int32 → Int32 → Int32 → Option (Int32 × m_G)
  | 0, _, _, _, _, _, _ => none
  | fu + 1, g, a0, x1, x3, x4, x5 =>
    (m_gI g a0 4 6).bind fun v_1 =>
    if (v_1 : Int32) ≤ x5 then
      some (0, g)
    else
      if (x4 : Int32) = (-1) then
        f_Message_hasMatch_30 (f_Message_hasMatch_3 fu) g a0 x1 x3 x4 x5
      else
        (m_gR g a0 4 2).bind fun v_4 =>
        Option.bind v_4 fun a_5 =>
        (m_ld g a_5 0 x5).bind fun v_6 =>
        if (x4 : Int32) = v_6 then
          f_Message_hasMatch_30 (f_Message_hasMatch_3 fu) g a0 x1 x3 x4 x5
        else
          f_Message_hasMatch_35 (f_Message_hasMatch_3 fu) g a0 x1 x3 x4 x5 0
set_option maxHeartbeats 1000000 in
set_option maxRecDepth 100000 in
theorem c_Message_hasMatch_3 (E : m_V p m c b_Message_hasMatch 7 s args R_Message D K) (hr : meth.sig.returnType = (some .boolean)) (hlk : meth.locks = false) (hz : s.heap.size + 0 = B + n)   : ∀ fu : Nat, ∀ (g : m_G) (a0 : Nat) (x1 : Int64) (x3 : Int32) (x4 : Int32) (x5 : Int32) (r : Int32) (g' : m_G), f_Message_hasMatch_3  fu g a0 x1 x3 x4 x5 = some (r, g') → ∀ (H : Heap) (locs : List Loc), m_S D B K n g s.heap H locs → ∀ ls : Array Slot, lv_has ls 7 [(0, .ref (B + a0)), (1, .long x1), (3, .int x3), (4, .int x4), (5, .int x5)] → W p l e ({ frames := 1, cells := 0, slots := 0, locals := 26 } : Room) s m args below meth c H locs 0 0 (MQ below (m_Q D B K (some (.int r)) n g') args s 0 0 (fun q => B ≤ q)) (F0 m 3 ls []) := by
  have hx := E.1.1
  have hb := E.1.2.1
  have hts := E.1.2.2.2.2
  intro fu
  induction fu with
  | zero => intro g a0 x1 x3 x4 x5 r g' hF; cases hF
  | succ fu ih =>
    intro g a0 x1 x3 x4 x5 r g' hF H locs S ls hl
    rw [f_Message_hasMatch_3] at hF
    refine lv_iload hx hb d_Message_hasMatch_3 (lv_at hl 4 rfl) ?_
    refine lv_aload_n hx hb d_Message_hasMatch_5 rfl (lv_at hl 0 rfl) ?_
    replace hF := Option.bind_eq_some_iff.mp hF
    obtain ⟨v_1, ev_1, hF⟩ := hF
    refine m_getI (B := B) (a := a0) E S fd_Message_wordCount (Or.inl qw_22) ev_1 d_Message_hasMatch_6 ?_
    refine lv_icmp_ge (tgt := 83) hx hb d_Message_hasMatch_9 (by decide) (fun c_2 => ?_) (fun c_2 => ?_)
    · rw [if_pos c_2] at hF
      refine lv_iconst (v := 0) hx hb d_Message_hasMatch_83 (by decide) ?_
      cases hF
      exact m_zret E S hz hr hlk (by decide) d_Message_hasMatch_84
    · rw [if_neg c_2] at hF
      refine lv_iload hx hb d_Message_hasMatch_12 (lv_at hl 3 rfl) ?_
      refine lv_iconst (v := (-1)) hx hb d_Message_hasMatch_14 (by decide) ?_
      refine lv_icmp_eq (tgt := 30) hx hb d_Message_hasMatch_15 (by decide) (fun c_3 => ?_) (fun c_3 => ?_)
      · rw [if_pos c_3] at hF
        exact c_Message_hasMatch_30 E hr hlk hz (f_Message_hasMatch_3 fu) ih _ _ _ _ _ _ _ _ hF _ _ S _ (lv_sub hl [0, 1, 2, 3, 4] rfl)
      · rw [if_neg c_3] at hF
        refine lv_iload hx hb d_Message_hasMatch_18 (lv_at hl 3 rfl) ?_
        refine lv_aload_n hx hb d_Message_hasMatch_20 rfl (lv_at hl 0 rfl) ?_
        replace hF := Option.bind_eq_some_iff.mp hF
        obtain ⟨v_4, ev_4, hF⟩ := hF
        refine m_getR (B := B) (a := a0) E S fd_Message_fields (Or.inl qw_18) ev_4 d_Message_hasMatch_21 ?_
        refine lv_iload hx hb d_Message_hasMatch_24 (lv_at hl 4 rfl) ?_
        replace hF := Option.bind_eq_some_iff.mp hF
        obtain ⟨a_5, ea_5, hF⟩ := hF
        subst ea_5
        replace hF := Option.bind_eq_some_iff.mp hF
        obtain ⟨v_6, ev_6, hF⟩ := hF
        refine m_iald (B := B) (a := a_5) (t := 0) E S rfl ev_6 d_Message_hasMatch_26 ?_
        refine lv_icmp_ne (tgt := 34) hx hb d_Message_hasMatch_27 (by decide) (fun c_7 => ?_) (fun c_7 => ?_)
        · rw [if_neg c_7] at hF
          refine lv_iconst (v := 0) hx hb d_Message_hasMatch_34 (by decide) ?_
          exact c_Message_hasMatch_35 E hr hlk hz (f_Message_hasMatch_3 fu) ih _ _ _ _ _ _ _ _ _ hF _ _ S _ (lv_sub hl [0, 1, 2, 3, 4] rfl)
        · rw [if_pos c_7] at hF
          exact c_Message_hasMatch_30 E hr hlk hz (f_Message_hasMatch_3 fu) ih _ _ _ _ _ _ _ _ hF _ _ S _ (lv_sub hl [0, 1, 2, 3, 4] rfl)
end S_Message_hasMatch
def f_Message_hasMatch  (g : m_G) (a0 : Nat) (x1 : Int64) (x3 : Int32) (x4 : Int32) : Option (Int32 × m_G) :=
  f_Message_hasMatch_3 m_fu g a0 x1 x3 x4 0
set_option maxHeartbeats 1000000 in
set_option maxRecDepth 100000 in
theorem c_Message_hasMatch (l : Launch) (D : va_G) (B : Nat) (K : Nat → ClassId)  (n : Nat) (g : m_G) (a0 : Nat) (x1 : Int64) (x3 : Int32) (x4 : Int32) (r : Int32) (g' : m_G) (hF : f_Message_hasMatch g a0 x1 x3 x4 = some (r, g')) : Met l y_Message_hasMatch (Cond.code y_Message_hasMatch b_Message_hasMatch 7 (some .boolean) :: m_TB) ({ frames := 1, cells := 0, slots := 0, locals := 26 } : Room) (m_Pc D B K n g [.ref (B + a0), .long x1, .int x3, .int x4]) (m_Q D B K (some (.int r)) n g') 0 0 (fun q => B ≤ q) := by
  refine m_met (by decide) (Nat.le_of_ble_eq_true rfl) ?_
  intro p e s m args below meth c ls E hr hlk hin hsz S hl
  have E : m_V p m c b_Message_hasMatch 7 s args R_Message D K := E
  have hz : s.heap.size + 0 = B + n := hsz
  have hl : lv_has ls 7 [(0, .ref (B + a0)), (1, .long x1), (3, .int x3), (4, .int x4)] := hl
  have hx := E.1.1
  have hb := E.1.2.1
  have hts := E.1.2.2.2.2
  unfold f_Message_hasMatch at hF
  refine lv_iconst (v := 0) hx hb d_Message_hasMatch_0 (by decide) ?_
  refine lv_istore (lv' := [(5, .int 0), (0, .ref (B + a0)), (1, .long x1), (3, .int x3), (4, .int x4)]) hx hb d_Message_hasMatch_1 hl (by decide) rfl (fun ls hl => ?_)
  exact c_Message_hasMatch_3 E hr hlk hz m_fu _ _ _ _ _ _ _ _ hF _ _ S _ (lv_sub hl [1, 2, 3, 4, 0] rfl)
section S_Query_endOne
variable {p : Program} {l : Launch} {e : Env} {s : State} {m : MethodId} {args : Array Value} {below : List Frame} {meth : Method} {c : Code} {D : va_G} {B n : Nat} {K : Nat → ClassId}
def f_Query_endOne_29   (g : m_G) (a0 : Nat) (y0 : Int32) (y1 : Int32) (y2 : Int32) (t3 : Option Nat) : Option (Unit × m_G) :=
  Option.bind t3 fun a_1 =>
  (m_st g a_1 0 y2 (y1 &&& y0)).bind fun g_2 =>
  (m_gR g_2 a0 7 2).bind fun v_3 =>
  (m_gI g_2 a0 7 4).bind fun v_4 =>
  Option.bind v_3 fun a_5 =>
  (m_st g_2 a_5 3 v_4 (vp_nar .boolean 0)).bind fun g_6 =>
  (m_pI g_6 a0 7 5 4).bind fun g_7 =>
  some ((), g_7)
set_option maxHeartbeats 1000000 in
set_option maxRecDepth 100000 in
theorem c_Query_endOne_29 (E : m_V p m c b_Query_endOne 2 s args R_Query D K) (hr : meth.sig.returnType = none) (hlk : meth.locks = false) (hz : s.heap.size + 0 = B + n)   : ∀ (g : m_G) (a0 : Nat) (y0 : Int32) (y1 : Int32) (y2 : Int32) (t3 : Option Nat) (r : Unit) (g' : m_G), f_Query_endOne_29 g a0 y0 y1 y2 t3 = some (r, g') → ∀ (H : Heap) (locs : List Loc), m_S D B K n g s.heap H locs → ∀ ls : Array Slot, lv_has ls 2 [(0, .ref (B + a0))] → W p l e ({ frames := 0, cells := 0, slots := 0, locals := 0 } : Room) s m args below meth c H locs 0 0 (MQ below (m_Q D B K none n g') args s 0 0 (fun q => B ≤ q)) (F0 m 29 ls [.int y0, .int y1, .int y2, m_r B t3]) := by
  have hx := E.1.1
  have hb := E.1.2.1
  have hts := E.1.2.2.2.2
  intro g a0 y0 y1 y2 t3 r g' hF H locs S ls hl
  unfold f_Query_endOne_29 at hF
  refine lv_iand hx hb d_Query_endOne_29 ?_
  replace hF := Option.bind_eq_some_iff.mp hF
  obtain ⟨a_1, ea_1, hF⟩ := hF
  subst ea_1
  replace hF := Option.bind_eq_some_iff.mp hF
  obtain ⟨g_2, eg_2, hF⟩ := hF
  refine m_iast (B := B) (a := a_1) (t := 0) E S rfl eg_2 d_Query_endOne_30 (fun H locs S => ?_)
  refine lv_aload_n hx hb d_Query_endOne_31 rfl (lv_at hl 0 rfl) ?_
  replace hF := Option.bind_eq_some_iff.mp hF
  obtain ⟨v_3, ev_3, hF⟩ := hF
  refine m_getR (B := B) (a := a0) E S fd_Query_isNegated (Or.inl qw_40) ev_3 d_Query_endOne_32 ?_
  refine lv_aload_n hx hb d_Query_endOne_35 rfl (lv_at hl 0 rfl) ?_
  replace hF := Option.bind_eq_some_iff.mp hF
  obtain ⟨v_4, ev_4, hF⟩ := hF
  refine m_getI (B := B) (a := a0) E S fd_Query_level (Or.inl qw_43) ev_4 d_Query_endOne_36 ?_
  refine lv_iconst (v := 0) hx hb d_Query_endOne_39 (by decide) ?_
  replace hF := Option.bind_eq_some_iff.mp hF
  obtain ⟨a_5, ea_5, hF⟩ := hF
  subst ea_5
  replace hF := Option.bind_eq_some_iff.mp hF
  obtain ⟨g_6, eg_6, hF⟩ := hF
  refine m_zast (B := B) (a := a_5) (t := 3) E S rfl eg_6 d_Query_endOne_40 (fun H locs S => ?_)
  refine lv_aload_n hx hb d_Query_endOne_41 rfl (lv_at hl 0 rfl) ?_
  refine lv_iconst (v := 4) hx hb d_Query_endOne_42 (by decide) ?_
  replace hF := Option.bind_eq_some_iff.mp hF
  obtain ⟨g_7, eg_7, hF⟩ := hF
  refine m_putI (B := B) (a := a0) E S fd_Query_state (Or.inl qw_44) eg_7 d_Query_endOne_43 (fun H locs S => ?_)
  cases hF
  skip
  exact m_vret E S hz hr hlk d_Query_endOne_46
end S_Query_endOne
def f_Query_endOne  (g : m_G) (a0 : Nat) (x1 : Int32) : Option (Unit × m_G) :=
  (m_gR g a0 7 1).bind fun v_1 =>
  (m_gI g a0 7 4).bind fun v_2 =>
  Option.bind v_1 fun a_3 =>
  (m_ld g a_3 0 v_2).bind fun v_4 =>
  (m_gR g a0 7 2).bind fun v_5 =>
  (m_gI g a0 7 4).bind fun v_6 =>
  Option.bind v_5 fun a_7 =>
  (m_ld g a_7 3 v_6).bind fun v_8 =>
  if (v_8 : Int32) = 0 then
    f_Query_endOne_29 g a0 x1 v_4 v_2 (some a_3)
  else
    f_Query_endOne_29 g a0 (x1 ^^^ (-1)) v_4 v_2 (some a_3)
set_option maxHeartbeats 1000000 in
set_option maxRecDepth 100000 in
theorem c_Query_endOne (l : Launch) (D : va_G) (B : Nat) (K : Nat → ClassId)  (n : Nat) (g : m_G) (a0 : Nat) (x1 : Int32) (r : Unit) (g' : m_G) (hF : f_Query_endOne g a0 x1 = some (r, g')) : Met l y_Query_endOne (Cond.code y_Query_endOne b_Query_endOne 2 none :: m_TB) ({ frames := 0, cells := 0, slots := 0, locals := 0 } : Room) (m_Pc D B K n g [.ref (B + a0), .int x1]) (m_Q D B K none n g') 0 0 (fun q => B ≤ q) := by
  refine m_met (by decide) (Nat.le_of_ble_eq_true rfl) ?_
  intro p e s m args below meth c ls E hr hlk hin hsz S hl
  have E : m_V p m c b_Query_endOne 2 s args R_Query D K := E
  have hz : s.heap.size + 0 = B + n := hsz
  have hl : lv_has ls 2 [(0, .ref (B + a0)), (1, .int x1)] := hl
  have hx := E.1.1
  have hb := E.1.2.1
  have hts := E.1.2.2.2.2
  unfold f_Query_endOne at hF
  refine lv_aload_n hx hb d_Query_endOne_0 rfl (lv_at hl 0 rfl) ?_
  replace hF := Option.bind_eq_some_iff.mp hF
  obtain ⟨v_1, ev_1, hF⟩ := hF
  refine m_getR (B := B) (a := a0) E S fd_Query_all (Or.inl qw_38) ev_1 d_Query_endOne_1 ?_
  refine lv_aload_n hx hb d_Query_endOne_4 rfl (lv_at hl 0 rfl) ?_
  replace hF := Option.bind_eq_some_iff.mp hF
  obtain ⟨v_2, ev_2, hF⟩ := hF
  refine m_getI (B := B) (a := a0) E S fd_Query_level (Or.inl qw_43) ev_2 d_Query_endOne_5 ?_
  refine lv_dup2_11 hx hb d_Query_endOne_8 rfl (m_r_cat B v_1) ?_
  replace hF := Option.bind_eq_some_iff.mp hF
  obtain ⟨a_3, ea_3, hF⟩ := hF
  subst ea_3
  replace hF := Option.bind_eq_some_iff.mp hF
  obtain ⟨v_4, ev_4, hF⟩ := hF
  refine m_iald (B := B) (a := a_3) (t := 0) E S rfl ev_4 d_Query_endOne_9 ?_
  refine lv_aload_n hx hb d_Query_endOne_10 rfl (lv_at hl 0 rfl) ?_
  replace hF := Option.bind_eq_some_iff.mp hF
  obtain ⟨v_5, ev_5, hF⟩ := hF
  refine m_getR (B := B) (a := a0) E S fd_Query_isNegated (Or.inl qw_40) ev_5 d_Query_endOne_11 ?_
  refine lv_aload_n hx hb d_Query_endOne_14 rfl (lv_at hl 0 rfl) ?_
  replace hF := Option.bind_eq_some_iff.mp hF
  obtain ⟨v_6, ev_6, hF⟩ := hF
  refine m_getI (B := B) (a := a0) E S fd_Query_level (Or.inl qw_43) ev_6 d_Query_endOne_15 ?_
  replace hF := Option.bind_eq_some_iff.mp hF
  obtain ⟨a_7, ea_7, hF⟩ := hF
  subst ea_7
  replace hF := Option.bind_eq_some_iff.mp hF
  obtain ⟨v_8, ev_8, hF⟩ := hF
  refine m_zald (B := B) (a := a_7) (t := 3) E S rfl ev_8 d_Query_endOne_18 ?_
  refine lv_if_eq (tgt := 28) hx hb d_Query_endOne_19 (by decide) (fun c_9 => ?_) (fun c_9 => ?_)
  · rw [if_pos c_9] at hF
    refine lv_iload_n hx hb d_Query_endOne_28 rfl (lv_at hl 1 rfl) ?_
    exact c_Query_endOne_29 E hr hlk hz _ _ _ _ _ _ _ _ hF _ _ S _ (lv_sub hl [0] rfl)
  · rw [if_neg c_9] at hF
    refine lv_iload_n hx hb d_Query_endOne_22 rfl (lv_at hl 1 rfl) ?_
    refine lv_iconst (v := (-1)) hx hb d_Query_endOne_23 (by decide) ?_
    refine lv_ixor hx hb d_Query_endOne_24 ?_
    refine lv_goto (tgt := 29) hx hb d_Query_endOne_25 (by decide) ?_
    exact c_Query_endOne_29 E hr hlk hz _ _ _ _ _ _ _ _ hF _ _ S _ (lv_sub hl [0] rfl)
section S_Query_endWord
variable {p : Program} {l : Launch} {e : Env} {s : State} {m : MethodId} {args : Array Value} {below : List Frame} {meth : Method} {c : Code} {D : va_G} {B n : Nat} {K : Nat → ClassId}
def f_Query_endWord_41  (k_5 : m_G → Nat → Option Nat → Int32 → Int32 → Int32 → Option (Unit × m_G)) (g : m_G) (a0 : Nat) (r1 : Option Nat) (x2 : Int32) (x3 : Int32) (x4 : Int32) : Option (Unit × m_G) :=
  k_5 g a0 r1 x2 x3 (x4 + 1)
set_option maxHeartbeats 1000000 in
set_option maxRecDepth 100000 in
theorem c_Query_endWord_41 (E : m_V p m c b_Query_endWord 5 s args R_Query D K) (hr : meth.sig.returnType = none) (hlk : meth.locks = false) (hz : s.heap.size + 0 = B + n)  (k_5 : m_G → Nat → Option Nat → Int32 → Int32 → Int32 → Option (Unit × m_G)) (hk_5 : ∀ (g : m_G) (a0 : Nat) (r1 : Option Nat) (x2 : Int32) (x3 : Int32) (x4 : Int32) (r : Unit) (g' : m_G), k_5 g a0 r1 x2 x3 x4 = some (r, g') → ∀ (H : Heap) (locs : List Loc), m_S D B K n g s.heap H locs → ∀ ls : Array Slot, lv_has ls 5 [(0, .ref (B + a0)), (1, m_r B r1), (2, .int x2), (3, .int x3), (4, .int x4)] → W p l e ({ frames := 2, cells := 0, slots := 0, locals := 52 } : Room) s m args below meth c H locs 0 0 (MQ below (m_Q D B K none n g') args s 0 0 (fun q => B ≤ q)) (F0 m 5 ls [])) : ∀ (g : m_G) (a0 : Nat) (r1 : Option Nat) (x2 : Int32) (x3 : Int32) (x4 : Int32) (r : Unit) (g' : m_G), f_Query_endWord_41 k_5 g a0 r1 x2 x3 x4 = some (r, g') → ∀ (H : Heap) (locs : List Loc), m_S D B K n g s.heap H locs → ∀ ls : Array Slot, lv_has ls 5 [(0, .ref (B + a0)), (1, m_r B r1), (2, .int x2), (3, .int x3), (4, .int x4)] → W p l e ({ frames := 2, cells := 0, slots := 0, locals := 52 } : Room) s m args below meth c H locs 0 0 (MQ below (m_Q D B K none n g') args s 0 0 (fun q => B ≤ q)) (F0 m 41 ls []) := by
  have hx := E.1.1
  have hb := E.1.2.1
  have hts := E.1.2.2.2.2
  intro g a0 r1 x2 x3 x4 r g' hF H locs S ls hl
  unfold f_Query_endWord_41 at hF
  refine lv_iinc (v := (x4 + 1)) (lv' := [(4, .int (x4 + 1)), (0, .ref (B + a0)), (1, m_r B r1), (2, .int x2), (3, .int x3)]) hx hb d_Query_endWord_41 hl (k := 4) rfl rfl (by decide) rfl (fun ls hl => ?_)
  refine lv_goto (tgt := 5) hx hb d_Query_endWord_44 (by decide) ?_
  exact hk_5 _ _ _ _ _ _ _ _ hF _ _ S _ (lv_sub hl [1, 2, 3, 4, 0] rfl)
def f_Query_endWord_5   : Nat → m_G → Nat → Option Nat → Int32 → Int32 → Int32 → Option (Unit × m_G)
  | 0, _, _, _, _, _, _ => none
  | fu + 1, g, a0, r1, x2, x3, x4 =>
    Option.bind r1 fun a_1 =>
    (m_len g a_1).bind fun v_2 =>
    if (v_2 : Int32) ≤ x4 then
      m_gd (m_is g a0 7) <|
      m_bd (f_Query_endOne g a0 x3) fun v_5 g_4 =>
      some ((), g_4)
    else
      (m_ldR g a_1 5 x4).bind fun v_6 =>
      (m_gR g a0 7 3).bind fun v_7 =>
      Option.bind v_7 fun a_8 =>
      (m_gL g a_8 3 0).bind fun v_9 =>
      (m_gI g a0 7 6).bind fun v_10 =>
      Option.bind v_6 fun a_11 =>
      m_gd (m_is g a_11 4) <|
      m_bd (f_Message_hasMatch g a_11 v_9 x2 v_10) fun v_13 g_12 =>
      if (v_13 : Int32) = 0 then
        f_Query_endWord_41 (f_Query_endWord_5 fu) g_12 a0 (some a_1) x2 x3 x4
      else
        f_Query_endWord_41 (f_Query_endWord_5 fu) g_12 a0 (some a_1) x2 (x3 ||| (1 <<< (x4 &&& 31))) x4
set_option maxHeartbeats 1000000 in
set_option maxRecDepth 100000 in
theorem c_Query_endWord_5 (E : m_V p m c b_Query_endWord 5 s args R_Query D K) (hr : meth.sig.returnType = none) (hlk : meth.locks = false) (hz : s.heap.size + 0 = B + n)   : ∀ fu : Nat, ∀ (g : m_G) (a0 : Nat) (r1 : Option Nat) (x2 : Int32) (x3 : Int32) (x4 : Int32) (r : Unit) (g' : m_G), f_Query_endWord_5  fu g a0 r1 x2 x3 x4 = some (r, g') → ∀ (H : Heap) (locs : List Loc), m_S D B K n g s.heap H locs → ∀ ls : Array Slot, lv_has ls 5 [(0, .ref (B + a0)), (1, m_r B r1), (2, .int x2), (3, .int x3), (4, .int x4)] → W p l e ({ frames := 2, cells := 0, slots := 0, locals := 52 } : Room) s m args below meth c H locs 0 0 (MQ below (m_Q D B K none n g') args s 0 0 (fun q => B ≤ q)) (F0 m 5 ls []) := by
  have hx := E.1.1
  have hb := E.1.2.1
  have hts := E.1.2.2.2.2
  intro fu
  induction fu with
  | zero => intro g a0 r1 x2 x3 x4 r g' hF; cases hF
  | succ fu ih =>
    intro g a0 r1 x2 x3 x4 r g' hF H locs S ls hl
    rw [f_Query_endWord_5] at hF
    refine lv_iload hx hb d_Query_endWord_5 (lv_at hl 4 rfl) ?_
    refine m_aload_n (B := B) (r := r1) E d_Query_endWord_7 rfl (lv_at hl 1 rfl) ?_
    replace hF := Option.bind_eq_some_iff.mp hF
    obtain ⟨a_1, ea_1, hF⟩ := hF
    subst ea_1
    replace hF := Option.bind_eq_some_iff.mp hF
    obtain ⟨v_2, ev_2, hF⟩ := hF
    refine m_alen (B := B) (a := a_1) E S ev_2 d_Query_endWord_8 ?_
    refine lv_icmp_ge (tgt := 47) hx hb d_Query_endWord_9 (by decide) (fun c_3 => ?_) (fun c_3 => ?_)
    · rw [if_pos c_3] at hF
      refine lv_aload_n hx hb d_Query_endWord_47 rfl (lv_at hl 0 rfl) ?_
      refine lv_iload_n hx hb d_Query_endWord_48 rfl (lv_at hl 3 rfl) ?_
      replace hF := m_gd_inv hF
      obtain ⟨eog_4, hF⟩ := hF
      replace hF := m_bd_inv hF
      obtain ⟨v_5, g_4, eg_4, hF⟩ := hF
      refine m_callV (B := B) (nn := 1) (b := a0) (As := [.int x3]) (rest := []) (v := none) E S hz (c_Query_endOne l D B K n g a0 x3 v_5 g_4 eg_4) qc_Query_endOne ⟨rfl, rfl⟩ (Or.inl qw_196) qw_197 qw_198 qw_71 (by decide +kernel) ⟨Nat.le_of_ble_eq_true rfl, Nat.le_of_ble_eq_true rfl⟩ eog_4 rfl rfl hl.1 (Nat.le_of_ble_eq_true rfl) d_Query_endWord_49 ⟨Nat.le_of_ble_eq_true rfl, Nat.le_of_ble_eq_true rfl⟩ (fun H locs S => ?_)
      refine W.eq (g2 := F0 m 52 ls []) rfl ?_
      cases hF
      skip
      exact m_vret E S hz hr hlk d_Query_endWord_52
    · rw [if_neg c_3] at hF
      refine m_aload_n (B := B) (r := (some a_1)) E d_Query_endWord_12 rfl (lv_at hl 1 rfl) ?_
      refine lv_iload hx hb d_Query_endWord_13 (lv_at hl 4 rfl) ?_
      replace hF := Option.bind_eq_some_iff.mp hF
      obtain ⟨v_6, ev_6, hF⟩ := hF
      refine m_aald (B := B) (a := a_1) (t := 5) E S rfl ev_6 d_Query_endWord_15 ?_
      refine lv_aload_n hx hb d_Query_endWord_16 rfl (lv_at hl 0 rfl) ?_
      replace hF := Option.bind_eq_some_iff.mp hF
      obtain ⟨v_7, ev_7, hF⟩ := hF
      refine m_getR (B := B) (a := a0) E S fd_Query_letters (Or.inl qw_42) ev_7 d_Query_endWord_17 ?_
      replace hF := Option.bind_eq_some_iff.mp hF
      obtain ⟨a_8, ea_8, hF⟩ := hF
      subst ea_8
      replace hF := Option.bind_eq_some_iff.mp hF
      obtain ⟨v_9, ev_9, hF⟩ := hF
      refine m_getL (B := B) (a := a_8) E S fd_Letters_code (Or.inr ⟨_, qn_57⟩) ev_9 d_Query_endWord_20 ?_
      refine lv_iload_n hx hb d_Query_endWord_23 rfl (lv_at hl 2 rfl) ?_
      refine lv_aload_n hx hb d_Query_endWord_24 rfl (lv_at hl 0 rfl) ?_
      replace hF := Option.bind_eq_some_iff.mp hF
      obtain ⟨v_10, ev_10, hF⟩ := hF
      refine m_getI (B := B) (a := a0) E S fd_Query_inField (Or.inl qw_45) ev_10 d_Query_endWord_25 ?_
      replace hF := Option.bind_eq_some_iff.mp hF
      obtain ⟨a_11, ea_11, hF⟩ := hF
      subst ea_11
      replace hF := m_gd_inv hF
      obtain ⟨eog_12, hF⟩ := hF
      replace hF := m_bd_inv hF
      obtain ⟨v_13, g_12, eg_12, hF⟩ := hF
      refine m_callV (B := B) (nn := 3) (b := a_11) (As := [.long v_9, .int x2, .int v_10]) (rest := []) (v := (some (.int v_13))) E S hz (c_Message_hasMatch l D B K n g a_11 v_9 x2 v_10 v_13 g_12 eg_12) qc_Message_hasMatch ⟨rfl, rfl⟩ (Or.inr ⟨_, qn_58⟩) qw_199 qw_200 qw_77 (by decide +kernel) ⟨Nat.le_of_ble_eq_true rfl, Nat.le_of_ble_eq_true rfl⟩ eog_12 rfl rfl hl.1 (Nat.le_of_ble_eq_true rfl) d_Query_endWord_28 ⟨Nat.le_of_ble_eq_true rfl, Nat.le_of_ble_eq_true rfl⟩ (fun H locs S => ?_)
      refine W.eq (g2 := F0 m 31 ls [.int v_13]) rfl ?_
      refine lv_if_eq (tgt := 41) hx hb d_Query_endWord_31 (by decide) (fun c_14 => ?_) (fun c_14 => ?_)
      · rw [if_pos c_14] at hF
        exact c_Query_endWord_41 E hr hlk hz (f_Query_endWord_5 fu) ih _ _ _ _ _ _ _ _ hF _ _ S _ (lv_sub hl [0, 1, 2, 3, 4] rfl)
      · rw [if_neg c_14] at hF
        refine lv_iload_n hx hb d_Query_endWord_34 rfl (lv_at hl 3 rfl) ?_
        refine lv_iconst (v := 1) hx hb d_Query_endWord_35 (by decide) ?_
        refine lv_iload hx hb d_Query_endWord_36 (lv_at hl 4 rfl) ?_
        refine lv_ishl hx hb d_Query_endWord_38 ?_
        refine lv_ior hx hb d_Query_endWord_39 ?_
        refine lv_istore_n (lv' := [(3, .int (x3 ||| (1 <<< (x4 &&& 31)))), (0, .ref (B + a0)), (1, m_r B (some a_1)), (2, .int x2), (4, .int x4)]) hx hb d_Query_endWord_40 rfl hl (by decide) rfl (fun ls hl => ?_)
        exact c_Query_endWord_41 E hr hlk hz (f_Query_endWord_5 fu) ih _ _ _ _ _ _ _ _ hF _ _ S _ (lv_sub hl [1, 2, 3, 0, 4] rfl)
end S_Query_endWord
def f_Query_endWord  (g : m_G) (a0 : Nat) (r1 : Option Nat) (x2 : Int32) : Option (Unit × m_G) :=
  f_Query_endWord_5 m_fu g a0 r1 x2 0 0
set_option maxHeartbeats 1000000 in
set_option maxRecDepth 100000 in
theorem c_Query_endWord (l : Launch) (D : va_G) (B : Nat) (K : Nat → ClassId)  (n : Nat) (g : m_G) (a0 : Nat) (r1 : Option Nat) (x2 : Int32) (r : Unit) (g' : m_G) (hF : f_Query_endWord g a0 r1 x2 = some (r, g')) : Met l y_Query_endWord (Cond.code y_Query_endWord b_Query_endWord 5 none :: m_TB) ({ frames := 2, cells := 0, slots := 0, locals := 52 } : Room) (m_Pc D B K n g [.ref (B + a0), m_r B r1, .int x2]) (m_Q D B K none n g') 0 0 (fun q => B ≤ q) := by
  refine m_met (by decide) (by simp only [lg_sl, List.flatMap_cons, List.flatMap_nil, m_r_cat]; exact Nat.le_of_ble_eq_true rfl) ?_
  intro p e s m args below meth c ls E hr hlk hin hsz S hl
  have E : m_V p m c b_Query_endWord 5 s args R_Query D K := E
  have hz : s.heap.size + 0 = B + n := hsz
  have hl : lv_has ls 5 [(0, .ref (B + a0)), (1, m_r B r1), (2, .int x2)] := by simp only [lv_args, m_r_cat] at hl; exact hl
  have hx := E.1.1
  have hb := E.1.2.1
  have hts := E.1.2.2.2.2
  unfold f_Query_endWord at hF
  refine lv_iconst (v := 0) hx hb d_Query_endWord_0 (by decide) ?_
  refine lv_istore_n (lv' := [(3, .int 0), (0, .ref (B + a0)), (1, m_r B r1), (2, .int x2)]) hx hb d_Query_endWord_1 rfl hl (by decide) rfl (fun ls hl => ?_)
  refine lv_iconst (v := 0) hx hb d_Query_endWord_2 (by decide) ?_
  refine lv_istore (lv' := [(4, .int 0), (3, .int 0), (0, .ref (B + a0)), (1, m_r B r1), (2, .int x2)]) hx hb d_Query_endWord_3 hl (by decide) rfl (fun ls hl => ?_)
  exact c_Query_endWord_5 E hr hlk hz m_fu _ _ _ _ _ _ _ _ hF _ _ S _ (lv_sub hl [2, 3, 4, 1, 0] rfl)
def f_Query_readClosing  (g : m_G) (a0 : Nat) : Option (Int32 × m_G) :=
  (m_gI g a0 7 4).bind fun v_1 =>
  if (v_1 : Int32) = 0 then
    some (0, g)
  else
    (m_gR g a0 7 0).bind fun v_3 =>
    (m_gI g a0 7 4).bind fun v_4 =>
    Option.bind v_3 fun a_5 =>
    (m_ld g a_5 0 v_4).bind fun v_6 =>
    (m_gR g a0 7 1).bind fun v_7 =>
    (m_gI g a0 7 4).bind fun v_8 =>
    Option.bind v_7 fun a_9 =>
    (m_ld g a_9 0 v_8).bind fun v_10 =>
    (m_gI g a0 7 4).bind fun v_11 =>
    (m_pI g a0 7 4 (v_11 - 1)).bind fun g_12 =>
    m_gd (m_is g_12 a0 7) <|
    m_bd (f_Query_endOne g_12 a0 (v_6 ||| v_10)) fun v_14 g_13 =>
    some (1, g_13)
set_option maxHeartbeats 1000000 in
set_option maxRecDepth 100000 in
theorem c_Query_readClosing (l : Launch) (D : va_G) (B : Nat) (K : Nat → ClassId)  (n : Nat) (g : m_G) (a0 : Nat) (r : Int32) (g' : m_G) (hF : f_Query_readClosing g a0 = some (r, g')) : Met l y_Query_readClosing (Cond.code y_Query_readClosing b_Query_readClosing 2 (some .boolean) :: m_TB) ({ frames := 1, cells := 0, slots := 0, locals := 21 } : Room) (m_Pc D B K n g [.ref (B + a0)]) (m_Q D B K (some (.int r)) n g') 0 0 (fun q => B ≤ q) := by
  refine m_met (by decide) (Nat.le_of_ble_eq_true rfl) ?_
  intro p e s m args below meth c ls E hr hlk hin hsz S hl
  have E : m_V p m c b_Query_readClosing 2 s args R_Query D K := E
  have hz : s.heap.size + 0 = B + n := hsz
  have hl : lv_has ls 2 [(0, .ref (B + a0))] := hl
  have hx := E.1.1
  have hb := E.1.2.1
  have hts := E.1.2.2.2.2
  unfold f_Query_readClosing at hF
  refine lv_aload_n hx hb d_Query_readClosing_0 rfl (lv_at hl 0 rfl) ?_
  replace hF := Option.bind_eq_some_iff.mp hF
  obtain ⟨v_1, ev_1, hF⟩ := hF
  refine m_getI (B := B) (a := a0) E S fd_Query_level (Or.inl qw_43) ev_1 d_Query_readClosing_1 ?_
  refine lv_if_ne (tgt := 9) hx hb d_Query_readClosing_4 (by decide) (fun c_2 => ?_) (fun c_2 => ?_)
  · rw [if_neg c_2] at hF
    refine lv_aload_n hx hb d_Query_readClosing_9 rfl (lv_at hl 0 rfl) ?_
    replace hF := Option.bind_eq_some_iff.mp hF
    obtain ⟨v_3, ev_3, hF⟩ := hF
    refine m_getR (B := B) (a := a0) E S fd_Query_any (Or.inl qw_37) ev_3 d_Query_readClosing_10 ?_
    refine lv_aload_n hx hb d_Query_readClosing_13 rfl (lv_at hl 0 rfl) ?_
    replace hF := Option.bind_eq_some_iff.mp hF
    obtain ⟨v_4, ev_4, hF⟩ := hF
    refine m_getI (B := B) (a := a0) E S fd_Query_level (Or.inl qw_43) ev_4 d_Query_readClosing_14 ?_
    replace hF := Option.bind_eq_some_iff.mp hF
    obtain ⟨a_5, ea_5, hF⟩ := hF
    subst ea_5
    replace hF := Option.bind_eq_some_iff.mp hF
    obtain ⟨v_6, ev_6, hF⟩ := hF
    refine m_iald (B := B) (a := a_5) (t := 0) E S rfl ev_6 d_Query_readClosing_17 ?_
    refine lv_aload_n hx hb d_Query_readClosing_18 rfl (lv_at hl 0 rfl) ?_
    replace hF := Option.bind_eq_some_iff.mp hF
    obtain ⟨v_7, ev_7, hF⟩ := hF
    refine m_getR (B := B) (a := a0) E S fd_Query_all (Or.inl qw_38) ev_7 d_Query_readClosing_19 ?_
    refine lv_aload_n hx hb d_Query_readClosing_22 rfl (lv_at hl 0 rfl) ?_
    replace hF := Option.bind_eq_some_iff.mp hF
    obtain ⟨v_8, ev_8, hF⟩ := hF
    refine m_getI (B := B) (a := a0) E S fd_Query_level (Or.inl qw_43) ev_8 d_Query_readClosing_23 ?_
    replace hF := Option.bind_eq_some_iff.mp hF
    obtain ⟨a_9, ea_9, hF⟩ := hF
    subst ea_9
    replace hF := Option.bind_eq_some_iff.mp hF
    obtain ⟨v_10, ev_10, hF⟩ := hF
    refine m_iald (B := B) (a := a_9) (t := 0) E S rfl ev_10 d_Query_readClosing_26 ?_
    refine lv_ior hx hb d_Query_readClosing_27 ?_
    refine lv_istore_n (lv' := [(1, .int (v_6 ||| v_10)), (0, .ref (B + a0))]) hx hb d_Query_readClosing_28 rfl hl (by decide) rfl (fun ls hl => ?_)
    refine lv_aload_n hx hb d_Query_readClosing_29 rfl (lv_at hl 1 rfl) ?_
    refine lv_dup hx hb d_Query_readClosing_30 rfl ?_
    replace hF := Option.bind_eq_some_iff.mp hF
    obtain ⟨v_11, ev_11, hF⟩ := hF
    refine m_getI (B := B) (a := a0) E S fd_Query_level (Or.inl qw_43) ev_11 d_Query_readClosing_31 ?_
    refine lv_iconst (v := 1) hx hb d_Query_readClosing_34 (by decide) ?_
    refine lv_isub hx hb d_Query_readClosing_35 ?_
    replace hF := Option.bind_eq_some_iff.mp hF
    obtain ⟨g_12, eg_12, hF⟩ := hF
    refine m_putI (B := B) (a := a0) E S fd_Query_level (Or.inl qw_43) eg_12 d_Query_readClosing_36 (fun H locs S => ?_)
    refine lv_aload_n hx hb d_Query_readClosing_39 rfl (lv_at hl 1 rfl) ?_
    refine lv_iload_n hx hb d_Query_readClosing_40 rfl (lv_at hl 0 rfl) ?_
    replace hF := m_gd_inv hF
    obtain ⟨eog_13, hF⟩ := hF
    replace hF := m_bd_inv hF
    obtain ⟨v_14, g_13, eg_13, hF⟩ := hF
    refine m_callV (B := B) (nn := 1) (b := a0) (As := [.int (v_6 ||| v_10)]) (rest := []) (v := none) E S hz (c_Query_endOne l D B K n g_12 a0 (v_6 ||| v_10) v_14 g_13 eg_13) qc_Query_endOne ⟨rfl, rfl⟩ (Or.inl qw_196) qw_197 qw_198 qw_71 (by decide +kernel) ⟨Nat.le_of_ble_eq_true rfl, Nat.le_of_ble_eq_true rfl⟩ eog_13 rfl rfl hl.1 (Nat.le_of_ble_eq_true rfl) d_Query_readClosing_41 ⟨Nat.le_of_ble_eq_true rfl, Nat.le_of_ble_eq_true rfl⟩ (fun H locs S => ?_)
    refine W.eq (g2 := F0 m 44 ls []) rfl ?_
    refine lv_iconst (v := 1) hx hb d_Query_readClosing_44 (by decide) ?_
    cases hF
    exact m_zret E S hz hr hlk (by decide) d_Query_readClosing_45
  · rw [if_pos c_2] at hF
    refine lv_iconst (v := 0) hx hb d_Query_readClosing_7 (by decide) ?_
    cases hF
    exact m_zret E S hz hr hlk (by decide) d_Query_readClosing_8
def f_Query_readBehindOne  (g : m_G) (a0 : Nat) (x1 : Int32) : Option (Int32 × m_G) :=
  if (x1 : Int32) = 38 then
    m_gd (m_is g a0 7) <|
    m_bd (f_Query_beginOne g a0) fun v_3 g_2 =>
    some (1, g_2)
  else
  if (x1 : Int32) = 41 then
    m_gd (m_is g a0 7) <|
    m_bd (f_Query_readClosing g a0) fun v_6 g_5 =>
    if (v_6 : Int32) = 0 ∨ v_6 = 1 then some (v_6, g_5) else none
  else
  if (x1 : Int32) = 124 then
    (m_gR g a0 7 0).bind fun v_9 =>
    (m_gI g a0 7 4).bind fun v_10 =>
    Option.bind v_9 fun a_11 =>
    (m_ld g a_11 0 v_10).bind fun v_12 =>
    (m_gR g a0 7 1).bind fun v_13 =>
    (m_gI g a0 7 4).bind fun v_14 =>
    Option.bind v_13 fun a_15 =>
    (m_ld g a_15 0 v_14).bind fun v_16 =>
    (m_st g a_11 0 v_10 (v_12 ||| v_16)).bind fun g_17 =>
    (m_gR g_17 a0 7 1).bind fun v_18 =>
    (m_gI g_17 a0 7 4).bind fun v_19 =>
    Option.bind v_18 fun a_20 =>
    (m_st g_17 a_20 0 v_19 (-1)).bind fun g_21 =>
    m_gd (m_is g_21 a0 7) <|
    m_bd (f_Query_beginOne g_21 a0) fun v_23 g_22 =>
    some (1, g_22)
  else
    some (0, g)
set_option maxHeartbeats 1000000 in
set_option maxRecDepth 100000 in
theorem c_Query_readBehindOne (l : Launch) (D : va_G) (B : Nat) (K : Nat → ClassId)  (n : Nat) (g : m_G) (a0 : Nat) (x1 : Int32) (r : Int32) (g' : m_G) (hF : f_Query_readBehindOne g a0 x1 = some (r, g')) : Met l y_Query_readBehindOne (Cond.code y_Query_readBehindOne b_Query_readBehindOne 2 (some .boolean) :: m_TB) ({ frames := 2, cells := 0, slots := 0, locals := 42 } : Room) (m_Pc D B K n g [.ref (B + a0), .int x1]) (m_Q D B K (some (.int r)) n g') 0 0 (fun q => B ≤ q) := by
  refine m_met (by decide) (Nat.le_of_ble_eq_true rfl) ?_
  intro p e s m args below meth c ls E hr hlk hin hsz S hl
  have E : m_V p m c b_Query_readBehindOne 2 s args R_Query D K := E
  have hz : s.heap.size + 0 = B + n := hsz
  have hl : lv_has ls 2 [(0, .ref (B + a0)), (1, .int x1)] := hl
  have hx := E.1.1
  have hb := E.1.2.1
  have hts := E.1.2.2.2.2
  unfold f_Query_readBehindOne at hF
  refine lv_iload_n hx hb d_Query_readBehindOne_0 rfl (lv_at hl 1 rfl) ?_
  by_cases c_1 : (x1 : Int32) = 38
  · rw [if_pos c_1] at hF
    refine lv_lookup (off := 35) (tgt := 36) hx hb d_Query_readBehindOne_1 (by decide) (by rw [c_1]; rfl) (by decide) ?_
    refine lv_aload_n hx hb d_Query_readBehindOne_36 rfl (lv_at hl 0 rfl) ?_
    replace hF := m_gd_inv hF
    obtain ⟨eog_2, hF⟩ := hF
    replace hF := m_bd_inv hF
    obtain ⟨v_3, g_2, eg_2, hF⟩ := hF
    refine m_callV (B := B) (nn := 0) (b := a0) (As := []) (rest := []) (v := none) E S hz (c_Query_beginOne l D B K n g a0 v_3 g_2 eg_2) qc_Query_beginOne ⟨rfl, rfl⟩ (Or.inl qw_191) qw_192 qw_193 qw_71 (by decide +kernel) ⟨Nat.le_of_ble_eq_true rfl, Nat.le_of_ble_eq_true rfl⟩ eog_2 rfl rfl hl.1 (Nat.le_of_ble_eq_true rfl) d_Query_readBehindOne_37 ⟨Nat.le_of_ble_eq_true rfl, Nat.le_of_ble_eq_true rfl⟩ (fun H locs S => ?_)
    refine W.eq (g2 := F0 m 40 ls []) rfl ?_
    refine lv_iconst (v := 1) hx hb d_Query_readBehindOne_40 (by decide) ?_
    cases hF
    exact m_zret E S hz hr hlk (by decide) d_Query_readBehindOne_41
  rw [if_neg c_1] at hF
  by_cases c_4 : (x1 : Int32) = 41
  · rw [if_pos c_4] at hF
    refine lv_lookup (off := 78) (tgt := 79) hx hb d_Query_readBehindOne_1 (by decide) (by rw [c_4]; rfl) (by decide) ?_
    refine lv_aload_n hx hb d_Query_readBehindOne_79 rfl (lv_at hl 0 rfl) ?_
    replace hF := m_gd_inv hF
    obtain ⟨eog_5, hF⟩ := hF
    replace hF := m_bd_inv hF
    obtain ⟨v_6, g_5, eg_5, hF⟩ := hF
    refine m_callV (B := B) (nn := 0) (b := a0) (As := []) (rest := []) (v := (some (.int v_6))) E S hz (c_Query_readClosing l D B K n g a0 v_6 g_5 eg_5) qc_Query_readClosing ⟨rfl, rfl⟩ (Or.inl qw_201) qw_202 qw_203 qw_71 (by decide +kernel) ⟨Nat.le_of_ble_eq_true rfl, Nat.le_of_ble_eq_true rfl⟩ eog_5 rfl rfl hl.1 (Nat.le_of_ble_eq_true rfl) d_Query_readBehindOne_80 ⟨Nat.le_of_ble_eq_true rfl, Nat.le_of_ble_eq_true rfl⟩ (fun H locs S => ?_)
    refine W.eq (g2 := F0 m 83 ls [.int v_6]) rfl ?_
    by_cases c_7 : (v_6 : Int32) = 0 ∨ v_6 = 1
    · rw [if_pos c_7] at hF
      cases hF
      exact m_zret E S hz hr hlk c_7 d_Query_readBehindOne_83
    · rw [if_neg c_7] at hF
      cases hF
  rw [if_neg c_4] at hF
  by_cases c_8 : (x1 : Int32) = 124
  · rw [if_pos c_8] at hF
    refine lv_lookup (off := 41) (tgt := 42) hx hb d_Query_readBehindOne_1 (by decide) (by rw [c_8]; rfl) (by decide) ?_
    refine lv_aload_n hx hb d_Query_readBehindOne_42 rfl (lv_at hl 0 rfl) ?_
    replace hF := Option.bind_eq_some_iff.mp hF
    obtain ⟨v_9, ev_9, hF⟩ := hF
    refine m_getR (B := B) (a := a0) E S fd_Query_any (Or.inl qw_37) ev_9 d_Query_readBehindOne_43 ?_
    refine lv_aload_n hx hb d_Query_readBehindOne_46 rfl (lv_at hl 0 rfl) ?_
    replace hF := Option.bind_eq_some_iff.mp hF
    obtain ⟨v_10, ev_10, hF⟩ := hF
    refine m_getI (B := B) (a := a0) E S fd_Query_level (Or.inl qw_43) ev_10 d_Query_readBehindOne_47 ?_
    refine lv_dup2_11 hx hb d_Query_readBehindOne_50 rfl (m_r_cat B v_9) ?_
    replace hF := Option.bind_eq_some_iff.mp hF
    obtain ⟨a_11, ea_11, hF⟩ := hF
    subst ea_11
    replace hF := Option.bind_eq_some_iff.mp hF
    obtain ⟨v_12, ev_12, hF⟩ := hF
    refine m_iald (B := B) (a := a_11) (t := 0) E S rfl ev_12 d_Query_readBehindOne_51 ?_
    refine lv_aload_n hx hb d_Query_readBehindOne_52 rfl (lv_at hl 0 rfl) ?_
    replace hF := Option.bind_eq_some_iff.mp hF
    obtain ⟨v_13, ev_13, hF⟩ := hF
    refine m_getR (B := B) (a := a0) E S fd_Query_all (Or.inl qw_38) ev_13 d_Query_readBehindOne_53 ?_
    refine lv_aload_n hx hb d_Query_readBehindOne_56 rfl (lv_at hl 0 rfl) ?_
    replace hF := Option.bind_eq_some_iff.mp hF
    obtain ⟨v_14, ev_14, hF⟩ := hF
    refine m_getI (B := B) (a := a0) E S fd_Query_level (Or.inl qw_43) ev_14 d_Query_readBehindOne_57 ?_
    replace hF := Option.bind_eq_some_iff.mp hF
    obtain ⟨a_15, ea_15, hF⟩ := hF
    subst ea_15
    replace hF := Option.bind_eq_some_iff.mp hF
    obtain ⟨v_16, ev_16, hF⟩ := hF
    refine m_iald (B := B) (a := a_15) (t := 0) E S rfl ev_16 d_Query_readBehindOne_60 ?_
    refine lv_ior hx hb d_Query_readBehindOne_61 ?_
    replace hF := Option.bind_eq_some_iff.mp hF
    obtain ⟨g_17, eg_17, hF⟩ := hF
    refine m_iast (B := B) (a := a_11) (t := 0) E S rfl eg_17 d_Query_readBehindOne_62 (fun H locs S => ?_)
    refine lv_aload_n hx hb d_Query_readBehindOne_63 rfl (lv_at hl 0 rfl) ?_
    replace hF := Option.bind_eq_some_iff.mp hF
    obtain ⟨v_18, ev_18, hF⟩ := hF
    refine m_getR (B := B) (a := a0) E S fd_Query_all (Or.inl qw_38) ev_18 d_Query_readBehindOne_64 ?_
    refine lv_aload_n hx hb d_Query_readBehindOne_67 rfl (lv_at hl 0 rfl) ?_
    replace hF := Option.bind_eq_some_iff.mp hF
    obtain ⟨v_19, ev_19, hF⟩ := hF
    refine m_getI (B := B) (a := a0) E S fd_Query_level (Or.inl qw_43) ev_19 d_Query_readBehindOne_68 ?_
    refine lv_iconst (v := (-1)) hx hb d_Query_readBehindOne_71 (by decide) ?_
    replace hF := Option.bind_eq_some_iff.mp hF
    obtain ⟨a_20, ea_20, hF⟩ := hF
    subst ea_20
    replace hF := Option.bind_eq_some_iff.mp hF
    obtain ⟨g_21, eg_21, hF⟩ := hF
    refine m_iast (B := B) (a := a_20) (t := 0) E S rfl eg_21 d_Query_readBehindOne_72 (fun H locs S => ?_)
    refine lv_aload_n hx hb d_Query_readBehindOne_73 rfl (lv_at hl 0 rfl) ?_
    replace hF := m_gd_inv hF
    obtain ⟨eog_22, hF⟩ := hF
    replace hF := m_bd_inv hF
    obtain ⟨v_23, g_22, eg_22, hF⟩ := hF
    refine m_callV (B := B) (nn := 0) (b := a0) (As := []) (rest := []) (v := none) E S hz (c_Query_beginOne l D B K n g_21 a0 v_23 g_22 eg_22) qc_Query_beginOne ⟨rfl, rfl⟩ (Or.inl qw_191) qw_192 qw_193 qw_71 (by decide +kernel) ⟨Nat.le_of_ble_eq_true rfl, Nat.le_of_ble_eq_true rfl⟩ eog_22 rfl rfl hl.1 (Nat.le_of_ble_eq_true rfl) d_Query_readBehindOne_74 ⟨Nat.le_of_ble_eq_true rfl, Nat.le_of_ble_eq_true rfl⟩ (fun H locs S => ?_)
    refine W.eq (g2 := F0 m 77 ls []) rfl ?_
    refine lv_iconst (v := 1) hx hb d_Query_readBehindOne_77 (by decide) ?_
    cases hF
    exact m_zret E S hz hr hlk (by decide) d_Query_readBehindOne_78
  rw [if_neg c_8] at hF
  refine lv_lookup (off := 83) (tgt := 84) hx hb d_Query_readBehindOne_1 (by decide) (by show Op.lookupswitch.offset _ _ _ = _; rw [lv_osw (a := 38) c_1 (by decide), lv_osw (a := 41) c_4 (by decide), lv_osw (a := 124) c_8 (by decide)]; rfl) (by decide) ?_
  refine lv_iconst (v := 0) hx hb d_Query_readBehindOne_84 (by decide) ?_
  cases hF
  exact m_zret E S hz hr hlk (by decide) d_Query_readBehindOne_85
section S_Query_readBehindWord
variable {p : Program} {l : Launch} {e : Env} {s : State} {m : MethodId} {args : Array Value} {below : List Frame} {meth : Method} {c : Code} {D : va_G} {B n : Nat} {K : Nat → ClassId}
def f_Query_readBehindWord_35   (g : m_G) (y0 : Int32) : Option (Int32 × m_G) :=
  if (y0 : Int32) = 0 ∨ y0 = 1 then some (y0, g) else none
set_option maxHeartbeats 1000000 in
set_option maxRecDepth 100000 in
theorem c_Query_readBehindWord_35 (E : m_V p m c b_Query_readBehindWord 3 s args R_Query D K) (hr : meth.sig.returnType = (some .boolean)) (hlk : meth.locks = false) (hz : s.heap.size + 0 = B + n)   : ∀ (g : m_G) (y0 : Int32) (r : Int32) (g' : m_G), f_Query_readBehindWord_35 g y0 = some (r, g') → ∀ (H : Heap) (locs : List Loc), m_S D B K n g s.heap H locs → ∀ ls : Array Slot, lv_has ls 3 [] → W p l e ({ frames := 3, cells := 0, slots := 0, locals := 76 } : Room) s m args below meth c H locs 0 0 (MQ below (m_Q D B K (some (.int r)) n g') args s 0 0 (fun q => B ≤ q)) (F0 m 35 ls [.int y0]) := by
  have hx := E.1.1
  have hb := E.1.2.1
  have hts := E.1.2.2.2.2
  intro g y0 r g' hF H locs S ls hl
  unfold f_Query_readBehindWord_35 at hF
  by_cases c_1 : (y0 : Int32) = 0 ∨ y0 = 1
  · rw [if_pos c_1] at hF
    cases hF
    exact m_zret E S hz hr hlk c_1 d_Query_readBehindWord_35
  · rw [if_neg c_1] at hF
    cases hF
def f_Query_readBehindWord_30   (g : m_G)  : Option (Int32 × m_G) :=
  f_Query_readBehindWord_35 g 1
set_option maxHeartbeats 1000000 in
set_option maxRecDepth 100000 in
theorem c_Query_readBehindWord_30 (E : m_V p m c b_Query_readBehindWord 3 s args R_Query D K) (hr : meth.sig.returnType = (some .boolean)) (hlk : meth.locks = false) (hz : s.heap.size + 0 = B + n)   : ∀ (g : m_G)  (r : Int32) (g' : m_G), f_Query_readBehindWord_30 g  = some (r, g') → ∀ (H : Heap) (locs : List Loc), m_S D B K n g s.heap H locs → ∀ ls : Array Slot, lv_has ls 3 [] → W p l e ({ frames := 3, cells := 0, slots := 0, locals := 76 } : Room) s m args below meth c H locs 0 0 (MQ below (m_Q D B K (some (.int r)) n g') args s 0 0 (fun q => B ≤ q)) (F0 m 30 ls []) := by
  have hx := E.1.1
  have hb := E.1.2.1
  have hts := E.1.2.2.2.2
  intro g  r g' hF H locs S ls hl
  unfold f_Query_readBehindWord_30 at hF
  refine lv_iconst (v := 1) hx hb d_Query_readBehindWord_30 (by decide) ?_
  refine lv_goto (tgt := 35) hx hb d_Query_readBehindWord_31 (by decide) ?_
  exact c_Query_readBehindWord_35 E hr hlk hz _ _ _ _ hF _ _ S _ (lv_sub hl [] rfl)
def f_Query_readBehindWord_13   (g : m_G) (a0 : Nat) (x1 : Int32) (y0 : Int32) (t1 : Option Nat) (t2 : Option Nat) : Option (Int32 × m_G) :=
  Option.bind t2 fun a_1 =>
  m_gd (m_is g a_1 7) <|
  m_bd (f_Query_endWord g a_1 t1 y0) fun v_3 g_2 =>
  if (x1 : Int32) = 42 then
    f_Query_readBehindWord_30 g_2 
  else
    m_gd (m_is g_2 a0 7) <|
    m_bd (f_Query_readBehindOne g_2 a0 x1) fun v_6 g_5 =>
    if (v_6 : Int32) = 0 then
      f_Query_readBehindWord_35 g_5 0
    else
      f_Query_readBehindWord_30 g_5 
set_option maxHeartbeats 1000000 in
set_option maxRecDepth 100000 in
theorem c_Query_readBehindWord_13 (E : m_V p m c b_Query_readBehindWord 3 s args R_Query D K) (hr : meth.sig.returnType = (some .boolean)) (hlk : meth.locks = false) (hz : s.heap.size + 0 = B + n)   : ∀ (g : m_G) (a0 : Nat) (x1 : Int32) (y0 : Int32) (t1 : Option Nat) (t2 : Option Nat) (r : Int32) (g' : m_G), f_Query_readBehindWord_13 g a0 x1 y0 t1 t2 = some (r, g') → ∀ (H : Heap) (locs : List Loc), m_S D B K n g s.heap H locs → ∀ ls : Array Slot, lv_has ls 3 [(0, .ref (B + a0)), (1, .int x1)] → W p l e ({ frames := 3, cells := 0, slots := 0, locals := 76 } : Room) s m args below meth c H locs 0 0 (MQ below (m_Q D B K (some (.int r)) n g') args s 0 0 (fun q => B ≤ q)) (F0 m 13 ls [.int y0, m_r B t1, m_r B t2]) := by
  have hx := E.1.1
  have hb := E.1.2.1
  have hts := E.1.2.2.2.2
  intro g a0 x1 y0 t1 t2 r g' hF H locs S ls hl
  unfold f_Query_readBehindWord_13 at hF
  replace hF := Option.bind_eq_some_iff.mp hF
  obtain ⟨a_1, ea_1, hF⟩ := hF
  subst ea_1
  replace hF := m_gd_inv hF
  obtain ⟨eog_2, hF⟩ := hF
  replace hF := m_bd_inv hF
  obtain ⟨v_3, g_2, eg_2, hF⟩ := hF
  refine m_callV (B := B) (nn := 2) (b := a_1) (As := [m_r B t1, .int y0]) (rest := []) (v := none) E S hz (c_Query_endWord l D B K n g a_1 t1 y0 v_3 g_2 eg_2) qc_Query_endWord ⟨rfl, rfl⟩ (Or.inl qw_204) qw_205 qw_206 qw_71 (by decide +kernel) ⟨Nat.le_of_ble_eq_true rfl, Nat.le_of_ble_eq_true rfl⟩ eog_2 rfl rfl hl.1 (Nat.le_of_ble_eq_true rfl) d_Query_readBehindWord_13 ⟨Nat.le_of_ble_eq_true rfl, Nat.le_of_ble_eq_true rfl⟩ (fun H locs S => ?_)
  refine W.eq (g2 := F0 m 16 ls []) rfl ?_
  refine lv_iload_n hx hb d_Query_readBehindWord_16 rfl (lv_at hl 1 rfl) ?_
  refine lv_bipush (v := 42) hx hb d_Query_readBehindWord_17 (by decide) ?_
  refine lv_icmp_eq (tgt := 30) hx hb d_Query_readBehindWord_19 (by decide) (fun c_4 => ?_) (fun c_4 => ?_)
  · rw [if_pos c_4] at hF
    exact c_Query_readBehindWord_30 E hr hlk hz _ _ _ hF _ _ S _ (lv_sub hl [] rfl)
  · rw [if_neg c_4] at hF
    refine lv_aload_n hx hb d_Query_readBehindWord_22 rfl (lv_at hl 0 rfl) ?_
    refine lv_iload_n hx hb d_Query_readBehindWord_23 rfl (lv_at hl 1 rfl) ?_
    replace hF := m_gd_inv hF
    obtain ⟨eog_5, hF⟩ := hF
    replace hF := m_bd_inv hF
    obtain ⟨v_6, g_5, eg_5, hF⟩ := hF
    refine m_callV (B := B) (nn := 1) (b := a0) (As := [.int x1]) (rest := []) (v := (some (.int v_6))) E S hz (c_Query_readBehindOne l D B K n g_2 a0 x1 v_6 g_5 eg_5) qc_Query_readBehindOne ⟨rfl, rfl⟩ (Or.inl qw_207) qw_208 qw_209 qw_71 (by decide +kernel) ⟨Nat.le_of_ble_eq_true rfl, Nat.le_of_ble_eq_true rfl⟩ eog_5 rfl rfl hl.1 (Nat.le_of_ble_eq_true rfl) d_Query_readBehindWord_24 ⟨Nat.le_of_ble_eq_true rfl, Nat.le_of_ble_eq_true rfl⟩ (fun H locs S => ?_)
    refine W.eq (g2 := F0 m 27 ls [.int v_6]) rfl ?_
    refine lv_if_eq (tgt := 34) hx hb d_Query_readBehindWord_27 (by decide) (fun c_7 => ?_) (fun c_7 => ?_)
    · rw [if_pos c_7] at hF
      refine lv_iconst (v := 0) hx hb d_Query_readBehindWord_34 (by decide) ?_
      exact c_Query_readBehindWord_35 E hr hlk hz _ _ _ _ hF _ _ S _ (lv_sub hl [] rfl)
    · rw [if_neg c_7] at hF
      exact c_Query_readBehindWord_30 E hr hlk hz _ _ _ hF _ _ S _ (lv_sub hl [] rfl)
end S_Query_readBehindWord
def f_Query_readBehindWord  (g : m_G) (a0 : Nat) (x1 : Int32) (r2 : Option Nat) : Option (Int32 × m_G) :=
  if (x1 : Int32) = 42 then
    f_Query_readBehindWord_13 g a0 x1 1 r2 (some a0)
  else
    f_Query_readBehindWord_13 g a0 x1 0 r2 (some a0)
set_option maxHeartbeats 1000000 in
set_option maxRecDepth 100000 in
theorem c_Query_readBehindWord (l : Launch) (D : va_G) (B : Nat) (K : Nat → ClassId)  (n : Nat) (g : m_G) (a0 : Nat) (x1 : Int32) (r2 : Option Nat) (r : Int32) (g' : m_G) (hF : f_Query_readBehindWord g a0 x1 r2 = some (r, g')) : Met l y_Query_readBehindWord (Cond.code y_Query_readBehindWord b_Query_readBehindWord 3 (some .boolean) :: m_TB) ({ frames := 3, cells := 0, slots := 0, locals := 76 } : Room) (m_Pc D B K n g [.ref (B + a0), .int x1, m_r B r2]) (m_Q D B K (some (.int r)) n g') 0 0 (fun q => B ≤ q) := by
  refine m_met (by decide) (by simp only [lg_sl, List.flatMap_cons, List.flatMap_nil, m_r_cat]; exact Nat.le_of_ble_eq_true rfl) ?_
  intro p e s m args below meth c ls E hr hlk hin hsz S hl
  have E : m_V p m c b_Query_readBehindWord 3 s args R_Query D K := E
  have hz : s.heap.size + 0 = B + n := hsz
  have hl : lv_has ls 3 [(0, .ref (B + a0)), (1, .int x1), (2, m_r B r2)] := by simp only [lv_args, m_r_cat] at hl; exact hl
  have hx := E.1.1
  have hb := E.1.2.1
  have hts := E.1.2.2.2.2
  unfold f_Query_readBehindWord at hF
  refine lv_aload_n hx hb d_Query_readBehindWord_0 rfl (lv_at hl 0 rfl) ?_
  refine m_aload_n (B := B) (r := r2) E d_Query_readBehindWord_1 rfl (lv_at hl 2 rfl) ?_
  refine lv_iload_n hx hb d_Query_readBehindWord_2 rfl (lv_at hl 1 rfl) ?_
  refine lv_bipush (v := 42) hx hb d_Query_readBehindWord_3 (by decide) ?_
  refine lv_icmp_ne (tgt := 12) hx hb d_Query_readBehindWord_5 (by decide) (fun c_1 => ?_) (fun c_1 => ?_)
  · rw [if_neg c_1] at hF
    refine lv_iconst (v := 0) hx hb d_Query_readBehindWord_12 (by decide) ?_
    exact c_Query_readBehindWord_13 E hr hlk hz _ _ _ _ _ _ _ _ hF _ _ S _ (lv_sub hl [0, 1] rfl)
  · rw [if_pos c_1] at hF
    refine lv_iconst (v := 1) hx hb d_Query_readBehindWord_8 (by decide) ?_
    refine lv_goto (tgt := 13) hx hb d_Query_readBehindWord_9 (by decide) ?_
    exact c_Query_readBehindWord_13 E hr hlk hz _ _ _ _ _ _ _ _ hF _ _ S _ (lv_sub hl [0, 1] rfl)
section S_Query_fieldNamed
variable {p : Program} {l : Launch} {e : Env} {s : State} {m : MethodId} {args : Array Value} {below : List Frame} {meth : Method} {c : Code} {D : va_G} {B n : Nat} {K : Nat → ClassId}
def f_Query_fieldNamed_42   (g : m_G) (y0 : Int32) : Option (Int32 × m_G) :=
  some (y0, g)
set_option maxHeartbeats 1000000 in
set_option maxRecDepth 100000 in
theorem c_Query_fieldNamed_42 (E : m_V p m c b_Query_fieldNamed 2 s args R_Query D K) (hr : meth.sig.returnType = (some .int)) (hlk : meth.locks = false) (hz : s.heap.size + 0 = B + n)   : ∀ (g : m_G) (y0 : Int32) (r : Int32) (g' : m_G), f_Query_fieldNamed_42 g y0 = some (r, g') → ∀ (H : Heap) (locs : List Loc), m_S D B K n g s.heap H locs → ∀ ls : Array Slot, lv_has ls 2 [] → W p l e ({ frames := 1, cells := 0, slots := 0, locals := 20 } : Room) s m args below meth c H locs 0 0 (MQ below (m_Q D B K (some (.int r)) n g') args s 0 0 (fun q => B ≤ q)) (F0 m 42 ls [.int y0]) := by
  have hx := E.1.1
  have hb := E.1.2.1
  have hts := E.1.2.2.2.2
  intro g y0 r g' hF H locs S ls hl
  unfold f_Query_fieldNamed_42 at hF
  cases hF
  exact m_iret E S hz hr hlk d_Query_fieldNamed_42
end S_Query_fieldNamed
def f_Query_fieldNamed  (g : m_G) (x0 : Int64) : Option (Int32 × m_G) :=
  m_bd (f_Arc_smallLetter g 115) fun v_2 g_1 =>
  if ((lg_cmp x0 ((v_2 : Int32).toInt64)) : Int32) = 0 then
    some (0, g_1)
  else
    m_bd (f_Arc_smallLetter g_1 102) fun v_5 g_4 =>
    if ((lg_cmp x0 ((v_5 : Int32).toInt64)) : Int32) = 0 then
      some (1, g_4)
    else
      m_bd (f_Arc_smallLetter g_4 98) fun v_8 g_7 =>
      if ((lg_cmp x0 ((v_8 : Int32).toInt64)) : Int32) = 0 then
        f_Query_fieldNamed_42 g_7 2
      else
        f_Query_fieldNamed_42 g_7 (-1)
set_option maxHeartbeats 1000000 in
set_option maxRecDepth 100000 in
theorem c_Query_fieldNamed (l : Launch) (D : va_G) (B : Nat) (K : Nat → ClassId)  (n : Nat) (g : m_G) (x0 : Int64) (r : Int32) (g' : m_G) (hF : f_Query_fieldNamed g x0 = some (r, g')) : Met l y_Query_fieldNamed (Cond.code y_Query_fieldNamed b_Query_fieldNamed 2 (some .int) :: m_TB) ({ frames := 1, cells := 0, slots := 0, locals := 20 } : Room) (m_Pc D B K n g [.long x0]) (m_Q D B K (some (.int r)) n g') 0 0 (fun q => B ≤ q) := by
  refine m_met (by decide) (Nat.le_of_ble_eq_true rfl) ?_
  intro p e s m args below meth c ls E hr hlk hin hsz S hl
  have E : m_V p m c b_Query_fieldNamed 2 s args R_Query D K := E
  have hz : s.heap.size + 0 = B + n := hsz
  have hl : lv_has ls 2 [(0, .long x0)] := hl
  have hx := E.1.1
  have hb := E.1.2.1
  have hts := E.1.2.2.2.2
  unfold f_Query_fieldNamed at hF
  refine lv_lload_n hx hb d_Query_fieldNamed_0 rfl (lv_at hl 0 rfl) ?_
  refine lv_bipush (v := 115) hx hb d_Query_fieldNamed_1 (by decide) ?_
  replace hF := m_bd_inv hF
  obtain ⟨v_2, g_1, eg_1, hF⟩ := hF
  refine m_callS (B := B) (nn := 1) (As := [.int 115]) (rest := [.long x0]) (v := (some (.int v_2))) E S hz (c_Arc_smallLetter l D B K n g 115 v_2 g_1 eg_1) qc_Arc_smallLetter ⟨rfl, rfl⟩ (Or.inr ⟨_, qn_59⟩) qw_131 qw_105 (by decide +kernel) ⟨Nat.le_of_ble_eq_true rfl, Nat.le_of_ble_eq_true rfl⟩ rfl hl.1 (Nat.le_of_ble_eq_true rfl) d_Query_fieldNamed_3 ⟨Nat.le_of_ble_eq_true rfl, Nat.le_of_ble_eq_true rfl⟩ (fun H locs S => ?_)
  refine W.eq (g2 := F0 m 6 ls [.int v_2, .long x0]) rfl ?_
  refine lv_i2l hx hb d_Query_fieldNamed_6 rfl ?_
  refine W.lcmp hx hb d_Query_fieldNamed_7 ?_
  refine lv_if_ne (tgt := 13) hx hb d_Query_fieldNamed_8 (by decide) (fun c_3 => ?_) (fun c_3 => ?_)
  · rw [if_neg c_3] at hF
    refine lv_lload_n hx hb d_Query_fieldNamed_13 rfl (lv_at hl 0 rfl) ?_
    refine lv_bipush (v := 102) hx hb d_Query_fieldNamed_14 (by decide) ?_
    replace hF := m_bd_inv hF
    obtain ⟨v_5, g_4, eg_4, hF⟩ := hF
    refine m_callS (B := B) (nn := 1) (As := [.int 102]) (rest := [.long x0]) (v := (some (.int v_5))) E S hz (c_Arc_smallLetter l D B K n g_1 102 v_5 g_4 eg_4) qc_Arc_smallLetter ⟨rfl, rfl⟩ (Or.inr ⟨_, qn_59⟩) qw_131 qw_105 (by decide +kernel) ⟨Nat.le_of_ble_eq_true rfl, Nat.le_of_ble_eq_true rfl⟩ rfl hl.1 (Nat.le_of_ble_eq_true rfl) d_Query_fieldNamed_16 ⟨Nat.le_of_ble_eq_true rfl, Nat.le_of_ble_eq_true rfl⟩ (fun H locs S => ?_)
    refine W.eq (g2 := F0 m 19 ls [.int v_5, .long x0]) rfl ?_
    refine lv_i2l hx hb d_Query_fieldNamed_19 rfl ?_
    refine W.lcmp hx hb d_Query_fieldNamed_20 ?_
    refine lv_if_ne (tgt := 26) hx hb d_Query_fieldNamed_21 (by decide) (fun c_6 => ?_) (fun c_6 => ?_)
    · rw [if_neg c_6] at hF
      refine lv_lload_n hx hb d_Query_fieldNamed_26 rfl (lv_at hl 0 rfl) ?_
      refine lv_bipush (v := 98) hx hb d_Query_fieldNamed_27 (by decide) ?_
      replace hF := m_bd_inv hF
      obtain ⟨v_8, g_7, eg_7, hF⟩ := hF
      refine m_callS (B := B) (nn := 1) (As := [.int 98]) (rest := [.long x0]) (v := (some (.int v_8))) E S hz (c_Arc_smallLetter l D B K n g_4 98 v_8 g_7 eg_7) qc_Arc_smallLetter ⟨rfl, rfl⟩ (Or.inr ⟨_, qn_59⟩) qw_131 qw_105 (by decide +kernel) ⟨Nat.le_of_ble_eq_true rfl, Nat.le_of_ble_eq_true rfl⟩ rfl hl.1 (Nat.le_of_ble_eq_true rfl) d_Query_fieldNamed_29 ⟨Nat.le_of_ble_eq_true rfl, Nat.le_of_ble_eq_true rfl⟩ (fun H locs S => ?_)
      refine W.eq (g2 := F0 m 32 ls [.int v_8, .long x0]) rfl ?_
      refine lv_i2l hx hb d_Query_fieldNamed_32 rfl ?_
      refine W.lcmp hx hb d_Query_fieldNamed_33 ?_
      refine lv_if_ne (tgt := 41) hx hb d_Query_fieldNamed_34 (by decide) (fun c_9 => ?_) (fun c_9 => ?_)
      · rw [if_neg c_9] at hF
        refine lv_iconst (v := (-1)) hx hb d_Query_fieldNamed_41 (by decide) ?_
        exact c_Query_fieldNamed_42 E hr hlk hz _ _ _ _ hF _ _ S _ (lv_sub hl [] rfl)
      · rw [if_pos c_9] at hF
        refine lv_iconst (v := 2) hx hb d_Query_fieldNamed_37 (by decide) ?_
        refine lv_goto (tgt := 42) hx hb d_Query_fieldNamed_38 (by decide) ?_
        exact c_Query_fieldNamed_42 E hr hlk hz _ _ _ _ hF _ _ S _ (lv_sub hl [] rfl)
    · rw [if_pos c_6] at hF
      refine lv_iconst (v := 1) hx hb d_Query_fieldNamed_24 (by decide) ?_
      cases hF
      exact m_iret E S hz hr hlk d_Query_fieldNamed_25
  · rw [if_pos c_3] at hF
    refine lv_iconst (v := 0) hx hb d_Query_fieldNamed_11 (by decide) ?_
    cases hF
    exact m_iret E S hz hr hlk d_Query_fieldNamed_12
