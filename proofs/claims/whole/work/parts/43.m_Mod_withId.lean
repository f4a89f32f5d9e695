section S_Mod_withId
variable {p : Program} {l : Launch} {e : Env} {s : State} {m : MethodId} {args : Array Value} {below : List Frame} {meth : Method} {c : Code} {D : va_G} {B n : Nat} {K : Nat → ClassId}
def f_Mod_withId_29  (k_2 : m_G → Nat → Int32 → Int32 → Option (Int32 × m_G)) (g : m_G) (a0 : Nat) (x1 : Int32) (x2 : Int32) : Option (Int32 × m_G) :=
  k_2 g a0 x1 (x2 + 1)
set_option maxHeartbeats 1000000 in
set_option maxRecDepth 100000 in
theorem c_Mod_withId_29 (E : m_V p m c b_Mod_withId 3 s args R_Mod D K) (hr : meth.sig.returnType = (some .int)) (hlk : meth.locks = false) (hz : s.heap.size + 0 = B + n)  (k_2 : m_G → Nat → Int32 → Int32 → Option (Int32 × m_G)) (hk_2 : ∀ (g : m_G) (a0 : Nat) (x1 : Int32) (x2 : Int32) (r : Int32) (g' : m_G), k_2 g a0 x1 x2 = some (r, g') → ∀ (H : Heap) (locs : List Loc), m_S D B K n g s.heap H locs → ∀ ls : Array Slot, lv_has ls 3 [(0, .ref (B + a0)), (1, .int x1), (2, .int x2)] → W p l e ({ frames := 0, cells := 0, slots := 0, locals := 0 } : Room) s m args below meth c H locs 0 0 (MQ below (m_Q D B K (some (.int r)) n g') args s 0 0 (fun q => B ≤ q)) (F0 m 2 ls [])) : ∀ (g : m_G) (a0 : Nat) (x1 : Int32) (x2 : Int32) (r : Int32) (g' : m_G), f_Mod_withId_29 k_2 g a0 x1 x2 = some (r, g') → ∀ (H : Heap) (locs : List Loc), m_S D B K n g s.heap H locs → ∀ ls : Array Slot, lv_has ls 3 [(0, .ref (B + a0)), (1, .int x1), (2, .int x2)] → W p l e ({ frames := 0, cells := 0, slots := 0, locals := 0 } : Room) s m args below meth c H locs 0 0 (MQ below (m_Q D B K (some (.int r)) n g') args s 0 0 (fun q => B ≤ q)) (F0 m 29 ls []) := by
  have hx := E.1.1
  have hb := E.1.2.1
  have hts := E.1.2.2.2.2
  intro g a0 x1 x2 r g' hF H locs S ls hl
  unfold f_Mod_withId_29 at hF
  refine lv_iinc (v := (x2 + 1)) (lv' := [(2, .int (x2 + 1)), (0, .ref (B + a0)), (1, .int x1)]) hx hb d_Mod_withId_29 hl (k := 2) rfl rfl (by decide) rfl (fun ls hl => ?_)
  refine lv_goto (tgt := 2) hx hb d_Mod_withId_32 (by decide) ?_
  exact hk_2 _ _ _ _ _ _ hF _ _ S _ (lv_sub hl [1, 2, 0] rfl)
def f_Mod_withId_2   : Nat → m_G → Nat → Int32 → Int32 → Option (Int32 × m_G)
  | 0, _, _, _, _ => none
  | fu + 1, g, a0, x1, x2 =>
    if (12 : Int32) ≤ x2 then
      some ((-1), g)
    else
      (m_gR g a0 8 7).bind fun v_2 =>
      Option.bind v_2 fun a_3 =>
      (m_ld g a_3 3 x2).bind fun v_4 =>
      if (v_4 : Int32) = 0 then
        f_Mod_withId_29 (f_Mod_withId_2 fu) g a0 x1 x2
      else
        (m_gR g a0 8 8).bind fun v_6 =>
        Option.bind v_6 fun a_7 =>
        (m_ld g a_7 0 x2).bind fun v_8 =>
        if (v_8 : Int32) = x1 then
          some (x2, g)
        else
          f_Mod_withId_29 (f_Mod_withId_2 fu) g a0 x1 x2
set_option maxHeartbeats 1000000 in
set_option maxRecDepth 100000 in
theorem c_Mod_withId_2 (E : m_V p m c b_Mod_withId 3 s args R_Mod D K) (hr : meth.sig.returnType = (some .int)) (hlk : meth.locks = false) (hz : s.heap.size + 0 = B + n)   : ∀ fu : Nat, ∀ (g : m_G) (a0 : Nat) (x1 : Int32) (x2 : Int32) (r : Int32) (g' : m_G), f_Mod_withId_2  fu g a0 x1 x2 = some (r, g') → ∀ (H : Heap) (locs : List Loc), m_S D B K n g s.heap H locs → ∀ ls : Array Slot, lv_has ls 3 [(0, .ref (B + a0)), (1, .int x1), (2, .int x2)] → W p l e ({ frames := 0, cells := 0, slots := 0, locals := 0 } : Room) s m args below meth c H locs 0 0 (MQ below (m_Q D B K (some (.int r)) n g') args s 0 0 (fun q => B ≤ q)) (F0 m 2 ls []) := by
  have hx := E.1.1
  have hb := E.1.2.1
  have hts := E.1.2.2.2.2
  intro fu
  induction fu with
  | zero => intro g a0 x1 x2 r g' hF; cases hF
  | succ fu ih =>
    intro g a0 x1 x2 r g' hF H locs S ls hl
    rw [f_Mod_withId_2] at hF
    refine lv_iload_n hx hb d_Mod_withId_2 rfl (lv_at hl 2 rfl) ?_
    refine lv_bipush (v := 12) hx hb d_Mod_withId_3 (by decide) ?_
    refine lv_icmp_ge (tgt := 35) hx hb d_Mod_withId_5 (by decide) (fun c_1 => ?_) (fun c_1 => ?_)
    · rw [if_pos c_1] at hF
      refine lv_iconst (v := (-1)) hx hb d_Mod_withId_35 (by decide) ?_
      cases hF
      exact m_iret E S hz hr hlk d_Mod_withId_36
    · rw [if_neg c_1] at hF
      refine lv_aload_n hx hb d_Mod_withId_8 rfl (lv_at hl 0 rfl) ?_
      replace hF := Option.bind_eq_some_iff.mp hF
      obtain ⟨v_2, ev_2, hF⟩ := hF
      refine m_getR (B := B) (a := a0) E S fd_Mod_there (Or.inl qw_289) ev_2 d_Mod_withId_9 ?_
      refine lv_iload_n hx hb d_Mod_withId_12 rfl (lv_at hl 2 rfl) ?_
      replace hF := Option.bind_eq_some_iff.mp hF
      obtain ⟨a_3, ea_3, hF⟩ := hF
      subst ea_3
      replace hF := Option.bind_eq_some_iff.mp hF
      obtain ⟨v_4, ev_4, hF⟩ := hF
      refine m_zald (B := B) (a := a_3) (t := 3) E S rfl ev_4 d_Mod_withId_13 ?_
      refine lv_if_eq (tgt := 29) hx hb d_Mod_withId_14 (by decide) (fun c_5 => ?_) (fun c_5 => ?_)
      · rw [if_pos c_5] at hF
        exact c_Mod_withId_29 E hr hlk hz (f_Mod_withId_2 fu) ih _ _ _ _ _ _ hF _ _ S _ (lv_sub hl [0, 1, 2] rfl)
      · rw [if_neg c_5] at hF
        refine lv_aload_n hx hb d_Mod_withId_17 rfl (lv_at hl 0 rfl) ?_
        replace hF := Option.bind_eq_some_iff.mp hF
        obtain ⟨v_6, ev_6, hF⟩ := hF
        refine m_getR (B := B) (a := a0) E S fd_Mod_ids (Or.inl qw_290) ev_6 d_Mod_withId_18 ?_
        refine lv_iload_n hx hb d_Mod_withId_21 rfl (lv_at hl 2 rfl) ?_
        replace hF := Option.bind_eq_some_iff.mp hF
        obtain ⟨a_7, ea_7, hF⟩ := hF
        subst ea_7
        replace hF := Option.bind_eq_some_iff.mp hF
        obtain ⟨v_8, ev_8, hF⟩ := hF
        refine m_iald (B := B) (a := a_7) (t := 0) E S rfl ev_8 d_Mod_withId_22 ?_
        refine lv_iload_n hx hb d_Mod_withId_23 rfl (lv_at hl 1 rfl) ?_
        refine lv_icmp_ne (tgt := 29) hx hb d_Mod_withId_24 (by decide) (fun c_9 => ?_) (fun c_9 => ?_)
        · rw [if_neg c_9] at hF
          exact c_Mod_withId_29 E hr hlk hz (f_Mod_withId_2 fu) ih _ _ _ _ _ _ hF _ _ S _ (lv_sub hl [0, 1, 2] rfl)
        · rw [if_pos c_9] at hF
          refine lv_iload_n hx hb d_Mod_withId_27 rfl (lv_at hl 2 rfl) ?_
          cases hF
          exact m_iret E S hz hr hlk d_Mod_withId_28
end S_Mod_withId
def f_Mod_withId  (g : m_G) (a0 : Nat) (x1 : Int32) : Option (Int32 × m_G) :=
  f_Mod_withId_2 m_fu g a0 x1 0
set_option maxHeartbeats 1000000 in
set_option maxRecDepth 100000 in
theorem c_Mod_withId (l : Launch) (D : va_G) (B : Nat) (K : Nat → ClassId)  (n : Nat) (g : m_G) (a0 : Nat) (x1 : Int32) (r : Int32) (g' : m_G) (hF : f_Mod_withId g a0 x1 = some (r, g')) : Met l y_Mod_withId (Cond.code y_Mod_withId b_Mod_withId 3 (some .int) :: m_TB) ({ frames := 0, cells := 0, slots := 0, locals := 0 } : Room) (m_Pc D B K n g [.ref (B + a0), .int x1]) (m_Q D B K (some (.int r)) n g') 0 0 (fun q => B ≤ q) := by
  refine m_met (by decide) (Nat.le_of_ble_eq_true rfl) ?_
  intro p e s m args below meth c ls E hr hlk hin hsz S hl
  have E : m_V p m c b_Mod_withId 3 s args R_Mod D K := E
  have hz : s.heap.size + 0 = B + n := hsz
  have hl : lv_has ls 3 [(0, .ref (B + a0)), (1, .int x1)] := hl
  have hx := E.1.1
  have hb := E.1.2.1
  have hts := E.1.2.2.2.2
  unfold f_Mod_withId at hF
  refine lv_iconst (v := 0) hx hb d_Mod_withId_0 (by decide) ?_
  refine lv_istore_n (lv' := [(2, .int 0), (0, .ref (B + a0)), (1, .int x1)]) hx hb d_Mod_withId_1 rfl hl (by decide) rfl (fun ls hl => ?_)
  exact c_Mod_withId_2 E hr hlk hz m_fu _ _ _ _ _ _ hF _ _ S _ (lv_sub hl [1, 2, 0] rfl)
section S_Mod_answers
variable {p : Program} {l : Launch} {e : Env} {s : State} {m : MethodId} {args : Array Value} {below : List Frame} {meth : Method} {c : Code} {D : va_G} {B n : Nat} {K : Nat → ClassId}
def f_Mod_answers_62   (g : m_G) (y0 : Int32) : Option (Int32 × m_G) :=
  some (y0, g)
set_option maxHeartbeats 1000000 in
set_option maxRecDepth 100000 in
theorem c_Mod_answers_62 (E : m_V p m c b_Mod_answers 3 s args R_Mod D K) (hr : meth.sig.returnType = (some .int)) (hlk : meth.locks = false) (hz : s.heap.size + 0 = B + n)   : ∀ (g : m_G) (y0 : Int32) (r : Int32) (g' : m_G), f_Mod_answers_62 g y0 = some (r, g') → ∀ (H : Heap) (locs : List Loc), m_S D B K n g s.heap H locs → ∀ ls : Array Slot, lv_has ls 3 [] → W p l e ({ frames := 2, cells := 0, slots := 0, locals := 48 } : Room) s m args below meth c H locs 0 0 (MQ below (m_Q D B K (some (.int r)) n g') args s 0 0 (fun q => B ≤ q)) (F0 m 62 ls [.int y0]) := by
  have hx := E.1.1
  have hb := E.1.2.1
  have hts := E.1.2.2.2.2
  intro g y0 r g' hF H locs S ls hl
  unfold f_Mod_answers_62 at hF
  cases hF
  exact m_iret E S hz hr hlk d_Mod_answers_62
def f_Mod_answers_48   (g : m_G) (a0 : Nat) (x2 : Int32) : Option (Int32 × m_G) :=
  if (0 : Int32) ≤ x2 then
    m_gd (m_is g a0 8) <|
    m_bd (f_Mod_withId g a0 x2) fun v_3 g_2 =>
    f_Mod_answers_62 g_2 v_3
  else
    f_Mod_answers_62 g (-4)
set_option maxHeartbeats 1000000 in
set_option maxRecDepth 100000 in
theorem c_Mod_answers_48 (E : m_V p m c b_Mod_answers 3 s args R_Mod D K) (hr : meth.sig.returnType = (some .int)) (hlk : meth.locks = false) (hz : s.heap.size + 0 = B + n)   : ∀ (g : m_G) (a0 : Nat) (x2 : Int32) (r : Int32) (g' : m_G), f_Mod_answers_48 g a0 x2 = some (r, g') → ∀ (H : Heap) (locs : List Loc), m_S D B K n g s.heap H locs → ∀ ls : Array Slot, lv_has ls 3 [(0, .ref (B + a0)), (2, .int x2)] → W p l e ({ frames := 2, cells := 0, slots := 0, locals := 48 } : Room) s m args below meth c H locs 0 0 (MQ below (m_Q D B K (some (.int r)) n g') args s 0 0 (fun q => B ≤ q)) (F0 m 48 ls []) := by
  have hx := E.1.1
  have hb := E.1.2.1
  have hts := E.1.2.2.2.2
  intro g a0 x2 r g' hF H locs S ls hl
  unfold f_Mod_answers_48 at hF
  refine lv_iload_n hx hb d_Mod_answers_48 rfl (lv_at hl 1 rfl) ?_
  refine lv_if_ge (tgt := 57) hx hb d_Mod_answers_49 (by decide) (fun c_1 => ?_) (fun c_1 => ?_)
  · rw [if_pos c_1] at hF
    refine lv_aload_n hx hb d_Mod_answers_57 rfl (lv_at hl 0 rfl) ?_
    refine lv_iload_n hx hb d_Mod_answers_58 rfl (lv_at hl 1 rfl) ?_
    replace hF := m_gd_inv hF
    obtain ⟨eog_2, hF⟩ := hF
    replace hF := m_bd_inv hF
    obtain ⟨v_3, g_2, eg_2, hF⟩ := hF
    refine m_callV (B := B) (nn := 1) (b := a0) (As := [.int x2]) (rest := []) (v := (some (.int v_3))) E S hz (c_Mod_withId l D B K n g a0 x2 v_3 g_2 eg_2) qc_Mod_withId ⟨rfl, rfl⟩ (Or.inl qw_413) qw_414 qw_415 qw_304 (by decide +kernel) ⟨Nat.le_of_ble_eq_true rfl, Nat.le_of_ble_eq_true rfl⟩ eog_2 rfl rfl hl.1 (Nat.le_of_ble_eq_true rfl) d_Mod_answers_59 ⟨Nat.le_of_ble_eq_true rfl, Nat.le_of_ble_eq_true rfl⟩ (fun H locs S => ?_)
    refine W.eq (g2 := F0 m 62 ls [.int v_3]) rfl ?_
    exact c_Mod_answers_62 E hr hlk hz _ _ _ _ hF _ _ S _ (lv_sub hl [] rfl)
  · rw [if_neg c_1] at hF
    refine lv_bipush (v := (-4)) hx hb d_Mod_answers_52 (by decide) ?_
    refine lv_goto (tgt := 62) hx hb d_Mod_answers_54 (by decide) ?_
    exact c_Mod_answers_62 E hr hlk hz _ _ _ _ hF _ _ S _ (lv_sub hl [] rfl)
def f_Mod_answers_26   : Nat → m_G → Nat → Int32 → Option (Int32 × m_G)
  | 0, _, _, _ => none
  | fu + 1, g, a0, x2 =>
    if (x2 : Int32) < 0 then
      f_Mod_answers_48 g a0 x2
    else
      m_gd (m_is g a0 8) <|
      m_bd (f_Mod_withId g a0 x2) fun v_3 g_2 =>
      if (0 : Int32) ≤ v_3 then
        f_Mod_answers_48 g_2 a0 x2
      else
        (m_gR g_2 a0 8 19).bind fun v_5 =>
        Option.bind v_5 fun a_6 =>
        (m_ld g_2 a_6 0 x2).bind fun v_7 =>
        f_Mod_answers_26 fu g_2 a0 v_7
set_option maxHeartbeats 1000000 in
set_option maxRecDepth 100000 in
theorem c_Mod_answers_26 (E : m_V p m c b_Mod_answers 3 s args R_Mod D K) (hr : meth.sig.returnType = (some .int)) (hlk : meth.locks = false) (hz : s.heap.size + 0 = B + n)   : ∀ fu : Nat, ∀ (g : m_G) (a0 : Nat) (x2 : Int32) (r : Int32) (g' : m_G), f_Mod_answers_26  fu g a0 x2 = some (r, g') → ∀ (H : Heap) (locs : List Loc), m_S D B K n g s.heap H locs → ∀ ls : Array Slot, lv_has ls 3 [(0, .ref (B + a0)), (2, .int x2)] → W p l e ({ frames := 2, cells := 0, slots := 0, locals := 48 } : Room) s m args below meth c H locs 0 0 (MQ below (m_Q D B K (some (.int r)) n g') args s 0 0 (fun q => B ≤ q)) (F0 m 26 ls []) := by
  have hx := E.1.1
  have hb := E.1.2.1
  have hts := E.1.2.2.2.2
  intro fu
  induction fu with
  | zero => intro g a0 x2 r g' hF; cases hF
  | succ fu ih =>
    intro g a0 x2 r g' hF H locs S ls hl
    rw [f_Mod_answers_26] at hF
    refine lv_iload_n hx hb d_Mod_answers_26 rfl (lv_at hl 1 rfl) ?_
    refine lv_if_lt (tgt := 48) hx hb d_Mod_answers_27 (by decide) (fun c_1 => ?_) (fun c_1 => ?_)
    · rw [if_pos c_1] at hF
      exact c_Mod_answers_48 E hr hlk hz _ _ _ _ _ hF _ _ S _ (lv_sub hl [0, 1] rfl)
    · rw [if_neg c_1] at hF
      refine lv_aload_n hx hb d_Mod_answers_30 rfl (lv_at hl 0 rfl) ?_
      refine lv_iload_n hx hb d_Mod_answers_31 rfl (lv_at hl 1 rfl) ?_
      replace hF := m_gd_inv hF
      obtain ⟨eog_2, hF⟩ := hF
      replace hF := m_bd_inv hF
      obtain ⟨v_3, g_2, eg_2, hF⟩ := hF
      refine m_callV (B := B) (nn := 1) (b := a0) (As := [.int x2]) (rest := []) (v := (some (.int v_3))) E S hz (c_Mod_withId l D B K n g a0 x2 v_3 g_2 eg_2) qc_Mod_withId ⟨rfl, rfl⟩ (Or.inl qw_413) qw_414 qw_415 qw_304 (by decide +kernel) ⟨Nat.le_of_ble_eq_true rfl, Nat.le_of_ble_eq_true rfl⟩ eog_2 rfl rfl hl.1 (Nat.le_of_ble_eq_true rfl) d_Mod_answers_32 ⟨Nat.le_of_ble_eq_true rfl, Nat.le_of_ble_eq_true rfl⟩ (fun H locs S => ?_)
      refine W.eq (g2 := F0 m 35 ls [.int v_3]) rfl ?_
      refine lv_if_ge (tgt := 48) hx hb d_Mod_answers_35 (by decide) (fun c_4 => ?_) (fun c_4 => ?_)
      · rw [if_pos c_4] at hF
        exact c_Mod_answers_48 E hr hlk hz _ _ _ _ _ hF _ _ S _ (lv_sub hl [0, 1] rfl)
      · rw [if_neg c_4] at hF
        refine lv_aload_n hx hb d_Mod_answers_38 rfl (lv_at hl 0 rfl) ?_
        replace hF := Option.bind_eq_some_iff.mp hF
        obtain ⟨v_5, ev_5, hF⟩ := hF
        refine m_getR (B := B) (a := a0) E S fd_Mod_parent (Or.inl qw_299) ev_5 d_Mod_answers_39 ?_
        refine lv_iload_n hx hb d_Mod_answers_42 rfl (lv_at hl 1 rfl) ?_
        replace hF := Option.bind_eq_some_iff.mp hF
        obtain ⟨a_6, ea_6, hF⟩ := hF
        subst ea_6
        replace hF := Option.bind_eq_some_iff.mp hF
        obtain ⟨v_7, ev_7, hF⟩ := hF
        refine m_iald (B := B) (a := a_6) (t := 0) E S rfl ev_7 d_Mod_answers_43 ?_
        refine lv_istore_n (lv' := [(2, .int v_7), (0, .ref (B + a0))]) hx hb d_Mod_answers_44 rfl hl (by decide) rfl (fun ls hl => ?_)
        refine lv_goto (tgt := 26) hx hb d_Mod_answers_45 (by decide) ?_
        exact ih _ _ _ _ _ hF _ _ S _ (lv_sub hl [1, 0] rfl)
end S_Mod_answers
def f_Mod_answers  (g : m_G) (a0 : Nat) (x1 : Int32) : Option (Int32 × m_G) :=
  m_gd (m_is g a0 8) <|
  m_bd (f_Mod_noMessage g a0 x1) fun v_2 g_1 =>
  if (v_2 : Int32) = 0 then
    m_gd (m_is g_1 a0 8) <|
    m_bd (f_Mod_linkAll g_1 a0) fun v_5 g_4 =>
    (m_gR g_4 a0 8 19).bind fun v_6 =>
    (m_gR g_4 a0 8 8).bind fun v_7 =>
    Option.bind v_7 fun a_8 =>
    (m_ld g_4 a_8 0 x1).bind fun v_9 =>
    Option.bind v_6 fun a_10 =>
    (m_ld g_4 a_10 0 v_9).bind fun v_11 =>
    f_Mod_answers_26 m_fu g_4 a0 v_11
  else
    some ((-1), g_1)
set_option maxHeartbeats 1000000 in
set_option maxRecDepth 100000 in
theorem c_Mod_answers (l : Launch) (D : va_G) (B : Nat) (K : Nat → ClassId)  (n : Nat) (g : m_G) (a0 : Nat) (x1 : Int32) (r : Int32) (g' : m_G) (hF : f_Mod_answers g a0 x1 = some (r, g')) : Met l y_Mod_answers (Cond.code y_Mod_answers b_Mod_answers 3 (some .int) :: m_TB) ({ frames := 2, cells := 0, slots := 0, locals := 48 } : Room) (m_Pc D B K n g [.ref (B + a0), .int x1]) (m_Q D B K (some (.int r)) n g') 0 0 (fun q => B ≤ q) := by
  refine m_met (by decide) (Nat.le_of_ble_eq_true rfl) ?_
  intro p e s m args below meth c ls E hr hlk hin hsz S hl
  have E : m_V p m c b_Mod_answers 3 s args R_Mod D K := E
  have hz : s.heap.size + 0 = B + n := hsz
  have hl : lv_has ls 3 [(0, .ref (B + a0)), (1, .int x1)] := hl
  have hx := E.1.1
  have hb := E.1.2.1
  have hts := E.1.2.2.2.2
  unfold f_Mod_answers at hF
  refine lv_aload_n hx hb d_Mod_answers_0 rfl (lv_at hl 0 rfl) ?_
  refine lv_iload_n hx hb d_Mod_answers_1 rfl (lv_at hl 1 rfl) ?_
  replace hF := m_gd_inv hF
  obtain ⟨eog_1, hF⟩ := hF
  replace hF := m_bd_inv hF
  obtain ⟨v_2, g_1, eg_1, hF⟩ := hF
  refine m_callV (B := B) (nn := 1) (b := a0) (As := [.int x1]) (rest := []) (v := (some (.int v_2))) E S hz (c_Mod_noMessage l D B K n g a0 x1 v_2 g_1 eg_1) qc_Mod_noMessage ⟨rfl, rfl⟩ (Or.inl qw_357) qw_358 qw_359 qw_304 (by decide +kernel) ⟨Nat.le_of_ble_eq_true rfl, Nat.le_of_ble_eq_true rfl⟩ eog_1 rfl rfl hl.1 (Nat.le_of_ble_eq_true rfl) d_Mod_answers_2 ⟨Nat.le_of_ble_eq_true rfl, Nat.le_of_ble_eq_true rfl⟩ (fun H locs S => ?_)
  refine W.eq (g2 := F0 m 5 ls [.int v_2]) rfl ?_
  refine lv_if_eq (tgt := 10) hx hb d_Mod_answers_5 (by decide) (fun c_3 => ?_) (fun c_3 => ?_)
  · rw [if_pos c_3] at hF
    refine lv_aload_n hx hb d_Mod_answers_10 rfl (lv_at hl 0 rfl) ?_
    replace hF := m_gd_inv hF
    obtain ⟨eog_4, hF⟩ := hF
    replace hF := m_bd_inv hF
    obtain ⟨v_5, g_4, eg_4, hF⟩ := hF
    refine m_callV (B := B) (nn := 0) (b := a0) (As := []) (rest := []) (v := none) E S hz (c_Mod_linkAll l D B K n g_1 a0 v_5 g_4 eg_4) qc_Mod_linkAll ⟨rfl, rfl⟩ (Or.inl qw_407) qw_408 qw_409 qw_304 (by decide +kernel) ⟨Nat.le_of_ble_eq_true rfl, Nat.le_of_ble_eq_true rfl⟩ eog_4 rfl rfl hl.1 (Nat.le_of_ble_eq_true rfl) d_Mod_answers_11 ⟨Nat.le_of_ble_eq_true rfl, Nat.le_of_ble_eq_true rfl⟩ (fun H locs S => ?_)
    refine W.eq (g2 := F0 m 14 ls []) rfl ?_
    refine lv_aload_n hx hb d_Mod_answers_14 rfl (lv_at hl 0 rfl) ?_
    replace hF := Option.bind_eq_some_iff.mp hF
    obtain ⟨v_6, ev_6, hF⟩ := hF
    refine m_getR (B := B) (a := a0) E S fd_Mod_parent (Or.inl qw_299) ev_6 d_Mod_answers_15 ?_
    refine lv_aload_n hx hb d_Mod_answers_18 rfl (lv_at hl 0 rfl) ?_
    replace hF := Option.bind_eq_some_iff.mp hF
    obtain ⟨v_7, ev_7, hF⟩ := hF
    refine m_getR (B := B) (a := a0) E S fd_Mod_ids (Or.inl qw_290) ev_7 d_Mod_answers_19 ?_
    refine lv_iload_n hx hb d_Mod_answers_22 rfl (lv_at hl 1 rfl) ?_
    replace hF := Option.bind_eq_some_iff.mp hF
    obtain ⟨a_8, ea_8, hF⟩ := hF
    subst ea_8
    replace hF := Option.bind_eq_some_iff.mp hF
    obtain ⟨v_9, ev_9, hF⟩ := hF
    refine m_iald (B := B) (a := a_8) (t := 0) E S rfl ev_9 d_Mod_answers_23 ?_
    replace hF := Option.bind_eq_some_iff.mp hF
    obtain ⟨a_10, ea_10, hF⟩ := hF
    subst ea_10
    replace hF := Option.bind_eq_some_iff.mp hF
    obtain ⟨v_11, ev_11, hF⟩ := hF
    refine m_iald (B := B) (a := a_10) (t := 0) E S rfl ev_11 d_Mod_answers_24 ?_
    refine lv_istore_n (lv' := [(2, .int v_11), (0, .ref (B + a0)), (1, .int x1)]) hx hb d_Mod_answers_25 rfl hl (by decide) rfl (fun ls hl => ?_)
    exact c_Mod_answers_26 E hr hlk hz m_fu _ _ _ _ _ hF _ _ S _ (lv_sub hl [1, 0] rfl)
  · rw [if_neg c_3] at hF
    refine lv_iconst (v := (-1)) hx hb d_Mod_answers_8 (by decide) ?_
    cases hF
    exact m_iret E S hz hr hlk d_Mod_answers_9
def f_Mod_root  (g : m_G) (a0 : Nat) (x1 : Int32) : Option (Int32 × m_G) :=
  m_bd (f_Mod_out g x1 64) fun v_2 g_1 =>
  if (v_2 : Int32) = 0 then
    m_gd (m_is g_1 a0 8) <|
    m_bd (f_Mod_linkAll g_1 a0) fun v_5 g_4 =>
    m_gd (m_is g_4 a0 8) <|
    m_bd (f_Mod_top g_4 a0 x1) fun v_7 g_6 =>
    some (v_7, g_6)
  else
    some ((-1), g_1)
set_option maxHeartbeats 1000000 in
set_option maxRecDepth 100000 in
theorem c_Mod_root (l : Launch) (D : va_G) (B : Nat) (K : Nat → ClassId)  (n : Nat) (g : m_G) (a0 : Nat) (x1 : Int32) (r : Int32) (g' : m_G) (hF : f_Mod_root g a0 x1 = some (r, g')) : Met l y_Mod_root (Cond.code y_Mod_root b_Mod_root 2 (some .int) :: m_TB) ({ frames := 2, cells := 0, slots := 0, locals := 48 } : Room) (m_Pc D B K n g [.ref (B + a0), .int x1]) (m_Q D B K (some (.int r)) n g') 0 0 (fun q => B ≤ q) := by
  refine m_met (by decide) (Nat.le_of_ble_eq_true rfl) ?_
  intro p e s m args below meth c ls E hr hlk hin hsz S hl
  have E : m_V p m c b_Mod_root 2 s args R_Mod D K := E
  have hz : s.heap.size + 0 = B + n := hsz
  have hl : lv_has ls 2 [(0, .ref (B + a0)), (1, .int x1)] := hl
  have hx := E.1.1
  have hb := E.1.2.1
  have hts := E.1.2.2.2.2
  unfold f_Mod_root at hF
  refine lv_iload_n hx hb d_Mod_root_0 rfl (lv_at hl 1 rfl) ?_
  refine lv_bipush (v := 64) hx hb d_Mod_root_1 (by decide) ?_
  replace hF := m_bd_inv hF
  obtain ⟨v_2, g_1, eg_1, hF⟩ := hF
  refine m_callS (B := B) (nn := 2) (As := [.int x1, .int 64]) (rest := []) (v := (some (.int v_2))) E S hz (c_Mod_out l D B K n g x1 64 v_2 g_1 eg_1) qc_Mod_out ⟨rfl, rfl⟩ (Or.inl qw_303) qw_305 qw_304 (by decide +kernel) ⟨Nat.le_of_ble_eq_true rfl, Nat.le_of_ble_eq_true rfl⟩ rfl hl.1 (Nat.le_of_ble_eq_true rfl) d_Mod_root_3 ⟨Nat.le_of_ble_eq_true rfl, Nat.le_of_ble_eq_true rfl⟩ (fun H locs S => ?_)
  refine W.eq (g2 := F0 m 6 ls [.int v_2]) rfl ?_
  refine lv_if_eq (tgt := 11) hx hb d_Mod_root_6 (by decide) (fun c_3 => ?_) (fun c_3 => ?_)
  · rw [if_pos c_3] at hF
    refine lv_aload_n hx hb d_Mod_root_11 rfl (lv_at hl 0 rfl) ?_
    replace hF := m_gd_inv hF
    obtain ⟨eog_4, hF⟩ := hF
    replace hF := m_bd_inv hF
    obtain ⟨v_5, g_4, eg_4, hF⟩ := hF
    refine m_callV (B := B) (nn := 0) (b := a0) (As := []) (rest := []) (v := none) E S hz (c_Mod_linkAll l D B K n g_1 a0 v_5 g_4 eg_4) qc_Mod_linkAll ⟨rfl, rfl⟩ (Or.inl qw_407) qw_408 qw_409 qw_304 (by decide +kernel) ⟨Nat.le_of_ble_eq_true rfl, Nat.le_of_ble_eq_true rfl⟩ eog_4 rfl rfl hl.1 (Nat.le_of_ble_eq_true rfl) d_Mod_root_12 ⟨Nat.le_of_ble_eq_true rfl, Nat.le_of_ble_eq_true rfl⟩ (fun H locs S => ?_)
    refine W.eq (g2 := F0 m 15 ls []) rfl ?_
    refine lv_aload_n hx hb d_Mod_root_15 rfl (lv_at hl 0 rfl) ?_
    refine lv_iload_n hx hb d_Mod_root_16 rfl (lv_at hl 1 rfl) ?_
    replace hF := m_gd_inv hF
    obtain ⟨eog_6, hF⟩ := hF
    replace hF := m_bd_inv hF
    obtain ⟨v_7, g_6, eg_6, hF⟩ := hF
    refine m_callV (B := B) (nn := 1) (b := a0) (As := [.int x1]) (rest := []) (v := (some (.int v_7))) E S hz (c_Mod_top l D B K n g_4 a0 x1 v_7 g_6 eg_6) qc_Mod_top ⟨rfl, rfl⟩ (Or.inl qw_410) qw_411 qw_412 qw_304 (by decide +kernel) ⟨Nat.le_of_ble_eq_true rfl, Nat.le_of_ble_eq_true rfl⟩ eog_6 rfl rfl hl.1 (Nat.le_of_ble_eq_true rfl) d_Mod_root_17 ⟨Nat.le_of_ble_eq_true rfl, Nat.le_of_ble_eq_true rfl⟩ (fun H locs S => ?_)
    refine W.eq (g2 := F0 m 20 ls [.int v_7]) rfl ?_
    cases hF
    exact m_iret E S hz hr hlk d_Mod_root_20
  · rw [if_neg c_3] at hF
    refine lv_iconst (v := (-1)) hx hb d_Mod_root_9 (by decide) ?_
    cases hF
    exact m_iret E S hz hr hlk d_Mod_root_10
section S_Mod_word
variable {p : Program} {l : Launch} {e : Env} {s : State} {m : MethodId} {args : Array Value} {below : List Frame} {meth : Method} {c : Code} {D : va_G} {B n : Nat} {K : Nat → ClassId}
def f_Mod_word_38   (g : m_G) (y0 : Int64) : Option (Int64 × m_G) :=
  some (y0, g)
set_option maxHeartbeats 1000000 in
set_option maxRecDepth 100000 in
theorem c_Mod_word_38 (E : m_V p m c b_Mod_word 3 s args R_Mod D K) (hr : meth.sig.returnType = (some .long)) (hlk : meth.locks = false) (hz : s.heap.size + 0 = B + n)   : ∀ (g : m_G) (y0 : Int64) (r : Int64) (g' : m_G), f_Mod_word_38 g y0 = some (r, g') → ∀ (H : Heap) (locs : List Loc), m_S D B K n g s.heap H locs → ∀ ls : Array Slot, lv_has ls 3 [] → W p l e ({ frames := 2, cells := 0, slots := 0, locals := 42 } : Room) s m args below meth c H locs 0 0 (MQ below (m_Q D B K (some (.long r)) n g') args s 0 0 (fun q => B ≤ q)) (F0 m 38 ls [.long y0]) := by
  have hx := E.1.1
  have hb := E.1.2.1
  have hts := E.1.2.2.2.2
  intro g y0 r g' hF H locs S ls hl
  unfold f_Mod_word_38 at hF
  cases hF
  exact m_lret E S hz hr hlk d_Mod_word_38
def f_Mod_word_21   (g : m_G)  : Option (Int64 × m_G) :=
  f_Mod_word_38 g (-1)
set_option maxHeartbeats 1000000 in
set_option maxRecDepth 100000 in
theorem c_Mod_word_21 (E : m_V p m c b_Mod_word 3 s args R_Mod D K) (hr : meth.sig.returnType = (some .long)) (hlk : meth.locks = false) (hz : s.heap.size + 0 = B + n)   : ∀ (g : m_G)  (r : Int64) (g' : m_G), f_Mod_word_21 g  = some (r, g') → ∀ (H : Heap) (locs : List Loc), m_S D B K n g s.heap H locs → ∀ ls : Array Slot, lv_has ls 3 [] → W p l e ({ frames := 2, cells := 0, slots := 0, locals := 42 } : Room) s m args below meth c H locs 0 0 (MQ below (m_Q D B K (some (.long r)) n g') args s 0 0 (fun q => B ≤ q)) (F0 m 21 ls []) := by
  have hx := E.1.1
  have hb := E.1.2.1
  have hts := E.1.2.2.2.2
  intro g  r g' hF H locs S ls hl
  unfold f_Mod_word_21 at hF
  refine lv_ldc2 (v := (-1)) hx hb E.1.2.2.2.1 (hts _ qw_416) d_Mod_word_21 ?_
  refine lv_goto (tgt := 38) hx hb d_Mod_word_24 (by decide) ?_
  exact c_Mod_word_38 E hr hlk hz _ _ _ _ hF _ _ S _ (lv_sub hl [] rfl)
end S_Mod_word
def f_Mod_word  (g : m_G) (a0 : Nat) (x1 : Int32) (x2 : Int32) : Option (Int64 × m_G) :=
  m_gd (m_is g a0 8) <|
  m_bd (f_Mod_noMessage g a0 x1) fun v_2 g_1 =>
  if (v_2 : Int32) = 0 then
    (m_gR g_1 a0 8 15).bind fun v_4 =>
    Option.bind v_4 fun a_5 =>
    (m_ld g_1 a_5 0 x1).bind fun v_6 =>
    m_bd (f_Mod_out g_1 x2 v_6) fun v_8 g_7 =>
    if (v_8 : Int32) = 0 then
      (m_gR g_7 a0 8 16).bind fun v_10 =>
      Option.bind v_10 fun a_11 =>
      (m_ldL g_7 a_11 2 ((50 * x1) + x2)).bind fun v_12 =>
      f_Mod_word_38 g_7 v_12
    else
      f_Mod_word_21 g_7 
  else
    f_Mod_word_21 g_1 
set_option maxHeartbeats 1000000 in
set_option maxRecDepth 100000 in
theorem c_Mod_word (l : Launch) (D : va_G) (B : Nat) (K : Nat → ClassId)  (n : Nat) (g : m_G) (a0 : Nat) (x1 : Int32) (x2 : Int32) (r : Int64) (g' : m_G) (hF : f_Mod_word g a0 x1 x2 = some (r, g')) : Met l y_Mod_word (Cond.code y_Mod_word b_Mod_word 3 (some .long) :: m_TB) ({ frames := 2, cells := 0, slots := 0, locals := 42 } : Room) (m_Pc D B K n g [.ref (B + a0), .int x1, .int x2]) (m_Q D B K (some (.long r)) n g') 0 0 (fun q => B ≤ q) := by
  refine m_met (by decide) (Nat.le_of_ble_eq_true rfl) ?_
  intro p e s m args below meth c ls E hr hlk hin hsz S hl
  have E : m_V p m c b_Mod_word 3 s args R_Mod D K := E
  have hz : s.heap.size + 0 = B + n := hsz
  have hl : lv_has ls 3 [(0, .ref (B + a0)), (1, .int x1), (2, .int x2)] := hl
  have hx := E.1.1
  have hb := E.1.2.1
  have hts := E.1.2.2.2.2
  unfold f_Mod_word at hF
  refine lv_aload_n hx hb d_Mod_word_0 rfl (lv_at hl 0 rfl) ?_
  refine lv_iload_n hx hb d_Mod_word_1 rfl (lv_at hl 1 rfl) ?_
  replace hF := m_gd_inv hF
  obtain ⟨eog_1, hF⟩ := hF
  replace hF := m_bd_inv hF
  obtain ⟨v_2, g_1, eg_1, hF⟩ := hF
  refine m_callV (B := B) (nn := 1) (b := a0) (As := [.int x1]) (rest := []) (v := (some (.int v_2))) E S hz (c_Mod_noMessage l D B K n g a0 x1 v_2 g_1 eg_1) qc_Mod_noMessage ⟨rfl, rfl⟩ (Or.inl qw_357) qw_358 qw_359 qw_304 (by decide +kernel) ⟨Nat.le_of_ble_eq_true rfl, Nat.le_of_ble_eq_true rfl⟩ eog_1 rfl rfl hl.1 (Nat.le_of_ble_eq_true rfl) d_Mod_word_2 ⟨Nat.le_of_ble_eq_true rfl, Nat.le_of_ble_eq_true rfl⟩ (fun H locs S => ?_)
  refine W.eq (g2 := F0 m 5 ls [.int v_2]) rfl ?_
  refine lv_if_ne (tgt := 21) hx hb d_Mod_word_5 (by decide) (fun c_3 => ?_) (fun c_3 => ?_)
  · rw [if_neg c_3] at hF
    exact c_Mod_word_21 E hr hlk hz _ _ _ hF _ _ S _ (lv_sub hl [] rfl)
  · rw [if_pos c_3] at hF
    refine lv_iload_n hx hb d_Mod_word_8 rfl (lv_at hl 2 rfl) ?_
    refine lv_aload_n hx hb d_Mod_word_9 rfl (lv_at hl 0 rfl) ?_
    replace hF := Option.bind_eq_some_iff.mp hF
    obtain ⟨v_4, ev_4, hF⟩ := hF
    refine m_getR (B := B) (a := a0) E S fd_Mod_words (Or.inl qw_296) ev_4 d_Mod_word_10 ?_
    refine lv_iload_n hx hb d_Mod_word_13 rfl (lv_at hl 1 rfl) ?_
    replace hF := Option.bind_eq_some_iff.mp hF
    obtain ⟨a_5, ea_5, hF⟩ := hF
    subst ea_5
    replace hF := Option.bind_eq_some_iff.mp hF
    obtain ⟨v_6, ev_6, hF⟩ := hF
    refine m_iald (B := B) (a := a_5) (t := 0) E S rfl ev_6 d_Mod_word_14 ?_
    replace hF := m_bd_inv hF
    obtain ⟨v_8, g_7, eg_7, hF⟩ := hF
    refine m_callS (B := B) (nn := 2) (As := [.int x2, .int v_6]) (rest := []) (v := (some (.int v_8))) E S hz (c_Mod_out l D B K n g_1 x2 v_6 v_8 g_7 eg_7) qc_Mod_out ⟨rfl, rfl⟩ (Or.inl qw_303) qw_305 qw_304 (by decide +kernel) ⟨Nat.le_of_ble_eq_true rfl, Nat.le_of_ble_eq_true rfl⟩ rfl hl.1 (Nat.le_of_ble_eq_true rfl) d_Mod_word_15 ⟨Nat.le_of_ble_eq_true rfl, Nat.le_of_ble_eq_true rfl⟩ (fun H locs S => ?_)
    refine W.eq (g2 := F0 m 18 ls [.int v_8]) rfl ?_
    refine lv_if_eq (tgt := 27) hx hb d_Mod_word_18 (by decide) (fun c_9 => ?_) (fun c_9 => ?_)
    · rw [if_pos c_9] at hF
      refine lv_aload_n hx hb d_Mod_word_27 rfl (lv_at hl 0 rfl) ?_
      replace hF := Option.bind_eq_some_iff.mp hF
      obtain ⟨v_10, ev_10, hF⟩ := hF
      refine m_getR (B := B) (a := a0) E S fd_Mod_codes (Or.inl qw_297) ev_10 d_Mod_word_28 ?_
      refine lv_bipush (v := 50) hx hb d_Mod_word_31 (by decide) ?_
      refine lv_iload_n hx hb d_Mod_word_33 rfl (lv_at hl 1 rfl) ?_
      refine lv_imul hx hb d_Mod_word_34 ?_
      refine lv_iload_n hx hb d_Mod_word_35 rfl (lv_at hl 2 rfl) ?_
      refine lv_iadd hx hb d_Mod_word_36 ?_
      replace hF := Option.bind_eq_some_iff.mp hF
      obtain ⟨a_11, ea_11, hF⟩ := hF
      subst ea_11
      replace hF := Option.bind_eq_some_iff.mp hF
      obtain ⟨v_12, ev_12, hF⟩ := hF
      refine m_lald (B := B) (a := a_11) (t := 2) E S rfl ev_12 d_Mod_word_37 ?_
      exact c_Mod_word_38 E hr hlk hz _ _ _ _ hF _ _ S _ (lv_sub hl [] rfl)
    · rw [if_neg c_9] at hF
      exact c_Mod_word_21 E hr hlk hz _ _ _ hF _ _ S _ (lv_sub hl [] rfl)
section S_Mod_field
variable {p : Program} {l : Launch} {e : Env} {s : State} {m : MethodId} {args : Array Value} {below : List Frame} {meth : Method} {c : Code} {D : va_G} {B n : Nat} {K : Nat → ClassId}
def f_Mod_field_36   (g : m_G) (y0 : Int32) : Option (Int32 × m_G) :=
  some (y0, g)
set_option maxHeartbeats 1000000 in
set_option maxRecDepth 100000 in
theorem c_Mod_field_36 (E : m_V p m c b_Mod_field 3 s args R_Mod D K) (hr : meth.sig.returnType = (some .int)) (hlk : meth.locks = false) (hz : s.heap.size + 0 = B + n)   : ∀ (g : m_G) (y0 : Int32) (r : Int32) (g' : m_G), f_Mod_field_36 g y0 = some (r, g') → ∀ (H : Heap) (locs : List Loc), m_S D B K n g s.heap H locs → ∀ ls : Array Slot, lv_has ls 3 [] → W p l e ({ frames := 2, cells := 0, slots := 0, locals := 42 } : Room) s m args below meth c H locs 0 0 (MQ below (m_Q D B K (some (.int r)) n g') args s 0 0 (fun q => B ≤ q)) (F0 m 36 ls [.int y0]) := by
  have hx := E.1.1
  have hb := E.1.2.1
  have hts := E.1.2.2.2.2
  intro g y0 r g' hF H locs S ls hl
  unfold f_Mod_field_36 at hF
  cases hF
  exact m_iret E S hz hr hlk d_Mod_field_36
def f_Mod_field_21   (g : m_G)  : Option (Int32 × m_G) :=
  f_Mod_field_36 g (-1)
set_option maxHeartbeats 1000000 in
set_option maxRecDepth 100000 in
theorem c_Mod_field_21 (E : m_V p m c b_Mod_field 3 s args R_Mod D K) (hr : meth.sig.returnType = (some .int)) (hlk : meth.locks = false) (hz : s.heap.size + 0 = B + n)   : ∀ (g : m_G)  (r : Int32) (g' : m_G), f_Mod_field_21 g  = some (r, g') → ∀ (H : Heap) (locs : List Loc), m_S D B K n g s.heap H locs → ∀ ls : Array Slot, lv_has ls 3 [] → W p l e ({ frames := 2, cells := 0, slots := 0, locals := 42 } : Room) s m args below meth c H locs 0 0 (MQ below (m_Q D B K (some (.int r)) n g') args s 0 0 (fun q => B ≤ q)) (F0 m 21 ls []) := by
  have hx := E.1.1
  have hb := E.1.2.1
  have hts := E.1.2.2.2.2
  intro g  r g' hF H locs S ls hl
  unfold f_Mod_field_21 at hF
  refine lv_iconst (v := (-1)) hx hb d_Mod_field_21 (by decide) ?_
  refine lv_goto (tgt := 36) hx hb d_Mod_field_22 (by decide) ?_
  exact c_Mod_field_36 E hr hlk hz _ _ _ _ hF _ _ S _ (lv_sub hl [] rfl)
end S_Mod_field
def f_Mod_field  (g : m_G) (a0 : Nat) (x1 : Int32) (x2 : Int32) : Option (Int32 × m_G) :=
  m_gd (m_is g a0 8) <|
  m_bd (f_Mod_noMessage g a0 x1) fun v_2 g_1 =>
  if (v_2 : Int32) = 0 then
    (m_gR g_1 a0 8 15).bind fun v_4 =>
    Option.bind v_4 fun a_5 =>
    (m_ld g_1 a_5 0 x1).bind fun v_6 =>
    m_bd (f_Mod_out g_1 x2 v_6) fun v_8 g_7 =>
    if (v_8 : Int32) = 0 then
      (m_gR g_7 a0 8 17).bind fun v_10 =>
      Option.bind v_10 fun a_11 =>
      (m_ld g_7 a_11 0 ((50 * x1) + x2)).bind fun v_12 =>
      f_Mod_field_36 g_7 v_12
    else
      f_Mod_field_21 g_7 
  else
    f_Mod_field_21 g_1 
set_option maxHeartbeats 1000000 in
set_option maxRecDepth 100000 in
theorem c_Mod_field (l : Launch) (D : va_G) (B : Nat) (K : Nat → ClassId)  (n : Nat) (g : m_G) (a0 : Nat) (x1 : Int32) (x2 : Int32) (r : Int32) (g' : m_G) (hF : f_Mod_field g a0 x1 x2 = some (r, g')) : Met l y_Mod_field (Cond.code y_Mod_field b_Mod_field 3 (some .int) :: m_TB) ({ frames := 2, cells := 0, slots := 0, locals := 42 } : Room) (m_Pc D B K n g [.ref (B + a0), .int x1, .int x2]) (m_Q D B K (some (.int r)) n g') 0 0 (fun q => B ≤ q) := by
  refine m_met (by decide) (Nat.le_of_ble_eq_true rfl) ?_
  intro p e s m args below meth c ls E hr hlk hin hsz S hl
  have E : m_V p m c b_Mod_field 3 s args R_Mod D K := E
  have hz : s.heap.size + 0 = B + n := hsz
  have hl : lv_has ls 3 [(0, .ref (B + a0)), (1, .int x1), (2, .int x2)] := hl
  have hx := E.1.1
  have hb := E.1.2.1
  have hts := E.1.2.2.2.2
  unfold f_Mod_field at hF
  refine lv_aload_n hx hb d_Mod_field_0 rfl (lv_at hl 0 rfl) ?_
  refine lv_iload_n hx hb d_Mod_field_1 rfl (lv_at hl 1 rfl) ?_
  replace hF := m_gd_inv hF
  obtain ⟨eog_1, hF⟩ := hF
  replace hF := m_bd_inv hF
  obtain ⟨v_2, g_1, eg_1, hF⟩ := hF
  refine m_callV (B := B) (nn := 1) (b := a0) (As := [.int x1]) (rest := []) (v := (some (.int v_2))) E S hz (c_Mod_noMessage l D B K n g a0 x1 v_2 g_1 eg_1) qc_Mod_noMessage ⟨rfl, rfl⟩ (Or.inl qw_357) qw_358 qw_359 qw_304 (by decide +kernel) ⟨Nat.le_of_ble_eq_true rfl, Nat.le_of_ble_eq_true rfl⟩ eog_1 rfl rfl hl.1 (Nat.le_of_ble_eq_true rfl) d_Mod_field_2 ⟨Nat.le_of_ble_eq_true rfl, Nat.le_of_ble_eq_true rfl⟩ (fun H locs S => ?_)
  refine W.eq (g2 := F0 m 5 ls [.int v_2]) rfl ?_
  refine lv_if_ne (tgt := 21) hx hb d_Mod_field_5 (by decide) (fun c_3 => ?_) (fun c_3 => ?_)
  · rw [if_neg c_3] at hF
    exact c_Mod_field_21 E hr hlk hz _ _ _ hF _ _ S _ (lv_sub hl [] rfl)
  · rw [if_pos c_3] at hF
    refine lv_iload_n hx hb d_Mod_field_8 rfl (lv_at hl 2 rfl) ?_
    refine lv_aload_n hx hb d_Mod_field_9 rfl (lv_at hl 0 rfl) ?_
    replace hF := Option.bind_eq_some_iff.mp hF
    obtain ⟨v_4, ev_4, hF⟩ := hF
    refine m_getR (B := B) (a := a0) E S fd_Mod_words (Or.inl qw_296) ev_4 d_Mod_field_10 ?_
    refine lv_iload_n hx hb d_Mod_field_13 rfl (lv_at hl 1 rfl) ?_
    replace hF := Option.bind_eq_some_iff.mp hF
    obtain ⟨a_5, ea_5, hF⟩ := hF
    subst ea_5
    replace hF := Option.bind_eq_some_iff.mp hF
    obtain ⟨v_6, ev_6, hF⟩ := hF
    refine m_iald (B := B) (a := a_5) (t := 0) E S rfl ev_6 d_Mod_field_14 ?_
    replace hF := m_bd_inv hF
    obtain ⟨v_8, g_7, eg_7, hF⟩ := hF
    refine m_callS (B := B) (nn := 2) (As := [.int x2, .int v_6]) (rest := []) (v := (some (.int v_8))) E S hz (c_Mod_out l D B K n g_1 x2 v_6 v_8 g_7 eg_7) qc_Mod_out ⟨rfl, rfl⟩ (Or.inl qw_303) qw_305 qw_304 (by decide +kernel) ⟨Nat.le_of_ble_eq_true rfl, Nat.le_of_ble_eq_true rfl⟩ rfl hl.1 (Nat.le_of_ble_eq_true rfl) d_Mod_field_15 ⟨Nat.le_of_ble_eq_true rfl, Nat.le_of_ble_eq_true rfl⟩ (fun H locs S => ?_)
    refine W.eq (g2 := F0 m 18 ls [.int v_8]) rfl ?_
    refine lv_if_eq (tgt := 25) hx hb d_Mod_field_18 (by decide) (fun c_9 => ?_) (fun c_9 => ?_)
    · rw [if_pos c_9] at hF
      refine lv_aload_n hx hb d_Mod_field_25 rfl (lv_at hl 0 rfl) ?_
      replace hF := Option.bind_eq_some_iff.mp hF
      obtain ⟨v_10, ev_10, hF⟩ := hF
      refine m_getR (B := B) (a := a0) E S fd_Mod_fields (Or.inl qw_298) ev_10 d_Mod_field_26 ?_
      refine lv_bipush (v := 50) hx hb d_Mod_field_29 (by decide) ?_
      refine lv_iload_n hx hb d_Mod_field_31 rfl (lv_at hl 1 rfl) ?_
      refine lv_imul hx hb d_Mod_field_32 ?_
      refine lv_iload_n hx hb d_Mod_field_33 rfl (lv_at hl 2 rfl) ?_
      refine lv_iadd hx hb d_Mod_field_34 ?_
      replace hF := Option.bind_eq_some_iff.mp hF
      obtain ⟨a_11, ea_11, hF⟩ := hF
      subst ea_11
      replace hF := Option.bind_eq_some_iff.mp hF
      obtain ⟨v_12, ev_12, hF⟩ := hF
      refine m_iald (B := B) (a := a_11) (t := 0) E S rfl ev_12 d_Mod_field_35 ?_
      exact c_Mod_field_36 E hr hlk hz _ _ _ _ hF _ _ S _ (lv_sub hl [] rfl)
    · rw [if_neg c_9] at hF
      exact c_Mod_field_21 E hr hlk hz _ _ _ hF _ _ S _ (lv_sub hl [] rfl)
section S_Mod_fresh
variable {p : Program} {l : Launch} {e : Env} {s : State} {m : MethodId} {args : Array Value} {below : List Frame} {meth : Method} {c : Code} {D : va_G} {B n : Nat} {K : Nat → ClassId}
def f_Mod_fresh_63  (k_2 : m_G → Nat → Int32 → Int32 → Int32 → Option (Int32 × m_G)) (g : m_G) (a0 : Nat) (x1 : Int32) (x2 : Int32) (x3 : Int32) : Option (Int32 × m_G) :=
  k_2 g a0 x1 x2 (x3 + 1)
set_option maxHeartbeats 1000000 in
set_option maxRecDepth 100000 in
theorem c_Mod_fresh_63 (E : m_V p m c b_Mod_fresh 4 s args R_Mod D K) (hr : meth.sig.returnType = (some .boolean)) (hlk : meth.locks = false) (hz : s.heap.size + 0 = B + n)  (k_2 : m_G → Nat → Int32 → Int32 → Int32 → Option (Int32 × m_G)) (hk_2 : ∀ (g : m_G) (a0 : Nat) (x1 : Int32) (x2 : Int32) (x3 : Int32) (r : Int32) (g' : m_G), k_2 g a0 x1 x2 x3 = some (r, g') → ∀ (H : Heap) (locs : List Loc), m_S D B K n g s.heap H locs → ∀ ls : Array Slot, lv_has ls 4 [(0, .ref (B + a0)), (1, .int x1), (2, .int x2), (3, .int x3)] → W p l e ({ frames := 0, cells := 0, slots := 0, locals := 0 } : Room) s m args below meth c H locs 0 0 (MQ below (m_Q D B K (some (.int r)) n g') args s 0 0 (fun q => B ≤ q)) (F0 m 2 ls [])) : ∀ (g : m_G) (a0 : Nat) (x1 : Int32) (x2 : Int32) (x3 : Int32) (r : Int32) (g' : m_G), f_Mod_fresh_63 k_2 g a0 x1 x2 x3 = some (r, g') → ∀ (H : Heap) (locs : List Loc), m_S D B K n g s.heap H locs → ∀ ls : Array Slot, lv_has ls 4 [(0, .ref (B + a0)), (1, .int x1), (2, .int x2), (3, .int x3)] → W p l e ({ frames := 0, cells := 0, slots := 0, locals := 0 } : Room) s m args below meth c H locs 0 0 (MQ below (m_Q D B K (some (.int r)) n g') args s 0 0 (fun q => B ≤ q)) (F0 m 63 ls []) := by
  have hx := E.1.1
  have hb := E.1.2.1
  have hts := E.1.2.2.2.2
  intro g a0 x1 x2 x3 r g' hF H locs S ls hl
  unfold f_Mod_fresh_63 at hF
  refine lv_iinc (v := (x3 + 1)) (lv' := [(3, .int (x3 + 1)), (0, .ref (B + a0)), (1, .int x1), (2, .int x2)]) hx hb d_Mod_fresh_63 hl (k := 3) rfl rfl (by decide) rfl (fun ls hl => ?_)
  refine lv_goto (tgt := 2) hx hb d_Mod_fresh_66 (by decide) ?_
  exact hk_2 _ _ _ _ _ _ _ hF _ _ S _ (lv_sub hl [1, 2, 3, 0] rfl)
def f_Mod_fresh_2   : Nat → m_G → Nat → Int32 → Int32 → Int32 → Option (Int32 × m_G)
  | 0, _, _, _, _, _ => none
  | fu + 1, g, a0, x1, x2, x3 =>
    if (((50 * x1) + x2) : Int32) ≤ x3 then
      some (1, g)
    else
      (m_gR g a0 8 7).bind fun v_2 =>
      if (50 : Int32) = 0 then none else
      Option.bind v_2 fun a_4 =>
      (m_ld g a_4 3 (x3 / 50)).bind fun v_5 =>
      if (v_5 : Int32) = 0 then
        f_Mod_fresh_63 (f_Mod_fresh_2 fu) g a0 x1 x2 x3
      else
        if (50 : Int32) = 0 then none else
        (m_gR g a0 8 15).bind fun v_8 =>
        if (50 : Int32) = 0 then none else
        Option.bind v_8 fun a_10 =>
        (m_ld g a_10 0 (x3 / 50)).bind fun v_11 =>
        if (v_11 : Int32) ≤ (x3 - x3 / 50 * 50) then
          f_Mod_fresh_63 (f_Mod_fresh_2 fu) g a0 x1 x2 x3
        else
          (m_gR g a0 8 16).bind fun v_13 =>
          Option.bind v_13 fun a_14 =>
          (m_ldL g a_14 2 x3).bind fun v_15 =>
          (m_gR g a0 8 16).bind fun v_16 =>
          Option.bind v_16 fun a_17 =>
          (m_ldL g a_17 2 ((50 * x1) + x2)).bind fun v_18 =>
          if ((lg_cmp v_15 v_18) : Int32) = 0 then
            some (0, g)
          else
            f_Mod_fresh_63 (f_Mod_fresh_2 fu) g a0 x1 x2 x3
set_option maxHeartbeats 1000000 in
set_option maxRecDepth 100000 in
theorem c_Mod_fresh_2 (E : m_V p m c b_Mod_fresh 4 s args R_Mod D K) (hr : meth.sig.returnType = (some .boolean)) (hlk : meth.locks = false) (hz : s.heap.size + 0 = B + n)   : ∀ fu : Nat, ∀ (g : m_G) (a0 : Nat) (x1 : Int32) (x2 : Int32) (x3 : Int32) (r : Int32) (g' : m_G), f_Mod_fresh_2  fu g a0 x1 x2 x3 = some (r, g') → ∀ (H : Heap) (locs : List Loc), m_S D B K n g s.heap H locs → ∀ ls : Array Slot, lv_has ls 4 [(0, .ref (B + a0)), (1, .int x1), (2, .int x2), (3, .int x3)] → W p l e ({ frames := 0, cells := 0, slots := 0, locals := 0 } : Room) s m args below meth c H locs 0 0 (MQ below (m_Q D B K (some (.int r)) n g') args s 0 0 (fun q => B ≤ q)) (F0 m 2 ls []) := by
  have hx := E.1.1
  have hb := E.1.2.1
  have hts := E.1.2.2.2.2
  intro fu
  induction fu with
  | zero => intro g a0 x1 x2 x3 r g' hF; cases hF
  | succ fu ih =>
    intro g a0 x1 x2 x3 r g' hF H locs S ls hl
    rw [f_Mod_fresh_2] at hF
    refine lv_iload_n hx hb d_Mod_fresh_2 rfl (lv_at hl 3 rfl) ?_
    refine lv_bipush (v := 50) hx hb d_Mod_fresh_3 (by decide) ?_
    refine lv_iload_n hx hb d_Mod_fresh_5 rfl (lv_at hl 1 rfl) ?_
    refine lv_imul hx hb d_Mod_fresh_6 ?_
    refine lv_iload_n hx hb d_Mod_fresh_7 rfl (lv_at hl 2 rfl) ?_
    refine lv_iadd hx hb d_Mod_fresh_8 ?_
    refine lv_icmp_ge (tgt := 69) hx hb d_Mod_fresh_9 (by decide) (fun c_1 => ?_) (fun c_1 => ?_)
    · rw [if_pos c_1] at hF
      refine lv_iconst (v := 1) hx hb d_Mod_fresh_69 (by decide) ?_
      cases hF
      exact m_zret E S hz hr hlk (by decide) d_Mod_fresh_70
    · rw [if_neg c_1] at hF
      refine lv_aload_n hx hb d_Mod_fresh_12 rfl (lv_at hl 0 rfl) ?_
      replace hF := Option.bind_eq_some_iff.mp hF
      obtain ⟨v_2, ev_2, hF⟩ := hF
      refine m_getR (B := B) (a := a0) E S fd_Mod_there (Or.inl qw_289) ev_2 d_Mod_fresh_13 ?_
      refine lv_iload_n hx hb d_Mod_fresh_16 rfl (lv_at hl 3 rfl) ?_
      refine lv_bipush (v := 50) hx hb d_Mod_fresh_17 (by decide) ?_
      by_cases c_3 : (50 : Int32) = 0
      · rw [if_pos c_3] at hF
        cases hF
      rw [if_neg c_3] at hF
      refine lv_idiv hx hb d_Mod_fresh_19 c_3 ?_
      replace hF := Option.bind_eq_some_iff.mp hF
      obtain ⟨a_4, ea_4, hF⟩ := hF
      subst ea_4
      replace hF := Option.bind_eq_some_iff.mp hF
      obtain ⟨v_5, ev_5, hF⟩ := hF
      refine m_zald (B := B) (a := a_4) (t := 3) E S rfl ev_5 d_Mod_fresh_20 ?_
      refine lv_if_eq (tgt := 63) hx hb d_Mod_fresh_21 (by decide) (fun c_6 => ?_) (fun c_6 => ?_)
      · rw [if_pos c_6] at hF
        exact c_Mod_fresh_63 E hr hlk hz (f_Mod_fresh_2 fu) ih _ _ _ _ _ _ _ hF _ _ S _ (lv_sub hl [0, 1, 2, 3] rfl)
      · rw [if_neg c_6] at hF
        refine lv_iload_n hx hb d_Mod_fresh_24 rfl (lv_at hl 3 rfl) ?_
        refine lv_bipush (v := 50) hx hb d_Mod_fresh_25 (by decide) ?_
        by_cases c_7 : (50 : Int32) = 0
        · rw [if_pos c_7] at hF
          cases hF
        rw [if_neg c_7] at hF
        refine lv_irem hx hb d_Mod_fresh_27 c_7 ?_
        refine lv_aload_n hx hb d_Mod_fresh_28 rfl (lv_at hl 0 rfl) ?_
        replace hF := Option.bind_eq_some_iff.mp hF
        obtain ⟨v_8, ev_8, hF⟩ := hF
        refine m_getR (B := B) (a := a0) E S fd_Mod_words (Or.inl qw_296) ev_8 d_Mod_fresh_29 ?_
        refine lv_iload_n hx hb d_Mod_fresh_32 rfl (lv_at hl 3 rfl) ?_
        refine lv_bipush (v := 50) hx hb d_Mod_fresh_33 (by decide) ?_
        by_cases c_9 : (50 : Int32) = 0
        · rw [if_pos c_9] at hF
          cases hF
        rw [if_neg c_9] at hF
        refine lv_idiv hx hb d_Mod_fresh_35 c_9 ?_
        replace hF := Option.bind_eq_some_iff.mp hF
        obtain ⟨a_10, ea_10, hF⟩ := hF
        subst ea_10
        replace hF := Option.bind_eq_some_iff.mp hF
        obtain ⟨v_11, ev_11, hF⟩ := hF
        refine m_iald (B := B) (a := a_10) (t := 0) E S rfl ev_11 d_Mod_fresh_36 ?_
        refine lv_icmp_ge (tgt := 63) hx hb d_Mod_fresh_37 (by decide) (fun c_12 => ?_) (fun c_12 => ?_)
        · rw [if_pos c_12] at hF
          exact c_Mod_fresh_63 E hr hlk hz (f_Mod_fresh_2 fu) ih _ _ _ _ _ _ _ hF _ _ S _ (lv_sub hl [0, 1, 2, 3] rfl)
        · rw [if_neg c_12] at hF
          refine lv_aload_n hx hb d_Mod_fresh_40 rfl (lv_at hl 0 rfl) ?_
          replace hF := Option.bind_eq_some_iff.mp hF
          obtain ⟨v_13, ev_13, hF⟩ := hF
          refine m_getR (B := B) (a := a0) E S fd_Mod_codes (Or.inl qw_297) ev_13 d_Mod_fresh_41 ?_
          refine lv_iload_n hx hb d_Mod_fresh_44 rfl (lv_at hl 3 rfl) ?_
          replace hF := Option.bind_eq_some_iff.mp hF
          obtain ⟨a_14, ea_14, hF⟩ := hF
          subst ea_14
          replace hF := Option.bind_eq_some_iff.mp hF
          obtain ⟨v_15, ev_15, hF⟩ := hF
          refine m_lald (B := B) (a := a_14) (t := 2) E S rfl ev_15 d_Mod_fresh_45 ?_
          refine lv_aload_n hx hb d_Mod_fresh_46 rfl (lv_at hl 0 rfl) ?_
          replace hF := Option.bind_eq_some_iff.mp hF
          obtain ⟨v_16, ev_16, hF⟩ := hF
          refine m_getR (B := B) (a := a0) E S fd_Mod_codes (Or.inl qw_297) ev_16 d_Mod_fresh_47 ?_
          refine lv_bipush (v := 50) hx hb d_Mod_fresh_50 (by decide) ?_
          refine lv_iload_n hx hb d_Mod_fresh_52 rfl (lv_at hl 1 rfl) ?_
          refine lv_imul hx hb d_Mod_fresh_53 ?_
          refine lv_iload_n hx hb d_Mod_fresh_54 rfl (lv_at hl 2 rfl) ?_
          refine lv_iadd hx hb d_Mod_fresh_55 ?_
          replace hF := Option.bind_eq_some_iff.mp hF
          obtain ⟨a_17, ea_17, hF⟩ := hF
          subst ea_17
          replace hF := Option.bind_eq_some_iff.mp hF
          obtain ⟨v_18, ev_18, hF⟩ := hF
          refine m_lald (B := B) (a := a_17) (t := 2) E S rfl ev_18 d_Mod_fresh_56 ?_
          refine W.lcmp hx hb d_Mod_fresh_57 ?_
          refine lv_if_ne (tgt := 63) hx hb d_Mod_fresh_58 (by decide) (fun c_19 => ?_) (fun c_19 => ?_)
          · rw [if_neg c_19] at hF
            exact c_Mod_fresh_63 E hr hlk hz (f_Mod_fresh_2 fu) ih _ _ _ _ _ _ _ hF _ _ S _ (lv_sub hl [0, 1, 2, 3] rfl)
          · rw [if_pos c_19] at hF
            refine lv_iconst (v := 0) hx hb d_Mod_fresh_61 (by decide) ?_
            cases hF
            exact m_zret E S hz hr hlk (by decide) d_Mod_fresh_62
end S_Mod_fresh
def f_Mod_fresh  (g : m_G) (a0 : Nat) (x1 : Int32) (x2 : Int32) : Option (Int32 × m_G) :=
  f_Mod_fresh_2 m_fu g a0 x1 x2 0
set_option maxHeartbeats 1000000 in
set_option maxRecDepth 100000 in
theorem c_Mod_fresh (l : Launch) (D : va_G) (B : Nat) (K : Nat → ClassId)  (n : Nat) (g : m_G) (a0 : Nat) (x1 : Int32) (x2 : Int32) (r : Int32) (g' : m_G) (hF : f_Mod_fresh g a0 x1 x2 = some (r, g')) : Met l y_Mod_fresh (Cond.code y_Mod_fresh b_Mod_fresh 4 (some .boolean) :: m_TB) ({ frames := 0, cells := 0, slots := 0, locals := 0 } : Room) (m_Pc D B K n g [.ref (B + a0), .int x1, .int x2]) (m_Q D B K (some (.int r)) n g') 0 0 (fun q => B ≤ q) := by
  refine m_met (by decide) (Nat.le_of_ble_eq_true rfl) ?_
  intro p e s m args below meth c ls E hr hlk hin hsz S hl
  have E : m_V p m c b_Mod_fresh 4 s args R_Mod D K := E
  have hz : s.heap.size + 0 = B + n := hsz
  have hl : lv_has ls 4 [(0, .ref (B + a0)), (1, .int x1), (2, .int x2)] := hl
  have hx := E.1.1
  have hb := E.1.2.1
  have hts := E.1.2.2.2.2
  unfold f_Mod_fresh at hF
  refine lv_iconst (v := 0) hx hb d_Mod_fresh_0 (by decide) ?_
  refine lv_istore_n (lv' := [(3, .int 0), (0, .ref (B + a0)), (1, .int x1), (2, .int x2)]) hx hb d_Mod_fresh_1 rfl hl (by decide) rfl (fun ls hl => ?_)
  exact c_Mod_fresh_2 E hr hlk hz m_fu _ _ _ _ _ _ _ hF _ _ S _ (lv_sub hl [1, 2, 3, 0] rfl)
section S_Mod_different
variable {p : Program} {l : Launch} {e : Env} {s : State} {m : MethodId} {args : Array Value} {below : List Frame} {meth : Method} {c : Code} {D : va_G} {B n : Nat} {K : Nat → ClassId}
def f_Mod_different_52  (k_4 : m_G → Nat → Int32 → Int32 → Option (Int32 × m_G)) (g : m_G) (a0 : Nat) (x1 : Int32) (x2 : Int32) : Option (Int32 × m_G) :=
  k_4 g a0 x1 (x2 + 1)
set_option maxHeartbeats 1000000 in
set_option maxRecDepth 100000 in
theorem c_Mod_different_52 (E : m_V p m c b_Mod_different 4 s args R_Mod D K) (hr : meth.sig.returnType = (some .int)) (hlk : meth.locks = false) (hz : s.heap.size + 0 = B + n)  (k_4 : m_G → Nat → Int32 → Int32 → Option (Int32 × m_G)) (hk_4 : ∀ (g : m_G) (a0 : Nat) (x1 : Int32) (x2 : Int32) (r : Int32) (g' : m_G), k_4 g a0 x1 x2 = some (r, g') → ∀ (H : Heap) (locs : List Loc), m_S D B K n g s.heap H locs → ∀ ls : Array Slot, lv_has ls 4 [(0, .ref (B + a0)), (1, .int x1), (2, .int x2)] → W p l e ({ frames := 1, cells := 0, slots := 0, locals := 23 } : Room) s m args below meth c H locs 0 0 (MQ below (m_Q D B K (some (.int r)) n g') args s 0 0 (fun q => B ≤ q)) (F0 m 4 ls [])) : ∀ (g : m_G) (a0 : Nat) (x1 : Int32) (x2 : Int32) (r : Int32) (g' : m_G), f_Mod_different_52 k_4 g a0 x1 x2 = some (r, g') → ∀ (H : Heap) (locs : List Loc), m_S D B K n g s.heap H locs → ∀ ls : Array Slot, lv_has ls 4 [(0, .ref (B + a0)), (1, .int x1), (2, .int x2)] → W p l e ({ frames := 1, cells := 0, slots := 0, locals := 23 } : Room) s m args below meth c H locs 0 0 (MQ below (m_Q D B K (some (.int r)) n g') args s 0 0 (fun q => B ≤ q)) (F0 m 52 ls []) := by
  have hx := E.1.1
  have hb := E.1.2.1
  have hts := E.1.2.2.2.2
  intro g a0 x1 x2 r g' hF H locs S ls hl
  unfold f_Mod_different_52 at hF
  refine lv_iinc (v := (x2 + 1)) (lv' := [(2, .int (x2 + 1)), (0, .ref (B + a0)), (1, .int x1)]) hx hb d_Mod_different_52 hl (k := 2) rfl rfl (by decide) rfl (fun ls hl => ?_)
  refine lv_goto (tgt := 4) hx hb d_Mod_different_55 (by decide) ?_
  exact hk_4 _ _ _ _ _ _ hF _ _ S _ (lv_sub hl [1, 2, 0] rfl)
def f_Mod_different_46  (k_4 : m_G → Nat → Int32 → Int32 → Option (Int32 × m_G)) (k_24 : m_G → Nat → Int32 → Int32 → Int32 → Option (Int32 × m_G)) (g : m_G) (a0 : Nat) (x1 : Int32) (x2 : Int32) (x3 : Int32) : Option (Int32 × m_G) :=
  k_24 g a0 x1 x2 (x3 + 1)
set_option maxHeartbeats 1000000 in
set_option maxRecDepth 100000 in
theorem c_Mod_different_46 (E : m_V p m c b_Mod_different 4 s args R_Mod D K) (hr : meth.sig.returnType = (some .int)) (hlk : meth.locks = false) (hz : s.heap.size + 0 = B + n)  (k_4 : m_G → Nat → Int32 → Int32 → Option (Int32 × m_G)) (hk_4 : ∀ (g : m_G) (a0 : Nat) (x1 : Int32) (x2 : Int32) (r : Int32) (g' : m_G), k_4 g a0 x1 x2 = some (r, g') → ∀ (H : Heap) (locs : List Loc), m_S D B K n g s.heap H locs → ∀ ls : Array Slot, lv_has ls 4 [(0, .ref (B + a0)), (1, .int x1), (2, .int x2)] → W p l e ({ frames := 1, cells := 0, slots := 0, locals := 23 } : Room) s m args below meth c H locs 0 0 (MQ below (m_Q D B K (some (.int r)) n g') args s 0 0 (fun q => B ≤ q)) (F0 m 4 ls [])) (k_24 : m_G → Nat → Int32 → Int32 → Int32 → Option (Int32 × m_G)) (hk_24 : ∀ (g : m_G) (a0 : Nat) (x1 : Int32) (x2 : Int32) (x3 : Int32) (r : Int32) (g' : m_G), k_24 g a0 x1 x2 x3 = some (r, g') → ∀ (H : Heap) (locs : List Loc), m_S D B K n g s.heap H locs → ∀ ls : Array Slot, lv_has ls 4 [(0, .ref (B + a0)), (1, .int x1), (2, .int x2), (3, .int x3)] → W p l e ({ frames := 1, cells := 0, slots := 0, locals := 23 } : Room) s m args below meth c H locs 0 0 (MQ below (m_Q D B K (some (.int r)) n g') args s 0 0 (fun q => B ≤ q)) (F0 m 24 ls [])) : ∀ (g : m_G) (a0 : Nat) (x1 : Int32) (x2 : Int32) (x3 : Int32) (r : Int32) (g' : m_G), f_Mod_different_46 k_4 k_24 g a0 x1 x2 x3 = some (r, g') → ∀ (H : Heap) (locs : List Loc), m_S D B K n g s.heap H locs → ∀ ls : Array Slot, lv_has ls 4 [(0, .ref (B + a0)), (1, .int x1), (2, .int x2), (3, .int x3)] → W p l e ({ frames := 1, cells := 0, slots := 0, locals := 23 } : Room) s m args below meth c H locs 0 0 (MQ below (m_Q D B K (some (.int r)) n g') args s 0 0 (fun q => B ≤ q)) (F0 m 46 ls []) := by
  have hx := E.1.1
  have hb := E.1.2.1
  have hts := E.1.2.2.2.2
  intro g a0 x1 x2 x3 r g' hF H locs S ls hl
  unfold f_Mod_different_46 at hF
  refine lv_iinc (v := (x3 + 1)) (lv' := [(3, .int (x3 + 1)), (0, .ref (B + a0)), (1, .int x1), (2, .int x2)]) hx hb d_Mod_different_46 hl (k := 3) rfl rfl (by decide) rfl (fun ls hl => ?_)
  refine lv_goto (tgt := 24) hx hb d_Mod_different_49 (by decide) ?_
  exact hk_24 _ _ _ _ _ _ _ hF _ _ S _ (lv_sub hl [1, 2, 3, 0] rfl)
def f_Mod_different_24  (k_4 : m_G → Nat → Int32 → Int32 → Option (Int32 × m_G)) : Nat → m_G → Nat → Int32 → Int32 → Int32 → Option (Int32 × m_G)
  | 0, _, _, _, _, _ => none
  | fu + 1, g, a0, x1, x2, x3 =>
    (m_gR g a0 8 15).bind fun v_1 =>
    Option.bind v_1 fun a_2 =>
    (m_ld g a_2 0 x2).bind fun v_3 =>
    if (v_3 : Int32) ≤ x3 then
      f_Mod_different_52 k_4 g a0 x1 x2
    else
      m_gd (m_is g a0 8) <|
      m_bd (f_Mod_fresh g a0 x2 x3) fun v_6 g_5 =>
      if (v_6 : Int32) = 0 then
        f_Mod_different_46 k_4 (f_Mod_different_24 k_4 fu) g_5 a0 x1 x2 x3
      else
        f_Mod_different_46 k_4 (f_Mod_different_24 k_4 fu) g_5 a0 (x1 + 1) x2 x3
set_option maxHeartbeats 1000000 in
set_option maxRecDepth 100000 in
theorem c_Mod_different_24 (E : m_V p m c b_Mod_different 4 s args R_Mod D K) (hr : meth.sig.returnType = (some .int)) (hlk : meth.locks = false) (hz : s.heap.size + 0 = B + n)  (k_4 : m_G → Nat → Int32 → Int32 → Option (Int32 × m_G)) (hk_4 : ∀ (g : m_G) (a0 : Nat) (x1 : Int32) (x2 : Int32) (r : Int32) (g' : m_G), k_4 g a0 x1 x2 = some (r, g') → ∀ (H : Heap) (locs : List Loc), m_S D B K n g s.heap H locs → ∀ ls : Array Slot, lv_has ls 4 [(0, .ref (B + a0)), (1, .int x1), (2, .int x2)] → W p l e ({ frames := 1, cells := 0, slots := 0, locals := 23 } : Room) s m args below meth c H locs 0 0 (MQ below (m_Q D B K (some (.int r)) n g') args s 0 0 (fun q => B ≤ q)) (F0 m 4 ls [])) : ∀ fu : Nat, ∀ (g : m_G) (a0 : Nat) (x1 : Int32) (x2 : Int32) (x3 : Int32) (r : Int32) (g' : m_G), f_Mod_different_24 k_4 fu g a0 x1 x2 x3 = some (r, g') → ∀ (H : Heap) (locs : List Loc), m_S D B K n g s.heap H locs → ∀ ls : Array Slot, lv_has ls 4 [(0, .ref (B + a0)), (1, .int x1), (2, .int x2), (3, .int x3)] → W p l e ({ frames := 1, cells := 0, slots := 0, locals := 23 } : Room) s m args below meth c H locs 0 0 (MQ below (m_Q D B K (some (.int r)) n g') args s 0 0 (fun q => B ≤ q)) (F0 m 24 ls []) := by
  have hx := E.1.1
  have hb := E.1.2.1
  have hts := E.1.2.2.2.2
  intro fu
  induction fu with
  | zero => intro g a0 x1 x2 x3 r g' hF; cases hF
  | succ fu ih =>
    intro g a0 x1 x2 x3 r g' hF H locs S ls hl
    rw [f_Mod_different_24] at hF
    refine lv_iload_n hx hb d_Mod_different_24 rfl (lv_at hl 3 rfl) ?_
    refine lv_aload_n hx hb d_Mod_different_25 rfl (lv_at hl 0 rfl) ?_
    replace hF := Option.bind_eq_some_iff.mp hF
    obtain ⟨v_1, ev_1, hF⟩ := hF
    refine m_getR (B := B) (a := a0) E S fd_Mod_words (Or.inl qw_296) ev_1 d_Mod_different_26 ?_
    refine lv_iload_n hx hb d_Mod_different_29 rfl (lv_at hl 2 rfl) ?_
    replace hF := Option.bind_eq_some_iff.mp hF
    obtain ⟨a_2, ea_2, hF⟩ := hF
    subst ea_2
    replace hF := Option.bind_eq_some_iff.mp hF
    obtain ⟨v_3, ev_3, hF⟩ := hF
    refine m_iald (B := B) (a := a_2) (t := 0) E S rfl ev_3 d_Mod_different_30 ?_
    refine lv_icmp_ge (tgt := 52) hx hb d_Mod_different_31 (by decide) (fun c_4 => ?_) (fun c_4 => ?_)
    · rw [if_pos c_4] at hF
      exact c_Mod_different_52 E hr hlk hz k_4 hk_4 _ _ _ _ _ _ hF _ _ S _ (lv_sub hl [0, 1, 2] rfl)
    · rw [if_neg c_4] at hF
      refine lv_aload_n hx hb d_Mod_different_34 rfl (lv_at hl 0 rfl) ?_
      refine lv_iload_n hx hb d_Mod_different_35 rfl (lv_at hl 2 rfl) ?_
      refine lv_iload_n hx hb d_Mod_different_36 rfl (lv_at hl 3 rfl) ?_
      replace hF := m_gd_inv hF
      obtain ⟨eog_5, hF⟩ := hF
      replace hF := m_bd_inv hF
      obtain ⟨v_6, g_5, eg_5, hF⟩ := hF
      refine m_callV (B := B) (nn := 2) (b := a0) (As := [.int x2, .int x3]) (rest := []) (v := (some (.int v_6))) E S hz (c_Mod_fresh l D B K n g a0 x2 x3 v_6 g_5 eg_5) qc_Mod_fresh ⟨rfl, rfl⟩ (Or.inl qw_417) qw_418 qw_419 qw_304 (by decide +kernel) ⟨Nat.le_of_ble_eq_true rfl, Nat.le_of_ble_eq_true rfl⟩ eog_5 rfl rfl hl.1 (Nat.le_of_ble_eq_true rfl) d_Mod_different_37 ⟨Nat.le_of_ble_eq_true rfl, Nat.le_of_ble_eq_true rfl⟩ (fun H locs S => ?_)
      refine W.eq (g2 := F0 m 40 ls [.int v_6]) rfl ?_
      refine lv_if_eq (tgt := 46) hx hb d_Mod_different_40 (by decide) (fun c_7 => ?_) (fun c_7 => ?_)
      · rw [if_pos c_7] at hF
        exact c_Mod_different_46 E hr hlk hz k_4 hk_4 (f_Mod_different_24 k_4 fu) ih _ _ _ _ _ _ _ hF _ _ S _ (lv_sub hl [0, 1, 2, 3] rfl)
      · rw [if_neg c_7] at hF
        refine lv_iinc (v := (x1 + 1)) (lv' := [(1, .int (x1 + 1)), (0, .ref (B + a0)), (2, .int x2), (3, .int x3)]) hx hb d_Mod_different_43 hl (k := 1) rfl rfl (by decide) rfl (fun ls hl => ?_)
        exact c_Mod_different_46 E hr hlk hz k_4 hk_4 (f_Mod_different_24 k_4 fu) ih _ _ _ _ _ _ _ hF _ _ S _ (lv_sub hl [1, 0, 2, 3] rfl)
def f_Mod_different_4   : Nat → m_G → Nat → Int32 → Int32 → Option (Int32 × m_G)
  | 0, _, _, _, _ => none
  | fu + 1, g, a0, x1, x2 =>
    if (12 : Int32) ≤ x2 then
      some (x1, g)
    else
      (m_gR g a0 8 7).bind fun v_2 =>
      Option.bind v_2 fun a_3 =>
      (m_ld g a_3 3 x2).bind fun v_4 =>
      if (v_4 : Int32) = 0 then
        f_Mod_different_52 (f_Mod_different_4 fu) g a0 x1 x2
      else
        f_Mod_different_24 (f_Mod_different_4 fu) m_fu g a0 x1 x2 0
set_option maxHeartbeats 1000000 in
set_option maxRecDepth 100000 in
theorem c_Mod_different_4 (E : m_V p m c b_Mod_different 4 s args R_Mod D K) (hr : meth.sig.returnType = (some .int)) (hlk : meth.locks = false) (hz : s.heap.size + 0 = B + n)   : ∀ fu : Nat, ∀ (g : m_G) (a0 : Nat) (x1 : Int32) (x2 : Int32) (r : Int32) (g' : m_G), f_Mod_different_4  fu g a0 x1 x2 = some (r, g') → ∀ (H : Heap) (locs : List Loc), m_S D B K n g s.heap H locs → ∀ ls : Array Slot, lv_has ls 4 [(0, .ref (B + a0)), (1, .int x1), (2, .int x2)] → W p l e ({ frames := 1, cells := 0, slots := 0, locals := 23 } : Room) s m args below meth c H locs 0 0 (MQ below (m_Q D B K (some (.int r)) n g') args s 0 0 (fun q => B ≤ q)) (F0 m 4 ls []) := by
  have hx := E.1.1
  have hb := E.1.2.1
  have hts := E.1.2.2.2.2
  intro fu
  induction fu with
  | zero => intro g a0 x1 x2 r g' hF; cases hF
  | succ fu ih =>
    intro g a0 x1 x2 r g' hF H locs S ls hl
    rw [f_Mod_different_4] at hF
    refine lv_iload_n hx hb d_Mod_different_4 rfl (lv_at hl 2 rfl) ?_
    refine lv_bipush (v := 12) hx hb d_Mod_different_5 (by decide) ?_
    refine lv_icmp_ge (tgt := 58) hx hb d_Mod_different_7 (by decide) (fun c_1 => ?_) (fun c_1 => ?_)
    · rw [if_pos c_1] at hF
      refine lv_iload_n hx hb d_Mod_different_58 rfl (lv_at hl 1 rfl) ?_
      cases hF
      exact m_iret E S hz hr hlk d_Mod_different_59
    · rw [if_neg c_1] at hF
      refine lv_aload_n hx hb d_Mod_different_10 rfl (lv_at hl 0 rfl) ?_
      replace hF := Option.bind_eq_some_iff.mp hF
      obtain ⟨v_2, ev_2, hF⟩ := hF
      refine m_getR (B := B) (a := a0) E S fd_Mod_there (Or.inl qw_289) ev_2 d_Mod_different_11 ?_
      refine lv_iload_n hx hb d_Mod_different_14 rfl (lv_at hl 2 rfl) ?_
      replace hF := Option.bind_eq_some_iff.mp hF
      obtain ⟨a_3, ea_3, hF⟩ := hF
      subst ea_3
      replace hF := Option.bind_eq_some_iff.mp hF
      obtain ⟨v_4, ev_4, hF⟩ := hF
      refine m_zald (B := B) (a := a_3) (t := 3) E S rfl ev_4 d_Mod_different_15 ?_
      refine lv_if_ne (tgt := 22) hx hb d_Mod_different_16 (by decide) (fun c_5 => ?_) (fun c_5 => ?_)
      · rw [if_neg c_5] at hF
        refine lv_iconst (v := 0) hx hb d_Mod_different_22 (by decide) ?_
        refine lv_istore_n (lv' := [(3, .int 0), (0, .ref (B + a0)), (1, .int x1), (2, .int x2)]) hx hb d_Mod_different_23 rfl hl (by decide) rfl (fun ls hl => ?_)
        exact c_Mod_different_24 E hr hlk hz (f_Mod_different_4 fu) ih m_fu _ _ _ _ _ _ _ hF _ _ S _ (lv_sub hl [1, 2, 3, 0] rfl)
      · rw [if_pos c_5] at hF
        refine lv_goto (tgt := 52) hx hb d_Mod_different_19 (by decide) ?_
        exact c_Mod_different_52 E hr hlk hz (f_Mod_different_4 fu) ih _ _ _ _ _ _ hF _ _ S _ (lv_sub hl [0, 1, 2] rfl)
end S_Mod_different
def f_Mod_different  (g : m_G) (a0 : Nat) : Option (Int32 × m_G) :=
  f_Mod_different_4 m_fu g a0 0 0
set_option maxHeartbeats 1000000 in
set_option maxRecDepth 100000 in
theorem c_Mod_different (l : Launch) (D : va_G) (B : Nat) (K : Nat → ClassId)  (n : Nat) (g : m_G) (a0 : Nat) (r : Int32) (g' : m_G) (hF : f_Mod_different g a0 = some (r, g')) : Met l y_Mod_different (Cond.code y_Mod_different b_Mod_different 4 (some .int) :: m_TB) ({ frames := 1, cells := 0, slots := 0, locals := 23 } : Room) (m_Pc D B K n g [.ref (B + a0)]) (m_Q D B K (some (.int r)) n g') 0 0 (fun q => B ≤ q) := by
  refine m_met (by decide) (Nat.le_of_ble_eq_true rfl) ?_
  intro p e s m args below meth c ls E hr hlk hin hsz S hl
  have E : m_V p m c b_Mod_different 4 s args R_Mod D K := E
  have hz : s.heap.size + 0 = B + n := hsz
  have hl : lv_has ls 4 [(0, .ref (B + a0))] := hl
  have hx := E.1.1
  have hb := E.1.2.1
  have hts := E.1.2.2.2.2
  unfold f_Mod_different at hF
  refine lv_iconst (v := 0) hx hb d_Mod_different_0 (by decide) ?_
  refine lv_istore_n (lv' := [(1, .int 0), (0, .ref (B + a0))]) hx hb d_Mod_different_1 rfl hl (by decide) rfl (fun ls hl => ?_)
  refine lv_iconst (v := 0) hx hb d_Mod_different_2 (by decide) ?_
  refine lv_istore_n (lv' := [(2, .int 0), (1, .int 0), (0, .ref (B + a0))]) hx hb d_Mod_different_3 rfl hl (by decide) rfl (fun ls hl => ?_)
  exact c_Mod_different_4 E hr hlk hz m_fu _ _ _ _ _ _ hF _ _ S _ (lv_sub hl [2, 1, 0] rfl)
