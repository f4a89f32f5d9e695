section S_Mod_roots
variable {p : Program} {l : Launch} {e : Env} {s : State} {m : MethodId} {args : Array Value} {below : List Frame} {meth : Method} {c : Code} {D : va_G} {B n : Nat} {K : Nat → ClassId}
def f_Mod_roots_66  (k_8 : m_G → Nat → Int32 → Int32 → Option (Int32 × m_G)) (g : m_G) (a0 : Nat) (x1 : Int32) (x2 : Int32) : Option (Int32 × m_G) :=
  k_8 g a0 x1 (x2 + 1)
set_option maxHeartbeats 1000000 in
set_option maxRecDepth 100000 in
theorem c_Mod_roots_66 (E : m_V p m c b_Mod_roots 5 s args R_Mod D K) (hr : meth.sig.returnType = (some .int)) (hlk : meth.locks = false) (hz : s.heap.size + 0 = B + n)  (k_8 : m_G → Nat → Int32 → Int32 → Option (Int32 × m_G)) (hk_8 : ∀ (g : m_G) (a0 : Nat) (x1 : Int32) (x2 : Int32) (r : Int32) (g' : m_G), k_8 g a0 x1 x2 = some (r, g') → ∀ (H : Heap) (locs : List Loc), m_S D B K n g s.heap H locs → ∀ ls : Array Slot, lv_has ls 5 [(0, .ref (B + a0)), (1, .int x1), (2, .int x2)] → W p l e ({ frames := 2, cells := 0, slots := 0, locals := 48 } : Room) s m args below meth c H locs 0 0 (MQ below (m_Q D B K (some (.int r)) n g') args s 0 0 (fun q => B ≤ q)) (F0 m 8 ls [])) : ∀ (g : m_G) (a0 : Nat) (x1 : Int32) (x2 : Int32) (r : Int32) (g' : m_G), f_Mod_roots_66 k_8 g a0 x1 x2 = some (r, g') → ∀ (H : Heap) (locs : List Loc), m_S D B K n g s.heap H locs → ∀ ls : Array Slot, lv_has ls 5 [(0, .ref (B + a0)), (1, .int x1), (2, .int x2)] → W p l e ({ frames := 2, cells := 0, slots := 0, locals := 48 } : Room) s m args below meth c H locs 0 0 (MQ below (m_Q D B K (some (.int r)) n g') args s 0 0 (fun q => B ≤ q)) (F0 m 66 ls []) := by
  have hx := E.1.1
  have hb := E.1.2.1
  have hts := E.1.2.2.2.2
  intro g a0 x1 x2 r g' hF H locs S ls hl
  unfold f_Mod_roots_66 at hF
  refine lv_iinc (v := (x2 + 1)) (lv' := [(2, .int (x2 + 1)), (0, .ref (B + a0)), (1, .int x1)]) hx hb d_Mod_roots_66 hl (k := 2) rfl rfl (by decide) rfl (fun ls hl => ?_)
  refine lv_goto (tgt := 8) hx hb d_Mod_roots_69 (by decide) ?_
  exact hk_8 _ _ _ _ _ _ hF _ _ S _ (lv_sub hl [1, 2, 0] rfl)
def f_Mod_roots_53  (k_8 : m_G → Nat → Int32 → Int32 → Option (Int32 × m_G)) (k_19 : m_G → Nat → Int32 → Int32 → Int32 → Int32 → Option (Int32 × m_G)) (g : m_G) (a0 : Nat) (x1 : Int32) (x2 : Int32) (x3 : Int32) (x4 : Int32) : Option (Int32 × m_G) :=
  k_19 g a0 x1 x2 x3 (x4 + 1)
set_option maxHeartbeats 1000000 in
set_option maxRecDepth 100000 in
theorem c_Mod_roots_53 (E : m_V p m c b_Mod_roots 5 s args R_Mod D K) (hr : meth.sig.returnType = (some .int)) (hlk : meth.locks = false) (hz : s.heap.size + 0 = B + n)  (k_8 : m_G → Nat → Int32 → Int32 → Option (Int32 × m_G)) (hk_8 : ∀ (g : m_G) (a0 : Nat) (x1 : Int32) (x2 : Int32) (r : Int32) (g' : m_G), k_8 g a0 x1 x2 = some (r, g') → ∀ (H : Heap) (locs : List Loc), m_S D B K n g s.heap H locs → ∀ ls : Array Slot, lv_has ls 5 [(0, .ref (B + a0)), (1, .int x1), (2, .int x2)] → W p l e ({ frames := 2, cells := 0, slots := 0, locals := 48 } : Room) s m args below meth c H locs 0 0 (MQ below (m_Q D B K (some (.int r)) n g') args s 0 0 (fun q => B ≤ q)) (F0 m 8 ls [])) (k_19 : m_G → Nat → Int32 → Int32 → Int32 → Int32 → Option (Int32 × m_G)) (hk_19 : ∀ (g : m_G) (a0 : Nat) (x1 : Int32) (x2 : Int32) (x3 : Int32) (x4 : Int32) (r : Int32) (g' : m_G), k_19 g a0 x1 x2 x3 x4 = some (r, g') → ∀ (H : Heap) (locs : List Loc), m_S D B K n g s.heap H locs → ∀ ls : Array Slot, lv_has ls 5 [(0, .ref (B + a0)), (1, .int x1), (2, .int x2), (3, .int x3), (4, .int x4)] → W p l e ({ frames := 2, cells := 0, slots := 0, locals := 48 } : Room) s m args below meth c H locs 0 0 (MQ below (m_Q D B K (some (.int r)) n g') args s 0 0 (fun q => B ≤ q)) (F0 m 19 ls [])) : ∀ (g : m_G) (a0 : Nat) (x1 : Int32) (x2 : Int32) (x3 : Int32) (x4 : Int32) (r : Int32) (g' : m_G), f_Mod_roots_53 k_8 k_19 g a0 x1 x2 x3 x4 = some (r, g') → ∀ (H : Heap) (locs : List Loc), m_S D B K n g s.heap H locs → ∀ ls : Array Slot, lv_has ls 5 [(0, .ref (B + a0)), (1, .int x1), (2, .int x2), (3, .int x3), (4, .int x4)] → W p l e ({ frames := 2, cells := 0, slots := 0, locals := 48 } : Room) s m args below meth c H locs 0 0 (MQ below (m_Q D B K (some (.int r)) n g') args s 0 0 (fun q => B ≤ q)) (F0 m 53 ls []) := by
  have hx := E.1.1
  have hb := E.1.2.1
  have hts := E.1.2.2.2.2
  intro g a0 x1 x2 x3 x4 r g' hF H locs S ls hl
  unfold f_Mod_roots_53 at hF
  refine lv_iinc (v := (x4 + 1)) (lv' := [(4, .int (x4 + 1)), (0, .ref (B + a0)), (1, .int x1), (2, .int x2), (3, .int x3)]) hx hb d_Mod_roots_53 hl (k := 4) rfl rfl (by decide) rfl (fun ls hl => ?_)
  refine lv_goto (tgt := 19) hx hb d_Mod_roots_56 (by decide) ?_
  exact hk_19 _ _ _ _ _ _ _ _ hF _ _ S _ (lv_sub hl [1, 2, 3, 4, 0] rfl)
def f_Mod_roots_19  (k_8 : m_G → Nat → Int32 → Int32 → Option (Int32 × m_G)) : Nat → m_G → Nat → Int32 → Int32 → Int32 → Int32 → Option (Int32 × m_G)
  | 0, _, _, _, _, _, _ => none
  | fu + 1, g, a0, x1, x2, x3, x4 =>
    if (12 : Int32) ≤ x4 then
      if (x3 : Int32) = 0 then
        f_Mod_roots_66 k_8 g a0 x1 x2
      else
        f_Mod_roots_66 k_8 g a0 (x1 + 1) x2
    else
      (m_gR g a0 8 7).bind fun v_3 =>
      Option.bind v_3 fun a_4 =>
      (m_ld g a_4 3 x4).bind fun v_5 =>
      if (v_5 : Int32) = 0 then
        f_Mod_roots_53 k_8 (f_Mod_roots_19 k_8 fu) g a0 x1 x2 x3 x4
      else
        (m_gR g a0 8 8).bind fun v_7 =>
        Option.bind v_7 fun a_8 =>
        (m_ld g a_8 0 x4).bind fun v_9 =>
        m_gd (m_is g a0 8) <|
        m_bd (f_Mod_top g a0 v_9) fun v_11 g_10 =>
        if (v_11 : Int32) = x2 then
          f_Mod_roots_53 k_8 (f_Mod_roots_19 k_8 fu) g_10 a0 x1 x2 1 x4
        else
          f_Mod_roots_53 k_8 (f_Mod_roots_19 k_8 fu) g_10 a0 x1 x2 x3 x4
set_option maxHeartbeats 1000000 in
set_option maxRecDepth 100000 in
theorem c_Mod_roots_19 (E : m_V p m c b_Mod_roots 5 s args R_Mod D K) (hr : meth.sig.returnType = (some .int)) (hlk : meth.locks = false) (hz : s.heap.size + 0 = B + n)  (k_8 : m_G → Nat → Int32 → Int32 → Option (Int32 × m_G)) (hk_8 : ∀ (g : m_G) (a0 : Nat) (x1 : Int32) (x2 : Int32) (r : Int32) (g' : m_G), k_8 g a0 x1 x2 = some (r, g') → ∀ (H : Heap) (locs : List Loc), m_S D B K n g s.heap H locs → ∀ ls : Array Slot, lv_has ls 5 [(0, .ref (B + a0)), (1, .int x1), (2, .int x2)] → W p l e ({ frames := 2, cells := 0, slots := 0, locals := 48 } : Room) s m args below meth c H locs 0 0 (MQ below (m_Q D B K (some (.int r)) n g') args s 0 0 (fun q => B ≤ q)) (F0 m 8 ls [])) : ∀ fu : Nat, ∀ (g : m_G) (a0 : Nat) (x1 : Int32) (x2 : Int32) (x3 : Int32) (x4 : Int32) (r : Int32) (g' : m_G), f_Mod_roots_19 k_8 fu g a0 x1 x2 x3 x4 = some (r, g') → ∀ (H : Heap) (locs : List Loc), m_S D B K n g s.heap H locs → ∀ ls : Array Slot, lv_has ls 5 [(0, .ref (B + a0)), (1, .int x1), (2, .int x2), (3, .int x3), (4, .int x4)] → W p l e ({ frames := 2, cells := 0, slots := 0, locals := 48 } : Room) s m args below meth c H locs 0 0 (MQ below (m_Q D B K (some (.int r)) n g') args s 0 0 (fun q => B ≤ q)) (F0 m 19 ls []) := by
  have hx := E.1.1
  have hb := E.1.2.1
  have hts := E.1.2.2.2.2
  intro fu
  induction fu with
  | zero => intro g a0 x1 x2 x3 x4 r g' hF; cases hF
  | succ fu ih =>
    intro g a0 x1 x2 x3 x4 r g' hF H locs S ls hl
    rw [f_Mod_roots_19] at hF
    refine lv_iload hx hb d_Mod_roots_19 (lv_at hl 4 rfl) ?_
    refine lv_bipush (v := 12) hx hb d_Mod_roots_21 (by decide) ?_
    refine lv_icmp_ge (tgt := 59) hx hb d_Mod_roots_23 (by decide) (fun c_1 => ?_) (fun c_1 => ?_)
    · rw [if_pos c_1] at hF
      refine lv_iload_n hx hb d_Mod_roots_59 rfl (lv_at hl 3 rfl) ?_
      refine lv_if_eq (tgt := 66) hx hb d_Mod_roots_60 (by decide) (fun c_2 => ?_) (fun c_2 => ?_)
      · rw [if_pos c_2] at hF
        exact c_Mod_roots_66 E hr hlk hz k_8 hk_8 _ _ _ _ _ _ hF _ _ S _ (lv_sub hl [0, 1, 2] rfl)
      · rw [if_neg c_2] at hF
        refine lv_iinc (v := (x1 + 1)) (lv' := [(1, .int (x1 + 1)), (0, .ref (B + a0)), (2, .int x2), (3, .int x3), (4, .int x4)]) hx hb d_Mod_roots_63 hl (k := 1) rfl rfl (by decide) rfl (fun ls hl => ?_)
        exact c_Mod_roots_66 E hr hlk hz k_8 hk_8 _ _ _ _ _ _ hF _ _ S _ (lv_sub hl [1, 0, 2] rfl)
    · rw [if_neg c_1] at hF
      refine lv_aload_n hx hb d_Mod_roots_26 rfl (lv_at hl 0 rfl) ?_
      replace hF := Option.bind_eq_some_iff.mp hF
      obtain ⟨v_3, ev_3, hF⟩ := hF
      refine m_getR (B := B) (a := a0) E S fd_Mod_there (Or.inl qw_289) ev_3 d_Mod_roots_27 ?_
      refine lv_iload hx hb d_Mod_roots_30 (lv_at hl 4 rfl) ?_
      replace hF := Option.bind_eq_some_iff.mp hF
      obtain ⟨a_4, ea_4, hF⟩ := hF
      subst ea_4
      replace hF := Option.bind_eq_some_iff.mp hF
      obtain ⟨v_5, ev_5, hF⟩ := hF
      refine m_zald (B := B) (a := a_4) (t := 3) E S rfl ev_5 d_Mod_roots_32 ?_
      refine lv_if_eq (tgt := 53) hx hb d_Mod_roots_33 (by decide) (fun c_6 => ?_) (fun c_6 => ?_)
      · rw [if_pos c_6] at hF
        exact c_Mod_roots_53 E hr hlk hz k_8 hk_8 (f_Mod_roots_19 k_8 fu) ih _ _ _ _ _ _ _ _ hF _ _ S _ (lv_sub hl [0, 1, 2, 3, 4] rfl)
      · rw [if_neg c_6] at hF
        refine lv_aload_n hx hb d_Mod_roots_36 rfl (lv_at hl 0 rfl) ?_
        refine lv_aload_n hx hb d_Mod_roots_37 rfl (lv_at hl 0 rfl) ?_
        replace hF := Option.bind_eq_some_iff.mp hF
        obtain ⟨v_7, ev_7, hF⟩ := hF
        refine m_getR (B := B) (a := a0) E S fd_Mod_ids (Or.inl qw_290) ev_7 d_Mod_roots_38 ?_
        refine lv_iload hx hb d_Mod_roots_41 (lv_at hl 4 rfl) ?_
        replace hF := Option.bind_eq_some_iff.mp hF
        obtain ⟨a_8, ea_8, hF⟩ := hF
        subst ea_8
        replace hF := Option.bind_eq_some_iff.mp hF
        obtain ⟨v_9, ev_9, hF⟩ := hF
        refine m_iald (B := B) (a := a_8) (t := 0) E S rfl ev_9 d_Mod_roots_43 ?_
        replace hF := m_gd_inv hF
        obtain ⟨eog_10, hF⟩ := hF
        replace hF := m_bd_inv hF
        obtain ⟨v_11, g_10, eg_10, hF⟩ := hF
        refine m_callV (B := B) (nn := 1) (b := a0) (As := [.int v_9]) (rest := []) (v := (some (.int v_11))) E S hz (c_Mod_top l D B K n g a0 v_9 v_11 g_10 eg_10) qc_Mod_top ⟨rfl, rfl⟩ (Or.inl qw_410) qw_411 qw_412 qw_304 (by decide +kernel) ⟨Nat.le_of_ble_eq_true rfl, Nat.le_of_ble_eq_true rfl⟩ eog_10 rfl rfl hl.1 (Nat.le_of_ble_eq_true rfl) d_Mod_roots_44 ⟨Nat.le_of_ble_eq_true rfl, Nat.le_of_ble_eq_true rfl⟩ (fun H locs S => ?_)
        refine W.eq (g2 := F0 m 47 ls [.int v_11]) rfl ?_
        refine lv_iload_n hx hb d_Mod_roots_47 rfl (lv_at hl 2 rfl) ?_
        refine lv_icmp_ne (tgt := 53) hx hb d_Mod_roots_48 (by decide) (fun c_12 => ?_) (fun c_12 => ?_)
        · rw [if_neg c_12] at hF
          exact c_Mod_roots_53 E hr hlk hz k_8 hk_8 (f_Mod_roots_19 k_8 fu) ih _ _ _ _ _ _ _ _ hF _ _ S _ (lv_sub hl [0, 1, 2, 3, 4] rfl)
        · rw [if_pos c_12] at hF
          refine lv_iconst (v := 1) hx hb d_Mod_roots_51 (by decide) ?_
          refine lv_istore_n (lv' := [(3, .int 1), (0, .ref (B + a0)), (1, .int x1), (2, .int x2), (4, .int x4)]) hx hb d_Mod_roots_52 rfl hl (by decide) rfl (fun ls hl => ?_)
          exact c_Mod_roots_53 E hr hlk hz k_8 hk_8 (f_Mod_roots_19 k_8 fu) ih _ _ _ _ _ _ _ _ hF _ _ S _ (lv_sub hl [1, 2, 3, 0, 4] rfl)
def f_Mod_roots_8   : Nat → m_G → Nat → Int32 → Int32 → Option (Int32 × m_G)
  | 0, _, _, _, _ => none
  | fu + 1, g, a0, x1, x2 =>
    if (64 : Int32) ≤ x2 then
      some (x1, g)
    else
      f_Mod_roots_19 (f_Mod_roots_8 fu) m_fu g a0 x1 x2 0 0
set_option maxHeartbeats 1000000 in
set_option maxRecDepth 100000 in
theorem c_Mod_roots_8 (E : m_V p m c b_Mod_roots 5 s args R_Mod D K) (hr : meth.sig.returnType = (some .int)) (hlk : meth.locks = false) (hz : s.heap.size + 0 = B + n)   : ∀ fu : Nat, ∀ (g : m_G) (a0 : Nat) (x1 : Int32) (x2 : Int32) (r : Int32) (g' : m_G), f_Mod_roots_8  fu g a0 x1 x2 = some (r, g') → ∀ (H : Heap) (locs : List Loc), m_S D B K n g s.heap H locs → ∀ ls : Array Slot, lv_has ls 5 [(0, .ref (B + a0)), (1, .int x1), (2, .int x2)] → W p l e ({ frames := 2, cells := 0, slots := 0, locals := 48 } : Room) s m args below meth c H locs 0 0 (MQ below (m_Q D B K (some (.int r)) n g') args s 0 0 (fun q => B ≤ q)) (F0 m 8 ls []) := by
  have hx := E.1.1
  have hb := E.1.2.1
  have hts := E.1.2.2.2.2
  intro fu
  induction fu with
  | zero => intro g a0 x1 x2 r g' hF; cases hF
  | succ fu ih =>
    intro g a0 x1 x2 r g' hF H locs S ls hl
    rw [f_Mod_roots_8] at hF
    refine lv_iload_n hx hb d_Mod_roots_8 rfl (lv_at hl 2 rfl) ?_
    refine lv_bipush (v := 64) hx hb d_Mod_roots_9 (by decide) ?_
    refine lv_icmp_ge (tgt := 72) hx hb d_Mod_roots_11 (by decide) (fun c_1 => ?_) (fun c_1 => ?_)
    · rw [if_pos c_1] at hF
      refine lv_iload_n hx hb d_Mod_roots_72 rfl (lv_at hl 1 rfl) ?_
      cases hF
      exact m_iret E S hz hr hlk d_Mod_roots_73
    · rw [if_neg c_1] at hF
      refine lv_iconst (v := 0) hx hb d_Mod_roots_14 (by decide) ?_
      refine lv_istore_n (lv' := [(3, .int 0), (0, .ref (B + a0)), (1, .int x1), (2, .int x2)]) hx hb d_Mod_roots_15 rfl hl (by decide) rfl (fun ls hl => ?_)
      refine lv_iconst (v := 0) hx hb d_Mod_roots_16 (by decide) ?_
      refine lv_istore (lv' := [(4, .int 0), (3, .int 0), (0, .ref (B + a0)), (1, .int x1), (2, .int x2)]) hx hb d_Mod_roots_17 hl (by decide) rfl (fun ls hl => ?_)
      exact c_Mod_roots_19 E hr hlk hz (f_Mod_roots_8 fu) ih m_fu _ _ _ _ _ _ _ _ hF _ _ S _ (lv_sub hl [2, 3, 4, 1, 0] rfl)
end S_Mod_roots
def f_Mod_roots  (g : m_G) (a0 : Nat) : Option (Int32 × m_G) :=
  m_gd (m_is g a0 8) <|
  m_bd (f_Mod_linkAll g a0) fun v_2 g_1 =>
  f_Mod_roots_8 m_fu g_1 a0 0 0
set_option maxHeartbeats 1000000 in
set_option maxRecDepth 100000 in
theorem c_Mod_roots (l : Launch) (D : va_G) (B : Nat) (K : Nat → ClassId)  (n : Nat) (g : m_G) (a0 : Nat) (r : Int32) (g' : m_G) (hF : f_Mod_roots g a0 = some (r, g')) : Met l y_Mod_roots (Cond.code y_Mod_roots b_Mod_roots 5 (some .int) :: m_TB) ({ frames := 2, cells := 0, slots := 0, locals := 48 } : Room) (m_Pc D B K n g [.ref (B + a0)]) (m_Q D B K (some (.int r)) n g') 0 0 (fun q => B ≤ q) := by
  refine m_met (by decide) (Nat.le_of_ble_eq_true rfl) ?_
  intro p e s m args below meth c ls E hr hlk hin hsz S hl
  have E : m_V p m c b_Mod_roots 5 s args R_Mod D K := E
  have hz : s.heap.size + 0 = B + n := hsz
  have hl : lv_has ls 5 [(0, .ref (B + a0))] := hl
  have hx := E.1.1
  have hb := E.1.2.1
  have hts := E.1.2.2.2.2
  unfold f_Mod_roots at hF
  refine lv_aload_n hx hb d_Mod_roots_0 rfl (lv_at hl 0 rfl) ?_
  replace hF := m_gd_inv hF
  obtain ⟨eog_1, hF⟩ := hF
  replace hF := m_bd_inv hF
  obtain ⟨v_2, g_1, eg_1, hF⟩ := hF
  refine m_callV (B := B) (nn := 0) (b := a0) (As := []) (rest := []) (v := none) E S hz (c_Mod_linkAll l D B K n g a0 v_2 g_1 eg_1) qc_Mod_linkAll ⟨rfl, rfl⟩ (Or.inl qw_407) qw_408 qw_409 qw_304 (by decide +kernel) ⟨Nat.le_of_ble_eq_true rfl, Nat.le_of_ble_eq_true rfl⟩ eog_1 rfl rfl hl.1 (Nat.le_of_ble_eq_true rfl) d_Mod_roots_1 ⟨Nat.le_of_ble_eq_true rfl, Nat.le_of_ble_eq_true rfl⟩ (fun H locs S => ?_)
  refine W.eq (g2 := F0 m 4 ls []) rfl ?_
  refine lv_iconst (v := 0) hx hb d_Mod_roots_4 (by decide) ?_
  refine lv_istore_n (lv' := [(1, .int 0), (0, .ref (B + a0))]) hx hb d_Mod_roots_5 rfl hl (by decide) rfl (fun ls hl => ?_)
  refine lv_iconst (v := 0) hx hb d_Mod_roots_6 (by decide) ?_
  refine lv_istore_n (lv' := [(2, .int 0), (1, .int 0), (0, .ref (B + a0))]) hx hb d_Mod_roots_7 rfl hl (by decide) rfl (fun ls hl => ?_)
  exact c_Mod_roots_8 E hr hlk hz m_fu _ _ _ _ _ _ hF _ _ S _ (lv_sub hl [2, 1, 0] rfl)
section S_Mod_count
variable {p : Program} {l : Launch} {e : Env} {s : State} {m : MethodId} {args : Array Value} {below : List Frame} {meth : Method} {c : Code} {D : va_G} {B n : Nat} {K : Nat → ClassId}
def f_Mod_count_109   (g : m_G) (y0 : Int32) : Option (Int32 × m_G) :=
  some (y0, g)
set_option maxHeartbeats 1000000 in
set_option maxRecDepth 100000 in
theorem c_Mod_count_109 (E : m_V p m c b_Mod_count 2 s args R_Mod D K) (hr : meth.sig.returnType = (some .int)) (hlk : meth.locks = false) (hz : s.heap.size + 0 = B + n)   : ∀ (g : m_G) (y0 : Int32) (r : Int32) (g' : m_G), f_Mod_count_109 g y0 = some (r, g') → ∀ (H : Heap) (locs : List Loc), m_S D B K n g s.heap H locs → ∀ ls : Array Slot, lv_has ls 2 [] → W p l e ({ frames := 3, cells := 0, slots := 0, locals := 72 } : Room) s m args below meth c H locs 0 0 (MQ below (m_Q D B K (some (.int r)) n g') args s 0 0 (fun q => B ≤ q)) (F0 m 109 ls [.int y0]) := by
  have hx := E.1.1
  have hb := E.1.2.1
  have hts := E.1.2.2.2.2
  intro g y0 r g' hF H locs S ls hl
  unfold f_Mod_count_109 at hF
  cases hF
  exact m_iret E S hz hr hlk d_Mod_count_109
def f_Mod_count_96   (g : m_G)  : Option (Int32 × m_G) :=
  f_Mod_count_109 g (-1)
set_option maxHeartbeats 1000000 in
set_option maxRecDepth 100000 in
theorem c_Mod_count_96 (E : m_V p m c b_Mod_count 2 s args R_Mod D K) (hr : meth.sig.returnType = (some .int)) (hlk : meth.locks = false) (hz : s.heap.size + 0 = B + n)   : ∀ (g : m_G)  (r : Int32) (g' : m_G), f_Mod_count_96 g  = some (r, g') → ∀ (H : Heap) (locs : List Loc), m_S D B K n g s.heap H locs → ∀ ls : Array Slot, lv_has ls 2 [] → W p l e ({ frames := 3, cells := 0, slots := 0, locals := 72 } : Room) s m args below meth c H locs 0 0 (MQ below (m_Q D B K (some (.int r)) n g') args s 0 0 (fun q => B ≤ q)) (F0 m 96 ls []) := by
  have hx := E.1.1
  have hb := E.1.2.1
  have hts := E.1.2.2.2.2
  intro g  r g' hF H locs S ls hl
  unfold f_Mod_count_96 at hF
  refine lv_iconst (v := (-1)) hx hb d_Mod_count_96 (by decide) ?_
  refine lv_goto (tgt := 109) hx hb d_Mod_count_97 (by decide) ?_
  exact c_Mod_count_109 E hr hlk hz _ _ _ _ hF _ _ S _ (lv_sub hl [] rfl)
end S_Mod_count
def f_Mod_count  (g : m_G) (a0 : Nat) (x1 : Int32) : Option (Int32 × m_G) :=
  if (x1 : Int32) = 0 then
    m_gd (m_is g a0 8) <|
    m_bd (f_Mod_present g a0) fun v_3 g_2 =>
    m_bd (f_Mod_size g_2 v_3) fun v_5 g_4 =>
    some (v_5, g_4)
  else
  if (x1 : Int32) = 1 then
    (m_gR g a0 8 1).bind fun v_7 =>
    Option.bind v_7 fun a_8 =>
    (m_ld g a_8 0 30).bind fun v_9 =>
    some (v_9, g)
  else
  if (x1 : Int32) = 2 then
    (m_gI g a0 8 2).bind fun v_11 =>
    some (v_11, g)
  else
  if (x1 : Int32) = 3 then
    (m_gI g a0 8 20).bind fun v_13 =>
    m_bd (f_Mod_size g v_13) fun v_15 g_14 =>
    some (v_15, g_14)
  else
  if (x1 : Int32) = 4 then
    m_gd (m_is g a0 8) <|
    m_bd (f_Mod_roots g a0) fun v_18 g_17 =>
    some (v_18, g_17)
  else
  if (x1 : Int32) = 5 then
    m_gd (m_is g a0 8) <|
    m_bd (f_Mod_different g a0) fun v_21 g_20 =>
    some (v_21, g_20)
  else
    if (x1 : Int32) < 6 then
      f_Mod_count_96 g 
    else
      m_gd (m_is g a0 8) <|
      m_bd (f_Mod_noMessage g a0 (x1 - 6)) fun v_24 g_23 =>
      if (v_24 : Int32) = 0 then
        (m_gR g_23 a0 8 14).bind fun v_26 =>
        Option.bind v_26 fun a_27 =>
        (m_ld g_23 a_27 0 (x1 - 6)).bind fun v_28 =>
        f_Mod_count_109 g_23 v_28
      else
        f_Mod_count_96 g_23 
set_option maxHeartbeats 1000000 in
set_option maxRecDepth 100000 in
theorem c_Mod_count (l : Launch) (D : va_G) (B : Nat) (K : Nat → ClassId)  (n : Nat) (g : m_G) (a0 : Nat) (x1 : Int32) (r : Int32) (g' : m_G) (hF : f_Mod_count g a0 x1 = some (r, g')) : Met l y_Mod_count (Cond.code y_Mod_count b_Mod_count 2 (some .int) :: m_TB) ({ frames := 3, cells := 0, slots := 0, locals := 72 } : Room) (m_Pc D B K n g [.ref (B + a0), .int x1]) (m_Q D B K (some (.int r)) n g') 0 0 (fun q => B ≤ q) := by
  refine m_met (by decide) (Nat.le_of_ble_eq_true rfl) ?_
  intro p e s m args below meth c ls E hr hlk hin hsz S hl
  have E : m_V p m c b_Mod_count 2 s args R_Mod D K := E
  have hz : s.heap.size + 0 = B + n := hsz
  have hl : lv_has ls 2 [(0, .ref (B + a0)), (1, .int x1)] := hl
  have hx := E.1.1
  have hb := E.1.2.1
  have hts := E.1.2.2.2.2
  unfold f_Mod_count at hF
  refine lv_iload_n hx hb d_Mod_count_0 rfl (lv_at hl 1 rfl) ?_
  by_cases c_1 : (x1 : Int32) = 0
  · rw [if_pos c_1] at hF
    refine lv_tableIn (off := 39) (tgt := 40) hx hb d_Mod_count_1 (by rw [c_1]; decide) (by rw [c_1]; decide) (by rw [c_1]; rfl) (by decide) ?_
    refine lv_aload_n hx hb d_Mod_count_40 rfl (lv_at hl 0 rfl) ?_
    replace hF := m_gd_inv hF
    obtain ⟨eog_2, hF⟩ := hF
    replace hF := m_bd_inv hF
    obtain ⟨v_3, g_2, eg_2, hF⟩ := hF
    refine m_callV (B := B) (nn := 0) (b := a0) (As := []) (rest := []) (v := (some (.int v_3))) E S hz (c_Mod_present l D B K n g a0 v_3 g_2 eg_2) qc_Mod_present ⟨rfl, rfl⟩ (Or.inl qw_367) qw_368 qw_369 qw_304 (by decide +kernel) ⟨Nat.le_of_ble_eq_true rfl, Nat.le_of_ble_eq_true rfl⟩ eog_2 rfl rfl hl.1 (Nat.le_of_ble_eq_true rfl) d_Mod_count_41 ⟨Nat.le_of_ble_eq_true rfl, Nat.le_of_ble_eq_true rfl⟩ (fun H locs S => ?_)
    refine W.eq (g2 := F0 m 44 ls [.int v_3]) rfl ?_
    replace hF := m_bd_inv hF
    obtain ⟨v_5, g_4, eg_4, hF⟩ := hF
    refine m_callS (B := B) (nn := 1) (As := [.int v_3]) (rest := []) (v := (some (.int v_5))) E S hz (c_Mod_size l D B K n g_2 v_3 v_5 g_4 eg_4) qc_Mod_size ⟨rfl, rfl⟩ (Or.inl qw_391) qw_392 qw_304 (by decide +kernel) ⟨Nat.le_of_ble_eq_true rfl, Nat.le_of_ble_eq_true rfl⟩ rfl hl.1 (Nat.le_of_ble_eq_true rfl) d_Mod_count_44 ⟨Nat.le_of_ble_eq_true rfl, Nat.le_of_ble_eq_true rfl⟩ (fun H locs S => ?_)
    refine W.eq (g2 := F0 m 47 ls [.int v_5]) rfl ?_
    cases hF
    exact m_iret E S hz hr hlk d_Mod_count_47
  rw [if_neg c_1] at hF
  by_cases c_6 : (x1 : Int32) = 1
  · rw [if_pos c_6] at hF
    refine lv_tableIn (off := 47) (tgt := 48) hx hb d_Mod_count_1 (by rw [c_6]; decide) (by rw [c_6]; decide) (by rw [c_6]; rfl) (by decide) ?_
    refine lv_aload_n hx hb d_Mod_count_48 rfl (lv_at hl 0 rfl) ?_
    replace hF := Option.bind_eq_some_iff.mp hF
    obtain ⟨v_7, ev_7, hF⟩ := hF
    refine m_getR (B := B) (a := a0) E S fd_Mod_lengths (Or.inl qw_285) ev_7 d_Mod_count_49 ?_
    refine lv_bipush (v := 30) hx hb d_Mod_count_52 (by decide) ?_
    replace hF := Option.bind_eq_some_iff.mp hF
    obtain ⟨a_8, ea_8, hF⟩ := hF
    subst ea_8
    replace hF := Option.bind_eq_some_iff.mp hF
    obtain ⟨v_9, ev_9, hF⟩ := hF
    refine m_iald (B := B) (a := a_8) (t := 0) E S rfl ev_9 d_Mod_count_54 ?_
    cases hF
    exact m_iret E S hz hr hlk d_Mod_count_55
  rw [if_neg c_6] at hF
  by_cases c_10 : (x1 : Int32) = 2
  · rw [if_pos c_10] at hF
    refine lv_tableIn (off := 55) (tgt := 56) hx hb d_Mod_count_1 (by rw [c_10]; decide) (by rw [c_10]; decide) (by rw [c_10]; rfl) (by decide) ?_
    refine lv_aload_n hx hb d_Mod_count_56 rfl (lv_at hl 0 rfl) ?_
    replace hF := Option.bind_eq_some_iff.mp hF
    obtain ⟨v_11, ev_11, hF⟩ := hF
    refine m_getI (B := B) (a := a0) E S fd_Mod_lines (Or.inl qw_306) ev_11 d_Mod_count_57 ?_
    cases hF
    exact m_iret E S hz hr hlk d_Mod_count_60
  rw [if_neg c_10] at hF
  by_cases c_12 : (x1 : Int32) = 3
  · rw [if_pos c_12] at hF
    refine lv_tableIn (off := 60) (tgt := 61) hx hb d_Mod_count_1 (by rw [c_12]; decide) (by rw [c_12]; decide) (by rw [c_12]; rfl) (by decide) ?_
    refine lv_aload_n hx hb d_Mod_count_61 rfl (lv_at hl 0 rfl) ?_
    replace hF := Option.bind_eq_some_iff.mp hF
    obtain ⟨v_13, ev_13, hF⟩ := hF
    refine m_getI (B := B) (a := a0) E S fd_Mod_found (Or.inl qw_390) ev_13 d_Mod_count_62 ?_
    replace hF := m_bd_inv hF
    obtain ⟨v_15, g_14, eg_14, hF⟩ := hF
    refine m_callS (B := B) (nn := 1) (As := [.int v_13]) (rest := []) (v := (some (.int v_15))) E S hz (c_Mod_size l D B K n g v_13 v_15 g_14 eg_14) qc_Mod_size ⟨rfl, rfl⟩ (Or.inl qw_391) qw_392 qw_304 (by decide +kernel) ⟨Nat.le_of_ble_eq_true rfl, Nat.le_of_ble_eq_true rfl⟩ rfl hl.1 (Nat.le_of_ble_eq_true rfl) d_Mod_count_65 ⟨Nat.le_of_ble_eq_true rfl, Nat.le_of_ble_eq_true rfl⟩ (fun H locs S => ?_)
    refine W.eq (g2 := F0 m 68 ls [.int v_15]) rfl ?_
    cases hF
    exact m_iret E S hz hr hlk d_Mod_count_68
  rw [if_neg c_12] at hF
  by_cases c_16 : (x1 : Int32) = 4
  · rw [if_pos c_16] at hF
    refine lv_tableIn (off := 68) (tgt := 69) hx hb d_Mod_count_1 (by rw [c_16]; decide) (by rw [c_16]; decide) (by rw [c_16]; rfl) (by decide) ?_
    refine lv_aload_n hx hb d_Mod_count_69 rfl (lv_at hl 0 rfl) ?_
    replace hF := m_gd_inv hF
    obtain ⟨eog_17, hF⟩ := hF
    replace hF := m_bd_inv hF
    obtain ⟨v_18, g_17, eg_17, hF⟩ := hF
    refine m_callV (B := B) (nn := 0) (b := a0) (As := []) (rest := []) (v := (some (.int v_18))) E S hz (c_Mod_roots l D B K n g a0 v_18 g_17 eg_17) qc_Mod_roots ⟨rfl, rfl⟩ (Or.inl qw_420) qw_421 qw_422 qw_304 (by decide +kernel) ⟨Nat.le_of_ble_eq_true rfl, Nat.le_of_ble_eq_true rfl⟩ eog_17 rfl rfl hl.1 (Nat.le_of_ble_eq_true rfl) d_Mod_count_70 ⟨Nat.le_of_ble_eq_true rfl, Nat.le_of_ble_eq_true rfl⟩ (fun H locs S => ?_)
    refine W.eq (g2 := F0 m 73 ls [.int v_18]) rfl ?_
    cases hF
    exact m_iret E S hz hr hlk d_Mod_count_73
  rw [if_neg c_16] at hF
  by_cases c_19 : (x1 : Int32) = 5
  · rw [if_pos c_19] at hF
    refine lv_tableIn (off := 73) (tgt := 74) hx hb d_Mod_count_1 (by rw [c_19]; decide) (by rw [c_19]; decide) (by rw [c_19]; rfl) (by decide) ?_
    refine lv_aload_n hx hb d_Mod_count_74 rfl (lv_at hl 0 rfl) ?_
    replace hF := m_gd_inv hF
    obtain ⟨eog_20, hF⟩ := hF
    replace hF := m_bd_inv hF
    obtain ⟨v_21, g_20, eg_20, hF⟩ := hF
    refine m_callV (B := B) (nn := 0) (b := a0) (As := []) (rest := []) (v := (some (.int v_21))) E S hz (c_Mod_different l D B K n g a0 v_21 g_20 eg_20) qc_Mod_different ⟨rfl, rfl⟩ (Or.inl qw_423) qw_424 qw_425 qw_304 (by decide +kernel) ⟨Nat.le_of_ble_eq_true rfl, Nat.le_of_ble_eq_true rfl⟩ eog_20 rfl rfl hl.1 (Nat.le_of_ble_eq_true rfl) d_Mod_count_75 ⟨Nat.le_of_ble_eq_true rfl, Nat.le_of_ble_eq_true rfl⟩ (fun H locs S => ?_)
    refine W.eq (g2 := F0 m 78 ls [.int v_21]) rfl ?_
    cases hF
    exact m_iret E S hz hr hlk d_Mod_count_78
  rw [if_neg c_19] at hF
  have z0 := lv_neT (a := 0) c_1 (by decide)
  have z1 := lv_neT (a := 1) c_6 (by decide)
  have z2 := lv_neT (a := 2) c_10 (by decide)
  have z3 := lv_neT (a := 3) c_12 (by decide)
  have z4 := lv_neT (a := 4) c_16 (by decide)
  have z5 := lv_neT (a := 5) c_19 (by decide)
  refine lv_tableOut (tgt := 79) hx hb d_Mod_count_1 (by omega) (by decide) ?_
  refine lv_iload_n hx hb d_Mod_count_79 rfl (lv_at hl 1 rfl) ?_
  refine lv_bipush (v := 6) hx hb d_Mod_count_80 (by decide) ?_
  refine lv_icmp_lt (tgt := 96) hx hb d_Mod_count_82 (by decide) (fun c_22 => ?_) (fun c_22 => ?_)
  · rw [if_pos c_22] at hF
    exact c_Mod_count_96 E hr hlk hz _ _ _ hF _ _ S _ (lv_sub hl [] rfl)
  · rw [if_neg c_22] at hF
    refine lv_aload_n hx hb d_Mod_count_85 rfl (lv_at hl 0 rfl) ?_
    refine lv_iload_n hx hb d_Mod_count_86 rfl (lv_at hl 1 rfl) ?_
    refine lv_bipush (v := 6) hx hb d_Mod_count_87 (by decide) ?_
    refine lv_isub hx hb d_Mod_count_89 ?_
    replace hF := m_gd_inv hF
    obtain ⟨eog_23, hF⟩ := hF
    replace hF := m_bd_inv hF
    obtain ⟨v_24, g_23, eg_23, hF⟩ := hF
    refine m_callV (B := B) (nn := 1) (b := a0) (As := [.int (x1 - 6)]) (rest := []) (v := (some (.int v_24))) E S hz (c_Mod_noMessage l D B K n g a0 (x1 - 6) v_24 g_23 eg_23) qc_Mod_noMessage ⟨rfl, rfl⟩ (Or.inl qw_357) qw_358 qw_359 qw_304 (by decide +kernel) ⟨Nat.le_of_ble_eq_true rfl, Nat.le_of_ble_eq_true rfl⟩ eog_23 rfl rfl hl.1 (Nat.le_of_ble_eq_true rfl) d_Mod_count_90 ⟨Nat.le_of_ble_eq_true rfl, Nat.le_of_ble_eq_true rfl⟩ (fun H locs S => ?_)
    refine W.eq (g2 := F0 m 93 ls [.int v_24]) rfl ?_
    refine lv_if_eq (tgt := 100) hx hb d_Mod_count_93 (by decide) (fun c_25 => ?_) (fun c_25 => ?_)
    · rw [if_pos c_25] at hF
      refine lv_aload_n hx hb d_Mod_count_100 rfl (lv_at hl 0 rfl) ?_
      replace hF := Option.bind_eq_some_iff.mp hF
      obtain ⟨v_26, ev_26, hF⟩ := hF
      refine m_getR (B := B) (a := a0) E S fd_Mod_leaves (Or.inl qw_295) ev_26 d_Mod_count_101 ?_
      refine lv_iload_n hx hb d_Mod_count_104 rfl (lv_at hl 1 rfl) ?_
      refine lv_bipush (v := 6) hx hb d_Mod_count_105 (by decide) ?_
      refine lv_isub hx hb d_Mod_count_107 ?_
      replace hF := Option.bind_eq_some_iff.mp hF
      obtain ⟨a_27, ea_27, hF⟩ := hF
      subst ea_27
      replace hF := Option.bind_eq_some_iff.mp hF
      obtain ⟨v_28, ev_28, hF⟩ := hF
      refine m_iald (B := B) (a := a_27) (t := 0) E S rfl ev_28 d_Mod_count_108 ?_
      exact c_Mod_count_109 E hr hlk hz _ _ _ _ hF _ _ S _ (lv_sub hl [] rfl)
    · rw [if_neg c_25] at hF
      exact c_Mod_count_96 E hr hlk hz _ _ _ hF _ _ S _ (lv_sub hl [] rfl)
