section S_Mod_ring
variable {p : Program} {l : Launch} {e : Env} {s : State} {m : MethodId} {args : Array Value} {below : List Frame} {meth : Method} {c : Code} {D : va_G} {B n : Nat} {K : Nat → ClassId}
def f_Mod_ring_31   (g : m_G) (y0 : Int32) : Option (Int32 × m_G) :=
  if (y0 : Int32) = 0 ∨ y0 = 1 then some (y0, g) else none
set_option maxHeartbeats 1000000 in
set_option maxRecDepth 100000 in
theorem c_Mod_ring_31 (E : m_V p m c b_Mod_ring 4 s args R_Mod D K) (hr : meth.sig.returnType = (some .boolean)) (hlk : meth.locks = false) (hz : s.heap.size + 0 = B + n)   : ∀ (g : m_G) (y0 : Int32) (r : Int32) (g' : m_G), f_Mod_ring_31 g y0 = some (r, g') → ∀ (H : Heap) (locs : List Loc), m_S D B K n g s.heap H locs → ∀ ls : Array Slot, lv_has ls 4 [] → W p l e ({ frames := 0, cells := 0, slots := 0, locals := 0 } : Room) s m args below meth c H locs 0 0 (MQ below (m_Q D B K (some (.int r)) n g') args s 0 0 (fun q => B ≤ q)) (F0 m 31 ls [.int y0]) := by
  have hx := E.1.1
  have hb := E.1.2.1
  have hts := E.1.2.2.2.2
  intro g y0 r g' hF H locs S ls hl
  unfold f_Mod_ring_31 at hF
  by_cases c_1 : (y0 : Int32) = 0 ∨ y0 = 1
  · rw [if_pos c_1] at hF
    cases hF
    exact m_zret E S hz hr hlk c_1 d_Mod_ring_31
  · rw [if_neg c_1] at hF
    cases hF
def f_Mod_ring_21   (g : m_G) (x1 : Int32) (x3 : Int32) : Option (Int32 × m_G) :=
  if (x3 : Int32) = x1 then
    f_Mod_ring_31 g 1
  else
    f_Mod_ring_31 g 0
set_option maxHeartbeats 1000000 in
set_option maxRecDepth 100000 in
theorem c_Mod_ring_21 (E : m_V p m c b_Mod_ring 4 s args R_Mod D K) (hr : meth.sig.returnType = (some .boolean)) (hlk : meth.locks = false) (hz : s.heap.size + 0 = B + n)   : ∀ (g : m_G) (x1 : Int32) (x3 : Int32) (r : Int32) (g' : m_G), f_Mod_ring_21 g x1 x3 = some (r, g') → ∀ (H : Heap) (locs : List Loc), m_S D B K n g s.heap H locs → ∀ ls : Array Slot, lv_has ls 4 [(1, .int x1), (3, .int x3)] → W p l e ({ frames := 0, cells := 0, slots := 0, locals := 0 } : Room) s m args below meth c H locs 0 0 (MQ below (m_Q D B K (some (.int r)) n g') args s 0 0 (fun q => B ≤ q)) (F0 m 21 ls []) := by
  have hx := E.1.1
  have hb := E.1.2.1
  have hts := E.1.2.2.2.2
  intro g x1 x3 r g' hF H locs S ls hl
  unfold f_Mod_ring_21 at hF
  refine lv_iload_n hx hb d_Mod_ring_21 rfl (lv_at hl 1 rfl) ?_
  refine lv_iload_n hx hb d_Mod_ring_22 rfl (lv_at hl 0 rfl) ?_
  refine lv_icmp_ne (tgt := 30) hx hb d_Mod_ring_23 (by decide) (fun c_1 => ?_) (fun c_1 => ?_)
  · rw [if_neg c_1] at hF
    refine lv_iconst (v := 0) hx hb d_Mod_ring_30 (by decide) ?_
    exact c_Mod_ring_31 E hr hlk hz _ _ _ _ hF _ _ S _ (lv_sub hl [] rfl)
  · rw [if_pos c_1] at hF
    refine lv_iconst (v := 1) hx hb d_Mod_ring_26 (by decide) ?_
    refine lv_goto (tgt := 31) hx hb d_Mod_ring_27 (by decide) ?_
    exact c_Mod_ring_31 E hr hlk hz _ _ _ _ hF _ _ S _ (lv_sub hl [] rfl)
def f_Mod_ring_2   : Nat → m_G → Nat → Int32 → Int32 → Option (Int32 × m_G)
  | 0, _, _, _, _ => none
  | fu + 1, g, a0, x1, x3 =>
    if (x3 : Int32) < 0 then
      f_Mod_ring_21 g x1 x3
    else
      if (x3 : Int32) = x1 then
        f_Mod_ring_21 g x1 x3
      else
        (m_gR g a0 8 19).bind fun v_3 =>
        Option.bind v_3 fun a_4 =>
        (m_ld g a_4 0 x3).bind fun v_5 =>
        f_Mod_ring_2 fu g a0 x1 v_5
set_option maxHeartbeats 1000000 in
set_option maxRecDepth 100000 in
theorem c_Mod_ring_2 (E : m_V p m c b_Mod_ring 4 s args R_Mod D K) (hr : meth.sig.returnType = (some .boolean)) (hlk : meth.locks = false) (hz : s.heap.size + 0 = B + n)   : ∀ fu : Nat, ∀ (g : m_G) (a0 : Nat) (x1 : Int32) (x3 : Int32) (r : Int32) (g' : m_G), f_Mod_ring_2  fu g a0 x1 x3 = some (r, g') → ∀ (H : Heap) (locs : List Loc), m_S D B K n g s.heap H locs → ∀ ls : Array Slot, lv_has ls 4 [(0, .ref (B + a0)), (1, .int x1), (3, .int x3)] → W p l e ({ frames := 0, cells := 0, slots := 0, locals := 0 } : Room) s m args below meth c H locs 0 0 (MQ below (m_Q D B K (some (.int r)) n g') args s 0 0 (fun q => B ≤ q)) (F0 m 2 ls []) := by
  have hx := E.1.1
  have hb := E.1.2.1
  have hts := E.1.2.2.2.2
  intro fu
  induction fu with
  | zero => intro g a0 x1 x3 r g' hF; cases hF
  | succ fu ih =>
    intro g a0 x1 x3 r g' hF H locs S ls hl
    rw [f_Mod_ring_2] at hF
    refine lv_iload_n hx hb d_Mod_ring_2 rfl (lv_at hl 2 rfl) ?_
    refine lv_if_lt (tgt := 21) hx hb d_Mod_ring_3 (by decide) (fun c_1 => ?_) (fun c_1 => ?_)
    · rw [if_pos c_1] at hF
      exact c_Mod_ring_21 E hr hlk hz _ _ _ _ _ hF _ _ S _ (lv_sub hl [1, 2] rfl)
    · rw [if_neg c_1] at hF
      refine lv_iload_n hx hb d_Mod_ring_6 rfl (lv_at hl 2 rfl) ?_
      refine lv_iload_n hx hb d_Mod_ring_7 rfl (lv_at hl 1 rfl) ?_
      refine lv_icmp_eq (tgt := 21) hx hb d_Mod_ring_8 (by decide) (fun c_2 => ?_) (fun c_2 => ?_)
      · rw [if_pos c_2] at hF
        exact c_Mod_ring_21 E hr hlk hz _ _ _ _ _ hF _ _ S _ (lv_sub hl [1, 2] rfl)
      · rw [if_neg c_2] at hF
        refine lv_aload_n hx hb d_Mod_ring_11 rfl (lv_at hl 0 rfl) ?_
        replace hF := Option.bind_eq_some_iff.mp hF
        obtain ⟨v_3, ev_3, hF⟩ := hF
        refine m_getR (B := B) (a := a0) E S fd_Mod_parent (Or.inl qw_299) ev_3 d_Mod_ring_12 ?_
        refine lv_iload_n hx hb d_Mod_ring_15 rfl (lv_at hl 2 rfl) ?_
        replace hF := Option.bind_eq_some_iff.mp hF
        obtain ⟨a_4, ea_4, hF⟩ := hF
        subst ea_4
        replace hF := Option.bind_eq_some_iff.mp hF
        obtain ⟨v_5, ev_5, hF⟩ := hF
        refine m_iald (B := B) (a := a_4) (t := 0) E S rfl ev_5 d_Mod_ring_16 ?_
        refine lv_istore_n (lv' := [(3, .int v_5), (0, .ref (B + a0)), (1, .int x1)]) hx hb d_Mod_ring_17 rfl hl (by decide) rfl (fun ls hl => ?_)
        refine lv_goto (tgt := 2) hx hb d_Mod_ring_18 (by decide) ?_
        exact ih _ _ _ _ _ _ hF _ _ S _ (lv_sub hl [1, 2, 0] rfl)
end S_Mod_ring
def f_Mod_ring  (g : m_G) (a0 : Nat) (x1 : Int32) (x2 : Int32) : Option (Int32 × m_G) :=
  f_Mod_ring_2 m_fu g a0 x1 x2
set_option maxHeartbeats 1000000 in
set_option maxRecDepth 100000 in
theorem c_Mod_ring (l : Launch) (D : va_G) (B : Nat) (K : Nat → ClassId)  (n : Nat) (g : m_G) (a0 : Nat) (x1 : Int32) (x2 : Int32) (r : Int32) (g' : m_G) (hF : f_Mod_ring g a0 x1 x2 = some (r, g')) : Met l y_Mod_ring (Cond.code y_Mod_ring b_Mod_ring 4 (some .boolean) :: m_TB) ({ frames := 0, cells := 0, slots := 0, locals := 0 } : Room) (m_Pc D B K n g [.ref (B + a0), .int x1, .int x2]) (m_Q D B K (some (.int r)) n g') 0 0 (fun q => B ≤ q) := by
  refine m_met (by decide) (Nat.le_of_ble_eq_true rfl) ?_
  intro p e s m args below meth c ls E hr hlk hin hsz S hl
  have E : m_V p m c b_Mod_ring 4 s args R_Mod D K := E
  have hz : s.heap.size + 0 = B + n := hsz
  have hl : lv_has ls 4 [(0, .ref (B + a0)), (1, .int x1), (2, .int x2)] := hl
  have hx := E.1.1
  have hb := E.1.2.1
  have hts := E.1.2.2.2.2
  unfold f_Mod_ring at hF
  refine lv_iload_n hx hb d_Mod_ring_0 rfl (lv_at hl 2 rfl) ?_
  refine lv_istore_n (lv' := [(3, .int x2), (0, .ref (B + a0)), (1, .int x1), (2, .int x2)]) hx hb d_Mod_ring_1 rfl hl (by decide) rfl (fun ls hl => ?_)
  exact c_Mod_ring_2 E hr hlk hz m_fu _ _ _ _ _ _ hF _ _ S _ (lv_sub hl [1, 2, 0] rfl)
section S_Mod_linkAll
variable {p : Program} {l : Launch} {e : Env} {s : State} {m : MethodId} {args : Array Value} {below : List Frame} {meth : Method} {c : Code} {D : va_G} {B n : Nat} {K : Nat → ClassId}
def f_Mod_linkAll_159  (k_27 : m_G → Nat → Int32 → Option (Unit × m_G)) (g : m_G) (a0 : Nat) (x1 : Int32) : Option (Unit × m_G) :=
  (m_gR g a0 8 9).bind fun v_1 =>
  Option.bind v_1 fun a_2 =>
  (m_ld g a_2 0 x1).bind fun v_3 =>
  m_gd (m_is g a0 8) <|
  m_bd (f_Mod_addedAfter g a0 v_3) fun v_5 g_4 =>
  k_27 g_4 a0 v_5
set_option maxHeartbeats 1000000 in
set_option maxRecDepth 100000 in
theorem c_Mod_linkAll_159 (E : m_V p m c b_Mod_linkAll 6 s args R_Mod D K) (hr : meth.sig.returnType = none) (hlk : meth.locks = false) (hz : s.heap.size + 0 = B + n)  (k_27 : m_G → Nat → Int32 → Option (Unit × m_G)) (hk_27 : ∀ (g : m_G) (a0 : Nat) (x1 : Int32) (r : Unit) (g' : m_G), k_27 g a0 x1 = some (r, g') → ∀ (H : Heap) (locs : List Loc), m_S D B K n g s.heap H locs → ∀ ls : Array Slot, lv_has ls 6 [(0, .ref (B + a0)), (1, .int x1)] → W p l e ({ frames := 1, cells := 0, slots := 0, locals := 23 } : Room) s m args below meth c H locs 0 0 (MQ below (m_Q D B K none n g') args s 0 0 (fun q => B ≤ q)) (F0 m 27 ls [])) : ∀ (g : m_G) (a0 : Nat) (x1 : Int32) (r : Unit) (g' : m_G), f_Mod_linkAll_159 k_27 g a0 x1 = some (r, g') → ∀ (H : Heap) (locs : List Loc), m_S D B K n g s.heap H locs → ∀ ls : Array Slot, lv_has ls 6 [(0, .ref (B + a0)), (1, .int x1)] → W p l e ({ frames := 1, cells := 0, slots := 0, locals := 23 } : Room) s m args below meth c H locs 0 0 (MQ below (m_Q D B K none n g') args s 0 0 (fun q => B ≤ q)) (F0 m 159 ls []) := by
  have hx := E.1.1
  have hb := E.1.2.1
  have hts := E.1.2.2.2.2
  intro g a0 x1 r g' hF H locs S ls hl
  unfold f_Mod_linkAll_159 at hF
  refine lv_aload_n hx hb d_Mod_linkAll_159 rfl (lv_at hl 0 rfl) ?_
  refine lv_aload_n hx hb d_Mod_linkAll_160 rfl (lv_at hl 0 rfl) ?_
  replace hF := Option.bind_eq_some_iff.mp hF
  obtain ⟨v_1, ev_1, hF⟩ := hF
  refine m_getR (B := B) (a := a0) E S fd_Mod_order (Or.inl qw_291) ev_1 d_Mod_linkAll_161 ?_
  refine lv_iload_n hx hb d_Mod_linkAll_164 rfl (lv_at hl 1 rfl) ?_
  replace hF := Option.bind_eq_some_iff.mp hF
  obtain ⟨a_2, ea_2, hF⟩ := hF
  subst ea_2
  replace hF := Option.bind_eq_some_iff.mp hF
  obtain ⟨v_3, ev_3, hF⟩ := hF
  refine m_iald (B := B) (a := a_2) (t := 0) E S rfl ev_3 d_Mod_linkAll_165 ?_
  replace hF := m_gd_inv hF
  obtain ⟨eog_4, hF⟩ := hF
  replace hF := m_bd_inv hF
  obtain ⟨v_5, g_4, eg_4, hF⟩ := hF
  refine m_callV (B := B) (nn := 1) (b := a0) (As := [.int v_3]) (rest := []) (v := (some (.int v_5))) E S hz (c_Mod_addedAfter l D B K n g a0 v_3 v_5 g_4 eg_4) qc_Mod_addedAfter ⟨rfl, rfl⟩ (Or.inl qw_401) qw_402 qw_403 qw_304 (by decide +kernel) ⟨Nat.le_of_ble_eq_true rfl, Nat.le_of_ble_eq_true rfl⟩ eog_4 rfl rfl hl.1 (Nat.le_of_ble_eq_true rfl) d_Mod_linkAll_166 ⟨Nat.le_of_ble_eq_true rfl, Nat.le_of_ble_eq_true rfl⟩ (fun H locs S => ?_)
  refine W.eq (g2 := F0 m 169 ls [.int v_5]) rfl ?_
  refine lv_istore_n (lv' := [(1, .int v_5), (0, .ref (B + a0))]) hx hb d_Mod_linkAll_169 rfl hl (by decide) rfl (fun ls hl => ?_)
  refine lv_goto (tgt := 27) hx hb d_Mod_linkAll_170 (by decide) ?_
  exact hk_27 _ _ _ _ _ hF _ _ S _ (lv_sub hl [1, 0] rfl)
def f_Mod_linkAll_101  (k_27 : m_G → Nat → Int32 → Option (Unit × m_G)) (k_40 : m_G → Nat → Int32 → Int32 → Int32 → Option (Unit × m_G)) (g : m_G) (a0 : Nat) (x1 : Int32) (x2 : Int32) (x3 : Int32) : Option (Unit × m_G) :=
  k_40 g a0 x1 x2 (x3 + 1)
set_option maxHeartbeats 1000000 in
set_option maxRecDepth 100000 in
theorem c_Mod_linkAll_101 (E : m_V p m c b_Mod_linkAll 6 s args R_Mod D K) (hr : meth.sig.returnType = none) (hlk : meth.locks = false) (hz : s.heap.size + 0 = B + n)  (k_27 : m_G → Nat → Int32 → Option (Unit × m_G)) (hk_27 : ∀ (g : m_G) (a0 : Nat) (x1 : Int32) (r : Unit) (g' : m_G), k_27 g a0 x1 = some (r, g') → ∀ (H : Heap) (locs : List Loc), m_S D B K n g s.heap H locs → ∀ ls : Array Slot, lv_has ls 6 [(0, .ref (B + a0)), (1, .int x1)] → W p l e ({ frames := 1, cells := 0, slots := 0, locals := 23 } : Room) s m args below meth c H locs 0 0 (MQ below (m_Q D B K none n g') args s 0 0 (fun q => B ≤ q)) (F0 m 27 ls [])) (k_40 : m_G → Nat → Int32 → Int32 → Int32 → Option (Unit × m_G)) (hk_40 : ∀ (g : m_G) (a0 : Nat) (x1 : Int32) (x2 : Int32) (x3 : Int32) (r : Unit) (g' : m_G), k_40 g a0 x1 x2 x3 = some (r, g') → ∀ (H : Heap) (locs : List Loc), m_S D B K n g s.heap H locs → ∀ ls : Array Slot, lv_has ls 6 [(0, .ref (B + a0)), (1, .int x1), (2, .int x2), (3, .int x3)] → W p l e ({ frames := 1, cells := 0, slots := 0, locals := 23 } : Room) s m args below meth c H locs 0 0 (MQ below (m_Q D B K none n g') args s 0 0 (fun q => B ≤ q)) (F0 m 40 ls [])) : ∀ (g : m_G) (a0 : Nat) (x1 : Int32) (x2 : Int32) (x3 : Int32) (r : Unit) (g' : m_G), f_Mod_linkAll_101 k_27 k_40 g a0 x1 x2 x3 = some (r, g') → ∀ (H : Heap) (locs : List Loc), m_S D B K n g s.heap H locs → ∀ ls : Array Slot, lv_has ls 6 [(0, .ref (B + a0)), (1, .int x1), (2, .int x2), (3, .int x3)] → W p l e ({ frames := 1, cells := 0, slots := 0, locals := 23 } : Room) s m args below meth c H locs 0 0 (MQ below (m_Q D B K none n g') args s 0 0 (fun q => B ≤ q)) (F0 m 101 ls []) := by
  have hx := E.1.1
  have hb := E.1.2.1
  have hts := E.1.2.2.2.2
  intro g a0 x1 x2 x3 r g' hF H locs S ls hl
  unfold f_Mod_linkAll_101 at hF
  refine lv_iinc (v := (x3 + 1)) (lv' := [(3, .int (x3 + 1)), (0, .ref (B + a0)), (1, .int x1), (2, .int x2)]) hx hb d_Mod_linkAll_101 hl (k := 3) rfl rfl (by decide) rfl (fun ls hl => ?_)
  refine lv_goto (tgt := 40) hx hb d_Mod_linkAll_104 (by decide) ?_
  exact hk_40 _ _ _ _ _ _ _ hF _ _ S _ (lv_sub hl [1, 2, 3, 0] rfl)
def f_Mod_linkAll_40  (k_27 : m_G → Nat → Int32 → Option (Unit × m_G)) : Nat → m_G → Nat → Int32 → Int32 → Int32 → Option (Unit × m_G)
  | 0, _, _, _, _, _ => none
  | fu + 1, g, a0, x1, x2, x3 =>
    if (x2 : Int32) ≤ x3 then
      if (x2 : Int32) ≤ 0 then
        f_Mod_linkAll_159 k_27 g a0 x1
      else
        (m_gR g a0 8 8).bind fun v_3 =>
        Option.bind v_3 fun a_4 =>
        (m_ld g a_4 0 x1).bind fun v_5 =>
        (m_gR g a0 8 11).bind fun v_6 =>
        Option.bind v_6 fun a_7 =>
        (m_ld g a_7 0 (((4 * x1) + x2) - 1)).bind fun v_8 =>
        m_gd (m_is g a0 8) <|
        m_bd (f_Mod_ring g a0 v_5 v_8) fun v_10 g_9 =>
        if (v_10 : Int32) = 0 then
          (m_gR g_9 a0 8 19).bind fun v_12 =>
          (m_gR g_9 a0 8 8).bind fun v_13 =>
          Option.bind v_13 fun a_14 =>
          (m_ld g_9 a_14 0 x1).bind fun v_15 =>
          (m_gR g_9 a0 8 11).bind fun v_16 =>
          Option.bind v_16 fun a_17 =>
          (m_ld g_9 a_17 0 (((4 * x1) + x2) - 1)).bind fun v_18 =>
          Option.bind v_12 fun a_19 =>
          (m_st g_9 a_19 0 v_15 v_18).bind fun g_20 =>
          f_Mod_linkAll_159 k_27 g_20 a0 x1
        else
          f_Mod_linkAll_159 k_27 g_9 a0 x1
    else
      (m_gR g a0 8 11).bind fun v_21 =>
      Option.bind v_21 fun a_22 =>
      (m_ld g a_22 0 ((4 * x1) + x3)).bind fun v_23 =>
      (m_gR g a0 8 11).bind fun v_24 =>
      Option.bind v_24 fun a_25 =>
      (m_ld g a_25 0 (((4 * x1) + x3) - 1)).bind fun v_26 =>
      (m_gR g a0 8 19).bind fun v_27 =>
      Option.bind v_27 fun a_28 =>
      (m_ld g a_28 0 v_23).bind fun v_29 =>
      if (0 : Int32) ≤ v_29 then
        f_Mod_linkAll_101 k_27 (f_Mod_linkAll_40 k_27 fu) g a0 x1 x2 x3
      else
        m_gd (m_is g a0 8) <|
        m_bd (f_Mod_ring g a0 v_23 v_26) fun v_32 g_31 =>
        if (v_32 : Int32) = 0 then
          (m_gR g_31 a0 8 19).bind fun v_34 =>
          Option.bind v_34 fun a_35 =>
          (m_st g_31 a_35 0 v_23 v_26).bind fun g_36 =>
          f_Mod_linkAll_101 k_27 (f_Mod_linkAll_40 k_27 fu) g_36 a0 x1 x2 x3
        else
          f_Mod_linkAll_101 k_27 (f_Mod_linkAll_40 k_27 fu) g_31 a0 x1 x2 x3
set_option maxHeartbeats 1000000 in
set_option maxRecDepth 100000 in
theorem c_Mod_linkAll_40 (E : m_V p m c b_Mod_linkAll 6 s args R_Mod D K) (hr : meth.sig.returnType = none) (hlk : meth.locks = false) (hz : s.heap.size + 0 = B + n)  (k_27 : m_G → Nat → Int32 → Option (Unit × m_G)) (hk_27 : ∀ (g : m_G) (a0 : Nat) (x1 : Int32) (r : Unit) (g' : m_G), k_27 g a0 x1 = some (r, g') → ∀ (H : Heap) (locs : List Loc), m_S D B K n g s.heap H locs → ∀ ls : Array Slot, lv_has ls 6 [(0, .ref (B + a0)), (1, .int x1)] → W p l e ({ frames := 1, cells := 0, slots := 0, locals := 23 } : Room) s m args below meth c H locs 0 0 (MQ below (m_Q D B K none n g') args s 0 0 (fun q => B ≤ q)) (F0 m 27 ls [])) : ∀ fu : Nat, ∀ (g : m_G) (a0 : Nat) (x1 : Int32) (x2 : Int32) (x3 : Int32) (r : Unit) (g' : m_G), f_Mod_linkAll_40 k_27 fu g a0 x1 x2 x3 = some (r, g') → ∀ (H : Heap) (locs : List Loc), m_S D B K n g s.heap H locs → ∀ ls : Array Slot, lv_has ls 6 [(0, .ref (B + a0)), (1, .int x1), (2, .int x2), (3, .int x3)] → W p l e ({ frames := 1, cells := 0, slots := 0, locals := 23 } : Room) s m args below meth c H locs 0 0 (MQ below (m_Q D B K none n g') args s 0 0 (fun q => B ≤ q)) (F0 m 40 ls []) := by
  have hx := E.1.1
  have hb := E.1.2.1
  have hts := E.1.2.2.2.2
  intro fu
  induction fu with
  | zero => intro g a0 x1 x2 x3 r g' hF; cases hF
  | succ fu ih =>
    intro g a0 x1 x2 x3 r g' hF H locs S ls hl
    rw [f_Mod_linkAll_40] at hF
    refine lv_iload_n hx hb d_Mod_linkAll_40 rfl (lv_at hl 3 rfl) ?_
    refine lv_iload_n hx hb d_Mod_linkAll_41 rfl (lv_at hl 2 rfl) ?_
    refine lv_icmp_ge (tgt := 107) hx hb d_Mod_linkAll_42 (by decide) (fun c_1 => ?_) (fun c_1 => ?_)
    · rw [if_pos c_1] at hF
      refine lv_iload_n hx hb d_Mod_linkAll_107 rfl (lv_at hl 2 rfl) ?_
      refine lv_if_le (tgt := 159) hx hb d_Mod_linkAll_108 (by decide) (fun c_2 => ?_) (fun c_2 => ?_)
      · rw [if_pos c_2] at hF
        exact c_Mod_linkAll_159 E hr hlk hz k_27 hk_27 _ _ _ _ _ hF _ _ S _ (lv_sub hl [0, 1] rfl)
      · rw [if_neg c_2] at hF
        refine lv_aload_n hx hb d_Mod_linkAll_111 rfl (lv_at hl 0 rfl) ?_
        refine lv_aload_n hx hb d_Mod_linkAll_112 rfl (lv_at hl 0 rfl) ?_
        replace hF := Option.bind_eq_some_iff.mp hF
        obtain ⟨v_3, ev_3, hF⟩ := hF
        refine m_getR (B := B) (a := a0) E S fd_Mod_ids (Or.inl qw_290) ev_3 d_Mod_linkAll_113 ?_
        refine lv_iload_n hx hb d_Mod_linkAll_116 rfl (lv_at hl 1 rfl) ?_
        replace hF := Option.bind_eq_some_iff.mp hF
        obtain ⟨a_4, ea_4, hF⟩ := hF
        subst ea_4
        replace hF := Option.bind_eq_some_iff.mp hF
        obtain ⟨v_5, ev_5, hF⟩ := hF
        refine m_iald (B := B) (a := a_4) (t := 0) E S rfl ev_5 d_Mod_linkAll_117 ?_
        refine lv_aload_n hx hb d_Mod_linkAll_118 rfl (lv_at hl 0 rfl) ?_
        replace hF := Option.bind_eq_some_iff.mp hF
        obtain ⟨v_6, ev_6, hF⟩ := hF
        refine m_getR (B := B) (a := a0) E S fd_Mod_references (Or.inl qw_292) ev_6 d_Mod_linkAll_119 ?_
        refine lv_iconst (v := 4) hx hb d_Mod_linkAll_122 (by decide) ?_
        refine lv_iload_n hx hb d_Mod_linkAll_123 rfl (lv_at hl 1 rfl) ?_
        refine lv_imul hx hb d_Mod_linkAll_124 ?_
        refine lv_iload_n hx hb d_Mod_linkAll_125 rfl (lv_at hl 2 rfl) ?_
        refine lv_iadd hx hb d_Mod_linkAll_126 ?_
        refine lv_iconst (v := 1) hx hb d_Mod_linkAll_127 (by decide) ?_
        refine lv_isub hx hb d_Mod_linkAll_128 ?_
        replace hF := Option.bind_eq_some_iff.mp hF
        obtain ⟨a_7, ea_7, hF⟩ := hF
        subst ea_7
        replace hF := Option.bind_eq_some_iff.mp hF
        obtain ⟨v_8, ev_8, hF⟩ := hF
        refine m_iald (B := B) (a := a_7) (t := 0) E S rfl ev_8 d_Mod_linkAll_129 ?_
        replace hF := m_gd_inv hF
        obtain ⟨eog_9, hF⟩ := hF
        replace hF := m_bd_inv hF
        obtain ⟨v_10, g_9, eg_9, hF⟩ := hF
        refine m_callV (B := B) (nn := 2) (b := a0) (As := [.int v_5, .int v_8]) (rest := []) (v := (some (.int v_10))) E S hz (c_Mod_ring l D B K n g a0 v_5 v_8 v_10 g_9 eg_9) qc_Mod_ring ⟨rfl, rfl⟩ (Or.inl qw_404) qw_405 qw_406 qw_304 (by decide +kernel) ⟨Nat.le_of_ble_eq_true rfl, Nat.le_of_ble_eq_true rfl⟩ eog_9 rfl rfl hl.1 (Nat.le_of_ble_eq_true rfl) d_Mod_linkAll_130 ⟨Nat.le_of_ble_eq_true rfl, Nat.le_of_ble_eq_true rfl⟩ (fun H locs S => ?_)
        refine W.eq (g2 := F0 m 133 ls [.int v_10]) rfl ?_
        refine lv_if_ne (tgt := 159) hx hb d_Mod_linkAll_133 (by decide) (fun c_11 => ?_) (fun c_11 => ?_)
        · rw [if_neg c_11] at hF
          exact c_Mod_linkAll_159 E hr hlk hz k_27 hk_27 _ _ _ _ _ hF _ _ S _ (lv_sub hl [0, 1] rfl)
        · rw [if_pos c_11] at hF
          refine lv_aload_n hx hb d_Mod_linkAll_136 rfl (lv_at hl 0 rfl) ?_
          replace hF := Option.bind_eq_some_iff.mp hF
          obtain ⟨v_12, ev_12, hF⟩ := hF
          refine m_getR (B := B) (a := a0) E S fd_Mod_parent (Or.inl qw_299) ev_12 d_Mod_linkAll_137 ?_
          refine lv_aload_n hx hb d_Mod_linkAll_140 rfl (lv_at hl 0 rfl) ?_
          replace hF := Option.bind_eq_some_iff.mp hF
          obtain ⟨v_13, ev_13, hF⟩ := hF
          refine m_getR (B := B) (a := a0) E S fd_Mod_ids (Or.inl qw_290) ev_13 d_Mod_linkAll_141 ?_
          refine lv_iload_n hx hb d_Mod_linkAll_144 rfl (lv_at hl 1 rfl) ?_
          replace hF := Option.bind_eq_some_iff.mp hF
          obtain ⟨a_14, ea_14, hF⟩ := hF
          subst ea_14
          replace hF := Option.bind_eq_some_iff.mp hF
          obtain ⟨v_15, ev_15, hF⟩ := hF
          refine m_iald (B := B) (a := a_14) (t := 0) E S rfl ev_15 d_Mod_linkAll_145 ?_
          refine lv_aload_n hx hb d_Mod_linkAll_146 rfl (lv_at hl 0 rfl) ?_
          replace hF := Option.bind_eq_some_iff.mp hF
          obtain ⟨v_16, ev_16, hF⟩ := hF
          refine m_getR (B := B) (a := a0) E S fd_Mod_references (Or.inl qw_292) ev_16 d_Mod_linkAll_147 ?_
          refine lv_iconst (v := 4) hx hb d_Mod_linkAll_150 (by decide) ?_
          refine lv_iload_n hx hb d_Mod_linkAll_151 rfl (lv_at hl 1 rfl) ?_
          refine lv_imul hx hb d_Mod_linkAll_152 ?_
          refine lv_iload_n hx hb d_Mod_linkAll_153 rfl (lv_at hl 2 rfl) ?_
          refine lv_iadd hx hb d_Mod_linkAll_154 ?_
          refine lv_iconst (v := 1) hx hb d_Mod_linkAll_155 (by decide) ?_
          refine lv_isub hx hb d_Mod_linkAll_156 ?_
          replace hF := Option.bind_eq_some_iff.mp hF
          obtain ⟨a_17, ea_17, hF⟩ := hF
          subst ea_17
          replace hF := Option.bind_eq_some_iff.mp hF
          obtain ⟨v_18, ev_18, hF⟩ := hF
          refine m_iald (B := B) (a := a_17) (t := 0) E S rfl ev_18 d_Mod_linkAll_157 ?_
          replace hF := Option.bind_eq_some_iff.mp hF
          obtain ⟨a_19, ea_19, hF⟩ := hF
          subst ea_19
          replace hF := Option.bind_eq_some_iff.mp hF
          obtain ⟨g_20, eg_20, hF⟩ := hF
          refine m_iast (B := B) (a := a_19) (t := 0) E S rfl eg_20 d_Mod_linkAll_158 (fun H locs S => ?_)
          exact c_Mod_linkAll_159 E hr hlk hz k_27 hk_27 _ _ _ _ _ hF _ _ S _ (lv_sub hl [0, 1] rfl)
    · rw [if_neg c_1] at hF
      refine lv_aload_n hx hb d_Mod_linkAll_45 rfl (lv_at hl 0 rfl) ?_
      replace hF := Option.bind_eq_some_iff.mp hF
      obtain ⟨v_21, ev_21, hF⟩ := hF
      refine m_getR (B := B) (a := a0) E S fd_Mod_references (Or.inl qw_292) ev_21 d_Mod_linkAll_46 ?_
      refine lv_iconst (v := 4) hx hb d_Mod_linkAll_49 (by decide) ?_
      refine lv_iload_n hx hb d_Mod_linkAll_50 rfl (lv_at hl 1 rfl) ?_
      refine lv_imul hx hb d_Mod_linkAll_51 ?_
      refine lv_iload_n hx hb d_Mod_linkAll_52 rfl (lv_at hl 3 rfl) ?_
      refine lv_iadd hx hb d_Mod_linkAll_53 ?_
      replace hF := Option.bind_eq_some_iff.mp hF
      obtain ⟨a_22, ea_22, hF⟩ := hF
      subst ea_22
      replace hF := Option.bind_eq_some_iff.mp hF
      obtain ⟨v_23, ev_23, hF⟩ := hF
      refine m_iald (B := B) (a := a_22) (t := 0) E S rfl ev_23 d_Mod_linkAll_54 ?_
      refine lv_istore (lv' := [(4, .int v_23), (0, .ref (B + a0)), (1, .int x1), (2, .int x2), (3, .int x3)]) hx hb d_Mod_linkAll_55 hl (by decide) rfl (fun ls hl => ?_)
      refine lv_aload_n hx hb d_Mod_linkAll_57 rfl (lv_at hl 1 rfl) ?_
      replace hF := Option.bind_eq_some_iff.mp hF
      obtain ⟨v_24, ev_24, hF⟩ := hF
      refine m_getR (B := B) (a := a0) E S fd_Mod_references (Or.inl qw_292) ev_24 d_Mod_linkAll_58 ?_
      refine lv_iconst (v := 4) hx hb d_Mod_linkAll_61 (by decide) ?_
      refine lv_iload_n hx hb d_Mod_linkAll_62 rfl (lv_at hl 2 rfl) ?_
      refine lv_imul hx hb d_Mod_linkAll_63 ?_
      refine lv_iload_n hx hb d_Mod_linkAll_64 rfl (lv_at hl 4 rfl) ?_
      refine lv_iadd hx hb d_Mod_linkAll_65 ?_
      refine lv_iconst (v := 1) hx hb d_Mod_linkAll_66 (by decide) ?_
      refine lv_isub hx hb d_Mod_linkAll_67 ?_
      replace hF := Option.bind_eq_some_iff.mp hF
      obtain ⟨a_25, ea_25, hF⟩ := hF
      subst ea_25
      replace hF := Option.bind_eq_some_iff.mp hF
      obtain ⟨v_26, ev_26, hF⟩ := hF
      refine m_iald (B := B) (a := a_25) (t := 0) E S rfl ev_26 d_Mod_linkAll_68 ?_
      refine lv_istore (lv' := [(5, .int v_26), (4, .int v_23), (0, .ref (B + a0)), (1, .int x1), (2, .int x2), (3, .int x3)]) hx hb d_Mod_linkAll_69 hl (by decide) rfl (fun ls hl => ?_)
      refine lv_aload_n hx hb d_Mod_linkAll_71 rfl (lv_at hl 2 rfl) ?_
      replace hF := Option.bind_eq_some_iff.mp hF
      obtain ⟨v_27, ev_27, hF⟩ := hF
      refine m_getR (B := B) (a := a0) E S fd_Mod_parent (Or.inl qw_299) ev_27 d_Mod_linkAll_72 ?_
      refine lv_iload hx hb d_Mod_linkAll_75 (lv_at hl 1 rfl) ?_
      replace hF := Option.bind_eq_some_iff.mp hF
      obtain ⟨a_28, ea_28, hF⟩ := hF
      subst ea_28
      replace hF := Option.bind_eq_some_iff.mp hF
      obtain ⟨v_29, ev_29, hF⟩ := hF
      refine m_iald (B := B) (a := a_28) (t := 0) E S rfl ev_29 d_Mod_linkAll_77 ?_
      refine lv_if_ge (tgt := 101) hx hb d_Mod_linkAll_78 (by decide) (fun c_30 => ?_) (fun c_30 => ?_)
      · rw [if_pos c_30] at hF
        exact c_Mod_linkAll_101 E hr hlk hz k_27 hk_27 (f_Mod_linkAll_40 k_27 fu) ih _ _ _ _ _ _ _ hF _ _ S _ (lv_sub hl [2, 3, 4, 5] rfl)
      · rw [if_neg c_30] at hF
        refine lv_aload_n hx hb d_Mod_linkAll_81 rfl (lv_at hl 2 rfl) ?_
        refine lv_iload hx hb d_Mod_linkAll_82 (lv_at hl 1 rfl) ?_
        refine lv_iload hx hb d_Mod_linkAll_84 (lv_at hl 0 rfl) ?_
        replace hF := m_gd_inv hF
        obtain ⟨eog_31, hF⟩ := hF
        replace hF := m_bd_inv hF
        obtain ⟨v_32, g_31, eg_31, hF⟩ := hF
        refine m_callV (B := B) (nn := 2) (b := a0) (As := [.int v_23, .int v_26]) (rest := []) (v := (some (.int v_32))) E S hz (c_Mod_ring l D B K n g a0 v_23 v_26 v_32 g_31 eg_31) qc_Mod_ring ⟨rfl, rfl⟩ (Or.inl qw_404) qw_405 qw_406 qw_304 (by decide +kernel) ⟨Nat.le_of_ble_eq_true rfl, Nat.le_of_ble_eq_true rfl⟩ eog_31 rfl rfl hl.1 (Nat.le_of_ble_eq_true rfl) d_Mod_linkAll_86 ⟨Nat.le_of_ble_eq_true rfl, Nat.le_of_ble_eq_true rfl⟩ (fun H locs S => ?_)
        refine W.eq (g2 := F0 m 89 ls [.int v_32]) rfl ?_
        refine lv_if_ne (tgt := 101) hx hb d_Mod_linkAll_89 (by decide) (fun c_33 => ?_) (fun c_33 => ?_)
        · rw [if_neg c_33] at hF
          exact c_Mod_linkAll_101 E hr hlk hz k_27 hk_27 (f_Mod_linkAll_40 k_27 fu) ih _ _ _ _ _ _ _ hF _ _ S _ (lv_sub hl [2, 3, 4, 5] rfl)
        · rw [if_pos c_33] at hF
          refine lv_aload_n hx hb d_Mod_linkAll_92 rfl (lv_at hl 2 rfl) ?_
          replace hF := Option.bind_eq_some_iff.mp hF
          obtain ⟨v_34, ev_34, hF⟩ := hF
          refine m_getR (B := B) (a := a0) E S fd_Mod_parent (Or.inl qw_299) ev_34 d_Mod_linkAll_93 ?_
          refine lv_iload hx hb d_Mod_linkAll_96 (lv_at hl 1 rfl) ?_
          refine lv_iload hx hb d_Mod_linkAll_98 (lv_at hl 0 rfl) ?_
          replace hF := Option.bind_eq_some_iff.mp hF
          obtain ⟨a_35, ea_35, hF⟩ := hF
          subst ea_35
          replace hF := Option.bind_eq_some_iff.mp hF
          obtain ⟨g_36, eg_36, hF⟩ := hF
          refine m_iast (B := B) (a := a_35) (t := 0) E S rfl eg_36 d_Mod_linkAll_100 (fun H locs S => ?_)
          exact c_Mod_linkAll_101 E hr hlk hz k_27 hk_27 (f_Mod_linkAll_40 k_27 fu) ih _ _ _ _ _ _ _ hF _ _ S _ (lv_sub hl [2, 3, 4, 5] rfl)
def f_Mod_linkAll_27   : Nat → m_G → Nat → Int32 → Option (Unit × m_G)
  | 0, _, _, _ => none
  | fu + 1, g, a0, x1 =>
    if (x1 : Int32) < 0 then
      some ((), g)
    else
      (m_gR g a0 8 12).bind fun v_2 =>
      Option.bind v_2 fun a_3 =>
      (m_ld g a_3 0 x1).bind fun v_4 =>
      f_Mod_linkAll_40 (f_Mod_linkAll_27 fu) m_fu g a0 x1 v_4 1
set_option maxHeartbeats 1000000 in
set_option maxRecDepth 100000 in
theorem c_Mod_linkAll_27 (E : m_V p m c b_Mod_linkAll 6 s args R_Mod D K) (hr : meth.sig.returnType = none) (hlk : meth.locks = false) (hz : s.heap.size + 0 = B + n)   : ∀ fu : Nat, ∀ (g : m_G) (a0 : Nat) (x1 : Int32) (r : Unit) (g' : m_G), f_Mod_linkAll_27  fu g a0 x1 = some (r, g') → ∀ (H : Heap) (locs : List Loc), m_S D B K n g s.heap H locs → ∀ ls : Array Slot, lv_has ls 6 [(0, .ref (B + a0)), (1, .int x1)] → W p l e ({ frames := 1, cells := 0, slots := 0, locals := 23 } : Room) s m args below meth c H locs 0 0 (MQ below (m_Q D B K none n g') args s 0 0 (fun q => B ≤ q)) (F0 m 27 ls []) := by
  have hx := E.1.1
  have hb := E.1.2.1
  have hts := E.1.2.2.2.2
  intro fu
  induction fu with
  | zero => intro g a0 x1 r g' hF; cases hF
  | succ fu ih =>
    intro g a0 x1 r g' hF H locs S ls hl
    rw [f_Mod_linkAll_27] at hF
    refine lv_iload_n hx hb d_Mod_linkAll_27 rfl (lv_at hl 1 rfl) ?_
    refine lv_if_lt (tgt := 173) hx hb d_Mod_linkAll_28 (by decide) (fun c_1 => ?_) (fun c_1 => ?_)
    · rw [if_pos c_1] at hF
      cases hF
      skip
      exact m_vret E S hz hr hlk d_Mod_linkAll_173
    · rw [if_neg c_1] at hF
      refine lv_aload_n hx hb d_Mod_linkAll_31 rfl (lv_at hl 0 rfl) ?_
      replace hF := Option.bind_eq_some_iff.mp hF
      obtain ⟨v_2, ev_2, hF⟩ := hF
      refine m_getR (B := B) (a := a0) E S fd_Mod_referenceCount (Or.inl qw_293) ev_2 d_Mod_linkAll_32 ?_
      refine lv_iload_n hx hb d_Mod_linkAll_35 rfl (lv_at hl 1 rfl) ?_
      replace hF := Option.bind_eq_some_iff.mp hF
      obtain ⟨a_3, ea_3, hF⟩ := hF
      subst ea_3
      replace hF := Option.bind_eq_some_iff.mp hF
      obtain ⟨v_4, ev_4, hF⟩ := hF
      refine m_iald (B := B) (a := a_3) (t := 0) E S rfl ev_4 d_Mod_linkAll_36 ?_
      refine lv_istore_n (lv' := [(2, .int v_4), (0, .ref (B + a0)), (1, .int x1)]) hx hb d_Mod_linkAll_37 rfl hl (by decide) rfl (fun ls hl => ?_)
      refine lv_iconst (v := 1) hx hb d_Mod_linkAll_38 (by decide) ?_
      refine lv_istore_n (lv' := [(3, .int 1), (2, .int v_4), (0, .ref (B + a0)), (1, .int x1)]) hx hb d_Mod_linkAll_39 rfl hl (by decide) rfl (fun ls hl => ?_)
      exact c_Mod_linkAll_40 E hr hlk hz (f_Mod_linkAll_27 fu) ih m_fu _ _ _ _ _ _ _ hF _ _ S _ (lv_sub hl [2, 3, 1, 0] rfl)
def f_Mod_linkAll_2   : Nat → m_G → Nat → Int32 → Option (Unit × m_G)
  | 0, _, _, _ => none
  | fu + 1, g, a0, x1 =>
    if (64 : Int32) ≤ x1 then
      m_gd (m_is g a0 8) <|
      m_bd (f_Mod_addedAfter g a0 0) fun v_3 g_2 =>
      f_Mod_linkAll_27 m_fu g_2 a0 v_3
    else
      (m_gR g a0 8 19).bind fun v_4 =>
      Option.bind v_4 fun a_5 =>
      (m_st g a_5 0 x1 (-1)).bind fun g_6 =>
      f_Mod_linkAll_2 fu g_6 a0 (x1 + 1)
set_option maxHeartbeats 1000000 in
set_option maxRecDepth 100000 in
theorem c_Mod_linkAll_2 (E : m_V p m c b_Mod_linkAll 6 s args R_Mod D K) (hr : meth.sig.returnType = none) (hlk : meth.locks = false) (hz : s.heap.size + 0 = B + n)   : ∀ fu : Nat, ∀ (g : m_G) (a0 : Nat) (x1 : Int32) (r : Unit) (g' : m_G), f_Mod_linkAll_2  fu g a0 x1 = some (r, g') → ∀ (H : Heap) (locs : List Loc), m_S D B K n g s.heap H locs → ∀ ls : Array Slot, lv_has ls 6 [(0, .ref (B + a0)), (1, .int x1)] → W p l e ({ frames := 1, cells := 0, slots := 0, locals := 23 } : Room) s m args below meth c H locs 0 0 (MQ below (m_Q D B K none n g') args s 0 0 (fun q => B ≤ q)) (F0 m 2 ls []) := by
  have hx := E.1.1
  have hb := E.1.2.1
  have hts := E.1.2.2.2.2
  intro fu
  induction fu with
  | zero => intro g a0 x1 r g' hF; cases hF
  | succ fu ih =>
    intro g a0 x1 r g' hF H locs S ls hl
    rw [f_Mod_linkAll_2] at hF
    refine lv_iload_n hx hb d_Mod_linkAll_2 rfl (lv_at hl 1 rfl) ?_
    refine lv_bipush (v := 64) hx hb d_Mod_linkAll_3 (by decide) ?_
    refine lv_icmp_ge (tgt := 21) hx hb d_Mod_linkAll_5 (by decide) (fun c_1 => ?_) (fun c_1 => ?_)
    · rw [if_pos c_1] at hF
      refine lv_aload_n hx hb d_Mod_linkAll_21 rfl (lv_at hl 0 rfl) ?_
      refine lv_iconst (v := 0) hx hb d_Mod_linkAll_22 (by decide) ?_
      replace hF := m_gd_inv hF
      obtain ⟨eog_2, hF⟩ := hF
      replace hF := m_bd_inv hF
      obtain ⟨v_3, g_2, eg_2, hF⟩ := hF
      refine m_callV (B := B) (nn := 1) (b := a0) (As := [.int 0]) (rest := []) (v := (some (.int v_3))) E S hz (c_Mod_addedAfter l D B K n g a0 0 v_3 g_2 eg_2) qc_Mod_addedAfter ⟨rfl, rfl⟩ (Or.inl qw_401) qw_402 qw_403 qw_304 (by decide +kernel) ⟨Nat.le_of_ble_eq_true rfl, Nat.le_of_ble_eq_true rfl⟩ eog_2 rfl rfl hl.1 (Nat.le_of_ble_eq_true rfl) d_Mod_linkAll_23 ⟨Nat.le_of_ble_eq_true rfl, Nat.le_of_ble_eq_true rfl⟩ (fun H locs S => ?_)
      refine W.eq (g2 := F0 m 26 ls [.int v_3]) rfl ?_
      refine lv_istore_n (lv' := [(1, .int v_3), (0, .ref (B + a0))]) hx hb d_Mod_linkAll_26 rfl hl (by decide) rfl (fun ls hl => ?_)
      exact c_Mod_linkAll_27 E hr hlk hz m_fu _ _ _ _ _ hF _ _ S _ (lv_sub hl [1, 0] rfl)
    · rw [if_neg c_1] at hF
      refine lv_aload_n hx hb d_Mod_linkAll_8 rfl (lv_at hl 0 rfl) ?_
      replace hF := Option.bind_eq_some_iff.mp hF
      obtain ⟨v_4, ev_4, hF⟩ := hF
      refine m_getR (B := B) (a := a0) E S fd_Mod_parent (Or.inl qw_299) ev_4 d_Mod_linkAll_9 ?_
      refine lv_iload_n hx hb d_Mod_linkAll_12 rfl (lv_at hl 1 rfl) ?_
      refine lv_iconst (v := (-1)) hx hb d_Mod_linkAll_13 (by decide) ?_
      replace hF := Option.bind_eq_some_iff.mp hF
      obtain ⟨a_5, ea_5, hF⟩ := hF
      subst ea_5
      replace hF := Option.bind_eq_some_iff.mp hF
      obtain ⟨g_6, eg_6, hF⟩ := hF
      refine m_iast (B := B) (a := a_5) (t := 0) E S rfl eg_6 d_Mod_linkAll_14 (fun H locs S => ?_)
      refine lv_iinc (v := (x1 + 1)) (lv' := [(1, .int (x1 + 1)), (0, .ref (B + a0))]) hx hb d_Mod_linkAll_15 hl (k := 1) rfl rfl (by decide) rfl (fun ls hl => ?_)
      refine lv_goto (tgt := 2) hx hb d_Mod_linkAll_18 (by decide) ?_
      exact ih _ _ _ _ _ hF _ _ S _ (lv_sub hl [1, 0] rfl)
end S_Mod_linkAll
def f_Mod_linkAll  (g : m_G) (a0 : Nat) : Option (Unit × m_G) :=
  f_Mod_linkAll_2 m_fu g a0 0
set_option maxHeartbeats 1000000 in
set_option maxRecDepth 100000 in
theorem c_Mod_linkAll (l : Launch) (D : va_G) (B : Nat) (K : Nat → ClassId)  (n : Nat) (g : m_G) (a0 : Nat) (r : Unit) (g' : m_G) (hF : f_Mod_linkAll g a0 = some (r, g')) : Met l y_Mod_linkAll (Cond.code y_Mod_linkAll b_Mod_linkAll 6 none :: m_TB) ({ frames := 1, cells := 0, slots := 0, locals := 23 } : Room) (m_Pc D B K n g [.ref (B + a0)]) (m_Q D B K none n g') 0 0 (fun q => B ≤ q) := by
  refine m_met (by decide) (Nat.le_of_ble_eq_true rfl) ?_
  intro p e s m args below meth c ls E hr hlk hin hsz S hl
  have E : m_V p m c b_Mod_linkAll 6 s args R_Mod D K := E
  have hz : s.heap.size + 0 = B + n := hsz
  have hl : lv_has ls 6 [(0, .ref (B + a0))] := hl
  have hx := E.1.1
  have hb := E.1.2.1
  have hts := E.1.2.2.2.2
  unfold f_Mod_linkAll at hF
  refine lv_iconst (v := 0) hx hb d_Mod_linkAll_0 (by decide) ?_
  refine lv_istore_n (lv' := [(1, .int 0), (0, .ref (B + a0))]) hx hb d_Mod_linkAll_1 rfl hl (by decide) rfl (fun ls hl => ?_)
  exact c_Mod_linkAll_2 E hr hlk hz m_fu _ _ _ _ _ hF _ _ S _ (lv_sub hl [1, 0] rfl)
section S_Mod_top
variable {p : Program} {l : Launch} {e : Env} {s : State} {m : MethodId} {args : Array Value} {below : List Frame} {meth : Method} {c : Code} {D : va_G} {B n : Nat} {K : Nat → ClassId}
def f_Mod_top_2   : Nat → m_G → Nat → Int32 → Option (Int32 × m_G)
  | 0, _, _, _ => none
  | fu + 1, g, a0, x2 =>
    (m_gR g a0 8 19).bind fun v_1 =>
    Option.bind v_1 fun a_2 =>
    (m_ld g a_2 0 x2).bind fun v_3 =>
    if (v_3 : Int32) < 0 then
      some (x2, g)
    else
      (m_gR g a0 8 19).bind fun v_5 =>
      Option.bind v_5 fun a_6 =>
      (m_ld g a_6 0 x2).bind fun v_7 =>
      f_Mod_top_2 fu g a0 v_7
set_option maxHeartbeats 1000000 in
set_option maxRecDepth 100000 in
theorem c_Mod_top_2 (E : m_V p m c b_Mod_top 3 s args R_Mod D K) (hr : meth.sig.returnType = (some .int)) (hlk : meth.locks = false) (hz : s.heap.size + 0 = B + n)   : ∀ fu : Nat, ∀ (g : m_G) (a0 : Nat) (x2 : Int32) (r : Int32) (g' : m_G), f_Mod_top_2  fu g a0 x2 = some (r, g') → ∀ (H : Heap) (locs : List Loc), m_S D B K n g s.heap H locs → ∀ ls : Array Slot, lv_has ls 3 [(0, .ref (B + a0)), (2, .int x2)] → W p l e ({ frames := 0, cells := 0, slots := 0, locals := 0 } : Room) s m args below meth c H locs 0 0 (MQ below (m_Q D B K (some (.int r)) n g') args s 0 0 (fun q => B ≤ q)) (F0 m 2 ls []) := by
  have hx := E.1.1
  have hb := E.1.2.1
  have hts := E.1.2.2.2.2
  intro fu
  induction fu with
  | zero => intro g a0 x2 r g' hF; cases hF
  | succ fu ih =>
    intro g a0 x2 r g' hF H locs S ls hl
    rw [f_Mod_top_2] at hF
    refine lv_aload_n hx hb d_Mod_top_2 rfl (lv_at hl 0 rfl) ?_
    replace hF := Option.bind_eq_some_iff.mp hF
    obtain ⟨v_1, ev_1, hF⟩ := hF
    refine m_getR (B := B) (a := a0) E S fd_Mod_parent (Or.inl qw_299) ev_1 d_Mod_top_3 ?_
    refine lv_iload_n hx hb d_Mod_top_6 rfl (lv_at hl 1 rfl) ?_
    replace hF := Option.bind_eq_some_iff.mp hF
    obtain ⟨a_2, ea_2, hF⟩ := hF
    subst ea_2
    replace hF := Option.bind_eq_some_iff.mp hF
    obtain ⟨v_3, ev_3, hF⟩ := hF
    refine m_iald (B := B) (a := a_2) (t := 0) E S rfl ev_3 d_Mod_top_7 ?_
    refine lv_if_lt (tgt := 21) hx hb d_Mod_top_8 (by decide) (fun c_4 => ?_) (fun c_4 => ?_)
    · rw [if_pos c_4] at hF
      refine lv_iload_n hx hb d_Mod_top_21 rfl (lv_at hl 1 rfl) ?_
      cases hF
      exact m_iret E S hz hr hlk d_Mod_top_22
    · rw [if_neg c_4] at hF
      refine lv_aload_n hx hb d_Mod_top_11 rfl (lv_at hl 0 rfl) ?_
      replace hF := Option.bind_eq_some_iff.mp hF
      obtain ⟨v_5, ev_5, hF⟩ := hF
      refine m_getR (B := B) (a := a0) E S fd_Mod_parent (Or.inl qw_299) ev_5 d_Mod_top_12 ?_
      refine lv_iload_n hx hb d_Mod_top_15 rfl (lv_at hl 1 rfl) ?_
      replace hF := Option.bind_eq_some_iff.mp hF
      obtain ⟨a_6, ea_6, hF⟩ := hF
      subst ea_6
      replace hF := Option.bind_eq_some_iff.mp hF
      obtain ⟨v_7, ev_7, hF⟩ := hF
      refine m_iald (B := B) (a := a_6) (t := 0) E S rfl ev_7 d_Mod_top_16 ?_
      refine lv_istore_n (lv' := [(2, .int v_7), (0, .ref (B + a0))]) hx hb d_Mod_top_17 rfl hl (by decide) rfl (fun ls hl => ?_)
      refine lv_goto (tgt := 2) hx hb d_Mod_top_18 (by decide) ?_
      exact ih _ _ _ _ _ hF _ _ S _ (lv_sub hl [1, 0] rfl)
end S_Mod_top
def f_Mod_top  (g : m_G) (a0 : Nat) (x1 : Int32) : Option (Int32 × m_G) :=
  f_Mod_top_2 m_fu g a0 x1
set_option maxHeartbeats 1000000 in
set_option maxRecDepth 100000 in
theorem c_Mod_top (l : Launch) (D : va_G) (B : Nat) (K : Nat → ClassId)  (n : Nat) (g : m_G) (a0 : Nat) (x1 : Int32) (r : Int32) (g' : m_G) (hF : f_Mod_top g a0 x1 = some (r, g')) : Met l y_Mod_top (Cond.code y_Mod_top b_Mod_top 3 (some .int) :: m_TB) ({ frames := 0, cells := 0, slots := 0, locals := 0 } : Room) (m_Pc D B K n g [.ref (B + a0), .int x1]) (m_Q D B K (some (.int r)) n g') 0 0 (fun q => B ≤ q) := by
  refine m_met (by decide) (Nat.le_of_ble_eq_true rfl) ?_
  intro p e s m args below meth c ls E hr hlk hin hsz S hl
  have E : m_V p m c b_Mod_top 3 s args R_Mod D K := E
  have hz : s.heap.size + 0 = B + n := hsz
  have hl : lv_has ls 3 [(0, .ref (B + a0)), (1, .int x1)] := hl
  have hx := E.1.1
  have hb := E.1.2.1
  have hts := E.1.2.2.2.2
  unfold f_Mod_top at hF
  refine lv_iload_n hx hb d_Mod_top_0 rfl (lv_at hl 1 rfl) ?_
  refine lv_istore_n (lv' := [(2, .int x1), (0, .ref (B + a0)), (1, .int x1)]) hx hb d_Mod_top_1 rfl hl (by decide) rfl (fun ls hl => ?_)
  exact c_Mod_top_2 E hr hlk hz m_fu _ _ _ _ _ hF _ _ S _ (lv_sub hl [1, 0] rfl)
section S_Mod_related
variable {p : Program} {l : Launch} {e : Env} {s : State} {m : MethodId} {args : Array Value} {below : List Frame} {meth : Method} {c : Code} {D : va_G} {B n : Nat} {K : Nat → ClassId}
def f_Mod_related_95  (k_8 : m_G → Nat → Int32 → Int32 → Int32 → Option (Int32 × m_G)) (g : m_G) (a0 : Nat) (x1 : Int32) (x2 : Int32) (x3 : Int32) : Option (Int32 × m_G) :=
  k_8 g a0 x1 x2 (x3 + 1)
set_option maxHeartbeats 1000000 in
set_option maxRecDepth 100000 in
theorem c_Mod_related_95 (E : m_V p m c b_Mod_related 5 s args R_Mod D K) (hr : meth.sig.returnType = (some .int)) (hlk : meth.locks = false) (hz : s.heap.size + 0 = B + n)  (k_8 : m_G → Nat → Int32 → Int32 → Int32 → Option (Int32 × m_G)) (hk_8 : ∀ (g : m_G) (a0 : Nat) (x1 : Int32) (x2 : Int32) (x3 : Int32) (r : Int32) (g' : m_G), k_8 g a0 x1 x2 x3 = some (r, g') → ∀ (H : Heap) (locs : List Loc), m_S D B K n g s.heap H locs → ∀ ls : Array Slot, lv_has ls 5 [(0, .ref (B + a0)), (1, .int x1), (2, .int x2), (3, .int x3)] → W p l e ({ frames := 2, cells := 0, slots := 0, locals := 48 } : Room) s m args below meth c H locs 0 0 (MQ below (m_Q D B K (some (.int r)) n g') args s 0 0 (fun q => B ≤ q)) (F0 m 8 ls [])) : ∀ (g : m_G) (a0 : Nat) (x1 : Int32) (x2 : Int32) (x3 : Int32) (r : Int32) (g' : m_G), f_Mod_related_95 k_8 g a0 x1 x2 x3 = some (r, g') → ∀ (H : Heap) (locs : List Loc), m_S D B K n g s.heap H locs → ∀ ls : Array Slot, lv_has ls 5 [(0, .ref (B + a0)), (1, .int x1), (2, .int x2), (3, .int x3)] → W p l e ({ frames := 2, cells := 0, slots := 0, locals := 48 } : Room) s m args below meth c H locs 0 0 (MQ below (m_Q D B K (some (.int r)) n g') args s 0 0 (fun q => B ≤ q)) (F0 m 95 ls []) := by
  have hx := E.1.1
  have hb := E.1.2.1
  have hts := E.1.2.2.2.2
  intro g a0 x1 x2 x3 r g' hF H locs S ls hl
  unfold f_Mod_related_95 at hF
  refine lv_iinc (v := (x3 + 1)) (lv' := [(3, .int (x3 + 1)), (0, .ref (B + a0)), (1, .int x1), (2, .int x2)]) hx hb d_Mod_related_95 hl (k := 3) rfl rfl (by decide) rfl (fun ls hl => ?_)
  refine lv_goto (tgt := 8) hx hb d_Mod_related_98 (by decide) ?_
  exact hk_8 _ _ _ _ _ _ _ hF _ _ S _ (lv_sub hl [1, 2, 3, 0] rfl)
def f_Mod_related_89  (k_8 : m_G → Nat → Int32 → Int32 → Int32 → Option (Int32 × m_G)) (k_29 : m_G → Nat → Int32 → Int32 → Int32 → Int32 → Option (Int32 × m_G)) (g : m_G) (a0 : Nat) (x1 : Int32) (x2 : Int32) (x3 : Int32) (x4 : Int32) : Option (Int32 × m_G) :=
  k_29 g a0 x1 x2 x3 (x4 + 1)
set_option maxHeartbeats 1000000 in
set_option maxRecDepth 100000 in
theorem c_Mod_related_89 (E : m_V p m c b_Mod_related 5 s args R_Mod D K) (hr : meth.sig.returnType = (some .int)) (hlk : meth.locks = false) (hz : s.heap.size + 0 = B + n)  (k_8 : m_G → Nat → Int32 → Int32 → Int32 → Option (Int32 × m_G)) (hk_8 : ∀ (g : m_G) (a0 : Nat) (x1 : Int32) (x2 : Int32) (x3 : Int32) (r : Int32) (g' : m_G), k_8 g a0 x1 x2 x3 = some (r, g') → ∀ (H : Heap) (locs : List Loc), m_S D B K n g s.heap H locs → ∀ ls : Array Slot, lv_has ls 5 [(0, .ref (B + a0)), (1, .int x1), (2, .int x2), (3, .int x3)] → W p l e ({ frames := 2, cells := 0, slots := 0, locals := 48 } : Room) s m args below meth c H locs 0 0 (MQ below (m_Q D B K (some (.int r)) n g') args s 0 0 (fun q => B ≤ q)) (F0 m 8 ls [])) (k_29 : m_G → Nat → Int32 → Int32 → Int32 → Int32 → Option (Int32 × m_G)) (hk_29 : ∀ (g : m_G) (a0 : Nat) (x1 : Int32) (x2 : Int32) (x3 : Int32) (x4 : Int32) (r : Int32) (g' : m_G), k_29 g a0 x1 x2 x3 x4 = some (r, g') → ∀ (H : Heap) (locs : List Loc), m_S D B K n g s.heap H locs → ∀ ls : Array Slot, lv_has ls 5 [(0, .ref (B + a0)), (1, .int x1), (2, .int x2), (3, .int x3), (4, .int x4)] → W p l e ({ frames := 2, cells := 0, slots := 0, locals := 48 } : Room) s m args below meth c H locs 0 0 (MQ below (m_Q D B K (some (.int r)) n g') args s 0 0 (fun q => B ≤ q)) (F0 m 29 ls [])) : ∀ (g : m_G) (a0 : Nat) (x1 : Int32) (x2 : Int32) (x3 : Int32) (x4 : Int32) (r : Int32) (g' : m_G), f_Mod_related_89 k_8 k_29 g a0 x1 x2 x3 x4 = some (r, g') → ∀ (H : Heap) (locs : List Loc), m_S D B K n g s.heap H locs → ∀ ls : Array Slot, lv_has ls 5 [(0, .ref (B + a0)), (1, .int x1), (2, .int x2), (3, .int x3), (4, .int x4)] → W p l e ({ frames := 2, cells := 0, slots := 0, locals := 48 } : Room) s m args below meth c H locs 0 0 (MQ below (m_Q D B K (some (.int r)) n g') args s 0 0 (fun q => B ≤ q)) (F0 m 89 ls []) := by
  have hx := E.1.1
  have hb := E.1.2.1
  have hts := E.1.2.2.2.2
  intro g a0 x1 x2 x3 x4 r g' hF H locs S ls hl
  unfold f_Mod_related_89 at hF
  refine lv_iinc (v := (x4 + 1)) (lv' := [(4, .int (x4 + 1)), (0, .ref (B + a0)), (1, .int x1), (2, .int x2), (3, .int x3)]) hx hb d_Mod_related_89 hl (k := 4) rfl rfl (by decide) rfl (fun ls hl => ?_)
  refine lv_goto (tgt := 29) hx hb d_Mod_related_92 (by decide) ?_
  exact hk_29 _ _ _ _ _ _ _ _ hF _ _ S _ (lv_sub hl [1, 2, 3, 4, 0] rfl)
def f_Mod_related_29  (k_8 : m_G → Nat → Int32 → Int32 → Int32 → Option (Int32 × m_G)) : Nat → m_G → Nat → Int32 → Int32 → Int32 → Int32 → Option (Int32 × m_G)
  | 0, _, _, _, _, _, _ => none
  | fu + 1, g, a0, x1, x2, x3, x4 =>
    if (12 : Int32) ≤ x4 then
      f_Mod_related_95 k_8 g a0 x1 x2 x3
    else
      (m_gR g a0 8 7).bind fun v_2 =>
      Option.bind v_2 fun a_3 =>
      (m_ld g a_3 3 x4).bind fun v_4 =>
      if (v_4 : Int32) = 0 then
        f_Mod_related_89 k_8 (f_Mod_related_29 k_8 fu) g a0 x1 x2 x3 x4
      else
        (m_gI g a0 8 20).bind fun v_6 =>
        if (((v_6 >>> (x4 &&& 31)) &&& 1) : Int32) = 1 then
          (m_gR g a0 8 8).bind fun v_8 =>
          Option.bind v_8 fun a_9 =>
          (m_ld g a_9 0 x4).bind fun v_10 =>
          m_gd (m_is g a0 8) <|
          m_bd (f_Mod_top g a0 v_10) fun v_12 g_11 =>
          (m_gR g_11 a0 8 8).bind fun v_13 =>
          Option.bind v_13 fun a_14 =>
          (m_ld g_11 a_14 0 x3).bind fun v_15 =>
          m_gd (m_is g_11 a0 8) <|
          m_bd (f_Mod_top g_11 a0 v_15) fun v_17 g_16 =>
          if (v_12 : Int32) = v_17 then
            f_Mod_related_89 k_8 (f_Mod_related_29 k_8 fu) g_16 a0 x1 (x2 ||| (1 <<< (x3 &&& 31))) x3 x4
          else
            f_Mod_related_89 k_8 (f_Mod_related_29 k_8 fu) g_16 a0 x1 x2 x3 x4
        else
          f_Mod_related_89 k_8 (f_Mod_related_29 k_8 fu) g a0 x1 x2 x3 x4
set_option maxHeartbeats 1000000 in
set_option maxRecDepth 100000 in
theorem c_Mod_related_29 (E : m_V p m c b_Mod_related 5 s args R_Mod D K) (hr : meth.sig.returnType = (some .int)) (hlk : meth.locks = false) (hz : s.heap.size + 0 = B + n)  (k_8 : m_G → Nat → Int32 → Int32 → Int32 → Option (Int32 × m_G)) (hk_8 : ∀ (g : m_G) (a0 : Nat) (x1 : Int32) (x2 : Int32) (x3 : Int32) (r : Int32) (g' : m_G), k_8 g a0 x1 x2 x3 = some (r, g') → ∀ (H : Heap) (locs : List Loc), m_S D B K n g s.heap H locs → ∀ ls : Array Slot, lv_has ls 5 [(0, .ref (B + a0)), (1, .int x1), (2, .int x2), (3, .int x3)] → W p l e ({ frames := 2, cells := 0, slots := 0, locals := 48 } : Room) s m args below meth c H locs 0 0 (MQ below (m_Q D B K (some (.int r)) n g') args s 0 0 (fun q => B ≤ q)) (F0 m 8 ls [])) : ∀ fu : Nat, ∀ (g : m_G) (a0 : Nat) (x1 : Int32) (x2 : Int32) (x3 : Int32) (x4 : Int32) (r : Int32) (g' : m_G), f_Mod_related_29 k_8 fu g a0 x1 x2 x3 x4 = some (r, g') → ∀ (H : Heap) (locs : List Loc), m_S D B K n g s.heap H locs → ∀ ls : Array Slot, lv_has ls 5 [(0, .ref (B + a0)), (1, .int x1), (2, .int x2), (3, .int x3), (4, .int x4)] → W p l e ({ frames := 2, cells := 0, slots := 0, locals := 48 } : Room) s m args below meth c H locs 0 0 (MQ below (m_Q D B K (some (.int r)) n g') args s 0 0 (fun q => B ≤ q)) (F0 m 29 ls []) := by
  have hx := E.1.1
  have hb := E.1.2.1
  have hts := E.1.2.2.2.2
  intro fu
  induction fu with
  | zero => intro g a0 x1 x2 x3 x4 r g' hF; cases hF
  | succ fu ih =>
    intro g a0 x1 x2 x3 x4 r g' hF H locs S ls hl
    rw [f_Mod_related_29] at hF
    refine lv_iload hx hb d_Mod_related_29 (lv_at hl 4 rfl) ?_
    refine lv_bipush (v := 12) hx hb d_Mod_related_31 (by decide) ?_
    refine lv_icmp_ge (tgt := 95) hx hb d_Mod_related_33 (by decide) (fun c_1 => ?_) (fun c_1 => ?_)
    · rw [if_pos c_1] at hF
      exact c_Mod_related_95 E hr hlk hz k_8 hk_8 _ _ _ _ _ _ _ hF _ _ S _ (lv_sub hl [0, 1, 2, 3] rfl)
    · rw [if_neg c_1] at hF
      refine lv_aload_n hx hb d_Mod_related_36 rfl (lv_at hl 0 rfl) ?_
      replace hF := Option.bind_eq_some_iff.mp hF
      obtain ⟨v_2, ev_2, hF⟩ := hF
      refine m_getR (B := B) (a := a0) E S fd_Mod_there (Or.inl qw_289) ev_2 d_Mod_related_37 ?_
      refine lv_iload hx hb d_Mod_related_40 (lv_at hl 4 rfl) ?_
      replace hF := Option.bind_eq_some_iff.mp hF
      obtain ⟨a_3, ea_3, hF⟩ := hF
      subst ea_3
      replace hF := Option.bind_eq_some_iff.mp hF
      obtain ⟨v_4, ev_4, hF⟩ := hF
      refine m_zald (B := B) (a := a_3) (t := 3) E S rfl ev_4 d_Mod_related_42 ?_
      refine lv_if_eq (tgt := 89) hx hb d_Mod_related_43 (by decide) (fun c_5 => ?_) (fun c_5 => ?_)
      · rw [if_pos c_5] at hF
        exact c_Mod_related_89 E hr hlk hz k_8 hk_8 (f_Mod_related_29 k_8 fu) ih _ _ _ _ _ _ _ _ hF _ _ S _ (lv_sub hl [0, 1, 2, 3, 4] rfl)
      · rw [if_neg c_5] at hF
        refine lv_aload_n hx hb d_Mod_related_46 rfl (lv_at hl 0 rfl) ?_
        replace hF := Option.bind_eq_some_iff.mp hF
        obtain ⟨v_6, ev_6, hF⟩ := hF
        refine m_getI (B := B) (a := a0) E S fd_Mod_found (Or.inl qw_390) ev_6 d_Mod_related_47 ?_
        refine lv_iload hx hb d_Mod_related_50 (lv_at hl 4 rfl) ?_
        refine lv_ishr hx hb d_Mod_related_52 ?_
        refine lv_iconst (v := 1) hx hb d_Mod_related_53 (by decide) ?_
        refine lv_iand hx hb d_Mod_related_54 ?_
        refine lv_iconst (v := 1) hx hb d_Mod_related_55 (by decide) ?_
        refine lv_icmp_ne (tgt := 89) hx hb d_Mod_related_56 (by decide) (fun c_7 => ?_) (fun c_7 => ?_)
        · rw [if_neg c_7] at hF
          exact c_Mod_related_89 E hr hlk hz k_8 hk_8 (f_Mod_related_29 k_8 fu) ih _ _ _ _ _ _ _ _ hF _ _ S _ (lv_sub hl [0, 1, 2, 3, 4] rfl)
        · rw [if_pos c_7] at hF
          refine lv_aload_n hx hb d_Mod_related_59 rfl (lv_at hl 0 rfl) ?_
          refine lv_aload_n hx hb d_Mod_related_60 rfl (lv_at hl 0 rfl) ?_
          replace hF := Option.bind_eq_some_iff.mp hF
          obtain ⟨v_8, ev_8, hF⟩ := hF
          refine m_getR (B := B) (a := a0) E S fd_Mod_ids (Or.inl qw_290) ev_8 d_Mod_related_61 ?_
          refine lv_iload hx hb d_Mod_related_64 (lv_at hl 4 rfl) ?_
          replace hF := Option.bind_eq_some_iff.mp hF
          obtain ⟨a_9, ea_9, hF⟩ := hF
          subst ea_9
          replace hF := Option.bind_eq_some_iff.mp hF
          obtain ⟨v_10, ev_10, hF⟩ := hF
          refine m_iald (B := B) (a := a_9) (t := 0) E S rfl ev_10 d_Mod_related_66 ?_
          replace hF := m_gd_inv hF
          obtain ⟨eog_11, hF⟩ := hF
          replace hF := m_bd_inv hF
          obtain ⟨v_12, g_11, eg_11, hF⟩ := hF
          refine m_callV (B := B) (nn := 1) (b := a0) (As := [.int v_10]) (rest := []) (v := (some (.int v_12))) E S hz (c_Mod_top l D B K n g a0 v_10 v_12 g_11 eg_11) qc_Mod_top ⟨rfl, rfl⟩ (Or.inl qw_410) qw_411 qw_412 qw_304 (by decide +kernel) ⟨Nat.le_of_ble_eq_true rfl, Nat.le_of_ble_eq_true rfl⟩ eog_11 rfl rfl hl.1 (Nat.le_of_ble_eq_true rfl) d_Mod_related_67 ⟨Nat.le_of_ble_eq_true rfl, Nat.le_of_ble_eq_true rfl⟩ (fun H locs S => ?_)
          refine W.eq (g2 := F0 m 70 ls [.int v_12]) rfl ?_
          refine lv_aload_n hx hb d_Mod_related_70 rfl (lv_at hl 0 rfl) ?_
          refine lv_aload_n hx hb d_Mod_related_71 rfl (lv_at hl 0 rfl) ?_
          replace hF := Option.bind_eq_some_iff.mp hF
          obtain ⟨v_13, ev_13, hF⟩ := hF
          refine m_getR (B := B) (a := a0) E S fd_Mod_ids (Or.inl qw_290) ev_13 d_Mod_related_72 ?_
          refine lv_iload_n hx hb d_Mod_related_75 rfl (lv_at hl 3 rfl) ?_
          replace hF := Option.bind_eq_some_iff.mp hF
          obtain ⟨a_14, ea_14, hF⟩ := hF
          subst ea_14
          replace hF := Option.bind_eq_some_iff.mp hF
          obtain ⟨v_15, ev_15, hF⟩ := hF
          refine m_iald (B := B) (a := a_14) (t := 0) E S rfl ev_15 d_Mod_related_76 ?_
          replace hF := m_gd_inv hF
          obtain ⟨eog_16, hF⟩ := hF
          replace hF := m_bd_inv hF
          obtain ⟨v_17, g_16, eg_16, hF⟩ := hF
          refine m_callV (B := B) (nn := 1) (b := a0) (As := [.int v_15]) (rest := [.int v_12]) (v := (some (.int v_17))) E S hz (c_Mod_top l D B K n g_11 a0 v_15 v_17 g_16 eg_16) qc_Mod_top ⟨rfl, rfl⟩ (Or.inl qw_410) qw_411 qw_412 qw_304 (by decide +kernel) ⟨Nat.le_of_ble_eq_true rfl, Nat.le_of_ble_eq_true rfl⟩ eog_16 rfl rfl hl.1 (Nat.le_of_ble_eq_true rfl) d_Mod_related_77 ⟨Nat.le_of_ble_eq_true rfl, Nat.le_of_ble_eq_true rfl⟩ (fun H locs S => ?_)
          refine W.eq (g2 := F0 m 80 ls [.int v_17, .int v_12]) rfl ?_
          refine lv_icmp_ne (tgt := 89) hx hb d_Mod_related_80 (by decide) (fun c_18 => ?_) (fun c_18 => ?_)
          · rw [if_neg c_18] at hF
            exact c_Mod_related_89 E hr hlk hz k_8 hk_8 (f_Mod_related_29 k_8 fu) ih _ _ _ _ _ _ _ _ hF _ _ S _ (lv_sub hl [0, 1, 2, 3, 4] rfl)
          · rw [if_pos c_18] at hF
            refine lv_iload_n hx hb d_Mod_related_83 rfl (lv_at hl 2 rfl) ?_
            refine lv_iconst (v := 1) hx hb d_Mod_related_84 (by decide) ?_
            refine lv_iload_n hx hb d_Mod_related_85 rfl (lv_at hl 3 rfl) ?_
            refine lv_ishl hx hb d_Mod_related_86 ?_
            refine lv_ior hx hb d_Mod_related_87 ?_
            refine lv_istore_n (lv' := [(2, .int (x2 ||| (1 <<< (x3 &&& 31)))), (0, .ref (B + a0)), (1, .int x1), (3, .int x3), (4, .int x4)]) hx hb d_Mod_related_88 rfl hl (by decide) rfl (fun ls hl => ?_)
            exact c_Mod_related_89 E hr hlk hz k_8 hk_8 (f_Mod_related_29 k_8 fu) ih _ _ _ _ _ _ _ _ hF _ _ S _ (lv_sub hl [1, 2, 0, 3, 4] rfl)
def f_Mod_related_8   : Nat → m_G → Nat → Int32 → Int32 → Int32 → Option (Int32 × m_G)
  | 0, _, _, _, _, _ => none
  | fu + 1, g, a0, x1, x2, x3 =>
    if (12 : Int32) ≤ x3 then
      m_bd (f_Mod_pick g x2 x1) fun v_3 g_2 =>
      some (v_3, g_2)
    else
      (m_gR g a0 8 7).bind fun v_4 =>
      Option.bind v_4 fun a_5 =>
      (m_ld g a_5 3 x3).bind fun v_6 =>
      if (v_6 : Int32) = 0 then
        f_Mod_related_95 (f_Mod_related_8 fu) g a0 x1 x2 x3
      else
        f_Mod_related_29 (f_Mod_related_8 fu) m_fu g a0 x1 x2 x3 0
set_option maxHeartbeats 1000000 in
set_option maxRecDepth 100000 in
theorem c_Mod_related_8 (E : m_V p m c b_Mod_related 5 s args R_Mod D K) (hr : meth.sig.returnType = (some .int)) (hlk : meth.locks = false) (hz : s.heap.size + 0 = B + n)   : ∀ fu : Nat, ∀ (g : m_G) (a0 : Nat) (x1 : Int32) (x2 : Int32) (x3 : Int32) (r : Int32) (g' : m_G), f_Mod_related_8  fu g a0 x1 x2 x3 = some (r, g') → ∀ (H : Heap) (locs : List Loc), m_S D B K n g s.heap H locs → ∀ ls : Array Slot, lv_has ls 5 [(0, .ref (B + a0)), (1, .int x1), (2, .int x2), (3, .int x3)] → W p l e ({ frames := 2, cells := 0, slots := 0, locals := 48 } : Room) s m args below meth c H locs 0 0 (MQ below (m_Q D B K (some (.int r)) n g') args s 0 0 (fun q => B ≤ q)) (F0 m 8 ls []) := by
  have hx := E.1.1
  have hb := E.1.2.1
  have hts := E.1.2.2.2.2
  intro fu
  induction fu with
  | zero => intro g a0 x1 x2 x3 r g' hF; cases hF
  | succ fu ih =>
    intro g a0 x1 x2 x3 r g' hF H locs S ls hl
    rw [f_Mod_related_8] at hF
    refine lv_iload_n hx hb d_Mod_related_8 rfl (lv_at hl 3 rfl) ?_
    refine lv_bipush (v := 12) hx hb d_Mod_related_9 (by decide) ?_
    refine lv_icmp_ge (tgt := 101) hx hb d_Mod_related_11 (by decide) (fun c_1 => ?_) (fun c_1 => ?_)
    · rw [if_pos c_1] at hF
      refine lv_iload_n hx hb d_Mod_related_101 rfl (lv_at hl 2 rfl) ?_
      refine lv_iload_n hx hb d_Mod_related_102 rfl (lv_at hl 1 rfl) ?_
      replace hF := m_bd_inv hF
      obtain ⟨v_3, g_2, eg_2, hF⟩ := hF
      refine m_callS (B := B) (nn := 2) (As := [.int x2, .int x1]) (rest := []) (v := (some (.int v_3))) E S hz (c_Mod_pick l D B K n g x2 x1 v_3 g_2 eg_2) qc_Mod_pick ⟨rfl, rfl⟩ (Or.inl qw_399) qw_400 qw_304 (by decide +kernel) ⟨Nat.le_of_ble_eq_true rfl, Nat.le_of_ble_eq_true rfl⟩ rfl hl.1 (Nat.le_of_ble_eq_true rfl) d_Mod_related_103 ⟨Nat.le_of_ble_eq_true rfl, Nat.le_of_ble_eq_true rfl⟩ (fun H locs S => ?_)
      refine W.eq (g2 := F0 m 106 ls [.int v_3]) rfl ?_
      cases hF
      exact m_iret E S hz hr hlk d_Mod_related_106
    · rw [if_neg c_1] at hF
      refine lv_aload_n hx hb d_Mod_related_14 rfl (lv_at hl 0 rfl) ?_
      replace hF := Option.bind_eq_some_iff.mp hF
      obtain ⟨v_4, ev_4, hF⟩ := hF
      refine m_getR (B := B) (a := a0) E S fd_Mod_there (Or.inl qw_289) ev_4 d_Mod_related_15 ?_
      refine lv_iload_n hx hb d_Mod_related_18 rfl (lv_at hl 3 rfl) ?_
      replace hF := Option.bind_eq_some_iff.mp hF
      obtain ⟨a_5, ea_5, hF⟩ := hF
      subst ea_5
      replace hF := Option.bind_eq_some_iff.mp hF
      obtain ⟨v_6, ev_6, hF⟩ := hF
      refine m_zald (B := B) (a := a_5) (t := 3) E S rfl ev_6 d_Mod_related_19 ?_
      refine lv_if_ne (tgt := 26) hx hb d_Mod_related_20 (by decide) (fun c_7 => ?_) (fun c_7 => ?_)
      · rw [if_neg c_7] at hF
        refine lv_iconst (v := 0) hx hb d_Mod_related_26 (by decide) ?_
        refine lv_istore (lv' := [(4, .int 0), (0, .ref (B + a0)), (1, .int x1), (2, .int x2), (3, .int x3)]) hx hb d_Mod_related_27 hl (by decide) rfl (fun ls hl => ?_)
        exact c_Mod_related_29 E hr hlk hz (f_Mod_related_8 fu) ih m_fu _ _ _ _ _ _ _ _ hF _ _ S _ (lv_sub hl [1, 2, 3, 4, 0] rfl)
      · rw [if_pos c_7] at hF
        refine lv_goto (tgt := 95) hx hb d_Mod_related_23 (by decide) ?_
        exact c_Mod_related_95 E hr hlk hz (f_Mod_related_8 fu) ih _ _ _ _ _ _ _ hF _ _ S _ (lv_sub hl [0, 1, 2, 3] rfl)
end S_Mod_related
def f_Mod_related  (g : m_G) (a0 : Nat) (x1 : Int32) : Option (Int32 × m_G) :=
  m_gd (m_is g a0 8) <|
  m_bd (f_Mod_linkAll g a0) fun v_2 g_1 =>
  f_Mod_related_8 m_fu g_1 a0 x1 0 0
set_option maxHeartbeats 1000000 in
set_option maxRecDepth 100000 in
theorem c_Mod_related (l : Launch) (D : va_G) (B : Nat) (K : Nat → ClassId)  (n : Nat) (g : m_G) (a0 : Nat) (x1 : Int32) (r : Int32) (g' : m_G) (hF : f_Mod_related g a0 x1 = some (r, g')) : Met l y_Mod_related (Cond.code y_Mod_related b_Mod_related 5 (some .int) :: m_TB) ({ frames := 2, cells := 0, slots := 0, locals := 48 } : Room) (m_Pc D B K n g [.ref (B + a0), .int x1]) (m_Q D B K (some (.int r)) n g') 0 0 (fun q => B ≤ q) := by
  refine m_met (by decide) (Nat.le_of_ble_eq_true rfl) ?_
  intro p e s m args below meth c ls E hr hlk hin hsz S hl
  have E : m_V p m c b_Mod_related 5 s args R_Mod D K := E
  have hz : s.heap.size + 0 = B + n := hsz
  have hl : lv_has ls 5 [(0, .ref (B + a0)), (1, .int x1)] := hl
  have hx := E.1.1
  have hb := E.1.2.1
  have hts := E.1.2.2.2.2
  unfold f_Mod_related at hF
  refine lv_aload_n hx hb d_Mod_related_0 rfl (lv_at hl 0 rfl) ?_
  replace hF := m_gd_inv hF
  obtain ⟨eog_1, hF⟩ := hF
  replace hF := m_bd_inv hF
  obtain ⟨v_2, g_1, eg_1, hF⟩ := hF
  refine m_callV (B := B) (nn := 0) (b := a0) (As := []) (rest := []) (v := none) E S hz (c_Mod_linkAll l D B K n g a0 v_2 g_1 eg_1) qc_Mod_linkAll ⟨rfl, rfl⟩ (Or.inl qw_407) qw_408 qw_409 qw_304 (by decide +kernel) ⟨Nat.le_of_ble_eq_true rfl, Nat.le_of_ble_eq_true rfl⟩ eog_1 rfl rfl hl.1 (Nat.le_of_ble_eq_true rfl) d_Mod_related_1 ⟨Nat.le_of_ble_eq_true rfl, Nat.le_of_ble_eq_true rfl⟩ (fun H locs S => ?_)
  refine W.eq (g2 := F0 m 4 ls []) rfl ?_
  refine lv_iconst (v := 0) hx hb d_Mod_related_4 (by decide) ?_
  refine lv_istore_n (lv' := [(2, .int 0), (0, .ref (B + a0)), (1, .int x1)]) hx hb d_Mod_related_5 rfl hl (by decide) rfl (fun ls hl => ?_)
  refine lv_iconst (v := 0) hx hb d_Mod_related_6 (by decide) ?_
  refine lv_istore_n (lv' := [(3, .int 0), (2, .int 0), (0, .ref (B + a0)), (1, .int x1)]) hx hb d_Mod_related_7 rfl hl (by decide) rfl (fun ls hl => ?_)
  exact c_Mod_related_8 E hr hlk hz m_fu _ _ _ _ _ _ _ hF _ _ S _ (lv_sub hl [2, 3, 1, 0] rfl)
section S_Mod_idOf
variable {p : Program} {l : Launch} {e : Env} {s : State} {m : MethodId} {args : Array Value} {below : List Frame} {meth : Method} {c : Code} {D : va_G} {B n : Nat} {K : Nat → ClassId}
def f_Mod_idOf_18   (g : m_G) (y0 : Int32) : Option (Int32 × m_G) :=
  some (y0, g)
set_option maxHeartbeats 1000000 in
set_option maxRecDepth 100000 in
theorem c_Mod_idOf_18 (E : m_V p m c b_Mod_idOf 2 s args R_Mod D K) (hr : meth.sig.returnType = (some .int)) (hlk : meth.locks = false) (hz : s.heap.size + 0 = B + n)   : ∀ (g : m_G) (y0 : Int32) (r : Int32) (g' : m_G), f_Mod_idOf_18 g y0 = some (r, g') → ∀ (H : Heap) (locs : List Loc), m_S D B K n g s.heap H locs → ∀ ls : Array Slot, lv_has ls 2 [] → W p l e ({ frames := 2, cells := 0, slots := 0, locals := 42 } : Room) s m args below meth c H locs 0 0 (MQ below (m_Q D B K (some (.int r)) n g') args s 0 0 (fun q => B ≤ q)) (F0 m 18 ls [.int y0]) := by
  have hx := E.1.1
  have hb := E.1.2.1
  have hts := E.1.2.2.2.2
  intro g y0 r g' hF H locs S ls hl
  unfold f_Mod_idOf_18 at hF
  cases hF
  exact m_iret E S hz hr hlk d_Mod_idOf_18
end S_Mod_idOf
def f_Mod_idOf  (g : m_G) (a0 : Nat) (x1 : Int32) : Option (Int32 × m_G) :=
  m_gd (m_is g a0 8) <|
  m_bd (f_Mod_noMessage g a0 x1) fun v_2 g_1 =>
  if (v_2 : Int32) = 0 then
    (m_gR g_1 a0 8 8).bind fun v_4 =>
    Option.bind v_4 fun a_5 =>
    (m_ld g_1 a_5 0 x1).bind fun v_6 =>
    f_Mod_idOf_18 g_1 v_6
  else
    f_Mod_idOf_18 g_1 (-1)
set_option maxHeartbeats 1000000 in
set_option maxRecDepth 100000 in
theorem c_Mod_idOf (l : Launch) (D : va_G) (B : Nat) (K : Nat → ClassId)  (n : Nat) (g : m_G) (a0 : Nat) (x1 : Int32) (r : Int32) (g' : m_G) (hF : f_Mod_idOf g a0 x1 = some (r, g')) : Met l y_Mod_idOf (Cond.code y_Mod_idOf b_Mod_idOf 2 (some .int) :: m_TB) ({ frames := 2, cells := 0, slots := 0, locals := 42 } : Room) (m_Pc D B K n g [.ref (B + a0), .int x1]) (m_Q D B K (some (.int r)) n g') 0 0 (fun q => B ≤ q) := by
  refine m_met (by decide) (Nat.le_of_ble_eq_true rfl) ?_
  intro p e s m args below meth c ls E hr hlk hin hsz S hl
  have E : m_V p m c b_Mod_idOf 2 s args R_Mod D K := E
  have hz : s.heap.size + 0 = B + n := hsz
  have hl : lv_has ls 2 [(0, .ref (B + a0)), (1, .int x1)] := hl
  have hx := E.1.1
  have hb := E.1.2.1
  have hts := E.1.2.2.2.2
  unfold f_Mod_idOf at hF
  refine lv_aload_n hx hb d_Mod_idOf_0 rfl (lv_at hl 0 rfl) ?_
  refine lv_iload_n hx hb d_Mod_idOf_1 rfl (lv_at hl 1 rfl) ?_
  replace hF := m_gd_inv hF
  obtain ⟨eog_1, hF⟩ := hF
  replace hF := m_bd_inv hF
  obtain ⟨v_2, g_1, eg_1, hF⟩ := hF
  refine m_callV (B := B) (nn := 1) (b := a0) (As := [.int x1]) (rest := []) (v := (some (.int v_2))) E S hz (c_Mod_noMessage l D B K n g a0 x1 v_2 g_1 eg_1) qc_Mod_noMessage ⟨rfl, rfl⟩ (Or.inl qw_357) qw_358 qw_359 qw_304 (by decide +kernel) ⟨Nat.le_of_ble_eq_true rfl, Nat.le_of_ble_eq_true rfl⟩ eog_1 rfl rfl hl.1 (Nat.le_of_ble_eq_true rfl) d_Mod_idOf_2 ⟨Nat.le_of_ble_eq_true rfl, Nat.le_of_ble_eq_true rfl⟩ (fun H locs S => ?_)
  refine W.eq (g2 := F0 m 5 ls [.int v_2]) rfl ?_
  refine lv_if_eq (tgt := 12) hx hb d_Mod_idOf_5 (by decide) (fun c_3 => ?_) (fun c_3 => ?_)
  · rw [if_pos c_3] at hF
    refine lv_aload_n hx hb d_Mod_idOf_12 rfl (lv_at hl 0 rfl) ?_
    replace hF := Option.bind_eq_some_iff.mp hF
    obtain ⟨v_4, ev_4, hF⟩ := hF
    refine m_getR (B := B) (a := a0) E S fd_Mod_ids (Or.inl qw_290) ev_4 d_Mod_idOf_13 ?_
    refine lv_iload_n hx hb d_Mod_idOf_16 rfl (lv_at hl 1 rfl) ?_
    replace hF := Option.bind_eq_some_iff.mp hF
    obtain ⟨a_5, ea_5, hF⟩ := hF
    subst ea_5
    replace hF := Option.bind_eq_some_iff.mp hF
    obtain ⟨v_6, ev_6, hF⟩ := hF
    refine m_iald (B := B) (a := a_5) (t := 0) E S rfl ev_6 d_Mod_idOf_17 ?_
    exact c_Mod_idOf_18 E hr hlk hz _ _ _ _ hF _ _ S _ (lv_sub hl [] rfl)
  · rw [if_neg c_3] at hF
    refine lv_iconst (v := (-1)) hx hb d_Mod_idOf_8 (by decide) ?_
    refine lv_goto (tgt := 18) hx hb d_Mod_idOf_9 (by decide) ?_
    exact c_Mod_idOf_18 E hr hlk hz _ _ _ _ hF _ _ S _ (lv_sub hl [] rfl)
