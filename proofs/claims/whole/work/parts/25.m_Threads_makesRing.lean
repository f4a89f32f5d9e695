section S_Threads_makesRing
variable {p : Program} {l : Launch} {e : Env} {s : State} {m : MethodId} {args : Array Value} {below : List Frame} {meth : Method} {c : Code} {D : va_G} {B n : Nat} {K : Nat → ClassId}
def f_Threads_makesRing_37   (g : m_G)  : Option (Int32 × m_G) :=
  some (0, g)
set_option maxHeartbeats 1000000 in
set_option maxRecDepth 100000 in
theorem c_Threads_makesRing_37 (E : m_V p m c b_Threads_makesRing 5 s args R_Threads D K) (hr : meth.sig.returnType = (some .boolean)) (hlk : meth.locks = false) (hz : s.heap.size + 0 = B + n)   : ∀ (g : m_G)  (r : Int32) (g' : m_G), f_Threads_makesRing_37 g  = some (r, g') → ∀ (H : Heap) (locs : List Loc), m_S D B K n g s.heap H locs → ∀ ls : Array Slot, lv_has ls 5 [] → W p l e ({ frames := 0, cells := 0, slots := 0, locals := 0 } : Room) s m args below meth c H locs 0 0 (MQ below (m_Q D B K (some (.int r)) n g') args s 0 0 (fun q => B ≤ q)) (F0 m 37 ls []) := by
  have hx := E.1.1
  have hb := E.1.2.1
  have hts := E.1.2.2.2.2
  intro g  r g' hF H locs S ls hl
  unfold f_Threads_makesRing_37 at hF
  refine lv_iconst (v := 0) hx hb d_Threads_makesRing_37 (by decide) ?_
  cases hF
  exact m_zret E S hz hr hlk (by decide) d_Threads_makesRing_38
def f_Threads_makesRing_5   : Nat → m_G → Nat → Int32 → Int32 → Int32 → Option (Int32 × m_G)
  | 0, _, _, _, _, _ => none
  | fu + 1, g, a0, x1, x3, x4 =>
    if (64 : Int32) ≤ x4 then
      f_Threads_makesRing_37 g 
    else
      if (x3 : Int32) = (-1) then
        f_Threads_makesRing_37 g 
      else
        if (x3 : Int32) = x1 then
          some (1, g)
        else
          (m_gR g a0 6 0).bind fun v_4 =>
          Option.bind v_4 fun a_5 =>
          (m_ld g a_5 0 x3).bind fun v_6 =>
          f_Threads_makesRing_5 fu g a0 x1 v_6 (x4 + 1)
set_option maxHeartbeats 1000000 in
set_option maxRecDepth 100000 in
theorem c_Threads_makesRing_5 (E : m_V p m c b_Threads_makesRing 5 s args R_Threads D K) (hr : meth.sig.returnType = (some .boolean)) (hlk : meth.locks = false) (hz : s.heap.size + 0 = B + n)   : ∀ fu : Nat, ∀ (g : m_G) (a0 : Nat) (x1 : Int32) (x3 : Int32) (x4 : Int32) (r : Int32) (g' : m_G), f_Threads_makesRing_5  fu g a0 x1 x3 x4 = some (r, g') → ∀ (H : Heap) (locs : List Loc), m_S D B K n g s.heap H locs → ∀ ls : Array Slot, lv_has ls 5 [(0, .ref (B + a0)), (1, .int x1), (3, .int x3), (4, .int x4)] → W p l e ({ frames := 0, cells := 0, slots := 0, locals := 0 } : Room) s m args below meth c H locs 0 0 (MQ below (m_Q D B K (some (.int r)) n g') args s 0 0 (fun q => B ≤ q)) (F0 m 5 ls []) := by
  have hx := E.1.1
  have hb := E.1.2.1
  have hts := E.1.2.2.2.2
  intro fu
  induction fu with
  | zero => intro g a0 x1 x3 x4 r g' hF; cases hF
  | succ fu ih =>
    intro g a0 x1 x3 x4 r g' hF H locs S ls hl
    rw [f_Threads_makesRing_5] at hF
    refine lv_iload hx hb d_Threads_makesRing_5 (lv_at hl 3 rfl) ?_
    refine lv_bipush (v := 64) hx hb d_Threads_makesRing_7 (by decide) ?_
    refine lv_icmp_ge (tgt := 37) hx hb d_Threads_makesRing_9 (by decide) (fun c_1 => ?_) (fun c_1 => ?_)
    · rw [if_pos c_1] at hF
      exact c_Threads_makesRing_37 E hr hlk hz _ _ _ hF _ _ S _ (lv_sub hl [] rfl)
    · rw [if_neg c_1] at hF
      refine lv_iload_n hx hb d_Threads_makesRing_12 rfl (lv_at hl 2 rfl) ?_
      refine lv_iconst (v := (-1)) hx hb d_Threads_makesRing_13 (by decide) ?_
      refine lv_icmp_eq (tgt := 37) hx hb d_Threads_makesRing_14 (by decide) (fun c_2 => ?_) (fun c_2 => ?_)
      · rw [if_pos c_2] at hF
        exact c_Threads_makesRing_37 E hr hlk hz _ _ _ hF _ _ S _ (lv_sub hl [] rfl)
      · rw [if_neg c_2] at hF
        refine lv_iload_n hx hb d_Threads_makesRing_17 rfl (lv_at hl 2 rfl) ?_
        refine lv_iload_n hx hb d_Threads_makesRing_18 rfl (lv_at hl 1 rfl) ?_
        refine lv_icmp_ne (tgt := 24) hx hb d_Threads_makesRing_19 (by decide) (fun c_3 => ?_) (fun c_3 => ?_)
        · rw [if_neg c_3] at hF
          refine lv_aload_n hx hb d_Threads_makesRing_24 rfl (lv_at hl 0 rfl) ?_
          replace hF := Option.bind_eq_some_iff.mp hF
          obtain ⟨v_4, ev_4, hF⟩ := hF
          refine m_getR (B := B) (a := a0) E S fd_Threads_parents (Or.inl qw_46) ev_4 d_Threads_makesRing_25 ?_
          refine lv_iload_n hx hb d_Threads_makesRing_28 rfl (lv_at hl 2 rfl) ?_
          replace hF := Option.bind_eq_some_iff.mp hF
          obtain ⟨a_5, ea_5, hF⟩ := hF
          subst ea_5
          replace hF := Option.bind_eq_some_iff.mp hF
          obtain ⟨v_6, ev_6, hF⟩ := hF
          refine m_iald (B := B) (a := a_5) (t := 0) E S rfl ev_6 d_Threads_makesRing_29 ?_
          refine lv_istore_n (lv' := [(3, .int v_6), (0, .ref (B + a0)), (1, .int x1), (4, .int x4)]) hx hb d_Threads_makesRing_30 rfl hl (by decide) rfl (fun ls hl => ?_)
          refine lv_iinc (v := (x4 + 1)) (lv' := [(4, .int (x4 + 1)), (3, .int v_6), (0, .ref (B + a0)), (1, .int x1)]) hx hb d_Threads_makesRing_31 hl (k := 3) rfl rfl (by decide) rfl (fun ls hl => ?_)
          refine lv_goto (tgt := 5) hx hb d_Threads_makesRing_34 (by decide) ?_
          exact ih _ _ _ _ _ _ _ hF _ _ S _ (lv_sub hl [2, 3, 1, 0] rfl)
        · rw [if_pos c_3] at hF
          refine lv_iconst (v := 1) hx hb d_Threads_makesRing_22 (by decide) ?_
          cases hF
          exact m_zret E S hz hr hlk (by decide) d_Threads_makesRing_23
end S_Threads_makesRing
def f_Threads_makesRing  (g : m_G) (a0 : Nat) (x1 : Int32) (x2 : Int32) : Option (Int32 × m_G) :=
  f_Threads_makesRing_5 m_fu g a0 x1 x2 0
set_option maxHeartbeats 1000000 in
set_option maxRecDepth 100000 in
theorem c_Threads_makesRing (l : Launch) (D : va_G) (B : Nat) (K : Nat → ClassId)  (n : Nat) (g : m_G) (a0 : Nat) (x1 : Int32) (x2 : Int32) (r : Int32) (g' : m_G) (hF : f_Threads_makesRing g a0 x1 x2 = some (r, g')) : Met l y_Threads_makesRing (Cond.code y_Threads_makesRing b_Threads_makesRing 5 (some .boolean) :: m_TB) ({ frames := 0, cells := 0, slots := 0, locals := 0 } : Room) (m_Pc D B K n g [.ref (B + a0), .int x1, .int x2]) (m_Q D B K (some (.int r)) n g') 0 0 (fun q => B ≤ q) := by
  refine m_met (by decide) (Nat.le_of_ble_eq_true rfl) ?_
  intro p e s m args below meth c ls E hr hlk hin hsz S hl
  have E : m_V p m c b_Threads_makesRing 5 s args R_Threads D K := E
  have hz : s.heap.size + 0 = B + n := hsz
  have hl : lv_has ls 5 [(0, .ref (B + a0)), (1, .int x1), (2, .int x2)] := hl
  have hx := E.1.1
  have hb := E.1.2.1
  have hts := E.1.2.2.2.2
  unfold f_Threads_makesRing at hF
  refine lv_iload_n hx hb d_Threads_makesRing_0 rfl (lv_at hl 2 rfl) ?_
  refine lv_istore_n (lv' := [(3, .int x2), (0, .ref (B + a0)), (1, .int x1), (2, .int x2)]) hx hb d_Threads_makesRing_1 rfl hl (by decide) rfl (fun ls hl => ?_)
  refine lv_iconst (v := 0) hx hb d_Threads_makesRing_2 (by decide) ?_
  refine lv_istore (lv' := [(4, .int 0), (3, .int x2), (0, .ref (B + a0)), (1, .int x1), (2, .int x2)]) hx hb d_Threads_makesRing_3 hl (by decide) rfl (fun ls hl => ?_)
  exact c_Threads_makesRing_5 E hr hlk hz m_fu _ _ _ _ _ _ _ hF _ _ S _ (lv_sub hl [2, 3, 1, 0] rfl)
section S_Threads_setParent
variable {p : Program} {l : Launch} {e : Env} {s : State} {m : MethodId} {args : Array Value} {below : List Frame} {meth : Method} {c : Code} {D : va_G} {B n : Nat} {K : Nat → ClassId}
def f_Threads_setParent_16   (g : m_G)  : Option (Unit × m_G) :=
  some ((), g)
set_option maxHeartbeats 1000000 in
set_option maxRecDepth 100000 in
theorem c_Threads_setParent_16 (E : m_V p m c b_Threads_setParent 3 s args R_Threads D K) (hr : meth.sig.returnType = none) (hlk : meth.locks = false) (hz : s.heap.size + 0 = B + n)   : ∀ (g : m_G)  (r : Unit) (g' : m_G), f_Threads_setParent_16 g  = some (r, g') → ∀ (H : Heap) (locs : List Loc), m_S D B K n g s.heap H locs → ∀ ls : Array Slot, lv_has ls 3 [] → W p l e ({ frames := 1, cells := 0, slots := 0, locals := 24 } : Room) s m args below meth c H locs 0 0 (MQ below (m_Q D B K none n g') args s 0 0 (fun q => B ≤ q)) (F0 m 16 ls []) := by
  have hx := E.1.1
  have hb := E.1.2.1
  have hts := E.1.2.2.2.2
  intro g  r g' hF H locs S ls hl
  unfold f_Threads_setParent_16 at hF
  cases hF
  skip
  exact m_vret E S hz hr hlk d_Threads_setParent_16
end S_Threads_setParent
def f_Threads_setParent  (g : m_G) (a0 : Nat) (x1 : Int32) (x2 : Int32) : Option (Unit × m_G) :=
  m_gd (m_is g a0 6) <|
  m_bd (f_Threads_makesRing g a0 x1 x2) fun v_2 g_1 =>
  if (v_2 : Int32) = 0 then
    (m_gR g_1 a0 6 0).bind fun v_4 =>
    Option.bind v_4 fun a_5 =>
    (m_st g_1 a_5 0 x1 x2).bind fun g_6 =>
    f_Threads_setParent_16 g_6 
  else
    f_Threads_setParent_16 g_1 
set_option maxHeartbeats 1000000 in
set_option maxRecDepth 100000 in
theorem c_Threads_setParent (l : Launch) (D : va_G) (B : Nat) (K : Nat → ClassId)  (n : Nat) (g : m_G) (a0 : Nat) (x1 : Int32) (x2 : Int32) (r : Unit) (g' : m_G) (hF : f_Threads_setParent g a0 x1 x2 = some (r, g')) : Met l y_Threads_setParent (Cond.code y_Threads_setParent b_Threads_setParent 3 none :: m_TB) ({ frames := 1, cells := 0, slots := 0, locals := 24 } : Room) (m_Pc D B K n g [.ref (B + a0), .int x1, .int x2]) (m_Q D B K none n g') 0 0 (fun q => B ≤ q) := by
  refine m_met (by decide) (Nat.le_of_ble_eq_true rfl) ?_
  intro p e s m args below meth c ls E hr hlk hin hsz S hl
  have E : m_V p m c b_Threads_setParent 3 s args R_Threads D K := E
  have hz : s.heap.size + 0 = B + n := hsz
  have hl : lv_has ls 3 [(0, .ref (B + a0)), (1, .int x1), (2, .int x2)] := hl
  have hx := E.1.1
  have hb := E.1.2.1
  have hts := E.1.2.2.2.2
  unfold f_Threads_setParent at hF
  refine lv_aload_n hx hb d_Threads_setParent_0 rfl (lv_at hl 0 rfl) ?_
  refine lv_iload_n hx hb d_Threads_setParent_1 rfl (lv_at hl 1 rfl) ?_
  refine lv_iload_n hx hb d_Threads_setParent_2 rfl (lv_at hl 2 rfl) ?_
  replace hF := m_gd_inv hF
  obtain ⟨eog_1, hF⟩ := hF
  replace hF := m_bd_inv hF
  obtain ⟨v_2, g_1, eg_1, hF⟩ := hF
  refine m_callV (B := B) (nn := 2) (b := a0) (As := [.int x1, .int x2]) (rest := []) (v := (some (.int v_2))) E S hz (c_Threads_makesRing l D B K n g a0 x1 x2 v_2 g_1 eg_1) qc_Threads_makesRing ⟨rfl, rfl⟩ (Or.inl qw_117) qw_118 qw_119 qw_49 (by decide +kernel) ⟨Nat.le_of_ble_eq_true rfl, Nat.le_of_ble_eq_true rfl⟩ eog_1 rfl rfl hl.1 (Nat.le_of_ble_eq_true rfl) d_Threads_setParent_3 ⟨Nat.le_of_ble_eq_true rfl, Nat.le_of_ble_eq_true rfl⟩ (fun H locs S => ?_)
  refine W.eq (g2 := F0 m 6 ls [.int v_2]) rfl ?_
  refine lv_if_ne (tgt := 16) hx hb d_Threads_setParent_6 (by decide) (fun c_3 => ?_) (fun c_3 => ?_)
  · rw [if_neg c_3] at hF
    exact c_Threads_setParent_16 E hr hlk hz _ _ _ hF _ _ S _ (lv_sub hl [] rfl)
  · rw [if_pos c_3] at hF
    refine lv_aload_n hx hb d_Threads_setParent_9 rfl (lv_at hl 0 rfl) ?_
    replace hF := Option.bind_eq_some_iff.mp hF
    obtain ⟨v_4, ev_4, hF⟩ := hF
    refine m_getR (B := B) (a := a0) E S fd_Threads_parents (Or.inl qw_46) ev_4 d_Threads_setParent_10 ?_
    refine lv_iload_n hx hb d_Threads_setParent_13 rfl (lv_at hl 1 rfl) ?_
    refine lv_iload_n hx hb d_Threads_setParent_14 rfl (lv_at hl 2 rfl) ?_
    replace hF := Option.bind_eq_some_iff.mp hF
    obtain ⟨a_5, ea_5, hF⟩ := hF
    subst ea_5
    replace hF := Option.bind_eq_some_iff.mp hF
    obtain ⟨g_6, eg_6, hF⟩ := hF
    refine m_iast (B := B) (a := a_5) (t := 0) E S rfl eg_6 d_Threads_setParent_15 (fun H locs S => ?_)
    exact c_Threads_setParent_16 E hr hlk hz _ _ _ hF _ _ S _ (lv_sub hl [] rfl)
section S_Threads_join
variable {p : Program} {l : Launch} {e : Env} {s : State} {m : MethodId} {args : Array Value} {below : List Frame} {meth : Method} {c : Code} {D : va_G} {B n : Nat} {K : Nat → ClassId}
def f_Threads_join_72   (g : m_G)  : Option (Unit × m_G) :=
  some ((), g)
set_option maxHeartbeats 1000000 in
set_option maxRecDepth 100000 in
theorem c_Threads_join_72 (E : m_V p m c b_Threads_join 4 s args R_Threads D K) (hr : meth.sig.returnType = none) (hlk : meth.locks = false) (hz : s.heap.size + 0 = B + n)   : ∀ (g : m_G)  (r : Unit) (g' : m_G), f_Threads_join_72 g  = some (r, g') → ∀ (H : Heap) (locs : List Loc), m_S D B K n g s.heap H locs → ∀ ls : Array Slot, lv_has ls 4 [] → W p l e ({ frames := 2, cells := 0, slots := 0, locals := 46 } : Room) s m args below meth c H locs 0 0 (MQ below (m_Q D B K none n g') args s 0 0 (fun q => B ≤ q)) (F0 m 72 ls []) := by
  have hx := E.1.1
  have hb := E.1.2.1
  have hts := E.1.2.2.2.2
  intro g  r g' hF H locs S ls hl
  unfold f_Threads_join_72 at hF
  cases hF
  skip
  exact m_vret E S hz hr hlk d_Threads_join_72
def f_Threads_join_40  (k_2 : m_G → Nat → Option Nat → Int32 → Option (Unit × m_G)) (g : m_G) (a0 : Nat) (r1 : Option Nat) (x2 : Int32) : Option (Unit × m_G) :=
  k_2 g a0 r1 (x2 + 1)
set_option maxHeartbeats 1000000 in
set_option maxRecDepth 100000 in
theorem c_Threads_join_40 (E : m_V p m c b_Threads_join 4 s args R_Threads D K) (hr : meth.sig.returnType = none) (hlk : meth.locks = false) (hz : s.heap.size + 0 = B + n)  (k_2 : m_G → Nat → Option Nat → Int32 → Option (Unit × m_G)) (hk_2 : ∀ (g : m_G) (a0 : Nat) (r1 : Option Nat) (x2 : Int32) (r : Unit) (g' : m_G), k_2 g a0 r1 x2 = some (r, g') → ∀ (H : Heap) (locs : List Loc), m_S D B K n g s.heap H locs → ∀ ls : Array Slot, lv_has ls 4 [(0, .ref (B + a0)), (1, m_r B r1), (2, .int x2)] → W p l e ({ frames := 2, cells := 0, slots := 0, locals := 46 } : Room) s m args below meth c H locs 0 0 (MQ below (m_Q D B K none n g') args s 0 0 (fun q => B ≤ q)) (F0 m 2 ls [])) : ∀ (g : m_G) (a0 : Nat) (r1 : Option Nat) (x2 : Int32) (r : Unit) (g' : m_G), f_Threads_join_40 k_2 g a0 r1 x2 = some (r, g') → ∀ (H : Heap) (locs : List Loc), m_S D B K n g s.heap H locs → ∀ ls : Array Slot, lv_has ls 4 [(0, .ref (B + a0)), (1, m_r B r1), (2, .int x2)] → W p l e ({ frames := 2, cells := 0, slots := 0, locals := 46 } : Room) s m args below meth c H locs 0 0 (MQ below (m_Q D B K none n g') args s 0 0 (fun q => B ≤ q)) (F0 m 40 ls []) := by
  have hx := E.1.1
  have hb := E.1.2.1
  have hts := E.1.2.2.2.2
  intro g a0 r1 x2 r g' hF H locs S ls hl
  unfold f_Threads_join_40 at hF
  refine lv_iinc (v := (x2 + 1)) (lv' := [(2, .int (x2 + 1)), (0, .ref (B + a0)), (1, m_r B r1)]) hx hb d_Threads_join_40 hl (k := 2) rfl rfl (by decide) (by cases r1 <;> rfl) (fun ls hl => ?_)
  refine lv_goto (tgt := 2) hx hb d_Threads_join_43 (by decide) ?_
  exact hk_2 _ _ _ _ _ _ hF _ _ S _ (lv_sub hl [1, 2, 0] rfl)
def f_Threads_join_2   : Nat → m_G → Nat → Option Nat → Int32 → Option (Unit × m_G)
  | 0, _, _, _, _ => none
  | fu + 1, g, a0, r1, x2 =>
    Option.bind r1 fun a_1 =>
    (m_gI g a_1 4 5).bind fun v_2 =>
    if (v_2 : Int32) ≤ x2 then
      (m_gI g a_1 4 5).bind fun v_4 =>
      if (v_4 : Int32) ≤ 0 then
        f_Threads_join_72 g 
      else
        (m_gI g a_1 4 4).bind fun v_6 =>
        (m_gR g a_1 4 0).bind fun v_7 =>
        (m_gI g a_1 4 5).bind fun v_8 =>
        Option.bind v_7 fun a_9 =>
        (m_ld g a_9 0 (v_8 - 1)).bind fun v_10 =>
        m_gd (m_is g a0 6) <|
        m_bd (f_Threads_setParent g a0 v_6 v_10) fun v_12 g_11 =>
        f_Threads_join_72 g_11 
    else
      (m_gR g a_1 4 0).bind fun v_13 =>
      Option.bind v_13 fun a_14 =>
      (m_ld g a_14 0 x2).bind fun v_15 =>
      (m_gR g a0 6 0).bind fun v_16 =>
      Option.bind v_16 fun a_17 =>
      (m_ld g a_17 0 v_15).bind fun v_18 =>
      if (v_18 : Int32) = (-1) then
        (m_gR g a_1 4 0).bind fun v_20 =>
        Option.bind v_20 fun a_21 =>
        (m_ld g a_21 0 (x2 - 1)).bind fun v_22 =>
        m_gd (m_is g a0 6) <|
        m_bd (f_Threads_setParent g a0 v_15 v_22) fun v_24 g_23 =>
        f_Threads_join_40 (f_Threads_join_2 fu) g_23 a0 (some a_1) x2
      else
        f_Threads_join_40 (f_Threads_join_2 fu) g a0 (some a_1) x2
set_option maxHeartbeats 1000000 in
set_option maxRecDepth 100000 in
theorem c_Threads_join_2 (E : m_V p m c b_Threads_join 4 s args R_Threads D K) (hr : meth.sig.returnType = none) (hlk : meth.locks = false) (hz : s.heap.size + 0 = B + n)   : ∀ fu : Nat, ∀ (g : m_G) (a0 : Nat) (r1 : Option Nat) (x2 : Int32) (r : Unit) (g' : m_G), f_Threads_join_2  fu g a0 r1 x2 = some (r, g') → ∀ (H : Heap) (locs : List Loc), m_S D B K n g s.heap H locs → ∀ ls : Array Slot, lv_has ls 4 [(0, .ref (B + a0)), (1, m_r B r1), (2, .int x2)] → W p l e ({ frames := 2, cells := 0, slots := 0, locals := 46 } : Room) s m args below meth c H locs 0 0 (MQ below (m_Q D B K none n g') args s 0 0 (fun q => B ≤ q)) (F0 m 2 ls []) := by
  have hx := E.1.1
  have hb := E.1.2.1
  have hts := E.1.2.2.2.2
  intro fu
  induction fu with
  | zero => intro g a0 r1 x2 r g' hF; cases hF
  | succ fu ih =>
    intro g a0 r1 x2 r g' hF H locs S ls hl
    rw [f_Threads_join_2] at hF
    refine lv_iload_n hx hb d_Threads_join_2 rfl (lv_at hl 2 rfl) ?_
    refine m_aload_n (B := B) (r := r1) E d_Threads_join_3 rfl (lv_at hl 1 rfl) ?_
    replace hF := Option.bind_eq_some_iff.mp hF
    obtain ⟨a_1, ea_1, hF⟩ := hF
    subst ea_1
    replace hF := Option.bind_eq_some_iff.mp hF
    obtain ⟨v_2, ev_2, hF⟩ := hF
    refine m_getI (B := B) (a := a_1) E S fd_Message_referenceCount (Or.inr ⟨_, qn_24⟩) ev_2 d_Threads_join_4 ?_
    refine lv_icmp_ge (tgt := 46) hx hb d_Threads_join_7 (by decide) (fun c_3 => ?_) (fun c_3 => ?_)
    · rw [if_pos c_3] at hF
      refine m_aload_n (B := B) (r := (some a_1)) E d_Threads_join_46 rfl (lv_at hl 1 rfl) ?_
      replace hF := Option.bind_eq_some_iff.mp hF
      obtain ⟨v_4, ev_4, hF⟩ := hF
      refine m_getI (B := B) (a := a_1) E S fd_Message_referenceCount (Or.inr ⟨_, qn_24⟩) ev_4 d_Threads_join_47 ?_
      refine lv_if_le (tgt := 72) hx hb d_Threads_join_50 (by decide) (fun c_5 => ?_) (fun c_5 => ?_)
      · rw [if_pos c_5] at hF
        exact c_Threads_join_72 E hr hlk hz _ _ _ hF _ _ S _ (lv_sub hl [] rfl)
      · rw [if_neg c_5] at hF
        refine lv_aload_n hx hb d_Threads_join_53 rfl (lv_at hl 0 rfl) ?_
        refine m_aload_n (B := B) (r := (some a_1)) E d_Threads_join_54 rfl (lv_at hl 1 rfl) ?_
        replace hF := Option.bind_eq_some_iff.mp hF
        obtain ⟨v_6, ev_6, hF⟩ := hF
        refine m_getI (B := B) (a := a_1) E S fd_Message_id (Or.inr ⟨_, qn_25⟩) ev_6 d_Threads_join_55 ?_
        refine m_aload_n (B := B) (r := (some a_1)) E d_Threads_join_58 rfl (lv_at hl 1 rfl) ?_
        replace hF := Option.bind_eq_some_iff.mp hF
        obtain ⟨v_7, ev_7, hF⟩ := hF
        refine m_getR (B := B) (a := a_1) E S fd_Message_references (Or.inr ⟨_, qn_26⟩) ev_7 d_Threads_join_59 ?_
        refine m_aload_n (B := B) (r := (some a_1)) E d_Threads_join_62 rfl (lv_at hl 1 rfl) ?_
        replace hF := Option.bind_eq_some_iff.mp hF
        obtain ⟨v_8, ev_8, hF⟩ := hF
        refine m_getI (B := B) (a := a_1) E S fd_Message_referenceCount (Or.inr ⟨_, qn_24⟩) ev_8 d_Threads_join_63 ?_
        refine lv_iconst (v := 1) hx hb d_Threads_join_66 (by decide) ?_
        refine lv_isub hx hb d_Threads_join_67 ?_
        replace hF := Option.bind_eq_some_iff.mp hF
        obtain ⟨a_9, ea_9, hF⟩ := hF
        subst ea_9
        replace hF := Option.bind_eq_some_iff.mp hF
        obtain ⟨v_10, ev_10, hF⟩ := hF
        refine m_iald (B := B) (a := a_9) (t := 0) E S rfl ev_10 d_Threads_join_68 ?_
        replace hF := m_gd_inv hF
        obtain ⟨eog_11, hF⟩ := hF
        replace hF := m_bd_inv hF
        obtain ⟨v_12, g_11, eg_11, hF⟩ := hF
        refine m_callV (B := B) (nn := 2) (b := a0) (As := [.int v_6, .int v_10]) (rest := []) (v := none) E S hz (c_Threads_setParent l D B K n g a0 v_6 v_10 v_12 g_11 eg_11) qc_Threads_setParent ⟨rfl, rfl⟩ (Or.inl qw_120) qw_121 qw_122 qw_49 (by decide +kernel) ⟨Nat.le_of_ble_eq_true rfl, Nat.le_of_ble_eq_true rfl⟩ eog_11 rfl rfl hl.1 (Nat.le_of_ble_eq_true rfl) d_Threads_join_69 ⟨Nat.le_of_ble_eq_true rfl, Nat.le_of_ble_eq_true rfl⟩ (fun H locs S => ?_)
        refine W.eq (g2 := F0 m 72 ls []) rfl ?_
        exact c_Threads_join_72 E hr hlk hz _ _ _ hF _ _ S _ (lv_sub hl [] rfl)
    · rw [if_neg c_3] at hF
      refine m_aload_n (B := B) (r := (some a_1)) E d_Threads_join_10 rfl (lv_at hl 1 rfl) ?_
      replace hF := Option.bind_eq_some_iff.mp hF
      obtain ⟨v_13, ev_13, hF⟩ := hF
      refine m_getR (B := B) (a := a_1) E S fd_Message_references (Or.inr ⟨_, qn_26⟩) ev_13 d_Threads_join_11 ?_
      refine lv_iload_n hx hb d_Threads_join_14 rfl (lv_at hl 2 rfl) ?_
      replace hF := Option.bind_eq_some_iff.mp hF
      obtain ⟨a_14, ea_14, hF⟩ := hF
      subst ea_14
      replace hF := Option.bind_eq_some_iff.mp hF
      obtain ⟨v_15, ev_15, hF⟩ := hF
      refine m_iald (B := B) (a := a_14) (t := 0) E S rfl ev_15 d_Threads_join_15 ?_
      refine lv_istore_n (lv' := [(3, .int v_15), (0, .ref (B + a0)), (1, m_r B (some a_1)), (2, .int x2)]) hx hb d_Threads_join_16 rfl hl (by decide) rfl (fun ls hl => ?_)
      refine lv_aload_n hx hb d_Threads_join_17 rfl (lv_at hl 1 rfl) ?_
      replace hF := Option.bind_eq_some_iff.mp hF
      obtain ⟨v_16, ev_16, hF⟩ := hF
      refine m_getR (B := B) (a := a0) E S fd_Threads_parents (Or.inl qw_46) ev_16 d_Threads_join_18 ?_
      refine lv_iload_n hx hb d_Threads_join_21 rfl (lv_at hl 0 rfl) ?_
      replace hF := Option.bind_eq_some_iff.mp hF
      obtain ⟨a_17, ea_17, hF⟩ := hF
      subst ea_17
      replace hF := Option.bind_eq_some_iff.mp hF
      obtain ⟨v_18, ev_18, hF⟩ := hF
      refine m_iald (B := B) (a := a_17) (t := 0) E S rfl ev_18 d_Threads_join_22 ?_
      refine lv_iconst (v := (-1)) hx hb d_Threads_join_23 (by decide) ?_
      refine lv_icmp_ne (tgt := 40) hx hb d_Threads_join_24 (by decide) (fun c_19 => ?_) (fun c_19 => ?_)
      · rw [if_neg c_19] at hF
        exact c_Threads_join_40 E hr hlk hz (f_Threads_join_2 fu) ih _ _ _ _ _ _ hF _ _ S _ (lv_sub hl [1, 2, 3] rfl)
      · rw [if_pos c_19] at hF
        refine lv_aload_n hx hb d_Threads_join_27 rfl (lv_at hl 1 rfl) ?_
        refine lv_iload_n hx hb d_Threads_join_28 rfl (lv_at hl 0 rfl) ?_
        refine m_aload_n (B := B) (r := (some a_1)) E d_Threads_join_29 rfl (lv_at hl 2 rfl) ?_
        replace hF := Option.bind_eq_some_iff.mp hF
        obtain ⟨v_20, ev_20, hF⟩ := hF
        refine m_getR (B := B) (a := a_1) E S fd_Message_references (Or.inr ⟨_, qn_26⟩) ev_20 d_Threads_join_30 ?_
        refine lv_iload_n hx hb d_Threads_join_33 rfl (lv_at hl 3 rfl) ?_
        refine lv_iconst (v := 1) hx hb d_Threads_join_34 (by decide) ?_
        refine lv_isub hx hb d_Threads_join_35 ?_
        replace hF := Option.bind_eq_some_iff.mp hF
        obtain ⟨a_21, ea_21, hF⟩ := hF
        subst ea_21
        replace hF := Option.bind_eq_some_iff.mp hF
        obtain ⟨v_22, ev_22, hF⟩ := hF
        refine m_iald (B := B) (a := a_21) (t := 0) E S rfl ev_22 d_Threads_join_36 ?_
        replace hF := m_gd_inv hF
        obtain ⟨eog_23, hF⟩ := hF
        replace hF := m_bd_inv hF
        obtain ⟨v_24, g_23, eg_23, hF⟩ := hF
        refine m_callV (B := B) (nn := 2) (b := a0) (As := [.int v_15, .int v_22]) (rest := []) (v := none) E S hz (c_Threads_setParent l D B K n g a0 v_15 v_22 v_24 g_23 eg_23) qc_Threads_setParent ⟨rfl, rfl⟩ (Or.inl qw_120) qw_121 qw_122 qw_49 (by decide +kernel) ⟨Nat.le_of_ble_eq_true rfl, Nat.le_of_ble_eq_true rfl⟩ eog_23 rfl rfl hl.1 (Nat.le_of_ble_eq_true rfl) d_Threads_join_37 ⟨Nat.le_of_ble_eq_true rfl, Nat.le_of_ble_eq_true rfl⟩ (fun H locs S => ?_)
        refine W.eq (g2 := F0 m 40 ls []) rfl ?_
        exact c_Threads_join_40 E hr hlk hz (f_Threads_join_2 fu) ih _ _ _ _ _ _ hF _ _ S _ (lv_sub hl [1, 2, 3] rfl)
end S_Threads_join
def f_Threads_join  (g : m_G) (a0 : Nat) (r1 : Option Nat) : Option (Unit × m_G) :=
  f_Threads_join_2 m_fu g a0 r1 1
set_option maxHeartbeats 1000000 in
set_option maxRecDepth 100000 in
theorem c_Threads_join (l : Launch) (D : va_G) (B : Nat) (K : Nat → ClassId)  (n : Nat) (g : m_G) (a0 : Nat) (r1 : Option Nat) (r : Unit) (g' : m_G) (hF : f_Threads_join g a0 r1 = some (r, g')) : Met l y_Threads_join (Cond.code y_Threads_join b_Threads_join 4 none :: m_TB) ({ frames := 2, cells := 0, slots := 0, locals := 46 } : Room) (m_Pc D B K n g [.ref (B + a0), m_r B r1]) (m_Q D B K none n g') 0 0 (fun q => B ≤ q) := by
  refine m_met (by decide) (by simp only [lg_sl, List.flatMap_cons, List.flatMap_nil, m_r_cat]; exact Nat.le_of_ble_eq_true rfl) ?_
  intro p e s m args below meth c ls E hr hlk hin hsz S hl
  have E : m_V p m c b_Threads_join 4 s args R_Threads D K := E
  have hz : s.heap.size + 0 = B + n := hsz
  have hl : lv_has ls 4 [(0, .ref (B + a0)), (1, m_r B r1)] := by simp only [lv_args, m_r_cat] at hl; exact hl
  have hx := E.1.1
  have hb := E.1.2.1
  have hts := E.1.2.2.2.2
  unfold f_Threads_join at hF
  refine lv_iconst (v := 1) hx hb d_Threads_join_0 (by decide) ?_
  refine lv_istore_n (lv' := [(2, .int 1), (0, .ref (B + a0)), (1, m_r B r1)]) hx hb d_Threads_join_1 rfl hl (by decide) (by cases r1 <;> rfl) (fun ls hl => ?_)
  exact c_Threads_join_2 E hr hlk hz m_fu _ _ _ _ _ _ hF _ _ S _ (lv_sub hl [1, 2, 0] rfl)
section S_Arc_rejoinThreads
variable {p : Program} {l : Launch} {e : Env} {s : State} {m : MethodId} {args : Array Value} {below : List Frame} {meth : Method} {c : Code} {D : va_G} {B n : Nat} {K : Nat → ClassId}
def f_Arc_rejoinThreads_9   : Nat → m_G → Nat → Int32 → Option (Unit × m_G)
  | 0, _, _, _ => none
  | fu + 1, g, a0, x1 =>
    (m_gI g a0 0 7).bind fun v_1 =>
    if (v_1 : Int32) ≤ x1 then
      some ((), g)
    else
      (m_gR g a0 0 3).bind fun v_3 =>
      (m_gR g a0 0 5).bind fun v_4 =>
      (m_gR g a0 0 6).bind fun v_5 =>
      Option.bind v_5 fun a_6 =>
      (m_ld g a_6 0 x1).bind fun v_7 =>
      Option.bind v_4 fun a_8 =>
      (m_ldR g a_8 5 v_7).bind fun v_9 =>
      Option.bind v_3 fun a_10 =>
      m_gd (m_is g a_10 6) <|
      m_bd (f_Threads_join g a_10 v_9) fun v_12 g_11 =>
      f_Arc_rejoinThreads_9 fu g_11 a0 (x1 + 1)
set_option maxHeartbeats 1000000 in
set_option maxRecDepth 100000 in
theorem c_Arc_rejoinThreads_9 (E : m_V p m c b_Arc_rejoinThreads 2 s args R_Arc D K) (hr : meth.sig.returnType = none) (hlk : meth.locks = false) (hz : s.heap.size + 0 = B + n)   : ∀ fu : Nat, ∀ (g : m_G) (a0 : Nat) (x1 : Int32) (r : Unit) (g' : m_G), f_Arc_rejoinThreads_9  fu g a0 x1 = some (r, g') → ∀ (H : Heap) (locs : List Loc), m_S D B K n g s.heap H locs → ∀ ls : Array Slot, lv_has ls 2 [(0, .ref (B + a0)), (1, .int x1)] → W p l e ({ frames := 3, cells := 0, slots := 0, locals := 69 } : Room) s m args below meth c H locs 0 0 (MQ below (m_Q D B K none n g') args s 0 0 (fun q => B ≤ q)) (F0 m 9 ls []) := by
  have hx := E.1.1
  have hb := E.1.2.1
  have hts := E.1.2.2.2.2
  intro fu
  induction fu with
  | zero => intro g a0 x1 r g' hF; cases hF
  | succ fu ih =>
    intro g a0 x1 r g' hF H locs S ls hl
    rw [f_Arc_rejoinThreads_9] at hF
    refine lv_iload_n hx hb d_Arc_rejoinThreads_9 rfl (lv_at hl 1 rfl) ?_
    refine lv_aload_n hx hb d_Arc_rejoinThreads_10 rfl (lv_at hl 0 rfl) ?_
    replace hF := Option.bind_eq_some_iff.mp hF
    obtain ⟨v_1, ev_1, hF⟩ := hF
    refine m_getI (B := B) (a := a0) E S fd_Arc_messageCount (Or.inl qw_80) ev_1 d_Arc_rejoinThreads_11 ?_
    refine lv_icmp_ge (tgt := 41) hx hb d_Arc_rejoinThreads_14 (by decide) (fun c_2 => ?_) (fun c_2 => ?_)
    · rw [if_pos c_2] at hF
      cases hF
      skip
      exact m_vret E S hz hr hlk d_Arc_rejoinThreads_41
    · rw [if_neg c_2] at hF
      refine lv_aload_n hx hb d_Arc_rejoinThreads_17 rfl (lv_at hl 0 rfl) ?_
      replace hF := Option.bind_eq_some_iff.mp hF
      obtain ⟨v_3, ev_3, hF⟩ := hF
      refine m_getR (B := B) (a := a0) E S fd_Arc_threads (Or.inl qw_68) ev_3 d_Arc_rejoinThreads_18 ?_
      refine lv_aload_n hx hb d_Arc_rejoinThreads_21 rfl (lv_at hl 0 rfl) ?_
      replace hF := Option.bind_eq_some_iff.mp hF
      obtain ⟨v_4, ev_4, hF⟩ := hF
      refine m_getR (B := B) (a := a0) E S fd_Arc_messages (Or.inl qw_75) ev_4 d_Arc_rejoinThreads_22 ?_
      refine lv_aload_n hx hb d_Arc_rejoinThreads_25 rfl (lv_at hl 0 rfl) ?_
      replace hF := Option.bind_eq_some_iff.mp hF
      obtain ⟨v_5, ev_5, hF⟩ := hF
      refine m_getR (B := B) (a := a0) E S fd_Arc_order (Or.inl qw_79) ev_5 d_Arc_rejoinThreads_26 ?_
      refine lv_iload_n hx hb d_Arc_rejoinThreads_29 rfl (lv_at hl 1 rfl) ?_
      replace hF := Option.bind_eq_some_iff.mp hF
      obtain ⟨a_6, ea_6, hF⟩ := hF
      subst ea_6
      replace hF := Option.bind_eq_some_iff.mp hF
      obtain ⟨v_7, ev_7, hF⟩ := hF
      refine m_iald (B := B) (a := a_6) (t := 0) E S rfl ev_7 d_Arc_rejoinThreads_30 ?_
      replace hF := Option.bind_eq_some_iff.mp hF
      obtain ⟨a_8, ea_8, hF⟩ := hF
      subst ea_8
      replace hF := Option.bind_eq_some_iff.mp hF
      obtain ⟨v_9, ev_9, hF⟩ := hF
      refine m_aald (B := B) (a := a_8) (t := 5) E S rfl ev_9 d_Arc_rejoinThreads_31 ?_
      replace hF := Option.bind_eq_some_iff.mp hF
      obtain ⟨a_10, ea_10, hF⟩ := hF
      subst ea_10
      replace hF := m_gd_inv hF
      obtain ⟨eog_11, hF⟩ := hF
      replace hF := m_bd_inv hF
      obtain ⟨v_12, g_11, eg_11, hF⟩ := hF
      refine m_callV (B := B) (nn := 1) (b := a_10) (As := [m_r B v_9]) (rest := []) (v := none) E S hz (c_Threads_join l D B K n g a_10 v_9 v_12 g_11 eg_11) qc_Threads_join ⟨rfl, rfl⟩ (Or.inr ⟨_, qn_28⟩) qw_123 qw_124 qw_49 (by decide +kernel) ⟨Nat.le_of_ble_eq_true rfl, Nat.le_of_ble_eq_true rfl⟩ eog_11 rfl rfl hl.1 (Nat.le_of_ble_eq_true rfl) d_Arc_rejoinThreads_32 ⟨Nat.le_of_ble_eq_true rfl, Nat.le_of_ble_eq_true rfl⟩ (fun H locs S => ?_)
      refine W.eq (g2 := F0 m 35 ls []) rfl ?_
      refine lv_iinc (v := (x1 + 1)) (lv' := [(1, .int (x1 + 1)), (0, .ref (B + a0))]) hx hb d_Arc_rejoinThreads_35 hl (k := 1) rfl rfl (by decide) rfl (fun ls hl => ?_)
      refine lv_goto (tgt := 9) hx hb d_Arc_rejoinThreads_38 (by decide) ?_
      exact ih _ _ _ _ _ hF _ _ S _ (lv_sub hl [1, 0] rfl)
end S_Arc_rejoinThreads
def f_Arc_rejoinThreads  (g : m_G) (a0 : Nat) : Option (Unit × m_G) :=
  (m_gR g a0 0 3).bind fun v_1 =>
  Option.bind v_1 fun a_2 =>
  m_gd (m_is g a_2 6) <|
  m_bd (f_Threads_clear g a_2) fun v_4 g_3 =>
  f_Arc_rejoinThreads_9 m_fu g_3 a0 0
set_option maxHeartbeats 1000000 in
set_option maxRecDepth 100000 in
theorem c_Arc_rejoinThreads (l : Launch) (D : va_G) (B : Nat) (K : Nat → ClassId)  (n : Nat) (g : m_G) (a0 : Nat) (r : Unit) (g' : m_G) (hF : f_Arc_rejoinThreads g a0 = some (r, g')) : Met l y_Arc_rejoinThreads (Cond.code y_Arc_rejoinThreads b_Arc_rejoinThreads 2 none :: m_TB) ({ frames := 3, cells := 0, slots := 0, locals := 69 } : Room) (m_Pc D B K n g [.ref (B + a0)]) (m_Q D B K none n g') 0 0 (fun q => B ≤ q) := by
  refine m_met (by decide) (Nat.le_of_ble_eq_true rfl) ?_
  intro p e s m args below meth c ls E hr hlk hin hsz S hl
  have E : m_V p m c b_Arc_rejoinThreads 2 s args R_Arc D K := E
  have hz : s.heap.size + 0 = B + n := hsz
  have hl : lv_has ls 2 [(0, .ref (B + a0))] := hl
  have hx := E.1.1
  have hb := E.1.2.1
  have hts := E.1.2.2.2.2
  unfold f_Arc_rejoinThreads at hF
  refine lv_aload_n hx hb d_Arc_rejoinThreads_0 rfl (lv_at hl 0 rfl) ?_
  replace hF := Option.bind_eq_some_iff.mp hF
  obtain ⟨v_1, ev_1, hF⟩ := hF
  refine m_getR (B := B) (a := a0) E S fd_Arc_threads (Or.inl qw_68) ev_1 d_Arc_rejoinThreads_1 ?_
  replace hF := Option.bind_eq_some_iff.mp hF
  obtain ⟨a_2, ea_2, hF⟩ := hF
  subst ea_2
  replace hF := m_gd_inv hF
  obtain ⟨eog_3, hF⟩ := hF
  replace hF := m_bd_inv hF
  obtain ⟨v_4, g_3, eg_3, hF⟩ := hF
  refine m_callV (B := B) (nn := 0) (b := a_2) (As := []) (rest := []) (v := none) E S hz (c_Threads_clear l D B K n g a_2 v_4 g_3 eg_3) qc_Threads_clear ⟨rfl, rfl⟩ (Or.inr ⟨_, qn_27⟩) qw_50 qw_51 qw_49 (by decide +kernel) ⟨Nat.le_of_ble_eq_true rfl, Nat.le_of_ble_eq_true rfl⟩ eog_3 rfl rfl hl.1 (Nat.le_of_ble_eq_true rfl) d_Arc_rejoinThreads_4 ⟨Nat.le_of_ble_eq_true rfl, Nat.le_of_ble_eq_true rfl⟩ (fun H locs S => ?_)
  refine W.eq (g2 := F0 m 7 ls []) rfl ?_
  refine lv_iconst (v := 0) hx hb d_Arc_rejoinThreads_7 (by decide) ?_
  refine lv_istore_n (lv' := [(1, .int 0), (0, .ref (B + a0))]) hx hb d_Arc_rejoinThreads_8 rfl hl (by decide) rfl (fun ls hl => ?_)
  exact c_Arc_rejoinThreads_9 E hr hlk hz m_fu _ _ _ _ _ hF _ _ S _ (lv_sub hl [1, 0] rfl)
def f_Message_begin  (g : m_G) (a0 : Nat) (x1 : Int32) : Option (Unit × m_G) :=
  (m_pZ g a0 4 3 1).bind fun g_1 =>
  (m_pI g_1 a0 4 4 x1).bind fun g_2 =>
  (m_pI g_2 a0 4 6 0).bind fun g_3 =>
  (m_pI g_3 a0 4 7 0).bind fun g_4 =>
  (m_pI g_4 a0 4 8 0).bind fun g_5 =>
  some ((), g_5)
set_option maxHeartbeats 1000000 in
set_option maxRecDepth 100000 in
theorem c_Message_begin (l : Launch) (D : va_G) (B : Nat) (K : Nat → ClassId)  (n : Nat) (g : m_G) (a0 : Nat) (x1 : Int32) (r : Unit) (g' : m_G) (hF : f_Message_begin g a0 x1 = some (r, g')) : Met l y_Message_begin (Cond.code y_Message_begin b_Message_begin 2 none :: m_TB) ({ frames := 0, cells := 0, slots := 0, locals := 0 } : Room) (m_Pc D B K n g [.ref (B + a0), .int x1]) (m_Q D B K none n g') 0 0 (fun q => B ≤ q) := by
  refine m_met (by decide) (Nat.le_of_ble_eq_true rfl) ?_
  intro p e s m args below meth c ls E hr hlk hin hsz S hl
  have E : m_V p m c b_Message_begin 2 s args R_Message D K := E
  have hz : s.heap.size + 0 = B + n := hsz
  have hl : lv_has ls 2 [(0, .ref (B + a0)), (1, .int x1)] := hl
  have hx := E.1.1
  have hb := E.1.2.1
  have hts := E.1.2.2.2.2
  unfold f_Message_begin at hF
  refine lv_aload_n hx hb d_Message_begin_0 rfl (lv_at hl 0 rfl) ?_
  refine lv_iconst (v := 1) hx hb d_Message_begin_1 (by decide) ?_
  replace hF := Option.bind_eq_some_iff.mp hF
  obtain ⟨g_1, eg_1, hF⟩ := hF
  refine m_putZ (B := B) (a := a0) E S fd_Message_there (Or.inl qw_19) eg_1 d_Message_begin_2 (fun H locs S => ?_)
  refine lv_aload_n hx hb d_Message_begin_5 rfl (lv_at hl 0 rfl) ?_
  refine lv_iload_n hx hb d_Message_begin_6 rfl (lv_at hl 1 rfl) ?_
  replace hF := Option.bind_eq_some_iff.mp hF
  obtain ⟨g_2, eg_2, hF⟩ := hF
  refine m_putI (B := B) (a := a0) E S fd_Message_id (Or.inl qw_20) eg_2 d_Message_begin_7 (fun H locs S => ?_)
  refine lv_aload_n hx hb d_Message_begin_10 rfl (lv_at hl 0 rfl) ?_
  refine lv_iconst (v := 0) hx hb d_Message_begin_11 (by decide) ?_
  replace hF := Option.bind_eq_some_iff.mp hF
  obtain ⟨g_3, eg_3, hF⟩ := hF
  refine m_putI (B := B) (a := a0) E S fd_Message_wordCount (Or.inl qw_22) eg_3 d_Message_begin_12 (fun H locs S => ?_)
  refine lv_aload_n hx hb d_Message_begin_15 rfl (lv_at hl 0 rfl) ?_
  refine lv_iconst (v := 0) hx hb d_Message_begin_16 (by decide) ?_
  replace hF := Option.bind_eq_some_iff.mp hF
  obtain ⟨g_4, eg_4, hF⟩ := hF
  refine m_putI (B := B) (a := a0) E S fd_Message_leaves (Or.inl qw_23) eg_4 d_Message_begin_17 (fun H locs S => ?_)
  refine lv_aload_n hx hb d_Message_begin_20 rfl (lv_at hl 0 rfl) ?_
  refine lv_iconst (v := 0) hx hb d_Message_begin_21 (by decide) ?_
  replace hF := Option.bind_eq_some_iff.mp hF
  obtain ⟨g_5, eg_5, hF⟩ := hF
  refine m_putI (B := B) (a := a0) E S fd_Message_tags (Or.inl qw_24) eg_5 d_Message_begin_22 (fun H locs S => ?_)
  cases hF
  skip
  exact m_vret E S hz hr hlk d_Message_begin_25
section S_Line_blankFrom
variable {p : Program} {l : Launch} {e : Env} {s : State} {m : MethodId} {args : Array Value} {below : List Frame} {meth : Method} {c : Code} {D : va_G} {B n : Nat} {K : Nat → ClassId}
def f_Line_blankFrom_2   : Nat → m_G → Nat → Int32 → Option (Int32 × m_G)
  | 0, _, _, _ => none
  | fu + 1, g, a0, x2 =>
    (m_gI g a0 1 1).bind fun v_1 =>
    if (v_1 : Int32) ≤ x2 then
      (m_gI g a0 1 1).bind fun v_3 =>
      some (v_3, g)
    else
      m_gd (m_is g a0 1) <|
      m_bd (f_Line_at g a0 x2) fun v_5 g_4 =>
      if (v_5 : Int32) = 32 then
        some (x2, g_4)
      else
        f_Line_blankFrom_2 fu g_4 a0 (x2 + 1)
set_option maxHeartbeats 1000000 in
set_option maxRecDepth 100000 in
theorem c_Line_blankFrom_2 (E : m_V p m c b_Line_blankFrom 3 s args R_Line D K) (hr : meth.sig.returnType = (some .int)) (hlk : meth.locks = false) (hz : s.heap.size + 0 = B + n)   : ∀ fu : Nat, ∀ (g : m_G) (a0 : Nat) (x2 : Int32) (r : Int32) (g' : m_G), f_Line_blankFrom_2  fu g a0 x2 = some (r, g') → ∀ (H : Heap) (locs : List Loc), m_S D B K n g s.heap H locs → ∀ ls : Array Slot, lv_has ls 3 [(0, .ref (B + a0)), (2, .int x2)] → W p l e ({ frames := 1, cells := 0, slots := 0, locals := 21 } : Room) s m args below meth c H locs 0 0 (MQ below (m_Q D B K (some (.int r)) n g') args s 0 0 (fun q => B ≤ q)) (F0 m 2 ls []) := by
  have hx := E.1.1
  have hb := E.1.2.1
  have hts := E.1.2.2.2.2
  intro fu
  induction fu with
  | zero => intro g a0 x2 r g' hF; cases hF
  | succ fu ih =>
    intro g a0 x2 r g' hF H locs S ls hl
    rw [f_Line_blankFrom_2] at hF
    refine lv_iload_n hx hb d_Line_blankFrom_2 rfl (lv_at hl 1 rfl) ?_
    refine lv_aload_n hx hb d_Line_blankFrom_3 rfl (lv_at hl 0 rfl) ?_
    replace hF := Option.bind_eq_some_iff.mp hF
    obtain ⟨v_1, ev_1, hF⟩ := hF
    refine m_getI (B := B) (a := a0) E S fd_Line_length (Or.inl qw_5) ev_1 d_Line_blankFrom_4 ?_
    refine lv_icmp_ge (tgt := 28) hx hb d_Line_blankFrom_7 (by decide) (fun c_2 => ?_) (fun c_2 => ?_)
    · rw [if_pos c_2] at hF
      refine lv_aload_n hx hb d_Line_blankFrom_28 rfl (lv_at hl 0 rfl) ?_
      replace hF := Option.bind_eq_some_iff.mp hF
      obtain ⟨v_3, ev_3, hF⟩ := hF
      refine m_getI (B := B) (a := a0) E S fd_Line_length (Or.inl qw_5) ev_3 d_Line_blankFrom_29 ?_
      cases hF
      exact m_iret E S hz hr hlk d_Line_blankFrom_32
    · rw [if_neg c_2] at hF
      refine lv_aload_n hx hb d_Line_blankFrom_10 rfl (lv_at hl 0 rfl) ?_
      refine lv_iload_n hx hb d_Line_blankFrom_11 rfl (lv_at hl 1 rfl) ?_
      replace hF := m_gd_inv hF
      obtain ⟨eog_4, hF⟩ := hF
      replace hF := m_bd_inv hF
      obtain ⟨v_5, g_4, eg_4, hF⟩ := hF
      refine m_callV (B := B) (nn := 1) (b := a0) (As := [.int x2]) (rest := []) (v := (some (.int v_5))) E S hz (c_Line_at l D B K n g a0 x2 v_5 g_4 eg_4) qc_Line_at ⟨rfl, rfl⟩ (Or.inl qw_97) qw_98 qw_99 qw_11 (by decide +kernel) ⟨Nat.le_of_ble_eq_true rfl, Nat.le_of_ble_eq_true rfl⟩ eog_4 rfl rfl hl.1 (Nat.le_of_ble_eq_true rfl) d_Line_blankFrom_12 ⟨Nat.le_of_ble_eq_true rfl, Nat.le_of_ble_eq_true rfl⟩ (fun H locs S => ?_)
      refine W.eq (g2 := F0 m 15 ls [.int v_5]) rfl ?_
      refine lv_bipush (v := 32) hx hb d_Line_blankFrom_15 (by decide) ?_
      refine lv_icmp_ne (tgt := 22) hx hb d_Line_blankFrom_17 (by decide) (fun c_6 => ?_) (fun c_6 => ?_)
      · rw [if_neg c_6] at hF
        refine lv_iinc (v := (x2 + 1)) (lv' := [(2, .int (x2 + 1)), (0, .ref (B + a0))]) hx hb d_Line_blankFrom_22 hl (k := 1) rfl rfl (by decide) rfl (fun ls hl => ?_)
        refine lv_goto (tgt := 2) hx hb d_Line_blankFrom_25 (by decide) ?_
        exact ih _ _ _ _ _ hF _ _ S _ (lv_sub hl [1, 0] rfl)
      · rw [if_pos c_6] at hF
        refine lv_iload_n hx hb d_Line_blankFrom_20 rfl (lv_at hl 1 rfl) ?_
        cases hF
        exact m_iret E S hz hr hlk d_Line_blankFrom_21
end S_Line_blankFrom
def f_Line_blankFrom  (g : m_G) (a0 : Nat) (x1 : Int32) : Option (Int32 × m_G) :=
  f_Line_blankFrom_2 m_fu g a0 x1
set_option maxHeartbeats 1000000 in
set_option maxRecDepth 100000 in
theorem c_Line_blankFrom (l : Launch) (D : va_G) (B : Nat) (K : Nat → ClassId)  (n : Nat) (g : m_G) (a0 : Nat) (x1 : Int32) (r : Int32) (g' : m_G) (hF : f_Line_blankFrom g a0 x1 = some (r, g')) : Met l y_Line_blankFrom (Cond.code y_Line_blankFrom b_Line_blankFrom 3 (some .int) :: m_TB) ({ frames := 1, cells := 0, slots := 0, locals := 21 } : Room) (m_Pc D B K n g [.ref (B + a0), .int x1]) (m_Q D B K (some (.int r)) n g') 0 0 (fun q => B ≤ q) := by
  refine m_met (by decide) (Nat.le_of_ble_eq_true rfl) ?_
  intro p e s m args below meth c ls E hr hlk hin hsz S hl
  have E : m_V p m c b_Line_blankFrom 3 s args R_Line D K := E
  have hz : s.heap.size + 0 = B + n := hsz
  have hl : lv_has ls 3 [(0, .ref (B + a0)), (1, .int x1)] := hl
  have hx := E.1.1
  have hb := E.1.2.1
  have hts := E.1.2.2.2.2
  unfold f_Line_blankFrom at hF
  refine lv_iload_n hx hb d_Line_blankFrom_0 rfl (lv_at hl 1 rfl) ?_
  refine lv_istore_n (lv' := [(2, .int x1), (0, .ref (B + a0)), (1, .int x1)]) hx hb d_Line_blankFrom_1 rfl hl (by decide) rfl (fun ls hl => ?_)
  exact c_Line_blankFrom_2 E hr hlk hz m_fu _ _ _ _ _ hF _ _ S _ (lv_sub hl [1, 0] rfl)
section S_Message_readReferences
variable {p : Program} {l : Launch} {e : Env} {s : State} {m : MethodId} {args : Array Value} {below : List Frame} {meth : Method} {c : Code} {D : va_G} {B n : Nat} {K : Nat → ClassId}
def f_Message_readReferences_4   : Nat → m_G → Nat → Option Nat → Int32 → Int32 → Option (Int32 × m_G)
  | 0, _, _, _, _, _ => none
  | fu + 1, g, a0, r1, x2, x3 =>
    if (4 : Int32) ≤ x3 then
      some (0, g)
    else
      Option.bind r1 fun a_2 =>
      m_gd (m_is g a_2 1) <|
      m_bd (f_Line_blankFrom g a_2 x2) fun v_4 g_3 =>
      m_gd (m_is g_3 a_2 1) <|
      m_bd (f_Line_idBetween g_3 a_2 x2 v_4) fun v_6 g_5 =>
      if (0 : Int32) ≤ v_6 then
        (m_gR g_5 a0 4 0).bind fun v_8 =>
        Option.bind v_8 fun a_9 =>
        (m_st g_5 a_9 0 x3 v_6).bind fun g_10 =>
        (m_gI g_10 a_2 1 1).bind fun v_11 =>
        if (v_4 : Int32) = v_11 then
          some ((x3 + 1), g_10)
        else
          f_Message_readReferences_4 fu g_10 a0 (some a_2) (v_4 + 1) (x3 + 1)
      else
        some (0, g_5)
set_option maxHeartbeats 1000000 in
set_option maxRecDepth 100000 in
theorem c_Message_readReferences_4 (E : m_V p m c b_Message_readReferences 6 s args R_Message D K) (hr : meth.sig.returnType = (some .int)) (hlk : meth.locks = false) (hz : s.heap.size + 0 = B + n)   : ∀ fu : Nat, ∀ (g : m_G) (a0 : Nat) (r1 : Option Nat) (x2 : Int32) (x3 : Int32) (r : Int32) (g' : m_G), f_Message_readReferences_4  fu g a0 r1 x2 x3 = some (r, g') → ∀ (H : Heap) (locs : List Loc), m_S D B K n g s.heap H locs → ∀ ls : Array Slot, lv_has ls 6 [(0, .ref (B + a0)), (1, m_r B r1), (2, .int x2), (3, .int x3)] → W p l e ({ frames := 2, cells := 0, slots := 0, locals := 46 } : Room) s m args below meth c H locs 0 0 (MQ below (m_Q D B K (some (.int r)) n g') args s 0 0 (fun q => B ≤ q)) (F0 m 4 ls []) := by
  have hx := E.1.1
  have hb := E.1.2.1
  have hts := E.1.2.2.2.2
  intro fu
  induction fu with
  | zero => intro g a0 r1 x2 x3 r g' hF; cases hF
  | succ fu ih =>
    intro g a0 r1 x2 x3 r g' hF H locs S ls hl
    rw [f_Message_readReferences_4] at hF
    refine lv_iload_n hx hb d_Message_readReferences_4 rfl (lv_at hl 3 rfl) ?_
    refine lv_iconst (v := 4) hx hb d_Message_readReferences_5 (by decide) ?_
    refine lv_icmp_ge (tgt := 64) hx hb d_Message_readReferences_6 (by decide) (fun c_1 => ?_) (fun c_1 => ?_)
    · rw [if_pos c_1] at hF
      refine lv_iconst (v := 0) hx hb d_Message_readReferences_64 (by decide) ?_
      cases hF
      exact m_iret E S hz hr hlk d_Message_readReferences_65
    · rw [if_neg c_1] at hF
      refine m_aload_n (B := B) (r := r1) E d_Message_readReferences_9 rfl (lv_at hl 1 rfl) ?_
      refine lv_iload_n hx hb d_Message_readReferences_10 rfl (lv_at hl 2 rfl) ?_
      replace hF := Option.bind_eq_some_iff.mp hF
      obtain ⟨a_2, ea_2, hF⟩ := hF
      subst ea_2
      replace hF := m_gd_inv hF
      obtain ⟨eog_3, hF⟩ := hF
      replace hF := m_bd_inv hF
      obtain ⟨v_4, g_3, eg_3, hF⟩ := hF
      refine m_callV (B := B) (nn := 1) (b := a_2) (As := [.int x2]) (rest := []) (v := (some (.int v_4))) E S hz (c_Line_blankFrom l D B K n g a_2 x2 v_4 g_3 eg_3) qc_Line_blankFrom ⟨rfl, rfl⟩ (Or.inr ⟨_, qn_29⟩) qw_125 qw_126 qw_11 (by decide +kernel) ⟨Nat.le_of_ble_eq_true rfl, Nat.le_of_ble_eq_true rfl⟩ eog_3 rfl rfl hl.1 (Nat.le_of_ble_eq_true rfl) d_Message_readReferences_11 ⟨Nat.le_of_ble_eq_true rfl, Nat.le_of_ble_eq_true rfl⟩ (fun H locs S => ?_)
      refine W.eq (g2 := F0 m 14 ls [.int v_4]) rfl ?_
      refine lv_istore (lv' := [(4, .int v_4), (0, .ref (B + a0)), (1, m_r B (some a_2)), (2, .int x2), (3, .int x3)]) hx hb d_Message_readReferences_14 hl (by decide) rfl (fun ls hl => ?_)
      refine m_aload_n (B := B) (r := (some a_2)) E d_Message_readReferences_16 rfl (lv_at hl 2 rfl) ?_
      refine lv_iload_n hx hb d_Message_readReferences_17 rfl (lv_at hl 3 rfl) ?_
      refine lv_iload hx hb d_Message_readReferences_18 (lv_at hl 0 rfl) ?_
      replace hF := m_gd_inv hF
      obtain ⟨eog_5, hF⟩ := hF
      replace hF := m_bd_inv hF
      obtain ⟨v_6, g_5, eg_5, hF⟩ := hF
      refine m_callV (B := B) (nn := 2) (b := a_2) (As := [.int x2, .int v_4]) (rest := []) (v := (some (.int v_6))) E S hz (c_Line_idBetween l D B K n g_3 a_2 x2 v_4 v_6 g_5 eg_5) qc_Line_idBetween ⟨rfl, rfl⟩ (Or.inr ⟨_, qn_30⟩) qw_110 qw_111 qw_11 (by decide +kernel) ⟨Nat.le_of_ble_eq_true rfl, Nat.le_of_ble_eq_true rfl⟩ eog_5 rfl rfl hl.1 (Nat.le_of_ble_eq_true rfl) d_Message_readReferences_20 ⟨Nat.le_of_ble_eq_true rfl, Nat.le_of_ble_eq_true rfl⟩ (fun H locs S => ?_)
      refine W.eq (g2 := F0 m 23 ls [.int v_6]) rfl ?_
      refine lv_istore (lv' := [(5, .int v_6), (4, .int v_4), (0, .ref (B + a0)), (1, m_r B (some a_2)), (2, .int x2), (3, .int x3)]) hx hb d_Message_readReferences_23 hl (by decide) rfl (fun ls hl => ?_)
      refine lv_iload hx hb d_Message_readReferences_25 (lv_at hl 0 rfl) ?_
      refine lv_if_ge (tgt := 32) hx hb d_Message_readReferences_27 (by decide) (fun c_7 => ?_) (fun c_7 => ?_)
      · rw [if_pos c_7] at hF
        refine lv_aload_n hx hb d_Message_readReferences_32 rfl (lv_at hl 2 rfl) ?_
        replace hF := Option.bind_eq_some_iff.mp hF
        obtain ⟨v_8, ev_8, hF⟩ := hF
        refine m_getR (B := B) (a := a0) E S fd_Message_references (Or.inl qw_15) ev_8 d_Message_readReferences_33 ?_
        refine lv_iload_n hx hb d_Message_readReferences_36 rfl (lv_at hl 5 rfl) ?_
        refine lv_iload hx hb d_Message_readReferences_37 (lv_at hl 0 rfl) ?_
        replace hF := Option.bind_eq_some_iff.mp hF
        obtain ⟨a_9, ea_9, hF⟩ := hF
        subst ea_9
        replace hF := Option.bind_eq_some_iff.mp hF
        obtain ⟨g_10, eg_10, hF⟩ := hF
        refine m_iast (B := B) (a := a_9) (t := 0) E S rfl eg_10 d_Message_readReferences_39 (fun H locs S => ?_)
        refine lv_iload hx hb d_Message_readReferences_40 (lv_at hl 1 rfl) ?_
        refine m_aload_n (B := B) (r := (some a_2)) E d_Message_readReferences_42 rfl (lv_at hl 3 rfl) ?_
        replace hF := Option.bind_eq_some_iff.mp hF
        obtain ⟨v_11, ev_11, hF⟩ := hF
        refine m_getI (B := B) (a := a_2) E S fd_Line_length (Or.inr ⟨_, qn_31⟩) ev_11 d_Message_readReferences_43 ?_
        refine lv_icmp_ne (tgt := 53) hx hb d_Message_readReferences_46 (by decide) (fun c_12 => ?_) (fun c_12 => ?_)
        · rw [if_neg c_12] at hF
          refine lv_iload hx hb d_Message_readReferences_53 (lv_at hl 1 rfl) ?_
          refine lv_iconst (v := 1) hx hb d_Message_readReferences_55 (by decide) ?_
          refine lv_iadd hx hb d_Message_readReferences_56 ?_
          refine lv_istore_n (lv' := [(2, .int (v_4 + 1)), (5, .int v_6), (4, .int v_4), (0, .ref (B + a0)), (1, m_r B (some a_2)), (3, .int x3)]) hx hb d_Message_readReferences_57 rfl hl (by decide) rfl (fun ls hl => ?_)
          refine lv_iinc (v := (x3 + 1)) (lv' := [(3, .int (x3 + 1)), (2, .int (v_4 + 1)), (5, .int v_6), (4, .int v_4), (0, .ref (B + a0)), (1, m_r B (some a_2))]) hx hb d_Message_readReferences_58 hl (k := 5) rfl rfl (by decide) rfl (fun ls hl => ?_)
          refine lv_goto (tgt := 4) hx hb d_Message_readReferences_61 (by decide) ?_
          exact ih _ _ _ _ _ _ _ hF _ _ S _ (lv_sub hl [4, 5, 1, 0] rfl)
        · rw [if_pos c_12] at hF
          refine lv_iload_n hx hb d_Message_readReferences_49 rfl (lv_at hl 5 rfl) ?_
          refine lv_iconst (v := 1) hx hb d_Message_readReferences_50 (by decide) ?_
          refine lv_iadd hx hb d_Message_readReferences_51 ?_
          cases hF
          exact m_iret E S hz hr hlk d_Message_readReferences_52
      · rw [if_neg c_7] at hF
        refine lv_iconst (v := 0) hx hb d_Message_readReferences_30 (by decide) ?_
        cases hF
        exact m_iret E S hz hr hlk d_Message_readReferences_31
end S_Message_readReferences
def f_Message_readReferences  (g : m_G) (a0 : Nat) (r1 : Option Nat) : Option (Int32 × m_G) :=
  f_Message_readReferences_4 m_fu g a0 r1 2 0
set_option maxHeartbeats 1000000 in
set_option maxRecDepth 100000 in
theorem c_Message_readReferences (l : Launch) (D : va_G) (B : Nat) (K : Nat → ClassId)  (n : Nat) (g : m_G) (a0 : Nat) (r1 : Option Nat) (r : Int32) (g' : m_G) (hF : f_Message_readReferences g a0 r1 = some (r, g')) : Met l y_Message_readReferences (Cond.code y_Message_readReferences b_Message_readReferences 6 (some .int) :: m_TB) ({ frames := 2, cells := 0, slots := 0, locals := 46 } : Room) (m_Pc D B K n g [.ref (B + a0), m_r B r1]) (m_Q D B K (some (.int r)) n g') 0 0 (fun q => B ≤ q) := by
  refine m_met (by decide) (by simp only [lg_sl, List.flatMap_cons, List.flatMap_nil, m_r_cat]; exact Nat.le_of_ble_eq_true rfl) ?_
  intro p e s m args below meth c ls E hr hlk hin hsz S hl
  have E : m_V p m c b_Message_readReferences 6 s args R_Message D K := E
  have hz : s.heap.size + 0 = B + n := hsz
  have hl : lv_has ls 6 [(0, .ref (B + a0)), (1, m_r B r1)] := by simp only [lv_args, m_r_cat] at hl; exact hl
  have hx := E.1.1
  have hb := E.1.2.1
  have hts := E.1.2.2.2.2
  unfold f_Message_readReferences at hF
  refine lv_iconst (v := 2) hx hb d_Message_readReferences_0 (by decide) ?_
  refine lv_istore_n (lv' := [(2, .int 2), (0, .ref (B + a0)), (1, m_r B r1)]) hx hb d_Message_readReferences_1 rfl hl (by decide) (by cases r1 <;> rfl) (fun ls hl => ?_)
  refine lv_iconst (v := 0) hx hb d_Message_readReferences_2 (by decide) ?_
  refine lv_istore_n (lv' := [(3, .int 0), (2, .int 2), (0, .ref (B + a0)), (1, m_r B r1)]) hx hb d_Message_readReferences_3 rfl hl (by decide) rfl (fun ls hl => ?_)
  exact c_Message_readReferences_4 E hr hlk hz m_fu _ _ _ _ _ _ _ hF _ _ S _ (lv_sub hl [2, 3, 1, 0] rfl)
section S_Message_setReferences
variable {p : Program} {l : Launch} {e : Env} {s : State} {m : MethodId} {args : Array Value} {below : List Frame} {meth : Method} {c : Code} {D : va_G} {B n : Nat} {K : Nat → ClassId}
def f_Message_setReferences_14   (g : m_G) (y0 : Int32) (t1 : Option Nat) : Option (Unit × m_G) :=
  Option.bind t1 fun a_1 =>
  (m_pI g a_1 4 5 y0).bind fun g_2 =>
  some ((), g_2)
set_option maxHeartbeats 1000000 in
set_option maxRecDepth 100000 in
theorem c_Message_setReferences_14 (E : m_V p m c b_Message_setReferences 2 s args R_Message D K) (hr : meth.sig.returnType = none) (hlk : meth.locks = false) (hz : s.heap.size + 0 = B + n)   : ∀ (g : m_G) (y0 : Int32) (t1 : Option Nat) (r : Unit) (g' : m_G), f_Message_setReferences_14 g y0 t1 = some (r, g') → ∀ (H : Heap) (locs : List Loc), m_S D B K n g s.heap H locs → ∀ ls : Array Slot, lv_has ls 2 [] → W p l e ({ frames := 3, cells := 0, slots := 0, locals := 71 } : Room) s m args below meth c H locs 0 0 (MQ below (m_Q D B K none n g') args s 0 0 (fun q => B ≤ q)) (F0 m 14 ls [.int y0, m_r B t1]) := by
  have hx := E.1.1
  have hb := E.1.2.1
  have hts := E.1.2.2.2.2
  intro g y0 t1 r g' hF H locs S ls hl
  unfold f_Message_setReferences_14 at hF
  replace hF := Option.bind_eq_some_iff.mp hF
  obtain ⟨a_1, ea_1, hF⟩ := hF
  subst ea_1
  replace hF := Option.bind_eq_some_iff.mp hF
  obtain ⟨g_2, eg_2, hF⟩ := hF
  refine m_putI (B := B) (a := a_1) E S fd_Message_referenceCount (Or.inl qw_21) eg_2 d_Message_setReferences_14 (fun H locs S => ?_)
  cases hF
  skip
  exact m_vret E S hz hr hlk d_Message_setReferences_17
end S_Message_setReferences
def f_Message_setReferences  (g : m_G) (a0 : Nat) (r1 : Option Nat) : Option (Unit × m_G) :=
  match r1 with
  | none =>
    f_Message_setReferences_14 g 0 (some a0)
  | some a_1 =>
    m_gd (m_is g a0 4) <|
    m_bd (f_Message_readReferences g a0 (some a_1)) fun v_3 g_2 =>
    f_Message_setReferences_14 g_2 v_3 (some a0)
set_option maxHeartbeats 1000000 in
set_option maxRecDepth 100000 in
theorem c_Message_setReferences (l : Launch) (D : va_G) (B : Nat) (K : Nat → ClassId)  (n : Nat) (g : m_G) (a0 : Nat) (r1 : Option Nat) (r : Unit) (g' : m_G) (hF : f_Message_setReferences g a0 r1 = some (r, g')) : Met l y_Message_setReferences (Cond.code y_Message_setReferences b_Message_setReferences 2 none :: m_TB) ({ frames := 3, cells := 0, slots := 0, locals := 71 } : Room) (m_Pc D B K n g [.ref (B + a0), m_r B r1]) (m_Q D B K none n g') 0 0 (fun q => B ≤ q) := by
  refine m_met (by decide) (by simp only [lg_sl, List.flatMap_cons, List.flatMap_nil, m_r_cat]; exact Nat.le_of_ble_eq_true rfl) ?_
  intro p e s m args below meth c ls E hr hlk hin hsz S hl
  have E : m_V p m c b_Message_setReferences 2 s args R_Message D K := E
  have hz : s.heap.size + 0 = B + n := hsz
  have hl : lv_has ls 2 [(0, .ref (B + a0)), (1, m_r B r1)] := by simp only [lv_args, m_r_cat] at hl; exact hl
  have hx := E.1.1
  have hb := E.1.2.1
  have hts := E.1.2.2.2.2
  unfold f_Message_setReferences at hF
  refine lv_aload_n hx hb d_Message_setReferences_0 rfl (lv_at hl 0 rfl) ?_
  refine m_aload_n (B := B) (r := r1) E d_Message_setReferences_1 rfl (lv_at hl 1 rfl) ?_
  refine m_ifnonnull (B := B) (r := r1) (tgt := 9) E d_Message_setReferences_2 (by decide) (fun a_1 ea_1 => ?_) (fun ea_1 => ?_)
  · subst ea_1
    dsimp only at hF
    refine lv_aload_n hx hb d_Message_setReferences_9 rfl (lv_at hl 0 rfl) ?_
    refine m_aload_n (B := B) (r := (some a_1)) E d_Message_setReferences_10 rfl (lv_at hl 1 rfl) ?_
    replace hF := m_gd_inv hF
    obtain ⟨eog_2, hF⟩ := hF
    replace hF := m_bd_inv hF
    obtain ⟨v_3, g_2, eg_2, hF⟩ := hF
    refine m_callV (B := B) (nn := 1) (b := a0) (As := [m_r B (some a_1)]) (rest := [.ref (B + a0)]) (v := (some (.int v_3))) E S hz (c_Message_readReferences l D B K n g a0 (some a_1) v_3 g_2 eg_2) qc_Message_readReferences ⟨rfl, rfl⟩ (Or.inl qw_127) qw_128 qw_129 qw_77 (by decide +kernel) ⟨Nat.le_of_ble_eq_true rfl, Nat.le_of_ble_eq_true rfl⟩ eog_2 rfl rfl hl.1 (Nat.le_of_ble_eq_true rfl) d_Message_setReferences_11 ⟨Nat.le_of_ble_eq_true rfl, Nat.le_of_ble_eq_true rfl⟩ (fun H locs S => ?_)
    refine W.eq (g2 := F0 m 14 ls [.int v_3, .ref (B + a0)]) rfl ?_
    exact c_Message_setReferences_14 E hr hlk hz _ _ _ _ _ hF _ _ S _ (lv_sub hl [] rfl)
  · subst ea_1
    dsimp only at hF
    refine lv_iconst (v := 0) hx hb d_Message_setReferences_5 (by decide) ?_
    refine lv_goto (tgt := 14) hx hb d_Message_setReferences_6 (by decide) ?_
    exact c_Message_setReferences_14 E hr hlk hz _ _ _ _ _ hF _ _ S _ (lv_sub hl [] rfl)
section S_Arc_smallLetter
variable {p : Program} {l : Launch} {e : Env} {s : State} {m : MethodId} {args : Array Value} {below : List Frame} {meth : Method} {c : Code} {D : va_G} {B n : Nat} {K : Nat → ClassId}
def f_Arc_smallLetter_22   (g : m_G) (y0 : Int32) : Option (Int32 × m_G) :=
  some (y0, g)
set_option maxHeartbeats 1000000 in
set_option maxRecDepth 100000 in
theorem c_Arc_smallLetter_22 (E : m_V p m c b_Arc_smallLetter 1 s args R_Arc D K) (hr : meth.sig.returnType = (some .int)) (hlk : meth.locks = false) (hz : s.heap.size + 0 = B + n)   : ∀ (g : m_G) (y0 : Int32) (r : Int32) (g' : m_G), f_Arc_smallLetter_22 g y0 = some (r, g') → ∀ (H : Heap) (locs : List Loc), m_S D B K n g s.heap H locs → ∀ ls : Array Slot, lv_has ls 1 [] → W p l e ({ frames := 0, cells := 0, slots := 0, locals := 0 } : Room) s m args below meth c H locs 0 0 (MQ below (m_Q D B K (some (.int r)) n g') args s 0 0 (fun q => B ≤ q)) (F0 m 22 ls [.int y0]) := by
  have hx := E.1.1
  have hb := E.1.2.1
  have hts := E.1.2.2.2.2
  intro g y0 r g' hF H locs S ls hl
  unfold f_Arc_smallLetter_22 at hF
  cases hF
  exact m_iret E S hz hr hlk d_Arc_smallLetter_22
def f_Arc_smallLetter_21   (g : m_G)  : Option (Int32 × m_G) :=
  f_Arc_smallLetter_22 g 0
set_option maxHeartbeats 1000000 in
set_option maxRecDepth 100000 in
theorem c_Arc_smallLetter_21 (E : m_V p m c b_Arc_smallLetter 1 s args R_Arc D K) (hr : meth.sig.returnType = (some .int)) (hlk : meth.locks = false) (hz : s.heap.size + 0 = B + n)   : ∀ (g : m_G)  (r : Int32) (g' : m_G), f_Arc_smallLetter_21 g  = some (r, g') → ∀ (H : Heap) (locs : List Loc), m_S D B K n g s.heap H locs → ∀ ls : Array Slot, lv_has ls 1 [] → W p l e ({ frames := 0, cells := 0, slots := 0, locals := 0 } : Room) s m args below meth c H locs 0 0 (MQ below (m_Q D B K (some (.int r)) n g') args s 0 0 (fun q => B ≤ q)) (F0 m 21 ls []) := by
  have hx := E.1.1
  have hb := E.1.2.1
  have hts := E.1.2.2.2.2
  intro g  r g' hF H locs S ls hl
  unfold f_Arc_smallLetter_21 at hF
  refine lv_iconst (v := 0) hx hb d_Arc_smallLetter_21 (by decide) ?_
  exact c_Arc_smallLetter_22 E hr hlk hz _ _ _ _ hF _ _ S _ (lv_sub hl [] rfl)
end S_Arc_smallLetter
def f_Arc_smallLetter  (g : m_G) (x0 : Int32) : Option (Int32 × m_G) :=
  if (x0 : Int32) < 97 then
    f_Arc_smallLetter_21 g 
  else
    if (122 : Int32) < x0 then
      f_Arc_smallLetter_21 g 
    else
      f_Arc_smallLetter_22 g ((x0 - 97) + 1)
set_option maxHeartbeats 1000000 in
set_option maxRecDepth 100000 in
theorem c_Arc_smallLetter (l : Launch) (D : va_G) (B : Nat) (K : Nat → ClassId)  (n : Nat) (g : m_G) (x0 : Int32) (r : Int32) (g' : m_G) (hF : f_Arc_smallLetter g x0 = some (r, g')) : Met l y_Arc_smallLetter (Cond.code y_Arc_smallLetter b_Arc_smallLetter 1 (some .int) :: m_TB) ({ frames := 0, cells := 0, slots := 0, locals := 0 } : Room) (m_Pc D B K n g [.int x0]) (m_Q D B K (some (.int r)) n g') 0 0 (fun q => B ≤ q) := by
  refine m_met (by decide) (Nat.le_of_ble_eq_true rfl) ?_
  intro p e s m args below meth c ls E hr hlk hin hsz S hl
  have E : m_V p m c b_Arc_smallLetter 1 s args R_Arc D K := E
  have hz : s.heap.size + 0 = B + n := hsz
  have hl : lv_has ls 1 [(0, .int x0)] := hl
  have hx := E.1.1
  have hb := E.1.2.1
  have hts := E.1.2.2.2.2
  unfold f_Arc_smallLetter at hF
  refine lv_iload_n hx hb d_Arc_smallLetter_0 rfl (lv_at hl 0 rfl) ?_
  refine lv_bipush (v := 97) hx hb d_Arc_smallLetter_1 (by decide) ?_
  refine lv_icmp_lt (tgt := 21) hx hb d_Arc_smallLetter_3 (by decide) (fun c_1 => ?_) (fun c_1 => ?_)
  · rw [if_pos c_1] at hF
    exact c_Arc_smallLetter_21 E hr hlk hz _ _ _ hF _ _ S _ (lv_sub hl [] rfl)
  · rw [if_neg c_1] at hF
    refine lv_iload_n hx hb d_Arc_smallLetter_6 rfl (lv_at hl 0 rfl) ?_
    refine lv_bipush (v := 122) hx hb d_Arc_smallLetter_7 (by decide) ?_
    refine lv_icmp_gt (tgt := 21) hx hb d_Arc_smallLetter_9 (by decide) (fun c_2 => ?_) (fun c_2 => ?_)
    · rw [if_pos c_2] at hF
      exact c_Arc_smallLetter_21 E hr hlk hz _ _ _ hF _ _ S _ (lv_sub hl [] rfl)
    · rw [if_neg c_2] at hF
      refine lv_iload_n hx hb d_Arc_smallLetter_12 rfl (lv_at hl 0 rfl) ?_
      refine lv_bipush (v := 97) hx hb d_Arc_smallLetter_13 (by decide) ?_
      refine lv_isub hx hb d_Arc_smallLetter_15 ?_
      refine lv_iconst (v := 1) hx hb d_Arc_smallLetter_16 (by decide) ?_
      refine lv_iadd hx hb d_Arc_smallLetter_17 ?_
      refine lv_goto (tgt := 22) hx hb d_Arc_smallLetter_18 (by decide) ?_
      exact c_Arc_smallLetter_22 E hr hlk hz _ _ _ _ hF _ _ S _ (lv_sub hl [] rfl)
section S_Arc_letter
variable {p : Program} {l : Launch} {e : Env} {s : State} {m : MethodId} {args : Array Value} {below : List Frame} {meth : Method} {c : Code} {D : va_G} {B n : Nat} {K : Nat → ClassId}
def f_Arc_letter_25   (g : m_G) (y0 : Int32) : Option (Int32 × m_G) :=
  some (y0, g)
set_option maxHeartbeats 1000000 in
set_option maxRecDepth 100000 in
theorem c_Arc_letter_25 (E : m_V p m c b_Arc_letter 1 s args R_Arc D K) (hr : meth.sig.returnType = (some .int)) (hlk : meth.locks = false) (hz : s.heap.size + 0 = B + n)   : ∀ (g : m_G) (y0 : Int32) (r : Int32) (g' : m_G), f_Arc_letter_25 g y0 = some (r, g') → ∀ (H : Heap) (locs : List Loc), m_S D B K n g s.heap H locs → ∀ ls : Array Slot, lv_has ls 1 [] → W p l e ({ frames := 1, cells := 0, slots := 0, locals := 20 } : Room) s m args below meth c H locs 0 0 (MQ below (m_Q D B K (some (.int r)) n g') args s 0 0 (fun q => B ≤ q)) (F0 m 25 ls [.int y0]) := by
  have hx := E.1.1
  have hb := E.1.2.1
  have hts := E.1.2.2.2.2
  intro g y0 r g' hF H locs S ls hl
  unfold f_Arc_letter_25 at hF
  cases hF
  exact m_iret E S hz hr hlk d_Arc_letter_25
def f_Arc_letter_21   (g : m_G) (x0 : Int32) : Option (Int32 × m_G) :=
  m_bd (f_Arc_smallLetter g x0) fun v_2 g_1 =>
  f_Arc_letter_25 g_1 v_2
set_option maxHeartbeats 1000000 in
set_option maxRecDepth 100000 in
theorem c_Arc_letter_21 (E : m_V p m c b_Arc_letter 1 s args R_Arc D K) (hr : meth.sig.returnType = (some .int)) (hlk : meth.locks = false) (hz : s.heap.size + 0 = B + n)   : ∀ (g : m_G) (x0 : Int32) (r : Int32) (g' : m_G), f_Arc_letter_21 g x0 = some (r, g') → ∀ (H : Heap) (locs : List Loc), m_S D B K n g s.heap H locs → ∀ ls : Array Slot, lv_has ls 1 [(0, .int x0)] → W p l e ({ frames := 1, cells := 0, slots := 0, locals := 20 } : Room) s m args below meth c H locs 0 0 (MQ below (m_Q D B K (some (.int r)) n g') args s 0 0 (fun q => B ≤ q)) (F0 m 21 ls []) := by
  have hx := E.1.1
  have hb := E.1.2.1
  have hts := E.1.2.2.2.2
  intro g x0 r g' hF H locs S ls hl
  unfold f_Arc_letter_21 at hF
  refine lv_iload_n hx hb d_Arc_letter_21 rfl (lv_at hl 0 rfl) ?_
  replace hF := m_bd_inv hF
  obtain ⟨v_2, g_1, eg_1, hF⟩ := hF
  refine m_callS (B := B) (nn := 1) (As := [.int x0]) (rest := []) (v := (some (.int v_2))) E S hz (c_Arc_smallLetter l D B K n g x0 v_2 g_1 eg_1) qc_Arc_smallLetter ⟨rfl, rfl⟩ (Or.inl qw_130) qw_131 qw_105 (by decide +kernel) ⟨Nat.le_of_ble_eq_true rfl, Nat.le_of_ble_eq_true rfl⟩ rfl hl.1 (Nat.le_of_ble_eq_true rfl) d_Arc_letter_22 ⟨Nat.le_of_ble_eq_true rfl, Nat.le_of_ble_eq_true rfl⟩ (fun H locs S => ?_)
  refine W.eq (g2 := F0 m 25 ls [.int v_2]) rfl ?_
  exact c_Arc_letter_25 E hr hlk hz _ _ _ _ hF _ _ S _ (lv_sub hl [] rfl)
end S_Arc_letter
def f_Arc_letter  (g : m_G) (x0 : Int32) : Option (Int32 × m_G) :=
  if (x0 : Int32) < 65 then
    f_Arc_letter_21 g x0
  else
    if (90 : Int32) < x0 then
      f_Arc_letter_21 g x0
    else
      f_Arc_letter_25 g ((x0 - 65) + 1)
set_option maxHeartbeats 1000000 in
set_option maxRecDepth 100000 in
theorem c_Arc_letter (l : Launch) (D : va_G) (B : Nat) (K : Nat → ClassId)  (n : Nat) (g : m_G) (x0 : Int32) (r : Int32) (g' : m_G) (hF : f_Arc_letter g x0 = some (r, g')) : Met l y_Arc_letter (Cond.code y_Arc_letter b_Arc_letter 1 (some .int) :: m_TB) ({ frames := 1, cells := 0, slots := 0, locals := 20 } : Room) (m_Pc D B K n g [.int x0]) (m_Q D B K (some (.int r)) n g') 0 0 (fun q => B ≤ q) := by
  refine m_met (by decide) (Nat.le_of_ble_eq_true rfl) ?_
  intro p e s m args below meth c ls E hr hlk hin hsz S hl
  have E : m_V p m c b_Arc_letter 1 s args R_Arc D K := E
  have hz : s.heap.size + 0 = B + n := hsz
  have hl : lv_has ls 1 [(0, .int x0)] := hl
  have hx := E.1.1
  have hb := E.1.2.1
  have hts := E.1.2.2.2.2
  unfold f_Arc_letter at hF
  refine lv_iload_n hx hb d_Arc_letter_0 rfl (lv_at hl 0 rfl) ?_
  refine lv_bipush (v := 65) hx hb d_Arc_letter_1 (by decide) ?_
  refine lv_icmp_lt (tgt := 21) hx hb d_Arc_letter_3 (by decide) (fun c_1 => ?_) (fun c_1 => ?_)
  · rw [if_pos c_1] at hF
    exact c_Arc_letter_21 E hr hlk hz _ _ _ _ hF _ _ S _ (lv_sub hl [0] rfl)
  · rw [if_neg c_1] at hF
    refine lv_iload_n hx hb d_Arc_letter_6 rfl (lv_at hl 0 rfl) ?_
    refine lv_bipush (v := 90) hx hb d_Arc_letter_7 (by decide) ?_
    refine lv_icmp_gt (tgt := 21) hx hb d_Arc_letter_9 (by decide) (fun c_2 => ?_) (fun c_2 => ?_)
    · rw [if_pos c_2] at hF
      exact c_Arc_letter_21 E hr hlk hz _ _ _ _ hF _ _ S _ (lv_sub hl [0] rfl)
    · rw [if_neg c_2] at hF
      refine lv_iload_n hx hb d_Arc_letter_12 rfl (lv_at hl 0 rfl) ?_
      refine lv_bipush (v := 65) hx hb d_Arc_letter_13 (by decide) ?_
      refine lv_isub hx hb d_Arc_letter_15 ?_
      refine lv_iconst (v := 1) hx hb d_Arc_letter_16 (by decide) ?_
      refine lv_iadd hx hb d_Arc_letter_17 ?_
      refine lv_goto (tgt := 25) hx hb d_Arc_letter_18 (by decide) ?_
      exact c_Arc_letter_25 E hr hlk hz _ _ _ _ hF _ _ S _ (lv_sub hl [] rfl)
section S_Letters_put
variable {p : Program} {l : Launch} {e : Env} {s : State} {m : MethodId} {args : Array Value} {below : List Frame} {meth : Method} {c : Code} {D : va_G} {B n : Nat} {K : Nat → ClassId}
def f_Letters_put_34   (g : m_G)  : Option (Unit × m_G) :=
  some ((), g)
set_option maxHeartbeats 1000000 in
set_option maxRecDepth 100000 in
theorem c_Letters_put_34 (E : m_V p m c b_Letters_put 2 s args R_Letters D K) (hr : meth.sig.returnType = none) (hlk : meth.locks = false) (hz : s.heap.size + 0 = B + n)   : ∀ (g : m_G)  (r : Unit) (g' : m_G), f_Letters_put_34 g  = some (r, g') → ∀ (H : Heap) (locs : List Loc), m_S D B K n g s.heap H locs → ∀ ls : Array Slot, lv_has ls 2 [] → W p l e ({ frames := 0, cells := 0, slots := 0, locals := 0 } : Room) s m args below meth c H locs 0 0 (MQ below (m_Q D B K none n g') args s 0 0 (fun q => B ≤ q)) (F0 m 34 ls []) := by
  have hx := E.1.1
  have hb := E.1.2.1
  have hts := E.1.2.2.2.2
  intro g  r g' hF H locs S ls hl
  unfold f_Letters_put_34 at hF
  cases hF
  skip
  exact m_vret E S hz hr hlk d_Letters_put_34
end S_Letters_put
def f_Letters_put  (g : m_G) (a0 : Nat) (x1 : Int32) : Option (Unit × m_G) :=
  (m_gI g a0 3 1).bind fun v_1 =>
  if (12 : Int32) ≤ v_1 then
    f_Letters_put_34 g 
  else
    (m_gL g a0 3 0).bind fun v_3 =>
    (m_pL g a0 3 0 ((v_3 * 32) + (x1 : Int32).toInt64)).bind fun g_4 =>
    (m_gI g_4 a0 3 1).bind fun v_5 =>
    (m_pI g_4 a0 3 1 (v_5 + 1)).bind fun g_6 =>
    f_Letters_put_34 g_6 
set_option maxHeartbeats 1000000 in
set_option maxRecDepth 100000 in
theorem c_Letters_put (l : Launch) (D : va_G) (B : Nat) (K : Nat → ClassId)  (n : Nat) (g : m_G) (a0 : Nat) (x1 : Int32) (r : Unit) (g' : m_G) (hF : f_Letters_put g a0 x1 = some (r, g')) : Met l y_Letters_put (Cond.code y_Letters_put b_Letters_put 2 none :: m_TB) ({ frames := 0, cells := 0, slots := 0, locals := 0 } : Room) (m_Pc D B K n g [.ref (B + a0), .int x1]) (m_Q D B K none n g') 0 0 (fun q => B ≤ q) := by
  refine m_met (by decide) (Nat.le_of_ble_eq_true rfl) ?_
  intro p e s m args below meth c ls E hr hlk hin hsz S hl
  have E : m_V p m c b_Letters_put 2 s args R_Letters D K := E
  have hz : s.heap.size + 0 = B + n := hsz
  have hl : lv_has ls 2 [(0, .ref (B + a0)), (1, .int x1)] := hl
  have hx := E.1.1
  have hb := E.1.2.1
  have hts := E.1.2.2.2.2
  unfold f_Letters_put at hF
  refine lv_aload_n hx hb d_Letters_put_0 rfl (lv_at hl 0 rfl) ?_
  replace hF := Option.bind_eq_some_iff.mp hF
  obtain ⟨v_1, ev_1, hF⟩ := hF
  refine m_getI (B := B) (a := a0) E S fd_Letters_number (Or.inl qw_27) ev_1 d_Letters_put_1 ?_
  refine lv_bipush (v := 12) hx hb d_Letters_put_4 (by decide) ?_
  refine lv_icmp_ge (tgt := 34) hx hb d_Letters_put_6 (by decide) (fun c_2 => ?_) (fun c_2 => ?_)
  · rw [if_pos c_2] at hF
    exact c_Letters_put_34 E hr hlk hz _ _ _ hF _ _ S _ (lv_sub hl [] rfl)
  · rw [if_neg c_2] at hF
    refine lv_aload_n hx hb d_Letters_put_9 rfl (lv_at hl 0 rfl) ?_
    refine lv_aload_n hx hb d_Letters_put_10 rfl (lv_at hl 0 rfl) ?_
    replace hF := Option.bind_eq_some_iff.mp hF
    obtain ⟨v_3, ev_3, hF⟩ := hF
    refine m_getL (B := B) (a := a0) E S fd_Letters_code (Or.inl qw_26) ev_3 d_Letters_put_11 ?_
    refine lv_ldc2 (v := 32) hx hb E.1.2.2.2.1 (hts _ qw_132) d_Letters_put_14 ?_
    refine lv_lmul hx hb d_Letters_put_17 ?_
    refine lv_iload_n hx hb d_Letters_put_18 rfl (lv_at hl 1 rfl) ?_
    refine lv_i2l hx hb d_Letters_put_19 rfl ?_
    refine lv_ladd hx hb d_Letters_put_20 ?_
    replace hF := Option.bind_eq_some_iff.mp hF
    obtain ⟨g_4, eg_4, hF⟩ := hF
    refine m_putL (B := B) (a := a0) E S fd_Letters_code (Or.inl qw_26) eg_4 d_Letters_put_21 (fun H locs S => ?_)
    refine lv_aload_n hx hb d_Letters_put_24 rfl (lv_at hl 0 rfl) ?_
    refine lv_dup hx hb d_Letters_put_25 rfl ?_
    replace hF := Option.bind_eq_some_iff.mp hF
    obtain ⟨v_5, ev_5, hF⟩ := hF
    refine m_getI (B := B) (a := a0) E S fd_Letters_number (Or.inl qw_27) ev_5 d_Letters_put_26 ?_
    refine lv_iconst (v := 1) hx hb d_Letters_put_29 (by decide) ?_
    refine lv_iadd hx hb d_Letters_put_30 ?_
    replace hF := Option.bind_eq_some_iff.mp hF
    obtain ⟨g_6, eg_6, hF⟩ := hF
    refine m_putI (B := B) (a := a0) E S fd_Letters_number (Or.inl qw_27) eg_6 d_Letters_put_31 (fun H locs S => ?_)
    exact c_Letters_put_34 E hr hlk hz _ _ _ hF _ _ S _ (lv_sub hl [] rfl)
def f_Letters_clear  (g : m_G) (a0 : Nat) : Option (Unit × m_G) :=
  (m_pL g a0 3 0 0).bind fun g_1 =>
  (m_pI g_1 a0 3 1 0).bind fun g_2 =>
  some ((), g_2)
set_option maxHeartbeats 1000000 in
set_option maxRecDepth 100000 in
theorem c_Letters_clear (l : Launch) (D : va_G) (B : Nat) (K : Nat → ClassId)  (n : Nat) (g : m_G) (a0 : Nat) (r : Unit) (g' : m_G) (hF : f_Letters_clear g a0 = some (r, g')) : Met l y_Letters_clear (Cond.code y_Letters_clear b_Letters_clear 1 none :: m_TB) ({ frames := 0, cells := 0, slots := 0, locals := 0 } : Room) (m_Pc D B K n g [.ref (B + a0)]) (m_Q D B K none n g') 0 0 (fun q => B ≤ q) := by
  refine m_met (by decide) (Nat.le_of_ble_eq_true rfl) ?_
  intro p e s m args below meth c ls E hr hlk hin hsz S hl
  have E : m_V p m c b_Letters_clear 1 s args R_Letters D K := E
  have hz : s.heap.size + 0 = B + n := hsz
  have hl : lv_has ls 1 [(0, .ref (B + a0))] := hl
  have hx := E.1.1
  have hb := E.1.2.1
  have hts := E.1.2.2.2.2
  unfold f_Letters_clear at hF
  refine lv_aload_n hx hb d_Letters_clear_0 rfl (lv_at hl 0 rfl) ?_
  refine lv_lconst (v := 0) hx hb d_Letters_clear_1 (by decide) ?_
  replace hF := Option.bind_eq_some_iff.mp hF
  obtain ⟨g_1, eg_1, hF⟩ := hF
  refine m_putL (B := B) (a := a0) E S fd_Letters_code (Or.inl qw_26) eg_1 d_Letters_clear_2 (fun H locs S => ?_)
  refine lv_aload_n hx hb d_Letters_clear_5 rfl (lv_at hl 0 rfl) ?_
  refine lv_iconst (v := 0) hx hb d_Letters_clear_6 (by decide) ?_
  replace hF := Option.bind_eq_some_iff.mp hF
  obtain ⟨g_2, eg_2, hF⟩ := hF
  refine m_putI (B := B) (a := a0) E S fd_Letters_number (Or.inl qw_27) eg_2 d_Letters_clear_7 (fun H locs S => ?_)
  cases hF
  skip
  exact m_vret E S hz hr hlk d_Letters_clear_10
