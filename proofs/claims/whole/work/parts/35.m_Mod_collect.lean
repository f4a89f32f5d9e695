section S_Mod_collect
variable {p : Program} {l : Launch} {e : Env} {s : State} {m : MethodId} {args : Array Value} {below : List Frame} {meth : Method} {c : Code} {D : va_G} {B n : Nat} {K : Nat → ClassId}
def f_Mod_collect_3   : Nat → m_G → Nat → Int32 → Int32 → Int32 → Option (Unit × m_G)
  | 0, _, _, _, _, _ => none
  | fu + 1, g, a0, x1, x3, x4 =>
    (m_gR g a0 8 1).bind fun v_1 =>
    Option.bind v_1 fun a_2 =>
    (m_ld g a_2 0 x1).bind fun v_3 =>
    if (v_3 : Int32) ≤ x4 then
      m_gd (m_is g a0 8) <|
      m_bd (f_Mod_letter g a0 0 x3) fun v_6 g_5 =>
      some ((), g_5)
    else
      m_gd (m_is g a0 8) <|
      m_bd (f_Mod_at g a0 x1 x4) fun v_8 g_7 =>
      m_gd (m_is g_7 a0 8) <|
      m_bd (f_Mod_letter g_7 a0 v_8 x3) fun v_10 g_9 =>
      f_Mod_collect_3 fu g_9 a0 x1 x3 (x4 + 1)
set_option maxHeartbeats 1000000 in
set_option maxRecDepth 100000 in
theorem c_Mod_collect_3 (E : m_V p m c b_Mod_collect 5 s args R_Mod D K) (hr : meth.sig.returnType = none) (hlk : meth.locks = false) (hz : s.heap.size + 0 = B + n)   : ∀ fu : Nat, ∀ (g : m_G) (a0 : Nat) (x1 : Int32) (x3 : Int32) (x4 : Int32) (r : Unit) (g' : m_G), f_Mod_collect_3  fu g a0 x1 x3 x4 = some (r, g') → ∀ (H : Heap) (locs : List Loc), m_S D B K n g s.heap H locs → ∀ ls : Array Slot, lv_has ls 5 [(0, .ref (B + a0)), (1, .int x1), (3, .int x3), (4, .int x4)] → W p l e ({ frames := 1, cells := 0, slots := 0, locals := 23 } : Room) s m args below meth c H locs 0 0 (MQ below (m_Q D B K none n g') args s 0 0 (fun q => B ≤ q)) (F0 m 3 ls []) := by
  have hx := E.1.1
  have hb := E.1.2.1
  have hts := E.1.2.2.2.2
  intro fu
  induction fu with
  | zero => intro g a0 x1 x3 x4 r g' hF; cases hF
  | succ fu ih =>
    intro g a0 x1 x3 x4 r g' hF H locs S ls hl
    rw [f_Mod_collect_3] at hF
    refine lv_iload hx hb d_Mod_collect_3 (lv_at hl 3 rfl) ?_
    refine lv_aload_n hx hb d_Mod_collect_5 rfl (lv_at hl 0 rfl) ?_
    replace hF := Option.bind_eq_some_iff.mp hF
    obtain ⟨v_1, ev_1, hF⟩ := hF
    refine m_getR (B := B) (a := a0) E S fd_Mod_lengths (Or.inl qw_285) ev_1 d_Mod_collect_6 ?_
    refine lv_iload_n hx hb d_Mod_collect_9 rfl (lv_at hl 1 rfl) ?_
    replace hF := Option.bind_eq_some_iff.mp hF
    obtain ⟨a_2, ea_2, hF⟩ := hF
    subst ea_2
    replace hF := Option.bind_eq_some_iff.mp hF
    obtain ⟨v_3, ev_3, hF⟩ := hF
    refine m_iald (B := B) (a := a_2) (t := 0) E S rfl ev_3 d_Mod_collect_10 ?_
    refine lv_icmp_ge (tgt := 32) hx hb d_Mod_collect_11 (by decide) (fun c_4 => ?_) (fun c_4 => ?_)
    · rw [if_pos c_4] at hF
      refine lv_aload_n hx hb d_Mod_collect_32 rfl (lv_at hl 0 rfl) ?_
      refine lv_iconst (v := 0) hx hb d_Mod_collect_33 (by decide) ?_
      refine lv_iload_n hx hb d_Mod_collect_34 rfl (lv_at hl 2 rfl) ?_
      replace hF := m_gd_inv hF
      obtain ⟨eog_5, hF⟩ := hF
      replace hF := m_bd_inv hF
      obtain ⟨v_6, g_5, eg_5, hF⟩ := hF
      refine m_callV (B := B) (nn := 2) (b := a0) (As := [.int 0, .int x3]) (rest := []) (v := none) E S hz (c_Mod_letter l D B K n g a0 0 x3 v_6 g_5 eg_5) qc_Mod_letter ⟨rfl, rfl⟩ (Or.inl qw_314) qw_315 qw_316 qw_304 (by decide +kernel) ⟨Nat.le_of_ble_eq_true rfl, Nat.le_of_ble_eq_true rfl⟩ eog_5 rfl rfl hl.1 (Nat.le_of_ble_eq_true rfl) d_Mod_collect_35 ⟨Nat.le_of_ble_eq_true rfl, Nat.le_of_ble_eq_true rfl⟩ (fun H locs S => ?_)
      refine W.eq (g2 := F0 m 38 ls []) rfl ?_
      cases hF
      skip
      exact m_vret E S hz hr hlk d_Mod_collect_38
    · rw [if_neg c_4] at hF
      refine lv_aload_n hx hb d_Mod_collect_14 rfl (lv_at hl 0 rfl) ?_
      refine lv_aload_n hx hb d_Mod_collect_15 rfl (lv_at hl 0 rfl) ?_
      refine lv_iload_n hx hb d_Mod_collect_16 rfl (lv_at hl 1 rfl) ?_
      refine lv_iload hx hb d_Mod_collect_17 (lv_at hl 3 rfl) ?_
      replace hF := m_gd_inv hF
      obtain ⟨eog_7, hF⟩ := hF
      replace hF := m_bd_inv hF
      obtain ⟨v_8, g_7, eg_7, hF⟩ := hF
      refine m_callV (B := B) (nn := 2) (b := a0) (As := [.int x1, .int x4]) (rest := [.ref (B + a0)]) (v := (some (.int v_8))) E S hz (c_Mod_at l D B K n g a0 x1 x4 v_8 g_7 eg_7) qc_Mod_at ⟨rfl, rfl⟩ (Or.inl qw_307) qw_308 qw_309 qw_304 (by decide +kernel) ⟨Nat.le_of_ble_eq_true rfl, Nat.le_of_ble_eq_true rfl⟩ eog_7 rfl rfl hl.1 (Nat.le_of_ble_eq_true rfl) d_Mod_collect_19 ⟨Nat.le_of_ble_eq_true rfl, Nat.le_of_ble_eq_true rfl⟩ (fun H locs S => ?_)
      refine W.eq (g2 := F0 m 22 ls [.int v_8, .ref (B + a0)]) rfl ?_
      refine lv_iload_n hx hb d_Mod_collect_22 rfl (lv_at hl 2 rfl) ?_
      replace hF := m_gd_inv hF
      obtain ⟨eog_9, hF⟩ := hF
      replace hF := m_bd_inv hF
      obtain ⟨v_10, g_9, eg_9, hF⟩ := hF
      refine m_callV (B := B) (nn := 2) (b := a0) (As := [.int v_8, .int x3]) (rest := []) (v := none) E S hz (c_Mod_letter l D B K n g_7 a0 v_8 x3 v_10 g_9 eg_9) qc_Mod_letter ⟨rfl, rfl⟩ (Or.inl qw_314) qw_315 qw_316 qw_304 (by decide +kernel) ⟨Nat.le_of_ble_eq_true rfl, Nat.le_of_ble_eq_true rfl⟩ eog_9 rfl rfl hl.1 (Nat.le_of_ble_eq_true rfl) d_Mod_collect_23 ⟨Nat.le_of_ble_eq_true rfl, Nat.le_of_ble_eq_true rfl⟩ (fun H locs S => ?_)
      refine W.eq (g2 := F0 m 26 ls []) rfl ?_
      refine lv_iinc (v := (x4 + 1)) (lv' := [(4, .int (x4 + 1)), (0, .ref (B + a0)), (1, .int x1), (3, .int x3)]) hx hb d_Mod_collect_26 hl (k := 3) rfl rfl (by decide) rfl (fun ls hl => ?_)
      refine lv_goto (tgt := 3) hx hb d_Mod_collect_29 (by decide) ?_
      exact ih _ _ _ _ _ _ _ hF _ _ S _ (lv_sub hl [1, 2, 3, 0] rfl)
end S_Mod_collect
def f_Mod_collect  (g : m_G) (a0 : Nat) (x1 : Int32) (x2 : Int32) (x3 : Int32) : Option (Unit × m_G) :=
  f_Mod_collect_3 m_fu g a0 x1 x3 x2
set_option maxHeartbeats 1000000 in
set_option maxRecDepth 100000 in
theorem c_Mod_collect (l : Launch) (D : va_G) (B : Nat) (K : Nat → ClassId)  (n : Nat) (g : m_G) (a0 : Nat) (x1 : Int32) (x2 : Int32) (x3 : Int32) (r : Unit) (g' : m_G) (hF : f_Mod_collect g a0 x1 x2 x3 = some (r, g')) : Met l y_Mod_collect (Cond.code y_Mod_collect b_Mod_collect 5 none :: m_TB) ({ frames := 1, cells := 0, slots := 0, locals := 23 } : Room) (m_Pc D B K n g [.ref (B + a0), .int x1, .int x2, .int x3]) (m_Q D B K none n g') 0 0 (fun q => B ≤ q) := by
  refine m_met (by decide) (Nat.le_of_ble_eq_true rfl) ?_
  intro p e s m args below meth c ls E hr hlk hin hsz S hl
  have E : m_V p m c b_Mod_collect 5 s args R_Mod D K := E
  have hz : s.heap.size + 0 = B + n := hsz
  have hl : lv_has ls 5 [(0, .ref (B + a0)), (1, .int x1), (2, .int x2), (3, .int x3)] := hl
  have hx := E.1.1
  have hb := E.1.2.1
  have hts := E.1.2.2.2.2
  unfold f_Mod_collect at hF
  refine lv_iload_n hx hb d_Mod_collect_0 rfl (lv_at hl 2 rfl) ?_
  refine lv_istore (lv' := [(4, .int x2), (0, .ref (B + a0)), (1, .int x1), (2, .int x2), (3, .int x3)]) hx hb d_Mod_collect_1 hl (by decide) rfl (fun ls hl => ?_)
  exact c_Mod_collect_3 E hr hlk hz m_fu _ _ _ _ _ _ _ hF _ _ S _ (lv_sub hl [1, 2, 4, 0] rfl)
section S_Mod_emptyLine
variable {p : Program} {l : Launch} {e : Env} {s : State} {m : MethodId} {args : Array Value} {below : List Frame} {meth : Method} {c : Code} {D : va_G} {B n : Nat} {K : Nat → ClassId}
def f_Mod_emptyLine_22   (g : m_G) (x3 : Int32) : Option (Int32 × m_G) :=
  some (x3, g)
set_option maxHeartbeats 1000000 in
set_option maxRecDepth 100000 in
theorem c_Mod_emptyLine_22 (E : m_V p m c b_Mod_emptyLine 4 s args R_Mod D K) (hr : meth.sig.returnType = (some .int)) (hlk : meth.locks = false) (hz : s.heap.size + 0 = B + n)   : ∀ (g : m_G) (x3 : Int32) (r : Int32) (g' : m_G), f_Mod_emptyLine_22 g x3 = some (r, g') → ∀ (H : Heap) (locs : List Loc), m_S D B K n g s.heap H locs → ∀ ls : Array Slot, lv_has ls 4 [(3, .int x3)] → W p l e ({ frames := 0, cells := 0, slots := 0, locals := 0 } : Room) s m args below meth c H locs 0 0 (MQ below (m_Q D B K (some (.int r)) n g') args s 0 0 (fun q => B ≤ q)) (F0 m 22 ls []) := by
  have hx := E.1.1
  have hb := E.1.2.1
  have hts := E.1.2.2.2.2
  intro g x3 r g' hF H locs S ls hl
  unfold f_Mod_emptyLine_22 at hF
  refine lv_iload_n hx hb d_Mod_emptyLine_22 rfl (lv_at hl 0 rfl) ?_
  cases hF
  exact m_iret E S hz hr hlk d_Mod_emptyLine_23
def f_Mod_emptyLine_2   : Nat → m_G → Nat → Int32 → Int32 → Option (Int32 × m_G)
  | 0, _, _, _, _ => none
  | fu + 1, g, a0, x2, x3 =>
    if (x2 : Int32) ≤ x3 then
      f_Mod_emptyLine_22 g x3
    else
      (m_gR g a0 8 1).bind fun v_2 =>
      Option.bind v_2 fun a_3 =>
      (m_ld g a_3 0 x3).bind fun v_4 =>
      if (v_4 : Int32) ≤ 0 then
        f_Mod_emptyLine_22 g x3
      else
        f_Mod_emptyLine_2 fu g a0 x2 (x3 + 1)
set_option maxHeartbeats 1000000 in
set_option maxRecDepth 100000 in
theorem c_Mod_emptyLine_2 (E : m_V p m c b_Mod_emptyLine 4 s args R_Mod D K) (hr : meth.sig.returnType = (some .int)) (hlk : meth.locks = false) (hz : s.heap.size + 0 = B + n)   : ∀ fu : Nat, ∀ (g : m_G) (a0 : Nat) (x2 : Int32) (x3 : Int32) (r : Int32) (g' : m_G), f_Mod_emptyLine_2  fu g a0 x2 x3 = some (r, g') → ∀ (H : Heap) (locs : List Loc), m_S D B K n g s.heap H locs → ∀ ls : Array Slot, lv_has ls 4 [(0, .ref (B + a0)), (2, .int x2), (3, .int x3)] → W p l e ({ frames := 0, cells := 0, slots := 0, locals := 0 } : Room) s m args below meth c H locs 0 0 (MQ below (m_Q D B K (some (.int r)) n g') args s 0 0 (fun q => B ≤ q)) (F0 m 2 ls []) := by
  have hx := E.1.1
  have hb := E.1.2.1
  have hts := E.1.2.2.2.2
  intro fu
  induction fu with
  | zero => intro g a0 x2 x3 r g' hF; cases hF
  | succ fu ih =>
    intro g a0 x2 x3 r g' hF H locs S ls hl
    rw [f_Mod_emptyLine_2] at hF
    refine lv_iload_n hx hb d_Mod_emptyLine_2 rfl (lv_at hl 2 rfl) ?_
    refine lv_iload_n hx hb d_Mod_emptyLine_3 rfl (lv_at hl 1 rfl) ?_
    refine lv_icmp_ge (tgt := 22) hx hb d_Mod_emptyLine_4 (by decide) (fun c_1 => ?_) (fun c_1 => ?_)
    · rw [if_pos c_1] at hF
      exact c_Mod_emptyLine_22 E hr hlk hz _ _ _ _ hF _ _ S _ (lv_sub hl [2] rfl)
    · rw [if_neg c_1] at hF
      refine lv_aload_n hx hb d_Mod_emptyLine_7 rfl (lv_at hl 0 rfl) ?_
      replace hF := Option.bind_eq_some_iff.mp hF
      obtain ⟨v_2, ev_2, hF⟩ := hF
      refine m_getR (B := B) (a := a0) E S fd_Mod_lengths (Or.inl qw_285) ev_2 d_Mod_emptyLine_8 ?_
      refine lv_iload_n hx hb d_Mod_emptyLine_11 rfl (lv_at hl 2 rfl) ?_
      replace hF := Option.bind_eq_some_iff.mp hF
      obtain ⟨a_3, ea_3, hF⟩ := hF
      subst ea_3
      replace hF := Option.bind_eq_some_iff.mp hF
      obtain ⟨v_4, ev_4, hF⟩ := hF
      refine m_iald (B := B) (a := a_3) (t := 0) E S rfl ev_4 d_Mod_emptyLine_12 ?_
      refine lv_if_le (tgt := 22) hx hb d_Mod_emptyLine_13 (by decide) (fun c_5 => ?_) (fun c_5 => ?_)
      · rw [if_pos c_5] at hF
        exact c_Mod_emptyLine_22 E hr hlk hz _ _ _ _ hF _ _ S _ (lv_sub hl [2] rfl)
      · rw [if_neg c_5] at hF
        refine lv_iinc (v := (x3 + 1)) (lv' := [(3, .int (x3 + 1)), (0, .ref (B + a0)), (2, .int x2)]) hx hb d_Mod_emptyLine_16 hl (k := 2) rfl rfl (by decide) rfl (fun ls hl => ?_)
        refine lv_goto (tgt := 2) hx hb d_Mod_emptyLine_19 (by decide) ?_
        exact ih _ _ _ _ _ _ hF _ _ S _ (lv_sub hl [1, 2, 0] rfl)
end S_Mod_emptyLine
def f_Mod_emptyLine  (g : m_G) (a0 : Nat) (x1 : Int32) (x2 : Int32) : Option (Int32 × m_G) :=
  f_Mod_emptyLine_2 m_fu g a0 x2 x1
set_option maxHeartbeats 1000000 in
set_option maxRecDepth 100000 in
theorem c_Mod_emptyLine (l : Launch) (D : va_G) (B : Nat) (K : Nat → ClassId)  (n : Nat) (g : m_G) (a0 : Nat) (x1 : Int32) (x2 : Int32) (r : Int32) (g' : m_G) (hF : f_Mod_emptyLine g a0 x1 x2 = some (r, g')) : Met l y_Mod_emptyLine (Cond.code y_Mod_emptyLine b_Mod_emptyLine 4 (some .int) :: m_TB) ({ frames := 0, cells := 0, slots := 0, locals := 0 } : Room) (m_Pc D B K n g [.ref (B + a0), .int x1, .int x2]) (m_Q D B K (some (.int r)) n g') 0 0 (fun q => B ≤ q) := by
  refine m_met (by decide) (Nat.le_of_ble_eq_true rfl) ?_
  intro p e s m args below meth c ls E hr hlk hin hsz S hl
  have E : m_V p m c b_Mod_emptyLine 4 s args R_Mod D K := E
  have hz : s.heap.size + 0 = B + n := hsz
  have hl : lv_has ls 4 [(0, .ref (B + a0)), (1, .int x1), (2, .int x2)] := hl
  have hx := E.1.1
  have hb := E.1.2.1
  have hts := E.1.2.2.2.2
  unfold f_Mod_emptyLine at hF
  refine lv_iload_n hx hb d_Mod_emptyLine_0 rfl (lv_at hl 1 rfl) ?_
  refine lv_istore_n (lv' := [(3, .int x1), (0, .ref (B + a0)), (1, .int x1), (2, .int x2)]) hx hb d_Mod_emptyLine_1 rfl hl (by decide) rfl (fun ls hl => ?_)
  exact c_Mod_emptyLine_2 E hr hlk hz m_fu _ _ _ _ _ _ hF _ _ S _ (lv_sub hl [1, 3, 0] rfl)
section S_Mod_header
variable {p : Program} {l : Launch} {e : Env} {s : State} {m : MethodId} {args : Array Value} {below : List Frame} {meth : Method} {c : Code} {D : va_G} {B n : Nat} {K : Nat → ClassId}
def f_Mod_header_59  (k_14 : m_G → Nat → Int32 → Int32 → Int32 → Int32 → Option (Int32 × m_G)) (g : m_G) (a0 : Nat) (x3 : Int32) (x4 : Int32) (x5 : Int32) (x6 : Int32) : Option (Int32 × m_G) :=
  k_14 g a0 x3 x4 x5 (x6 + 1)
set_option maxHeartbeats 1000000 in
set_option maxRecDepth 100000 in
theorem c_Mod_header_59 (E : m_V p m c b_Mod_header 7 s args R_Mod D K) (hr : meth.sig.returnType = (some .int)) (hlk : meth.locks = false) (hz : s.heap.size + 0 = B + n)  (k_14 : m_G → Nat → Int32 → Int32 → Int32 → Int32 → Option (Int32 × m_G)) (hk_14 : ∀ (g : m_G) (a0 : Nat) (x3 : Int32) (x4 : Int32) (x5 : Int32) (x6 : Int32) (r : Int32) (g' : m_G), k_14 g a0 x3 x4 x5 x6 = some (r, g') → ∀ (H : Heap) (locs : List Loc), m_S D B K n g s.heap H locs → ∀ ls : Array Slot, lv_has ls 7 [(0, .ref (B + a0)), (3, .int x3), (4, .int x4), (5, .int x5), (6, .int x6)] → W p l e ({ frames := 1, cells := 0, slots := 0, locals := 23 } : Room) s m args below meth c H locs 0 0 (MQ below (m_Q D B K (some (.int r)) n g') args s 0 0 (fun q => B ≤ q)) (F0 m 14 ls [])) : ∀ (g : m_G) (a0 : Nat) (x3 : Int32) (x4 : Int32) (x5 : Int32) (x6 : Int32) (r : Int32) (g' : m_G), f_Mod_header_59 k_14 g a0 x3 x4 x5 x6 = some (r, g') → ∀ (H : Heap) (locs : List Loc), m_S D B K n g s.heap H locs → ∀ ls : Array Slot, lv_has ls 7 [(0, .ref (B + a0)), (3, .int x3), (4, .int x4), (5, .int x5), (6, .int x6)] → W p l e ({ frames := 1, cells := 0, slots := 0, locals := 23 } : Room) s m args below meth c H locs 0 0 (MQ below (m_Q D B K (some (.int r)) n g') args s 0 0 (fun q => B ≤ q)) (F0 m 59 ls []) := by
  have hx := E.1.1
  have hb := E.1.2.1
  have hts := E.1.2.2.2.2
  intro g a0 x3 x4 x5 x6 r g' hF H locs S ls hl
  unfold f_Mod_header_59 at hF
  refine lv_iinc (v := (x6 + 1)) (lv' := [(6, .int (x6 + 1)), (0, .ref (B + a0)), (3, .int x3), (4, .int x4), (5, .int x5)]) hx hb d_Mod_header_59 hl (k := 4) rfl rfl (by decide) rfl (fun ls hl => ?_)
  refine lv_goto (tgt := 14) hx hb d_Mod_header_62 (by decide) ?_
  exact hk_14 _ _ _ _ _ _ _ _ hF _ _ S _ (lv_sub hl [1, 2, 3, 4, 0] rfl)
def f_Mod_header_14   : Nat → m_G → Nat → Int32 → Int32 → Int32 → Int32 → Option (Int32 × m_G)
  | 0, _, _, _, _, _, _ => none
  | fu + 1, g, a0, x3, x4, x5, x6 =>
    if (x5 : Int32) ≤ x6 then
      some (x4, g)
    else
      (m_gR g a0 8 1).bind fun v_2 =>
      Option.bind v_2 fun a_3 =>
      (m_ld g a_3 0 x6).bind fun v_4 =>
      if (v_4 : Int32) ≤ 1 then
        f_Mod_header_59 (f_Mod_header_14 fu) g a0 x3 x4 x5 x6
      else
        m_gd (m_is g a0 8) <|
        m_bd (f_Mod_at g a0 x6 1) fun v_7 g_6 =>
        if (v_7 : Int32) = 58 then
          m_gd (m_is g_6 a0 8) <|
          m_bd (f_Mod_at g_6 a0 x6 0) fun v_10 g_9 =>
          if (v_10 : Int32) = x3 then
            f_Mod_header_59 (f_Mod_header_14 fu) g_9 a0 x3 x6 x5 x6
          else
            f_Mod_header_59 (f_Mod_header_14 fu) g_9 a0 x3 x4 x5 x6
        else
          f_Mod_header_59 (f_Mod_header_14 fu) g_6 a0 x3 x4 x5 x6
set_option maxHeartbeats 1000000 in
set_option maxRecDepth 100000 in
theorem c_Mod_header_14 (E : m_V p m c b_Mod_header 7 s args R_Mod D K) (hr : meth.sig.returnType = (some .int)) (hlk : meth.locks = false) (hz : s.heap.size + 0 = B + n)   : ∀ fu : Nat, ∀ (g : m_G) (a0 : Nat) (x3 : Int32) (x4 : Int32) (x5 : Int32) (x6 : Int32) (r : Int32) (g' : m_G), f_Mod_header_14  fu g a0 x3 x4 x5 x6 = some (r, g') → ∀ (H : Heap) (locs : List Loc), m_S D B K n g s.heap H locs → ∀ ls : Array Slot, lv_has ls 7 [(0, .ref (B + a0)), (3, .int x3), (4, .int x4), (5, .int x5), (6, .int x6)] → W p l e ({ frames := 1, cells := 0, slots := 0, locals := 23 } : Room) s m args below meth c H locs 0 0 (MQ below (m_Q D B K (some (.int r)) n g') args s 0 0 (fun q => B ≤ q)) (F0 m 14 ls []) := by
  have hx := E.1.1
  have hb := E.1.2.1
  have hts := E.1.2.2.2.2
  intro fu
  induction fu with
  | zero => intro g a0 x3 x4 x5 x6 r g' hF; cases hF
  | succ fu ih =>
    intro g a0 x3 x4 x5 x6 r g' hF H locs S ls hl
    rw [f_Mod_header_14] at hF
    refine lv_iload hx hb d_Mod_header_14 (lv_at hl 4 rfl) ?_
    refine lv_iload hx hb d_Mod_header_16 (lv_at hl 3 rfl) ?_
    refine lv_icmp_ge (tgt := 65) hx hb d_Mod_header_18 (by decide) (fun c_1 => ?_) (fun c_1 => ?_)
    · rw [if_pos c_1] at hF
      refine lv_iload hx hb d_Mod_header_65 (lv_at hl 2 rfl) ?_
      cases hF
      exact m_iret E S hz hr hlk d_Mod_header_67
    · rw [if_neg c_1] at hF
      refine lv_aload_n hx hb d_Mod_header_21 rfl (lv_at hl 0 rfl) ?_
      replace hF := Option.bind_eq_some_iff.mp hF
      obtain ⟨v_2, ev_2, hF⟩ := hF
      refine m_getR (B := B) (a := a0) E S fd_Mod_lengths (Or.inl qw_285) ev_2 d_Mod_header_22 ?_
      refine lv_iload hx hb d_Mod_header_25 (lv_at hl 4 rfl) ?_
      replace hF := Option.bind_eq_some_iff.mp hF
      obtain ⟨a_3, ea_3, hF⟩ := hF
      subst ea_3
      replace hF := Option.bind_eq_some_iff.mp hF
      obtain ⟨v_4, ev_4, hF⟩ := hF
      refine m_iald (B := B) (a := a_3) (t := 0) E S rfl ev_4 d_Mod_header_27 ?_
      refine lv_iconst (v := 1) hx hb d_Mod_header_28 (by decide) ?_
      refine lv_icmp_le (tgt := 59) hx hb d_Mod_header_29 (by decide) (fun c_5 => ?_) (fun c_5 => ?_)
      · rw [if_pos c_5] at hF
        exact c_Mod_header_59 E hr hlk hz (f_Mod_header_14 fu) ih _ _ _ _ _ _ _ _ hF _ _ S _ (lv_sub hl [0, 1, 2, 3, 4] rfl)
      · rw [if_neg c_5] at hF
        refine lv_aload_n hx hb d_Mod_header_32 rfl (lv_at hl 0 rfl) ?_
        refine lv_iload hx hb d_Mod_header_33 (lv_at hl 4 rfl) ?_
        refine lv_iconst (v := 1) hx hb d_Mod_header_35 (by decide) ?_
        replace hF := m_gd_inv hF
        obtain ⟨eog_6, hF⟩ := hF
        replace hF := m_bd_inv hF
        obtain ⟨v_7, g_6, eg_6, hF⟩ := hF
        refine m_callV (B := B) (nn := 2) (b := a0) (As := [.int x6, .int 1]) (rest := []) (v := (some (.int v_7))) E S hz (c_Mod_at l D B K n g a0 x6 1 v_7 g_6 eg_6) qc_Mod_at ⟨rfl, rfl⟩ (Or.inl qw_307) qw_308 qw_309 qw_304 (by decide +kernel) ⟨Nat.le_of_ble_eq_true rfl, Nat.le_of_ble_eq_true rfl⟩ eog_6 rfl rfl hl.1 (Nat.le_of_ble_eq_true rfl) d_Mod_header_36 ⟨Nat.le_of_ble_eq_true rfl, Nat.le_of_ble_eq_true rfl⟩ (fun H locs S => ?_)
        refine W.eq (g2 := F0 m 39 ls [.int v_7]) rfl ?_
        refine lv_bipush (v := 58) hx hb d_Mod_header_39 (by decide) ?_
        refine lv_icmp_ne (tgt := 59) hx hb d_Mod_header_41 (by decide) (fun c_8 => ?_) (fun c_8 => ?_)
        · rw [if_neg c_8] at hF
          exact c_Mod_header_59 E hr hlk hz (f_Mod_header_14 fu) ih _ _ _ _ _ _ _ _ hF _ _ S _ (lv_sub hl [0, 1, 2, 3, 4] rfl)
        · rw [if_pos c_8] at hF
          refine lv_aload_n hx hb d_Mod_header_44 rfl (lv_at hl 0 rfl) ?_
          refine lv_iload hx hb d_Mod_header_45 (lv_at hl 4 rfl) ?_
          refine lv_iconst (v := 0) hx hb d_Mod_header_47 (by decide) ?_
          replace hF := m_gd_inv hF
          obtain ⟨eog_9, hF⟩ := hF
          replace hF := m_bd_inv hF
          obtain ⟨v_10, g_9, eg_9, hF⟩ := hF
          refine m_callV (B := B) (nn := 2) (b := a0) (As := [.int x6, .int 0]) (rest := []) (v := (some (.int v_10))) E S hz (c_Mod_at l D B K n g_6 a0 x6 0 v_10 g_9 eg_9) qc_Mod_at ⟨rfl, rfl⟩ (Or.inl qw_307) qw_308 qw_309 qw_304 (by decide +kernel) ⟨Nat.le_of_ble_eq_true rfl, Nat.le_of_ble_eq_true rfl⟩ eog_9 rfl rfl hl.1 (Nat.le_of_ble_eq_true rfl) d_Mod_header_48 ⟨Nat.le_of_ble_eq_true rfl, Nat.le_of_ble_eq_true rfl⟩ (fun H locs S => ?_)
          refine W.eq (g2 := F0 m 51 ls [.int v_10]) rfl ?_
          refine lv_iload_n hx hb d_Mod_header_51 rfl (lv_at hl 1 rfl) ?_
          refine lv_icmp_ne (tgt := 59) hx hb d_Mod_header_52 (by decide) (fun c_11 => ?_) (fun c_11 => ?_)
          · rw [if_neg c_11] at hF
            exact c_Mod_header_59 E hr hlk hz (f_Mod_header_14 fu) ih _ _ _ _ _ _ _ _ hF _ _ S _ (lv_sub hl [0, 1, 2, 3, 4] rfl)
          · rw [if_pos c_11] at hF
            refine lv_iload hx hb d_Mod_header_55 (lv_at hl 4 rfl) ?_
            refine lv_istore (lv' := [(4, .int x6), (0, .ref (B + a0)), (3, .int x3), (5, .int x5), (6, .int x6)]) hx hb d_Mod_header_57 hl (by decide) rfl (fun ls hl => ?_)
            exact c_Mod_header_59 E hr hlk hz (f_Mod_header_14 fu) ih _ _ _ _ _ _ _ _ hF _ _ S _ (lv_sub hl [1, 2, 0, 3, 4] rfl)
end S_Mod_header
def f_Mod_header  (g : m_G) (a0 : Nat) (x1 : Int32) (x2 : Int32) (x3 : Int32) : Option (Int32 × m_G) :=
  m_gd (m_is g a0 8) <|
  m_bd (f_Mod_emptyLine g a0 x1 x2) fun v_2 g_1 =>
  f_Mod_header_14 m_fu g_1 a0 x3 (-1) v_2 x1
set_option maxHeartbeats 1000000 in
set_option maxRecDepth 100000 in
theorem c_Mod_header (l : Launch) (D : va_G) (B : Nat) (K : Nat → ClassId)  (n : Nat) (g : m_G) (a0 : Nat) (x1 : Int32) (x2 : Int32) (x3 : Int32) (r : Int32) (g' : m_G) (hF : f_Mod_header g a0 x1 x2 x3 = some (r, g')) : Met l y_Mod_header (Cond.code y_Mod_header b_Mod_header 7 (some .int) :: m_TB) ({ frames := 1, cells := 0, slots := 0, locals := 23 } : Room) (m_Pc D B K n g [.ref (B + a0), .int x1, .int x2, .int x3]) (m_Q D B K (some (.int r)) n g') 0 0 (fun q => B ≤ q) := by
  refine m_met (by decide) (Nat.le_of_ble_eq_true rfl) ?_
  intro p e s m args below meth c ls E hr hlk hin hsz S hl
  have E : m_V p m c b_Mod_header 7 s args R_Mod D K := E
  have hz : s.heap.size + 0 = B + n := hsz
  have hl : lv_has ls 7 [(0, .ref (B + a0)), (1, .int x1), (2, .int x2), (3, .int x3)] := hl
  have hx := E.1.1
  have hb := E.1.2.1
  have hts := E.1.2.2.2.2
  unfold f_Mod_header at hF
  refine lv_iconst (v := (-1)) hx hb d_Mod_header_0 (by decide) ?_
  refine lv_istore (lv' := [(4, .int (-1)), (0, .ref (B + a0)), (1, .int x1), (2, .int x2), (3, .int x3)]) hx hb d_Mod_header_1 hl (by decide) rfl (fun ls hl => ?_)
  refine lv_aload_n hx hb d_Mod_header_3 rfl (lv_at hl 1 rfl) ?_
  refine lv_iload_n hx hb d_Mod_header_4 rfl (lv_at hl 2 rfl) ?_
  refine lv_iload_n hx hb d_Mod_header_5 rfl (lv_at hl 3 rfl) ?_
  replace hF := m_gd_inv hF
  obtain ⟨eog_1, hF⟩ := hF
  replace hF := m_bd_inv hF
  obtain ⟨v_2, g_1, eg_1, hF⟩ := hF
  refine m_callV (B := B) (nn := 2) (b := a0) (As := [.int x1, .int x2]) (rest := []) (v := (some (.int v_2))) E S hz (c_Mod_emptyLine l D B K n g a0 x1 x2 v_2 g_1 eg_1) qc_Mod_emptyLine ⟨rfl, rfl⟩ (Or.inl qw_317) qw_318 qw_319 qw_304 (by decide +kernel) ⟨Nat.le_of_ble_eq_true rfl, Nat.le_of_ble_eq_true rfl⟩ eog_1 rfl rfl hl.1 (Nat.le_of_ble_eq_true rfl) d_Mod_header_6 ⟨Nat.le_of_ble_eq_true rfl, Nat.le_of_ble_eq_true rfl⟩ (fun H locs S => ?_)
  refine W.eq (g2 := F0 m 9 ls [.int v_2]) rfl ?_
  refine lv_istore (lv' := [(5, .int v_2), (4, .int (-1)), (0, .ref (B + a0)), (1, .int x1), (2, .int x2), (3, .int x3)]) hx hb d_Mod_header_9 hl (by decide) rfl (fun ls hl => ?_)
  refine lv_iload_n hx hb d_Mod_header_11 rfl (lv_at hl 3 rfl) ?_
  refine lv_istore (lv' := [(6, .int x1), (5, .int v_2), (4, .int (-1)), (0, .ref (B + a0)), (1, .int x1), (2, .int x2), (3, .int x3)]) hx hb d_Mod_header_12 hl (by decide) rfl (fun ls hl => ?_)
  exact c_Mod_header_14 E hr hlk hz m_fu _ _ _ _ _ _ _ _ hF _ _ S _ (lv_sub hl [3, 6, 2, 1, 0] rfl)
def f_Mod_push  (g : m_G) (a0 : Nat) (x1 : Int32) (x2 : Int32) (x3 : Int32) : Option (Unit × m_G) :=
  (m_gR g a0 8 3).bind fun v_1 =>
  (m_gI g a0 8 6).bind fun v_2 =>
  Option.bind v_1 fun a_3 =>
  (m_st g a_3 0 v_2 x1).bind fun g_4 =>
  (m_gR g_4 a0 8 4).bind fun v_5 =>
  (m_gI g_4 a0 8 6).bind fun v_6 =>
  Option.bind v_5 fun a_7 =>
  (m_st g_4 a_7 0 v_6 x2).bind fun g_8 =>
  (m_gR g_8 a0 8 5).bind fun v_9 =>
  (m_gI g_8 a0 8 6).bind fun v_10 =>
  Option.bind v_9 fun a_11 =>
  (m_st g_8 a_11 0 v_10 x3).bind fun g_12 =>
  (m_gI g_12 a0 8 6).bind fun v_13 =>
  (m_pI g_12 a0 8 6 (v_13 + 1)).bind fun g_14 =>
  some ((), g_14)
set_option maxHeartbeats 1000000 in
set_option maxRecDepth 100000 in
theorem c_Mod_push (l : Launch) (D : va_G) (B : Nat) (K : Nat → ClassId)  (n : Nat) (g : m_G) (a0 : Nat) (x1 : Int32) (x2 : Int32) (x3 : Int32) (r : Unit) (g' : m_G) (hF : f_Mod_push g a0 x1 x2 x3 = some (r, g')) : Met l y_Mod_push (Cond.code y_Mod_push b_Mod_push 4 none :: m_TB) ({ frames := 0, cells := 0, slots := 0, locals := 0 } : Room) (m_Pc D B K n g [.ref (B + a0), .int x1, .int x2, .int x3]) (m_Q D B K none n g') 0 0 (fun q => B ≤ q) := by
  refine m_met (by decide) (Nat.le_of_ble_eq_true rfl) ?_
  intro p e s m args below meth c ls E hr hlk hin hsz S hl
  have E : m_V p m c b_Mod_push 4 s args R_Mod D K := E
  have hz : s.heap.size + 0 = B + n := hsz
  have hl : lv_has ls 4 [(0, .ref (B + a0)), (1, .int x1), (2, .int x2), (3, .int x3)] := hl
  have hx := E.1.1
  have hb := E.1.2.1
  have hts := E.1.2.2.2.2
  unfold f_Mod_push at hF
  refine lv_aload_n hx hb d_Mod_push_0 rfl (lv_at hl 0 rfl) ?_
  replace hF := Option.bind_eq_some_iff.mp hF
  obtain ⟨v_1, ev_1, hF⟩ := hF
  refine m_getR (B := B) (a := a0) E S fd_Mod_partFrom (Or.inl qw_286) ev_1 d_Mod_push_1 ?_
  refine lv_aload_n hx hb d_Mod_push_4 rfl (lv_at hl 0 rfl) ?_
  replace hF := Option.bind_eq_some_iff.mp hF
  obtain ⟨v_2, ev_2, hF⟩ := hF
  refine m_getI (B := B) (a := a0) E S fd_Mod_parts (Or.inl qw_320) ev_2 d_Mod_push_5 ?_
  refine lv_iload_n hx hb d_Mod_push_8 rfl (lv_at hl 1 rfl) ?_
  replace hF := Option.bind_eq_some_iff.mp hF
  obtain ⟨a_3, ea_3, hF⟩ := hF
  subst ea_3
  replace hF := Option.bind_eq_some_iff.mp hF
  obtain ⟨g_4, eg_4, hF⟩ := hF
  refine m_iast (B := B) (a := a_3) (t := 0) E S rfl eg_4 d_Mod_push_9 (fun H locs S => ?_)
  refine lv_aload_n hx hb d_Mod_push_10 rfl (lv_at hl 0 rfl) ?_
  replace hF := Option.bind_eq_some_iff.mp hF
  obtain ⟨v_5, ev_5, hF⟩ := hF
  refine m_getR (B := B) (a := a0) E S fd_Mod_partTo (Or.inl qw_287) ev_5 d_Mod_push_11 ?_
  refine lv_aload_n hx hb d_Mod_push_14 rfl (lv_at hl 0 rfl) ?_
  replace hF := Option.bind_eq_some_iff.mp hF
  obtain ⟨v_6, ev_6, hF⟩ := hF
  refine m_getI (B := B) (a := a0) E S fd_Mod_parts (Or.inl qw_320) ev_6 d_Mod_push_15 ?_
  refine lv_iload_n hx hb d_Mod_push_18 rfl (lv_at hl 2 rfl) ?_
  replace hF := Option.bind_eq_some_iff.mp hF
  obtain ⟨a_7, ea_7, hF⟩ := hF
  subst ea_7
  replace hF := Option.bind_eq_some_iff.mp hF
  obtain ⟨g_8, eg_8, hF⟩ := hF
  refine m_iast (B := B) (a := a_7) (t := 0) E S rfl eg_8 d_Mod_push_19 (fun H locs S => ?_)
  refine lv_aload_n hx hb d_Mod_push_20 rfl (lv_at hl 0 rfl) ?_
  replace hF := Option.bind_eq_some_iff.mp hF
  obtain ⟨v_9, ev_9, hF⟩ := hF
  refine m_getR (B := B) (a := a0) E S fd_Mod_partDepth (Or.inl qw_288) ev_9 d_Mod_push_21 ?_
  refine lv_aload_n hx hb d_Mod_push_24 rfl (lv_at hl 0 rfl) ?_
  replace hF := Option.bind_eq_some_iff.mp hF
  obtain ⟨v_10, ev_10, hF⟩ := hF
  refine m_getI (B := B) (a := a0) E S fd_Mod_parts (Or.inl qw_320) ev_10 d_Mod_push_25 ?_
  refine lv_iload_n hx hb d_Mod_push_28 rfl (lv_at hl 3 rfl) ?_
  replace hF := Option.bind_eq_some_iff.mp hF
  obtain ⟨a_11, ea_11, hF⟩ := hF
  subst ea_11
  replace hF := Option.bind_eq_some_iff.mp hF
  obtain ⟨g_12, eg_12, hF⟩ := hF
  refine m_iast (B := B) (a := a_11) (t := 0) E S rfl eg_12 d_Mod_push_29 (fun H locs S => ?_)
  refine lv_aload_n hx hb d_Mod_push_30 rfl (lv_at hl 0 rfl) ?_
  refine lv_dup hx hb d_Mod_push_31 rfl ?_
  replace hF := Option.bind_eq_some_iff.mp hF
  obtain ⟨v_13, ev_13, hF⟩ := hF
  refine m_getI (B := B) (a := a0) E S fd_Mod_parts (Or.inl qw_320) ev_13 d_Mod_push_32 ?_
  refine lv_iconst (v := 1) hx hb d_Mod_push_35 (by decide) ?_
  refine lv_iadd hx hb d_Mod_push_36 ?_
  replace hF := Option.bind_eq_some_iff.mp hF
  obtain ⟨g_14, eg_14, hF⟩ := hF
  refine m_putI (B := B) (a := a0) E S fd_Mod_parts (Or.inl qw_320) eg_14 d_Mod_push_37 (fun H locs S => ?_)
  cases hF
  skip
  exact m_vret E S hz hr hlk d_Mod_push_40
section S_Mod_number
variable {p : Program} {l : Launch} {e : Env} {s : State} {m : MethodId} {args : Array Value} {below : List Frame} {meth : Method} {c : Code} {D : va_G} {B n : Nat} {K : Nat → ClassId}
def f_Mod_number_14   (g : m_G)  : Option (Int32 × m_G) :=
  some ((-1), g)
set_option maxHeartbeats 1000000 in
set_option maxRecDepth 100000 in
theorem c_Mod_number_14 (E : m_V p m c b_Mod_number 6 s args R_Mod D K) (hr : meth.sig.returnType = (some .int)) (hlk : meth.locks = false) (hz : s.heap.size + 0 = B + n)   : ∀ (g : m_G)  (r : Int32) (g' : m_G), f_Mod_number_14 g  = some (r, g') → ∀ (H : Heap) (locs : List Loc), m_S D B K n g s.heap H locs → ∀ ls : Array Slot, lv_has ls 6 [] → W p l e ({ frames := 1, cells := 0, slots := 0, locals := 22 } : Room) s m args below meth c H locs 0 0 (MQ below (m_Q D B K (some (.int r)) n g') args s 0 0 (fun q => B ≤ q)) (F0 m 14 ls []) := by
  have hx := E.1.1
  have hb := E.1.2.1
  have hts := E.1.2.2.2.2
  intro g  r g' hF H locs S ls hl
  unfold f_Mod_number_14 at hF
  refine lv_iconst (v := (-1)) hx hb d_Mod_number_14 (by decide) ?_
  cases hF
  exact m_iret E S hz hr hlk d_Mod_number_15
def f_Mod_number_91   (g : m_G) (y0 : Int32) : Option (Int32 × m_G) :=
  some (y0, g)
set_option maxHeartbeats 1000000 in
set_option maxRecDepth 100000 in
theorem c_Mod_number_91 (E : m_V p m c b_Mod_number 6 s args R_Mod D K) (hr : meth.sig.returnType = (some .int)) (hlk : meth.locks = false) (hz : s.heap.size + 0 = B + n)   : ∀ (g : m_G) (y0 : Int32) (r : Int32) (g' : m_G), f_Mod_number_91 g y0 = some (r, g') → ∀ (H : Heap) (locs : List Loc), m_S D B K n g s.heap H locs → ∀ ls : Array Slot, lv_has ls 6 [] → W p l e ({ frames := 1, cells := 0, slots := 0, locals := 22 } : Room) s m args below meth c H locs 0 0 (MQ below (m_Q D B K (some (.int r)) n g') args s 0 0 (fun q => B ≤ q)) (F0 m 91 ls [.int y0]) := by
  have hx := E.1.1
  have hb := E.1.2.1
  have hts := E.1.2.2.2.2
  intro g y0 r g' hF H locs S ls hl
  unfold f_Mod_number_91 at hF
  cases hF
  exact m_iret E S hz hr hlk d_Mod_number_91
def f_Mod_number_52   (g : m_G)  : Option (Int32 × m_G) :=
  some ((-1), g)
set_option maxHeartbeats 1000000 in
set_option maxRecDepth 100000 in
theorem c_Mod_number_52 (E : m_V p m c b_Mod_number 6 s args R_Mod D K) (hr : meth.sig.returnType = (some .int)) (hlk : meth.locks = false) (hz : s.heap.size + 0 = B + n)   : ∀ (g : m_G)  (r : Int32) (g' : m_G), f_Mod_number_52 g  = some (r, g') → ∀ (H : Heap) (locs : List Loc), m_S D B K n g s.heap H locs → ∀ ls : Array Slot, lv_has ls 6 [] → W p l e ({ frames := 1, cells := 0, slots := 0, locals := 22 } : Room) s m args below meth c H locs 0 0 (MQ below (m_Q D B K (some (.int r)) n g') args s 0 0 (fun q => B ≤ q)) (F0 m 52 ls []) := by
  have hx := E.1.1
  have hb := E.1.2.1
  have hts := E.1.2.2.2.2
  intro g  r g' hF H locs S ls hl
  unfold f_Mod_number_52 at hF
  refine lv_iconst (v := (-1)) hx hb d_Mod_number_52 (by decide) ?_
  cases hF
  exact m_iret E S hz hr hlk d_Mod_number_53
def f_Mod_number_22   : Nat → m_G → Nat → Int32 → Int32 → Int32 → Int32 → Option (Int32 × m_G)
  | 0, _, _, _, _, _, _ => none
  | fu + 1, g, a0, x1, x3, x4, x5 =>
    if (x3 : Int32) ≤ x5 then
      if (x4 : Int32) ≤ 63 then
        f_Mod_number_91 g x4
      else
        f_Mod_number_91 g (-1)
    else
      m_gd (m_is g a0 8) <|
      m_bd (f_Mod_at g a0 x1 x5) fun v_4 g_3 =>
      if (v_4 : Int32) < 48 then
        f_Mod_number_52 g_3 
      else
        m_gd (m_is g_3 a0 8) <|
        m_bd (f_Mod_at g_3 a0 x1 x5) fun v_7 g_6 =>
        if (v_7 : Int32) ≤ 57 then
          m_gd (m_is g_6 a0 8) <|
          m_bd (f_Mod_at g_6 a0 x1 x5) fun v_10 g_9 =>
          f_Mod_number_22 fu g_9 a0 x1 x3 (((10 * x4) + v_10) - 48) (x5 + 1)
        else
          f_Mod_number_52 g_6 
set_option maxHeartbeats 1000000 in
set_option maxRecDepth 100000 in
theorem c_Mod_number_22 (E : m_V p m c b_Mod_number 6 s args R_Mod D K) (hr : meth.sig.returnType = (some .int)) (hlk : meth.locks = false) (hz : s.heap.size + 0 = B + n)   : ∀ fu : Nat, ∀ (g : m_G) (a0 : Nat) (x1 : Int32) (x3 : Int32) (x4 : Int32) (x5 : Int32) (r : Int32) (g' : m_G), f_Mod_number_22  fu g a0 x1 x3 x4 x5 = some (r, g') → ∀ (H : Heap) (locs : List Loc), m_S D B K n g s.heap H locs → ∀ ls : Array Slot, lv_has ls 6 [(0, .ref (B + a0)), (1, .int x1), (3, .int x3), (4, .int x4), (5, .int x5)] → W p l e ({ frames := 1, cells := 0, slots := 0, locals := 22 } : Room) s m args below meth c H locs 0 0 (MQ below (m_Q D B K (some (.int r)) n g') args s 0 0 (fun q => B ≤ q)) (F0 m 22 ls []) := by
  have hx := E.1.1
  have hb := E.1.2.1
  have hts := E.1.2.2.2.2
  intro fu
  induction fu with
  | zero => intro g a0 x1 x3 x4 x5 r g' hF; cases hF
  | succ fu ih =>
    intro g a0 x1 x3 x4 x5 r g' hF H locs S ls hl
    rw [f_Mod_number_22] at hF
    refine lv_iload hx hb d_Mod_number_22 (lv_at hl 4 rfl) ?_
    refine lv_iload_n hx hb d_Mod_number_24 rfl (lv_at hl 2 rfl) ?_
    refine lv_icmp_ge (tgt := 78) hx hb d_Mod_number_25 (by decide) (fun c_1 => ?_) (fun c_1 => ?_)
    · rw [if_pos c_1] at hF
      refine lv_iload hx hb d_Mod_number_78 (lv_at hl 3 rfl) ?_
      refine lv_bipush (v := 63) hx hb d_Mod_number_80 (by decide) ?_
      refine lv_icmp_le (tgt := 89) hx hb d_Mod_number_82 (by decide) (fun c_2 => ?_) (fun c_2 => ?_)
      · rw [if_pos c_2] at hF
        refine lv_iload hx hb d_Mod_number_89 (lv_at hl 3 rfl) ?_
        exact c_Mod_number_91 E hr hlk hz _ _ _ _ hF _ _ S _ (lv_sub hl [] rfl)
      · rw [if_neg c_2] at hF
        refine lv_iconst (v := (-1)) hx hb d_Mod_number_85 (by decide) ?_
        refine lv_goto (tgt := 91) hx hb d_Mod_number_86 (by decide) ?_
        exact c_Mod_number_91 E hr hlk hz _ _ _ _ hF _ _ S _ (lv_sub hl [] rfl)
    · rw [if_neg c_1] at hF
      refine lv_aload_n hx hb d_Mod_number_28 rfl (lv_at hl 0 rfl) ?_
      refine lv_iload_n hx hb d_Mod_number_29 rfl (lv_at hl 1 rfl) ?_
      refine lv_iload hx hb d_Mod_number_30 (lv_at hl 4 rfl) ?_
      replace hF := m_gd_inv hF
      obtain ⟨eog_3, hF⟩ := hF
      replace hF := m_bd_inv hF
      obtain ⟨v_4, g_3, eg_3, hF⟩ := hF
      refine m_callV (B := B) (nn := 2) (b := a0) (As := [.int x1, .int x5]) (rest := []) (v := (some (.int v_4))) E S hz (c_Mod_at l D B K n g a0 x1 x5 v_4 g_3 eg_3) qc_Mod_at ⟨rfl, rfl⟩ (Or.inl qw_307) qw_308 qw_309 qw_304 (by decide +kernel) ⟨Nat.le_of_ble_eq_true rfl, Nat.le_of_ble_eq_true rfl⟩ eog_3 rfl rfl hl.1 (Nat.le_of_ble_eq_true rfl) d_Mod_number_32 ⟨Nat.le_of_ble_eq_true rfl, Nat.le_of_ble_eq_true rfl⟩ (fun H locs S => ?_)
      refine W.eq (g2 := F0 m 35 ls [.int v_4]) rfl ?_
      refine lv_bipush (v := 48) hx hb d_Mod_number_35 (by decide) ?_
      refine lv_icmp_lt (tgt := 52) hx hb d_Mod_number_37 (by decide) (fun c_5 => ?_) (fun c_5 => ?_)
      · rw [if_pos c_5] at hF
        exact c_Mod_number_52 E hr hlk hz _ _ _ hF _ _ S _ (lv_sub hl [] rfl)
      · rw [if_neg c_5] at hF
        refine lv_aload_n hx hb d_Mod_number_40 rfl (lv_at hl 0 rfl) ?_
        refine lv_iload_n hx hb d_Mod_number_41 rfl (lv_at hl 1 rfl) ?_
        refine lv_iload hx hb d_Mod_number_42 (lv_at hl 4 rfl) ?_
        replace hF := m_gd_inv hF
        obtain ⟨eog_6, hF⟩ := hF
        replace hF := m_bd_inv hF
        obtain ⟨v_7, g_6, eg_6, hF⟩ := hF
        refine m_callV (B := B) (nn := 2) (b := a0) (As := [.int x1, .int x5]) (rest := []) (v := (some (.int v_7))) E S hz (c_Mod_at l D B K n g_3 a0 x1 x5 v_7 g_6 eg_6) qc_Mod_at ⟨rfl, rfl⟩ (Or.inl qw_307) qw_308 qw_309 qw_304 (by decide +kernel) ⟨Nat.le_of_ble_eq_true rfl, Nat.le_of_ble_eq_true rfl⟩ eog_6 rfl rfl hl.1 (Nat.le_of_ble_eq_true rfl) d_Mod_number_44 ⟨Nat.le_of_ble_eq_true rfl, Nat.le_of_ble_eq_true rfl⟩ (fun H locs S => ?_)
        refine W.eq (g2 := F0 m 47 ls [.int v_7]) rfl ?_
        refine lv_bipush (v := 57) hx hb d_Mod_number_47 (by decide) ?_
        refine lv_icmp_le (tgt := 54) hx hb d_Mod_number_49 (by decide) (fun c_8 => ?_) (fun c_8 => ?_)
        · rw [if_pos c_8] at hF
          refine lv_bipush (v := 10) hx hb d_Mod_number_54 (by decide) ?_
          refine lv_iload hx hb d_Mod_number_56 (lv_at hl 3 rfl) ?_
          refine lv_imul hx hb d_Mod_number_58 ?_
          refine lv_aload_n hx hb d_Mod_number_59 rfl (lv_at hl 0 rfl) ?_
          refine lv_iload_n hx hb d_Mod_number_60 rfl (lv_at hl 1 rfl) ?_
          refine lv_iload hx hb d_Mod_number_61 (lv_at hl 4 rfl) ?_
          replace hF := m_gd_inv hF
          obtain ⟨eog_9, hF⟩ := hF
          replace hF := m_bd_inv hF
          obtain ⟨v_10, g_9, eg_9, hF⟩ := hF
          refine m_callV (B := B) (nn := 2) (b := a0) (As := [.int x1, .int x5]) (rest := [.int (10 * x4)]) (v := (some (.int v_10))) E S hz (c_Mod_at l D B K n g_6 a0 x1 x5 v_10 g_9 eg_9) qc_Mod_at ⟨rfl, rfl⟩ (Or.inl qw_307) qw_308 qw_309 qw_304 (by decide +kernel) ⟨Nat.le_of_ble_eq_true rfl, Nat.le_of_ble_eq_true rfl⟩ eog_9 rfl rfl hl.1 (Nat.le_of_ble_eq_true rfl) d_Mod_number_63 ⟨Nat.le_of_ble_eq_true rfl, Nat.le_of_ble_eq_true rfl⟩ (fun H locs S => ?_)
          refine W.eq (g2 := F0 m 66 ls [.int v_10, .int (10 * x4)]) rfl ?_
          refine lv_iadd hx hb d_Mod_number_66 ?_
          refine lv_bipush (v := 48) hx hb d_Mod_number_67 (by decide) ?_
          refine lv_isub hx hb d_Mod_number_69 ?_
          refine lv_istore (lv' := [(4, .int (((10 * x4) + v_10) - 48)), (0, .ref (B + a0)), (1, .int x1), (3, .int x3), (5, .int x5)]) hx hb d_Mod_number_70 hl (by decide) rfl (fun ls hl => ?_)
          refine lv_iinc (v := (x5 + 1)) (lv' := [(5, .int (x5 + 1)), (4, .int (((10 * x4) + v_10) - 48)), (0, .ref (B + a0)), (1, .int x1), (3, .int x3)]) hx hb d_Mod_number_72 hl (k := 4) rfl rfl (by decide) rfl (fun ls hl => ?_)
          refine lv_goto (tgt := 22) hx hb d_Mod_number_75 (by decide) ?_
          exact ih _ _ _ _ _ _ _ _ hF _ _ S _ (lv_sub hl [2, 3, 4, 1, 0] rfl)
        · rw [if_neg c_8] at hF
          exact c_Mod_number_52 E hr hlk hz _ _ _ hF _ _ S _ (lv_sub hl [] rfl)
end S_Mod_number
def f_Mod_number  (g : m_G) (a0 : Nat) (x1 : Int32) (x2 : Int32) (x3 : Int32) : Option (Int32 × m_G) :=
  if ((x3 - x2) : Int32) < 1 then
    f_Mod_number_14 g 
  else
    if ((x3 - x2) : Int32) ≤ 2 then
      f_Mod_number_22 m_fu g a0 x1 x3 0 x2
    else
      f_Mod_number_14 g 
set_option maxHeartbeats 1000000 in
set_option maxRecDepth 100000 in
theorem c_Mod_number (l : Launch) (D : va_G) (B : Nat) (K : Nat → ClassId)  (n : Nat) (g : m_G) (a0 : Nat) (x1 : Int32) (x2 : Int32) (x3 : Int32) (r : Int32) (g' : m_G) (hF : f_Mod_number g a0 x1 x2 x3 = some (r, g')) : Met l y_Mod_number (Cond.code y_Mod_number b_Mod_number 6 (some .int) :: m_TB) ({ frames := 1, cells := 0, slots := 0, locals := 22 } : Room) (m_Pc D B K n g [.ref (B + a0), .int x1, .int x2, .int x3]) (m_Q D B K (some (.int r)) n g') 0 0 (fun q => B ≤ q) := by
  refine m_met (by decide) (Nat.le_of_ble_eq_true rfl) ?_
  intro p e s m args below meth c ls E hr hlk hin hsz S hl
  have E : m_V p m c b_Mod_number 6 s args R_Mod D K := E
  have hz : s.heap.size + 0 = B + n := hsz
  have hl : lv_has ls 6 [(0, .ref (B + a0)), (1, .int x1), (2, .int x2), (3, .int x3)] := hl
  have hx := E.1.1
  have hb := E.1.2.1
  have hts := E.1.2.2.2.2
  unfold f_Mod_number at hF
  refine lv_iload_n hx hb d_Mod_number_0 rfl (lv_at hl 3 rfl) ?_
  refine lv_iload_n hx hb d_Mod_number_1 rfl (lv_at hl 2 rfl) ?_
  refine lv_isub hx hb d_Mod_number_2 ?_
  refine lv_iconst (v := 1) hx hb d_Mod_number_3 (by decide) ?_
  refine lv_icmp_lt (tgt := 14) hx hb d_Mod_number_4 (by decide) (fun c_1 => ?_) (fun c_1 => ?_)
  · rw [if_pos c_1] at hF
    exact c_Mod_number_14 E hr hlk hz _ _ _ hF _ _ S _ (lv_sub hl [] rfl)
  · rw [if_neg c_1] at hF
    refine lv_iload_n hx hb d_Mod_number_7 rfl (lv_at hl 3 rfl) ?_
    refine lv_iload_n hx hb d_Mod_number_8 rfl (lv_at hl 2 rfl) ?_
    refine lv_isub hx hb d_Mod_number_9 ?_
    refine lv_iconst (v := 2) hx hb d_Mod_number_10 (by decide) ?_
    refine lv_icmp_le (tgt := 16) hx hb d_Mod_number_11 (by decide) (fun c_2 => ?_) (fun c_2 => ?_)
    · rw [if_pos c_2] at hF
      refine lv_iconst (v := 0) hx hb d_Mod_number_16 (by decide) ?_
      refine lv_istore (lv' := [(4, .int 0), (0, .ref (B + a0)), (1, .int x1), (2, .int x2), (3, .int x3)]) hx hb d_Mod_number_17 hl (by decide) rfl (fun ls hl => ?_)
      refine lv_iload_n hx hb d_Mod_number_19 rfl (lv_at hl 3 rfl) ?_
      refine lv_istore (lv' := [(5, .int x2), (4, .int 0), (0, .ref (B + a0)), (1, .int x1), (2, .int x2), (3, .int x3)]) hx hb d_Mod_number_20 hl (by decide) rfl (fun ls hl => ?_)
      exact c_Mod_number_22 E hr hlk hz m_fu _ _ _ _ _ _ _ _ hF _ _ S _ (lv_sub hl [2, 3, 5, 1, 0] rfl)
    · rw [if_neg c_2] at hF
      exact c_Mod_number_14 E hr hlk hz _ _ _ hF _ _ S _ (lv_sub hl [] rfl)
section S_Mod_readReferences
variable {p : Program} {l : Launch} {e : Env} {s : State} {m : MethodId} {args : Array Value} {below : List Frame} {meth : Method} {c : Code} {D : va_G} {B n : Nat} {K : Nat → ClassId}
def f_Mod_readReferences_122   (g : m_G) (y0 : Int32) (y1 : Int32) (t2 : Option Nat) : Option (Unit × m_G) :=
  Option.bind t2 fun a_1 =>
  (m_st g a_1 0 y1 y0).bind fun g_2 =>
  some ((), g_2)
set_option maxHeartbeats 1000000 in
set_option maxRecDepth 100000 in
theorem c_Mod_readReferences_122 (E : m_V p m c b_Mod_readReferences 8 s args R_Mod D K) (hr : meth.sig.returnType = none) (hlk : meth.locks = false) (hz : s.heap.size + 0 = B + n)   : ∀ (g : m_G) (y0 : Int32) (y1 : Int32) (t2 : Option Nat) (r : Unit) (g' : m_G), f_Mod_readReferences_122 g y0 y1 t2 = some (r, g') → ∀ (H : Heap) (locs : List Loc), m_S D B K n g s.heap H locs → ∀ ls : Array Slot, lv_has ls 8 [] → W p l e ({ frames := 2, cells := 0, slots := 0, locals := 47 } : Room) s m args below meth c H locs 0 0 (MQ below (m_Q D B K none n g') args s 0 0 (fun q => B ≤ q)) (F0 m 122 ls [.int y0, .int y1, m_r B t2]) := by
  have hx := E.1.1
  have hb := E.1.2.1
  have hts := E.1.2.2.2.2
  intro g y0 y1 t2 r g' hF H locs S ls hl
  unfold f_Mod_readReferences_122 at hF
  replace hF := Option.bind_eq_some_iff.mp hF
  obtain ⟨a_1, ea_1, hF⟩ := hF
  subst ea_1
  replace hF := Option.bind_eq_some_iff.mp hF
  obtain ⟨g_2, eg_2, hF⟩ := hF
  refine m_iast (B := B) (a := a_1) (t := 0) E S rfl eg_2 d_Mod_readReferences_122 (fun H locs S => ?_)
  cases hF
  skip
  exact m_vret E S hz hr hlk d_Mod_readReferences_123
def f_Mod_readReferences_101  (k_11 : m_G → Nat → Int32 → Int32 → Int32 → Int32 → Int32 → Int32 → Option (Unit × m_G)) (g : m_G) (a0 : Nat) (x1 : Int32) (x2 : Int32) (x3 : Int32) (x4 : Int32) (x5 : Int32) (x6 : Int32) : Option (Unit × m_G) :=
  k_11 g a0 x1 x2 x3 x4 x5 (x6 + 1)
set_option maxHeartbeats 1000000 in
set_option maxRecDepth 100000 in
theorem c_Mod_readReferences_101 (E : m_V p m c b_Mod_readReferences 8 s args R_Mod D K) (hr : meth.sig.returnType = none) (hlk : meth.locks = false) (hz : s.heap.size + 0 = B + n)  (k_11 : m_G → Nat → Int32 → Int32 → Int32 → Int32 → Int32 → Int32 → Option (Unit × m_G)) (hk_11 : ∀ (g : m_G) (a0 : Nat) (x1 : Int32) (x2 : Int32) (x3 : Int32) (x4 : Int32) (x5 : Int32) (x6 : Int32) (r : Unit) (g' : m_G), k_11 g a0 x1 x2 x3 x4 x5 x6 = some (r, g') → ∀ (H : Heap) (locs : List Loc), m_S D B K n g s.heap H locs → ∀ ls : Array Slot, lv_has ls 8 [(0, .ref (B + a0)), (1, .int x1), (2, .int x2), (3, .int x3), (4, .int x4), (5, .int x5), (6, .int x6)] → W p l e ({ frames := 2, cells := 0, slots := 0, locals := 47 } : Room) s m args below meth c H locs 0 0 (MQ below (m_Q D B K none n g') args s 0 0 (fun q => B ≤ q)) (F0 m 11 ls [])) : ∀ (g : m_G) (a0 : Nat) (x1 : Int32) (x2 : Int32) (x3 : Int32) (x4 : Int32) (x5 : Int32) (x6 : Int32) (r : Unit) (g' : m_G), f_Mod_readReferences_101 k_11 g a0 x1 x2 x3 x4 x5 x6 = some (r, g') → ∀ (H : Heap) (locs : List Loc), m_S D B K n g s.heap H locs → ∀ ls : Array Slot, lv_has ls 8 [(0, .ref (B + a0)), (1, .int x1), (2, .int x2), (3, .int x3), (4, .int x4), (5, .int x5), (6, .int x6)] → W p l e ({ frames := 2, cells := 0, slots := 0, locals := 47 } : Room) s m args below meth c H locs 0 0 (MQ below (m_Q D B K none n g') args s 0 0 (fun q => B ≤ q)) (F0 m 101 ls []) := by
  have hx := E.1.1
  have hb := E.1.2.1
  have hts := E.1.2.2.2.2
  intro g a0 x1 x2 x3 x4 x5 x6 r g' hF H locs S ls hl
  unfold f_Mod_readReferences_101 at hF
  refine lv_iinc (v := (x6 + 1)) (lv' := [(6, .int (x6 + 1)), (0, .ref (B + a0)), (1, .int x1), (2, .int x2), (3, .int x3), (4, .int x4), (5, .int x5)]) hx hb d_Mod_readReferences_101 hl (k := 6) rfl rfl (by decide) rfl (fun ls hl => ?_)
  refine lv_goto (tgt := 11) hx hb d_Mod_readReferences_104 (by decide) ?_
  exact hk_11 _ _ _ _ _ _ _ _ _ _ hF _ _ S _ (lv_sub hl [1, 2, 3, 4, 5, 6, 0] rfl)
def f_Mod_readReferences_95  (k_11 : m_G → Nat → Int32 → Int32 → Int32 → Int32 → Int32 → Int32 → Option (Unit × m_G)) (g : m_G) (a0 : Nat) (x1 : Int32) (x2 : Int32) (x3 : Int32) (x5 : Int32) (x6 : Int32) : Option (Unit × m_G) :=
  f_Mod_readReferences_101 k_11 g a0 x1 x2 x3 (x6 + 1) x5 x6
set_option maxHeartbeats 1000000 in
set_option maxRecDepth 100000 in
theorem c_Mod_readReferences_95 (E : m_V p m c b_Mod_readReferences 8 s args R_Mod D K) (hr : meth.sig.returnType = none) (hlk : meth.locks = false) (hz : s.heap.size + 0 = B + n)  (k_11 : m_G → Nat → Int32 → Int32 → Int32 → Int32 → Int32 → Int32 → Option (Unit × m_G)) (hk_11 : ∀ (g : m_G) (a0 : Nat) (x1 : Int32) (x2 : Int32) (x3 : Int32) (x4 : Int32) (x5 : Int32) (x6 : Int32) (r : Unit) (g' : m_G), k_11 g a0 x1 x2 x3 x4 x5 x6 = some (r, g') → ∀ (H : Heap) (locs : List Loc), m_S D B K n g s.heap H locs → ∀ ls : Array Slot, lv_has ls 8 [(0, .ref (B + a0)), (1, .int x1), (2, .int x2), (3, .int x3), (4, .int x4), (5, .int x5), (6, .int x6)] → W p l e ({ frames := 2, cells := 0, slots := 0, locals := 47 } : Room) s m args below meth c H locs 0 0 (MQ below (m_Q D B K none n g') args s 0 0 (fun q => B ≤ q)) (F0 m 11 ls [])) : ∀ (g : m_G) (a0 : Nat) (x1 : Int32) (x2 : Int32) (x3 : Int32) (x5 : Int32) (x6 : Int32) (r : Unit) (g' : m_G), f_Mod_readReferences_95 k_11 g a0 x1 x2 x3 x5 x6 = some (r, g') → ∀ (H : Heap) (locs : List Loc), m_S D B K n g s.heap H locs → ∀ ls : Array Slot, lv_has ls 8 [(0, .ref (B + a0)), (1, .int x1), (2, .int x2), (3, .int x3), (5, .int x5), (6, .int x6)] → W p l e ({ frames := 2, cells := 0, slots := 0, locals := 47 } : Room) s m args below meth c H locs 0 0 (MQ below (m_Q D B K none n g') args s 0 0 (fun q => B ≤ q)) (F0 m 95 ls []) := by
  have hx := E.1.1
  have hb := E.1.2.1
  have hts := E.1.2.2.2.2
  intro g a0 x1 x2 x3 x5 x6 r g' hF H locs S ls hl
  unfold f_Mod_readReferences_95 at hF
  refine lv_iload hx hb d_Mod_readReferences_95 (lv_at hl 5 rfl) ?_
  refine lv_iconst (v := 1) hx hb d_Mod_readReferences_97 (by decide) ?_
  refine lv_iadd hx hb d_Mod_readReferences_98 ?_
  refine lv_istore (lv' := [(4, .int (x6 + 1)), (0, .ref (B + a0)), (1, .int x1), (2, .int x2), (3, .int x3), (5, .int x5), (6, .int x6)]) hx hb d_Mod_readReferences_99 hl (by decide) rfl (fun ls hl => ?_)
  exact c_Mod_readReferences_101 E hr hlk hz k_11 hk_11 _ _ _ _ _ _ _ _ _ _ hF _ _ S _ (lv_sub hl [1, 2, 3, 4, 0, 5, 6] rfl)
def f_Mod_readReferences_87  (k_11 : m_G → Nat → Int32 → Int32 → Int32 → Int32 → Int32 → Int32 → Option (Unit × m_G)) (g : m_G) (a0 : Nat) (x1 : Int32) (x2 : Int32) (x3 : Int32) (x5 : Int32) (x6 : Int32) : Option (Unit × m_G) :=
  if (4 : Int32) ≤ x3 then
    f_Mod_readReferences_95 k_11 g a0 x1 x2 x3 x5 x6
  else
    f_Mod_readReferences_95 k_11 g a0 x1 x2 (x3 + 1) x5 x6
set_option maxHeartbeats 1000000 in
set_option maxRecDepth 100000 in
theorem c_Mod_readReferences_87 (E : m_V p m c b_Mod_readReferences 8 s args R_Mod D K) (hr : meth.sig.returnType = none) (hlk : meth.locks = false) (hz : s.heap.size + 0 = B + n)  (k_11 : m_G → Nat → Int32 → Int32 → Int32 → Int32 → Int32 → Int32 → Option (Unit × m_G)) (hk_11 : ∀ (g : m_G) (a0 : Nat) (x1 : Int32) (x2 : Int32) (x3 : Int32) (x4 : Int32) (x5 : Int32) (x6 : Int32) (r : Unit) (g' : m_G), k_11 g a0 x1 x2 x3 x4 x5 x6 = some (r, g') → ∀ (H : Heap) (locs : List Loc), m_S D B K n g s.heap H locs → ∀ ls : Array Slot, lv_has ls 8 [(0, .ref (B + a0)), (1, .int x1), (2, .int x2), (3, .int x3), (4, .int x4), (5, .int x5), (6, .int x6)] → W p l e ({ frames := 2, cells := 0, slots := 0, locals := 47 } : Room) s m args below meth c H locs 0 0 (MQ below (m_Q D B K none n g') args s 0 0 (fun q => B ≤ q)) (F0 m 11 ls [])) : ∀ (g : m_G) (a0 : Nat) (x1 : Int32) (x2 : Int32) (x3 : Int32) (x5 : Int32) (x6 : Int32) (r : Unit) (g' : m_G), f_Mod_readReferences_87 k_11 g a0 x1 x2 x3 x5 x6 = some (r, g') → ∀ (H : Heap) (locs : List Loc), m_S D B K n g s.heap H locs → ∀ ls : Array Slot, lv_has ls 8 [(0, .ref (B + a0)), (1, .int x1), (2, .int x2), (3, .int x3), (5, .int x5), (6, .int x6)] → W p l e ({ frames := 2, cells := 0, slots := 0, locals := 47 } : Room) s m args below meth c H locs 0 0 (MQ below (m_Q D B K none n g') args s 0 0 (fun q => B ≤ q)) (F0 m 87 ls []) := by
  have hx := E.1.1
  have hb := E.1.2.1
  have hts := E.1.2.2.2.2
  intro g a0 x1 x2 x3 x5 x6 r g' hF H locs S ls hl
  unfold f_Mod_readReferences_87 at hF
  refine lv_iload_n hx hb d_Mod_readReferences_87 rfl (lv_at hl 3 rfl) ?_
  refine lv_iconst (v := 4) hx hb d_Mod_readReferences_88 (by decide) ?_
  refine lv_icmp_ge (tgt := 95) hx hb d_Mod_readReferences_89 (by decide) (fun c_1 => ?_) (fun c_1 => ?_)
  · rw [if_pos c_1] at hF
    exact c_Mod_readReferences_95 E hr hlk hz k_11 hk_11 _ _ _ _ _ _ _ _ _ hF _ _ S _ (lv_sub hl [0, 1, 2, 3, 4, 5] rfl)
  · rw [if_neg c_1] at hF
    refine lv_iinc (v := (x3 + 1)) (lv' := [(3, .int (x3 + 1)), (0, .ref (B + a0)), (1, .int x1), (2, .int x2), (5, .int x5), (6, .int x6)]) hx hb d_Mod_readReferences_92 hl (k := 3) rfl rfl (by decide) rfl (fun ls hl => ?_)
    exact c_Mod_readReferences_95 E hr hlk hz k_11 hk_11 _ _ _ _ _ _ _ _ _ hF _ _ S _ (lv_sub hl [1, 2, 3, 0, 4, 5] rfl)
def f_Mod_readReferences_69  (k_11 : m_G → Nat → Int32 → Int32 → Int32 → Int32 → Int32 → Int32 → Option (Unit × m_G)) (g : m_G) (a0 : Nat) (x1 : Int32) (x2 : Int32) (x3 : Int32) (x6 : Int32) : Option (Unit × m_G) :=
  f_Mod_readReferences_87 k_11 g a0 x1 x2 x3 0 x6
set_option maxHeartbeats 1000000 in
set_option maxRecDepth 100000 in
theorem c_Mod_readReferences_69 (E : m_V p m c b_Mod_readReferences 8 s args R_Mod D K) (hr : meth.sig.returnType = none) (hlk : meth.locks = false) (hz : s.heap.size + 0 = B + n)  (k_11 : m_G → Nat → Int32 → Int32 → Int32 → Int32 → Int32 → Int32 → Option (Unit × m_G)) (hk_11 : ∀ (g : m_G) (a0 : Nat) (x1 : Int32) (x2 : Int32) (x3 : Int32) (x4 : Int32) (x5 : Int32) (x6 : Int32) (r : Unit) (g' : m_G), k_11 g a0 x1 x2 x3 x4 x5 x6 = some (r, g') → ∀ (H : Heap) (locs : List Loc), m_S D B K n g s.heap H locs → ∀ ls : Array Slot, lv_has ls 8 [(0, .ref (B + a0)), (1, .int x1), (2, .int x2), (3, .int x3), (4, .int x4), (5, .int x5), (6, .int x6)] → W p l e ({ frames := 2, cells := 0, slots := 0, locals := 47 } : Room) s m args below meth c H locs 0 0 (MQ below (m_Q D B K none n g') args s 0 0 (fun q => B ≤ q)) (F0 m 11 ls [])) : ∀ (g : m_G) (a0 : Nat) (x1 : Int32) (x2 : Int32) (x3 : Int32) (x6 : Int32) (r : Unit) (g' : m_G), f_Mod_readReferences_69 k_11 g a0 x1 x2 x3 x6 = some (r, g') → ∀ (H : Heap) (locs : List Loc), m_S D B K n g s.heap H locs → ∀ ls : Array Slot, lv_has ls 8 [(0, .ref (B + a0)), (1, .int x1), (2, .int x2), (3, .int x3), (6, .int x6)] → W p l e ({ frames := 2, cells := 0, slots := 0, locals := 47 } : Room) s m args below meth c H locs 0 0 (MQ below (m_Q D B K none n g') args s 0 0 (fun q => B ≤ q)) (F0 m 69 ls []) := by
  have hx := E.1.1
  have hb := E.1.2.1
  have hts := E.1.2.2.2.2
  intro g a0 x1 x2 x3 x6 r g' hF H locs S ls hl
  unfold f_Mod_readReferences_69 at hF
  refine lv_iconst (v := 0) hx hb d_Mod_readReferences_69 (by decide) ?_
  refine lv_istore (lv' := [(5, .int 0), (0, .ref (B + a0)), (1, .int x1), (2, .int x2), (3, .int x3), (6, .int x6)]) hx hb d_Mod_readReferences_70 hl (by decide) rfl (fun ls hl => ?_)
  refine lv_goto (tgt := 87) hx hb d_Mod_readReferences_72 (by decide) ?_
  exact c_Mod_readReferences_87 E hr hlk hz k_11 hk_11 _ _ _ _ _ _ _ _ _ hF _ _ S _ (lv_sub hl [1, 2, 3, 4, 0, 5] rfl)
def f_Mod_readReferences_48  (k_11 : m_G → Nat → Int32 → Int32 → Int32 → Int32 → Int32 → Int32 → Option (Unit × m_G)) (g : m_G) (a0 : Nat) (x1 : Int32) (x2 : Int32) (x3 : Int32) (x4 : Int32) (x5 : Int32) (x6 : Int32) : Option (Unit × m_G) :=
  m_gd (m_is g a0 8) <|
  m_bd (f_Mod_number g a0 x2 x4 x6) fun v_2 g_1 =>
  if (v_2 : Int32) < 0 then
    f_Mod_readReferences_69 k_11 g_1 a0 x1 x2 x3 x6
  else
    if (x3 : Int32) = 4 then
      f_Mod_readReferences_69 k_11 g_1 a0 x1 x2 x3 x6
    else
      (m_gR g_1 a0 8 11).bind fun v_5 =>
      Option.bind v_5 fun a_6 =>
      (m_st g_1 a_6 0 ((4 * x1) + x3) v_2).bind fun g_7 =>
      f_Mod_readReferences_87 k_11 g_7 a0 x1 x2 x3 x5 x6
set_option maxHeartbeats 1000000 in
set_option maxRecDepth 100000 in
theorem c_Mod_readReferences_48 (E : m_V p m c b_Mod_readReferences 8 s args R_Mod D K) (hr : meth.sig.returnType = none) (hlk : meth.locks = false) (hz : s.heap.size + 0 = B + n)  (k_11 : m_G → Nat → Int32 → Int32 → Int32 → Int32 → Int32 → Int32 → Option (Unit × m_G)) (hk_11 : ∀ (g : m_G) (a0 : Nat) (x1 : Int32) (x2 : Int32) (x3 : Int32) (x4 : Int32) (x5 : Int32) (x6 : Int32) (r : Unit) (g' : m_G), k_11 g a0 x1 x2 x3 x4 x5 x6 = some (r, g') → ∀ (H : Heap) (locs : List Loc), m_S D B K n g s.heap H locs → ∀ ls : Array Slot, lv_has ls 8 [(0, .ref (B + a0)), (1, .int x1), (2, .int x2), (3, .int x3), (4, .int x4), (5, .int x5), (6, .int x6)] → W p l e ({ frames := 2, cells := 0, slots := 0, locals := 47 } : Room) s m args below meth c H locs 0 0 (MQ below (m_Q D B K none n g') args s 0 0 (fun q => B ≤ q)) (F0 m 11 ls [])) : ∀ (g : m_G) (a0 : Nat) (x1 : Int32) (x2 : Int32) (x3 : Int32) (x4 : Int32) (x5 : Int32) (x6 : Int32) (r : Unit) (g' : m_G), f_Mod_readReferences_48 k_11 g a0 x1 x2 x3 x4 x5 x6 = some (r, g') → ∀ (H : Heap) (locs : List Loc), m_S D B K n g s.heap H locs → ∀ ls : Array Slot, lv_has ls 8 [(0, .ref (B + a0)), (1, .int x1), (2, .int x2), (3, .int x3), (4, .int x4), (5, .int x5), (6, .int x6)] → W p l e ({ frames := 2, cells := 0, slots := 0, locals := 47 } : Room) s m args below meth c H locs 0 0 (MQ below (m_Q D B K none n g') args s 0 0 (fun q => B ≤ q)) (F0 m 48 ls []) := by
  have hx := E.1.1
  have hb := E.1.2.1
  have hts := E.1.2.2.2.2
  intro g a0 x1 x2 x3 x4 x5 x6 r g' hF H locs S ls hl
  unfold f_Mod_readReferences_48 at hF
  refine lv_aload_n hx hb d_Mod_readReferences_48 rfl (lv_at hl 0 rfl) ?_
  refine lv_iload_n hx hb d_Mod_readReferences_49 rfl (lv_at hl 2 rfl) ?_
  refine lv_iload hx hb d_Mod_readReferences_50 (lv_at hl 4 rfl) ?_
  refine lv_iload hx hb d_Mod_readReferences_52 (lv_at hl 6 rfl) ?_
  replace hF := m_gd_inv hF
  obtain ⟨eog_1, hF⟩ := hF
  replace hF := m_bd_inv hF
  obtain ⟨v_2, g_1, eg_1, hF⟩ := hF
  refine m_callV (B := B) (nn := 3) (b := a0) (As := [.int x2, .int x4, .int x6]) (rest := []) (v := (some (.int v_2))) E S hz (c_Mod_number l D B K n g a0 x2 x4 x6 v_2 g_1 eg_1) qc_Mod_number ⟨rfl, rfl⟩ (Or.inl qw_321) qw_322 qw_323 qw_304 (by decide +kernel) ⟨Nat.le_of_ble_eq_true rfl, Nat.le_of_ble_eq_true rfl⟩ eog_1 rfl rfl hl.1 (Nat.le_of_ble_eq_true rfl) d_Mod_readReferences_54 ⟨Nat.le_of_ble_eq_true rfl, Nat.le_of_ble_eq_true rfl⟩ (fun H locs S => ?_)
  refine W.eq (g2 := F0 m 57 ls [.int v_2]) rfl ?_
  refine lv_istore (lv' := [(7, .int v_2), (0, .ref (B + a0)), (1, .int x1), (2, .int x2), (3, .int x3), (4, .int x4), (5, .int x5), (6, .int x6)]) hx hb d_Mod_readReferences_57 hl (by decide) rfl (fun ls hl => ?_)
  refine lv_iload hx hb d_Mod_readReferences_59 (lv_at hl 0 rfl) ?_
  refine lv_if_lt (tgt := 69) hx hb d_Mod_readReferences_61 (by decide) (fun c_3 => ?_) (fun c_3 => ?_)
  · rw [if_pos c_3] at hF
    exact c_Mod_readReferences_69 E hr hlk hz k_11 hk_11 _ _ _ _ _ _ _ _ hF _ _ S _ (lv_sub hl [1, 2, 3, 4, 7] rfl)
  · rw [if_neg c_3] at hF
    refine lv_iload_n hx hb d_Mod_readReferences_64 rfl (lv_at hl 4 rfl) ?_
    refine lv_iconst (v := 4) hx hb d_Mod_readReferences_65 (by decide) ?_
    refine lv_icmp_ne (tgt := 75) hx hb d_Mod_readReferences_66 (by decide) (fun c_4 => ?_) (fun c_4 => ?_)
    · rw [if_neg c_4] at hF
      refine lv_aload_n hx hb d_Mod_readReferences_75 rfl (lv_at hl 1 rfl) ?_
      replace hF := Option.bind_eq_some_iff.mp hF
      obtain ⟨v_5, ev_5, hF⟩ := hF
      refine m_getR (B := B) (a := a0) E S fd_Mod_references (Or.inl qw_292) ev_5 d_Mod_readReferences_76 ?_
      refine lv_iconst (v := 4) hx hb d_Mod_readReferences_79 (by decide) ?_
      refine lv_iload_n hx hb d_Mod_readReferences_80 rfl (lv_at hl 2 rfl) ?_
      refine lv_imul hx hb d_Mod_readReferences_81 ?_
      refine lv_iload_n hx hb d_Mod_readReferences_82 rfl (lv_at hl 4 rfl) ?_
      refine lv_iadd hx hb d_Mod_readReferences_83 ?_
      refine lv_iload hx hb d_Mod_readReferences_84 (lv_at hl 0 rfl) ?_
      replace hF := Option.bind_eq_some_iff.mp hF
      obtain ⟨a_6, ea_6, hF⟩ := hF
      subst ea_6
      replace hF := Option.bind_eq_some_iff.mp hF
      obtain ⟨g_7, eg_7, hF⟩ := hF
      refine m_iast (B := B) (a := a_6) (t := 0) E S rfl eg_7 d_Mod_readReferences_86 (fun H locs S => ?_)
      exact c_Mod_readReferences_87 E hr hlk hz k_11 hk_11 _ _ _ _ _ _ _ _ _ hF _ _ S _ (lv_sub hl [1, 2, 3, 4, 6, 7] rfl)
    · rw [if_pos c_4] at hF
      exact c_Mod_readReferences_69 E hr hlk hz k_11 hk_11 _ _ _ _ _ _ _ _ hF _ _ S _ (lv_sub hl [1, 2, 3, 4, 7] rfl)
def f_Mod_readReferences_11   : Nat → m_G → Nat → Int32 → Int32 → Int32 → Int32 → Int32 → Int32 → Option (Unit × m_G)
  | 0, _, _, _, _, _, _, _, _ => none
  | fu + 1, g, a0, x1, x2, x3, x4, x5, x6 =>
    (m_gR g a0 8 1).bind fun v_1 =>
    Option.bind v_1 fun a_2 =>
    (m_ld g a_2 0 x2).bind fun v_3 =>
    if (v_3 : Int32) < x6 then
      (m_gR g a0 8 12).bind fun v_5 =>
      if (x5 : Int32) = 0 then
        f_Mod_readReferences_122 g 0 x1 v_5
      else
        f_Mod_readReferences_122 g x3 x1 v_5
    else
      (m_gR g a0 8 1).bind fun v_7 =>
      Option.bind v_7 fun a_8 =>
      (m_ld g a_8 0 x2).bind fun v_9 =>
      if (v_9 : Int32) ≤ x6 then
        f_Mod_readReferences_48 (f_Mod_readReferences_11 fu) g a0 x1 x2 x3 x4 x5 x6
      else
        m_gd (m_is g a0 8) <|
        m_bd (f_Mod_at g a0 x2 x6) fun v_12 g_11 =>
        if (v_12 : Int32) = 32 then
          f_Mod_readReferences_48 (f_Mod_readReferences_11 fu) g_11 a0 x1 x2 x3 x4 x5 x6
        else
          f_Mod_readReferences_101 (f_Mod_readReferences_11 fu) g_11 a0 x1 x2 x3 x4 x5 x6
set_option maxHeartbeats 1000000 in
set_option maxRecDepth 100000 in
theorem c_Mod_readReferences_11 (E : m_V p m c b_Mod_readReferences 8 s args R_Mod D K) (hr : meth.sig.returnType = none) (hlk : meth.locks = false) (hz : s.heap.size + 0 = B + n)   : ∀ fu : Nat, ∀ (g : m_G) (a0 : Nat) (x1 : Int32) (x2 : Int32) (x3 : Int32) (x4 : Int32) (x5 : Int32) (x6 : Int32) (r : Unit) (g' : m_G), f_Mod_readReferences_11  fu g a0 x1 x2 x3 x4 x5 x6 = some (r, g') → ∀ (H : Heap) (locs : List Loc), m_S D B K n g s.heap H locs → ∀ ls : Array Slot, lv_has ls 8 [(0, .ref (B + a0)), (1, .int x1), (2, .int x2), (3, .int x3), (4, .int x4), (5, .int x5), (6, .int x6)] → W p l e ({ frames := 2, cells := 0, slots := 0, locals := 47 } : Room) s m args below meth c H locs 0 0 (MQ below (m_Q D B K none n g') args s 0 0 (fun q => B ≤ q)) (F0 m 11 ls []) := by
  have hx := E.1.1
  have hb := E.1.2.1
  have hts := E.1.2.2.2.2
  intro fu
  induction fu with
  | zero => intro g a0 x1 x2 x3 x4 x5 x6 r g' hF; cases hF
  | succ fu ih =>
    intro g a0 x1 x2 x3 x4 x5 x6 r g' hF H locs S ls hl
    rw [f_Mod_readReferences_11] at hF
    refine lv_iload hx hb d_Mod_readReferences_11 (lv_at hl 6 rfl) ?_
    refine lv_aload_n hx hb d_Mod_readReferences_13 rfl (lv_at hl 0 rfl) ?_
    replace hF := Option.bind_eq_some_iff.mp hF
    obtain ⟨v_1, ev_1, hF⟩ := hF
    refine m_getR (B := B) (a := a0) E S fd_Mod_lengths (Or.inl qw_285) ev_1 d_Mod_readReferences_14 ?_
    refine lv_iload_n hx hb d_Mod_readReferences_17 rfl (lv_at hl 2 rfl) ?_
    replace hF := Option.bind_eq_some_iff.mp hF
    obtain ⟨a_2, ea_2, hF⟩ := hF
    subst ea_2
    replace hF := Option.bind_eq_some_iff.mp hF
    obtain ⟨v_3, ev_3, hF⟩ := hF
    refine m_iald (B := B) (a := a_2) (t := 0) E S rfl ev_3 d_Mod_readReferences_18 ?_
    refine lv_icmp_gt (tgt := 107) hx hb d_Mod_readReferences_19 (by decide) (fun c_4 => ?_) (fun c_4 => ?_)
    · rw [if_pos c_4] at hF
      refine lv_aload_n hx hb d_Mod_readReferences_107 rfl (lv_at hl 0 rfl) ?_
      replace hF := Option.bind_eq_some_iff.mp hF
      obtain ⟨v_5, ev_5, hF⟩ := hF
      refine m_getR (B := B) (a := a0) E S fd_Mod_referenceCount (Or.inl qw_293) ev_5 d_Mod_readReferences_108 ?_
      refine lv_iload_n hx hb d_Mod_readReferences_111 rfl (lv_at hl 1 rfl) ?_
      refine lv_iload hx hb d_Mod_readReferences_112 (lv_at hl 5 rfl) ?_
      refine lv_if_eq (tgt := 121) hx hb d_Mod_readReferences_114 (by decide) (fun c_6 => ?_) (fun c_6 => ?_)
      · rw [if_pos c_6] at hF
        refine lv_iconst (v := 0) hx hb d_Mod_readReferences_121 (by decide) ?_
        exact c_Mod_readReferences_122 E hr hlk hz _ _ _ _ _ _ hF _ _ S _ (lv_sub hl [] rfl)
      · rw [if_neg c_6] at hF
        refine lv_iload_n hx hb d_Mod_readReferences_117 rfl (lv_at hl 3 rfl) ?_
        refine lv_goto (tgt := 122) hx hb d_Mod_readReferences_118 (by decide) ?_
        exact c_Mod_readReferences_122 E hr hlk hz _ _ _ _ _ _ hF _ _ S _ (lv_sub hl [] rfl)
    · rw [if_neg c_4] at hF
      refine lv_iload hx hb d_Mod_readReferences_22 (lv_at hl 6 rfl) ?_
      refine lv_aload_n hx hb d_Mod_readReferences_24 rfl (lv_at hl 0 rfl) ?_
      replace hF := Option.bind_eq_some_iff.mp hF
      obtain ⟨v_7, ev_7, hF⟩ := hF
      refine m_getR (B := B) (a := a0) E S fd_Mod_lengths (Or.inl qw_285) ev_7 d_Mod_readReferences_25 ?_
      refine lv_iload_n hx hb d_Mod_readReferences_28 rfl (lv_at hl 2 rfl) ?_
      replace hF := Option.bind_eq_some_iff.mp hF
      obtain ⟨a_8, ea_8, hF⟩ := hF
      subst ea_8
      replace hF := Option.bind_eq_some_iff.mp hF
      obtain ⟨v_9, ev_9, hF⟩ := hF
      refine m_iald (B := B) (a := a_8) (t := 0) E S rfl ev_9 d_Mod_readReferences_29 ?_
      refine lv_icmp_ge (tgt := 48) hx hb d_Mod_readReferences_30 (by decide) (fun c_10 => ?_) (fun c_10 => ?_)
      · rw [if_pos c_10] at hF
        exact c_Mod_readReferences_48 E hr hlk hz (f_Mod_readReferences_11 fu) ih _ _ _ _ _ _ _ _ _ _ hF _ _ S _ (lv_sub hl [0, 1, 2, 3, 4, 5, 6] rfl)
      · rw [if_neg c_10] at hF
        refine lv_aload_n hx hb d_Mod_readReferences_33 rfl (lv_at hl 0 rfl) ?_
        refine lv_iload_n hx hb d_Mod_readReferences_34 rfl (lv_at hl 2 rfl) ?_
        refine lv_iload hx hb d_Mod_readReferences_35 (lv_at hl 6 rfl) ?_
        replace hF := m_gd_inv hF
        obtain ⟨eog_11, hF⟩ := hF
        replace hF := m_bd_inv hF
        obtain ⟨v_12, g_11, eg_11, hF⟩ := hF
        refine m_callV (B := B) (nn := 2) (b := a0) (As := [.int x2, .int x6]) (rest := []) (v := (some (.int v_12))) E S hz (c_Mod_at l D B K n g a0 x2 x6 v_12 g_11 eg_11) qc_Mod_at ⟨rfl, rfl⟩ (Or.inl qw_307) qw_308 qw_309 qw_304 (by decide +kernel) ⟨Nat.le_of_ble_eq_true rfl, Nat.le_of_ble_eq_true rfl⟩ eog_11 rfl rfl hl.1 (Nat.le_of_ble_eq_true rfl) d_Mod_readReferences_37 ⟨Nat.le_of_ble_eq_true rfl, Nat.le_of_ble_eq_true rfl⟩ (fun H locs S => ?_)
        refine W.eq (g2 := F0 m 40 ls [.int v_12]) rfl ?_
        refine lv_bipush (v := 32) hx hb d_Mod_readReferences_40 (by decide) ?_
        refine lv_icmp_eq (tgt := 48) hx hb d_Mod_readReferences_42 (by decide) (fun c_13 => ?_) (fun c_13 => ?_)
        · rw [if_pos c_13] at hF
          exact c_Mod_readReferences_48 E hr hlk hz (f_Mod_readReferences_11 fu) ih _ _ _ _ _ _ _ _ _ _ hF _ _ S _ (lv_sub hl [0, 1, 2, 3, 4, 5, 6] rfl)
        · rw [if_neg c_13] at hF
          refine lv_goto (tgt := 101) hx hb d_Mod_readReferences_45 (by decide) ?_
          exact c_Mod_readReferences_101 E hr hlk hz (f_Mod_readReferences_11 fu) ih _ _ _ _ _ _ _ _ _ _ hF _ _ S _ (lv_sub hl [0, 1, 2, 3, 4, 5, 6] rfl)
end S_Mod_readReferences
def f_Mod_readReferences  (g : m_G) (a0 : Nat) (x1 : Int32) (x2 : Int32) : Option (Unit × m_G) :=
  f_Mod_readReferences_11 m_fu g a0 x1 x2 0 2 1 2
set_option maxHeartbeats 1000000 in
set_option maxRecDepth 100000 in
theorem c_Mod_readReferences (l : Launch) (D : va_G) (B : Nat) (K : Nat → ClassId)  (n : Nat) (g : m_G) (a0 : Nat) (x1 : Int32) (x2 : Int32) (r : Unit) (g' : m_G) (hF : f_Mod_readReferences g a0 x1 x2 = some (r, g')) : Met l y_Mod_readReferences (Cond.code y_Mod_readReferences b_Mod_readReferences 8 none :: m_TB) ({ frames := 2, cells := 0, slots := 0, locals := 47 } : Room) (m_Pc D B K n g [.ref (B + a0), .int x1, .int x2]) (m_Q D B K none n g') 0 0 (fun q => B ≤ q) := by
  refine m_met (by decide) (Nat.le_of_ble_eq_true rfl) ?_
  intro p e s m args below meth c ls E hr hlk hin hsz S hl
  have E : m_V p m c b_Mod_readReferences 8 s args R_Mod D K := E
  have hz : s.heap.size + 0 = B + n := hsz
  have hl : lv_has ls 8 [(0, .ref (B + a0)), (1, .int x1), (2, .int x2)] := hl
  have hx := E.1.1
  have hb := E.1.2.1
  have hts := E.1.2.2.2.2
  unfold f_Mod_readReferences at hF
  refine lv_iconst (v := 0) hx hb d_Mod_readReferences_0 (by decide) ?_
  refine lv_istore_n (lv' := [(3, .int 0), (0, .ref (B + a0)), (1, .int x1), (2, .int x2)]) hx hb d_Mod_readReferences_1 rfl hl (by decide) rfl (fun ls hl => ?_)
  refine lv_iconst (v := 2) hx hb d_Mod_readReferences_2 (by decide) ?_
  refine lv_istore (lv' := [(4, .int 2), (3, .int 0), (0, .ref (B + a0)), (1, .int x1), (2, .int x2)]) hx hb d_Mod_readReferences_3 hl (by decide) rfl (fun ls hl => ?_)
  refine lv_iconst (v := 1) hx hb d_Mod_readReferences_5 (by decide) ?_
  refine lv_istore (lv' := [(5, .int 1), (4, .int 2), (3, .int 0), (0, .ref (B + a0)), (1, .int x1), (2, .int x2)]) hx hb d_Mod_readReferences_6 hl (by decide) rfl (fun ls hl => ?_)
  refine lv_iconst (v := 2) hx hb d_Mod_readReferences_8 (by decide) ?_
  refine lv_istore (lv' := [(6, .int 2), (5, .int 1), (4, .int 2), (3, .int 0), (0, .ref (B + a0)), (1, .int x1), (2, .int x2)]) hx hb d_Mod_readReferences_9 hl (by decide) rfl (fun ls hl => ?_)
  exact c_Mod_readReferences_11 E hr hlk hz m_fu _ _ _ _ _ _ _ _ _ _ hF _ _ S _ (lv_sub hl [4, 5, 6, 3, 2, 1, 0] rfl)
