section S_Mod_size
variable {p : Program} {l : Launch} {e : Env} {s : State} {m : MethodId} {args : Array Value} {below : List Frame} {meth : Method} {c : Code} {D : va_G} {B n : Nat} {K : Nat → ClassId}
def f_Mod_size_4   : Nat → m_G → Int32 → Int32 → Int32 → Option (Int32 × m_G)
  | 0, _, _, _, _ => none
  | fu + 1, g, x0, x1, x2 =>
    if (12 : Int32) ≤ x2 then
      some (x1, g)
    else
      f_Mod_size_4 fu g x0 (x1 + ((x0 >>> (x2 &&& 31)) &&& 1)) (x2 + 1)
set_option maxHeartbeats 1000000 in
set_option maxRecDepth 100000 in
theorem c_Mod_size_4 (E : m_V p m c b_Mod_size 3 s args R_Mod D K) (hr : meth.sig.returnType = (some .int)) (hlk : meth.locks = false) (hz : s.heap.size + 0 = B + n)   : ∀ fu : Nat, ∀ (g : m_G) (x0 : Int32) (x1 : Int32) (x2 : Int32) (r : Int32) (g' : m_G), f_Mod_size_4  fu g x0 x1 x2 = some (r, g') → ∀ (H : Heap) (locs : List Loc), m_S D B K n g s.heap H locs → ∀ ls : Array Slot, lv_has ls 3 [(0, .int x0), (1, .int x1), (2, .int x2)] → W p l e ({ frames := 0, cells := 0, slots := 0, locals := 0 } : Room) s m args below meth c H locs 0 0 (MQ below (m_Q D B K (some (.int r)) n g') args s 0 0 (fun q => B ≤ q)) (F0 m 4 ls []) := by
  have hx := E.1.1
  have hb := E.1.2.1
  have hts := E.1.2.2.2.2
  intro fu
  induction fu with
  | zero => intro g x0 x1 x2 r g' hF; cases hF
  | succ fu ih =>
    intro g x0 x1 x2 r g' hF H locs S ls hl
    rw [f_Mod_size_4] at hF
    refine lv_iload_n hx hb d_Mod_size_4 rfl (lv_at hl 2 rfl) ?_
    refine lv_bipush (v := 12) hx hb d_Mod_size_5 (by decide) ?_
    refine lv_icmp_ge (tgt := 24) hx hb d_Mod_size_7 (by decide) (fun c_1 => ?_) (fun c_1 => ?_)
    · rw [if_pos c_1] at hF
      refine lv_iload_n hx hb d_Mod_size_24 rfl (lv_at hl 1 rfl) ?_
      cases hF
      exact m_iret E S hz hr hlk d_Mod_size_25
    · rw [if_neg c_1] at hF
      refine lv_iload_n hx hb d_Mod_size_10 rfl (lv_at hl 1 rfl) ?_
      refine lv_iload_n hx hb d_Mod_size_11 rfl (lv_at hl 0 rfl) ?_
      refine lv_iload_n hx hb d_Mod_size_12 rfl (lv_at hl 2 rfl) ?_
      refine lv_ishr hx hb d_Mod_size_13 ?_
      refine lv_iconst (v := 1) hx hb d_Mod_size_14 (by decide) ?_
      refine lv_iand hx hb d_Mod_size_15 ?_
      refine lv_iadd hx hb d_Mod_size_16 ?_
      refine lv_istore_n (lv' := [(1, .int (x1 + ((x0 >>> (x2 &&& 31)) &&& 1))), (0, .int x0), (2, .int x2)]) hx hb d_Mod_size_17 rfl hl (by decide) rfl (fun ls hl => ?_)
      refine lv_iinc (v := (x2 + 1)) (lv' := [(2, .int (x2 + 1)), (1, .int (x1 + ((x0 >>> (x2 &&& 31)) &&& 1))), (0, .int x0)]) hx hb d_Mod_size_18 hl (k := 2) rfl rfl (by decide) rfl (fun ls hl => ?_)
      refine lv_goto (tgt := 4) hx hb d_Mod_size_21 (by decide) ?_
      exact ih _ _ _ _ _ _ hF _ _ S _ (lv_sub hl [2, 1, 0] rfl)
end S_Mod_size
def f_Mod_size  (g : m_G) (x0 : Int32) : Option (Int32 × m_G) :=
  f_Mod_size_4 m_fu g x0 0 0
set_option maxHeartbeats 1000000 in
set_option maxRecDepth 100000 in
theorem c_Mod_size (l : Launch) (D : va_G) (B : Nat) (K : Nat → ClassId)  (n : Nat) (g : m_G) (x0 : Int32) (r : Int32) (g' : m_G) (hF : f_Mod_size g x0 = some (r, g')) : Met l y_Mod_size (Cond.code y_Mod_size b_Mod_size 3 (some .int) :: m_TB) ({ frames := 0, cells := 0, slots := 0, locals := 0 } : Room) (m_Pc D B K n g [.int x0]) (m_Q D B K (some (.int r)) n g') 0 0 (fun q => B ≤ q) := by
  refine m_met (by decide) (Nat.le_of_ble_eq_true rfl) ?_
  intro p e s m args below meth c ls E hr hlk hin hsz S hl
  have E : m_V p m c b_Mod_size 3 s args R_Mod D K := E
  have hz : s.heap.size + 0 = B + n := hsz
  have hl : lv_has ls 3 [(0, .int x0)] := hl
  have hx := E.1.1
  have hb := E.1.2.1
  have hts := E.1.2.2.2.2
  unfold f_Mod_size at hF
  refine lv_iconst (v := 0) hx hb d_Mod_size_0 (by decide) ?_
  refine lv_istore_n (lv' := [(1, .int 0), (0, .int x0)]) hx hb d_Mod_size_1 rfl hl (by decide) rfl (fun ls hl => ?_)
  refine lv_iconst (v := 0) hx hb d_Mod_size_2 (by decide) ?_
  refine lv_istore_n (lv' := [(2, .int 0), (1, .int 0), (0, .int x0)]) hx hb d_Mod_size_3 rfl hl (by decide) rfl (fun ls hl => ?_)
  exact c_Mod_size_4 E hr hlk hz m_fu _ _ _ _ _ _ hF _ _ S _ (lv_sub hl [2, 1, 0] rfl)
section S_Mod_withTag
variable {p : Program} {l : Launch} {e : Env} {s : State} {m : MethodId} {args : Array Value} {below : List Frame} {meth : Method} {c : Code} {D : va_G} {B n : Nat} {K : Nat → ClassId}
def f_Mod_withTag_39  (k_4 : m_G → Nat → Int32 → Int32 → Int32 → Option (Int32 × m_G)) (g : m_G) (a0 : Nat) (x1 : Int32) (x2 : Int32) (x3 : Int32) : Option (Int32 × m_G) :=
  k_4 g a0 x1 x2 (x3 + 1)
set_option maxHeartbeats 1000000 in
set_option maxRecDepth 100000 in
theorem c_Mod_withTag_39 (E : m_V p m c b_Mod_withTag 4 s args R_Mod D K) (hr : meth.sig.returnType = (some .int)) (hlk : meth.locks = false) (hz : s.heap.size + 0 = B + n)  (k_4 : m_G → Nat → Int32 → Int32 → Int32 → Option (Int32 × m_G)) (hk_4 : ∀ (g : m_G) (a0 : Nat) (x1 : Int32) (x2 : Int32) (x3 : Int32) (r : Int32) (g' : m_G), k_4 g a0 x1 x2 x3 = some (r, g') → ∀ (H : Heap) (locs : List Loc), m_S D B K n g s.heap H locs → ∀ ls : Array Slot, lv_has ls 4 [(0, .ref (B + a0)), (1, .int x1), (2, .int x2), (3, .int x3)] → W p l e ({ frames := 0, cells := 0, slots := 0, locals := 0 } : Room) s m args below meth c H locs 0 0 (MQ below (m_Q D B K (some (.int r)) n g') args s 0 0 (fun q => B ≤ q)) (F0 m 4 ls [])) : ∀ (g : m_G) (a0 : Nat) (x1 : Int32) (x2 : Int32) (x3 : Int32) (r : Int32) (g' : m_G), f_Mod_withTag_39 k_4 g a0 x1 x2 x3 = some (r, g') → ∀ (H : Heap) (locs : List Loc), m_S D B K n g s.heap H locs → ∀ ls : Array Slot, lv_has ls 4 [(0, .ref (B + a0)), (1, .int x1), (2, .int x2), (3, .int x3)] → W p l e ({ frames := 0, cells := 0, slots := 0, locals := 0 } : Room) s m args below meth c H locs 0 0 (MQ below (m_Q D B K (some (.int r)) n g') args s 0 0 (fun q => B ≤ q)) (F0 m 39 ls []) := by
  have hx := E.1.1
  have hb := E.1.2.1
  have hts := E.1.2.2.2.2
  intro g a0 x1 x2 x3 r g' hF H locs S ls hl
  unfold f_Mod_withTag_39 at hF
  refine lv_iinc (v := (x3 + 1)) (lv' := [(3, .int (x3 + 1)), (0, .ref (B + a0)), (1, .int x1), (2, .int x2)]) hx hb d_Mod_withTag_39 hl (k := 3) rfl rfl (by decide) rfl (fun ls hl => ?_)
  refine lv_goto (tgt := 4) hx hb d_Mod_withTag_42 (by decide) ?_
  exact hk_4 _ _ _ _ _ _ _ hF _ _ S _ (lv_sub hl [1, 2, 3, 0] rfl)
def f_Mod_withTag_4   : Nat → m_G → Nat → Int32 → Int32 → Int32 → Option (Int32 × m_G)
  | 0, _, _, _, _, _ => none
  | fu + 1, g, a0, x1, x2, x3 =>
    if (12 : Int32) ≤ x3 then
      some (x2, g)
    else
      (m_gR g a0 8 7).bind fun v_2 =>
      Option.bind v_2 fun a_3 =>
      (m_ld g a_3 3 x3).bind fun v_4 =>
      if (v_4 : Int32) = 0 then
        f_Mod_withTag_39 (f_Mod_withTag_4 fu) g a0 x1 x2 x3
      else
        (m_gR g a0 8 13).bind fun v_6 =>
        Option.bind v_6 fun a_7 =>
        (m_ld g a_7 0 x3).bind fun v_8 =>
        if (((v_8 >>> (x1 &&& 31)) &&& 1) : Int32) = 1 then
          f_Mod_withTag_39 (f_Mod_withTag_4 fu) g a0 x1 (x2 ||| (1 <<< (x3 &&& 31))) x3
        else
          f_Mod_withTag_39 (f_Mod_withTag_4 fu) g a0 x1 x2 x3
set_option maxHeartbeats 1000000 in
set_option maxRecDepth 100000 in
theorem c_Mod_withTag_4 (E : m_V p m c b_Mod_withTag 4 s args R_Mod D K) (hr : meth.sig.returnType = (some .int)) (hlk : meth.locks = false) (hz : s.heap.size + 0 = B + n)   : ∀ fu : Nat, ∀ (g : m_G) (a0 : Nat) (x1 : Int32) (x2 : Int32) (x3 : Int32) (r : Int32) (g' : m_G), f_Mod_withTag_4  fu g a0 x1 x2 x3 = some (r, g') → ∀ (H : Heap) (locs : List Loc), m_S D B K n g s.heap H locs → ∀ ls : Array Slot, lv_has ls 4 [(0, .ref (B + a0)), (1, .int x1), (2, .int x2), (3, .int x3)] → W p l e ({ frames := 0, cells := 0, slots := 0, locals := 0 } : Room) s m args below meth c H locs 0 0 (MQ below (m_Q D B K (some (.int r)) n g') args s 0 0 (fun q => B ≤ q)) (F0 m 4 ls []) := by
  have hx := E.1.1
  have hb := E.1.2.1
  have hts := E.1.2.2.2.2
  intro fu
  induction fu with
  | zero => intro g a0 x1 x2 x3 r g' hF; cases hF
  | succ fu ih =>
    intro g a0 x1 x2 x3 r g' hF H locs S ls hl
    rw [f_Mod_withTag_4] at hF
    refine lv_iload_n hx hb d_Mod_withTag_4 rfl (lv_at hl 3 rfl) ?_
    refine lv_bipush (v := 12) hx hb d_Mod_withTag_5 (by decide) ?_
    refine lv_icmp_ge (tgt := 45) hx hb d_Mod_withTag_7 (by decide) (fun c_1 => ?_) (fun c_1 => ?_)
    · rw [if_pos c_1] at hF
      refine lv_iload_n hx hb d_Mod_withTag_45 rfl (lv_at hl 2 rfl) ?_
      cases hF
      exact m_iret E S hz hr hlk d_Mod_withTag_46
    · rw [if_neg c_1] at hF
      refine lv_aload_n hx hb d_Mod_withTag_10 rfl (lv_at hl 0 rfl) ?_
      replace hF := Option.bind_eq_some_iff.mp hF
      obtain ⟨v_2, ev_2, hF⟩ := hF
      refine m_getR (B := B) (a := a0) E S fd_Mod_there (Or.inl qw_289) ev_2 d_Mod_withTag_11 ?_
      refine lv_iload_n hx hb d_Mod_withTag_14 rfl (lv_at hl 3 rfl) ?_
      replace hF := Option.bind_eq_some_iff.mp hF
      obtain ⟨a_3, ea_3, hF⟩ := hF
      subst ea_3
      replace hF := Option.bind_eq_some_iff.mp hF
      obtain ⟨v_4, ev_4, hF⟩ := hF
      refine m_zald (B := B) (a := a_3) (t := 3) E S rfl ev_4 d_Mod_withTag_15 ?_
      refine lv_if_eq (tgt := 39) hx hb d_Mod_withTag_16 (by decide) (fun c_5 => ?_) (fun c_5 => ?_)
      · rw [if_pos c_5] at hF
        exact c_Mod_withTag_39 E hr hlk hz (f_Mod_withTag_4 fu) ih _ _ _ _ _ _ _ hF _ _ S _ (lv_sub hl [0, 1, 2, 3] rfl)
      · rw [if_neg c_5] at hF
        refine lv_aload_n hx hb d_Mod_withTag_19 rfl (lv_at hl 0 rfl) ?_
        replace hF := Option.bind_eq_some_iff.mp hF
        obtain ⟨v_6, ev_6, hF⟩ := hF
        refine m_getR (B := B) (a := a0) E S fd_Mod_tags (Or.inl qw_294) ev_6 d_Mod_withTag_20 ?_
        refine lv_iload_n hx hb d_Mod_withTag_23 rfl (lv_at hl 3 rfl) ?_
        replace hF := Option.bind_eq_some_iff.mp hF
        obtain ⟨a_7, ea_7, hF⟩ := hF
        subst ea_7
        replace hF := Option.bind_eq_some_iff.mp hF
        obtain ⟨v_8, ev_8, hF⟩ := hF
        refine m_iald (B := B) (a := a_7) (t := 0) E S rfl ev_8 d_Mod_withTag_24 ?_
        refine lv_iload_n hx hb d_Mod_withTag_25 rfl (lv_at hl 1 rfl) ?_
        refine lv_ishr hx hb d_Mod_withTag_26 ?_
        refine lv_iconst (v := 1) hx hb d_Mod_withTag_27 (by decide) ?_
        refine lv_iand hx hb d_Mod_withTag_28 ?_
        refine lv_iconst (v := 1) hx hb d_Mod_withTag_29 (by decide) ?_
        refine lv_icmp_ne (tgt := 39) hx hb d_Mod_withTag_30 (by decide) (fun c_9 => ?_) (fun c_9 => ?_)
        · rw [if_neg c_9] at hF
          exact c_Mod_withTag_39 E hr hlk hz (f_Mod_withTag_4 fu) ih _ _ _ _ _ _ _ hF _ _ S _ (lv_sub hl [0, 1, 2, 3] rfl)
        · rw [if_pos c_9] at hF
          refine lv_iload_n hx hb d_Mod_withTag_33 rfl (lv_at hl 2 rfl) ?_
          refine lv_iconst (v := 1) hx hb d_Mod_withTag_34 (by decide) ?_
          refine lv_iload_n hx hb d_Mod_withTag_35 rfl (lv_at hl 3 rfl) ?_
          refine lv_ishl hx hb d_Mod_withTag_36 ?_
          refine lv_ior hx hb d_Mod_withTag_37 ?_
          refine lv_istore_n (lv' := [(2, .int (x2 ||| (1 <<< (x3 &&& 31)))), (0, .ref (B + a0)), (1, .int x1), (3, .int x3)]) hx hb d_Mod_withTag_38 rfl hl (by decide) rfl (fun ls hl => ?_)
          exact c_Mod_withTag_39 E hr hlk hz (f_Mod_withTag_4 fu) ih _ _ _ _ _ _ _ hF _ _ S _ (lv_sub hl [1, 2, 0, 3] rfl)
end S_Mod_withTag
def f_Mod_withTag  (g : m_G) (a0 : Nat) (x1 : Int32) : Option (Int32 × m_G) :=
  f_Mod_withTag_4 m_fu g a0 x1 0 0
set_option maxHeartbeats 1000000 in
set_option maxRecDepth 100000 in
theorem c_Mod_withTag (l : Launch) (D : va_G) (B : Nat) (K : Nat → ClassId)  (n : Nat) (g : m_G) (a0 : Nat) (x1 : Int32) (r : Int32) (g' : m_G) (hF : f_Mod_withTag g a0 x1 = some (r, g')) : Met l y_Mod_withTag (Cond.code y_Mod_withTag b_Mod_withTag 4 (some .int) :: m_TB) ({ frames := 0, cells := 0, slots := 0, locals := 0 } : Room) (m_Pc D B K n g [.ref (B + a0), .int x1]) (m_Q D B K (some (.int r)) n g') 0 0 (fun q => B ≤ q) := by
  refine m_met (by decide) (Nat.le_of_ble_eq_true rfl) ?_
  intro p e s m args below meth c ls E hr hlk hin hsz S hl
  have E : m_V p m c b_Mod_withTag 4 s args R_Mod D K := E
  have hz : s.heap.size + 0 = B + n := hsz
  have hl : lv_has ls 4 [(0, .ref (B + a0)), (1, .int x1)] := hl
  have hx := E.1.1
  have hb := E.1.2.1
  have hts := E.1.2.2.2.2
  unfold f_Mod_withTag at hF
  refine lv_iconst (v := 0) hx hb d_Mod_withTag_0 (by decide) ?_
  refine lv_istore_n (lv' := [(2, .int 0), (0, .ref (B + a0)), (1, .int x1)]) hx hb d_Mod_withTag_1 rfl hl (by decide) rfl (fun ls hl => ?_)
  refine lv_iconst (v := 0) hx hb d_Mod_withTag_2 (by decide) ?_
  refine lv_istore_n (lv' := [(3, .int 0), (2, .int 0), (0, .ref (B + a0)), (1, .int x1)]) hx hb d_Mod_withTag_3 rfl hl (by decide) rfl (fun ls hl => ?_)
  exact c_Mod_withTag_4 E hr hlk hz m_fu _ _ _ _ _ _ _ hF _ _ S _ (lv_sub hl [2, 3, 1, 0] rfl)
section S_Mod_lettersOf
variable {p : Program} {l : Launch} {e : Env} {s : State} {m : MethodId} {args : Array Value} {below : List Frame} {meth : Method} {c : Code} {D : va_G} {B n : Nat} {K : Nat → ClassId}
def f_Mod_lettersOf_4   : Nat → m_G → Int32 → Int64 → Option (Int32 × m_G)
  | 0, _, _, _ => none
  | fu + 1, g, x2, x3 =>
    if ((lg_cmp x3 0) : Int32) ≤ 0 then
      some (x2, g)
    else
      if (32 : Int64) = 0 then none else
      f_Mod_lettersOf_4 fu g (x2 + 1) (x3 / 32)
set_option maxHeartbeats 1000000 in
set_option maxRecDepth 100000 in
theorem c_Mod_lettersOf_4 (E : m_V p m c b_Mod_lettersOf 5 s args R_Mod D K) (hr : meth.sig.returnType = (some .int)) (hlk : meth.locks = false) (hz : s.heap.size + 0 = B + n)   : ∀ fu : Nat, ∀ (g : m_G) (x2 : Int32) (x3 : Int64) (r : Int32) (g' : m_G), f_Mod_lettersOf_4  fu g x2 x3 = some (r, g') → ∀ (H : Heap) (locs : List Loc), m_S D B K n g s.heap H locs → ∀ ls : Array Slot, lv_has ls 5 [(2, .int x2), (3, .long x3)] → W p l e ({ frames := 0, cells := 0, slots := 0, locals := 0 } : Room) s m args below meth c H locs 0 0 (MQ below (m_Q D B K (some (.int r)) n g') args s 0 0 (fun q => B ≤ q)) (F0 m 4 ls []) := by
  have hx := E.1.1
  have hb := E.1.2.1
  have hts := E.1.2.2.2.2
  intro fu
  induction fu with
  | zero => intro g x2 x3 r g' hF; cases hF
  | succ fu ih =>
    intro g x2 x3 r g' hF H locs S ls hl
    rw [f_Mod_lettersOf_4] at hF
    refine lv_lload_n hx hb d_Mod_lettersOf_4 rfl (lv_at hl 1 rfl) ?_
    refine lv_lconst (v := 0) hx hb d_Mod_lettersOf_5 (by decide) ?_
    refine W.lcmp hx hb d_Mod_lettersOf_6 ?_
    refine lv_if_le (tgt := 22) hx hb d_Mod_lettersOf_7 (by decide) (fun c_1 => ?_) (fun c_1 => ?_)
    · rw [if_pos c_1] at hF
      refine lv_iload_n hx hb d_Mod_lettersOf_22 rfl (lv_at hl 0 rfl) ?_
      cases hF
      exact m_iret E S hz hr hlk d_Mod_lettersOf_23
    · rw [if_neg c_1] at hF
      refine lv_iinc (v := (x2 + 1)) (lv' := [(2, .int (x2 + 1)), (3, .long x3)]) hx hb d_Mod_lettersOf_10 hl (k := 0) rfl rfl (by decide) rfl (fun ls hl => ?_)
      refine lv_lload_n hx hb d_Mod_lettersOf_13 rfl (lv_at hl 1 rfl) ?_
      refine lv_ldc2 (v := 32) hx hb E.1.2.2.2.1 (hts _ qw_313) d_Mod_lettersOf_14 ?_
      by_cases c_2 : (32 : Int64) = 0
      · rw [if_pos c_2] at hF
        cases hF
      rw [if_neg c_2] at hF
      refine lv_ldiv hx hb d_Mod_lettersOf_17 c_2 ?_
      refine lv_lstore_n (lv' := [(3, .long (x3 / 32)), (2, .int (x2 + 1))]) hx hb d_Mod_lettersOf_18 rfl hl (by decide) rfl (fun ls hl => ?_)
      refine lv_goto (tgt := 4) hx hb d_Mod_lettersOf_19 (by decide) ?_
      exact ih _ _ _ _ _ hF _ _ S _ (lv_sub hl [1, 0] rfl)
end S_Mod_lettersOf
def f_Mod_lettersOf  (g : m_G) (x0 : Int64) : Option (Int32 × m_G) :=
  f_Mod_lettersOf_4 m_fu g 0 x0
set_option maxHeartbeats 1000000 in
set_option maxRecDepth 100000 in
theorem c_Mod_lettersOf (l : Launch) (D : va_G) (B : Nat) (K : Nat → ClassId)  (n : Nat) (g : m_G) (x0 : Int64) (r : Int32) (g' : m_G) (hF : f_Mod_lettersOf g x0 = some (r, g')) : Met l y_Mod_lettersOf (Cond.code y_Mod_lettersOf b_Mod_lettersOf 5 (some .int) :: m_TB) ({ frames := 0, cells := 0, slots := 0, locals := 0 } : Room) (m_Pc D B K n g [.long x0]) (m_Q D B K (some (.int r)) n g') 0 0 (fun q => B ≤ q) := by
  refine m_met (by decide) (Nat.le_of_ble_eq_true rfl) ?_
  intro p e s m args below meth c ls E hr hlk hin hsz S hl
  have E : m_V p m c b_Mod_lettersOf 5 s args R_Mod D K := E
  have hz : s.heap.size + 0 = B + n := hsz
  have hl : lv_has ls 5 [(0, .long x0)] := hl
  have hx := E.1.1
  have hb := E.1.2.1
  have hts := E.1.2.2.2.2
  unfold f_Mod_lettersOf at hF
  refine lv_iconst (v := 0) hx hb d_Mod_lettersOf_0 (by decide) ?_
  refine lv_istore_n (lv' := [(2, .int 0), (0, .long x0)]) hx hb d_Mod_lettersOf_1 rfl hl (by decide) rfl (fun ls hl => ?_)
  refine lv_lload_n hx hb d_Mod_lettersOf_2 rfl (lv_at hl 1 rfl) ?_
  refine lv_lstore_n (lv' := [(3, .long x0), (2, .int 0), (0, .long x0)]) hx hb d_Mod_lettersOf_3 rfl hl (by decide) rfl (fun ls hl => ?_)
  exact c_Mod_lettersOf_4 E hr hlk hz m_fu _ _ _ _ _ hF _ _ S _ (lv_sub hl [1, 0] rfl)
section S_Mod_begins
variable {p : Program} {l : Launch} {e : Env} {s : State} {m : MethodId} {args : Array Value} {below : List Frame} {meth : Method} {c : Code} {D : va_G} {B n : Nat} {K : Nat → ClassId}
def f_Mod_begins_55   (g : m_G) (y0 : Int32) : Option (Int32 × m_G) :=
  if (y0 : Int32) = 0 ∨ y0 = 1 then some (y0, g) else none
set_option maxHeartbeats 1000000 in
set_option maxRecDepth 100000 in
theorem c_Mod_begins_55 (E : m_V p m c b_Mod_begins 8 s args R_Mod D K) (hr : meth.sig.returnType = (some .boolean)) (hlk : meth.locks = false) (hz : s.heap.size + 0 = B + n)   : ∀ (g : m_G) (y0 : Int32) (r : Int32) (g' : m_G), f_Mod_begins_55 g y0 = some (r, g') → ∀ (H : Heap) (locs : List Loc), m_S D B K n g s.heap H locs → ∀ ls : Array Slot, lv_has ls 8 [] → W p l e ({ frames := 1, cells := 0, slots := 0, locals := 24 } : Room) s m args below meth c H locs 0 0 (MQ below (m_Q D B K (some (.int r)) n g') args s 0 0 (fun q => B ≤ q)) (F0 m 55 ls [.int y0]) := by
  have hx := E.1.1
  have hb := E.1.2.1
  have hts := E.1.2.2.2.2
  intro g y0 r g' hF H locs S ls hl
  unfold f_Mod_begins_55 at hF
  by_cases c_1 : (y0 : Int32) = 0 ∨ y0 = 1
  · rw [if_pos c_1] at hF
    cases hF
    exact m_zret E S hz hr hlk c_1 d_Mod_begins_55
  · rw [if_neg c_1] at hF
    cases hF
def f_Mod_begins_54   (g : m_G)  : Option (Int32 × m_G) :=
  f_Mod_begins_55 g 0
set_option maxHeartbeats 1000000 in
set_option maxRecDepth 100000 in
theorem c_Mod_begins_54 (E : m_V p m c b_Mod_begins 8 s args R_Mod D K) (hr : meth.sig.returnType = (some .boolean)) (hlk : meth.locks = false) (hz : s.heap.size + 0 = B + n)   : ∀ (g : m_G)  (r : Int32) (g' : m_G), f_Mod_begins_54 g  = some (r, g') → ∀ (H : Heap) (locs : List Loc), m_S D B K n g s.heap H locs → ∀ ls : Array Slot, lv_has ls 8 [] → W p l e ({ frames := 1, cells := 0, slots := 0, locals := 24 } : Room) s m args below meth c H locs 0 0 (MQ below (m_Q D B K (some (.int r)) n g') args s 0 0 (fun q => B ≤ q)) (F0 m 54 ls []) := by
  have hx := E.1.1
  have hb := E.1.2.1
  have hts := E.1.2.2.2.2
  intro g  r g' hF H locs S ls hl
  unfold f_Mod_begins_54 at hF
  refine lv_iconst (v := 0) hx hb d_Mod_begins_54 (by decide) ?_
  exact c_Mod_begins_55 E hr hlk hz _ _ _ _ hF _ _ S _ (lv_sub hl [] rfl)
def f_Mod_begins_17   : Nat → m_G → Int64 → Int32 → Int64 → Int32 → Option (Int32 × m_G)
  | 0, _, _, _, _, _ => none
  | fu + 1, g, x2, x4, x5, x7 =>
    if (x4 : Int32) ≤ x7 then
      if (x4 : Int32) < 0 then
        f_Mod_begins_54 g 
      else
        if ((lg_cmp x5 x2) : Int32) = 0 then
          f_Mod_begins_55 g 1
        else
          f_Mod_begins_54 g 
    else
      if (32 : Int64) = 0 then none else
      f_Mod_begins_17 fu g x2 x4 (x5 / 32) (x7 + 1)
set_option maxHeartbeats 1000000 in
set_option maxRecDepth 100000 in
theorem c_Mod_begins_17 (E : m_V p m c b_Mod_begins 8 s args R_Mod D K) (hr : meth.sig.returnType = (some .boolean)) (hlk : meth.locks = false) (hz : s.heap.size + 0 = B + n)   : ∀ fu : Nat, ∀ (g : m_G) (x2 : Int64) (x4 : Int32) (x5 : Int64) (x7 : Int32) (r : Int32) (g' : m_G), f_Mod_begins_17  fu g x2 x4 x5 x7 = some (r, g') → ∀ (H : Heap) (locs : List Loc), m_S D B K n g s.heap H locs → ∀ ls : Array Slot, lv_has ls 8 [(2, .long x2), (4, .int x4), (5, .long x5), (7, .int x7)] → W p l e ({ frames := 1, cells := 0, slots := 0, locals := 24 } : Room) s m args below meth c H locs 0 0 (MQ below (m_Q D B K (some (.int r)) n g') args s 0 0 (fun q => B ≤ q)) (F0 m 17 ls []) := by
  have hx := E.1.1
  have hb := E.1.2.1
  have hts := E.1.2.2.2.2
  intro fu
  induction fu with
  | zero => intro g x2 x4 x5 x7 r g' hF; cases hF
  | succ fu ih =>
    intro g x2 x4 x5 x7 r g' hF H locs S ls hl
    rw [f_Mod_begins_17] at hF
    refine lv_iload hx hb d_Mod_begins_17 (lv_at hl 3 rfl) ?_
    refine lv_iload hx hb d_Mod_begins_19 (lv_at hl 1 rfl) ?_
    refine lv_icmp_ge (tgt := 38) hx hb d_Mod_begins_21 (by decide) (fun c_1 => ?_) (fun c_1 => ?_)
    · rw [if_pos c_1] at hF
      refine lv_iload hx hb d_Mod_begins_38 (lv_at hl 1 rfl) ?_
      refine lv_if_lt (tgt := 54) hx hb d_Mod_begins_40 (by decide) (fun c_2 => ?_) (fun c_2 => ?_)
      · rw [if_pos c_2] at hF
        exact c_Mod_begins_54 E hr hlk hz _ _ _ hF _ _ S _ (lv_sub hl [] rfl)
      · rw [if_neg c_2] at hF
        refine lv_lload hx hb d_Mod_begins_43 (lv_at hl 2 rfl) ?_
        refine lv_lload_n hx hb d_Mod_begins_45 rfl (lv_at hl 0 rfl) ?_
        refine W.lcmp hx hb d_Mod_begins_46 ?_
        refine lv_if_ne (tgt := 54) hx hb d_Mod_begins_47 (by decide) (fun c_3 => ?_) (fun c_3 => ?_)
        · rw [if_neg c_3] at hF
          exact c_Mod_begins_54 E hr hlk hz _ _ _ hF _ _ S _ (lv_sub hl [] rfl)
        · rw [if_pos c_3] at hF
          refine lv_iconst (v := 1) hx hb d_Mod_begins_50 (by decide) ?_
          refine lv_goto (tgt := 55) hx hb d_Mod_begins_51 (by decide) ?_
          exact c_Mod_begins_55 E hr hlk hz _ _ _ _ hF _ _ S _ (lv_sub hl [] rfl)
    · rw [if_neg c_1] at hF
      refine lv_lload hx hb d_Mod_begins_24 (lv_at hl 2 rfl) ?_
      refine lv_ldc2 (v := 32) hx hb E.1.2.2.2.1 (hts _ qw_313) d_Mod_begins_26 ?_
      by_cases c_4 : (32 : Int64) = 0
      · rw [if_pos c_4] at hF
        cases hF
      rw [if_neg c_4] at hF
      refine lv_ldiv hx hb d_Mod_begins_29 c_4 ?_
      refine lv_lstore (lv' := [(5, .long (x5 / 32)), (2, .long x2), (4, .int x4), (7, .int x7)]) hx hb d_Mod_begins_30 hl (by decide) rfl (fun ls hl => ?_)
      refine lv_iinc (v := (x7 + 1)) (lv' := [(7, .int (x7 + 1)), (5, .long (x5 / 32)), (2, .long x2), (4, .int x4)]) hx hb d_Mod_begins_32 hl (k := 3) rfl rfl (by decide) rfl (fun ls hl => ?_)
      refine lv_goto (tgt := 17) hx hb d_Mod_begins_35 (by decide) ?_
      exact ih _ _ _ _ _ _ _ hF _ _ S _ (lv_sub hl [2, 3, 1, 0] rfl)
end S_Mod_begins
def f_Mod_begins  (g : m_G) (x0 : Int64) (x2 : Int64) : Option (Int32 × m_G) :=
  m_bd (f_Mod_lettersOf g x0) fun v_2 g_1 =>
  m_bd (f_Mod_lettersOf g_1 x2) fun v_4 g_3 =>
  f_Mod_begins_17 m_fu g_3 x2 (v_2 - v_4) x0 0
set_option maxHeartbeats 1000000 in
set_option maxRecDepth 100000 in
theorem c_Mod_begins (l : Launch) (D : va_G) (B : Nat) (K : Nat → ClassId)  (n : Nat) (g : m_G) (x0 : Int64) (x2 : Int64) (r : Int32) (g' : m_G) (hF : f_Mod_begins g x0 x2 = some (r, g')) : Met l y_Mod_begins (Cond.code y_Mod_begins b_Mod_begins 8 (some .boolean) :: m_TB) ({ frames := 1, cells := 0, slots := 0, locals := 24 } : Room) (m_Pc D B K n g [.long x0, .long x2]) (m_Q D B K (some (.int r)) n g') 0 0 (fun q => B ≤ q) := by
  refine m_met (by decide) (Nat.le_of_ble_eq_true rfl) ?_
  intro p e s m args below meth c ls E hr hlk hin hsz S hl
  have E : m_V p m c b_Mod_begins 8 s args R_Mod D K := E
  have hz : s.heap.size + 0 = B + n := hsz
  have hl : lv_has ls 8 [(0, .long x0), (2, .long x2)] := hl
  have hx := E.1.1
  have hb := E.1.2.1
  have hts := E.1.2.2.2.2
  unfold f_Mod_begins at hF
  refine lv_lload_n hx hb d_Mod_begins_0 rfl (lv_at hl 0 rfl) ?_
  replace hF := m_bd_inv hF
  obtain ⟨v_2, g_1, eg_1, hF⟩ := hF
  refine m_callS (B := B) (nn := 1) (As := [.long x0]) (rest := []) (v := (some (.int v_2))) E S hz (c_Mod_lettersOf l D B K n g x0 v_2 g_1 eg_1) qc_Mod_lettersOf ⟨rfl, rfl⟩ (Or.inl qw_376) qw_377 qw_304 (by decide +kernel) ⟨Nat.le_of_ble_eq_true rfl, Nat.le_of_ble_eq_true rfl⟩ rfl hl.1 (Nat.le_of_ble_eq_true rfl) d_Mod_begins_1 ⟨Nat.le_of_ble_eq_true rfl, Nat.le_of_ble_eq_true rfl⟩ (fun H locs S => ?_)
  refine W.eq (g2 := F0 m 4 ls [.int v_2]) rfl ?_
  refine lv_lload_n hx hb d_Mod_begins_4 rfl (lv_at hl 1 rfl) ?_
  replace hF := m_bd_inv hF
  obtain ⟨v_4, g_3, eg_3, hF⟩ := hF
  refine m_callS (B := B) (nn := 1) (As := [.long x2]) (rest := [.int v_2]) (v := (some (.int v_4))) E S hz (c_Mod_lettersOf l D B K n g_1 x2 v_4 g_3 eg_3) qc_Mod_lettersOf ⟨rfl, rfl⟩ (Or.inl qw_376) qw_377 qw_304 (by decide +kernel) ⟨Nat.le_of_ble_eq_true rfl, Nat.le_of_ble_eq_true rfl⟩ rfl hl.1 (Nat.le_of_ble_eq_true rfl) d_Mod_begins_5 ⟨Nat.le_of_ble_eq_true rfl, Nat.le_of_ble_eq_true rfl⟩ (fun H locs S => ?_)
  refine W.eq (g2 := F0 m 8 ls [.int v_4, .int v_2]) rfl ?_
  refine lv_isub hx hb d_Mod_begins_8 ?_
  refine lv_istore (lv' := [(4, .int (v_2 - v_4)), (0, .long x0), (2, .long x2)]) hx hb d_Mod_begins_9 hl (by decide) rfl (fun ls hl => ?_)
  refine lv_lload_n hx hb d_Mod_begins_11 rfl (lv_at hl 1 rfl) ?_
  refine lv_lstore (lv' := [(5, .long x0), (4, .int (v_2 - v_4)), (0, .long x0), (2, .long x2)]) hx hb d_Mod_begins_12 hl (by decide) rfl (fun ls hl => ?_)
  refine lv_iconst (v := 0) hx hb d_Mod_begins_14 (by decide) ?_
  refine lv_istore (lv' := [(7, .int 0), (5, .long x0), (4, .int (v_2 - v_4)), (0, .long x0), (2, .long x2)]) hx hb d_Mod_begins_15 hl (by decide) rfl (fun ls hl => ?_)
  exact c_Mod_begins_17 E hr hlk hz m_fu _ _ _ _ _ _ _ hF _ _ S _ (lv_sub hl [4, 2, 1, 0] rfl)
section S_Mod_withWord
variable {p : Program} {l : Launch} {e : Env} {s : State} {m : MethodId} {args : Array Value} {below : List Frame} {meth : Method} {c : Code} {D : va_G} {B n : Nat} {K : Nat → ClassId}
def f_Mod_withWord_136  (k_6 : m_G → Nat → Int64 → Int32 → Int32 → Int32 → Int32 → Option (Int32 × m_G)) (g : m_G) (a0 : Nat) (x1 : Int64) (x3 : Int32) (x4 : Int32) (x5 : Int32) (x6 : Int32) : Option (Int32 × m_G) :=
  k_6 g a0 x1 x3 x4 x5 (x6 + 1)
set_option maxHeartbeats 1000000 in
set_option maxRecDepth 100000 in
theorem c_Mod_withWord_136 (E : m_V p m c b_Mod_withWord 9 s args R_Mod D K) (hr : meth.sig.returnType = (some .int)) (hlk : meth.locks = false) (hz : s.heap.size + 0 = B + n)  (k_6 : m_G → Nat → Int64 → Int32 → Int32 → Int32 → Int32 → Option (Int32 × m_G)) (hk_6 : ∀ (g : m_G) (a0 : Nat) (x1 : Int64) (x3 : Int32) (x4 : Int32) (x5 : Int32) (x6 : Int32) (r : Int32) (g' : m_G), k_6 g a0 x1 x3 x4 x5 x6 = some (r, g') → ∀ (H : Heap) (locs : List Loc), m_S D B K n g s.heap H locs → ∀ ls : Array Slot, lv_has ls 9 [(0, .ref (B + a0)), (1, .long x1), (3, .int x3), (4, .int x4), (5, .int x5), (6, .int x6)] → W p l e ({ frames := 2, cells := 0, slots := 0, locals := 51 } : Room) s m args below meth c H locs 0 0 (MQ below (m_Q D B K (some (.int r)) n g') args s 0 0 (fun q => B ≤ q)) (F0 m 6 ls [])) : ∀ (g : m_G) (a0 : Nat) (x1 : Int64) (x3 : Int32) (x4 : Int32) (x5 : Int32) (x6 : Int32) (r : Int32) (g' : m_G), f_Mod_withWord_136 k_6 g a0 x1 x3 x4 x5 x6 = some (r, g') → ∀ (H : Heap) (locs : List Loc), m_S D B K n g s.heap H locs → ∀ ls : Array Slot, lv_has ls 9 [(0, .ref (B + a0)), (1, .long x1), (3, .int x3), (4, .int x4), (5, .int x5), (6, .int x6)] → W p l e ({ frames := 2, cells := 0, slots := 0, locals := 51 } : Room) s m args below meth c H locs 0 0 (MQ below (m_Q D B K (some (.int r)) n g') args s 0 0 (fun q => B ≤ q)) (F0 m 136 ls []) := by
  have hx := E.1.1
  have hb := E.1.2.1
  have hts := E.1.2.2.2.2
  intro g a0 x1 x3 x4 x5 x6 r g' hF H locs S ls hl
  unfold f_Mod_withWord_136 at hF
  refine lv_iinc (v := (x6 + 1)) (lv' := [(6, .int (x6 + 1)), (0, .ref (B + a0)), (1, .long x1), (3, .int x3), (4, .int x4), (5, .int x5)]) hx hb d_Mod_withWord_136 hl (k := 5) rfl rfl (by decide) rfl (fun ls hl => ?_)
  refine lv_goto (tgt := 6) hx hb d_Mod_withWord_139 (by decide) ?_
  exact hk_6 _ _ _ _ _ _ _ _ _ hF _ _ S _ (lv_sub hl [1, 2, 3, 4, 5, 0] rfl)
def f_Mod_withWord_130  (k_6 : m_G → Nat → Int64 → Int32 → Int32 → Int32 → Int32 → Option (Int32 × m_G)) (k_29 : m_G → Nat → Int64 → Int32 → Int32 → Int32 → Int32 → Int32 → Option (Int32 × m_G)) (g : m_G) (a0 : Nat) (x1 : Int64) (x3 : Int32) (x4 : Int32) (x5 : Int32) (x6 : Int32) (x7 : Int32) : Option (Int32 × m_G) :=
  k_29 g a0 x1 x3 x4 x5 x6 (x7 + 1)
set_option maxHeartbeats 1000000 in
set_option maxRecDepth 100000 in
theorem c_Mod_withWord_130 (E : m_V p m c b_Mod_withWord 9 s args R_Mod D K) (hr : meth.sig.returnType = (some .int)) (hlk : meth.locks = false) (hz : s.heap.size + 0 = B + n)  (k_6 : m_G → Nat → Int64 → Int32 → Int32 → Int32 → Int32 → Option (Int32 × m_G)) (hk_6 : ∀ (g : m_G) (a0 : Nat) (x1 : Int64) (x3 : Int32) (x4 : Int32) (x5 : Int32) (x6 : Int32) (r : Int32) (g' : m_G), k_6 g a0 x1 x3 x4 x5 x6 = some (r, g') → ∀ (H : Heap) (locs : List Loc), m_S D B K n g s.heap H locs → ∀ ls : Array Slot, lv_has ls 9 [(0, .ref (B + a0)), (1, .long x1), (3, .int x3), (4, .int x4), (5, .int x5), (6, .int x6)] → W p l e ({ frames := 2, cells := 0, slots := 0, locals := 51 } : Room) s m args below meth c H locs 0 0 (MQ below (m_Q D B K (some (.int r)) n g') args s 0 0 (fun q => B ≤ q)) (F0 m 6 ls [])) (k_29 : m_G → Nat → Int64 → Int32 → Int32 → Int32 → Int32 → Int32 → Option (Int32 × m_G)) (hk_29 : ∀ (g : m_G) (a0 : Nat) (x1 : Int64) (x3 : Int32) (x4 : Int32) (x5 : Int32) (x6 : Int32) (x7 : Int32) (r : Int32) (g' : m_G), k_29 g a0 x1 x3 x4 x5 x6 x7 = some (r, g') → ∀ (H : Heap) (locs : List Loc), m_S D B K n g s.heap H locs → ∀ ls : Array Slot, lv_has ls 9 [(0, .ref (B + a0)), (1, .long x1), (3, .int x3), (4, .int x4), (5, .int x5), (6, .int x6), (7, .int x7)] → W p l e ({ frames := 2, cells := 0, slots := 0, locals := 51 } : Room) s m args below meth c H locs 0 0 (MQ below (m_Q D B K (some (.int r)) n g') args s 0 0 (fun q => B ≤ q)) (F0 m 29 ls [])) : ∀ (g : m_G) (a0 : Nat) (x1 : Int64) (x3 : Int32) (x4 : Int32) (x5 : Int32) (x6 : Int32) (x7 : Int32) (r : Int32) (g' : m_G), f_Mod_withWord_130 k_6 k_29 g a0 x1 x3 x4 x5 x6 x7 = some (r, g') → ∀ (H : Heap) (locs : List Loc), m_S D B K n g s.heap H locs → ∀ ls : Array Slot, lv_has ls 9 [(0, .ref (B + a0)), (1, .long x1), (3, .int x3), (4, .int x4), (5, .int x5), (6, .int x6), (7, .int x7)] → W p l e ({ frames := 2, cells := 0, slots := 0, locals := 51 } : Room) s m args below meth c H locs 0 0 (MQ below (m_Q D B K (some (.int r)) n g') args s 0 0 (fun q => B ≤ q)) (F0 m 130 ls []) := by
  have hx := E.1.1
  have hb := E.1.2.1
  have hts := E.1.2.2.2.2
  intro g a0 x1 x3 x4 x5 x6 x7 r g' hF H locs S ls hl
  unfold f_Mod_withWord_130 at hF
  refine lv_iinc (v := (x7 + 1)) (lv' := [(7, .int (x7 + 1)), (0, .ref (B + a0)), (1, .long x1), (3, .int x3), (4, .int x4), (5, .int x5), (6, .int x6)]) hx hb d_Mod_withWord_130 hl (k := 6) rfl rfl (by decide) rfl (fun ls hl => ?_)
  refine lv_goto (tgt := 29) hx hb d_Mod_withWord_133 (by decide) ?_
  exact hk_29 _ _ _ _ _ _ _ _ _ _ hF _ _ S _ (lv_sub hl [1, 2, 3, 4, 5, 6, 0] rfl)
def f_Mod_withWord_121  (k_6 : m_G → Nat → Int64 → Int32 → Int32 → Int32 → Int32 → Option (Int32 × m_G)) (k_29 : m_G → Nat → Int64 → Int32 → Int32 → Int32 → Int32 → Int32 → Option (Int32 × m_G)) (g : m_G) (a0 : Nat) (x1 : Int64) (x3 : Int32) (x4 : Int32) (x5 : Int32) (x6 : Int32) (x7 : Int32) : Option (Int32 × m_G) :=
  f_Mod_withWord_130 k_6 k_29 g a0 x1 x3 x4 (x5 ||| (1 <<< (x6 &&& 31))) x6 x7
set_option maxHeartbeats 1000000 in
set_option maxRecDepth 100000 in
theorem c_Mod_withWord_121 (E : m_V p m c b_Mod_withWord 9 s args R_Mod D K) (hr : meth.sig.returnType = (some .int)) (hlk : meth.locks = false) (hz : s.heap.size + 0 = B + n)  (k_6 : m_G → Nat → Int64 → Int32 → Int32 → Int32 → Int32 → Option (Int32 × m_G)) (hk_6 : ∀ (g : m_G) (a0 : Nat) (x1 : Int64) (x3 : Int32) (x4 : Int32) (x5 : Int32) (x6 : Int32) (r : Int32) (g' : m_G), k_6 g a0 x1 x3 x4 x5 x6 = some (r, g') → ∀ (H : Heap) (locs : List Loc), m_S D B K n g s.heap H locs → ∀ ls : Array Slot, lv_has ls 9 [(0, .ref (B + a0)), (1, .long x1), (3, .int x3), (4, .int x4), (5, .int x5), (6, .int x6)] → W p l e ({ frames := 2, cells := 0, slots := 0, locals := 51 } : Room) s m args below meth c H locs 0 0 (MQ below (m_Q D B K (some (.int r)) n g') args s 0 0 (fun q => B ≤ q)) (F0 m 6 ls [])) (k_29 : m_G → Nat → Int64 → Int32 → Int32 → Int32 → Int32 → Int32 → Option (Int32 × m_G)) (hk_29 : ∀ (g : m_G) (a0 : Nat) (x1 : Int64) (x3 : Int32) (x4 : Int32) (x5 : Int32) (x6 : Int32) (x7 : Int32) (r : Int32) (g' : m_G), k_29 g a0 x1 x3 x4 x5 x6 x7 = some (r, g') → ∀ (H : Heap) (locs : List Loc), m_S D B K n g s.heap H locs → ∀ ls : Array Slot, lv_has ls 9 [(0, .ref (B + a0)), (1, .long x1), (3, .int x3), (4, .int x4), (5, .int x5), (6, .int x6), (7, .int x7)] → W p l e ({ frames := 2, cells := 0, slots := 0, locals := 51 } : Room) s m args below meth c H locs 0 0 (MQ below (m_Q D B K (some (.int r)) n g') args s 0 0 (fun q => B ≤ q)) (F0 m 29 ls [])) : ∀ (g : m_G) (a0 : Nat) (x1 : Int64) (x3 : Int32) (x4 : Int32) (x5 : Int32) (x6 : Int32) (x7 : Int32) (r : Int32) (g' : m_G), f_Mod_withWord_121 k_6 k_29 g a0 x1 x3 x4 x5 x6 x7 = some (r, g') → ∀ (H : Heap) (locs : List Loc), m_S D B K n g s.heap H locs → ∀ ls : Array Slot, lv_has ls 9 [(0, .ref (B + a0)), (1, .long x1), (3, .int x3), (4, .int x4), (5, .int x5), (6, .int x6), (7, .int x7)] → W p l e ({ frames := 2, cells := 0, slots := 0, locals := 51 } : Room) s m args below meth c H locs 0 0 (MQ below (m_Q D B K (some (.int r)) n g') args s 0 0 (fun q => B ≤ q)) (F0 m 121 ls []) := by
  have hx := E.1.1
  have hb := E.1.2.1
  have hts := E.1.2.2.2.2
  intro g a0 x1 x3 x4 x5 x6 x7 r g' hF H locs S ls hl
  unfold f_Mod_withWord_121 at hF
  refine lv_iload hx hb d_Mod_withWord_121 (lv_at hl 4 rfl) ?_
  refine lv_iconst (v := 1) hx hb d_Mod_withWord_123 (by decide) ?_
  refine lv_iload hx hb d_Mod_withWord_124 (lv_at hl 5 rfl) ?_
  refine lv_ishl hx hb d_Mod_withWord_126 ?_
  refine lv_ior hx hb d_Mod_withWord_127 ?_
  refine lv_istore (lv' := [(5, .int (x5 ||| (1 <<< (x6 &&& 31)))), (0, .ref (B + a0)), (1, .long x1), (3, .int x3), (4, .int x4), (6, .int x6), (7, .int x7)]) hx hb d_Mod_withWord_128 hl (by decide) rfl (fun ls hl => ?_)
  exact c_Mod_withWord_130 E hr hlk hz k_6 hk_6 k_29 hk_29 _ _ _ _ _ _ _ _ _ _ hF _ _ S _ (lv_sub hl [1, 2, 3, 4, 0, 5, 6] rfl)
def f_Mod_withWord_69  (k_6 : m_G → Nat → Int64 → Int32 → Int32 → Int32 → Int32 → Option (Int32 × m_G)) (k_29 : m_G → Nat → Int64 → Int32 → Int32 → Int32 → Int32 → Int32 → Option (Int32 × m_G)) (g : m_G) (a0 : Nat) (x1 : Int64) (x3 : Int32) (x4 : Int32) (x5 : Int32) (x6 : Int32) (x7 : Int32) (y0 : Int32) : Option (Int32 × m_G) :=
  if (y0 : Int32) = 0 then
    f_Mod_withWord_130 k_6 k_29 g a0 x1 x3 x4 x5 x6 x7
  else
    if (x3 : Int32) = 0 then
      (m_gR g a0 8 16).bind fun v_3 =>
      Option.bind v_3 fun a_4 =>
      (m_ldL g a_4 2 ((50 * x6) + x7)).bind fun v_5 =>
      if ((lg_cmp v_5 x1) : Int32) = 0 then
        f_Mod_withWord_121 k_6 k_29 g a0 x1 x3 x4 x5 x6 x7
      else
        f_Mod_withWord_130 k_6 k_29 g a0 x1 x3 x4 x5 x6 x7
    else
      (m_gR g a0 8 16).bind fun v_7 =>
      Option.bind v_7 fun a_8 =>
      (m_ldL g a_8 2 ((50 * x6) + x7)).bind fun v_9 =>
      m_bd (f_Mod_begins g v_9 x1) fun v_11 g_10 =>
      if (v_11 : Int32) = 0 then
        f_Mod_withWord_130 k_6 k_29 g_10 a0 x1 x3 x4 x5 x6 x7
      else
        f_Mod_withWord_121 k_6 k_29 g_10 a0 x1 x3 x4 x5 x6 x7
set_option maxHeartbeats 1000000 in
set_option maxRecDepth 100000 in
theorem c_Mod_withWord_69 (E : m_V p m c b_Mod_withWord 9 s args R_Mod D K) (hr : meth.sig.returnType = (some .int)) (hlk : meth.locks = false) (hz : s.heap.size + 0 = B + n)  (k_6 : m_G → Nat → Int64 → Int32 → Int32 → Int32 → Int32 → Option (Int32 × m_G)) (hk_6 : ∀ (g : m_G) (a0 : Nat) (x1 : Int64) (x3 : Int32) (x4 : Int32) (x5 : Int32) (x6 : Int32) (r : Int32) (g' : m_G), k_6 g a0 x1 x3 x4 x5 x6 = some (r, g') → ∀ (H : Heap) (locs : List Loc), m_S D B K n g s.heap H locs → ∀ ls : Array Slot, lv_has ls 9 [(0, .ref (B + a0)), (1, .long x1), (3, .int x3), (4, .int x4), (5, .int x5), (6, .int x6)] → W p l e ({ frames := 2, cells := 0, slots := 0, locals := 51 } : Room) s m args below meth c H locs 0 0 (MQ below (m_Q D B K (some (.int r)) n g') args s 0 0 (fun q => B ≤ q)) (F0 m 6 ls [])) (k_29 : m_G → Nat → Int64 → Int32 → Int32 → Int32 → Int32 → Int32 → Option (Int32 × m_G)) (hk_29 : ∀ (g : m_G) (a0 : Nat) (x1 : Int64) (x3 : Int32) (x4 : Int32) (x5 : Int32) (x6 : Int32) (x7 : Int32) (r : Int32) (g' : m_G), k_29 g a0 x1 x3 x4 x5 x6 x7 = some (r, g') → ∀ (H : Heap) (locs : List Loc), m_S D B K n g s.heap H locs → ∀ ls : Array Slot, lv_has ls 9 [(0, .ref (B + a0)), (1, .long x1), (3, .int x3), (4, .int x4), (5, .int x5), (6, .int x6), (7, .int x7)] → W p l e ({ frames := 2, cells := 0, slots := 0, locals := 51 } : Room) s m args below meth c H locs 0 0 (MQ below (m_Q D B K (some (.int r)) n g') args s 0 0 (fun q => B ≤ q)) (F0 m 29 ls [])) : ∀ (g : m_G) (a0 : Nat) (x1 : Int64) (x3 : Int32) (x4 : Int32) (x5 : Int32) (x6 : Int32) (x7 : Int32) (y0 : Int32) (r : Int32) (g' : m_G), f_Mod_withWord_69 k_6 k_29 g a0 x1 x3 x4 x5 x6 x7 y0 = some (r, g') → ∀ (H : Heap) (locs : List Loc), m_S D B K n g s.heap H locs → ∀ ls : Array Slot, lv_has ls 9 [(0, .ref (B + a0)), (1, .long x1), (3, .int x3), (4, .int x4), (5, .int x5), (6, .int x6), (7, .int x7)] → W p l e ({ frames := 2, cells := 0, slots := 0, locals := 51 } : Room) s m args below meth c H locs 0 0 (MQ below (m_Q D B K (some (.int r)) n g') args s 0 0 (fun q => B ≤ q)) (F0 m 69 ls [.int y0]) := by
  have hx := E.1.1
  have hb := E.1.2.1
  have hts := E.1.2.2.2.2
  intro g a0 x1 x3 x4 x5 x6 x7 y0 r g' hF H locs S ls hl
  unfold f_Mod_withWord_69 at hF
  refine lv_istore (lv' := [(8, .int y0), (0, .ref (B + a0)), (1, .long x1), (3, .int x3), (4, .int x4), (5, .int x5), (6, .int x6), (7, .int x7)]) hx hb d_Mod_withWord_69 hl (by decide) rfl (fun ls hl => ?_)
  refine lv_iload hx hb d_Mod_withWord_71 (lv_at hl 0 rfl) ?_
  refine lv_if_eq (tgt := 130) hx hb d_Mod_withWord_73 (by decide) (fun c_1 => ?_) (fun c_1 => ?_)
  · rw [if_pos c_1] at hF
    exact c_Mod_withWord_130 E hr hlk hz k_6 hk_6 k_29 hk_29 _ _ _ _ _ _ _ _ _ _ hF _ _ S _ (lv_sub hl [1, 2, 3, 4, 5, 6, 7] rfl)
  · rw [if_neg c_1] at hF
    refine lv_iload_n hx hb d_Mod_withWord_76 rfl (lv_at hl 3 rfl) ?_
    refine lv_if_eq (tgt := 103) hx hb d_Mod_withWord_77 (by decide) (fun c_2 => ?_) (fun c_2 => ?_)
    · rw [if_pos c_2] at hF
      refine lv_aload_n hx hb d_Mod_withWord_103 rfl (lv_at hl 1 rfl) ?_
      replace hF := Option.bind_eq_some_iff.mp hF
      obtain ⟨v_3, ev_3, hF⟩ := hF
      refine m_getR (B := B) (a := a0) E S fd_Mod_codes (Or.inl qw_297) ev_3 d_Mod_withWord_104 ?_
      refine lv_bipush (v := 50) hx hb d_Mod_withWord_107 (by decide) ?_
      refine lv_iload hx hb d_Mod_withWord_109 (lv_at hl 6 rfl) ?_
      refine lv_imul hx hb d_Mod_withWord_111 ?_
      refine lv_iload hx hb d_Mod_withWord_112 (lv_at hl 7 rfl) ?_
      refine lv_iadd hx hb d_Mod_withWord_114 ?_
      replace hF := Option.bind_eq_some_iff.mp hF
      obtain ⟨a_4, ea_4, hF⟩ := hF
      subst ea_4
      replace hF := Option.bind_eq_some_iff.mp hF
      obtain ⟨v_5, ev_5, hF⟩ := hF
      refine m_lald (B := B) (a := a_4) (t := 2) E S rfl ev_5 d_Mod_withWord_115 ?_
      refine lv_lload_n hx hb d_Mod_withWord_116 rfl (lv_at hl 2 rfl) ?_
      refine W.lcmp hx hb d_Mod_withWord_117 ?_
      refine lv_if_ne (tgt := 130) hx hb d_Mod_withWord_118 (by decide) (fun c_6 => ?_) (fun c_6 => ?_)
      · rw [if_neg c_6] at hF
        exact c_Mod_withWord_130 E hr hlk hz k_6 hk_6 k_29 hk_29 _ _ _ _ _ _ _ _ _ _ hF _ _ S _ (lv_sub hl [1, 2, 3, 4, 5, 6, 7] rfl)
      · rw [if_pos c_6] at hF
        exact c_Mod_withWord_121 E hr hlk hz k_6 hk_6 k_29 hk_29 _ _ _ _ _ _ _ _ _ _ hF _ _ S _ (lv_sub hl [1, 2, 3, 4, 5, 6, 7] rfl)
    · rw [if_neg c_2] at hF
      refine lv_aload_n hx hb d_Mod_withWord_80 rfl (lv_at hl 1 rfl) ?_
      replace hF := Option.bind_eq_some_iff.mp hF
      obtain ⟨v_7, ev_7, hF⟩ := hF
      refine m_getR (B := B) (a := a0) E S fd_Mod_codes (Or.inl qw_297) ev_7 d_Mod_withWord_81 ?_
      refine lv_bipush (v := 50) hx hb d_Mod_withWord_84 (by decide) ?_
      refine lv_iload hx hb d_Mod_withWord_86 (lv_at hl 6 rfl) ?_
      refine lv_imul hx hb d_Mod_withWord_88 ?_
      refine lv_iload hx hb d_Mod_withWord_89 (lv_at hl 7 rfl) ?_
      refine lv_iadd hx hb d_Mod_withWord_91 ?_
      replace hF := Option.bind_eq_some_iff.mp hF
      obtain ⟨a_8, ea_8, hF⟩ := hF
      subst ea_8
      replace hF := Option.bind_eq_some_iff.mp hF
      obtain ⟨v_9, ev_9, hF⟩ := hF
      refine m_lald (B := B) (a := a_8) (t := 2) E S rfl ev_9 d_Mod_withWord_92 ?_
      refine lv_lload_n hx hb d_Mod_withWord_93 rfl (lv_at hl 2 rfl) ?_
      replace hF := m_bd_inv hF
      obtain ⟨v_11, g_10, eg_10, hF⟩ := hF
      refine m_callS (B := B) (nn := 2) (As := [.long v_9, .long x1]) (rest := []) (v := (some (.int v_11))) E S hz (c_Mod_begins l D B K n g v_9 x1 v_11 g_10 eg_10) qc_Mod_begins ⟨rfl, rfl⟩ (Or.inl qw_378) qw_379 qw_304 (by decide +kernel) ⟨Nat.le_of_ble_eq_true rfl, Nat.le_of_ble_eq_true rfl⟩ rfl hl.1 (Nat.le_of_ble_eq_true rfl) d_Mod_withWord_94 ⟨Nat.le_of_ble_eq_true rfl, Nat.le_of_ble_eq_true rfl⟩ (fun H locs S => ?_)
      refine W.eq (g2 := F0 m 97 ls [.int v_11]) rfl ?_
      refine lv_if_eq (tgt := 130) hx hb d_Mod_withWord_97 (by decide) (fun c_12 => ?_) (fun c_12 => ?_)
      · rw [if_pos c_12] at hF
        exact c_Mod_withWord_130 E hr hlk hz k_6 hk_6 k_29 hk_29 _ _ _ _ _ _ _ _ _ _ hF _ _ S _ (lv_sub hl [1, 2, 3, 4, 5, 6, 7] rfl)
      · rw [if_neg c_12] at hF
        refine lv_goto (tgt := 121) hx hb d_Mod_withWord_100 (by decide) ?_
        exact c_Mod_withWord_121 E hr hlk hz k_6 hk_6 k_29 hk_29 _ _ _ _ _ _ _ _ _ _ hF _ _ S _ (lv_sub hl [1, 2, 3, 4, 5, 6, 7] rfl)
def f_Mod_withWord_64  (k_6 : m_G → Nat → Int64 → Int32 → Int32 → Int32 → Int32 → Option (Int32 × m_G)) (k_29 : m_G → Nat → Int64 → Int32 → Int32 → Int32 → Int32 → Int32 → Option (Int32 × m_G)) (g : m_G) (a0 : Nat) (x1 : Int64) (x3 : Int32) (x4 : Int32) (x5 : Int32) (x6 : Int32) (x7 : Int32) : Option (Int32 × m_G) :=
  f_Mod_withWord_69 k_6 k_29 g a0 x1 x3 x4 x5 x6 x7 1
set_option maxHeartbeats 1000000 in
set_option maxRecDepth 100000 in
theorem c_Mod_withWord_64 (E : m_V p m c b_Mod_withWord 9 s args R_Mod D K) (hr : meth.sig.returnType = (some .int)) (hlk : meth.locks = false) (hz : s.heap.size + 0 = B + n)  (k_6 : m_G → Nat → Int64 → Int32 → Int32 → Int32 → Int32 → Option (Int32 × m_G)) (hk_6 : ∀ (g : m_G) (a0 : Nat) (x1 : Int64) (x3 : Int32) (x4 : Int32) (x5 : Int32) (x6 : Int32) (r : Int32) (g' : m_G), k_6 g a0 x1 x3 x4 x5 x6 = some (r, g') → ∀ (H : Heap) (locs : List Loc), m_S D B K n g s.heap H locs → ∀ ls : Array Slot, lv_has ls 9 [(0, .ref (B + a0)), (1, .long x1), (3, .int x3), (4, .int x4), (5, .int x5), (6, .int x6)] → W p l e ({ frames := 2, cells := 0, slots := 0, locals := 51 } : Room) s m args below meth c H locs 0 0 (MQ below (m_Q D B K (some (.int r)) n g') args s 0 0 (fun q => B ≤ q)) (F0 m 6 ls [])) (k_29 : m_G → Nat → Int64 → Int32 → Int32 → Int32 → Int32 → Int32 → Option (Int32 × m_G)) (hk_29 : ∀ (g : m_G) (a0 : Nat) (x1 : Int64) (x3 : Int32) (x4 : Int32) (x5 : Int32) (x6 : Int32) (x7 : Int32) (r : Int32) (g' : m_G), k_29 g a0 x1 x3 x4 x5 x6 x7 = some (r, g') → ∀ (H : Heap) (locs : List Loc), m_S D B K n g s.heap H locs → ∀ ls : Array Slot, lv_has ls 9 [(0, .ref (B + a0)), (1, .long x1), (3, .int x3), (4, .int x4), (5, .int x5), (6, .int x6), (7, .int x7)] → W p l e ({ frames := 2, cells := 0, slots := 0, locals := 51 } : Room) s m args below meth c H locs 0 0 (MQ below (m_Q D B K (some (.int r)) n g') args s 0 0 (fun q => B ≤ q)) (F0 m 29 ls [])) : ∀ (g : m_G) (a0 : Nat) (x1 : Int64) (x3 : Int32) (x4 : Int32) (x5 : Int32) (x6 : Int32) (x7 : Int32) (r : Int32) (g' : m_G), f_Mod_withWord_64 k_6 k_29 g a0 x1 x3 x4 x5 x6 x7 = some (r, g') → ∀ (H : Heap) (locs : List Loc), m_S D B K n g s.heap H locs → ∀ ls : Array Slot, lv_has ls 9 [(0, .ref (B + a0)), (1, .long x1), (3, .int x3), (4, .int x4), (5, .int x5), (6, .int x6), (7, .int x7)] → W p l e ({ frames := 2, cells := 0, slots := 0, locals := 51 } : Room) s m args below meth c H locs 0 0 (MQ below (m_Q D B K (some (.int r)) n g') args s 0 0 (fun q => B ≤ q)) (F0 m 64 ls []) := by
  have hx := E.1.1
  have hb := E.1.2.1
  have hts := E.1.2.2.2.2
  intro g a0 x1 x3 x4 x5 x6 x7 r g' hF H locs S ls hl
  unfold f_Mod_withWord_64 at hF
  refine lv_iconst (v := 1) hx hb d_Mod_withWord_64 (by decide) ?_
  refine lv_goto (tgt := 69) hx hb d_Mod_withWord_65 (by decide) ?_
  exact c_Mod_withWord_69 E hr hlk hz k_6 hk_6 k_29 hk_29 _ _ _ _ _ _ _ _ _ _ _ hF _ _ S _ (lv_sub hl [0, 1, 2, 3, 4, 5, 6] rfl)
def f_Mod_withWord_29  (k_6 : m_G → Nat → Int64 → Int32 → Int32 → Int32 → Int32 → Option (Int32 × m_G)) : Nat → m_G → Nat → Int64 → Int32 → Int32 → Int32 → Int32 → Int32 → Option (Int32 × m_G)
  | 0, _, _, _, _, _, _, _, _ => none
  | fu + 1, g, a0, x1, x3, x4, x5, x6, x7 =>
    (m_gR g a0 8 15).bind fun v_1 =>
    Option.bind v_1 fun a_2 =>
    (m_ld g a_2 0 x6).bind fun v_3 =>
    if (v_3 : Int32) ≤ x7 then
      f_Mod_withWord_136 k_6 g a0 x1 x3 x4 x5 x6
    else
      if (x4 : Int32) < 0 then
        f_Mod_withWord_64 k_6 (f_Mod_withWord_29 k_6 fu) g a0 x1 x3 x4 x5 x6 x7
      else
        (m_gR g a0 8 17).bind fun v_6 =>
        Option.bind v_6 fun a_7 =>
        (m_ld g a_7 0 ((50 * x6) + x7)).bind fun v_8 =>
        if (v_8 : Int32) = x4 then
          f_Mod_withWord_64 k_6 (f_Mod_withWord_29 k_6 fu) g a0 x1 x3 x4 x5 x6 x7
        else
          f_Mod_withWord_69 k_6 (f_Mod_withWord_29 k_6 fu) g a0 x1 x3 x4 x5 x6 x7 0
set_option maxHeartbeats 1000000 in
set_option maxRecDepth 100000 in
theorem c_Mod_withWord_29 (E : m_V p m c b_Mod_withWord 9 s args R_Mod D K) (hr : meth.sig.returnType = (some .int)) (hlk : meth.locks = false) (hz : s.heap.size + 0 = B + n)  (k_6 : m_G → Nat → Int64 → Int32 → Int32 → Int32 → Int32 → Option (Int32 × m_G)) (hk_6 : ∀ (g : m_G) (a0 : Nat) (x1 : Int64) (x3 : Int32) (x4 : Int32) (x5 : Int32) (x6 : Int32) (r : Int32) (g' : m_G), k_6 g a0 x1 x3 x4 x5 x6 = some (r, g') → ∀ (H : Heap) (locs : List Loc), m_S D B K n g s.heap H locs → ∀ ls : Array Slot, lv_has ls 9 [(0, .ref (B + a0)), (1, .long x1), (3, .int x3), (4, .int x4), (5, .int x5), (6, .int x6)] → W p l e ({ frames := 2, cells := 0, slots := 0, locals := 51 } : Room) s m args below meth c H locs 0 0 (MQ below (m_Q D B K (some (.int r)) n g') args s 0 0 (fun q => B ≤ q)) (F0 m 6 ls [])) : ∀ fu : Nat, ∀ (g : m_G) (a0 : Nat) (x1 : Int64) (x3 : Int32) (x4 : Int32) (x5 : Int32) (x6 : Int32) (x7 : Int32) (r : Int32) (g' : m_G), f_Mod_withWord_29 k_6 fu g a0 x1 x3 x4 x5 x6 x7 = some (r, g') → ∀ (H : Heap) (locs : List Loc), m_S D B K n g s.heap H locs → ∀ ls : Array Slot, lv_has ls 9 [(0, .ref (B + a0)), (1, .long x1), (3, .int x3), (4, .int x4), (5, .int x5), (6, .int x6), (7, .int x7)] → W p l e ({ frames := 2, cells := 0, slots := 0, locals := 51 } : Room) s m args below meth c H locs 0 0 (MQ below (m_Q D B K (some (.int r)) n g') args s 0 0 (fun q => B ≤ q)) (F0 m 29 ls []) := by
  have hx := E.1.1
  have hb := E.1.2.1
  have hts := E.1.2.2.2.2
  intro fu
  induction fu with
  | zero => intro g a0 x1 x3 x4 x5 x6 x7 r g' hF; cases hF
  | succ fu ih =>
    intro g a0 x1 x3 x4 x5 x6 x7 r g' hF H locs S ls hl
    rw [f_Mod_withWord_29] at hF
    refine lv_iload hx hb d_Mod_withWord_29 (lv_at hl 6 rfl) ?_
    refine lv_aload_n hx hb d_Mod_withWord_31 rfl (lv_at hl 0 rfl) ?_
    replace hF := Option.bind_eq_some_iff.mp hF
    obtain ⟨v_1, ev_1, hF⟩ := hF
    refine m_getR (B := B) (a := a0) E S fd_Mod_words (Or.inl qw_296) ev_1 d_Mod_withWord_32 ?_
    refine lv_iload hx hb d_Mod_withWord_35 (lv_at hl 5 rfl) ?_
    replace hF := Option.bind_eq_some_iff.mp hF
    obtain ⟨a_2, ea_2, hF⟩ := hF
    subst ea_2
    replace hF := Option.bind_eq_some_iff.mp hF
    obtain ⟨v_3, ev_3, hF⟩ := hF
    refine m_iald (B := B) (a := a_2) (t := 0) E S rfl ev_3 d_Mod_withWord_37 ?_
    refine lv_icmp_ge (tgt := 136) hx hb d_Mod_withWord_38 (by decide) (fun c_4 => ?_) (fun c_4 => ?_)
    · rw [if_pos c_4] at hF
      exact c_Mod_withWord_136 E hr hlk hz k_6 hk_6 _ _ _ _ _ _ _ _ _ hF _ _ S _ (lv_sub hl [0, 1, 2, 3, 4, 5] rfl)
    · rw [if_neg c_4] at hF
      refine lv_iload hx hb d_Mod_withWord_41 (lv_at hl 3 rfl) ?_
      refine lv_if_lt (tgt := 64) hx hb d_Mod_withWord_43 (by decide) (fun c_5 => ?_) (fun c_5 => ?_)
      · rw [if_pos c_5] at hF
        exact c_Mod_withWord_64 E hr hlk hz k_6 hk_6 (f_Mod_withWord_29 k_6 fu) ih _ _ _ _ _ _ _ _ _ _ hF _ _ S _ (lv_sub hl [0, 1, 2, 3, 4, 5, 6] rfl)
      · rw [if_neg c_5] at hF
        refine lv_aload_n hx hb d_Mod_withWord_46 rfl (lv_at hl 0 rfl) ?_
        replace hF := Option.bind_eq_some_iff.mp hF
        obtain ⟨v_6, ev_6, hF⟩ := hF
        refine m_getR (B := B) (a := a0) E S fd_Mod_fields (Or.inl qw_298) ev_6 d_Mod_withWord_47 ?_
        refine lv_bipush (v := 50) hx hb d_Mod_withWord_50 (by decide) ?_
        refine lv_iload hx hb d_Mod_withWord_52 (lv_at hl 5 rfl) ?_
        refine lv_imul hx hb d_Mod_withWord_54 ?_
        refine lv_iload hx hb d_Mod_withWord_55 (lv_at hl 6 rfl) ?_
        refine lv_iadd hx hb d_Mod_withWord_57 ?_
        replace hF := Option.bind_eq_some_iff.mp hF
        obtain ⟨a_7, ea_7, hF⟩ := hF
        subst ea_7
        replace hF := Option.bind_eq_some_iff.mp hF
        obtain ⟨v_8, ev_8, hF⟩ := hF
        refine m_iald (B := B) (a := a_7) (t := 0) E S rfl ev_8 d_Mod_withWord_58 ?_
        refine lv_iload hx hb d_Mod_withWord_59 (lv_at hl 3 rfl) ?_
        refine lv_icmp_ne (tgt := 68) hx hb d_Mod_withWord_61 (by decide) (fun c_9 => ?_) (fun c_9 => ?_)
        · rw [if_neg c_9] at hF
          refine lv_iconst (v := 0) hx hb d_Mod_withWord_68 (by decide) ?_
          exact c_Mod_withWord_69 E hr hlk hz k_6 hk_6 (f_Mod_withWord_29 k_6 fu) ih _ _ _ _ _ _ _ _ _ _ _ hF _ _ S _ (lv_sub hl [0, 1, 2, 3, 4, 5, 6] rfl)
        · rw [if_pos c_9] at hF
          exact c_Mod_withWord_64 E hr hlk hz k_6 hk_6 (f_Mod_withWord_29 k_6 fu) ih _ _ _ _ _ _ _ _ _ _ hF _ _ S _ (lv_sub hl [0, 1, 2, 3, 4, 5, 6] rfl)
def f_Mod_withWord_6   : Nat → m_G → Nat → Int64 → Int32 → Int32 → Int32 → Int32 → Option (Int32 × m_G)
  | 0, _, _, _, _, _, _, _ => none
  | fu + 1, g, a0, x1, x3, x4, x5, x6 =>
    if (12 : Int32) ≤ x6 then
      some (x5, g)
    else
      (m_gR g a0 8 7).bind fun v_2 =>
      Option.bind v_2 fun a_3 =>
      (m_ld g a_3 3 x6).bind fun v_4 =>
      if (v_4 : Int32) = 0 then
        f_Mod_withWord_136 (f_Mod_withWord_6 fu) g a0 x1 x3 x4 x5 x6
      else
        f_Mod_withWord_29 (f_Mod_withWord_6 fu) m_fu g a0 x1 x3 x4 x5 x6 0
set_option maxHeartbeats 1000000 in
set_option maxRecDepth 100000 in
theorem c_Mod_withWord_6 (E : m_V p m c b_Mod_withWord 9 s args R_Mod D K) (hr : meth.sig.returnType = (some .int)) (hlk : meth.locks = false) (hz : s.heap.size + 0 = B + n)   : ∀ fu : Nat, ∀ (g : m_G) (a0 : Nat) (x1 : Int64) (x3 : Int32) (x4 : Int32) (x5 : Int32) (x6 : Int32) (r : Int32) (g' : m_G), f_Mod_withWord_6  fu g a0 x1 x3 x4 x5 x6 = some (r, g') → ∀ (H : Heap) (locs : List Loc), m_S D B K n g s.heap H locs → ∀ ls : Array Slot, lv_has ls 9 [(0, .ref (B + a0)), (1, .long x1), (3, .int x3), (4, .int x4), (5, .int x5), (6, .int x6)] → W p l e ({ frames := 2, cells := 0, slots := 0, locals := 51 } : Room) s m args below meth c H locs 0 0 (MQ below (m_Q D B K (some (.int r)) n g') args s 0 0 (fun q => B ≤ q)) (F0 m 6 ls []) := by
  have hx := E.1.1
  have hb := E.1.2.1
  have hts := E.1.2.2.2.2
  intro fu
  induction fu with
  | zero => intro g a0 x1 x3 x4 x5 x6 r g' hF; cases hF
  | succ fu ih =>
    intro g a0 x1 x3 x4 x5 x6 r g' hF H locs S ls hl
    rw [f_Mod_withWord_6] at hF
    refine lv_iload hx hb d_Mod_withWord_6 (lv_at hl 5 rfl) ?_
    refine lv_bipush (v := 12) hx hb d_Mod_withWord_8 (by decide) ?_
    refine lv_icmp_ge (tgt := 142) hx hb d_Mod_withWord_10 (by decide) (fun c_1 => ?_) (fun c_1 => ?_)
    · rw [if_pos c_1] at hF
      refine lv_iload hx hb d_Mod_withWord_142 (lv_at hl 4 rfl) ?_
      cases hF
      exact m_iret E S hz hr hlk d_Mod_withWord_144
    · rw [if_neg c_1] at hF
      refine lv_aload_n hx hb d_Mod_withWord_13 rfl (lv_at hl 0 rfl) ?_
      replace hF := Option.bind_eq_some_iff.mp hF
      obtain ⟨v_2, ev_2, hF⟩ := hF
      refine m_getR (B := B) (a := a0) E S fd_Mod_there (Or.inl qw_289) ev_2 d_Mod_withWord_14 ?_
      refine lv_iload hx hb d_Mod_withWord_17 (lv_at hl 5 rfl) ?_
      replace hF := Option.bind_eq_some_iff.mp hF
      obtain ⟨a_3, ea_3, hF⟩ := hF
      subst ea_3
      replace hF := Option.bind_eq_some_iff.mp hF
      obtain ⟨v_4, ev_4, hF⟩ := hF
      refine m_zald (B := B) (a := a_3) (t := 3) E S rfl ev_4 d_Mod_withWord_19 ?_
      refine lv_if_ne (tgt := 26) hx hb d_Mod_withWord_20 (by decide) (fun c_5 => ?_) (fun c_5 => ?_)
      · rw [if_neg c_5] at hF
        refine lv_iconst (v := 0) hx hb d_Mod_withWord_26 (by decide) ?_
        refine lv_istore (lv' := [(7, .int 0), (0, .ref (B + a0)), (1, .long x1), (3, .int x3), (4, .int x4), (5, .int x5), (6, .int x6)]) hx hb d_Mod_withWord_27 hl (by decide) rfl (fun ls hl => ?_)
        exact c_Mod_withWord_29 E hr hlk hz (f_Mod_withWord_6 fu) ih m_fu _ _ _ _ _ _ _ _ _ _ hF _ _ S _ (lv_sub hl [1, 2, 3, 4, 5, 6, 0] rfl)
      · rw [if_pos c_5] at hF
        refine lv_goto (tgt := 136) hx hb d_Mod_withWord_23 (by decide) ?_
        exact c_Mod_withWord_136 E hr hlk hz (f_Mod_withWord_6 fu) ih _ _ _ _ _ _ _ _ _ hF _ _ S _ (lv_sub hl [0, 1, 2, 3, 4, 5] rfl)
end S_Mod_withWord
def f_Mod_withWord  (g : m_G) (a0 : Nat) (x1 : Int64) (x3 : Int32) (x4 : Int32) : Option (Int32 × m_G) :=
  f_Mod_withWord_6 m_fu g a0 x1 x3 x4 0 0
set_option maxHeartbeats 1000000 in
set_option maxRecDepth 100000 in
theorem c_Mod_withWord (l : Launch) (D : va_G) (B : Nat) (K : Nat → ClassId)  (n : Nat) (g : m_G) (a0 : Nat) (x1 : Int64) (x3 : Int32) (x4 : Int32) (r : Int32) (g' : m_G) (hF : f_Mod_withWord g a0 x1 x3 x4 = some (r, g')) : Met l y_Mod_withWord (Cond.code y_Mod_withWord b_Mod_withWord 9 (some .int) :: m_TB) ({ frames := 2, cells := 0, slots := 0, locals := 51 } : Room) (m_Pc D B K n g [.ref (B + a0), .long x1, .int x3, .int x4]) (m_Q D B K (some (.int r)) n g') 0 0 (fun q => B ≤ q) := by
  refine m_met (by decide) (Nat.le_of_ble_eq_true rfl) ?_
  intro p e s m args below meth c ls E hr hlk hin hsz S hl
  have E : m_V p m c b_Mod_withWord 9 s args R_Mod D K := E
  have hz : s.heap.size + 0 = B + n := hsz
  have hl : lv_has ls 9 [(0, .ref (B + a0)), (1, .long x1), (3, .int x3), (4, .int x4)] := hl
  have hx := E.1.1
  have hb := E.1.2.1
  have hts := E.1.2.2.2.2
  unfold f_Mod_withWord at hF
  refine lv_iconst (v := 0) hx hb d_Mod_withWord_0 (by decide) ?_
  refine lv_istore (lv' := [(5, .int 0), (0, .ref (B + a0)), (1, .long x1), (3, .int x3), (4, .int x4)]) hx hb d_Mod_withWord_1 hl (by decide) rfl (fun ls hl => ?_)
  refine lv_iconst (v := 0) hx hb d_Mod_withWord_3 (by decide) ?_
  refine lv_istore (lv' := [(6, .int 0), (5, .int 0), (0, .ref (B + a0)), (1, .long x1), (3, .int x3), (4, .int x4)]) hx hb d_Mod_withWord_4 hl (by decide) rfl (fun ls hl => ?_)
  exact c_Mod_withWord_6 E hr hlk hz m_fu _ _ _ _ _ _ _ _ _ hF _ _ S _ (lv_sub hl [2, 3, 4, 5, 1, 0] rfl)
