def f_Reader_readDraft  (g : m_G) (a0 : Nat) (r1 : Option Nat) (r2 : Option Nat) : Option (Unit × m_G) :=
  Option.bind r1 fun a_1 =>
  m_gd (m_is g a_1 2) <|
  m_bd (f_Draft_id g a_1) fun v_3 g_2 =>
  Option.bind r2 fun a_4 =>
  m_gd (m_is g_2 a_4 4) <|
  m_bd (f_Message_begin g_2 a_4 v_3) fun v_6 g_5 =>
  (m_gI g_5 a_1 2 1).bind fun v_7 =>
  m_gd (m_is g_5 a_1 2) <|
  m_bd (f_Draft_header g_5 a_1 0 v_7 114) fun v_9 g_8 =>
  m_gd (m_is g_8 a_4 4) <|
  m_bd (f_Message_setReferences g_8 a_4 v_9) fun v_11 g_10 =>
  (m_gI g_10 a_1 2 1).bind fun v_12 =>
  m_gd (m_is g_10 a_1 2) <|
  m_bd (f_Draft_header g_10 a_1 0 v_12 115) fun v_14 g_13 =>
  m_gd (m_is g_13 a0 5) <|
  m_bd (f_Reader_readHeader g_13 a0 v_14 (some a_4) 0) fun v_16 g_15 =>
  (m_gI g_15 a_1 2 1).bind fun v_17 =>
  m_gd (m_is g_15 a_1 2) <|
  m_bd (f_Draft_header g_15 a_1 0 v_17 102) fun v_19 g_18 =>
  m_gd (m_is g_18 a0 5) <|
  m_bd (f_Reader_readHeader g_18 a0 v_19 (some a_4) 1) fun v_21 g_20 =>
  (m_gI g_20 a_1 2 1).bind fun v_22 =>
  m_gd (m_is g_20 a0 5) <|
  m_bd (f_Reader_readPart 8 g_20 a0 (some a_1) 0 v_22 1 (some a_4)) fun v_24 g_23 =>
  some ((), g_23)
set_option maxHeartbeats 1000000 in
set_option maxRecDepth 100000 in
theorem c_Reader_readDraft (l : Launch) (D : va_G) (B : Nat) (K : Nat → ClassId)  (n : Nat) (g : m_G) (a0 : Nat) (r1 : Option Nat) (r2 : Option Nat) (r : Unit) (g' : m_G) (hF : f_Reader_readDraft g a0 r1 r2 = some (r, g')) : Met l y_Reader_readDraft (Cond.code y_Reader_readDraft b_Reader_readDraft 3 none :: m_TB) ({ frames := 37, cells := 0, slots := 0, locals := 967 } : Room) (m_Pc D B K n g [.ref (B + a0), m_r B r1, m_r B r2]) (m_Q D B K none n g') 0 0 (fun q => B ≤ q) := by
  refine m_met (by decide) (by simp only [lg_sl, List.flatMap_cons, List.flatMap_nil, m_r_cat]; exact Nat.le_of_ble_eq_true rfl) ?_
  intro p e s m args below meth c ls E hr hlk hin hsz S hl
  have E : m_V p m c b_Reader_readDraft 3 s args R_Reader D K := E
  have hz : s.heap.size + 0 = B + n := hsz
  have hl : lv_has ls 3 [(0, .ref (B + a0)), (1, m_r B r1), (2, m_r B r2)] := by simp only [lv_args, m_r_cat] at hl; exact hl
  have hx := E.1.1
  have hb := E.1.2.1
  have hts := E.1.2.2.2.2
  unfold f_Reader_readDraft at hF
  refine m_aload_n (B := B) (r := r2) E d_Reader_readDraft_0 rfl (lv_at hl 2 rfl) ?_
  refine m_aload_n (B := B) (r := r1) E d_Reader_readDraft_1 rfl (lv_at hl 1 rfl) ?_
  replace hF := Option.bind_eq_some_iff.mp hF
  obtain ⟨a_1, ea_1, hF⟩ := hF
  subst ea_1
  replace hF := m_gd_inv hF
  obtain ⟨eog_2, hF⟩ := hF
  replace hF := m_bd_inv hF
  obtain ⟨v_3, g_2, eg_2, hF⟩ := hF
  refine m_callV (B := B) (nn := 0) (b := a_1) (As := []) (rest := [m_r B r2]) (v := (some (.int v_3))) E S hz (c_Draft_id l D B K n g a_1 v_3 g_2 eg_2) qc_Draft_id ⟨rfl, rfl⟩ (Or.inr ⟨_, qn_50⟩) qw_112 qw_113 qw_57 (by decide +kernel) ⟨Nat.le_of_ble_eq_true rfl, Nat.le_of_ble_eq_true rfl⟩ eog_2 rfl rfl hl.1 (by simp only [List.map_cons, List.map_nil, m_r_cat]; exact Nat.le_of_ble_eq_true rfl) d_Reader_readDraft_2 ⟨Nat.le_of_ble_eq_true rfl, Nat.le_of_ble_eq_true rfl⟩ (fun H locs S => ?_)
  refine W.eq (g2 := F0 m 5 ls [.int v_3, m_r B r2]) rfl ?_
  replace hF := Option.bind_eq_some_iff.mp hF
  obtain ⟨a_4, ea_4, hF⟩ := hF
  subst ea_4
  replace hF := m_gd_inv hF
  obtain ⟨eog_5, hF⟩ := hF
  replace hF := m_bd_inv hF
  obtain ⟨v_6, g_5, eg_5, hF⟩ := hF
  refine m_callV (B := B) (nn := 1) (b := a_4) (As := [.int v_3]) (rest := []) (v := none) E S hz (c_Message_begin l D B K n g_2 a_4 v_3 v_6 g_5 eg_5) qc_Message_begin ⟨rfl, rfl⟩ (Or.inr ⟨_, qn_51⟩) qw_168 qw_169 qw_77 (by decide +kernel) ⟨Nat.le_of_ble_eq_true rfl, Nat.le_of_ble_eq_true rfl⟩ eog_5 rfl rfl hl.1 (Nat.le_of_ble_eq_true rfl) d_Reader_readDraft_5 ⟨Nat.le_of_ble_eq_true rfl, Nat.le_of_ble_eq_true rfl⟩ (fun H locs S => ?_)
  refine W.eq (g2 := F0 m 8 ls []) rfl ?_
  refine m_aload_n (B := B) (r := (some a_4)) E d_Reader_readDraft_8 rfl (lv_at hl 2 rfl) ?_
  refine m_aload_n (B := B) (r := (some a_1)) E d_Reader_readDraft_9 rfl (lv_at hl 1 rfl) ?_
  refine lv_iconst (v := 0) hx hb d_Reader_readDraft_10 (by decide) ?_
  refine m_aload_n (B := B) (r := (some a_1)) E d_Reader_readDraft_11 rfl (lv_at hl 1 rfl) ?_
  replace hF := Option.bind_eq_some_iff.mp hF
  obtain ⟨v_7, ev_7, hF⟩ := hF
  refine m_getI (B := B) (a := a_1) E S fd_Draft_size (Or.inr ⟨_, qn_52⟩) ev_7 d_Reader_readDraft_12 ?_
  refine lv_bipush (v := 114) hx hb d_Reader_readDraft_15 (by decide) ?_
  replace hF := m_gd_inv hF
  obtain ⟨eog_8, hF⟩ := hF
  replace hF := m_bd_inv hF
  obtain ⟨v_9, g_8, eg_8, hF⟩ := hF
  refine m_callV (B := B) (nn := 3) (b := a_1) (As := [.int 0, .int v_7, .int 114]) (rest := [m_r B (some a_4)]) (v := (some (m_r B v_9))) E S hz (c_Draft_header l D B K n g_5 a_1 0 v_7 114 v_9 g_8 eg_8) qc_Draft_header ⟨rfl, rfl⟩ (Or.inr ⟨_, qn_48⟩) qw_108 qw_109 qw_57 (by decide +kernel) ⟨Nat.le_of_ble_eq_true rfl, Nat.le_of_ble_eq_true rfl⟩ eog_8 rfl rfl hl.1 (by simp only [List.map_cons, List.map_nil, m_r_cat]; exact Nat.le_of_ble_eq_true rfl) d_Reader_readDraft_17 ⟨Nat.le_of_ble_eq_true rfl, Nat.le_of_ble_eq_true rfl⟩ (fun H locs S => ?_)
  refine W.eq (g2 := F0 m 20 ls [m_r B v_9, m_r B (some a_4)]) rfl ?_
  replace hF := m_gd_inv hF
  obtain ⟨eog_10, hF⟩ := hF
  replace hF := m_bd_inv hF
  obtain ⟨v_11, g_10, eg_10, hF⟩ := hF
  refine m_callV (B := B) (nn := 1) (b := a_4) (As := [m_r B v_9]) (rest := []) (v := none) E S hz (c_Message_setReferences l D B K n g_8 a_4 v_9 v_11 g_10 eg_10) qc_Message_setReferences ⟨rfl, rfl⟩ (Or.inr ⟨_, qn_53⟩) qw_170 qw_171 qw_77 (by decide +kernel) ⟨Nat.le_of_ble_eq_true rfl, Nat.le_of_ble_eq_true rfl⟩ eog_10 rfl rfl hl.1 (Nat.le_of_ble_eq_true rfl) d_Reader_readDraft_20 ⟨Nat.le_of_ble_eq_true rfl, Nat.le_of_ble_eq_true rfl⟩ (fun H locs S => ?_)
  refine W.eq (g2 := F0 m 23 ls []) rfl ?_
  refine lv_aload_n hx hb d_Reader_readDraft_23 rfl (lv_at hl 0 rfl) ?_
  refine m_aload_n (B := B) (r := (some a_1)) E d_Reader_readDraft_24 rfl (lv_at hl 1 rfl) ?_
  refine lv_iconst (v := 0) hx hb d_Reader_readDraft_25 (by decide) ?_
  refine m_aload_n (B := B) (r := (some a_1)) E d_Reader_readDraft_26 rfl (lv_at hl 1 rfl) ?_
  replace hF := Option.bind_eq_some_iff.mp hF
  obtain ⟨v_12, ev_12, hF⟩ := hF
  refine m_getI (B := B) (a := a_1) E S fd_Draft_size (Or.inr ⟨_, qn_52⟩) ev_12 d_Reader_readDraft_27 ?_
  refine lv_bipush (v := 115) hx hb d_Reader_readDraft_30 (by decide) ?_
  replace hF := m_gd_inv hF
  obtain ⟨eog_13, hF⟩ := hF
  replace hF := m_bd_inv hF
  obtain ⟨v_14, g_13, eg_13, hF⟩ := hF
  refine m_callV (B := B) (nn := 3) (b := a_1) (As := [.int 0, .int v_12, .int 115]) (rest := [.ref (B + a0)]) (v := (some (m_r B v_14))) E S hz (c_Draft_header l D B K n g_10 a_1 0 v_12 115 v_14 g_13 eg_13) qc_Draft_header ⟨rfl, rfl⟩ (Or.inr ⟨_, qn_48⟩) qw_108 qw_109 qw_57 (by decide +kernel) ⟨Nat.le_of_ble_eq_true rfl, Nat.le_of_ble_eq_true rfl⟩ eog_13 rfl rfl hl.1 (Nat.le_of_ble_eq_true rfl) d_Reader_readDraft_32 ⟨Nat.le_of_ble_eq_true rfl, Nat.le_of_ble_eq_true rfl⟩ (fun H locs S => ?_)
  refine W.eq (g2 := F0 m 35 ls [m_r B v_14, .ref (B + a0)]) rfl ?_
  refine m_aload_n (B := B) (r := (some a_4)) E d_Reader_readDraft_35 rfl (lv_at hl 2 rfl) ?_
  refine lv_iconst (v := 0) hx hb d_Reader_readDraft_36 (by decide) ?_
  replace hF := m_gd_inv hF
  obtain ⟨eog_15, hF⟩ := hF
  replace hF := m_bd_inv hF
  obtain ⟨v_16, g_15, eg_15, hF⟩ := hF
  refine m_callV (B := B) (nn := 3) (b := a0) (As := [m_r B v_14, m_r B (some a_4), .int 0]) (rest := []) (v := none) E S hz (c_Reader_readHeader l D B K n g_13 a0 v_14 (some a_4) 0 v_16 g_15 eg_15) qc_Reader_readHeader ⟨rfl, rfl⟩ (Or.inl qw_172) qw_173 qw_174 qw_62 (by decide +kernel) ⟨Nat.le_of_ble_eq_true rfl, Nat.le_of_ble_eq_true rfl⟩ eog_15 rfl rfl hl.1 (Nat.le_of_ble_eq_true rfl) d_Reader_readDraft_37 ⟨Nat.le_of_ble_eq_true rfl, Nat.le_of_ble_eq_true rfl⟩ (fun H locs S => ?_)
  refine W.eq (g2 := F0 m 40 ls []) rfl ?_
  refine lv_aload_n hx hb d_Reader_readDraft_40 rfl (lv_at hl 0 rfl) ?_
  refine m_aload_n (B := B) (r := (some a_1)) E d_Reader_readDraft_41 rfl (lv_at hl 1 rfl) ?_
  refine lv_iconst (v := 0) hx hb d_Reader_readDraft_42 (by decide) ?_
  refine m_aload_n (B := B) (r := (some a_1)) E d_Reader_readDraft_43 rfl (lv_at hl 1 rfl) ?_
  replace hF := Option.bind_eq_some_iff.mp hF
  obtain ⟨v_17, ev_17, hF⟩ := hF
  refine m_getI (B := B) (a := a_1) E S fd_Draft_size (Or.inr ⟨_, qn_52⟩) ev_17 d_Reader_readDraft_44 ?_
  refine lv_bipush (v := 102) hx hb d_Reader_readDraft_47 (by decide) ?_
  replace hF := m_gd_inv hF
  obtain ⟨eog_18, hF⟩ := hF
  replace hF := m_bd_inv hF
  obtain ⟨v_19, g_18, eg_18, hF⟩ := hF
  refine m_callV (B := B) (nn := 3) (b := a_1) (As := [.int 0, .int v_17, .int 102]) (rest := [.ref (B + a0)]) (v := (some (m_r B v_19))) E S hz (c_Draft_header l D B K n g_15 a_1 0 v_17 102 v_19 g_18 eg_18) qc_Draft_header ⟨rfl, rfl⟩ (Or.inr ⟨_, qn_48⟩) qw_108 qw_109 qw_57 (by decide +kernel) ⟨Nat.le_of_ble_eq_true rfl, Nat.le_of_ble_eq_true rfl⟩ eog_18 rfl rfl hl.1 (Nat.le_of_ble_eq_true rfl) d_Reader_readDraft_49 ⟨Nat.le_of_ble_eq_true rfl, Nat.le_of_ble_eq_true rfl⟩ (fun H locs S => ?_)
  refine W.eq (g2 := F0 m 52 ls [m_r B v_19, .ref (B + a0)]) rfl ?_
  refine m_aload_n (B := B) (r := (some a_4)) E d_Reader_readDraft_52 rfl (lv_at hl 2 rfl) ?_
  refine lv_iconst (v := 1) hx hb d_Reader_readDraft_53 (by decide) ?_
  replace hF := m_gd_inv hF
  obtain ⟨eog_20, hF⟩ := hF
  replace hF := m_bd_inv hF
  obtain ⟨v_21, g_20, eg_20, hF⟩ := hF
  refine m_callV (B := B) (nn := 3) (b := a0) (As := [m_r B v_19, m_r B (some a_4), .int 1]) (rest := []) (v := none) E S hz (c_Reader_readHeader l D B K n g_18 a0 v_19 (some a_4) 1 v_21 g_20 eg_20) qc_Reader_readHeader ⟨rfl, rfl⟩ (Or.inl qw_172) qw_173 qw_174 qw_62 (by decide +kernel) ⟨Nat.le_of_ble_eq_true rfl, Nat.le_of_ble_eq_true rfl⟩ eog_20 rfl rfl hl.1 (Nat.le_of_ble_eq_true rfl) d_Reader_readDraft_54 ⟨Nat.le_of_ble_eq_true rfl, Nat.le_of_ble_eq_true rfl⟩ (fun H locs S => ?_)
  refine W.eq (g2 := F0 m 57 ls []) rfl ?_
  refine lv_aload_n hx hb d_Reader_readDraft_57 rfl (lv_at hl 0 rfl) ?_
  refine m_aload_n (B := B) (r := (some a_1)) E d_Reader_readDraft_58 rfl (lv_at hl 1 rfl) ?_
  refine lv_iconst (v := 0) hx hb d_Reader_readDraft_59 (by decide) ?_
  refine m_aload_n (B := B) (r := (some a_1)) E d_Reader_readDraft_60 rfl (lv_at hl 1 rfl) ?_
  replace hF := Option.bind_eq_some_iff.mp hF
  obtain ⟨v_22, ev_22, hF⟩ := hF
  refine m_getI (B := B) (a := a_1) E S fd_Draft_size (Or.inr ⟨_, qn_52⟩) ev_22 d_Reader_readDraft_61 ?_
  refine lv_iconst (v := 1) hx hb d_Reader_readDraft_64 (by decide) ?_
  refine m_aload_n (B := B) (r := (some a_4)) E d_Reader_readDraft_65 rfl (lv_at hl 2 rfl) ?_
  replace hF := m_gd_inv hF
  obtain ⟨eog_23, hF⟩ := hF
  replace hF := m_bd_inv hF
  obtain ⟨v_24, g_23, eg_23, hF⟩ := hF
  refine m_callV (B := B) (nn := 5) (b := a0) (As := [m_r B (some a_1), .int 0, .int v_22, .int 1, m_r B (some a_4)]) (rest := []) (v := none) E S hz (c_Reader_readPart 8 l D B K n g_20 a0 (some a_1) 0 v_22 1 (some a_4) v_24 g_23 eg_23) qc_Reader_readPart ⟨rfl, rfl⟩ (Or.inl qw_155) qw_156 qw_157 qw_62 (by decide +kernel) ⟨Nat.le_of_ble_eq_true rfl, Nat.le_of_ble_eq_true rfl⟩ eog_23 rfl rfl hl.1 (Nat.le_of_ble_eq_true rfl) d_Reader_readDraft_66 ⟨Nat.le_of_ble_eq_true rfl, Nat.le_of_ble_eq_true rfl⟩ (fun H locs S => ?_)
  refine W.eq (g2 := F0 m 69 ls []) rfl ?_
  cases hF
  skip
  exact m_vret E S hz hr hlk d_Reader_readDraft_69
section S_Arc_add
variable {p : Program} {l : Launch} {e : Env} {s : State} {m : MethodId} {args : Array Value} {below : List Frame} {meth : Method} {c : Code} {D : va_G} {B n : Nat} {K : Nat → ClassId}
def f_Arc_add_50   (g : m_G) (a0 : Nat) (x1 : Int32) : Option (Int32 × m_G) :=
  (m_gR g a0 0 1).bind fun v_1 =>
  Option.bind v_1 fun a_2 =>
  m_gd (m_is g a_2 2) <|
  m_bd (f_Draft_clear g a_2) fun v_4 g_3 =>
  some (x1, g_3)
set_option maxHeartbeats 1000000 in
set_option maxRecDepth 100000 in
theorem c_Arc_add_50 (E : m_V p m c b_Arc_add 2 s args R_Arc D K) (hr : meth.sig.returnType = (some .int)) (hlk : meth.locks = false) (hz : s.heap.size + 0 = B + n)   : ∀ (g : m_G) (a0 : Nat) (x1 : Int32) (r : Int32) (g' : m_G), f_Arc_add_50 g a0 x1 = some (r, g') → ∀ (H : Heap) (locs : List Loc), m_S D B K n g s.heap H locs → ∀ ls : Array Slot, lv_has ls 2 [(0, .ref (B + a0)), (1, .int x1)] → W p l e ({ frames := 38, cells := 0, slots := 0, locals := 989 } : Room) s m args below meth c H locs 0 0 (MQ below (m_Q D B K (some (.int r)) n g') args s 0 0 (fun q => B ≤ q)) (F0 m 50 ls []) := by
  have hx := E.1.1
  have hb := E.1.2.1
  have hts := E.1.2.2.2.2
  intro g a0 x1 r g' hF H locs S ls hl
  unfold f_Arc_add_50 at hF
  refine lv_aload_n hx hb d_Arc_add_50 rfl (lv_at hl 0 rfl) ?_
  replace hF := Option.bind_eq_some_iff.mp hF
  obtain ⟨v_1, ev_1, hF⟩ := hF
  refine m_getR (B := B) (a := a0) E S fd_Arc_draft (Or.inl qw_59) ev_1 d_Arc_add_51 ?_
  replace hF := Option.bind_eq_some_iff.mp hF
  obtain ⟨a_2, ea_2, hF⟩ := hF
  subst ea_2
  replace hF := m_gd_inv hF
  obtain ⟨eog_3, hF⟩ := hF
  replace hF := m_bd_inv hF
  obtain ⟨v_4, g_3, eg_3, hF⟩ := hF
  refine m_callV (B := B) (nn := 0) (b := a_2) (As := []) (rest := []) (v := none) E S hz (c_Draft_clear l D B K n g a_2 v_4 g_3 eg_3) qc_Draft_clear ⟨rfl, rfl⟩ (Or.inr ⟨_, qn_16⟩) qw_95 qw_96 qw_57 (by decide +kernel) ⟨Nat.le_of_ble_eq_true rfl, Nat.le_of_ble_eq_true rfl⟩ eog_3 rfl rfl hl.1 (Nat.le_of_ble_eq_true rfl) d_Arc_add_54 ⟨Nat.le_of_ble_eq_true rfl, Nat.le_of_ble_eq_true rfl⟩ (fun H locs S => ?_)
  refine W.eq (g2 := F0 m 57 ls []) rfl ?_
  refine lv_iload_n hx hb d_Arc_add_57 rfl (lv_at hl 1 rfl) ?_
  cases hF
  exact m_iret E S hz hr hlk d_Arc_add_58
end S_Arc_add
def f_Arc_add  (g : m_G) (a0 : Nat) : Option (Int32 × m_G) :=
  m_gd (m_is g a0 0) <|
  m_bd (f_Arc_numberForDraft g a0) fun v_2 g_1 =>
  if (v_2 : Int32) < 0 then
    f_Arc_add_50 g_1 a0 v_2
  else
    (m_gR g_1 a0 0 2).bind fun v_4 =>
    (m_gR g_1 a0 0 1).bind fun v_5 =>
    (m_gR g_1 a0 0 5).bind fun v_6 =>
    Option.bind v_6 fun a_7 =>
    (m_ldR g_1 a_7 5 v_2).bind fun v_8 =>
    Option.bind v_4 fun a_9 =>
    m_gd (m_is g_1 a_9 5) <|
    m_bd (f_Reader_readDraft g_1 a_9 v_5 v_8) fun v_11 g_10 =>
    (m_gR g_10 a0 0 6).bind fun v_12 =>
    (m_gI g_10 a0 0 7).bind fun v_13 =>
    Option.bind v_12 fun a_14 =>
    (m_st g_10 a_14 0 v_13 v_2).bind fun g_15 =>
    (m_gI g_15 a0 0 7).bind fun v_16 =>
    (m_pI g_15 a0 0 7 (v_16 + 1)).bind fun g_17 =>
    m_gd (m_is g_17 a0 0) <|
    m_bd (f_Arc_rejoinThreads g_17 a0) fun v_19 g_18 =>
    f_Arc_add_50 g_18 a0 v_2
set_option maxHeartbeats 1000000 in
set_option maxRecDepth 100000 in
theorem c_Arc_add (l : Launch) (D : va_G) (B : Nat) (K : Nat → ClassId)  (n : Nat) (g : m_G) (a0 : Nat) (r : Int32) (g' : m_G) (hF : f_Arc_add g a0 = some (r, g')) : Met l y_Arc_add (Cond.code y_Arc_add b_Arc_add 2 (some .int) :: m_TB) ({ frames := 38, cells := 0, slots := 0, locals := 989 } : Room) (m_Pc D B K n g [.ref (B + a0)]) (m_Q D B K (some (.int r)) n g') 0 0 (fun q => B ≤ q) := by
  refine m_met (by decide) (Nat.le_of_ble_eq_true rfl) ?_
  intro p e s m args below meth c ls E hr hlk hin hsz S hl
  have E : m_V p m c b_Arc_add 2 s args R_Arc D K := E
  have hz : s.heap.size + 0 = B + n := hsz
  have hl : lv_has ls 2 [(0, .ref (B + a0))] := hl
  have hx := E.1.1
  have hb := E.1.2.1
  have hts := E.1.2.2.2.2
  unfold f_Arc_add at hF
  refine lv_aload_n hx hb d_Arc_add_0 rfl (lv_at hl 0 rfl) ?_
  replace hF := m_gd_inv hF
  obtain ⟨eog_1, hF⟩ := hF
  replace hF := m_bd_inv hF
  obtain ⟨v_2, g_1, eg_1, hF⟩ := hF
  refine m_callV (B := B) (nn := 0) (b := a0) (As := []) (rest := []) (v := (some (.int v_2))) E S hz (c_Arc_numberForDraft l D B K n g a0 v_2 g_1 eg_1) qc_Arc_numberForDraft ⟨rfl, rfl⟩ (Or.inl qw_175) qw_176 qw_177 qw_105 (by decide +kernel) ⟨Nat.le_of_ble_eq_true rfl, Nat.le_of_ble_eq_true rfl⟩ eog_1 rfl rfl hl.1 (Nat.le_of_ble_eq_true rfl) d_Arc_add_1 ⟨Nat.le_of_ble_eq_true rfl, Nat.le_of_ble_eq_true rfl⟩ (fun H locs S => ?_)
  refine W.eq (g2 := F0 m 4 ls [.int v_2]) rfl ?_
  refine lv_istore_n (lv' := [(1, .int v_2), (0, .ref (B + a0))]) hx hb d_Arc_add_4 rfl hl (by decide) rfl (fun ls hl => ?_)
  refine lv_iload_n hx hb d_Arc_add_5 rfl (lv_at hl 0 rfl) ?_
  refine lv_if_lt (tgt := 50) hx hb d_Arc_add_6 (by decide) (fun c_3 => ?_) (fun c_3 => ?_)
  · rw [if_pos c_3] at hF
    exact c_Arc_add_50 E hr hlk hz _ _ _ _ _ hF _ _ S _ (lv_sub hl [1, 0] rfl)
  · rw [if_neg c_3] at hF
    refine lv_aload_n hx hb d_Arc_add_9 rfl (lv_at hl 1 rfl) ?_
    replace hF := Option.bind_eq_some_iff.mp hF
    obtain ⟨v_4, ev_4, hF⟩ := hF
    refine m_getR (B := B) (a := a0) E S fd_Arc_reader (Or.inl qw_64) ev_4 d_Arc_add_10 ?_
    refine lv_aload_n hx hb d_Arc_add_13 rfl (lv_at hl 1 rfl) ?_
    replace hF := Option.bind_eq_some_iff.mp hF
    obtain ⟨v_5, ev_5, hF⟩ := hF
    refine m_getR (B := B) (a := a0) E S fd_Arc_draft (Or.inl qw_59) ev_5 d_Arc_add_14 ?_
    refine lv_aload_n hx hb d_Arc_add_17 rfl (lv_at hl 1 rfl) ?_
    replace hF := Option.bind_eq_some_iff.mp hF
    obtain ⟨v_6, ev_6, hF⟩ := hF
    refine m_getR (B := B) (a := a0) E S fd_Arc_messages (Or.inl qw_75) ev_6 d_Arc_add_18 ?_
    refine lv_iload_n hx hb d_Arc_add_21 rfl (lv_at hl 0 rfl) ?_
    replace hF := Option.bind_eq_some_iff.mp hF
    obtain ⟨a_7, ea_7, hF⟩ := hF
    subst ea_7
    replace hF := Option.bind_eq_some_iff.mp hF
    obtain ⟨v_8, ev_8, hF⟩ := hF
    refine m_aald (B := B) (a := a_7) (t := 5) E S rfl ev_8 d_Arc_add_22 ?_
    replace hF := Option.bind_eq_some_iff.mp hF
    obtain ⟨a_9, ea_9, hF⟩ := hF
    subst ea_9
    replace hF := m_gd_inv hF
    obtain ⟨eog_10, hF⟩ := hF
    replace hF := m_bd_inv hF
    obtain ⟨v_11, g_10, eg_10, hF⟩ := hF
    refine m_callV (B := B) (nn := 2) (b := a_9) (As := [m_r B v_5, m_r B v_8]) (rest := []) (v := none) E S hz (c_Reader_readDraft l D B K n g_1 a_9 v_5 v_8 v_11 g_10 eg_10) qc_Reader_readDraft ⟨rfl, rfl⟩ (Or.inr ⟨_, qn_54⟩) qw_178 qw_179 qw_62 (by decide +kernel) ⟨Nat.le_of_ble_eq_true rfl, Nat.le_of_ble_eq_true rfl⟩ eog_10 rfl rfl hl.1 (Nat.le_of_ble_eq_true rfl) d_Arc_add_23 ⟨Nat.le_of_ble_eq_true rfl, Nat.le_of_ble_eq_true rfl⟩ (fun H locs S => ?_)
    refine W.eq (g2 := F0 m 26 ls []) rfl ?_
    refine lv_aload_n hx hb d_Arc_add_26 rfl (lv_at hl 1 rfl) ?_
    replace hF := Option.bind_eq_some_iff.mp hF
    obtain ⟨v_12, ev_12, hF⟩ := hF
    refine m_getR (B := B) (a := a0) E S fd_Arc_order (Or.inl qw_79) ev_12 d_Arc_add_27 ?_
    refine lv_aload_n hx hb d_Arc_add_30 rfl (lv_at hl 1 rfl) ?_
    replace hF := Option.bind_eq_some_iff.mp hF
    obtain ⟨v_13, ev_13, hF⟩ := hF
    refine m_getI (B := B) (a := a0) E S fd_Arc_messageCount (Or.inl qw_80) ev_13 d_Arc_add_31 ?_
    refine lv_iload_n hx hb d_Arc_add_34 rfl (lv_at hl 0 rfl) ?_
    replace hF := Option.bind_eq_some_iff.mp hF
    obtain ⟨a_14, ea_14, hF⟩ := hF
    subst ea_14
    replace hF := Option.bind_eq_some_iff.mp hF
    obtain ⟨g_15, eg_15, hF⟩ := hF
    refine m_iast (B := B) (a := a_14) (t := 0) E S rfl eg_15 d_Arc_add_35 (fun H locs S => ?_)
    refine lv_aload_n hx hb d_Arc_add_36 rfl (lv_at hl 1 rfl) ?_
    refine lv_dup hx hb d_Arc_add_37 rfl ?_
    replace hF := Option.bind_eq_some_iff.mp hF
    obtain ⟨v_16, ev_16, hF⟩ := hF
    refine m_getI (B := B) (a := a0) E S fd_Arc_messageCount (Or.inl qw_80) ev_16 d_Arc_add_38 ?_
    refine lv_iconst (v := 1) hx hb d_Arc_add_41 (by decide) ?_
    refine lv_iadd hx hb d_Arc_add_42 ?_
    replace hF := Option.bind_eq_some_iff.mp hF
    obtain ⟨g_17, eg_17, hF⟩ := hF
    refine m_putI (B := B) (a := a0) E S fd_Arc_messageCount (Or.inl qw_80) eg_17 d_Arc_add_43 (fun H locs S => ?_)
    refine lv_aload_n hx hb d_Arc_add_46 rfl (lv_at hl 1 rfl) ?_
    replace hF := m_gd_inv hF
    obtain ⟨eog_18, hF⟩ := hF
    replace hF := m_bd_inv hF
    obtain ⟨v_19, g_18, eg_18, hF⟩ := hF
    refine m_callV (B := B) (nn := 0) (b := a0) (As := []) (rest := []) (v := none) E S hz (c_Arc_rejoinThreads l D B K n g_17 a0 v_19 g_18 eg_18) qc_Arc_rejoinThreads ⟨rfl, rfl⟩ (Or.inl qw_180) qw_181 qw_182 qw_105 (by decide +kernel) ⟨Nat.le_of_ble_eq_true rfl, Nat.le_of_ble_eq_true rfl⟩ eog_18 rfl rfl hl.1 (Nat.le_of_ble_eq_true rfl) d_Arc_add_47 ⟨Nat.le_of_ble_eq_true rfl, Nat.le_of_ble_eq_true rfl⟩ (fun H locs S => ?_)
    refine W.eq (g2 := F0 m 50 ls []) rfl ?_
    exact c_Arc_add_50 E hr hlk hz _ _ _ _ _ hF _ _ S _ (lv_sub hl [1, 0] rfl)
section S_Arc_messageAt
variable {p : Program} {l : Launch} {e : Env} {s : State} {m : MethodId} {args : Array Value} {below : List Frame} {meth : Method} {c : Code} {D : va_G} {B n : Nat} {K : Nat → ClassId}
def f_Arc_messageAt_22   (g : m_G)  : Option (Option Nat × m_G) :=
  some (none, g)
set_option maxHeartbeats 1000000 in
set_option maxRecDepth 100000 in
theorem c_Arc_messageAt_22 (E : m_V p m c b_Arc_messageAt 2 s args R_Arc D K) (hr : meth.sig.returnType = (some (.object "ThreadedArchive$Message"))) (hlk : meth.locks = false) (hz : s.heap.size + 0 = B + n)   : ∀ (g : m_G)  (r : Option Nat) (g' : m_G), f_Arc_messageAt_22 g  = some (r, g') → ∀ (H : Heap) (locs : List Loc), m_S D B K n g s.heap H locs → ∀ ls : Array Slot, lv_has ls 2 [] → W p l e ({ frames := 0, cells := 0, slots := 0, locals := 0 } : Room) s m args below meth c H locs 0 0 (MQ below (m_Q D B K (some (m_r B r)) n g') args s 0 0 (fun q => B ≤ q)) (F0 m 22 ls []) := by
  have hx := E.1.1
  have hb := E.1.2.1
  have hts := E.1.2.2.2.2
  intro g  r g' hF H locs S ls hl
  unfold f_Arc_messageAt_22 at hF
  refine lv_null hx hb d_Arc_messageAt_22 ?_
  refine W.eq (g2 := F0 m 23 _ (m_r B none :: [])) rfl ?_
  cases hF
  exact m_aret E S hz hr (Or.inl ⟨_, rfl⟩) hlk d_Arc_messageAt_23
end S_Arc_messageAt
def f_Arc_messageAt  (g : m_G) (a0 : Nat) (x1 : Int32) : Option (Option Nat × m_G) :=
  if (x1 : Int32) < 0 then
    f_Arc_messageAt_22 g 
  else
    if (12 : Int32) ≤ x1 then
      f_Arc_messageAt_22 g 
    else
      (m_gR g a0 0 5).bind fun v_3 =>
      Option.bind v_3 fun a_4 =>
      (m_ldR g a_4 5 x1).bind fun v_5 =>
      Option.bind v_5 fun a_6 =>
      (m_gI g a_6 4 3).bind fun v_7 =>
      if (v_7 : Int32) = 0 then
        f_Arc_messageAt_22 g 
      else
        (m_gR g a0 0 5).bind fun v_9 =>
        Option.bind v_9 fun a_10 =>
        (m_ldR g a_10 5 x1).bind fun v_11 =>
        some (v_11, g)
set_option maxHeartbeats 1000000 in
set_option maxRecDepth 100000 in
theorem c_Arc_messageAt (l : Launch) (D : va_G) (B : Nat) (K : Nat → ClassId)  (n : Nat) (g : m_G) (a0 : Nat) (x1 : Int32) (r : Option Nat) (g' : m_G) (hF : f_Arc_messageAt g a0 x1 = some (r, g')) : Met l y_Arc_messageAt (Cond.code y_Arc_messageAt b_Arc_messageAt 2 (some (.object "ThreadedArchive$Message")) :: m_TB) ({ frames := 0, cells := 0, slots := 0, locals := 0 } : Room) (m_Pc D B K n g [.ref (B + a0), .int x1]) (m_Q D B K (some (m_r B r)) n g') 0 0 (fun q => B ≤ q) := by
  refine m_met (by decide) (Nat.le_of_ble_eq_true rfl) ?_
  intro p e s m args below meth c ls E hr hlk hin hsz S hl
  have E : m_V p m c b_Arc_messageAt 2 s args R_Arc D K := E
  have hz : s.heap.size + 0 = B + n := hsz
  have hl : lv_has ls 2 [(0, .ref (B + a0)), (1, .int x1)] := hl
  have hx := E.1.1
  have hb := E.1.2.1
  have hts := E.1.2.2.2.2
  unfold f_Arc_messageAt at hF
  refine lv_iload_n hx hb d_Arc_messageAt_0 rfl (lv_at hl 1 rfl) ?_
  refine lv_if_lt (tgt := 22) hx hb d_Arc_messageAt_1 (by decide) (fun c_1 => ?_) (fun c_1 => ?_)
  · rw [if_pos c_1] at hF
    exact c_Arc_messageAt_22 E hr hlk hz _ _ _ hF _ _ S _ (lv_sub hl [] rfl)
  · rw [if_neg c_1] at hF
    refine lv_iload_n hx hb d_Arc_messageAt_4 rfl (lv_at hl 1 rfl) ?_
    refine lv_bipush (v := 12) hx hb d_Arc_messageAt_5 (by decide) ?_
    refine lv_icmp_ge (tgt := 22) hx hb d_Arc_messageAt_7 (by decide) (fun c_2 => ?_) (fun c_2 => ?_)
    · rw [if_pos c_2] at hF
      exact c_Arc_messageAt_22 E hr hlk hz _ _ _ hF _ _ S _ (lv_sub hl [] rfl)
    · rw [if_neg c_2] at hF
      refine lv_aload_n hx hb d_Arc_messageAt_10 rfl (lv_at hl 0 rfl) ?_
      replace hF := Option.bind_eq_some_iff.mp hF
      obtain ⟨v_3, ev_3, hF⟩ := hF
      refine m_getR (B := B) (a := a0) E S fd_Arc_messages (Or.inl qw_75) ev_3 d_Arc_messageAt_11 ?_
      refine lv_iload_n hx hb d_Arc_messageAt_14 rfl (lv_at hl 1 rfl) ?_
      replace hF := Option.bind_eq_some_iff.mp hF
      obtain ⟨a_4, ea_4, hF⟩ := hF
      subst ea_4
      replace hF := Option.bind_eq_some_iff.mp hF
      obtain ⟨v_5, ev_5, hF⟩ := hF
      refine m_aald (B := B) (a := a_4) (t := 5) E S rfl ev_5 d_Arc_messageAt_15 ?_
      replace hF := Option.bind_eq_some_iff.mp hF
      obtain ⟨a_6, ea_6, hF⟩ := hF
      subst ea_6
      replace hF := Option.bind_eq_some_iff.mp hF
      obtain ⟨v_7, ev_7, hF⟩ := hF
      refine m_getI (B := B) (a := a_6) E S fd_Message_there (Or.inr ⟨_, qn_17⟩) ev_7 d_Arc_messageAt_16 ?_
      refine lv_if_ne (tgt := 24) hx hb d_Arc_messageAt_19 (by decide) (fun c_8 => ?_) (fun c_8 => ?_)
      · rw [if_neg c_8] at hF
        refine lv_aload_n hx hb d_Arc_messageAt_24 rfl (lv_at hl 0 rfl) ?_
        replace hF := Option.bind_eq_some_iff.mp hF
        obtain ⟨v_9, ev_9, hF⟩ := hF
        refine m_getR (B := B) (a := a0) E S fd_Arc_messages (Or.inl qw_75) ev_9 d_Arc_messageAt_25 ?_
        refine lv_iload_n hx hb d_Arc_messageAt_28 rfl (lv_at hl 1 rfl) ?_
        replace hF := Option.bind_eq_some_iff.mp hF
        obtain ⟨a_10, ea_10, hF⟩ := hF
        subst ea_10
        replace hF := Option.bind_eq_some_iff.mp hF
        obtain ⟨v_11, ev_11, hF⟩ := hF
        refine m_aald (B := B) (a := a_10) (t := 5) E S rfl ev_11 d_Arc_messageAt_29 ?_
        cases hF
        exact m_aret E S hz hr (Or.inl ⟨_, rfl⟩) hlk d_Arc_messageAt_30
      · rw [if_pos c_8] at hF
        exact c_Arc_messageAt_22 E hr hlk hz _ _ _ hF _ _ S _ (lv_sub hl [] rfl)
section S_Arc_removeFromOrder
variable {p : Program} {l : Launch} {e : Env} {s : State} {m : MethodId} {args : Array Value} {below : List Frame} {meth : Method} {c : Code} {D : va_G} {B n : Nat} {K : Nat → ClassId}
def f_Arc_removeFromOrder_37  (k_4 : m_G → Nat → Int32 → Int32 → Int32 → Option (Unit × m_G)) (g : m_G) (a0 : Nat) (x1 : Int32) (x2 : Int32) (x3 : Int32) : Option (Unit × m_G) :=
  k_4 g a0 x1 x2 (x3 + 1)
set_option maxHeartbeats 1000000 in
set_option maxRecDepth 100000 in
theorem c_Arc_removeFromOrder_37 (E : m_V p m c b_Arc_removeFromOrder 4 s args R_Arc D K) (hr : meth.sig.returnType = none) (hlk : meth.locks = false) (hz : s.heap.size + 0 = B + n)  (k_4 : m_G → Nat → Int32 → Int32 → Int32 → Option (Unit × m_G)) (hk_4 : ∀ (g : m_G) (a0 : Nat) (x1 : Int32) (x2 : Int32) (x3 : Int32) (r : Unit) (g' : m_G), k_4 g a0 x1 x2 x3 = some (r, g') → ∀ (H : Heap) (locs : List Loc), m_S D B K n g s.heap H locs → ∀ ls : Array Slot, lv_has ls 4 [(0, .ref (B + a0)), (1, .int x1), (2, .int x2), (3, .int x3)] → W p l e ({ frames := 0, cells := 0, slots := 0, locals := 0 } : Room) s m args below meth c H locs 0 0 (MQ below (m_Q D B K none n g') args s 0 0 (fun q => B ≤ q)) (F0 m 4 ls [])) : ∀ (g : m_G) (a0 : Nat) (x1 : Int32) (x2 : Int32) (x3 : Int32) (r : Unit) (g' : m_G), f_Arc_removeFromOrder_37 k_4 g a0 x1 x2 x3 = some (r, g') → ∀ (H : Heap) (locs : List Loc), m_S D B K n g s.heap H locs → ∀ ls : Array Slot, lv_has ls 4 [(0, .ref (B + a0)), (1, .int x1), (2, .int x2), (3, .int x3)] → W p l e ({ frames := 0, cells := 0, slots := 0, locals := 0 } : Room) s m args below meth c H locs 0 0 (MQ below (m_Q D B K none n g') args s 0 0 (fun q => B ≤ q)) (F0 m 37 ls []) := by
  have hx := E.1.1
  have hb := E.1.2.1
  have hts := E.1.2.2.2.2
  intro g a0 x1 x2 x3 r g' hF H locs S ls hl
  unfold f_Arc_removeFromOrder_37 at hF
  refine lv_iinc (v := (x3 + 1)) (lv' := [(3, .int (x3 + 1)), (0, .ref (B + a0)), (1, .int x1), (2, .int x2)]) hx hb d_Arc_removeFromOrder_37 hl (k := 3) rfl rfl (by decide) rfl (fun ls hl => ?_)
  refine lv_goto (tgt := 4) hx hb d_Arc_removeFromOrder_40 (by decide) ?_
  exact hk_4 _ _ _ _ _ _ _ hF _ _ S _ (lv_sub hl [1, 2, 3, 0] rfl)
def f_Arc_removeFromOrder_4   : Nat → m_G → Nat → Int32 → Int32 → Int32 → Option (Unit × m_G)
  | 0, _, _, _, _, _ => none
  | fu + 1, g, a0, x1, x2, x3 =>
    (m_gI g a0 0 7).bind fun v_1 =>
    if (v_1 : Int32) ≤ x3 then
      (m_pI g a0 0 7 x2).bind fun g_3 =>
      some ((), g_3)
    else
      (m_gR g a0 0 6).bind fun v_4 =>
      Option.bind v_4 fun a_5 =>
      (m_ld g a_5 0 x3).bind fun v_6 =>
      if (v_6 : Int32) = x1 then
        f_Arc_removeFromOrder_37 (f_Arc_removeFromOrder_4 fu) g a0 x1 x2 x3
      else
        (m_gR g a0 0 6).bind fun v_8 =>
        (m_gR g a0 0 6).bind fun v_9 =>
        Option.bind v_9 fun a_10 =>
        (m_ld g a_10 0 x3).bind fun v_11 =>
        Option.bind v_8 fun a_12 =>
        (m_st g a_12 0 x2 v_11).bind fun g_13 =>
        f_Arc_removeFromOrder_37 (f_Arc_removeFromOrder_4 fu) g_13 a0 x1 (x2 + 1) x3
set_option maxHeartbeats 1000000 in
set_option maxRecDepth 100000 in
theorem c_Arc_removeFromOrder_4 (E : m_V p m c b_Arc_removeFromOrder 4 s args R_Arc D K) (hr : meth.sig.returnType = none) (hlk : meth.locks = false) (hz : s.heap.size + 0 = B + n)   : ∀ fu : Nat, ∀ (g : m_G) (a0 : Nat) (x1 : Int32) (x2 : Int32) (x3 : Int32) (r : Unit) (g' : m_G), f_Arc_removeFromOrder_4  fu g a0 x1 x2 x3 = some (r, g') → ∀ (H : Heap) (locs : List Loc), m_S D B K n g s.heap H locs → ∀ ls : Array Slot, lv_has ls 4 [(0, .ref (B + a0)), (1, .int x1), (2, .int x2), (3, .int x3)] → W p l e ({ frames := 0, cells := 0, slots := 0, locals := 0 } : Room) s m args below meth c H locs 0 0 (MQ below (m_Q D B K none n g') args s 0 0 (fun q => B ≤ q)) (F0 m 4 ls []) := by
  have hx := E.1.1
  have hb := E.1.2.1
  have hts := E.1.2.2.2.2
  intro fu
  induction fu with
  | zero => intro g a0 x1 x2 x3 r g' hF; cases hF
  | succ fu ih =>
    intro g a0 x1 x2 x3 r g' hF H locs S ls hl
    rw [f_Arc_removeFromOrder_4] at hF
    refine lv_iload_n hx hb d_Arc_removeFromOrder_4 rfl (lv_at hl 3 rfl) ?_
    refine lv_aload_n hx hb d_Arc_removeFromOrder_5 rfl (lv_at hl 0 rfl) ?_
    replace hF := Option.bind_eq_some_iff.mp hF
    obtain ⟨v_1, ev_1, hF⟩ := hF
    refine m_getI (B := B) (a := a0) E S fd_Arc_messageCount (Or.inl qw_80) ev_1 d_Arc_removeFromOrder_6 ?_
    refine lv_icmp_ge (tgt := 43) hx hb d_Arc_removeFromOrder_9 (by decide) (fun c_2 => ?_) (fun c_2 => ?_)
    · rw [if_pos c_2] at hF
      refine lv_aload_n hx hb d_Arc_removeFromOrder_43 rfl (lv_at hl 0 rfl) ?_
      refine lv_iload_n hx hb d_Arc_removeFromOrder_44 rfl (lv_at hl 2 rfl) ?_
      replace hF := Option.bind_eq_some_iff.mp hF
      obtain ⟨g_3, eg_3, hF⟩ := hF
      refine m_putI (B := B) (a := a0) E S fd_Arc_messageCount (Or.inl qw_80) eg_3 d_Arc_removeFromOrder_45 (fun H locs S => ?_)
      cases hF
      skip
      exact m_vret E S hz hr hlk d_Arc_removeFromOrder_48
    · rw [if_neg c_2] at hF
      refine lv_aload_n hx hb d_Arc_removeFromOrder_12 rfl (lv_at hl 0 rfl) ?_
      replace hF := Option.bind_eq_some_iff.mp hF
      obtain ⟨v_4, ev_4, hF⟩ := hF
      refine m_getR (B := B) (a := a0) E S fd_Arc_order (Or.inl qw_79) ev_4 d_Arc_removeFromOrder_13 ?_
      refine lv_iload_n hx hb d_Arc_removeFromOrder_16 rfl (lv_at hl 3 rfl) ?_
      replace hF := Option.bind_eq_some_iff.mp hF
      obtain ⟨a_5, ea_5, hF⟩ := hF
      subst ea_5
      replace hF := Option.bind_eq_some_iff.mp hF
      obtain ⟨v_6, ev_6, hF⟩ := hF
      refine m_iald (B := B) (a := a_5) (t := 0) E S rfl ev_6 d_Arc_removeFromOrder_17 ?_
      refine lv_iload_n hx hb d_Arc_removeFromOrder_18 rfl (lv_at hl 1 rfl) ?_
      refine lv_icmp_eq (tgt := 37) hx hb d_Arc_removeFromOrder_19 (by decide) (fun c_7 => ?_) (fun c_7 => ?_)
      · rw [if_pos c_7] at hF
        exact c_Arc_removeFromOrder_37 E hr hlk hz (f_Arc_removeFromOrder_4 fu) ih _ _ _ _ _ _ _ hF _ _ S _ (lv_sub hl [0, 1, 2, 3] rfl)
      · rw [if_neg c_7] at hF
        refine lv_aload_n hx hb d_Arc_removeFromOrder_22 rfl (lv_at hl 0 rfl) ?_
        replace hF := Option.bind_eq_some_iff.mp hF
        obtain ⟨v_8, ev_8, hF⟩ := hF
        refine m_getR (B := B) (a := a0) E S fd_Arc_order (Or.inl qw_79) ev_8 d_Arc_removeFromOrder_23 ?_
        refine lv_iload_n hx hb d_Arc_removeFromOrder_26 rfl (lv_at hl 2 rfl) ?_
        refine lv_aload_n hx hb d_Arc_removeFromOrder_27 rfl (lv_at hl 0 rfl) ?_
        replace hF := Option.bind_eq_some_iff.mp hF
        obtain ⟨v_9, ev_9, hF⟩ := hF
        refine m_getR (B := B) (a := a0) E S fd_Arc_order (Or.inl qw_79) ev_9 d_Arc_removeFromOrder_28 ?_
        refine lv_iload_n hx hb d_Arc_removeFromOrder_31 rfl (lv_at hl 3 rfl) ?_
        replace hF := Option.bind_eq_some_iff.mp hF
        obtain ⟨a_10, ea_10, hF⟩ := hF
        subst ea_10
        replace hF := Option.bind_eq_some_iff.mp hF
        obtain ⟨v_11, ev_11, hF⟩ := hF
        refine m_iald (B := B) (a := a_10) (t := 0) E S rfl ev_11 d_Arc_removeFromOrder_32 ?_
        replace hF := Option.bind_eq_some_iff.mp hF
        obtain ⟨a_12, ea_12, hF⟩ := hF
        subst ea_12
        replace hF := Option.bind_eq_some_iff.mp hF
        obtain ⟨g_13, eg_13, hF⟩ := hF
        refine m_iast (B := B) (a := a_12) (t := 0) E S rfl eg_13 d_Arc_removeFromOrder_33 (fun H locs S => ?_)
        refine lv_iinc (v := (x2 + 1)) (lv' := [(2, .int (x2 + 1)), (0, .ref (B + a0)), (1, .int x1), (3, .int x3)]) hx hb d_Arc_removeFromOrder_34 hl (k := 2) rfl rfl (by decide) rfl (fun ls hl => ?_)
        exact c_Arc_removeFromOrder_37 E hr hlk hz (f_Arc_removeFromOrder_4 fu) ih _ _ _ _ _ _ _ hF _ _ S _ (lv_sub hl [1, 2, 0, 3] rfl)
end S_Arc_removeFromOrder
def f_Arc_removeFromOrder  (g : m_G) (a0 : Nat) (x1 : Int32) : Option (Unit × m_G) :=
  f_Arc_removeFromOrder_4 m_fu g a0 x1 0 0
set_option maxHeartbeats 1000000 in
set_option maxRecDepth 100000 in
theorem c_Arc_removeFromOrder (l : Launch) (D : va_G) (B : Nat) (K : Nat → ClassId)  (n : Nat) (g : m_G) (a0 : Nat) (x1 : Int32) (r : Unit) (g' : m_G) (hF : f_Arc_removeFromOrder g a0 x1 = some (r, g')) : Met l y_Arc_removeFromOrder (Cond.code y_Arc_removeFromOrder b_Arc_removeFromOrder 4 none :: m_TB) ({ frames := 0, cells := 0, slots := 0, locals := 0 } : Room) (m_Pc D B K n g [.ref (B + a0), .int x1]) (m_Q D B K none n g') 0 0 (fun q => B ≤ q) := by
  refine m_met (by decide) (Nat.le_of_ble_eq_true rfl) ?_
  intro p e s m args below meth c ls E hr hlk hin hsz S hl
  have E : m_V p m c b_Arc_removeFromOrder 4 s args R_Arc D K := E
  have hz : s.heap.size + 0 = B + n := hsz
  have hl : lv_has ls 4 [(0, .ref (B + a0)), (1, .int x1)] := hl
  have hx := E.1.1
  have hb := E.1.2.1
  have hts := E.1.2.2.2.2
  unfold f_Arc_removeFromOrder at hF
  refine lv_iconst (v := 0) hx hb d_Arc_removeFromOrder_0 (by decide) ?_
  refine lv_istore_n (lv' := [(2, .int 0), (0, .ref (B + a0)), (1, .int x1)]) hx hb d_Arc_removeFromOrder_1 rfl hl (by decide) rfl (fun ls hl => ?_)
  refine lv_iconst (v := 0) hx hb d_Arc_removeFromOrder_2 (by decide) ?_
  refine lv_istore_n (lv' := [(3, .int 0), (2, .int 0), (0, .ref (B + a0)), (1, .int x1)]) hx hb d_Arc_removeFromOrder_3 rfl hl (by decide) rfl (fun ls hl => ?_)
  exact c_Arc_removeFromOrder_4 E hr hlk hz m_fu _ _ _ _ _ _ _ hF _ _ S _ (lv_sub hl [2, 3, 1, 0] rfl)
def f_Arc_drop  (g : m_G) (a0 : Nat) (x1 : Int32) : Option (Int32 × m_G) :=
  m_gd (m_is g a0 0) <|
  m_bd (f_Arc_messageAt g a0 x1) fun v_2 g_1 =>
  match v_2 with
  | none =>
    some ((-1), g_1)
  | some a_3 =>
    (m_pZ g_1 a_3 4 3 0).bind fun g_4 =>
    m_gd (m_is g_4 a0 0) <|
    m_bd (f_Arc_removeFromOrder g_4 a0 x1) fun v_6 g_5 =>
    m_gd (m_is g_5 a0 0) <|
    m_bd (f_Arc_rejoinThreads g_5 a0) fun v_8 g_7 =>
    some (0, g_7)
set_option maxHeartbeats 1000000 in
set_option maxRecDepth 100000 in
theorem c_Arc_drop (l : Launch) (D : va_G) (B : Nat) (K : Nat → ClassId)  (n : Nat) (g : m_G) (a0 : Nat) (x1 : Int32) (r : Int32) (g' : m_G) (hF : f_Arc_drop g a0 x1 = some (r, g')) : Met l y_Arc_drop (Cond.code y_Arc_drop b_Arc_drop 3 (some .int) :: m_TB) ({ frames := 4, cells := 0, slots := 0, locals := 90 } : Room) (m_Pc D B K n g [.ref (B + a0), .int x1]) (m_Q D B K (some (.int r)) n g') 0 0 (fun q => B ≤ q) := by
  refine m_met (by decide) (Nat.le_of_ble_eq_true rfl) ?_
  intro p e s m args below meth c ls E hr hlk hin hsz S hl
  have E : m_V p m c b_Arc_drop 3 s args R_Arc D K := E
  have hz : s.heap.size + 0 = B + n := hsz
  have hl : lv_has ls 3 [(0, .ref (B + a0)), (1, .int x1)] := hl
  have hx := E.1.1
  have hb := E.1.2.1
  have hts := E.1.2.2.2.2
  unfold f_Arc_drop at hF
  refine lv_aload_n hx hb d_Arc_drop_0 rfl (lv_at hl 0 rfl) ?_
  refine lv_iload_n hx hb d_Arc_drop_1 rfl (lv_at hl 1 rfl) ?_
  replace hF := m_gd_inv hF
  obtain ⟨eog_1, hF⟩ := hF
  replace hF := m_bd_inv hF
  obtain ⟨v_2, g_1, eg_1, hF⟩ := hF
  refine m_callV (B := B) (nn := 1) (b := a0) (As := [.int x1]) (rest := []) (v := (some (m_r B v_2))) E S hz (c_Arc_messageAt l D B K n g a0 x1 v_2 g_1 eg_1) qc_Arc_messageAt ⟨rfl, rfl⟩ (Or.inl qw_183) qw_184 qw_185 qw_105 (by decide +kernel) ⟨Nat.le_of_ble_eq_true rfl, Nat.le_of_ble_eq_true rfl⟩ eog_1 rfl rfl hl.1 (Nat.le_of_ble_eq_true rfl) d_Arc_drop_2 ⟨Nat.le_of_ble_eq_true rfl, Nat.le_of_ble_eq_true rfl⟩ (fun H locs S => ?_)
  refine W.eq (g2 := F0 m 5 ls [m_r B v_2]) rfl ?_
  refine m_astore_n (B := B) (r := v_2) (lv' := [(2, m_r B v_2), (0, .ref (B + a0)), (1, .int x1)]) E d_Arc_drop_5 rfl hl (by decide) rfl (fun ls hl => ?_)
  refine m_aload_n (B := B) (r := v_2) E d_Arc_drop_6 rfl (lv_at hl 0 rfl) ?_
  refine m_ifnonnull (B := B) (r := v_2) (tgt := 12) E d_Arc_drop_7 (by decide) (fun a_3 ea_3 => ?_) (fun ea_3 => ?_)
  · subst ea_3
    dsimp only at hF
    refine m_aload_n (B := B) (r := (some a_3)) E d_Arc_drop_12 rfl (lv_at hl 0 rfl) ?_
    refine lv_iconst (v := 0) hx hb d_Arc_drop_13 (by decide) ?_
    replace hF := Option.bind_eq_some_iff.mp hF
    obtain ⟨g_4, eg_4, hF⟩ := hF
    refine m_putZ (B := B) (a := a_3) E S fd_Message_there (Or.inr ⟨_, qn_17⟩) eg_4 d_Arc_drop_14 (fun H locs S => ?_)
    refine lv_aload_n hx hb d_Arc_drop_17 rfl (lv_at hl 1 rfl) ?_
    refine lv_iload_n hx hb d_Arc_drop_18 rfl (lv_at hl 2 rfl) ?_
    replace hF := m_gd_inv hF
    obtain ⟨eog_5, hF⟩ := hF
    replace hF := m_bd_inv hF
    obtain ⟨v_6, g_5, eg_5, hF⟩ := hF
    refine m_callV (B := B) (nn := 1) (b := a0) (As := [.int x1]) (rest := []) (v := none) E S hz (c_Arc_removeFromOrder l D B K n g_4 a0 x1 v_6 g_5 eg_5) qc_Arc_removeFromOrder ⟨rfl, rfl⟩ (Or.inl qw_186) qw_187 qw_188 qw_105 (by decide +kernel) ⟨Nat.le_of_ble_eq_true rfl, Nat.le_of_ble_eq_true rfl⟩ eog_5 rfl rfl hl.1 (Nat.le_of_ble_eq_true rfl) d_Arc_drop_19 ⟨Nat.le_of_ble_eq_true rfl, Nat.le_of_ble_eq_true rfl⟩ (fun H locs S => ?_)
    refine W.eq (g2 := F0 m 22 ls []) rfl ?_
    refine lv_aload_n hx hb d_Arc_drop_22 rfl (lv_at hl 1 rfl) ?_
    replace hF := m_gd_inv hF
    obtain ⟨eog_7, hF⟩ := hF
    replace hF := m_bd_inv hF
    obtain ⟨v_8, g_7, eg_7, hF⟩ := hF
    refine m_callV (B := B) (nn := 0) (b := a0) (As := []) (rest := []) (v := none) E S hz (c_Arc_rejoinThreads l D B K n g_5 a0 v_8 g_7 eg_7) qc_Arc_rejoinThreads ⟨rfl, rfl⟩ (Or.inl qw_180) qw_181 qw_182 qw_105 (by decide +kernel) ⟨Nat.le_of_ble_eq_true rfl, Nat.le_of_ble_eq_true rfl⟩ eog_7 rfl rfl hl.1 (Nat.le_of_ble_eq_true rfl) d_Arc_drop_23 ⟨Nat.le_of_ble_eq_true rfl, Nat.le_of_ble_eq_true rfl⟩ (fun H locs S => ?_)
    refine W.eq (g2 := F0 m 26 ls []) rfl ?_
    refine lv_iconst (v := 0) hx hb d_Arc_drop_26 (by decide) ?_
    cases hF
    exact m_iret E S hz hr hlk d_Arc_drop_27
  · subst ea_3
    dsimp only at hF
    refine lv_iconst (v := (-1)) hx hb d_Arc_drop_10 (by decide) ?_
    cases hF
    exact m_iret E S hz hr hlk d_Arc_drop_11
section S_Message_setTag
variable {p : Program} {l : Launch} {e : Env} {s : State} {m : MethodId} {args : Array Value} {below : List Frame} {meth : Method} {c : Code} {D : va_G} {B n : Nat} {K : Nat → ClassId}
def f_Message_setTag_26   (g : m_G) (y0 : Int32) (t1 : Option Nat) : Option (Unit × m_G) :=
  Option.bind t1 fun a_1 =>
  (m_pI g a_1 4 8 y0).bind fun g_2 =>
  some ((), g_2)
set_option maxHeartbeats 1000000 in
set_option maxRecDepth 100000 in
theorem c_Message_setTag_26 (E : m_V p m c b_Message_setTag 4 s args R_Message D K) (hr : meth.sig.returnType = none) (hlk : meth.locks = false) (hz : s.heap.size + 0 = B + n)   : ∀ (g : m_G) (y0 : Int32) (t1 : Option Nat) (r : Unit) (g' : m_G), f_Message_setTag_26 g y0 t1 = some (r, g') → ∀ (H : Heap) (locs : List Loc), m_S D B K n g s.heap H locs → ∀ ls : Array Slot, lv_has ls 4 [] → W p l e ({ frames := 0, cells := 0, slots := 0, locals := 0 } : Room) s m args below meth c H locs 0 0 (MQ below (m_Q D B K none n g') args s 0 0 (fun q => B ≤ q)) (F0 m 26 ls [.int y0, m_r B t1]) := by
  have hx := E.1.1
  have hb := E.1.2.1
  have hts := E.1.2.2.2.2
  intro g y0 t1 r g' hF H locs S ls hl
  unfold f_Message_setTag_26 at hF
  replace hF := Option.bind_eq_some_iff.mp hF
  obtain ⟨a_1, ea_1, hF⟩ := hF
  subst ea_1
  replace hF := Option.bind_eq_some_iff.mp hF
  obtain ⟨g_2, eg_2, hF⟩ := hF
  refine m_putI (B := B) (a := a_1) E S fd_Message_tags (Or.inl qw_24) eg_2 d_Message_setTag_26 (fun H locs S => ?_)
  cases hF
  skip
  exact m_vret E S hz hr hlk d_Message_setTag_29
end S_Message_setTag
def f_Message_setTag  (g : m_G) (a0 : Nat) (x1 : Int32) (x2 : Int32) : Option (Unit × m_G) :=
  if (x2 : Int32) = 0 then
    (m_gI g a0 4 8).bind fun v_2 =>
    f_Message_setTag_26 g (v_2 &&& ((1 <<< (x1 &&& 31)) ^^^ (-1))) (some a0)
  else
    (m_gI g a0 4 8).bind fun v_3 =>
    f_Message_setTag_26 g (v_3 ||| (1 <<< (x1 &&& 31))) (some a0)
set_option maxHeartbeats 1000000 in
set_option maxRecDepth 100000 in
theorem c_Message_setTag (l : Launch) (D : va_G) (B : Nat) (K : Nat → ClassId)  (n : Nat) (g : m_G) (a0 : Nat) (x1 : Int32) (x2 : Int32) (r : Unit) (g' : m_G) (hF : f_Message_setTag g a0 x1 x2 = some (r, g')) : Met l y_Message_setTag (Cond.code y_Message_setTag b_Message_setTag 4 none :: m_TB) ({ frames := 0, cells := 0, slots := 0, locals := 0 } : Room) (m_Pc D B K n g [.ref (B + a0), .int x1, .int x2]) (m_Q D B K none n g') 0 0 (fun q => B ≤ q) := by
  refine m_met (by decide) (Nat.le_of_ble_eq_true rfl) ?_
  intro p e s m args below meth c ls E hr hlk hin hsz S hl
  have E : m_V p m c b_Message_setTag 4 s args R_Message D K := E
  have hz : s.heap.size + 0 = B + n := hsz
  have hl : lv_has ls 4 [(0, .ref (B + a0)), (1, .int x1), (2, .int x2)] := hl
  have hx := E.1.1
  have hb := E.1.2.1
  have hts := E.1.2.2.2.2
  unfold f_Message_setTag at hF
  refine lv_iconst (v := 1) hx hb d_Message_setTag_0 (by decide) ?_
  refine lv_iload_n hx hb d_Message_setTag_1 rfl (lv_at hl 1 rfl) ?_
  refine lv_ishl hx hb d_Message_setTag_2 ?_
  refine lv_istore_n (lv' := [(3, .int (1 <<< (x1 &&& 31))), (0, .ref (B + a0)), (1, .int x1), (2, .int x2)]) hx hb d_Message_setTag_3 rfl hl (by decide) rfl (fun ls hl => ?_)
  refine lv_aload_n hx hb d_Message_setTag_4 rfl (lv_at hl 1 rfl) ?_
  refine lv_iload_n hx hb d_Message_setTag_5 rfl (lv_at hl 3 rfl) ?_
  refine lv_if_eq (tgt := 18) hx hb d_Message_setTag_6 (by decide) (fun c_1 => ?_) (fun c_1 => ?_)
  · rw [if_pos c_1] at hF
    refine lv_aload_n hx hb d_Message_setTag_18 rfl (lv_at hl 1 rfl) ?_
    replace hF := Option.bind_eq_some_iff.mp hF
    obtain ⟨v_2, ev_2, hF⟩ := hF
    refine m_getI (B := B) (a := a0) E S fd_Message_tags (Or.inl qw_24) ev_2 d_Message_setTag_19 ?_
    refine lv_iload_n hx hb d_Message_setTag_22 rfl (lv_at hl 0 rfl) ?_
    refine lv_iconst (v := (-1)) hx hb d_Message_setTag_23 (by decide) ?_
    refine lv_ixor hx hb d_Message_setTag_24 ?_
    refine lv_iand hx hb d_Message_setTag_25 ?_
    exact c_Message_setTag_26 E hr hlk hz _ _ _ _ _ hF _ _ S _ (lv_sub hl [] rfl)
  · rw [if_neg c_1] at hF
    refine lv_aload_n hx hb d_Message_setTag_9 rfl (lv_at hl 1 rfl) ?_
    replace hF := Option.bind_eq_some_iff.mp hF
    obtain ⟨v_3, ev_3, hF⟩ := hF
    refine m_getI (B := B) (a := a0) E S fd_Message_tags (Or.inl qw_24) ev_3 d_Message_setTag_10 ?_
    refine lv_iload_n hx hb d_Message_setTag_13 rfl (lv_at hl 0 rfl) ?_
    refine lv_ior hx hb d_Message_setTag_14 ?_
    refine lv_goto (tgt := 26) hx hb d_Message_setTag_15 (by decide) ?_
    exact c_Message_setTag_26 E hr hlk hz _ _ _ _ _ hF _ _ S _ (lv_sub hl [] rfl)
section S_Arc_tag
variable {p : Program} {l : Launch} {e : Env} {s : State} {m : MethodId} {args : Array Value} {below : List Frame} {meth : Method} {c : Code} {D : va_G} {B n : Nat} {K : Nat → ClassId}
def f_Arc_tag_22   (g : m_G)  : Option (Int32 × m_G) :=
  some ((-1), g)
set_option maxHeartbeats 1000000 in
set_option maxRecDepth 100000 in
theorem c_Arc_tag_22 (E : m_V p m c b_Arc_tag 5 s args R_Arc D K) (hr : meth.sig.returnType = (some .int)) (hlk : meth.locks = false) (hz : s.heap.size + 0 = B + n)   : ∀ (g : m_G)  (r : Int32) (g' : m_G), f_Arc_tag_22 g  = some (r, g') → ∀ (H : Heap) (locs : List Loc), m_S D B K n g s.heap H locs → ∀ ls : Array Slot, lv_has ls 5 [] → W p l e ({ frames := 1, cells := 0, slots := 0, locals := 23 } : Room) s m args below meth c H locs 0 0 (MQ below (m_Q D B K (some (.int r)) n g') args s 0 0 (fun q => B ≤ q)) (F0 m 22 ls []) := by
  have hx := E.1.1
  have hb := E.1.2.1
  have hts := E.1.2.2.2.2
  intro g  r g' hF H locs S ls hl
  unfold f_Arc_tag_22 at hF
  refine lv_iconst (v := (-1)) hx hb d_Arc_tag_22 (by decide) ?_
  cases hF
  exact m_iret E S hz hr hlk d_Arc_tag_23
end S_Arc_tag
def f_Arc_tag  (g : m_G) (a0 : Nat) (x1 : Int32) (x2 : Int32) (x3 : Int32) : Option (Int32 × m_G) :=
  m_gd (m_is g a0 0) <|
  m_bd (f_Arc_messageAt g a0 x1) fun v_2 g_1 =>
  match v_2 with
  | none =>
    f_Arc_tag_22 g_1 
  | some a_3 =>
    if (x2 : Int32) < 0 then
      f_Arc_tag_22 g_1 
    else
      if (x2 : Int32) < 8 then
        m_gd (m_is g_1 a_3 4) <|
        m_bd (f_Message_setTag g_1 a_3 x2 x3) fun v_7 g_6 =>
        some (0, g_6)
      else
        f_Arc_tag_22 g_1 
set_option maxHeartbeats 1000000 in
set_option maxRecDepth 100000 in
theorem c_Arc_tag (l : Launch) (D : va_G) (B : Nat) (K : Nat → ClassId)  (n : Nat) (g : m_G) (a0 : Nat) (x1 : Int32) (x2 : Int32) (x3 : Int32) (r : Int32) (g' : m_G) (hF : f_Arc_tag g a0 x1 x2 x3 = some (r, g')) : Met l y_Arc_tag (Cond.code y_Arc_tag b_Arc_tag 5 (some .int) :: m_TB) ({ frames := 1, cells := 0, slots := 0, locals := 23 } : Room) (m_Pc D B K n g [.ref (B + a0), .int x1, .int x2, .int x3]) (m_Q D B K (some (.int r)) n g') 0 0 (fun q => B ≤ q) := by
  refine m_met (by decide) (Nat.le_of_ble_eq_true rfl) ?_
  intro p e s m args below meth c ls E hr hlk hin hsz S hl
  have E : m_V p m c b_Arc_tag 5 s args R_Arc D K := E
  have hz : s.heap.size + 0 = B + n := hsz
  have hl : lv_has ls 5 [(0, .ref (B + a0)), (1, .int x1), (2, .int x2), (3, .int x3)] := hl
  have hx := E.1.1
  have hb := E.1.2.1
  have hts := E.1.2.2.2.2
  unfold f_Arc_tag at hF
  refine lv_aload_n hx hb d_Arc_tag_0 rfl (lv_at hl 0 rfl) ?_
  refine lv_iload_n hx hb d_Arc_tag_1 rfl (lv_at hl 1 rfl) ?_
  replace hF := m_gd_inv hF
  obtain ⟨eog_1, hF⟩ := hF
  replace hF := m_bd_inv hF
  obtain ⟨v_2, g_1, eg_1, hF⟩ := hF
  refine m_callV (B := B) (nn := 1) (b := a0) (As := [.int x1]) (rest := []) (v := (some (m_r B v_2))) E S hz (c_Arc_messageAt l D B K n g a0 x1 v_2 g_1 eg_1) qc_Arc_messageAt ⟨rfl, rfl⟩ (Or.inl qw_183) qw_184 qw_185 qw_105 (by decide +kernel) ⟨Nat.le_of_ble_eq_true rfl, Nat.le_of_ble_eq_true rfl⟩ eog_1 rfl rfl hl.1 (Nat.le_of_ble_eq_true rfl) d_Arc_tag_2 ⟨Nat.le_of_ble_eq_true rfl, Nat.le_of_ble_eq_true rfl⟩ (fun H locs S => ?_)
  refine W.eq (g2 := F0 m 5 ls [m_r B v_2]) rfl ?_
  refine m_astore (B := B) (r := v_2) (lv' := [(4, m_r B v_2), (0, .ref (B + a0)), (1, .int x1), (2, .int x2), (3, .int x3)]) E d_Arc_tag_5 hl (by decide) rfl (fun ls hl => ?_)
  refine m_aload (B := B) (r := v_2) E d_Arc_tag_7 (lv_at hl 0 rfl) ?_
  refine m_ifnull (B := B) (r := v_2) (tgt := 22) E d_Arc_tag_9 (by decide) (fun ea_3 => ?_) (fun a_3 ea_3 => ?_)
  · subst ea_3
    dsimp only at hF
    exact c_Arc_tag_22 E hr hlk hz _ _ _ hF _ _ S _ (lv_sub hl [] rfl)
  · subst ea_3
    dsimp only at hF
    refine lv_iload_n hx hb d_Arc_tag_12 rfl (lv_at hl 3 rfl) ?_
    refine lv_if_lt (tgt := 22) hx hb d_Arc_tag_13 (by decide) (fun c_4 => ?_) (fun c_4 => ?_)
    · rw [if_pos c_4] at hF
      exact c_Arc_tag_22 E hr hlk hz _ _ _ hF _ _ S _ (lv_sub hl [] rfl)
    · rw [if_neg c_4] at hF
      refine lv_iload_n hx hb d_Arc_tag_16 rfl (lv_at hl 3 rfl) ?_
      refine lv_bipush (v := 8) hx hb d_Arc_tag_17 (by decide) ?_
      refine lv_icmp_lt (tgt := 24) hx hb d_Arc_tag_19 (by decide) (fun c_5 => ?_) (fun c_5 => ?_)
      · rw [if_pos c_5] at hF
        refine m_aload (B := B) (r := (some a_3)) E d_Arc_tag_24 (lv_at hl 0 rfl) ?_
        refine lv_iload_n hx hb d_Arc_tag_26 rfl (lv_at hl 3 rfl) ?_
        refine lv_iload_n hx hb d_Arc_tag_27 rfl (lv_at hl 4 rfl) ?_
        replace hF := m_gd_inv hF
        obtain ⟨eog_6, hF⟩ := hF
        replace hF := m_bd_inv hF
        obtain ⟨v_7, g_6, eg_6, hF⟩ := hF
        refine m_callV (B := B) (nn := 2) (b := a_3) (As := [.int x2, .int x3]) (rest := []) (v := none) E S hz (c_Message_setTag l D B K n g_1 a_3 x2 x3 v_7 g_6 eg_6) qc_Message_setTag ⟨rfl, rfl⟩ (Or.inr ⟨_, qn_55⟩) qw_189 qw_190 qw_77 (by decide +kernel) ⟨Nat.le_of_ble_eq_true rfl, Nat.le_of_ble_eq_true rfl⟩ eog_6 rfl rfl hl.1 (Nat.le_of_ble_eq_true rfl) d_Arc_tag_28 ⟨Nat.le_of_ble_eq_true rfl, Nat.le_of_ble_eq_true rfl⟩ (fun H locs S => ?_)
        refine W.eq (g2 := F0 m 31 ls []) rfl ?_
        refine lv_iconst (v := 0) hx hb d_Arc_tag_31 (by decide) ?_
        cases hF
        exact m_iret E S hz hr hlk d_Arc_tag_32
      · rw [if_neg c_5] at hF
        exact c_Arc_tag_22 E hr hlk hz _ _ _ hF _ _ S _ (lv_sub hl [] rfl)
section S_Arc_numbersThere
variable {p : Program} {l : Launch} {e : Env} {s : State} {m : MethodId} {args : Array Value} {below : List Frame} {meth : Method} {c : Code} {D : va_G} {B n : Nat} {K : Nat → ClassId}
def f_Arc_numbersThere_4   : Nat → m_G → Nat → Int32 → Int32 → Option (Int32 × m_G)
  | 0, _, _, _, _ => none
  | fu + 1, g, a0, x1, x2 =>
    (m_gI g a0 0 7).bind fun v_1 =>
    if (v_1 : Int32) ≤ x2 then
      some (x1, g)
    else
      (m_gR g a0 0 6).bind fun v_3 =>
      Option.bind v_3 fun a_4 =>
      (m_ld g a_4 0 x2).bind fun v_5 =>
      f_Arc_numbersThere_4 fu g a0 (x1 ||| (1 <<< (v_5 &&& 31))) (x2 + 1)
set_option maxHeartbeats 1000000 in
set_option maxRecDepth 100000 in
theorem c_Arc_numbersThere_4 (E : m_V p m c b_Arc_numbersThere 3 s args R_Arc D K) (hr : meth.sig.returnType = (some .int)) (hlk : meth.locks = false) (hz : s.heap.size + 0 = B + n)   : ∀ fu : Nat, ∀ (g : m_G) (a0 : Nat) (x1 : Int32) (x2 : Int32) (r : Int32) (g' : m_G), f_Arc_numbersThere_4  fu g a0 x1 x2 = some (r, g') → ∀ (H : Heap) (locs : List Loc), m_S D B K n g s.heap H locs → ∀ ls : Array Slot, lv_has ls 3 [(0, .ref (B + a0)), (1, .int x1), (2, .int x2)] → W p l e ({ frames := 0, cells := 0, slots := 0, locals := 0 } : Room) s m args below meth c H locs 0 0 (MQ below (m_Q D B K (some (.int r)) n g') args s 0 0 (fun q => B ≤ q)) (F0 m 4 ls []) := by
  have hx := E.1.1
  have hb := E.1.2.1
  have hts := E.1.2.2.2.2
  intro fu
  induction fu with
  | zero => intro g a0 x1 x2 r g' hF; cases hF
  | succ fu ih =>
    intro g a0 x1 x2 r g' hF H locs S ls hl
    rw [f_Arc_numbersThere_4] at hF
    refine lv_iload_n hx hb d_Arc_numbersThere_4 rfl (lv_at hl 2 rfl) ?_
    refine lv_aload_n hx hb d_Arc_numbersThere_5 rfl (lv_at hl 0 rfl) ?_
    replace hF := Option.bind_eq_some_iff.mp hF
    obtain ⟨v_1, ev_1, hF⟩ := hF
    refine m_getI (B := B) (a := a0) E S fd_Arc_messageCount (Or.inl qw_80) ev_1 d_Arc_numbersThere_6 ?_
    refine lv_icmp_ge (tgt := 29) hx hb d_Arc_numbersThere_9 (by decide) (fun c_2 => ?_) (fun c_2 => ?_)
    · rw [if_pos c_2] at hF
      refine lv_iload_n hx hb d_Arc_numbersThere_29 rfl (lv_at hl 1 rfl) ?_
      cases hF
      exact m_iret E S hz hr hlk d_Arc_numbersThere_30
    · rw [if_neg c_2] at hF
      refine lv_iload_n hx hb d_Arc_numbersThere_12 rfl (lv_at hl 1 rfl) ?_
      refine lv_iconst (v := 1) hx hb d_Arc_numbersThere_13 (by decide) ?_
      refine lv_aload_n hx hb d_Arc_numbersThere_14 rfl (lv_at hl 0 rfl) ?_
      replace hF := Option.bind_eq_some_iff.mp hF
      obtain ⟨v_3, ev_3, hF⟩ := hF
      refine m_getR (B := B) (a := a0) E S fd_Arc_order (Or.inl qw_79) ev_3 d_Arc_numbersThere_15 ?_
      refine lv_iload_n hx hb d_Arc_numbersThere_18 rfl (lv_at hl 2 rfl) ?_
      replace hF := Option.bind_eq_some_iff.mp hF
      obtain ⟨a_4, ea_4, hF⟩ := hF
      subst ea_4
      replace hF := Option.bind_eq_some_iff.mp hF
      obtain ⟨v_5, ev_5, hF⟩ := hF
      refine m_iald (B := B) (a := a_4) (t := 0) E S rfl ev_5 d_Arc_numbersThere_19 ?_
      refine lv_ishl hx hb d_Arc_numbersThere_20 ?_
      refine lv_ior hx hb d_Arc_numbersThere_21 ?_
      refine lv_istore_n (lv' := [(1, .int (x1 ||| (1 <<< (v_5 &&& 31)))), (0, .ref (B + a0)), (2, .int x2)]) hx hb d_Arc_numbersThere_22 rfl hl (by decide) rfl (fun ls hl => ?_)
      refine lv_iinc (v := (x2 + 1)) (lv' := [(2, .int (x2 + 1)), (1, .int (x1 ||| (1 <<< (v_5 &&& 31)))), (0, .ref (B + a0))]) hx hb d_Arc_numbersThere_23 hl (k := 2) rfl rfl (by decide) rfl (fun ls hl => ?_)
      refine lv_goto (tgt := 4) hx hb d_Arc_numbersThere_26 (by decide) ?_
      exact ih _ _ _ _ _ _ hF _ _ S _ (lv_sub hl [2, 1, 0] rfl)
end S_Arc_numbersThere
def f_Arc_numbersThere  (g : m_G) (a0 : Nat) : Option (Int32 × m_G) :=
  f_Arc_numbersThere_4 m_fu g a0 0 0
set_option maxHeartbeats 1000000 in
set_option maxRecDepth 100000 in
theorem c_Arc_numbersThere (l : Launch) (D : va_G) (B : Nat) (K : Nat → ClassId)  (n : Nat) (g : m_G) (a0 : Nat) (r : Int32) (g' : m_G) (hF : f_Arc_numbersThere g a0 = some (r, g')) : Met l y_Arc_numbersThere (Cond.code y_Arc_numbersThere b_Arc_numbersThere 3 (some .int) :: m_TB) ({ frames := 0, cells := 0, slots := 0, locals := 0 } : Room) (m_Pc D B K n g [.ref (B + a0)]) (m_Q D B K (some (.int r)) n g') 0 0 (fun q => B ≤ q) := by
  refine m_met (by decide) (Nat.le_of_ble_eq_true rfl) ?_
  intro p e s m args below meth c ls E hr hlk hin hsz S hl
  have E : m_V p m c b_Arc_numbersThere 3 s args R_Arc D K := E
  have hz : s.heap.size + 0 = B + n := hsz
  have hl : lv_has ls 3 [(0, .ref (B + a0))] := hl
  have hx := E.1.1
  have hb := E.1.2.1
  have hts := E.1.2.2.2.2
  unfold f_Arc_numbersThere at hF
  refine lv_iconst (v := 0) hx hb d_Arc_numbersThere_0 (by decide) ?_
  refine lv_istore_n (lv' := [(1, .int 0), (0, .ref (B + a0))]) hx hb d_Arc_numbersThere_1 rfl hl (by decide) rfl (fun ls hl => ?_)
  refine lv_iconst (v := 0) hx hb d_Arc_numbersThere_2 (by decide) ?_
  refine lv_istore_n (lv' := [(2, .int 0), (1, .int 0), (0, .ref (B + a0))]) hx hb d_Arc_numbersThere_3 rfl hl (by decide) rfl (fun ls hl => ?_)
  exact c_Arc_numbersThere_4 E hr hlk hz m_fu _ _ _ _ _ _ hF _ _ S _ (lv_sub hl [2, 1, 0] rfl)
def f_Query_holding  (g : m_G) (a0 : Nat) : Option (Int32 × m_G) :=
  (m_gR g a0 7 0).bind fun v_1 =>
  Option.bind v_1 fun a_2 =>
  (m_ld g a_2 0 0).bind fun v_3 =>
  (m_gR g a0 7 1).bind fun v_4 =>
  Option.bind v_4 fun a_5 =>
  (m_ld g a_5 0 0).bind fun v_6 =>
  some ((v_3 ||| v_6), g)
set_option maxHeartbeats 1000000 in
set_option maxRecDepth 100000 in
theorem c_Query_holding (l : Launch) (D : va_G) (B : Nat) (K : Nat → ClassId)  (n : Nat) (g : m_G) (a0 : Nat) (r : Int32) (g' : m_G) (hF : f_Query_holding g a0 = some (r, g')) : Met l y_Query_holding (Cond.code y_Query_holding b_Query_holding 1 (some .int) :: m_TB) ({ frames := 0, cells := 0, slots := 0, locals := 0 } : Room) (m_Pc D B K n g [.ref (B + a0)]) (m_Q D B K (some (.int r)) n g') 0 0 (fun q => B ≤ q) := by
  refine m_met (by decide) (Nat.le_of_ble_eq_true rfl) ?_
  intro p e s m args below meth c ls E hr hlk hin hsz S hl
  have E : m_V p m c b_Query_holding 1 s args R_Query D K := E
  have hz : s.heap.size + 0 = B + n := hsz
  have hl : lv_has ls 1 [(0, .ref (B + a0))] := hl
  have hx := E.1.1
  have hb := E.1.2.1
  have hts := E.1.2.2.2.2
  unfold f_Query_holding at hF
  refine lv_aload_n hx hb d_Query_holding_0 rfl (lv_at hl 0 rfl) ?_
  replace hF := Option.bind_eq_some_iff.mp hF
  obtain ⟨v_1, ev_1, hF⟩ := hF
  refine m_getR (B := B) (a := a0) E S fd_Query_any (Or.inl qw_37) ev_1 d_Query_holding_1 ?_
  refine lv_iconst (v := 0) hx hb d_Query_holding_4 (by decide) ?_
  replace hF := Option.bind_eq_some_iff.mp hF
  obtain ⟨a_2, ea_2, hF⟩ := hF
  subst ea_2
  replace hF := Option.bind_eq_some_iff.mp hF
  obtain ⟨v_3, ev_3, hF⟩ := hF
  refine m_iald (B := B) (a := a_2) (t := 0) E S rfl ev_3 d_Query_holding_5 ?_
  refine lv_aload_n hx hb d_Query_holding_6 rfl (lv_at hl 0 rfl) ?_
  replace hF := Option.bind_eq_some_iff.mp hF
  obtain ⟨v_4, ev_4, hF⟩ := hF
  refine m_getR (B := B) (a := a0) E S fd_Query_all (Or.inl qw_38) ev_4 d_Query_holding_7 ?_
  refine lv_iconst (v := 0) hx hb d_Query_holding_10 (by decide) ?_
  replace hF := Option.bind_eq_some_iff.mp hF
  obtain ⟨a_5, ea_5, hF⟩ := hF
  subst ea_5
  replace hF := Option.bind_eq_some_iff.mp hF
  obtain ⟨v_6, ev_6, hF⟩ := hF
  refine m_iald (B := B) (a := a_5) (t := 0) E S rfl ev_6 d_Query_holding_11 ?_
  refine lv_ior hx hb d_Query_holding_12 ?_
  cases hF
  exact m_iret E S hz hr hlk d_Query_holding_13
def f_Query_beginOne  (g : m_G) (a0 : Nat) : Option (Unit × m_G) :=
  (m_pI g a0 7 5 0).bind fun g_1 =>
  (m_pI g_1 a0 7 6 (-1)).bind fun g_2 =>
  (m_gR g_2 a0 7 3).bind fun v_3 =>
  Option.bind v_3 fun a_4 =>
  m_gd (m_is g_2 a_4 3) <|
  m_bd (f_Letters_clear g_2 a_4) fun v_6 g_5 =>
  some ((), g_5)
set_option maxHeartbeats 1000000 in
set_option maxRecDepth 100000 in
theorem c_Query_beginOne (l : Launch) (D : va_G) (B : Nat) (K : Nat → ClassId)  (n : Nat) (g : m_G) (a0 : Nat) (r : Unit) (g' : m_G) (hF : f_Query_beginOne g a0 = some (r, g')) : Met l y_Query_beginOne (Cond.code y_Query_beginOne b_Query_beginOne 1 none :: m_TB) ({ frames := 1, cells := 0, slots := 0, locals := 20 } : Room) (m_Pc D B K n g [.ref (B + a0)]) (m_Q D B K none n g') 0 0 (fun q => B ≤ q) := by
  refine m_met (by decide) (Nat.le_of_ble_eq_true rfl) ?_
  intro p e s m args below meth c ls E hr hlk hin hsz S hl
  have E : m_V p m c b_Query_beginOne 1 s args R_Query D K := E
  have hz : s.heap.size + 0 = B + n := hsz
  have hl : lv_has ls 1 [(0, .ref (B + a0))] := hl
  have hx := E.1.1
  have hb := E.1.2.1
  have hts := E.1.2.2.2.2
  unfold f_Query_beginOne at hF
  refine lv_aload_n hx hb d_Query_beginOne_0 rfl (lv_at hl 0 rfl) ?_
  refine lv_iconst (v := 0) hx hb d_Query_beginOne_1 (by decide) ?_
  replace hF := Option.bind_eq_some_iff.mp hF
  obtain ⟨g_1, eg_1, hF⟩ := hF
  refine m_putI (B := B) (a := a0) E S fd_Query_state (Or.inl qw_44) eg_1 d_Query_beginOne_2 (fun H locs S => ?_)
  refine lv_aload_n hx hb d_Query_beginOne_5 rfl (lv_at hl 0 rfl) ?_
  refine lv_iconst (v := (-1)) hx hb d_Query_beginOne_6 (by decide) ?_
  replace hF := Option.bind_eq_some_iff.mp hF
  obtain ⟨g_2, eg_2, hF⟩ := hF
  refine m_putI (B := B) (a := a0) E S fd_Query_inField (Or.inl qw_45) eg_2 d_Query_beginOne_7 (fun H locs S => ?_)
  refine lv_aload_n hx hb d_Query_beginOne_10 rfl (lv_at hl 0 rfl) ?_
  replace hF := Option.bind_eq_some_iff.mp hF
  obtain ⟨v_3, ev_3, hF⟩ := hF
  refine m_getR (B := B) (a := a0) E S fd_Query_letters (Or.inl qw_42) ev_3 d_Query_beginOne_11 ?_
  replace hF := Option.bind_eq_some_iff.mp hF
  obtain ⟨a_4, ea_4, hF⟩ := hF
  subst ea_4
  replace hF := m_gd_inv hF
  obtain ⟨eog_5, hF⟩ := hF
  replace hF := m_bd_inv hF
  obtain ⟨v_6, g_5, eg_5, hF⟩ := hF
  refine m_callV (B := B) (nn := 0) (b := a_4) (As := []) (rest := []) (v := none) E S hz (c_Letters_clear l D B K n g_2 a_4 v_6 g_5 eg_5) qc_Letters_clear ⟨rfl, rfl⟩ (Or.inr ⟨_, qn_56⟩) qw_133 qw_134 qw_31 (by decide +kernel) ⟨Nat.le_of_ble_eq_true rfl, Nat.le_of_ble_eq_true rfl⟩ eog_5 rfl rfl hl.1 (Nat.le_of_ble_eq_true rfl) d_Query_beginOne_14 ⟨Nat.le_of_ble_eq_true rfl, Nat.le_of_ble_eq_true rfl⟩ (fun H locs S => ?_)
  refine W.eq (g2 := F0 m 17 ls []) rfl ?_
  cases hF
  skip
  exact m_vret E S hz hr hlk d_Query_beginOne_17
def f_Query_beginLevel  (g : m_G) (a0 : Nat) : Option (Unit × m_G) :=
  (m_gR g a0 7 0).bind fun v_1 =>
  (m_gI g a0 7 4).bind fun v_2 =>
  Option.bind v_1 fun a_3 =>
  (m_st g a_3 0 v_2 0).bind fun g_4 =>
  (m_gR g_4 a0 7 1).bind fun v_5 =>
  (m_gI g_4 a0 7 4).bind fun v_6 =>
  Option.bind v_5 fun a_7 =>
  (m_st g_4 a_7 0 v_6 (-1)).bind fun g_8 =>
  (m_gR g_8 a0 7 2).bind fun v_9 =>
  (m_gI g_8 a0 7 4).bind fun v_10 =>
  Option.bind v_9 fun a_11 =>
  (m_st g_8 a_11 3 v_10 (vp_nar .boolean 0)).bind fun g_12 =>
  m_gd (m_is g_12 a0 7) <|
  m_bd (f_Query_beginOne g_12 a0) fun v_14 g_13 =>
  some ((), g_13)
set_option maxHeartbeats 1000000 in
set_option maxRecDepth 100000 in
theorem c_Query_beginLevel (l : Launch) (D : va_G) (B : Nat) (K : Nat → ClassId)  (n : Nat) (g : m_G) (a0 : Nat) (r : Unit) (g' : m_G) (hF : f_Query_beginLevel g a0 = some (r, g')) : Met l y_Query_beginLevel (Cond.code y_Query_beginLevel b_Query_beginLevel 1 none :: m_TB) ({ frames := 2, cells := 0, slots := 0, locals := 40 } : Room) (m_Pc D B K n g [.ref (B + a0)]) (m_Q D B K none n g') 0 0 (fun q => B ≤ q) := by
  refine m_met (by decide) (Nat.le_of_ble_eq_true rfl) ?_
  intro p e s m args below meth c ls E hr hlk hin hsz S hl
  have E : m_V p m c b_Query_beginLevel 1 s args R_Query D K := E
  have hz : s.heap.size + 0 = B + n := hsz
  have hl : lv_has ls 1 [(0, .ref (B + a0))] := hl
  have hx := E.1.1
  have hb := E.1.2.1
  have hts := E.1.2.2.2.2
  unfold f_Query_beginLevel at hF
  refine lv_aload_n hx hb d_Query_beginLevel_0 rfl (lv_at hl 0 rfl) ?_
  replace hF := Option.bind_eq_some_iff.mp hF
  obtain ⟨v_1, ev_1, hF⟩ := hF
  refine m_getR (B := B) (a := a0) E S fd_Query_any (Or.inl qw_37) ev_1 d_Query_beginLevel_1 ?_
  refine lv_aload_n hx hb d_Query_beginLevel_4 rfl (lv_at hl 0 rfl) ?_
  replace hF := Option.bind_eq_some_iff.mp hF
  obtain ⟨v_2, ev_2, hF⟩ := hF
  refine m_getI (B := B) (a := a0) E S fd_Query_level (Or.inl qw_43) ev_2 d_Query_beginLevel_5 ?_
  refine lv_iconst (v := 0) hx hb d_Query_beginLevel_8 (by decide) ?_
  replace hF := Option.bind_eq_some_iff.mp hF
  obtain ⟨a_3, ea_3, hF⟩ := hF
  subst ea_3
  replace hF := Option.bind_eq_some_iff.mp hF
  obtain ⟨g_4, eg_4, hF⟩ := hF
  refine m_iast (B := B) (a := a_3) (t := 0) E S rfl eg_4 d_Query_beginLevel_9 (fun H locs S => ?_)
  refine lv_aload_n hx hb d_Query_beginLevel_10 rfl (lv_at hl 0 rfl) ?_
  replace hF := Option.bind_eq_some_iff.mp hF
  obtain ⟨v_5, ev_5, hF⟩ := hF
  refine m_getR (B := B) (a := a0) E S fd_Query_all (Or.inl qw_38) ev_5 d_Query_beginLevel_11 ?_
  refine lv_aload_n hx hb d_Query_beginLevel_14 rfl (lv_at hl 0 rfl) ?_
  replace hF := Option.bind_eq_some_iff.mp hF
  obtain ⟨v_6, ev_6, hF⟩ := hF
  refine m_getI (B := B) (a := a0) E S fd_Query_level (Or.inl qw_43) ev_6 d_Query_beginLevel_15 ?_
  refine lv_iconst (v := (-1)) hx hb d_Query_beginLevel_18 (by decide) ?_
  replace hF := Option.bind_eq_some_iff.mp hF
  obtain ⟨a_7, ea_7, hF⟩ := hF
  subst ea_7
  replace hF := Option.bind_eq_some_iff.mp hF
  obtain ⟨g_8, eg_8, hF⟩ := hF
  refine m_iast (B := B) (a := a_7) (t := 0) E S rfl eg_8 d_Query_beginLevel_19 (fun H locs S => ?_)
  refine lv_aload_n hx hb d_Query_beginLevel_20 rfl (lv_at hl 0 rfl) ?_
  replace hF := Option.bind_eq_some_iff.mp hF
  obtain ⟨v_9, ev_9, hF⟩ := hF
  refine m_getR (B := B) (a := a0) E S fd_Query_isNegated (Or.inl qw_40) ev_9 d_Query_beginLevel_21 ?_
  refine lv_aload_n hx hb d_Query_beginLevel_24 rfl (lv_at hl 0 rfl) ?_
  replace hF := Option.bind_eq_some_iff.mp hF
  obtain ⟨v_10, ev_10, hF⟩ := hF
  refine m_getI (B := B) (a := a0) E S fd_Query_level (Or.inl qw_43) ev_10 d_Query_beginLevel_25 ?_
  refine lv_iconst (v := 0) hx hb d_Query_beginLevel_28 (by decide) ?_
  replace hF := Option.bind_eq_some_iff.mp hF
  obtain ⟨a_11, ea_11, hF⟩ := hF
  subst ea_11
  replace hF := Option.bind_eq_some_iff.mp hF
  obtain ⟨g_12, eg_12, hF⟩ := hF
  refine m_zast (B := B) (a := a_11) (t := 3) E S rfl eg_12 d_Query_beginLevel_29 (fun H locs S => ?_)
  refine lv_aload_n hx hb d_Query_beginLevel_30 rfl (lv_at hl 0 rfl) ?_
  replace hF := m_gd_inv hF
  obtain ⟨eog_13, hF⟩ := hF
  replace hF := m_bd_inv hF
  obtain ⟨v_14, g_13, eg_13, hF⟩ := hF
  refine m_callV (B := B) (nn := 0) (b := a0) (As := []) (rest := []) (v := none) E S hz (c_Query_beginOne l D B K n g_12 a0 v_14 g_13 eg_13) qc_Query_beginOne ⟨rfl, rfl⟩ (Or.inl qw_191) qw_192 qw_193 qw_71 (by decide +kernel) ⟨Nat.le_of_ble_eq_true rfl, Nat.le_of_ble_eq_true rfl⟩ eog_13 rfl rfl hl.1 (Nat.le_of_ble_eq_true rfl) d_Query_beginLevel_31 ⟨Nat.le_of_ble_eq_true rfl, Nat.le_of_ble_eq_true rfl⟩ (fun H locs S => ?_)
  refine W.eq (g2 := F0 m 34 ls []) rfl ?_
  cases hF
  skip
  exact m_vret E S hz hr hlk d_Query_beginLevel_34
section S_Message_beginsWith
variable {p : Program} {l : Launch} {e : Env} {s : State} {m : MethodId} {args : Array Value} {below : List Frame} {meth : Method} {c : Code} {D : va_G} {B n : Nat} {K : Nat → ClassId}
def f_Message_beginsWith_6   : Nat → m_G → Int64 → Int64 → Int32 → Option (Int32 × m_G)
  | 0, _, _, _, _ => none
  | fu + 1, g, x2, x4, x6 =>
    if (12 : Int32) ≤ x6 then
      some (0, g)
    else
      if ((lg_cmp x4 x2) : Int32) = 0 then
        some (1, g)
      else
        f_Message_beginsWith_6 fu g x2 ((x4 : Int64) >>> ((5 : Int32).toInt64 &&& 63)) (x6 + 1)
set_option maxHeartbeats 1000000 in
set_option maxRecDepth 100000 in
theorem c_Message_beginsWith_6 (E : m_V p m c b_Message_beginsWith 7 s args R_Message D K) (hr : meth.sig.returnType = (some .boolean)) (hlk : meth.locks = false) (hz : s.heap.size + 0 = B + n)   : ∀ fu : Nat, ∀ (g : m_G) (x2 : Int64) (x4 : Int64) (x6 : Int32) (r : Int32) (g' : m_G), f_Message_beginsWith_6  fu g x2 x4 x6 = some (r, g') → ∀ (H : Heap) (locs : List Loc), m_S D B K n g s.heap H locs → ∀ ls : Array Slot, lv_has ls 7 [(2, .long x2), (4, .long x4), (6, .int x6)] → W p l e ({ frames := 0, cells := 0, slots := 0, locals := 0 } : Room) s m args below meth c H locs 0 0 (MQ below (m_Q D B K (some (.int r)) n g') args s 0 0 (fun q => B ≤ q)) (F0 m 6 ls []) := by
  have hx := E.1.1
  have hb := E.1.2.1
  have hts := E.1.2.2.2.2
  intro fu
  induction fu with
  | zero => intro g x2 x4 x6 r g' hF; cases hF
  | succ fu ih =>
    intro g x2 x4 x6 r g' hF H locs S ls hl
    rw [f_Message_beginsWith_6] at hF
    refine lv_iload hx hb d_Message_beginsWith_6 (lv_at hl 2 rfl) ?_
    refine lv_bipush (v := 12) hx hb d_Message_beginsWith_8 (by decide) ?_
    refine lv_icmp_ge (tgt := 34) hx hb d_Message_beginsWith_10 (by decide) (fun c_1 => ?_) (fun c_1 => ?_)
    · rw [if_pos c_1] at hF
      refine lv_iconst (v := 0) hx hb d_Message_beginsWith_34 (by decide) ?_
      cases hF
      exact m_zret E S hz hr hlk (by decide) d_Message_beginsWith_35
    · rw [if_neg c_1] at hF
      refine lv_lload hx hb d_Message_beginsWith_13 (lv_at hl 1 rfl) ?_
      refine lv_lload_n hx hb d_Message_beginsWith_15 rfl (lv_at hl 0 rfl) ?_
      refine W.lcmp hx hb d_Message_beginsWith_16 ?_
      refine lv_if_ne (tgt := 22) hx hb d_Message_beginsWith_17 (by decide) (fun c_2 => ?_) (fun c_2 => ?_)
      · rw [if_neg c_2] at hF
        refine lv_lload hx hb d_Message_beginsWith_22 (lv_at hl 1 rfl) ?_
        refine lv_iconst (v := 5) hx hb d_Message_beginsWith_24 (by decide) ?_
        refine lv_lshr hx hb d_Message_beginsWith_25 rfl ?_
        refine lv_lstore (lv' := [(4, .long ((x4 : Int64) >>> ((5 : Int32).toInt64 &&& 63))), (2, .long x2), (6, .int x6)]) hx hb d_Message_beginsWith_26 hl (by decide) rfl (fun ls hl => ?_)
        refine lv_iinc (v := (x6 + 1)) (lv' := [(6, .int (x6 + 1)), (4, .long ((x4 : Int64) >>> ((5 : Int32).toInt64 &&& 63))), (2, .long x2)]) hx hb d_Message_beginsWith_28 hl (k := 2) rfl rfl (by decide) rfl (fun ls hl => ?_)
        refine lv_goto (tgt := 6) hx hb d_Message_beginsWith_31 (by decide) ?_
        exact ih _ _ _ _ _ _ hF _ _ S _ (lv_sub hl [2, 1, 0] rfl)
      · rw [if_pos c_2] at hF
        refine lv_iconst (v := 1) hx hb d_Message_beginsWith_20 (by decide) ?_
        cases hF
        exact m_zret E S hz hr hlk (by decide) d_Message_beginsWith_21
end S_Message_beginsWith
def f_Message_beginsWith  (g : m_G) (x0 : Int64) (x2 : Int64) : Option (Int32 × m_G) :=
  f_Message_beginsWith_6 m_fu g x2 x0 0
set_option maxHeartbeats 1000000 in
set_option maxRecDepth 100000 in
theorem c_Message_beginsWith (l : Launch) (D : va_G) (B : Nat) (K : Nat → ClassId)  (n : Nat) (g : m_G) (x0 : Int64) (x2 : Int64) (r : Int32) (g' : m_G) (hF : f_Message_beginsWith g x0 x2 = some (r, g')) : Met l y_Message_beginsWith (Cond.code y_Message_beginsWith b_Message_beginsWith 7 (some .boolean) :: m_TB) ({ frames := 0, cells := 0, slots := 0, locals := 0 } : Room) (m_Pc D B K n g [.long x0, .long x2]) (m_Q D B K (some (.int r)) n g') 0 0 (fun q => B ≤ q) := by
  refine m_met (by decide) (Nat.le_of_ble_eq_true rfl) ?_
  intro p e s m args below meth c ls E hr hlk hin hsz S hl
  have E : m_V p m c b_Message_beginsWith 7 s args R_Message D K := E
  have hz : s.heap.size + 0 = B + n := hsz
  have hl : lv_has ls 7 [(0, .long x0), (2, .long x2)] := hl
  have hx := E.1.1
  have hb := E.1.2.1
  have hts := E.1.2.2.2.2
  unfold f_Message_beginsWith at hF
  refine lv_lload_n hx hb d_Message_beginsWith_0 rfl (lv_at hl 0 rfl) ?_
  refine lv_lstore (lv' := [(4, .long x0), (0, .long x0), (2, .long x2)]) hx hb d_Message_beginsWith_1 hl (by decide) rfl (fun ls hl => ?_)
  refine lv_iconst (v := 0) hx hb d_Message_beginsWith_3 (by decide) ?_
  refine lv_istore (lv' := [(6, .int 0), (4, .long x0), (0, .long x0), (2, .long x2)]) hx hb d_Message_beginsWith_4 hl (by decide) rfl (fun ls hl => ?_)
  exact c_Message_beginsWith_6 E hr hlk hz m_fu _ _ _ _ _ _ hF _ _ S _ (lv_sub hl [3, 1, 0] rfl)
