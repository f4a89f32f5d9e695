/-! THE CLAIM OUT OF ONE WALK OF THE LAW'S BODY. Your part is whole_start (and what it stands on); all else here is the same for every law, but numbers. -/
def R_law : String := "ThreadedArchiveLaw"
def lw_P (b : Addr) (xs : List Int32) (args : Array Value) (s : State) : Prop := args = #[.ref b] ∧ s.IntsAt b xs ∧ xs.length ≤ 2048 ∧ (Jvm.Cond.and given_1 narrow_1).before args s = true
def lw_Q (_ : Array Value) (s : State) (o : Outcome) (t : State) : Prop := o = .returned (some (.int 1)) ∧ Framed s o t [] 600000 7302250
def lw_Z (below : List Frame) (a : Array Value) (s : State) : State → Prop := fun t => ∃ o, t.status = .running ∧ Ended t below o ∧ lw_Q a s o t
/-- the law's own end, with 1 on the stack, nothing written that was there before, its room as the claim has it -/
theorem lw_ret {p : Program} {l : Launch} {e : Env} {s : State} {m : MethodId} {below : List Frame} {meth : Method} {c : Code} {b : Nat} (hx : p.tables.exec = Jvm.exec) (hb : c.code = code) (hr : meth.sig.returnType = ret) (hlocks : meth.locks = false) {pc : Nat} {H : Heap} {ls : Array Slot} (hdg : decode code pc = .ok (.ireturn, 1)) : W p l e room_1 s m #[Value.ref b] below meth c H [] 600000 7302250 (lw_Z below #[Value.ref b] s) (F0 m pc ls [.int 1]) := by
  intro T hT X
  obtain ⟨fs, hret, hrun, hended, hW, hframe⟩ := X.leave (v := some (.int 1)) (hlocks := hlocks) (fun h => by rw [hr] at h; cases h)
  have hmeth' : T.vm.method? m = some meth := X.method'
  refine ⟨T.setFrames fs, ?_, .returned (some (.int 1)), hrun, hended, rfl, ⟨_, rfl⟩, hW, hframe⟩
  jvm_step X.here [X.here.top, hx, hb, hdg, hmeth', hr, ret, narrow_b1]
  (try refine ⟨rfl, ?_⟩); (try refine ⟨rfl, ?_⟩)
  first | (intro acts; rw [hret _ acts rfl rfl rfl]) | rw [hret _ _ rfl rfl rfl]
  exact Steps.refl _
/-- what holds at the law's entry: the machine, the code, the tables' words (any of lw_tbl by 'hts w (by decide +kernel)'), the script of L ints xs at the cell b, what the Statement gives of the start (any of its parts by flat_of_before) -/
def lw_At (p : Program) (s : State) (m : MethodId) (meth : Method) (c : Code) (b L : Nat) (xs : Nat → Int32) : Prop :=
  p.tables.exec = Jvm.exec ∧ c.code = code ∧ meth.sig.returnType = ret ∧ c.maxLocals = 4 ∧ s.vm.findClass R_law = some m.cls ∧ (∀ w ∈ lw_tbl, w.before #[Value.ref b] s = true) ∧ va_X b L xs s s.heap ∧ b < s.heap.size ∧ meth.locks = false ∧ (Jvm.Cond.and given_1 narrow_1).before #[Value.ref b] s = true
theorem law_le {L i : Nat} (hL : L ≤ 2048) (hi : i ≤ L + 4) (h : ¬ Int32.ofNat L - 4 < nI i) : i + 4 ≤ L := by
  have h1 : (Int32.ofNat L - 4).toInt = (L : Int) - 4 := pk_sub_toInt (a := L) (b := 4) (by omega) (by omega)
  have h2 : (nI i).toInt = (i : Int) := nI_toInt (by omega)
  rw [Int32.lt_iff_toInt_lt, h1, h2] at h
  omega
/-- both objects answer alike, and what holds between them holds again -/
def op_two {α : Type} (I1 I2 : m_G → Prop) (fA fM : m_G → Option (α × m_G)) : Prop := ∀ g, I1 g → ∃ r g1 g2, fA g = some (r, g1) ∧ m_is g1 126 8 = true ∧ fM g1 = some (r, g2) ∧ I2 g2
def law_ops (Inv : Nat → m_G → Prop) : Prop := (∀ i g, Inv i g → m_is g 0 0 = true) ∧ (∀ i, i + 4 ≤ 2048 → ∀ x : Int32, op_two (Inv i) (Inv (i + 4)) (fun g => f_Arc_type g 0 x) (fun g => f_Mod_type g 126 x)) ∧ (∀ i, i + 4 ≤ 2048 → op_two (Inv i) (Inv (i + 4)) (fun g => f_Arc_enter g 0) (fun g => f_Mod_enter g 126)) ∧ (∀ i, i + 4 ≤ 2048 → op_two (Inv i) (Inv (i + 4)) (fun g => f_Arc_wipe g 0) (fun g => f_Mod_wipe g 126)) ∧ (∀ i, i + 4 ≤ 2048 → op_two (Inv i) (Inv (i + 4)) (fun g => f_Arc_add g 0) (fun g => f_Mod_add g 126)) ∧ (∀ i, i + 4 ≤ 2048 → ∀ x : Int32, op_two (Inv i) (Inv (i + 4)) (fun g => f_Arc_drop g 0 x) (fun g => f_Mod_drop g 126 x)) ∧ (∀ i, i + 4 ≤ 2048 → ∀ x y z : Int32, (z = 0 ∨ z = 1) → op_two (Inv i) (Inv (i + 4)) (fun g => f_Arc_tag g 0 x y z) (fun g => f_Mod_tag g 126 x y z)) ∧ (∀ i, i + 4 ≤ 2048 → op_two (Inv i) (Inv (i + 4)) (fun g => f_Arc_search g 0) (fun g => f_Mod_search g 126)) ∧ (∀ i, i + 4 ≤ 2048 → op_two (Inv i) (Inv (i + 4)) (fun g => f_Arc_errorAt g 0) (fun g => f_Mod_errorAt g 126)) ∧ (∀ i, i + 4 ≤ 2048 → ∀ x : Int32, op_two (Inv i) (Inv (i + 4)) (fun g => f_Arc_hit g 0 x) (fun g => f_Mod_hit g 126 x)) ∧ (∀ i, i + 4 ≤ 2048 → ∀ x : Int32, op_two (Inv i) (Inv (i + 4)) (fun g => f_Arc_related g 0 x) (fun g => f_Mod_related g 126 x)) ∧ (∀ i, i + 4 ≤ 2048 → ∀ x : Int32, op_two (Inv i) (Inv (i + 4)) (fun g => f_Arc_idOf g 0 x) (fun g => f_Mod_idOf g 126 x)) ∧ (∀ i, i + 4 ≤ 2048 → ∀ x : Int32, op_two (Inv i) (Inv (i + 4)) (fun g => f_Arc_answers g 0 x) (fun g => f_Mod_answers g 126 x)) ∧ (∀ i, i + 4 ≤ 2048 → ∀ x : Int32, op_two (Inv i) (Inv (i + 4)) (fun g => f_Arc_root g 0 x) (fun g => f_Mod_root g 126 x)) ∧ (∀ i, i + 4 ≤ 2048 → ∀ x y : Int32, op_two (Inv i) (Inv (i + 4)) (fun g => f_Arc_word g 0 x y) (fun g => f_Mod_word g 126 x y)) ∧ (∀ i, i + 4 ≤ 2048 → ∀ x y : Int32, op_two (Inv i) (Inv (i + 4)) (fun g => f_Arc_field g 0 x y) (fun g => f_Mod_field g 126 x y)) ∧ (∀ i, i + 4 ≤ 2048 → ∀ x : Int32, op_two (Inv i) (Inv (i + 4)) (fun g => f_Arc_count g 0 x) (fun g => f_Mod_count g 126 x))
def law_ini (Inv : Nat → m_G → Prop) : Prop := ∃ g1 g2 g3 g4, m_nw (fun _ => m_dead) 0 (.inr (0, [.null, .null, .null, .null, .null, .null, .null, .int 0, .int 0, .int 0])) = some g1 ∧ f_Arc_init 1 g1 0 = some ((), g2) ∧ m_nw g2 126 (.inr (8, [.null, .null, .int 0, .null, .null, .null, .int 0, .null, .null, .null, .int 0, .null, .null, .null, .null, .null, .null, .null, .int 0, .null, .int 0, .int 0, .null, .null, .int 0, .int 0, .long 0, .int 0])) = some g3 ∧ f_Mod_init 127 g3 126 = some ((), g4) ∧ Inv 0 g4
section LWC
variable {p : Program} {l : Launch} {e : Env} {s : State} {m : MethodId} {below : List Frame} {meth : Method} {c : Code} {D : va_G} {B : Nat} {K : Nat → ClassId} {Q : State → Prop} {b L : Nat} {xs : Nat → Int32} {x3 : Int32} {I1 I2 : m_G → Prop} {Inv : Nat → m_G → Prop}
set_option maxHeartbeats 1000000 in
set_option maxRecDepth 100000 in
theorem lw_case_0 (E : m_V p m c code 4 s #[Value.ref b] R_Law D K) (hz : s.heap.size + 145 = B + 145) (hX : va_X b L xs s s.heap) (hbl : b < s.heap.size) (hbA : ¬ B ≤ b) (h1 : vp_in (x3 + 1) L) (h2 : vp_in (x3 + 2) L) (h3 : vp_in (x3 + 3) L) (his : ∀ g, I1 g → m_is g 0 0 = true) (ho5 : ∀ x : Int32, op_two I1 I2 (fun g => f_Arc_type g 0 x) (fun g => f_Mod_type g 126 x)) (kk : (∀ (g : m_G) (H : Heap) (locs : List Loc) (ls : Array Slot), I2 g → m_S D B K 145 g s.heap H locs → lv_has ls 4 [(0, .ref b), (1, .ref (B + 0)), (2, .ref (B + 126)), (3, .int x3)] → W p l e room_1 s m #[Value.ref b] below meth c H locs 145 5768 Q (F0 m 487 ls []))) : (∀ (g : m_G) (H : Heap) (locs : List Loc) (ls : Array Slot), I1 g → m_S D B K 145 g s.heap H locs → lv_has ls 4 [(0, .ref b), (1, .ref (B + 0)), (2, .ref (B + 126)), (3, .int x3)] → W p l e room_1 s m #[Value.ref b] below meth c H locs 145 5768 Q (F0 m 112 ls [])) := by
  intro g H locs ls hg S hl
  have hx := E.1.1
  have hb := E.1.2.1
  have h0 := his g hg
  obtain ⟨r, g1, g2, e1, ho, e2, hI⟩ := ho5 (xs (x3 + 1).toNatClampNeg) g hg
  dsimp only at e1 e2
  refine lv_aload_n hx hb d_Law_law_112 rfl (lv_at hl 1 rfl) ?_
  refine lv_aload_n hx hb d_Law_law_113 rfl (lv_at hl 0 rfl) ?_
  refine lv_iload_n hx hb d_Law_law_114 rfl (lv_at hl 3 rfl) ?_
  refine lv_iconst (v := 1) hx hb d_Law_law_115 (by decide) ?_
  refine lv_iadd hx hb d_Law_law_116 ?_
  refine va_sld (A := fun q => B ≤ q) hx hb hX hbl hbA S.2.1 h1 d_Law_law_117 ?_
  refine m_callV (B := B) (nn := 1) (b := 0) (As := [.int (xs (x3 + 1).toNatClampNeg)]) (rest := []) (v := (some (.int r))) E S hz (c_Arc_type l D B K 145 g 0 (xs (x3 + 1).toNatClampNeg) r g1 e1) qc_Arc_type ⟨rfl, rfl⟩ (Or.inl qw_426) qw_427 qw_428 qw_105 (by decide +kernel) ⟨Nat.le_of_ble_eq_true rfl, Nat.le_of_ble_eq_true rfl⟩ h0 rfl rfl hl.1 (Nat.le_of_ble_eq_true rfl) d_Law_law_118 ⟨Nat.le_of_ble_eq_true rfl, Nat.le_of_ble_eq_true rfl⟩ (fun H locs S => ?_)
  refine W.eq (g2 := F0 m 121 ls [.int r]) rfl ?_
  refine lv_aload_n hx hb d_Law_law_121 rfl (lv_at hl 2 rfl) ?_
  refine lv_aload_n hx hb d_Law_law_122 rfl (lv_at hl 0 rfl) ?_
  refine lv_iload_n hx hb d_Law_law_123 rfl (lv_at hl 3 rfl) ?_
  refine lv_iconst (v := 1) hx hb d_Law_law_124 (by decide) ?_
  refine lv_iadd hx hb d_Law_law_125 ?_
  refine va_sld (A := fun q => B ≤ q) hx hb hX hbl hbA S.2.1 h1 d_Law_law_126 ?_
  refine m_callV (B := B) (nn := 1) (b := 126) (As := [.int (xs (x3 + 1).toNatClampNeg)]) (rest := [.int r]) (v := (some (.int r))) E S hz (c_Mod_type l D B K 145 g1 126 (xs (x3 + 1).toNatClampNeg) r g2 e2) qc_Mod_type ⟨rfl, rfl⟩ (Or.inl qw_429) qw_430 qw_431 qw_304 (by decide +kernel) ⟨Nat.le_of_ble_eq_true rfl, Nat.le_of_ble_eq_true rfl⟩ ho rfl rfl hl.1 (Nat.le_of_ble_eq_true rfl) d_Law_law_127 ⟨Nat.le_of_ble_eq_true rfl, Nat.le_of_ble_eq_true rfl⟩ (fun H locs S => ?_)
  refine W.eq (g2 := F0 m 130 ls [.int r, .int r]) rfl ?_
  refine lv_icmp_eq (tgt := 487) hx hb d_Law_law_130 (by decide) (fun _ => ?_) (fun q => absurd rfl q)
  exact kk g2 H locs ls hI S hl
set_option maxHeartbeats 1000000 in
set_option maxRecDepth 100000 in
theorem lw_case_1 (E : m_V p m c code 4 s #[Value.ref b] R_Law D K) (hz : s.heap.size + 145 = B + 145) (hX : va_X b L xs s s.heap) (hbl : b < s.heap.size) (hbA : ¬ B ≤ b) (h1 : vp_in (x3 + 1) L) (h2 : vp_in (x3 + 2) L) (h3 : vp_in (x3 + 3) L) (his : ∀ g, I1 g → m_is g 0 0 = true) (ho5 : op_two I1 I2 (fun g => f_Arc_enter g 0) (fun g => f_Mod_enter g 126)) (kk : (∀ (g : m_G) (H : Heap) (locs : List Loc) (ls : Array Slot), I2 g → m_S D B K 145 g s.heap H locs → lv_has ls 4 [(0, .ref b), (1, .ref (B + 0)), (2, .ref (B + 126)), (3, .int x3)] → W p l e room_1 s m #[Value.ref b] below meth c H locs 145 5768 Q (F0 m 487 ls []))) : (∀ (g : m_G) (H : Heap) (locs : List Loc) (ls : Array Slot), I1 g → m_S D B K 145 g s.heap H locs → lv_has ls 4 [(0, .ref b), (1, .ref (B + 0)), (2, .ref (B + 126)), (3, .int x3)] → W p l e room_1 s m #[Value.ref b] below meth c H locs 145 5768 Q (F0 m 135 ls [])) := by
  intro g H locs ls hg S hl
  have hx := E.1.1
  have hb := E.1.2.1
  have h0 := his g hg
  obtain ⟨r, g1, g2, e1, ho, e2, hI⟩ := ho5  g hg
  dsimp only at e1 e2
  refine lv_aload_n hx hb d_Law_law_135 rfl (lv_at hl 1 rfl) ?_
  refine m_callV (B := B) (nn := 0) (b := 0) (As := []) (rest := []) (v := (some (.int r))) E S hz (c_Arc_enter l D B K 145 g 0  r g1 e1) qc_Arc_enter ⟨rfl, rfl⟩ (Or.inl qw_432) qw_433 qw_434 qw_105 (by decide +kernel) ⟨Nat.le_of_ble_eq_true rfl, Nat.le_of_ble_eq_true rfl⟩ h0 rfl rfl hl.1 (Nat.le_of_ble_eq_true rfl) d_Law_law_136 ⟨Nat.le_of_ble_eq_true rfl, Nat.le_of_ble_eq_true rfl⟩ (fun H locs S => ?_)
  refine W.eq (g2 := F0 m 139 ls [.int r]) rfl ?_
  refine lv_aload_n hx hb d_Law_law_139 rfl (lv_at hl 2 rfl) ?_
  refine m_callV (B := B) (nn := 0) (b := 126) (As := []) (rest := [.int r]) (v := (some (.int r))) E S hz (c_Mod_enter l D B K 145 g1 126  r g2 e2) qc_Mod_enter ⟨rfl, rfl⟩ (Or.inl qw_435) qw_436 qw_437 qw_304 (by decide +kernel) ⟨Nat.le_of_ble_eq_true rfl, Nat.le_of_ble_eq_true rfl⟩ ho rfl rfl hl.1 (Nat.le_of_ble_eq_true rfl) d_Law_law_140 ⟨Nat.le_of_ble_eq_true rfl, Nat.le_of_ble_eq_true rfl⟩ (fun H locs S => ?_)
  refine W.eq (g2 := F0 m 143 ls [.int r, .int r]) rfl ?_
  refine lv_icmp_eq (tgt := 487) hx hb d_Law_law_143 (by decide) (fun _ => ?_) (fun q => absurd rfl q)
  exact kk g2 H locs ls hI S hl
set_option maxHeartbeats 1000000 in
set_option maxRecDepth 100000 in
theorem lw_case_2 (E : m_V p m c code 4 s #[Value.ref b] R_Law D K) (hz : s.heap.size + 145 = B + 145) (hX : va_X b L xs s s.heap) (hbl : b < s.heap.size) (hbA : ¬ B ≤ b) (h1 : vp_in (x3 + 1) L) (h2 : vp_in (x3 + 2) L) (h3 : vp_in (x3 + 3) L) (his : ∀ g, I1 g → m_is g 0 0 = true) (ho5 : op_two I1 I2 (fun g => f_Arc_wipe g 0) (fun g => f_Mod_wipe g 126)) (kk : (∀ (g : m_G) (H : Heap) (locs : List Loc) (ls : Array Slot), I2 g → m_S D B K 145 g s.heap H locs → lv_has ls 4 [(0, .ref b), (1, .ref (B + 0)), (2, .ref (B + 126)), (3, .int x3)] → W p l e room_1 s m #[Value.ref b] below meth c H locs 145 5768 Q (F0 m 487 ls []))) : (∀ (g : m_G) (H : Heap) (locs : List Loc) (ls : Array Slot), I1 g → m_S D B K 145 g s.heap H locs → lv_has ls 4 [(0, .ref b), (1, .ref (B + 0)), (2, .ref (B + 126)), (3, .int x3)] → W p l e room_1 s m #[Value.ref b] below meth c H locs 145 5768 Q (F0 m 148 ls [])) := by
  intro g H locs ls hg S hl
  have hx := E.1.1
  have hb := E.1.2.1
  have h0 := his g hg
  obtain ⟨r, g1, g2, e1, ho, e2, hI⟩ := ho5  g hg
  dsimp only at e1 e2
  refine lv_aload_n hx hb d_Law_law_148 rfl (lv_at hl 1 rfl) ?_
  refine m_callV (B := B) (nn := 0) (b := 0) (As := []) (rest := []) (v := (some (.int r))) E S hz (c_Arc_wipe l D B K 145 g 0  r g1 e1) qc_Arc_wipe ⟨rfl, rfl⟩ (Or.inl qw_438) qw_439 qw_440 qw_105 (by decide +kernel) ⟨Nat.le_of_ble_eq_true rfl, Nat.le_of_ble_eq_true rfl⟩ h0 rfl rfl hl.1 (Nat.le_of_ble_eq_true rfl) d_Law_law_149 ⟨Nat.le_of_ble_eq_true rfl, Nat.le_of_ble_eq_true rfl⟩ (fun H locs S => ?_)
  refine W.eq (g2 := F0 m 152 ls [.int r]) rfl ?_
  refine lv_aload_n hx hb d_Law_law_152 rfl (lv_at hl 2 rfl) ?_
  refine m_callV (B := B) (nn := 0) (b := 126) (As := []) (rest := [.int r]) (v := (some (.int r))) E S hz (c_Mod_wipe l D B K 145 g1 126  r g2 e2) qc_Mod_wipe ⟨rfl, rfl⟩ (Or.inl qw_441) qw_442 qw_443 qw_304 (by decide +kernel) ⟨Nat.le_of_ble_eq_true rfl, Nat.le_of_ble_eq_true rfl⟩ ho rfl rfl hl.1 (Nat.le_of_ble_eq_true rfl) d_Law_law_153 ⟨Nat.le_of_ble_eq_true rfl, Nat.le_of_ble_eq_true rfl⟩ (fun H locs S => ?_)
  refine W.eq (g2 := F0 m 156 ls [.int r, .int r]) rfl ?_
  refine lv_icmp_eq (tgt := 487) hx hb d_Law_law_156 (by decide) (fun _ => ?_) (fun q => absurd rfl q)
  exact kk g2 H locs ls hI S hl
set_option maxHeartbeats 1000000 in
set_option maxRecDepth 100000 in
theorem lw_case_3 (E : m_V p m c code 4 s #[Value.ref b] R_Law D K) (hz : s.heap.size + 145 = B + 145) (hX : va_X b L xs s s.heap) (hbl : b < s.heap.size) (hbA : ¬ B ≤ b) (h1 : vp_in (x3 + 1) L) (h2 : vp_in (x3 + 2) L) (h3 : vp_in (x3 + 3) L) (his : ∀ g, I1 g → m_is g 0 0 = true) (ho5 : op_two I1 I2 (fun g => f_Arc_add g 0) (fun g => f_Mod_add g 126)) (kk : (∀ (g : m_G) (H : Heap) (locs : List Loc) (ls : Array Slot), I2 g → m_S D B K 145 g s.heap H locs → lv_has ls 4 [(0, .ref b), (1, .ref (B + 0)), (2, .ref (B + 126)), (3, .int x3)] → W p l e room_1 s m #[Value.ref b] below meth c H locs 145 5768 Q (F0 m 487 ls []))) : (∀ (g : m_G) (H : Heap) (locs : List Loc) (ls : Array Slot), I1 g → m_S D B K 145 g s.heap H locs → lv_has ls 4 [(0, .ref b), (1, .ref (B + 0)), (2, .ref (B + 126)), (3, .int x3)] → W p l e room_1 s m #[Value.ref b] below meth c H locs 145 5768 Q (F0 m 161 ls [])) := by
  intro g H locs ls hg S hl
  have hx := E.1.1
  have hb := E.1.2.1
  have h0 := his g hg
  obtain ⟨r, g1, g2, e1, ho, e2, hI⟩ := ho5  g hg
  dsimp only at e1 e2
  refine lv_aload_n hx hb d_Law_law_161 rfl (lv_at hl 1 rfl) ?_
  refine m_callV (B := B) (nn := 0) (b := 0) (As := []) (rest := []) (v := (some (.int r))) E S hz (c_Arc_add l D B K 145 g 0  r g1 e1) qc_Arc_add ⟨rfl, rfl⟩ (Or.inl qw_444) qw_445 qw_446 qw_105 (by decide +kernel) ⟨Nat.le_of_ble_eq_true rfl, Nat.le_of_ble_eq_true rfl⟩ h0 rfl rfl hl.1 (Nat.le_of_ble_eq_true rfl) d_Law_law_162 ⟨Nat.le_of_ble_eq_true rfl, Nat.le_of_ble_eq_true rfl⟩ (fun H locs S => ?_)
  refine W.eq (g2 := F0 m 165 ls [.int r]) rfl ?_
  refine lv_aload_n hx hb d_Law_law_165 rfl (lv_at hl 2 rfl) ?_
  refine m_callV (B := B) (nn := 0) (b := 126) (As := []) (rest := [.int r]) (v := (some (.int r))) E S hz (c_Mod_add l D B K 145 g1 126  r g2 e2) qc_Mod_add ⟨rfl, rfl⟩ (Or.inl qw_447) qw_448 qw_449 qw_304 (by decide +kernel) ⟨Nat.le_of_ble_eq_true rfl, Nat.le_of_ble_eq_true rfl⟩ ho rfl rfl hl.1 (Nat.le_of_ble_eq_true rfl) d_Law_law_166 ⟨Nat.le_of_ble_eq_true rfl, Nat.le_of_ble_eq_true rfl⟩ (fun H locs S => ?_)
  refine W.eq (g2 := F0 m 169 ls [.int r, .int r]) rfl ?_
  refine lv_icmp_eq (tgt := 487) hx hb d_Law_law_169 (by decide) (fun _ => ?_) (fun q => absurd rfl q)
  exact kk g2 H locs ls hI S hl
set_option maxHeartbeats 1000000 in
set_option maxRecDepth 100000 in
theorem lw_case_4 (E : m_V p m c code 4 s #[Value.ref b] R_Law D K) (hz : s.heap.size + 145 = B + 145) (hX : va_X b L xs s s.heap) (hbl : b < s.heap.size) (hbA : ¬ B ≤ b) (h1 : vp_in (x3 + 1) L) (h2 : vp_in (x3 + 2) L) (h3 : vp_in (x3 + 3) L) (his : ∀ g, I1 g → m_is g 0 0 = true) (ho5 : ∀ x : Int32, op_two I1 I2 (fun g => f_Arc_drop g 0 x) (fun g => f_Mod_drop g 126 x)) (kk : (∀ (g : m_G) (H : Heap) (locs : List Loc) (ls : Array Slot), I2 g → m_S D B K 145 g s.heap H locs → lv_has ls 4 [(0, .ref b), (1, .ref (B + 0)), (2, .ref (B + 126)), (3, .int x3)] → W p l e room_1 s m #[Value.ref b] below meth c H locs 145 5768 Q (F0 m 487 ls []))) : (∀ (g : m_G) (H : Heap) (locs : List Loc) (ls : Array Slot), I1 g → m_S D B K 145 g s.heap H locs → lv_has ls 4 [(0, .ref b), (1, .ref (B + 0)), (2, .ref (B + 126)), (3, .int x3)] → W p l e room_1 s m #[Value.ref b] below meth c H locs 145 5768 Q (F0 m 174 ls [])) := by
  intro g H locs ls hg S hl
  have hx := E.1.1
  have hb := E.1.2.1
  have h0 := his g hg
  obtain ⟨r, g1, g2, e1, ho, e2, hI⟩ := ho5 (xs (x3 + 1).toNatClampNeg) g hg
  dsimp only at e1 e2
  refine lv_aload_n hx hb d_Law_law_174 rfl (lv_at hl 1 rfl) ?_
  refine lv_aload_n hx hb d_Law_law_175 rfl (lv_at hl 0 rfl) ?_
  refine lv_iload_n hx hb d_Law_law_176 rfl (lv_at hl 3 rfl) ?_
  refine lv_iconst (v := 1) hx hb d_Law_law_177 (by decide) ?_
  refine lv_iadd hx hb d_Law_law_178 ?_
  refine va_sld (A := fun q => B ≤ q) hx hb hX hbl hbA S.2.1 h1 d_Law_law_179 ?_
  refine m_callV (B := B) (nn := 1) (b := 0) (As := [.int (xs (x3 + 1).toNatClampNeg)]) (rest := []) (v := (some (.int r))) E S hz (c_Arc_drop l D B K 145 g 0 (xs (x3 + 1).toNatClampNeg) r g1 e1) qc_Arc_drop ⟨rfl, rfl⟩ (Or.inl qw_450) qw_451 qw_452 qw_105 (by decide +kernel) ⟨Nat.le_of_ble_eq_true rfl, Nat.le_of_ble_eq_true rfl⟩ h0 rfl rfl hl.1 (Nat.le_of_ble_eq_true rfl) d_Law_law_180 ⟨Nat.le_of_ble_eq_true rfl, Nat.le_of_ble_eq_true rfl⟩ (fun H locs S => ?_)
  refine W.eq (g2 := F0 m 183 ls [.int r]) rfl ?_
  refine lv_aload_n hx hb d_Law_law_183 rfl (lv_at hl 2 rfl) ?_
  refine lv_aload_n hx hb d_Law_law_184 rfl (lv_at hl 0 rfl) ?_
  refine lv_iload_n hx hb d_Law_law_185 rfl (lv_at hl 3 rfl) ?_
  refine lv_iconst (v := 1) hx hb d_Law_law_186 (by decide) ?_
  refine lv_iadd hx hb d_Law_law_187 ?_
  refine va_sld (A := fun q => B ≤ q) hx hb hX hbl hbA S.2.1 h1 d_Law_law_188 ?_
  refine m_callV (B := B) (nn := 1) (b := 126) (As := [.int (xs (x3 + 1).toNatClampNeg)]) (rest := [.int r]) (v := (some (.int r))) E S hz (c_Mod_drop l D B K 145 g1 126 (xs (x3 + 1).toNatClampNeg) r g2 e2) qc_Mod_drop ⟨rfl, rfl⟩ (Or.inl qw_453) qw_454 qw_455 qw_304 (by decide +kernel) ⟨Nat.le_of_ble_eq_true rfl, Nat.le_of_ble_eq_true rfl⟩ ho rfl rfl hl.1 (Nat.le_of_ble_eq_true rfl) d_Law_law_189 ⟨Nat.le_of_ble_eq_true rfl, Nat.le_of_ble_eq_true rfl⟩ (fun H locs S => ?_)
  refine W.eq (g2 := F0 m 192 ls [.int r, .int r]) rfl ?_
  refine lv_icmp_eq (tgt := 487) hx hb d_Law_law_192 (by decide) (fun _ => ?_) (fun q => absurd rfl q)
  exact kk g2 H locs ls hI S hl
set_option maxHeartbeats 1000000 in
set_option maxRecDepth 100000 in
theorem lw_case_5 (E : m_V p m c code 4 s #[Value.ref b] R_Law D K) (hz : s.heap.size + 145 = B + 145) (hX : va_X b L xs s s.heap) (hbl : b < s.heap.size) (hbA : ¬ B ≤ b) (h1 : vp_in (x3 + 1) L) (h2 : vp_in (x3 + 2) L) (h3 : vp_in (x3 + 3) L) (his : ∀ g, I1 g → m_is g 0 0 = true) (ho5 : ∀ x y z : Int32, (z = 0 ∨ z = 1) → op_two I1 I2 (fun g => f_Arc_tag g 0 x y z) (fun g => f_Mod_tag g 126 x y z)) (kk : (∀ (g : m_G) (H : Heap) (locs : List Loc) (ls : Array Slot), I2 g → m_S D B K 145 g s.heap H locs → lv_has ls 4 [(0, .ref b), (1, .ref (B + 0)), (2, .ref (B + 126)), (3, .int x3)] → W p l e room_1 s m #[Value.ref b] below meth c H locs 145 5768 Q (F0 m 487 ls []))) : (∀ (g : m_G) (H : Heap) (locs : List Loc) (ls : Array Slot), I1 g → m_S D B K 145 g s.heap H locs → lv_has ls 4 [(0, .ref b), (1, .ref (B + 0)), (2, .ref (B + 126)), (3, .int x3)] → W p l e room_1 s m #[Value.ref b] below meth c H locs 145 5768 Q (F0 m 197 ls [])) := by
  intro g H locs ls hg S hl
  have hx := E.1.1
  have hb := E.1.2.1
  have h0 := his g hg
  by_cases hzz : xs (x3 + 3).toNatClampNeg = 0
  · obtain ⟨r, g1, g2, e1, ho, e2, hI⟩ := ho5 (xs (x3 + 1).toNatClampNeg) (xs (x3 + 2).toNatClampNeg) 0 (Or.inl rfl) g hg
    dsimp only at e1 e2
    refine lv_aload_n hx hb d_Law_law_197 rfl (lv_at hl 1 rfl) ?_
    refine lv_aload_n hx hb d_Law_law_198 rfl (lv_at hl 0 rfl) ?_
    refine lv_iload_n hx hb d_Law_law_199 rfl (lv_at hl 3 rfl) ?_
    refine lv_iconst (v := 1) hx hb d_Law_law_200 (by decide) ?_
    refine lv_iadd hx hb d_Law_law_201 ?_
    refine va_sld (A := fun q => B ≤ q) hx hb hX hbl hbA S.2.1 h1 d_Law_law_202 ?_
    refine lv_aload_n hx hb d_Law_law_203 rfl (lv_at hl 0 rfl) ?_
    refine lv_iload_n hx hb d_Law_law_204 rfl (lv_at hl 3 rfl) ?_
    refine lv_iconst (v := 2) hx hb d_Law_law_205 (by decide) ?_
    refine lv_iadd hx hb d_Law_law_206 ?_
    refine va_sld (A := fun q => B ≤ q) hx hb hX hbl hbA S.2.1 h2 d_Law_law_207 ?_
    refine lv_aload_n hx hb d_Law_law_208 rfl (lv_at hl 0 rfl) ?_
    refine lv_iload_n hx hb d_Law_law_209 rfl (lv_at hl 3 rfl) ?_
    refine lv_iconst (v := 3) hx hb d_Law_law_210 (by decide) ?_
    refine lv_iadd hx hb d_Law_law_211 ?_
    refine va_sld (A := fun q => B ≤ q) hx hb hX hbl hbA S.2.1 h3 d_Law_law_212 ?_
    refine lv_if_eq (tgt := 220) hx hb d_Law_law_213 (by decide) (fun _ => ?_) (fun q => absurd hzz q)
    refine lv_iconst (v := 0) hx hb d_Law_law_220 (by decide) ?_
    refine m_callV (B := B) (nn := 3) (b := 0) (As := [.int (xs (x3 + 1).toNatClampNeg), .int (xs (x3 + 2).toNatClampNeg), .int 0]) (rest := []) (v := (some (.int r))) E S hz (c_Arc_tag l D B K 145 g 0 (xs (x3 + 1).toNatClampNeg) (xs (x3 + 2).toNatClampNeg) 0 r g1 e1) qc_Arc_tag ⟨rfl, rfl⟩ (Or.inl qw_456) qw_457 qw_458 qw_105 (by decide +kernel) ⟨Nat.le_of_ble_eq_true rfl, Nat.le_of_ble_eq_true rfl⟩ h0 rfl rfl hl.1 (Nat.le_of_ble_eq_true rfl) d_Law_law_221 ⟨Nat.le_of_ble_eq_true rfl, Nat.le_of_ble_eq_true rfl⟩ (fun H locs S => ?_)
    refine W.eq (g2 := F0 m 224 ls [.int r]) rfl ?_
    refine lv_aload_n hx hb d_Law_law_224 rfl (lv_at hl 2 rfl) ?_
    refine lv_aload_n hx hb d_Law_law_225 rfl (lv_at hl 0 rfl) ?_
    refine lv_iload_n hx hb d_Law_law_226 rfl (lv_at hl 3 rfl) ?_
    refine lv_iconst (v := 1) hx hb d_Law_law_227 (by decide) ?_
    refine lv_iadd hx hb d_Law_law_228 ?_
    refine va_sld (A := fun q => B ≤ q) hx hb hX hbl hbA S.2.1 h1 d_Law_law_229 ?_
    refine lv_aload_n hx hb d_Law_law_230 rfl (lv_at hl 0 rfl) ?_
    refine lv_iload_n hx hb d_Law_law_231 rfl (lv_at hl 3 rfl) ?_
    refine lv_iconst (v := 2) hx hb d_Law_law_232 (by decide) ?_
    refine lv_iadd hx hb d_Law_law_233 ?_
    refine va_sld (A := fun q => B ≤ q) hx hb hX hbl hbA S.2.1 h2 d_Law_law_234 ?_
    refine lv_aload_n hx hb d_Law_law_235 rfl (lv_at hl 0 rfl) ?_
    refine lv_iload_n hx hb d_Law_law_236 rfl (lv_at hl 3 rfl) ?_
    refine lv_iconst (v := 3) hx hb d_Law_law_237 (by decide) ?_
    refine lv_iadd hx hb d_Law_law_238 ?_
    refine va_sld (A := fun q => B ≤ q) hx hb hX hbl hbA S.2.1 h3 d_Law_law_239 ?_
    refine lv_if_eq (tgt := 247) hx hb d_Law_law_240 (by decide) (fun _ => ?_) (fun q => absurd hzz q)
    refine lv_iconst (v := 0) hx hb d_Law_law_247 (by decide) ?_
    refine m_callV (B := B) (nn := 3) (b := 126) (As := [.int (xs (x3 + 1).toNatClampNeg), .int (xs (x3 + 2).toNatClampNeg), .int 0]) (rest := [.int r]) (v := (some (.int r))) E S hz (c_Mod_tag l D B K 145 g1 126 (xs (x3 + 1).toNatClampNeg) (xs (x3 + 2).toNatClampNeg) 0 r g2 e2) qc_Mod_tag ⟨rfl, rfl⟩ (Or.inl qw_459) qw_460 qw_461 qw_304 (by decide +kernel) ⟨Nat.le_of_ble_eq_true rfl, Nat.le_of_ble_eq_true rfl⟩ ho rfl rfl hl.1 (Nat.le_of_ble_eq_true rfl) d_Law_law_248 ⟨Nat.le_of_ble_eq_true rfl, Nat.le_of_ble_eq_true rfl⟩ (fun H locs S => ?_)
    refine W.eq (g2 := F0 m 251 ls [.int r, .int r]) rfl ?_
    refine lv_icmp_eq (tgt := 487) hx hb d_Law_law_251 (by decide) (fun _ => ?_) (fun q => absurd rfl q)
    exact kk g2 H locs ls hI S hl
  · obtain ⟨r, g1, g2, e1, ho, e2, hI⟩ := ho5 (xs (x3 + 1).toNatClampNeg) (xs (x3 + 2).toNatClampNeg) 1 (Or.inr rfl) g hg
    dsimp only at e1 e2
    refine lv_aload_n hx hb d_Law_law_197 rfl (lv_at hl 1 rfl) ?_
    refine lv_aload_n hx hb d_Law_law_198 rfl (lv_at hl 0 rfl) ?_
    refine lv_iload_n hx hb d_Law_law_199 rfl (lv_at hl 3 rfl) ?_
    refine lv_iconst (v := 1) hx hb d_Law_law_200 (by decide) ?_
    refine lv_iadd hx hb d_Law_law_201 ?_
    refine va_sld (A := fun q => B ≤ q) hx hb hX hbl hbA S.2.1 h1 d_Law_law_202 ?_
    refine lv_aload_n hx hb d_Law_law_203 rfl (lv_at hl 0 rfl) ?_
    refine lv_iload_n hx hb d_Law_law_204 rfl (lv_at hl 3 rfl) ?_
    refine lv_iconst (v := 2) hx hb d_Law_law_205 (by decide) ?_
    refine lv_iadd hx hb d_Law_law_206 ?_
    refine va_sld (A := fun q => B ≤ q) hx hb hX hbl hbA S.2.1 h2 d_Law_law_207 ?_
    refine lv_aload_n hx hb d_Law_law_208 rfl (lv_at hl 0 rfl) ?_
    refine lv_iload_n hx hb d_Law_law_209 rfl (lv_at hl 3 rfl) ?_
    refine lv_iconst (v := 3) hx hb d_Law_law_210 (by decide) ?_
    refine lv_iadd hx hb d_Law_law_211 ?_
    refine va_sld (A := fun q => B ≤ q) hx hb hX hbl hbA S.2.1 h3 d_Law_law_212 ?_
    refine lv_if_eq (tgt := 220) hx hb d_Law_law_213 (by decide) (fun q => absurd q hzz) (fun _ => ?_)
    refine lv_iconst (v := 1) hx hb d_Law_law_216 (by decide) ?_
    refine lv_goto (tgt := 221) hx hb d_Law_law_217 (by decide) ?_
    refine m_callV (B := B) (nn := 3) (b := 0) (As := [.int (xs (x3 + 1).toNatClampNeg), .int (xs (x3 + 2).toNatClampNeg), .int 1]) (rest := []) (v := (some (.int r))) E S hz (c_Arc_tag l D B K 145 g 0 (xs (x3 + 1).toNatClampNeg) (xs (x3 + 2).toNatClampNeg) 1 r g1 e1) qc_Arc_tag ⟨rfl, rfl⟩ (Or.inl qw_456) qw_457 qw_458 qw_105 (by decide +kernel) ⟨Nat.le_of_ble_eq_true rfl, Nat.le_of_ble_eq_true rfl⟩ h0 rfl rfl hl.1 (Nat.le_of_ble_eq_true rfl) d_Law_law_221 ⟨Nat.le_of_ble_eq_true rfl, Nat.le_of_ble_eq_true rfl⟩ (fun H locs S => ?_)
    refine W.eq (g2 := F0 m 224 ls [.int r]) rfl ?_
    refine lv_aload_n hx hb d_Law_law_224 rfl (lv_at hl 2 rfl) ?_
    refine lv_aload_n hx hb d_Law_law_225 rfl (lv_at hl 0 rfl) ?_
    refine lv_iload_n hx hb d_Law_law_226 rfl (lv_at hl 3 rfl) ?_
    refine lv_iconst (v := 1) hx hb d_Law_law_227 (by decide) ?_
    refine lv_iadd hx hb d_Law_law_228 ?_
    refine va_sld (A := fun q => B ≤ q) hx hb hX hbl hbA S.2.1 h1 d_Law_law_229 ?_
    refine lv_aload_n hx hb d_Law_law_230 rfl (lv_at hl 0 rfl) ?_
    refine lv_iload_n hx hb d_Law_law_231 rfl (lv_at hl 3 rfl) ?_
    refine lv_iconst (v := 2) hx hb d_Law_law_232 (by decide) ?_
    refine lv_iadd hx hb d_Law_law_233 ?_
    refine va_sld (A := fun q => B ≤ q) hx hb hX hbl hbA S.2.1 h2 d_Law_law_234 ?_
    refine lv_aload_n hx hb d_Law_law_235 rfl (lv_at hl 0 rfl) ?_
    refine lv_iload_n hx hb d_Law_law_236 rfl (lv_at hl 3 rfl) ?_
    refine lv_iconst (v := 3) hx hb d_Law_law_237 (by decide) ?_
    refine lv_iadd hx hb d_Law_law_238 ?_
    refine va_sld (A := fun q => B ≤ q) hx hb hX hbl hbA S.2.1 h3 d_Law_law_239 ?_
    refine lv_if_eq (tgt := 247) hx hb d_Law_law_240 (by decide) (fun q => absurd q hzz) (fun _ => ?_)
    refine lv_iconst (v := 1) hx hb d_Law_law_243 (by decide) ?_
    refine lv_goto (tgt := 248) hx hb d_Law_law_244 (by decide) ?_
    refine m_callV (B := B) (nn := 3) (b := 126) (As := [.int (xs (x3 + 1).toNatClampNeg), .int (xs (x3 + 2).toNatClampNeg), .int 1]) (rest := [.int r]) (v := (some (.int r))) E S hz (c_Mod_tag l D B K 145 g1 126 (xs (x3 + 1).toNatClampNeg) (xs (x3 + 2).toNatClampNeg) 1 r g2 e2) qc_Mod_tag ⟨rfl, rfl⟩ (Or.inl qw_459) qw_460 qw_461 qw_304 (by decide +kernel) ⟨Nat.le_of_ble_eq_true rfl, Nat.le_of_ble_eq_true rfl⟩ ho rfl rfl hl.1 (Nat.le_of_ble_eq_true rfl) d_Law_law_248 ⟨Nat.le_of_ble_eq_true rfl, Nat.le_of_ble_eq_true rfl⟩ (fun H locs S => ?_)
    refine W.eq (g2 := F0 m 251 ls [.int r, .int r]) rfl ?_
    refine lv_icmp_eq (tgt := 487) hx hb d_Law_law_251 (by decide) (fun _ => ?_) (fun q => absurd rfl q)
    exact kk g2 H locs ls hI S hl
set_option maxHeartbeats 1000000 in
set_option maxRecDepth 100000 in
theorem lw_case_6 (E : m_V p m c code 4 s #[Value.ref b] R_Law D K) (hz : s.heap.size + 145 = B + 145) (hX : va_X b L xs s s.heap) (hbl : b < s.heap.size) (hbA : ¬ B ≤ b) (h1 : vp_in (x3 + 1) L) (h2 : vp_in (x3 + 2) L) (h3 : vp_in (x3 + 3) L) (his : ∀ g, I1 g → m_is g 0 0 = true) (ho5 : op_two I1 I2 (fun g => f_Arc_search g 0) (fun g => f_Mod_search g 126)) (kk : (∀ (g : m_G) (H : Heap) (locs : List Loc) (ls : Array Slot), I2 g → m_S D B K 145 g s.heap H locs → lv_has ls 4 [(0, .ref b), (1, .ref (B + 0)), (2, .ref (B + 126)), (3, .int x3)] → W p l e room_1 s m #[Value.ref b] below meth c H locs 145 5768 Q (F0 m 487 ls []))) : (∀ (g : m_G) (H : Heap) (locs : List Loc) (ls : Array Slot), I1 g → m_S D B K 145 g s.heap H locs → lv_has ls 4 [(0, .ref b), (1, .ref (B + 0)), (2, .ref (B + 126)), (3, .int x3)] → W p l e room_1 s m #[Value.ref b] below meth c H locs 145 5768 Q (F0 m 256 ls [])) := by
  intro g H locs ls hg S hl
  have hx := E.1.1
  have hb := E.1.2.1
  have h0 := his g hg
  obtain ⟨r, g1, g2, e1, ho, e2, hI⟩ := ho5  g hg
  dsimp only at e1 e2
  refine lv_aload_n hx hb d_Law_law_256 rfl (lv_at hl 1 rfl) ?_
  refine m_callV (B := B) (nn := 0) (b := 0) (As := []) (rest := []) (v := (some (.int r))) E S hz (c_Arc_search l D B K 145 g 0  r g1 e1) qc_Arc_search ⟨rfl, rfl⟩ (Or.inl qw_462) qw_463 qw_464 qw_105 (by decide +kernel) ⟨Nat.le_of_ble_eq_true rfl, Nat.le_of_ble_eq_true rfl⟩ h0 rfl rfl hl.1 (Nat.le_of_ble_eq_true rfl) d_Law_law_257 ⟨Nat.le_of_ble_eq_true rfl, Nat.le_of_ble_eq_true rfl⟩ (fun H locs S => ?_)
  refine W.eq (g2 := F0 m 260 ls [.int r]) rfl ?_
  refine lv_aload_n hx hb d_Law_law_260 rfl (lv_at hl 2 rfl) ?_
  refine m_callV (B := B) (nn := 0) (b := 126) (As := []) (rest := [.int r]) (v := (some (.int r))) E S hz (c_Mod_search l D B K 145 g1 126  r g2 e2) qc_Mod_search ⟨rfl, rfl⟩ (Or.inl qw_465) qw_466 qw_467 qw_304 (by decide +kernel) ⟨Nat.le_of_ble_eq_true rfl, Nat.le_of_ble_eq_true rfl⟩ ho rfl rfl hl.1 (Nat.le_of_ble_eq_true rfl) d_Law_law_261 ⟨Nat.le_of_ble_eq_true rfl, Nat.le_of_ble_eq_true rfl⟩ (fun H locs S => ?_)
  refine W.eq (g2 := F0 m 264 ls [.int r, .int r]) rfl ?_
  refine lv_icmp_eq (tgt := 487) hx hb d_Law_law_264 (by decide) (fun _ => ?_) (fun q => absurd rfl q)
  exact kk g2 H locs ls hI S hl
set_option maxHeartbeats 1000000 in
set_option maxRecDepth 100000 in
theorem lw_case_7 (E : m_V p m c code 4 s #[Value.ref b] R_Law D K) (hz : s.heap.size + 145 = B + 145) (hX : va_X b L xs s s.heap) (hbl : b < s.heap.size) (hbA : ¬ B ≤ b) (h1 : vp_in (x3 + 1) L) (h2 : vp_in (x3 + 2) L) (h3 : vp_in (x3 + 3) L) (his : ∀ g, I1 g → m_is g 0 0 = true) (ho5 : op_two I1 I2 (fun g => f_Arc_errorAt g 0) (fun g => f_Mod_errorAt g 126)) (kk : (∀ (g : m_G) (H : Heap) (locs : List Loc) (ls : Array Slot), I2 g → m_S D B K 145 g s.heap H locs → lv_has ls 4 [(0, .ref b), (1, .ref (B + 0)), (2, .ref (B + 126)), (3, .int x3)] → W p l e room_1 s m #[Value.ref b] below meth c H locs 145 5768 Q (F0 m 487 ls []))) : (∀ (g : m_G) (H : Heap) (locs : List Loc) (ls : Array Slot), I1 g → m_S D B K 145 g s.heap H locs → lv_has ls 4 [(0, .ref b), (1, .ref (B + 0)), (2, .ref (B + 126)), (3, .int x3)] → W p l e room_1 s m #[Value.ref b] below meth c H locs 145 5768 Q (F0 m 269 ls [])) := by
  intro g H locs ls hg S hl
  have hx := E.1.1
  have hb := E.1.2.1
  have h0 := his g hg
  obtain ⟨r, g1, g2, e1, ho, e2, hI⟩ := ho5  g hg
  dsimp only at e1 e2
  refine lv_aload_n hx hb d_Law_law_269 rfl (lv_at hl 1 rfl) ?_
  refine m_callV (B := B) (nn := 0) (b := 0) (As := []) (rest := []) (v := (some (.int r))) E S hz (c_Arc_errorAt l D B K 145 g 0  r g1 e1) qc_Arc_errorAt ⟨rfl, rfl⟩ (Or.inl qw_468) qw_469 qw_470 qw_105 (by decide +kernel) ⟨Nat.le_of_ble_eq_true rfl, Nat.le_of_ble_eq_true rfl⟩ h0 rfl rfl hl.1 (Nat.le_of_ble_eq_true rfl) d_Law_law_270 ⟨Nat.le_of_ble_eq_true rfl, Nat.le_of_ble_eq_true rfl⟩ (fun H locs S => ?_)
  refine W.eq (g2 := F0 m 273 ls [.int r]) rfl ?_
  refine lv_aload_n hx hb d_Law_law_273 rfl (lv_at hl 2 rfl) ?_
  refine m_callV (B := B) (nn := 0) (b := 126) (As := []) (rest := [.int r]) (v := (some (.int r))) E S hz (c_Mod_errorAt l D B K 145 g1 126  r g2 e2) qc_Mod_errorAt ⟨rfl, rfl⟩ (Or.inl qw_471) qw_472 qw_473 qw_304 (by decide +kernel) ⟨Nat.le_of_ble_eq_true rfl, Nat.le_of_ble_eq_true rfl⟩ ho rfl rfl hl.1 (Nat.le_of_ble_eq_true rfl) d_Law_law_274 ⟨Nat.le_of_ble_eq_true rfl, Nat.le_of_ble_eq_true rfl⟩ (fun H locs S => ?_)
  refine W.eq (g2 := F0 m 277 ls [.int r, .int r]) rfl ?_
  refine lv_icmp_eq (tgt := 487) hx hb d_Law_law_277 (by decide) (fun _ => ?_) (fun q => absurd rfl q)
  exact kk g2 H locs ls hI S hl
set_option maxHeartbeats 1000000 in
set_option maxRecDepth 100000 in
theorem lw_case_8 (E : m_V p m c code 4 s #[Value.ref b] R_Law D K) (hz : s.heap.size + 145 = B + 145) (hX : va_X b L xs s s.heap) (hbl : b < s.heap.size) (hbA : ¬ B ≤ b) (h1 : vp_in (x3 + 1) L) (h2 : vp_in (x3 + 2) L) (h3 : vp_in (x3 + 3) L) (his : ∀ g, I1 g → m_is g 0 0 = true) (ho5 : ∀ x : Int32, op_two I1 I2 (fun g => f_Arc_hit g 0 x) (fun g => f_Mod_hit g 126 x)) (kk : (∀ (g : m_G) (H : Heap) (locs : List Loc) (ls : Array Slot), I2 g → m_S D B K 145 g s.heap H locs → lv_has ls 4 [(0, .ref b), (1, .ref (B + 0)), (2, .ref (B + 126)), (3, .int x3)] → W p l e room_1 s m #[Value.ref b] below meth c H locs 145 5768 Q (F0 m 487 ls []))) : (∀ (g : m_G) (H : Heap) (locs : List Loc) (ls : Array Slot), I1 g → m_S D B K 145 g s.heap H locs → lv_has ls 4 [(0, .ref b), (1, .ref (B + 0)), (2, .ref (B + 126)), (3, .int x3)] → W p l e room_1 s m #[Value.ref b] below meth c H locs 145 5768 Q (F0 m 282 ls [])) := by
  intro g H locs ls hg S hl
  have hx := E.1.1
  have hb := E.1.2.1
  have h0 := his g hg
  obtain ⟨r, g1, g2, e1, ho, e2, hI⟩ := ho5 (xs (x3 + 1).toNatClampNeg) g hg
  dsimp only at e1 e2
  refine lv_aload_n hx hb d_Law_law_282 rfl (lv_at hl 1 rfl) ?_
  refine lv_aload_n hx hb d_Law_law_283 rfl (lv_at hl 0 rfl) ?_
  refine lv_iload_n hx hb d_Law_law_284 rfl (lv_at hl 3 rfl) ?_
  refine lv_iconst (v := 1) hx hb d_Law_law_285 (by decide) ?_
  refine lv_iadd hx hb d_Law_law_286 ?_
  refine va_sld (A := fun q => B ≤ q) hx hb hX hbl hbA S.2.1 h1 d_Law_law_287 ?_
  refine m_callV (B := B) (nn := 1) (b := 0) (As := [.int (xs (x3 + 1).toNatClampNeg)]) (rest := []) (v := (some (.int r))) E S hz (c_Arc_hit l D B K 145 g 0 (xs (x3 + 1).toNatClampNeg) r g1 e1) qc_Arc_hit ⟨rfl, rfl⟩ (Or.inl qw_474) qw_475 qw_476 qw_105 (by decide +kernel) ⟨Nat.le_of_ble_eq_true rfl, Nat.le_of_ble_eq_true rfl⟩ h0 rfl rfl hl.1 (Nat.le_of_ble_eq_true rfl) d_Law_law_288 ⟨Nat.le_of_ble_eq_true rfl, Nat.le_of_ble_eq_true rfl⟩ (fun H locs S => ?_)
  refine W.eq (g2 := F0 m 291 ls [.int r]) rfl ?_
  refine lv_aload_n hx hb d_Law_law_291 rfl (lv_at hl 2 rfl) ?_
  refine lv_aload_n hx hb d_Law_law_292 rfl (lv_at hl 0 rfl) ?_
  refine lv_iload_n hx hb d_Law_law_293 rfl (lv_at hl 3 rfl) ?_
  refine lv_iconst (v := 1) hx hb d_Law_law_294 (by decide) ?_
  refine lv_iadd hx hb d_Law_law_295 ?_
  refine va_sld (A := fun q => B ≤ q) hx hb hX hbl hbA S.2.1 h1 d_Law_law_296 ?_
  refine m_callV (B := B) (nn := 1) (b := 126) (As := [.int (xs (x3 + 1).toNatClampNeg)]) (rest := [.int r]) (v := (some (.int r))) E S hz (c_Mod_hit l D B K 145 g1 126 (xs (x3 + 1).toNatClampNeg) r g2 e2) qc_Mod_hit ⟨rfl, rfl⟩ (Or.inl qw_477) qw_478 qw_479 qw_304 (by decide +kernel) ⟨Nat.le_of_ble_eq_true rfl, Nat.le_of_ble_eq_true rfl⟩ ho rfl rfl hl.1 (Nat.le_of_ble_eq_true rfl) d_Law_law_297 ⟨Nat.le_of_ble_eq_true rfl, Nat.le_of_ble_eq_true rfl⟩ (fun H locs S => ?_)
  refine W.eq (g2 := F0 m 300 ls [.int r, .int r]) rfl ?_
  refine lv_icmp_eq (tgt := 487) hx hb d_Law_law_300 (by decide) (fun _ => ?_) (fun q => absurd rfl q)
  exact kk g2 H locs ls hI S hl
set_option maxHeartbeats 1000000 in
set_option maxRecDepth 100000 in
theorem lw_case_9 (E : m_V p m c code 4 s #[Value.ref b] R_Law D K) (hz : s.heap.size + 145 = B + 145) (hX : va_X b L xs s s.heap) (hbl : b < s.heap.size) (hbA : ¬ B ≤ b) (h1 : vp_in (x3 + 1) L) (h2 : vp_in (x3 + 2) L) (h3 : vp_in (x3 + 3) L) (his : ∀ g, I1 g → m_is g 0 0 = true) (ho5 : ∀ x : Int32, op_two I1 I2 (fun g => f_Arc_related g 0 x) (fun g => f_Mod_related g 126 x)) (kk : (∀ (g : m_G) (H : Heap) (locs : List Loc) (ls : Array Slot), I2 g → m_S D B K 145 g s.heap H locs → lv_has ls 4 [(0, .ref b), (1, .ref (B + 0)), (2, .ref (B + 126)), (3, .int x3)] → W p l e room_1 s m #[Value.ref b] below meth c H locs 145 5768 Q (F0 m 487 ls []))) : (∀ (g : m_G) (H : Heap) (locs : List Loc) (ls : Array Slot), I1 g → m_S D B K 145 g s.heap H locs → lv_has ls 4 [(0, .ref b), (1, .ref (B + 0)), (2, .ref (B + 126)), (3, .int x3)] → W p l e room_1 s m #[Value.ref b] below meth c H locs 145 5768 Q (F0 m 305 ls [])) := by
  intro g H locs ls hg S hl
  have hx := E.1.1
  have hb := E.1.2.1
  have h0 := his g hg
  obtain ⟨r, g1, g2, e1, ho, e2, hI⟩ := ho5 (xs (x3 + 1).toNatClampNeg) g hg
  dsimp only at e1 e2
  refine lv_aload_n hx hb d_Law_law_305 rfl (lv_at hl 1 rfl) ?_
  refine lv_aload_n hx hb d_Law_law_306 rfl (lv_at hl 0 rfl) ?_
  refine lv_iload_n hx hb d_Law_law_307 rfl (lv_at hl 3 rfl) ?_
  refine lv_iconst (v := 1) hx hb d_Law_law_308 (by decide) ?_
  refine lv_iadd hx hb d_Law_law_309 ?_
  refine va_sld (A := fun q => B ≤ q) hx hb hX hbl hbA S.2.1 h1 d_Law_law_310 ?_
  refine m_callV (B := B) (nn := 1) (b := 0) (As := [.int (xs (x3 + 1).toNatClampNeg)]) (rest := []) (v := (some (.int r))) E S hz (c_Arc_related l D B K 145 g 0 (xs (x3 + 1).toNatClampNeg) r g1 e1) qc_Arc_related ⟨rfl, rfl⟩ (Or.inl qw_480) qw_481 qw_482 qw_105 (by decide +kernel) ⟨Nat.le_of_ble_eq_true rfl, Nat.le_of_ble_eq_true rfl⟩ h0 rfl rfl hl.1 (Nat.le_of_ble_eq_true rfl) d_Law_law_311 ⟨Nat.le_of_ble_eq_true rfl, Nat.le_of_ble_eq_true rfl⟩ (fun H locs S => ?_)
  refine W.eq (g2 := F0 m 314 ls [.int r]) rfl ?_
  refine lv_aload_n hx hb d_Law_law_314 rfl (lv_at hl 2 rfl) ?_
  refine lv_aload_n hx hb d_Law_law_315 rfl (lv_at hl 0 rfl) ?_
  refine lv_iload_n hx hb d_Law_law_316 rfl (lv_at hl 3 rfl) ?_
  refine lv_iconst (v := 1) hx hb d_Law_law_317 (by decide) ?_
  refine lv_iadd hx hb d_Law_law_318 ?_
  refine va_sld (A := fun q => B ≤ q) hx hb hX hbl hbA S.2.1 h1 d_Law_law_319 ?_
  refine m_callV (B := B) (nn := 1) (b := 126) (As := [.int (xs (x3 + 1).toNatClampNeg)]) (rest := [.int r]) (v := (some (.int r))) E S hz (c_Mod_related l D B K 145 g1 126 (xs (x3 + 1).toNatClampNeg) r g2 e2) qc_Mod_related ⟨rfl, rfl⟩ (Or.inl qw_483) qw_484 qw_485 qw_304 (by decide +kernel) ⟨Nat.le_of_ble_eq_true rfl, Nat.le_of_ble_eq_true rfl⟩ ho rfl rfl hl.1 (Nat.le_of_ble_eq_true rfl) d_Law_law_320 ⟨Nat.le_of_ble_eq_true rfl, Nat.le_of_ble_eq_true rfl⟩ (fun H locs S => ?_)
  refine W.eq (g2 := F0 m 323 ls [.int r, .int r]) rfl ?_
  refine lv_icmp_eq (tgt := 487) hx hb d_Law_law_323 (by decide) (fun _ => ?_) (fun q => absurd rfl q)
  exact kk g2 H locs ls hI S hl
set_option maxHeartbeats 1000000 in
set_option maxRecDepth 100000 in
theorem lw_case_10 (E : m_V p m c code 4 s #[Value.ref b] R_Law D K) (hz : s.heap.size + 145 = B + 145) (hX : va_X b L xs s s.heap) (hbl : b < s.heap.size) (hbA : ¬ B ≤ b) (h1 : vp_in (x3 + 1) L) (h2 : vp_in (x3 + 2) L) (h3 : vp_in (x3 + 3) L) (his : ∀ g, I1 g → m_is g 0 0 = true) (ho5 : ∀ x : Int32, op_two I1 I2 (fun g => f_Arc_idOf g 0 x) (fun g => f_Mod_idOf g 126 x)) (kk : (∀ (g : m_G) (H : Heap) (locs : List Loc) (ls : Array Slot), I2 g → m_S D B K 145 g s.heap H locs → lv_has ls 4 [(0, .ref b), (1, .ref (B + 0)), (2, .ref (B + 126)), (3, .int x3)] → W p l e room_1 s m #[Value.ref b] below meth c H locs 145 5768 Q (F0 m 487 ls []))) : (∀ (g : m_G) (H : Heap) (locs : List Loc) (ls : Array Slot), I1 g → m_S D B K 145 g s.heap H locs → lv_has ls 4 [(0, .ref b), (1, .ref (B + 0)), (2, .ref (B + 126)), (3, .int x3)] → W p l e room_1 s m #[Value.ref b] below meth c H locs 145 5768 Q (F0 m 328 ls [])) := by
  intro g H locs ls hg S hl
  have hx := E.1.1
  have hb := E.1.2.1
  have h0 := his g hg
  obtain ⟨r, g1, g2, e1, ho, e2, hI⟩ := ho5 (xs (x3 + 1).toNatClampNeg) g hg
  dsimp only at e1 e2
  refine lv_aload_n hx hb d_Law_law_328 rfl (lv_at hl 1 rfl) ?_
  refine lv_aload_n hx hb d_Law_law_329 rfl (lv_at hl 0 rfl) ?_
  refine lv_iload_n hx hb d_Law_law_330 rfl (lv_at hl 3 rfl) ?_
  refine lv_iconst (v := 1) hx hb d_Law_law_331 (by decide) ?_
  refine lv_iadd hx hb d_Law_law_332 ?_
  refine va_sld (A := fun q => B ≤ q) hx hb hX hbl hbA S.2.1 h1 d_Law_law_333 ?_
  refine m_callV (B := B) (nn := 1) (b := 0) (As := [.int (xs (x3 + 1).toNatClampNeg)]) (rest := []) (v := (some (.int r))) E S hz (c_Arc_idOf l D B K 145 g 0 (xs (x3 + 1).toNatClampNeg) r g1 e1) qc_Arc_idOf ⟨rfl, rfl⟩ (Or.inl qw_486) qw_487 qw_488 qw_105 (by decide +kernel) ⟨Nat.le_of_ble_eq_true rfl, Nat.le_of_ble_eq_true rfl⟩ h0 rfl rfl hl.1 (Nat.le_of_ble_eq_true rfl) d_Law_law_334 ⟨Nat.le_of_ble_eq_true rfl, Nat.le_of_ble_eq_true rfl⟩ (fun H locs S => ?_)
  refine W.eq (g2 := F0 m 337 ls [.int r]) rfl ?_
  refine lv_aload_n hx hb d_Law_law_337 rfl (lv_at hl 2 rfl) ?_
  refine lv_aload_n hx hb d_Law_law_338 rfl (lv_at hl 0 rfl) ?_
  refine lv_iload_n hx hb d_Law_law_339 rfl (lv_at hl 3 rfl) ?_
  refine lv_iconst (v := 1) hx hb d_Law_law_340 (by decide) ?_
  refine lv_iadd hx hb d_Law_law_341 ?_
  refine va_sld (A := fun q => B ≤ q) hx hb hX hbl hbA S.2.1 h1 d_Law_law_342 ?_
  refine m_callV (B := B) (nn := 1) (b := 126) (As := [.int (xs (x3 + 1).toNatClampNeg)]) (rest := [.int r]) (v := (some (.int r))) E S hz (c_Mod_idOf l D B K 145 g1 126 (xs (x3 + 1).toNatClampNeg) r g2 e2) qc_Mod_idOf ⟨rfl, rfl⟩ (Or.inl qw_489) qw_490 qw_491 qw_304 (by decide +kernel) ⟨Nat.le_of_ble_eq_true rfl, Nat.le_of_ble_eq_true rfl⟩ ho rfl rfl hl.1 (Nat.le_of_ble_eq_true rfl) d_Law_law_343 ⟨Nat.le_of_ble_eq_true rfl, Nat.le_of_ble_eq_true rfl⟩ (fun H locs S => ?_)
  refine W.eq (g2 := F0 m 346 ls [.int r, .int r]) rfl ?_
  refine lv_icmp_eq (tgt := 487) hx hb d_Law_law_346 (by decide) (fun _ => ?_) (fun q => absurd rfl q)
  exact kk g2 H locs ls hI S hl
set_option maxHeartbeats 1000000 in
set_option maxRecDepth 100000 in
theorem lw_case_11 (E : m_V p m c code 4 s #[Value.ref b] R_Law D K) (hz : s.heap.size + 145 = B + 145) (hX : va_X b L xs s s.heap) (hbl : b < s.heap.size) (hbA : ¬ B ≤ b) (h1 : vp_in (x3 + 1) L) (h2 : vp_in (x3 + 2) L) (h3 : vp_in (x3 + 3) L) (his : ∀ g, I1 g → m_is g 0 0 = true) (ho5 : ∀ x : Int32, op_two I1 I2 (fun g => f_Arc_answers g 0 x) (fun g => f_Mod_answers g 126 x)) (kk : (∀ (g : m_G) (H : Heap) (locs : List Loc) (ls : Array Slot), I2 g → m_S D B K 145 g s.heap H locs → lv_has ls 4 [(0, .ref b), (1, .ref (B + 0)), (2, .ref (B + 126)), (3, .int x3)] → W p l e room_1 s m #[Value.ref b] below meth c H locs 145 5768 Q (F0 m 487 ls []))) : (∀ (g : m_G) (H : Heap) (locs : List Loc) (ls : Array Slot), I1 g → m_S D B K 145 g s.heap H locs → lv_has ls 4 [(0, .ref b), (1, .ref (B + 0)), (2, .ref (B + 126)), (3, .int x3)] → W p l e room_1 s m #[Value.ref b] below meth c H locs 145 5768 Q (F0 m 351 ls [])) := by
  intro g H locs ls hg S hl
  have hx := E.1.1
  have hb := E.1.2.1
  have h0 := his g hg
  obtain ⟨r, g1, g2, e1, ho, e2, hI⟩ := ho5 (xs (x3 + 1).toNatClampNeg) g hg
  dsimp only at e1 e2
  refine lv_aload_n hx hb d_Law_law_351 rfl (lv_at hl 1 rfl) ?_
  refine lv_aload_n hx hb d_Law_law_352 rfl (lv_at hl 0 rfl) ?_
  refine lv_iload_n hx hb d_Law_law_353 rfl (lv_at hl 3 rfl) ?_
  refine lv_iconst (v := 1) hx hb d_Law_law_354 (by decide) ?_
  refine lv_iadd hx hb d_Law_law_355 ?_
  refine va_sld (A := fun q => B ≤ q) hx hb hX hbl hbA S.2.1 h1 d_Law_law_356 ?_
  refine m_callV (B := B) (nn := 1) (b := 0) (As := [.int (xs (x3 + 1).toNatClampNeg)]) (rest := []) (v := (some (.int r))) E S hz (c_Arc_answers l D B K 145 g 0 (xs (x3 + 1).toNatClampNeg) r g1 e1) qc_Arc_answers ⟨rfl, rfl⟩ (Or.inl qw_492) qw_493 qw_494 qw_105 (by decide +kernel) ⟨Nat.le_of_ble_eq_true rfl, Nat.le_of_ble_eq_true rfl⟩ h0 rfl rfl hl.1 (Nat.le_of_ble_eq_true rfl) d_Law_law_357 ⟨Nat.le_of_ble_eq_true rfl, Nat.le_of_ble_eq_true rfl⟩ (fun H locs S => ?_)
  refine W.eq (g2 := F0 m 360 ls [.int r]) rfl ?_
  refine lv_aload_n hx hb d_Law_law_360 rfl (lv_at hl 2 rfl) ?_
  refine lv_aload_n hx hb d_Law_law_361 rfl (lv_at hl 0 rfl) ?_
  refine lv_iload_n hx hb d_Law_law_362 rfl (lv_at hl 3 rfl) ?_
  refine lv_iconst (v := 1) hx hb d_Law_law_363 (by decide) ?_
  refine lv_iadd hx hb d_Law_law_364 ?_
  refine va_sld (A := fun q => B ≤ q) hx hb hX hbl hbA S.2.1 h1 d_Law_law_365 ?_
  refine m_callV (B := B) (nn := 1) (b := 126) (As := [.int (xs (x3 + 1).toNatClampNeg)]) (rest := [.int r]) (v := (some (.int r))) E S hz (c_Mod_answers l D B K 145 g1 126 (xs (x3 + 1).toNatClampNeg) r g2 e2) qc_Mod_answers ⟨rfl, rfl⟩ (Or.inl qw_495) qw_496 qw_497 qw_304 (by decide +kernel) ⟨Nat.le_of_ble_eq_true rfl, Nat.le_of_ble_eq_true rfl⟩ ho rfl rfl hl.1 (Nat.le_of_ble_eq_true rfl) d_Law_law_366 ⟨Nat.le_of_ble_eq_true rfl, Nat.le_of_ble_eq_true rfl⟩ (fun H locs S => ?_)
  refine W.eq (g2 := F0 m 369 ls [.int r, .int r]) rfl ?_
  refine lv_icmp_eq (tgt := 487) hx hb d_Law_law_369 (by decide) (fun _ => ?_) (fun q => absurd rfl q)
  exact kk g2 H locs ls hI S hl
set_option maxHeartbeats 1000000 in
set_option maxRecDepth 100000 in
theorem lw_case_12 (E : m_V p m c code 4 s #[Value.ref b] R_Law D K) (hz : s.heap.size + 145 = B + 145) (hX : va_X b L xs s s.heap) (hbl : b < s.heap.size) (hbA : ¬ B ≤ b) (h1 : vp_in (x3 + 1) L) (h2 : vp_in (x3 + 2) L) (h3 : vp_in (x3 + 3) L) (his : ∀ g, I1 g → m_is g 0 0 = true) (ho5 : ∀ x : Int32, op_two I1 I2 (fun g => f_Arc_root g 0 x) (fun g => f_Mod_root g 126 x)) (kk : (∀ (g : m_G) (H : Heap) (locs : List Loc) (ls : Array Slot), I2 g → m_S D B K 145 g s.heap H locs → lv_has ls 4 [(0, .ref b), (1, .ref (B + 0)), (2, .ref (B + 126)), (3, .int x3)] → W p l e room_1 s m #[Value.ref b] below meth c H locs 145 5768 Q (F0 m 487 ls []))) : (∀ (g : m_G) (H : Heap) (locs : List Loc) (ls : Array Slot), I1 g → m_S D B K 145 g s.heap H locs → lv_has ls 4 [(0, .ref b), (1, .ref (B + 0)), (2, .ref (B + 126)), (3, .int x3)] → W p l e room_1 s m #[Value.ref b] below meth c H locs 145 5768 Q (F0 m 374 ls [])) := by
  intro g H locs ls hg S hl
  have hx := E.1.1
  have hb := E.1.2.1
  have h0 := his g hg
  obtain ⟨r, g1, g2, e1, ho, e2, hI⟩ := ho5 (xs (x3 + 1).toNatClampNeg) g hg
  dsimp only at e1 e2
  refine lv_aload_n hx hb d_Law_law_374 rfl (lv_at hl 1 rfl) ?_
  refine lv_aload_n hx hb d_Law_law_375 rfl (lv_at hl 0 rfl) ?_
  refine lv_iload_n hx hb d_Law_law_376 rfl (lv_at hl 3 rfl) ?_
  refine lv_iconst (v := 1) hx hb d_Law_law_377 (by decide) ?_
  refine lv_iadd hx hb d_Law_law_378 ?_
  refine va_sld (A := fun q => B ≤ q) hx hb hX hbl hbA S.2.1 h1 d_Law_law_379 ?_
  refine m_callV (B := B) (nn := 1) (b := 0) (As := [.int (xs (x3 + 1).toNatClampNeg)]) (rest := []) (v := (some (.int r))) E S hz (c_Arc_root l D B K 145 g 0 (xs (x3 + 1).toNatClampNeg) r g1 e1) qc_Arc_root ⟨rfl, rfl⟩ (Or.inl qw_498) qw_499 qw_500 qw_105 (by decide +kernel) ⟨Nat.le_of_ble_eq_true rfl, Nat.le_of_ble_eq_true rfl⟩ h0 rfl rfl hl.1 (Nat.le_of_ble_eq_true rfl) d_Law_law_380 ⟨Nat.le_of_ble_eq_true rfl, Nat.le_of_ble_eq_true rfl⟩ (fun H locs S => ?_)
  refine W.eq (g2 := F0 m 383 ls [.int r]) rfl ?_
  refine lv_aload_n hx hb d_Law_law_383 rfl (lv_at hl 2 rfl) ?_
  refine lv_aload_n hx hb d_Law_law_384 rfl (lv_at hl 0 rfl) ?_
  refine lv_iload_n hx hb d_Law_law_385 rfl (lv_at hl 3 rfl) ?_
  refine lv_iconst (v := 1) hx hb d_Law_law_386 (by decide) ?_
  refine lv_iadd hx hb d_Law_law_387 ?_
  refine va_sld (A := fun q => B ≤ q) hx hb hX hbl hbA S.2.1 h1 d_Law_law_388 ?_
  refine m_callV (B := B) (nn := 1) (b := 126) (As := [.int (xs (x3 + 1).toNatClampNeg)]) (rest := [.int r]) (v := (some (.int r))) E S hz (c_Mod_root l D B K 145 g1 126 (xs (x3 + 1).toNatClampNeg) r g2 e2) qc_Mod_root ⟨rfl, rfl⟩ (Or.inl qw_501) qw_502 qw_503 qw_304 (by decide +kernel) ⟨Nat.le_of_ble_eq_true rfl, Nat.le_of_ble_eq_true rfl⟩ ho rfl rfl hl.1 (Nat.le_of_ble_eq_true rfl) d_Law_law_389 ⟨Nat.le_of_ble_eq_true rfl, Nat.le_of_ble_eq_true rfl⟩ (fun H locs S => ?_)
  refine W.eq (g2 := F0 m 392 ls [.int r, .int r]) rfl ?_
  refine lv_icmp_eq (tgt := 487) hx hb d_Law_law_392 (by decide) (fun _ => ?_) (fun q => absurd rfl q)
  exact kk g2 H locs ls hI S hl
set_option maxHeartbeats 1000000 in
set_option maxRecDepth 100000 in
theorem lw_case_13 (E : m_V p m c code 4 s #[Value.ref b] R_Law D K) (hz : s.heap.size + 145 = B + 145) (hX : va_X b L xs s s.heap) (hbl : b < s.heap.size) (hbA : ¬ B ≤ b) (h1 : vp_in (x3 + 1) L) (h2 : vp_in (x3 + 2) L) (h3 : vp_in (x3 + 3) L) (his : ∀ g, I1 g → m_is g 0 0 = true) (ho5 : ∀ x y : Int32, op_two I1 I2 (fun g => f_Arc_word g 0 x y) (fun g => f_Mod_word g 126 x y)) (kk : (∀ (g : m_G) (H : Heap) (locs : List Loc) (ls : Array Slot), I2 g → m_S D B K 145 g s.heap H locs → lv_has ls 4 [(0, .ref b), (1, .ref (B + 0)), (2, .ref (B + 126)), (3, .int x3)] → W p l e room_1 s m #[Value.ref b] below meth c H locs 145 5768 Q (F0 m 487 ls []))) : (∀ (g : m_G) (H : Heap) (locs : List Loc) (ls : Array Slot), I1 g → m_S D B K 145 g s.heap H locs → lv_has ls 4 [(0, .ref b), (1, .ref (B + 0)), (2, .ref (B + 126)), (3, .int x3)] → W p l e room_1 s m #[Value.ref b] below meth c H locs 145 5768 Q (F0 m 397 ls [])) := by
  intro g H locs ls hg S hl
  have hx := E.1.1
  have hb := E.1.2.1
  have h0 := his g hg
  obtain ⟨r, g1, g2, e1, ho, e2, hI⟩ := ho5 (xs (x3 + 1).toNatClampNeg) (xs (x3 + 2).toNatClampNeg) g hg
  dsimp only at e1 e2
  refine lv_aload_n hx hb d_Law_law_397 rfl (lv_at hl 1 rfl) ?_
  refine lv_aload_n hx hb d_Law_law_398 rfl (lv_at hl 0 rfl) ?_
  refine lv_iload_n hx hb d_Law_law_399 rfl (lv_at hl 3 rfl) ?_
  refine lv_iconst (v := 1) hx hb d_Law_law_400 (by decide) ?_
  refine lv_iadd hx hb d_Law_law_401 ?_
  refine va_sld (A := fun q => B ≤ q) hx hb hX hbl hbA S.2.1 h1 d_Law_law_402 ?_
  refine lv_aload_n hx hb d_Law_law_403 rfl (lv_at hl 0 rfl) ?_
  refine lv_iload_n hx hb d_Law_law_404 rfl (lv_at hl 3 rfl) ?_
  refine lv_iconst (v := 2) hx hb d_Law_law_405 (by decide) ?_
  refine lv_iadd hx hb d_Law_law_406 ?_
  refine va_sld (A := fun q => B ≤ q) hx hb hX hbl hbA S.2.1 h2 d_Law_law_407 ?_
  refine m_callV (B := B) (nn := 2) (b := 0) (As := [.int (xs (x3 + 1).toNatClampNeg), .int (xs (x3 + 2).toNatClampNeg)]) (rest := []) (v := (some (.long r))) E S hz (c_Arc_word l D B K 145 g 0 (xs (x3 + 1).toNatClampNeg) (xs (x3 + 2).toNatClampNeg) r g1 e1) qc_Arc_word ⟨rfl, rfl⟩ (Or.inl qw_504) qw_505 qw_506 qw_105 (by decide +kernel) ⟨Nat.le_of_ble_eq_true rfl, Nat.le_of_ble_eq_true rfl⟩ h0 rfl rfl hl.1 (Nat.le_of_ble_eq_true rfl) d_Law_law_408 ⟨Nat.le_of_ble_eq_true rfl, Nat.le_of_ble_eq_true rfl⟩ (fun H locs S => ?_)
  refine W.eq (g2 := F0 m 411 ls [.long r]) rfl ?_
  refine lv_aload_n hx hb d_Law_law_411 rfl (lv_at hl 2 rfl) ?_
  refine lv_aload_n hx hb d_Law_law_412 rfl (lv_at hl 0 rfl) ?_
  refine lv_iload_n hx hb d_Law_law_413 rfl (lv_at hl 3 rfl) ?_
  refine lv_iconst (v := 1) hx hb d_Law_law_414 (by decide) ?_
  refine lv_iadd hx hb d_Law_law_415 ?_
  refine va_sld (A := fun q => B ≤ q) hx hb hX hbl hbA S.2.1 h1 d_Law_law_416 ?_
  refine lv_aload_n hx hb d_Law_law_417 rfl (lv_at hl 0 rfl) ?_
  refine lv_iload_n hx hb d_Law_law_418 rfl (lv_at hl 3 rfl) ?_
  refine lv_iconst (v := 2) hx hb d_Law_law_419 (by decide) ?_
  refine lv_iadd hx hb d_Law_law_420 ?_
  refine va_sld (A := fun q => B ≤ q) hx hb hX hbl hbA S.2.1 h2 d_Law_law_421 ?_
  refine m_callV (B := B) (nn := 2) (b := 126) (As := [.int (xs (x3 + 1).toNatClampNeg), .int (xs (x3 + 2).toNatClampNeg)]) (rest := [.long r]) (v := (some (.long r))) E S hz (c_Mod_word l D B K 145 g1 126 (xs (x3 + 1).toNatClampNeg) (xs (x3 + 2).toNatClampNeg) r g2 e2) qc_Mod_word ⟨rfl, rfl⟩ (Or.inl qw_507) qw_508 qw_509 qw_304 (by decide +kernel) ⟨Nat.le_of_ble_eq_true rfl, Nat.le_of_ble_eq_true rfl⟩ ho rfl rfl hl.1 (Nat.le_of_ble_eq_true rfl) d_Law_law_422 ⟨Nat.le_of_ble_eq_true rfl, Nat.le_of_ble_eq_true rfl⟩ (fun H locs S => ?_)
  refine W.eq (g2 := F0 m 425 ls [.long r, .long r]) rfl ?_
  refine W.lcmp hx hb d_Law_law_425 ?_
  refine lv_if_eq (tgt := 487) hx hb d_Law_law_426 (by decide) (fun _ => ?_) (fun q => absurd (by simp [lg_cmp]) q)
  exact kk g2 H locs ls hI S hl
set_option maxHeartbeats 1000000 in
set_option maxRecDepth 100000 in
theorem lw_case_14 (E : m_V p m c code 4 s #[Value.ref b] R_Law D K) (hz : s.heap.size + 145 = B + 145) (hX : va_X b L xs s s.heap) (hbl : b < s.heap.size) (hbA : ¬ B ≤ b) (h1 : vp_in (x3 + 1) L) (h2 : vp_in (x3 + 2) L) (h3 : vp_in (x3 + 3) L) (his : ∀ g, I1 g → m_is g 0 0 = true) (ho5 : ∀ x y : Int32, op_two I1 I2 (fun g => f_Arc_field g 0 x y) (fun g => f_Mod_field g 126 x y)) (kk : (∀ (g : m_G) (H : Heap) (locs : List Loc) (ls : Array Slot), I2 g → m_S D B K 145 g s.heap H locs → lv_has ls 4 [(0, .ref b), (1, .ref (B + 0)), (2, .ref (B + 126)), (3, .int x3)] → W p l e room_1 s m #[Value.ref b] below meth c H locs 145 5768 Q (F0 m 487 ls []))) : (∀ (g : m_G) (H : Heap) (locs : List Loc) (ls : Array Slot), I1 g → m_S D B K 145 g s.heap H locs → lv_has ls 4 [(0, .ref b), (1, .ref (B + 0)), (2, .ref (B + 126)), (3, .int x3)] → W p l e room_1 s m #[Value.ref b] below meth c H locs 145 5768 Q (F0 m 431 ls [])) := by
  intro g H locs ls hg S hl
  have hx := E.1.1
  have hb := E.1.2.1
  have h0 := his g hg
  obtain ⟨r, g1, g2, e1, ho, e2, hI⟩ := ho5 (xs (x3 + 1).toNatClampNeg) (xs (x3 + 2).toNatClampNeg) g hg
  dsimp only at e1 e2
  refine lv_aload_n hx hb d_Law_law_431 rfl (lv_at hl 1 rfl) ?_
  refine lv_aload_n hx hb d_Law_law_432 rfl (lv_at hl 0 rfl) ?_
  refine lv_iload_n hx hb d_Law_law_433 rfl (lv_at hl 3 rfl) ?_
  refine lv_iconst (v := 1) hx hb d_Law_law_434 (by decide) ?_
  refine lv_iadd hx hb d_Law_law_435 ?_
  refine va_sld (A := fun q => B ≤ q) hx hb hX hbl hbA S.2.1 h1 d_Law_law_436 ?_
  refine lv_aload_n hx hb d_Law_law_437 rfl (lv_at hl 0 rfl) ?_
  refine lv_iload_n hx hb d_Law_law_438 rfl (lv_at hl 3 rfl) ?_
  refine lv_iconst (v := 2) hx hb d_Law_law_439 (by decide) ?_
  refine lv_iadd hx hb d_Law_law_440 ?_
  refine va_sld (A := fun q => B ≤ q) hx hb hX hbl hbA S.2.1 h2 d_Law_law_441 ?_
  refine m_callV (B := B) (nn := 2) (b := 0) (As := [.int (xs (x3 + 1).toNatClampNeg), .int (xs (x3 + 2).toNatClampNeg)]) (rest := []) (v := (some (.int r))) E S hz (c_Arc_field l D B K 145 g 0 (xs (x3 + 1).toNatClampNeg) (xs (x3 + 2).toNatClampNeg) r g1 e1) qc_Arc_field ⟨rfl, rfl⟩ (Or.inl qw_510) qw_511 qw_512 qw_105 (by decide +kernel) ⟨Nat.le_of_ble_eq_true rfl, Nat.le_of_ble_eq_true rfl⟩ h0 rfl rfl hl.1 (Nat.le_of_ble_eq_true rfl) d_Law_law_442 ⟨Nat.le_of_ble_eq_true rfl, Nat.le_of_ble_eq_true rfl⟩ (fun H locs S => ?_)
  refine W.eq (g2 := F0 m 445 ls [.int r]) rfl ?_
  refine lv_aload_n hx hb d_Law_law_445 rfl (lv_at hl 2 rfl) ?_
  refine lv_aload_n hx hb d_Law_law_446 rfl (lv_at hl 0 rfl) ?_
  refine lv_iload_n hx hb d_Law_law_447 rfl (lv_at hl 3 rfl) ?_
  refine lv_iconst (v := 1) hx hb d_Law_law_448 (by decide) ?_
  refine lv_iadd hx hb d_Law_law_449 ?_
  refine va_sld (A := fun q => B ≤ q) hx hb hX hbl hbA S.2.1 h1 d_Law_law_450 ?_
  refine lv_aload_n hx hb d_Law_law_451 rfl (lv_at hl 0 rfl) ?_
  refine lv_iload_n hx hb d_Law_law_452 rfl (lv_at hl 3 rfl) ?_
  refine lv_iconst (v := 2) hx hb d_Law_law_453 (by decide) ?_
  refine lv_iadd hx hb d_Law_law_454 ?_
  refine va_sld (A := fun q => B ≤ q) hx hb hX hbl hbA S.2.1 h2 d_Law_law_455 ?_
  refine m_callV (B := B) (nn := 2) (b := 126) (As := [.int (xs (x3 + 1).toNatClampNeg), .int (xs (x3 + 2).toNatClampNeg)]) (rest := [.int r]) (v := (some (.int r))) E S hz (c_Mod_field l D B K 145 g1 126 (xs (x3 + 1).toNatClampNeg) (xs (x3 + 2).toNatClampNeg) r g2 e2) qc_Mod_field ⟨rfl, rfl⟩ (Or.inl qw_513) qw_514 qw_515 qw_304 (by decide +kernel) ⟨Nat.le_of_ble_eq_true rfl, Nat.le_of_ble_eq_true rfl⟩ ho rfl rfl hl.1 (Nat.le_of_ble_eq_true rfl) d_Law_law_456 ⟨Nat.le_of_ble_eq_true rfl, Nat.le_of_ble_eq_true rfl⟩ (fun H locs S => ?_)
  refine W.eq (g2 := F0 m 459 ls [.int r, .int r]) rfl ?_
  refine lv_icmp_eq (tgt := 487) hx hb d_Law_law_459 (by decide) (fun _ => ?_) (fun q => absurd rfl q)
  exact kk g2 H locs ls hI S hl
set_option maxHeartbeats 1000000 in
set_option maxRecDepth 100000 in
theorem lw_case_15 (E : m_V p m c code 4 s #[Value.ref b] R_Law D K) (hz : s.heap.size + 145 = B + 145) (hX : va_X b L xs s s.heap) (hbl : b < s.heap.size) (hbA : ¬ B ≤ b) (h1 : vp_in (x3 + 1) L) (h2 : vp_in (x3 + 2) L) (h3 : vp_in (x3 + 3) L) (his : ∀ g, I1 g → m_is g 0 0 = true) (ho5 : ∀ x : Int32, op_two I1 I2 (fun g => f_Arc_count g 0 x) (fun g => f_Mod_count g 126 x)) (kk : (∀ (g : m_G) (H : Heap) (locs : List Loc) (ls : Array Slot), I2 g → m_S D B K 145 g s.heap H locs → lv_has ls 4 [(0, .ref b), (1, .ref (B + 0)), (2, .ref (B + 126)), (3, .int x3)] → W p l e room_1 s m #[Value.ref b] below meth c H locs 145 5768 Q (F0 m 487 ls []))) : (∀ (g : m_G) (H : Heap) (locs : List Loc) (ls : Array Slot), I1 g → m_S D B K 145 g s.heap H locs → lv_has ls 4 [(0, .ref b), (1, .ref (B + 0)), (2, .ref (B + 126)), (3, .int x3)] → W p l e room_1 s m #[Value.ref b] below meth c H locs 145 5768 Q (F0 m 464 ls [])) := by
  intro g H locs ls hg S hl
  have hx := E.1.1
  have hb := E.1.2.1
  have h0 := his g hg
  obtain ⟨r, g1, g2, e1, ho, e2, hI⟩ := ho5 (xs (x3 + 1).toNatClampNeg) g hg
  dsimp only at e1 e2
  refine lv_aload_n hx hb d_Law_law_464 rfl (lv_at hl 1 rfl) ?_
  refine lv_aload_n hx hb d_Law_law_465 rfl (lv_at hl 0 rfl) ?_
  refine lv_iload_n hx hb d_Law_law_466 rfl (lv_at hl 3 rfl) ?_
  refine lv_iconst (v := 1) hx hb d_Law_law_467 (by decide) ?_
  refine lv_iadd hx hb d_Law_law_468 ?_
  refine va_sld (A := fun q => B ≤ q) hx hb hX hbl hbA S.2.1 h1 d_Law_law_469 ?_
  refine m_callV (B := B) (nn := 1) (b := 0) (As := [.int (xs (x3 + 1).toNatClampNeg)]) (rest := []) (v := (some (.int r))) E S hz (c_Arc_count l D B K 145 g 0 (xs (x3 + 1).toNatClampNeg) r g1 e1) qc_Arc_count ⟨rfl, rfl⟩ (Or.inl qw_516) qw_517 qw_518 qw_105 (by decide +kernel) ⟨Nat.le_of_ble_eq_true rfl, Nat.le_of_ble_eq_true rfl⟩ h0 rfl rfl hl.1 (Nat.le_of_ble_eq_true rfl) d_Law_law_470 ⟨Nat.le_of_ble_eq_true rfl, Nat.le_of_ble_eq_true rfl⟩ (fun H locs S => ?_)
  refine W.eq (g2 := F0 m 473 ls [.int r]) rfl ?_
  refine lv_aload_n hx hb d_Law_law_473 rfl (lv_at hl 2 rfl) ?_
  refine lv_aload_n hx hb d_Law_law_474 rfl (lv_at hl 0 rfl) ?_
  refine lv_iload_n hx hb d_Law_law_475 rfl (lv_at hl 3 rfl) ?_
  refine lv_iconst (v := 1) hx hb d_Law_law_476 (by decide) ?_
  refine lv_iadd hx hb d_Law_law_477 ?_
  refine va_sld (A := fun q => B ≤ q) hx hb hX hbl hbA S.2.1 h1 d_Law_law_478 ?_
  refine m_callV (B := B) (nn := 1) (b := 126) (As := [.int (xs (x3 + 1).toNatClampNeg)]) (rest := [.int r]) (v := (some (.int r))) E S hz (c_Mod_count l D B K 145 g1 126 (xs (x3 + 1).toNatClampNeg) r g2 e2) qc_Mod_count ⟨rfl, rfl⟩ (Or.inl qw_519) qw_520 qw_521 qw_304 (by decide +kernel) ⟨Nat.le_of_ble_eq_true rfl, Nat.le_of_ble_eq_true rfl⟩ ho rfl rfl hl.1 (Nat.le_of_ble_eq_true rfl) d_Law_law_479 ⟨Nat.le_of_ble_eq_true rfl, Nat.le_of_ble_eq_true rfl⟩ (fun H locs S => ?_)
  refine W.eq (g2 := F0 m 482 ls [.int r, .int r]) rfl ?_
  refine lv_icmp_eq (tgt := 487) hx hb d_Law_law_482 (by decide) (fun _ => ?_) (fun q => absurd rfl q)
  exact kk g2 H locs ls hI S hl
set_option maxHeartbeats 1000000 in
set_option maxRecDepth 100000 in
theorem law_loop (hops : law_ops Inv) (hL : L ≤ 2048) (E : m_V p m c code 4 s #[Value.ref b] R_Law D K) (hz : s.heap.size + 145 = B + 145) (hX : va_X b L xs s s.heap) (hbl : b < s.heap.size) (hbA : ¬ B ≤ b) (kE : ∀ (H : Heap) (locs : List Loc) (ls : Array Slot), (∀ q ∈ locs, s.heap.size ≤ q.base) → W p l e room_1 s m #[Value.ref b] below meth c H locs 145 5768 Q (F0 m 494 ls [.int 1])) : ∀ (fu i : Nat), i ≤ L + 4 → L + 5 - i < fu → ∀ (x3 : Int32), x3 = nI i → (∀ (g : m_G) (H : Heap) (locs : List Loc) (ls : Array Slot), Inv i g → m_S D B K 145 g s.heap H locs → lv_has ls 4 [(0, .ref b), (1, .ref (B + 0)), (2, .ref (B + 126)), (3, .int x3)] → W p l e room_1 s m #[Value.ref b] below meth c H locs 145 5768 Q (F0 m 18 ls [])) := by
  have hx := E.1.1
  have hb := E.1.2.1
  intro fu
  induction fu with
  | zero => intro i h1 h2; omega
  | succ fu ih =>
    intro i hi hfu x3 ex3 g H locs ls hg S hl
    refine lv_iload_n hx hb d_Law_law_18 rfl (lv_at hl 3 rfl) ?_
    refine lv_aload_n hx hb d_Law_law_19 rfl (lv_at hl 0 rfl) ?_
    refine va_slen (A := fun q => B ≤ q) hx hb hX hbl hbA S.2.1 d_Law_law_20 ?_
    refine lv_iconst (v := 4) hx hb d_Law_law_21 (by decide) ?_
    refine lv_isub hx hb d_Law_law_22 ?_
    refine lv_icmp_gt (tgt := 493) hx hb d_Law_law_23 (by decide) (fun _ => ?_) (fun hc => ?_)
    · refine lv_iconst (v := 1) hx hb d_Law_law_493 (by decide) ?_
      refine kE H locs ls (fun q hq => ?_)
      have := S.2.1.2.2 q hq
      have h9 : B ≤ q.base := this
      omega
    · have hi4 : i + 4 ≤ L := law_le hL hi (by rw [ex3] at hc; exact hc)
      have h0 : vp_in x3 L := by rw [ex3]; exact vp_in_nI (by omega) (by omega)
      have h1 : vp_in (x3 + 1) L := by rw [ex3, show (1 : Int32) = nI 1 from rfl, nI_add]; exact vp_in_nI (by omega) (by omega)
      have h2 : vp_in (x3 + 2) L := by rw [ex3, show (2 : Int32) = nI 2 from rfl, nI_add]; exact vp_in_nI (by omega) (by omega)
      have h3 : vp_in (x3 + 3) L := by rw [ex3, show (3 : Int32) = nI 3 from rfl, nI_add]; exact vp_in_nI (by omega) (by omega)
      have kk : (∀ (g : m_G) (H : Heap) (locs : List Loc) (ls : Array Slot), Inv (i + 4) g → m_S D B K 145 g s.heap H locs → lv_has ls 4 [(0, .ref b), (1, .ref (B + 0)), (2, .ref (B + 126)), (3, .int x3)] → W p l e room_1 s m #[Value.ref b] below meth c H locs 145 5768 Q (F0 m 487 ls [])) := by
        intro g H locs ls hg S hl
        refine lv_iinc (v := (x3 + 4)) (lv' := [(3, .int (x3 + 4)), (0, .ref b), (1, .ref (B + 0)), (2, .ref (B + 126))]) hx hb d_Law_law_487 hl (k := 3) rfl rfl (by decide) rfl (fun ls hl => ?_)
        refine lv_goto (tgt := 18) hx hb d_Law_law_490 (by decide) ?_
        exact ih (i + 4) (by omega) (by omega) (x3 + 4) (by rw [ex3, show (4 : Int32) = nI 4 from rfl, nI_add]) g H locs ls hg S (lv_sub hl [1, 2, 3, 0] rfl)
      refine lv_aload_n hx hb d_Law_law_26 rfl (lv_at hl 0 rfl) ?_
      refine lv_iload_n hx hb d_Law_law_27 rfl (lv_at hl 3 rfl) ?_
      refine va_sld (A := fun q => B ≤ q) hx hb hX hbl hbA S.2.1 h0 d_Law_law_28 ?_
      refine lv_bipush (v := 15) hx hb d_Law_law_29 (by decide) ?_
      refine lv_iand hx hb d_Law_law_31 ?_
      obtain ⟨k, hk, ek⟩ := pk_andE (xs x3.toNatClampNeg) (m := 15) 4 (by decide)
      rw [ek]
      obtain ⟨his, o0, o1, o2, o3, o4, o5, o6, o7, o8, o9, o10, o11, o12, o13, o14, o15⟩ := hops
      match k, hk with
      | 0, _ =>
        refine lv_tableIn (off := 80) (tgt := 112) hx hb d_Law_law_32 (by decide) (by decide) (by rfl) (by decide) ?_
        exact lw_case_0 E hz hX hbl hbA h1 h2 h3 (his i) (o0 i (by omega)) kk g H locs ls hg S hl
      | 1, _ =>
        refine lv_tableIn (off := 103) (tgt := 135) hx hb d_Law_law_32 (by decide) (by decide) (by rfl) (by decide) ?_
        exact lw_case_1 E hz hX hbl hbA h1 h2 h3 (his i) (o1 i (by omega)) kk g H locs ls hg S hl
      | 2, _ =>
        refine lv_tableIn (off := 116) (tgt := 148) hx hb d_Law_law_32 (by decide) (by decide) (by rfl) (by decide) ?_
        exact lw_case_2 E hz hX hbl hbA h1 h2 h3 (his i) (o2 i (by omega)) kk g H locs ls hg S hl
      | 3, _ =>
        refine lv_tableIn (off := 129) (tgt := 161) hx hb d_Law_law_32 (by decide) (by decide) (by rfl) (by decide) ?_
        exact lw_case_3 E hz hX hbl hbA h1 h2 h3 (his i) (o3 i (by omega)) kk g H locs ls hg S hl
      | 4, _ =>
        refine lv_tableIn (off := 142) (tgt := 174) hx hb d_Law_law_32 (by decide) (by decide) (by rfl) (by decide) ?_
        exact lw_case_4 E hz hX hbl hbA h1 h2 h3 (his i) (o4 i (by omega)) kk g H locs ls hg S hl
      | 5, _ =>
        refine lv_tableIn (off := 165) (tgt := 197) hx hb d_Law_law_32 (by decide) (by decide) (by rfl) (by decide) ?_
        exact lw_case_5 E hz hX hbl hbA h1 h2 h3 (his i) (o5 i (by omega)) kk g H locs ls hg S hl
      | 6, _ =>
        refine lv_tableIn (off := 224) (tgt := 256) hx hb d_Law_law_32 (by decide) (by decide) (by rfl) (by decide) ?_
        exact lw_case_6 E hz hX hbl hbA h1 h2 h3 (his i) (o6 i (by omega)) kk g H locs ls hg S hl
      | 7, _ =>
        refine lv_tableIn (off := 237) (tgt := 269) hx hb d_Law_law_32 (by decide) (by decide) (by rfl) (by decide) ?_
        exact lw_case_7 E hz hX hbl hbA h1 h2 h3 (his i) (o7 i (by omega)) kk g H locs ls hg S hl
      | 8, _ =>
        refine lv_tableIn (off := 250) (tgt := 282) hx hb d_Law_law_32 (by decide) (by decide) (by rfl) (by decide) ?_
        exact lw_case_8 E hz hX hbl hbA h1 h2 h3 (his i) (o8 i (by omega)) kk g H locs ls hg S hl
      | 9, _ =>
        refine lv_tableIn (off := 273) (tgt := 305) hx hb d_Law_law_32 (by decide) (by decide) (by rfl) (by decide) ?_
        exact lw_case_9 E hz hX hbl hbA h1 h2 h3 (his i) (o9 i (by omega)) kk g H locs ls hg S hl
      | 10, _ =>
        refine lv_tableIn (off := 296) (tgt := 328) hx hb d_Law_law_32 (by decide) (by decide) (by rfl) (by decide) ?_
        exact lw_case_10 E hz hX hbl hbA h1 h2 h3 (his i) (o10 i (by omega)) kk g H locs ls hg S hl
      | 11, _ =>
        refine lv_tableIn (off := 319) (tgt := 351) hx hb d_Law_law_32 (by decide) (by decide) (by rfl) (by decide) ?_
        exact lw_case_11 E hz hX hbl hbA h1 h2 h3 (his i) (o11 i (by omega)) kk g H locs ls hg S hl
      | 12, _ =>
        refine lv_tableIn (off := 342) (tgt := 374) hx hb d_Law_law_32 (by decide) (by decide) (by rfl) (by decide) ?_
        exact lw_case_12 E hz hX hbl hbA h1 h2 h3 (his i) (o12 i (by omega)) kk g H locs ls hg S hl
      | 13, _ =>
        refine lv_tableIn (off := 365) (tgt := 397) hx hb d_Law_law_32 (by decide) (by decide) (by rfl) (by decide) ?_
        exact lw_case_13 E hz hX hbl hbA h1 h2 h3 (his i) (o13 i (by omega)) kk g H locs ls hg S hl
      | 14, _ =>
        refine lv_tableIn (off := 399) (tgt := 431) hx hb d_Law_law_32 (by decide) (by decide) (by rfl) (by decide) ?_
        exact lw_case_14 E hz hX hbl hbA h1 h2 h3 (his i) (o14 i (by omega)) kk g H locs ls hg S hl
      | 15, _ =>
        refine lv_tableIn (off := 432) (tgt := 464) hx hb d_Law_law_32 (by decide) (by decide) (by rfl) (by decide) ?_
        exact lw_case_15 E hz hX hbl hbA h1 h2 h3 (his i) (o15 i (by omega)) kk g H locs ls hg S hl
      | k + 16, hk => exact absurd hk (by omega)
end LWC
set_option maxHeartbeats 1000000 in
set_option maxRecDepth 100000 in
theorem whole_open {p : Program} {e : Env} {s : State} {m : MethodId} {below : List Frame} {meth : Method} {c : Code} (l : Launch) {b L : Nat} {xs : Nat → Int32} {Inv : Nat → m_G → Prop} (hops : law_ops Inv) (hini : law_ini Inv) (hL : L ≤ 2048) (C0 : lw_At p s m meth c b L xs) : W p l e room_1 s m #[Value.ref b] below meth c s.heap [] 0 0 (lw_Z below #[Value.ref b] s) (entryFrame m ([Value.ref b] : List Value).toArray 4) := by
  obtain ⟨hx, hb, hr, hml, hown, hts0, hX, hbl, hlocks, hgv⟩ := id C0
  have hts : ∀ w ∈ m_TB, w.before #[Value.ref b] s = true := fun w hw => hts0 w (List.mem_filter.mp hw).1
  obtain ⟨c0, iS0, hKn0⟩ := u_known (C := R_Arc) (T := F_Arc) (N := 10) (n := 10) hts i_Arc (hts _ qw_522)
  obtain ⟨c1, iS1, hKn1⟩ := u_known (C := R_Line) (T := F_Line) (N := 2) (n := 2) hts i_Line (hts _ qw_10)
  obtain ⟨c2, iS2, hKn2⟩ := u_known (C := R_Draft) (T := F_Draft) (N := 2) (n := 2) hts i_Draft (hts _ qw_56)
  obtain ⟨c3, iS3, hKn3⟩ := u_known (C := R_Letters) (T := F_Letters) (N := 2) (n := 2) hts i_Letters (hts _ qw_30)
  obtain ⟨c4, iS4, hKn4⟩ := u_known (C := R_Message) (T := F_Message) (N := 9) (n := 9) hts i_Message (hts _ qw_76)
  obtain ⟨c5, iS5, hKn5⟩ := u_known (C := R_Reader) (T := F_Reader) (N := 2) (n := 2) hts i_Reader (hts _ qw_61)
  obtain ⟨c6, iS6, hKn6⟩ := u_known (C := R_Threads) (T := F_Threads) (N := 1) (n := 1) hts i_Threads (hts _ qw_66)
  obtain ⟨c7, iS7, hKn7⟩ := u_known (C := R_Query) (T := F_Query) (N := 7) (n := 7) hts i_Query (hts _ qw_70)
  obtain ⟨c8, iS8, hKn8⟩ := u_known (C := R_Mod) (T := F_Mod) (N := 28) (n := 28) hts i_Mod (hts _ qw_523)
  obtain ⟨dC, dI, hKc⟩ : ∃ (dC : Nat → ClassId) (dI : Nat → Nat → Nat), ∀ (k : Nat) (q : vw_C), classes[k]? = some q → u_Kn s q.1 q.2.1 q.2.2 (dC k) (dI k) := by
    refine ⟨fun k => match k with | 0 => c0 | 1 => c1 | 2 => c2 | 3 => c3 | 4 => c4 | 5 => c5 | 6 => c6 | 7 => c7 | _ => c8, fun k => match k with | 0 => iS0 | 1 => iS1 | 2 => iS2 | 3 => iS3 | 4 => iS4 | 5 => iS5 | 6 => iS6 | 7 => iS7 | _ => iS8, ?_⟩
    intro k q hq
    match k, hq with
    | 0, hq => cases hq; exact hKn0
    | 1, hq => cases hq; exact hKn1
    | 2, hq => cases hq; exact hKn2
    | 3, hq => cases hq; exact hKn3
    | 4, hq => cases hq; exact hKn4
    | 5, hq => cases hq; exact hKn5
    | 6, hq => cases hq; exact hKn6
    | 7, hq => cases hq; exact hKn7
    | 8, hq => cases hq; exact hKn8
    | k + 9, hq => simp [classes] at hq
  obtain ⟨K0, hA0, hB0⟩ : ∃ cA, ArrOfT s cA .int ∧ va_RA s cA .int := by
    obtain ⟨cA, kA, comp, f1, f2, f3⟩ := Cond.arrayClass_spec (hts _ qw_14)
    exact ⟨cA, fun N z => ⟨(fun k h => by cases h), kA, f2, comp, f3⟩, f1⟩
  obtain ⟨K1, hA1, hB1⟩ : ∃ cA, ArrOfT s cA .char ∧ va_RA s cA .char := by
    obtain ⟨cA, kA, comp, f1, f2, f3⟩ := Cond.arrayClass_spec (hts _ qw_3)
    exact ⟨cA, fun N z => ⟨(fun k h => by cases h), kA, f2, comp, f3⟩, f1⟩
  obtain ⟨K2, hA2, hB2⟩ : ∃ cA, ArrOfT s cA .long ∧ va_RA s cA .long := by
    obtain ⟨cA, kA, comp, f1, f2, f3⟩ := Cond.arrayClass_spec (hts _ qw_16)
    exact ⟨cA, fun N z => ⟨(fun k h => by cases h), kA, f2, comp, f3⟩, f1⟩
  obtain ⟨K3, hA3, hB3⟩ : ∃ cA, ArrOfT s cA .boolean ∧ va_RA s cA .boolean := by
    obtain ⟨cA, kA, comp, f1, f2, f3⟩ := Cond.arrayClass_spec (hts _ qw_39)
    exact ⟨cA, fun N z => ⟨(fun k h => by cases h), kA, f2, comp, f3⟩, f1⟩
  obtain ⟨K4, hA4, hB4⟩ : ∃ cA, ArrOfT s cA (.object R_Line) ∧ va_RA s cA (.object R_Line) := by
    obtain ⟨comp, cA, kA, f1, -, f2, f3, f4⟩ := Cond.arrayOver_spec (hts0 (Cond.arrayOver (.object R_Line)) (List.mem_append_right _ (List.mem_of_getElem? (i := 48) (by decide +kernel))))
    exact ⟨cA, fun N z => ⟨(fun k h => by cases h), kA, f2, comp, f3⟩, kA, comp, f2, f3, f1, f4⟩
  obtain ⟨K5, hA5, hB5⟩ : ∃ cA, ArrOfT s cA (.object R_Message) ∧ va_RA s cA (.object R_Message) := by
    obtain ⟨comp, cA, kA, f1, -, f2, f3, f4⟩ := Cond.arrayOver_spec (hts0 (Cond.arrayOver (.object R_Message)) (List.mem_append_right _ (List.mem_of_getElem? (i := 139) (by decide +kernel))))
    exact ⟨cA, fun N z => ⟨(fun k h => by cases h), kA, f2, comp, f3⟩, kA, comp, f2, f3, f1, f4⟩
  obtain ⟨K, hKt⟩ : ∃ K : Nat → ClassId, ∀ (k : Nat) (q : ClassId × FieldType), (m_tys K)[k]? = some q → ArrOfT s q.1 q.2 ∧ va_RA s q.1 q.2 := by
    refine ⟨fun k => match k with | 0 => K0 | 1 => K1 | 2 => K2 | 3 => K3 | 4 => K4 | _ => K5, ?_⟩
    intro k q hq
    match k, hq with
    | 0, hq => cases hq; exact ⟨hA0, hB0⟩
    | 1, hq => cases hq; exact ⟨hA1, hB1⟩
    | 2, hq => cases hq; exact ⟨hA2, hB2⟩
    | 3, hq => cases hq; exact ⟨hA3, hB3⟩
    | 4, hq => cases hq; exact ⟨hA4, hB4⟩
    | 5, hq => cases hq; exact ⟨hA5, hB5⟩
    | k + 6, hq => simp [m_tys, m_TY] at hq
  have hK : m_K (dC, dI) K s := ⟨⟨hKc, hKt⟩, fun w hw => ?_, fun C hC => ?_⟩
  rotate_left
  · have h1 := List.mem_filter.mp hw
    have h2 := hts0 w (List.mem_append_right _ h1.1)
    have h3 := h1.2
    cases w <;> first | exact va_Nw.of rfl h2 | (simp [m_isNest] at h3; done)
  · rcases List.mem_cons.mp hC with rfl | hC
    · exact va_AO.of (hts0 (Cond.arrayOver (.object R_Line)) (List.mem_append_right _ (List.mem_of_getElem? (i := 48) (by decide +kernel))))
    · rw [List.mem_singleton.mp hC]
      exact va_AO.of (hts0 (Cond.arrayOver (.object R_Message)) (List.mem_append_right _ (List.mem_of_getElem? (i := 139) (by decide +kernel))))
  have E : m_V p m c code 4 s #[Value.ref b] R_Law (dC, dI) K := ⟨⟨hx, hb, hml, hown, hts⟩, hK⟩
  obtain ⟨B, hB⟩ : ∃ B, B = s.heap.size := ⟨_, rfl⟩
  have hbA : ¬ B ≤ b := by omega
  have S : m_S (dC, dI) B K 0 (fun _ => m_dead) s.heap s.heap [] := ⟨fun k q h => by simp [m_ws] at h, va_S.rf, fun _ _ => rfl, by omega⟩
  have hl := lv_entry ([.ref b]) (n := 4) (Nat.le_of_ble_eq_true rfl)
  rw [lg_entry_eq]
  generalize (lg_sl ([.ref b]) ++ List.replicate (4 - (lg_sl ([.ref b])).length) Slot.unset).toArray = ls at hl ⊢
  have hl : lv_has ls 4 [(0, .ref b)] := hl
  obtain ⟨g1, g2, g3, g4, e1, e2, e3, e4, hI⟩ := hini
  refine m_new (B := B) (ci := 0) (fs := [.null, .null, .null, .null, .null, .null, .null, .int 0, .int 0, .int 0]) E S (show s.heap.size + 0 = B + 0 by omega) t_Arc t_Arc_ok i_Arc rfl qw_524 qw_522 qw_105 (z_Arc B) (Nat.le_of_ble_eq_true rfl) (Nat.le_of_ble_eq_true rfl) e1 d_Law_law_0 (fun H S => ?_)
  refine W.widen (k := 1) (n := 10) (Nat.le_of_ble_eq_true rfl) (Nat.le_of_ble_eq_true rfl) ?_
  refine W.eq (g2 := F0 m 3 ls [.ref (B + 0)]) rfl ?_
  refine lv_dup hx hb d_Law_law_3 rfl ?_
  refine m_callI (B := B) (nn := 0) (b := 0) (As := []) (rest := [.ref (B + 0)]) (v := none) E S (show s.heap.size + 1 = B + 1 by omega) (c_Arc_init l (dC, dI) B K 1 g1 0 () g2 e2) qc_Arc_init ⟨rfl, rfl⟩ (Or.inl qw_525) qw_526 qw_105 rfl (by decide +kernel) ⟨Nat.le_of_ble_eq_true rfl, Nat.le_of_ble_eq_true rfl⟩ rfl hl.1 (Nat.le_of_ble_eq_true rfl) d_Law_law_4 ⟨Nat.le_of_ble_eq_true rfl, Nat.le_of_ble_eq_true rfl⟩ (fun H locs S => ?_)
  refine W.widen (k := 126) (n := 2865) (Nat.le_of_ble_eq_true rfl) (Nat.le_of_ble_eq_true rfl) ?_
  refine W.eq (g2 := F0 m 7 ls [.ref (B + 0)]) rfl ?_
  refine lv_astore_n (lv' := [(1, .ref (B + 0)), (0, .ref b)]) hx hb d_Law_law_7 rfl hl (by decide) rfl (fun ls hl => ?_)
  refine m_new (B := B) (ci := 8) (fs := [.null, .null, .int 0, .null, .null, .null, .int 0, .null, .null, .null, .int 0, .null, .null, .null, .null, .null, .null, .null, .int 0, .null, .int 0, .int 0, .null, .null, .int 0, .int 0, .long 0, .int 0]) E S (show s.heap.size + 126 = B + 126 by omega) t_Mod t_Mod_ok i_Mod rfl qw_527 qw_523 qw_304 (z_Mod B) (Nat.le_of_ble_eq_true rfl) (Nat.le_of_ble_eq_true rfl) e3 d_Law_law_8 (fun H S => ?_)
  refine W.widen (k := 127) (n := 2893) (Nat.le_of_ble_eq_true rfl) (Nat.le_of_ble_eq_true rfl) ?_
  refine W.eq (g2 := F0 m 11 ls [.ref (B + 126)]) rfl ?_
  refine lv_dup hx hb d_Law_law_11 rfl ?_
  refine m_callI (B := B) (nn := 0) (b := 126) (As := []) (rest := [.ref (B + 126)]) (v := none) E S (show s.heap.size + 127 = B + 127 by omega) (c_Mod_init l (dC, dI) B K 127 g3 126 () g4 e4) qc_Mod_init ⟨rfl, rfl⟩ (Or.inl qw_528) qw_529 qw_304 rfl (by decide +kernel) ⟨Nat.le_of_ble_eq_true rfl, Nat.le_of_ble_eq_true rfl⟩ rfl hl.1 (Nat.le_of_ble_eq_true rfl) d_Law_law_12 ⟨Nat.le_of_ble_eq_true rfl, Nat.le_of_ble_eq_true rfl⟩ (fun H locs S => ?_)
  refine W.widen (k := 145) (n := 5768) (Nat.le_of_ble_eq_true rfl) (Nat.le_of_ble_eq_true rfl) ?_
  refine W.eq (g2 := F0 m 15 ls [.ref (B + 126)]) rfl ?_
  refine lv_astore_n (lv' := [(2, .ref (B + 126)), (1, .ref (B + 0)), (0, .ref b)]) hx hb d_Law_law_15 rfl hl (by decide) rfl (fun ls hl => ?_)
  refine lv_iconst (v := 0) hx hb d_Law_law_16 (by decide) ?_
  refine lv_istore_n (lv' := [(3, .int 0), (2, .ref (B + 126)), (1, .ref (B + 0)), (0, .ref b)]) hx hb d_Law_law_17 rfl hl (by decide) rfl (fun ls hl => ?_)
  refine law_loop hops hL E (show s.heap.size + 145 = B + 145 by omega) hX hbl hbA (fun H locs ls hq => ?_) (L + 6) 0 (by omega) (by omega) 0 nI_0.symm g4 _ _ ls hI S (lv_sub hl [3, 2, 1, 0] rfl)
  refine va_forget hq ?_
  refine W.widen (k := 600000) (n := 7302250) (Nat.le_of_ble_eq_true rfl) (Nat.le_of_ble_eq_true rfl) ?_
  exact lw_ret hx hb hr hlocks d_Law_law_494
