/-! THE LAYER: a heap by small numbers. Cells made since the law's entry stand at B, B + 1, ..; 'g' says what each holds (numbers for references); what isn't made yet is m_dead. -/
abbrev m_E : Type := (Nat × vp_A) ⊕ (Nat × List Value)
abbrev m_G : Type := Nat → m_E
def m_dead : m_E := .inr (99, [])
def m_v (B : Nat) (v : Value) : Value := match v with
  | .ref a => .ref (B + a)
  | v => v
def m_a (B : Nat) (a : vp_A) : vp_A := match a with
  | (k, .inr (.inr (.inr (.inr f)))) => (k, .inr (.inr (.inr (.inr (fun j => (f j).map (fun a => B + a))))))
  | a => a
def m_c (B : Nat) (K : Nat → ClassId) (x : m_E) : va_E := match x with
  | .inl a => .inl (K a.1, m_a B a.2)
  | .inr o => .inr (o.1, o.2.map (m_v B))
def m_ws (B : Nat) (K : Nat → ClassId) (n : Nat) (g : m_G) : va_W := (List.range n).map (fun i => (B + i, m_c B K (g i)))
def m_r (B : Nat) (r : Option Nat) : Value := va_rf (r.map (fun a => B + a))
theorem m_ws_len (B : Nat) (K : Nat → ClassId) (n : Nat) (g : m_G) : (m_ws B K n g).length = n := by simp [m_ws]
theorem m_ws_get {B : Nat} {K : Nat → ClassId} {n : Nat} {g : m_G} {i : Nat} (h : i < n) : (m_ws B K n g)[i]? = some (B + i, m_c B K (g i)) := by
  simp [m_ws, h]
theorem m_ws_inv {B : Nat} {K : Nat → ClassId} {n : Nat} {g : m_G} {i : Nat} {q : Nat × va_E} (h : (m_ws B K n g)[i]? = some q) : i < n ∧ q = (B + i, m_c B K (g i)) := by
  have hi : i < n := by
    have := (List.getElem?_eq_some_iff.mp h).1
    rwa [m_ws_len] at this
  rw [m_ws_get hi] at h
  exact ⟨hi, (Option.some.inj h).symm⟩
theorem m_ws_set {B : Nat} {K : Nat → ClassId} {n : Nat} {g : m_G} {i : Nat} {x : m_E} (h : i < n) : (m_ws B K n g).set i (B + i, m_c B K x) = m_ws B K n (va_up g i x) := by
  apply List.ext_getElem?
  intro j
  rw [List.getElem?_set]
  by_cases hij : i = j
  · subst hij
    rw [if_pos rfl, if_pos (by rw [m_ws_len]; exact h), m_ws_get h]
    simp [va_up]
  · rw [if_neg hij]
    by_cases hj : j < n
    · rw [m_ws_get hj, m_ws_get hj, va_up, if_neg (fun q => hij q.symm)]
    · rw [List.getElem?_eq_none (by rw [m_ws_len]; omega), List.getElem?_eq_none (by rw [m_ws_len]; omega)]
theorem m_ws_push {B : Nat} {K : Nat → ClassId} {n : Nat} {g : m_G} {x : m_E} : m_ws B K n g ++ [(B + n, m_c B K x)] = m_ws B K (n + 1) (va_up g n x) := by
  apply List.ext_getElem?
  intro j
  by_cases hj : j < n
  · rw [List.getElem?_append_left (by rw [m_ws_len]; exact hj), m_ws_get hj, m_ws_get (by omega), va_up, if_neg (by omega)]
  · by_cases hj2 : j = n
    · subst hj2
      rw [List.getElem?_append_right (by rw [m_ws_len]; omega), m_ws_get (by omega), m_ws_len]
      simp [va_up]
    · rw [List.getElem?_eq_none (by rw [List.length_append, m_ws_len]; simp; omega), List.getElem?_eq_none (by rw [m_ws_len]; omega)]
theorem m_ws_D {B : Nat} {K : Nat → ClassId} {n : Nat} {g : m_G} : va_D (fun q => B ≤ q) (m_ws B K n g) := by
  refine ⟨fun i j a b ha hb h => ?_, fun k q hk => ?_⟩
  · obtain ⟨_, rfl⟩ := m_ws_inv ha
    obtain ⟨_, rfl⟩ := m_ws_inv hb
    exact Nat.add_left_cancel h
  · obtain ⟨_, rfl⟩ := m_ws_inv hk
    exact Nat.le_add_right _ _
/-- the tables' words of array classes -/
def m_tys (K : Nat → ClassId) : List (ClassId × FieldType) := (List.range m_TY.length).map (fun i => (K i, m_TY.getD i .int))
theorem m_tys_get {K : Nat → ClassId} {t : Nat} {ty : FieldType} (h : m_TY[t]? = some ty) : (m_tys K)[t]? = some (K t, ty) := by
  have ht := (List.getElem?_eq_some_iff.mp h).1
  simp [m_tys, ht]
  rw [List.getElem?_eq_getElem ht] at h
  exact Option.some.inj h
def m_K (D : va_G) (K : Nat → ClassId) (U : State) : Prop := va_K D classes (m_tys K) U ∧ (∀ w ∈ m_NW, va_Nw w U) ∧ ∀ C ∈ m_AO, va_AO C U
theorem m_K.warm {D : va_G} {K : Nat → ClassId} {s U : State} (hW : s.WarmedH U.vm) (h : m_K D K s) : m_K D K U := by
  refine ⟨va_K.moved hW.alike h.1, fun w hw => ?_, fun C hC => (h.2.2 C hC).moved hW.alike⟩
  have hz := h.2.1 w hw
  have hn := List.all_eq_true.mp m_NW_nest w hw
  cases w <;> first | exact va_Nw.warmM hW hz | exact va_Nw.warmF hW hz | (simp [m_isNest] at hn; done)
theorem m_K.same {D : va_G} {K : Nat → ClassId} {s U : State} (hv : s.vm = U.vm) (h : m_K D K s) : m_K D K U := by
  have hA : s.vm.Alike U.vm := by rw [hv]; exact Vm.Alike.refl U.vm
  refine ⟨va_K.moved hA h.1, fun w hw => ?_, fun C hC => (h.2.2 C hC).moved hA⟩
  have hz := h.2.1 w hw
  have hn := List.all_eq_true.mp m_NW_nest w hw
  cases w <;> first | exact va_Nw.same rfl hv hz | (simp [m_isNest] at hn; done)
/-- the world: where the cells are, and that nothing below B has changed -/
def m_S (D : va_G) (B : Nat) (K : Nat → ClassId) (n : Nat) (g : m_G) (H0 H : Heap) (locs : List Loc) : Prop :=
  va_P D classes (m_ws B K n g) H ∧ va_S (fun q => B ≤ q) H0 H locs ∧ (∀ i, n ≤ i → g i = m_dead) ∧ B ≤ H0.size
def m_V (p : Program) (m : MethodId) (c : Code) (cc : ByteArray) (nL : Nat) (s : State) (args : Array Value) (own : String) (D : va_G) (K : Nat → ClassId) : Prop :=
  CallFix p m c cc nL s args m_TB own ∧ m_K D K s
def m_Pc (D : va_G) (B : Nat) (K : Nat → ClassId) (n : Nat) (g : m_G) (av : List Value) : Array Value → State → Prop := fun a U =>
  a = av.toArray ∧ U.heap.size = B + n ∧ va_P D classes (m_ws B K n g) U.heap ∧ m_K D K U ∧ ∀ i, n ≤ i → g i = m_dead
def m_Q (D : va_G) (B : Nat) (K : Nat → ClassId) (v : Option Value) (n : Nat) (g : m_G) : Array Value → State → Outcome → State → Prop := fun _ st o t =>
  o = .returned v ∧ t.heap.size = B + n ∧ va_P D classes (m_ws B K n g) t.heap ∧ va_F (fun q => B ≤ q) st t ∧ ∀ i, n ≤ i → g i = m_dead
-- what the heap's cells say
def m_asI (v : Value) : Option Int32 := match v with
  | .int x => some x
  | _ => none
def m_asL (v : Value) : Option Int64 := match v with
  | .long x => some x
  | _ => none
def m_asR (v : Value) : Option (Option Nat) := match v with
  | .ref a => some (some a)
  | .null => some none
  | _ => none
def m_gf (g : m_G) (a ci k : Nat) : Option Value := match g a with
  | .inr (c, fs) => if c = ci then fs[k]? else none
  | .inl _ => none
def m_gI (g : m_G) (a ci k : Nat) : Option Int32 := (m_gf g a ci k).bind m_asI
def m_gL (g : m_G) (a ci k : Nat) : Option Int64 := (m_gf g a ci k).bind m_asL
def m_gR (g : m_G) (a ci k : Nat) : Option (Option Nat) := (m_gf g a ci k).bind m_asR
def m_pf (g : m_G) (a ci k : Nat) (v : Value) : Option m_G := match g a with
  | .inr (c, fs) => if c = ci ∧ k < fs.length then some (va_up g a (.inr (c, fs.set k v))) else none
  | .inl _ => none
def m_pI (g : m_G) (a ci k : Nat) (x : Int32) : Option m_G := m_pf g a ci k (.int x)
def m_pL (g : m_G) (a ci k : Nat) (x : Int64) : Option m_G := m_pf g a ci k (.long x)
def m_pZ (g : m_G) (a ci k : Nat) (x : Int32) : Option m_G := if x = 0 ∨ x = 1 then m_pf g a ci k (.int x) else none
def m_rv (r : Option Nat) : Value := match r with
  | some a => .ref a
  | none => .null
def m_pR (g : m_G) (a ci k : Nat) (r : Option Nat) : Option m_G := m_pf g a ci k (m_rv r)
def m_in (i : Int32) (len : Nat) : Bool := decide (0 ≤ i) && decide (i.toNatClampNeg < len)
def m_ld (g : m_G) (a t : Nat) (i : Int32) : Option Int32 := match g a with
  | .inl (t', len, .inl f) => if t' = t ∧ m_in i len = true then some (f i.toNatClampNeg) else none
  | _ => none
def m_ldL (g : m_G) (a t : Nat) (i : Int32) : Option Int64 := match g a with
  | .inl (t', len, .inr (.inl f)) => if t' = t ∧ m_in i len = true then some (f i.toNatClampNeg) else none
  | _ => none
def m_ldR (g : m_G) (a t : Nat) (i : Int32) : Option (Option Nat) := match g a with
  | .inl (t', len, .inr (.inr (.inr (.inr f)))) => if t' = t ∧ m_in i len = true then some (f i.toNatClampNeg) else none
  | _ => none
def m_st (g : m_G) (a t : Nat) (i x : Int32) : Option m_G := match g a with
  | .inl (t', len, .inl f) => if t' = t ∧ m_in i len = true then some (va_up g a (.inl (t', len, .inl (upd f i.toNatClampNeg x)))) else none
  | _ => none
def m_stL (g : m_G) (a t : Nat) (i : Int32) (x : Int64) : Option m_G := match g a with
  | .inl (t', len, .inr (.inl f)) => if t' = t ∧ m_in i len = true then some (va_up g a (.inl (t', len, .inr (.inl (vp_updL f i.toNatClampNeg x))))) else none
  | _ => none
def m_is (g : m_G) (a ci : Nat) : Bool := match g a with
  | .inr (c, _) => decide (c = ci)
  | .inl _ => false
def m_stR (g : m_G) (a t ci : Nat) (i : Int32) (v : Nat) : Option m_G := match g a with
  | .inl (t', len, .inr (.inr (.inr (.inr f)))) => if t' = t ∧ m_in i len = true ∧ m_is g v ci = true then some (va_up g a (.inl (t', len, .inr (.inr (.inr (.inr (va_up f i.toNatClampNeg (some v)))))))) else none
  | _ => none
def m_len (g : m_G) (a : Nat) : Option Int32 := match g a with
  | .inl (t, len, _) => if t < m_TY.length then some (Int32.ofNat len) else none
  | .inr _ => none
/-- System.arraycopy between two arrays of ints of the type t -/
def m_cpy (g : m_G) (a0 a t : Nat) (ty : FieldType) (sp dp k : Int32) : Option m_G := match g a0, g a with
  | .inl (t0, n0, .inl f0), .inl (t1, n1, .inl f1) => if t0 = t ∧ t1 = t ∧ 0 ≤ sp ∧ 0 ≤ dp ∧ 0 ≤ k ∧ sp.toNatClampNeg + k.toNatClampNeg ≤ n0 ∧ dp.toNatClampNeg + k.toNatClampNeg ≤ n1 ∧ (List.range k.toNatClampNeg).all (fun i => fits ty (.int (f0 (sp.toNatClampNeg + i)))) = true then some (va_up g a (.inl (t1, n1, .inl (va_cpy f0 f1 sp.toNatClampNeg dp.toNatClampNeg k.toNatClampNeg)))) else none
  | _, _ => none
def m_nw (g : m_G) (n : Nat) (x : m_E) : Option m_G := some (va_up g n x)
def m_fu : Nat := 100000
def m_bd {α β : Type} (o : Option (α × m_G)) (k : α → m_G → Option β) : Option β := match o with
  | some (x, g) => k x g
  | none => none
def m_gd {β : Type} (b : Bool) (k : Option β) : Option β := if b = true then k else none
theorem m_bd_inv {α β : Type} {o : Option (α × m_G)} {k : α → m_G → Option β} {y : β} (h : m_bd o k = some y) : ∃ x g, o = some (x, g) ∧ k x g = some y := by
  unfold m_bd at h
  split at h
  · exact ⟨_, _, rfl, h⟩
  · cases h
theorem m_gd_inv {β : Type} {b : Bool} {k : Option β} {y : β} (h : m_gd b k = some y) : b = true ∧ k = some y := by
  unfold m_gd at h
  split at h
  · rename_i hb
    exact ⟨hb, h⟩
  · cases h
theorem m_r_cat (B : Nat) (r : Option Nat) : (m_r B r).category = 1 := by cases r <;> rfl
theorem m_gf_inv {g : m_G} {a ci k : Nat} {v : Value} (h : m_gf g a ci k = some v) : ∃ fs, g a = .inr (ci, fs) ∧ fs[k]? = some v := by
  unfold m_gf at h
  split at h
  · rename_i c fs e
    split at h
    · rename_i hc
      subst hc
      exact ⟨fs, e, h⟩
    · cases h
  · cases h
theorem m_asI_inv {v : Value} {x : Int32} (h : m_asI v = some x) : v = .int x := by
  cases v <;> simp [m_asI] at h
  subst h; rfl
theorem m_asL_inv {v : Value} {x : Int64} (h : m_asL v = some x) : v = .long x := by
  cases v <;> simp [m_asL] at h
  subst h; rfl
theorem m_asR_inv {v : Value} {r : Option Nat} (h : m_asR v = some r) : v = m_rv r := by
  cases v <;> simp [m_asR] at h
  · subst h; rfl
  · subst h; rfl
theorem m_v_rv (B : Nat) (r : Option Nat) : m_v B (m_rv r) = m_r B r := by cases r <;> rfl
theorem m_pf_inv {g g' : m_G} {a ci k : Nat} {v : Value} (h : m_pf g a ci k v = some g') : ∃ fs, g a = .inr (ci, fs) ∧ k < fs.length ∧ g' = va_up g a (.inr (ci, fs.set k v)) := by
  unfold m_pf at h
  split at h
  · rename_i c fs e
    split at h
    · rename_i hc
      obtain ⟨hc, hk⟩ := hc
      subst hc
      exact ⟨fs, e, hk, (Option.some.inj h).symm⟩
    · cases h
  · cases h
theorem m_in_vp {i : Int32} {len : Nat} (h : m_in i len = true) : vp_in i len := by
  simp only [m_in, Bool.and_eq_true, decide_eq_true_eq] at h
  rintro (q | q)
  · exact absurd h.1 (Int32.not_le.mpr q)
  · omega
theorem m_ld_inv {g : m_G} {a t : Nat} {i x : Int32} (h : m_ld g a t i = some x) : ∃ len f, g a = .inl (t, len, .inl f) ∧ m_in i len = true ∧ x = f i.toNatClampNeg := by
  unfold m_ld at h
  split at h
  · rename_i t' len f e
    split at h
    · rename_i hc
      obtain ⟨hc, hk⟩ := hc
      subst hc
      exact ⟨len, f, e, hk, (Option.some.inj h).symm⟩
    · cases h
  · cases h
theorem m_ldL_inv {g : m_G} {a t : Nat} {i : Int32} {x : Int64} (h : m_ldL g a t i = some x) : ∃ len f, g a = .inl (t, len, .inr (.inl f)) ∧ m_in i len = true ∧ x = f i.toNatClampNeg := by
  unfold m_ldL at h
  split at h
  · rename_i t' len f e
    split at h
    · rename_i hc
      obtain ⟨hc, hk⟩ := hc
      subst hc
      exact ⟨len, f, e, hk, (Option.some.inj h).symm⟩
    · cases h
  · cases h
theorem m_ldR_inv {g : m_G} {a t : Nat} {i : Int32} {x : Option Nat} (h : m_ldR g a t i = some x) : ∃ len f, g a = .inl (t, len, .inr (.inr (.inr (.inr f)))) ∧ m_in i len = true ∧ x = f i.toNatClampNeg := by
  unfold m_ldR at h
  split at h
  · rename_i t' len f e
    split at h
    · rename_i hc
      obtain ⟨hc, hk⟩ := hc
      subst hc
      exact ⟨len, f, e, hk, (Option.some.inj h).symm⟩
    · cases h
  · cases h
theorem m_st_inv {g g' : m_G} {a t : Nat} {i x : Int32} (h : m_st g a t i x = some g') : ∃ len f, g a = .inl (t, len, .inl f) ∧ m_in i len = true ∧ g' = va_up g a (.inl (t, len, .inl (upd f i.toNatClampNeg x))) := by
  unfold m_st at h
  split at h
  · rename_i t' len f e
    split at h
    · rename_i hc
      obtain ⟨hc, hk⟩ := hc
      subst hc
      exact ⟨len, f, e, hk, (Option.some.inj h).symm⟩
    · cases h
  · cases h
theorem m_stL_inv {g g' : m_G} {a t : Nat} {i : Int32} {x : Int64} (h : m_stL g a t i x = some g') : ∃ len f, g a = .inl (t, len, .inr (.inl f)) ∧ m_in i len = true ∧ g' = va_up g a (.inl (t, len, .inr (.inl (vp_updL f i.toNatClampNeg x)))) := by
  unfold m_stL at h
  split at h
  · rename_i t' len f e
    split at h
    · rename_i hc
      obtain ⟨hc, hk⟩ := hc
      subst hc
      exact ⟨len, f, e, hk, (Option.some.inj h).symm⟩
    · cases h
  · cases h
theorem m_is_inv {g : m_G} {a ci : Nat} (h : m_is g a ci = true) : ∃ fs, g a = .inr (ci, fs) := by
  unfold m_is at h
  split at h
  · rename_i c fs e
    have hc := of_decide_eq_true h
    subst hc
    exact ⟨fs, e⟩
  · cases h
theorem m_stR_inv {g g' : m_G} {a t ci : Nat} {i : Int32} {v : Nat} (h : m_stR g a t ci i v = some g') : ∃ len f, g a = .inl (t, len, .inr (.inr (.inr (.inr f)))) ∧ m_in i len = true ∧ m_is g v ci = true ∧ g' = va_up g a (.inl (t, len, .inr (.inr (.inr (.inr (va_up f i.toNatClampNeg (some v))))))) := by
  unfold m_stR at h
  split at h
  · rename_i t' len f e
    split at h
    · rename_i hc
      obtain ⟨hc, hk, hi⟩ := hc
      subst hc
      exact ⟨len, f, e, hk, hi, (Option.some.inj h).symm⟩
    · cases h
  · cases h
theorem m_cls_lt {ci : Nat} {r : vw_C} (h : classes[ci]? = some r) : ci ≠ 99 := by
  have := (List.getElem?_eq_some_iff.mp h).1
  have h2 : classes.length ≤ 99 := Nat.le_of_ble_eq_true rfl
  omega
section MB
variable {p : Program} {l : Launch} {e : Env} {R : Room} {s : State} {m : MethodId} {args : Array Value} {below : List Frame} {meth : Method} {c : Code} {H : Heap} {locs : List Loc} {cells slots : Nat} {Q : State → Prop}
variable {cc : ByteArray} {pc nL : Nat} {own : String} {ls : Array Slot} {rest : List Value} {D : va_G} {B n : Nat} {K : Nat → ClassId} {g g' : m_G} {H0 : Heap}
theorem m_S.ltO (S : m_S D B K n g H0 H locs) {a ci : Nat} {fs : List Value} (h : g a = .inr (ci, fs)) (hc : ci ≠ 99) : a < n := by
  apply Nat.lt_of_not_le
  intro q
  have := S.2.2.1 a q
  rw [h] at this
  unfold m_dead at this
  exact hc (congrArg Prod.fst (Sum.inr.inj this))
theorem m_S.ltA (S : m_S D B K n g H0 H locs) {a : Nat} {x : Nat × vp_A} (h : g a = .inl x) : a < n := by
  apply Nat.lt_of_not_le
  intro q
  have := S.2.2.1 a q
  rw [h] at this
  unfold m_dead at this
  cases this
theorem m_dead_up {a : Nat} {x : m_E} (h : ∀ i, n ≤ i → g i = m_dead) (ha : a < n) : ∀ i, n ≤ i → va_up g a x i = m_dead := fun i hi => by
  rw [va_up, if_neg (by omega)]; exact h i hi
theorem m_S.up {H1 : Heap} {locs1 : List Loc} {a : Nat} {x : m_E} {y : va_E} (S : m_S D B K n g H0 H locs) (ha : a < n) (hP : va_P D classes ((m_ws B K n g).set a (B + a, y)) H1) (hS : va_S (fun q => B ≤ q) H0 H1 locs1) (hy : y = m_c B K x) : m_S D B K n (va_up g a x) H0 H1 locs1 := by
  subst hy
  rw [m_ws_set ha] at hP
  exact ⟨hP, hS, m_dead_up S.2.2.1 ha, S.2.2.2⟩
theorem m_S.size (S : m_S D B K n g H0 H locs) : B + n ≤ H.size := by
  cases n with
  | zero => exact Nat.le_trans S.2.2.2 S.2.1.1
  | succ k =>
    have h := (S.1 k _ (m_ws_get (Nat.lt_succ_self k))).lt
    exact h
theorem m_size (kk : H.size ≤ s.heap.size + cells → W p l e R s m args below meth c H locs cells slots Q (F0 m pc ls rest)) : W p l e R s m args below meth c H locs cells slots Q (F0 m pc ls rest) := fun T hT X => kk (by rw [← hT]; exact X.heapSize) T hT X
theorem m_wsO {a ci : Nat} {fs : List Value} (h : g a = .inr (ci, fs)) (ha : a < n) : (m_ws B K n g)[a]? = some (B + a, .inr (ci, fs.map (m_v B))) := by
  rw [m_ws_get ha, h]; rfl
theorem m_wsI {a t len : Nat} {f : Nat → Int32} (h : g a = .inl (t, len, .inl f)) (ha : a < n) : (m_ws B K n g)[a]? = some (B + a, .inl (K t, len, .inl f)) := by
  rw [m_ws_get ha, h]; rfl
theorem m_wsL {a t len : Nat} {f : Nat → Int64} (h : g a = .inl (t, len, .inr (.inl f))) (ha : a < n) : (m_ws B K n g)[a]? = some (B + a, .inl (K t, len, .inr (.inl f))) := by
  rw [m_ws_get ha, h]; rfl
theorem m_wsR {a t len : Nat} {f : Nat → Option Nat} (h : g a = .inl (t, len, .inr (.inr (.inr (.inr f))))) (ha : a < n) : (m_ws B K n g)[a]? = some (B + a, .inl (K t, len, .inr (.inr (.inr (.inr (fun j => (f j).map (fun a => B + a))))))) := by
  rw [m_ws_get ha, h]; rfl
theorem m_gI_inv {a ci k : Nat} {x : Int32} (h : m_gI g a ci k = some x) : m_gf g a ci k = some (.int x) := by
  obtain ⟨v, h1, h2⟩ := Option.bind_eq_some_iff.mp h
  rw [h1, m_asI_inv h2]
theorem m_gL_inv {a ci k : Nat} {x : Int64} (h : m_gL g a ci k = some x) : m_gf g a ci k = some (.long x) := by
  obtain ⟨v, h1, h2⟩ := Option.bind_eq_some_iff.mp h
  rw [h1, m_asL_inv h2]
theorem m_gR_inv {a ci k : Nat} {x : Option Nat} (h : m_gR g a ci k = some x) : m_gf g a ci k = some (m_rv x) := by
  obtain ⟨v, h1, h2⟩ := Option.bind_eq_some_iff.mp h
  rw [h1, m_asR_inv h2]
theorem m_map_set {B : Nat} {fs : List Value} {k : Nat} {v : Value} : (fs.map (m_v B)).set k (m_v B v) = (fs.set k v).map (m_v B) := by
  rw [List.map_set]
theorem m_fitB {x : Int32} (h : x = 0 ∨ x = 1) : narrow .boolean (.int x) = .int x ∧ fits .boolean (.int x) = true := by
  rcases h with rfl | rfl <;> exact ⟨by decide +kernel, by decide +kernel⟩
-- fields: what a field's row in the tables is (class number ci, name C, table T of N fields, types ty0, place k)
def m_Fd (ci k : Nat) (C ref nm ds : String) (T : u_T) (N : Nat) (fin : Bool) (ty : FieldType) : Prop :=
  (∀ w ∈ u_ws C T N, w ∈ m_TB) ∧ classes[ci]? = some (C, T, N) ∧ k < N ∧ (T k).1 = ref ∧ (T k).2.1 = nm ∧ (T k).2.2.1 = ds ∧ (T k).2.2.2 = fin ∧ parseFieldDescriptor (T k).2.2.1 = some ty ∧ (∀ a, a < N → ∀ b, b < N → a ≠ b → (T a).2.1 ≠ (T b).2.1) ∧ ∃ ty0 : Nat → FieldType, ∀ k, k < N → parseFieldDescriptor (T k).2.2.1 = some (ty0 k)
theorem m_get (E : m_V p m c cc nL s args own D K) (S : m_S D B K n g s.heap H locs) {a ci k index N : Nat} {C ref nm ds : String} {T : u_T} {fin : Bool} {ty : FieldType} {v w : Value} (F : m_Fd ci k C ref nm ds T N fin ty) (hlink : Cond.fieldLink own index ref nm ds ∈ m_TB ∨ ∃ host, Cond.fieldLinkNest own index ref nm ds host ∈ m_NW)
    (hv : m_gf g a ci k = some v) (hw : m_v B v = w) (hdg : decode cc pc = .ok (.getfield index, 3))
    (kk : W p l e R s m args below meth c H locs cells slots Q (F0 m (pc + 3) ls (w :: rest))) : W p l e R s m args below meth c H locs cells slots Q (F0 m pc ls (.ref (B + a) :: rest)) := by
  obtain ⟨⟨hx, hb, hml, hown, hts⟩, hK⟩ := E
  obtain ⟨fs, hg, hf⟩ := m_gf_inv hv
  obtain ⟨hin, hc, hk, rfl, rfl, rfl, -⟩ := F
  subst hw
  rcases hlink with hlink | ⟨host, hlink⟩
  · exact va_get hx hb hts hin hown hK.1 S.1 a (m_wsO hg (S.ltO hg (m_cls_lt hc))) hc k hk (hts _ hlink) (fun _ h => h) (v := m_v B v) (by rw [List.getElem?_map, hf]; rfl) hdg kk
  · exact va_getN hx hb hts hin hown hK.1 S.1 a (m_wsO hg (S.ltO hg (m_cls_lt hc))) hc k hk (va_Nw.use rfl (hK.2.1 _ hlink)) (fun _ h => h) (v := m_v B v) (by rw [List.getElem?_map, hf]; rfl) hdg kk
theorem m_getI (E : m_V p m c cc nL s args own D K) (S : m_S D B K n g s.heap H locs) {a ci k index N : Nat} {C ref nm ds : String} {T : u_T} {fin : Bool} {ty : FieldType} {x : Int32} (F : m_Fd ci k C ref nm ds T N fin ty) (hlink : Cond.fieldLink own index ref nm ds ∈ m_TB ∨ ∃ host, Cond.fieldLinkNest own index ref nm ds host ∈ m_NW)
    (hv : m_gI g a ci k = some x) (hdg : decode cc pc = .ok (.getfield index, 3))
    (kk : W p l e R s m args below meth c H locs cells slots Q (F0 m (pc + 3) ls (.int x :: rest))) : W p l e R s m args below meth c H locs cells slots Q (F0 m pc ls (.ref (B + a) :: rest)) := m_get E S F hlink (m_gI_inv hv) rfl hdg kk
theorem m_getL (E : m_V p m c cc nL s args own D K) (S : m_S D B K n g s.heap H locs) {a ci k index N : Nat} {C ref nm ds : String} {T : u_T} {fin : Bool} {ty : FieldType} {x : Int64} (F : m_Fd ci k C ref nm ds T N fin ty) (hlink : Cond.fieldLink own index ref nm ds ∈ m_TB ∨ ∃ host, Cond.fieldLinkNest own index ref nm ds host ∈ m_NW)
    (hv : m_gL g a ci k = some x) (hdg : decode cc pc = .ok (.getfield index, 3))
    (kk : W p l e R s m args below meth c H locs cells slots Q (F0 m (pc + 3) ls (.long x :: rest))) : W p l e R s m args below meth c H locs cells slots Q (F0 m pc ls (.ref (B + a) :: rest)) := m_get E S F hlink (m_gL_inv hv) rfl hdg kk
theorem m_getR (E : m_V p m c cc nL s args own D K) (S : m_S D B K n g s.heap H locs) {a ci k index N : Nat} {C ref nm ds : String} {T : u_T} {fin : Bool} {ty : FieldType} {x : Option Nat} (F : m_Fd ci k C ref nm ds T N fin ty) (hlink : Cond.fieldLink own index ref nm ds ∈ m_TB ∨ ∃ host, Cond.fieldLinkNest own index ref nm ds host ∈ m_NW)
    (hv : m_gR g a ci k = some x) (hdg : decode cc pc = .ok (.getfield index, 3))
    (kk : W p l e R s m args below meth c H locs cells slots Q (F0 m (pc + 3) ls (m_r B x :: rest))) : W p l e R s m args below meth c H locs cells slots Q (F0 m pc ls (.ref (B + a) :: rest)) := m_get E S F hlink (m_gR_inv hv) (m_v_rv B x) hdg kk
theorem m_put (E : m_V p m c cc nL s args own D K) (S : m_S D B K n g s.heap H locs) {a ci k index N : Nat} {C ref nm ds : String} {T : u_T} {ty : FieldType} {v w : Value} (F : m_Fd ci k C ref nm ds T N false ty) (hlink : Cond.fieldLink own index ref nm ds ∈ m_TB ∨ ∃ host, Cond.fieldLinkNest own index ref nm ds host ∈ m_NW)
    (hp : m_pf g a ci k v = some g') (hw : m_v B v = w) (hn : narrow ty w = w) (hfit : fits ty w = true) (hdg : decode cc pc = .ok (.putfield index, 3))
    (kk : ∀ (H1 : Heap) (locs1 : List Loc), m_S D B K n g' s.heap H1 locs1 → W p l e R s m args below meth c H1 locs1 cells slots Q (F0 m (pc + 3) ls rest)) : W p l e R s m args below meth c H locs cells slots Q (F0 m pc ls (w :: .ref (B + a) :: rest)) := by
  obtain ⟨⟨hx, hb, hml, hown, hts⟩, hK⟩ := E
  obtain ⟨fs, hg, hk', rfl⟩ := m_pf_inv hp
  obtain ⟨hin, hc, hk, rfl, rfl, rfl, hfin, hd, hnm, ty0, hty⟩ := F
  subst hw
  have ha := S.ltO hg (m_cls_lt hc)
  rcases hlink with hlink | ⟨host, hlink⟩
  · exact va_put hx hb hts hin ty0 hty hnm hown hK.1 S.1 m_ws_D S.2.1 a (m_wsO hg ha) hc k hk (hts _ hlink) (fun _ h => h) hfin hd hn hfit (by rw [List.length_map]; exact hk') hdg (fun H1 locs1 hP _ hS => kk H1 locs1 (S.up ha hP hS (by rw [m_map_set]; rfl)))
  · exact va_putN hx hb hts hin ty0 hty hnm hown hK.1 S.1 m_ws_D S.2.1 a (m_wsO hg ha) hc k hk (va_Nw.use rfl (hK.2.1 _ hlink)) (fun _ h => h) hfin hd hn hfit (by rw [List.length_map]; exact hk') hdg (fun H1 locs1 hP _ hS => kk H1 locs1 (S.up ha hP hS (by rw [m_map_set]; rfl)))
theorem m_putF (E : m_V p m c cc nL s args own D K) (S : m_S D B K n g s.heap H locs) {a ci k index N : Nat} {C nm ds : String} {T : u_T} {ty : FieldType} {v w : Value} (F : m_Fd ci k C own nm ds T N true ty) (hin2 : meth.name = "<init>") (hlink : Cond.fieldLink own index own nm ds ∈ m_TB)
    (hp : m_pf g a ci k v = some g') (hw : m_v B v = w) (hn : narrow ty w = w) (hfit : fits ty w = true) (hdg : decode cc pc = .ok (.putfield index, 3))
    (kk : ∀ (H1 : Heap) (locs1 : List Loc), m_S D B K n g' s.heap H1 locs1 → W p l e R s m args below meth c H1 locs1 cells slots Q (F0 m (pc + 3) ls rest)) : W p l e R s m args below meth c H locs cells slots Q (F0 m pc ls (w :: .ref (B + a) :: rest)) := by
  obtain ⟨⟨hx, hb, hml, hown, hts⟩, hK⟩ := E
  obtain ⟨fs, hg, hk', rfl⟩ := m_pf_inv hp
  obtain ⟨hin, hc, hk, h1, rfl, rfl, hfin, hd, hnm, ty0, hty⟩ := F
  subst hw
  have ha := S.ltO hg (m_cls_lt hc)
  exact va_putF hx hb hts hin ty0 hty hnm hown hK.1 S.1 m_ws_D S.2.1 a (m_wsO hg ha) hc k hk (hts _ hlink) (fun _ h => by rw [← h1]; exact h) hfin hin2 h1 hd hn hfit (by rw [List.length_map]; exact hk') hdg (fun H1 locs1 hP _ hS => kk H1 locs1 (S.up ha hP hS (by rw [m_map_set]; rfl)))
end MB
