/-! THE HEAP OF BOTH OBJECTS, by what can change in it: vv (int fields: cell, place), ww (the long field of a cell), aa (arrays of ints), bb (arrays of longs). All else stands: hp_sk says what each cell is. -/
def hp_nof : Nat → Option Nat := fun _ => none
def hp_arc : List (Nat × Nat) := [(0, 1), (0, 3), (0, 65), (0, 69), (0, 71), (0, 76), (0, 125), (1, 0), (1, 0), (1, 0)]
def hp_mod : List (Nat × Nat) := [(0, 127), (0, 128), (1, 0), (0, 129), (0, 130), (0, 131), (1, 0), (0, 132), (0, 133), (0, 134), (1, 0), (0, 135), (0, 136), (0, 137), (0, 138), (0, 139), (0, 140), (0, 141), (1, 0), (0, 142), (1, 0), (1, 0), (0, 143), (0, 144), (1, 0), (1, 0), (2, 0), (1, 0)]
def hp_que : List (Nat × Nat) := [(0, 72), (0, 73), (0, 74), (0, 75), (1, 0), (1, 0), (1, 0)]
def hp_msg (i : Nat) : List (Nat × Nat) := [(0, i + 1), (0, i + 2), (0, i + 3), (1, 0), (1, 0), (1, 0), (1, 0), (1, 0), (1, 0)]
def hp_isL (i : Nat) : Bool := i == 1 || i == 67 || (decide (5 ≤ i) && decide (i < 65) && i % 2 == 1)
def hp_isC (i : Nat) : Bool := i == 2 || i == 68 || (decide (6 ≤ i) && decide (i < 65) && i % 2 == 0)
def hp_isM (i : Nat) : Bool := decide (77 ≤ i) && decide (i < 125)
/-- what a cell is: (1, class, 0, its places: (0, reference) or (1, int) or (2, long)), (2, array type, length), (3, ..) of longs, (4, ..) of references -/
def hp_sk (i : Nat) : Nat × Nat × Nat × List (Nat × Nat) × (Nat → Option Nat) :=
  if hp_isL i = true then (1, 1, 0, [(0, i + 1), (1, 0)], hp_nof)
  else if hp_isC i = true then (2, 1, 40, [], hp_nof)
  else if hp_isM i = true then
    (if (i - 77) % 4 = 0 then (1, 4, 0, hp_msg i, hp_nof) else if (i - 77) % 4 = 1 then (2, 0, 4, [], hp_nof) else if (i - 77) % 4 = 2 then (3, 2, 50, [], hp_nof) else (2, 0, 50, [], hp_nof))
  else match i with
  | 0 => (1, 0, 0, hp_arc, hp_nof)
  | 3 => (1, 2, 0, [(0, 4), (1, 0)], hp_nof)
  | 4 => (4, 4, 30, [], fun k => if k < 30 then some (5 + 2 * k) else none)
  | 65 => (1, 5, 0, [(0, 66), (0, 67)], hp_nof)
  | 66 => (1, 3, 0, [(2, 0), (1, 0)], hp_nof)
  | 69 => (1, 6, 0, [(0, 70)], hp_nof)
  | 70 => (2, 0, 64, [], hp_nof)
  | 71 => (1, 7, 0, hp_que, hp_nof)
  | 72 => (2, 0, 7, [], hp_nof)
  | 73 => (2, 0, 7, [], hp_nof)
  | 74 => (2, 3, 7, [], hp_nof)
  | 75 => (1, 3, 0, [(2, 0), (1, 0)], hp_nof)
  | 76 => (4, 5, 12, [], fun k => if k < 12 then some (77 + 4 * k) else none)
  | 125 => (2, 0, 12, [], hp_nof)
  | 126 => (1, 8, 0, hp_mod, hp_nof)
  | 127 => (2, 0, 1240, [], hp_nof)
  | 128 => (2, 0, 31, [], hp_nof)
  | 129 => (2, 0, 40, [], hp_nof)
  | 130 => (2, 0, 40, [], hp_nof)
  | 131 => (2, 0, 40, [], hp_nof)
  | 132 => (2, 3, 12, [], hp_nof)
  | 133 => (2, 0, 12, [], hp_nof)
  | 134 => (2, 0, 12, [], hp_nof)
  | 135 => (2, 0, 48, [], hp_nof)
  | 136 => (2, 0, 12, [], hp_nof)
  | 137 => (2, 0, 12, [], hp_nof)
  | 138 => (2, 0, 12, [], hp_nof)
  | 139 => (2, 0, 12, [], hp_nof)
  | 140 => (3, 2, 600, [], hp_nof)
  | 141 => (2, 0, 600, [], hp_nof)
  | 142 => (2, 0, 64, [], hp_nof)
  | 143 => (2, 0, 44, [], hp_nof)
  | 144 => (2, 0, 44, [], hp_nof)
  | _ => (0, 0, 0, [], hp_nof)
abbrev hp_V : Type := Nat → Nat → Int32
abbrev hp_W : Type := Nat → Int64
abbrev hp_B : Type := Nat → Nat → Int64
def hp_slot (vv : hp_V) (ww : hp_W) (i k : Nat) (t : Nat × Nat) : Value := if t.1 = 0 then .ref t.2 else if t.1 = 1 then .int (vv i k) else .long (ww i)
def hp_fs (vv : hp_V) (ww : hp_W) (i : Nat) : Nat → List (Nat × Nat) → List Value
  | _, [] => []
  | k, t :: ts => hp_slot vv ww i k t :: hp_fs vv ww i (k + 1) ts
def hp_cell (vv : hp_V) (ww : hp_W) (aa : hp_V) (bb : hp_B) (i : Nat) (q : Nat × Nat × Nat × List (Nat × Nat) × (Nat → Option Nat)) : m_E := match q with
  | (1, ci, _, ts, _) => .inr (ci, hp_fs vv ww i 0 ts)
  | (2, t, len, _, _) => .inl (t, len, .inl (aa i))
  | (3, t, len, _, _) => .inl (t, len, .inr (.inl (bb i)))
  | (4, t, len, _, f) => .inl (t, len, .inr (.inr (.inr (.inr f))))
  | _ => m_dead
def hp_mk (vv : hp_V) (ww : hp_W) (aa : hp_V) (bb : hp_B) : m_G := fun i => hp_cell vv ww aa bb i (hp_sk i)
/-- one place changed -/
def up_v (vv : hp_V) (i k : Nat) (x : Int32) : hp_V := fun i' k' => if i' = i ∧ k' = k then x else vv i' k'
def up_w (ww : hp_W) (i : Nat) (x : Int64) : hp_W := fun i' => if i' = i then x else ww i'
def up_a (aa : hp_V) (i : Nat) (f : Nat → Int32) : hp_V := fun i' => if i' = i then f else aa i'
def up_b (bb : hp_B) (i : Nat) (f : Nat → Int64) : hp_B := fun i' => if i' = i then f else bb i'
theorem hp_fs_get (vv : hp_V) (ww : hp_W) (i : Nat) : ∀ (ts : List (Nat × Nat)) (k0 k : Nat), (hp_fs vv ww i k0 ts)[k]? = (ts[k]?).map (hp_slot vv ww i (k0 + k)) := by
  intro ts
  induction ts with
  | nil => intro k0 k; simp [hp_fs]
  | cons t ts ih =>
    intro k0 k
    cases k with
    | zero => simp [hp_fs]
    | succ k =>
      simp only [hp_fs, List.getElem?_cons_succ, ih]
      rw [show k0 + 1 + k = k0 + (k + 1) by omega]
theorem hp_fs_len (vv : hp_V) (ww : hp_W) (i : Nat) : ∀ (ts : List (Nat × Nat)) (k0 : Nat), (hp_fs vv ww i k0 ts).length = ts.length := by
  intro ts
  induction ts with
  | nil => intro k0; rfl
  | cons t ts ih => intro k0; simp [hp_fs, ih]
theorem hp_fs_ext {vv vv' : hp_V} {ww ww' : hp_W} {i : Nat} (ts : List (Nat × Nat)) (k0 : Nat) (h : ∀ k t, ts[k]? = some t → hp_slot vv ww i (k0 + k) t = hp_slot vv' ww' i (k0 + k) t) : hp_fs vv ww i k0 ts = hp_fs vv' ww' i k0 ts := by
  apply List.ext_getElem?
  intro k
  rw [hp_fs_get, hp_fs_get]
  cases e : ts[k]? with
  | none => rfl
  | some t => simp [h k t e]
def hp_isI (i ci k : Nat) : Bool := match hp_sk i with
  | (1, c, _, ts, _) => c == ci && (match ts[k]? with | some t => t.1 == 1 | none => false)
  | _ => false
def hp_isJ (i ci k : Nat) : Bool := match hp_sk i with
  | (1, c, _, ts, _) => c == ci && (match ts[k]? with | some t => t.1 == 2 | none => false)
  | _ => false
def hp_ref (i ci k : Nat) : Option (Option Nat) := match hp_sk i with
  | (1, c, _, ts, _) => if c = ci then (match ts[k]? with | some t => if t.1 = 0 then some (some t.2) else none | none => none) else none
  | _ => none
def hp_len (i t : Nat) : Nat := match hp_sk i with
  | (2, t', len, _, _) => if t' = t then len else 0
  | _ => 0
def hp_lenL (i t : Nat) : Nat := match hp_sk i with
  | (3, t', len, _, _) => if t' = t then len else 0
  | _ => 0
theorem hp_isI_inv {i ci k : Nat} (h : hp_isI i ci k = true) : ∃ l ts f z, hp_sk i = (1, ci, l, ts, f) ∧ ts[k]? = some (1, z) := by
  unfold hp_isI at h
  split at h
  · rename_i c l ts f e
    simp only [Bool.and_eq_true, beq_iff_eq] at h
    obtain ⟨h1, h2⟩ := h
    subst h1
    split at h2
    · rename_i t et
      have h3 : t.1 = 1 := by simpa using h2
      exact ⟨l, ts, f, t.2, e, by rw [et, ← h3]⟩
    · cases h2
  · cases h
theorem hp_isJ_inv {i ci k : Nat} (h : hp_isJ i ci k = true) : ∃ l ts f z, hp_sk i = (1, ci, l, ts, f) ∧ ts[k]? = some (2, z) := by
  unfold hp_isJ at h
  split at h
  · rename_i c l ts f e
    simp only [Bool.and_eq_true, beq_iff_eq] at h
    obtain ⟨h1, h2⟩ := h
    subst h1
    split at h2
    · rename_i t et
      have h3 : t.1 = 2 := by simpa using h2
      exact ⟨l, ts, f, t.2, e, by rw [et, ← h3]⟩
    · cases h2
  · cases h
section HPG
variable {vv : hp_V} {ww : hp_W} {aa : hp_V} {bb : hp_B}
theorem hp_at {i : Nat} {q : Nat × Nat × Nat × List (Nat × Nat) × (Nat → Option Nat)} (h : hp_sk i = q) : hp_mk vv ww aa bb i = hp_cell vv ww aa bb i q := by unfold hp_mk; rw [h]
theorem gI_mk {i ci k : Nat} (h : hp_isI i ci k = true) : m_gI (hp_mk vv ww aa bb) i ci k = some (vv i k) := by
  obtain ⟨l, ts, f, z, e, et⟩ := hp_isI_inv h
  unfold m_gI m_gf
  rw [hp_at e]
  simp [hp_cell, hp_fs_get, et, hp_slot, m_asI]
theorem gL_mk {i ci k : Nat} (h : hp_isJ i ci k = true) : m_gL (hp_mk vv ww aa bb) i ci k = some (ww i) := by
  obtain ⟨l, ts, f, z, e, et⟩ := hp_isJ_inv h
  unfold m_gL m_gf
  rw [hp_at e]
  simp [hp_cell, hp_fs_get, et, hp_slot, m_asL]
theorem gR_mk {i ci k : Nat} {r : Option Nat} (h : hp_ref i ci k = some r) : m_gR (hp_mk vv ww aa bb) i ci k = some r := by
  unfold hp_ref at h
  split at h
  · rename_i c l ts f e
    split at h
    · rename_i hc
      subst hc
      split at h
      · rename_i t et
        split at h
        · rename_i h0
          unfold m_gR m_gf
          rw [hp_at e]
          simp [hp_cell, hp_fs_get, et, hp_slot, h0, m_asR]
          exact Option.some.inj h
        · cases h
      · cases h
    · cases h
  · cases h
theorem hp_up {i : Nat} {x : m_E} {vv' : hp_V} {ww' : hp_W} {aa' : hp_V} {bb' : hp_B} (h1 : hp_cell vv' ww' aa' bb' i (hp_sk i) = x) (hv : ∀ j k, j ≠ i → vv' j k = vv j k) (hw : ∀ j, j ≠ i → ww' j = ww j) (ha : ∀ j, j ≠ i → aa' j = aa j) (hb : ∀ j, j ≠ i → bb' j = bb j) : va_up (hp_mk vv ww aa bb) i x = hp_mk vv' ww' aa' bb' := by
  funext j
  unfold va_up
  by_cases hj : j = i
  · subst hj
    rw [if_pos rfl, ← h1]
    rfl
  · rw [if_neg hj]
    unfold hp_mk hp_cell
    split
    · congr 2
      exact hp_fs_ext _ _ (fun k t _ => by unfold hp_slot; rw [hv j _ hj, hw j hj])
    · rw [ha j hj]
    · rw [hb j hj]
    · rfl
    · rfl
theorem hp_fs_setI {i k : Nat} {ts : List (Nat × Nat)} {x : Int32} {z : Nat} (h : ts[k]? = some (1, z)) : (hp_fs vv ww i 0 ts).set k (.int x) = hp_fs (up_v vv i k x) ww i 0 ts := by
  apply List.ext_getElem?
  intro j
  rw [List.getElem?_set, hp_fs_get, hp_fs_get]
  have hk := (List.getElem?_eq_some_iff.mp h).1
  by_cases hj : k = j
  · subst hj
    rw [if_pos rfl, if_pos (by rw [hp_fs_len]; exact hk), h]
    simp [hp_slot, up_v]
  · rw [if_neg hj]
    cases e : ts[j]? with
    | none => rfl
    | some t =>
      simp only [Option.map_some, hp_slot, up_v, Nat.zero_add]
      rw [if_neg (show ¬ (True ∧ j = k) from fun q => hj q.2.symm)]
theorem hp_fs_setJ {i k : Nat} {ts : List (Nat × Nat)} {x : Int64} {z : Nat} (h : ts[k]? = some (2, z)) (hu : ∀ j t, ts[j]? = some t → t.1 ≠ 0 → t.1 ≠ 1 → j = k) : (hp_fs vv ww i 0 ts).set k (.long x) = hp_fs vv (up_w ww i x) i 0 ts := by
  apply List.ext_getElem?
  intro j
  rw [List.getElem?_set, hp_fs_get, hp_fs_get]
  have hk := (List.getElem?_eq_some_iff.mp h).1
  by_cases hj : k = j
  · subst hj
    rw [if_pos rfl, if_pos (by rw [hp_fs_len]; exact hk), h]
    simp [hp_slot, up_w]
  · rw [if_neg hj]
    cases e : ts[j]? with
    | none => rfl
    | some t =>
      simp only [Option.map_some, hp_slot, up_w]
      by_cases h0 : t.1 = 0
      · simp [h0]
      · by_cases h1 : t.1 = 1
        · simp [h1]
        · exact absurd (hu j t e h0 h1).symm hj
theorem pI_mk {i ci k : Nat} {x : Int32} (h : hp_isI i ci k = true) : m_pI (hp_mk vv ww aa bb) i ci k x = some (hp_mk (up_v vv i k x) ww aa bb) := by
  obtain ⟨l, ts, f, z, e, et⟩ := hp_isI_inv h
  unfold m_pI m_pf
  rw [hp_at e]
  simp only [hp_cell]
  rw [if_pos ⟨trivial, by rw [hp_fs_len]; exact (List.getElem?_eq_some_iff.mp et).1⟩, hp_fs_setI et]
  refine congrArg some (hp_up (by rw [e]; rfl) (fun j k' hj => ?_) (fun _ _ => rfl) (fun _ _ => rfl) (fun _ _ => rfl))
  unfold up_v
  rw [if_neg (fun q => hj q.1)]
theorem pZ_mk {i ci k : Nat} {x : Int32} (h : hp_isI i ci k = true) (hx : x = 0 ∨ x = 1) : m_pZ (hp_mk vv ww aa bb) i ci k x = some (hp_mk (up_v vv i k x) ww aa bb) := by
  unfold m_pZ
  rw [if_pos hx]
  exact pI_mk h
theorem pL_mk {i ci k : Nat} {x : Int64} (h : hp_isJ i ci k = true) (hu : ∀ q ts f, hp_sk i = (1, ci, q, ts, f) → ∀ j t, ts[j]? = some t → t.1 ≠ 0 → t.1 ≠ 1 → j = k) : m_pL (hp_mk vv ww aa bb) i ci k x = some (hp_mk vv (up_w ww i x) aa bb) := by
  obtain ⟨l, ts, f, z, e, et⟩ := hp_isJ_inv h
  unfold m_pL m_pf
  rw [hp_at e]
  simp only [hp_cell]
  rw [if_pos ⟨trivial, by rw [hp_fs_len]; exact (List.getElem?_eq_some_iff.mp et).1⟩, hp_fs_setJ et (hu l ts f e)]
  refine congrArg some (hp_up (by rw [e]; rfl) (fun _ _ _ => rfl) (fun j hj => ?_) (fun _ _ => rfl) (fun _ _ => rfl))
  unfold up_w
  rw [if_neg hj]
theorem ld_mk {i t len : Nat} {x : Int32} (h : hp_sk i = (2, t, len, [], hp_nof)) (hx : m_in x len = true) : m_ld (hp_mk vv ww aa bb) i t x = some (aa i x.toNatClampNeg) := by
  unfold m_ld
  rw [hp_at h]
  simp [hp_cell, hx]
theorem ldL_mk {i t len : Nat} {x : Int32} (h : hp_sk i = (3, t, len, [], hp_nof)) (hx : m_in x len = true) : m_ldL (hp_mk vv ww aa bb) i t x = some (bb i x.toNatClampNeg) := by
  unfold m_ldL
  rw [hp_at h]
  simp [hp_cell, hx]
theorem ldR_mk {i t len : Nat} {x : Int32} {f : Nat → Option Nat} (h : hp_sk i = (4, t, len, [], f)) (hx : m_in x len = true) : m_ldR (hp_mk vv ww aa bb) i t x = some (f x.toNatClampNeg) := by
  unfold m_ldR
  rw [hp_at h]
  simp [hp_cell, hx]
theorem st_mk {i t len : Nat} {x y : Int32} (h : hp_sk i = (2, t, len, [], hp_nof)) (hx : m_in x len = true) : m_st (hp_mk vv ww aa bb) i t x y = some (hp_mk vv ww (up_a aa i (upd (aa i) x.toNatClampNeg y)) bb) := by
  unfold m_st
  rw [hp_at h]
  simp only [hp_cell]
  rw [if_pos ⟨trivial, hx⟩]
  refine congrArg some (hp_up (by rw [h]; simp [hp_cell, up_a]) (fun _ _ _ => rfl) (fun _ _ => rfl) (fun j hj => ?_) (fun _ _ => rfl))
  unfold up_a
  rw [if_neg hj]
theorem stL_mk {i t len : Nat} {x : Int32} {y : Int64} (h : hp_sk i = (3, t, len, [], hp_nof)) (hx : m_in x len = true) : m_stL (hp_mk vv ww aa bb) i t x y = some (hp_mk vv ww aa (up_b bb i (vp_updL (bb i) x.toNatClampNeg y))) := by
  unfold m_stL
  rw [hp_at h]
  simp only [hp_cell]
  rw [if_pos ⟨trivial, hx⟩]
  refine congrArg some (hp_up (by rw [h]; simp [hp_cell, up_b]) (fun _ _ _ => rfl) (fun _ _ => rfl) (fun _ _ => rfl) (fun j hj => ?_))
  unfold up_b
  rw [if_neg hj]
theorem is_mk {i ci l : Nat} {ts : List (Nat × Nat)} {f : Nat → Option Nat} (h : hp_sk i = (1, ci, l, ts, f)) : m_is (hp_mk vv ww aa bb) i ci = true := by
  unfold m_is
  rw [hp_at h]
  simp [hp_cell]
theorem len_mk {i t len : Nat} {f : Nat → Option Nat} (h : hp_sk i = (2, t, len, [], hp_nof) ∨ hp_sk i = (4, t, len, [], f)) (ht : t < 6) : m_len (hp_mk vv ww aa bb) i = some (nI len) := by
  have h6 : m_TY.length = 6 := rfl
  unfold m_len
  rcases h with h | h <;> rw [hp_at h] <;> simp [hp_cell, h6, ht, nI]
theorem cpy_mk {i j : Nat} {sp dp k : Int32} (hi : hp_sk i = (2, 1, 40, [], hp_nof)) (hj : hp_sk j = (2, 1, 40, [], hp_nof)) (h1 : 0 ≤ sp) (h2 : 0 ≤ dp) (h3 : 0 ≤ k) (h4 : sp.toNatClampNeg + k.toNatClampNeg ≤ 40) (h5 : dp.toNatClampNeg + k.toNatClampNeg ≤ 40) (hf : ∀ x, x < 40 → fits .char (.int (aa i x)) = true) : m_cpy (hp_mk vv ww aa bb) i j 1 .char sp dp k = some (hp_mk vv ww (up_a aa j (va_cpy (aa i) (aa j) sp.toNatClampNeg dp.toNatClampNeg k.toNatClampNeg)) bb) := by
  unfold m_cpy
  rw [hp_at hi, hp_at hj]
  simp only [hp_cell]
  rw [if_pos ⟨trivial, trivial, h1, h2, h3, h4, h5, List.all_eq_true.mpr (fun x hx => hf _ (by have := List.mem_range.mp hx; omega))⟩]
  refine congrArg some (hp_up (by rw [hj]; simp [hp_cell, up_a]) (fun _ _ _ => rfl) (fun _ _ => rfl) (fun q hq => ?_) (fun _ _ => rfl))
  unfold up_a
  rw [if_neg hq]
end HPG
