/-! THREADS: parents as a function; chains; no rings -/
def ch_n (P : Nat → Option Nat) (z : Nat) : Nat → Option Nat
  | 0 => some z
  | i + 1 => (ch_n P z i).bind P
theorem pig_h : ∀ (m n : Nat) (f : Nat → Nat), (∀ i, i < n → f i < m) → (∀ i j, i < n → j < n → f i = f j → i = j) → n ≤ m := by
  intro m
  induction m with
  | zero =>
    intro n f h1 _
    apply Nat.le_of_not_lt
    intro h
    exact absurd (h1 0 h) (by omega)
  | succ m ih =>
    intro n f h1 h2
    by_cases h : ∃ i, i < n ∧ f i = m
    · obtain ⟨i0, hi0, e0⟩ := h
      have := ih (n - 1) (fun i => if i < i0 then f i else f (i + 1)) (fun i hi => ?_) (fun i j hi hj e => ?_)
      · omega
      · by_cases hc : i < i0
        · simp only [if_pos hc]
          have a1 := h1 i (by omega)
          have a2 : f i ≠ m := fun q => by have := h2 i i0 (by omega) hi0 (by rw [q, e0]); omega
          omega
        · simp only [if_neg hc]
          have a1 := h1 (i + 1) (by omega)
          have a2 : f (i + 1) ≠ m := fun q => by have := h2 (i + 1) i0 (by omega) hi0 (by rw [q, e0]); omega
          omega
      · by_cases hc : i < i0 <;> by_cases hd : j < i0
        · simp only [if_pos hc, if_pos hd] at e
          exact h2 i j (by omega) (by omega) e
        · simp only [if_pos hc, if_neg hd] at e
          have := h2 i (j + 1) (by omega) (by omega) e
          omega
        · simp only [if_neg hc, if_pos hd] at e
          have := h2 (i + 1) j (by omega) (by omega) e
          omega
        · simp only [if_neg hc, if_neg hd] at e
          have := h2 (i + 1) (j + 1) (by omega) (by omega) e
          omega
    · have := ih n f (fun i hi => by
        have a1 := h1 i hi
        have a2 : f i ≠ m := fun q => h ⟨i, hi, q⟩
        omega) h2
      omega
/-- parents: IDs below 64, no rings -/
def th_ok (P : Nat → Option Nat) : Prop := (∀ q y, P q = some y → q < 64 ∧ y < 64) ∧ ∃ rk : Nat → Nat, ∀ q y, P q = some y → rk y < rk q
theorem ok_nil : th_ok (fun _ => none) := ⟨fun q y h => (by cases h), fun _ => 0, fun q y h => (by cases h)⟩
theorem ch_lt {P : Nat → Option Nat} (hP : th_ok P) {z : Nat} (hz : z < 64) : ∀ i y, ch_n P z i = some y → y < 64 := by
  intro i y h
  cases i with
  | zero => cases h; exact hz
  | succ i =>
    obtain ⟨a, _, h2⟩ := Option.bind_eq_some_iff.mp h
    exact (hP.1 _ _ h2).2
theorem ch_pre {P : Nat → Option Nat} {z : Nat} : ∀ {i y}, ch_n P z i = some y → ∀ j, j ≤ i → ∃ w, ch_n P z j = some w := by
  intro i
  induction i with
  | zero => intro y h j hj; exact ⟨y, by rw [show j = 0 by omega]; exact h⟩
  | succ i ih =>
    intro y h j hj
    by_cases hq : j = i + 1
    · exact ⟨y, by rw [hq]; exact h⟩
    · obtain ⟨a, h1, _⟩ := Option.bind_eq_some_iff.mp h
      exact ih h1 j (by omega)
theorem ch_rk {P : Nat → Option Nat} {rk : Nat → Nat} (hr : ∀ q y, P q = some y → rk y < rk q) {z : Nat} : ∀ d i a b, ch_n P z i = some a → ch_n P z (i + d + 1) = some b → rk b < rk a := by
  intro d
  induction d with
  | zero =>
    intro i a b ha hb
    have hb' : (ch_n P z i).bind P = some b := hb
    rw [ha] at hb'
    exact hr a b hb'
  | succ d ih =>
    intro i a b ha hb
    obtain ⟨w, h1, h2⟩ := Option.bind_eq_some_iff.mp (show (ch_n P z (i + d + 1)).bind P = some b from hb)
    exact Nat.lt_trans (hr _ _ h2) (ih i a w ha h1)
/-- a chain has at most 64 IDs -/
theorem ch_63 {P : Nat → Option Nat} (hP : th_ok P) {z : Nat} (hz : z < 64) {i y : Nat} (h : ch_n P z i = some y) : i ≤ 63 := by
  obtain ⟨hc, rk, hr⟩ := id hP
  have := pig_h 64 (i + 1) (fun j => (ch_n P z j).getD 0) (fun j hj => ?_) (fun a b ha hb e => ?_)
  · omega
  · obtain ⟨w, hw⟩ := ch_pre h j (by omega)
    simp only [hw, Option.getD_some]
    exact ch_lt hP hz j w hw
  · obtain ⟨u, hu⟩ := ch_pre h a (by omega)
    obtain ⟨w, hw⟩ := ch_pre h b (by omega)
    simp only [hu, hw, Option.getD_some] at e
    subst e
    rcases Nat.lt_trichotomy a b with q | q | q
    · have := ch_rk hr (b - a - 1) a u u hu (by rw [show a + (b - a - 1) + 1 = b by omega]; exact hw)
      omega
    · exact q
    · have := ch_rk hr (a - b - 1) b u u hw (by rw [show b + (a - b - 1) + 1 = a by omega]; exact hu)
      omega
theorem ch_step {P : Nat → Option Nat} {z w : Nat} (h : P z = some w) : ∀ i, ch_n P z (i + 1) = ch_n P w i := by
  intro i
  induction i with
  | zero => exact h
  | succ i ih =>
    show (ch_n P z (i + 1)).bind P = (ch_n P w i).bind P
    rw [ih]
theorem ch_none {P : Nat → Option Nat} {z : Nat} (h : P z = none) : ∀ i, ch_n P z (i + 1) = none := by
  intro i
  induction i with
  | zero => exact h
  | succ i ih =>
    show (ch_n P z (i + 1)).bind P = none
    rw [ih]; rfl
theorem up_iff {P : Nat → Option Nat} {x : Nat} : ∀ {k z}, th_up P k x z = true ↔ ∃ i, i < k ∧ ch_n P z i = some x := by
  intro k
  induction k with
  | zero =>
    intro z
    constructor
    · intro h; cases h
    · rintro ⟨i, hi, _⟩; omega
  | succ k ih =>
    intro z
    unfold th_up
    by_cases hz : z = x
    · rw [if_pos hz]
      exact ⟨fun _ => ⟨0, by omega, by rw [hz]; rfl⟩, fun _ => rfl⟩
    · rw [if_neg hz]
      cases hp : P z with
      | none =>
        constructor
        · intro h; cases h
        · rintro ⟨i, hi, h⟩
          cases i with
          | zero => exact absurd (Option.some.inj h) hz
          | succ i => rw [ch_none hp i] at h; cases h
      | some w =>
        constructor
        · intro h
          obtain ⟨i, hi, h2⟩ := ih.mp h
          exact ⟨i + 1, by omega, by rw [ch_step hp]; exact h2⟩
        · rintro ⟨i, hi, h⟩
          cases i with
          | zero => exact absurd (Option.some.inj h) hz
          | succ i => rw [ch_step hp] at h; exact ih.mpr ⟨i, by omega, h⟩
theorem up_64 {P : Nat → Option Nat} (hP : th_ok P) {x z k : Nat} (hz : z < 64) (hk : 64 ≤ k) : th_up P k x z = th_up P 64 x z := by
  apply Bool.eq_iff_iff.mpr
  rw [up_iff, up_iff]
  constructor
  · rintro ⟨i, hi, h⟩
    exact ⟨i, by have := ch_63 hP hz h; omega, h⟩
  · rintro ⟨i, hi, h⟩
    exact ⟨i, by omega, h⟩
theorem ok_set {P : Nat → Option Nat} (hP : th_ok P) {x y : Nat} (hx : x < 64) (hy : y < 64) : th_ok (th_set P x y) := by
  unfold th_set
  by_cases hr : th_up P 64 x y = true
  · rw [if_pos hr]; exact hP
  · rw [if_neg hr]
    obtain ⟨hc, rk, hrk⟩ := id hP
    refine ⟨fun q w h => ?_, fun z => rk z + (if th_up P 64 x z = true then rk y + 1 else 0), fun q w h => ?_⟩
    · unfold va_up at h
      by_cases hq : q = x
      · rw [if_pos hq] at h; cases h; exact ⟨by omega, hy⟩
      · rw [if_neg hq] at h; exact hc q w h
    · unfold va_up at h
      by_cases hq : q = x
      · rw [if_pos hq] at h
        cases h
        have h1 : th_up P 64 x q = true := by rw [hq]; exact up_iff.mpr ⟨0, by omega, rfl⟩
        simp only [if_neg hr, if_pos h1]
        omega
      · rw [if_neg hq] at h
        have h0 := hrk q w h
        have hq64 := (hc q w h).1
        have hiff : th_up P 64 x q = true ↔ th_up P 64 x w = true := by
          rw [up_iff, up_iff]
          constructor
          · rintro ⟨i, hi, e⟩
            cases i with
            | zero => exact absurd (Option.some.inj e) hq
            | succ i => rw [ch_step h] at e; exact ⟨i, by omega, e⟩
          · rintro ⟨i, hi, e⟩
            have e2 : ch_n P q (i + 1) = some x := by rw [ch_step h]; exact e
            exact ⟨i + 1, by have := ch_63 hP hq64 e2; omega, e2⟩
        by_cases hw : th_up P 64 x w = true
        · simp only [if_pos hw, if_pos (hiff.mpr hw)]; omega
        · simp only [if_neg hw, if_neg (fun z => hw (hiff.mp z))]; omega
theorem ok_refs {P : Nat → Option Nat} (hP : th_ok P) {rf : Nat → Nat} : ∀ k, (∀ j, j ≤ k → rf j < 64) → th_ok (th_refs rf k P) := by
  intro k
  induction k with
  | zero => intro _; exact hP
  | succ k ih =>
    intro h
    have h1 := ih (fun j hj => h j (by omega))
    unfold th_refs
    split
    · exact ok_set h1 (h _ (by omega)) (h _ (by omega))
    · exact h1
theorem ok_join {P : Nat → Option Nat} (hP : th_ok P) {id rc : Nat} {rf : Nat → Nat} (hid : id < 64) (h : ∀ j, j < rc → rf j < 64) : th_ok (th_join id rc rf P) := by
  unfold th_join
  split
  · exact hP
  · exact ok_set (ok_refs hP _ (fun j hj => h j (by omega))) hid (h _ (by omega))
theorem ok_all {mi rc : Nat → Nat} {rf : Nat → Nat → Nat} : ∀ {od : List Nat}, (∀ m ∈ od, mi m < 64 ∧ ∀ j, j < rc m → rf m j < 64) → th_ok (th_all mi rc rf od) := by
  have gen : ∀ (od : List Nat) (P : Nat → Option Nat), th_ok P → (∀ m ∈ od, mi m < 64 ∧ ∀ j, j < rc m → rf m j < 64) → th_ok (od.foldl (fun P m => th_join (mi m) (rc m) (rf m) P) P) := by
    intro od
    induction od with
    | nil => intro P hP _; exact hP
    | cons m od ih =>
      intro P hP h
      exact ih _ (ok_join hP (h m List.mem_cons_self).1 (h m List.mem_cons_self).2) (fun a ha => h a (List.mem_cons_of_mem _ ha))
  intro od h
  exact gen od _ ok_nil h
def th_top (P : Nat → Option Nat) : Nat → Nat → Nat
  | 0, q => q
  | fu + 1, q => match P q with
    | none => q
    | some y => th_top P fu y
theorem top_lt {P : Nat → Option Nat} (hP : th_ok P) : ∀ k q, q < 64 → th_top P k q < 64 := by
  intro k
  induction k with
  | zero => intro q hq; exact hq
  | succ k ih =>
    intro q hq
    unfold th_top
    cases h : P q with
    | none => exact hq
    | some y => exact ih y (hP.1 _ _ h).2
/-- a chain of k steps and no more: then th_top stops there -/
theorem top_at {P : Nat → Option Nat} : ∀ k fu q y, ch_n P q k = some y → P y = none → k ≤ fu → th_top P fu q = y := by
  intro k
  induction k with
  | zero =>
    intro fu q y h hy _
    cases h
    cases fu with
    | zero => rfl
    | succ fu => unfold th_top; rw [hy]
  | succ k ih =>
    intro fu q y h hy hk
    cases fu with
    | zero => omega
    | succ fu =>
      unfold th_top
      cases hp : P q with
      | none => rw [ch_none hp] at h; cases h
      | some w =>
        rw [ch_step hp] at h
        exact ih fu w y h hy (by omega)
theorem ch_end {P : Nat → Option Nat} (hP : th_ok P) {q : Nat} (hq : q < 64) : ∃ k y, k ≤ 63 ∧ ch_n P q k = some y ∧ P y = none := by
  have h : ∀ n, (∃ k y, k ≤ n ∧ ch_n P q k = some y ∧ P y = none) ∨ ∃ y, ch_n P q (n + 1) = some y := by
    intro n
    induction n with
    | zero =>
      cases hp : P q with
      | none => exact Or.inl ⟨0, q, by omega, rfl, hp⟩
      | some y => exact Or.inr ⟨y, hp⟩
    | succ n ih =>
      rcases ih with ⟨k, y, h1, h2, h3⟩ | ⟨y, hy⟩
      · exact Or.inl ⟨k, y, by omega, h2, h3⟩
      · cases hp : P y with
        | none => exact Or.inl ⟨n + 1, y, by omega, hy, hp⟩
        | some w =>
          refine Or.inr ⟨w, ?_⟩
          show (ch_n P q (n + 1)).bind P = some w
          rw [hy]; exact hp
  rcases h 63 with h | ⟨y, hy⟩
  · exact h
  · have := ch_63 hP hq hy
    omega
