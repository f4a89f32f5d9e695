/-! the draft: lines, headers, numbers, on both sides -/
def dg_n (c : Nat) : Option Nat := if 48 ≤ c ∧ c ≤ 57 then some (c - 48) else none
def lt_n (c : Nat) : Nat := if 65 ≤ c ∧ c ≤ 90 then c - 64 else if 97 ≤ c ∧ c ≤ 122 then c - 96 else 0
def sl_n (c : Nat) : Nat := if 97 ≤ c ∧ c ≤ 122 then c - 96 else 0
def hx_n (c : Nat) : Option Nat := if 97 ≤ c ∧ c ≤ 102 then some (c - 87) else if 65 ≤ c ∧ c ≤ 70 then some (c - 55) else dg_n c
theorem dg_A {g : m_G} {c : Nat} (h : c < 256) : f_Arc_digit g (nI c) = some (th_enc (dg_n c), g) := by
  have t : ∀ c, c < 256 → (if (nI c : Int32) < 48 then (-1 : Int32) else if (57 : Int32) < nI c then -1 else nI c - 48) = th_enc (dg_n c) := by decide +kernel
  rw [← t c h]
  unfold f_Arc_digit f_Arc_digit_19 f_Arc_digit_20
  by_cases a1 : nI c < 48
  · rw [if_pos a1, if_pos a1]
  · rw [if_neg a1, if_neg a1]
    by_cases a2 : (57 : Int32) < nI c
    · rw [if_pos a2, if_pos a2]
    · rw [if_neg a2, if_neg a2]
theorem dg_m1 {g : m_G} : f_Arc_digit g (-1) = some (-1, g) := rfl
theorem sl_A {g : m_G} {c : Nat} (h : c < 256) : f_Arc_smallLetter g (nI c) = some (nI (sl_n c), g) := by
  have t : ∀ c, c < 256 → (if (nI c : Int32) < 97 then (0 : Int32) else if (122 : Int32) < nI c then 0 else nI c - 97 + 1) = nI (sl_n c) := by decide +kernel
  rw [← t c h]
  unfold f_Arc_smallLetter f_Arc_smallLetter_21 f_Arc_smallLetter_22
  by_cases a1 : nI c < 97
  · rw [if_pos a1, if_pos a1]
  · rw [if_neg a1, if_neg a1]
    by_cases a2 : (122 : Int32) < nI c
    · rw [if_pos a2, if_pos a2]
    · rw [if_neg a2, if_neg a2]
theorem lt_A {g : m_G} {c : Nat} (h : c < 256) : f_Arc_letter g (nI c) = some (nI (lt_n c), g) := by
  have t : ∀ c, c < 256 → (if (nI c : Int32) < 65 then nI (sl_n c) else if (90 : Int32) < nI c then nI (sl_n c) else nI c - 65 + 1) = nI (lt_n c) := by decide +kernel
  rw [← t c h]
  unfold f_Arc_letter f_Arc_letter_21 f_Arc_letter_25
  rw [sl_A h]
  by_cases a1 : nI c < 65
  · rw [if_pos a1, if_pos a1]; rfl
  · rw [if_neg a1, if_neg a1]
    by_cases a2 : (90 : Int32) < nI c
    · rw [if_pos a2, if_pos a2]; rfl
    · rw [if_neg a2, if_neg a2]
theorem hx_A {g : m_G} {c : Nat} (h : c < 256) : f_Arc_hexDigit g (nI c) = some (th_enc (hx_n c), g) := by
  have t : ∀ c, c < 256 → (if (nI c : Int32) < 97 then (if (nI c : Int32) < 65 then th_enc (dg_n c) else if (70 : Int32) < nI c then th_enc (dg_n c) else nI c - 65 + 10) else if (102 : Int32) < nI c then (if (nI c : Int32) < 65 then th_enc (dg_n c) else if (70 : Int32) < nI c then th_enc (dg_n c) else nI c - 65 + 10) else nI c - 97 + 10) = th_enc (hx_n c) := by decide +kernel
  rw [← t c h]
  unfold f_Arc_hexDigit f_Arc_hexDigit_20 f_Arc_hexDigit_40
  rw [dg_A h]
  by_cases a1 : nI c < 97 <;> by_cases a2 : (102 : Int32) < nI c <;> by_cases a3 : nI c < 65 <;> by_cases a4 : (70 : Int32) < nI c <;> simp only [a1, a2, a3, a4, if_true, if_false] <;> rfl
theorem hx_M {g : m_G} {c : Nat} (h : c < 256) : f_Mod_hex g (nI c) = some (th_enc (hx_n c), g) := by
  have t : ∀ c, c < 256 → (if (nI c : Int32) < 48 then (if (nI c : Int32) < 97 then (if (nI c : Int32) < 65 then (-1 : Int32) else if (70 : Int32) < nI c then -1 else nI c - 65 + 10) else if (102 : Int32) < nI c then (if (nI c : Int32) < 65 then (-1 : Int32) else if (70 : Int32) < nI c then -1 else nI c - 65 + 10) else nI c - 97 + 10) else if (57 : Int32) < nI c then (if (nI c : Int32) < 97 then (if (nI c : Int32) < 65 then (-1 : Int32) else if (70 : Int32) < nI c then -1 else nI c - 65 + 10) else if (102 : Int32) < nI c then (if (nI c : Int32) < 65 then (-1 : Int32) else if (70 : Int32) < nI c then -1 else nI c - 65 + 10) else nI c - 97 + 10) else nI c - 48) = th_enc (hx_n c) := by decide +kernel
  rw [← t c h]
  unfold f_Mod_hex f_Mod_hex_17 f_Mod_hex_37 f_Mod_hex_59 f_Mod_hex_60
  by_cases b1 : nI c < 48 <;> by_cases b2 : (57 : Int32) < nI c <;> by_cases a1 : nI c < 97 <;> by_cases a2 : (102 : Int32) < nI c <;> by_cases a3 : nI c < 65 <;> by_cases a4 : (70 : Int32) < nI c <;> simp only [b1, b2, a1, a2, a3, a4, if_true, if_false]
theorem dg_lt {c x : Nat} (h : dg_n c = some x) : x < 10 := by
  unfold dg_n at h
  by_cases a : 48 ≤ c ∧ c ≤ 57
  · rw [if_pos a] at h; cases h; omega
  · rw [if_neg a] at h; cases h
theorem hx_lt {c x : Nat} (h : hx_n c = some x) : x < 16 := by
  unfold hx_n at h
  by_cases a : 97 ≤ c ∧ c ≤ 102
  · rw [if_pos a] at h; cases h; omega
  · rw [if_neg a] at h
    by_cases b : 65 ≤ c ∧ c ≤ 70
    · rw [if_pos b] at h; cases h; omega
    · rw [if_neg b] at h; have := dg_lt h; omega
theorem lt_26 (c : Nat) : lt_n c ≤ 26 := by unfold lt_n; split; omega; split <;> omega
theorem sl_26 (c : Nat) : sl_n c ≤ 26 := by unfold sl_n; split <;> omega
theorem te_neg {o : Option Nat} (h : ∀ x, o = some x → x < 2 ^ 31) : th_enc o < 0 ↔ o = none := by
  cases o with
  | none => exact ⟨fun _ => rfl, fun _ => by decide⟩
  | some x => exact ⟨fun z => absurd z (nI_pos (h x rfl)), fun z => by cases z⟩
theorem te_pos {o : Option Nat} (h : ∀ x, o = some x → x < 2 ^ 31) : (0 : Int32) ≤ th_enc o ↔ o ≠ none := by
  rw [← Int32.not_lt, te_neg h]
theorem nI_m1 {a : Nat} (h : a < 2 ^ 31) : nI a - 1 < nI a := by
  cases a with
  | zero => decide
  | succ a => rw [nI_pred]; exact nI_lt (by omega) h
theorem nI_am1 (a : Nat) : nI a + (-1) = nI a - 1 := (Int32.sub_eq_add_neg (nI a) 1).symm
theorem nI_ne {a b : Nat} (ha : a < 2 ^ 31) (hb : b < 2 ^ 31) (h : a ≠ b) : ¬ nI a = nI b := fun z => h ((nI_eq ha hb).mp z)
theorem nI_neg1 {a : Nat} (ha : a < 2 ^ 31) : ¬ (-1 : Int32) = nI a := fun z => nI_pos ha (by rw [← z]; decide)
-- what lines are
def hd_p (len : Nat) (c : Nat → Nat) (key : Nat) : Bool := decide (1 < len ∧ c 1 = 58 ∧ c 0 = key)
def ct_p (len : Nat) (c : Nat → Nat) (b : Nat) : Bool := decide (len = 2 ∧ c 0 = 45 ∧ c 1 = b)
def cl_p (len : Nat) (c : Nat → Nat) (b : Nat) : Bool := decide (len = 3 ∧ c 0 = 45 ∧ c 1 = b ∧ c 2 = 46)
def nu_v (c : Nat → Nat) (f t : Nat) : Option Nat := if t = f + 1 then dg_n (c f) else if t = f + 2 then (match dg_n (c f), dg_n (c (f + 1)) with
  | some x, some y => if 10 * x + y < 64 then some (10 * x + y) else none
  | _, _ => none) else none
def bl_n (c : Nat → Nat) : Nat → Nat → Nat
  | 0, k => k
  | n + 1, k => if c k = 32 then k else bl_n c n (k + 1)
theorem bl_s {c : Nat → Nat} {n k : Nat} : bl_n c (n + 1) k = if c k = 32 then k else bl_n c n (k + 1) := rfl
theorem bl_r {c : Nat → Nat} : ∀ n k, k ≤ bl_n c n k ∧ bl_n c n k ≤ k + n ∧ (bl_n c n k < k + n → c (bl_n c n k) = 32) := by
  intro n
  induction n with
  | zero => intro k; exact ⟨Nat.le_refl _, Nat.le_refl _, fun h => absurd h (by show ¬ k < k + 0; omega)⟩
  | succ n ih =>
    intro k
    rw [bl_s]
    by_cases h : c k = 32
    · rw [if_pos h]; exact ⟨Nat.le_refl _, by omega, fun _ => h⟩
    · rw [if_neg h]
      have := ih (k + 1)
      exact ⟨by omega, by omega, fun z => this.2.2 (by omega)⟩
theorem nu_lt {c : Nat → Nat} {f t x : Nat} (h : nu_v c f t = some x) : x < 64 := by
  unfold nu_v at h
  by_cases a : t = f + 1
  · rw [if_pos a] at h; have := dg_lt h; omega
  · rw [if_neg a] at h
    by_cases b : t = f + 2
    · rw [if_pos b] at h
      revert h
      cases dg_n (c f) with
      | none => intro h; cases h
      | some p => cases dg_n (c (f + 1)) with
        | none => intro h; cases h
        | some q =>
          intro h
          dsimp only at h
          by_cases e : 10 * p + q < 64
          · rw [if_pos e] at h; cases h; exact e
          · rw [if_neg e] at h; cases h
    · rw [if_neg b] at h; cases h
def el_n (DL : Nat → Nat) : Nat → Nat → Nat
  | 0, k => k
  | n + 1, k => if DL k = 0 then k else el_n DL n (k + 1)
theorem el_s {DL : Nat → Nat} {n k : Nat} : el_n DL (n + 1) k = if DL k = 0 then k else el_n DL n (k + 1) := rfl
theorem el_r {DL : Nat → Nat} : ∀ n k, k ≤ el_n DL n k ∧ el_n DL n k ≤ k + n := by
  intro n
  induction n with
  | zero => intro k; exact ⟨Nat.le_refl _, Nat.le_refl _⟩
  | succ n ih =>
    intro k
    rw [el_s]
    by_cases h : DL k = 0
    · rw [if_pos h]; omega
    · rw [if_neg h]; have := ih (k + 1); omega
def hd_n (p : Nat → Bool) (k : Nat) : Nat → Option Nat
  | 0 => none
  | n + 1 => if p (k + n) = true then some (k + n) else hd_n p k n
theorem hd_s {p : Nat → Bool} {k n : Nat} : hd_n p k (n + 1) = if p (k + n) = true then some (k + n) else hd_n p k n := rfl
theorem hd_r {p : Nat → Bool} {k : Nat} : ∀ n m, hd_n p k n = some m → k ≤ m ∧ m < k + n ∧ p m = true := by
  intro n
  induction n with
  | zero => intro m h; cases h
  | succ n ih =>
    intro m h
    rw [hd_s] at h
    by_cases e : p (k + n) = true
    · rw [if_pos e] at h; cases h; exact ⟨by omega, by omega, e⟩
    · rw [if_neg e] at h; have := ih m h; exact ⟨by omega, by omega, this.2.2⟩
def hd_v (DL : Nat → Nat) (dc : Nat → Nat → Nat) (f t key : Nat) : Option Nat := hd_n (fun k => hd_p (DL k) (dc k) key) f (el_n DL (t - f) f - f)
theorem hd_vr {DL : Nat → Nat} {dc : Nat → Nat → Nat} {f t key m : Nat} (hft : f ≤ t) (h : hd_v DL dc f t key = some m) : f ≤ m ∧ m < t ∧ 2 ≤ DL m := by
  have := hd_r _ _ h
  have e := el_r (DL := DL) (t - f) f
  have e3 := this.2.2
  unfold hd_p at e3
  have := decide_eq_true_eq.mp e3
  omega
def bd_v (DL : Nat → Nat) (f t : Nat) : Nat := if el_n DL (t - f) f < t then el_n DL (t - f) f + 1 else t
def cl_n (DL : Nat → Nat) (dc : Nat → Nat → Nat) (b : Nat) : Nat → Nat → Nat
  | 0, k => k
  | n + 1, k => if cl_p (DL k) (dc k) b = true then k else cl_n DL dc b n (k + 1)
theorem cl_s {DL : Nat → Nat} {dc : Nat → Nat → Nat} {b n k : Nat} : cl_n DL dc b (n + 1) k = if cl_p (DL k) (dc k) b = true then k else cl_n DL dc b n (k + 1) := rfl
theorem cl_r {DL : Nat → Nat} {dc : Nat → Nat → Nat} {b : Nat} : ∀ n k, k ≤ cl_n DL dc b n k ∧ cl_n DL dc b n k ≤ k + n := by
  intro n
  induction n with
  | zero => intro k; exact ⟨Nat.le_refl _, Nat.le_refl _⟩
  | succ n ih =>
    intro k
    rw [cl_s]
    by_cases h : cl_p (DL k) (dc k) b = true
    · rw [if_pos h]; omega
    · rw [if_neg h]; have := ih (k + 1); omega
-- the class
section LNA
variable {vv : hp_V} {ww : hp_W} {aa : hp_V} {bb : hp_B}
def ln_A (vv aa : hp_V) (a len : Nat) (c : Nat → Nat) : Prop := len ≤ 40 ∧ vv a 1 = nI len ∧ ∀ j, j < len → aa (a + 1) j = nI (c j) ∧ c j < 256
variable {a len : Nat} {c : Nat → Nat}
theorem at_A (ha : hp_isL a = true) (h : ln_A vv aa a len c) {j : Nat} (hj : j < 2 ^ 31) : f_Line_at (hp_mk vv ww aa bb) a (nI j) = some (if j < len then nI (c j) else -1, hp_mk vv ww aa bb) := by
  obtain ⟨h1, h2, h3⟩ := h
  unfold f_Line_at f_Line_at_12 f_Line_at_22
  rw [if_neg (nI_pos hj)]
  simp only [gI_mk (isI_L ha), ob_s, h2]
  by_cases e : j < len
  · rw [if_pos (nI_lt e (by omega)), if_pos e]
    simp only [gR_mk (ref_L ha), ob_s, ld_n (sk_C (isL_C ha)) (show j < 40 by omega) (by omega), (h3 j e).1]
  · rw [if_neg (nI_nlt (by omega) hj), if_neg e]
theorem ih_A (ha : hp_isL a = true) (h : ln_A vv aa a len c) {key : Nat} (hk : key < 256) : f_Line_isHeader (hp_mk vv ww aa bb) a (nI key) = some (iB (hd_p len c key), hp_mk vv ww aa bb) := by
  have a0 := at_A (ww := ww) (bb := bb) ha h (j := 0) (by omega)
  have a1 := at_A (ww := ww) (bb := bb) ha h (j := 1) (by omega)
  have a0' : f_Line_at (hp_mk vv ww aa bb) a 0 = _ := a0
  have a1' : f_Line_at (hp_mk vv ww aa bb) a 1 = _ := a1
  unfold f_Line_isHeader f_Line_isHeader_23 f_Line_isHeader_24
  simp only [is_L ha, gd_t, a0', a1', bd_s]
  by_cases l0 : 0 < len
  · rw [if_pos l0]
    by_cases e0 : c 0 = key
    · rw [if_pos (by rw [e0])]
      by_cases l1 : 1 < len
      · rw [if_pos l1]
        by_cases e1 : c 1 = 58
        · rw [if_pos (show nI (c 1) = 58 by rw [e1]; rfl), if_pos (by decide)]
          have : hd_p len c key = true := decide_eq_true ⟨l1, e1, e0⟩
          rw [this]; rfl
        · have hlt := (h.2.2 1 l1).2
          rw [if_neg (show ¬ nI _ = (58 : Int32) from nI_ne (b := 58) (by omega) (by omega) e1), if_pos (by decide)]
          have : hd_p len c key = false := decide_eq_false (fun z => e1 z.2.1)
          rw [this]; rfl
      · rw [if_neg l1, if_neg (by decide), if_pos (by decide)]
        have : hd_p len c key = false := decide_eq_false (fun z => l1 z.1)
        rw [this]; rfl
    · have hlt := (h.2.2 0 l0).2
      rw [if_neg (nI_ne (by omega) (by omega) e0), if_pos (by decide)]
      have : hd_p len c key = false := decide_eq_false (fun z => e0 z.2.2)
      rw [this]; rfl
  · rw [if_neg l0, if_neg (nI_neg1 (by omega)), if_pos (by decide)]
    have : hd_p len c key = false := decide_eq_false (fun z => l0 (by omega))
    rw [this]; rfl
theorem ic_A (ha : hp_isL a = true) (h : ln_A vv aa a len c) {b : Nat} (hb : b < 256) : f_Line_isCut (hp_mk vv ww aa bb) a (nI b) = some (iB (ct_p len c b), hp_mk vv ww aa bb) := by
  have a0 := at_A (ww := ww) (bb := bb) ha h (j := 0) (by omega)
  have a1 := at_A (ww := ww) (bb := bb) ha h (j := 1) (by omega)
  have a0' : f_Line_at (hp_mk vv ww aa bb) a 0 = _ := a0
  have a1' : f_Line_at (hp_mk vv ww aa bb) a 1 = _ := a1
  have h40 := h.1
  unfold f_Line_isCut f_Line_isCut_31 f_Line_isCut_32
  simp only [is_L ha, gd_t, a0', a1', bd_s, gI_mk (isI_L ha), ob_s, h.2.1]
  by_cases l0 : len = 2
  · rw [if_pos (show nI len = 2 by rw [l0]; rfl), if_pos (show 0 < len by omega)]
    have q0 := (h.2.2 0 (by omega)).2
    have q1 := (h.2.2 1 (by omega)).2
    by_cases e0 : c 0 = 45
    · rw [if_pos (show nI (c 0) = 45 by rw [e0]; rfl), if_pos (show 1 < len by omega)]
      by_cases e1 : c 1 = b
      · rw [if_pos (by rw [e1]), if_pos (by decide)]
        have : ct_p len c b = true := decide_eq_true ⟨l0, e0, e1⟩
        rw [this]; rfl
      · rw [if_neg (nI_ne (by omega) (by omega) e1), if_pos (by decide)]
        have : ct_p len c b = false := decide_eq_false (fun z => e1 z.2.2)
        rw [this]; rfl
    · rw [if_neg (show ¬ nI _ = (45 : Int32) from nI_ne (b := 45) (by omega) (by omega) e0), if_pos (by decide)]
      have : ct_p len c b = false := decide_eq_false (fun z => e0 z.2.1)
      rw [this]; rfl
  · rw [if_neg (show ¬ nI _ = (2 : Int32) from nI_ne (b := 2) (by omega) (by omega) l0), if_pos (by decide)]
    have : ct_p len c b = false := decide_eq_false (fun z => l0 z.1)
    rw [this]; rfl
theorem il_A (ha : hp_isL a = true) (h : ln_A vv aa a len c) {b : Nat} (hb : b < 256) : f_Line_isClosing (hp_mk vv ww aa bb) a (nI b) = some (iB (cl_p len c b), hp_mk vv ww aa bb) := by
  have a0 := at_A (ww := ww) (bb := bb) ha h (j := 0) (by omega)
  have a1 := at_A (ww := ww) (bb := bb) ha h (j := 1) (by omega)
  have a2 := at_A (ww := ww) (bb := bb) ha h (j := 2) (by omega)
  have a0' : f_Line_at (hp_mk vv ww aa bb) a 0 = _ := a0
  have a1' : f_Line_at (hp_mk vv ww aa bb) a 1 = _ := a1
  have a2' : f_Line_at (hp_mk vv ww aa bb) a 2 = _ := a2
  have h40 := h.1
  unfold f_Line_isClosing f_Line_isClosing_41 f_Line_isClosing_42
  simp only [is_L ha, gd_t, a0', a1', a2', bd_s, gI_mk (isI_L ha), ob_s, h.2.1]
  by_cases l0 : len = 3
  · rw [if_pos (show nI len = 3 by rw [l0]; rfl), if_pos (show 0 < len by omega)]
    have q0 := (h.2.2 0 (by omega)).2
    have q1 := (h.2.2 1 (by omega)).2
    have q2 := (h.2.2 2 (by omega)).2
    by_cases e0 : c 0 = 45
    · rw [if_pos (show nI (c 0) = 45 by rw [e0]; rfl), if_pos (show 1 < len by omega)]
      by_cases e1 : c 1 = b
      · rw [if_pos (by rw [e1]), if_pos (show 2 < len by omega)]
        by_cases e2 : c 2 = 46
        · rw [if_pos (show nI (c 2) = 46 by rw [e2]; rfl), if_pos (by decide)]
          have : cl_p len c b = true := decide_eq_true ⟨l0, e0, e1, e2⟩
          rw [this]; rfl
        · rw [if_neg (show ¬ nI _ = (46 : Int32) from nI_ne (b := 46) (by omega) (by omega) e2), if_pos (by decide)]
          have : cl_p len c b = false := decide_eq_false (fun z => e2 z.2.2.2)
          rw [this]; rfl
      · rw [if_neg (nI_ne (by omega) (by omega) e1), if_pos (by decide)]
        have : cl_p len c b = false := decide_eq_false (fun z => e1 z.2.2.1)
        rw [this]; rfl
    · rw [if_neg (show ¬ nI _ = (45 : Int32) from nI_ne (b := 45) (by omega) (by omega) e0), if_pos (by decide)]
      have : cl_p len c b = false := decide_eq_false (fun z => e0 z.2.1)
      rw [this]; rfl
  · rw [if_neg (show ¬ nI _ = (3 : Int32) from nI_ne (b := 3) (by omega) (by omega) l0), if_pos (by decide)]
    have : cl_p len c b = false := decide_eq_false (fun z => l0 z.1)
    rw [this]; rfl
theorem ib_A (ha : hp_isL a = true) (h : ln_A vv aa a len c) {f t : Nat} (h1 : f ≤ t) (h2 : t ≤ len) (h3 : t < len → c t = 32) : f_Line_idBetween (hp_mk vv ww aa bb) a (nI f) (nI t) = some (th_enc (nu_v c f t), hp_mk vv ww aa bb) := by
  have h40 := h.1
  have a0 := at_A (ww := ww) (bb := bb) ha h (j := f) (by omega)
  have a1 := at_A (ww := ww) (bb := bb) ha h (j := f + 1) (by omega)
  unfold f_Line_idBetween f_Line_idBetween_69 f_Line_idBetween_70
  simp only [is_L ha, gd_t, a0, bd_s, nI_1, a1, pk_sub h1]
  by_cases e : t = f
  · have e1 : f_Arc_digit (hp_mk vv ww aa bb) (if f < len then nI (c f) else -1) = some (-1, hp_mk vv ww aa bb) := by
      by_cases l : f < len
      · rw [if_pos l]
        have := h3 (by omega)
        rw [e] at this
        rw [this]
        rfl
      · rw [if_neg l]; rfl
    have e2 : nu_v c f t = none := by unfold nu_v; rw [if_neg (by omega), if_neg (by omega)]
    rw [e1, bd_s, if_neg (by decide), e2]; rfl
  · have l : f < len := by omega
    have q0 := (h.2.2 f l).2
    rw [if_pos l, dg_A q0, bd_s]
    have hd : ∀ x, dg_n (c f) = some x → x < 2 ^ 31 := fun x hx => by have := dg_lt hx; omega
    by_cases hn : dg_n (c f) = none
    · rw [if_neg (fun z => (te_pos hd).mp z hn)]
      have : nu_v c f t = none := by
        unfold nu_v; rw [hn]
        by_cases b1 : t = f + 1
        · rw [if_pos b1]
        · rw [if_neg b1]; by_cases b2 : t = f + 2
          · rw [if_pos b2]
          · rw [if_neg b2]
      rw [this]; rfl
    · rw [if_pos ((te_pos hd).mpr hn)]
      obtain ⟨x, hx⟩ : ∃ x, dg_n (c f) = some x := Option.ne_none_iff_exists'.mp hn
      have hx10 := dg_lt hx
      by_cases b1 : t = f + 1
      · rw [if_pos (show nI (t - f) = 1 by rw [b1, Nat.add_sub_cancel_left]; rfl)]
        unfold nu_v; rw [if_pos b1]
      · rw [if_neg (show ¬ nI _ = (1 : Int32) from nI_ne (b := 1) (by omega) (by omega) (by omega))]
        by_cases b2 : t = f + 2
        · have l1 : f + 1 < len := by omega
          have q1 := (h.2.2 (f + 1) l1).2
          rw [is_L ha, gd_t, a1, bd_s, if_pos l1, dg_A q1, bd_s, if_pos (show nI (t - f) = 2 by rw [b2, Nat.add_sub_cancel_left]; rfl)]
          have hd1 : ∀ x, dg_n (c (f + 1)) = some x → x < 2 ^ 31 := fun x hx => by have := dg_lt hx; omega
          have hv : nu_v c f t = (match dg_n (c f), dg_n (c (f + 1)) with
            | some x, some y => if 10 * x + y < 64 then some (10 * x + y) else none
            | _, _ => none) := by unfold nu_v; rw [if_neg b1, if_pos b2]
          rw [hv, hx]
          by_cases hn1 : dg_n (c (f + 1)) = none
          · rw [if_pos ((te_neg hd1).mpr hn1), hn1]; rfl
          · rw [if_neg (fun z => hn1 ((te_neg hd1).mp z))]
            obtain ⟨y, hy⟩ : ∃ y, dg_n (c (f + 1)) = some y := Option.ne_none_iff_exists'.mp hn1
            have hy10 := dg_lt hy
            have e5 : th_enc (some x) * 10 + th_enc (some y) = nI (10 * x + y) := by
              show nI x * nI 10 + nI y = _
              rw [pk_mul, nI_add, Nat.mul_comm]
            rw [hy, e5]
            dsimp only
            by_cases l6 : 10 * x + y < 64
            · rw [if_neg (show ¬ (64 : Int32) ≤ nI (10 * x + y) from nI_ge (b := 64) l6 (by omega)), if_pos l6]; rfl
            · rw [if_pos (show (64 : Int32) ≤ nI (10 * x + y) from nI_le (a := 64) (by omega) (by omega)), if_neg l6]; rfl
        · have e6 : ∃ y, f_Arc_digit (hp_mk vv ww aa bb) (if f + 1 < len then nI (c (f + 1)) else -1) = some (y, hp_mk vv ww aa bb) := by
            by_cases l1 : f + 1 < len
            · rw [if_pos l1, dg_A (h.2.2 (f + 1) l1).2]; exact ⟨_, rfl⟩
            · rw [if_neg l1]; exact ⟨_, rfl⟩
          obtain ⟨y, hy⟩ := e6
          rw [is_L ha, gd_t, a1, bd_s, hy, bd_s, if_neg (show ¬ nI _ = (2 : Int32) from nI_ne (b := 2) (by omega) (by omega) (by omega))]
          unfold nu_v; rw [if_neg b1, if_neg b2]; rfl
theorem bl_A (ha : hp_isL a = true) (h : ln_A vv aa a len c) : ∀ (fu k : Nat), k ≤ len → len - k < fu → f_Line_blankFrom_2 fu (hp_mk vv ww aa bb) a (nI k) = some (nI (bl_n c (len - k) k), hp_mk vv ww aa bb) := by
  have h40 := h.1
  intro fu
  induction fu with
  | zero => intro k h1 h2; omega
  | succ fu ih =>
    intro k h1 h2
    have a0 := at_A (ww := ww) (bb := bb) ha h (j := k) (by omega)
    rw [f_Line_blankFrom_2]
    simp only [is_L ha, gd_t, gI_mk (isI_L ha), ob_s, h.2.1, a0, bd_s, nI_1]
    by_cases e : k = len
    · subst e
      rw [if_pos (nI_le (Nat.le_refl _) (by omega)), Nat.sub_self]; rfl
    · have l : k < len := by omega
      rw [if_neg (nI_ge l (by omega)), if_pos l, show len - k = (len - (k + 1)) + 1 by omega, bl_s]
      have q0 := (h.2.2 k l).2
      by_cases e0 : c k = 32
      · rw [if_pos (show nI (c k) = 32 by rw [e0]; rfl), if_pos e0]
      · rw [if_neg (show ¬ nI _ = (32 : Int32) from nI_ne (b := 32) (by omega) (by omega) e0), if_neg e0]
        exact ih (k + 1) (by omega) (by omega)
end LNA
section DRA
variable {vv : hp_V} {ww : hp_W} {aa : hp_V} {bb : hp_B} {n : Nat} {DL : Nat → Nat} {dc : Nat → Nat → Nat}
def dr_A (vv aa : hp_V) (n : Nat) (DL : Nat → Nat) (dc : Nat → Nat → Nat) : Prop := n ≤ 30 ∧ ∀ k, k < n → ln_A vv aa (5 + 2 * k) (DL k) (dc k)
theorem el_A (h : dr_A vv aa n DL dc) {t : Nat} (ht : t ≤ n) : ∀ (fu k : Nat), k ≤ t → t - k < fu → f_Draft_headersEnd_2 fu (hp_mk vv ww aa bb) 3 (nI t) (nI k) = some (nI (el_n DL (t - k) k), hp_mk vv ww aa bb) := by
  intro fu
  have h30 := h.1
  induction fu with
  | zero => intro k h1 h2; omega
  | succ fu ih =>
    intro k h1 h2
    rw [f_Draft_headersEnd_2]
    by_cases e : k = t
    · subst e
      rw [if_pos (nI_le (Nat.le_refl _) (by omega)), Nat.sub_self]; rfl
    · have hk : k < 30 := by omega
      have hl := h.2 k (by omega)
      have h40 := hl.1
      rw [if_neg (nI_ge (by omega) (by omega)), show t - k = (t - (k + 1)) + 1 by omega, el_s]
      simp only [gr_3_0, ob_s, ldR_4 hk, gI_mk (isI_L (isL_d hk)), hl.2.1, nI_1]
      by_cases e0 : DL k = 0
      · rw [if_pos (show nI (DL k) = 0 by rw [e0]; rfl), if_pos e0]
      · rw [if_neg (show ¬ nI _ = (0 : Int32) from nI_ne (b := 0) (by omega) (by omega) e0), if_neg e0]
        exact ih (k + 1) (by omega) (by omega)
theorem hd_A (h : dr_A vv aa n DL dc) {f t key : Nat} (hf : f ≤ t) (ht : t ≤ n) (hk : key < 256) : f_Draft_header (hp_mk vv ww aa bb) 3 (nI f) (nI t) (nI key) = some ((hd_v DL dc f t key).map (fun k => 5 + 2 * k), hp_mk vv ww aa bb) := by
  have h30 := h.1
  have e1 : f_Draft_headersEnd (hp_mk vv ww aa bb) 3 (nI f) (nI t) = some (nI (el_n DL (t - f) f), hp_mk vv ww aa bb) := el_A h ht m_fu f hf (by unfold m_fu; omega)
  have er := el_r (DL := DL) (t - f) f
  have gen : ∀ (fu q : Nat), f + q ≤ t → q < fu → f_Draft_header_10 fu (hp_mk vv ww aa bb) 3 (nI f) (nI key) (nI (f + q) - 1) = some ((hd_n (fun k => hd_p (DL k) (dc k) key) f q).map (fun k => 5 + 2 * k), hp_mk vv ww aa bb) := by
    intro fu
    induction fu with
    | zero => intro q h1 h2; omega
    | succ fu ih =>
      intro q h1 h2
      rw [f_Draft_header_10]
      cases q with
      | zero => rw [Nat.add_zero, if_pos (nI_m1 (show f < 2 ^ 31 by omega))]; rfl
      | succ q =>
        have hk30 : f + q < 30 := by omega
        rw [show f + (q + 1) = (f + q) + 1 from rfl, nI_pred, if_neg (nI_nlt (by omega) (by omega)), hd_s]
        simp only [gr_3_0, ob_s, ldR_4 hk30, is_L (isL_d hk30), gd_t, ih_A (isL_d hk30) (h.2 (f + q) (by omega)) hk, bd_s, nI_am1]
        cases hp : hd_p (DL (f + q)) (dc (f + q)) key with
        | false =>
          rw [if_pos (show iB false = 0 from rfl), if_neg (by decide)]
          exact ih q (by omega) (by omega)
        | true =>
          rw [if_neg (show ¬ iB true = 0 by decide), if_pos rfl]; rfl
  unfold f_Draft_header
  simp only [is_3, gd_t, e1, bd_s]
  have := gen m_fu (el_n DL (t - f) f - f) (by omega) (by unfold m_fu; omega)
  rw [show f + (el_n DL (t - f) f - f) = el_n DL (t - f) f by omega] at this
  exact this
theorem bd_A (h : dr_A vv aa n DL dc) {f t : Nat} (hf : f ≤ t) (ht : t ≤ n) : f_Draft_bodyStart (hp_mk vv ww aa bb) 3 (nI f) (nI t) = some (nI (bd_v DL f t), hp_mk vv ww aa bb) := by
  have h30 := h.1
  have e1 : f_Draft_headersEnd (hp_mk vv ww aa bb) 3 (nI f) (nI t) = some (nI (el_n DL (t - f) f), hp_mk vv ww aa bb) := el_A h ht m_fu f hf (by unfold m_fu; omega)
  have er := el_r (DL := DL) (t - f) f
  unfold f_Draft_bodyStart
  simp only [is_3, gd_t, e1, bd_s, nI_1]
  unfold bd_v
  by_cases e : el_n DL (t - f) f < t
  · rw [if_neg (nI_nlt (by omega) (by omega)), if_pos e]
  · rw [if_pos (nI_lt (by omega) (by omega)), if_neg e]
def id_v (DL : Nat → Nat) (dc : Nat → Nat → Nat) (n : Nat) : Option Nat := match hd_v DL dc 0 n 105 with
  | none => none
  | some k => nu_v (dc k) 2 (DL k)
theorem id_A (h : dr_A vv aa n DL dc) (hn : vv 3 1 = nI n) : f_Draft_id (hp_mk vv ww aa bb) 3 = some (th_enc (id_v DL dc n), hp_mk vv ww aa bb) := by
  have h30 := h.1
  have e1 := hd_A (ww := ww) (bb := bb) h (f := 0) (t := n) (key := 105) (by omega) (by omega) (by omega)
  have e1' : f_Draft_header (hp_mk vv ww aa bb) 3 0 (nI n) 105 = _ := e1
  unfold f_Draft_id f_Draft_id_29 id_v
  simp only [gi_3_1, ob_s, hn, is_3, gd_t, e1', bd_s]
  cases hh : hd_v DL dc 0 n 105 with
  | none => rfl
  | some k =>
    have hr := hd_vr (by omega) hh
    have hk30 : k < 30 := by omega
    have hl := h.2 k hr.2.1
    have h40 := hl.1
    have e2 := ib_A (ww := ww) (bb := bb) (isL_d hk30) hl (f := 2) (t := DL k) hr.2.2 (Nat.le_refl _) (fun z => absurd z (by omega))
    have e2' : f_Line_idBetween (hp_mk vv ww aa bb) (5 + 2 * k) 2 (nI (DL k)) = _ := e2
    simp only [Option.map_some, gI_mk (isI_L (isL_d hk30)), ob_s, hl.2.1, is_L (isL_d hk30), gd_t, e2', bd_s]
theorem cl_A (h : dr_A vv aa n DL dc) {t b : Nat} (ht : t ≤ n) (hb : b < 256) : ∀ (fu k : Nat), k ≤ t → t - k < fu → f_Draft_closingPlace_3 fu (hp_mk vv ww aa bb) 3 (nI t) (nI b) (nI k) = some (nI (cl_n DL dc b (t - k) k), hp_mk vv ww aa bb) := by
  intro fu
  have h30 := h.1
  induction fu with
  | zero => intro k h1 h2; omega
  | succ fu ih =>
    intro k h1 h2
    rw [f_Draft_closingPlace_3]
    by_cases e : k = t
    · subst e
      rw [if_pos (nI_le (Nat.le_refl _) (by omega)), Nat.sub_self]; rfl
    · have hk : k < 30 := by omega
      have hl := h.2 k (by omega)
      rw [if_neg (nI_ge (by omega) (by omega)), show t - k = (t - (k + 1)) + 1 by omega, cl_s]
      simp only [gr_3_0, ob_s, ldR_4 hk, is_L (isL_d hk), gd_t, il_A (isL_d hk) hl hb, bd_s, nI_1]
      cases hp : cl_p (DL k) (dc k) b with
      | false =>
        rw [if_pos (show iB false = 0 from rfl), if_neg (by decide)]
        exact ih (k + 1) (by omega) (by omega)
      | true => rw [if_neg (show ¬ iB true = 0 by decide), if_pos rfl]
end DRA
