/-! sets of message numbers as numbers: bits -/
theorem sh_s : ∀ n, n < 32 → ((nI n &&& 31).toBitVec.smod 32).toNat = n := by decide +kernel
theorem bi_shr {n k : Nat} (hn : n < 2 ^ 31) (hk : k < 32) : nI n >>> (nI k &&& 31) = nI (n / 2 ^ k) := pk_shrN hn _ k (sh_s k hk)
theorem bi_one {n : Nat} (hn : n < 2 ^ 32) : nI n &&& 1 = nI (n % 2) := pk_andN hn 1 (by decide)
theorem bi_bit {n k : Nat} (hn : n < 2 ^ 31) (hk : k < 32) : nI n >>> (nI k &&& 31) &&& 1 = nI ((n.testBit k).toNat) := by
  rw [bi_shr hn hk, bi_one (by have := Nat.div_le_self n (2 ^ k); omega)]
  congr 1
  rw [Nat.testBit_eq_decide_div_mod_eq]
  rcases Nat.mod_two_eq_zero_or_one (n / 2 ^ k) with h | h <;> simp [h]
theorem bi_shl {k : Nat} (hk : k < 31) : (1 : Int32) <<< (nI k &&& 31) = nI (2 ^ k) := by
  have := pk_shlN (n := 1) (nI k &&& 31) k (sh_s k (by omega)) (by
    have : 2 ^ k ≤ 2 ^ 30 := Nat.pow_le_pow_right (by omega) (by omega)
    omega)
  rw [Nat.one_mul] at this
  exact this
theorem bi_or (a b : Nat) : nI a ||| nI b = nI (a ||| b) := by
  apply Int32.toBitVec_inj.mp
  show (nI a).toBitVec ||| (nI b).toBitVec = (nI (a ||| b)).toBitVec
  show BitVec.ofNat 32 a ||| BitVec.ofNat 32 b = BitVec.ofNat 32 (a ||| b)
  rw [BitVec.ofNat_or]
theorem bi_and (a b : Nat) : nI a &&& nI b = nI (a &&& b) := by
  apply Int32.toBitVec_inj.mp
  show BitVec.ofNat 32 a &&& BitVec.ofNat 32 b = BitVec.ofNat 32 (a &&& b)
  rw [BitVec.ofNat_and]
/-- the set of those below n for which p holds -/
def bm_n (p : Nat → Bool) : Nat → Nat
  | 0 => 0
  | k + 1 => bm_n p k ||| (if p k = true then 2 ^ k else 0)
theorem bm_bit {p : Nat → Bool} : ∀ n j, (bm_n p n).testBit j = (decide (j < n) && p j) := by
  intro n
  induction n with
  | zero => intro j; simp [bm_n]
  | succ n ih =>
    intro j
    unfold bm_n
    rw [Nat.testBit_or, ih]
    by_cases h : j = n
    · subst h
      cases hp : p j with
      | true => simp [Nat.testBit_two_pow_self]
      | false => simp
    · cases hp : p n with
      | true =>
        rw [if_pos rfl, Nat.testBit_two_pow_of_ne (fun e => h e.symm)]
        simp only [Bool.or_false]
        congr 1
        exact decide_eq_decide.mpr (by omega)
      | false =>
        simp only [Bool.false_eq_true, if_false, Nat.zero_testBit, Bool.or_false]
        congr 1
        exact decide_eq_decide.mpr (by omega)
theorem bm_lt {p : Nat → Bool} (n : Nat) : bm_n p n < 2 ^ n := by
  apply Nat.lt_pow_two_of_testBit
  intro j hj
  rw [bm_bit]
  simp only [Bool.and_eq_false_iff, decide_eq_false_iff_not]
  exact Or.inl (by omega)
theorem bm_ext {n m : Nat} (hn : n < 2 ^ 12) (hm : m < 2 ^ 12) (h : ∀ j, j < 12 → n.testBit j = m.testBit j) : n = m := by
  apply Nat.eq_of_testBit_eq
  intro j
  by_cases hj : j < 12
  · exact h j hj
  · have h2 : 2 ^ 12 ≤ 2 ^ j := Nat.pow_le_pow_right (by omega) (by omega)
    rw [Nat.testBit_lt_two_pow (by omega), Nat.testBit_lt_two_pow (by omega)]
theorem pick_two {g : m_G} {x0 x1 : Int32} : ∀ (fu k : Nat) (x2 : Int32), k ≤ 12 → 12 - k < fu → ∃ r, f_Arc_numberInSet_4 fu g x0 x1 x2 (nI k) = some (r, g) ∧ f_Mod_pick_4 fu g x0 x1 x2 (nI k) = some (r, g) := by
  intro fu
  induction fu with
  | zero => intro k x2 h1 h2; omega
  | succ fu ih =>
    intro k x2 h1 h2
    rw [f_Arc_numberInSet_4, f_Mod_pick_4]
    unfold f_Arc_numberInSet_28 f_Mod_pick_31
    by_cases hk : k = 12
    · subst hk
      refine ⟨-4, ?_, ?_⟩ <;> rw [if_pos (show (12 : Int32) ≤ nI 12 from by decide)]
    · rw [if_neg (show ¬ (12 : Int32) ≤ nI k from nI_ge (b := 12) (by omega) (by omega)), if_neg (show ¬ (12 : Int32) ≤ nI k from nI_ge (b := 12) (by omega) (by omega))]
      rw [nI_1]
      by_cases hb : x0 >>> (nI k &&& 31) &&& 1 = 0
      · rw [if_pos hb, if_pos hb]
        exact ih (k + 1) x2 (by omega) (by omega)
      · rw [if_neg hb, if_neg hb]
        by_cases e : x2 = x1
        · rw [if_pos e, if_pos e]; exact ⟨_, rfl, rfl⟩
        · rw [if_neg e, if_neg e]
          exact ih (k + 1) (x2 + 1) (by omega) (by omega)
theorem pick_eq {g : m_G} {x0 x1 : Int32} : ∃ r, f_Arc_numberInSet g x0 x1 = some (r, g) ∧ f_Mod_pick g x0 x1 = some (r, g) := pick_two m_fu 0 0 (by omega) (by unfold m_fu; omega)
theorem op_hit (i : Nat) (x : Int32) : op_two (Inv_g i) (Inv_g (i + 4)) (fun g => f_Arc_hit g 0 x) (fun g => f_Mod_hit g 126 x) := by
  refine op_read (fun vv ww aa bb ln lc dn DL DC th mi rc rf wc cd fl lv tg od mo ad fd ep h => ?_)
  obtain ⟨a1, a2, a3, a4, a5, a6, ⟨⟨b1, b2⟩, ⟨b3, b4⟩, b5⟩, a8, a9⟩ := h
  obtain ⟨r, h1, h2⟩ := pick_eq (g := hp_mk vv ww aa bb) (x0 := nI fd) (x1 := x)
  refine ⟨r, ?_, ?_⟩
  · simp only [f_Arc_hit, gi_0_8, ob_s, b1, h1, bd_s]
  · simp only [f_Mod_hit, gi_126_20, ob_s, b3, h2, bd_s]
/-- how many bits are set below n -/
def bn_n (x : Nat) : Nat → Nat
  | 0 => 0
  | k + 1 => bn_n x k + (x.testBit k).toNat
theorem bn_le (x : Nat) : ∀ n, bn_n x n ≤ n := by
  intro n
  induction n with
  | zero => exact Nat.le_refl _
  | succ n ih => unfold bn_n; cases x.testBit n <;> simp <;> omega
theorem size_l {g : m_G} {x : Nat} (hx : x < 4096) : ∀ (fu k : Nat), k ≤ 12 → 12 - k < fu → f_Mod_size_4 fu g (nI x) (nI (bn_n x k)) (nI k) = some (nI (bn_n x 12), g) := by
  intro fu
  induction fu with
  | zero => intro k h1 h2; omega
  | succ fu ih =>
    intro k h1 h2
    rw [f_Mod_size_4]
    by_cases hk : k = 12
    · subst hk
      rw [if_pos (show (12 : Int32) ≤ nI 12 from by decide)]
    · rw [if_neg (show ¬ (12 : Int32) ≤ nI k from nI_ge (b := 12) (by omega) (by omega)), bi_bit (by omega) (by omega), nI_add, nI_1]
      exact ih (k + 1) (by omega) (by omega)
theorem size_eq {g : m_G} {x : Nat} (hx : x < 4096) : f_Mod_size g (nI x) = some (nI (bn_n x 12), g) := size_l hx m_fu 0 (by omega) (by unfold m_fu; omega)
def bc_32 (x : Int32) : Int32 := (match f_Integer_bitCount (fun _ => m_dead) x with | some (r, _) => r | none => 0)
theorem bc_32_eq {g : m_G} {x : Int32} : f_Integer_bitCount g x = some (bc_32 x, g) := rfl
set_option maxRecDepth 100000 in
theorem bc_tab : (List.range 4096).all (fun n => decide (bc_32 (nI n) = nI (bn_n n 12))) = true := by decide +kernel
theorem bc_eq {g : m_G} {x : Nat} (hx : x < 4096) : f_Integer_bitCount g (nI x) = some (nI (bn_n x 12), g) := by
  rw [bc_32_eq, of_decide_eq_true (List.all_eq_true.mp bc_tab x (List.mem_range.mpr hx))]
