/-! which messages are there, as sets; related -/
def om_l (l : List Nat) : Nat := l.foldl (fun s m => s ||| 2 ^ m) 0
theorem om_app {l : List Nat} {m : Nat} : om_l (l ++ [m]) = om_l l ||| 2 ^ m := by unfold om_l; rw [List.foldl_append]; rfl
theorem om_bit_g : ∀ (l : List Nat) (s j : Nat), (l.foldl (fun s m => s ||| 2 ^ m) s).testBit j = (s.testBit j || decide (j ∈ l)) := by
  intro l
  induction l with
  | nil => intro s j; simp
  | cons m l ih =>
    intro s j
    rw [List.foldl_cons, ih, Nat.testBit_or]
    by_cases h : m = j
    · subst h; simp [Nat.testBit_two_pow_self]
    · rw [Nat.testBit_two_pow_of_ne h]
      have : (j ∈ m :: l) ↔ j ∈ l := List.mem_cons.trans ⟨fun q => q.resolve_left (fun e => h e.symm), Or.inr⟩
      simp [this]
theorem om_bit {l : List Nat} {j : Nat} : (om_l l).testBit j = decide (j ∈ l) := by
  unfold om_l; rw [om_bit_g]; simp
theorem om_lt {l : List Nat} (h : ∀ a ∈ l, a < 12) : om_l l < 2 ^ 12 := by
  apply Nat.lt_pow_two_of_testBit
  intro j hj
  rw [om_bit]
  exact decide_eq_false (fun q => by have := h j q; omega)
theorem om_bm {th : Nat → Bool} {od : List Nat} (hm : ∀ m, m ∈ od ↔ m < 12 ∧ th m = true) : om_l od = bm_n th 12 := by
  refine bm_ext (om_lt (fun a ha => ((hm a).mp ha).1)) (bm_lt 12) (fun j hj => ?_)
  rw [om_bit, bm_bit]
  cases h : th j with
  | true => simp [hm j, hj, h]
  | false => simp [hm j, h]
section MSK
variable {vv : hp_V} {ww : hp_W} {aa : hp_V} {bb : hp_B}
theorem mA_there_l {od : List Nat} (h12 : ∀ a ∈ od, a < 12) (hlen : od.length ≤ 12) (ho : rA_ord vv aa od) : ∀ (fu k : Nat), k ≤ od.length → od.length - k < fu → f_Arc_numbersThere_4 fu (hp_mk vv ww aa bb) 0 (nI (om_l (od.take k))) (nI k) = some (nI (om_l od), hp_mk vv ww aa bb) := by
  intro fu
  induction fu with
  | zero => intro k h1 h2; omega
  | succ fu ih =>
    intro k h1 h2
    rw [f_Arc_numbersThere_4]
    simp only [gi_0_7, ob_s, ho.1]
    by_cases hk : k = od.length
    · subst hk
      rw [if_pos (nI_le (Nat.le_refl _) (by omega)), List.take_length]
    · have hk2 : k < od.length := by omega
      have ha : od.getD k 0 = od[k] := by simp [hk2]
      have ha12 : od[k] < 12 := h12 _ (List.getElem_mem hk2)
      rw [if_neg (nI_ge hk2 (by omega))]
      simp only [gr_0_6, ob_s, ld_125 (show k < 12 by omega), ho.2 k hk2, ha, bi_shl (show od[k] < 31 by omega), bi_or, nI_1]
      rw [← om_app, List.take_append_getElem hk2]
      exact ih (k + 1) (by omega) (by omega)
theorem mA_there {th : Nat → Bool} {od : List Nat} (hn : od.Nodup) (hm : ∀ m, m ∈ od ↔ m < 12 ∧ th m = true) (ho : rA_ord vv aa od) : f_Arc_numbersThere (hp_mk vv ww aa bb) 0 = some (nI (bm_n th 12), hp_mk vv ww aa bb) := by
  rw [← om_bm hm]
  exact mA_there_l (fun a ha => ((hm a).mp ha).1) (od_len hn hm) ho m_fu 0 (by omega) (by unfold m_fu; have := od_len hn hm; omega)
theorem mM_pres_l {th : Nat → Bool} (ht : ∀ m, m < 12 → aa 132 m = iB (th m)) : ∀ (fu k : Nat), k ≤ 12 → 12 - k < fu → f_Mod_present_4 fu (hp_mk vv ww aa bb) 126 (nI (bm_n th k)) (nI k) = some (nI (bm_n th 12), hp_mk vv ww aa bb) := by
  intro fu
  induction fu with
  | zero => intro k h1 h2; omega
  | succ fu ih =>
    intro k h1 h2
    rw [f_Mod_present_4]
    unfold f_Mod_present_25
    by_cases hk : k = 12
    · subst hk
      rw [if_pos (show (12 : Int32) ≤ nI 12 from by decide)]
    · have hk2 : k < 12 := by omega
      rw [if_neg (show ¬ (12 : Int32) ≤ nI k from nI_ge (b := 12) hk2 (by omega))]
      have hih := ih (k + 1) (by omega) (by omega)
      unfold bm_n at hih
      simp only [gr_126_7, ob_s, ld_132 hk2, ht k hk2, bi_shl (show k < 31 by omega), bi_or, nI_1]
      cases h : th k with
      | true =>
        rw [if_neg (show ¬ iB true = 0 by decide)]
        rw [h, if_pos rfl] at hih
        exact hih
      | false =>
        rw [if_pos (show iB false = 0 from rfl)]
        rw [h] at hih
        simp only [Bool.false_eq_true, if_false, Nat.or_zero] at hih
        exact hih
theorem mM_pres {th : Nat → Bool} (ht : ∀ m, m < 12 → aa 132 m = iB (th m)) : f_Mod_present (hp_mk vv ww aa bb) 126 = some (nI (bm_n th 12), hp_mk vv ww aa bb) := mM_pres_l ht m_fu 0 (by omega) (by unfold m_fu; omega)
end MSK
-- 64 bits
theorem bl_or (a b : Nat) : lN a ||| lN b = lN (a ||| b) := by
  apply Int64.toBitVec_inj.mp
  show BitVec.ofNat 64 a ||| BitVec.ofNat 64 b = BitVec.ofNat 64 (a ||| b)
  rw [BitVec.ofNat_or]
theorem bl_and (a b : Nat) : lN a &&& lN b = lN (a &&& b) := by
  apply Int64.toBitVec_inj.mp
  show BitVec.ofNat 64 a &&& BitVec.ofNat 64 b = BitVec.ofNat 64 (a &&& b)
  rw [BitVec.ofNat_and]
theorem bl_shl : ∀ k, k < 64 → (1 : Int64) <<< ((nI k).toInt64 &&& 63) = lN (2 ^ k) := by decide +kernel
theorem bl_zero {n : Nat} (h : n < 2 ^ 64) : lN n = 0 ↔ n = 0 := by
  constructor
  · intro e
    have : (lN n).toBitVec.toNat = (0 : Int64).toBitVec.toNat := by rw [e]
    have h1 : (lN n).toBitVec.toNat = n := by
      show (BitVec.ofNat 64 n).toNat = n
      rw [BitVec.toNat_ofNat]; exact Nat.mod_eq_of_lt h
    rw [h1] at this
    exact this
  · intro e; subst e; rfl
theorem cmp_0 {x y : Int64} : lg_cmp x y = 0 ↔ x = y := by
  unfold lg_cmp
  by_cases h1 : x > y
  · rw [if_pos h1]
    constructor
    · intro h; exact absurd h (by decide)
    · intro h; subst h; exact absurd h1 Int64.lt_irrefl
  · rw [if_neg h1]
    by_cases h2 : x = y
    · rw [if_pos h2]; exact ⟨fun _ => h2, fun _ => rfl⟩
    · rw [if_neg h2]
      exact ⟨fun h => absurd h (by decide), fun h => absurd h h2⟩
/-- the roots of those for which p holds -/
def rt_n (p : Nat → Bool) (t : Nat → Nat) : Nat → Nat
  | 0 => 0
  | k + 1 => rt_n p t k ||| (if p k = true then 2 ^ t k else 0)
theorem rt_bit {p : Nat → Bool} {t : Nat → Nat} : ∀ n q, (rt_n p t n).testBit q = true ↔ ∃ k, k < n ∧ p k = true ∧ t k = q := by
  intro n
  induction n with
  | zero => intro q; simp [rt_n]
  | succ n ih =>
    intro q
    unfold rt_n
    rw [Nat.testBit_or, Bool.or_eq_true, ih]
    constructor
    · rintro (⟨k, h1, h2⟩ | h)
      · exact ⟨k, by omega, h2⟩
      · cases hp : p n with
        | false => rw [hp] at h; simp at h
        | true =>
          rw [hp, if_pos rfl] at h
          by_cases e : t n = q
          · exact ⟨n, by omega, hp, e⟩
          · rw [Nat.testBit_two_pow_of_ne e] at h; cases h
    · rintro ⟨k, h1, h2, h3⟩
      by_cases e : k = n
      · subst e
        refine Or.inr ?_
        rw [h2, if_pos rfl, h3, Nat.testBit_two_pow_self]
      · exact Or.inl ⟨k, by omega, h2, h3⟩
theorem rt_lt {p : Nat → Bool} {t : Nat → Nat} (n : Nat) (ht : ∀ k, k < n → t k < 64) : rt_n p t n < 2 ^ 64 := by
  apply Nat.lt_pow_two_of_testBit
  intro j hj
  cases h : (rt_n p t n).testBit j with
  | false => rfl
  | true =>
    obtain ⟨k, h1, _, h3⟩ := (rt_bit n j).mp h
    have := ht k h1
    omega
section RTS
variable {vv : hp_V} {ww : hp_W} {aa : hp_V} {bb : hp_B} {P : Nat → Option Nat} {mi : Nat → Nat}
theorem rA_bit (hP : th_ok P) (h : en_P (aa 70) P) {m : Nat} (hm : m < 12) (hi : vv (77 + 4 * m) 4 = nI (mi m)) (h64 : mi m < 64) : f_Arc_rootBit (hp_mk vv ww aa bb) 0 (some (77 + 4 * m)) = some (lN (2 ^ th_top P 64 (mi m)), hp_mk vv ww aa bb) := by
  have e1 : f_Threads_topOf (hp_mk vv ww aa bb) 69 (nI (mi m)) = some (nI (th_top P 64 (mi m)), hp_mk vv ww aa bb) := tA_top hP h m_fu 0 (mi m) (by omega) (by unfold m_fu; omega) h64
  simp only [f_Arc_rootBit, gr_0_3, ob_s, gI_mk (isI_m hm (k := 4) (by omega) (by omega)), hi, is_69, gd_t, e1, bd_s, bl_shl _ (top_lt hP 64 _ h64)]
theorem rA_roots_l (hP : th_ok P) (h : en_P (aa 70) P) (hi : ∀ m, m < 12 → vv (77 + 4 * m) 4 = nI (mi m) ∧ mi m < 64) {s : Nat} (hs : s < 4096) : ∀ (fu k : Nat), k ≤ 12 → 12 - k < fu → f_Arc_rootsOf_5 fu (hp_mk vv ww aa bb) 0 (nI s) (lN (rt_n (fun m => s.testBit m) (fun m => th_top P 64 (mi m)) k)) (nI k) = some (lN (rt_n (fun m => s.testBit m) (fun m => th_top P 64 (mi m)) 12), hp_mk vv ww aa bb) := by
  intro fu
  induction fu with
  | zero => intro k h1 h2; omega
  | succ fu ih =>
    intro k h1 h2
    rw [f_Arc_rootsOf_5]
    unfold f_Arc_rootsOf_35
    by_cases hk : k = 12
    · subst hk
      rw [if_pos (show (12 : Int32) ≤ nI 12 from by decide)]
    · have hk2 : k < 12 := by omega
      rw [if_neg (show ¬ (12 : Int32) ≤ nI k from nI_ge (b := 12) hk2 (by omega)), bi_bit (by omega) (by omega)]
      have hih := ih (k + 1) (by omega) (by omega)
      unfold rt_n at hih
      simp only [gr_0_5, ob_s, ldR_76 hk2, is_0, gd_t, rA_bit hP h hk2 (hi k hk2).1 (hi k hk2).2, bd_s, bl_or, nI_1]
      cases hb : s.testBit k with
      | true =>
        rw [if_neg (show ¬ nI (true.toNat) = 0 by decide)]
        rw [hb, if_pos rfl] at hih
        exact hih
      | false =>
        rw [if_pos (show nI (false.toNat) = 0 from rfl)]
        rw [hb] at hih
        simp only [Bool.false_eq_true, if_false, Nat.or_zero] at hih
        exact hih
theorem rA_roots (hP : th_ok P) (h : en_P (aa 70) P) (hi : ∀ m, m < 12 → vv (77 + 4 * m) 4 = nI (mi m) ∧ mi m < 64) {s : Nat} (hs : s < 4096) : f_Arc_rootsOf (hp_mk vv ww aa bb) 0 (nI s) = some (lN (rt_n (fun m => s.testBit m) (fun m => th_top P 64 (mi m)) 12), hp_mk vv ww aa bb) := rA_roots_l hP h hi hs m_fu 0 (by omega) (by unfold m_fu; omega)
end RTS
