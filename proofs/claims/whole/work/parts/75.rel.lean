/-! related -/
def ex_n (r : Nat → Bool) : Nat → Bool
  | 0 => false
  | k + 1 => ex_n r k || r k
theorem ex_iff {r : Nat → Bool} : ∀ n, ex_n r n = true ↔ ∃ k, k < n ∧ r k = true := by
  intro n
  induction n with
  | zero => simp [ex_n]
  | succ n ih =>
    unfold ex_n
    rw [Bool.or_eq_true, ih]
    constructor
    · rintro (⟨k, h1, h2⟩ | h)
      · exact ⟨k, by omega, h2⟩
      · exact ⟨n, by omega, h⟩
    · rintro ⟨k, h1, h2⟩
      by_cases e : k = n
      · subst e; exact Or.inr h2
      · exact Or.inl ⟨k, by omega, h2⟩
theorem and_pow0 {R t : Nat} : R &&& 2 ^ t = 0 ↔ R.testBit t = false := by
  constructor
  · intro h
    have : (R &&& 2 ^ t).testBit t = false := by rw [h]; exact Nat.zero_testBit t
    rw [Nat.testBit_and, Nat.testBit_two_pow_self, Bool.and_true] at this
    exact this
  · intro h
    apply Nat.eq_of_testBit_eq
    intro j
    rw [Nat.testBit_and, Nat.zero_testBit]
    by_cases e : t = j
    · subst e; rw [h]; rfl
    · rw [Nat.testBit_two_pow_of_ne e, Bool.and_false]
section REL
variable {vv : hp_V} {ww : hp_W} {aa : hp_V} {bb : hp_B} {P : Nat → Option Nat} {mi : Nat → Nat} {th : Nat → Bool}
theorem lA_rel (hP : th_ok P) (h : en_P (aa 70) P) (hi : ∀ m, m < 12 → vv (77 + 4 * m) 3 = iB (th m) ∧ vv (77 + 4 * m) 4 = nI (mi m) ∧ mi m < 64) {R : Nat} (hR : R < 2 ^ 64) {x1 : Int32} : ∀ (fu k : Nat), k ≤ 12 → 12 - k < fu → f_Arc_related_20 fu (hp_mk vv ww aa bb) 0 x1 (lN R) (nI (bm_n (fun m => th m && R.testBit (th_top P 64 (mi m))) k)) (nI k) = m_bd (f_Arc_numberInSet (hp_mk vv ww aa bb) (nI (bm_n (fun m => th m && R.testBit (th_top P 64 (mi m))) 12)) x1) fun v g => some (v, g) := by
  intro fu
  induction fu with
  | zero => intro k h1 h2; omega
  | succ fu ih =>
    intro k h1 h2
    rw [f_Arc_related_20]
    unfold f_Arc_related_67
    by_cases hk : k = 12
    · subst hk
      rw [if_pos (show (12 : Int32) ≤ nI 12 from by decide)]
    · have hk2 : k < 12 := by omega
      obtain ⟨i1, i2, i3⟩ := hi k hk2
      rw [if_neg (show ¬ (12 : Int32) ≤ nI k from nI_ge (b := 12) hk2 (by omega))]
      have hih := ih (k + 1) (by omega) (by omega)
      unfold bm_n at hih
      simp only [gr_0_5, ob_s, ldR_76 hk2, gI_mk (isI_m hk2 (k := 3) (by omega) (by omega)), i1, is_0, gd_t, rA_bit hP h hk2 i2 i3, bd_s, bl_and, bi_shl (show k < 31 by omega), bi_or, nI_1]
      cases hth : th k with
      | false =>
        rw [if_pos (show iB false = 0 from rfl)]
        simp only [hth, Bool.false_and, Bool.false_eq_true, if_false, Nat.or_zero] at hih
        exact hih
      | true =>
        rw [if_neg (show ¬ iB true = 0 by decide)]
        simp only [hth, Bool.true_and] at hih
        have hz : lg_cmp (lN (R &&& 2 ^ th_top P 64 (mi k))) 0 = 0 ↔ R.testBit (th_top P 64 (mi k)) = false := by
          rw [cmp_0, bl_zero (Nat.lt_of_le_of_lt Nat.and_le_left hR), and_pow0]
        cases hb : R.testBit (th_top P 64 (mi k)) with
        | false =>
          rw [if_pos (hz.mpr hb)]
          rw [hb] at hih
          simp only [Bool.false_eq_true, if_false, Nat.or_zero] at hih
          exact hih
        | true =>
          rw [if_neg (fun z => by rw [hz.mp z] at hb; cases hb)]
          rw [hb, if_pos rfl] at hih
          exact hih
theorem lM_inner (hP : th_ok P) (h : en_P (aa 142) P) (hi : ∀ m, m < 12 → aa 132 m = iB (th m) ∧ aa 133 m = nI (mi m) ∧ mi m < 64) {fd : Nat} (hf : vv 126 20 = nI fd) (hfd : fd < 4096) {x1 : Int32} {m s : Nat} (hm : m < 12) (kk : m_G → Nat → Int32 → Int32 → Int32 → Option (Int32 × m_G)) : ∀ (fu k : Nat), k ≤ 12 → 12 - k < fu → f_Mod_related_29 kk fu (hp_mk vv ww aa bb) 126 x1 (nI (s ||| (if ex_n (fun x => th x && fd.testBit x && decide (th_top P 64 (mi x) = th_top P 64 (mi m))) k = true then 2 ^ m else 0))) (nI m) (nI k) = f_Mod_related_95 kk (hp_mk vv ww aa bb) 126 x1 (nI (s ||| (if ex_n (fun x => th x && fd.testBit x && decide (th_top P 64 (mi x) = th_top P 64 (mi m))) 12 = true then 2 ^ m else 0))) (nI m) := by
  intro fu
  induction fu with
  | zero => intro k h1 h2; omega
  | succ fu ih =>
    intro k h1 h2
    rw [f_Mod_related_29]
    unfold f_Mod_related_89
    by_cases hk : k = 12
    · subst hk
      rw [if_pos (show (12 : Int32) ≤ nI 12 from by decide)]
    · have hk2 : k < 12 := by omega
      obtain ⟨i1, i2, i3⟩ := hi k hk2
      obtain ⟨j1, j2, j3⟩ := hi m hm
      rw [if_neg (show ¬ (12 : Int32) ≤ nI k from nI_ge (b := 12) hk2 (by omega))]
      have hih := ih (k + 1) (by omega) (by omega)
      rw [show ex_n (fun x => th x && fd.testBit x && decide (th_top P 64 (mi x) = th_top P 64 (mi m))) (k + 1) = (ex_n (fun x => th x && fd.testBit x && decide (th_top P 64 (mi x) = th_top P 64 (mi m))) k || (th k && fd.testBit k && decide (th_top P 64 (mi k) = th_top P 64 (mi m)))) from rfl] at hih
      have t1 := tM_top (vv := vv) (ww := ww) (aa := aa) (bb := bb) hP h i3
      have t2 := tM_top (vv := vv) (ww := ww) (aa := aa) (bb := bb) hP h j3
      simp only [gr_126_7, gr_126_8, ob_s, ld_132 hk2, i1, gi_126_20, hf, bi_bit (show fd < 2 ^ 31 by omega) (show k < 32 by omega), ld_133 hk2, ld_133 hm, i2, j2, is_126, gd_t, t1, t2, bd_s, bi_shl (show m < 31 by omega), bi_or, nI_1]
      cases hth : th k with
      | false =>
        rw [if_pos (show iB false = 0 from rfl)]
        simp only [hth, Bool.false_and, Bool.or_false] at hih
        exact hih
      | true =>
        rw [if_neg (show ¬ iB true = 0 by decide)]
        cases hb : fd.testBit k with
        | false =>
          rw [if_neg (show ¬ nI (false.toNat) = 1 by decide)]
          simp only [hth, hb, Bool.true_and, Bool.false_and, Bool.or_false] at hih
          exact hih
        | true =>
          rw [if_pos (show nI (true.toNat) = 1 from rfl)]
          simp only [hth, hb, Bool.true_and] at hih
          by_cases e : th_top P 64 (mi k) = th_top P 64 (mi m)
          · rw [if_pos (by rw [e])]
            rw [decide_eq_true e, Bool.or_true, if_pos rfl] at hih
            have hs : s ||| (if ex_n (fun x => th x && fd.testBit x && decide (th_top P 64 (mi x) = th_top P 64 (mi m))) k = true then 2 ^ m else 0) ||| 2 ^ m = s ||| 2 ^ m := by
              split
              · rw [Nat.or_assoc, Nat.or_self]
              · rw [Nat.or_zero]
            rw [hs]
            exact hih
          · rw [if_neg (fun z => e (nI_inj (by have := top_lt hP 64 _ i3; omega) (by have := top_lt hP 64 _ j3; omega) z))]
            rw [decide_eq_false e, Bool.or_false] at hih
            exact hih
theorem lM_rel (hP : th_ok P) (h : en_P (aa 142) P) (hi : ∀ m, m < 12 → aa 132 m = iB (th m) ∧ aa 133 m = nI (mi m) ∧ mi m < 64) {fd : Nat} (hf : vv 126 20 = nI fd) (hfd : fd < 4096) {x1 : Int32} : ∀ (fu k : Nat), k ≤ 12 → 12 - k < fu → f_Mod_related_8 fu (hp_mk vv ww aa bb) 126 x1 (nI (bm_n (fun m => th m && ex_n (fun x => th x && fd.testBit x && decide (th_top P 64 (mi x) = th_top P 64 (mi m))) 12) k)) (nI k) = m_bd (f_Mod_pick (hp_mk vv ww aa bb) (nI (bm_n (fun m => th m && ex_n (fun x => th x && fd.testBit x && decide (th_top P 64 (mi x) = th_top P 64 (mi m))) 12) 12)) x1) fun v g => some (v, g) := by
  intro fu
  induction fu with
  | zero => intro k h1 h2; omega
  | succ fu ih =>
    intro k h1 h2
    rw [f_Mod_related_8]
    by_cases hk : k = 12
    · subst hk
      rw [if_pos (show (12 : Int32) ≤ nI 12 from by decide)]
    · have hk2 : k < 12 := by omega
      obtain ⟨i1, i2, i3⟩ := hi k hk2
      rw [if_neg (show ¬ (12 : Int32) ≤ nI k from nI_ge (b := 12) hk2 (by omega))]
      have hih := ih (k + 1) (by omega) (by omega)
      rw [show bm_n (fun m => th m && ex_n (fun x => th x && fd.testBit x && decide (th_top P 64 (mi x) = th_top P 64 (mi m))) 12) (k + 1) = bm_n (fun m => th m && ex_n (fun x => th x && fd.testBit x && decide (th_top P 64 (mi x) = th_top P 64 (mi m))) 12) k ||| (if (th k && ex_n (fun x => th x && fd.testBit x && decide (th_top P 64 (mi x) = th_top P 64 (mi k))) 12) = true then 2 ^ k else 0) from rfl] at hih
      simp only [gr_126_7, ob_s, ld_132 hk2, i1]
      cases hth : th k with
      | false =>
        rw [if_pos (show iB false = 0 from rfl)]
        unfold f_Mod_related_95
        rw [nI_1]
        rw [hth] at hih
        simp only [Bool.false_and, Bool.false_eq_true, if_false, Nat.or_zero] at hih
        exact hih
      | true =>
        rw [if_neg (show ¬ iB true = 0 by decide)]
        have e1 := lM_inner (vv := vv) (ww := ww) (aa := aa) (bb := bb) (x1 := x1) (s := bm_n (fun m => th m && ex_n (fun x => th x && fd.testBit x && decide (th_top P 64 (mi x) = th_top P 64 (mi m))) 12) k) hP h hi hf hfd hk2 (f_Mod_related_8 fu) m_fu 0 (by omega) (by unfold m_fu; omega)
        rw [show ex_n (fun x => th x && fd.testBit x && decide (th_top P 64 (mi x) = th_top P 64 (mi k))) 0 = false from rfl] at e1
        simp only [Bool.false_eq_true, if_false, Nat.or_zero] at e1
        have e2 : f_Mod_related_29 (f_Mod_related_8 fu) m_fu (hp_mk vv ww aa bb) 126 x1 (nI (bm_n (fun m => th m && ex_n (fun x => th x && fd.testBit x && decide (th_top P 64 (mi x) = th_top P 64 (mi m))) 12) k)) (nI k) 0 = _ := e1
        rw [e2]
        unfold f_Mod_related_95
        rw [nI_1]
        rw [hth, Bool.true_and] at hih
        exact hih
end REL
theorem op_related (i : Nat) (hi : i ≤ 2048) (x : Int32) : op_two (Inv_g i) (Inv_g (i + 4)) (fun g => f_Arc_related g 0 x) (fun g => f_Mod_related g 126 x) := by
  refine op_do (fun vv ww aa bb ln lc dn DL DC th mi rc rf wc cd fl lv tg od mo ad fd ep hz => ?_)
  have hA := hz.2.2.2.1.1
  have hM := hz.2.2.2.1.2.1
  have hX := hz.2.2.2.1.2.2
  obtain ⟨⟨m1, m2⟩, ⟨m3, m4⟩, m5⟩ := hz.2.2.2.2.2.2.1
  have hok := inv_ok hz
  obtain ⟨f', hf1, hf2⟩ := inv_link hi hz
  have hpar := hz.2.2.2.2.2.1
  have hs : fd &&& bm_n th 12 < 4096 := Nat.lt_of_le_of_lt Nat.and_le_left m5
  obtain ⟨R, hR⟩ : ∃ R, R = rt_n (fun m => (fd &&& bm_n th 12).testBit m) (fun m => th_top (th_all mi rc rf od) 64 (mi m)) 12 := ⟨_, rfl⟩
  have hR64 : R < 2 ^ 64 := by rw [hR]; exact rt_lt 12 (fun k hk => top_lt hok 64 _ (hX.1 k hk).1)
  have hset : bm_n (fun m => th m && R.testBit (th_top (th_all mi rc rf od) 64 (mi m))) 12 = bm_n (fun m => th m && ex_n (fun x => th x && fd.testBit x && decide (th_top (th_all mi rc rf od) 64 (mi x) = th_top (th_all mi rc rf od) 64 (mi m))) 12) 12 := by
    refine bm_ext (bm_lt 12) (bm_lt 12) (fun j hj => ?_)
    rw [bm_bit, bm_bit]
    suffices hAB : R.testBit (th_top (th_all mi rc rf od) 64 (mi j)) = ex_n (fun x => th x && fd.testBit x && decide (th_top (th_all mi rc rf od) 64 (mi x) = th_top (th_all mi rc rf od) 64 (mi j))) 12 by rw [hAB]
    apply Bool.eq_iff_iff.mpr
    rw [hR, rt_bit, ex_iff]
    constructor
    · rintro ⟨k, h1, h2, h3⟩
      rw [Nat.testBit_and, bm_bit, Bool.and_eq_true, Bool.and_eq_true] at h2
      exact ⟨k, h1, by simp [h2.1, h2.2.2, h3]⟩
    · rintro ⟨k, h1, h2⟩
      simp only [Bool.and_eq_true, decide_eq_true_eq] at h2
      refine ⟨k, h1, ?_, h2.2⟩
      rw [Nat.testBit_and, bm_bit]
      simp [h2.1.1, h2.1.2, h1]
  obtain ⟨r, p1, p2⟩ := pick_eq (g := hp_mk vv ww aa bb) (x0 := nI (bm_n (fun m => th m && R.testBit (th_top (th_all mi rc rf od) 64 (mi m))) 12)) (x1 := x)
  obtain ⟨r', p3, p4⟩ := pick_eq (g := hp_mk vv ww (up_a aa 142 f') bb) (x0 := nI (bm_n (fun m => th m && R.testBit (th_top (th_all mi rc rf od) 64 (mi m))) 12)) (x1 := x)
  have hrr : r' = r := by
    have gen : ∀ (fu k : Nat) (x2 : Int32) (y : Int32) (g g' : m_G) (a b : Int32), f_Mod_pick_4 fu g y x x2 (nI k) = some (a, g) → f_Mod_pick_4 fu g' y x x2 (nI k) = some (b, g') → a = b := by
      intro fu
      induction fu with
      | zero => intro k x2 y g g' a b h1; cases h1
      | succ fu ih =>
        intro k x2 y g g' a b h1 h2
        rw [f_Mod_pick_4] at h1 h2
        unfold f_Mod_pick_31 at h1 h2
        by_cases c1 : (12 : Int32) ≤ nI k
        · rw [if_pos c1] at h1 h2; cases h1; cases h2; rfl
        · rw [if_neg c1] at h1 h2
          rw [nI_1] at h1 h2
          by_cases c2 : y >>> (nI k &&& 31) &&& 1 = 0
          · rw [if_pos c2] at h1 h2; exact ih _ _ _ _ _ _ _ h1 h2
          · rw [if_neg c2] at h1 h2
            by_cases c3 : x2 = x
            · rw [if_pos c3] at h1 h2; cases h1; cases h2; rfl
            · rw [if_neg c3] at h1 h2; exact ih _ _ _ _ _ _ _ h1 h2
    exact gen m_fu 0 0 _ _ _ _ _ p4 p2
  subst hrr
  refine ⟨r', vv, ww, aa, bb, vv, ww, up_a aa 142 f', bb, ?_, ?_, _, _, _, _, _, _, _, _, _, _, _, _, _, _, _, _, _, _, _, inv_142 f' (by omega) hz⟩
  · have e1 := mA_there (vv := vv) (ww := ww) (aa := aa) (bb := bb) hX.2.2.1 hX.2.2.2 hz.2.2.2.2.1.1
    have e2 := rA_roots (vv := vv) (ww := ww) (aa := aa) (bb := bb) (mi := mi) hok hpar (fun m hm => ⟨(hA m hm).2.1, (hX.1 m hm).1⟩) hs
    rw [← hR] at e2
    have e3 := lA_rel (vv := vv) (ww := ww) (aa := aa) (bb := bb) (mi := mi) (th := th) (x1 := x) hok hpar (fun m hm => ⟨(hA m hm).1, (hA m hm).2.1, (hX.1 m hm).1⟩) hR64 m_fu 0 (by omega) (by unfold m_fu; omega)
    rw [p1, bd_s] at e3
    simp only [f_Arc_related, gi_0_8, ob_s, m1, is_0, gd_t, e1, bd_s, bi_and, e2]
    exact e3
  · have e3 := lM_rel (vv := vv) (ww := ww) (aa := up_a aa 142 f') (bb := bb) (mi := mi) (th := th) (x1 := x) hok (by rw [ua_s]; exact hf1) (fun m hm => ⟨by rw [ua_n (by omega)]; exact (hM m hm).1, by rw [ua_n (by omega)]; exact (hM m hm).2.1, (hX.1 m hm).1⟩) m3 m5 m_fu 0 (by omega) (by unfold m_fu; omega)
    rw [← hset, p4, bd_s] at e3
    simp only [f_Mod_related, is_126, gd_t, hf2, bd_s]
    exact e3
