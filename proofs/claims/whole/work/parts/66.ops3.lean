/-! wipe, enter, tag, word, field -/
theorem k_30 {v : hp_V} {w : hp_W} {a : hp_V} {b : hp_B} : m_ld (hp_mk v w a b) 128 0 30 = some (a 128 30) := ld_128 (k := 30) (by omega)
theorem s_30 {v : hp_V} {w : hp_W} {a : hp_V} {b : hp_B} {y : Int32} : m_st (hp_mk v w a b) 128 0 30 y = some (hp_mk v w (up_a a 128 (upd (a 128) 30 y)) b) := st_128 (k := 30) (by omega)
theorem upd_s {f : Nat → Int32} {k : Nat} {x : Int32} : upd f k x k = x := by simp [upd]
theorem upd_n {f : Nat → Int32} {k j : Nat} {x : Int32} (h : j ≠ k) : upd f k x j = f j := by simp [upd, h]
theorem ln_clear {vv : hp_V} {ww : hp_W} {aa : hp_V} {bb : hp_B} {i : Nat} (h : hp_isL i = true) : f_Line_clear (hp_mk vv ww aa bb) i = some ((), hp_mk (up_v vv i 1 0) ww aa bb) := by
  simp only [f_Line_clear, pI_mk (isI_L h), ob_s]
theorem op_wipe (i : Nat) : op_two (Inv_g i) (Inv_g (i + 4)) (fun g => f_Arc_wipe g 0) (fun g => f_Mod_wipe g 126) := by
  refine op_do (fun vv ww aa bb ln lc dn DL DC th mi rc rf wc cd fl lv tg od mo ad fd ep hz => ?_)
  have hz0 := hz
  obtain ⟨⟨⟨l1, l2⟩, ⟨l3, l4⟩, l5, l6⟩, ⟨⟨d1, d2⟩, ⟨d3, d4⟩, d5, d6⟩, hch, -⟩ := hz
  refine ⟨nI dn, up_v (up_v vv 1 1 0) 3 1 0, ww, aa, bb, up_v (up_v (up_v vv 1 1 0) 3 1 0) 126 2 0, ww, up_a aa 128 (upd (aa 128) 30 0), bb, ?_, ?_, 0, lc, 0, DL, DC, th, mi, rc, rf, wc, cd, fl, lv, tg, od, mo, ad, fd, ep, ?_⟩
  · simp only [f_Arc_wipe, gr_0_1, ob_s, gi_3_1, d1, gr_0_0, is_L isL_1, gd_t, ln_clear isL_1, bd_s, is_3, f_Draft_clear, pi_3_1]
  · simp only [f_Mod_wipe, gi_126_2, ob_s, pi_126_2, gr_126_1, s_30]
    rw [uv_i (by omega), uv_i (by omega), d3]
  · refine inv_ld (by omega) hz0 (fun a k h1 h2 => ?_) (fun a h1 h2 h3 => ua_n h3) ⟨⟨?_, fun j hj => absurd hj (by omega)⟩, ⟨?_, fun j hj => absurd hj (by omega)⟩, by omega, fun j hj => absurd hj (by omega)⟩ ⟨⟨?_, fun k hk => absurd hk (by omega)⟩, ⟨uv_s, fun k hk => absurd hk (by omega)⟩, by omega, fun k hk => absurd hk (by omega)⟩ (cg_chr hch (fun q hq => ua_n (by
      simp only [hp_isC, Bool.or_eq_true, Bool.and_eq_true, beq_iff_eq, decide_eq_true_eq] at hq
      omega)))
    · by_cases h126 : a = 126
      · rw [uv_n (Or.inr (h2 h126)), uv_i (by omega), uv_i (by omega)]
      · rw [uv_i h126, uv_i (by omega), uv_i (by omega)]
    · rw [uv_i (by omega), uv_i (by omega), uv_s]; rfl
    · rw [ua_s, upd_s]; rfl
    · rw [uv_i (by omega), uv_s]; rfl
/-- the reference's copying of THE LINE to the place of line dn: k characters are done -/
def cp_M (f : Nat → Int32) (dn k : Nat) : Nat → Int32 := fun p => if 40 * dn ≤ p ∧ p < 40 * dn + k then f (1200 + (p - 40 * dn)) else f p
theorem cp_M_0 {f : Nat → Int32} {dn : Nat} : cp_M f dn 0 = f := by
  funext p; unfold cp_M; rw [if_neg (by omega)]
theorem cp_M_s {f : Nat → Int32} {dn k : Nat} : upd (cp_M f dn k) (40 * dn + k) (f (1200 + k)) = cp_M f dn (k + 1) := by
  funext p; unfold upd cp_M
  by_cases h : p = 40 * dn + k
  · subst h; rw [if_pos rfl, if_pos (by omega)]; congr 1; omega
  · rw [if_neg h]
    by_cases h2 : 40 * dn ≤ p ∧ p < 40 * dn + k
    · rw [if_pos h2, if_pos (by omega)]
    · rw [if_neg h2, if_neg (by omega)]
theorem mo_at {vv : hp_V} {ww : hp_W} {aa : hp_V} {bb : hp_B} {l k : Nat} (h : 40 * l + k < 1240) : f_Mod_at (hp_mk vv ww aa bb) 126 (nI l) (nI k) = some (aa 127 (40 * l + k), hp_mk vv ww aa bb) := by
  have e : (40 : Int32) * nI l + nI k = nI (40 * l + k) := by
    rw [show (40 : Int32) = nI 40 from rfl, pk_mul, nI_add]
  simp only [f_Mod_at, gr_126_0, ob_s, e, ld_127 h]
theorem mo_enter {vv : hp_V} {ww : hp_W} {aa : hp_V} {bb : hp_B} {ln dn : Nat} (h1 : aa 128 30 = nI ln) (h2 : vv 126 2 = nI dn) (hl : ln ≤ 40) (hd : dn < 30) : ∀ (fu k : Nat), k ≤ ln → ln - k < fu → f_Mod_enter_14 fu (hp_mk vv ww (up_a aa 127 (cp_M (aa 127) dn k)) bb) 126 (nI k) = some (nI (dn + 1), hp_mk (up_v vv 126 2 (nI (dn + 1))) ww (up_a (up_a aa 127 (cp_M (aa 127) dn ln)) 128 (upd (upd (aa 128) dn (nI ln)) 30 0)) bb) := by
  intro fu
  induction fu with
  | zero => intro k h3 h4; omega
  | succ fu ih =>
    intro k h3 h4
    rw [f_Mod_enter_14]
    simp only [gr_126_1, ob_s, k_30, ua_n (show 128 ≠ 127 by omega), h1]
    by_cases hk : k = ln
    · subst hk
      rw [if_pos (nI_le (Nat.le_refl k) (by omega))]
      simp only [gi_126_2, ob_s, h2, st_128 (show dn < 31 by omega), gr_126_1, s_30, pi_126_2, ua_n (show 128 ≠ 127 by omega), ua_s, uv_s, nI_1, ua_u]
    · rw [if_neg (nI_ge (by omega) (by omega))]
      have e1 : (40 : Int32) * nI dn + nI k = nI (40 * dn + k) := by rw [show (40 : Int32) = nI 40 from rfl, pk_mul, nI_add]
      have e2 := mo_at (vv := vv) (ww := ww) (aa := up_a aa 127 (cp_M (aa 127) dn k)) (bb := bb) (l := 30) (k := k) (by omega)
      have e3 : (30 : Int32) = nI 30 := rfl
      have e4 : cp_M (aa 127) dn k (40 * 30 + k) = aa 127 (1200 + k) := by unfold cp_M; rw [if_neg (by omega)]
      simp only [gr_126_0, ob_s, gi_126_2, h2, is_126, gd_t, e3, e2, bd_s, e1, st_127 (show 40 * dn + k < 1240 by omega), ua_s, e4, ua_u, cp_M_s, nI_1]
      exact ih (k + 1) (by omega) (by omega)
theorem op_enter (i : Nat) : op_two (Inv_g i) (Inv_g (i + 4)) (fun g => f_Arc_enter g 0) (fun g => f_Mod_enter g 126) := by
  refine op_do (fun vv ww aa bb ln lc dn DL DC th mi rc rf wc cd fl lv tg od mo ad fd ep hz => ?_)
  have hz0 := hz
  obtain ⟨⟨⟨l1, l2⟩, ⟨l3, l4⟩, l5, l6⟩, ⟨⟨d1, d2⟩, ⟨d3, d4⟩, d5, d6⟩, hch, -⟩ := hz
  by_cases hd : dn < 30
  · have eC : f_Line_copyFrom (hp_mk vv ww aa bb) (5 + 2 * dn) (some 1) = some ((), hp_mk (up_v vv (5 + 2 * dn) 1 (nI ln)) ww (up_a aa (5 + 2 * dn + 1) (va_cpy (aa 2) (aa (5 + 2 * dn + 1)) 0 0 40)) bb) := by
      have c1 := cpy_mk (vv := vv) (ww := ww) (aa := aa) (bb := bb) (i := 2) (j := 5 + 2 * dn + 1) (sp := 0) (dp := 0) (k := 40) (sk_C rfl) (sk_C (isL_C (isL_d hd))) (by decide) (by decide) (by decide) (by decide) (by decide) (fun x hx => hch 2 rfl x hx)
      simp only [f_Line_copyFrom, ob_s, gR_mk (ref_L isL_1), gR_mk (ref_L (isL_d hd)), c1, gI_mk (isI_L isL_1), l1, pI_mk (isI_L (isL_d hd))]
      rfl
    refine ⟨nI (dn + 1), up_v (up_v (up_v vv (5 + 2 * dn) 1 (nI ln)) 3 1 (nI (dn + 1))) 1 1 0, ww, up_a aa (5 + 2 * dn + 1) (va_cpy (aa 2) (aa (5 + 2 * dn + 1)) 0 0 40), bb, up_v (up_v (up_v (up_v vv (5 + 2 * dn) 1 (nI ln)) 3 1 (nI (dn + 1))) 1 1 0) 126 2 (nI (dn + 1)), ww, up_a (up_a (up_a aa (5 + 2 * dn + 1) (va_cpy (aa 2) (aa (5 + 2 * dn + 1)) 0 0 40)) 127 (cp_M (aa 127) dn ln)) 128 (upd (upd (aa 128) dn (nI ln)) 30 0), bb, ?_, ?_, 0, lc, dn + 1, va_up DL dn ln, va_up DC dn lc, th, mi, rc, rf, wc, cd, fl, lv, tg, od, mo, ad, fd, ep, ?_⟩
    · have e1 : f_Draft_take (hp_mk vv ww aa bb) 3 (some 1) = some (1, hp_mk (up_v (up_v vv (5 + 2 * dn) 1 (nI ln)) 3 1 (nI (dn + 1))) ww (up_a aa (5 + 2 * dn + 1) (va_cpy (aa 2) (aa (5 + 2 * dn + 1)) 0 0 40)) bb) := by
        unfold f_Draft_take
        rw [gi_3_1, ob_s, d1, if_pos (show nI dn < (30 : Int32) from nI_lt (b := 30) hd (by omega))]
        simp only [gr_3_0, ob_s, gi_3_1, d1, ldR_4 hd, is_L (isL_d hd), gd_t, eC, bd_s, pi_3_1, uv_i (show 3 ≠ 5 + 2 * dn by omega), nI_1]
      simp only [f_Arc_enter, gr_0_1, gr_0_0, ob_s, is_3, gd_t, e1, bd_s, is_L isL_1, ln_clear isL_1, gi_3_1, uv_i (show 3 ≠ 1 by omega), uv_s]
      rfl
    · have e1 := mo_enter (vv := up_v (up_v (up_v vv (5 + 2 * dn) 1 (nI ln)) 3 1 (nI (dn + 1))) 1 1 0) (ww := ww) (aa := up_a aa (5 + 2 * dn + 1) (va_cpy (aa 2) (aa (5 + 2 * dn + 1)) 0 0 40)) (bb := bb) (ln := ln) (dn := dn) (by rw [ua_n (by omega)]; exact l3) (by rw [uv_i (by omega), uv_i (by omega), uv_i (by omega)]; exact d3) l5 hd m_fu 0 (Nat.zero_le _) (by unfold m_fu; omega)
      rw [ua_n (show 127 ≠ 5 + 2 * dn + 1 by omega), ua_n (show 128 ≠ 5 + 2 * dn + 1 by omega), cp_M_0] at e1
      have e2 : up_a (up_a aa (5 + 2 * dn + 1) (va_cpy (aa 2) (aa (5 + 2 * dn + 1)) 0 0 40)) 127 (aa 127) = up_a aa (5 + 2 * dn + 1) (va_cpy (aa 2) (aa (5 + 2 * dn + 1)) 0 0 40) := by
        have := ua_id (aa := up_a aa (5 + 2 * dn + 1) (va_cpy (aa 2) (aa (5 + 2 * dn + 1)) 0 0 40)) (i := 127)
        rw [ua_n (show 127 ≠ 5 + 2 * dn + 1 by omega)] at this
        exact this
      rw [e2] at e1
      have hne : ¬ nI dn = (30 : Int32) := fun q => by
        have := (nI_eq (a := dn) (b := 30) (by omega) (by omega)).mp q
        omega
      simp only [f_Mod_enter, gi_126_2, ob_s, uv_i (show 126 ≠ 1 by omega), uv_i (show 126 ≠ 3 by omega), uv_i (show 126 ≠ 5 + 2 * dn by omega), d3, if_neg hne]
      exact e1
    · refine inv_ld (by omega) hz0 (fun a k h1 h2 => ?_) (fun a h1 h2 h3 => by rw [ua_n h3, ua_n h2, ua_n (by omega)]) ⟨⟨?_, fun j hj => absurd hj (by omega)⟩, ⟨?_, fun j hj => absurd hj (by omega)⟩, by omega, fun j hj => absurd hj (by omega)⟩ ⟨⟨?_, fun k hk => ?_⟩, ⟨uv_s, fun k hk => ?_⟩, by omega, fun k hk => ?_⟩ ?_
      · by_cases h126 : a = 126
        · rw [uv_n (Or.inr (h2 h126)), uv_i (by omega), uv_i (by omega), uv_i (by omega)]
        · rw [uv_i h126, uv_i (by omega), uv_i (by omega), uv_i (by omega)]
      · rw [uv_i (by omega), uv_s]; rfl
      · rw [ua_s, upd_s]; rfl
      · rw [uv_i (by omega), uv_i (by omega), uv_s]
      · rw [uv_i (by omega), uv_i (by omega), uv_i (by omega), ua_n (by omega), ua_n (by omega)]
        by_cases hk2 : k = dn
        · subst hk2
          rw [uv_s, ua_s, va_up_self, va_up_self]
          refine ⟨rfl, fun j hj => ?_⟩
          rw [pk_cpy_in (by omega) (by omega)]
          simp [l2 j hj]
        · rw [uv_i (by omega), ua_n (by omega), va_up_ne _ _ hk2, va_up_ne _ _ hk2]
          exact d2 k (by omega)
      · rw [ua_s, ua_n (by omega), ua_s, upd_n (by omega)]
        by_cases hk2 : k = dn
        · subst hk2
          rw [upd_s, va_up_self, va_up_self]
          refine ⟨rfl, fun j hj => ?_⟩
          unfold cp_M
          rw [if_pos (by omega), show 1200 + (40 * k + j - 40 * k) = 1200 + j by omega, l4 j hj]
        · rw [upd_n hk2, va_up_ne _ _ hk2, va_up_ne _ _ hk2]
          refine ⟨(d4 k (by omega)).1, fun j hj => ?_⟩
          unfold cp_M
          have := (d6 k (by omega)).1
          rw [if_neg (by omega)]
          exact (d4 k (by omega)).2 j hj
      · by_cases hk2 : k = dn
        · subst hk2
          rw [va_up_self, va_up_self]
          exact ⟨l5, l6⟩
        · rw [va_up_ne _ _ hk2, va_up_ne _ _ hk2]
          exact d6 k (by omega)
      · intro q hq j hj
        have hq2 : q ≠ 127 ∧ q ≠ 128 := by
          simp only [hp_isC, Bool.or_eq_true, Bool.and_eq_true, beq_iff_eq, decide_eq_true_eq] at hq
          omega
        rw [ua_n hq2.2, ua_n hq2.1]
        by_cases h2 : q = 5 + 2 * dn + 1
        · rw [h2, ua_s, pk_cpy_in (by omega) (by omega)]
          exact hch 2 rfl _ (by omega)
        · rw [ua_n h2]; exact hch q hq j hj
  · have hd : dn = 30 := by omega
    subst hd
    refine ⟨-2, vv, ww, aa, bb, vv, ww, aa, bb, ?_, ?_, _, _, _, _, _, _, _, _, _, _, _, _, _, _, _, _, _, _, _, inv_mono (by omega) hz0⟩
    · have e1 : f_Draft_take (hp_mk vv ww aa bb) 3 (some 1) = some (0, hp_mk vv ww aa bb) := by
        unfold f_Draft_take
        rw [gi_3_1, ob_s, d1, if_neg (by decide)]
      simp only [f_Arc_enter, gr_0_1, gr_0_0, ob_s, is_3, gd_t, e1, bd_s]
      rfl
    · simp only [f_Mod_enter, gi_126_2, ob_s, d3]
      rfl
