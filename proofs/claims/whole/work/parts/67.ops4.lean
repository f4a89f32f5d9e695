/-! tag, word, field -/
section OP4
variable {vv : hp_V} {ww : hp_W} {aa : hp_V} {bb : hp_B}
theorem ms_hasWord {m n : Nat} {x : Int32} (hm : m < 12) (h : vv (77 + 4 * m) 6 = nI n) : f_Message_hasWord (hp_mk vv ww aa bb) (77 + 4 * m) x = some (if x < 0 ∨ nI n ≤ x then 0 else 1, hp_mk vv ww aa bb) := by
  unfold f_Message_hasWord f_Message_hasWord_16 f_Message_hasWord_17
  by_cases h1 : x < 0
  · simp [h1]
  · simp only [if_neg h1, gI_mk (isI_m hm (k := 6) (by omega) (by omega)), ob_s, h]
    by_cases h2 : nI n ≤ x
    · simp [h2]
    · simp [h1, h2]
end OP4
theorem op_word (i : Nat) (x y : Int32) : op_two (Inv_g i) (Inv_g (i + 4)) (fun g => f_Arc_word g 0 x y) (fun g => f_Mod_word g 126 x y) := by
  refine op_read (fun vv ww aa bb ln lc dn DL DC th mi rc rf wc cd fl lv tg od mo ad fd ep h => ?_)
  obtain ⟨a1, a2, a3, ⟨hA, hM, hX⟩, a5⟩ := h
  have hno : x < 0 ∨ (12 : Int32) ≤ x → ∃ r, (fun g => f_Arc_word g 0 x y) (hp_mk vv ww aa bb) = some (r, hp_mk vv ww aa bb) ∧ (fun g => f_Mod_word g 126 x y) (hp_mk vv ww aa bb) = some (r, hp_mk vv ww aa bb) := fun hx => ⟨-1, by
    simp only [f_Arc_word, is_0, gd_t, ar_msgAt_no hx, bd_s, f_Arc_word_18], by
    simp only [f_Mod_word, is_126, gd_t, mo_noM_no hx, bd_s, f_Mod_word_21, f_Mod_word_38]; rfl⟩
  rcases pk_ix x (n := 12) (by omega) with hx | hx | ⟨m, hm, rfl⟩
  · exact hno (Or.inl hx)
  · exact hno (Or.inr hx)
  · have hA := hA m hm
    have hM := hM m hm
    have hX := hX.1 m hm
    obtain ⟨A1, A2, A3, A4, A5, A6, A7, A8⟩ := hA
    obtain ⟨M1, M2, M3, M4, M5, M6, M7, M8⟩ := hM
    cases hth : th m with
    | false =>
      rw [hth] at A1 M1
      refine ⟨-1, ?_, ?_⟩
      · simp only [f_Arc_word, is_0, gd_t, ar_msgAt hm A1, bd_s, f_Arc_word_18]; rfl
      · simp only [f_Mod_word, is_126, gd_t, mo_noM hm M1, bd_s, f_Mod_word_21, f_Mod_word_38]; rfl
    | true =>
      rw [hth] at A1 M1
      have hc : y < 0 ∨ nI (wc m) ≤ y → ∃ r, (fun g => f_Arc_word g 0 (nI m) y) (hp_mk vv ww aa bb) = some (r, hp_mk vv ww aa bb) ∧ (fun g => f_Mod_word g 126 (nI m) y) (hp_mk vv ww aa bb) = some (r, hp_mk vv ww aa bb) := fun hy => ⟨-1, by
        simp only [f_Arc_word, is_0, gd_t, ar_msgAt hm A1, bd_s, f_Arc_word_18]
        simp only [if_true, is_m hm, gd_t, ms_hasWord hm A4, bd_s, if_pos hy], by
        simp only [f_Mod_word, is_126, gd_t, mo_noM hm M1, bd_s, f_Mod_word_21, f_Mod_word_38]
        simp only [Bool.not_true, show iB false = 0 from rfl, if_true, gr_126_15, ob_s, ld_139 hm, M4, mo_out, if_pos hy, bd_s]
        rfl⟩
      rcases pk_ix y (n := wc m) (by omega) with hy | hy | ⟨k, hk, rfl⟩
      · exact hc (Or.inl hy)
      · exact hc (Or.inr hy)
      · have hy : ¬ (nI k < 0 ∨ nI (wc m) ≤ nI k) := fun q => q.elim (nI_pos (by omega)) (nI_ge hk (by omega))
        refine ⟨cd m k, ?_, ?_⟩
        · simp only [f_Arc_word, is_0, gd_t, ar_msgAt hm A1, bd_s, f_Arc_word_18]
          simp only [if_true, is_m hm, gd_t, ms_hasWord hm A4, bd_s, if_neg hy, gR_mk (ref_m hm (k := 1) (by omega)), ob_s, ldL_n (sk_m2 hm) (show k < 50 by omega) (by omega), (A8 k hk).1]
          rfl
        · have e : (50 : Int32) * nI m + nI k = nI (50 * m + k) := by rw [show (50 : Int32) = nI 50 from rfl, pk_mul, nI_add]
          simp only [f_Mod_word, is_126, gd_t, mo_noM hm M1, bd_s, f_Mod_word_21, f_Mod_word_38]
          simp only [Bool.not_true, show iB false = 0 from rfl, if_true, gr_126_15, ob_s, ld_139 hm, M4, mo_out, if_neg hy, bd_s, gr_126_16, e, ld_140 (show 50 * m + k < 600 by omega), (M8 k hk).1]
theorem op_field (i : Nat) (x y : Int32) : op_two (Inv_g i) (Inv_g (i + 4)) (fun g => f_Arc_field g 0 x y) (fun g => f_Mod_field g 126 x y) := by
  refine op_read (fun vv ww aa bb ln lc dn DL DC th mi rc rf wc cd fl lv tg od mo ad fd ep h => ?_)
  obtain ⟨a1, a2, a3, ⟨hA, hM, hX⟩, a5⟩ := h
  have hno : x < 0 ∨ (12 : Int32) ≤ x → ∃ r, (fun g => f_Arc_field g 0 x y) (hp_mk vv ww aa bb) = some (r, hp_mk vv ww aa bb) ∧ (fun g => f_Mod_field g 126 x y) (hp_mk vv ww aa bb) = some (r, hp_mk vv ww aa bb) := fun hx => ⟨-1, by
    simp only [f_Arc_field, is_0, gd_t, ar_msgAt_no hx, bd_s, f_Arc_field_18], by
    simp only [f_Mod_field, is_126, gd_t, mo_noM_no hx, bd_s, f_Mod_field_21, f_Mod_field_36]; rfl⟩
  rcases pk_ix x (n := 12) (by omega) with hx | hx | ⟨m, hm, rfl⟩
  · exact hno (Or.inl hx)
  · exact hno (Or.inr hx)
  · have hA := hA m hm
    have hM := hM m hm
    have hX := hX.1 m hm
    obtain ⟨A1, A2, A3, A4, A5, A6, A7, A8⟩ := hA
    obtain ⟨M1, M2, M3, M4, M5, M6, M7, M8⟩ := hM
    cases hth : th m with
    | false =>
      rw [hth] at A1 M1
      refine ⟨-1, ?_, ?_⟩
      · simp only [f_Arc_field, is_0, gd_t, ar_msgAt hm A1, bd_s, f_Arc_field_18]; rfl
      · simp only [f_Mod_field, is_126, gd_t, mo_noM hm M1, bd_s, f_Mod_field_21, f_Mod_field_36]; rfl
    | true =>
      rw [hth] at A1 M1
      have hc : y < 0 ∨ nI (wc m) ≤ y → ∃ r, (fun g => f_Arc_field g 0 (nI m) y) (hp_mk vv ww aa bb) = some (r, hp_mk vv ww aa bb) ∧ (fun g => f_Mod_field g 126 (nI m) y) (hp_mk vv ww aa bb) = some (r, hp_mk vv ww aa bb) := fun hy => ⟨-1, by
        simp only [f_Arc_field, is_0, gd_t, ar_msgAt hm A1, bd_s, f_Arc_field_18]
        simp only [if_true, is_m hm, gd_t, ms_hasWord hm A4, bd_s, if_pos hy], by
        simp only [f_Mod_field, is_126, gd_t, mo_noM hm M1, bd_s, f_Mod_field_21, f_Mod_field_36]
        simp only [Bool.not_true, show iB false = 0 from rfl, if_true, gr_126_15, ob_s, ld_139 hm, M4, mo_out, if_pos hy, bd_s]
        rfl⟩
      rcases pk_ix y (n := wc m) (by omega) with hy | hy | ⟨k, hk, rfl⟩
      · exact hc (Or.inl hy)
      · exact hc (Or.inr hy)
      · have hy : ¬ (nI k < 0 ∨ nI (wc m) ≤ nI k) := fun q => q.elim (nI_pos (by omega)) (nI_ge hk (by omega))
        refine ⟨fl m k, ?_, ?_⟩
        · simp only [f_Arc_field, is_0, gd_t, ar_msgAt hm A1, bd_s, f_Arc_field_18]
          simp only [if_true, is_m hm, gd_t, ms_hasWord hm A4, bd_s, if_neg hy, gR_mk (ref_m hm (k := 2) (by omega)), ob_s, ld_n (sk_m3 hm) (show k < 50 by omega) (by omega), (A8 k hk).2]
          rfl
        · have e : (50 : Int32) * nI m + nI k = nI (50 * m + k) := by rw [show (50 : Int32) = nI 50 from rfl, pk_mul, nI_add]
          simp only [f_Mod_field, is_126, gd_t, mo_noM hm M1, bd_s, f_Mod_field_21, f_Mod_field_36]
          simp only [Bool.not_true, show iB false = 0 from rfl, if_true, gr_126_15, ob_s, ld_139 hm, M4, mo_out, if_neg hy, bd_s, gr_126_17, e, ld_141 (show 50 * m + k < 600 by omega), (M8 k hk).2]
theorem op_tag (i : Nat) (x y z : Int32) (hzz : z = 0 ∨ z = 1) : op_two (Inv_g i) (Inv_g (i + 4)) (fun g => f_Arc_tag g 0 x y z) (fun g => f_Mod_tag g 126 x y z) := by
  refine op_do (fun vv ww aa bb ln lc dn DL DC th mi rc rf wc cd fl lv tg od mo ad fd ep hz => ?_)
  have hz0 := hz
  obtain ⟨a1, a2, a3, ⟨hA, hM, hX⟩, ⟨o1, o2, o3⟩, a6, ⟨m1, m2, m3⟩, a8, a9⟩ := hz
  have hno : (fun g => f_Arc_tag g 0 x y z) (hp_mk vv ww aa bb) = some (-1, hp_mk vv ww aa bb) → (fun g => f_Mod_tag g 126 x y z) (hp_mk vv ww aa bb) = some (-1, hp_mk vv ww aa bb) → ∃ r v1 w1 a1 b1 v2 w2 a2 b2, (fun g => f_Arc_tag g 0 x y z) (hp_mk vv ww aa bb) = some (r, hp_mk v1 w1 a1 b1) ∧ (fun g => f_Mod_tag g 126 x y z) (hp_mk v1 w1 a1 b1) = some (r, hp_mk v2 w2 a2 b2) ∧ In_s (i + 4) v2 w2 a2 b2 := fun h1 h2 => ⟨-1, vv, ww, aa, bb, vv, ww, aa, bb, h1, h2, _, _, _, _, _, _, _, _, _, _, _, _, _, _, _, _, _, _, _, inv_mono (by omega) hz0⟩
  have hnx : x < 0 ∨ (12 : Int32) ≤ x → (fun g => f_Arc_tag g 0 x y z) (hp_mk vv ww aa bb) = some (-1, hp_mk vv ww aa bb) ∧ (fun g => f_Mod_tag g 126 x y z) (hp_mk vv ww aa bb) = some (-1, hp_mk vv ww aa bb) := fun hx => ⟨by
    simp only [f_Arc_tag, is_0, gd_t, ar_msgAt_no hx, bd_s, f_Arc_tag_22], by
    simp only [f_Mod_tag, is_126, gd_t, mo_noM_no hx, bd_s, f_Mod_tag_17]; rfl⟩
  rcases pk_ix x (n := 12) (by omega) with hx | hx | ⟨m, hm, rfl⟩
  · exact hno (hnx (Or.inl hx)).1 (hnx (Or.inl hx)).2
  · exact hno (hnx (Or.inr hx)).1 (hnx (Or.inr hx)).2
  · obtain ⟨A1, A2, A3, A4, A5, A6, A7, A8⟩ := hA m hm
    obtain ⟨M1, M2, M3, M4, M5, M6, M7, M8⟩ := hM m hm
    cases hth : th m with
    | false =>
      rw [hth] at A1 M1
      refine hno ?_ ?_
      · simp only [f_Arc_tag, is_0, gd_t, ar_msgAt hm A1, bd_s, f_Arc_tag_22]; rfl
      · simp only [f_Mod_tag, is_126, gd_t, mo_noM hm M1, bd_s, f_Mod_tag_17]; rfl
    | true =>
      rw [hth] at A1 M1
      by_cases hy : y < 0 ∨ (8 : Int32) ≤ y
      · refine hno ?_ ?_
        · simp only [f_Arc_tag, is_0, gd_t, ar_msgAt hm A1, bd_s, f_Arc_tag_22, if_true]
          by_cases h1 : y < 0
          · rw [if_pos h1]
          · rw [if_neg h1, if_neg (Int32.not_lt.mpr (hy.resolve_left h1))]
        · simp only [f_Mod_tag, is_126, gd_t, mo_noM hm M1, bd_s, f_Mod_tag_17]
          simp only [Bool.not_true, show iB false = 0 from rfl, if_true, mo_out, if_pos hy, bd_s]
          rfl
      · have hy1 : ¬ y < 0 := fun q => hy (Or.inl q)
        have hy2 : y < 8 := Int32.not_le.mp (fun q => hy (Or.inr q))
        obtain ⟨t, ht⟩ : ∃ t : Int32, t = (if z = 0 then tg m &&& ((1 <<< (y &&& 31)) ^^^ (-1)) else tg m ||| (1 <<< (y &&& 31))) := ⟨_, rfl⟩
        have eT : f_Message_setTag (hp_mk vv ww aa bb) (77 + 4 * m) y z = some ((), hp_mk (up_v vv (77 + 4 * m) 8 t) ww aa bb) := by
          unfold f_Message_setTag f_Message_setTag_26
          by_cases hq : z = 0
          · rw [if_pos hq] at ht ⊢
            simp only [gI_mk (isI_m hm (k := 8) (by omega) (by omega)), ob_s, A6, pI_mk (isI_m hm (k := 8) (by omega) (by omega)), ht]
          · rw [if_neg hq] at ht ⊢
            simp only [gI_mk (isI_m hm (k := 8) (by omega) (by omega)), ob_s, A6, pI_mk (isI_m hm (k := 8) (by omega) (by omega)), ht]
        refine ⟨0, up_v vv (77 + 4 * m) 8 t, ww, aa, bb, up_v vv (77 + 4 * m) 8 t, ww, up_a aa 137 (upd (aa 137) m t), bb, ?_, ?_, ln, lc, dn, DL, DC, th, mi, rc, rf, wc, cd, fl, lv, va_up tg m t, od, mo, ad, fd, ep, ?_⟩
        · simp only [f_Arc_tag, is_0, gd_t, ar_msgAt hm A1, bd_s, f_Arc_tag_22, if_true]
          rw [if_neg hy1, if_pos hy2]
          simp only [is_m hm, gd_t, eT, bd_s]
        · simp only [f_Mod_tag, is_126, gd_t, mo_noM hm M1, bd_s, f_Mod_tag_17]
          simp only [Bool.not_true, show iB false = 0 from rfl, if_true, mo_out, if_neg hy, bd_s, gr_126_13, ob_s, ld_137 hm, M6, f_Mod_tag_53, st_137 hm]
          by_cases hq : z = 0
          · rw [if_pos hq] at ht ⊢; rw [ht]
          · rw [if_neg hq] at ht ⊢; rw [ht]
        · refine ⟨⟨cg_Aline a1.1 (uv_i (by omega)) (ua_n (by omega)), cg_Mline a1.2.1 (by rw [ua_n (by omega)]) (fun j hj => by rw [ua_n (by omega)]), a1.2.2⟩, ⟨cg_Adraft a2.1 (uv_i (by omega)) (fun k hk => uv_i (by have := a2.2.2.1; omega)) (fun k hk => ua_n (by have := a2.2.2.1; omega)), cg_Mdraft a2.2.1 (uv_i (by omega)) (fun k hk => by rw [ua_n (by omega)]) (fun k hk j hj => by rw [ua_n (by omega)]), a2.2.2⟩, cg_chr a3 (fun q hq => ua_n (by
            simp only [hp_isC, Bool.or_eq_true, Bool.and_eq_true, beq_iff_eq, decide_eq_true_eq] at hq
            omega)), ⟨fun a ha => ?_, fun a ha => ?_, hX⟩, ⟨cg_Aord o1 (uv_i (by omega)) (ua_n (by omega)), cg_Mord o2 (uv_i (by omega)) (ua_n (by omega)), by omega⟩, cg_par a6 (ua_n (by omega)), ⟨cg_Amis m1 (fun k => uv_i (by omega)), cg_Mmis m2 (uv_i (by omega)) (uv_i (by omega)), m3⟩, cg_Alet a8 rfl (uv_i (by omega)), cg_Mlet a9 rfl (uv_i (by omega))⟩
          · have h := hA a ha
            rw [uv_n (Or.inr (by omega)), uv_n (Or.inr (by omega)), uv_n (Or.inr (by omega)), uv_n (Or.inr (by omega)), uv_n (Or.inr (by omega)), ua_n (by omega), ua_n (by omega)]
            by_cases hq : a = m
            · subst hq
              rw [uv_s, va_up_self]
              exact ⟨h.1, h.2.1, h.2.2.1, h.2.2.2.1, h.2.2.2.2.1, rfl, h.2.2.2.2.2.2⟩
            · rw [uv_i (by omega), va_up_ne _ _ hq]
              exact h
          · have h := hM a ha
            rw [ua_n (by omega), ua_n (by omega), ua_n (by omega), ua_n (by omega), ua_n (by omega), ua_s, ua_n (by omega), ua_n (by omega)]
            by_cases hq : a = m
            · subst hq
              rw [upd_s, va_up_self]
              exact ⟨h.1, h.2.1, h.2.2.1, h.2.2.2.1, h.2.2.2.2.1, rfl, h.2.2.2.2.2.2⟩
            · rw [upd_n hq, va_up_ne _ _ hq]
              exact h
