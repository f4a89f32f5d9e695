/-! type, wipe, enter -/
section UPS
variable {vv : hp_V} {ww : hp_W} {aa : hp_V} {bb : hp_B}
theorem ua_s {i : Nat} {f : Nat → Int32} : up_a aa i f i = f := by simp [up_a]
theorem ua_n {i j : Nat} {f : Nat → Int32} (h : j ≠ i) : up_a aa i f j = aa j := by simp [up_a, h]
theorem ua_u {i : Nat} {f f' : Nat → Int32} : up_a (up_a aa i f) i f' = up_a aa i f' := by
  funext j; by_cases h : j = i <;> simp [up_a, h]
theorem ua_id {i : Nat} : up_a aa i (aa i) = aa := by
  funext j; by_cases h : j = i <;> simp [up_a, h]
theorem uv_s {i k : Nat} {x : Int32} : up_v vv i k x i k = x := by simp [up_v]
theorem uv_n {i k j q : Nat} {x : Int32} (h : j ≠ i ∨ q ≠ k) : up_v vv i k x j q = vv j q := by
  unfold up_v; rw [if_neg (fun z => h.elim (fun w => w z.1) (fun w => w z.2))]
theorem uv_i {i k j q : Nat} {x : Int32} (h : j ≠ i) : up_v vv i k x j q = vv j q := uv_n (Or.inl h)
theorem uv_u {i k : Nat} {x y : Int32} : up_v (up_v vv i k x) i k y = up_v vv i k y := by
  funext j q; by_cases h : j = i ∧ q = k <;> simp [up_v, h]
end UPS
theorem fit_c {c : Nat} (h : c < 256) : fits .char (.int (nI c)) = true := (pk_charN (by omega)).2
theorem nar_c {c : Nat} (h : c < 256) : vp_nar .char ((nI c).toUInt32 % 65536).toInt32 = nI c := by
  rw [pk_vc, pk_char, pk_tn (by omega)]
  congr 1
  omega
/-- what else holds is untouched by changes of THE LINE and THE DRAFT -/
theorem inv_ld {i j : Nat} {vv vv' : hp_V} {ww : hp_W} {aa aa' : hp_V} {bb : hp_B} {ln ln' : Nat} {lc lc' : Nat → Int32} {dn dn' : Nat} {DL DL' : Nat → Nat} {DC DC' : Nat → Nat → Int32} {th : Nat → Bool} {mi rc : Nat → Nat} {rf : Nat → Nat → Nat} {wc : Nat → Nat} {cd : Nat → Nat → Int64} {fl : Nat → Nat → Int32} {lv : Nat → Nat} {tg : Nat → Int32} {od : List Nat} {mo : Nat → Nat} {ad fd : Nat} {ep : Int32} (hij : i ≤ j) (h : Inv_z i vv ww aa bb ln lc dn DL DC th mi rc rf wc cd fl lv tg od mo ad fd ep)
    (hv : ∀ a k, (a = 0 ∨ 65 ≤ a) → (a = 126 → k ≠ 2) → vv' a k = vv a k) (ha : ∀ a, 69 ≤ a → a ≠ 127 → a ≠ 128 → aa' a = aa a)
    (c1 : rA_line vv' aa' ln' lc' ∧ rM_line aa' ln' lc' ∧ rX_line ln' lc') (c2 : rA_draft vv' aa' dn' DL' DC' ∧ rM_draft vv' aa' dn' DL' DC' ∧ rX_draft dn' DL' DC') (c3 : rA_chr aa') : Inv_z j vv' ww aa' bb ln' lc' dn' DL' DC' th mi rc rf wc cd fl lv tg od mo ad fd ep := by
  obtain ⟨a1, a2, a3, ⟨b1, b2, b3⟩, ⟨e1, e2, e3⟩, a6, ⟨d1, d2, d3⟩, a8, a9⟩ := h
  refine ⟨c1, c2, c3, ⟨cg_Amsg b1 (fun x k h1 h2 => hv x k (Or.inr (by omega)) (by omega)) (fun x h1 h2 => ha x (by omega) (by omega) (by omega)) (fun _ _ _ => rfl), cg_Mmsg b2 (fun x h1 h2 => ha x (by omega) (by omega) (by omega)) rfl, b3⟩, ⟨cg_Aord e1 (hv 0 7 (Or.inl rfl) (by omega)) (ha 125 (by omega) (by omega) (by omega)), cg_Mord e2 (hv 126 10 (Or.inr (by omega)) (by omega)) (ha 134 (by omega) (by omega) (by omega)), Nat.le_trans e3 hij⟩, cg_par a6 (ha 70 (by omega) (by omega) (by omega)), ⟨cg_Amis d1 (fun k => hv 0 k (Or.inl rfl) (by omega)), cg_Mmis d2 (hv 126 20 (Or.inr (by omega)) (by omega)) (hv 126 21 (Or.inr (by omega)) (by omega)), d3⟩, cg_Alet a8 rfl (hv 66 1 (Or.inr (by omega)) (by omega)), cg_Mlet a9 rfl (hv 126 27 (Or.inr (by omega)) (by omega))⟩
def In_s (j : Nat) (vv : hp_V) (ww : hp_W) (aa : hp_V) (bb : hp_B) : Prop := ∃ ln lc dn DL DC th mi rc rf wc cd fl lv tg od mo ad fd ep, Inv_z j vv ww aa bb ln lc dn DL DC th mi rc rf wc cd fl lv tg od mo ad fd ep
theorem op_do {α : Type} {i : Nat} {fA fM : m_G → Option (α × m_G)} (h : ∀ vv ww aa bb ln lc dn DL DC th mi rc rf wc cd fl lv tg od mo ad fd ep, Inv_z i vv ww aa bb ln lc dn DL DC th mi rc rf wc cd fl lv tg od mo ad fd ep → ∃ r v1 w1 a1 b1 v2 w2 a2 b2, fA (hp_mk vv ww aa bb) = some (r, hp_mk v1 w1 a1 b1) ∧ fM (hp_mk v1 w1 a1 b1) = some (r, hp_mk v2 w2 a2 b2) ∧ In_s (i + 4) v2 w2 a2 b2) : op_two (Inv_g i) (Inv_g (i + 4)) fA fM := by
  intro g hg
  obtain ⟨vv, ww, aa, bb, ln, lc, dn, DL, DC, th, mi, rc, rf, wc, cd, fl, lv, tg, od, mo, ad, fd, ep, rfl, hz⟩ := hg
  obtain ⟨r, v1, w1, a1, b1, v2, w2, a2, b2, h1, h2, ln, lc, dn, DL, DC, th, mi, rc, rf, wc, cd, fl, lv, tg, od, mo, ad, fd, ep, h3⟩ := h _ _ _ _ _ _ _ _ _ _ _ _ _ _ _ _ _ _ _ _ _ _ _ hz
  exact ⟨r, _, _, h1, is_126, h2, v2, w2, a2, b2, ln, lc, dn, DL, DC, th, mi, rc, rf, wc, cd, fl, lv, tg, od, mo, ad, fd, ep, rfl, h3⟩
theorem op_type (i : Nat) (x : Int32) : op_two (Inv_g i) (Inv_g (i + 4)) (fun g => f_Arc_type g 0 x) (fun g => f_Mod_type g 126 x) := by
  refine op_do (fun vv ww aa bb ln lc dn DL DC th mi rc rf wc cd fl lv tg od mo ad fd ep hz => ?_)
  have hz0 := hz
  obtain ⟨⟨⟨l1, l2⟩, ⟨l3, l4⟩, l5, l6⟩, ⟨⟨d1, d2⟩, ⟨d3, d4⟩, d5, d6⟩, hch, -⟩ := hz
  rcases pk_ix x (n := 256) (by omega) with hx | hx | ⟨c, hc, rfl⟩
  · refine ⟨-1, vv, ww, aa, bb, vv, ww, aa, bb, ?_, ?_, _, _, _, _, _, _, _, _, _, _, _, _, _, _, _, _, _, _, _, inv_mono (by omega) hz0⟩
    · show f_Arc_type _ _ _ = _
      unfold f_Arc_type; rw [if_pos hx]; rfl
    · show f_Mod_type _ _ _ = _
      unfold f_Mod_type; rw [mo_out, if_pos (Or.inl hx), bd_s, if_neg (by decide)]
  · have h0 : ¬ x < 256 := Int32.not_lt.mpr hx
    have h1 : ¬ x < 0 := fun q => h0 (Int32.lt_trans q (by decide))
    refine ⟨-1, vv, ww, aa, bb, vv, ww, aa, bb, ?_, ?_, _, _, _, _, _, _, _, _, _, _, _, _, _, _, _, _, _, _, _, inv_mono (by omega) hz0⟩
    · show f_Arc_type _ _ _ = _
      unfold f_Arc_type; rw [if_neg h1, if_neg h0]; rfl
    · show f_Mod_type _ _ _ = _
      unfold f_Mod_type; rw [mo_out, if_pos (show x < 0 ∨ (256 : Int32) ≤ x from Or.inr hx), bd_s, if_neg (by decide)]
  · have g1 : ¬ nI c < 0 := nI_pos (by omega)
    have g2 : nI c < 256 := nI_lt (b := 256) hc (by omega)
    have g3 : ¬ (nI c < 0 ∨ (256 : Int32) ≤ nI c) := fun q => q.elim g1 (nI_ge (b := 256) hc (by omega))
    by_cases hl : ln < 40
    · have e1 : f_Line_put (hp_mk vv ww aa bb) 1 (((nI c).toUInt32 % 65536).toInt32) = some (1, hp_mk (up_v vv 1 1 (nI (ln + 1))) ww (up_a aa 2 (upd (aa 2) ln (nI c))) bb) := by
        unfold f_Line_put
        rw [gI_mk (isI_L isL_1), ob_s, l1, if_pos (show nI ln < (40 : Int32) from nI_lt (b := 40) hl (by omega))]
        simp only [gR_mk (ref_L isL_1), ob_s, gI_mk (isI_L isL_1), l1, nar_c hc, st_n (sk_C (isL_C isL_1)) hl (by omega), pI_mk (isI_L isL_1), nI_1]
      refine ⟨nI (ln + 1), up_v vv 1 1 (nI (ln + 1)), ww, up_a aa 2 (upd (aa 2) ln (nI c)), bb, up_v vv 1 1 (nI (ln + 1)), ww, up_a (up_a (up_a aa 2 (upd (aa 2) ln (nI c))) 127 (upd (aa 127) (1200 + ln) (nI c))) 128 (upd (aa 128) 30 (nI (ln + 1))), bb, ?_, ?_, ln + 1, upd lc ln (nI c), dn, DL, DC, th, mi, rc, rf, wc, cd, fl, lv, tg, od, mo, ad, fd, ep, ?_⟩
      · show f_Arc_type _ _ _ = _
        unfold f_Arc_type
        rw [if_neg g1, if_pos g2]
        simp only [gr_0_0, ob_s, is_L isL_1, gd_t, e1, bd_s, gI_mk (isI_L isL_1), uv_s, f_Arc_type_37]
        rfl
      · show f_Mod_type _ _ _ = _
        unfold f_Mod_type
        rw [mo_out, if_neg g3, bd_s, if_pos rfl]
        have q1 : (1200 : Int32) + nI ln = nI (1200 + ln) := nI_add 1200 ln
        have q2 : ¬ nI ln = (40 : Int32) := fun q => by
          have := (nI_eq (a := ln) (b := 40) (by omega) (by omega)).mp q
          omega
        have k30 : ∀ {v : hp_V} {w : hp_W} {a : hp_V} {b : hp_B}, m_ld (hp_mk v w a b) 128 0 30 = some (a 128 30) := fun {v w a b} => ld_128 (k := 30) (by omega)
        have s30 : ∀ {v : hp_V} {w : hp_W} {a : hp_V} {b : hp_B} {y : Int32}, m_st (hp_mk v w a b) 128 0 30 y = some (hp_mk v w (up_a a 128 (upd (a 128) 30 y)) b) := fun {v w a b y} => st_128 (k := 30) (by omega)
        simp only [gr_126_1, ob_s, k30, ua_n (show 128 ≠ 2 by omega), l3, if_neg q2, gr_126_0, q1, st_127 (show 1200 + ln < 1240 by omega), ua_n (show 128 ≠ 127 by omega), ua_n (show 127 ≠ 2 by omega), nI_1, s30, ua_s]
        simp [upd]
      · refine inv_ld (by omega) hz0 (fun a k h1 h2 => uv_i (by omega)) (fun a h1 h2 h3 => by rw [ua_n h3, ua_n h2, ua_n (by omega)]) ⟨⟨uv_s, fun j hj => ?_⟩, ⟨?_, fun j hj => ?_⟩, by omega, fun j hj => ?_⟩ ⟨?_, ?_, d5, d6⟩ ?_
        · rw [ua_n (by omega), ua_n (by omega), ua_s]
          unfold upd
          by_cases hq : j = ln
          · simp [hq]
          · simp [hq, l2 j (by omega)]
        · rw [ua_s]; simp [upd]
        · rw [ua_n (by omega), ua_s]
          unfold upd
          by_cases hq : j = ln
          · simp [hq]
          · rw [if_neg (by omega), if_neg hq, l4 j (by omega)]
        · unfold upd
          by_cases hq : j = ln
          · exact ⟨c, hc, by simp [hq]⟩
          · rw [if_neg hq]; exact l6 j (by omega)
        · exact cg_Adraft ⟨d1, d2⟩ (uv_i (by omega)) (fun k hk => uv_i (by omega)) (fun k hk => by rw [ua_n (by omega), ua_n (by omega), ua_n (by omega)])
        · refine cg_Mdraft ⟨d3, d4⟩ (uv_i (by omega)) (fun k hk => ?_) (fun k hk j hj => ?_)
          · rw [ua_s, upd, if_neg (by omega)]
          · rw [ua_n (by omega), ua_s, upd, if_neg (by have := (d6 k hk).1; omega)]
        · intro q hq j hj
          by_cases h2 : q = 2
          · subst h2
            rw [ua_n (by omega), ua_n (by omega), ua_s]
            unfold upd
            by_cases hj2 : j = ln
            · rw [if_pos hj2]; exact fit_c hc
            · rw [if_neg hj2]; exact hch 2 hq j hj
          · have hq2 : q ≠ 127 ∧ q ≠ 128 := by
              simp only [hp_isC, Bool.or_eq_true, Bool.and_eq_true, beq_iff_eq, decide_eq_true_eq] at hq
              omega
            rw [ua_n hq2.2, ua_n hq2.1, ua_n h2]; exact hch q hq j hj
    · have hl : ln = 40 := by omega
      subst hl
      refine ⟨-2, vv, ww, aa, bb, vv, ww, aa, bb, ?_, ?_, _, _, _, _, _, _, _, _, _, _, _, _, _, _, _, _, _, _, _, inv_mono (by omega) hz0⟩
      · show f_Arc_type _ _ _ = _
        unfold f_Arc_type
        have e1 : f_Line_put (hp_mk vv ww aa bb) 1 (((nI c).toUInt32 % 65536).toInt32) = some (0, hp_mk vv ww aa bb) := by
          unfold f_Line_put
          rw [gI_mk (isI_L isL_1), ob_s, l1, if_neg (by decide)]
        rw [if_neg g1, if_pos g2]
        simp only [gr_0_0, ob_s, is_L isL_1, gd_t, e1, bd_s, f_Arc_type_37]
        rfl
      · show f_Mod_type _ _ _ = _
        unfold f_Mod_type
        have k30 : ∀ {v : hp_V} {w : hp_W} {a : hp_V} {b : hp_B}, m_ld (hp_mk v w a b) 128 0 30 = some (a 128 30) := fun {v w a b} => ld_128 (k := 30) (by omega)
        rw [mo_out, if_neg g3, bd_s, if_pos rfl]
        simp only [gr_126_1, ob_s, k30, l3]
        rfl
