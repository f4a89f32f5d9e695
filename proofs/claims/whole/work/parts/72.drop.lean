/-! drop -/
theorem getD_app {l : List Nat} {x : Nat} {j : Nat} : (l ++ [x]).getD j 0 = if j < l.length then l.getD j 0 else if j = l.length then x else 0 := by
  by_cases h : j < l.length
  · rw [if_pos h]; simp [List.getD_eq_getElem?_getD, List.getElem?_append_left h]
  · rw [if_neg h]
    by_cases e : j = l.length
    · subst e; simp
    · rw [if_neg e]
      simp only [List.getD_eq_getElem?_getD]
      rw [List.getElem?_eq_none (by simp; omega)]
      rfl
section DRP
variable {vv : hp_V} {ww : hp_W} {aa : hp_V} {bb : hp_B}
theorem dA_order {od : List Nat} {m : Nat} (hm : m < 12) (hlen : od.length ≤ 12) (h12 : ∀ a ∈ od, a < 12) (hl : vv 0 7 = nI od.length) : ∀ (fu i : Nat) (f : Nat → Int32), i ≤ od.length → od.length - i < fu → (∀ j, j < ((od.take i).filter (fun a => a != m)).length → f j = nI (((od.take i).filter (fun a => a != m)).getD j 0)) → (∀ j, i ≤ j → j < od.length → f j = nI (od.getD j 0)) →
    ∃ f', (∀ j, j < (od.filter (fun a => a != m)).length → f' j = nI ((od.filter (fun a => a != m)).getD j 0)) ∧ f_Arc_removeFromOrder_4 fu (hp_mk vv ww (up_a aa 125 f) bb) 0 (nI m) (nI ((od.take i).filter (fun a => a != m)).length) (nI i) = some ((), hp_mk (up_v vv 0 7 (nI (od.filter (fun a => a != m)).length)) ww (up_a aa 125 f') bb) := by
  intro fu
  induction fu with
  | zero => intro i f h1 h2; omega
  | succ fu ih =>
    intro i f h1 h2 h3 h4
    rw [f_Arc_removeFromOrder_4]
    unfold f_Arc_removeFromOrder_37
    simp only [gi_0_7, ob_s, hl]
    by_cases hi : i = od.length
    · subst hi
      rw [if_pos (nI_le (Nat.le_refl _) (by omega)), List.take_length]
      rw [List.take_length] at h3
      simp only [pi_0_7, ob_s]
      exact ⟨f, h3, rfl⟩
    · have hi2 : i < od.length := by omega
      rw [if_neg (nI_ge hi2 (by omega))]
      have ha : od.getD i 0 = od[i] := by simp [hi2]
      have ha12 : od[i] < 12 := h12 _ (List.getElem_mem hi2)
      have htk : od.take (i + 1) = od.take i ++ [od[i]] := (List.take_append_getElem hi2).symm
      have hkl : ((od.take i).filter (fun a => a != m)).length ≤ i := by
        have := List.length_filter_le (fun a => a != m) (od.take i)
        rw [List.length_take] at this
        omega
      have e1 : m_ld (hp_mk vv ww (up_a aa 125 f) bb) 125 0 (nI i) = some (nI od[i]) := by
        rw [ld_125 (by omega), ua_s, h4 i (Nat.le_refl _) hi2, ha]
      simp only [gr_0_6, ob_s, e1, nI_1]
      by_cases hc : od[i] = m
      · rw [if_pos (by rw [hc])]
        have hf : (od.take (i + 1)).filter (fun a => a != m) = (od.take i).filter (fun a => a != m) := by
          rw [htk, List.filter_append]; simp [hc]
        have := ih (i + 1) f (by omega) (by omega) (by rw [hf]; exact h3) (fun j h5 h6 => h4 j (by omega) h6)
        rw [hf] at this
        exact this
      · rw [if_neg (fun z => hc (nI_inj (by omega) (by omega) z))]
        have hf : (od.take (i + 1)).filter (fun a => a != m) = (od.take i).filter (fun a => a != m) ++ [od[i]] := by
          rw [htk, List.filter_append]; simp [hc]
        simp only [st_125 (show ((od.take i).filter (fun a => a != m)).length < 12 by omega), ob_s, ua_s, ua_u]
        have := ih (i + 1) (upd f ((od.take i).filter (fun a => a != m)).length (nI od[i])) (by omega) (by omega) (fun j hj => ?_) (fun j h5 h6 => by rw [upd_n (by omega)]; exact h4 j (by omega) h6)
        · rw [hf, List.length_append, List.length_singleton] at this
          exact this
        · rw [hf] at hj ⊢
          rw [getD_app]
          rw [List.length_append, List.length_singleton] at hj
          by_cases hq : j < ((od.take i).filter (fun a => a != m)).length
          · rw [if_pos hq, upd_n (by omega)]; exact h3 j hq
          · rw [if_neg hq, if_pos (by omega), show j = ((od.take i).filter (fun a => a != m)).length by omega, upd_s]
end DRP
theorem op_drop (i : Nat) (hi : i ≤ 2048) (x : Int32) : op_two (Inv_g i) (Inv_g (i + 4)) (fun g => f_Arc_drop g 0 x) (fun g => f_Mod_drop g 126 x) := by
  refine op_do (fun vv ww aa bb ln lc dn DL DC th mi rc rf wc cd fl lv tg od mo ad fd ep hz => ?_)
  have hz0 := hz
  obtain ⟨l0, d0, a3, ⟨hA, hM, hX⟩, ⟨o1, ⟨o2, o3, o4, o5, o6⟩, o7⟩, a6, ⟨m1, m2, m3⟩, a8, a9⟩ := hz
  have hsame : (fun g => f_Arc_drop g 0 x) (hp_mk vv ww aa bb) = some (-1, hp_mk vv ww aa bb) → (fun g => f_Mod_drop g 126 x) (hp_mk vv ww aa bb) = some (-1, hp_mk vv ww aa bb) → ∃ r v1 w1 a1 b1 v2 w2 a2 b2, (fun g => f_Arc_drop g 0 x) (hp_mk vv ww aa bb) = some (r, hp_mk v1 w1 a1 b1) ∧ (fun g => f_Mod_drop g 126 x) (hp_mk v1 w1 a1 b1) = some (r, hp_mk v2 w2 a2 b2) ∧ In_s (i + 4) v2 w2 a2 b2 := fun h1 h2 => ⟨-1, vv, ww, aa, bb, vv, ww, aa, bb, h1, h2, _, _, _, _, _, _, _, _, _, _, _, _, _, _, _, _, _, _, _, inv_mono (by omega) hz0⟩
  have hno : x < 0 ∨ (12 : Int32) ≤ x → (fun g => f_Arc_drop g 0 x) (hp_mk vv ww aa bb) = some (-1, hp_mk vv ww aa bb) ∧ (fun g => f_Mod_drop g 126 x) (hp_mk vv ww aa bb) = some (-1, hp_mk vv ww aa bb) := fun hx => ⟨by
    simp only [f_Arc_drop, is_0, gd_t, ar_msgAt_no hx, bd_s], by
    simp only [f_Mod_drop, is_126, gd_t, mo_noM_no hx, bd_s]; rfl⟩
  rcases pk_ix x (n := 12) (by omega) with hx | hx | ⟨m, hm, rfl⟩
  · exact hsame (hno (Or.inl hx)).1 (hno (Or.inl hx)).2
  · exact hsame (hno (Or.inr hx)).1 (hno (Or.inr hx)).2
  · obtain ⟨A1, A2, A3, A4, A5, A6, A7, A8⟩ := hA m hm
    obtain ⟨M1, M2, M3, M4, M5, M6, M7, M8⟩ := hM m hm
    cases hth : th m with
    | false =>
      rw [hth] at A1 M1
      refine hsame ?_ ?_
      · simp only [f_Arc_drop, is_0, gd_t, ar_msgAt hm A1, bd_s]; rfl
      · simp only [f_Mod_drop, is_126, gd_t, mo_noM hm M1, bd_s]; rfl
    | true =>
      rw [hth] at A1 M1
      have hlen := od_len hX.2.2.1 hX.2.2.2
      obtain ⟨od', hod⟩ : ∃ od', od' = od.filter (fun a => a != m) := ⟨_, rfl⟩
      have hmem : ∀ a, a ∈ od' ↔ a < 12 ∧ va_up th m false a = true := fun a => by
        rw [hod, List.mem_filter, hX.2.2.2 a]
        unfold va_up
        by_cases e : a = m
        · simp [e]
        · simp [e]
      have hsub : od'.Sublist od := by rw [hod]; exact List.filter_sublist
      have hlen' : od'.length ≤ 12 := Nat.le_trans hsub.length_le hlen
      obtain ⟨f1, hf1, hf2⟩ := dA_order (vv := up_v vv (77 + 4 * m) 3 0) (ww := ww) (aa := aa) (bb := bb) (od := od) (m := m) hm hlen (fun a ha => ((hX.2.2.2 a).mp ha).1) (by rw [uv_i (by omega)]; exact o1.1) m_fu 0 (aa 125) (by omega) (by unfold m_fu; omega) (fun j hj => by simp at hj) (fun j _ hj => o1.2 j hj)
      rw [ua_id] at hf2
      rw [← hod] at hf1 hf2
      have hf2' : f_Arc_removeFromOrder (hp_mk (up_v vv (77 + 4 * m) 3 0) ww aa bb) 0 (nI m) = some ((), hp_mk (up_v (up_v vv (77 + 4 * m) 3 0) 0 7 (nI od'.length)) ww (up_a aa 125 f1) bb) := hf2
      obtain ⟨f2, hf3, hf4⟩ := tA_rejoin (vv := up_v (up_v vv (77 + 4 * m) 3 0) 0 7 (nI od'.length)) (ww := ww) (aa := up_a aa 125 f1) (bb := bb) (mi := mi) (rc := rc) (rf := rf) (od := od') (fun a ha => by
        have ha12 := ((hmem a).mp ha).1
        obtain ⟨x1, x2, x3, -⟩ := hX.1 a ha12
        obtain ⟨B1, B2, B3, B4, B5, B6, B7, B8⟩ := hA a ha12
        refine ⟨ha12, x1, x2, x3, ?_, ?_, fun j hj => ?_⟩
        · rw [uv_i (by omega), uv_n (Or.inr (by omega))]; exact B3
        · rw [uv_i (by omega), uv_n (Or.inr (by omega))]; exact B2
        · rw [ua_n (by omega)]; exact B7 j hj) (by rw [uv_s]) hlen' (fun k hk => by rw [ua_s]; exact hf1 k hk)
      refine ⟨0, up_v (up_v vv (77 + 4 * m) 3 0) 0 7 (nI od'.length), ww, up_a (up_a aa 125 f1) 70 f2, bb, up_v (up_v vv (77 + 4 * m) 3 0) 0 7 (nI od'.length), ww, up_a (up_a (up_a aa 125 f1) 70 f2) 132 (upd (aa 132) m 0), bb, ?_, ?_, ln, lc, dn, DL, DC, va_up th m false, mi, rc, rf, wc, cd, fl, lv, tg, od', mo, ad, fd, ep, ?_⟩
      · simp only [f_Arc_drop, is_0, gd_t, ar_msgAt hm A1, bd_s, if_true, pZ_mk (isI_m hm (k := 3) (by omega) (by omega)) (Or.inl rfl), ob_s, hf2', hf4]
      · have e1 : vp_nar .boolean 0 = 0 := by decide
        have M1' : (up_a (up_a aa 125 f1) 70 f2) 132 m = iB true := by rw [ua_n (by omega), ua_n (by omega)]; exact M1
        simp only [f_Mod_drop, is_126, gd_t, mo_noM hm M1', bd_s]
        simp only [Bool.not_true, show iB false = 0 from rfl, if_true, gr_126_7, ob_s, e1, st_132 hm, ua_n (show 132 ≠ 70 by omega), ua_n (show 132 ≠ 125 by omega)]
      · have hdn := d0.2.2.1
        refine ⟨⟨cg_Aline l0.1 (by rw [uv_i (by omega), uv_i (by omega)]) (by rw [ua_n (by omega), ua_n (by omega), ua_n (by omega)]), cg_Mline l0.2.1 (by rw [ua_n (by omega), ua_n (by omega), ua_n (by omega)]) (fun j hj => by rw [ua_n (by omega), ua_n (by omega), ua_n (by omega)]), l0.2.2⟩, ⟨cg_Adraft d0.1 (by rw [uv_i (by omega), uv_i (by omega)]) (fun k hk => by rw [uv_i (by omega), uv_i (by omega)]) (fun k hk => by rw [ua_n (by omega), ua_n (by omega), ua_n (by omega)]), cg_Mdraft d0.2.1 (by rw [uv_i (by omega), uv_i (by omega)]) (fun k hk => by rw [ua_n (by omega), ua_n (by omega), ua_n (by omega)]) (fun k hk j hj => by rw [ua_n (by omega), ua_n (by omega), ua_n (by omega)]), d0.2.2⟩, cg_chr a3 (fun q hq => by
          simp only [hp_isC, Bool.or_eq_true, Bool.and_eq_true, beq_iff_eq, decide_eq_true_eq] at hq
          rw [ua_n (by omega), ua_n (by omega), ua_n (by omega)]), ⟨fun a ha => ?_, fun a ha => ?_, ?_⟩, ⟨⟨?_, fun k hk => ?_⟩, ⟨?_, fun a ha => ?_, ?_, fun a ha => o5 a (hsub.subset ha), o6⟩, by omega⟩, ?_, ⟨⟨?_, ?_⟩, cg_Mmis m2 (by rw [uv_i (by omega), uv_i (by omega)]) (by rw [uv_i (by omega), uv_i (by omega)]), m3⟩, cg_Alet a8 rfl (by rw [uv_i (by omega), uv_i (by omega)]), cg_Mlet a9 rfl (by rw [uv_i (by omega), uv_i (by omega)])⟩
        · obtain ⟨B1, B2, B3, B4, B5, B6, B7, B8⟩ := hA a ha
          have hv : ∀ k, k ≠ 3 → up_v (up_v vv (77 + 4 * m) 3 0) 0 7 (nI od'.length) (77 + 4 * a) k = vv (77 + 4 * a) k := fun k hk => by rw [uv_i (by omega), uv_n (Or.inr hk)]
          have hq : ∀ y, 77 ≤ y → y < 125 → up_a (up_a (up_a aa 125 f1) 70 f2) 132 (upd (aa 132) m 0) y = aa y := fun y h1 h2 => by rw [ua_n (by omega), ua_n (by omega), ua_n (by omega)]
          rw [hv 4 (by omega), hv 5 (by omega), hv 6 (by omega), hv 7 (by omega), hv 8 (by omega), hq _ (by omega) (by omega), hq (77 + 4 * a + 3) (by omega) (by omega)]
          refine ⟨?_, B2, B3, B4, B5, B6, B7, B8⟩
          rw [uv_i (by omega)]
          unfold va_up
          by_cases e : a = m
          · rw [if_pos e, e, uv_s]; rfl
          · rw [if_neg e, uv_i (by omega)]; exact B1
        · obtain ⟨B1, B2, B3, B4, B5, B6, B7, B8⟩ := hM a ha
          have hq : ∀ y, 133 ≤ y → up_a (up_a (up_a aa 125 f1) 70 f2) 132 (upd (aa 132) m 0) y = aa y := fun y h1 => by rw [ua_n (by omega), ua_n (by omega), ua_n (by omega)]
          rw [hq 133 (by omega), hq 136 (by omega), hq 139 (by omega), hq 138 (by omega), hq 137 (by omega), hq 135 (by omega), hq 141 (by omega)]
          refine ⟨?_, B2, B3, B4, B5, B6, B7, B8⟩
          rw [ua_s]
          unfold upd va_up
          by_cases e : a = m
          · rw [if_pos e, if_pos e]; rfl
          · rw [if_neg e, if_neg e]; exact B1
        · refine ⟨hX.1, fun a b h1 h2 h3 h4 h5 => ?_, hX.2.2.1.sublist hsub, hmem⟩
          have hv : ∀ y, va_up th m false y = true → th y = true := fun y hy => by
            unfold va_up at hy
            by_cases e : y = m
            · rw [if_pos e] at hy; cases hy
            · rw [if_neg e] at hy; exact hy
          exact hX.2.1 a b h1 h2 (hv a h3) (hv b h4) h5
        · rw [uv_s]
        · rw [ua_n (by omega), ua_n (by omega), ua_s]; exact hf1 k hk
        · rw [uv_i (by omega), uv_i (by omega)]; exact o2
        · rw [ua_n (by omega), ua_n (by omega), ua_n (by omega)]; exact o3 a ha
        · exact o4.sublist hsub
        · intro q hq
          rw [ua_n (by omega), ua_s]; exact hf3 q hq
        · rw [uv_n (Or.inr (by omega)), uv_i (by omega)]; exact m1.1
        · rw [uv_n (Or.inr (by omega)), uv_i (by omega)]; exact m1.2
