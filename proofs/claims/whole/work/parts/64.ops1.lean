/-! the small calls -/
theorem iB_0 {b : Bool} : iB b = 0 ↔ b = false := by cases b <;> simp [iB]
theorem inv_mono {i j : Nat} {vv : hp_V} {ww : hp_W} {aa : hp_V} {bb : hp_B} {ln : Nat} {lc : Nat → Int32} {dn : Nat} {DL : Nat → Nat} {DC : Nat → Nat → Int32} {th : Nat → Bool} {mi rc : Nat → Nat} {rf : Nat → Nat → Nat} {wc : Nat → Nat} {cd : Nat → Nat → Int64} {fl : Nat → Nat → Int32} {lv : Nat → Nat} {tg : Nat → Int32} {od : List Nat} {mo : Nat → Nat} {ad fd : Nat} {ep : Int32} (hij : i ≤ j) (h : Inv_z i vv ww aa bb ln lc dn DL DC th mi rc rf wc cd fl lv tg od mo ad fd ep) : Inv_z j vv ww aa bb ln lc dn DL DC th mi rc rf wc cd fl lv tg od mo ad fd ep := by
  obtain ⟨a1, a2, a3, a4, ⟨b1, b2, b3⟩, a6⟩ := h
  exact ⟨a1, a2, a3, a4, ⟨b1, b2, Nat.le_trans b3 hij⟩, a6⟩
/-- a call that changes nothing -/
theorem op_read {α : Type} {i : Nat} {fA fM : m_G → Option (α × m_G)} (h : ∀ vv ww aa bb ln lc dn DL DC th mi rc rf wc cd fl lv tg od mo ad fd ep, Inv_z i vv ww aa bb ln lc dn DL DC th mi rc rf wc cd fl lv tg od mo ad fd ep → ∃ r, fA (hp_mk vv ww aa bb) = some (r, hp_mk vv ww aa bb) ∧ fM (hp_mk vv ww aa bb) = some (r, hp_mk vv ww aa bb)) : op_two (Inv_g i) (Inv_g (i + 4)) fA fM := by
  intro g hg
  obtain ⟨vv, ww, aa, bb, ln, lc, dn, DL, DC, th, mi, rc, rf, wc, cd, fl, lv, tg, od, mo, ad, fd, ep, rfl, hz⟩ := hg
  obtain ⟨r, h1, h2⟩ := h _ _ _ _ _ _ _ _ _ _ _ _ _ _ _ _ _ _ _ _ _ _ _ hz
  exact ⟨r, _, _, h1, is_126, h2, vv, ww, aa, bb, ln, lc, dn, DL, DC, th, mi, rc, rf, wc, cd, fl, lv, tg, od, mo, ad, fd, ep, rfl, inv_mono (by omega) hz⟩
theorem op_errorAt (i : Nat) : op_two (Inv_g i) (Inv_g (i + 4)) (fun g => f_Arc_errorAt g 0) (fun g => f_Mod_errorAt g 126) := by
  refine op_read (fun vv ww aa bb ln lc dn DL DC th mi rc rf wc cd fl lv tg od mo ad fd ep h => ⟨ep, ?_, ?_⟩)
  · obtain ⟨a1, a2, a3, a4, a5, a6, ⟨⟨b1, b2⟩, b3, b4⟩, a8, a9⟩ := h
    simp only [f_Arc_errorAt, gi_0_9, ob_s, b2]
  · obtain ⟨a1, a2, a3, a4, a5, a6, ⟨b0, ⟨b1, b2⟩, b4⟩, a8, a9⟩ := h
    simp only [f_Mod_errorAt, gi_126_21, ob_s, b2]
section OPS
variable {vv : hp_V} {ww : hp_W} {aa : hp_V} {bb : hp_B}
theorem ar_msgAt_no {x : Int32} (h : x < 0 ∨ (12 : Int32) ≤ x) : f_Arc_messageAt (hp_mk vv ww aa bb) 0 x = some (none, hp_mk vv ww aa bb) := by
  unfold f_Arc_messageAt
  by_cases h1 : x < 0
  · rw [if_pos h1]; rfl
  · rw [if_neg h1, if_pos (h.resolve_left h1)]; rfl
theorem ar_msgAt {m : Nat} {b : Bool} (hm : m < 12) (h : vv (77 + 4 * m) 3 = iB b) : f_Arc_messageAt (hp_mk vv ww aa bb) 0 (nI m) = some (if b = true then some (77 + 4 * m) else none, hp_mk vv ww aa bb) := by
  unfold f_Arc_messageAt
  rw [if_neg (nI_pos (by omega)), if_neg (show ¬ (12 : Int32) ≤ nI m from nI_ge (b := 12) hm (by omega))]
  simp only [gr_0_5, ob_s, ldR_76 hm, gI_mk (isI_m hm (k := 3) (by omega) (by omega)), h]
  cases b
  · simp [iB, f_Arc_messageAt_22]
  · simp [iB]
theorem mo_out {g : m_G} {x y : Int32} : f_Mod_out g x y = some (if x < 0 ∨ y ≤ x then 1 else 0, g) := by
  unfold f_Mod_out f_Mod_out_9 f_Mod_out_14
  by_cases h1 : x < 0
  · simp [h1]
  · by_cases h2 : x < y
    · have h3 : ¬ y ≤ x := Int32.not_le.mpr h2
      simp [h1, h2, h3]
    · have h3 : y ≤ x := Int32.not_lt.mp h2
      simp [h1, h2, h3]
theorem mo_noM_no {x : Int32} (h : x < 0 ∨ (12 : Int32) ≤ x) : f_Mod_noMessage (hp_mk vv ww aa bb) 126 x = some (1, hp_mk vv ww aa bb) := by
  unfold f_Mod_noMessage
  rw [mo_out, if_pos h, bd_s, if_neg (by decide)]
  rfl
theorem mo_noM {m : Nat} {b : Bool} (hm : m < 12) (h : aa 132 m = iB b) : f_Mod_noMessage (hp_mk vv ww aa bb) 126 (nI m) = some (iB (!b), hp_mk vv ww aa bb) := by
  unfold f_Mod_noMessage
  rw [mo_out, if_neg (show ¬ (nI m < 0 ∨ (12 : Int32) ≤ nI m) from fun q => q.elim (nI_pos (n := m) (by omega)) (nI_ge (a := m) (b := 12) hm (by omega))), bd_s, if_pos rfl]
  simp only [gr_126_7, ob_s, ld_132 hm, h]
  cases b <;> simp [iB, f_Mod_noMessage_18, f_Mod_noMessage_23]
end OPS
theorem op_idOf (i : Nat) (x : Int32) : op_two (Inv_g i) (Inv_g (i + 4)) (fun g => f_Arc_idOf g 0 x) (fun g => f_Mod_idOf g 126 x) := by
  refine op_read (fun vv ww aa bb ln lc dn DL DC th mi rc rf wc cd fl lv tg od mo ad fd ep h => ?_)
  obtain ⟨a1, a2, a3, ⟨hA, hM, hX⟩, a5⟩ := h
  rcases pk_ix x (n := 12) (by omega) with hx | hx | ⟨m, hm, rfl⟩
  · refine ⟨-1, ?_, ?_⟩
    · simp only [f_Arc_idOf, is_0, gd_t, ar_msgAt_no (Or.inl hx), bd_s, f_Arc_idOf_18]
    · simp only [f_Mod_idOf, is_126, gd_t, mo_noM_no (Or.inl hx), bd_s, f_Mod_idOf_18]; rfl
  · refine ⟨-1, ?_, ?_⟩
    · simp only [f_Arc_idOf, is_0, gd_t, ar_msgAt_no (Or.inr hx), bd_s, f_Arc_idOf_18]
    · simp only [f_Mod_idOf, is_126, gd_t, mo_noM_no (Or.inr hx), bd_s, f_Mod_idOf_18]; rfl
  · have hA := hA m hm
    have hM := hM m hm
    refine ⟨if th m = true then nI (mi m) else -1, ?_, ?_⟩
    · simp only [f_Arc_idOf, is_0, gd_t, ar_msgAt hm hA.1, bd_s, f_Arc_idOf_18]
      cases th m <;> simp [gI_mk (isI_m hm (k := 4) (by omega) (by omega)), hA.2.1]
    · simp only [f_Mod_idOf, is_126, gd_t, mo_noM hm hM.1, bd_s, f_Mod_idOf_18]
      cases th m <;> simp [iB, gr_126_8, ld_133 hm, hM.2.1]
