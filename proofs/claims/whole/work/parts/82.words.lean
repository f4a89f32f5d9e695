/-! words: letters, words, lines; the class -/
def wd_put (ls : List Nat) (x : Nat) : List Nat := if ls.length < 12 then ls ++ [x] else ls
def wd_take (W : List (List Nat × Nat)) (ls : List Nat) (f : Nat) : List (List Nat × Nat) := if 0 < ls.length ∧ W.length < 50 then W ++ [(ls, f)] else W
def wd_st (f : Nat) (S : List (List Nat × Nat) × List Nat) (x : Nat) : List (List Nat × Nat) × List Nat := if 0 < x then (S.1, wd_put S.2 x) else (wd_take S.1 S.2 f, [])
def wl_n (f : Nat) (c : Nat → Nat) (S : List (List Nat × Nat) × List Nat) (k : Nat) : Nat → List (List Nat × Nat) × List Nat
  | 0 => S
  | n + 1 => wd_st f (wl_n f c S k n) (lt_n (c (k + n)))
theorem wl_s {f : Nat} {c : Nat → Nat} {S : List (List Nat × Nat) × List Nat} {k n : Nat} : wl_n f c S k (n + 1) = wd_st f (wl_n f c S k n) (lt_n (c (k + n))) := rfl
def wr_l (f : Nat) (c : Nat → Nat) (W : List (List Nat × Nat)) (k len : Nat) : List (List Nat × Nat) := wd_take (wl_n f c (W, []) k (len - k)).1 (wl_n f c (W, []) k (len - k)).2 f
def wd_ok (W : List (List Nat × Nat)) : Prop := W.length ≤ 50 ∧ ∀ p ∈ W, cw_ok p.1
def ls_ok (ls : List Nat) : Prop := ls.length ≤ 12 ∧ ∀ d ∈ ls, 1 ≤ d ∧ d ≤ 26
theorem ls_nil : ls_ok [] := ⟨by simp, by simp⟩
theorem wd_put_ok {ls : List Nat} {x : Nat} (h : ls_ok ls) (h1 : 1 ≤ x) (h2 : x ≤ 26) : ls_ok (wd_put ls x) := by
  unfold wd_put
  by_cases e : ls.length < 12
  · rw [if_pos e]
    refine ⟨by simp; omega, fun d hd => ?_⟩
    rcases List.mem_append.mp hd with a | a
    · exact h.2 d a
    · rw [List.mem_singleton.mp a]; exact ⟨h1, h2⟩
  · rw [if_neg e]; exact h
theorem wd_take_ok {W : List (List Nat × Nat)} {ls : List Nat} {f : Nat} (h : wd_ok W) (h2 : ls_ok ls) : wd_ok (wd_take W ls f) := by
  unfold wd_take
  by_cases e : 0 < ls.length ∧ W.length < 50
  · rw [if_pos e]
    refine ⟨by simp; omega, fun p hp => ?_⟩
    rcases List.mem_append.mp hp with a | a
    · exact h.2 p a
    · rw [List.mem_singleton.mp a]; exact ⟨e.1, h2.1, h2.2⟩
  · rw [if_neg e]; exact h
theorem cw_app {ls : List Nat} {x : Nat} : cw_val (ls ++ [x]) = 32 * cw_val ls + x := by unfold cw_val; rw [List.foldl_append]; rfl
theorem gw_app {W : List (List Nat × Nat)} {p : List Nat × Nat} {j : Nat} : (W ++ [p]).getD j ([], 0) = if j < W.length then W.getD j ([], 0) else if j = W.length then p else ([], 0) := by
  by_cases h : j < W.length
  · rw [if_pos h]; simp [List.getD, List.getElem?_append_left h]
  · rw [if_neg h]
    by_cases e : j = W.length
    · rw [if_pos e, e]; simp [List.getD]
    · rw [if_neg e]
      have : (W ++ [p])[j]? = none := by rw [List.getElem?_eq_none_iff]; simp; omega
      simp only [List.getD, this, Option.getD_none]
section WDA
def wd_A (m : Nat) (vv : hp_V) (ww : hp_W) (aa : hp_V) (bb : hp_B) (S : List (List Nat × Nat) × List Nat) : Prop := wd_ok S.1 ∧ ls_ok S.2 ∧ vv (77 + 4 * m) 6 = nI S.1.length ∧ (∀ j, j < S.1.length → bb (77 + 4 * m + 2) j = lN (cw_val (S.1.getD j ([], 0)).1) ∧ aa (77 + 4 * m + 3) j = nI (S.1.getD j ([], 0)).2) ∧ ww 66 = lN (cw_val S.2) ∧ vv 66 1 = nI S.2.length
def fr_L (m : Nat) (vv : hp_V) (ww : hp_W) (aa : hp_V) (bb : hp_B) (vv' : hp_V) (ww' : hp_W) (aa' : hp_V) (bb' : hp_B) : Prop :=
  (∀ a k, ¬ (a = 77 + 4 * m ∧ k = 6) → ¬ (a = 66 ∧ k = 1) → vv' a k = vv a k) ∧ (∀ a, a ≠ 66 → ww' a = ww a) ∧ (∀ a, a ≠ 77 + 4 * m + 3 → aa' a = aa a) ∧ (∀ a, a ≠ 77 + 4 * m + 2 → bb' a = bb a)
variable {m : Nat} {vv v1 v2 : hp_V} {ww w1 w2 : hp_W} {aa a1 a2 : hp_V} {bb b1 b2 : hp_B}
theorem fr_Lr : fr_L m vv ww aa bb vv ww aa bb := ⟨fun _ _ _ _ => rfl, fun _ _ => rfl, fun _ _ => rfl, fun _ _ => rfl⟩
theorem fr_Lt (h1 : fr_L m vv ww aa bb v1 w1 a1 b1) (h2 : fr_L m v1 w1 a1 b1 v2 w2 a2 b2) : fr_L m vv ww aa bb v2 w2 a2 b2 :=
  ⟨fun a k x y => (h2.1 a k x y).trans (h1.1 a k x y), fun a x => (h2.2.1 a x).trans (h1.2.1 a x), fun a x => (h2.2.2.1 a x).trans (h1.2.2.1 a x), fun a x => (h2.2.2.2 a x).trans (h1.2.2.2 a x)⟩
theorem ln_fr {a len : Nat} {c : Nat → Nat} (h : ln_A vv aa a len c) (h1 : v1 a 1 = vv a 1) (h2 : a1 (a + 1) = aa (a + 1)) : ln_A v1 a1 a len c := ⟨h.1, by rw [h1]; exact h.2.1, fun j hj => by rw [h2]; exact h.2.2 j hj⟩
variable {W : List (List Nat × Nat)} {ls : List Nat}
theorem pt_A (hm : m < 12) (h : wd_A m vv ww aa bb (W, ls)) {x : Nat} (hx1 : 1 ≤ x) (hx2 : x ≤ 26) : ∃ v1 w1 a1 b1, f_Letters_put (hp_mk vv ww aa bb) 66 (nI x) = some ((), hp_mk v1 w1 a1 b1) ∧ wd_A m v1 w1 a1 b1 (W, wd_put ls x) ∧ fr_L m vv ww aa bb v1 w1 a1 b1 := by
  obtain ⟨h1, h2, h3, h4, h5, h6⟩ := h
  have h12 : ls.length ≤ 12 := h2.1
  have hok := wd_put_ok h2 hx1 hx2
  dsimp only at h1 h2 h3 h4 h5 h6
  unfold f_Letters_put f_Letters_put_34
  by_cases e : ls.length < 12
  · refine ⟨up_v vv 66 1 (nI (ls.length + 1)), up_w ww 66 (lN (32 * cw_val ls + x)), aa, bb, ?_, ⟨h1, hok, ?_, h4, ?_, ?_⟩, ⟨fun a k z1 z2 => uv_n (by omega), fun a z => by simp [up_w, z], fun _ _ => rfl, fun _ _ => rfl⟩⟩
    · have e2 : lN (cw_val ls) * 32 + (nI x).toInt64 = lN (32 * cw_val ls + x) := by
        rw [nI_l (by omega), show (32 : Int64) = lN 32 from rfl, lN_mul, lN_add, Nat.mul_comm]
      simp only [gi_66_1, ob_s, h6, if_neg (show ¬ (12 : Int32) ≤ nI ls.length from nI_ge (b := 12) e (by omega)), gl_66_0, h5, e2, pL_lt (Or.inl rfl), pi_66_1, nI_1]
    · dsimp only
      rw [uv_i (by omega)]; exact h3
    · show (up_w ww 66 _) 66 = _
      unfold wd_put; rw [if_pos e, cw_app]; simp [up_w]
    · show (up_v vv 66 1 _) 66 1 = _
      unfold wd_put; rw [if_pos e, uv_s, List.length_append]; rfl
  · refine ⟨vv, ww, aa, bb, ?_, ?_, fr_Lr⟩
    · simp only [gi_66_1, ob_s, h6, if_pos (show (12 : Int32) ≤ nI ls.length from nI_le (a := 12) (by omega) (by omega))]
    · have : wd_put ls x = ls := by unfold wd_put; rw [if_neg e]
      rw [this]; exact ⟨h1, h2, h3, h4, h5, h6⟩
theorem tw_A (hm : m < 12) (h : wd_A m vv ww aa bb (W, ls)) {f : Nat} : ∃ v1 w1 a1 b1, f_Message_takeWord (hp_mk vv ww aa bb) (77 + 4 * m) (some 66) (nI f) = some ((), hp_mk v1 w1 a1 b1) ∧ wd_A m v1 w1 a1 b1 (wd_take W ls f, []) ∧ fr_L m vv ww aa bb v1 w1 a1 b1 := by
  obtain ⟨h1, h2, h3, h4, h5, h6⟩ := h
  have h12 : ls.length ≤ 12 := h2.1
  have h50 : W.length ≤ 50 := h1.1
  have hok : wd_ok (wd_take W ls f) := wd_take_ok h1 h2
  dsimp only at h1 h2 h3 h4 h5 h6
  have hcl : ∀ (v : hp_V) (w : hp_W) (a : hp_V) (b : hp_B), f_Message_takeWord_49 (hp_mk v w a b) (some 66) = some ((), hp_mk (up_v v 66 1 0) (up_w w 66 0) a b) := fun v w a b => by
    simp only [f_Message_takeWord_49, ob_s, is_66, gd_t, f_Letters_clear, pL_lt (Or.inl rfl), pi_66_1, bd_s]
  by_cases e : 0 < ls.length ∧ W.length < 50
  · refine ⟨up_v (up_v vv (77 + 4 * m) 6 (nI (W.length + 1))) 66 1 0, up_w ww 66 0, up_a aa (77 + 4 * m + 3) (upd (aa (77 + 4 * m + 3)) W.length (nI f)), up_b bb (77 + 4 * m + 2) (vp_updL (bb (77 + 4 * m + 2)) W.length (lN (cw_val ls))), ?_, ⟨hok, ls_nil, ?_, ?_, ?_, ?_⟩, ⟨fun a k z1 z2 => ?_, fun a z => by simp [up_w, z], fun a z => ua_n z, fun a z => by simp [up_b, z]⟩⟩
    · unfold f_Message_takeWord
      simp only [ob_s, gi_66_1, h6, if_neg (nI_nle e.1 (by omega)), gI_mk (isI_m hm (k := 6) (by omega) (by omega)), h3, if_neg (show ¬ (50 : Int32) ≤ nI W.length from nI_ge (b := 50) e.2 (by omega)), gR_mk (ref_m hm (k := 1) (by omega)), gR_mk (ref_m hm (k := 2) (by omega)), gl_66_0, h5,
        stL_n (i := 77 + 4 * m + 1 + 1) (sk_m2 hm) e.2 (by omega), st_n (i := 77 + 4 * m + 1 + 2) (sk_m3 hm) e.2 (by omega), pI_mk (isI_m hm (k := 6) (by omega) (by omega)), nI_1, hcl]
    · show up_v (up_v vv (77 + 4 * m) 6 _) 66 1 0 (77 + 4 * m) 6 = _
      rw [uv_i (by omega), uv_s]
      unfold wd_take; rw [if_pos e, List.length_append]; rfl
    · intro j hj
      dsimp only at hj ⊢
      have hw : wd_take W ls f = W ++ [(ls, f)] := by unfold wd_take; rw [if_pos e]
      rw [hw, gw_app]
      rw [hw, List.length_append] at hj
      have eb : up_b bb (77 + 4 * m + 2) (vp_updL (bb (77 + 4 * m + 2)) W.length (lN (cw_val ls))) (77 + 4 * m + 2) = vp_updL (bb (77 + 4 * m + 2)) W.length (lN (cw_val ls)) := by simp [up_b]
      rw [eb, ua_s]
      by_cases e3 : j < W.length
      · rw [if_pos e3, pk_uLn (by omega), pk_un (by omega)]; exact h4 j e3
      · have e4 : j = W.length := by simp at hj; omega
        rw [if_neg e3, if_pos e4, e4, pk_uLs, pk_us]; exact ⟨rfl, rfl⟩
    · simp [up_w]; rfl
    · exact uv_s
    · rw [uv_n (by omega), uv_n (by omega)]
  · have hw : wd_take W ls f = W := by unfold wd_take; rw [if_neg e]
    refine ⟨up_v vv 66 1 0, up_w ww 66 0, aa, bb, ?_, ⟨hok, ls_nil, ?_, ?_, ?_, ?_⟩, ⟨fun a k z1 z2 => uv_n (by omega), fun a z => by simp [up_w, z], fun _ _ => rfl, fun _ _ => rfl⟩⟩
    · unfold f_Message_takeWord
      simp only [ob_s, gi_66_1, h6]
      by_cases e1 : ls.length = 0
      · rw [if_pos (show nI ls.length ≤ 0 by rw [e1]; decide), hcl]
      · rw [if_neg (nI_nle (by omega) (by omega))]
        simp only [gI_mk (isI_m hm (k := 6) (by omega) (by omega)), ob_s, h3, if_pos (show (50 : Int32) ≤ nI W.length from nI_le (a := 50) (by omega) (by omega)), hcl]
    · dsimp only
      rw [uv_i (by omega), hw]; exact h3
    · dsimp only
      rw [hw]; exact h4
    · simp [up_w]; rfl
    · exact uv_s
theorem rl_A (hm : m < 12) {a len : Nat} {c : Nat → Nat} (ha : hp_isL a = true) (ha2 : a < 68) (ha3 : a ≠ 66) {f k : Nat} : ∀ (fu n : Nat) (vv : hp_V) (ww : hp_W) (aa : hp_V) (bb : hp_B), ln_A vv aa a len c → k + n ≤ len → len - (k + n) < fu → wd_A m vv ww aa bb (wl_n f c (W, []) k n) → ∃ v1 w1 a1 b1, f_Reader_readLine_3 fu (hp_mk vv ww aa bb) 65 (some a) (some (77 + 4 * m)) (nI f) (nI (k + n)) = some ((), hp_mk v1 w1 a1 b1) ∧ wd_A m v1 w1 a1 b1 (wr_l f c W k len, []) ∧ fr_L m vv ww aa bb v1 w1 a1 b1 := by
  intro fu
  induction fu with
  | zero => intro n vv ww aa bb _ h1 h2; omega
  | succ fu ih =>
    intro n vv ww aa bb hl h1 h2 hw
    have h40 := hl.1
    rw [f_Reader_readLine_3]
    unfold f_Reader_readLine_50
    simp only [ob_s, gI_mk (isI_L ha), hl.2.1, gr_65_0, is_m hm, gd_t, is_L ha, nI_1]
    by_cases e : k + n = len
    · rw [e, if_pos (nI_le (Nat.le_refl _) (by omega))]
      obtain ⟨v1, w1, a1, b1, t1, t2, t3⟩ := tw_A (f := f) hm hw
      refine ⟨v1, w1, a1, b1, ?_, ?_, t3⟩
      · simp only [t1, bd_s]
      · unfold wr_l; rw [show len - k = n by omega]; exact t2
    · have l : k + n < len := by omega
      have q := (hl.2.2 (k + n) l).2
      rw [if_neg (nI_ge l (by omega))]
      simp only [at_A ha hl (show k + n < 2 ^ 31 by omega), if_pos l, bd_s, lt_A q]
      have hs : wl_n f c (W, []) k (n + 1) = wd_st f (wl_n f c (W, []) k n) (lt_n (c (k + n))) := rfl
      by_cases e0 : lt_n (c (k + n)) = 0
      · rw [if_pos (show nI (lt_n (c (k + n))) ≤ 0 by rw [e0]; decide)]
        obtain ⟨v1, w1, a1, b1, t1, t2, t3⟩ := tw_A (f := f) hm hw
        simp only [gr_65_0, ob_s, is_m hm, gd_t, t1, bd_s, nI_1]
        have hs2 : wd_A m v1 w1 a1 b1 (wl_n f c (W, []) k (n + 1)) := by
          rw [hs, e0]; unfold wd_st; rw [if_neg (by omega)]; exact t2
        obtain ⟨v2, w2, a2, b2, s1, s2, s3⟩ := ih (n + 1) v1 w1 a1 b1 (ln_fr hl (t3.1 a 1 (by omega) (by omega)) (t3.2.2.1 _ (by omega))) (by omega) (by omega) hs2
        exact ⟨v2, w2, a2, b2, s1, s2, fr_Lt t3 s3⟩
      · have l26 := lt_26 (c (k + n))
        rw [if_neg (nI_nle (by omega) (by omega))]
        obtain ⟨v1, w1, a1, b1, t1, t2, t3⟩ := pt_A hm hw (x := lt_n (c (k + n))) (by omega) l26
        simp only [gr_65_0, ob_s, is_66, gd_t, t1, bd_s, nI_1]
        have hs2 : wd_A m v1 w1 a1 b1 (wl_n f c (W, []) k (n + 1)) := by
          rw [hs]; unfold wd_st; rw [if_pos (by omega)]; exact t2
        obtain ⟨v2, w2, a2, b2, s1, s2, s3⟩ := ih (n + 1) v1 w1 a1 b1 (ln_fr hl (t3.1 a 1 (by omega) (by omega)) (t3.2.2.1 _ (by omega))) (by omega) (by omega) hs2
        exact ⟨v2, w2, a2, b2, s1, s2, fr_Lt t3 s3⟩
theorem rr_A (hm : m < 12) {a len : Nat} {c : Nat → Nat} (ha : hp_isL a = true) (ha2 : a < 68) (ha3 : a ≠ 66) {f k : Nat} (hl : ln_A vv aa a len c) (hk : k ≤ len) (hw : wd_A m vv ww aa bb (W, [])) : ∃ v1 w1 a1 b1, f_Reader_readLine (hp_mk vv ww aa bb) 65 (some a) (nI k) (some (77 + 4 * m)) (nI f) = some ((), hp_mk v1 w1 a1 b1) ∧ wd_A m v1 w1 a1 b1 (wr_l f c W k len, []) ∧ fr_L m vv ww aa bb v1 w1 a1 b1 := by
  have h40 := hl.1
  exact rl_A hm ha ha2 ha3 (k := k) m_fu 0 vv ww aa bb hl (by omega) (by unfold m_fu; omega) hw
end WDA
