/-! the draft, the reference's side -/
section DRM
variable {vv : hp_V} {ww : hp_W} {aa : hp_V} {bb : hp_B} {n : Nat} {DL : Nat → Nat} {dc : Nat → Nat → Nat}
def dr_M (aa : hp_V) (n : Nat) (DL : Nat → Nat) (dc : Nat → Nat → Nat) : Prop := n ≤ 30 ∧ ∀ k, k < n → DL k ≤ 40 ∧ aa 128 k = nI (DL k) ∧ ∀ j, j < DL k → aa 127 (40 * k + j) = nI (dc k j) ∧ dc k j < 256
theorem at_M (h : dr_M aa n DL dc) {k j : Nat} (hk : k < n) (hj : j < DL k) : f_Mod_at (hp_mk vv ww aa bb) 126 (nI k) (nI j) = some (nI (dc k j), hp_mk vv ww aa bb) := by
  have h1 := h.1
  have h2 := h.2 k hk
  rw [mo_at (by omega), (h2.2.2 j hj).1]
theorem el_M (h : dr_M aa n DL dc) {t : Nat} (ht : t ≤ n) : ∀ (fu k : Nat), k ≤ t → t - k < fu → f_Mod_emptyLine_2 fu (hp_mk vv ww aa bb) 126 (nI t) (nI k) = some (nI (el_n DL (t - k) k), hp_mk vv ww aa bb) := by
  intro fu
  have h30 := h.1
  induction fu with
  | zero => intro k h1 h2; omega
  | succ fu ih =>
    intro k h1 h2
    rw [f_Mod_emptyLine_2]
    unfold f_Mod_emptyLine_22
    by_cases e : k = t
    · subst e
      rw [if_pos (nI_le (Nat.le_refl _) (by omega)), Nat.sub_self]; rfl
    · have hl := h.2 k (by omega)
      rw [if_neg (nI_ge (by omega) (by omega)), show t - k = (t - (k + 1)) + 1 by omega, el_s]
      simp only [gr_126_1, ob_s, ld_128 (show k < 31 by omega), hl.2.1, nI_1]
      by_cases e0 : DL k = 0
      · rw [if_pos (show nI (DL k) ≤ 0 by rw [e0]; decide), if_pos e0]
      · rw [if_neg (nI_nle (by omega) (by omega)), if_neg e0]
        exact ih (k + 1) (by omega) (by omega)
theorem hd_M (h : dr_M aa n DL dc) {f t key : Nat} (hf : f ≤ t) (ht : t ≤ n) (hk : key < 256) : f_Mod_header (hp_mk vv ww aa bb) 126 (nI f) (nI t) (nI key) = some (th_enc (hd_v DL dc f t key), hp_mk vv ww aa bb) := by
  have h30 := h.1
  have e1 : f_Mod_emptyLine (hp_mk vv ww aa bb) 126 (nI f) (nI t) = some (nI (el_n DL (t - f) f), hp_mk vv ww aa bb) := el_M h ht m_fu f hf (by unfold m_fu; omega)
  have er := el_r (DL := DL) (t - f) f
  have gen : ∀ (fu q : Nat), f + q ≤ el_n DL (t - f) f → el_n DL (t - f) f - (f + q) < fu → f_Mod_header_14 fu (hp_mk vv ww aa bb) 126 (nI key) (th_enc (hd_n (fun k => hd_p (DL k) (dc k) key) f q)) (nI (el_n DL (t - f) f)) (nI (f + q)) = some (th_enc (hd_v DL dc f t key), hp_mk vv ww aa bb) := by
    intro fu
    induction fu with
    | zero => intro q h1 h2; omega
    | succ fu ih =>
      intro q h1 h2
      rw [f_Mod_header_14]
      by_cases e : f + q = el_n DL (t - f) f
      · rw [e, if_pos (nI_le (Nat.le_refl _) (by omega))]
        unfold hd_v
        rw [show el_n DL (t - f) f - f = q by omega]
      · have hl := h.2 (f + q) (by omega)
        have hih := ih (q + 1) (by omega) (by omega)
        rw [hd_s, ← Nat.add_assoc] at hih
        unfold f_Mod_header_59
        rw [if_neg (nI_ge (by omega) (by omega))]
        simp only [gr_126_1, ob_s, ld_128 (show f + q < 31 by omega), hl.2.1, nI_1]
        by_cases l1 : 1 < DL (f + q)
        · have a1 := at_M (vv := vv) (ww := ww) (bb := bb) h (show f + q < n by omega) l1
          have a1' : f_Mod_at (hp_mk vv ww aa bb) 126 (nI (f + q)) 1 = _ := a1
          have a0 := at_M (vv := vv) (ww := ww) (bb := bb) h (show f + q < n by omega) (j := 0) (by omega)
          have a0' : f_Mod_at (hp_mk vv ww aa bb) 126 (nI (f + q)) 0 = _ := a0
          have q1 := (hl.2.2 1 l1).2
          have q0 := (hl.2.2 0 (by omega)).2
          rw [if_neg (show ¬ nI (DL (f + q)) ≤ 1 from nI_ge l1 (by omega))]
          simp only [is_126, gd_t, a1', a0', bd_s]
          by_cases c1 : dc (f + q) 1 = 58
          · rw [if_pos (show nI (dc (f + q) 1) = 58 by rw [c1]; rfl)]
            by_cases c0 : dc (f + q) 0 = key
            · rw [if_pos (by rw [c0])]
              rw [if_pos (show hd_p (DL (f + q)) (dc (f + q)) key = true from decide_eq_true ⟨l1, c1, c0⟩)] at hih
              exact hih
            · rw [if_neg (nI_ne (by omega) (by omega) c0)]
              rw [if_neg (show ¬ hd_p (DL (f + q)) (dc (f + q)) key = true from fun z => c0 (of_decide_eq_true z).2.2)] at hih
              exact hih
          · rw [if_neg (show ¬ nI _ = (58 : Int32) from nI_ne (b := 58) (by omega) (by omega) c1)]
            rw [if_neg (show ¬ hd_p (DL (f + q)) (dc (f + q)) key = true from fun z => c1 (of_decide_eq_true z).2.1)] at hih
            exact hih
        · rw [if_pos (show nI (DL (f + q)) ≤ 1 from nI_le (b := 1) (by omega) (by omega))]
          rw [if_neg (show ¬ hd_p (DL (f + q)) (dc (f + q)) key = true from fun z => l1 (of_decide_eq_true z).1)] at hih
          exact hih
  unfold f_Mod_header
  simp only [is_126, gd_t, e1, bd_s]
  exact gen m_fu 0 (by omega) (by unfold m_fu; omega)
theorem ct_M (h : dr_M aa n DL dc) {k b : Nat} (hk : k < n) (hb : b < 256) : f_Mod_cuts (hp_mk vv ww aa bb) 126 (nI k) (nI b) = some (iB (ct_p (DL k) (dc k) b), hp_mk vv ww aa bb) := by
  have h30 := h.1
  have hl := h.2 k hk
  unfold f_Mod_cuts f_Mod_cuts_35 f_Mod_cuts_36
  simp only [gr_126_1, ob_s, ld_128 (show k < 31 by omega), hl.2.1]
  by_cases l0 : DL k = 2
  · rw [if_pos (show nI (DL k) = 2 by rw [l0]; rfl)]
    have a0 := at_M (vv := vv) (ww := ww) (bb := bb) h hk (j := 0) (by omega)
    have a0' : f_Mod_at (hp_mk vv ww aa bb) 126 (nI k) 0 = _ := a0
    have a1 := at_M (vv := vv) (ww := ww) (bb := bb) h hk (j := 1) (by omega)
    have a1' : f_Mod_at (hp_mk vv ww aa bb) 126 (nI k) 1 = _ := a1
    have q0 := (hl.2.2 0 (by omega)).2
    have q1 := (hl.2.2 1 (by omega)).2
    simp only [is_126, gd_t, a1', a0', bd_s]
    by_cases e0 : dc k 0 = 45
    · rw [if_pos (show nI (dc k 0) = 45 by rw [e0]; rfl)]
      by_cases e1 : dc k 1 = b
      · rw [if_pos (by rw [e1]), if_pos (by decide)]
        have : ct_p (DL k) (dc k) b = true := decide_eq_true ⟨l0, e0, e1⟩
        rw [this]; rfl
      · rw [if_neg (nI_ne (by omega) (by omega) e1), if_pos (by decide)]
        have : ct_p (DL k) (dc k) b = false := decide_eq_false (fun z => e1 z.2.2)
        rw [this]; rfl
    · rw [if_neg (show ¬ nI _ = (45 : Int32) from nI_ne (b := 45) (by omega) (by omega) e0), if_pos (by decide)]
      have : ct_p (DL k) (dc k) b = false := decide_eq_false (fun z => e0 z.2.1)
      rw [this]; rfl
  · rw [if_neg (show ¬ nI _ = (2 : Int32) from nI_ne (b := 2) (by omega) (by omega) l0), if_pos (by decide)]
    have : ct_p (DL k) (dc k) b = false := decide_eq_false (fun z => l0 z.1)
    rw [this]; rfl
theorem cp_M2 (h : dr_M aa n DL dc) {k b : Nat} (hk : k < n) (hb : b < 256) : f_Mod_closes (hp_mk vv ww aa bb) 126 (nI k) (nI b) = some (iB (cl_p (DL k) (dc k) b), hp_mk vv ww aa bb) := by
  have h30 := h.1
  have hl := h.2 k hk
  unfold f_Mod_closes f_Mod_closes_46 f_Mod_closes_47
  simp only [gr_126_1, ob_s, ld_128 (show k < 31 by omega), hl.2.1]
  by_cases l0 : DL k = 3
  · rw [if_pos (show nI (DL k) = 3 by rw [l0]; rfl)]
    have a0 := at_M (vv := vv) (ww := ww) (bb := bb) h hk (j := 0) (by omega)
    have a0' : f_Mod_at (hp_mk vv ww aa bb) 126 (nI k) 0 = _ := a0
    have a1 := at_M (vv := vv) (ww := ww) (bb := bb) h hk (j := 1) (by omega)
    have a1' : f_Mod_at (hp_mk vv ww aa bb) 126 (nI k) 1 = _ := a1
    have a2 := at_M (vv := vv) (ww := ww) (bb := bb) h hk (j := 2) (by omega)
    have a2' : f_Mod_at (hp_mk vv ww aa bb) 126 (nI k) 2 = _ := a2
    have q0 := (hl.2.2 0 (by omega)).2
    have q1 := (hl.2.2 1 (by omega)).2
    have q2 := (hl.2.2 2 (by omega)).2
    simp only [is_126, gd_t, a1', a0', a2', bd_s]
    by_cases e0 : dc k 0 = 45
    · rw [if_pos (show nI (dc k 0) = 45 by rw [e0]; rfl)]
      by_cases e1 : dc k 1 = b
      · rw [if_pos (by rw [e1])]
        by_cases e2 : dc k 2 = 46
        · rw [if_pos (show nI (dc k 2) = 46 by rw [e2]; rfl), if_pos (by decide)]
          have : cl_p (DL k) (dc k) b = true := decide_eq_true ⟨l0, e0, e1, e2⟩
          rw [this]; rfl
        · rw [if_neg (show ¬ nI _ = (46 : Int32) from nI_ne (b := 46) (by omega) (by omega) e2), if_pos (by decide)]
          have : cl_p (DL k) (dc k) b = false := decide_eq_false (fun z => e2 z.2.2.2)
          rw [this]; rfl
      · rw [if_neg (nI_ne (by omega) (by omega) e1), if_pos (by decide)]
        have : cl_p (DL k) (dc k) b = false := decide_eq_false (fun z => e1 z.2.2.1)
        rw [this]; rfl
    · rw [if_neg (show ¬ nI _ = (45 : Int32) from nI_ne (b := 45) (by omega) (by omega) e0), if_pos (by decide)]
      have : cl_p (DL k) (dc k) b = false := decide_eq_false (fun z => e0 z.2.1)
      rw [this]; rfl
  · rw [if_neg (show ¬ nI _ = (3 : Int32) from nI_ne (b := 3) (by omega) (by omega) l0), if_pos (by decide)]
    have : cl_p (DL k) (dc k) b = false := decide_eq_false (fun z => l0 z.1)
    rw [this]; rfl
theorem nd_M (h : dr_M aa n DL dc) {k j : Nat} (hk : k < n) (hj : j < DL k) {t : Nat} {x4 : Int32} (ht : j < t) (ht2 : t ≤ 40) (fu : Nat) : f_Mod_number_22 (fu + 1) (hp_mk vv ww aa bb) 126 (nI k) (nI t) x4 (nI j) = match dg_n (dc k j) with
    | none => some (-1, hp_mk vv ww aa bb)
    | some d => f_Mod_number_22 fu (hp_mk vv ww aa bb) 126 (nI k) (nI t) (10 * x4 + nI d) (nI (j + 1)) := by
  have hl := h.2 k hk
  have q := (hl.2.2 j hj).2
  rw [f_Mod_number_22, if_neg (nI_ge ht (by omega))]
  unfold f_Mod_number_52
  simp only [is_126, gd_t, at_M h hk hj, bd_s, nI_1]
  unfold dg_n
  by_cases e1 : dc k j < 48
  · rw [if_pos (show nI (dc k j) < (48 : Int32) from nI_lt (b := 48) e1 (by omega)), if_neg (show ¬ (48 ≤ dc k j ∧ dc k j ≤ 57) by omega)]
  · rw [if_neg (show ¬ nI (dc k j) < (48 : Int32) from nI_nlt (b := 48) (by omega) (by omega))]
    by_cases e2 : dc k j ≤ 57
    · rw [if_pos (show nI (dc k j) ≤ (57 : Int32) from nI_le (b := 57) e2 (by omega)), if_pos (show 48 ≤ dc k j ∧ dc k j ≤ 57 by omega)]
      have : (10 : Int32) * x4 + nI (dc k j) - 48 = 10 * x4 + nI (dc k j - 48) := by
        rw [← pk_sub (b := 48) (by omega), Int32.sub_eq_add_neg, Int32.add_assoc, ← Int32.sub_eq_add_neg]
        rfl
      rw [this]
    · rw [if_neg (show ¬ nI (dc k j) ≤ (57 : Int32) from nI_ge (a := 57) (by omega) (by omega)), if_neg (show ¬ (48 ≤ dc k j ∧ dc k j ≤ 57) by omega)]
theorem nu_M (h : dr_M aa n DL dc) {k f t : Nat} (hk : k < n) (hf : f ≤ t) (ht : t ≤ DL k) : f_Mod_number (hp_mk vv ww aa bb) 126 (nI k) (nI f) (nI t) = some (th_enc (nu_v (dc k) f t), hp_mk vv ww aa bb) := by
  have h40 := (h.2 k hk).1
  unfold f_Mod_number f_Mod_number_14
  rw [pk_sub hf]
  by_cases e0 : t = f
  · rw [if_pos (show nI (t - f) < (1 : Int32) from nI_lt (b := 1) (by omega) (by omega))]
    unfold nu_v; rw [if_neg (by omega), if_neg (by omega)]; rfl
  · rw [if_neg (show ¬ nI (t - f) < (1 : Int32) from nI_nlt (b := 1) (by omega) (by omega))]
    by_cases e3 : t - f ≤ 2
    · rw [if_pos (show nI (t - f) ≤ (2 : Int32) from nI_le (b := 2) e3 (by omega))]
      have f0 := nd_M (vv := vv) (ww := ww) (bb := bb) h hk (j := f) (by omega) (t := t) (x4 := 0) (by omega) (by omega) 99999
      have f0' : f_Mod_number_22 m_fu (hp_mk vv ww aa bb) 126 (nI k) (nI t) 0 (nI f) = _ := f0
      rw [f0']
      by_cases b1 : t = f + 1
      · have hv : nu_v (dc k) f t = dg_n (dc k f) := by unfold nu_v; rw [if_pos b1]
        rw [hv]
        cases hd : dg_n (dc k f) with
        | none => rfl
        | some d =>
          have := dg_lt hd
          dsimp only
          rw [f_Mod_number_22, if_pos (show nI t ≤ nI (f + 1) from nI_le (by omega) (by omega))]
          have e5 : (10 : Int32) * 0 + nI d = nI d := by rw [show (10 : Int32) * 0 = nI 0 from rfl, nI_add, Nat.zero_add]
          rw [e5, if_pos (show nI d ≤ (63 : Int32) from nI_le (b := 63) (by omega) (by omega))]; rfl
      · have b2 : t = f + 2 := by omega
        have hv : nu_v (dc k) f t = (match dg_n (dc k f), dg_n (dc k (f + 1)) with
            | some x, some y => if 10 * x + y < 64 then some (10 * x + y) else none
            | _, _ => none) := by
          unfold nu_v; rw [if_neg b1, if_pos b2]
          rfl
        rw [hv]
        cases hd : dg_n (dc k f) with
        | none => rfl
        | some d =>
          have hd10 := dg_lt hd
          dsimp only
          have e5 : (10 : Int32) * 0 + nI d = nI d := by rw [show (10 : Int32) * 0 = nI 0 from rfl, nI_add, Nat.zero_add]
          rw [e5]
          have f1 := nd_M (vv := vv) (ww := ww) (bb := bb) h hk (j := f + 1) (by omega) (t := t) (x4 := nI d) (by omega) (by omega) 99998
          rw [f1]
          cases hy : dg_n (dc k (f + 1)) with
          | none => rfl
          | some y =>
            have hy10 := dg_lt hy
            dsimp only
            have e6 : (10 : Int32) * nI d + nI y = nI (10 * d + y) := by rw [show (10 : Int32) = nI 10 from rfl, pk_mul, nI_add]
            rw [f_Mod_number_22, if_pos (show nI t ≤ nI (f + 1 + 1) from nI_le (by omega) (by omega)), e6]
            unfold f_Mod_number_91
            by_cases l6 : 10 * d + y < 64
            · rw [if_pos (show nI (10 * d + y) ≤ (63 : Int32) from nI_le (b := 63) (by omega) (by omega)), if_pos l6]; rfl
            · rw [if_neg (show ¬ nI (10 * d + y) ≤ (63 : Int32) from nI_ge (a := 63) (by omega) (by omega)), if_neg l6]; rfl
    · rw [if_neg (show ¬ nI (t - f) ≤ (2 : Int32) from nI_ge (a := 2) (by omega) (by omega))]
      unfold nu_v; rw [if_neg (by omega), if_neg (by omega)]; rfl
end DRM
