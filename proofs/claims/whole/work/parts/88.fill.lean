/-! a whole draft read, on both sides -/
def hw_v (DL : Nat → Nat) (dc : Nat → Nat → Nat) (n key fd : Nat) (W : List (List Nat × Nat)) : List (List Nat × Nat) := match hd_v DL dc 0 n key with
  | none => W
  | some k => wr_l fd (dc k) W 2 (DL k)
def dr_v (DL : Nat → Nat) (dc : Nat → Nat → Nat) (n : Nat) : List (List Nat × Nat) × Nat := rp_n DL dc 3 0 n (hw_v DL dc n 102 1 (hw_v DL dc n 115 0 []), 0)
section FLA
variable {m : Nat} {vv v1 v2 : hp_V} {ww w1 w2 : hp_W} {aa a1 a2 : hp_V} {bb b1 b2 : hp_B} {n : Nat} {DL : Nat → Nat} {dc : Nat → Nat → Nat}
theorem rh_A (hm : m < 12) (hd : dr_A vv aa n DL dc) {key fd lv : Nat} {W : List (List Nat × Nat)} (hp : pa_A m vv ww aa bb (W, lv)) : ∃ v1 w1 a1 b1, f_Reader_readHeader (hp_mk vv ww aa bb) 65 ((hd_v DL dc 0 n key).map (fun k => 5 + 2 * k)) (some (77 + 4 * m)) (nI fd) = some ((), hp_mk v1 w1 a1 b1) ∧ pa_A m v1 w1 a1 b1 (hw_v DL dc n key fd W, lv) ∧ fr_A m vv ww aa bb v1 w1 a1 b1 := by
  have h30 := hd.1
  unfold f_Reader_readHeader f_Reader_readHeader_12 hw_v
  cases hh : hd_v DL dc 0 n key with
  | none => exact ⟨vv, ww, aa, bb, rfl, hp, fr_Ar⟩
  | some k =>
    have hr := hd_vr (by omega) hh
    have hk30 : k < 30 := by omega
    obtain ⟨v1, w1, a1, b1, t1, t2, t3⟩ := rr_A hm (isL_d hk30) (by omega) (by omega) (f := fd) (k := 2) (hd.2 k hr.2.1) hr.2.2 hp.1
    have t1' : f_Reader_readLine (hp_mk vv ww aa bb) 65 (some (5 + 2 * k)) 2 (some (77 + 4 * m)) (nI fd) = _ := t1
    refine ⟨v1, w1, a1, b1, ?_, pt_L hm hp t2 t3, fr_AL t3⟩
    simp only [Option.map_some, is_65, gd_t, t1', bd_s]
theorem rd_A (hm : m < 12) (hd : dr_A vv aa n DL dc) (hn : vv 3 1 = nI n) (hch : ∀ x, x < 40 → fits .char (.int (aa 68 x)) = true) (hl : rA_let vv ww) {id : Nat} (hid : id_v DL dc n = some id) : ∃ v1 w1 a1 b1, f_Reader_readDraft (hp_mk vv ww aa bb) 65 (some 3) (some (77 + 4 * m)) = some ((), hp_mk v1 w1 a1 b1) ∧ pa_A m v1 w1 a1 b1 (dr_v DL dc n) ∧
    (v1 (77 + 4 * m) 3 = 1 ∧ v1 (77 + 4 * m) 4 = nI id ∧ v1 (77 + 4 * m) 5 = nI (rl_v DL dc n).length ∧ v1 (77 + 4 * m) 8 = 0 ∧ ∀ j, j < (rl_v DL dc n).length → a1 (77 + 4 * m + 1) j = nI ((rl_v DL dc n).getD j 0)) ∧
    (∀ a k, a ≠ 77 + 4 * m → ¬ (a = 66 ∧ k = 1) → ¬ (a = 67 ∧ k = 1) → v1 a k = vv a k) ∧ (∀ a, a ≠ 66 → w1 a = ww a) ∧ (∀ a, a ≠ 68 → a ≠ 77 + 4 * m + 1 → a ≠ 77 + 4 * m + 3 → a1 a = aa a) ∧ (∀ a, a ≠ 77 + 4 * m + 2 → b1 a = bb a) := by
  have h30 := hd.1
  obtain ⟨V0, hV0⟩ : ∃ V0, V0 = up_v (up_v (up_v (up_v (up_v vv (77 + 4 * m) 3 1) (77 + 4 * m) 4 (nI id)) (77 + 4 * m) 6 0) (77 + 4 * m) 7 0) (77 + 4 * m) 8 0 := ⟨_, rfl⟩
  have oV0 : ∀ a k, a ≠ 77 + 4 * m → V0 a k = vv a k := fun a k h => by rw [hV0, uv_i h, uv_i h, uv_i h, uv_i h, uv_i h]
  have hd0 : dr_A V0 aa n DL dc := ⟨hd.1, fun k hk => ln_fr (hd.2 k hk) (oV0 _ _ (by omega)) rfl⟩
  obtain ⟨f', r1, r2⟩ := sr_A (ww := ww) (bb := bb) hm hd0
  obtain ⟨V1, hV1⟩ : ∃ V1, V1 = up_v V0 (77 + 4 * m) 5 (nI (rl_v DL dc n).length) := ⟨_, rfl⟩
  obtain ⟨A1, hA1⟩ : ∃ A1, A1 = up_a aa (77 + 4 * m + 1) f' := ⟨_, rfl⟩
  rw [← hV1, ← hA1] at r1
  have oV1 : ∀ a k, a ≠ 77 + 4 * m → V1 a k = vv a k := fun a k h => by rw [hV1, uv_i h, oV0 a k h]
  have oA1 : ∀ a, a ≠ 77 + 4 * m + 1 → A1 a = aa a := fun a h => by rw [hA1, ua_n h]
  have hd1 : dr_A V1 A1 n DL dc := ⟨hd.1, fun k hk => ln_fr (hd.2 k hk) (oV1 _ _ (by omega)) (oA1 _ (by omega))⟩
  have hp1 : pa_A m V1 ww A1 bb ([], 0) := by
    refine ⟨⟨⟨by decide, fun p hp => (by cases hp)⟩, ls_nil, ?_, fun j hj => absurd hj (Nat.not_lt_zero j), hl.1, ?_⟩, ?_, fun x hx => ?_⟩
    · rw [hV1, hV0, uv_n (Or.inr (by omega)), uv_n (Or.inr (by omega)), uv_n (Or.inr (by omega)), uv_s]; rfl
    · rw [oV1 66 1 (by omega)]; exact hl.2
    · rw [hV1, hV0, uv_n (Or.inr (by omega)), uv_n (Or.inr (by omega)), uv_s]; rfl
    · rw [oA1 68 (by omega)]; exact hch x hx
  obtain ⟨v2, w2, a2, b2, s1, s2, s3⟩ := rh_A hm hd1 (key := 115) (fd := 0) hp1
  have hd2 := dr_Af hm hd1 s3
  obtain ⟨v3, w3, a3, b3, t1, t2, t3⟩ := rh_A hm hd2 (key := 102) (fd := 1) s2
  have hd3 := dr_Af hm hd2 t3
  obtain ⟨v4, w4, a4, b4, u1, u2, u3⟩ := rp_A (DL := DL) (dc := dc) (n := n) hm 3 8 (by omega) (by omega) 0 n _ v3 w3 a3 b3 (Nat.zero_le _) (Nat.le_refl _) hd3 t2
  have fr := fr_At s3 (fr_At t3 u3)
  refine ⟨v4, w4, a4, b4, ?_, u2, ⟨?_, ?_, ?_, ?_, fun j hj => ?_⟩, fun a k z1 z2 z3 => ?_, fr.2.1, fun a z1 z2 z3 => ?_, fr.2.2.2⟩
  · have eid := id_A (ww := ww) (bb := bb) hd hn
    rw [hid] at eid
    have ebeg : f_Message_begin (hp_mk vv ww aa bb) (77 + 4 * m) (nI id) = some ((), hp_mk V0 ww aa bb) := by
      unfold f_Message_begin
      simp only [pZ_mk (isI_m hm (k := 3) (by omega) (by omega)) (Or.inr rfl), ob_s, pI_mk (isI_m hm (k := 4) (by omega) (by omega)), pI_mk (isI_m hm (k := 6) (by omega) (by omega)), pI_mk (isI_m hm (k := 7) (by omega) (by omega)), pI_mk (isI_m hm (k := 8) (by omega) (by omega)), hV0]
    have q0 : V0 3 1 = nI n := by rw [oV0 3 1 (by omega)]; exact hn
    have q1 : V1 3 1 = nI n := by rw [oV1 3 1 (by omega)]; exact hn
    have q2 : v2 3 1 = nI n := by rw [s3.1 3 1 (by omega) (by omega) (by omega)]; exact q1
    have q3 : v3 3 1 = nI n := by rw [t3.1 3 1 (by omega) (by omega) (by omega)]; exact q2
    have h0 := hd_A (ww := ww) (bb := bb) hd0 (f := 0) (t := n) (key := 114) (Nat.zero_le _) (Nat.le_refl _) (by omega)
    have h0' : f_Draft_header (hp_mk V0 ww aa bb) 3 0 (nI n) 114 = _ := h0
    have h1 := hd_A (ww := ww) (bb := bb) hd1 (f := 0) (t := n) (key := 115) (Nat.zero_le _) (Nat.le_refl _) (by omega)
    have h1' : f_Draft_header (hp_mk V1 ww A1 bb) 3 0 (nI n) 115 = _ := h1
    have h2 := hd_A (ww := w2) (bb := b2) hd2 (f := 0) (t := n) (key := 102) (Nat.zero_le _) (Nat.le_refl _) (by omega)
    have h2' : f_Draft_header (hp_mk v2 w2 a2 b2) 3 0 (nI n) 102 = _ := h2
    have s1' : f_Reader_readHeader (hp_mk V1 ww A1 bb) 65 ((hd_v DL dc 0 n 115).map (fun k => 5 + 2 * k)) (some (77 + 4 * m)) 0 = _ := s1
    have t1' : f_Reader_readHeader (hp_mk v2 w2 a2 b2) 65 ((hd_v DL dc 0 n 102).map (fun k => 5 + 2 * k)) (some (77 + 4 * m)) 1 = _ := t1
    have u1' : f_Reader_readPart 8 (hp_mk v3 w3 a3 b3) 65 (some 3) 0 (nI n) 1 (some (77 + 4 * m)) = _ := u1
    have eid' : f_Draft_id (hp_mk vv ww aa bb) 3 = some (nI id, hp_mk vv ww aa bb) := eid
    unfold f_Reader_readDraft
    simp only [ob_s, is_3, gd_t, eid', bd_s, is_m hm, ebeg, gi_3_1, q0, h0', r1, q1, h1', is_65, s1', q2, h2', t1', q3, u1']
  · rw [fr.1 _ 3 (by omega) (by omega) (by omega), hV1, hV0, uv_n (Or.inr (by omega)), uv_n (Or.inr (by omega)), uv_n (Or.inr (by omega)), uv_n (Or.inr (by omega)), uv_n (Or.inr (by omega)), uv_s]
  · rw [fr.1 _ 4 (by omega) (by omega) (by omega), hV1, hV0, uv_n (Or.inr (by omega)), uv_n (Or.inr (by omega)), uv_n (Or.inr (by omega)), uv_n (Or.inr (by omega)), uv_s]
  · rw [fr.1 _ 5 (by omega) (by omega) (by omega), hV1, uv_s]
  · rw [fr.1 _ 8 (by omega) (by omega) (by omega), hV1, hV0, uv_n (Or.inr (by omega)), uv_s]
  · rw [fr.2.2.1 _ (by omega) (by omega), hA1, ua_s]; exact r2 j hj
  · rw [fr.1 a k (by omega) z2 z3, oV1 a k z1]
  · rw [fr.2.2.1 a z1 z3, oA1 a z2]
theorem us_v {aa : hp_V} {i m : Nat} {y : Int32} {a j : Nat} : up_a aa i (upd (aa i) m y) a j = if a = i ∧ j = m then y else aa a j := by
  by_cases h : a = i
  · subst h
    rw [ua_s]
    by_cases e : j = m
    · rw [if_pos ⟨rfl, e⟩, e, pk_us]
    · rw [if_neg (fun z => e z.2), pk_un e]
  · rw [ua_n h, if_neg (fun z => h z.1)]
theorem fi_M (hm : m < 12) (hd : dr_M aa n DL dc) (hl : rM_let vv ww) {id ad : Nat} (had : vv 126 10 = nI ad) : ∃ v1 w1 a1 b1, f_Mod_fill (hp_mk vv ww aa bb) 126 (nI m) (nI id) (nI n) = some ((), hp_mk v1 w1 a1 b1) ∧ pa_M m v1 w1 a1 b1 (dr_v DL dc n) ∧
    (a1 132 m = 1 ∧ a1 133 m = nI id ∧ a1 134 m = nI (ad + 1) ∧ v1 126 10 = nI (ad + 1) ∧ a1 137 m = 0 ∧ a1 136 m = nI (rl_v DL dc n).length ∧ ∀ j, j < (rl_v DL dc n).length → a1 135 (4 * m + j) = nI ((rl_v DL dc n).getD j 0)) ∧
    (∀ a k, ¬ (a = 126 ∧ (k = 6 ∨ k = 10 ∨ k = 18 ∨ k = 27)) → v1 a k = vv a k) ∧ (∀ a, a ≠ 126 → w1 a = ww a) ∧ (∀ a, a < 129 → a1 a = aa a) ∧ (∀ a, 141 < a → a1 a = aa a) ∧ (∀ a j, 132 ≤ a → a < 140 → a ≠ 135 → j ≠ m → a1 a j = aa a j) ∧ (∀ j, (j < 4 * m ∨ 4 * m + 4 ≤ j) → a1 135 j = aa 135 j) ∧ (∀ j, (j < 50 * m ∨ 50 * m + 50 ≤ j) → a1 141 j = aa 141 j) ∧ (∀ a, a ≠ 140 → b1 a = bb a) ∧ (∀ j, (j < 50 * m ∨ 50 * m + 50 ≤ j) → b1 140 j = bb 140 j) := by
  have h30 := hd.1
  obtain ⟨V0, hV0⟩ : ∃ V0, V0 = up_v (up_v vv 126 18 (nI m)) 126 10 (nI (ad + 1)) := ⟨_, rfl⟩
  obtain ⟨A1, hA1⟩ : ∃ A1, A1 = up_a aa 132 (upd (aa 132) m 1) := ⟨_, rfl⟩
  obtain ⟨A2, hA2⟩ : ∃ A2, A2 = up_a A1 133 (upd (A1 133) m (nI id)) := ⟨_, rfl⟩
  obtain ⟨A3, hA3⟩ : ∃ A3, A3 = up_a A2 134 (upd (A2 134) m (nI (ad + 1))) := ⟨_, rfl⟩
  obtain ⟨A4, hA4⟩ : ∃ A4, A4 = up_a A3 137 (upd (A3 137) m 0) := ⟨_, rfl⟩
  obtain ⟨A5, hA5⟩ : ∃ A5, A5 = up_a A4 138 (upd (A4 138) m 0) := ⟨_, rfl⟩
  obtain ⟨A6, hA6⟩ : ∃ A6, A6 = up_a A5 139 (upd (A5 139) m 0) := ⟨_, rfl⟩
  obtain ⟨A7, hA7⟩ : ∃ A7, A7 = up_a A6 136 (upd (A6 136) m 0) := ⟨_, rfl⟩
  have oV0 : ∀ a k, ¬ (a = 126 ∧ (k = 10 ∨ k = 18)) → V0 a k = vv a k := fun a k h => by rw [hV0, uv_n (by omega), uv_n (by omega)]
  have val : ∀ a j, A7 a j = if a = 136 ∧ j = m then 0 else if a = 139 ∧ j = m then 0 else if a = 138 ∧ j = m then 0 else if a = 137 ∧ j = m then 0 else if a = 134 ∧ j = m then nI (ad + 1) else if a = 133 ∧ j = m then nI id else if a = 132 ∧ j = m then 1 else aa a j := fun a j => by
    rw [hA7, us_v, hA6, us_v, hA5, us_v, hA4, us_v, hA3, us_v, hA2, us_v, hA1, us_v]
  have oth : ∀ a j, (j ≠ m ∨ (a ≠ 132 ∧ a ≠ 133 ∧ a ≠ 134 ∧ a ≠ 136 ∧ a ≠ 137 ∧ a ≠ 138 ∧ a ≠ 139)) → A7 a j = aa a j := fun a j h => by
    rw [val, if_neg (by omega), if_neg (by omega), if_neg (by omega), if_neg (by omega), if_neg (by omega), if_neg (by omega), if_neg (by omega)]
  have othf : ∀ a, a ≠ 132 → a ≠ 133 → a ≠ 134 → a ≠ 136 → a ≠ 137 → a ≠ 138 → a ≠ 139 → A7 a = aa a := fun a z1 z2 z3 z4 z5 z6 z7 => funext (fun j => oth a j (Or.inr ⟨z1, z2, z3, z4, z5, z6, z7⟩))
  have hd0 : dr_M A7 n DL dc := dr_Mf hd (othf _ (by omega) (by omega) (by omega) (by omega) (by omega) (by omega) (by omega)) (othf _ (by omega) (by omega) (by omega) (by omega) (by omega) (by omega) (by omega))
  have hR := hd_M (vv := V0) (ww := ww) (bb := bb) hd0 (f := 0) (t := n) (key := 114) (Nat.zero_le _) (Nat.le_refl _) (by omega)
  have hR' : f_Mod_header (hp_mk V0 ww A7 bb) 126 0 (nI n) 114 = _ := hR
  have hS := hd_M (vv := V0) (ww := ww) (bb := bb) hd0 (f := 0) (t := n) (key := 115) (Nat.zero_le _) (Nat.le_refl _) (by omega)
  have hS' : f_Mod_header (hp_mk V0 ww A7 bb) 126 0 (nI n) 115 = _ := hS
  have hF := hd_M (vv := V0) (ww := ww) (bb := bb) hd0 (f := 0) (t := n) (key := 102) (Nat.zero_le _) (Nat.le_refl _) (by omega)
  have hF' : f_Mod_header (hp_mk V0 ww A7 bb) 126 0 (nI n) 102 = _ := hF
  have start : f_Mod_fill (hp_mk vv ww aa bb) 126 (nI m) (nI id) (nI n) = if th_enc (hd_v DL dc 0 n 114) < 0 then f_Mod_fill_109 (hp_mk V0 ww A7 bb) 126 (nI n) (th_enc (hd_v DL dc 0 n 115)) (th_enc (hd_v DL dc 0 n 102)) else m_bd (f_Mod_readReferences (hp_mk V0 ww A7 bb) 126 (nI m) (th_enc (hd_v DL dc 0 n 114))) (fun _ g => f_Mod_fill_109 g 126 (nI n) (th_enc (hd_v DL dc 0 n 115)) (th_enc (hd_v DL dc 0 n 102))) := by
    have enar : vp_nar .boolean 1 = 1 := by decide
    have q10 : up_v vv 126 18 (nI m) 126 10 = nI ad := by rw [uv_n (by omega)]; exact had
    have e10 : up_v (up_v vv 126 18 (nI m)) 126 10 (nI (ad + 1)) 126 10 = nI (ad + 1) := uv_s
    unfold f_Mod_fill
    simp only [pi_126_18, ob_s, gr_126_7, enar, st_132 hm, ← hA1, gr_126_8, st_133 hm, ← hA2, gi_126_10, q10, nI_1, pi_126_10, e10, gr_126_9, st_134 hm, ← hA3, gr_126_13, st_137 hm, ← hA4, gr_126_14, st_138 hm, ← hA5, gr_126_15, st_139 hm, ← hA6, gr_126_12, st_136 hm, ← hA7, ← hV0, is_126, gd_t, hR', hS', hF', bd_s]
  obtain ⟨B1, k1, k2⟩ : ∃ B1, f_Mod_fill (hp_mk vv ww aa bb) 126 (nI m) (nI id) (nI n) = f_Mod_fill_109 (hp_mk V0 ww B1 bb) 126 (nI n) (th_enc (hd_v DL dc 0 n 115)) (th_enc (hd_v DL dc 0 n 102)) ∧ rm_r m A7 B1 (rl_v DL dc n) := by
    rw [start]
    unfold rl_v
    cases hh : hd_v DL dc 0 n 114 with
    | none =>
      rw [if_pos (show th_enc none < 0 by decide)]
      refine ⟨A7, rfl, fun _ _ _ => rfl, fun _ _ => rfl, fun _ _ => rfl, ?_, fun j hj => absurd hj (Nat.not_lt_zero j)⟩
      rw [val, if_pos ⟨rfl, rfl⟩]; rfl
    | some k =>
      have hr := hd_vr (by omega) hh
      rw [if_neg (show ¬ th_enc (some k) < 0 from nI_pos (by omega))]
      obtain ⟨B1, z1, z2⟩ := rd_M (vv := V0) (ww := ww) (bb := bb) hm hd0 hr.2.1 hr.2.2
      have z1' : f_Mod_readReferences (hp_mk V0 ww A7 bb) 126 (nI m) (th_enc (some k)) = _ := z1
      exact ⟨B1, by rw [z1', bd_s], z2⟩
  have hd1 : dr_M B1 n DL dc := dr_Mf hd0 (k2.1 _ (by omega) (by omega)) (k2.1 _ (by omega) (by omega))
  have hw1 : wd_M m V0 ww B1 bb ([], []) 0 := by
    refine ⟨⟨by decide, fun p hp => (by cases hp)⟩, ls_nil, ?_, ?_, fun j hj => absurd hj (Nat.not_lt_zero j), hl.1, 0, Nat.le_refl _, rfl, ?_⟩
    · rw [hV0, uv_n (by omega), uv_s]
    · rw [k2.1 139 (by omega) (by omega), val, if_neg (by omega), if_pos ⟨rfl, rfl⟩]; rfl
    · rw [oV0 126 27 (by omega)]; exact hl.2
  have h138 : B1 138 m = nI 0 := by rw [k2.1 138 (by omega) (by omega), val, if_neg (by omega), if_neg (by omega), if_pos ⟨rfl, rfl⟩]; rfl
  have line : ∀ (key fd : Nat) (W : List (List Nat × Nat)) (v : hp_V) (w : hp_W) (a : hp_V) (b : hp_B) (KK : m_G → Option (Unit × m_G)), dr_M a n DL dc → wd_M m v w a b (W, []) 0 → ∃ v1 w1 a1 b1, (if th_enc (hd_v DL dc 0 n key) < 0 then KK (hp_mk v w a b) else m_gd (m_is (hp_mk v w a b) 126 8) (m_bd (f_Mod_collect (hp_mk v w a b) 126 (th_enc (hd_v DL dc 0 n key)) 2 (nI fd)) (fun _ g => KK g))) = KK (hp_mk v1 w1 a1 b1) ∧ wd_M m v1 w1 a1 b1 (hw_v DL dc n key fd W, []) 0 ∧ fr_W m v w a b v1 w1 a1 b1 := fun key fd W v w a b KK z1 z2 => by
    unfold hw_v
    cases hh : hd_v DL dc 0 n key with
    | none =>
      rw [if_pos (show th_enc none < 0 by decide)]
      exact ⟨v, w, a, b, rfl, z2, fr_Wr⟩
    | some k =>
      have hr := hd_vr (by omega) hh
      rw [if_neg (show ¬ th_enc (some k) < 0 from nI_pos (by omega))]
      obtain ⟨v1, w1, a1, b1, t1, t2, t3⟩ := cc_M hm hr.2.1 (f := fd) (k := 2) z1 hr.2.2 z2
      have t1' : f_Mod_collect (hp_mk v w a b) 126 (th_enc (some k)) 2 (nI fd) = _ := t1
      exact ⟨v1, w1, a1, b1, by rw [is_126, gd_t, t1', bd_s], t2, t3⟩
  obtain ⟨v2, w2, a2, b2, s1, s2, s3⟩ := line 115 0 [] V0 ww B1 bb (fun g => f_Mod_fill_122 g 126 (nI n) (th_enc (hd_v DL dc 0 n 102))) hd1 hw1
  have hd2 : dr_M a2 n DL dc := dr_Mf hd1 (s3.2.2.1 _ (by omega) (by omega)) (s3.2.2.1 _ (by omega) (by omega))
  obtain ⟨v3, w3, a3, b3, t1, t2, t3⟩ := line 102 1 (hw_v DL dc n 115 0 []) v2 w2 a2 b2 (fun g => f_Mod_fill_135 g 126 (nI n)) hd2 s2
  have hd3 : dr_M a3 n DL dc := dr_Mf hd2 (t3.2.2.1 _ (by omega) (by omega)) (t3.2.2.1 _ (by omega) (by omega))
  have hsk0 : sk_ok (up_v v3 126 6 0) a3 [] := ⟨uv_s, fun j hj => absurd hj (Nat.not_lt_zero j)⟩
  obtain ⟨v4, a4, u1, u2, u3⟩ := pu_M (ww := w3) (bb := b3) hsk0 (by decide) (x := 0) (y := n) (z := 1)
  have u1' : f_Mod_push (hp_mk (up_v v3 126 6 0) w3 a3 b3) 126 0 (nI n) 1 = _ := u1
  have fr1 := fr_Wt s3 t3
  have hp3 : pa_M m v3 w3 a3 b3 (hw_v DL dc n 102 1 (hw_v DL dc n 115 0 []), 0) := ⟨t2, by rw [fr1.2.2.1 138 (by omega) (by omega)]; exact h138⟩
  have frk : fr_K v3 a3 v4 a4 := fr_Kt (⟨fun a k z => uv_n (by omega), fun _ _ _ _ => rfl⟩ : fr_K v3 a3 (up_v v3 126 6 0) a3) u3
  have hp4 := pa_K hp3 frk
  obtain ⟨v5, w5, a5, b5, x1, x2, x3⟩ := fl_M (DL := DL) (dc := dc) (n := n) hm m_fu [(0, n, 1)] _ v4 w3 a4 b3 (dr_K hd3 frk) u2 (fun x hx => by rw [List.mem_singleton.mp hx]; dsimp only; omega) (by show (n - 0 + 1) + 0 ≤ 31; omega) (by show (5 - 1) * (n - 0 + 1) + 0 < m_fu; unfold m_fu; omega) hp4
  have fr2 : fr_P m V0 ww B1 bb v5 w5 a5 b5 := fr_Pt (fr_PW fr1) (fr_Pt (fr_KP frk) x3)
  have cell : ∀ a, a ≠ 129 → a ≠ 130 → a ≠ 131 → a ≠ 138 → a ≠ 139 → a ≠ 141 → a5 a = B1 a := fr2.2.2.1
  have nm : ∀ a j, 132 ≤ a → a < 140 → a ≠ 135 → j ≠ m → a5 a j = aa a j := fun a j z1 z2 z3 z4 => by
    have hB : B1 a j = aa a j := by
      by_cases e : a = 136
      · rw [e, k2.2.1 j z4, oth _ _ (Or.inl z4)]
      · rw [k2.1 a z3 e, oth _ _ (Or.inl z4)]
    rw [← hB]
    by_cases e : a = 138
    · rw [e, fr2.2.2.2.1 j z4]
    · by_cases e2 : a = 139
      · rw [e2, fr2.2.2.2.2.1 j z4]
      · rw [cell a (by omega) (by omega) (by omega) e e2 (by omega)]
  refine ⟨v5, w5, a5, b5, ?_, x2, ⟨?_, ?_, ?_, ?_, ?_, ?_, fun j hj => ?_⟩, fun a k z => ?_, fr2.2.1, fun a z => ?_, fun a z => ?_, nm, fun j z => ?_, fun j z => ?_, fr2.2.2.2.2.2.2.1, fr2.2.2.2.2.2.2.2⟩
  · rw [k1]
    unfold f_Mod_fill_109
    have s1' : (if th_enc (hd_v DL dc 0 n 115) < 0 then f_Mod_fill_122 (hp_mk V0 ww B1 bb) 126 (nI n) (th_enc (hd_v DL dc 0 n 102)) else m_gd (m_is (hp_mk V0 ww B1 bb) 126 8) (m_bd (f_Mod_collect (hp_mk V0 ww B1 bb) 126 (th_enc (hd_v DL dc 0 n 115)) 2 0) (fun _ g => f_Mod_fill_122 g 126 (nI n) (th_enc (hd_v DL dc 0 n 102))))) = _ := s1
    refine Eq.trans s1' ?_
    unfold f_Mod_fill_122
    have t1' : (if th_enc (hd_v DL dc 0 n 102) < 0 then f_Mod_fill_135 (hp_mk v2 w2 a2 b2) 126 (nI n) else m_gd (m_is (hp_mk v2 w2 a2 b2) 126 8) (m_bd (f_Mod_collect (hp_mk v2 w2 a2 b2) 126 (th_enc (hd_v DL dc 0 n 102)) 2 1) (fun _ g => f_Mod_fill_135 g 126 (nI n)))) = _ := t1
    refine Eq.trans t1' ?_
    unfold f_Mod_fill_135
    simp only [pi_126_6, ob_s, is_126, gd_t, u1', bd_s]
    exact x1
  · rw [cell 132 (by omega) (by omega) (by omega) (by omega) (by omega) (by omega), k2.1 132 (by omega) (by omega), val, if_neg (by omega), if_neg (by omega), if_neg (by omega), if_neg (by omega), if_neg (by omega), if_neg (by omega), if_pos ⟨rfl, rfl⟩]
  · rw [cell 133 (by omega) (by omega) (by omega) (by omega) (by omega) (by omega), k2.1 133 (by omega) (by omega), val, if_neg (by omega), if_neg (by omega), if_neg (by omega), if_neg (by omega), if_neg (by omega), if_pos ⟨rfl, rfl⟩]
  · rw [cell 134 (by omega) (by omega) (by omega) (by omega) (by omega) (by omega), k2.1 134 (by omega) (by omega), val, if_neg (by omega), if_neg (by omega), if_neg (by omega), if_neg (by omega), if_pos ⟨rfl, rfl⟩]
  · rw [fr2.1 126 10 (by omega), hV0, uv_s]
  · rw [cell 137 (by omega) (by omega) (by omega) (by omega) (by omega) (by omega), k2.1 137 (by omega) (by omega), val, if_neg (by omega), if_neg (by omega), if_neg (by omega), if_pos ⟨rfl, rfl⟩]
  · rw [cell 136 (by omega) (by omega) (by omega) (by omega) (by omega) (by omega)]; exact k2.2.2.2.1
  · rw [cell 135 (by omega) (by omega) (by omega) (by omega) (by omega) (by omega)]; exact k2.2.2.2.2 j hj
  · rw [fr2.1 a k (by omega), oV0 a k (by omega)]
  · rw [cell a (by omega) (by omega) (by omega) (by omega) (by omega) (by omega), k2.1 a (by omega) (by omega), othf a (by omega) (by omega) (by omega) (by omega) (by omega) (by omega) (by omega)]
  · rw [cell a (by omega) (by omega) (by omega) (by omega) (by omega) (by omega), k2.1 a (by omega) (by omega), othf a (by omega) (by omega) (by omega) (by omega) (by omega) (by omega) (by omega)]
  · rw [cell 135 (by omega) (by omega) (by omega) (by omega) (by omega) (by omega), k2.2.2.1 j z, oth _ _ (Or.inr (by omega))]
  · rw [fr2.2.2.2.2.2.1 j z, k2.1 141 (by omega) (by omega), oth _ _ (Or.inr (by omega))]
end FLA
