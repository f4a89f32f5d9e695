/-! references -/
def rr_n (c : Nat → Nat) (len : Nat) : Nat → Nat → List Nat → Option (List Nat)
  | 0, _, _ => none
  | q + 1, f, R => match nu_v c f (bl_n c (len - f) f) with
    | none => none
    | some x => if bl_n c (len - f) f = len then some (R ++ [x]) else rr_n c len q (bl_n c (len - f) f + 1) (R ++ [x])
theorem rr_s {c : Nat → Nat} {len q f : Nat} {R : List Nat} : rr_n c len (q + 1) f R = match nu_v c f (bl_n c (len - f) f) with
    | none => none
    | some x => if bl_n c (len - f) f = len then some (R ++ [x]) else rr_n c len q (bl_n c (len - f) f + 1) (R ++ [x]) := rfl
theorem rr_ok {c : Nat → Nat} {len : Nat} : ∀ (q f : Nat) (R L : List Nat), rr_n c len q f R = some L → R.length + q ≤ 4 → (∀ x ∈ R, x < 64) → L.length ≤ 4 ∧ ∀ x ∈ L, x < 64 := by
  intro q
  induction q with
  | zero => intro f R L h; cases h
  | succ q ih =>
    intro f R L h h4 hR
    rw [rr_s] at h
    cases hx : nu_v c f (bl_n c (len - f) f) with
    | none => rw [hx] at h; cases h
    | some x =>
      have hx64 := nu_lt hx
      rw [hx] at h
      dsimp only at h
      have hR2 : ∀ y ∈ R ++ [x], y < 64 := fun y hy => by
        rcases List.mem_append.mp hy with a | a
        · exact hR y a
        · rw [List.mem_singleton.mp a]; exact hx64
      by_cases e : bl_n c (len - f) f = len
      · rw [if_pos e] at h; cases h
        exact ⟨by rw [List.length_append, List.length_singleton]; omega, hR2⟩
      · rw [if_neg e] at h
        exact ih _ _ _ h (by rw [List.length_append, List.length_singleton]; omega) hR2
def rf_l (c : Nat → Nat) (len : Nat) : List Nat := (rr_n c len 4 2 []).getD []
theorem rf_ok {c : Nat → Nat} {len : Nat} : (rf_l c len).length ≤ 4 ∧ ∀ x ∈ rf_l c len, x < 64 := by
  unfold rf_l
  cases h : rr_n c len 4 2 [] with
  | none => exact ⟨by decide, fun x hx => (by cases hx)⟩
  | some L => exact rr_ok 4 2 [] L h (by decide) (fun x hx => by cases hx)
def rl_v (DL : Nat → Nat) (dc : Nat → Nat → Nat) (n : Nat) : List Nat := match hd_v DL dc 0 n 114 with
  | none => []
  | some k => rf_l (dc k) (DL k)
theorem rl_ok {DL : Nat → Nat} {dc : Nat → Nat → Nat} {n : Nat} : (rl_v DL dc n).length ≤ 4 ∧ ∀ x ∈ rl_v DL dc n, x < 64 := by
  unfold rl_v
  cases hd_v DL dc 0 n 114 with
  | none => exact ⟨Nat.zero_le 4, fun x hx => (by cases hx)⟩
  | some k => exact rf_ok
section RFA
variable {m : Nat} {vv : hp_V} {ww : hp_W} {aa : hp_V} {bb : hp_B} {n : Nat} {DL : Nat → Nat} {dc : Nat → Nat → Nat}
theorem rr_C (hm : m < 12) {a len : Nat} {c : Nat → Nat} (ha : hp_isL a = true) (ha2 : a < 66) : ∀ (fu q f : Nat) (R : List Nat) (aa : hp_V), ln_A vv aa a len c → R.length + q = 4 → q < fu → f ≤ len → (∀ j, j < R.length → aa (77 + 4 * m + 1) j = nI (R.getD j 0)) → ∃ f', f_Message_readReferences_4 fu (hp_mk vv ww aa bb) (77 + 4 * m) (some a) (nI f) (nI R.length) = some (nI ((rr_n c len q f R).getD []).length, hp_mk vv ww (up_a aa (77 + 4 * m + 1) f') bb) ∧ ∀ j, j < ((rr_n c len q f R).getD []).length → f' j = nI (((rr_n c len q f R).getD []).getD j 0) := by
  intro fu
  induction fu with
  | zero => intro q f R aa _ _ h; omega
  | succ fu ih =>
    intro q f R aa hl h4 hq hf hR
    have h40 := hl.1
    rw [f_Message_readReferences_4]
    cases q with
    | zero =>
      rw [if_pos (show (4 : Int32) ≤ nI R.length from nI_le (a := 4) (by omega) (by omega))]
      exact ⟨aa (77 + 4 * m + 1), by rw [ua_id]; rfl, fun j hj => absurd hj (Nat.not_lt_zero j)⟩
    | succ q =>
      rw [if_neg (show ¬ (4 : Int32) ≤ nI R.length from nI_ge (b := 4) (by omega) (by omega)), rr_s]
      have br := bl_r (c := c) (len - f) f
      have e1 : f_Line_blankFrom (hp_mk vv ww aa bb) a (nI f) = some (nI (bl_n c (len - f) f), hp_mk vv ww aa bb) := bl_A ha hl m_fu f hf (by unfold m_fu; omega)
      have e2 := ib_A (ww := ww) (bb := bb) ha hl (f := f) (t := bl_n c (len - f) f) br.1 (by omega) (fun z => br.2.2 (by omega))
      simp only [ob_s, is_L ha, gd_t, e1, bd_s, e2]
      cases hx : nu_v c f (bl_n c (len - f) f) with
      | none =>
        rw [if_neg (by decide)]
        exact ⟨aa (77 + 4 * m + 1), by rw [ua_id]; rfl, fun j hj => absurd hj (Nat.not_lt_zero j)⟩
      | some x =>
        have hx64 := nu_lt hx
        rw [if_pos (show (0 : Int32) ≤ th_enc (some x) from nI_pos' (by omega))]
        dsimp only
        have hr4 : R.length < 4 := by omega
        have el : m_gI (hp_mk vv ww (up_a aa (77 + 4 * m + 1) (upd (aa (77 + 4 * m + 1)) R.length (th_enc (some x)))) bb) a 1 1 = some (nI len) := by rw [gI_mk (isI_L ha), hl.2.1]
        simp only [gR_mk (ref_m hm (k := 0) (by omega)), ob_s, st_n (i := 77 + 4 * m + 1 + 0) (sk_m1 hm) hr4 (by omega), Nat.add_zero, el, nI_1]
        have hR2 : ∀ j, j < (R ++ [x]).length → upd (aa (77 + 4 * m + 1)) R.length (th_enc (some x)) j = nI ((R ++ [x]).getD j 0) := fun j hj => by
          rw [List.length_append, List.length_singleton] at hj
          rw [getD_app]
          by_cases e : j < R.length
          · rw [if_pos e, pk_un (by omega)]; exact hR j e
          · rw [if_neg e, if_pos (by omega), show j = R.length by omega, pk_us]; rfl
        by_cases e : bl_n c (len - f) f = len
        · rw [if_pos (by rw [e]), if_pos e]
          refine ⟨upd (aa (77 + 4 * m + 1)) R.length (th_enc (some x)), ?_, hR2⟩
          show some (nI (R.length + 1), _) = some (nI (R ++ [x]).length, _)
          rw [List.length_append]; rfl
        · rw [if_neg (nI_ne (by omega) (by omega) e), if_neg e]
          obtain ⟨f', s1, s2⟩ := ih q (bl_n c (len - f) f + 1) (R ++ [x]) (up_a aa (77 + 4 * m + 1) (upd (aa (77 + 4 * m + 1)) R.length (th_enc (some x)))) (ln_fr hl rfl (ua_n (by omega))) (by rw [List.length_append, List.length_singleton]; omega) (by omega) (by omega) (fun j hj => by rw [ua_s]; exact hR2 j hj)
          rw [ua_u, List.length_append, List.length_singleton] at s1
          exact ⟨f', s1, s2⟩
theorem sr_A (hm : m < 12) (hd : dr_A vv aa n DL dc) : ∃ f', f_Message_setReferences (hp_mk vv ww aa bb) (77 + 4 * m) ((hd_v DL dc 0 n 114).map (fun k => 5 + 2 * k)) = some ((), hp_mk (up_v vv (77 + 4 * m) 5 (nI (rl_v DL dc n).length)) ww (up_a aa (77 + 4 * m + 1) f') bb) ∧ ∀ j, j < (rl_v DL dc n).length → f' j = nI ((rl_v DL dc n).getD j 0) := by
  unfold f_Message_setReferences f_Message_setReferences_14 rl_v
  cases hh : hd_v DL dc 0 n 114 with
  | none =>
    refine ⟨aa (77 + 4 * m + 1), ?_, fun j hj => absurd hj (Nat.not_lt_zero j)⟩
    rw [ua_id]
    simp only [Option.map_none, ob_s, pI_mk (isI_m hm (k := 5) (by omega) (by omega))]
    rfl
  | some k =>
    have h30 := hd.1
    have hr := hd_vr (by omega) hh
    have hk30 : k < 30 := by omega
    obtain ⟨f', s1, s2⟩ := rr_C (ww := ww) (bb := bb) hm (isL_d hk30) (by omega) m_fu 4 2 [] aa (hd.2 k hr.2.1) rfl (by unfold m_fu; omega) hr.2.2 (fun j hj => absurd hj (Nat.not_lt_zero j))
    have s1' : f_Message_readReferences (hp_mk vv ww aa bb) (77 + 4 * m) (some (5 + 2 * k)) = some (nI (rf_l (dc k) (DL k)).length, hp_mk vv ww (up_a aa (77 + 4 * m + 1) f') bb) := s1
    refine ⟨f', ?_, s2⟩
    simp only [Option.map_some, is_m hm, gd_t, s1', bd_s, ob_s, pI_mk (isI_m hm (k := 5) (by omega) (by omega))]
end RFA
section RFM
variable {m : Nat} {vv : hp_V} {ww : hp_W} {aa : hp_V} {bb : hp_B} {n : Nat} {DL : Nat → Nat} {dc : Nat → Nat → Nat}
def rm_r (m : Nat) (aa a1 : hp_V) (L : List Nat) : Prop := (∀ a, a ≠ 135 → a ≠ 136 → a1 a = aa a) ∧ (∀ j, j ≠ m → a1 136 j = aa 136 j) ∧ (∀ j, (j < 4 * m ∨ 4 * m + 4 ≤ j) → a1 135 j = aa 135 j) ∧ a1 136 m = nI L.length ∧ ∀ j, j < L.length → a1 135 (4 * m + j) = nI (L.getD j 0)
theorem rm_up {L : List Nat} {a1 : hp_V} {p : Nat} {y : Int32} (hp : p < 4) (h : rm_r m (up_a aa 135 (upd (aa 135) (4 * m + p) y)) a1 L) : rm_r m aa a1 L :=
  ⟨fun a x1 x2 => by rw [h.1 a x1 x2, ua_n x1], fun j x => by rw [h.2.1 j x, ua_n (by omega)], fun j x => by rw [h.2.2.1 j x, ua_s, pk_un (by omega)], h.2.2.2.1, h.2.2.2.2⟩
theorem rx_M (hm : m < 12) (hd : dr_M aa n DL dc) {l : Nat} (hl : l < n) {p : Nat} (hp : p ≤ 4) {x4 : Int32} {g : Bool} (fu : Nat) (L : List Nat) (hL : if g = true then L.length = p ∧ ∀ j, j < L.length → aa 135 (4 * m + j) = nI (L.getD j 0) else L = []) : ∃ a1, f_Mod_readReferences_11 (fu + 1) (hp_mk vv ww aa bb) 126 (nI m) (nI l) (nI p) x4 (iB g) (nI (DL l + 1)) = some ((), hp_mk vv ww a1 bb) ∧ rm_r m aa a1 L := by
  have h30 := hd.1
  have hdl := hd.2 l hl
  rw [f_Mod_readReferences_11]
  unfold f_Mod_readReferences_122
  simp only [gr_126_1, ob_s, ld_128 (show l < 31 by omega), hdl.2.1, gr_126_12]
  rw [if_pos (nI_lt (Nat.lt_succ_self _) (by omega))]
  have mk : ∀ y, L.length = y → (∀ j, j < L.length → aa 135 (4 * m + j) = nI (L.getD j 0)) → rm_r m aa (up_a aa 136 (upd (aa 136) m (nI y))) L := fun y z1 z2 => ⟨fun a _ x => ua_n x, fun j x => by rw [ua_s, pk_un x], fun j _ => by rw [ua_n (by omega)], by rw [ua_s, pk_us, z1], fun j hj => by rw [ua_n (by omega)]; exact z2 j hj⟩
  cases g with
  | true =>
    rw [if_pos rfl] at hL
    rw [if_neg (show ¬ iB true = 0 by decide)]
    exact ⟨_, by rw [st_136 hm]; rfl, mk p hL.1 hL.2⟩
  | false =>
    rw [if_neg (by decide)] at hL
    subst hL
    rw [if_pos (show iB false = 0 from rfl)]
    refine ⟨_, ?_, mk 0 rfl (fun j hj => absurd hj (Nat.not_lt_zero j))⟩
    rw [st_136 hm]; rfl
theorem rb_M (hm : m < 12) {l : Nat} (hl : l < n) : ∀ (fu k f p : Nat) (aa : hp_V), dr_M aa n DL dc → f ≤ k → k ≤ DL l + 1 → DL l + 1 - k < fu → p ≤ 4 → ∃ a1, f_Mod_readReferences_11 fu (hp_mk vv ww aa bb) 126 (nI m) (nI l) (nI p) (nI f) 0 (nI k) = some ((), hp_mk vv ww a1 bb) ∧ rm_r m aa a1 [] := by
  intro fu
  induction fu with
  | zero => intro k f p aa _ _ h1 h2; omega
  | succ fu ih =>
    intro k f p aa hd hf h1 h2 hp
    have h30 := hd.1
    have hdl := hd.2 l hl
    by_cases e : k = DL l + 1
    · rw [e]; exact rx_M (g := false) hm hd hl hp fu [] rfl
    · rw [f_Mod_readReferences_11]
      simp only [gr_126_1, ob_s, ld_128 (show l < 31 by omega), hdl.2.1]
      rw [if_neg (nI_nlt (by omega) (by omega))]
      have tok : ∃ a1, f_Mod_readReferences_48 (f_Mod_readReferences_11 fu) (hp_mk vv ww aa bb) 126 (nI m) (nI l) (nI p) (nI f) 0 (nI k) = some ((), hp_mk vv ww a1 bb) ∧ rm_r m aa a1 [] := by
        unfold f_Mod_readReferences_48 f_Mod_readReferences_69 f_Mod_readReferences_87 f_Mod_readReferences_95 f_Mod_readReferences_101
        simp only [is_126, gd_t, nu_M hd hl hf (show k ≤ DL l by omega), bd_s, nI_1]
        have cont : ∀ (aa' : hp_V), dr_M aa' n DL dc → ∃ a1, (if (4 : Int32) ≤ nI p then f_Mod_readReferences_11 fu (hp_mk vv ww aa' bb) 126 (nI m) (nI l) (nI p) (nI (k + 1)) 0 (nI (k + 1)) else f_Mod_readReferences_11 fu (hp_mk vv ww aa' bb) 126 (nI m) (nI l) (nI (p + 1)) (nI (k + 1)) 0 (nI (k + 1))) = some ((), hp_mk vv ww a1 bb) ∧ rm_r m aa' a1 [] := fun aa' hd' => by
          by_cases p4 : p = 4
          · rw [if_pos (show (4 : Int32) ≤ nI p by rw [p4]; decide)]
            exact ih (k + 1) (k + 1) p aa' hd' (Nat.le_refl _) (by omega) (by omega) hp
          · rw [if_neg (show ¬ (4 : Int32) ≤ nI p from nI_ge (b := 4) (by omega) (by omega))]
            exact ih (k + 1) (k + 1) (p + 1) aa' hd' (Nat.le_refl _) (by omega) (by omega) (by omega)
        cases hx : nu_v (dc l) f k with
        | none =>
          rw [if_pos (show th_enc none < 0 by decide)]
          exact cont aa hd
        | some x =>
          have hx64 := nu_lt hx
          rw [if_neg (show ¬ th_enc (some x) < 0 from nI_pos (by omega))]
          by_cases p4 : p = 4
          · rw [if_pos (show nI p = 4 by rw [p4]; rfl)]
            exact cont aa hd
          · rw [if_neg (show ¬ nI p = (4 : Int32) from nI_ne (b := 4) (by omega) (by omega) p4)]
            have e4 : (4 : Int32) * nI m + nI p = nI (4 * m + p) := by rw [show (4 : Int32) = nI 4 from rfl, pk_mul, nI_add]
            simp only [gr_126_11, ob_s, e4, st_135 (show 4 * m + p < 48 by omega)]
            obtain ⟨a1, z1, z2⟩ := cont (up_a aa 135 (upd (aa 135) (4 * m + p) (th_enc (some x)))) (dr_Mf hd (ua_n (by omega)) (ua_n (by omega)))
            exact ⟨a1, z1, rm_up (by omega) z2⟩
      by_cases ek : k = DL l
      · rw [if_pos (nI_le (by omega) (by omega))]
        exact tok
      · rw [if_neg (nI_ge (by omega) (by omega))]
        simp only [is_126, gd_t, at_M hd hl (show k < DL l by omega), bd_s]
        have q := (hdl.2.2 k (by omega)).2
        by_cases e32 : dc l k = 32
        · rw [if_pos (show nI (dc l k) = 32 by rw [e32]; rfl)]
          exact tok
        · rw [if_neg (show ¬ nI _ = (32 : Int32) from nI_ne (b := 32) (by omega) (by omega) e32)]
          unfold f_Mod_readReferences_101
          rw [nI_1]
          exact ih (k + 1) f p aa hd (by omega) (by omega) (by omega) hp
theorem rg_M (hm : m < 12) {l : Nat} (hl : l < n) : ∀ (fu k f q : Nat) (R : List Nat) (aa : hp_V), dr_M aa n DL dc → f ≤ k → k ≤ DL l → DL l + 1 - k < fu → R.length + q = 4 → bl_n (dc l) (DL l - f) f = bl_n (dc l) (DL l - k) k → (∀ j, j < R.length → aa 135 (4 * m + j) = nI (R.getD j 0)) → ∃ a1, f_Mod_readReferences_11 fu (hp_mk vv ww aa bb) 126 (nI m) (nI l) (nI R.length) (nI f) 1 (nI k) = some ((), hp_mk vv ww a1 bb) ∧ rm_r m aa a1 ((rr_n (dc l) (DL l) q f R).getD []) := by
  intro fu
  induction fu with
  | zero => intro k f q R aa _ _ h1 h2; omega
  | succ fu ih =>
    intro k f q R aa hd hf h1 h2 h4 hbl hR
    have h30 := hd.1
    have hdl := hd.2 l hl
    rw [f_Mod_readReferences_11]
    simp only [gr_126_1, ob_s, ld_128 (show l < 31 by omega), hdl.2.1]
    rw [if_neg (nI_nlt (by omega) (by omega))]
    have tok : bl_n (dc l) (DL l - f) f = k → ∃ a1, f_Mod_readReferences_48 (f_Mod_readReferences_11 fu) (hp_mk vv ww aa bb) 126 (nI m) (nI l) (nI R.length) (nI f) 1 (nI k) = some ((), hp_mk vv ww a1 bb) ∧ rm_r m aa a1 ((rr_n (dc l) (DL l) q f R).getD []) := fun hb => by
      unfold f_Mod_readReferences_48 f_Mod_readReferences_69 f_Mod_readReferences_87 f_Mod_readReferences_95 f_Mod_readReferences_101
      simp only [is_126, gd_t, nu_M hd hl hf h1, bd_s, nI_1]
      have bad : ∃ a1, (if (4 : Int32) ≤ nI R.length then f_Mod_readReferences_11 fu (hp_mk vv ww aa bb) 126 (nI m) (nI l) (nI R.length) (nI (k + 1)) 0 (nI (k + 1)) else f_Mod_readReferences_11 fu (hp_mk vv ww aa bb) 126 (nI m) (nI l) (nI (R.length + 1)) (nI (k + 1)) 0 (nI (k + 1))) = some ((), hp_mk vv ww a1 bb) ∧ rm_r m aa a1 [] := by
        by_cases p4 : R.length = 4
        · rw [if_pos (show (4 : Int32) ≤ nI R.length by rw [p4]; decide)]
          exact rb_M hm hl fu (k + 1) (k + 1) R.length aa hd (Nat.le_refl _) (by omega) (by omega) (by omega)
        · rw [if_neg (show ¬ (4 : Int32) ≤ nI R.length from nI_ge (b := 4) (by omega) (by omega))]
          exact rb_M hm hl fu (k + 1) (k + 1) (R.length + 1) aa hd (Nat.le_refl _) (by omega) (by omega) (by omega)
      cases hx : nu_v (dc l) f k with
      | none =>
        rw [if_pos (show th_enc none < 0 by decide)]
        have : (rr_n (dc l) (DL l) q f R).getD [] = [] := by
          cases q with
          | zero => rfl
          | succ q => rw [rr_s, hb, hx]; rfl
        rw [this]
        exact bad
      | some x =>
        have hx64 := nu_lt hx
        rw [if_neg (show ¬ th_enc (some x) < 0 from nI_pos (by omega))]
        cases q with
        | zero =>
          rw [if_pos (show nI R.length = 4 by rw [show R.length = 4 by omega]; rfl)]
          exact bad
        | succ q =>
          have hr4 : R.length < 4 := by omega
          rw [if_neg (show ¬ nI R.length = (4 : Int32) from nI_ne (b := 4) (by omega) (by omega) (by omega))]
          have e4 : (4 : Int32) * nI m + nI R.length = nI (4 * m + R.length) := by rw [show (4 : Int32) = nI 4 from rfl, pk_mul, nI_add]
          simp only [gr_126_11, ob_s, e4, st_135 (show 4 * m + R.length < 48 by omega), if_neg (show ¬ (4 : Int32) ≤ nI R.length from nI_ge (b := 4) (by omega) (by omega))]
          have hd2 : dr_M (up_a aa 135 (upd (aa 135) (4 * m + R.length) (th_enc (some x)))) n DL dc := dr_Mf hd (ua_n (by omega)) (ua_n (by omega))
          have hR2 : ∀ j, j < (R ++ [x]).length → up_a aa 135 (upd (aa 135) (4 * m + R.length) (th_enc (some x))) 135 (4 * m + j) = nI ((R ++ [x]).getD j 0) := fun j hj => by
            rw [List.length_append, List.length_singleton] at hj
            rw [getD_app, ua_s]
            by_cases e : j < R.length
            · rw [if_pos e, pk_un (by omega)]; exact hR j e
            · rw [if_neg e, if_pos (by omega), show j = R.length by omega, pk_us]; rfl
          rw [rr_s, hb, hx]
          dsimp only
          by_cases ek : k = DL l
          · rw [if_pos ek, ek]
            obtain ⟨fu, rfl⟩ : ∃ f', fu = f' + 1 := ⟨fu - 1, by omega⟩
            obtain ⟨a1, z1, z2⟩ := rx_M (vv := vv) (ww := ww) (bb := bb) (g := true) (x4 := nI (DL l + 1)) hm hd2 hl (p := R.length + 1) (by omega) fu (R ++ [x]) (by rw [if_pos rfl]; exact ⟨by rw [List.length_append]; rfl, hR2⟩)
            exact ⟨a1, z1, rm_up hr4 z2⟩
          · rw [if_neg ek]
            obtain ⟨a1, z1, z2⟩ := ih (k + 1) (k + 1) q (R ++ [x]) _ hd2 (Nat.le_refl _) (by omega) (by omega) (by rw [List.length_append, List.length_singleton]; omega) rfl hR2
            rw [List.length_append, List.length_singleton] at z1
            exact ⟨a1, z1, rm_up hr4 z2⟩
    by_cases ek : k = DL l
    · rw [if_pos (nI_le (by omega) (by omega))]
      exact tok (by rw [hbl, ek, Nat.sub_self]; rfl)
    · rw [if_neg (nI_ge (by omega) (by omega))]
      simp only [is_126, gd_t, at_M hd hl (show k < DL l by omega), bd_s]
      have q' := (hdl.2.2 k (by omega)).2
      have hs : bl_n (dc l) (DL l - k) k = if dc l k = 32 then k else bl_n (dc l) (DL l - (k + 1)) (k + 1) := by
        rw [show DL l - k = (DL l - (k + 1)) + 1 by omega, bl_s]
      by_cases e32 : dc l k = 32
      · rw [if_pos (show nI (dc l k) = 32 by rw [e32]; rfl)]
        exact tok (by rw [hbl, hs, if_pos e32])
      · rw [if_neg (show ¬ nI _ = (32 : Int32) from nI_ne (b := 32) (by omega) (by omega) e32)]
        unfold f_Mod_readReferences_101
        rw [nI_1]
        exact ih (k + 1) f q R aa hd (by omega) (by omega) (by omega) h4 (by rw [hbl, hs, if_neg e32]) hR
theorem rd_M (hm : m < 12) (hd : dr_M aa n DL dc) {l : Nat} (hl : l < n) (h2 : 2 ≤ DL l) : ∃ a1, f_Mod_readReferences (hp_mk vv ww aa bb) 126 (nI m) (nI l) = some ((), hp_mk vv ww a1 bb) ∧ rm_r m aa a1 (rf_l (dc l) (DL l)) := by
  have h40 := (hd.2 l hl).1
  exact rg_M hm hl m_fu 2 2 4 [] aa hd (Nat.le_refl _) h2 (by unfold m_fu; omega) rfl rfl (fun j hj => absurd hj (Nat.not_lt_zero j))
end RFM
