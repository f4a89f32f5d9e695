/-! leaves -/
def ln_w (co : Bool) (DL : Nat → Nat) (dc : Nat → Nat → Nat) (W : List (List Nat × Nat)) (k : Nat) : List (List Nat × Nat) := if co = true then wr_l 2 (fun j => (de_n (dc k) (DL k)).1.getD j 0) W 0 (de_n (dc k) (DL k)).1.length else wr_l 2 (dc k) W 0 (DL k)
def lf_n (co : Bool) (DL : Nat → Nat) (dc : Nat → Nat → Nat) (W : List (List Nat × Nat)) (b : Nat) : Nat → List (List Nat × Nat)
  | 0 => W
  | n + 1 => ln_w co DL dc (lf_n co DL dc W b n) (b + n)
def co_v (DL : Nat → Nat) (dc : Nat → Nat → Nat) (f t : Nat) : Bool := match hd_v DL dc f t 101 with
  | none => false
  | some e => decide (DL e = 3 ∧ dc e 2 = 104)
def lf_v (DL : Nat → Nat) (dc : Nat → Nat → Nat) (f t : Nat) (W : List (List Nat × Nat)) : List (List Nat × Nat) := lf_n (co_v DL dc f t) DL dc W (bd_v DL f t) (t - bd_v DL f t)
theorem bd_r {DL : Nat → Nat} {f t : Nat} (h : f ≤ t) : f ≤ bd_v DL f t ∧ bd_v DL f t ≤ t := by
  have := el_r (DL := DL) (t - f) f
  unfold bd_v
  by_cases e : el_n DL (t - f) f < t
  · rw [if_pos e]; omega
  · rw [if_neg e]; omega
section LFA
def pa_A (m : Nat) (vv : hp_V) (ww : hp_W) (aa : hp_V) (bb : hp_B) (S : List (List Nat × Nat) × Nat) : Prop := wd_A m vv ww aa bb (S.1, []) ∧ vv (77 + 4 * m) 7 = nI S.2 ∧ ∀ x, x < 40 → fits .char (.int (aa 68 x)) = true
def fr_A (m : Nat) (vv : hp_V) (ww : hp_W) (aa : hp_V) (bb : hp_B) (vv' : hp_V) (ww' : hp_W) (aa' : hp_V) (bb' : hp_B) : Prop :=
  (∀ a k, ¬ (a = 77 + 4 * m ∧ (k = 6 ∨ k = 7)) → ¬ (a = 66 ∧ k = 1) → ¬ (a = 67 ∧ k = 1) → vv' a k = vv a k) ∧ (∀ a, a ≠ 66 → ww' a = ww a) ∧ (∀ a, a ≠ 68 → a ≠ 77 + 4 * m + 3 → aa' a = aa a) ∧ (∀ a, a ≠ 77 + 4 * m + 2 → bb' a = bb a)
variable {m : Nat} {vv v1 v2 : hp_V} {ww w1 w2 : hp_W} {aa a1 a2 : hp_V} {bb b1 b2 : hp_B} {n : Nat} {DL : Nat → Nat} {dc : Nat → Nat → Nat}
theorem fr_Ar : fr_A m vv ww aa bb vv ww aa bb := ⟨fun _ _ _ _ _ => rfl, fun _ _ => rfl, fun _ _ _ => rfl, fun _ _ => rfl⟩
theorem fr_At (h1 : fr_A m vv ww aa bb v1 w1 a1 b1) (h2 : fr_A m v1 w1 a1 b1 v2 w2 a2 b2) : fr_A m vv ww aa bb v2 w2 a2 b2 :=
  ⟨fun a k x y z => (h2.1 a k x y z).trans (h1.1 a k x y z), fun a x => (h2.2.1 a x).trans (h1.2.1 a x), fun a x y => (h2.2.2.1 a x y).trans (h1.2.2.1 a x y), fun a x => (h2.2.2.2 a x).trans (h1.2.2.2 a x)⟩
theorem fr_AL (h : fr_L m vv ww aa bb v1 w1 a1 b1) : fr_A m vv ww aa bb v1 w1 a1 b1 :=
  ⟨fun a k x y _ => h.1 a k (fun z => x ⟨z.1, Or.inl z.2⟩) y, h.2.1, fun a _ y => h.2.2.1 a y, h.2.2.2⟩
theorem dr_Af (hm : m < 12) (h : dr_A vv aa n DL dc) (hf : fr_A m vv ww aa bb v1 w1 a1 b1) : dr_A v1 a1 n DL dc := by
  have h30 := h.1
  exact ⟨h.1, fun k hk => ln_fr (h.2 k hk) (hf.1 _ 1 (by omega) (by omega) (by omega)) (hf.2.2.1 _ (by omega) (by omega))⟩
theorem pt_L (hm : m < 12) {W W' : List (List Nat × Nat)} {lv : Nat} (h : pa_A m vv ww aa bb (W, lv)) (hw : wd_A m v1 w1 a1 b1 (W', [])) (hf : fr_L m vv ww aa bb v1 w1 a1 b1) : pa_A m v1 w1 a1 b1 (W', lv) :=
  ⟨hw, by dsimp only; rw [hf.1 _ 7 (by omega) (by omega)]; exact h.2.1, fun x hx => by rw [hf.2.2.1 68 (by omega)]; exact h.2.2 x hx⟩
theorem lw_A (hm : m < 12) (hd : dr_A vv aa n DL dc) {W : List (List Nat × Nat)} {lv k : Nat} (hk : k < n) (co : Bool) (h : pa_A m vv ww aa bb (W, lv)) {x3 x6 : Int32} {r5 : Option Nat} (kk : m_G → Nat → Option Nat → Int32 → Option Nat → Int32 → Int32 → Option (Unit × m_G)) : ∃ v1 w1 a1 b1, pa_A m v1 w1 a1 b1 (ln_w co DL dc W k, lv) ∧ fr_A m vv ww aa bb v1 w1 a1 b1 ∧ (if co = true then m_bd (f_Reader_decode (hp_mk vv ww aa bb) 65 (some (5 + 2 * k))) (fun v g => f_Reader_readLeaf_78 kk g 65 r5 x3 (some (77 + 4 * m)) x6 (nI k) v) else f_Reader_readLeaf_78 kk (hp_mk vv ww aa bb) 65 r5 x3 (some (77 + 4 * m)) x6 (nI k) (some (5 + 2 * k))) = kk (hp_mk v1 w1 a1 b1) 65 r5 x3 (some (77 + 4 * m)) x6 (nI (k + 1)) := by
  have h30 := hd.1
  have hl := hd.2 k hk
  have hk30 : k < 30 := by omega
  cases co with
  | true =>
    rw [if_pos rfl]
    obtain ⟨x, f', s1, s2, s3⟩ := dd_A (ww := ww) (bb := bb) (isL_d hk30) (by omega) hl h.2.2
    have hw0 : wd_A m (up_v vv 67 1 x) ww (up_a aa 68 f') bb (W, []) := by
      obtain ⟨z1, z2, z3, z4, z5, z6⟩ := h.1
      exact ⟨z1, z2, by rw [uv_i (by omega)]; exact z3, by rw [ua_n (by omega)]; exact z4, z5, by rw [uv_i (by omega)]; exact z6⟩
    obtain ⟨v1, w1, a1, b1, t1, t2, t3⟩ := rr_A hm isL_67 (by omega) (by omega) (f := 2) (k := 0) s3 (Nat.zero_le _) hw0
    have t1' : f_Reader_readLine (hp_mk (up_v vv 67 1 x) ww (up_a aa 68 f') bb) 65 (some 67) 0 (some (77 + 4 * m)) 2 = _ := t1
    refine ⟨v1, w1, a1, b1, ⟨?_, ?_, ?_⟩, fr_At (⟨fun a k z1 z2 z3 => uv_n (by omega), fun _ _ => rfl, fun a z1 z2 => ua_n z1, fun _ _ => rfl⟩ : fr_A m vv ww aa bb (up_v vv 67 1 x) ww (up_a aa 68 f') bb) (fr_AL t3), ?_⟩
    · unfold ln_w; rw [if_pos rfl]; exact t2
    · dsimp only
      rw [t3.1 _ 7 (by omega) (by omega), uv_i (by omega)]; exact h.2.1
    · intro y hy
      rw [t3.2.2.1 68 (by omega), ua_s]; exact s2 y hy
    · rw [s1, bd_s]
      unfold f_Reader_readLeaf_78
      simp only [is_65, gd_t, t1', bd_s, nI_1]
  | false =>
    rw [if_neg (by decide)]
    obtain ⟨v1, w1, a1, b1, t1, t2, t3⟩ := rr_A hm (isL_d hk30) (by omega) (by omega) (f := 2) (k := 0) hl (Nat.zero_le _) h.1
    have t1' : f_Reader_readLine (hp_mk vv ww aa bb) 65 (some (5 + 2 * k)) 0 (some (77 + 4 * m)) 2 = _ := t1
    refine ⟨v1, w1, a1, b1, ?_, fr_AL t3, ?_⟩
    · have := pt_L hm h t2 t3
      unfold ln_w; rw [if_neg (by decide)]; exact this
    · unfold f_Reader_readLeaf_78
      simp only [is_65, gd_t, t1', bd_s, nI_1]
theorem ll_A (hm : m < 12) {W : List (List Nat × Nat)} {lv b t : Nat} (ht : t ≤ n) (co : Bool) : ∀ (fu q : Nat) (vv : hp_V) (ww : hp_W) (aa : hp_V) (bb : hp_B), dr_A vv aa n DL dc → b + q ≤ t → t - (b + q) < fu → pa_A m vv ww aa bb (lf_n co DL dc W b q, lv) → ∃ v1 w1 a1 b1, f_Reader_readLeaf_46 fu (hp_mk vv ww aa bb) 65 (some 3) (nI t) (some (77 + 4 * m)) (iB co) (nI (b + q)) = some ((), hp_mk v1 w1 a1 b1) ∧ pa_A m v1 w1 a1 b1 (lf_n co DL dc W b (t - b), lv) ∧ fr_A m vv ww aa bb v1 w1 a1 b1 := by
  intro fu
  induction fu with
  | zero => intro q vv ww aa bb _ h1 h2; omega
  | succ fu ih =>
    intro q vv ww aa bb hd h1 h2 hw
    have h30 := hd.1
    rw [f_Reader_readLeaf_46]
    by_cases e : b + q = t
    · rw [e, if_pos (nI_le (Nat.le_refl _) (by omega))]
      refine ⟨vv, ww, aa, bb, rfl, ?_, fr_Ar⟩
      rw [show t - b = q by omega]; exact hw
    · rw [if_neg (nI_ge (by omega) (by omega))]
      obtain ⟨v1, w1, a1, b1, t1, t2, t3⟩ := lw_A (x3 := nI t) (x6 := iB co) (r5 := some 3) hm hd (show b + q < n by omega) co hw (f_Reader_readLeaf_46 fu)
      obtain ⟨v2, w2, a2, b2, s1, s2, s3⟩ := ih (q + 1) v1 w1 a1 b1 (dr_Af hm hd t2) (by omega) (by omega) t1
      refine ⟨v2, w2, a2, b2, ?_, s2, fr_At t2 s3⟩
      cases co with
      | true =>
        rw [if_pos rfl] at t3
        rw [if_neg (show ¬ iB true = 0 by decide)]
        simp only [ob_s, gr_3_0, ldR_4 (show b + q < 30 by omega), is_65, gd_t]
        rw [t3]; exact s1
      | false =>
        rw [if_neg (by decide)] at t3
        rw [if_pos (show iB false = 0 from rfl)]
        simp only [ob_s, gr_3_0, ldR_4 (show b + q < 30 by omega)]
        rw [t3]; exact s1
theorem lf_A (hm : m < 12) (hd : dr_A vv aa n DL dc) {W : List (List Nat × Nat)} {lv f t : Nat} (hf : f ≤ t) (ht : t ≤ n) (h : pa_A m vv ww aa bb (W, lv)) : ∃ v1 w1 a1 b1, f_Reader_readLeaf (hp_mk vv ww aa bb) 65 (some 3) (nI (bd_v DL f t)) (nI t) ((hd_v DL dc f t 101).map (fun k => 5 + 2 * k)) (some (77 + 4 * m)) = some ((), hp_mk v1 w1 a1 b1) ∧ pa_A m v1 w1 a1 b1 (lf_v DL dc f t W, lv + 1) ∧ fr_A m vv ww aa bb v1 w1 a1 b1 := by
  have h30 := hd.1
  have hb := bd_r (DL := DL) hf
  have fr0 : fr_A m vv ww aa bb (up_v vv (77 + 4 * m) 7 (nI (lv + 1))) ww aa bb := ⟨fun a k z1 z2 z3 => uv_n (by omega), fun _ _ => rfl, fun _ _ _ => rfl, fun _ _ => rfl⟩
  have hd1 : dr_A (up_v vv (77 + 4 * m) 7 (nI (lv + 1))) aa n DL dc := dr_Af hm hd fr0
  have hp1 : pa_A m (up_v vv (77 + 4 * m) 7 (nI (lv + 1))) ww aa bb (W, lv + 1) := by
    obtain ⟨⟨z1, z2, z3, z4, z5, z6⟩, z7, z8⟩ := h
    exact ⟨⟨z1, z2, by rw [uv_n (by omega)]; exact z3, z4, z5, by rw [uv_i (by omega)]; exact z6⟩, uv_s, z8⟩
  obtain ⟨v1, w1, a1, b1, s1, s2, s3⟩ := ll_A hm (W := W) (b := bd_v DL f t) ht (co_v DL dc f t) m_fu 0 _ ww aa bb hd1 (by omega) (by unfold m_fu; omega) hp1
  refine ⟨v1, w1, a1, b1, ?_, s2, fr_At fr0 s3⟩
  unfold f_Reader_readLeaf
  simp only [ob_s, gI_mk (isI_m hm (k := 7) (by omega) (by omega)), h.2.1, nI_1, pI_mk (isI_m hm (k := 7) (by omega) (by omega))]
  unfold f_Reader_readLeaf_40 f_Reader_readLeaf_41
  cases hh : hd_v DL dc f t 101 with
  | none =>
    have : co_v DL dc f t = false := by unfold co_v; rw [hh]
    rw [this] at s1
    exact s1
  | some e =>
    have hr := hd_vr hf hh
    have he30 : e < 30 := by omega
    have hl := hd1.2 e (by omega)
    have h40 := hl.1
    simp only [Option.map_some, gI_mk (isI_L (isL_d he30)), ob_s, hl.2.1]
    by_cases e3 : DL e = 3
    · rw [if_pos (show nI (DL e) = 3 by rw [e3]; rfl)]
      have ha := at_A (ww := ww) (bb := bb) (isL_d he30) hl (j := 2) (by omega)
      have ha' : f_Line_at (hp_mk (up_v vv (77 + 4 * m) 7 (nI (lv + 1))) ww aa bb) (5 + 2 * e) 2 = _ := ha
      simp only [is_L (isL_d he30), gd_t, ha', if_pos (show 2 < DL e by omega), bd_s]
      have q := (hl.2.2 2 (by omega)).2
      by_cases e4 : dc e 2 = 104
      · rw [if_pos (show nI (dc e 2) = 104 by rw [e4]; rfl)]
        have : co_v DL dc f t = true := by unfold co_v; rw [hh]; exact decide_eq_true ⟨e3, e4⟩
        rw [this] at s1
        exact s1
      · rw [if_neg (show ¬ nI _ = (104 : Int32) from nI_ne (b := 104) (by omega) (by omega) e4)]
        have : co_v DL dc f t = false := by unfold co_v; rw [hh]; exact decide_eq_false (fun z => e4 z.2)
        rw [this] at s1
        exact s1
    · rw [if_neg (show ¬ nI _ = (3 : Int32) from nI_ne (b := 3) (by omega) (by omega) e3)]
      have : co_v DL dc f t = false := by unfold co_v; rw [hh]; exact decide_eq_false (fun z => e3 z.1)
      rw [this] at s1
      exact s1
end LFA
section LFM
def sk_ok (vv aa : hp_V) (st : List (Nat × Nat × Nat)) : Prop := vv 126 6 = nI st.length ∧ ∀ j, j < st.length → aa 129 j = nI (st.getD j (0, 0, 0)).1 ∧ aa 130 j = nI (st.getD j (0, 0, 0)).2.1 ∧ aa 131 j = nI (st.getD j (0, 0, 0)).2.2
def pa_M (m : Nat) (vv : hp_V) (ww : hp_W) (aa : hp_V) (bb : hp_B) (S : List (List Nat × Nat) × Nat) : Prop := wd_M m vv ww aa bb (S.1, []) 0 ∧ aa 138 m = nI S.2
def fr_P (m : Nat) (vv : hp_V) (ww : hp_W) (aa : hp_V) (bb : hp_B) (vv' : hp_V) (ww' : hp_W) (aa' : hp_V) (bb' : hp_B) : Prop :=
  (∀ a k, ¬ (a = 126 ∧ (k = 27 ∨ k = 6)) → vv' a k = vv a k) ∧ (∀ a, a ≠ 126 → ww' a = ww a) ∧ (∀ a, a ≠ 129 → a ≠ 130 → a ≠ 131 → a ≠ 138 → a ≠ 139 → a ≠ 141 → aa' a = aa a) ∧ (∀ j, j ≠ m → aa' 138 j = aa 138 j) ∧ (∀ j, j ≠ m → aa' 139 j = aa 139 j) ∧ (∀ j, (j < 50 * m ∨ 50 * m + 50 ≤ j) → aa' 141 j = aa 141 j) ∧ (∀ a, a ≠ 140 → bb' a = bb a) ∧ (∀ j, (j < 50 * m ∨ 50 * m + 50 ≤ j) → bb' 140 j = bb 140 j)
variable {m : Nat} {vv v1 v2 : hp_V} {ww w1 w2 : hp_W} {aa a1 a2 : hp_V} {bb b1 b2 : hp_B} {n : Nat} {DL : Nat → Nat} {dc : Nat → Nat → Nat}
theorem fr_Pr : fr_P m vv ww aa bb vv ww aa bb := ⟨fun _ _ _ => rfl, fun _ _ => rfl, fun _ _ _ _ _ _ _ => rfl, fun _ _ => rfl, fun _ _ => rfl, fun _ _ => rfl, fun _ _ => rfl, fun _ _ => rfl⟩
theorem fr_Pt (h1 : fr_P m vv ww aa bb v1 w1 a1 b1) (h2 : fr_P m v1 w1 a1 b1 v2 w2 a2 b2) : fr_P m vv ww aa bb v2 w2 a2 b2 :=
  ⟨fun a k x => (h2.1 a k x).trans (h1.1 a k x), fun a x => (h2.2.1 a x).trans (h1.2.1 a x), fun a x1 x2 x3 x4 x5 x6 => (h2.2.2.1 a x1 x2 x3 x4 x5 x6).trans (h1.2.2.1 a x1 x2 x3 x4 x5 x6), fun j x => (h2.2.2.2.1 j x).trans (h1.2.2.2.1 j x), fun j x => (h2.2.2.2.2.1 j x).trans (h1.2.2.2.2.1 j x), fun j x => (h2.2.2.2.2.2.1 j x).trans (h1.2.2.2.2.2.1 j x), fun a x => (h2.2.2.2.2.2.2.1 a x).trans (h1.2.2.2.2.2.2.1 a x), fun j x => (h2.2.2.2.2.2.2.2 j x).trans (h1.2.2.2.2.2.2.2 j x)⟩
theorem fr_PW (h : fr_W m vv ww aa bb v1 w1 a1 b1) : fr_P m vv ww aa bb v1 w1 a1 b1 :=
  ⟨fun a k x => h.1 a k (fun z => x ⟨z.1, Or.inl z.2⟩), h.2.1, fun a _ _ _ _ x5 x6 => h.2.2.1 a x5 x6, fun j _ => by rw [h.2.2.1 138 (by omega) (by omega)], h.2.2.2.1, h.2.2.2.2.1, h.2.2.2.2.2.1, h.2.2.2.2.2.2⟩
theorem dr_Mp (h : dr_M aa n DL dc) (hf : fr_P m vv ww aa bb v1 w1 a1 b1) : dr_M a1 n DL dc := dr_Mf h (hf.2.2.1 127 (by omega) (by omega) (by omega) (by omega) (by omega) (by omega)) (hf.2.2.1 128 (by omega) (by omega) (by omega) (by omega) (by omega) (by omega))
theorem sk_W {st : List (Nat × Nat × Nat)} (h : sk_ok vv aa st) (hf : fr_W m vv ww aa bb v1 w1 a1 b1) : sk_ok v1 a1 st := by
  unfold sk_ok at h ⊢
  rw [hf.1 126 6 (by omega), hf.2.2.1 129 (by omega) (by omega), hf.2.2.1 130 (by omega) (by omega), hf.2.2.1 131 (by omega) (by omega)]
  exact h
theorem lw_M (hm : m < 12) (hd : dr_M aa n DL dc) {W : List (List Nat × Nat)} {k : Nat} (hk : k < n) (co : Bool) (h : wd_M m vv ww aa bb (W, []) 0) : ∃ v1 w1 a1 b1, wd_M m v1 w1 a1 b1 (ln_w co DL dc W k, []) 0 ∧ fr_W m vv ww aa bb v1 w1 a1 b1 ∧ (if co = true then f_Mod_collectCoded (hp_mk vv ww aa bb) 126 (nI k) else f_Mod_collect (hp_mk vv ww aa bb) 126 (nI k) 0 2) = some ((), hp_mk v1 w1 a1 b1) := by
  cases co with
  | true =>
    rw [if_pos rfl]
    obtain ⟨v1, w1, a1, b1, t1, t2, t3⟩ := ce_M hm hk hd h
    refine ⟨v1, w1, a1, b1, ?_, t3, t1⟩
    unfold ln_w; rw [if_pos rfl]; exact t2
  | false =>
    rw [if_neg (by decide)]
    obtain ⟨v1, w1, a1, b1, t1, t2, t3⟩ := cc_M hm hk (f := 2) (k := 0) hd (Nat.zero_le _) h
    refine ⟨v1, w1, a1, b1, ?_, t3, t1⟩
    unfold ln_w; rw [if_neg (by decide)]; exact t2
theorem ll_M (hm : m < 12) {W : List (List Nat × Nat)} {b t : Nat} (ht : t ≤ n) (co : Bool) : ∀ (fu q : Nat) (vv : hp_V) (ww : hp_W) (aa : hp_V) (bb : hp_B), dr_M aa n DL dc → b + q ≤ t → t - (b + q) < fu → wd_M m vv ww aa bb (lf_n co DL dc W b q, []) 0 → ∃ v1 w1 a1 b1, f_Mod_leaf_61 fu (hp_mk vv ww aa bb) 126 (nI t) (iB co) (nI (b + q)) = some ((), hp_mk v1 w1 a1 b1) ∧ wd_M m v1 w1 a1 b1 (lf_n co DL dc W b (t - b), []) 0 ∧ fr_W m vv ww aa bb v1 w1 a1 b1 := by
  intro fu
  induction fu with
  | zero => intro q vv ww aa bb _ h1 h2; omega
  | succ fu ih =>
    intro q vv ww aa bb hd h1 h2 hw
    have h30 := hd.1
    rw [f_Mod_leaf_61]
    unfold f_Mod_leaf_89
    by_cases e : b + q = t
    · rw [e, if_pos (nI_le (Nat.le_refl _) (by omega))]
      refine ⟨vv, ww, aa, bb, rfl, ?_, fr_Wr⟩
      rw [show t - b = q by omega]; exact hw
    · rw [if_neg (nI_ge (by omega) (by omega))]
      obtain ⟨v1, w1, a1, b1, t1, t2, t3⟩ := lw_M hm hd (show b + q < n by omega) co hw
      obtain ⟨v2, w2, a2, b2, s1, s2, s3⟩ := ih (q + 1) v1 w1 a1 b1 (dr_Mf hd (t2.2.2.1 _ (by omega) (by omega)) (t2.2.2.1 _ (by omega) (by omega))) (by omega) (by omega) t1
      refine ⟨v2, w2, a2, b2, ?_, s2, fr_Wt t2 s3⟩
      cases co with
      | true =>
        rw [if_pos rfl] at t3
        rw [if_neg (show ¬ iB true = 0 by decide)]
        simp only [is_126, gd_t, t3, bd_s, nI_1]; exact s1
      | false =>
        rw [if_neg (by decide)] at t3
        rw [if_pos (show iB false = 0 from rfl)]
        simp only [is_126, gd_t, t3, bd_s, nI_1]; exact s1
theorem lf_M (hm : m < 12) (hd : dr_M aa n DL dc) {W : List (List Nat × Nat)} {lv f t : Nat} {st : List (Nat × Nat × Nat)} (hf : f ≤ t) (ht : t ≤ n) (h : pa_M m vv ww aa bb (W, lv)) (hs : sk_ok vv aa st) : ∃ v1 w1 a1 b1, f_Mod_leaf (hp_mk vv ww aa bb) 126 (nI f) (nI (bd_v DL f t)) (nI t) = some ((), hp_mk v1 w1 a1 b1) ∧ pa_M m v1 w1 a1 b1 (lf_v DL dc f t W, lv + 1) ∧ sk_ok v1 a1 st ∧ fr_P m vv ww aa bb v1 w1 a1 b1 := by
  have h30 := hd.1
  have hb := bd_r (DL := DL) hf
  have fr0 : fr_P m vv ww aa bb vv ww (up_a aa 138 (upd (aa 138) m (nI (lv + 1)))) bb := ⟨fun _ _ _ => rfl, fun _ _ => rfl, fun a _ _ _ x _ _ => ua_n x, fun j x => by rw [ua_s, pk_un x], fun j _ => by rw [ua_n (by omega)], fun j _ => by rw [ua_n (by omega)], fun _ _ => rfl, fun _ _ => rfl⟩
  have hd1 : dr_M (up_a aa 138 (upd (aa 138) m (nI (lv + 1)))) n DL dc := dr_Mp hd fr0
  have hw1 : wd_M m vv ww (up_a aa 138 (upd (aa 138) m (nI (lv + 1)))) bb (W, []) 0 := by
    obtain ⟨z1, z2, z3, z4, z5, z6⟩ := h.1
    exact ⟨z1, z2, z3, by rw [ua_n (by omega)]; exact z4, by rw [ua_n (by omega)]; exact z5, z6⟩
  have hs1 : sk_ok vv (up_a aa 138 (upd (aa 138) m (nI (lv + 1)))) st := by
    unfold sk_ok at hs ⊢
    rw [ua_n (by omega), ua_n (by omega), ua_n (by omega)]; exact hs
  obtain ⟨v1, w1, a1, b1, s1, s2, s3⟩ := ll_M hm (W := W) (b := bd_v DL f t) ht (co_v DL dc f t) m_fu 0 _ ww _ bb hd1 (by omega) (by unfold m_fu; omega) hw1
  refine ⟨v1, w1, a1, b1, ?_, ⟨s2, ?_⟩, sk_W hs1 s3, fr_Pt fr0 (fr_PW s3)⟩
  · have h138 : aa 138 m = nI lv := h.2
    unfold f_Mod_leaf
    simp only [gr_126_14, gi_126_18, ob_s, h.1.2.2.1, ld_138 hm, h138, st_138 hm, nI_1]
    have eh := hd_M (vv := vv) (ww := ww) (bb := bb) hd1 (key := 101) hf ht (by omega)
    have eh' : f_Mod_header (hp_mk vv ww (up_a aa 138 (upd (aa 138) m (nI (lv + 1)))) bb) 126 (nI f) (nI t) 101 = _ := eh
    unfold f_Mod_leaf_55 f_Mod_leaf_56
    simp only [is_126, gd_t, eh', bd_s]
    cases hh : hd_v DL dc f t 101 with
    | none =>
      rw [if_pos (show th_enc none < 0 by decide)]
      have : co_v DL dc f t = false := by unfold co_v; rw [hh]
      rw [this] at s1
      exact s1
    | some e =>
      have hr := hd_vr hf hh
      have hl := hd1.2 e (by omega)
      rw [if_neg (show ¬ th_enc (some e) < 0 from nI_pos (by omega))]
      have el : m_ld (hp_mk vv ww (up_a aa 138 (upd (aa 138) m (nI (lv + 1)))) bb) 128 0 (th_enc (some e)) = some (up_a aa 138 (upd (aa 138) m (nI (lv + 1))) 128 e) := ld_128 (by omega)
      simp only [gr_126_1, ob_s, el, hl.2.1]
      by_cases e3 : DL e = 3
      · rw [if_pos (show nI (DL e) = 3 by rw [e3]; rfl)]
        have ha := at_M (vv := vv) (ww := ww) (bb := bb) hd1 (show e < n by omega) (j := 2) (by omega)
        have ha' : f_Mod_at (hp_mk vv ww (up_a aa 138 (upd (aa 138) m (nI (lv + 1)))) bb) 126 (th_enc (some e)) 2 = _ := ha
        simp only [is_126, gd_t, ha', bd_s]
        have q := (hl.2.2 2 (by omega)).2
        by_cases e4 : dc e 2 = 104
        · rw [if_pos (show nI (dc e 2) = 104 by rw [e4]; rfl)]
          have : co_v DL dc f t = true := by unfold co_v; rw [hh]; exact decide_eq_true ⟨e3, e4⟩
          rw [this] at s1
          exact s1
        · rw [if_neg (show ¬ nI _ = (104 : Int32) from nI_ne (b := 104) (by omega) (by omega) e4)]
          have : co_v DL dc f t = false := by unfold co_v; rw [hh]; exact decide_eq_false (fun z => e4 z.2)
          rw [this] at s1
          exact s1
      · rw [if_neg (show ¬ nI _ = (3 : Int32) from nI_ne (b := 3) (by omega) (by omega) e3)]
        have : co_v DL dc f t = false := by unfold co_v; rw [hh]; exact decide_eq_false (fun z => e3 z.1)
        rw [this] at s1
        exact s1
  · dsimp only
    rw [s3.2.2.1 138 (by omega) (by omega), ua_s, pk_us]
end LFM
