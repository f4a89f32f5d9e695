/-! words: the reference; decoding on both sides -/
section WDM
def wd_M (m : Nat) (vv : hp_V) (ww : hp_W) (aa : hp_V) (bb : hp_B) (S : List (List Nat × Nat) × List Nat) (q : Nat) : Prop := wd_ok S.1 ∧ ls_ok S.2 ∧ vv 126 18 = nI m ∧ aa 139 m = nI S.1.length ∧ (∀ j, j < S.1.length → bb 140 (50 * m + j) = lN (cw_val (S.1.getD j ([], 0)).1) ∧ aa 141 (50 * m + j) = nI (S.1.getD j ([], 0)).2) ∧ ww 126 = lN (cw_val S.2) ∧ ∃ ct, ct ≤ q ∧ S.2.length = min ct 12 ∧ vv 126 27 = nI ct
def fr_W (m : Nat) (vv : hp_V) (ww : hp_W) (aa : hp_V) (bb : hp_B) (vv' : hp_V) (ww' : hp_W) (aa' : hp_V) (bb' : hp_B) : Prop :=
  (∀ a k, ¬ (a = 126 ∧ k = 27) → vv' a k = vv a k) ∧ (∀ a, a ≠ 126 → ww' a = ww a) ∧ (∀ a, a ≠ 139 → a ≠ 141 → aa' a = aa a) ∧ (∀ j, j ≠ m → aa' 139 j = aa 139 j) ∧ (∀ j, (j < 50 * m ∨ 50 * m + 50 ≤ j) → aa' 141 j = aa 141 j) ∧ (∀ a, a ≠ 140 → bb' a = bb a) ∧ (∀ j, (j < 50 * m ∨ 50 * m + 50 ≤ j) → bb' 140 j = bb 140 j)
variable {m : Nat} {vv v1 v2 : hp_V} {ww w1 w2 : hp_W} {aa a1 a2 : hp_V} {bb b1 b2 : hp_B}
theorem fr_Wr : fr_W m vv ww aa bb vv ww aa bb := ⟨fun _ _ _ => rfl, fun _ _ => rfl, fun _ _ _ => rfl, fun _ _ => rfl, fun _ _ => rfl, fun _ _ => rfl, fun _ _ => rfl⟩
theorem fr_Wt (h1 : fr_W m vv ww aa bb v1 w1 a1 b1) (h2 : fr_W m v1 w1 a1 b1 v2 w2 a2 b2) : fr_W m vv ww aa bb v2 w2 a2 b2 :=
  ⟨fun a k x => (h2.1 a k x).trans (h1.1 a k x), fun a x => (h2.2.1 a x).trans (h1.2.1 a x), fun a x y => (h2.2.2.1 a x y).trans (h1.2.2.1 a x y), fun j x => (h2.2.2.2.1 j x).trans (h1.2.2.2.1 j x), fun j x => (h2.2.2.2.2.1 j x).trans (h1.2.2.2.2.1 j x), fun a x => (h2.2.2.2.2.2.1 a x).trans (h1.2.2.2.2.2.1 a x), fun j x => (h2.2.2.2.2.2.2 j x).trans (h1.2.2.2.2.2.2 j x)⟩
theorem dr_Mf {n : Nat} {DL : Nat → Nat} {dc : Nat → Nat → Nat} (h : dr_M aa n DL dc) (h1 : a1 127 = aa 127) (h2 : a1 128 = aa 128) : dr_M a1 n DL dc := by
  unfold dr_M at h ⊢; rw [h1, h2]; exact h
variable {W : List (List Nat × Nat)} {ls : List Nat}
theorem lt_disp {g : m_G} {c : Nat} (h : c < 256) {x : Int32} : f_Mod_letter g 126 (nI c) x = f_Mod_letter_43 g 126 x (nI (lt_n c)) := by
  have t : ∀ c, c < 256 → (if (nI c : Int32) < 97 then (if (nI c : Int32) < 65 then (0 : Int32) else if (90 : Int32) < nI c then 0 else nI c - 65 + 1) else if (122 : Int32) < nI c then (if (nI c : Int32) < 65 then (0 : Int32) else if (90 : Int32) < nI c then 0 else nI c - 65 + 1) else nI c - 97 + 1) = nI (lt_n c) := by decide +kernel
  rw [← t c h]
  unfold f_Mod_letter f_Mod_letter_21 f_Mod_letter_42
  by_cases a1 : nI c < 97 <;> by_cases a2 : (122 : Int32) < nI c <;> by_cases a3 : nI c < 65 <;> by_cases a4 : (90 : Int32) < nI c <;> simp only [a1, a2, a3, a4, if_true, if_false]
theorem ml_M (hm : m < 12) {S : List (List Nat × Nat) × List Nat} {q : Nat} (hq : q ≤ 1000) (h : wd_M m vv ww aa bb S q) {c f : Nat} (hc : c < 256) : ∃ v1 w1 a1 b1, f_Mod_letter (hp_mk vv ww aa bb) 126 (nI c) (nI f) = some ((), hp_mk v1 w1 a1 b1) ∧ wd_M m v1 w1 a1 b1 (wd_st f S (lt_n c)) (q + 1) ∧ (lt_n c = 0 → wd_M m v1 w1 a1 b1 (wd_st f S (lt_n c)) 0) ∧ fr_W m vv ww aa bb v1 w1 a1 b1 := by
  obtain ⟨W, ls⟩ := S
  obtain ⟨h1, h2, h18, h3, h4, h5, ct, hc1, hc2, h6⟩ := h
  have h12 : ls.length ≤ 12 := h2.1
  have h50 : W.length ≤ 50 := h1.1
  dsimp only at h1 h2 h3 h4 h5 h6 hc2
  rw [lt_disp hc]
  generalize hx : lt_n c = x
  have hx26 : x ≤ 26 := by rw [← hx]; exact lt_26 c
  unfold f_Mod_letter_43
  by_cases e0 : x = 0
  · rw [if_pos (show nI x ≤ 0 by rw [e0]; decide)]
    have hst : wd_st f (W, ls) x = (wd_take W ls f, []) := by unfold wd_st; rw [if_neg (by omega)]
    rw [hst]
    have hok : wd_ok (wd_take W ls f) := wd_take_ok h1 h2
    have hcl : ∀ (v : hp_V) (w : hp_W) (a : hp_V) (b : hp_B), f_Mod_letter_166 (hp_mk v w a b) 126 = some ((), hp_mk (up_v v 126 27 0) (up_w w 126 0) a b) := fun v w a b => by
      simp only [f_Mod_letter_166, pL_mod, ob_s, pi_126_27]
    have mk : ∀ a1 b1, a1 139 m = nI (wd_take W ls f).length → (∀ j, j < (wd_take W ls f).length → b1 140 (50 * m + j) = lN (cw_val ((wd_take W ls f).getD j ([], 0)).1) ∧ a1 141 (50 * m + j) = nI ((wd_take W ls f).getD j ([], 0)).2) → ∀ q, wd_M m (up_v vv 126 27 0) (up_w ww 126 0) a1 b1 (wd_take W ls f, []) q := fun a1 b1 z1 z2 q =>
      ⟨hok, ls_nil, by rw [uv_n (by omega)]; exact h18, z1, z2, by simp [up_w]; rfl, 0, by omega, by simp, uv_s⟩
    by_cases e : 0 < ls.length ∧ W.length < 50
    · have hw : wd_take W ls f = W ++ [(ls, f)] := by unfold wd_take; rw [if_pos e]
      have hi : 50 * m + W.length < 600 := by omega
      have e50 : (50 : Int32) * nI m + nI W.length = nI (50 * m + W.length) := by rw [show (50 : Int32) = nI 50 from rfl, pk_mul, nI_add]
      have hb : ∀ j, up_b bb 140 (vp_updL (bb 140) (50 * m + W.length) (lN (cw_val ls))) 140 j = vp_updL (bb 140) (50 * m + W.length) (lN (cw_val ls)) j := fun j => by simp [up_b]
      have z1 : up_a (up_a aa 141 (upd (aa 141) (50 * m + W.length) (nI f))) 139 (upd (aa 139) m (nI (W.length + 1))) 139 m = nI (wd_take W ls f).length := by
        rw [ua_s, pk_us, hw, List.length_append]; rfl
      have z2 : ∀ j, j < (wd_take W ls f).length → up_b bb 140 (vp_updL (bb 140) (50 * m + W.length) (lN (cw_val ls))) 140 (50 * m + j) = lN (cw_val ((wd_take W ls f).getD j ([], 0)).1) ∧ up_a (up_a aa 141 (upd (aa 141) (50 * m + W.length) (nI f))) 139 (upd (aa 139) m (nI (W.length + 1))) 141 (50 * m + j) = nI ((wd_take W ls f).getD j ([], 0)).2 := by
        intro j hj
        rw [hw, gw_app]
        rw [hw, List.length_append] at hj
        rw [hb, ua_n (by omega), ua_s]
        by_cases e3 : j < W.length
        · rw [if_pos e3, pk_uLn (by omega), pk_un (by omega)]; exact h4 j e3
        · have e4 : j = W.length := by simp at hj; omega
          rw [if_neg e3, if_pos e4, e4, pk_uLs, pk_us]; exact ⟨rfl, rfl⟩
      refine ⟨up_v vv 126 27 0, up_w ww 126 0, up_a (up_a aa 141 (upd (aa 141) (50 * m + W.length) (nI f))) 139 (upd (aa 139) m (nI (W.length + 1))), up_b bb 140 (vp_updL (bb 140) (50 * m + W.length) (lN (cw_val ls))), ?_, mk _ _ z1 z2 _, fun _ => mk _ _ z1 z2 _, ⟨fun a k z => uv_n (by omega), fun a z => by simp [up_w, z], fun a y1 y2 => ?_, fun j y => ?_, fun j y => ?_, fun a y => by simp [up_b, y], fun j y => ?_⟩⟩
      · have hcn : ¬ nI ct ≤ 0 := nI_nle (by omega) (by omega)
        simp only [gi_126_27, ob_s, h6, if_neg hcn, gr_126_15, gi_126_18, h18, ld_139 hm, h3, if_neg (show ¬ (50 : Int32) ≤ nI W.length from nI_ge (b := 50) e.2 (by omega)), gr_126_16, gl_126_26, h5, e50, st_140 hi, gr_126_17, st_141 hi, ua_n (show (139 : Nat) ≠ 141 by omega), st_139 hm, nI_1, hcl]
      · rw [ua_n y1, ua_n y2]
      · rw [ua_s, pk_un y]
      · rw [ua_n (by omega), ua_s, pk_un (by omega)]
      · rw [hb, pk_uLn (by omega)]
    · have hw : wd_take W ls f = W := by unfold wd_take; rw [if_neg e]
      have z1 : aa 139 m = nI (wd_take W ls f).length := by rw [hw]; exact h3
      have z2 : ∀ j, j < (wd_take W ls f).length → bb 140 (50 * m + j) = lN (cw_val ((wd_take W ls f).getD j ([], 0)).1) ∧ aa 141 (50 * m + j) = nI ((wd_take W ls f).getD j ([], 0)).2 := by rw [hw]; exact h4
      refine ⟨up_v vv 126 27 0, up_w ww 126 0, aa, bb, ?_, mk _ _ z1 z2 _, fun _ => mk _ _ z1 z2 _, ⟨fun a k z => uv_n (by omega), fun a z => by simp [up_w, z], fun _ _ _ => rfl, fun _ _ => rfl, fun _ _ => rfl, fun _ _ => rfl, fun _ _ => rfl⟩⟩
      simp only [gi_126_27, ob_s, h6]
      by_cases e1 : ct = 0
      · rw [if_pos (show nI ct ≤ 0 by rw [e1]; decide), hcl]
      · rw [if_neg (nI_nle (by omega) (by omega))]
        simp only [gr_126_15, gi_126_18, ob_s, h18, ld_139 hm, h3, if_pos (show (50 : Int32) ≤ nI W.length from nI_le (a := 50) (by omega) (by omega)), hcl]
  · rw [if_neg (nI_nle (by omega) (by omega))]
    have hst : wd_st f (W, ls) x = (W, wd_put ls x) := by unfold wd_st; rw [if_pos (by omega)]
    rw [hst]
    have hok := wd_put_ok h2 (show 1 ≤ x by omega) hx26
    unfold f_Mod_letter_72
    by_cases e : ct < 12
    · have hp : wd_put ls x = ls ++ [x] := by unfold wd_put; rw [if_pos (by omega)]
      refine ⟨up_v vv 126 27 (nI (ct + 1)), up_w ww 126 (lN (32 * cw_val ls + x)), aa, bb, ?_, ⟨h1, hok, by rw [uv_n (by omega)]; exact h18, h3, h4, ?_, ct + 1, by omega, ?_, uv_s⟩, fun z => absurd z e0, ⟨fun a k z => uv_n (by omega), fun a z => by simp [up_w, z], fun _ _ _ => rfl, fun _ _ => rfl, fun _ _ => rfl, fun _ _ => rfl, fun _ _ => rfl⟩⟩
      · have e2 : 32 * lN (cw_val ls) + (nI x).toInt64 = lN (32 * cw_val ls + x) := by
          rw [nI_l (by omega), show (32 : Int64) = lN 32 from rfl, lN_mul, lN_add]
        simp only [gi_126_27, ob_s, h6, if_neg (show ¬ (12 : Int32) ≤ nI ct from nI_ge (b := 12) e (by omega)), gl_126_26, h5, e2, pL_mod, pi_126_27, nI_1]
      · show up_w ww 126 _ 126 = _
        rw [hp, cw_app]; simp [up_w]
      · dsimp only; rw [hp, List.length_append]; simp; omega
    · have hp : wd_put ls x = ls := by unfold wd_put; rw [if_neg (by omega)]
      refine ⟨up_v vv 126 27 (nI (ct + 1)), ww, aa, bb, ?_, ⟨h1, hok, by rw [uv_n (by omega)]; exact h18, h3, h4, by rw [hp]; exact h5, ct + 1, by omega, ?_, uv_s⟩, fun z => absurd z e0, ⟨fun a k z => uv_n (by omega), fun _ _ => rfl, fun _ _ _ => rfl, fun _ _ => rfl, fun _ _ => rfl, fun _ _ => rfl, fun _ _ => rfl⟩⟩
      · simp only [gi_126_27, ob_s, h6, if_pos (show (12 : Int32) ≤ nI ct from nI_le (a := 12) (by omega) (by omega)), pi_126_27, nI_1]
      · dsimp only; rw [hp]; omega
theorem co_M (hm : m < 12) {n : Nat} {DL : Nat → Nat} {dc : Nat → Nat → Nat} {l f k : Nat} (hl : l < n) : ∀ (fu q : Nat) (vv : hp_V) (ww : hp_W) (aa : hp_V) (bb : hp_B), dr_M aa n DL dc → k + q ≤ DL l → DL l - (k + q) < fu → wd_M m vv ww aa bb (wl_n f (dc l) (W, []) k q) q → ∃ v1 w1 a1 b1, f_Mod_collect_3 fu (hp_mk vv ww aa bb) 126 (nI l) (nI f) (nI (k + q)) = some ((), hp_mk v1 w1 a1 b1) ∧ wd_M m v1 w1 a1 b1 (wr_l f (dc l) W k (DL l), []) 0 ∧ fr_W m vv ww aa bb v1 w1 a1 b1 := by
  intro fu
  induction fu with
  | zero => intro q vv ww aa bb _ h1 h2; omega
  | succ fu ih =>
    intro q vv ww aa bb hd h1 h2 hw
    have hdl := hd.2 l hl
    have h30 := hd.1
    rw [f_Mod_collect_3]
    simp only [gr_126_1, ob_s, ld_128 (show l < 31 by omega), hdl.2.1, is_126, gd_t, nI_1]
    by_cases e : k + q = DL l
    · rw [e, if_pos (nI_le (Nat.le_refl _) (by omega))]
      obtain ⟨v1, w1, a1, b1, t1, t2, t3, t4⟩ := ml_M hm (by omega) hw (c := 0) (f := f) (by omega)
      have t1' : f_Mod_letter (hp_mk vv ww aa bb) 126 0 (nI f) = _ := t1
      refine ⟨v1, w1, a1, b1, ?_, ?_, t4⟩
      · simp only [t1', bd_s]
      · have := t3 rfl
        unfold wd_st at this
        rw [if_neg (by decide)] at this
        unfold wr_l; rw [show DL l - k = q by omega]; exact this
    · have ll : k + q < DL l := by omega
      have qq := (hdl.2.2 (k + q) ll).2
      rw [if_neg (nI_ge ll (by omega))]
      obtain ⟨v1, w1, a1, b1, t1, t2, t3, t4⟩ := ml_M hm (by omega) hw (c := dc l (k + q)) (f := f) qq
      simp only [at_M hd hl ll, bd_s, is_126, gd_t, t1]
      obtain ⟨v2, w2, a2, b2, s1, s2, s3⟩ := ih (q + 1) v1 w1 a1 b1 (dr_Mf hd (t4.2.2.1 _ (by omega) (by omega)) (t4.2.2.1 _ (by omega) (by omega))) (by omega) (by omega) t2
      exact ⟨v2, w2, a2, b2, s1, s2, fr_Wt t4 s3⟩
theorem cc_M (hm : m < 12) {n : Nat} {DL : Nat → Nat} {dc : Nat → Nat → Nat} {l f k : Nat} (hl : l < n) (hd : dr_M aa n DL dc) (hk : k ≤ DL l) (hw : wd_M m vv ww aa bb (W, []) 0) : ∃ v1 w1 a1 b1, f_Mod_collect (hp_mk vv ww aa bb) 126 (nI l) (nI k) (nI f) = some ((), hp_mk v1 w1 a1 b1) ∧ wd_M m v1 w1 a1 b1 (wr_l f (dc l) W k (DL l), []) 0 ∧ fr_W m vv ww aa bb v1 w1 a1 b1 := by
  have h40 := (hd.2 l hl).1
  exact co_M hm hl (k := k) m_fu 0 vv ww aa bb hd (by omega) (by unfold m_fu; omega) hw
-- decoding
def de_n (c : Nat → Nat) : Nat → List Nat × Option Nat
  | 0 => ([], none)
  | n + 1 => match hx_n (c n), (de_n c n).2 with
    | none, _ => de_n c n
    | some v, none => ((de_n c n).1, some v)
    | some v, some h => ((de_n c n).1 ++ [16 * h + v], none)
theorem de_s {c : Nat → Nat} {n : Nat} : de_n c (n + 1) = match hx_n (c n), (de_n c n).2 with
    | none, _ => de_n c n
    | some v, none => ((de_n c n).1, some v)
    | some v, some h => ((de_n c n).1 ++ [16 * h + v], none) := rfl
theorem de_ok {c : Nat → Nat} : ∀ n, (de_n c n).1.length ≤ n ∧ (∀ x ∈ (de_n c n).1, x < 256) ∧ ∀ h, (de_n c n).2 = some h → h < 16 := by
  intro n
  induction n with
  | zero => exact ⟨Nat.le_refl _, fun x hx => (by cases hx), fun h hh => by cases hh⟩
  | succ n ih =>
    rw [de_s]
    cases hx : hx_n (c n) with
    | none => exact ⟨Nat.le_succ_of_le ih.1, ih.2⟩
    | some v =>
      have hv := hx_lt hx
      cases hh : (de_n c n).2 with
      | none => exact ⟨by dsimp only; omega, ih.2.1, fun h z => by cases z; exact hv⟩
      | some u =>
        have hu := ih.2.2 u hh
        refine ⟨by dsimp only; rw [List.length_append, List.length_singleton]; omega, fun x hx => ?_, fun h z => by cases z⟩
        rcases List.mem_append.mp hx with a | a
        · exact ih.2.1 x a
        · rw [List.mem_singleton.mp a]; omega
def wf_l (f : Nat) (S : List (List Nat × Nat) × List Nat) (L : List Nat) : List (List Nat × Nat) × List Nat := L.foldl (fun S x => wd_st f S (lt_n x)) S
theorem wf_app {f : Nat} {S : List (List Nat × Nat) × List Nat} {L : List Nat} {x : Nat} : wf_l f S (L ++ [x]) = wd_st f (wf_l f S L) (lt_n x) := by unfold wf_l; rw [List.foldl_append]; rfl
theorem wf_wl {f : Nat} {S : List (List Nat × Nat) × List Nat} {L : List Nat} : ∀ n, n ≤ L.length → wl_n f (fun j => L.getD j 0) S 0 n = wf_l f S (L.take n) := by
  intro n
  induction n with
  | zero => intro _; rfl
  | succ n ih =>
    intro h
    rw [wl_s, ih (by omega), ← List.take_append_getElem (show n < L.length by omega), wf_app]
    congr 1
    simp [show n < L.length by omega]
theorem wr_de {f : Nat} {W : List (List Nat × Nat)} {L : List Nat} : wr_l f (fun j => L.getD j 0) W 0 L.length = wd_take (wf_l f (W, []) L).1 (wf_l f (W, []) L).2 f := by
  unfold wr_l; rw [Nat.sub_zero, wf_wl _ (Nat.le_refl _), List.take_length]
theorem cd_M (hm : m < 12) {n : Nat} {DL : Nat → Nat} {dc : Nat → Nat → Nat} {l : Nat} (hl : l < n) : ∀ (fu k : Nat) (vv : hp_V) (ww : hp_W) (aa : hp_V) (bb : hp_B), dr_M aa n DL dc → k ≤ DL l → DL l - k < fu → wd_M m vv ww aa bb (wf_l 2 (W, []) (de_n (dc l) k).1) k → ∃ v1 w1 a1 b1, f_Mod_collectCoded_4 fu (hp_mk vv ww aa bb) 126 (nI l) (th_enc (de_n (dc l) k).2) (nI k) = some ((), hp_mk v1 w1 a1 b1) ∧ wd_M m v1 w1 a1 b1 (wr_l 2 (fun j => (de_n (dc l) (DL l)).1.getD j 0) W 0 (de_n (dc l) (DL l)).1.length, []) 0 ∧ fr_W m vv ww aa bb v1 w1 a1 b1 := by
  intro fu
  induction fu with
  | zero => intro q vv ww aa bb _ h1 h2; omega
  | succ fu ih =>
    intro k vv ww aa bb hd h1 h2 hw
    have hdl := hd.2 l hl
    have h30 := hd.1
    rw [f_Mod_collectCoded_4]
    unfold f_Mod_collectCoded_49 f_Mod_collectCoded_59 f_Mod_collectCoded_60
    simp only [gr_126_1, ob_s, ld_128 (show l < 31 by omega), hdl.2.1, is_126, gd_t, nI_1]
    by_cases e : k = DL l
    · rw [e, if_pos (nI_le (Nat.le_refl _) (by omega))]
      obtain ⟨v1, w1, a1, b1, t1, t2, t3, t4⟩ := ml_M hm (by omega) hw (c := 0) (f := 2) (by omega)
      have t1' : f_Mod_letter (hp_mk vv ww aa bb) 126 0 2 = _ := t1
      refine ⟨v1, w1, a1, b1, ?_, ?_, t4⟩
      · simp only [t1', bd_s]
      · have := t3 rfl
        unfold wd_st at this
        rw [if_neg (by decide)] at this
        rw [wr_de, ← e]; exact this
    · have ll : k < DL l := by omega
      have qq := (hdl.2.2 k ll).2
      have hok := de_ok (c := dc l) k
      rw [if_neg (nI_ge ll (by omega))]
      simp only [at_M hd hl ll, bd_s, hx_M qq]
      have hv : ∀ x, hx_n (dc l k) = some x → x < 2 ^ 31 := fun x hx => by have := hx_lt hx; omega
      have hu : ∀ x, (de_n (dc l) k).2 = some x → x < 2 ^ 31 := fun x hx => by have := hok.2.2 x hx; omega
      have hs := de_s (c := dc l) (n := k)
      cases hx : hx_n (dc l k) with
      | none =>
        rw [if_neg (by decide)]
        rw [hx] at hs
        dsimp only at hs
        have hw2 : wd_M m vv ww aa bb (wf_l 2 (W, []) (de_n (dc l) (k + 1)).1) (k + 1) := by
          rw [hs]
          obtain ⟨z1, z2, z3, z4, z5, z6, ct, z7, z8⟩ := hw
          exact ⟨z1, z2, z3, z4, z5, z6, ct, by omega, z8⟩
        obtain ⟨v2, w2, a2, b2, s1, s2, s3⟩ := ih (k + 1) vv ww aa bb hd (by omega) (by omega) hw2
        rw [hs] at s1
        exact ⟨v2, w2, a2, b2, s1, s2, s3⟩
      | some v =>
        have hv16 := hx_lt hx
        rw [if_pos (show (0 : Int32) ≤ th_enc (some v) from nI_pos' (by omega))]
        cases hh : (de_n (dc l) k).2 with
        | none =>
          rw [if_pos (show th_enc none < 0 by decide), if_neg (show ¬ (0 : Int32) ≤ th_enc none by decide)]
          rw [hx, hh] at hs
          dsimp only at hs
          have hw2 : wd_M m vv ww aa bb (wf_l 2 (W, []) (de_n (dc l) (k + 1)).1) (k + 1) := by
            rw [hs]
            obtain ⟨z1, z2, z3, z4, z5, z6, ct, z7, z8⟩ := hw
            exact ⟨z1, z2, z3, z4, z5, z6, ct, by omega, z8⟩
          obtain ⟨v2, w2, a2, b2, s1, s2, s3⟩ := ih (k + 1) vv ww aa bb hd (by omega) (by omega) hw2
          rw [hs] at s1
          exact ⟨v2, w2, a2, b2, s1, s2, s3⟩
        | some u =>
          have hu16 := hok.2.2 u hh
          rw [hx, hh] at hs
          dsimp only at hs
          rw [if_neg (show ¬ th_enc (some u) < 0 from nI_pos (by omega))]
          have e16 : (16 : Int32) * th_enc (some u) + th_enc (some v) = nI (16 * u + v) := by
            show nI 16 * nI u + nI v = _
            rw [pk_mul, nI_add]
          obtain ⟨v1, w1, a1, b1, t1, t2, t3, t4⟩ := ml_M hm (by omega) hw (c := 16 * u + v) (f := 2) (by omega)
          have t1' : f_Mod_letter (hp_mk vv ww aa bb) 126 (nI (16 * u + v)) 2 = _ := t1
          rw [e16]
          simp only [is_126, gd_t, t1', bd_s, if_pos (show (0 : Int32) ≤ th_enc (some u) from nI_pos' (by omega))]
          have hw2 : wd_M m v1 w1 a1 b1 (wf_l 2 (W, []) (de_n (dc l) (k + 1)).1) (k + 1) := by
            rw [hs]
            dsimp only
            rw [wf_app]; exact t2
          obtain ⟨v2, w2, a2, b2, s1, s2, s3⟩ := ih (k + 1) v1 w1 a1 b1 (dr_Mf hd (t4.2.2.1 _ (by omega) (by omega)) (t4.2.2.1 _ (by omega) (by omega))) (by omega) (by omega) hw2
          rw [hs] at s1
          exact ⟨v2, w2, a2, b2, s1, s2, fr_Wt t4 s3⟩
theorem ce_M (hm : m < 12) {n : Nat} {DL : Nat → Nat} {dc : Nat → Nat → Nat} {l : Nat} (hl : l < n) (hd : dr_M aa n DL dc) (hw : wd_M m vv ww aa bb (W, []) 0) : ∃ v1 w1 a1 b1, f_Mod_collectCoded (hp_mk vv ww aa bb) 126 (nI l) = some ((), hp_mk v1 w1 a1 b1) ∧ wd_M m v1 w1 a1 b1 (wr_l 2 (fun j => (de_n (dc l) (DL l)).1.getD j 0) W 0 (de_n (dc l) (DL l)).1.length, []) 0 ∧ fr_W m vv ww aa bb v1 w1 a1 b1 := by
  have h40 := (hd.2 l hl).1
  exact cd_M hm hl m_fu 0 vv ww aa bb hd (by omega) (by unfold m_fu; omega) hw
end WDM
section DEA
variable {m : Nat} {vv v1 v2 : hp_V} {ww w1 w2 : hp_W} {aa a1 a2 : hp_V} {bb b1 b2 : hp_B}
theorem de_A {a len : Nat} {c : Nat → Nat} (ha : hp_isL a = true) (ha2 : a < 66) : ∀ (fu k : Nat) (vv aa : hp_V), ln_A vv aa a len c → (∀ x, x < 40 → fits .char (.int (aa 68 x)) = true) → k ≤ len → len - k < fu → ln_A vv aa 67 (de_n c k).1.length (fun j => (de_n c k).1.getD j 0) → ∃ x f', f_Reader_decode_11 fu (hp_mk vv ww aa bb) 65 (some a) (th_enc (de_n c k).2) (nI k) = some (some 67, hp_mk (up_v vv 67 1 x) ww (up_a aa 68 f') bb) ∧ (∀ x, x < 40 → fits .char (.int (f' x)) = true) ∧ ln_A (up_v vv 67 1 x) (up_a aa 68 f') 67 (de_n c len).1.length (fun j => (de_n c len).1.getD j 0) := by
  intro fu
  induction fu with
  | zero => intro k vv aa _ _ h1 h2; omega
  | succ fu ih =>
    intro k vv aa hl hf h1 h2 hd
    have h40 := hl.1
    rw [f_Reader_decode_11]
    unfold f_Reader_decode_44 f_Reader_decode_67
    simp only [ob_s, gI_mk (isI_L ha), hl.2.1, gr_65_1, gd_t, is_L ha, nI_1]
    by_cases e : k = len
    · rw [e, if_pos (nI_le (Nat.le_refl _) (by omega))]
      refine ⟨vv 67 1, aa 68, ?_, hf, ?_⟩
      · have : up_v vv 67 1 (vv 67 1) = vv := by
          funext i k; unfold up_v; by_cases z : i = 67 ∧ k = 1
          · rw [if_pos z, z.1, z.2]
          · rw [if_neg z]
        rw [this, ua_id]
      · rw [e] at hd
        exact ln_fr hd uv_s ua_s
    · have l : k < len := by omega
      have q := (hl.2.2 k l).2
      rw [if_neg (nI_ge l (by omega))]
      simp only [at_A ha hl (show k < 2 ^ 31 by omega), if_pos l, bd_s, hx_A q]
      have hok := de_ok (c := c) k
      have hs := de_s (c := c) (n := k)
      cases hx : hx_n (c k) with
      | none =>
        rw [if_pos (show th_enc none < 0 by decide), if_pos (show th_enc none < 0 by decide)]
        rw [hx] at hs
        dsimp only at hs
        obtain ⟨x, f', s1, s2, s3⟩ := ih (k + 1) vv aa hl hf (by omega) (by omega) (by rw [hs]; exact hd)
        rw [hs] at s1
        exact ⟨x, f', s1, s2, s3⟩
      | some v =>
        have hv16 := hx_lt hx
        rw [if_neg (show ¬ th_enc (some v) < 0 from nI_pos (by omega))]
        cases hh : (de_n c k).2 with
        | none =>
          rw [if_neg (show ¬ (0 : Int32) ≤ th_enc none by decide)]
          rw [hx, hh] at hs
          dsimp only at hs
          obtain ⟨x, f', s1, s2, s3⟩ := ih (k + 1) vv aa hl hf (by omega) (by omega) (by rw [hs]; exact hd)
          rw [hs] at s1
          exact ⟨x, f', s1, s2, s3⟩
        | some u =>
          have hu16 := hok.2.2 u hh
          rw [hx, hh] at hs
          dsimp only at hs
          rw [if_pos (show (0 : Int32) ≤ th_enc (some u) from nI_pos' (by omega)), if_neg (show ¬ th_enc (some v) < 0 from nI_pos (by omega))]
          have e16 : th_enc (some u) * 16 + th_enc (some v) = nI (16 * u + v) := by
            show nI u * nI 16 + nI v = _
            rw [pk_mul, nI_add, Nat.mul_comm]
          have hlen : (de_n c k).1.length < 40 := by omega
          have eput : f_Line_put (hp_mk vv ww aa bb) 67 (((nI (16 * u + v)).toUInt32 % 65536).toInt32) = some (1, hp_mk (up_v vv 67 1 (nI ((de_n c k).1.length + 1))) ww (up_a aa 68 (upd (aa 68) (de_n c k).1.length (nI (16 * u + v)))) bb) := by
            unfold f_Line_put
            simp only [gI_mk (isI_L isL_67), ob_s, hd.2.1, if_pos (show nI (de_n c k).1.length < (40 : Int32) from nI_lt (b := 40) hlen (by omega)), gR_mk (ref_L isL_67), nar_c (show 16 * u + v < 256 by omega), st_n (i := 68) (sk_C (isL_C isL_67)) hlen (by omega), pI_mk (isI_L isL_67), nI_1]
          rw [e16]
          simp only [gr_65_1, ob_s, is_L isL_67, gd_t, eput, bd_s]
          have hd2 : ln_A (up_v vv 67 1 (nI ((de_n c k).1.length + 1))) (up_a aa 68 (upd (aa 68) (de_n c k).1.length (nI (16 * u + v)))) 67 (de_n c (k + 1)).1.length (fun j => (de_n c (k + 1)).1.getD j 0) := by
            rw [hs]
            dsimp only
            rw [List.length_append, List.length_singleton]
            refine ⟨by omega, uv_s, fun j hj => ?_⟩
            dsimp only
            rw [show 67 + 1 = 68 from rfl, ua_s, getD_app]
            by_cases e3 : j < (de_n c k).1.length
            · rw [if_pos e3, pk_un (by omega)]; exact hd.2.2 j e3
            · rw [if_neg e3, if_pos (by omega), show j = (de_n c k).1.length by omega, pk_us]; exact ⟨rfl, by omega⟩
          have hf2 : ∀ x, x < 40 → fits .char (.int (up_a aa 68 (upd (aa 68) (de_n c k).1.length (nI (16 * u + v))) 68 x)) = true := by
            intro x hx
            rw [ua_s]
            by_cases e4 : x = (de_n c k).1.length
            · rw [e4, pk_us]; exact fit_c (by omega)
            · rw [pk_un e4]; exact hf x hx
          obtain ⟨x, f', s1, s2, s3⟩ := ih (k + 1) _ _ (ln_fr hl (uv_i (by omega)) (ua_n (by omega))) hf2 (by omega) (by omega) hd2
          rw [hs] at s1
          refine ⟨x, f', ?_, s2, ?_⟩
          · rw [uv_u, ua_u] at s1; exact s1
          · rw [uv_u, ua_u] at s3; exact s3
theorem dd_A {a len : Nat} {c : Nat → Nat} (ha : hp_isL a = true) (ha2 : a < 66) (hl : ln_A vv aa a len c) (hf : ∀ x, x < 40 → fits .char (.int (aa 68 x)) = true) : ∃ x f', f_Reader_decode (hp_mk vv ww aa bb) 65 (some a) = some (some 67, hp_mk (up_v vv 67 1 x) ww (up_a aa 68 f') bb) ∧ (∀ x, x < 40 → fits .char (.int (f' x)) = true) ∧ ln_A (up_v vv 67 1 x) (up_a aa 68 f') 67 (de_n c len).1.length (fun j => (de_n c len).1.getD j 0) := by
  have h40 := hl.1
  obtain ⟨x, f', s1, s2, s3⟩ := de_A (ww := ww) (bb := bb) ha ha2 m_fu 0 (up_v vv 67 1 0) aa (ln_fr hl (uv_i (by omega)) rfl) hf (by omega) (by unfold m_fu; omega) ⟨by show 0 ≤ 40; omega, uv_s, fun j hj => absurd hj (Nat.not_lt_zero j)⟩
  rw [uv_u] at s1 s3
  refine ⟨x, f', ?_, s2, s3⟩
  unfold f_Reader_decode
  simp only [gr_65_1, ob_s, is_L isL_67, gd_t, f_Line_clear, pI_mk (isI_L isL_67), bd_s]
  exact s1
end DEA
