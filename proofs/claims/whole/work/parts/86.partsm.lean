/-! parts: the reference's stack -/
theorem gs_app {st : List (Nat × Nat × Nat)} {p : Nat × Nat × Nat} {j : Nat} : (st ++ [p]).getD j (0, 0, 0) = if j < st.length then st.getD j (0, 0, 0) else if j = st.length then p else (0, 0, 0) := by
  by_cases h : j < st.length
  · rw [if_pos h]; simp [List.getD, List.getElem?_append_left h]
  · rw [if_neg h]
    by_cases e : j = st.length
    · rw [if_pos e, e]; simp [List.getD]
    · rw [if_neg e]
      have : (st ++ [p])[j]? = none := by rw [List.getElem?_eq_none_iff]; simp; omega
      simp only [List.getD, this, Option.getD_none]
section PAM
variable {m : Nat} {vv v1 v2 : hp_V} {ww w1 w2 : hp_W} {aa a1 a2 : hp_V} {bb b1 b2 : hp_B} {n : Nat} {DL : Nat → Nat} {dc : Nat → Nat → Nat} {st : List (Nat × Nat × Nat)}
def fr_K (vv aa vv' aa' : hp_V) : Prop := (∀ a k, ¬ (a = 126 ∧ k = 6) → vv' a k = vv a k) ∧ ∀ a, a ≠ 129 → a ≠ 130 → a ≠ 131 → aa' a = aa a
theorem fr_Kr : fr_K vv aa vv aa := ⟨fun _ _ _ => rfl, fun _ _ _ _ => rfl⟩
theorem fr_Kt (h1 : fr_K vv aa v1 a1) (h2 : fr_K v1 a1 v2 a2) : fr_K vv aa v2 a2 := ⟨fun a k x => (h2.1 a k x).trans (h1.1 a k x), fun a x y z => (h2.2 a x y z).trans (h1.2 a x y z)⟩
theorem fr_KP (h : fr_K vv aa v1 a1) : fr_P m vv ww aa bb v1 ww a1 bb := ⟨fun a k x => h.1 a k (fun z => x ⟨z.1, Or.inr z.2⟩), fun _ _ => rfl, fun a x1 x2 x3 _ _ _ => h.2 a x1 x2 x3, fun j _ => by rw [h.2 138 (by omega) (by omega) (by omega)], fun j _ => by rw [h.2 139 (by omega) (by omega) (by omega)], fun j _ => by rw [h.2 141 (by omega) (by omega) (by omega)], fun _ _ => rfl, fun _ _ => rfl⟩
theorem dr_K (h : dr_M aa n DL dc) (hf : fr_K vv aa v1 a1) : dr_M a1 n DL dc := dr_Mf h (hf.2 127 (by omega) (by omega) (by omega)) (hf.2 128 (by omega) (by omega) (by omega))
theorem pa_K {S : List (List Nat × Nat) × Nat} (h : pa_M m vv ww aa bb S) (hf : fr_K vv aa v1 a1) : pa_M m v1 ww a1 bb S := by
  obtain ⟨⟨z1, z2, z3, z4, z5, z6, ct, z7, z8, z9⟩, z10⟩ := h
  refine ⟨⟨z1, z2, by rw [hf.1 126 18 (by omega)]; exact z3, by rw [hf.2 139 (by omega) (by omega) (by omega)]; exact z4, by rw [hf.2 141 (by omega) (by omega) (by omega)]; exact z5, z6, ct, z7, z8, by rw [hf.1 126 27 (by omega)]; exact z9⟩, by rw [hf.2 138 (by omega) (by omega) (by omega)]; exact z10⟩
theorem pu_M (hs : sk_ok vv aa st) (hc : st.length < 40) {x y z : Nat} : ∃ v1 a1, f_Mod_push (hp_mk vv ww aa bb) 126 (nI x) (nI y) (nI z) = some ((), hp_mk v1 ww a1 bb) ∧ sk_ok v1 a1 (st ++ [(x, y, z)]) ∧ fr_K vv aa v1 a1 := by
  obtain ⟨h1, h2⟩ := hs
  refine ⟨up_v vv 126 6 (nI (st.length + 1)), up_a (up_a (up_a aa 129 (upd (aa 129) st.length (nI x))) 130 (upd (aa 130) st.length (nI y))) 131 (upd (aa 131) st.length (nI z)), ?_, ⟨?_, ?_⟩, ⟨fun a k z => uv_n (by omega), fun a p q r => by rw [ua_n r, ua_n q, ua_n p]⟩⟩
  · unfold f_Mod_push
    simp only [gr_126_3, gi_126_6, ob_s, h1, st_129 hc, gr_126_4, st_130 hc, gr_126_5, st_131 hc, nI_1, pi_126_6, ua_n (show (130 : Nat) ≠ 129 by omega), ua_n (show (131 : Nat) ≠ 129 by omega), ua_n (show (131 : Nat) ≠ 130 by omega)]
  · rw [uv_s, List.length_append]; rfl
  · intro j hj
    rw [List.length_append, List.length_singleton] at hj
    rw [gs_app, ua_n (show (129 : Nat) ≠ 131 by omega), ua_n (show (129 : Nat) ≠ 130 by omega), ua_s, ua_n (show (130 : Nat) ≠ 131 by omega), ua_s, ua_s]
    by_cases e : j < st.length
    · rw [if_pos e, pk_un (by omega), pk_un (by omega), pk_un (by omega)]; exact h2 j e
    · have e2 : j = st.length := by omega
      rw [if_neg e, if_pos e2, e2, pk_us, pk_us, pk_us]; exact ⟨rfl, rfl, rfl⟩
def dp_m (dp : Nat) (q : Nat × Nat) : Nat × Nat × Nat := (q.1, q.2, dp)
theorem dl_M {dp b bd : Nat} (hb : b < 256) : ∀ (fu q en : Nat) (L : List (Nat × Nat)) (vv aa : hp_V), dr_M aa n DL dc → bd + q ≤ n → q < fu → sk_ok vv aa (st ++ (L.map (dp_m (dp + 1))).reverse) → st.length + (su_e (fun k => ct_p (DL k) (dc k) b) en q none bd ++ L).length ≤ 40 → ∃ v1 a1, f_Mod_takePart_146 fu (hp_mk vv ww aa bb) 126 (nI dp) (nI bd) (nI b) (nI en) (nI (bd + q) - 1) = some ((), hp_mk v1 ww a1 bb) ∧ sk_ok v1 a1 (st ++ ((su_e (fun k => ct_p (DL k) (dc k) b) en q none bd ++ L).map (dp_m (dp + 1))).reverse) ∧ fr_K vv aa v1 a1 := by
  intro fu
  induction fu with
  | zero => intro q en L vv aa _ h1 h2; omega
  | succ fu ih =>
    intro q en L vv aa hd h1 h2 hs hc
    have h30 := hd.1
    rw [f_Mod_takePart_146]
    unfold f_Mod_takePart_184
    cases q with
    | zero =>
      rw [Nat.add_zero, if_pos (nI_m1 (show bd < 2 ^ 31 by omega))]
      exact ⟨vv, aa, rfl, hs, fr_Kr⟩
    | succ q =>
      rw [show bd + (q + 1) = (bd + q) + 1 from rfl, nI_pred, if_neg (nI_nlt (by omega) (by omega))]
      simp only [is_126, gd_t, ct_M hd (show bd + q < n by omega) hb, bd_s, nI_am1, nI_1]
      rw [su_r] at hc ⊢
      cases hp : ct_p (DL (bd + q)) (dc (bd + q)) b with
      | false =>
        rw [hp, if_neg (by decide)] at hc
        rw [if_pos (show iB false = 0 from rfl), if_neg (by decide)]
        exact ih q en L vv aa hd (by omega) (by omega) hs hc
      | true =>
        rw [hp, if_pos rfl] at hc
        rw [if_neg (show ¬ iB true = 0 by decide), if_pos rfl]
        have hlen : (st ++ (L.map (dp_m (dp + 1))).reverse).length < 40 := by
          simp only [List.length_append, List.length_reverse, List.length_map, List.length_singleton] at hc ⊢
          omega
        obtain ⟨v1, a1, t1, t2, t3⟩ := pu_M (ww := ww) (bb := bb) hs hlen (x := bd + q + 1) (y := en) (z := dp + 1)
        have t2' : sk_ok v1 a1 (st ++ (((bd + q + 1, en) :: L).map (dp_m (dp + 1))).reverse) := by
          rw [List.map_cons, List.reverse_cons, ← List.append_assoc]; exact t2
        obtain ⟨v2, a2, s1, s2, s3⟩ := ih q (bd + q) ((bd + q + 1, en) :: L) v1 a1 (dr_K hd t3) (by omega) (by omega) t2' (by
          simp only [List.length_append, List.length_cons, List.length_singleton] at hc ⊢
          omega)
        refine ⟨v2, a2, ?_, ?_, fr_Kt t3 s3⟩
        · simp only [t1, bd_s]; exact s1
        · rw [List.append_assoc]; exact s2
theorem ec_M {dp f t b bd : Nat} (hd : dr_M aa n DL dc) (ht : t ≤ n) (hb : b < 256) : ∀ (fu k : Nat), k ≤ t → t - k < fu → f_Mod_takePart_117 fu (hp_mk vv ww aa bb) 126 (nI t) (nI dp) (nI bd) (nI b) (nI k) = f_Mod_takePart_140 (hp_mk vv ww aa bb) 126 (nI dp) (nI bd) (nI b) (nI (cl_n DL dc b (t - k) k)) := by
  intro fu
  have h30 := hd.1
  induction fu with
  | zero => intro k h1 h2; omega
  | succ fu ih =>
    intro k h1 h2
    rw [f_Mod_takePart_117]
    by_cases e : k = t
    · subst e
      rw [if_pos (nI_le (Nat.le_refl _) (by omega)), Nat.sub_self]; rfl
    · rw [if_neg (nI_ge (by omega) (by omega)), show t - k = (t - (k + 1)) + 1 by omega, cl_s]
      simp only [is_126, gd_t, cp_M2 hd (show k < n by omega) hb, bd_s, nI_1]
      cases hp : cl_p (DL k) (dc k) b with
      | false =>
        rw [if_pos (show iB false = 0 from rfl), if_neg (by decide)]
        exact ih (k + 1) (by omega) (by omega)
      | true => rw [if_neg (show ¬ iB true = 0 by decide), if_pos rfl]
/-- what taking a part from the stack leads to -/
def tk_v (DL : Nat → Nat) (dc : Nat → Nat → Nat) (f t dp : Nat) (st : List (Nat × Nat × Nat)) (S : List (List Nat × Nat) × Nat) : List (Nat × Nat × Nat) × (List (List Nat × Nat) × Nat) :=
  if 3 < dp then (st, (lf_v DL dc f t S.1, S.2 + 1)) else match mb_v DL dc f t with
    | none => (st, (lf_v DL dc f t S.1, S.2 + 1))
    | some b => (st ++ ((pl_b DL dc f t b).map (dp_m (dp + 1))).reverse, S)
theorem tk_M (hm : m < 12) (hd : dr_M aa n DL dc) {f t dp : Nat} {S : List (List Nat × Nat) × Nat} (hf : f ≤ t) (ht : t ≤ n) (hdp : dp ≤ 4) (hs : sk_ok vv aa (st ++ [(f, t, dp)])) (hp : pa_M m vv ww aa bb S) (h40 : st.length + (t - f + 1) ≤ 40) : ∃ v1 w1 a1 b1, f_Mod_takePart (hp_mk vv ww aa bb) 126 = some ((), hp_mk v1 w1 a1 b1) ∧ pa_M m v1 w1 a1 b1 (tk_v DL dc f t dp st S).2 ∧ sk_ok v1 a1 (tk_v DL dc f t dp st S).1 ∧ fr_P m vv ww aa bb v1 w1 a1 b1 := by
  have h30 := hd.1
  have hb := bd_r (DL := DL) hf
  obtain ⟨g1, g2⟩ := hs
  have g3 := g2 st.length (by rw [List.length_append, List.length_singleton]; omega)
  rw [gs_app, if_neg (Nat.lt_irrefl _), if_pos rfl] at g3
  obtain ⟨g4, g5, g6⟩ := g3
  dsimp only at g4 g5 g6
  have fr0 : fr_K vv aa (up_v vv 126 6 (nI st.length)) aa := ⟨fun a k z => uv_n (by omega), fun _ _ _ _ => rfl⟩
  have hs0 : sk_ok (up_v vv 126 6 (nI st.length)) aa st := ⟨uv_s, fun j hj => by
    have := g2 j (by rw [List.length_append]; omega)
    rw [gs_app, if_pos hj] at this
    exact this⟩
  have hp0 := pa_K hp fr0
  have hlt : st.length < 40 := by omega
  have e0 := hd_M (vv := up_v vv 126 6 (nI st.length)) (ww := ww) (bb := bb) hd (key := 109) hf ht (by omega)
  have e0' : f_Mod_header (hp_mk (up_v vv 126 6 (nI st.length)) ww aa bb) 126 (nI f) (nI t) 109 = _ := e0
  have e1 : f_Mod_emptyLine (hp_mk (up_v vv 126 6 (nI st.length)) ww aa bb) 126 (nI f) (nI t) = some (nI (el_n DL (t - f) f), hp_mk (up_v vv 126 6 (nI st.length)) ww aa bb) := el_M hd ht m_fu f hf (by unfold m_fu; omega)
  have er := el_r (DL := DL) (t - f) f
  have glen : vv 126 6 = nI (st.length + 1) := by rw [g1, List.length_append]; rfl
  have step : f_Mod_takePart (hp_mk vv ww aa bb) 126 = f_Mod_takePart_72 (hp_mk (up_v vv 126 6 (nI st.length)) ww aa bb) 126 (nI f) (nI t) (nI dp) (th_enc (hd_v DL dc f t 109)) (nI (bd_v DL f t)) := by
    unfold f_Mod_takePart
    simp only [gi_126_6, ob_s, glen, nI_pred, pi_126_6, gr_126_3, gr_126_4, gr_126_5, uv_s, ld_129 hlt, ld_130 hlt, ld_131 hlt, g4, g5, g6, is_126, gd_t, e0', e1, bd_s, nI_1]
    unfold bd_v
    by_cases e : el_n DL (t - f) f < t
    · rw [if_neg (nI_ge e (by omega)), if_pos e]
    · rw [if_pos (nI_le (by omega) (by omega)), if_neg e]
  obtain ⟨W, lv⟩ := S
  have leaf : (tk_v DL dc f t dp st (W, lv) = (st, (lf_v DL dc f t W, lv + 1))) → f_Mod_takePart (hp_mk vv ww aa bb) 126 = f_Mod_takePart_95 (hp_mk (up_v vv 126 6 (nI st.length)) ww aa bb) 126 (nI f) (nI t) (nI (bd_v DL f t)) → ∃ v1 w1 a1 b1, f_Mod_takePart (hp_mk vv ww aa bb) 126 = some ((), hp_mk v1 w1 a1 b1) ∧ pa_M m v1 w1 a1 b1 (tk_v DL dc f t dp st (W, lv)).2 ∧ sk_ok v1 a1 (tk_v DL dc f t dp st (W, lv)).1 ∧ fr_P m vv ww aa bb v1 w1 a1 b1 := fun z1 z2 => by
    obtain ⟨v1, w1, a1, b1, t1, t2, t3, t4⟩ := lf_M hm hd hf ht hp0 hs0
    refine ⟨v1, w1, a1, b1, ?_, by rw [z1]; exact t2, by rw [z1]; exact t3, fr_Pt (fr_KP fr0) t4⟩
    rw [z2]
    unfold f_Mod_takePart_95
    simp only [is_126, gd_t, t1, bd_s]
  by_cases h3 : 3 < dp
  · refine leaf (by unfold tk_v; rw [if_pos h3]) ?_
    rw [step]; unfold f_Mod_takePart_72
    rw [if_pos (show (3 : Int32) < nI dp from nI_lt (a := 3) h3 (by omega))]
  · have n3 : ¬ (3 : Int32) < nI dp := nI_nlt (a := 3) (by omega) (by omega)
    cases hh : hd_v DL dc f t 109 with
    | none =>
      refine leaf (by unfold tk_v mb_v; rw [if_neg h3, hh]) ?_
      rw [step, hh]; unfold f_Mod_takePart_72
      rw [if_neg n3, if_pos (show th_enc none < 0 by decide)]
    | some k =>
      have hr := hd_vr hf hh
      have hl := hd.2 k (by omega)
      have el : m_ld (hp_mk (up_v vv 126 6 (nI st.length)) ww aa bb) 128 0 (th_enc (some k)) = some (aa 128 k) := ld_128 (by omega)
      by_cases e3 : DL k = 3
      · have q := (hl.2.2 2 (by omega)).2
        have hmb : mb_v DL dc f t = some (dc k 2) := by unfold mb_v; rw [hh]; dsimp only; rw [if_pos e3]
        have htk : tk_v DL dc f t dp st (W, lv) = (st ++ ((pl_b DL dc f t (dc k 2)).map (dp_m (dp + 1))).reverse, (W, lv)) := by unfold tk_v; rw [if_neg h3, hmb]
        have hc := cl_r (DL := DL) (dc := dc) (b := dc k 2) (t - bd_v DL f t) (bd_v DL f t)
        have hpl := pl_in (DL := DL) (dc := dc) (b := dc k 2) hf
        have hpn : (pl_b DL dc f t (dc k 2)).length ≤ sm_l iv_w (pl_b DL dc f t (dc k 2)) := sm_len (fun x _ => by unfold iv_w; omega)
        have hdl := dl_M (ww := ww) (bb := bb) (DL := DL) (dc := dc) (n := n) (st := st) (dp := dp) (b := dc k 2) (bd := bd_v DL f t) q m_fu (cl_n DL dc (dc k 2) (t - bd_v DL f t) (bd_v DL f t) - bd_v DL f t) (cl_n DL dc (dc k 2) (t - bd_v DL f t) (bd_v DL f t)) [] (up_v vv 126 6 (nI st.length)) aa hd (by omega) (by unfold m_fu; omega) (by simpa using hs0) (by
          rw [List.append_nil]
          show st.length + (pl_b DL dc f t (dc k 2)).length ≤ 40
          omega)
        rw [List.append_nil] at hdl
        obtain ⟨v1, a1, t1, t2, t3⟩ := hdl
        rw [htk]
        refine ⟨v1, ww, a1, bb, ?_, pa_K hp0 t3, t2, fr_Pt (fr_KP fr0) (fr_KP t3)⟩
        rw [step, hh]; unfold f_Mod_takePart_72
        rw [if_neg n3, if_neg (show ¬ th_enc (some k) < 0 from nI_pos (by omega))]
        have ha := at_M (vv := up_v vv 126 6 (nI st.length)) (ww := ww) (bb := bb) hd (show k < n by omega) (j := 2) (by omega)
        have ha' : f_Mod_at (hp_mk (up_v vv 126 6 (nI st.length)) ww aa bb) 126 (th_enc (some k)) 2 = _ := ha
        simp only [gr_126_1, ob_s, el, hl.2.1, if_pos (show nI (DL k) = 3 by rw [e3]; rfl), is_126, gd_t, ha', bd_s]
        rw [ec_M (f := f) hd ht q m_fu _ (by omega) (by unfold m_fu; omega)]
        unfold f_Mod_takePart_140
        rw [show bd_v DL f t + (cl_n DL dc (dc k 2) (t - bd_v DL f t) (bd_v DL f t) - bd_v DL f t) = cl_n DL dc (dc k 2) (t - bd_v DL f t) (bd_v DL f t) by omega] at t1
        exact t1
      · refine leaf (by unfold tk_v mb_v; rw [if_neg h3, hh]; dsimp only; rw [if_neg e3]) ?_
        rw [step, hh]; unfold f_Mod_takePart_72
        rw [if_neg n3, if_neg (show ¬ th_enc (some k) < 0 from nI_pos (by omega))]
        simp only [gr_126_1, ob_s, el, hl.2.1, if_neg (show ¬ nI (DL k) = (3 : Int32) from nI_ne (b := 3) (by omega) (by omega) e3)]
def sk_w (x : Nat × Nat × Nat) : Nat := x.2.1 - x.1 + 1
def sk_p (x : Nat × Nat × Nat) : Nat := (5 - x.2.2) * (x.2.1 - x.1 + 1)
def sk_r (DL : Nat → Nat) (dc : Nat → Nat → Nat) (st : List (Nat × Nat × Nat)) (S : List (List Nat × Nat) × Nat) : List (List Nat × Nat) × Nat := st.foldr (fun x S => rp_n DL dc (4 - x.2.2) x.1 x.2.1 S) S
def sk_in (n : Nat) (st : List (Nat × Nat × Nat)) : Prop := ∀ x ∈ st, x.1 ≤ x.2.1 ∧ x.2.1 ≤ n ∧ 1 ≤ x.2.2 ∧ x.2.2 ≤ 4
theorem tk_all {f t dp : Nat} {S : List (List Nat × Nat) × Nat} (hf : f ≤ t) (ht : t ≤ n) (hdp : 1 ≤ dp) (hdp2 : dp ≤ 4) (hin : sk_in n st) :
    sk_in n (tk_v DL dc f t dp st S).1 ∧ sm_l sk_w (tk_v DL dc f t dp st S).1 ≤ sm_l sk_w st + (t - f + 1) ∧ sm_l sk_p (tk_v DL dc f t dp st S).1 + 1 ≤ sm_l sk_p st + (5 - dp) * (t - f + 1) ∧ sk_r DL dc (tk_v DL dc f t dp st S).1 (tk_v DL dc f t dp st S).2 = sk_r DL dc st (rp_n DL dc (4 - dp) f t S) := by
  have pos : 1 ≤ (5 - dp) * (t - f + 1) := Nat.mul_pos (by omega) (by omega)
  unfold tk_v
  by_cases h3 : 3 < dp
  · rw [if_pos h3]
    have : 4 - dp = 0 := by omega
    refine ⟨hin, by dsimp only; omega, by dsimp only; omega, ?_⟩
    rw [this, rp_0]
  · rw [if_neg h3]
    obtain ⟨d, hd⟩ : ∃ d, 4 - dp = d + 1 := ⟨3 - dp, by omega⟩
    rw [hd, rp_s]
    cases hb : mb_v DL dc f t with
    | none => exact ⟨hin, by dsimp only; omega, by dsimp only; omega, rfl⟩
    | some b =>
      have hpl := pl_in (DL := DL) (dc := dc) (b := b) hf
      dsimp only
      refine ⟨fun x hx => ?_, ?_, ?_, ?_⟩
      · rcases List.mem_append.mp hx with a | a
        · exact hin x a
        · obtain ⟨q, q1, q2⟩ := List.mem_map.mp (List.mem_reverse.mp a)
          have := hpl.1 q q1
          rw [← q2]; unfold dp_m; dsimp only; omega
      · rw [sm_app, sm_rev, sm_map]
        have : sm_l (fun x => sk_w (dp_m (dp + 1) x)) (pl_b DL dc f t b) = sm_l iv_w (pl_b DL dc f t b) := rfl
        rw [this]; omega
      · rw [sm_app, sm_rev, sm_map]
        have : sm_l (fun x => sk_p (dp_m (dp + 1) x)) (pl_b DL dc f t b) = (4 - dp) * sm_l iv_w (pl_b DL dc f t b) := by
          rw [← sm_mul]
          have : (fun x => sk_p (dp_m (dp + 1) x)) = (fun x => (4 - dp) * iv_w x) := by
            funext x; unfold sk_p dp_m iv_w; dsimp only; rw [show 5 - (dp + 1) = 4 - dp by omega]
          rw [this]
        rw [this]
        have h2 := hpl.2
        have : (4 - dp) * sm_l iv_w (pl_b DL dc f t b) ≤ (4 - dp) * (t - f) := Nat.mul_le_mul_left _ h2
        have e5 : (5 - dp) * (t - f + 1) = (4 - dp) * (t - f) + (4 - dp) + (t - f + 1) := by
          rw [show 5 - dp = (4 - dp) + 1 by omega, Nat.add_mul, Nat.mul_add, Nat.mul_one, Nat.one_mul]
        omega
      · unfold sk_r
        rw [List.foldr_append, List.foldr_reverse, List.foldl_map]
        have : (fun (S : List (List Nat × Nat) × Nat) (q : Nat × Nat) => rp_n DL dc (4 - (dp_m (dp + 1) q).2.2) (dp_m (dp + 1) q).1 (dp_m (dp + 1) q).2.1 S) = (fun S q => rp_n DL dc d q.1 q.2 S) := by
          funext S q; unfold dp_m; dsimp only; rw [show 4 - (dp + 1) = d by omega]
        rw [this]
theorem fl_M (hm : m < 12) : ∀ (fu : Nat) (st : List (Nat × Nat × Nat)) (S : List (List Nat × Nat) × Nat) (vv : hp_V) (ww : hp_W) (aa : hp_V) (bb : hp_B), dr_M aa n DL dc → sk_ok vv aa st → sk_in n st → sm_l sk_w st ≤ 31 → sm_l sk_p st < fu → pa_M m vv ww aa bb S → ∃ v1 w1 a1 b1, f_Mod_fill_147 fu (hp_mk vv ww aa bb) 126 = some ((), hp_mk v1 w1 a1 b1) ∧ pa_M m v1 w1 a1 b1 (sk_r DL dc st S) ∧ fr_P m vv ww aa bb v1 w1 a1 b1 := by
  intro fu
  induction fu with
  | zero => intro st S vv ww aa bb _ _ _ _ h; omega
  | succ fu ih =>
    intro st S vv ww aa bb hd hs hin h31 hph hp
    rw [f_Mod_fill_147]
    have hl31 : st.length ≤ sm_l sk_w st := sm_len (fun x _ => by unfold sk_w; omega)
    simp only [gi_126_6, ob_s, hs.1]
    rcases List.eq_nil_or_concat st with rfl | ⟨st', ⟨f, t, dp⟩, e⟩
    · rw [if_pos (show nI ([] : List (Nat × Nat × Nat)).length ≤ 0 by decide)]
      exact ⟨vv, ww, aa, bb, rfl, hp, fr_Pr⟩
    · rw [List.concat_eq_append] at e
      subst e
      have hx := hin (f, t, dp) (List.mem_append.mpr (Or.inr (List.mem_singleton.mpr rfl)))
      dsimp only at hx
      rw [List.length_append, List.length_singleton] at hl31
      rw [sm_app] at h31 hph
      have ew : sm_l sk_w [(f, t, dp)] = t - f + 1 := rfl
      have ep : sm_l sk_p [(f, t, dp)] = (5 - dp) * (t - f + 1) := rfl
      rw [ew] at h31
      rw [ep] at hph
      rw [sm_app, ew] at hl31
      have hin' : sk_in n st' := fun x hx => hin x (List.mem_append.mpr (Or.inl hx))
      have hl' : st'.length ≤ sm_l sk_w st' := sm_len (fun x _ => by unfold sk_w; omega)
      rw [if_neg (nI_nle (by rw [List.length_append]; exact Nat.succ_pos _) (by rw [List.length_append, List.length_singleton]; omega))]
      obtain ⟨v1, w1, a1, b1, t1, t2, t3, t4⟩ := tk_M hm hd hx.1 hx.2.1 hx.2.2.2 hs hp (by omega)
      obtain ⟨k1, k2, k3, k4⟩ := tk_all (DL := DL) (dc := dc) (S := S) hx.1 hx.2.1 hx.2.2.1 hx.2.2.2 hin'
      obtain ⟨v2, w2, a2, b2, s1, s2, s3⟩ := ih _ _ v1 w1 a1 b1 (dr_Mp hd t4) t3 k1 (by omega) (by omega) t2
      refine ⟨v2, w2, a2, b2, ?_, ?_, fr_Pt t4 s3⟩
      · simp only [is_126, gd_t, t1, bd_s]; exact s1
      · rw [k4] at s2
        have : sk_r DL dc (st' ++ [(f, t, dp)]) S = sk_r DL dc st' (rp_n DL dc (4 - dp) f t S) := by unfold sk_r; rw [List.foldr_append]; rfl
        rw [this]; exact s2
end PAM
