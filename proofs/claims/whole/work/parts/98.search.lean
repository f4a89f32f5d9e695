/-! search -/
theorem ep_c {WP : Bool → Option Nat → List Nat → Nat → Bool} {TP : Nat → Nat → Bool} {c : Nat → Nat} : ∀ (t k : Nat) (q : qs_T), (ep_n WP TP c t k q).1 = -1 ∨ ∃ j, j ≤ k + t ∧ (ep_n WP TP c t k q).1 = nI j := by
  intro t
  induction t with
  | zero =>
    intro k q
    show (if qf_b q = true then -1 else nI k) = -1 ∨ ∃ j, j ≤ k + 0 ∧ (if qf_b q = true then -1 else nI k) = nI j
    by_cases e : qf_b q = true
    · rw [if_pos e]; exact Or.inl rfl
    · rw [if_neg e]; exact Or.inr ⟨k, by omega, rfl⟩
  | succ t ih =>
    intro k q
    rw [ep_s]
    cases qs_n WP TP q.1 q.2.1 q.2.2.1 q.2.2.2.1 q.2.2.2.2.1 q.2.2.2.2.2 (c k) with
    | none => exact Or.inr ⟨k, by omega, rfl⟩
    | some q' =>
      rcases ih (k + 1) q' with h | ⟨j, h1, h2⟩
      · exact Or.inl h
      · exact Or.inr ⟨j, by omega, h2⟩
theorem inv_se {i j : Nat} {vv vv' : hp_V} {ww ww' : hp_W} {aa aa' : hp_V} {bb : hp_B} {ln : Nat} {lc : Nat → Int32} {dn : Nat} {DL : Nat → Nat} {DC : Nat → Nat → Int32} {th : Nat → Bool} {mi rc : Nat → Nat} {rf : Nat → Nat → Nat} {wc : Nat → Nat} {cd : Nat → Nat → Int64} {fl : Nat → Nat → Int32} {lv : Nat → Nat} {tg : Nat → Int32} {od : List Nat} {mo : Nat → Nat} {ad fd fd' : Nat} {ep ep' : Int32} (hij : i ≤ j) (h : Inv_z i vv ww aa bb ln lc dn DL DC th mi rc rf wc cd fl lv tg od mo ad fd ep)
    (hv : ∀ a k, ((a = 0 ∧ k = 7) ∨ (2 ≤ a ∧ a < 66) ∨ (76 ≤ a ∧ a < 126) ∨ (a = 66 ∧ k = 1) ∨ (a = 126 ∧ (k = 2 ∨ k = 10 ∨ k = 27))) → vv' a k = vv a k) (ha : ∀ a, (a < 71 ∨ (76 ≤ a ∧ a < 128) ∨ (129 ≤ a ∧ a < 143)) → aa' a = aa a) (ha8 : ∀ k, k < 30 → aa' 128 k = aa 128 k) (h30 : aa' 128 30 = 0) (h11 : vv' 1 1 = 0) (hw : ww' 66 = ww 66 ∧ ww' 126 = ww 126) (q1 : vv' 0 8 = nI fd') (q2 : vv' 0 9 = ep') (q3 : vv' 126 20 = nI fd') (q4 : vv' 126 21 = ep') (q5 : fd' < 4096) :
    Inv_z j vv' ww' aa' bb 0 lc dn DL DC th mi rc rf wc cd fl lv tg od mo ad fd' ep' := by
  obtain ⟨⟨l1, l2, l3⟩, ⟨d1, d2, d3⟩, a3, ⟨b1, b2, b3⟩, ⟨e1, e2, e3⟩, a6, ⟨m1, m2, m3⟩, a8, a9⟩ := h
  have hd := d3.1
  refine ⟨⟨⟨h11, fun x hx => absurd hx (Nat.not_lt_zero _)⟩, ⟨h30, fun x hx => absurd hx (Nat.not_lt_zero _)⟩, Nat.zero_le _, fun x hx => absurd hx (Nat.not_lt_zero _)⟩, ⟨cg_Adraft d1 (hv 3 1 (by omega)) (fun k hk => hv _ 1 (by omega)) (fun k hk => ha _ (by omega)), cg_Mdraft d2 (hv 126 2 (by omega)) (fun k hk => ha8 k (by omega)) (fun k hk x hx => by rw [ha 127 (by omega)]), d3⟩, ?_, ⟨cg_Amsg b1 (fun x k h1 h2 => hv x k (by omega)) (fun x h1 h2 => ha x (by omega)) (fun x _ _ => rfl), cg_Mmsg b2 (fun x h1 h2 => ha x (by omega)) rfl, b3⟩, ⟨cg_Aord e1 (hv 0 7 (by omega)) (ha 125 (by omega)), cg_Mord e2 (hv 126 10 (by omega)) (ha 134 (by omega)), Nat.le_trans e3 hij⟩, cg_par a6 (ha 70 (by omega)), ⟨⟨q1, q2⟩, ⟨q3, q4⟩, q5⟩, cg_Alet a8 hw.1 (hv 66 1 (by omega)), cg_Mlet a9 hw.2 (hv 126 27 (by omega))⟩
  intro q hq x hx
  rw [ha q (by
    simp only [hp_isC, Bool.or_eq_true, Bool.and_eq_true, beq_iff_eq, decide_eq_true_eq] at hq
    omega)]
  exact a3 q hq x hx
theorem qh_id {vv : hp_V} {ww : hp_W} {aa : hp_V} {bb : hp_B} {x : Int32} : hp_mk (up_v vv 71 4 x) ww aa bb = qh_m vv ww aa bb x (vv 71 5) (vv 71 6) (vv 75 1) (ww 75) (aa 72) (aa 73) (aa 74) := by
  have e1 : qv_V vv x (vv 71 5) (vv 71 6) (vv 75 1) = up_v vv 71 4 x := by
    funext a k; unfold qv_V up_v
    by_cases h : a = 71 ∧ k = 4
    · rw [if_pos h, if_pos h]
    · rw [if_neg h, if_neg h]
      by_cases h5 : a = 71 ∧ k = 5
      · rw [if_pos h5, h5.1, h5.2]
      · rw [if_neg h5]
        by_cases h6 : a = 71 ∧ k = 6
        · rw [if_pos h6, h6.1, h6.2]
        · rw [if_neg h6]
          by_cases h7 : a = 75 ∧ k = 1
          · rw [if_pos h7, h7.1, h7.2]
          · rw [if_neg h7]
  have e2 : up_w ww 75 (ww 75) = ww := by
    funext a; unfold up_w
    by_cases h : a = 75
    · rw [if_pos h, h]
    · rw [if_neg h]
  have e3 : qa_A aa (aa 72) (aa 73) (aa 74) = aa := by
    funext a; unfold qa_A
    by_cases h : a = 72
    · rw [if_pos h, h]
    · rw [if_neg h]
      by_cases h2 : a = 73
      · rw [if_pos h2, h2]
      · rw [if_neg h2]
        by_cases h3 : a = 74
        · rw [if_pos h3, h3]
        · rw [if_neg h3]
  unfold qh_m; rw [e1, e2, e3]
theorem op_search (i : Nat) : op_two (Inv_g i) (Inv_g (i + 4)) (fun g => f_Arc_search g 0) (fun g => f_Mod_search g 126) := by
  refine op_do (fun vv ww aa bb ln lc dn DL DC th mi rc rf wc cd fl lv tg od mo ad fd ep hz => ?_)
  have hz0 := hz
  obtain ⟨⟨⟨l1, l2⟩, ⟨l3, l4⟩, l5, l6⟩, ⟨d1, d2, d3⟩, a3, ⟨hA, hM, hX⟩, ⟨o1, o2, o7⟩, a6, ⟨m1, m2, m3⟩, a8, a9⟩ := hz
  obtain ⟨c, hcd⟩ : ∃ c : Nat → Nat, c = fun j => (lc j).toNatClampNeg := ⟨_, rfl⟩
  have hch : ∀ j, j < ln → lc j = nI (c j) ∧ c j < 256 := fun j hj => by
    obtain ⟨y, c1, c2⟩ := l6 j hj
    have : c j = y := by rw [hcd]; dsimp only; rw [c2, nI_clamp (by omega)]
    rw [this]; exact ⟨c2, c1⟩
  have hlA : ln_A vv aa 1 ln c := ⟨l5, l1, fun j hj => ⟨by rw [← (hch j hj).1]; exact l2 j hj, (hch j hj).2⟩⟩
  obtain ⟨dw, hdw⟩ : ∃ dw : Nat → Nat → List Nat, ∀ m, m < 12 → ∀ k, k < wc m → cw_ok (dw m k) ∧ cd m k = lN (cw_val (dw m k)) := by
    have hch2 : ∀ m k, ∃ ds, m < 12 → k < wc m → cw_ok ds ∧ cd m k = lN (cw_val ds) := fun m k => by
      by_cases hm : m < 12
      · by_cases hk : k < wc m
        · obtain ⟨ds, h⟩ := (hX.1 m hm).2.2.2.2.2 k hk
          exact ⟨ds, fun _ _ => h⟩
        · exact ⟨[], fun _ z => absurd z hk⟩
      · exact ⟨[], fun z => absurd z hm⟩
    exact ⟨fun m k => (hch2 m k).choose, fun m hm k hk => (hch2 m k).choose_spec hm hk⟩
  have hwk : wk_ok wc cd dw := fun m hm => ⟨(hX.1 m hm).2.2.2.1, hdw m hm⟩
  have hqm : qm_ok vv aa bb wc cd dw fl tg := ⟨hwk, fun m hm => by
    obtain ⟨-, -, -, h4, -, h6, -, h8⟩ := hA m hm
    exact ⟨h6, h4, h8⟩⟩
  obtain ⟨E, hE⟩ : ∃ E, E = ep_n (qw_p cd dw fl wc) (tp_b tg) c ln 0 (0, none, [], [], lv_0, fun _ => false) := ⟨_, rfl⟩
  have hrl : rl_q th (upd (aa 72) 0 0) (upd (aa 73) 0 (-1)) (upd (aa 74) 0 0) 0 lv_0 := by
    refine ⟨fun m hm _ => ?_, fun m hm _ => ?_, ?_⟩
    · rw [pk_us]; exact bt_0
    · rw [pk_us]; exact bt_m1 (by omega)
    · rw [pk_us]; rfl
  have hrq : rq_q th (nI 0) 0 (-1) 0 0 (upd (aa 72) 0 0) (upd (aa 73) 0 (-1)) (upd (aa 74) 0 0) (0, none, [], [], lv_0, fun _ => false) := rq_0 (K := []) (Nat.zero_le _) (fun j hj => absurd hj (Nat.not_lt_zero _)) hrl
  obtain ⟨l', s', f', n', w', fa', fl', fn', rd1, rd2⟩ := rd_q (vv := vv) (ww := ww) (aa := aa) (bb := bb) (th := th) hqm hlA m_fu ln 0 (0, none, [], [], lv_0, fun _ => false) (nI 0) 0 (-1) 0 0 _ _ _ (by omega) (by unfold m_fu; omega) hrq
  rw [← hE] at rd1 rd2
  have bl := bl_q (vv := vv) (ww := ww) (aa := aa) (bb := bb) (s := vv 71 5) (f := vv 71 6) (n := vv 75 1) (w := ww 75) (fa := aa 72) (fl := aa 73) (fn := aa 74) (k := 0) (by omega)
  have bl' : f_Query_beginLevel (hp_mk (up_v vv 71 4 0) ww aa bb) 71 = some ((), qh_m vv ww aa bb (nI 0) 0 (-1) 0 0 (upd (aa 72) 0 0) (upd (aa 73) 0 (-1)) (upd (aa 74) 0 0)) := by
    rw [qh_id]; exact bl
  have rd1' : f_Query_read_11 m_fu (qh_m vv ww aa bb (nI 0) 0 (-1) 0 0 (upd (aa 72) 0 0) (upd (aa 73) 0 (-1)) (upd (aa 74) 0 0)) 71 (some 1) (some 76) 0 = _ := rd1
  have eread : f_Query_read (hp_mk vv ww aa bb) 71 (some 1) (some 76) = some (E.1, hp_mk (qv_V vv l' s' f' n') (up_w ww 75 w') (qa_A aa fa' fl' fn') bb) := by
    unfold f_Query_read
    rw [pi_71_4, ob_s, is_71, gd_t, bl', bd_s, rd1']; rfl
  have hEc : E.1 = -1 ∨ ∃ j, j ≤ 40 ∧ E.1 = nI j := by
    rcases ep_c ln 0 (0, none, [], [], lv_0, fun _ => false) (WP := qw_p cd dw fl wc) (TP := tp_b tg) (c := c) with h | ⟨j, h1, h2⟩
    · rw [← hE] at h; exact Or.inl h
    · rw [← hE] at h2; exact Or.inr ⟨j, by omega, h2⟩
  obtain ⟨V, hV⟩ : ∃ V, V = up_v (up_v (qv_V vv l' s' f' n') 0 9 E.1) 1 1 0 := ⟨_, rfl⟩
  obtain ⟨A, hAA⟩ : ∃ A, A = qa_A aa fa' fl' fn' := ⟨_, rfl⟩
  have A_o : ∀ a, a ≠ 72 → a ≠ 73 → a ≠ 74 → A a = aa a := fun a h1 h2 h3 => by rw [hAA]; exact qa_o h1 h2 h3
  have V_o : ∀ a k, a ≠ 71 → a ≠ 75 → ¬ (a = 0 ∧ k = 9) → ¬ (a = 1 ∧ k = 1) → V a k = vv a k := fun a k h1 h2 h3 h4 => by
    rw [hV, uv_n (by omega), uv_n (by omega), qv_o h1 h2]
  have V09 : V 0 9 = E.1 := by rw [hV, uv_i (by omega), uv_s]
  have V11 : V 1 1 = 0 := by rw [hV, uv_s]
  -- the reference's error
  have hqi : qi_n c 0 (0, none, [], [], lv_0, fun _ => false) := ⟨Nat.zero_le _, Nat.zero_le _, fun z => nn_a rfl z⟩
  obtain ⟨A2, hA2⟩ : ∃ A2, A2 = up_a A 128 (upd (A 128) 30 0) := ⟨_, rfl⟩
  have A2_o : ∀ a, a ≠ 72 → a ≠ 73 → a ≠ 74 → a ≠ 128 → A2 a = aa a := fun a h1 h2 h3 h4 => by rw [hA2, ua_n h4]; exact A_o a h1 h2 h3
  have A2_k : ∀ k, k < 30 → A2 128 k = aa 128 k := fun k hk => by rw [hA2, ua_s, pk_un (by omega), A_o 128 (by omega) (by omega) (by omega)]
  have A2_30 : A2 128 30 = 0 := by rw [hA2, ua_s, pk_us]
  have hql : ql_M A2 ln c := ⟨l5, fun k hk => ⟨by rw [A2_o 127 (by omega) (by omega) (by omega) (by omega), l4 k hk]; exact (hch k hk).1, (hch k hk).2⟩⟩
  have hmw : mw_ok A2 bb th wc cd fl tg := fun m hm => by
    obtain ⟨h1, -, -, h4, -, h6, -, h8⟩ := hM m hm
    rw [A2_o 132 (by omega) (by omega) (by omega) (by omega), A2_o 137 (by omega) (by omega) (by omega) (by omega), A2_o 139 (by omega) (by omega) (by omega) (by omega), A2_o 141 (by omega) (by omega) (by omega) (by omega)]
    exact ⟨h1, h6, h4, h8⟩
  have efault : ∀ v w, f_Mod_fault (hp_mk v w A2 bb) 126 (nI ln) = some (E.1, hp_mk v w A2 bb) := fun v w => by
    have e := fq_M (vv := v) (ww := w) (bb := bb) (WP := qw_p cd dw fl wc) (TP := tp_b tg) hql m_fu ln 0 (0, none, [], [], lv_0, fun _ => false) (by omega) (by unfold m_fu; omega) hqi
    rw [← hE] at e
    exact e
  have estart : ∀ v w, f_Mod_search (hp_mk v w A bb) 126 = if E.1 < 0 then f_Mod_search_46 m_fu (hp_mk (up_v (up_v (up_v v 126 21 E.1) 126 24 0) 126 25 0) w A2 bb) 126 (nI ln) 0 else some ((-3), hp_mk (up_v v 126 21 E.1) w A2 bb) := fun v w => by
    have l30 : m_ld (hp_mk v w A bb) 128 0 30 = some (A 128 30) := ld_128 (k := 30) (by omega)
    have hA30 : A 128 30 = nI ln := by rw [A_o 128 (by omega) (by omega) (by omega)]; exact l3
    unfold f_Mod_search
    simp only [gr_126_1, ob_s, l30, hA30, s_30, ← hA2, is_126, gd_t, efault, bd_s, pi_126_21, pi_126_24, pi_126_25]
  rcases hEc with hE1 | ⟨j, hj, hEj⟩
  · -- no error
    obtain ⟨xA, xB, -⟩ := rd2 hE1
    obtain ⟨Y, hY⟩ : ∃ Y, Y = vl_b (fe_L E.2) (fe_x (qw_p cd dw fl wc) E.2) := ⟨_, rfl⟩
    have hset : (fa' 0 ||| fl' 0) &&& nI (bm_n th 12) = ms_p th Y := ms_fin (fun m hm ht => by
      rw [bt_or, xA m hm ht, xB m hm ht, hY]; rfl)
    have hodV : rA_ord V A od := cg_Aord o1 (V_o 0 7 (by omega) (by omega) (by omega) (by omega)) (A_o 125 (by omega) (by omega) (by omega))
    have ethere : f_Arc_numbersThere (hp_mk V (up_w ww 75 w') A bb) 0 = some (nI (bm_n th 12), hp_mk V (up_w ww 75 w') A bb) := mA_there hX.2.2.1 hX.2.2.2 hodV
    have A72 : A 72 0 = fa' 0 := by rw [hAA]; rfl
    have A73 : A 73 0 = fl' 0 := by rw [hAA]; rfl
    have l72 : m_ld (hp_mk V (up_w ww 75 w') A bb) 72 0 0 = some (A 72 0) := ld_72 (k := 0) (by omega)
    have l73 : m_ld (hp_mk V (up_w ww 75 w') A bb) 73 0 0 = some (A 73 0) := ld_73 (k := 0) (by omega)
    have ehold : f_Query_holding (hp_mk V (up_w ww 75 w') A bb) 71 = some (fa' 0 ||| fl' 0, hp_mk V (up_w ww 75 w') A bb) := by
      unfold f_Query_holding
      simp only [gr_71_0, ob_s, l72, gr_71_1, l73, A72, A73]
    obtain ⟨V2, hV2⟩ : ∃ V2, V2 = up_v V 0 8 (ms_p th Y) := ⟨_, rfl⟩
    have V2_8 : V2 0 8 = ms_p th Y := by rw [hV2, uv_s]
    have V2_o : ∀ a k, ¬ (a = 0 ∧ k = 8) → V2 a k = V a k := fun a k h => by rw [hV2, uv_n (by omega)]
    obtain ⟨V3, hV3⟩ : ∃ V3, V3 = up_v (up_v (up_v V2 126 21 E.1) 126 24 0) 126 25 0 := ⟨_, rfl⟩
    have V3_o : ∀ a k, ¬ (a = 126 ∧ (k = 21 ∨ k = 24 ∨ k = 25)) → V3 a k = V2 a k := fun a k h => by rw [hV3, uv_n (by omega), uv_n (by omega), uv_n (by omega)]
    have V3_21 : V3 126 21 = E.1 := by rw [hV3, uv_n (by omega), uv_n (by omega), uv_s]
    have V3_24 : V3 126 24 = nI 0 := by rw [hV3, uv_n (by omega), uv_s]; rfl
    have V3_25 : V3 126 25 = nI 0 := by rw [hV3, uv_s]; rfl
    have hed : ed_P V3 (up_w ww 75 w') A2 bb th 0 [] lv_0 (hp_mk V3 (up_w ww 75 w') A2 bb) := ⟨⟨V3, A2, rfl, fun _ _ _ => rfl, fun _ _ _ => rfl, V3_24, V3_25, fun j y hy => (by have hy' : ([] : List Int32)[j]? = some y := hy; rw [List.getElem?_nil] at hy'; cases hy'), fun j y hy => (by have hy' : ([] : List Nat)[j]? = some y := hy; rw [List.getElem?_nil] at hy'; cases hy')⟩, Nat.le_refl _, Nat.le_refl _⟩
    have hen : (en_n (qw_p cd dw fl wc) (tp_b tg) c ln 0 (0, none, [], [], lv_0, fun _ => false)).1 = -1 := by
      unfold en_n; rw [← hE]; exact hE1
    have hen2 : vl_b (en_n (qw_p cd dw fl wc) (tp_b tg) c ln 0 (0, none, [], [], lv_0, fun _ => false)).2.1 (en_n (qw_p cd dw fl wc) (tp_b tg) c ln 0 (0, none, [], [], lv_0, fun _ => false)).2.2 = Y := by
      unfold en_n; dsimp only; rw [← hE, hY]
    obtain ⟨v4, a4, s1, s2, s3⟩ := se_M (vv := V3) (ww := up_w ww 75 w') (aa := A2) (bb := bb) (th := th) hql hwk hmw m_fu ln 0 (0, none, [], [], lv_0, fun _ => false) (hp_mk V3 (up_w ww 75 w') A2 bb) (by omega) (by unfold m_fu; omega) hen (Or.inl ⟨rfl, hed⟩)
    rw [hen2] at s1
    have s1' : f_Mod_search_46 m_fu (hp_mk V3 (up_w ww 75 w') A2 bb) 126 (nI ln) 0 = _ := s1
    have hlt : bm_n (fun m => th m && Y m) 12 < 4096 := bm_lt 12
    have hms : ms_p th Y = nI (bm_n (fun m => th m && Y m) 12) := rfl
    refine ⟨nI (bn_n (bm_n (fun m => th m && Y m) 12) 12), V2, up_w ww 75 w', A, bb, up_v v4 126 20 (ms_p th Y), up_w ww 75 w', a4, bb, ?_, ?_, 0, lc, dn, DL, DC, th, mi, rc, rf, wc, cd, fl, lv, tg, od, mo, ad, bm_n (fun m => th m && Y m) 12, -1, ?_⟩
    · show f_Arc_search (hp_mk vv ww aa bb) 0 = _
      have ebc : f_Integer_bitCount (hp_mk V2 (up_w ww 75 w') A bb) (ms_p th Y) = some (nI (bn_n (bm_n (fun m => th m && Y m) 12) 12), hp_mk V2 (up_w ww 75 w') A bb) := bc_eq hlt
      unfold f_Arc_search
      simp only [gr_0_4, gr_0_0, gr_0_5, ob_s, is_71, gd_t, eread, bd_s, pi_0_9, is_L isL_1, ln_clear isL_1, ← hV, ← hAA, gi_0_9, V09]
      rw [if_pos (show E.1 < 0 by rw [hE1]; decide)]
      simp only [gr_0_4, ob_s, is_71, gd_t, ehold, bd_s, is_0, ethere, hset, pi_0_8, ← hV2, gi_0_8, V2_8, ebc]
    · show f_Mod_search (hp_mk V2 (up_w ww 75 w') A bb) 126 = _
      rw [estart, if_pos (show E.1 < 0 by rw [hE1]; decide), ← hV3]
      exact s1'
    · refine inv_se (by omega) hz0 (fun a k h => ?_) (fun a h => ?_) (fun k hk => ?_) ?_ ?_ ⟨?_, ?_⟩ ?_ ?_ ?_ ?_ hlt
      · rw [uv_n (by omega), s2 a k (by omega), V3_o a k (by omega), V2_o a k (by omega), V_o a k (by omega) (by omega) (by omega) (by omega)]
      · rw [s3 a (by omega) (by omega), A2_o a (by omega) (by omega) (by omega) (by omega)]
      · rw [s3 128 (by omega) (by omega), A2_k k hk]
      · rw [s3 128 (by omega) (by omega), A2_30]
      · rw [uv_i (by omega), s2 1 1 (by omega), V3_o 1 1 (by omega), V2_o 1 1 (by omega), V11]
      · unfold up_w; rw [if_neg (by omega)]
      · unfold up_w; rw [if_neg (by omega)]
      · rw [uv_i (by omega), s2 0 8 (by omega), V3_o 0 8 (by omega), V2_8]; rfl
      · rw [uv_i (by omega), s2 0 9 (by omega), V3_o 0 9 (by omega), V2_o 0 9 (by omega), V09, hE1]
      · rw [uv_s]; rfl
      · rw [uv_n (by omega), s2 126 21 (by omega), V3_21, hE1]
  · -- an error
    have hneg : ¬ E.1 < 0 := by rw [hEj]; exact nI_pos (by omega)
    refine ⟨-3, V, up_w ww 75 w', A, bb, up_v V 126 21 E.1, up_w ww 75 w', A2, bb, ?_, ?_, 0, lc, dn, DL, DC, th, mi, rc, rf, wc, cd, fl, lv, tg, od, mo, ad, fd, E.1, ?_⟩
    · show f_Arc_search (hp_mk vv ww aa bb) 0 = _
      unfold f_Arc_search
      simp only [gr_0_4, gr_0_0, gr_0_5, ob_s, is_71, gd_t, eread, bd_s, pi_0_9, is_L isL_1, ln_clear isL_1, ← hV, ← hAA, gi_0_9, V09]
      rw [if_neg hneg]
    · show f_Mod_search (hp_mk V (up_w ww 75 w') A bb) 126 = _
      rw [estart, if_neg hneg]
    · refine inv_se (by omega) hz0 (fun a k h => ?_) (fun a h => ?_) (fun k hk => ?_) ?_ ?_ ⟨?_, ?_⟩ ?_ ?_ ?_ ?_ m3
      · rw [uv_n (by omega), V_o a k (by omega) (by omega) (by omega) (by omega)]
      · rw [A2_o a (by omega) (by omega) (by omega) (by omega)]
      · exact A2_k k hk
      · exact A2_30
      · rw [uv_i (by omega), V11]
      · unfold up_w; rw [if_neg (by omega)]
      · unfold up_w; rw [if_neg (by omega)]
      · rw [uv_i (by omega), V_o 0 8 (by omega) (by omega) (by omega) (by omega)]; exact m1.1
      · rw [uv_i (by omega), V09]
      · rw [uv_n (by omega), V_o 126 20 (by omega) (by omega) (by omega) (by omega)]; exact m2.1
      · rw [uv_s]
