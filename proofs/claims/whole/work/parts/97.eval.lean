/-! search: the reference reads a QUERY that has no error -/
def en_n (WP : Bool → Option Nat → List Nat → Nat → Bool) (TP : Nat → Nat → Bool) (c : Nat → Nat) (t k : Nat) (q : qs_T) : Int32 × lv_T × (Nat → Bool) := ((ep_n WP TP c t k q).1, fe_L (ep_n WP TP c t k q).2, fe_x WP (ep_n WP TP c t k q).2)
section ENN
variable {WP : Bool → Option Nat → List Nat → Nat → Bool} {TP : Nat → Nat → Bool} {c : Nat → Nat} {t k : Nat} {q q' : qs_T} {md : Nat} {fo : Option Nat} {ls : List Nat} {K : List lv_T} {L : lv_T} {x : Nat → Bool}
theorem en_s (h : qs_n WP TP q.1 q.2.1 q.2.2.1 q.2.2.2.1 q.2.2.2.2.1 q.2.2.2.2.2 (c k) = some q') : en_n WP TP c (t + 1) k q = en_n WP TP c t (k + 1) q' := by
  unfold en_n; rw [ep_s, h]
theorem en_x (h : qs_n WP TP q.1 q.2.1 q.2.2.1 q.2.2.2.1 q.2.2.2.2.1 q.2.2.2.2.2 (c k) = none) : (en_n WP TP c (t + 1) k q).1 = nI k := by
  unfold en_n; rw [ep_s, h]
theorem en_0 : (en_n WP TP c 0 k q).1 = if qf_b q = true then -1 else nI k := rfl
theorem qs_12 (hm : md = 1 ∨ md = 2) {c : Nat} : qs_n WP TP md fo ls K L x c = (if 0 < sl_n c then some (2, fo, wd_put ls (sl_n c), K, L, x)
  else if c = 42 then some (5, none, [], K, lv_z L, ng_b L (WP true fo ls))
  else if md = 1 ∧ c = 58 then (match fn_n ls with
    | none => none
    | some none => some (4, none, [], K, L, x)
    | some (some f) => some (3, some f, [], K, L, x))
  else be_n K (lv_z L) (ng_b L (WP false fo ls)) c) := by
  unfold qs_n
  rw [if_neg (show ¬ md = 0 by omega), if_neg (show ¬ md = 3 by omega), if_neg (show ¬ md = 4 by omega), if_neg (show ¬ md = 5 by omega)]; rfl
theorem qs_5 {c : Nat} : qs_n WP TP 5 fo ls K L x c = be_n K L x c := by
  unfold qs_n
  rw [if_neg (show ¬ (5 : Nat) = 0 by omega), if_neg (show ¬ (5 : Nat) = 3 by omega), if_neg (show ¬ (5 : Nat) = 4 by omega), if_pos rfl]
theorem en_5 (hm : md = 1 ∨ md = 2) (hc : 0 < t → ¬ 0 < sl_n (c k) ∧ c k ≠ 42 ∧ ¬ (md = 1 ∧ c k = 58)) : en_n WP TP c t k (md, fo, ls, K, L, x) = en_n WP TP c t k (5, none, [], K, lv_z L, ng_b L (WP false fo ls)) := by
  have f1 : fe_L (md, fo, ls, K, L, x) = fe_L (5, none, [], K, lv_z L, ng_b L (WP false fo ls)) := by
    unfold fe_L; dsimp only; rw [if_neg (show ¬ md = 5 by omega), if_pos rfl]
  have f2 : fe_x WP (md, fo, ls, K, L, x) = fe_x WP (5, none, [], K, lv_z L, ng_b L (WP false fo ls)) := by
    unfold fe_x; dsimp only; rw [if_neg (show ¬ md = 5 by omega), if_pos rfl]
  cases t with
  | zero =>
    have f3 : qf_b (md, fo, ls, K, L, x) = qf_b (5, none, [], K, lv_z L, ng_b L (WP false fo ls)) := by
      unfold qf_b; dsimp only
      by_cases e : K.length = 0
      · rw [decide_eq_true ⟨e, by omega⟩, decide_eq_true ⟨e, by omega⟩]
      · rw [decide_eq_false (fun z => e z.1), decide_eq_false (fun z => e z.1)]
    unfold en_n ep_n
    rw [f3, f1, f2]
  | succ t =>
    obtain ⟨c1, c2, c3⟩ := hc (by omega)
    have e1 : qs_n WP TP md fo ls K L x (c k) = be_n K (lv_z L) (ng_b L (WP false fo ls)) (c k) := by
      rw [qs_12 hm, if_neg c1, if_neg c2, if_neg c3]
    have e2 : qs_n WP TP 5 none [] K (lv_z L) (ng_b L (WP false fo ls)) (c k) = be_n K (lv_z L) (ng_b L (WP false fo ls)) (c k) := qs_5
    unfold en_n
    rw [ep_s, ep_s]
    dsimp only
    rw [e1, e2]
    cases be_n K (lv_z L) (ng_b L (WP false fo ls)) (c k) with
    | none => dsimp only; rw [f1, f2]
    | some q' => rfl
end ENN
def mw_ok (aa : hp_V) (bb : hp_B) (th : Nat → Bool) (wc : Nat → Nat) (cd : Nat → Nat → Int64) (fdl : Nat → Nat → Int32) (tg : Nat → Int32) : Prop := ∀ m, m < 12 → aa 132 m = iB (th m) ∧ aa 137 m = tg m ∧ aa 139 m = nI (wc m) ∧ ∀ k, k < wc m → bb 140 (50 * m + k) = cd m k ∧ aa 141 (50 * m + k) = fdl m k
section TRM
variable {vv : hp_V} {ww : hp_W} {aa : hp_V} {bb : hp_B} {th : Nat → Bool} {wc : Nat → Nat} {cd : Nat → Nat → Int64} {dw : Nat → Nat → List Nat} {fdl : Nat → Nat → Int32} {tg : Nat → Int32} {c : Nat → Nat} {n : Nat}
variable {X : List Int32} {G : List Nat} {ns ng : Nat} {g : m_G} {K : List lv_T} {L : lv_T} {x : Nat → Bool}
theorem ek_at (hl : ql_M aa n c) (h : ek_P vv ww aa bb X G ns ng g) {k : Nat} (hk : k < n) : f_Mod_at g 126 30 (nI k) = some (nI (c k), g) := by
  obtain ⟨v1, a1, rfl, h1, h2, _⟩ := h
  exact ql_at ⟨hl.1, fun j hj => by rw [h2 127 (by omega) (by omega)]; exact hl.2 j hj⟩ hk
theorem ek_ww (hw : wk_ok wc cd dw) (hm : mw_ok aa bb th wc cd fdl tg) (h : ek_P vv ww aa bb X G ns ng g) {pf : Bool} {fo : Option Nat} {ls : List Nat} (hv : cw_ok ls) (hf : ∀ f, fo = some f → f < 3) : f_Mod_withWord g 126 (lN (cw_val ls)) (iB pf) (th_enc fo) = some (ms_p th (qw_p cd dw fdl wc pf fo ls), g) := by
  obtain ⟨v1, a1, rfl, h1, h2, _⟩ := h
  refine ww_M hw (fun _ => ⟨hv, rfl⟩) hf (fun m hm2 => ?_)
  obtain ⟨m1, m2, m3, m4⟩ := hm m hm2
  rw [h2 132 (by omega) (by omega), h2 139 (by omega) (by omega), h2 141 (by omega) (by omega)]
  exact ⟨m1, m3, m4⟩
theorem ek_tt (hm : mw_ok aa bb th wc cd fdl tg) (h : ek_P vv ww aa bb X G ns ng g) {d : Nat} : f_Mod_withTag g 126 (nI d) = some (ms_p th (tp_b tg d), g) := by
  obtain ⟨v1, a1, rfl, h1, h2, _⟩ := h
  refine tt_M (fun m hm2 => ?_)
  obtain ⟨m1, m2, m3, m4⟩ := hm m hm2
  rw [h2 132 (by omega) (by omega), h2 137 (by omega) (by omega)]
  exact ⟨m1, m2⟩
theorem te_177 (hw : wk_ok wc cd dw) (hm : mw_ok aa bb th wc cd fdl tg) {k0 : Nat} (hd : ed_P vv ww aa bb th k0 K L g) (hk0 : k0 ≤ 40) {fo : Option Nat} {ls : List Nat} (hv : cw_ok ls) (hf : ∀ f, fo = some f → f < 3) (pf : Bool) (j : Nat) : ∃ g', f_Mod_term_177 g 126 (nI j) (th_enc fo) (lN (cw_val ls)) (iB pf) = some (nI (if pf = true then j + 1 else j), g') ∧ eb_P vv ww aa bb th (k0 + 1) K (lv_z L) (ng_b L (qw_p cd dw fdl wc pf fo ls)) g' := by
  obtain ⟨g', e1, e2⟩ := one_d (fun m hm2 => (hm m hm2).1) hd (by omega) (qw_p cd dw fdl wc pf fo ls)
  refine ⟨g', ?_, e2⟩
  unfold f_Mod_term_177 f_Mod_term_205
  simp only [ed_is hd, gd_t, ek_ww hw hm hd.1 hv hf, bd_s, e1]
  cases pf with
  | false => rw [if_pos (show iB false = 0 from rfl), if_neg (by decide)]
  | true => rw [if_neg (show ¬ iB true = 0 by decide), if_pos rfl, nI_1]
theorem wt_s (hl : ql_M aa n c) (h : ek_P vv ww aa bb X G ns ng g) {ls : List Nat} {cnt j : Nat} (hj : j < n) (hs : 0 < sl_n (c j)) (hc : ls.length = min cnt 12) (hc2 : cnt < 1000) (f5 : Int32) (fu : Nat) : f_Mod_term_98 (fu + 1) g 126 (nI n) (nI j) f5 (lN (cw_val ls)) (nI cnt) = f_Mod_term_98 fu g 126 (nI n) (nI (j + 1)) f5 (lN (cw_val (wd_put ls (sl_n (c j))))) (nI (cnt + 1)) := by
  have h40 := hl.1
  have hcj := (hl.2 j hj).2
  have hin := sl_in hs
  have hsl : sl_n (c j) = c j - 96 := by unfold sl_n; rw [if_pos hin]
  rw [f_Mod_term_98, if_neg (nI_ge hj (by omega)), ek_is h, gd_t, ek_at hl h hj, bd_s, il_M hcj, bd_s, decide_eq_true hs, if_neg (show ¬ iB true = 0 by decide)]
  unfold f_Mod_term_146
  by_cases e : cnt < 12
  · have hp : wd_put ls (sl_n (c j)) = ls ++ [sl_n (c j)] := by unfold wd_put; rw [if_pos (by omega)]
    rw [if_neg (show ¬ (12 : Int32) ≤ nI cnt from nI_ge (b := 12) e (by omega)), ek_is h, gd_t, ek_at hl h hj, bd_s, nI_1, nI_1, hp, cw_app, hsl]
    have e2 : 32 * lN (cw_val ls) + (nI (c j)).toInt64 - 97 + 1 = lN (32 * cw_val ls + (c j - 96)) := by
      rw [nI_l (by omega), show (32 : Int64) = lN 32 from rfl, lN_mul, lN_add, show (97 : Int64) = lN 97 from rfl, lN_sub (by omega), show (1 : Int64) = lN 1 from rfl, lN_add]
      exact congrArg lN (by omega)
    rw [e2]
  · have hp : wd_put ls (sl_n (c j)) = ls := by unfold wd_put; rw [if_neg (by omega)]
    rw [if_pos (show (12 : Int32) ≤ nI cnt from nI_le (a := 12) (by omega) (by omega)), nI_1, nI_1, hp]
theorem wt_M (hl : ql_M aa n c) (hw : wk_ok wc cd dw) (hm : mw_ok aa bb th wc cd fdl tg) {k0 : Nat} (hd : ed_P vv ww aa bb th k0 K L g) (hk0 : k0 ≤ 40) {fo : Option Nat} (hf : ∀ f, fo = some f → f < 3) : ∀ (fu t j md : Nat) (ls : List Nat) (cnt : Nat), j + t = n → t < fu → (md = 1 ∨ md = 2) → ls_ok ls → 1 ≤ ls.length → ls.length = min cnt 12 → cnt ≤ j → (md = 1 → 0 < t → c j ≠ 58) → ∃ g' j' t' p, j' + t' = n ∧ j ≤ j' ∧ f_Mod_term_98 fu g 126 (nI n) (nI j) (th_enc fo) (lN (cw_val ls)) (nI cnt) = some (nI j', g') ∧ eb_P vv ww aa bb th (k0 + 1) K (lv_z L) (ng_b L p) g' ∧ en_n (qw_p cd dw fdl wc) (tp_b tg) c t j (md, fo, ls, K, L, x) = en_n (qw_p cd dw fdl wc) (tp_b tg) c t' j' (5, none, [], K, lv_z L, ng_b L p) := by
  have h40 := hl.1
  intro fu
  induction fu with
  | zero => intro t j md ls cnt _ h; omega
  | succ fu ih =>
    intro t j md ls cnt hj ht hmd hls h1 hcn hcj h58
    have hok : cw_ok ls := ⟨h1, hls⟩
    cases t with
    | zero =>
      obtain ⟨g', e1, e2⟩ := te_177 hw hm hd hk0 hok hf false j
      refine ⟨g', j, 0, _, hj, Nat.le_refl _, ?_, e2, en_5 hmd (fun z => by omega)⟩
      rw [f_Mod_term_98, if_pos (nI_le (show n ≤ j by omega) (by omega))]
      unfold f_Mod_term_155
      rw [if_pos (nI_le (show n ≤ j by omega) (by omega))]
      exact e1
    | succ t =>
      have hjn : j < n := by omega
      have hc := (hl.2 j hjn).2
      by_cases hs : 0 < sl_n (c j)
      · have hin := sl_in hs
        have hsl : sl_n (c j) = c j - 96 := by unfold sl_n; rw [if_pos hin]
        have hlen : (wd_put ls (sl_n (c j))).length = min (cnt + 1) 12 := by
          unfold wd_put
          by_cases e : ls.length < 12
          · rw [if_pos e, List.length_append, List.length_singleton]; omega
          · rw [if_neg e]; omega
        obtain ⟨g', j', t', p, a1, a2, a3, a4, a5⟩ := ih t (j + 1) 2 (wd_put ls (sl_n (c j))) (cnt + 1) (by omega) (by omega) (Or.inr rfl) (wd_put_ok hls (by omega) (by omega)) (by omega) hlen (by omega) (fun z => by omega)
        refine ⟨g', j', t', p, a1, by omega, ?_, a4, ?_⟩
        · rw [wt_s hl hd.1 hjn hs hcn (by omega)]; exact a3
        · rw [en_s (q' := (2, fo, wd_put ls (sl_n (c j)), K, L, x)) (by dsimp only; rw [qs_12 hmd, if_pos hs])]
          exact a5
      · have e98 : f_Mod_term_98 (fu + 1) g 126 (nI n) (nI j) (th_enc fo) (lN (cw_val ls)) (nI cnt) = f_Mod_term_155 g 126 (nI n) (nI j) (th_enc fo) (lN (cw_val ls)) := by
          rw [f_Mod_term_98, if_neg (nI_ge hjn (by omega)), ed_is hd, gd_t, ek_at hl hd.1 hjn, bd_s, il_M hc, bd_s, decide_eq_false hs, if_pos (show iB false = 0 from rfl)]
        rw [e98]
        unfold f_Mod_term_155
        rw [if_neg (nI_ge hjn (by omega)), ed_is hd, gd_t, ek_at hl hd.1 hjn, bd_s]
        by_cases e42 : c j = 42
        · obtain ⟨g', e1, e2⟩ := te_177 hw hm hd hk0 hok hf true j
          rw [if_pos (show nI (c j) = 42 by rw [e42]; rfl)]
          refine ⟨g', j + 1, t, _, by omega, by omega, e1, e2, ?_⟩
          rw [en_s (q' := (5, none, [], K, lv_z L, ng_b L (qw_p cd dw fdl wc true fo ls))) (by dsimp only; rw [qs_12 hmd, if_neg hs, if_pos e42])]
        · obtain ⟨g', e1, e2⟩ := te_177 hw hm hd hk0 hok hf false j
          rw [if_neg (show ¬ nI (c j) = (42 : Int32) from nI_ne (b := 42) (by omega) (by omega) e42)]
          exact ⟨g', j, t + 1, _, hj, Nat.le_refl _, e1, e2, en_5 hmd (fun _ => ⟨hs, e42, fun z => h58 z.1 (by omega) z.2⟩)⟩
theorem ws_M (hl : ql_M aa n c) (h : ek_P vv ww aa bb X G ns ng g) {j : Nat} (hj : j < n) (hs : 0 < sl_n (c j)) (f5 : Int32) : f_Mod_term_92 g 126 (nI n) (nI j) f5 = f_Mod_term_98 99999 g 126 (nI n) (nI (j + 1)) f5 (lN (cw_val [sl_n (c j)])) (nI 1) := by
  have e := wt_s hl h (ls := []) (cnt := 0) hj hs rfl (by omega) f5 99999
  exact e
theorem tm_M (hl : ql_M aa n c) (hw : wk_ok wc cd dw) (hm : mw_ok aa bb th wc cd fdl tg) {k t : Nat} (hk : k + t = n) (hkn : k < n) (hd : ed_P vv ww aa bb th k K L g) (hs : 0 < sl_n (c k)) {fo : Option Nat} {ls : List Nat} (he : (en_n (qw_p cd dw fdl wc) (tp_b tg) c t k (0, fo, ls, K, L, x)).1 = -1) : ∃ g' j' t' p, j' + t' = n ∧ k < j' ∧ f_Mod_term g 126 (nI k) (nI n) = some (nI j', g') ∧ eb_P vv ww aa bb th (k + 1) K (lv_z L) (ng_b L p) g' ∧ en_n (qw_p cd dw fdl wc) (tp_b tg) c t k (0, fo, ls, K, L, x) = en_n (qw_p cd dw fdl wc) (tp_b tg) c t' j' (5, none, [], K, lv_z L, ng_b L p) := by
  have h40 := hl.1
  have hin := sl_in hs
  have hsl : sl_n (c k) = c k - 96 := by unfold sl_n; rw [if_pos hin]
  have hck := (hl.2 k hkn).2
  cases t with
  | zero => omega
  | succ t =>
    have q1 : qs_n (qw_p cd dw fdl wc) (tp_b tg) 0 fo ls K L x (c k) = some (1, none, [sl_n (c k)], K, L, x) := by
      unfold qs_n
      rw [if_pos rfl, if_neg (show ¬ c k = 33 by omega), if_neg (show ¬ c k = 40 by omega), if_pos hs]
    rw [en_s (q' := (1, none, [sl_n (c k)], K, L, x)) q1] at he ⊢
    have lsok : ∀ y, 1 ≤ y → y ≤ 26 → ls_ok [y] := fun y y1 y2 => ⟨by show 1 ≤ 12; omega, fun d hd => by rw [List.mem_singleton] at hd; omega⟩
    have plain : (0 < t → c (k + 1) ≠ 58) → f_Mod_term g 126 (nI k) (nI n) = f_Mod_term_92 g 126 (nI n) (nI k) (-1) → ∃ g' j' t' p, j' + t' = n ∧ k < j' ∧ f_Mod_term g 126 (nI k) (nI n) = some (nI j', g') ∧ eb_P vv ww aa bb th (k + 1) K (lv_z L) (ng_b L p) g' ∧ en_n (qw_p cd dw fdl wc) (tp_b tg) c t (k + 1) (1, none, [sl_n (c k)], K, L, x) = en_n (qw_p cd dw fdl wc) (tp_b tg) c t' j' (5, none, [], K, lv_z L, ng_b L p) := fun h58 hT => by
      obtain ⟨g', j', t', p, a1, a2, a3, a4, a5⟩ := wt_M (x := x) hl hw hm hd (by omega) (fo := none) (fun _ z => by cases z) 99999 t (k + 1) 1 [sl_n (c k)] 1 (by omega) (by omega) (Or.inl rfl) (lsok _ (by omega) (by omega)) (Nat.le_refl _) rfl (by omega) (fun _ => h58)
      refine ⟨g', j', t', p, a1, by omega, ?_, a4, a5⟩
      rw [hT, ws_M hl hd.1 hkn hs]; exact a3
    by_cases hn1 : n ≤ k + 1
    · refine plain (fun z => by omega) ?_
      unfold f_Mod_term
      rw [nI_1, if_pos (nI_le hn1 (by omega))]
    · have hk1 : k + 1 < n := by omega
      have hck1 := (hl.2 (k + 1) hk1).2
      have head : f_Mod_term g 126 (nI k) (nI n) = if nI (c (k + 1)) = 58 then (if nI (c k) = 116 then (m_bd (f_Mod_at g 126 30 (nI k + 2)) fun v_11 g_10 => m_gd (m_is g_10 126 8) <| m_bd (f_Mod_withTag g_10 126 (v_11 - 48)) fun v_13 g_12 => m_gd (m_is g_12 126 8) <| m_bd (f_Mod_one g_12 126 v_13) fun v_15 g_14 => some (((nI k + 2) + 1), g_14)) else if nI (c k) = 115 then f_Mod_term_90 g 126 (nI n) (nI k + 2) 0 else if nI (c k) = 102 then f_Mod_term_90 g 126 (nI n) (nI k + 2) 1 else f_Mod_term_90 g 126 (nI n) (nI k + 2) 2) else f_Mod_term_92 g 126 (nI n) (nI k) (-1) := by
        unfold f_Mod_term
        rw [nI_1, if_neg (nI_ge hk1 (by omega)), ed_is hd, gd_t, ek_at hl hd.1 hk1, bd_s]
        by_cases e58 : nI (c (k + 1)) = 58
        · rw [if_pos e58, if_pos e58, ed_is hd, gd_t, ek_at hl hd.1 hkn, bd_s, ed_is hd, gd_t]
        · rw [if_neg e58, if_neg e58]
      by_cases e58 : c (k + 1) = 58
      · rw [if_pos (show nI (c (k + 1)) = 58 by rw [e58]; rfl)] at head
        cases t with
        | zero => omega
        | succ t =>
          have q2 : qs_n (qw_p cd dw fdl wc) (tp_b tg) 1 none [sl_n (c k)] K L x (c (k + 1)) = (match fn_n [sl_n (c k)] with
            | none => none
            | some none => some (4, none, [], K, L, x)
            | some (some f) => some (3, some f, [], K, L, x)) := by
            rw [qs_12 (Or.inl rfl), if_neg (show ¬ 0 < sl_n (c (k + 1)) by rw [e58]; decide), if_neg (show ¬ c (k + 1) = 42 by omega), if_pos ⟨rfl, e58⟩]
          have n2 : nI k + 2 = nI (k + 2) := by rw [show (2 : Int32) = nI 2 from rfl, nI_add]
          rw [n2] at head
          have fld : ∀ f, f < 3 → fn_n [sl_n (c k)] = some (some f) → f_Mod_term g 126 (nI k) (nI n) = f_Mod_term_90 g 126 (nI n) (nI (k + 2)) (nI f) → ∃ g' j' t' p, j' + t' = n ∧ k < j' ∧ f_Mod_term g 126 (nI k) (nI n) = some (nI j', g') ∧ eb_P vv ww aa bb th (k + 1) K (lv_z L) (ng_b L p) g' ∧ en_n (qw_p cd dw fdl wc) (tp_b tg) c (t + 1) (k + 1) (1, none, [sl_n (c k)], K, L, x) = en_n (qw_p cd dw fdl wc) (tp_b tg) c t' j' (5, none, [], K, lv_z L, ng_b L p) := fun f hf hfn hT => by
            rw [hfn] at q2
            rw [en_s (q' := (3, some f, [], K, L, x)) q2] at he ⊢
            cases t with
            | zero =>
              rw [en_0, if_neg (show ¬ qf_b (3, some f, [], K, L, x) = true by unfold qf_b; rw [decide_eq_false (by dsimp only; omega)]; decide)] at he
              exact absurd he.symm (nI_neg1 (by omega))
            | succ t =>
              have hk2 : k + 2 < n := by omega
              by_cases hs2 : 0 < sl_n (c (k + 2))
              · have hin2 := sl_in hs2
                have hsl2 : sl_n (c (k + 2)) = c (k + 2) - 96 := by unfold sl_n; rw [if_pos hin2]
                have q3 : qs_n (qw_p cd dw fdl wc) (tp_b tg) 3 (some f) [] K L x (c (k + 2)) = some (2, some f, [sl_n (c (k + 2))], K, L, x) := by
                  unfold qs_n
                  rw [if_neg (show ¬ (3 : Nat) = 0 by omega), if_pos rfl, if_pos hs2]
                obtain ⟨g', j', t', p, a1, a2, a3, a4, a5⟩ := wt_M (x := x) hl hw hm hd (by omega) (fo := some f) (fun y z => by cases z; exact hf) 99999 t (k + 2 + 1) 2 [sl_n (c (k + 2))] 1 (by omega) (by omega) (Or.inr rfl) (lsok _ (by omega) (by omega)) (Nat.le_refl _) rfl (by omega) (fun z => by omega)
                refine ⟨g', j', t', p, a1, by omega, ?_, a4, ?_⟩
                · rw [hT]; unfold f_Mod_term_90; rw [ws_M hl hd.1 hk2 hs2]; exact a3
                · rw [en_s (k := k + 1 + 1) (q' := (2, some f, [sl_n (c (k + 2))], K, L, x)) q3]; exact a5
              · have q3 : qs_n (qw_p cd dw fdl wc) (tp_b tg) 3 (some f) [] K L x (c (k + 2)) = none := by
                  unfold qs_n
                  rw [if_neg (show ¬ (3 : Nat) = 0 by omega), if_pos rfl, if_neg hs2]
                rw [en_x (k := k + 1 + 1) q3] at he
                exact absurd he.symm (nI_neg1 (by omega))
          by_cases f4 : c k = 116
          · have hfn : fn_n [sl_n (c k)] = some none := by rw [hsl, f4]; rfl
            rw [hfn] at q2
            rw [if_pos (show nI (c k) = 116 by rw [f4]; rfl)] at head
            rw [en_s (q' := (4, none, [], K, L, x)) q2] at he ⊢
            cases t with
            | zero =>
              rw [en_0, if_neg (show ¬ qf_b (4, none, [], K, L, x) = true by unfold qf_b; rw [decide_eq_false (by dsimp only; omega)]; decide)] at he
              exact absurd he.symm (nI_neg1 (by omega))
            | succ t =>
              have hk2 : k + 2 < n := by omega
              by_cases hs2 : 48 ≤ c (k + 2) ∧ c (k + 2) ≤ 55
              · have q3 : qs_n (qw_p cd dw fdl wc) (tp_b tg) 4 none [] K L x (c (k + 2)) = some (5, none, [], K, lv_z L, ng_b L (tp_b tg (c (k + 2) - 48))) := by
                  unfold qs_n
                  rw [if_neg (show ¬ (4 : Nat) = 0 by omega), if_neg (show ¬ (4 : Nat) = 3 by omega), if_pos rfl, if_pos hs2]
                obtain ⟨g', e1, e2⟩ := one_d (fun m hm2 => (hm m hm2).1) hd (by omega) (tp_b tg (c (k + 2) - 48))
                refine ⟨g', k + 3, t, _, by omega, by omega, ?_, e2, ?_⟩
                · have e48 : nI (c (k + 2)) - 48 = nI (c (k + 2) - 48) := pk_sub (b := 48) hs2.1
                  rw [head]
                  simp only [ek_at hl hd.1 hk2, bd_s, ed_is hd, gd_t, e48, ek_tt hm hd.1, e1, nI_1]
                · rw [en_s (k := k + 1 + 1) q3]
              · have q3 : qs_n (qw_p cd dw fdl wc) (tp_b tg) 4 none [] K L x (c (k + 2)) = none := by
                  unfold qs_n
                  rw [if_neg (show ¬ (4 : Nat) = 0 by omega), if_neg (show ¬ (4 : Nat) = 3 by omega), if_pos rfl, if_neg hs2]
                rw [en_x (k := k + 1 + 1) q3] at he
                exact absurd he.symm (nI_neg1 (by omega))
          · rw [if_neg (show ¬ nI (c k) = (116 : Int32) from nI_ne (b := 116) (by omega) (by omega) f4)] at head
            by_cases f1 : c k = 115
            · rw [if_pos (show nI (c k) = 115 by rw [f1]; rfl)] at head
              exact fld 0 (by omega) (by rw [hsl, f1]; rfl) head
            · rw [if_neg (show ¬ nI (c k) = (115 : Int32) from nI_ne (b := 115) (by omega) (by omega) f1)] at head
              by_cases f2 : c k = 102
              · rw [if_pos (show nI (c k) = 102 by rw [f2]; rfl)] at head
                exact fld 1 (by omega) (by rw [hsl, f2]; rfl) head
              · rw [if_neg (show ¬ nI (c k) = (102 : Int32) from nI_ne (b := 102) (by omega) (by omega) f2)] at head
                by_cases f3 : c k = 98
                · exact fld 2 (by omega) (by rw [hsl, f3]; rfl) head
                · have hfn : fn_n [sl_n (c k)] = none := by
                    rw [hsl]; unfold fn_n
                    rw [if_neg (fun z => by have := List.cons.inj z; omega), if_neg (fun z => by have := List.cons.inj z; omega), if_neg (fun z => by have := List.cons.inj z; omega), if_neg (fun z => by have := List.cons.inj z; omega)]
                  rw [hfn] at q2
                  rw [en_x q2] at he
                  exact absurd he.symm (nI_neg1 (by omega))
      · refine plain (fun _ => e58) ?_
        rw [head, if_neg (show ¬ nI (c (k + 1)) = (58 : Int32) from nI_ne (b := 58) (by omega) (by omega) e58)]
theorem se_M (hl : ql_M aa n c) (hw : wk_ok wc cd dw) (hm : mw_ok aa bb th wc cd fdl tg) : ∀ (fu t k : Nat) (q : qs_T) (g : m_G), k + t = n → t < fu → (en_n (qw_p cd dw fdl wc) (tp_b tg) c t k q).1 = -1 → ((q.1 = 0 ∧ ed_P vv ww aa bb th k q.2.2.2.1 q.2.2.2.2.1 g) ∨ (q.1 = 5 ∧ eb_P vv ww aa bb th k q.2.2.2.1 q.2.2.2.2.1 q.2.2.2.2.2 g)) → ∃ v1 a1, f_Mod_search_46 fu g 126 (nI n) (nI k) = some (nI (bn_n (bm_n (fun m => th m && vl_b (en_n (qw_p cd dw fdl wc) (tp_b tg) c t k q).2.1 (en_n (qw_p cd dw fdl wc) (tp_b tg) c t k q).2.2 m) 12) 12), hp_mk (up_v v1 126 20 (ms_p th (vl_b (en_n (qw_p cd dw fdl wc) (tp_b tg) c t k q).2.1 (en_n (qw_p cd dw fdl wc) (tp_b tg) c t k q).2.2))) ww a1 bb) ∧ (∀ o k, ¬ (o = 126 ∧ (k = 24 ∨ k = 25)) → v1 o k = vv o k) ∧ (∀ o, o ≠ 143 → o ≠ 144 → a1 o = aa o) := by
  have h40 := hl.1
  have ht : ∀ m, m < 12 → aa 132 m = iB (th m) := fun m hm2 => (hm m hm2).1
  intro fu
  induction fu with
  | zero => intro t k q g _ h; omega
  | succ fu ih =>
    intro t k q g hk hf he hst
    obtain ⟨md, fo, ls, K, L, x⟩ := q
    dsimp only at hst
    cases t with
    | zero =>
      by_cases hq : qf_b (md, fo, ls, K, L, x) = true
      · have hq' : K.length = 0 ∧ (md = 1 ∨ md = 2 ∨ md = 5) := of_decide_eq_true hq
        rcases hst with ⟨m0, _⟩ | ⟨m5, hb⟩
        · omega
        · have hK : K = [] := List.eq_nil_of_length_eq_zero hq'.1
          subst hK
          subst m5
          obtain ⟨g1, r1, r2⟩ := red_t hb (by omega)
          obtain ⟨v1, a1, e, h1, h2, h4, h5, h6, h7⟩ := r2
          have e6 : a1 143 0 = ms_p th (vl_b L x) := h6 0 _ rfl
          refine ⟨v1, a1, ?_, h1, h2⟩
          have l0 : m_ld (hp_mk v1 ww a1 bb) 143 0 0 = some (a1 143 0) := ld_143 (k := 0) (by omega)
          have sz : f_Mod_size (hp_mk (up_v v1 126 20 (ms_p th (vl_b L x))) ww a1 bb) (ms_p th (vl_b L x)) = _ := size_eq (bm_lt 12)
          have u20 : up_v v1 126 20 (ms_p th (vl_b L x)) 126 20 = ms_p th (vl_b L x) := uv_s
          rw [f_Mod_search_46, if_pos (nI_le (show n ≤ k by omega) (by omega)), eb_is hb, gd_t, r1, bd_s, e]
          simp only [gr_126_22, ob_s, l0, e6, pi_126_20, gi_126_20, u20, sz, bd_s]
          rfl
      · rw [en_0, if_neg hq] at he
        exact absurd he.symm (nI_neg1 (by omega))
    | succ t =>
      have hkn : k < n := by omega
      have hc := (hl.2 k hkn).2
      have hns : ¬ 0 < sl_n (c k) → m_is g 126 8 = true → f_Mod_at g 126 30 (nI k) = some (nI (c k), g) → ∀ (s : Int32) (g' : m_G), nI (c k) = s → f_Mod_sign g 126 s = some ((), g') → f_Mod_search_46 (fu + 1) g 126 (nI n) (nI k) = f_Mod_search_46 fu g' 126 (nI n) (nI (k + 1)) := fun hs his hat s g' hcs hsg => by
        rw [f_Mod_search_46, if_neg (nI_ge hkn (by omega)), his, gd_t, hat, bd_s, il_M hc, bd_s, decide_eq_false hs, if_pos (show iB false = 0 from rfl), his, gd_t, hat, bd_s, his, gd_t, hcs, hsg, bd_s, nI_1]
      rcases hst with ⟨m0, hd⟩ | ⟨m5, hb⟩
      · subst m0
        by_cases hs : 0 < sl_n (c k)
        · obtain ⟨g', j', t', p, a1, a2, a3, a4, a5⟩ := tm_M hl hw hm hk hkn hd hs he
          rw [a5] at he ⊢
          obtain ⟨v1, a1', b1, b2, b3⟩ := ih t' j' (5, none, [], K, lv_z L, ng_b L p) g' a1 (by omega) he (Or.inr ⟨rfl, eb_mo a4 (by omega)⟩)
          refine ⟨v1, a1', ?_, b2, b3⟩
          rw [f_Mod_search_46, if_neg (nI_ge hkn (by omega)), ed_is hd, gd_t, ek_at hl hd.1 hkn, bd_s, il_M hc, bd_s, decide_eq_true hs, if_neg (show ¬ iB true = 0 by decide), ed_is hd, gd_t, a3, bd_s]
          exact b1
        · by_cases e1 : c k = 33
          · obtain ⟨g', s1, s2⟩ := sg_33 hd (by omega)
            have q1 : qs_n (qw_p cd dw fdl wc) (tp_b tg) 0 fo ls K L x (c k) = some (0, none, [], K, (L.1, L.2.1, L.2.2 + 1), x) := by
              unfold qs_n; rw [if_pos rfl, if_pos e1]
            rw [en_s (q' := (0, none, [], K, (L.1, L.2.1, L.2.2 + 1), x)) q1] at he ⊢
            obtain ⟨v1, a1, b1, b2, b3⟩ := ih t (k + 1) (0, none, [], K, (L.1, L.2.1, L.2.2 + 1), x) g' (by omega) (by omega) he (Or.inl ⟨rfl, s2⟩)
            refine ⟨v1, a1, ?_, b2, b3⟩
            rw [hns hs (ed_is hd) (ek_at hl hd.1 hkn) 33 g' (by rw [e1]; rfl) s1]; exact b1
          · by_cases e2 : c k = 40
            · by_cases e6 : K.length = 6
              · have q1 : qs_n (qw_p cd dw fdl wc) (tp_b tg) 0 fo ls K L x (c k) = none := by
                  unfold qs_n; rw [if_pos rfl, if_neg e1, if_pos e2, if_pos e6]
                rw [en_x q1] at he
                exact absurd he.symm (nI_neg1 (by omega))
              · obtain ⟨g', s1, s2⟩ := sg_40 hd (by omega)
                have q1 : qs_n (qw_p cd dw fdl wc) (tp_b tg) 0 fo ls K L x (c k) = some (0, none, [], K ++ [L], lv_0, x) := by
                  unfold qs_n; rw [if_pos rfl, if_neg e1, if_pos e2, if_neg e6]
                rw [en_s (q' := (0, none, [], K ++ [L], lv_0, x)) q1] at he ⊢
                obtain ⟨v1, a1, b1, b2, b3⟩ := ih t (k + 1) (0, none, [], K ++ [L], lv_0, x) g' (by omega) (by omega) he (Or.inl ⟨rfl, s2⟩)
                refine ⟨v1, a1, ?_, b2, b3⟩
                rw [hns hs (ed_is hd) (ek_at hl hd.1 hkn) 40 g' (by rw [e2]; rfl) s1]; exact b1
            · have q1 : qs_n (qw_p cd dw fdl wc) (tp_b tg) 0 fo ls K L x (c k) = none := by
                unfold qs_n; rw [if_pos rfl, if_neg e1, if_neg e2, if_neg hs]
              rw [en_x q1] at he
              exact absurd he.symm (nI_neg1 (by omega))
      · subst m5
        have q0 : qs_n (qw_p cd dw fdl wc) (tp_b tg) 5 fo ls K L x (c k) = be_n K L x (c k) := qs_5
        have hs3 : c k = 38 ∨ c k = 124 ∨ c k = 41 → ¬ 0 < sl_n (c k) := fun z y => by have := sl_in y; omega
        unfold be_n at q0
        by_cases e1 : c k = 38
        · rw [if_pos e1] at q0
          obtain ⟨g', s1, s2⟩ := sg_38 hb (by omega)
          rw [en_s q0] at he ⊢
          obtain ⟨v1, a1, b1, b2, b3⟩ := ih t (k + 1) _ g' (by omega) (by omega) he (Or.inl ⟨rfl, s2⟩)
          refine ⟨v1, a1, ?_, b2, b3⟩
          rw [hns (hs3 (by omega)) (eb_is hb) (ek_at hl hb.1 hkn) 38 g' (by rw [e1]; rfl) s1]; exact b1
        · rw [if_neg e1] at q0
          by_cases e2 : c k = 124
          · rw [if_pos e2] at q0
            obtain ⟨g', s1, s2⟩ := sg_124 hb (by omega)
            rw [en_s q0] at he ⊢
            obtain ⟨v1, a1, b1, b2, b3⟩ := ih t (k + 1) _ g' (by omega) (by omega) he (Or.inl ⟨rfl, s2⟩)
            refine ⟨v1, a1, ?_, b2, b3⟩
            rw [hns (hs3 (by omega)) (eb_is hb) (ek_at hl hb.1 hkn) 124 g' (by rw [e2]; rfl) s1]; exact b1
          · rw [if_neg e2] at q0
            by_cases e3 : c k = 41
            · rw [if_pos e3] at q0
              rcases List.eq_nil_or_concat K with e | ⟨K0, L0, e⟩
              · subst e
                rw [en_x q0] at he
                exact absurd he.symm (nI_neg1 (by omega))
              · rw [List.concat_eq_append] at e
                subst e
                rw [List.getLast?_concat] at q0
                dsimp only at q0
                rw [List.dropLast_concat] at q0
                obtain ⟨g', s1, s2⟩ := sg_41 ht hb (by omega)
                rw [en_s q0] at he ⊢
                obtain ⟨v1, a1, b1, b2, b3⟩ := ih t (k + 1) _ g' (by omega) (by omega) he (Or.inr ⟨rfl, s2⟩)
                refine ⟨v1, a1, ?_, b2, b3⟩
                rw [hns (hs3 (by omega)) (eb_is hb) (ek_at hl hb.1 hkn) 41 g' (by rw [e3]; rfl) s1]; exact b1
            · rw [if_neg e3] at q0
              rw [en_x q0] at he
              exact absurd he.symm (nI_neg1 (by omega))
end TRM
