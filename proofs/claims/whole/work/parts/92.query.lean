/-! search: the states of a QUERY that is read; the class's side -/
abbrev lv_T : Type := Option (Nat → Bool) × Option (Nat → Bool) × Nat
abbrev qs_T : Type := Nat × Option Nat × List Nat × List lv_T × lv_T × (Nat → Bool)
def pA_b (A : Option (Nat → Bool)) (m : Nat) : Bool := match A with
  | none => false
  | some p => p m
def pB_b (B : Option (Nat → Bool)) (m : Nat) : Bool := match B with
  | none => true
  | some p => p m
def od_b (n : Nat) : Bool := decide (n % 2 = 1)
def vl_b (L : lv_T) (x : Nat → Bool) (m : Nat) : Bool := pA_b L.1 m || (pB_b L.2.1 m && x m)
def ng_b (L : lv_T) (p : Nat → Bool) (m : Nat) : Bool := if od_b L.2.2 = true then !p m else p m
def lv_z (L : lv_T) : lv_T := (L.1, L.2.1, 0)
def lv_0 : lv_T := (none, none, 0)
def fn_n (ls : List Nat) : Option (Option Nat) := if ls = [19] then some (some 0) else if ls = [6] then some (some 1) else if ls = [2] then some (some 2) else if ls = [20] then some none else none
def be_n (K : List lv_T) (L : lv_T) (x : Nat → Bool) (c : Nat) : Option qs_T :=
  if c = 38 then some (0, none, [], K, (L.1, some (fun m => pB_b L.2.1 m && x m), 0), x)
  else if c = 124 then some (0, none, [], K, (some (vl_b L x), none, 0), x)
  else if c = 41 then (match K.getLast? with
    | none => none
    | some L0 => some (5, none, [], K.dropLast, lv_z L0, ng_b L0 (vl_b L x)))
  else none
def qs_n (WP : Bool → Option Nat → List Nat → Nat → Bool) (TP : Nat → Nat → Bool) (md : Nat) (fo : Option Nat) (ls : List Nat) (K : List lv_T) (L : lv_T) (x : Nat → Bool) (c : Nat) : Option qs_T :=
  if md = 0 then (if c = 33 then some (0, none, [], K, (L.1, L.2.1, L.2.2 + 1), x) else if c = 40 then (if K.length = 6 then none else some (0, none, [], K ++ [L], lv_0, x)) else if 0 < sl_n c then some (1, none, [sl_n c], K, L, x) else none)
  else if md = 3 then (if 0 < sl_n c then some (2, fo, [sl_n c], K, L, x) else none)
  else if md = 4 then (if 48 ≤ c ∧ c ≤ 55 then some (5, none, [], K, lv_z L, ng_b L (TP (c - 48))) else none)
  else if md = 5 then be_n K L x c
  else if 0 < sl_n c then some (2, fo, wd_put ls (sl_n c), K, L, x)
  else if c = 42 then some (5, none, [], K, lv_z L, ng_b L (WP true fo ls))
  else if md = 1 ∧ c = 58 then (match fn_n ls with
    | none => none
    | some none => some (4, none, [], K, L, x)
    | some (some f) => some (3, some f, [], K, L, x))
  else be_n K (lv_z L) (ng_b L (WP false fo ls)) c
def cs_n (md : Nat) : Nat := if md = 0 then 0 else if md = 1 then 2 else if md = 2 then 2 else if md = 3 then 1 else if md = 4 then 3 else 4
-- the class's cells while it reads
def qv_V (vv : hp_V) (l s f n : Int32) : hp_V := fun a k => if a = 71 ∧ k = 4 then l else if a = 71 ∧ k = 5 then s else if a = 71 ∧ k = 6 then f else if a = 75 ∧ k = 1 then n else vv a k
def qa_A (aa : hp_V) (fa fl fn : Nat → Int32) : hp_V := fun a => if a = 72 then fa else if a = 73 then fl else if a = 74 then fn else aa a
section QRY
variable {vv : hp_V} {ww : hp_W} {aa : hp_V} {bb : hp_B} {l s f n x : Int32} {w w' : Int64} {fa fl fn g : Nat → Int32}
theorem qv_4 : qv_V vv l s f n 71 4 = l := rfl
theorem qv_5 : qv_V vv l s f n 71 5 = s := rfl
theorem qv_6 : qv_V vv l s f n 71 6 = f := rfl
theorem qv_n : qv_V vv l s f n 75 1 = n := rfl
theorem qv_o {a k : Nat} (h1 : a ≠ 71) (h2 : a ≠ 75) : qv_V vv l s f n a k = vv a k := by
  unfold qv_V; rw [if_neg (fun z => h1 z.1), if_neg (fun z => h1 z.1), if_neg (fun z => h1 z.1), if_neg (fun z => h2 z.1)]
theorem uq_4 : up_v (qv_V vv l s f n) 71 4 x = qv_V vv x s f n := by
  funext a k; unfold up_v qv_V
  by_cases h : a = 71 ∧ k = 4
  · rw [if_pos h, if_pos h]
  · rw [if_neg h, if_neg h, if_neg h]
theorem uq_5 : up_v (qv_V vv l s f n) 71 5 x = qv_V vv l x f n := by
  funext a k; unfold up_v qv_V
  by_cases h : a = 71 ∧ k = 5
  · rw [if_pos h, if_neg (by omega), if_pos h]
  · rw [if_neg h, if_neg h, if_neg h]
theorem uq_6 : up_v (qv_V vv l s f n) 71 6 x = qv_V vv l s x n := by
  funext a k; unfold up_v qv_V
  by_cases h : a = 71 ∧ k = 6
  · rw [if_pos h, if_neg (by omega), if_neg (by omega), if_pos h]
  · rw [if_neg h, if_neg h, if_neg h]
theorem uq_n : up_v (qv_V vv l s f n) 75 1 x = qv_V vv l s f x := by
  funext a k; unfold up_v qv_V
  by_cases h : a = 75 ∧ k = 1
  · rw [if_pos h, if_neg (by omega), if_neg (by omega), if_neg (by omega), if_pos h]
  · rw [if_neg h, if_neg h, if_neg h]
theorem uw_u : up_w (up_w ww 75 w) 75 w' = up_w ww 75 w' := by
  funext a; unfold up_w; by_cases h : a = 75
  · rw [if_pos h, if_pos h]
  · rw [if_neg h, if_neg h, if_neg h]
theorem uw_s : up_w ww 75 w 75 = w := by unfold up_w; rw [if_pos rfl]
theorem qa_72 : qa_A aa fa fl fn 72 = fa := rfl
theorem qa_73 : qa_A aa fa fl fn 73 = fl := rfl
theorem qa_74 : qa_A aa fa fl fn 74 = fn := rfl
theorem qa_o {a : Nat} (h1 : a ≠ 72) (h2 : a ≠ 73) (h3 : a ≠ 74) : qa_A aa fa fl fn a = aa a := by unfold qa_A; rw [if_neg h1, if_neg h2, if_neg h3]
theorem ux_72 : up_a (qa_A aa fa fl fn) 72 g = qa_A aa g fl fn := by
  funext a; unfold up_a qa_A; by_cases h : a = 72
  · rw [if_pos h, if_pos h]
  · rw [if_neg h, if_neg h, if_neg h]
theorem ux_73 : up_a (qa_A aa fa fl fn) 73 g = qa_A aa fa g fn := by
  funext a; unfold up_a qa_A; by_cases h : a = 73
  · rw [if_pos h, if_neg (by omega), if_pos h]
  · rw [if_neg h, if_neg h, if_neg h]
theorem ux_74 : up_a (qa_A aa fa fl fn) 74 g = qa_A aa fa fl g := by
  funext a; unfold up_a qa_A; by_cases h : a = 74
  · rw [if_pos h, if_neg (by omega), if_neg (by omega), if_pos h]
  · rw [if_neg h, if_neg h, if_neg h]
def qh_m (vv : hp_V) (ww : hp_W) (aa : hp_V) (bb : hp_B) (l s f n : Int32) (w : Int64) (fa fl fn : Nat → Int32) : m_G := hp_mk (qv_V vv l s f n) (up_w ww 75 w) (qa_A aa fa fl fn) bb
theorem pl_75 {vv : hp_V} {ww : hp_W} {aa : hp_V} {bb : hp_B} {x : Int64} : m_pL (hp_mk vv ww aa bb) 75 3 0 x = some (hp_mk vv (up_w ww 75 x) aa bb) := pL_lt (Or.inr rfl)
theorem nar_0 : vp_nar .boolean 0 = 0 := by decide
theorem nar_1 : vp_nar .boolean 1 = 1 := by decide
theorem bo_A : f_Query_beginOne (qh_m vv ww aa bb l s f n w fa fl fn) 71 = some ((), qh_m vv ww aa bb l 0 (-1) 0 0 fa fl fn) := by
  unfold f_Query_beginOne qh_m
  simp only [pi_71_5, uq_5, ob_s, pi_71_6, uq_6, gr_71_3, is_75, gd_t, f_Letters_clear, pl_75, uw_u, pi_75_1, uq_n, bd_s]
theorem bl_q {k : Nat} (hk : k < 7) : f_Query_beginLevel (qh_m vv ww aa bb (nI k) s f n w fa fl fn) 71 = some ((), qh_m vv ww aa bb (nI k) 0 (-1) 0 0 (upd fa k 0) (upd fl k (-1)) (upd fn k 0)) := by
  have e := bo_A (vv := vv) (ww := ww) (aa := aa) (bb := bb) (l := nI k) (s := s) (f := f) (n := n) (w := w) (fa := upd fa k 0) (fl := upd fl k (-1)) (fn := upd fn k 0)
  unfold f_Query_beginLevel
  unfold qh_m at e ⊢
  simp only [gr_71_0, gi_71_4, qv_4, ob_s, st_72 hk, qa_72, ux_72, gr_71_1, st_73 hk, qa_73, ux_73, gr_71_2, nar_0, st_74 hk, qa_74, ux_74, is_71, gd_t, e, bd_s]
theorem eo_A {k : Nat} (hk : k < 7) {y : Int32} : f_Query_endOne (qh_m vv ww aa bb (nI k) s f n w fa fl fn) 71 y = some ((), qh_m vv ww aa bb (nI k) 4 f n w fa (upd fl k (fl k &&& (if fn k = 0 then y else y ^^^ (-1)))) (upd fn k 0)) := by
  unfold f_Query_endOne f_Query_endOne_29 qh_m
  simp only [gr_71_1, gi_71_4, qv_4, ob_s, ld_73 hk, qa_73, gr_71_2, ld_74 hk, qa_74, st_73 hk, ux_73, nar_0, st_74 hk, ux_74, pi_71_5, uq_5]
  by_cases e : fn k = 0
  · rw [if_pos e, if_pos e]
  · rw [if_neg e, if_neg e]
def rl_q (th : Nat → Bool) (fa fl fn : Nat → Int32) (j : Nat) (L : lv_T) : Prop := (∀ m, m < 12 → th m = true → bt (fa j) m = pA_b L.1 m) ∧ (∀ m, m < 12 → th m = true → bt (fl j) m = pB_b L.2.1 m) ∧ fn j = iB (od_b L.2.2)
def rx_q (th : Nat → Bool) (fa fl fn : Nat → Int32) (j : Nat) (L : lv_T) (x : Nat → Bool) : Prop := (∀ m, m < 12 → th m = true → bt (fa j) m = pA_b L.1 m) ∧ (∀ m, m < 12 → th m = true → bt (fl j) m = (pB_b L.2.1 m && x m)) ∧ fn j = 0
def rk_q (th : Nat → Bool) (fa fl fn : Nat → Int32) (K : List lv_T) : Prop := ∀ j, j < K.length → rl_q th fa fl fn j (K.getD j lv_0)
/-- the class's cells are those of a state -/
def rq_q (th : Nat → Bool) (l s f n : Int32) (w : Int64) (fa fl fn : Nat → Int32) (q : qs_T) : Prop := match q with
  | (md, fo, ls, K, L, x) => K.length ≤ 6 ∧ l = nI K.length ∧ s = nI (cs_n md) ∧ md ≤ 5 ∧ rk_q th fa fl fn K ∧ (if md = 5 then rx_q th fa fl fn K.length L x else rl_q th fa fl fn K.length L ∧ w = lN (cw_val ls) ∧ n = nI ls.length ∧ ls_ok ls ∧ f = th_enc fo) ∧ (∀ y, fo = some y → y < 3) ∧ ((md = 0 ∨ md = 3 ∨ md = 4) → ls = []) ∧ (md = 0 → fo = none) ∧ (md = 1 → ls.length = 1 ∧ fo = none) ∧ (md = 2 → 1 ≤ ls.length ∧ (ls.length ≠ 1 ∨ fo ≠ none)) ∧ (md = 3 → fo ≠ none)
variable {th : Nat → Bool} {K : List lv_T} {L : lv_T} {xp : Nat → Bool}
theorem rk_up {K : List lv_T} (h : rk_q th fa fl fn K) {fa' fl' fn' : Nat → Int32} (h1 : ∀ j, j < K.length → fa' j = fa j ∧ fl' j = fl j ∧ fn' j = fn j) : rk_q th fa' fl' fn' K := fun j hj => by
  obtain ⟨a1, a2, a3⟩ := h1 j hj
  have := h j hj
  unfold rl_q at this ⊢
  rw [a1, a2, a3]; exact this
theorem gl_app {K : List lv_T} {p : lv_T} {j : Nat} : (K ++ [p]).getD j lv_0 = if j < K.length then K.getD j lv_0 else if j = K.length then p else lv_0 := by
  by_cases h : j < K.length
  · rw [if_pos h]; simp [List.getD, List.getElem?_append_left h]
  · rw [if_neg h]
    by_cases e : j = K.length
    · rw [if_pos e, e]; simp [List.getD]
    · rw [if_neg e]
      have : (K ++ [p])[j]? = none := by rw [List.getElem?_eq_none_iff]; simp; omega
      simp only [List.getD, this, Option.getD_none]
/-- a ONE has ended: y holds its messages -/
theorem eo_R {k : Nat} (h : rl_q th fa fl fn k L) {y : Int32} {p : Nat → Bool} (hy : ∀ m, m < 12 → th m = true → bt y m = p m) : rx_q th fa (upd fl k (fl k &&& (if fn k = 0 then y else y ^^^ (-1)))) (upd fn k 0) k (lv_z L) (ng_b L p) := by
  obtain ⟨h1, h2, h3⟩ := h
  refine ⟨h1, fun m hm ht => ?_, upd_s⟩
  rw [upd_s, bt_and, h2 m hm ht, h3]
  unfold ng_b
  cases od_b L.2.2 with
  | false => rw [if_pos (show iB false = 0 from rfl), if_neg (by decide), hy m hm ht]; rfl
  | true => rw [if_neg (show ¬ iB true = 0 by decide), if_pos rfl, bt_not (by omega), hy m hm ht]; rfl
theorem eo_Q {k : Nat} (hk : k = K.length) (h6 : K.length ≤ 6) (hK : rk_q th fa fl fn K) (h : rl_q th fa fl fn k L) {y : Int32} {p : Nat → Bool} (hy : ∀ m, m < 12 → th m = true → bt y m = p m) : rq_q th (nI k) 4 f n w fa (upd fl k (fl k &&& (if fn k = 0 then y else y ^^^ (-1)))) (upd fn k 0) (5, none, [], K, lv_z L, ng_b L p) := by
  refine ⟨h6, by rw [hk], rfl, by omega, rk_up hK (fun j hj => ⟨rfl, upd_n (by omega), upd_n (by omega)⟩), ?_, fun y hy => (by cases hy), fun _ => rfl, fun _ => rfl, fun z => absurd z (by omega), fun z => absurd z (by omega), fun z => absurd z (by omega)⟩
  rw [if_pos rfl, ← hk]
  exact eo_R h hy
theorem rq_0 (h6 : K.length ≤ 6) (hK : rk_q th fa fl fn K) (h : rl_q th fa fl fn K.length L) : rq_q th (nI K.length) 0 (-1) 0 0 fa fl fn (0, none, [], K, L, xp) := by
  refine ⟨h6, rfl, rfl, by omega, hK, ?_, fun y hy => (by cases hy), fun _ => rfl, fun _ => rfl, fun z => absurd z (by omega), fun z => absurd z (by omega), fun z => absurd z (by omega)⟩
  rw [if_neg (by omega)]
  exact ⟨h, rfl, rfl, ls_nil, rfl⟩
theorem rb_A (h6 : K.length ≤ 6) (hK : rk_q th fa fl fn K) (h : rx_q th fa fl fn K.length L xp) {c : Nat} (hc : c < 256) : (∀ q, be_n K L xp c = some q → ∃ l' s' f' n' w' fa' fl' fn', f_Query_readBehindOne (qh_m vv ww aa bb (nI K.length) s f n w fa fl fn) 71 (nI c) = some (1, qh_m vv ww aa bb l' s' f' n' w' fa' fl' fn') ∧ rq_q th l' s' f' n' w' fa' fl' fn' q) ∧ (be_n K L xp c = none → f_Query_readBehindOne (qh_m vv ww aa bb (nI K.length) s f n w fa fl fn) 71 (nI c) = some (0, qh_m vv ww aa bb (nI K.length) s f n w fa fl fn)) := by
  unfold be_n f_Query_readBehindOne
  have hk7 : K.length < 7 := by omega
  by_cases e1 : c = 38
  · rw [if_pos e1, if_pos (show nI c = 38 by rw [e1]; rfl)]
    refine ⟨fun q hq => ?_, fun z => (by cases z)⟩
    cases hq
    refine ⟨nI K.length, 0, -1, 0, 0, fa, fl, fn, ?_, rq_0 h6 hK ⟨h.1, h.2.1, h.2.2⟩⟩
    rw [show m_is (qh_m vv ww aa bb (nI K.length) s f n w fa fl fn) 71 7 = true from is_71, gd_t, bo_A, bd_s]
  · rw [if_neg e1, if_neg (show ¬ nI c = (38 : Int32) from nI_ne (b := 38) (by omega) (by omega) e1)]
    by_cases e2 : c = 41
    · rw [if_neg (by omega), if_pos e2, if_pos (show nI c = 41 by rw [e2]; rfl)]
      unfold f_Query_readClosing
      rcases List.eq_nil_or_concat K with rfl | ⟨K0, L0, e⟩
      · refine ⟨fun q hq => (by cases hq), fun _ => ?_⟩
        rw [show m_is (qh_m vv ww aa bb (nI ([] : List lv_T).length) s f n w fa fl fn) 71 7 = true from is_71, gd_t]
        rw [show m_gI (qh_m vv ww aa bb (nI ([] : List lv_T).length) s f n w fa fl fn) 71 7 4 = some (nI 0) from gi_71_4, ob_s, if_pos (by decide), bd_s, if_pos (by decide)]
      · rw [List.concat_eq_append] at e
        subst e
        have hlen : (K0 ++ [L0]).length = K0.length + 1 := by rw [List.length_append]; rfl
        rw [hlen] at h hk7 h6 ⊢
        rw [List.getLast?_concat, List.dropLast_concat]
        refine ⟨fun q hq => ?_, fun z => (by cases z)⟩
        cases hq
        have hL0 : rl_q th fa fl fn K0.length L0 := by
          have := hK K0.length (by rw [hlen]; omega)
          rw [gl_app, if_neg (by omega), if_pos rfl] at this
          exact this
        have hK0 : rk_q th fa fl fn K0 := fun j hj => by
          have := hK j (by rw [hlen]; omega)
          rw [gl_app, if_pos hj] at this
          exact this
        have hy : ∀ m, m < 12 → th m = true → bt (fa (K0.length + 1) ||| fl (K0.length + 1)) m = vl_b L xp m := fun m hm ht => by
          rw [bt_or, h.1 m hm ht, h.2.1 m hm ht]; rfl
        have eo := eo_A (vv := vv) (ww := ww) (aa := aa) (bb := bb) (s := s) (f := f) (n := n) (w := w) (fa := fa) (fl := fl) (fn := fn) (k := K0.length) (by omega) (y := fa (K0.length + 1) ||| fl (K0.length + 1))
        refine ⟨nI K0.length, 4, f, n, w, fa, _, _, ?_, eo_Q rfl (by omega) hK0 hL0 hy⟩
        have hne : ¬ nI (K0.length + 1) = 0 := nI_ne0 (by omega) (by omega)
        unfold qh_m at eo ⊢
        simp only [is_71, gd_t, gi_71_4, qv_4, ob_s, if_neg hne, gr_71_0, ld_72 hk7, qa_72, gr_71_1, ld_73 hk7, qa_73, nI_pred, pi_71_4, uq_4, eo, bd_s]
        rw [if_pos (by decide)]
    · rw [if_neg (show ¬ nI c = (41 : Int32) from nI_ne (b := 41) (by omega) (by omega) e2)]
      by_cases e3 : c = 124
      · rw [if_pos e3, if_pos (show nI c = 124 by rw [e3]; rfl)]
        refine ⟨fun q hq => ?_, fun z => (by cases z)⟩
        cases hq
        have bo := bo_A (vv := vv) (ww := ww) (aa := aa) (bb := bb) (l := nI K.length) (s := s) (f := f) (n := n) (w := w) (fa := upd fa K.length (fa K.length ||| fl K.length)) (fl := upd fl K.length (-1)) (fn := fn)
        refine ⟨nI K.length, 0, -1, 0, 0, upd fa K.length (fa K.length ||| fl K.length), upd fl K.length (-1), fn, ?_, rq_0 h6 (rk_up hK (fun j hj => ⟨upd_n (by omega), upd_n (by omega), rfl⟩)) ⟨fun m hm ht => ?_, fun m hm ht => ?_, h.2.2⟩⟩
        · unfold qh_m at bo ⊢
          simp only [gr_71_0, gi_71_4, qv_4, ob_s, ld_72 hk7, qa_72, gr_71_1, ld_73 hk7, qa_73, st_72 hk7, ux_72, st_73 hk7, ux_73, is_71, gd_t, bo, bd_s]
        · rw [upd_s, bt_or, h.1 m hm ht, h.2.1 m hm ht]; rfl
        · rw [upd_s, bt_m1 (by omega)]; rfl
      · rw [if_neg e3, if_neg e2, if_neg (show ¬ nI c = (124 : Int32) from nI_ne (b := 124) (by omega) (by omega) e3)]
        exact ⟨fun q hq => (by cases hq), fun _ => rfl⟩
end QRY
