/-! search: where the error is, on both sides -/
def qf_b (q : qs_T) : Bool := decide (q.2.2.2.1.length = 0 ∧ (q.1 = 1 ∨ q.1 = 2 ∨ q.1 = 5))
def ep_n (WP : Bool → Option Nat → List Nat → Nat → Bool) (TP : Nat → Nat → Bool) (c : Nat → Nat) : Nat → Nat → qs_T → Int32 × qs_T
  | 0, k, q => (if qf_b q = true then -1 else nI k, q)
  | t + 1, k, q => match qs_n WP TP q.1 q.2.1 q.2.2.1 q.2.2.2.1 q.2.2.2.2.1 q.2.2.2.2.2 (c k) with
    | none => (nI k, q)
    | some q' => ep_n WP TP c t (k + 1) q'
theorem ep_s {WP : Bool → Option Nat → List Nat → Nat → Bool} {TP : Nat → Nat → Bool} {c : Nat → Nat} {t k : Nat} {q : qs_T} : ep_n WP TP c (t + 1) k q = match qs_n WP TP q.1 q.2.1 q.2.2.1 q.2.2.2.1 q.2.2.2.2.1 q.2.2.2.2.2 (c k) with
    | none => (nI k, q)
    | some q' => ep_n WP TP c t (k + 1) q' := rfl
/-- the ONE that is still read, ended -/
def fe_L (q : qs_T) : lv_T := if q.1 = 5 then q.2.2.2.2.1 else lv_z q.2.2.2.2.1
def fe_x (WP : Bool → Option Nat → List Nat → Nat → Bool) (q : qs_T) : Nat → Bool := if q.1 = 5 then q.2.2.2.2.2 else ng_b q.2.2.2.2.1 (WP false q.2.1 q.2.2.1)
section RDA
variable {vv : hp_V} {ww : hp_W} {aa : hp_V} {bb : hp_B}
variable {th : Nat → Bool} {wc : Nat → Nat} {cd : Nat → Nat → Int64} {dw : Nat → Nat → List Nat} {fdl : Nat → Nat → Int32} {tg : Nat → Int32} {c : Nat → Nat} {ln : Nat}
theorem li_1 (h : ln_A vv aa 1 ln c) {l s f n : Int32} {fa fl fn : Nat → Int32} : ln_A (qv_V vv l s f n) (qa_A aa fa fl fn) 1 ln c := ln_fr h (qv_o (by omega) (by omega)) (qa_o (by omega) (by omega) (by omega))
theorem gl_q (hl : ln_A vv aa 1 ln c) {l s f n : Int32} {w : Int64} {fa fl fn : Nat → Int32} : m_gI (qh_m vv ww aa bb l s f n w fa fl fn) 1 1 1 = some (nI ln) := by
  unfold qh_m; rw [gI_mk (isI_L isL_1), qv_o (by omega) (by omega), hl.2.1]
theorem rd_q (hq : qm_ok vv aa bb wc cd dw fdl tg) (hl : ln_A vv aa 1 ln c) : ∀ (fu t k : Nat) (q : qs_T) (l s f n : Int32) (w : Int64) (fa fl fn : Nat → Int32), k + t = ln → t < fu → rq_q th l s f n w fa fl fn q → ∃ l' s' f' n' w' fa' fl' fn', f_Query_read_11 fu (qh_m vv ww aa bb l s f n w fa fl fn) 71 (some 1) (some 76) (nI k) = some ((ep_n (qw_p cd dw fdl wc) (tp_b tg) c t k q).1, qh_m vv ww aa bb l' s' f' n' w' fa' fl' fn') ∧ ((ep_n (qw_p cd dw fdl wc) (tp_b tg) c t k q).1 = -1 → rx_q th fa' fl' fn' 0 (fe_L (ep_n (qw_p cd dw fdl wc) (tp_b tg) c t k q).2) (fe_x (qw_p cd dw fdl wc) (ep_n (qw_p cd dw fdl wc) (tp_b tg) c t k q).2)) := by
  have h40 := hl.1
  intro fu
  induction fu with
  | zero => intro t k q l s f n w fa fl fn _ h; omega
  | succ fu ih =>
    intro t k q l s f n w fa fl fn hk ht hr
    rw [f_Query_read_11, ob_s]
    rw [gl_q hl, ob_s]
    cases t with
    | zero =>
      have hkl : k = ln := by omega
      subst hkl
      rw [if_pos (nI_le (Nat.le_refl _) (by omega)), gi_q5, ob_s]
      obtain ⟨md, fo, ls, K, L, x⟩ := q
      obtain ⟨h6, h1, h2, hmd, hK, hx, hf, hls, h0, hm1, hm2, hm3⟩ := hr
      have hk7 : K.length < 7 := by omega
      have e54 : ∀ (f n : Int32) (w : Int64) (fa fl fn : Nat → Int32) (st : Nat), st ≤ 4 → f_Query_read_54 (qh_m vv ww aa bb (nI K.length) (nI st) f n w fa fl fn) 71 (some 1) = some (if st = 4 ∧ K.length = 0 then -1 else nI k, qh_m vv ww aa bb (nI K.length) (nI st) f n w fa fl fn) := fun f n w fa fl fn st hst => by
        unfold f_Query_read_54 f_Query_read_73 f_Query_read_77
        rw [gi_q5, ob_s]
        rw [show m_gI (qh_m vv ww aa bb (nI K.length) (nI st) f n w fa fl fn) 71 7 4 = some (nI K.length) from gi_71_4]
        simp only [ob_s, gl_q hl]
        by_cases a1 : st = 4
        · rw [if_pos (show nI st = 4 by rw [a1]; rfl)]
          by_cases a2 : K.length = 0
          · rw [if_pos (show nI K.length = 0 by rw [a2]; rfl), if_pos ⟨a1, a2⟩]
          · rw [if_neg (nI_ne0 (by omega) (by omega)), if_neg (fun z => a2 z.2)]
        · rw [if_neg (show ¬ nI st = (4 : Int32) from nI_ne (b := 4) (by omega) (by omega) a1), if_neg (fun z => a1 z.1)]
      show ∃ l' s' f' n' w' fa' fl' fn', _ = some (if qf_b (md, fo, ls, K, L, x) = true then -1 else nI k, _) ∧ ((if qf_b (md, fo, ls, K, L, x) = true then -1 else nI k) = -1 → _)
      have hqf : qf_b (md, fo, ls, K, L, x) = decide (K.length = 0 ∧ (md = 1 ∨ md = 2 ∨ md = 5)) := rfl
      rw [hqf]
      by_cases hw : md = 1 ∨ md = 2
      · have hs2 : s = 2 := by rw [h2]; rcases hw with rfl | rfl <;> rfl
        have hlen : 1 ≤ ls.length := by
          rcases hw with z | z
          · have := (hm1 z).1; omega
          · exact (hm2 z).1
        rw [if_neg (by omega)] at hx
        obtain ⟨x1, x2, x3, x4, x5⟩ := hx
        rw [if_pos hs2, is_q, gd_t]
        subst h1; subst x5; subst x2
        have ed := ed_A (vv := vv) (ww := ww) (aa := aa) (bb := bb) (s := s) (n := n) (w := lN (cw_val ls)) (fa := fa) (fl := fl) (fn := fn) hq hk7 (pf := false) (fo := fo) (es := ls) (fun z => by cases z) hf
        have ed' : f_Query_endWord (qh_m vv ww aa bb (nI K.length) s (th_enc fo) n (lN (cw_val ls)) fa fl fn) 71 (some 76) 0 = _ := ed
        have e4 := e54 (th_enc fo) n (lN (cw_val ls)) fa (upd fl K.length (fl K.length &&& (if fn K.length = 0 then nI (bm_n (wp_b false cd dw (lN (cw_val ls)) ls fo fdl wc) 12) else nI (bm_n (wp_b false cd dw (lN (cw_val ls)) ls fo fdl wc) 12) ^^^ (-1)))) (upd fn K.length 0) 4 (by omega)
        have hxx := eo_R (y := nI (bm_n (wp_b false cd dw (lN (cw_val ls)) ls fo fdl wc) 12)) (p := qw_p cd dw fdl wc false fo ls) x1 (fun m hm _ => bt_bm hm)
        refine ⟨nI K.length, nI 4, th_enc fo, n, lN (cw_val ls), fa, upd fl K.length (fl K.length &&& (if fn K.length = 0 then nI (bm_n (wp_b false cd dw (lN (cw_val ls)) ls fo fdl wc) 12) else nI (bm_n (wp_b false cd dw (lN (cw_val ls)) ls fo fdl wc) 12) ^^^ (-1))), upd fn K.length 0, ?_, fun z => ?_⟩
        · rw [ed', bd_s]
          refine Eq.trans e4 ?_
          by_cases a2 : K.length = 0
          · rw [if_pos ⟨rfl, a2⟩, decide_eq_true ⟨a2, by omega⟩]; rfl
          · rw [if_neg (fun z => a2 z.2), decide_eq_false (fun z => a2 z.1)]; rfl
        · by_cases a2 : K.length = 0
          · rw [a2] at hxx
            have f1 : fe_L (md, fo, ls, K, L, x) = lv_z L := by unfold fe_L; rw [if_neg (show ¬ md = 5 by omega)]
            have f2 : fe_x (qw_p cd dw fdl wc) (md, fo, ls, K, L, x) = ng_b L (qw_p cd dw fdl wc false fo ls) := by unfold fe_x; rw [if_neg (show ¬ md = 5 by omega)]
            show rx_q th _ _ _ 0 (fe_L (md, fo, ls, K, L, x)) (fe_x (qw_p cd dw fdl wc) (md, fo, ls, K, L, x))
            rw [f1, f2, a2]; exact hxx
          · rw [decide_eq_false (fun y => a2 y.1), if_neg (by decide)] at z
            exact absurd z.symm (nI_neg1 (by omega))
      · have hs2 : ¬ s = 2 := by
          rw [h2]
          have : md = 0 ∨ md = 3 ∨ md = 4 ∨ md = 5 := by omega
          rcases this with rfl | rfl | rfl | rfl <;> decide
        rw [if_neg hs2]
        subst h1
        have hcs : cs_n md ≤ 4 := by unfold cs_n; split; omega; split; omega; split; omega; split; omega; split <;> omega
        refine ⟨nI K.length, nI (cs_n md), f, n, w, fa, fl, fn, ?_, fun z => ?_⟩
        · rw [h2]
          refine Eq.trans (e54 f n w fa fl fn (cs_n md) hcs) ?_
          have hiff : (cs_n md = 4 ∧ K.length = 0) ↔ (K.length = 0 ∧ (md = 1 ∨ md = 2 ∨ md = 5)) := by
            have : md = 0 ∨ md = 3 ∨ md = 4 ∨ md = 5 := by omega
            rcases this with rfl | rfl | rfl | rfl <;> simp [cs_n]
          by_cases a2 : K.length = 0 ∧ (md = 1 ∨ md = 2 ∨ md = 5)
          · rw [if_pos (hiff.mpr a2), decide_eq_true a2]; rfl
          · rw [if_neg (fun y => a2 (hiff.mp y)), decide_eq_false a2]; rfl
        · by_cases a2 : K.length = 0 ∧ (md = 1 ∨ md = 2 ∨ md = 5)
          · have h5 : md = 5 := by omega
            rw [if_pos h5, a2.1] at hx
            have f1 : fe_L (md, fo, ls, K, L, x) = L := by unfold fe_L; rw [if_pos h5]
            have f2 : fe_x (qw_p cd dw fdl wc) (md, fo, ls, K, L, x) = x := by unfold fe_x; rw [if_pos h5]
            show rx_q th _ _ _ 0 (fe_L (md, fo, ls, K, L, x)) (fe_x (qw_p cd dw fdl wc) (md, fo, ls, K, L, x))
            rw [f1, f2]; exact hx
          · rw [decide_eq_false a2, if_neg (by decide)] at z
            exact absurd z.symm (nI_neg1 (by omega))
    | succ t =>
      have hk2 : k < ln := by omega
      have hc := (hl.2.2 k hk2).2
      rw [if_neg (nI_ge hk2 (by omega))]
      have hat : f_Line_at (qh_m vv ww aa bb l s f n w fa fl fn) 1 (nI k) = some (nI (c k), qh_m vv ww aa bb l s f n w fa fl fn) := by
        unfold qh_m; rw [at_A isL_1 (li_1 hl) (by omega), if_pos hk2]
      rw [show m_is (qh_m vv ww aa bb l s f n w fa fl fn) 1 1 = true from is_L isL_1, gd_t, hat, bd_s, is_q, gd_t, ep_s]
      obtain ⟨md, fo, ls, K, L, x⟩ := q
      have rc := rc_A (ww := ww) hq hr hc
      dsimp only
      cases ho : qs_n (qw_p cd dw fdl wc) (tp_b tg) md fo ls K L x (c k) with
      | none =>
        obtain ⟨l', s', f', n', w', fa', fl', fn', e1⟩ := rc.2 ho
        refine ⟨l', s', f', n', w', fa', fl', fn', ?_, fun z => absurd z.symm (nI_neg1 (by omega))⟩
        rw [e1, bd_s, if_pos rfl]
      | some q' =>
        obtain ⟨l', s', f', n', w', fa', fl', fn', e1, e2⟩ := rc.1 q' ho
        rw [e1, bd_s, if_neg (by decide), nI_1]
        exact ih t (k + 1) q' l' s' f' n' w' fa' fl' fn' (by omega) (by omega) e2
end RDA
section FLT
variable {vv : hp_V} {ww : hp_W} {aa : hp_V} {bb : hp_B} {WP : Bool → Option Nat → List Nat → Nat → Bool} {TP : Nat → Nat → Bool}
theorem il_M {g : m_G} {c : Nat} (h : c < 256) : f_Mod_isLetter g (nI c) = some (iB (decide (0 < sl_n c)), g) := by
  have t : ∀ c, c < 256 → (if (nI c : Int32) < 97 then (0 : Int32) else if (122 : Int32) < nI c then 0 else 1) = iB (decide (0 < sl_n c)) := by decide +kernel
  rw [← t c h]
  unfold f_Mod_isLetter f_Mod_isLetter_16 f_Mod_isLetter_17
  by_cases a1 : nI c < 97
  · rw [if_pos a1, if_pos a1]; rfl
  · rw [if_neg a1, if_neg a1]
    by_cases a2 : (122 : Int32) < nI c
    · rw [if_pos a2, if_pos a2]; rfl
    · rw [if_neg a2, if_neg a2]; rfl
def nx_v (o : Option qs_T) : Int32 := match o with
  | none => -1
  | some q => nI q.1
theorem nb_M {g : m_G} {K : List lv_T} {L : lv_T} {x : Nat → Bool} {c : Nat} (hK : K.length ≤ 6) (hc : c < 256) : f_Mod_nextState_165 g (nI c) (nI K.length) = some (nx_v (be_n K L x c), g) := by
  unfold f_Mod_nextState_165 f_Mod_nextState_177 f_Mod_nextState_194 f_Mod_nextState_195 be_n
  by_cases e1 : c = 124
  · rw [if_pos (show nI c = 124 by rw [e1]; rfl), if_neg (show ¬ c = 38 by omega), if_pos e1]; rfl
  · rw [if_neg (show ¬ nI c = (124 : Int32) from nI_ne (b := 124) (by omega) (by omega) e1)]
    by_cases e2 : c = 38
    · rw [if_pos (show nI c = 38 by rw [e2]; rfl), if_pos e2]; rfl
    · rw [if_neg (show ¬ nI c = (38 : Int32) from nI_ne (b := 38) (by omega) (by omega) e2), if_neg e2, if_neg e1]
      by_cases e3 : c = 41
      · rw [if_pos (show nI c = 41 by rw [e3]; rfl), if_pos e3]
        rcases List.eq_nil_or_concat K with rfl | ⟨K0, L0, e⟩
        · rw [if_pos (show nI ([] : List lv_T).length ≤ 0 by decide)]; rfl
        · rw [List.concat_eq_append] at e
          subst e
          rw [if_neg (nI_nle (by rw [List.length_append]; exact Nat.succ_pos _) (by omega)), List.getLast?_concat]; rfl
      · rw [if_neg (show ¬ nI c = (41 : Int32) from nI_ne (b := 41) (by omega) (by omega) e3), if_neg e3]; rfl
theorem nx_M {g : m_G} {md : Nat} {fo : Option Nat} {ls : List Nat} {K : List lv_T} {L : lv_T} {x : Nat → Bool} {c c' : Nat} (hK : K.length ≤ 6) (hmd : md ≤ 5) (hc : c < 256) (hc' : c' < 256) (h1 : md = 1 → ls = [sl_n c'] ∧ 97 ≤ c' ∧ c' ≤ 122) : f_Mod_nextState g 126 (nI md) (nI c) (nI c') (nI K.length) = some (nx_v (qs_n WP TP md fo ls K L x c), g) := by
  have hcase : md = 0 ∨ md = 1 ∨ md = 2 ∨ md = 3 ∨ md = 4 ∨ md = 5 := by omega
  unfold f_Mod_nextState f_Mod_nextState_12 f_Mod_nextState_34 f_Mod_nextState_35 f_Mod_nextState_51 f_Mod_nextState_69 f_Mod_nextState_91 f_Mod_nextState_92 f_Mod_nextState_107 f_Mod_nextState_120 f_Mod_nextState_149 f_Mod_nextState_164 qs_n
  have word : md = 1 ∨ md = 2 → (m_bd (f_Mod_isLetter g (nI c)) fun v_6 g_5 => if v_6 = 0 then (if nI c = 42 then some (5, g_5) else if nI md = 1 then (if nI c = 58 then (if nI c' = 115 then some (3, g_5) else if nI c' = 102 then some (3, g_5) else if nI c' = 98 then some (3, g_5) else if nI c' = 116 then some (4, g_5) else some (-1, g_5)) else f_Mod_nextState_165 g_5 (nI c) (nI K.length)) else f_Mod_nextState_165 g_5 (nI c) (nI K.length)) else some (2, g_5)) = some (nx_v (if 0 < sl_n c then some (2, fo, wd_put ls (sl_n c), K, L, x) else if c = 42 then some (5, none, [], K, lv_z L, ng_b L (WP true fo ls)) else if md = 1 ∧ c = 58 then (match fn_n ls with
      | none => none
      | some none => some (4, none, [], K, L, x)
      | some (some f) => some (3, some f, [], K, L, x)) else be_n K (lv_z L) (ng_b L (WP false fo ls)) c), g) := fun hw => by
    rw [il_M hc, bd_s]
    by_cases e : 0 < sl_n c
    · rw [decide_eq_true e, if_neg (show ¬ iB true = 0 by decide), if_pos e]; rfl
    · rw [decide_eq_false e, if_pos (show iB false = 0 from rfl), if_neg e]
      by_cases e42 : c = 42
      · rw [if_pos (show nI c = 42 by rw [e42]; rfl), if_pos e42]; rfl
      · rw [if_neg (show ¬ nI c = (42 : Int32) from nI_ne (b := 42) (by omega) (by omega) e42), if_neg e42]
        by_cases m1 : md = 1
        · rw [if_pos (show nI md = 1 by rw [m1]; rfl)]
          by_cases e58 : c = 58
          · obtain ⟨hls, a1, a2⟩ := h1 m1
            have hs : sl_n c' = c' - 96 := by unfold sl_n; rw [if_pos ⟨a1, a2⟩]
            rw [if_pos (show nI c = 58 by rw [e58]; rfl), if_pos (show md = 1 ∧ c = 58 from ⟨m1, e58⟩), hls, hs]
            by_cases f1 : c' = 115
            · rw [if_pos (show nI c' = 115 by rw [f1]; rfl), f1]; rfl
            · rw [if_neg (show ¬ nI c' = (115 : Int32) from nI_ne (b := 115) (by omega) (by omega) f1)]
              by_cases f2 : c' = 102
              · rw [if_pos (show nI c' = 102 by rw [f2]; rfl), f2]; rfl
              · rw [if_neg (show ¬ nI c' = (102 : Int32) from nI_ne (b := 102) (by omega) (by omega) f2)]
                by_cases f3 : c' = 98
                · rw [if_pos (show nI c' = 98 by rw [f3]; rfl), f3]; rfl
                · rw [if_neg (show ¬ nI c' = (98 : Int32) from nI_ne (b := 98) (by omega) (by omega) f3)]
                  by_cases f4 : c' = 116
                  · rw [if_pos (show nI c' = 116 by rw [f4]; rfl), f4]; rfl
                  · rw [if_neg (show ¬ nI c' = (116 : Int32) from nI_ne (b := 116) (by omega) (by omega) f4)]
                    have hfn : fn_n [c' - 96] = none := by
                      unfold fn_n
                      rw [if_neg (fun z => by have := List.cons.inj z; omega), if_neg (fun z => by have := List.cons.inj z; omega), if_neg (fun z => by have := List.cons.inj z; omega), if_neg (fun z => by have := List.cons.inj z; omega)]
                    rw [hfn]; rfl
          · rw [if_neg (show ¬ nI c = (58 : Int32) from nI_ne (b := 58) (by omega) (by omega) e58), if_neg (fun z => e58 z.2)]
            exact nb_M hK hc
        · rw [if_neg (show ¬ nI md = (1 : Int32) from nI_ne (b := 1) (by omega) (by omega) m1), if_neg (fun z => m1 z.1)]
          exact nb_M hK hc
  rcases hcase with rfl | rfl | rfl | rfl | rfl | rfl
  · rw [if_pos (show nI 0 = 0 from rfl), if_pos rfl]
    by_cases e1 : c = 33
    · rw [if_pos (show nI c = 33 by rw [e1]; rfl), if_pos e1]; rfl
    · rw [if_neg (show ¬ nI c = (33 : Int32) from nI_ne (b := 33) (by omega) (by omega) e1), if_neg e1, if_pos (show nI 0 = 0 from rfl)]
      by_cases e2 : c = 40
      · rw [if_pos (show nI c = 40 by rw [e2]; rfl), if_pos e2]
        by_cases e6 : K.length = 6
        · rw [if_pos (show nI K.length = 6 by rw [e6]; rfl), if_pos e6]; rfl
        · rw [if_neg (show ¬ nI K.length = (6 : Int32) from nI_ne (b := 6) (by omega) (by omega) e6), if_neg e6]; rfl
      · rw [if_neg (show ¬ nI c = (40 : Int32) from nI_ne (b := 40) (by omega) (by omega) e2), if_neg e2, if_pos (show nI 0 = 0 from rfl), il_M hc, bd_s]
        by_cases e : 0 < sl_n c
        · rw [decide_eq_true e, if_neg (show ¬ iB true = 0 by decide), if_pos e]; rfl
        · rw [decide_eq_false e, if_pos (show iB false = 0 from rfl), if_neg e]; rfl
  · rw [if_neg (show ¬ nI 1 = 0 by decide), if_neg (show ¬ nI 1 = 0 by decide), if_neg (show ¬ nI 1 = 0 by decide), if_neg (show ¬ nI 1 = 3 by decide), if_neg (show ¬ nI 1 = 4 by decide), if_neg (show ¬ nI 1 = 5 by decide), if_neg (show ¬ (1 : Nat) = 0 by omega), if_neg (show ¬ (1 : Nat) = 3 by omega), if_neg (show ¬ (1 : Nat) = 4 by omega), if_neg (show ¬ (1 : Nat) = 5 by omega)]
    refine Eq.trans ?_ (word (Or.inl rfl))
    refine congrArg (m_bd (f_Mod_isLetter g (nI c))) (funext fun v => funext fun g5 => ?_)
    rw [if_neg (show ¬ nI 1 = 5 by decide)]
  · rw [if_neg (show ¬ nI 2 = 0 by decide), if_neg (show ¬ nI 2 = 0 by decide), if_neg (show ¬ nI 2 = 0 by decide), if_neg (show ¬ nI 2 = 3 by decide), if_neg (show ¬ nI 2 = 4 by decide), if_neg (show ¬ nI 2 = 5 by decide), if_neg (show ¬ (2 : Nat) = 0 by omega), if_neg (show ¬ (2 : Nat) = 3 by omega), if_neg (show ¬ (2 : Nat) = 4 by omega), if_neg (show ¬ (2 : Nat) = 5 by omega)]
    refine Eq.trans ?_ (word (Or.inr rfl))
    refine congrArg (m_bd (f_Mod_isLetter g (nI c))) (funext fun v => funext fun g5 => ?_)
    rw [if_neg (show ¬ nI 2 = 5 by decide)]
  · rw [if_neg (show ¬ nI 3 = 0 by decide), if_neg (show ¬ nI 3 = 0 by decide), if_neg (show ¬ nI 3 = 0 by decide), if_pos (show nI 3 = 3 from rfl), if_neg (show ¬ (3 : Nat) = 0 by omega), if_pos rfl, il_M hc, bd_s]
    by_cases e : 0 < sl_n c
    · rw [decide_eq_true e, if_neg (show ¬ iB true = 0 by decide), if_pos e]; rfl
    · rw [decide_eq_false e, if_pos (show iB false = 0 from rfl), if_neg e]; rfl
  · rw [if_neg (show ¬ nI 4 = 0 by decide), if_neg (show ¬ nI 4 = 0 by decide), if_neg (show ¬ nI 4 = 0 by decide), if_neg (show ¬ nI 4 = 3 by decide), if_pos (show nI 4 = 4 from rfl), if_neg (show ¬ (4 : Nat) = 0 by omega), if_neg (show ¬ (4 : Nat) = 3 by omega), if_pos rfl]
    by_cases e1 : c < 48
    · rw [if_pos (show nI c < (48 : Int32) from nI_lt (b := 48) e1 (by omega)), if_neg (by omega)]; rfl
    · rw [if_neg (show ¬ nI c < (48 : Int32) from nI_nlt (b := 48) (by omega) (by omega))]
      by_cases e2 : 55 < c
      · rw [if_pos (show (55 : Int32) < nI c from nI_lt (a := 55) e2 (by omega)), if_neg (by omega)]; rfl
      · rw [if_neg (show ¬ (55 : Int32) < nI c from nI_nlt (a := 55) (by omega) (by omega)), if_pos (by omega)]; rfl
  · rw [if_neg (show ¬ nI 5 = 0 by decide), if_neg (show ¬ nI 5 = 0 by decide), if_neg (show ¬ nI 5 = 0 by decide), if_neg (show ¬ nI 5 = 3 by decide), if_neg (show ¬ nI 5 = 4 by decide), if_pos (show nI 5 = 5 from rfl), if_pos (show nI 5 = 5 from rfl), if_neg (show ¬ nI 5 = 1 by decide), if_neg (show ¬ (5 : Nat) = 0 by omega), if_neg (show ¬ (5 : Nat) = 3 by omega), if_neg (show ¬ (5 : Nat) = 4 by omega), if_pos rfl]
    exact nb_M hK hc
end FLT
