/-! search: the class reads a character -/
section QRC
variable {vv : hp_V} {ww : hp_W} {aa : hp_V} {bb : hp_B} {l s f n : Int32} {w : Int64} {fa fl fn : Nat → Int32}
variable {th : Nat → Bool} {K : List lv_T} {L : lv_T} {xp : Nat → Bool} {wc : Nat → Nat} {cd : Nat → Nat → Int64} {dw : Nat → Nat → List Nat} {fdl : Nat → Nat → Int32} {tg : Nat → Int32}
def qm_ok (vv aa : hp_V) (bb : hp_B) (wc : Nat → Nat) (cd : Nat → Nat → Int64) (dw : Nat → Nat → List Nat) (fdl : Nat → Nat → Int32) (tg : Nat → Int32) : Prop := wk_ok wc cd dw ∧ ∀ m, m < 12 → vv (77 + 4 * m) 8 = tg m ∧ vv (77 + 4 * m) 6 = nI (wc m) ∧ ∀ k, k < wc m → bb (77 + 4 * m + 2) k = cd m k ∧ aa (77 + 4 * m + 3) k = fdl m k
def qw_p (cd : Nat → Nat → Int64) (dw : Nat → Nat → List Nat) (fdl : Nat → Nat → Int32) (wc : Nat → Nat) (pf : Bool) (fo : Option Nat) (ls : List Nat) : Nat → Bool := wp_b pf cd dw (lN (cw_val ls)) ls fo fdl wc
theorem bt_bm {p : Nat → Bool} {m : Nat} (h : m < 12) : bt (nI (bm_n p 12)) m = p m := by
  rw [bt_nI (by omega), bm_bit, decide_eq_true h, Bool.true_and]
theorem ed_A (hq : qm_ok vv aa bb wc cd dw fdl tg) {k : Nat} (hk : k < 7) {pf : Bool} {fo : Option Nat} {es : List Nat} (hv : pf = true → cw_ok es ∧ w = lN (cw_val es)) (hf : ∀ y, fo = some y → y < 3) : f_Query_endWord (qh_m vv ww aa bb (nI k) s (th_enc fo) n w fa fl fn) 71 (some 76) (iB pf) = some ((), qh_m vv ww aa bb (nI k) 4 (th_enc fo) n w fa (upd fl k (fl k &&& (if fn k = 0 then nI (bm_n (wp_b pf cd dw w es fo fdl wc) 12) else nI (bm_n (wp_b pf cd dw w es fo fdl wc) 12) ^^^ (-1)))) (upd fn k 0)) := by
  have e := ew_A (vv := qv_V vv (nI k) s (th_enc fo) n) (ww := up_w ww 75 w) (aa := qa_A aa fa fl fn) (bb := bb) (fl := fdl) hq.1 hv hf uw_s qv_6 (fun m hm => by
    rw [qv_o (by omega) (by omega), qa_o (by omega) (by omega) (by omega)]; exact (hq.2 m hm).2) m_fu 0 (by omega) (by unfold m_fu; omega)
  have eo := eo_A (vv := vv) (ww := ww) (aa := aa) (bb := bb) (s := s) (f := th_enc fo) (n := n) (w := w) (fa := fa) (fl := fl) (fn := fn) hk (y := nI (bm_n (wp_b pf cd dw w es fo fdl wc) 12))
  unfold qh_m at eo ⊢
  rw [eo, bd_s] at e
  exact e
theorem rl_Q {ls : List Nat} (hl : ls_ok ls) {c : Nat} (hc : c < 256) : f_Query_readLetter (qh_m vv ww aa bb l s f (nI ls.length) (lN (cw_val ls)) fa fl fn) 71 (nI c) = if sl_n c = 0 then some (0, qh_m vv ww aa bb l s f (nI ls.length) (lN (cw_val ls)) fa fl fn) else some (1, qh_m vv ww aa bb l 2 f (nI (wd_put ls (sl_n c)).length) (lN (cw_val (wd_put ls (sl_n c)))) fa fl fn) := by
  have h12 := hl.1
  have h26 := sl_26 c
  unfold f_Query_readLetter
  rw [sl_A hc, bd_s]
  by_cases e : sl_n c = 0
  · rw [if_pos (show nI (sl_n c) = 0 by rw [e]; rfl), if_pos e]
  · rw [if_neg (nI_ne0 (by omega) (by omega)), if_neg e]
    unfold qh_m f_Letters_put f_Letters_put_34
    simp only [gr_71_3, ob_s, is_75, gd_t, gi_75_1, qv_n]
    by_cases e12 : ls.length < 12
    · have e2 : lN (cw_val ls) * 32 + (nI (sl_n c)).toInt64 = lN (32 * cw_val ls + sl_n c) := by
        rw [nI_l (by omega), show (32 : Int64) = lN 32 from rfl, lN_mul, lN_add, Nat.mul_comm]
      have hp : wd_put ls (sl_n c) = ls ++ [sl_n c] := by unfold wd_put; rw [if_pos e12]
      rw [if_neg (show ¬ (12 : Int32) ≤ nI ls.length from nI_ge (b := 12) e12 (by omega))]
      simp only [gl_75_0, uw_s, ob_s, e2, pl_75, uw_u, gi_75_1, qv_n, nI_1, pi_75_1, uq_n, bd_s, pi_71_5, uq_5]
      rw [hp, cw_app, List.length_append, List.length_singleton]
    · have hp : wd_put ls (sl_n c) = ls := by unfold wd_put; rw [if_neg e12]
      rw [if_pos (show (12 : Int32) ≤ nI ls.length from nI_le (a := 12) (by omega) (by omega)), bd_s]
      simp only [pi_71_5, uq_5, ob_s]
      rw [hp]
theorem fn_A {g : m_G} {a : Nat} (ha : a < 2 ^ 31) : f_Query_fieldNamed g (lN a) = some (if a = 19 then 0 else if a = 6 then 1 else if a = 2 then 2 else -1, g) := by
  have c1 : f_Arc_smallLetter g 115 = some (nI 19, g) := sl_A (c := 115) (by omega)
  have c2 : f_Arc_smallLetter g 102 = some (nI 6, g) := sl_A (c := 102) (by omega)
  have c3 : f_Arc_smallLetter g 98 = some (nI 2, g) := sl_A (c := 98) (by omega)
  have q : ∀ b, b < 2 ^ 31 → (lg_cmp (lN a) (nI b).toInt64 = 0 ↔ a = b) := fun b hb => by
    rw [cmp_0, nI_l hb, pk_lEQ (by omega) (by omega)]
  unfold f_Query_fieldNamed f_Query_fieldNamed_42
  rw [c1, bd_s]
  by_cases e1 : a = 19
  · rw [if_pos ((q 19 (by omega)).mpr e1), if_pos e1]
  · rw [if_neg (fun z => e1 ((q 19 (by omega)).mp z)), if_neg e1, c2, bd_s]
    by_cases e2 : a = 6
    · rw [if_pos ((q 6 (by omega)).mpr e2), if_pos e2]
    · rw [if_neg (fun z => e2 ((q 6 (by omega)).mp z)), if_neg e2, c3, bd_s]
      by_cases e3 : a = 2
      · rw [if_pos ((q 2 (by omega)).mpr e3), if_pos e3]
      · rw [if_neg (fun z => e3 ((q 2 (by omega)).mp z)), if_neg e3]
/-- what a character leads to -/
def ok_q (vv : hp_V) (ww : hp_W) (aa : hp_V) (bb : hp_B) (th : Nat → Bool) (F : Option (Int32 × m_G)) (o : Option qs_T) : Prop := (∀ q, o = some q → ∃ l' s' f' n' w' fa' fl' fn', F = some (1, qh_m vv ww aa bb l' s' f' n' w' fa' fl' fn') ∧ rq_q th l' s' f' n' w' fa' fl' fn' q) ∧ (o = none → ∃ l' s' f' n' w' fa' fl' fn', F = some (0, qh_m vv ww aa bb l' s' f' n' w' fa' fl' fn'))
theorem ok_1 {F : Option (Int32 × m_G)} {q : qs_T} {l s f n : Int32} {w : Int64} {fa fl fn : Nat → Int32} (h : F = some (1, qh_m vv ww aa bb l s f n w fa fl fn)) (hq : rq_q th l s f n w fa fl fn q) : ok_q vv ww aa bb th F (some q) := ⟨fun q' z => by cases z; exact ⟨_, _, _, _, _, _, _, _, h, hq⟩, fun z => by cases z⟩
theorem ok_0 {F : Option (Int32 × m_G)} {l s f n : Int32} {w : Int64} {fa fl fn : Nat → Int32} (h : F = some (0, qh_m vv ww aa bb l s f n w fa fl fn)) : ok_q vv ww aa bb th F none := ⟨fun q' z => (by cases z), fun _ => ⟨_, _, _, _, _, _, _, _, h⟩⟩
theorem is_q : m_is (qh_m vv ww aa bb l s f n w fa fl fn) 71 7 = true := is_71
theorem gi_q5 : m_gI (qh_m vv ww aa bb l s f n w fa fl fn) 71 7 5 = some s := gi_71_5
/-- where a letter may come: what it leads to -/
theorem rq_l {K : List lv_T} (h6 : K.length ≤ 6) (hK : rk_q th fa fl fn K) (hL : rl_q th fa fl fn K.length L) {ls : List Nat} {fo : Option Nat} {md : Nat} (hmd : md = 1 ∨ md = 2) (hls : ls_ok ls) (h1 : 1 ≤ ls.length) (hf : ∀ y, fo = some y → y < 3) (hm1 : md = 1 → ls.length = 1 ∧ fo = none) (hm2 : md = 2 → ls.length ≠ 1 ∨ fo ≠ none) : rq_q th (nI K.length) 2 (th_enc fo) (nI ls.length) (lN (cw_val ls)) fa fl fn (md, fo, ls, K, L, xp) := by
  refine ⟨h6, rfl, ?_, by omega, hK, ?_, hf, fun z => absurd z (by omega), fun z => absurd z (by omega), hm1, fun z => ⟨h1, hm2 z⟩, fun z => absurd z (by omega)⟩
  · rcases hmd with rfl | rfl <;> rfl
  · rw [if_neg (by omega)]; exact ⟨hL, rfl, rfl, hls, rfl⟩
theorem rc_0 (h6 : K.length ≤ 6) (hK : rk_q th fa fl fn K) (hL : rl_q th fa fl fn K.length L) {WP : Bool → Option Nat → List Nat → Nat → Bool} {TP : Nat → Nat → Bool} {c : Nat} (hc : c < 256) : ok_q vv ww aa bb th (f_Query_readCharacter (qh_m vv ww aa bb (nI K.length) 0 (-1) 0 0 fa fl fn) 71 (nI c) (some 76)) (qs_n WP TP 0 none [] K L xp c) := by
  have hk7 : K.length < 7 := by omega
  have h26 := sl_26 c
  have el := rl_Q (vv := vv) (ww := ww) (aa := aa) (bb := bb) (l := nI K.length) (s := 0) (f := -1) (fa := fa) (fl := fl) (fn := fn) ls_nil hc
  have el' : f_Query_readLetter (qh_m vv ww aa bb (nI K.length) 0 (-1) 0 0 fa fl fn) 71 (nI c) = _ := el
  unfold qs_n f_Query_readCharacter f_Query_readCharacter_60 f_Query_readCharacter_65
  rw [gi_q5, ob_s, if_pos rfl, if_pos rfl, is_q, gd_t, el']
  by_cases e : sl_n c = 0
  · rw [if_pos e, bd_s, if_pos rfl, show m_is (qh_m vv ww aa bb (nI K.length) 0 (-1) (nI ([] : List Nat).length) (lN (cw_val [])) fa fl fn) 71 7 = true from is_71, gd_t]
    unfold f_Query_readNot f_Query_readNot_33
    by_cases e1 : c = 33
    · rw [if_pos e1, if_pos (show nI c = 33 by rw [e1]; rfl)]
      obtain ⟨h1, h2, h3⟩ := hL
      have hfn : ∀ y, y = iB (od_b (L.2.2 + 1)) → rq_q th (nI K.length) 0 (-1) 0 0 fa fl (upd fn K.length y) (0, none, [], K, (L.1, L.2.1, L.2.2 + 1), xp) := fun y hy => rq_0 h6 (rk_up hK (fun j hj => ⟨rfl, rfl, upd_n (by omega)⟩)) ⟨h1, h2, by rw [upd_s]; exact hy⟩
      have hod : od_b (L.2.2 + 1) = !od_b L.2.2 := by
        unfold od_b
        by_cases z : L.2.2 % 2 = 1
        · rw [decide_eq_true z, decide_eq_false (by omega)]; rfl
        · rw [decide_eq_false z, decide_eq_true (by omega)]; rfl
      refine ok_1 (fn := upd fn K.length (iB (od_b (L.2.2 + 1)))) ?_ (hfn _ rfl)
      unfold qh_m
      simp only [gr_71_2, gi_71_4, qv_4, ob_s, ld_74 hk7, qa_74, h3, st_74 hk7, ux_74, nar_0, nar_1, hod]
      cases od_b L.2.2 with
      | false => rw [if_pos (show iB false = 0 from rfl), bd_s, if_neg (by decide), if_pos (by decide)]; rfl
      | true => rw [if_neg (show ¬ iB true = 0 by decide), bd_s, if_neg (by decide), if_pos (by decide)]; rfl
    · rw [if_neg e1, if_neg (show ¬ nI c = (33 : Int32) from nI_ne (b := 33) (by omega) (by omega) e1), bd_s, if_pos rfl, show m_is (qh_m vv ww aa bb (nI K.length) 0 (-1) (nI ([] : List Nat).length) (lN (cw_val [])) fa fl fn) 71 7 = true from is_71, gd_t]
      unfold f_Query_readOpening f_Query_readOpening_17
      by_cases e2 : c = 40
      · rw [if_pos e2, if_pos (show nI c = 40 by rw [e2]; rfl)]
        rw [show m_gI (qh_m vv ww aa bb (nI K.length) 0 (-1) (nI ([] : List Nat).length) (lN (cw_val [])) fa fl fn) 71 7 4 = some (nI K.length) from gi_71_4, ob_s, nI_1]
        by_cases e6 : K.length = 6
        · rw [if_pos e6, if_neg (show ¬ nI (K.length + 1) < (7 : Int32) from nI_nlt (b := 7) (by omega) (by omega)), bd_s, if_pos rfl, if_pos (by decide)]
          exact ok_0 rfl
        · rw [if_neg e6, if_pos (show nI (K.length + 1) < (7 : Int32) from nI_lt (b := 7) (by omega) (by omega))]
          have bl := bl_q (vv := vv) (ww := ww) (aa := aa) (bb := bb) (k := K.length + 1) (s := 0) (f := -1) (n := 0) (w := 0) (fa := fa) (fl := fl) (fn := fn) (by omega)
          have hlen : (K ++ [L]).length = K.length + 1 := by rw [List.length_append]; rfl
          have hq : rq_q th (nI (K ++ [L]).length) 0 (-1) 0 0 (upd fa (K.length + 1) 0) (upd fl (K.length + 1) (-1)) (upd fn (K.length + 1) 0) (0, none, [], K ++ [L], lv_0, xp) := by
            refine rq_0 (by omega) (fun j hj => ?_) ?_
            · rw [hlen] at hj
              rw [gl_app]
              have hh : rl_q th fa fl fn j (if j < K.length then K.getD j lv_0 else if j = K.length then L else lv_0) := by
                by_cases z : j < K.length
                · rw [if_pos z]; exact hK j z
                · rw [if_neg z, if_pos (by omega), show j = K.length by omega]; exact hL
              unfold rl_q at hh ⊢
              rw [upd_n (by omega), upd_n (by omega), upd_n (by omega)]; exact hh
            · rw [hlen]
              unfold rl_q lv_0
              rw [upd_s, upd_s, upd_s]
              exact ⟨fun m _ _ => bt_0, fun m hm _ => bt_m1 (by omega), rfl⟩
          rw [hlen] at hq
          refine ok_1 ?_ hq
          rw [ob_s, nI_1, show m_pI (qh_m vv ww aa bb (nI K.length) 0 (-1) (nI ([] : List Nat).length) (lN (cw_val [])) fa fl fn) 71 7 4 (nI (K.length + 1)) = some (qh_m vv ww aa bb (nI (K.length + 1)) 0 (-1) 0 0 fa fl fn) from by unfold qh_m; rw [pi_71_4, uq_4]; rfl, ob_s, is_q, gd_t, bl, bd_s, bd_s, if_neg (by decide), if_pos (by decide)]
      · rw [if_neg e2, if_neg (show ¬ nI c = (40 : Int32) from nI_ne (b := 40) (by omega) (by omega) e2), bd_s, if_pos rfl, if_pos (by decide), if_neg (by omega)]
        exact ok_0 rfl
  · have n1 : c ≠ 33 := fun z => e (by rw [z]; rfl)
    have n2 : c ≠ 40 := fun z => e (by rw [z]; rfl)
    rw [if_neg e, bd_s, if_neg (by decide), if_pos (by decide), if_neg n1, if_neg n2, if_pos (by omega)]
    have hp : wd_put [] (sl_n c) = [sl_n c] := rfl
    rw [hp]
    refine ok_1 rfl (rq_l (md := 1) (fo := none) h6 hK hL (Or.inl rfl) ⟨(by show 1 ≤ 12; omega), fun d hd => ?_⟩ (Nat.le_refl 1) (fun y z => (by cases z)) (fun _ => ⟨rfl, rfl⟩) (fun z => absurd z (by omega)))
    rw [List.mem_singleton.mp hd]; omega
theorem rc_3 (h6 : K.length ≤ 6) (hK : rk_q th fa fl fn K) (hL : rl_q th fa fl fn K.length L) {WP : Bool → Option Nat → List Nat → Nat → Bool} {TP : Nat → Nat → Bool} {fo : Option Nat} (hfo : fo ≠ none) (hf : ∀ y, fo = some y → y < 3) {c : Nat} (hc : c < 256) : ok_q vv ww aa bb th (f_Query_readCharacter (qh_m vv ww aa bb (nI K.length) 1 (th_enc fo) 0 0 fa fl fn) 71 (nI c) (some 76)) (qs_n WP TP 3 fo [] K L xp c) := by
  have h26 := sl_26 c
  have el := rl_Q (vv := vv) (ww := ww) (aa := aa) (bb := bb) (l := nI K.length) (s := 1) (f := th_enc fo) (fa := fa) (fl := fl) (fn := fn) ls_nil hc
  have el' : f_Query_readLetter (qh_m vv ww aa bb (nI K.length) 1 (th_enc fo) 0 0 fa fl fn) 71 (nI c) = _ := el
  unfold qs_n f_Query_readCharacter
  rw [gi_q5, ob_s, if_neg (by decide), if_pos rfl, if_neg (by omega), if_pos rfl, is_q, gd_t, el']
  by_cases e : sl_n c = 0
  · rw [if_pos e, bd_s, if_pos (by decide), if_neg (by omega)]
    exact ok_0 rfl
  · rw [if_neg e, bd_s, if_pos (by decide), if_pos (by omega)]
    have hp : wd_put [] (sl_n c) = [sl_n c] := rfl
    rw [hp]
    refine ok_1 rfl (rq_l (md := 2) h6 hK hL (Or.inr rfl) ⟨(by show 1 ≤ 12; omega), fun d hd => ?_⟩ (Nat.le_refl 1) hf (fun z => absurd z (by omega)) (fun _ => Or.inr hfo))
    rw [List.mem_singleton.mp hd]; omega
theorem rc_4 (hq : qm_ok vv aa bb wc cd dw fdl tg) (h6 : K.length ≤ 6) (hK : rk_q th fa fl fn K) (hL : rl_q th fa fl fn K.length L) {WP : Bool → Option Nat → List Nat → Nat → Bool} {fo : Option Nat} {ls : List Nat} {c : Nat} (hc : c < 256) : ok_q vv ww aa bb th (f_Query_readCharacter (qh_m vv ww aa bb (nI K.length) 3 f n w fa fl fn) 71 (nI c) (some 76)) (qs_n WP (tp_b tg) 4 fo ls K L xp c) := by
  have hk7 : K.length < 7 := by omega
  unfold qs_n f_Query_readCharacter
  rw [gi_q5, ob_s, if_neg (by decide), if_neg (by decide), if_neg (by decide), if_pos rfl, if_neg (by omega), if_neg (by omega), if_pos rfl, is_q, gd_t]
  unfold f_Query_readTag f_Query_readTag_15
  rw [dg_A hc, bd_s]
  unfold dg_n
  by_cases e : 48 ≤ c ∧ c ≤ 57
  · rw [if_pos e, if_neg (show ¬ th_enc (some (c - 48)) < 0 from nI_pos (by omega))]
    by_cases e2 : c ≤ 55
    · rw [if_pos (show th_enc (some (c - 48)) < 8 from nI_lt (b := 8) (by omega) (by omega)), if_pos (by omega)]
      have tt := tt_A (vv := qv_V vv (nI K.length) 3 f n) (ww := up_w ww 75 w) (aa := qa_A aa fa fl fn) (bb := bb) (tg := tg) (d := c - 48) (fun m hm => by rw [qv_o (by omega) (by omega)]; exact (hq.2 m hm).1) m_fu 0 (by omega) (by unfold m_fu; omega)
      have eo := eo_A (vv := vv) (ww := ww) (aa := aa) (bb := bb) (s := 3) (f := f) (n := n) (w := w) (fa := fa) (fl := fl) (fn := fn) hk7 (y := nI (bm_n (tp_b tg (c - 48)) 12))
      have tt' : f_Query_readTag_23 m_fu (qh_m vv ww aa bb (nI K.length) 3 f n w fa fl fn) 71 (some 76) (th_enc (some (c - 48))) 0 0 = m_bd (f_Query_endOne (qh_m vv ww aa bb (nI K.length) 3 f n w fa fl fn) 71 (nI (bm_n (tp_b tg (c - 48)) 12))) (fun _ g => some (1, g)) := tt
      rw [tt', eo, bd_s, bd_s, if_pos (by decide)]
      exact ok_1 rfl (eo_Q rfl h6 hK hL (fun m hm _ => bt_bm hm))
    · rw [if_neg (show ¬ th_enc (some (c - 48)) < 8 from nI_nlt (b := 8) (by omega) (by omega)), if_neg (by omega), bd_s, if_pos (by decide)]
      exact ok_0 rfl
  · rw [if_neg e, if_pos (show th_enc none < 0 by decide), if_neg (by omega), bd_s, if_pos (by decide)]
    exact ok_0 rfl
theorem rc_5 (h6 : K.length ≤ 6) (hK : rk_q th fa fl fn K) (hX : rx_q th fa fl fn K.length L xp) {WP : Bool → Option Nat → List Nat → Nat → Bool} {TP : Nat → Nat → Bool} {fo : Option Nat} {ls : List Nat} {c : Nat} (hc : c < 256) : ok_q vv ww aa bb th (f_Query_readCharacter (qh_m vv ww aa bb (nI K.length) 4 f n w fa fl fn) 71 (nI c) (some 76)) (qs_n WP TP 5 fo ls K L xp c) := by
  have rb := rb_A (vv := vv) (ww := ww) (aa := aa) (bb := bb) (s := 4) (f := f) (n := n) (w := w) h6 hK hX hc
  unfold qs_n f_Query_readCharacter
  rw [gi_q5, ob_s, if_neg (by decide), if_neg (by decide), if_neg (by decide), if_neg (by decide), if_neg (by omega), if_neg (by omega), if_neg (by omega), if_pos rfl, is_q, gd_t]
  refine ⟨fun q hq => ?_, fun hq => ?_⟩
  · obtain ⟨l', s', f', n', w', fa', fl', fn', e1, e2⟩ := rb.1 q hq
    exact ⟨l', s', f', n', w', fa', fl', fn', by rw [e1, bd_s, if_pos (by decide)], e2⟩
  · exact ⟨_, _, _, _, _, _, _, _, by rw [rb.2 hq, bd_s, if_pos (by decide)]⟩
theorem rw_A (hq : qm_ok vv aa bb wc cd dw fdl tg) (h6 : K.length ≤ 6) (hK : rk_q th fa fl fn K) (hL : rl_q th fa fl fn K.length L) {fo : Option Nat} {ls : List Nat} (hcw : cw_ok ls) (hf : ∀ y, fo = some y → y < 3) {c : Nat} (hc : c < 256) : ok_q vv ww aa bb th (f_Query_readBehindWord (qh_m vv ww aa bb (nI K.length) s (th_enc fo) n (lN (cw_val ls)) fa fl fn) 71 (nI c) (some 76)) (if c = 42 then some (5, none, [], K, lv_z L, ng_b L (qw_p cd dw fdl wc true fo ls)) else be_n K (lv_z L) (ng_b L (qw_p cd dw fdl wc false fo ls)) c) := by
  have hk7 : K.length < 7 := by omega
  unfold f_Query_readBehindWord f_Query_readBehindWord_13 f_Query_readBehindWord_30 f_Query_readBehindWord_35
  by_cases e : c = 42
  · rw [if_pos e, if_pos (show nI c = 42 by rw [e]; rfl)]
    have ed := ed_A (vv := vv) (ww := ww) (aa := aa) (bb := bb) (s := s) (n := n) (w := lN (cw_val ls)) (fa := fa) (fl := fl) (fn := fn) hq hk7 (pf := true) (fo := fo) (es := ls) (fun _ => ⟨hcw, rfl⟩) hf
    have ed' : f_Query_endWord (qh_m vv ww aa bb (nI K.length) s (th_enc fo) n (lN (cw_val ls)) fa fl fn) 71 (some 76) 1 = _ := ed
    rw [ob_s, is_q, gd_t, ed', bd_s, if_pos (show nI c = 42 by rw [e]; rfl), if_pos (by decide)]
    exact ok_1 rfl (eo_Q rfl h6 hK hL (fun m hm _ => bt_bm hm))
  · rw [if_neg e, if_neg (show ¬ nI c = (42 : Int32) from nI_ne (b := 42) (by omega) (by omega) e)]
    have ed := ed_A (vv := vv) (ww := ww) (aa := aa) (bb := bb) (s := s) (n := n) (w := lN (cw_val ls)) (fa := fa) (fl := fl) (fn := fn) hq hk7 (pf := false) (fo := fo) (es := ls) (fun z => by cases z) hf
    have ed' : f_Query_endWord (qh_m vv ww aa bb (nI K.length) s (th_enc fo) n (lN (cw_val ls)) fa fl fn) 71 (some 76) 0 = _ := ed
    rw [ob_s, is_q, gd_t, ed', bd_s, if_neg (show ¬ nI c = (42 : Int32) from nI_ne (b := 42) (by omega) (by omega) e), is_q, gd_t]
    have hx := eo_R (y := nI (bm_n (wp_b false cd dw (lN (cw_val ls)) ls fo fdl wc) 12)) (p := qw_p cd dw fdl wc false fo ls) hL (fun m hm _ => bt_bm hm)
    have rb := rb_A (vv := vv) (ww := ww) (aa := aa) (bb := bb) (s := 4) (f := th_enc fo) (n := n) (w := lN (cw_val ls)) h6 (rk_up hK (fun j hj => ⟨rfl, upd_n (by omega), upd_n (by omega)⟩)) hx hc
    refine ⟨fun q hq => ?_, fun hq => ?_⟩
    · obtain ⟨l', s', f', n', w', fa', fl', fn', e1, e2⟩ := rb.1 q hq
      exact ⟨l', s', f', n', w', fa', fl', fn', by rw [e1, bd_s, if_neg (by decide), if_pos (by decide)], e2⟩
    · exact ⟨_, _, _, _, _, _, _, _, by rw [rb.2 hq, bd_s, if_pos (by decide), if_pos (by decide)]⟩
theorem rj_A (hq : qm_ok vv aa bb wc cd dw fdl tg) (h6 : K.length ≤ 6) {c : Nat} (hc : c = 58) : ∃ l' s' f' n' w' fa' fl' fn', f_Query_readBehindWord (qh_m vv ww aa bb (nI K.length) s (-1) n w fa fl fn) 71 (nI c) (some 76) = some (0, qh_m vv ww aa bb l' s' f' n' w' fa' fl' fn') := by
  have hk7 : K.length < 7 := by omega
  unfold f_Query_readBehindWord f_Query_readBehindWord_13 f_Query_readBehindWord_30 f_Query_readBehindWord_35
  have ed := ed_A (vv := vv) (ww := ww) (aa := aa) (bb := bb) (s := s) (n := n) (w := w) (fa := fa) (fl := fl) (fn := fn) hq hk7 (pf := false) (fo := none) (es := []) (fun z => by cases z) (fun y z => by cases z)
  have ed' : f_Query_endWord (qh_m vv ww aa bb (nI K.length) s (-1) n w fa fl fn) 71 (some 76) 0 = _ := ed
  subst hc
  rw [if_neg (show ¬ nI 58 = (42 : Int32) by decide), ob_s, is_q, gd_t, ed', bd_s, if_neg (show ¬ nI 58 = (42 : Int32) by decide), is_q, gd_t]
  unfold f_Query_readBehindOne
  rw [if_neg (show ¬ nI 58 = (38 : Int32) by decide), if_neg (show ¬ nI 58 = (41 : Int32) by decide), if_neg (show ¬ nI 58 = (124 : Int32) by decide), bd_s, if_pos rfl, if_pos (by decide)]
  exact ⟨_, _, _, _, _, _, _, _, rfl⟩
theorem rc_12 (hq : qm_ok vv aa bb wc cd dw fdl tg) (h6 : K.length ≤ 6) (hK : rk_q th fa fl fn K) (hL : rl_q th fa fl fn K.length L) {TP : Nat → Nat → Bool} {fo : Option Nat} {ls : List Nat} {md : Nat} (hmd : md = 1 ∨ md = 2) (hls : ls_ok ls) (h1 : 1 ≤ ls.length) (hm1 : md = 1 → ls.length = 1 ∧ fo = none) (hm2 : md = 2 → ls.length ≠ 1 ∨ fo ≠ none) (hf : ∀ y, fo = some y → y < 3) {c : Nat} (hc : c < 256) : ok_q vv ww aa bb th (f_Query_readCharacter (qh_m vv ww aa bb (nI K.length) 2 (th_enc fo) (nI ls.length) (lN (cw_val ls)) fa fl fn) 71 (nI c) (some 76)) (qs_n (qw_p cd dw fdl wc) TP md fo ls K L xp c) := by
  have hk7 : K.length < 7 := by omega
  have h26 := sl_26 c
  have h12 := hls.1
  have hcw : cw_ok ls := ⟨h1, hls.1, hls.2⟩
  have el := rl_Q (vv := vv) (ww := ww) (aa := aa) (bb := bb) (l := nI K.length) (s := 2) (f := th_enc fo) (fa := fa) (fl := fl) (fn := fn) hls hc
  unfold qs_n f_Query_readCharacter f_Query_readCharacter_97 f_Query_readCharacter_102
  rw [gi_q5, ob_s, if_neg (by decide), if_neg (by decide), if_pos rfl, if_neg (by omega), if_neg (by omega), if_neg (by omega), if_neg (by omega), is_q, gd_t, el]
  by_cases e : sl_n c = 0
  · rw [if_pos e, bd_s, if_pos rfl, if_neg (by omega), is_q, gd_t]
    have behind : ¬ (md = 1 ∧ c = 58) → ok_q vv ww aa bb th (m_bd (f_Query_readBehindWord (qh_m vv ww aa bb (nI K.length) 2 (th_enc fo) (nI ls.length) (lN (cw_val ls)) fa fl fn) 71 (nI c) (some 76)) (fun v_24 g_23 => if v_24 = 0 then (if (0 : Int32) = 0 ∨ (0 : Int32) = 1 then some (0, g_23) else none) else (if (1 : Int32) = 0 ∨ (1 : Int32) = 1 then some (1, g_23) else none))) (if c = 42 then some (5, none, [], K, lv_z L, ng_b L (qw_p cd dw fdl wc true fo ls)) else if md = 1 ∧ c = 58 then (match fn_n ls with
        | none => none
        | some none => some (4, none, [], K, L, xp)
        | some (some f) => some (3, some f, [], K, L, xp)) else be_n K (lv_z L) (ng_b L (qw_p cd dw fdl wc false fo ls)) c) := fun z => by
      rw [if_neg z]
      have r := rw_A (vv := vv) (ww := ww) (aa := aa) (bb := bb) (s := 2) (n := nI ls.length) hq h6 hK hL hcw hf hc
      refine ⟨fun q hq => ?_, fun hq => ?_⟩
      · obtain ⟨l', s', f', n', w', fa', fl', fn', e1, e2⟩ := r.1 q hq
        exact ⟨l', s', f', n', w', fa', fl', fn', by rw [e1, bd_s, if_neg (by decide), if_pos (by decide)], e2⟩
      · obtain ⟨l', s', f', n', w', fa', fl', fn', e1⟩ := r.2 hq
        exact ⟨l', s', f', n', w', fa', fl', fn', by rw [e1, bd_s, if_pos (by decide), if_pos (by decide)]⟩
    unfold f_Query_readColon f_Query_readColon_25
    by_cases e58 : c = 58
    · rw [if_pos (show nI c = 58 by rw [e58]; rfl)]
      rw [show m_gR (qh_m vv ww aa bb (nI K.length) 2 (th_enc fo) (nI ls.length) (lN (cw_val ls)) fa fl fn) 71 7 3 = some (some 75) from gr_71_3, ob_s, ob_s]
      rw [show m_gI (qh_m vv ww aa bb (nI K.length) 2 (th_enc fo) (nI ls.length) (lN (cw_val ls)) fa fl fn) 75 3 1 = some (nI ls.length) from gi_75_1, ob_s]
      by_cases el1 : ls.length = 1
      · rw [if_pos (show nI ls.length = 1 by rw [el1]; rfl)]
        rw [show m_gI (qh_m vv ww aa bb (nI K.length) 2 (th_enc fo) (nI ls.length) (lN (cw_val ls)) fa fl fn) 71 7 6 = some (th_enc fo) from gi_71_6, ob_s]
        cases fo with
        | some y =>
          have hy3 := hf y rfl
          rw [if_neg (show ¬ th_enc (some y) = -1 from fun z => nI_neg1 (show y < 2 ^ 31 by omega) z.symm), bd_s, if_pos rfl, is_q, gd_t]
          exact behind (fun z => by have := (hm1 z.1).2; cases this)
        | none =>
          have hmd1 : md = 1 := by
            rcases hmd with h | h
            · exact h
            · exact absurd (hm2 h) (fun z => z.elim (fun y => y el1) (fun y => y rfl))
          obtain ⟨a, rfl⟩ : ∃ a, ls = [a] := List.length_eq_one_iff.mp el1
          have ha := hls.2 a (List.mem_singleton.mpr rfl)
          have hcv : cw_val [a] = a := by show 32 * 0 + a = a; omega
          rw [if_pos (show th_enc none = -1 from rfl), hcv, ob_s, ob_s]
          rw [show m_gL (qh_m vv ww aa bb (nI K.length) 2 (th_enc none) (nI [a].length) (lN a) fa fl fn) 75 3 0 = some (lN a) from by unfold qh_m; rw [gl_75_0, uw_s], ob_s]
          have c1 : f_Arc_smallLetter (qh_m vv ww aa bb (nI K.length) 2 (th_enc none) (nI [a].length) (lN a) fa fl fn) 116 = some (nI 20, qh_m vv ww aa bb (nI K.length) 2 (th_enc none) (nI [a].length) (lN a) fa fl fn) := sl_A (c := 116) (by omega)
          rw [c1, bd_s]
          have q20 : lg_cmp (lN a) (nI 20).toInt64 = 0 ↔ a = 20 := by rw [cmp_0, nI_l (by omega), pk_lEQ (by omega) (by omega)]
          have r49 : ∀ (y0 : Int32), f_Query_readColon_49 (qh_m vv ww aa bb (nI K.length) 2 (th_enc none) (nI [a].length) (lN a) fa fl fn) 71 y0 = (if y0 = 0 then f_Query_readColon_81 (qh_m vv ww aa bb (nI K.length) 2 (if a = 19 then 0 else if a = 6 then 1 else if a = 2 then 2 else -1) 0 0 fa fl fn) 71 y0 1 (some 71) else f_Query_readColon_81 (qh_m vv ww aa bb (nI K.length) 2 (if a = 19 then 0 else if a = 6 then 1 else if a = 2 then 2 else -1) 0 0 fa fl fn) 71 y0 3 (some 71)) := fun y0 => by
            have ef := fn_A (g := qh_m vv ww aa bb (nI K.length) 2 (th_enc none) (nI [a].length) (lN a) fa fl fn) (a := a) (by omega)
            unfold f_Query_readColon_49
            unfold qh_m at ef ⊢
            simp only [gr_71_3, ob_s, gl_75_0, uw_s, ef, bd_s, pi_71_6, uq_6, is_75, gd_t, f_Letters_clear, pl_75, uw_u, pi_75_1, uq_n]
          have hff : ¬ c = 42 := by omega
          rw [if_neg hff, if_pos (show md = 1 ∧ c = 58 from ⟨hmd1, e58⟩)]
          have r3 : ∀ y, y < 3 → rq_q th (nI K.length) 1 (nI y) 0 0 fa fl fn (3, some y, [], K, L, xp) := fun y hy => by
            refine ⟨h6, rfl, rfl, by omega, hK, ?_, fun y' z => (by cases z; exact hy), fun _ => rfl, fun z => absurd z (by omega), fun z => absurd z (by omega), fun z => absurd z (by omega), fun _ => by simp⟩
            rw [if_neg (by omega)]; exact ⟨hL, rfl, rfl, ls_nil, rfl⟩
          by_cases e20 : a = 20
          · rw [if_pos (q20.mpr e20), r49, if_neg (by decide)]
            have hfn : fn_n [a] = some none := by rw [e20]; decide
            rw [hfn]
            unfold f_Query_readColon_81 f_Query_readColon_96 f_Query_readColon_101
            have hne : (if a = 19 then (0 : Int32) else if a = 6 then 1 else if a = 2 then 2 else -1) = -1 := by rw [if_neg (by omega), if_neg (by omega), if_neg (by omega)]
            rw [hne, ob_s]
            rw [show m_pI (qh_m vv ww aa bb (nI K.length) 2 (-1) 0 0 fa fl fn) 71 7 5 3 = some (qh_m vv ww aa bb (nI K.length) 3 (-1) 0 0 fa fl fn) from by unfold qh_m; rw [pi_71_5, uq_5], ob_s, if_neg (by decide), if_pos (by decide), bd_s, if_neg (by decide), if_pos (by decide)]
            refine ok_1 rfl ⟨h6, rfl, rfl, by omega, hK, ?_, fun y' z => (by cases z), fun _ => rfl, fun _ => rfl, fun z => absurd z (by omega), fun z => absurd z (by omega), fun z => absurd z (by omega)⟩
            rw [if_neg (by omega)]; exact ⟨hL, rfl, rfl, ls_nil, rfl⟩
          · rw [if_neg (fun z => e20 (q20.mp z)), r49, if_pos rfl]
            unfold f_Query_readColon_81 f_Query_readColon_96 f_Query_readColon_101
            rw [ob_s]
            have good : ∀ y, y < 3 → (if a = 19 then (0 : Int32) else if a = 6 then 1 else if a = 2 then 2 else -1) = nI y → fn_n [a] = some (some y) → ok_q vv ww aa bb th (m_bd ((m_pI (qh_m vv ww aa bb (nI K.length) 2 (if a = 19 then 0 else if a = 6 then 1 else if a = 2 then 2 else -1) 0 0 fa fl fn) 71 7 5 1).bind fun g_2 => if (0 : Int32) = 0 then (m_gI g_2 71 7 6).bind fun v_4 => if v_4 = -1 then (if (0 : Int32) = 0 ∨ (0 : Int32) = 1 then some ((0 : Int32), g_2) else none) else (if (1 : Int32) = 0 ∨ (1 : Int32) = 1 then some ((1 : Int32), g_2) else none) else (if (1 : Int32) = 0 ∨ (1 : Int32) = 1 then some ((1 : Int32), g_2) else none)) (fun (v_21 : Int32) g_20 => if v_21 = 0 then m_gd (m_is g_20 71 7) (m_bd (f_Query_readBehindWord g_20 71 (nI c) (some 76)) (fun v_24 g_23 => if v_24 = 0 then (if (0 : Int32) = 0 ∨ (0 : Int32) = 1 then some (0, g_23) else none) else (if (1 : Int32) = 0 ∨ (1 : Int32) = 1 then some (1, g_23) else none))) else (if (1 : Int32) = 0 ∨ (1 : Int32) = 1 then some (1, g_20) else none))) (match fn_n [a] with
                | none => none
                | some none => some (4, none, [], K, L, xp)
                | some (some f) => some (3, some f, [], K, L, xp)) := fun y hy z1 z2 => by
              rw [z1, z2]
              rw [show m_pI (qh_m vv ww aa bb (nI K.length) 2 (nI y) 0 0 fa fl fn) 71 7 5 1 = some (qh_m vv ww aa bb (nI K.length) 1 (nI y) 0 0 fa fl fn) from by unfold qh_m; rw [pi_71_5, uq_5], ob_s, if_pos rfl]
              rw [show m_gI (qh_m vv ww aa bb (nI K.length) 1 (nI y) 0 0 fa fl fn) 71 7 6 = some (nI y) from gi_71_6, ob_s, if_neg (fun z => nI_neg1 (show y < 2 ^ 31 by omega) z.symm), if_pos (by decide), bd_s, if_neg (by decide), if_pos (by decide)]
              exact ok_1 rfl (r3 y hy)
            by_cases e19 : a = 19
            · exact good 0 (by omega) (by rw [if_pos e19]; rfl) (by rw [e19]; decide)
            · by_cases e6 : a = 6
              · exact good 1 (by omega) (by rw [if_neg e19, if_pos e6]; rfl) (by rw [e6]; decide)
              · by_cases e2 : a = 2
                · exact good 2 (by omega) (by rw [if_neg e19, if_neg e6, if_pos e2]; rfl) (by rw [e2]; decide)
                · have hfn : fn_n [a] = none := by
                    unfold fn_n
                    rw [if_neg (fun z => e19 (by cases z; rfl)), if_neg (fun z => e6 (by cases z; rfl)), if_neg (fun z => e2 (by cases z; rfl)), if_neg (fun z => e20 (by cases z; rfl))]
                  rw [hfn, if_neg e19, if_neg e6, if_neg e2]
                  rw [show m_pI (qh_m vv ww aa bb (nI K.length) 2 (-1) 0 0 fa fl fn) 71 7 5 1 = some (qh_m vv ww aa bb (nI K.length) 1 (-1) 0 0 fa fl fn) from by unfold qh_m; rw [pi_71_5, uq_5], ob_s, if_pos rfl]
                  rw [show m_gI (qh_m vv ww aa bb (nI K.length) 1 (-1) 0 0 fa fl fn) 71 7 6 = some (-1) from gi_71_6, ob_s, if_pos rfl, if_pos (by decide), bd_s, if_pos rfl, is_q, gd_t]
                  obtain ⟨l', s', f', n', w', fa', fl', fn', e1⟩ := rj_A (vv := vv) (ww := ww) (aa := aa) (bb := bb) (s := 1) (n := 0) (w := 0) (fa := fa) (fl := fl) (fn := fn) hq h6 e58
                  rw [e1, bd_s, if_pos rfl, if_pos (by decide)]
                  exact ok_0 rfl
      · rw [if_neg (show ¬ nI ls.length = (1 : Int32) from nI_ne (b := 1) (by omega) (by omega) el1), bd_s, if_pos rfl, is_q, gd_t]
        exact behind (fun z => el1 (hm1 z.1).1)
    · rw [if_neg (show ¬ nI c = (58 : Int32) from nI_ne (b := 58) (by omega) (by omega) e58), bd_s, if_pos rfl, is_q, gd_t]
      exact behind (fun z => e58 z.2)
  · rw [if_neg e, bd_s, if_neg (by decide), if_pos (by decide), if_pos (by omega)]
    refine ok_1 rfl (rq_l (md := 2) h6 hK hL (Or.inr rfl) (wd_put_ok hls (by omega) h26) ?_ hf (fun z => absurd z (by omega)) (fun _ => ?_))
    · unfold wd_put
      by_cases z : ls.length < 12
      · rw [if_pos z, List.length_append, List.length_singleton]; omega
      · rw [if_neg z]; exact h1
    · left
      unfold wd_put
      by_cases z : ls.length < 12
      · rw [if_pos z, List.length_append, List.length_singleton]; omega
      · rw [if_neg z]; omega
theorem rc_A (hq : qm_ok vv aa bb wc cd dw fdl tg) {md : Nat} {fo : Option Nat} {ls : List Nat} (h : rq_q th l s f n w fa fl fn (md, fo, ls, K, L, xp)) {c : Nat} (hc : c < 256) : ok_q vv ww aa bb th (f_Query_readCharacter (qh_m vv ww aa bb l s f n w fa fl fn) 71 (nI c) (some 76)) (qs_n (qw_p cd dw fdl wc) (tp_b tg) md fo ls K L xp c) := by
  obtain ⟨h6, hl, hs, hmd, hK, hx, hf, hls, h0, h1, h2, h3⟩ := h
  have hcase : md = 0 ∨ md = 1 ∨ md = 2 ∨ md = 3 ∨ md = 4 ∨ md = 5 := by omega
  rcases hcase with rfl | rfl | rfl | rfl | rfl | rfl
  · rw [if_neg (by omega)] at hx
    obtain ⟨x1, x2, x3, x4, x5⟩ := hx
    have := hls (Or.inl rfl)
    subst this
    rw [h0 rfl] at x5 ⊢
    subst hl; subst hs; subst x2; subst x3; subst x5
    exact rc_0 h6 hK x1 hc
  · rw [if_neg (by omega)] at hx
    obtain ⟨x1, x2, x3, x4, x5⟩ := hx
    subst hl; subst hs; subst x2; subst x3; subst x5
    exact rc_12 hq h6 hK x1 (Or.inl rfl) x4 (by have := (h1 rfl).1; omega) (fun _ => h1 rfl) (fun z => absurd z (by omega)) hf hc
  · rw [if_neg (by omega)] at hx
    obtain ⟨x1, x2, x3, x4, x5⟩ := hx
    subst hl; subst hs; subst x2; subst x3; subst x5
    exact rc_12 hq h6 hK x1 (Or.inr rfl) x4 (h2 rfl).1 (fun z => absurd z (by omega)) (fun _ => (h2 rfl).2) hf hc
  · rw [if_neg (by omega)] at hx
    obtain ⟨x1, x2, x3, x4, x5⟩ := hx
    have := hls (Or.inr (Or.inl rfl))
    subst this
    subst hl; subst hs; subst x2; subst x3; subst x5
    exact rc_3 h6 hK x1 (h3 rfl) hf hc
  · rw [if_neg (by omega)] at hx
    obtain ⟨x1, x2, x3, x4, x5⟩ := hx
    subst hl; subst hs
    exact rc_4 hq h6 hK x1 hc
  · rw [if_pos rfl] at hx
    subst hl; subst hs
    exact rc_5 h6 hK hx hc
end QRC
