/-! search: which messages have a word, a tag -/
def mk_b (pf : Bool) (cd : Nat → Nat → Int64) (dw : Nat → Nat → List Nat) (v : Int64) (es : List Nat) (m k : Nat) : Bool := if pf = true then pb_b (dw m k) es else decide (cd m k = v)
def fk_b (fo : Option Nat) (y : Int32) : Bool := match fo with
  | none => true
  | some f => decide (y = nI f)
def wk_b (pf : Bool) (cd : Nat → Nat → Int64) (dw : Nat → Nat → List Nat) (v : Int64) (es : List Nat) (fo : Option Nat) (fl : Nat → Nat → Int32) (m k : Nat) : Bool := fk_b fo (fl m k) && mk_b pf cd dw v es m k
def wp_b (pf : Bool) (cd : Nat → Nat → Int64) (dw : Nat → Nat → List Nat) (v : Int64) (es : List Nat) (fo : Option Nat) (fl : Nat → Nat → Int32) (wc : Nat → Nat) (m : Nat) : Bool := ex_n (wk_b pf cd dw v es fo fl m) (wc m)
def wk_ok (wc : Nat → Nat) (cd : Nat → Nat → Int64) (dw : Nat → Nat → List Nat) : Prop := ∀ m, m < 12 → wc m ≤ 50 ∧ ∀ k, k < wc m → cw_ok (dw m k) ∧ cd m k = lN (cw_val (dw m k))
theorem ex_s {r : Nat → Bool} {k : Nat} : ex_n r (k + 1) = (ex_n r k || r k) := rfl
section MTA
variable {vv : hp_V} {ww : hp_W} {aa : hp_V} {bb : hp_B} {wc : Nat → Nat} {cd : Nat → Nat → Int64} {dw : Nat → Nat → List Nat} {fl : Nat → Nat → Int32} {th : Nat → Bool} {tg : Nat → Int32}
variable {pf : Bool} {v : Int64} {es : List Nat} {fo : Option Nat}
theorem hm_A (hw : wk_ok wc cd dw) (hv : pf = true → cw_ok es ∧ v = lN (cw_val es)) (hf : ∀ f, fo = some f → f < 3) {m : Nat} (hm : m < 12) (h6 : vv (77 + 4 * m) 6 = nI (wc m)) (hb : ∀ k, k < wc m → bb (77 + 4 * m + 2) k = cd m k ∧ aa (77 + 4 * m + 3) k = fl m k) : ∀ (fu k : Nat), k ≤ wc m → wc m - k < fu → ex_n (wk_b pf cd dw v es fo fl m) k = false → f_Message_hasMatch_3 fu (hp_mk vv ww aa bb) (77 + 4 * m) v (iB pf) (th_enc fo) (nI k) = some (iB (wp_b pf cd dw v es fo fl wc m), hp_mk vv ww aa bb) := by
  intro fu
  have h50 := (hw m hm).1
  induction fu with
  | zero => intro k h1 h2; omega
  | succ fu ih =>
    intro k h1 h2 h3
    rw [f_Message_hasMatch_3]
    simp only [gI_mk (isI_m hm (k := 6) (by omega) (by omega)), ob_s, h6]
    by_cases e : k = wc m
    · rw [e, if_pos (nI_le (Nat.le_refl _) (by omega))]
      unfold wp_b; rw [← e, h3]; rfl
    · have hk : k < wc m := by omega
      obtain ⟨hb1, hb2⟩ := hb k hk
      rw [if_neg (nI_ge hk (by omega))]
      have next : wk_b pf cd dw v es fo fl m k = false → f_Message_hasMatch_3 fu (hp_mk vv ww aa bb) (77 + 4 * m) v (iB pf) (th_enc fo) (nI (k + 1)) = some (iB (wp_b pf cd dw v es fo fl wc m), hp_mk vv ww aa bb) := fun z => ih (k + 1) (by omega) (by omega) (by rw [ex_s, h3, z]; rfl)
      have hit : wk_b pf cd dw v es fo fl m k = true → wp_b pf cd dw v es fo fl wc m = true := fun z => (ex_iff _).mpr ⟨k, hk, z⟩
      have core : fk_b fo (fl m k) = true → f_Message_hasMatch_30 (f_Message_hasMatch_3 fu) (hp_mk vv ww aa bb) (77 + 4 * m) v (iB pf) (th_enc fo) (nI k) = some (iB (wp_b pf cd dw v es fo fl wc m), hp_mk vv ww aa bb) := fun z => by
        have e1 : m_ldL (hp_mk vv ww aa bb) (77 + 4 * m + 1 + 1) 2 (nI k) = some (cd m k) := by
          rw [show 77 + 4 * m + 1 + 1 = 77 + 4 * m + 2 from rfl, ldL_n (sk_m2 hm) (show k < 50 by omega) (by omega), hb1]
        have hk2 : wk_b pf cd dw v es fo fl m k = mk_b pf cd dw v es m k := by unfold wk_b; rw [z, Bool.true_and]
        unfold f_Message_hasMatch_30 f_Message_hasMatch_35 f_Message_hasMatch_75 f_Message_hasMatch_77
        rw [if_neg (show ¬ (1 : Int32) = 0 by decide)]
        simp only [gR_mk (ref_m hm (k := 1) (by omega)), ob_s, e1, nI_1]
        cases pf with
        | false =>
          rw [if_pos (show iB false = 0 from rfl)]
          by_cases q : cd m k = v
          · rw [if_pos (cmp_0.mpr q), hit (by rw [hk2]; exact decide_eq_true q)]; rfl
          · rw [if_neg (fun y => q (cmp_0.mp y))]
            exact next (by rw [hk2]; exact decide_eq_false q)
        | true =>
          rw [if_neg (show ¬ iB true = 0 by decide)]
          obtain ⟨w1, w2⟩ := hv rfl
          obtain ⟨w3, w4⟩ := (hw m hm).2 k hk
          rw [w4, w2, bw_C w3 w1, bd_s, ← w2]
          have hmk : mk_b true cd dw v es m k = pb_b (dw m k) es := rfl
          cases q : pb_b (dw m k) es with
          | false =>
            rw [if_pos (show iB false = 0 from rfl)]
            exact next (by rw [hk2, hmk, q])
          | true => rw [if_neg (show ¬ iB true = 0 by decide), hit (by rw [hk2, hmk, q])]; rfl
      cases fo with
      | none =>
        rw [if_pos (show th_enc none = -1 from rfl)]
        exact core rfl
      | some f =>
        have hf3 := hf f rfl
        rw [if_neg (show ¬ th_enc (some f) = -1 from fun z => nI_neg1 (show f < 2 ^ 31 by omega) z.symm)]
        have e2 : m_ld (hp_mk vv ww aa bb) (77 + 4 * m + 1 + 2) 0 (nI k) = some (fl m k) := by
          rw [show 77 + 4 * m + 1 + 2 = 77 + 4 * m + 3 from rfl, ld_n (sk_m3 hm) (show k < 50 by omega) (by omega), hb2]
        simp only [gR_mk (ref_m hm (k := 2) (by omega)), ob_s, e2]
        by_cases q : fl m k = nI f
        · rw [if_pos (show th_enc (some f) = fl m k from q.symm)]
          exact core (decide_eq_true q)
        · rw [if_neg (show ¬ th_enc (some f) = fl m k from fun z => q z.symm)]
          unfold f_Message_hasMatch_35 f_Message_hasMatch_77
          rw [if_pos rfl, nI_1]
          exact next (by unfold wk_b; rw [show fk_b (some f) (fl m k) = false from decide_eq_false q, Bool.false_and])
theorem bm_s {p : Nat → Bool} {k : Nat} : bm_n p (k + 1) = bm_n p k ||| (if p k = true then 2 ^ k else 0) := rfl
theorem ew_A (hw : wk_ok wc cd dw) (hv : pf = true → cw_ok es ∧ v = lN (cw_val es)) (hf : ∀ f, fo = some f → f < 3) (h75 : ww 75 = v) (h716 : vv 71 6 = th_enc fo) (h6 : ∀ m, m < 12 → vv (77 + 4 * m) 6 = nI (wc m) ∧ ∀ k, k < wc m → bb (77 + 4 * m + 2) k = cd m k ∧ aa (77 + 4 * m + 3) k = fl m k) : ∀ (fu k : Nat), k ≤ 12 → 12 - k < fu → f_Query_endWord_5 fu (hp_mk vv ww aa bb) 71 (some 76) (iB pf) (nI (bm_n (wp_b pf cd dw v es fo fl wc) k)) (nI k) = m_bd (f_Query_endOne (hp_mk vv ww aa bb) 71 (nI (bm_n (wp_b pf cd dw v es fo fl wc) 12))) (fun _ g => some ((), g)) := by
  intro fu
  induction fu with
  | zero => intro k h1 h2; omega
  | succ fu ih =>
    intro k h1 h2
    have hlen : m_len (hp_mk vv ww aa bb) 76 = some (nI 12) := len_mk (Or.inr sk_76) (by omega)
    rw [f_Query_endWord_5]
    simp only [ob_s, hlen]
    by_cases e : k = 12
    · subst e
      rw [if_pos (show nI 12 ≤ nI 12 by decide)]
      simp only [is_71, gd_t]
    · have hk : k < 12 := by omega
      rw [if_neg (nI_ge hk (by omega))]
      have hh : f_Message_hasMatch (hp_mk vv ww aa bb) (77 + 4 * k) v (iB pf) (th_enc fo) = some (iB (wp_b pf cd dw v es fo fl wc k), hp_mk vv ww aa bb) := hm_A hw hv hf hk (h6 k hk).1 (h6 k hk).2 m_fu 0 (by omega) (by have := (hw k hk).1; unfold m_fu; omega) rfl
      have hih := ih (k + 1) (by omega) (by omega)
      rw [bm_s] at hih
      unfold f_Query_endWord_41
      simp only [ldR_76 hk, ob_s, gr_71_3, gl_75_0, h75, gi_71_6, h716, is_m hk, gd_t, hh, bd_s, bi_shl (show k < 31 by omega), bi_or, nI_1]
      cases hb : wp_b pf cd dw v es fo fl wc k with
      | false =>
        rw [if_pos (show iB false = 0 from rfl)]
        rw [hb, if_neg (by decide), Nat.or_zero] at hih
        exact hih
      | true =>
        rw [if_neg (show ¬ iB true = 0 by decide)]
        rw [hb, if_pos rfl] at hih
        exact hih
theorem ww_in (hw : wk_ok wc cd dw) (hv : pf = true → cw_ok es ∧ v = lN (cw_val es)) (hf : ∀ f, fo = some f → f < 3) {m s : Nat} (hm : m < 12) (h9 : aa 139 m = nI (wc m)) (hb : ∀ k, k < wc m → bb 140 (50 * m + k) = cd m k ∧ aa 141 (50 * m + k) = fl m k) (kk : m_G → Nat → Int64 → Int32 → Int32 → Int32 → Int32 → Option (Int32 × m_G)) : ∀ (fu k : Nat), k ≤ wc m → wc m - k < fu → f_Mod_withWord_29 kk fu (hp_mk vv ww aa bb) 126 v (iB pf) (th_enc fo) (nI (s ||| (if ex_n (wk_b pf cd dw v es fo fl m) k = true then 2 ^ m else 0))) (nI m) (nI k) = kk (hp_mk vv ww aa bb) 126 v (iB pf) (th_enc fo) (nI (s ||| (if wp_b pf cd dw v es fo fl wc m = true then 2 ^ m else 0))) (nI (m + 1)) := by
  intro fu
  have h50 := (hw m hm).1
  induction fu with
  | zero => intro k h1 h2; omega
  | succ fu ih =>
    intro k h1 h2
    rw [f_Mod_withWord_29]
    simp only [gr_126_15, ob_s, ld_139 hm, h9]
    by_cases e : k = wc m
    · rw [e, if_pos (nI_le (Nat.le_refl _) (by omega))]
      unfold f_Mod_withWord_136
      rw [nI_1]; rfl
    · have hk : k < wc m := by omega
      obtain ⟨hb1, hb2⟩ := hb k hk
      rw [if_neg (nI_ge hk (by omega))]
      have e50 : (50 : Int32) * nI m + nI k = nI (50 * m + k) := by rw [show (50 : Int32) = nI 50 from rfl, pk_mul, nI_add]
      have hih := ih (k + 1) (by omega) (by omega)
      rw [ex_s] at hih
      have next : wk_b pf cd dw v es fo fl m k = false → f_Mod_withWord_29 kk fu (hp_mk vv ww aa bb) 126 v (iB pf) (th_enc fo) (nI (s ||| (if ex_n (wk_b pf cd dw v es fo fl m) k = true then 2 ^ m else 0))) (nI m) (nI (k + 1)) = kk (hp_mk vv ww aa bb) 126 v (iB pf) (th_enc fo) (nI (s ||| (if wp_b pf cd dw v es fo fl wc m = true then 2 ^ m else 0))) (nI (m + 1)) := fun z => by
        rw [z, Bool.or_false] at hih; exact hih
      have hit : wk_b pf cd dw v es fo fl m k = true → f_Mod_withWord_29 kk fu (hp_mk vv ww aa bb) 126 v (iB pf) (th_enc fo) (nI (s ||| (if ex_n (wk_b pf cd dw v es fo fl m) k = true then 2 ^ m else 0) ||| 2 ^ m)) (nI m) (nI (k + 1)) = kk (hp_mk vv ww aa bb) 126 v (iB pf) (th_enc fo) (nI (s ||| (if wp_b pf cd dw v es fo fl wc m = true then 2 ^ m else 0))) (nI (m + 1)) := fun z => by
        rw [z, Bool.or_true, if_pos rfl] at hih
        have hs : s ||| (if ex_n (wk_b pf cd dw v es fo fl m) k = true then 2 ^ m else 0) ||| 2 ^ m = s ||| 2 ^ m := by
          split
          · rw [Nat.or_assoc, Nat.or_self]
          · rw [Nat.or_zero]
        rw [hs]; exact hih
      have core : fk_b fo (fl m k) = true → f_Mod_withWord_64 kk (f_Mod_withWord_29 kk fu) (hp_mk vv ww aa bb) 126 v (iB pf) (th_enc fo) (nI (s ||| (if ex_n (wk_b pf cd dw v es fo fl m) k = true then 2 ^ m else 0))) (nI m) (nI k) = kk (hp_mk vv ww aa bb) 126 v (iB pf) (th_enc fo) (nI (s ||| (if wp_b pf cd dw v es fo fl wc m = true then 2 ^ m else 0))) (nI (m + 1)) := fun z => by
        have hk2 : wk_b pf cd dw v es fo fl m k = mk_b pf cd dw v es m k := by unfold wk_b; rw [z, Bool.true_and]
        unfold f_Mod_withWord_64 f_Mod_withWord_69 f_Mod_withWord_121 f_Mod_withWord_130
        rw [if_neg (show ¬ (1 : Int32) = 0 by decide)]
        simp only [gr_126_16, ob_s, e50, ld_140 (show 50 * m + k < 600 by omega), hb1, nI_1, bi_shl (show m < 31 by omega), bi_or]
        cases pf with
        | false =>
          rw [if_pos (show iB false = 0 from rfl)]
          by_cases q : cd m k = v
          · rw [if_pos (cmp_0.mpr q)]
            exact hit (by rw [hk2]; exact decide_eq_true q)
          · rw [if_neg (fun y => q (cmp_0.mp y))]
            exact next (by rw [hk2]; exact decide_eq_false q)
        | true =>
          rw [if_neg (show ¬ iB true = 0 by decide)]
          obtain ⟨w1, w2⟩ := hv rfl
          obtain ⟨w3, w4⟩ := (hw m hm).2 k hk
          have hbe : f_Mod_begins (hp_mk vv ww aa bb) (cd m k) v = some (iB (pb_b (dw m k) es), hp_mk vv ww aa bb) := by rw [w4, w2]; exact be_C w3 w1
          rw [hbe, bd_s]
          have hmk : mk_b true cd dw v es m k = pb_b (dw m k) es := rfl
          cases q : pb_b (dw m k) es with
          | false =>
            rw [if_pos (show iB false = 0 from rfl)]
            exact next (by rw [hk2, hmk, q])
          | true =>
            rw [if_neg (show ¬ iB true = 0 by decide)]
            exact hit (by rw [hk2, hmk, q])
      cases fo with
      | none =>
        rw [if_pos (show th_enc none < 0 by decide)]
        exact core rfl
      | some f =>
        have hf3 := hf f rfl
        rw [if_neg (show ¬ th_enc (some f) < 0 from nI_pos (by omega))]
        simp only [gr_126_17, ob_s, e50, ld_141 (show 50 * m + k < 600 by omega), hb2]
        by_cases q : fl m k = nI f
        · rw [if_pos (show fl m k = th_enc (some f) from q)]
          exact core (decide_eq_true q)
        · rw [if_neg (show ¬ fl m k = th_enc (some f) from q)]
          unfold f_Mod_withWord_69 f_Mod_withWord_130
          rw [if_pos rfl, nI_1]
          exact next (by unfold wk_b; rw [show fk_b (some f) (fl m k) = false from decide_eq_false q, Bool.false_and])
theorem ww_M (hw : wk_ok wc cd dw) (hv : pf = true → cw_ok es ∧ v = lN (cw_val es)) (hf : ∀ f, fo = some f → f < 3) (h : ∀ m, m < 12 → aa 132 m = iB (th m) ∧ aa 139 m = nI (wc m) ∧ ∀ k, k < wc m → bb 140 (50 * m + k) = cd m k ∧ aa 141 (50 * m + k) = fl m k) : f_Mod_withWord (hp_mk vv ww aa bb) 126 v (iB pf) (th_enc fo) = some (ms_p th (wp_b pf cd dw v es fo fl wc), hp_mk vv ww aa bb) := by
  have gen : ∀ (fu k : Nat), k ≤ 12 → 12 - k < fu → f_Mod_withWord_6 fu (hp_mk vv ww aa bb) 126 v (iB pf) (th_enc fo) (nI (bm_n (fun m => th m && wp_b pf cd dw v es fo fl wc m) k)) (nI k) = some (ms_p th (wp_b pf cd dw v es fo fl wc), hp_mk vv ww aa bb) := by
    intro fu
    induction fu with
    | zero => intro k h1 h2; omega
    | succ fu ih =>
      intro k h1 h2
      rw [f_Mod_withWord_6]
      by_cases e : k = 12
      · subst e
        rw [if_pos (show (12 : Int32) ≤ nI 12 by decide)]; rfl
      · have hk : k < 12 := by omega
        rw [if_neg (show ¬ (12 : Int32) ≤ nI k from nI_ge (b := 12) hk (by omega))]
        simp only [gr_126_7, ob_s, ld_132 hk, (h k hk).1]
        have hih := ih (k + 1) (by omega) (by omega)
        rw [bm_s] at hih
        cases hth : th k with
        | false =>
          rw [if_pos (show iB false = 0 from rfl)]
          unfold f_Mod_withWord_136
          rw [hth, Bool.false_and, if_neg (by decide), Nat.or_zero] at hih
          rw [nI_1]; exact hih
        | true =>
          rw [if_neg (show ¬ iB true = 0 by decide)]
          have hin := ww_in (vv := vv) (ww := ww) (s := bm_n (fun m => th m && wp_b pf cd dw v es fo fl wc m) k) hw hv hf hk (h k hk).2.1 (h k hk).2.2 (f_Mod_withWord_6 fu) m_fu 0 (by omega) (by have := (hw k hk).1; unfold m_fu; omega)
          have hin' : f_Mod_withWord_29 (f_Mod_withWord_6 fu) m_fu (hp_mk vv ww aa bb) 126 v (iB pf) (th_enc fo) (nI (bm_n (fun m => th m && wp_b pf cd dw v es fo fl wc m) k ||| 0)) (nI k) 0 = _ := hin
          rw [Nat.or_zero] at hin'
          rw [hin']
          rw [hth, Bool.true_and] at hih
          exact hih
  exact gen m_fu 0 (by omega) (by unfold m_fu; omega)
-- tags
def tp_b (tg : Nat → Int32) (d m : Nat) : Bool := decide (tg m >>> (nI d &&& 31) &&& 1 ≠ 0)
theorem one_01 (x : Int32) : x &&& 1 = 0 ∨ x &&& 1 = 1 := by
  cases h : bt x 0 with
  | false =>
    refine Or.inl (bt_ext (fun m hm => ?_))
    rw [bt_and, bt_0, show (1 : Int32) = nI 1 from rfl, bt_nI hm]
    cases m with
    | zero => rw [h]; rfl
    | succ m => rw [show Nat.testBit 1 (m + 1) = false by simp [Nat.testBit_succ], Bool.and_false]
  | true =>
    refine Or.inr (bt_ext (fun m hm => ?_))
    rw [bt_and, show (1 : Int32) = nI 1 from rfl, bt_nI hm]
    cases m with
    | zero => rw [h]; rfl
    | succ m => rw [show Nat.testBit 1 (m + 1) = false by simp [Nat.testBit_succ], Bool.and_false]
theorem tt_A {d : Nat} (h8 : ∀ m, m < 12 → vv (77 + 4 * m) 8 = tg m) : ∀ (fu k : Nat), k ≤ 12 → 12 - k < fu → f_Query_readTag_23 fu (hp_mk vv ww aa bb) 71 (some 76) (nI d) (nI (bm_n (tp_b tg d) k)) (nI k) = m_bd (f_Query_endOne (hp_mk vv ww aa bb) 71 (nI (bm_n (tp_b tg d) 12))) (fun _ g => some (1, g)) := by
  intro fu
  induction fu with
  | zero => intro k h1 h2; omega
  | succ fu ih =>
    intro k h1 h2
    have hlen : m_len (hp_mk vv ww aa bb) 76 = some (nI 12) := len_mk (Or.inr sk_76) (by omega)
    rw [f_Query_readTag_23]
    simp only [ob_s, hlen]
    by_cases e : k = 12
    · subst e
      rw [if_pos (show nI 12 ≤ nI 12 by decide)]
      simp only [is_71, gd_t]
    · have hk : k < 12 := by omega
      rw [if_neg (nI_ge hk (by omega))]
      have hih := ih (k + 1) (by omega) (by omega)
      rw [bm_s] at hih
      unfold f_Query_readTag_50 f_Message_hasTag f_Message_hasTag_16
      simp only [ldR_76 hk, ob_s, is_m hk, gd_t, gI_mk (isI_m hk (k := 8) (by omega) (by omega)), h8 k hk, bi_shl (show k < 31 by omega), bi_or, nI_1]
      by_cases q : tg k >>> (nI d &&& 31) &&& 1 = 0
      · rw [if_pos q, if_pos (by decide), bd_s, if_pos rfl]
        rw [show tp_b tg d k = false from decide_eq_false (fun z => z q), if_neg (by decide), Nat.or_zero] at hih
        exact hih
      · rw [if_neg q, if_pos (by decide), bd_s, if_neg (by decide)]
        rw [show tp_b tg d k = true from decide_eq_true q, if_pos rfl] at hih
        exact hih
theorem tt_M {d : Nat} (h : ∀ m, m < 12 → aa 132 m = iB (th m) ∧ aa 137 m = tg m) : f_Mod_withTag (hp_mk vv ww aa bb) 126 (nI d) = some (ms_p th (tp_b tg d), hp_mk vv ww aa bb) := by
  have gen : ∀ (fu k : Nat), k ≤ 12 → 12 - k < fu → f_Mod_withTag_4 fu (hp_mk vv ww aa bb) 126 (nI d) (nI (bm_n (fun m => th m && tp_b tg d m) k)) (nI k) = some (ms_p th (tp_b tg d), hp_mk vv ww aa bb) := by
    intro fu
    induction fu with
    | zero => intro k h1 h2; omega
    | succ fu ih =>
      intro k h1 h2
      rw [f_Mod_withTag_4]
      by_cases e : k = 12
      · subst e
        rw [if_pos (show (12 : Int32) ≤ nI 12 by decide)]; rfl
      · have hk : k < 12 := by omega
        rw [if_neg (show ¬ (12 : Int32) ≤ nI k from nI_ge (b := 12) hk (by omega))]
        have hih := ih (k + 1) (by omega) (by omega)
        rw [bm_s] at hih
        unfold f_Mod_withTag_39
        simp only [gr_126_7, ob_s, ld_132 hk, (h k hk).1, gr_126_13, ld_137 hk, (h k hk).2, bi_shl (show k < 31 by omega), bi_or, nI_1]
        cases hth : th k with
        | false =>
          rw [if_pos (show iB false = 0 from rfl)]
          rw [hth, Bool.false_and, if_neg (by decide), Nat.or_zero] at hih
          exact hih
        | true =>
          rw [if_neg (show ¬ iB true = 0 by decide)]
          rw [hth, Bool.true_and] at hih
          rcases one_01 (tg k >>> (nI d &&& 31)) with q | q
          · rw [if_neg (by rw [q]; decide)]
            rw [show tp_b tg d k = false from decide_eq_false (fun z => z q), if_neg (by decide), Nat.or_zero] at hih
            exact hih
          · rw [if_pos q]
            rw [show tp_b tg d k = true from decide_eq_true (by rw [q]; decide), if_pos rfl] at hih
            exact hih
  exact gen m_fu 0 (by omega) (by unfold m_fu; omega)
end MTA
