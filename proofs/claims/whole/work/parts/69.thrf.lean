/-! threads in the class (array 70) and in the reference (array 142) -/
def en_P (f : Nat → Int32) (P : Nat → Option Nat) : Prop := ∀ q, q < 64 → f q = th_enc (P q)
theorem enc_m1 {o : Option Nat} (h : ∀ y, o = some y → y < 64) : th_enc o = -1 ↔ o = none := by
  cases o with
  | none => simp [th_enc]
  | some y =>
    have := h y rfl
    constructor
    · intro e
      have h1 : (nI y).toInt = (-1 : Int32).toInt := by rw [show nI y = -1 from e]
      rw [nI_toInt (by omega)] at h1
      have h2 : (-1 : Int32).toInt = -1 := by decide
      omega
    · intro e; cases e
theorem enc_lt0 {o : Option Nat} (h : ∀ y, o = some y → y < 64) : th_enc o < 0 ↔ o = none := by
  cases o with
  | none => exact ⟨fun _ => rfl, fun _ => (by decide : (-1 : Int32) < 0)⟩
  | some y =>
    have := h y rfl
    exact ⟨fun e => absurd e (nI_pos (by omega)), fun e => by cases e⟩
theorem nI_inj {a b : Nat} (ha : a < 2 ^ 31) (hb : b < 2 ^ 31) (h : nI a = nI b) : a = b := (nI_eq ha hb).mp h
theorem en_up {f : Nat → Int32} {P : Nat → Option Nat} {x y : Nat} (h : en_P f P) : en_P (upd f x (nI y)) (va_up P x (some y)) := by
  intro q hq
  unfold upd va_up
  by_cases e : q = x
  · rw [if_pos e, if_pos e]; rfl
  · rw [if_neg e, if_neg e]; exact h q hq
section THA
variable {vv : hp_V} {ww : hp_W} {aa : hp_V} {bb : hp_B} {P : Nat → Option Nat}
theorem tA_clear : ∀ (fu k : Nat) (f : Nat → Int32), k ≤ 64 → 64 - k < fu → (∀ q, q < k → f q = -1) → ∃ f', (∀ q, q < 64 → f' q = -1) ∧ f_Threads_clear_2 fu (hp_mk vv ww (up_a aa 70 f) bb) 69 (nI k) = some ((), hp_mk vv ww (up_a aa 70 f') bb) := by
  intro fu
  induction fu with
  | zero => intro k f h1 h2; omega
  | succ fu ih =>
    intro k f h1 h2 h3
    rw [f_Threads_clear_2]
    by_cases hk : k = 64
    · subst hk
      exact ⟨f, h3, by rw [if_pos (show (64 : Int32) ≤ nI 64 from by decide)]⟩
    · rw [if_neg (show ¬ (64 : Int32) ≤ nI k from nI_ge (b := 64) (by omega) (by omega))]
      simp only [gr_69_0, ob_s, st_70 (show k < 64 by omega), ua_s, ua_u, nI_1]
      refine ih (k + 1) _ (by omega) (by omega) (fun q hq => ?_)
      unfold upd
      by_cases e : q = k
      · rw [if_pos e]
      · rw [if_neg e]; exact h3 q (by omega)
theorem tA_ring (hP : th_ok P) (h : en_P (aa 70) P) {x : Nat} (hx : x < 64) : ∀ (fu s : Nat) (o : Option Nat), s ≤ 64 → 64 - s < fu → (∀ y, o = some y → y < 64) → f_Threads_makesRing_5 fu (hp_mk vv ww aa bb) 69 (nI x) (th_enc o) (nI s) = some (iB (match o with | none => false | some q => th_up P (64 - s) x q), hp_mk vv ww aa bb) := by
  intro fu
  induction fu with
  | zero => intro s o h1 h2; omega
  | succ fu ih =>
    intro s o h1 h2 h3
    rw [f_Threads_makesRing_5]
    unfold f_Threads_makesRing_37
    by_cases hs : s = 64
    · subst hs
      rw [if_pos (show (64 : Int32) ≤ nI 64 from by decide)]
      cases o <;> rfl
    · rw [if_neg (show ¬ (64 : Int32) ≤ nI s from nI_ge (b := 64) (by omega) (by omega))]
      cases o with
      | none => rw [if_pos (show th_enc none = -1 from rfl)]; rfl
      | some q =>
        have hq := h3 q rfl
        rw [if_neg (fun e => by have := (enc_m1 h3).mp e; cases this)]
        show (if nI q = nI x then _ else _) = _
        rw [show 64 - s = (63 - s) + 1 by omega]
        unfold th_up
        by_cases e : q = x
        · subst e
          rw [if_pos rfl]; simp [iB]
        · rw [if_neg (fun z => e (nI_inj (by omega) (by omega) z))]
          have e2 : th_enc (some q) = nI q := rfl
          simp only [gr_69_0, ob_s, e2, ld_70 hq, h q hq, nI_1]
          rw [ih (s + 1) (P q) (by omega) (by omega) (fun y hy => (hP.1 _ _ hy).2), show 64 - (s + 1) = 63 - s by omega]
          simp only [if_neg e]
          cases P q <;> rfl
theorem tA_set (hP : th_ok P) (h : en_P (aa 70) P) {x y : Nat} (hx : x < 64) (hy : y < 64) : ∃ f', en_P f' (th_set P x y) ∧ f_Threads_setParent (hp_mk vv ww aa bb) 69 (nI x) (nI y) = some ((), hp_mk vv ww (up_a aa 70 f') bb) := by
  have e1 := tA_ring (vv := vv) (ww := ww) (bb := bb) hP h hx m_fu 0 (some y) (by omega) (by unfold m_fu; omega) (fun z hz => by cases hz; exact hy)
  have e2 : f_Threads_makesRing (hp_mk vv ww aa bb) 69 (nI x) (nI y) = some (iB (th_up P 64 x y), hp_mk vv ww aa bb) := e1
  unfold th_set
  by_cases hr : th_up P 64 x y = true
  · refine ⟨aa 70, by rw [if_pos hr]; exact h, ?_⟩
    simp only [f_Threads_setParent, is_69, gd_t, e2, bd_s, hr, f_Threads_setParent_16, ua_id]
    rfl
  · have hr2 : th_up P 64 x y = false := by simpa using hr
    refine ⟨upd (aa 70) x (nI y), by rw [if_neg hr]; exact en_up h, ?_⟩
    simp only [f_Threads_setParent, is_69, gd_t, e2, bd_s, hr2, f_Threads_setParent_16, gr_69_0, ob_s, st_70 hx]
    rfl
end THA
section THB
variable {vv : hp_V} {ww : hp_W} {aa : hp_V} {bb : hp_B} {P : Nat → Option Nat}
theorem tA_join_l (hP : th_ok P) {m rc id : Nat} {rf : Nat → Nat} (hm : m < 12) (hrc : rc ≤ 4) (hid : id < 64) (hrf : ∀ j, j < rc → rf j < 64) (h1 : vv (77 + 4 * m) 5 = nI rc) (h2 : vv (77 + 4 * m) 4 = nI id) (h3 : ∀ j, j < rc → aa (77 + 4 * m + 1) j = nI (rf j)) : ∀ (fu k : Nat) (f : Nat → Int32), 1 ≤ k → k ≤ rc → rc - k < fu → en_P f (th_refs rf (k - 1) P) →
    ∃ f', en_P f' (th_join id rc rf P) ∧ f_Threads_join_2 fu (hp_mk vv ww (up_a aa 70 f) bb) 69 (some (77 + 4 * m)) (nI k) = some ((), hp_mk vv ww (up_a aa 70 f') bb) := by
  intro fu
  induction fu with
  | zero => intro k f h4 h5 h6; omega
  | succ fu ih =>
    intro k f h4 h5 h6 hf
    have hn70 : 77 + 4 * m + 1 ≠ 70 := by omega
    have q1 : ∀ j, j < rc → m_ld (hp_mk vv ww (up_a aa 70 f) bb) (77 + 4 * m + 1) 0 (nI j) = some (nI (rf j)) := fun j hj => by
      rw [ld_n (sk_m1 hm) (show j < 4 by omega) (by omega), ua_n hn70, h3 j hj]
    rw [f_Threads_join_2]
    simp only [ob_s, gI_mk (isI_m hm (k := 5) (by omega) (by omega)), h1]
    by_cases hk : k = rc
    · subst hk
      have hsub : nI k - 1 = nI (k - 1) := by rw [show (1 : Int32) = nI 1 from rfl, pk_sub h4]
      obtain ⟨f', hf1, hf2⟩ := tA_set (vv := vv) (ww := ww) (aa := up_a aa 70 f) (bb := bb) (ok_refs hP (rf := rf) (k - 1) (fun j hj => hrf j (by omega))) (by rw [ua_s]; exact hf) hid (hrf (k - 1) (by omega))
      refine ⟨f', ?_, ?_⟩
      · unfold th_join; rw [if_neg (by omega)]; exact hf1
      · rw [if_pos (nI_le (Nat.le_refl k) (by omega)), if_neg (show ¬ nI k ≤ (0 : Int32) from nI_nle (by omega) (by omega))]
        simp only [gI_mk (isI_m hm (k := 4) (by omega) (by omega)), ob_s, h2, gR_mk (ref_m hm (k := 0) (by omega)), Nat.add_zero, hsub, q1 (k - 1) (by omega), is_69, gd_t, hf2, bd_s, f_Threads_join_72, ua_u]
    · have hkr : k < rc := by omega
      have hsub : nI k - 1 = nI (k - 1) := by rw [show (1 : Int32) = nI 1 from rfl, pk_sub h4]
      rw [if_neg (nI_ge hkr (by omega))]
      have hok := ok_refs hP (rf := rf) (k - 1) (fun j hj => hrf j (by omega))
      have e70 : m_ld (hp_mk vv ww (up_a aa 70 f) bb) 70 0 (nI (rf k)) = some (th_enc (th_refs rf (k - 1) P (rf k))) := by
        rw [ld_70 (hrf k hkr), ua_s, hf _ (hrf k hkr)]
      simp only [gR_mk (ref_m hm (k := 0) (by omega)), ob_s, Nat.add_zero, q1 k hkr, gr_69_0, e70, hsub, q1 (k - 1) (by omega), is_69, gd_t, f_Threads_join_40, nI_1]
      by_cases hnone : th_refs rf (k - 1) P (rf k) = none
      · obtain ⟨f', hf1, hf2⟩ := tA_set (vv := vv) (ww := ww) (aa := up_a aa 70 f) (bb := bb) hok (by rw [ua_s]; exact hf) (hrf k hkr) (hrf (k - 1) (by omega))
        rw [if_pos ((enc_m1 (fun y hy => (hok.1 _ _ hy).2)).mpr hnone)]
        simp only [hf2, bd_s, ua_u]
        refine ih (k + 1) f' (by omega) (by omega) (by omega) ?_
        rw [show k + 1 - 1 = (k - 1) + 1 by omega]
        unfold th_refs
        rw [show k - 1 + 1 = k by omega, if_pos hnone]
        exact hf1
      · rw [if_neg (fun z => hnone ((enc_m1 (fun y hy => (hok.1 _ _ hy).2)).mp z))]
        refine ih (k + 1) f (by omega) (by omega) (by omega) ?_
        rw [show k + 1 - 1 = (k - 1) + 1 by omega]
        unfold th_refs
        rw [show k - 1 + 1 = k by omega, if_neg hnone]
        exact hf
theorem tA_join (hP : th_ok P) {m rc id : Nat} {rf : Nat → Nat} {f : Nat → Int32} (hm : m < 12) (hrc : rc ≤ 4) (hid : id < 64) (hrf : ∀ j, j < rc → rf j < 64) (h1 : vv (77 + 4 * m) 5 = nI rc) (h2 : vv (77 + 4 * m) 4 = nI id) (h3 : ∀ j, j < rc → aa (77 + 4 * m + 1) j = nI (rf j)) (hf : en_P f P) :
    ∃ f', en_P f' (th_join id rc rf P) ∧ f_Threads_join (hp_mk vv ww (up_a aa 70 f) bb) 69 (some (77 + 4 * m)) = some ((), hp_mk vv ww (up_a aa 70 f') bb) := by
  by_cases h0 : rc = 0
  · subst h0
    refine ⟨f, by unfold th_join; rw [if_pos rfl]; exact hf, ?_⟩
    unfold f_Threads_join m_fu
    rw [f_Threads_join_2]
    simp only [ob_s, gI_mk (isI_m hm (k := 5) (by omega) (by omega)), h1]
    rfl
  · exact tA_join_l hP hm hrc hid hrf h1 h2 h3 m_fu 1 f (by omega) (by omega) (by unfold m_fu; omega) hf
theorem tA_rejoin_l {mi rc : Nat → Nat} {rf : Nat → Nat → Nat} {od : List Nat} (ho : ∀ m ∈ od, m < 12 ∧ mi m < 64 ∧ rc m ≤ 4 ∧ (∀ j, j < rc m → rf m j < 64) ∧ vv (77 + 4 * m) 5 = nI (rc m) ∧ vv (77 + 4 * m) 4 = nI (mi m) ∧ ∀ j, j < rc m → aa (77 + 4 * m + 1) j = nI (rf m j)) (hl : vv 0 7 = nI od.length) (hlen : od.length ≤ 12) (h125 : ∀ k, k < od.length → aa 125 k = nI (od.getD k 0)) :
    ∀ (fu k : Nat) (f : Nat → Int32) (P : Nat → Option Nat), k ≤ od.length → od.length - k < fu → th_ok P → en_P f P → ∃ f', en_P f' ((od.drop k).foldl (fun P m => th_join (mi m) (rc m) (rf m) P) P) ∧ f_Arc_rejoinThreads_9 fu (hp_mk vv ww (up_a aa 70 f) bb) 0 (nI k) = some ((), hp_mk vv ww (up_a aa 70 f') bb) := by
  intro fu
  induction fu with
  | zero => intro k f P h1 h2; omega
  | succ fu ih =>
    intro k f P h1 h2 hP hf
    rw [f_Arc_rejoinThreads_9]
    simp only [gi_0_7, ob_s, hl]
    by_cases hk : k = od.length
    · subst hk
      rw [if_pos (nI_le (Nat.le_refl _) (by omega)), List.drop_length]
      exact ⟨f, hf, rfl⟩
    · have hk2 : k < od.length := by omega
      rw [if_neg (nI_ge hk2 (by omega))]
      have hd : od.drop k = od.getD k 0 :: od.drop (k + 1) := by
        rw [List.drop_eq_getElem_cons hk2]; simp [hk2]
      have hmem : od.getD k 0 ∈ od := by
        have : od.getD k 0 = od[k] := by simp [hk2]
        rw [this]; exact List.getElem_mem hk2
      obtain ⟨g1, g2, g3, g4, g5, g6, g7⟩ := ho _ hmem
      obtain ⟨f', hf1, hf2⟩ := tA_join (vv := vv) (ww := ww) (aa := aa) (bb := bb) hP g1 g3 g2 g4 g5 g6 g7 hf
      have e125 : m_ld (hp_mk vv ww (up_a aa 70 f) bb) 125 0 (nI k) = some (nI (od.getD k 0)) := by
        rw [ld_125 (by omega), ua_n (by omega), h125 k hk2]
      simp only [gr_0_3, gr_0_5, gr_0_6, ob_s, e125, ldR_76 g1, is_69, gd_t, hf2, bd_s, nI_1]
      rw [hd, List.foldl_cons]
      exact ih (k + 1) f' _ (by omega) (by omega) (ok_join hP g2 g4) hf1
theorem tA_rejoin {mi rc : Nat → Nat} {rf : Nat → Nat → Nat} {od : List Nat} (ho : ∀ m ∈ od, m < 12 ∧ mi m < 64 ∧ rc m ≤ 4 ∧ (∀ j, j < rc m → rf m j < 64) ∧ vv (77 + 4 * m) 5 = nI (rc m) ∧ vv (77 + 4 * m) 4 = nI (mi m) ∧ ∀ j, j < rc m → aa (77 + 4 * m + 1) j = nI (rf m j)) (hl : vv 0 7 = nI od.length) (hlen : od.length ≤ 12) (h125 : ∀ k, k < od.length → aa 125 k = nI (od.getD k 0)) :
    ∃ f', en_P f' (th_all mi rc rf od) ∧ f_Arc_rejoinThreads (hp_mk vv ww aa bb) 0 = some ((), hp_mk vv ww (up_a aa 70 f') bb) := by
  obtain ⟨f0, h1, h2⟩ := tA_clear (vv := vv) (ww := ww) (aa := aa) (bb := bb) m_fu 0 (aa 70) (by omega) (by unfold m_fu; omega) (fun q hq => by omega)
  rw [ua_id] at h2
  obtain ⟨f', h3, h4⟩ := tA_rejoin_l (ww := ww) (bb := bb) ho hl hlen h125 m_fu 0 f0 (fun _ => none) (by omega) (by unfold m_fu; omega) ok_nil (fun q hq => h1 q hq)
  refine ⟨f', h3, ?_⟩
  have h2' : f_Threads_clear (hp_mk vv ww aa bb) 69 = some ((), hp_mk vv ww (up_a aa 70 f0) bb) := h2
  simp only [f_Arc_rejoinThreads, gr_0_3, ob_s, is_69, gd_t, h2', bd_s]
  exact h4
theorem tA_top (hP : th_ok P) (h : en_P (aa 70) P) : ∀ (fu s q : Nat), s ≤ 64 → 64 - s < fu → q < 64 → f_Threads_topOf_4 fu (hp_mk vv ww aa bb) 69 (nI q) (nI s) = some (nI (th_top P (64 - s) q), hp_mk vv ww aa bb) := by
  intro fu
  induction fu with
  | zero => intro s q h1 h2; omega
  | succ fu ih =>
    intro s q h1 h2 hq
    rw [f_Threads_topOf_4]
    unfold f_Threads_topOf_33
    by_cases hs : s = 64
    · subst hs
      rw [if_pos (show (64 : Int32) ≤ nI 64 from by decide)]
      rfl
    · rw [if_neg (show ¬ (64 : Int32) ≤ nI s from nI_ge (b := 64) (by omega) (by omega)), show 64 - s = (63 - s) + 1 by omega]
      simp only [gr_69_0, ob_s, ld_70 hq, h q hq, nI_1]
      unfold th_top
      cases hp : P q with
      | none => rw [if_pos (show th_enc none = -1 from rfl)]
      | some y =>
        have hy := (hP.1 _ _ hp).2
        rw [if_neg (fun e => by have := (enc_m1 (o := some y) (fun z hz => by cases hz; exact hy)).mp e; cases this)]
        have := ih (s + 1) y (by omega) (by omega) hy
        rw [show 64 - (s + 1) = 63 - s by omega] at this
        exact this
end THB
