/-! count: the reference's different codes; count itself -/
section DIM
variable {vv : hp_V} {ww : hp_W} {aa : hp_V} {bb : hp_B} {wc : Nat → Nat} {cd : Nat → Nat → Int64} {th : Nat → Bool} {od : List Nat}
def fr_hit (th : Nat → Bool) (wc : Nat → Nat) (f : Nat → Int64) (x : Int64) (p : Nat) : Prop := th (p / 50) = true ∧ p % 50 < wc (p / 50) ∧ f p = x
theorem fr_l (hw : ∀ m, m < 12 → aa 132 m = iB (th m) ∧ aa 139 m = nI (wc m) ∧ wc m ≤ 50) {m k : Nat} (hm : m < 12) (hk : k < 50) : ∀ (fu p : Nat), p ≤ 50 * m + k → 50 * m + k - p < fu → (∀ q, q < p → ¬ fr_hit th wc (bb 140) (bb 140 (50 * m + k)) q) → ∃ b : Bool, (b = true ↔ ∀ q, q < 50 * m + k → ¬ fr_hit th wc (bb 140) (bb 140 (50 * m + k)) q) ∧ f_Mod_fresh_2 fu (hp_mk vv ww aa bb) 126 (nI m) (nI k) (nI p) = some (iB b, hp_mk vv ww aa bb) := by
  intro fu
  induction fu with
  | zero => intro p h1 h2; omega
  | succ fu ih =>
    intro p h1 h2 h3
    rw [f_Mod_fresh_2]
    have e50 : (50 : Int32) * nI m + nI k = nI (50 * m + k) := by rw [show (50 : Int32) = nI 50 from rfl, pk_mul, nI_add]
    rw [e50]
    by_cases hp : p = 50 * m + k
    · refine ⟨true, ⟨fun _ q hq => h3 q (by omega), fun _ => rfl⟩, ?_⟩
      rw [hp, if_pos (nI_le (Nat.le_refl _) (by omega))]; rfl
    · have hp2 : p < 50 * m + k := by omega
      have hd : p / 50 < 12 := by omega
      obtain ⟨w1, w2, w3⟩ := hw (p / 50) hd
      have ed : nI p / 50 = nI (p / 50) := pk_div (d := 50) (by omega) (by omega) (by omega)
      have er : nI p - nI p / 50 * 50 = nI (p % 50) := pk_rem (d := 50) (by omega) (by omega) (by omega)
      have hnext : ¬ fr_hit th wc (bb 140) (bb 140 (50 * m + k)) p → ∃ b : Bool, (b = true ↔ ∀ q, q < 50 * m + k → ¬ fr_hit th wc (bb 140) (bb 140 (50 * m + k)) q) ∧ f_Mod_fresh_2 fu (hp_mk vv ww aa bb) 126 (nI m) (nI k) (nI (p + 1)) = some (iB b, hp_mk vv ww aa bb) := fun hn => ih (p + 1) (by omega) (by omega) (fun q hq => by
        by_cases e : q = p
        · rw [e]; exact hn
        · exact h3 q (by omega))
      rw [if_neg (nI_ge hp2 (by omega)), er, ed]
      unfold f_Mod_fresh_63
      simp only [gr_126_7, gr_126_15, gr_126_16, ob_s, ld_132 hd, w1, ld_139 hd, w2, ld_140 (show p < 600 by omega), ld_140 (show 50 * m + k < 600 by omega), nI_1, if_neg (show ¬ (50 : Int32) = 0 by decide)]
      cases ht : th (p / 50) with
      | false =>
        rw [if_pos (show iB false = 0 from rfl)]
        exact hnext (fun z => by rw [z.1] at ht; cases ht)
      | true =>
        rw [if_neg (show ¬ iB true = 0 by decide)]
        by_cases hq : wc (p / 50) ≤ p % 50
        · rw [if_pos (nI_le hq (by omega))]
          exact hnext (fun z => by have := z.2.1; omega)
        · rw [if_neg (nI_ge (by omega) (by omega))]
          by_cases hx : bb 140 p = bb 140 (50 * m + k)
          · rw [if_pos (cmp_0.mpr hx)]
            refine ⟨false, ⟨fun z => (by cases z), fun z => ?_⟩, rfl⟩
            exact absurd ⟨ht, by omega, hx⟩ (z p hp2)
          · rw [if_neg (fun z => hx (cmp_0.mp z))]
            exact hnext (fun z => hx z.2.2)
def cm_ok (aa : hp_V) (bb : hp_B) (th : Nat → Bool) (wc : Nat → Nat) (cd : Nat → Nat → Int64) : Prop := ∀ m, m < 12 → aa 132 m = iB (th m) ∧ aa 139 m = nI (wc m) ∧ wc m ≤ 50 ∧ ∀ j, j < wc m → bb 140 (50 * m + j) = cd m j
def pr_l (th : Nat → Bool) (m : Nat) : List Nat := (List.range m).filter th
theorem pr_s {th : Nat → Bool} {m : Nat} : pr_l th (m + 1) = if th m = true then pr_l th m ++ [m] else pr_l th m := by
  unfold pr_l
  rw [List.range_succ, List.filter_append]
  by_cases h : th m = true
  · rw [if_pos h]; simp [h]
  · rw [if_neg h]; simp [h]
theorem pr_mem {th : Nat → Bool} {m a : Nat} : a ∈ pr_l th m ↔ a < m ∧ th a = true := by
  unfold pr_l; simp [List.mem_filter]
theorem fr_in (h : cm_ok aa bb th wc cd) {m k : Nat} (hm : m < 12) (hth : th m = true) (hk : k < wc m) : cd m k ∈ dd_l ((pr_l th m).flatMap (cs_l wc cd) ++ (cs_l wc cd m).take k) ↔ ¬ ∀ q, q < 50 * m + k → ¬ fr_hit th wc (bb 140) (bb 140 (50 * m + k)) q := by
  have hx : bb 140 (50 * m + k) = cd m k := (h m hm).2.2.2 k hk
  have hwm := (h m hm).2.2.1
  rw [dd_mem, List.mem_append, cs_tmem (by omega), List.mem_flatMap, hx]
  constructor
  · rintro (⟨a, a1, a2⟩ | ⟨j, a1, a2⟩) hn
    · obtain ⟨a3, a4⟩ := pr_mem.mp a1
      have hwa := (h a (by omega)).2.2.1
      unfold cs_l at a2
      obtain ⟨j, j1, j2⟩ := List.mem_map.mp a2
      have j3 := List.mem_range.mp j1
      have ed : (50 * a + j) / 50 = a := by omega
      have er : (50 * a + j) % 50 = j := by omega
      refine hn (50 * a + j) (by omega) ⟨by rw [ed]; exact a4, by rw [ed, er]; exact j3, ?_⟩
      rw [(h a (by omega)).2.2.2 j j3]; exact j2
    · have ed : (50 * m + j) / 50 = m := by omega
      have er : (50 * m + j) % 50 = j := by omega
      refine hn (50 * m + j) (by omega) ⟨by rw [ed]; exact hth, by rw [ed, er]; omega, ?_⟩
      rw [(h m hm).2.2.2 j (by omega)]; exact a2
  · intro hn
    apply Classical.byContradiction
    intro hc
    refine hn (fun q hq hit => ?_)
    obtain ⟨t1, t2, t3⟩ := hit
    have hqa : q / 50 < 12 := by omega
    have hq2 : 50 * (q / 50) + q % 50 = q := Nat.div_add_mod q 50
    have hval := (h (q / 50) hqa).2.2.2 (q % 50) t2
    rw [hq2] at hval
    by_cases e : q / 50 = m
    · refine hc (Or.inr ⟨q % 50, by omega, ?_⟩)
      rw [← e, ← hval]; exact t3.trans (by rw [e])
    · refine hc (Or.inl ⟨q / 50, pr_mem.mpr ⟨by omega, t1⟩, ?_⟩)
      unfold cs_l
      exact List.mem_map.mpr ⟨q % 50, List.mem_range.mpr t2, by rw [← hval]; exact t3⟩
theorem df_inner (h : cm_ok aa bb th wc cd) {m : Nat} (hm : m < 12) (hth : th m = true) (kk : m_G → Nat → Int32 → Int32 → Option (Int32 × m_G)) : ∀ (fu k : Nat), k ≤ wc m → wc m - k < fu →
    f_Mod_different_24 kk fu (hp_mk vv ww aa bb) 126 (nI (dd_l ((pr_l th m).flatMap (cs_l wc cd) ++ (cs_l wc cd m).take k)).length) (nI m) (nI k) = kk (hp_mk vv ww aa bb) 126 (nI (dd_l ((pr_l th (m + 1)).flatMap (cs_l wc cd))).length) (nI (m + 1)) := by
  have hwm := (h m hm).2.2.1
  intro fu
  induction fu with
  | zero => intro k h1 h2; omega
  | succ fu ih =>
    intro k h1 h2
    rw [f_Mod_different_24]
    simp only [gr_126_15, ob_s, ld_139 hm, (h m hm).2.1]
    by_cases hk : k = wc m
    · rw [hk, if_pos (nI_le (Nat.le_refl _) (by omega))]
      unfold f_Mod_different_52
      rw [nI_1, pr_s, if_pos hth, List.flatMap_append, List.flatMap_singleton, List.take_of_length_le (l := cs_l wc cd m) (by unfold cs_l; rw [List.length_map, List.length_range]; exact Nat.le_refl _)]
    · have hk2 : k < wc m := by omega
      rw [if_neg (nI_ge hk2 (by omega))]
      obtain ⟨b, hb1, hb2⟩ := fr_l (vv := vv) (ww := ww) (aa := aa) (bb := bb) (th := th) (wc := wc) (fun a ha => ⟨(h a ha).1, (h a ha).2.1, (h a ha).2.2.1⟩) hm (show k < 50 by omega) m_fu 0 (by omega) (by unfold m_fu; omega) (fun q hq => by omega)
      have hb3 : f_Mod_fresh (hp_mk vv ww aa bb) 126 (nI m) (nI k) = some (iB b, hp_mk vv ww aa bb) := hb2
      have hih := ih (k + 1) (by omega) (by omega)
      rw [cs_take hk2, ← List.append_assoc, dd_app] at hih
      have hin := fr_in h hm hth hk2
      unfold f_Mod_different_46
      simp only [is_126, gd_t, hb3, bd_s, nI_1]
      cases b with
      | true =>
        rw [if_neg (show ¬ iB true = 0 by decide)]
        rw [if_neg (fun z => hin.mp z (hb1.mp rfl)), List.length_append, List.length_singleton] at hih
        exact hih
      | false =>
        rw [if_pos (show iB false = 0 from rfl)]
        rw [if_pos (hin.mpr (fun z => by have := hb1.mpr z; cases this))] at hih
        exact hih
theorem cM_diff (h : cm_ok aa bb th wc cd) : f_Mod_different (hp_mk vv ww aa bb) 126 = some (nI (dd_l ((pr_l th 12).flatMap (cs_l wc cd))).length, hp_mk vv ww aa bb) := by
  have gen : ∀ (fu k : Nat), k ≤ 12 → 12 - k < fu → f_Mod_different_4 fu (hp_mk vv ww aa bb) 126 (nI (dd_l ((pr_l th k).flatMap (cs_l wc cd))).length) (nI k) = some (nI (dd_l ((pr_l th 12).flatMap (cs_l wc cd))).length, hp_mk vv ww aa bb) := by
    intro fu
    induction fu with
    | zero => intro k h1 h2; omega
    | succ fu ih =>
      intro k h1 h2
      rw [f_Mod_different_4]
      by_cases hk : k = 12
      · subst hk
        rw [if_pos (show (12 : Int32) ≤ nI 12 from by decide)]
      · have hk2 : k < 12 := by omega
        rw [if_neg (show ¬ (12 : Int32) ≤ nI k from nI_ge (b := 12) hk2 (by omega))]
        simp only [gr_126_7, ob_s, ld_132 hk2, (h k hk2).1]
        have hih := ih (k + 1) (by omega) (by omega)
        cases ht : th k with
        | false =>
          rw [if_pos (show iB false = 0 from rfl)]
          unfold f_Mod_different_52
          rw [pr_s, if_neg (by rw [ht]; decide)] at hih
          rw [nI_1]
          exact hih
        | true =>
          rw [if_neg (show ¬ iB true = 0 by decide)]
          have e1 := df_inner (vv := vv) (ww := ww) h hk2 ht (f_Mod_different_4 fu) m_fu 0 (by omega) (by have := (h k hk2).2.2.1; unfold m_fu; omega)
          rw [List.take_zero, List.append_nil] at e1
          exact e1.trans hih
  exact gen m_fu 0 (by omega) (by unfold m_fu; omega)
end DIM
theorem nd_leN : ∀ (A B : List Nat), A.Nodup → (∀ x, x ∈ A → x ∈ B) → A.length ≤ B.length := by
  intro A
  induction A with
  | nil => intro B _ _; exact Nat.zero_le _
  | cons a A ih =>
    intro B h hs
    have ha := hs a List.mem_cons_self
    have hn := List.nodup_cons.mp h
    have := ih (B.erase a) hn.2 (fun x hx => (List.mem_erase_of_ne (by intro e; subst e; exact hn.1 hx)).mpr (hs x (List.mem_cons_of_mem _ hx)))
    rw [List.length_erase_of_mem ha] at this
    have hp : 0 < B.length := List.length_pos_of_mem ha
    simp only [List.length_cons]
    omega
theorem od_bn {th : Nat → Bool} {od : List Nat} (hn : od.Nodup) (hm : ∀ m, m ∈ od ↔ m < 12 ∧ th m = true) : od.length = bn_n (bm_n th 12) 12 := by
  have h1 : ∀ k, k ≤ 12 → (pr_l th k).length = bn_n (bm_n th 12) k := by
    intro k
    induction k with
    | zero => intro _; rfl
    | succ k ih =>
      intro hk
      rw [pr_s, bn_s, ← ih (by omega), bm_bit, decide_eq_true (show k < 12 by omega), Bool.true_and]
      cases th k <;> simp
  have hnd : (pr_l th 12).Nodup := by unfold pr_l; exact List.Pairwise.filter _ List.nodup_range
  rw [← h1 12 (Nat.le_refl _)]
  exact Nat.le_antisymm (nd_leN _ _ hn (fun x hx => pr_mem.mpr ((hm x).mp hx))) (nd_leN _ _ hnd (fun x hx => (hm x).mpr (pr_mem.mp hx)))
theorem op_count (i : Nat) (hi : i ≤ 2048) (x : Int32) : op_two (Inv_g i) (Inv_g (i + 4)) (fun g => f_Arc_count g 0 x) (fun g => f_Mod_count g 126 x) := by
  refine op_do (fun vv ww aa bb ln lc dn DL DC th mi rc rf wc cd fl lv tg od mo ad fd ep hz => ?_)
  have hA := hz.2.2.2.1.1
  have hM := hz.2.2.2.1.2.1
  have hX := hz.2.2.2.1.2.2
  have hO := hz.2.2.2.2.1.1
  obtain ⟨⟨m1, m2⟩, ⟨m3, m4⟩, m5⟩ := hz.2.2.2.2.2.2.1
  obtain ⟨l1, l2⟩ := hz.1.1
  obtain ⟨l3, l4⟩ := hz.1.2.1
  obtain ⟨d1, d2⟩ := hz.2.1.1
  obtain ⟨d3, d4⟩ := hz.2.1.2.1
  have hno : ∀ r, f_Arc_count (hp_mk vv ww aa bb) 0 x = some (r, hp_mk vv ww aa bb) → f_Mod_count (hp_mk vv ww aa bb) 126 x = some (r, hp_mk vv ww aa bb) → ∃ r v1 w1 a1 b1 v2 w2 a2 b2, (fun g => f_Arc_count g 0 x) (hp_mk vv ww aa bb) = some (r, hp_mk v1 w1 a1 b1) ∧ (fun g => f_Mod_count g 126 x) (hp_mk v1 w1 a1 b1) = some (r, hp_mk v2 w2 a2 b2) ∧ In_s (i + 4) v2 w2 a2 b2 := fun r h1 h2 =>
    ⟨r, vv, ww, aa, bb, vv, ww, aa, bb, h1, h2, _, _, _, _, _, _, _, _, _, _, _, _, _, _, _, _, _, _, _, inv_mono (by omega) hz⟩
  by_cases c0 : x = 0
  · refine hno (nI od.length) ?_ ?_
    · rw [f_Arc_count, if_pos c0]; simp only [gi_0_7, ob_s, hO.1]
    · rw [f_Mod_count, if_pos c0]
      simp only [is_126, gd_t, mM_pres (fun m hm => (hM m hm).1), bd_s, size_eq (show bm_n th 12 < 4096 from bm_lt 12), ← od_bn hX.2.2.1 hX.2.2.2]
  by_cases c1 : x = 1
  · refine hno (nI ln) ?_ ?_
    · rw [f_Arc_count, if_neg c0, if_pos c1]; simp only [gr_0_0, ob_s, gI_mk (isI_L isL_1), l1]
    · rw [f_Mod_count, if_neg c0, if_pos c1]
      have e1 : m_ld (hp_mk vv ww aa bb) 128 0 30 = some (aa 128 30) := ld_128 (k := 30) (by omega)
      simp only [gr_126_1, ob_s, e1, l3]
  by_cases c2 : x = 2
  · refine hno (nI dn) ?_ ?_
    · rw [f_Arc_count, if_neg c0, if_neg c1, if_pos c2]; simp only [gr_0_1, ob_s, gi_3_1, d1]
    · rw [f_Mod_count, if_neg c0, if_neg c1, if_pos c2]; simp only [gi_126_2, ob_s, d3]
  by_cases c3 : x = 3
  · refine hno (nI (bn_n fd 12)) ?_ ?_
    · rw [f_Arc_count, if_neg c0, if_neg c1, if_neg c2, if_pos c3]; simp only [gi_0_8, ob_s, m1, bc_eq m5, bd_s]
    · rw [f_Mod_count, if_neg c0, if_neg c1, if_neg c2, if_pos c3]; simp only [gi_126_20, ob_s, m3, size_eq m5, bd_s]
  by_cases c4 : x = 4
  · have hok := inv_ok hz
    obtain ⟨f', hf1, hf2⟩ := inv_link hi hz
    have hpar := hz.2.2.2.2.2.1
    obtain ⟨R, hR⟩ : ∃ R, R = rt_n (fun m => (bm_n th 12).testBit m) (fun m => th_top (th_all mi rc rf od) 64 (mi m)) 12 := ⟨_, rfl⟩
    have hR64 : R < 2 ^ 64 := by rw [hR]; exact rt_lt 12 (fun k hk => top_lt hok 64 _ (hX.1 k hk).1)
    have hR2 : rt_n th (fun m => th_top (th_all mi rc rf od) 64 (mi m)) 12 = R := by
      apply Nat.eq_of_testBit_eq
      intro q
      apply Bool.eq_iff_iff.mpr
      rw [hR, rt_bit, rt_bit]
      constructor
      · rintro ⟨k, a1, a2, a3⟩
        exact ⟨k, a1, by rw [bm_bit, decide_eq_true a1, a2]; rfl, a3⟩
      · rintro ⟨k, a1, a2, a3⟩
        rw [bm_bit, decide_eq_true a1, Bool.true_and] at a2
        exact ⟨k, a1, a2, a3⟩
    refine ⟨nI (bn_n R 64), vv, ww, aa, bb, vv, ww, up_a aa 142 f', bb, ?_, ?_, _, _, _, _, _, _, _, _, _, _, _, _, _, _, _, _, _, _, _, inv_142 f' (by omega) hz⟩
    · have e1 := mA_there (vv := vv) (ww := ww) (aa := aa) (bb := bb) hX.2.2.1 hX.2.2.2 hO
      have e2 := rA_roots (vv := vv) (ww := ww) (aa := aa) (bb := bb) (mi := mi) hok hpar (fun m hm => ⟨(hA m hm).2.1, (hX.1 m hm).1⟩) (show bm_n th 12 < 4096 from bm_lt 12)
      rw [← hR] at e2
      show f_Arc_count (hp_mk vv ww aa bb) 0 x = _
      rw [f_Arc_count, if_neg c0, if_neg c1, if_neg c2, if_neg c3, if_pos c4]
      simp only [is_0, gd_t, e1, bd_s, e2, pop_64 hR64]
    · have e3 := rM_roots_l (vv := vv) (ww := ww) (aa := up_a aa 142 f') (bb := bb) (mi := mi) (th := th) hok (by rw [ua_s]; exact hf1) (fun m hm => ⟨by rw [ua_n (by omega)]; exact (hM m hm).1, by rw [ua_n (by omega)]; exact (hM m hm).2.1, (hX.1 m hm).1⟩) m_fu 0 (by omega) (by unfold m_fu; omega)
      rw [hR2] at e3
      show f_Mod_count (hp_mk vv ww aa bb) 126 x = _
      rw [f_Mod_count, if_neg c0, if_neg c1, if_neg c2, if_neg c3, if_pos c4]
      have e4 : f_Mod_roots (hp_mk vv ww aa bb) 126 = some (nI (bn_n R 64), hp_mk vv ww (up_a aa 142 f') bb) := by
        simp only [f_Mod_roots, is_126, gd_t, hf2, bd_s]
        exact e3
      simp only [is_126, gd_t, e4, bd_s]
  by_cases c5 : x = 5
  · have h1 : ca_ok vv aa bb wc cd od := by
      refine ⟨fun m hm => ?_, od_len hX.2.2.1 hX.2.2.2, hO⟩
      have h12 := ((hX.2.2.2 m).mp hm).1
      exact ⟨h12, (hX.1 m h12).2.2.2.1, (hA m h12).2.2.2.1, fun j hj => ((hA m h12).2.2.2.2.2.2.2 j hj).1⟩
    have h2 : cm_ok aa bb th wc cd := fun m hm => ⟨(hM m hm).1, (hM m hm).2.2.2.1, (hX.1 m hm).2.2.2.1, fun j hj => ((hM m hm).2.2.2.2.2.2.2 j hj).1⟩
    have hlen : (dd_l ((pr_l th 12).flatMap (cs_l wc cd))).length = (dd_l (od.flatMap (cs_l wc cd))).length := dd_len (fun y => by
      rw [List.mem_flatMap, List.mem_flatMap]
      constructor
      · rintro ⟨a, a1, a2⟩; exact ⟨a, (hX.2.2.2 a).mpr (pr_mem.mp a1), a2⟩
      · rintro ⟨a, a1, a2⟩; exact ⟨a, pr_mem.mpr ((hX.2.2.2 a).mp a1), a2⟩)
    refine hno (nI (dd_l (od.flatMap (cs_l wc cd))).length) ?_ ?_
    · rw [f_Arc_count, if_neg c0, if_neg c1, if_neg c2, if_neg c3, if_neg c4, if_pos c5]; simp only [is_0, gd_t, cA_diff h1, bd_s]
    · rw [f_Mod_count, if_neg c0, if_neg c1, if_neg c2, if_neg c3, if_neg c4, if_pos c5]; simp only [is_126, gd_t, cM_diff h2, bd_s, hlen]
  by_cases cn : x < 0
  · refine hno (-1) ?_ ?_
    · rw [f_Arc_count, if_neg c0, if_neg c1, if_neg c2, if_neg c3, if_neg c4, if_neg c5, if_neg (Int32.not_le.mpr cn)]; rfl
    · rw [f_Mod_count, if_neg c0, if_neg c1, if_neg c2, if_neg c3, if_neg c4, if_neg c5, if_pos (Int32.lt_trans cn (by decide))]; rfl
  · obtain ⟨n, hn, rfl⟩ := nI_of cn
    have h6 : 6 ≤ n := by
      apply Classical.byContradiction
      intro h
      have : n = 0 ∨ n = 1 ∨ n = 2 ∨ n = 3 ∨ n = 4 ∨ n = 5 := by omega
      rcases this with rfl | rfl | rfl | rfl | rfl | rfl
      · exact c0 rfl
      · exact c1 rfl
      · exact c2 rfl
      · exact c3 rfl
      · exact c4 rfl
      · exact c5 rfl
    have hs : nI n - 6 = nI (n - 6) := pk_sub (b := 6) h6
    have hA1 : f_Arc_count (hp_mk vv ww aa bb) 0 (nI n) = m_bd (f_Arc_leavesOf (hp_mk vv ww aa bb) 0 (nI (n - 6))) (fun v g => some (v, g)) := by
      rw [f_Arc_count, if_neg c0, if_neg c1, if_neg c2, if_neg c3, if_neg c4, if_neg c5, if_pos (Int32.not_lt.mp cn), hs]
      simp only [is_0, gd_t]
      rfl
    have hM1 : f_Mod_count (hp_mk vv ww aa bb) 126 (nI n) = m_bd (f_Mod_noMessage (hp_mk vv ww aa bb) 126 (nI (n - 6))) (fun v_24 g_23 => if (v_24 : Int32) = 0 then
        (m_gR g_23 126 8 14).bind fun v_26 =>
        Option.bind v_26 fun a_27 =>
        (m_ld g_23 a_27 0 (nI (n - 6))).bind fun v_28 =>
        some (v_28, g_23)
      else some (-1, g_23)) := by
      rw [f_Mod_count, if_neg c0, if_neg c1, if_neg c2, if_neg c3, if_neg c4, if_neg c5, if_neg (show ¬ nI n < (6 : Int32) from nI_nlt (b := 6) h6 hn), hs]
      simp only [is_126, gd_t]
      rfl
    by_cases h12 : n - 6 < 12
    · have k1 := ar_msgAt (vv := vv) (ww := ww) (aa := aa) (bb := bb) h12 (hA _ h12).1
      have k2 := mo_noM (vv := vv) (ww := ww) (aa := aa) (bb := bb) h12 (hM _ h12).1
      cases ht : th (n - 6) with
      | false =>
        rw [ht] at k1 k2
        rw [if_neg (by decide)] at k1
        refine hno (-1) ?_ ?_
        · rw [hA1]; simp only [f_Arc_leavesOf, is_0, gd_t, k1, bd_s]; rfl
        · rw [hM1]; simp only [k2, bd_s]; rfl
      | true =>
        rw [ht] at k1 k2
        rw [if_pos rfl] at k1
        refine hno (nI (lv (n - 6))) ?_ ?_
        · rw [hA1]; simp only [f_Arc_leavesOf, is_0, gd_t, k1, bd_s, ob_s, gI_mk (isI_m h12 (k := 7) (by omega) (by omega)), (hA _ h12).2.2.2.2.1]; rfl
        · rw [hM1]; simp only [k2, bd_s, Bool.not_true, if_pos (show iB false = 0 from rfl), gr_126_14, ob_s, ld_138 h12, (hM _ h12).2.2.2.2.1]
    · have k1 := ar_msgAt_no (vv := vv) (ww := ww) (aa := aa) (bb := bb) (x := nI (n - 6)) (Or.inr (show nI 12 ≤ nI (n - 6) from nI_le (by omega) (by omega)))
      have k2 := mo_noM_no (vv := vv) (ww := ww) (aa := aa) (bb := bb) (x := nI (n - 6)) (Or.inr (show nI 12 ≤ nI (n - 6) from nI_le (by omega) (by omega)))
      refine hno (-1) ?_ ?_
      · rw [hA1]; simp only [f_Arc_leavesOf, is_0, gd_t, k1, bd_s]; rfl
      · rw [hM1]; simp only [k2, bd_s]; rfl
