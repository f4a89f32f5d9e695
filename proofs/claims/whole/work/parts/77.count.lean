/-! count: roots, different codes -/
theorem iB_or {a b : Bool} : iB (a || b) = if a = true then 1 else iB b := by cases a <;> simp [iB]
section CNT
variable {vv : hp_V} {ww : hp_W} {aa : hp_V} {bb : hp_B} {P : Nat → Option Nat} {mi : Nat → Nat} {th : Nat → Bool}
theorem rM_inner (hP : th_ok P) (h : en_P (aa 142) P) (hi : ∀ m, m < 12 → aa 132 m = iB (th m) ∧ aa 133 m = nI (mi m) ∧ mi m < 64) {x1 : Int32} {q : Nat} (hq : q < 64) (kk : m_G → Nat → Int32 → Int32 → Option (Int32 × m_G)) : ∀ (fu k : Nat), k ≤ 12 → 12 - k < fu → f_Mod_roots_19 kk fu (hp_mk vv ww aa bb) 126 x1 (nI q) (iB (ex_n (fun m => th m && decide (th_top P 64 (mi m) = q)) k)) (nI k) = f_Mod_roots_66 kk (hp_mk vv ww aa bb) 126 (if ex_n (fun m => th m && decide (th_top P 64 (mi m) = q)) 12 = true then x1 + 1 else x1) (nI q) := by
  intro fu
  induction fu with
  | zero => intro k h1 h2; omega
  | succ fu ih =>
    intro k h1 h2
    rw [f_Mod_roots_19]
    by_cases hk : k = 12
    · subst hk
      rw [if_pos (show (12 : Int32) ≤ nI 12 from by decide)]
      cases ex_n (fun m => th m && decide (th_top P 64 (mi m) = q)) 12 <;> simp [iB]
    · have hk2 : k < 12 := by omega
      obtain ⟨i1, i2, i3⟩ := hi k hk2
      rw [if_neg (show ¬ (12 : Int32) ≤ nI k from nI_ge (b := 12) hk2 (by omega))]
      have hih := ih (k + 1) (by omega) (by omega)
      rw [show ex_n (fun m => th m && decide (th_top P 64 (mi m) = q)) (k + 1) = (ex_n (fun m => th m && decide (th_top P 64 (mi m) = q)) k || (th k && decide (th_top P 64 (mi k) = q))) from rfl] at hih
      have t1 := tM_top (vv := vv) (ww := ww) (aa := aa) (bb := bb) hP h i3
      unfold f_Mod_roots_53
      simp only [gr_126_7, gr_126_8, ob_s, ld_132 hk2, i1, ld_133 hk2, i2, is_126, gd_t, t1, bd_s, nI_1]
      cases hth : th k with
      | false =>
        rw [if_pos (show iB false = 0 from rfl)]
        rw [hth, Bool.false_and, Bool.or_false] at hih
        exact hih
      | true =>
        rw [if_neg (show ¬ iB true = 0 by decide)]
        rw [hth, Bool.true_and] at hih
        by_cases e : th_top P 64 (mi k) = q
        · rw [if_pos (by rw [e])]
          rw [decide_eq_true e, Bool.or_true] at hih
          exact hih
        · rw [if_neg (fun z => e (nI_inj (by have := top_lt hP 64 _ i3; omega) (by omega) z))]
          rw [decide_eq_false e, Bool.or_false] at hih
          exact hih
theorem rM_roots_l (hP : th_ok P) (h : en_P (aa 142) P) (hi : ∀ m, m < 12 → aa 132 m = iB (th m) ∧ aa 133 m = nI (mi m) ∧ mi m < 64) : ∀ (fu k : Nat), k ≤ 64 → 64 - k < fu → f_Mod_roots_8 fu (hp_mk vv ww aa bb) 126 (nI (bn_n (rt_n th (fun m => th_top P 64 (mi m)) 12) k)) (nI k) = some (nI (bn_n (rt_n th (fun m => th_top P 64 (mi m)) 12) 64), hp_mk vv ww aa bb) := by
  intro fu
  induction fu with
  | zero => intro k h1 h2; omega
  | succ fu ih =>
    intro k h1 h2
    rw [f_Mod_roots_8]
    by_cases hk : k = 64
    · subst hk
      rw [if_pos (show (64 : Int32) ≤ nI 64 from by decide)]
    · have hk2 : k < 64 := by omega
      rw [if_neg (show ¬ (64 : Int32) ≤ nI k from nI_ge (b := 64) hk2 (by omega))]
      have e1 := rM_inner (vv := vv) (ww := ww) (aa := aa) (bb := bb) (x1 := nI (bn_n (rt_n th (fun m => th_top P 64 (mi m)) 12) k)) hP h hi hk2 (f_Mod_roots_8 fu) m_fu 0 (by omega) (by unfold m_fu; omega)
      have e2 : f_Mod_roots_19 (f_Mod_roots_8 fu) m_fu (hp_mk vv ww aa bb) 126 (nI (bn_n (rt_n th (fun m => th_top P 64 (mi m)) 12) k)) (nI k) 0 0 = _ := e1
      rw [e2]
      unfold f_Mod_roots_66
      have hih := ih (k + 1) (by omega) (by omega)
      rw [bn_s] at hih
      have hx : ex_n (fun m => th m && decide (th_top P 64 (mi m) = k)) 12 = (rt_n th (fun m => th_top P 64 (mi m)) 12).testBit k := by
        apply Bool.eq_iff_iff.mpr
        rw [ex_iff, rt_bit]
        constructor
        · rintro ⟨m, a1, a2⟩
          simp only [Bool.and_eq_true, decide_eq_true_eq] at a2
          exact ⟨m, a1, a2.1, a2.2⟩
        · rintro ⟨m, a1, a2, a3⟩
          exact ⟨m, a1, by simp [a2, a3]⟩
      rw [hx]
      cases hb : (rt_n th (fun m => th_top P 64 (mi m)) 12).testBit k with
      | true =>
        rw [if_pos rfl, nI_1, nI_1]
        rw [hb] at hih
        exact hih
      | false =>
        rw [if_neg (by decide), nI_1]
        rw [hb] at hih
        exact hih
end CNT
/-- the different ones of a row, in the order in which they come first -/
def dd_l (L : List Int64) : List Int64 := L.foldl (fun D x => if x ∈ D then D else D ++ [x]) []
theorem dd_app {L : List Int64} {x : Int64} : dd_l (L ++ [x]) = if x ∈ dd_l L then dd_l L else dd_l L ++ [x] := by unfold dd_l; rw [List.foldl_append]; rfl
theorem dd_mem_g : ∀ (L D : List Int64) (x : Int64), x ∈ L.foldl (fun D x => if x ∈ D then D else D ++ [x]) D ↔ x ∈ D ∨ x ∈ L := by
  intro L
  induction L with
  | nil => intro D x; simp
  | cons y L ih =>
    intro D x
    rw [List.foldl_cons, ih]
    by_cases h : y ∈ D
    · rw [if_pos h]
      constructor
      · rintro (h1 | h1)
        · exact Or.inl h1
        · exact Or.inr (List.mem_cons_of_mem _ h1)
      · rintro (h1 | h1)
        · exact Or.inl h1
        · rcases List.mem_cons.mp h1 with rfl | h2
          · exact Or.inl h
          · exact Or.inr h2
    · rw [if_neg h]
      simp only [List.mem_append, List.mem_singleton, List.mem_cons, List.not_mem_nil, or_false]
      constructor
      · rintro ((h1 | h1) | h1)
        · exact Or.inl h1
        · exact Or.inr (Or.inl h1)
        · exact Or.inr (Or.inr h1)
      · rintro (h1 | h1 | h1)
        · exact Or.inl (Or.inl h1)
        · exact Or.inl (Or.inr h1)
        · exact Or.inr h1
theorem dd_mem {L : List Int64} {x : Int64} : x ∈ dd_l L ↔ x ∈ L := by unfold dd_l; rw [dd_mem_g]; simp
theorem dd_nodup_g : ∀ (L D : List Int64), D.Nodup → (L.foldl (fun D x => if x ∈ D then D else D ++ [x]) D).Nodup := by
  intro L
  induction L with
  | nil => intro D h; exact h
  | cons y L ih =>
    intro D h
    rw [List.foldl_cons]
    apply ih
    by_cases hy : y ∈ D
    · rw [if_pos hy]; exact h
    · rw [if_neg hy]
      refine List.nodup_append.mpr ⟨h, by simp, fun a ha b hb => ?_⟩
      rw [List.mem_singleton.mp hb]
      exact fun e => hy (e ▸ ha)
theorem nd_le : ∀ (A B : List Int64), A.Nodup → (∀ x, x ∈ A → x ∈ B) → A.length ≤ B.length := by
  intro A
  induction A with
  | nil => intro B _ _; exact Nat.zero_le _
  | cons a A ih =>
    intro B h hs
    have ha := hs a List.mem_cons_self
    have hn := List.nodup_cons.mp h
    have := ih (B.erase a) hn.2 (fun x hx => (List.mem_erase_of_ne (by intro e; subst e; exact hn.1 hx)).mpr (hs x (List.mem_cons_of_mem _ hx)))
    rw [List.length_erase_of_mem ha] at this
    have hp : 0 < B.length := List.length_pos_of_mem ha
    simp only [List.length_cons]
    omega
theorem dd_len {A B : List Int64} (h : ∀ x, x ∈ A ↔ x ∈ B) : (dd_l A).length = (dd_l B).length := by
  have na : (dd_l A).Nodup := dd_nodup_g A [] List.nodup_nil
  have nb : (dd_l B).Nodup := dd_nodup_g B [] List.nodup_nil
  exact Nat.le_antisymm (nd_le _ _ na (fun x hx => dd_mem.mpr ((h x).mp (dd_mem.mp hx)))) (nd_le _ _ nb (fun x hx => dd_mem.mpr ((h x).mpr (dd_mem.mp hx))))
/-- the codes of a message -/
def cs_l (wc : Nat → Nat) (cd : Nat → Nat → Int64) (m : Nat) : List Int64 := (List.range (wc m)).map (cd m)
theorem cs_take {wc : Nat → Nat} {cd : Nat → Nat → Int64} {m k : Nat} (h : k < wc m) : (cs_l wc cd m).take (k + 1) = (cs_l wc cd m).take k ++ [cd m k] := by
  have hl : k < (cs_l wc cd m).length := by unfold cs_l; simpa using h
  rw [← List.take_append_getElem hl]
  congr 2
  simp [cs_l]
theorem cs_tmem {wc : Nat → Nat} {cd : Nat → Nat → Int64} {m k : Nat} {x : Int64} (h : k ≤ wc m) : x ∈ (cs_l wc cd m).take k ↔ ∃ j, j < k ∧ cd m j = x := by
  unfold cs_l
  rw [← List.map_take, List.take_range, Nat.min_eq_left h]
  simp only [List.mem_map, List.mem_range]
section DIF
variable {vv : hp_V} {ww : hp_W} {aa : hp_V} {bb : hp_B} {wc : Nat → Nat} {cd : Nat → Nat → Int64} {th : Nat → Bool} {od : List Nat}
theorem cA_before {m : Nat} (hm : m < 12) (hw : wc m ≤ 50) (hc : ∀ j, j < wc m → bb (77 + 4 * m + 2) j = cd m j) {e : Nat} (he : e ≤ wc m) {x : Int64} : ∀ (fu k : Nat), k ≤ e → e - k < fu → (∀ j, j < k → cd m j ≠ x) → ∃ b : Bool, (b = true ↔ ∃ j, j < e ∧ cd m j = x) ∧ f_Message_hasCodeBefore_3 fu (hp_mk vv ww aa bb) (77 + 4 * m) (nI e) x (nI k) = some (iB b, hp_mk vv ww aa bb) := by
  intro fu
  induction fu with
  | zero => intro k h1 h2; omega
  | succ fu ih =>
    intro k h1 h2 h3
    rw [f_Message_hasCodeBefore_3]
    by_cases hk : k = e
    · subst hk
      refine ⟨false, ⟨fun z => (by cases z), fun z => ?_⟩, ?_⟩
      · obtain ⟨j, a1, a2⟩ := z; exact absurd a2 (h3 j a1)
      · rw [if_pos (nI_le (Nat.le_refl _) (by omega))]; rfl
    · have hk2 : k < e := by omega
      rw [if_neg (nI_ge hk2 (by omega))]
      simp only [gR_mk (ref_m hm (k := 1) (by omega)), ob_s]
      have e1 : m_ldL (hp_mk vv ww aa bb) (77 + 4 * m + 1 + 1) 2 (nI k) = some (cd m k) := by
        rw [show 77 + 4 * m + 1 + 1 = 77 + 4 * m + 2 from rfl, ldL_n (sk_m2 hm) (show k < 50 by omega) (by omega), hc k (by omega)]
      simp only [e1, ob_s, nI_1]
      by_cases hq : cd m k = x
      · refine ⟨true, ⟨fun _ => ⟨k, hk2, hq⟩, fun _ => rfl⟩, ?_⟩
        rw [if_pos (cmp_0.mpr hq)]; rfl
      · rw [if_neg (fun z => hq (cmp_0.mp z))]
        exact ih (k + 1) (by omega) (by omega) (fun j hj => by
          by_cases e2 : j = k
          · rw [e2]; exact hq
          · exact h3 j (by omega))
/-- what the class has of its messages, for counting codes -/
def ca_ok (vv : hp_V) (aa : hp_V) (bb : hp_B) (wc : Nat → Nat) (cd : Nat → Nat → Int64) (od : List Nat) : Prop := (∀ m ∈ od, m < 12 ∧ wc m ≤ 50 ∧ vv (77 + 4 * m) 6 = nI (wc m) ∧ ∀ j, j < wc m → bb (77 + 4 * m + 2) j = cd m j) ∧ od.length ≤ 12 ∧ rA_ord vv aa od
theorem od_at {k : Nat} (h : k < od.length) : od.getD k 0 = od[k] ∧ od[k] ∈ od := ⟨by simp [h], List.getElem_mem h⟩
theorem cA_earlier (h : ca_ok vv aa bb wc cd od) {n : Nat} (hn : n ≤ od.length) {x : Int64} : ∀ (fu k : Nat), k ≤ n → n - k < fu → (∀ a ∈ od.take k, ∀ j, j < wc a → cd a j ≠ x) → ∃ b : Bool, (b = true ↔ ∃ a ∈ od.take n, ∃ j, j < wc a ∧ cd a j = x) ∧ f_Arc_isCodeEarlier_3 fu (hp_mk vv ww aa bb) 0 (nI n) x (nI k) = some (iB b, hp_mk vv ww aa bb) := by
  obtain ⟨g1, g2, g3⟩ := h
  intro fu
  induction fu with
  | zero => intro k h1 h2; omega
  | succ fu ih =>
    intro k h1 h2 h3
    rw [f_Arc_isCodeEarlier_3]
    by_cases hk : k = n
    · subst hk
      refine ⟨false, ⟨fun z => (by cases z), fun z => ?_⟩, ?_⟩
      · obtain ⟨a, a1, j, a2, a3⟩ := z; exact absurd a3 (h3 a a1 j a2)
      · rw [if_pos (nI_le (Nat.le_refl _) (by omega))]; rfl
    · have hk2 : k < n := by omega
      have hko : k < od.length := by omega
      obtain ⟨o1, o2⟩ := od_at hko
      obtain ⟨m1, m2, m3, m4⟩ := g1 _ o2
      rw [if_neg (nI_ge hk2 (by omega))]
      obtain ⟨b, hb1, hb2⟩ := cA_before (vv := vv) (ww := ww) (aa := aa) (bb := bb) (cd := cd) m1 m2 m4 (Nat.le_refl _) (x := x) m_fu 0 (by omega) (by unfold m_fu; omega) (fun j hj => by omega)
      have hb3 : f_Message_hasCodeBefore (hp_mk vv ww aa bb) (77 + 4 * od[k]) (nI (wc od[k])) x = some (iB b, hp_mk vv ww aa bb) := hb2
      simp only [gr_0_5, gr_0_6, ob_s, ld_125 (show k < 12 by omega), g3.2 k hko, o1, ldR_76 m1, gI_mk (isI_m m1 (k := 6) (by omega) (by omega)), m3, is_m m1, gd_t, hb3, bd_s, nI_1]
      have htk : od.take (k + 1) = od.take k ++ [od[k]] := (List.take_append_getElem hko).symm
      cases b with
      | true =>
        refine ⟨true, ⟨fun _ => ?_, fun _ => rfl⟩, ?_⟩
        · obtain ⟨j, a1, a2⟩ := hb1.mp rfl
          refine ⟨od[k], ?_, j, a1, a2⟩
          rw [List.mem_take_iff_getElem]
          exact ⟨k, by omega, rfl⟩
        · rw [if_neg (show ¬ iB true = 0 by decide)]; rfl
      | false =>
        rw [if_pos (show iB false = 0 from rfl)]
        refine ih (k + 1) (by omega) (by omega) (fun a ha j hj hq => ?_)
        rw [htk] at ha
        rcases List.mem_append.mp ha with ha | ha
        · exact h3 a ha j hj hq
        · rw [List.mem_singleton.mp ha] at hj hq
          have := hb1.mpr ⟨j, hj, hq⟩
          cases this
theorem cA_inner (h : ca_ok vv aa bb wc cd od) {i : Nat} (hi : i < od.length) (kk : m_G → Nat → Int32 → Int32 → Option (Int32 × m_G)) : ∀ (fu k : Nat), k ≤ wc od[i] → wc od[i] - k < fu →
    f_Arc_differentCodes_27 kk fu (hp_mk vv ww aa bb) 0 (nI (dd_l ((od.take i).flatMap (cs_l wc cd) ++ (cs_l wc cd od[i]).take k)).length) (nI i) (some (77 + 4 * od[i])) (nI k) = kk (hp_mk vv ww aa bb) 0 (nI (dd_l ((od.take (i + 1)).flatMap (cs_l wc cd))).length) (nI (i + 1)) := by
  obtain ⟨g1, g2, g3⟩ := id h
  obtain ⟨o1, o2⟩ := od_at hi
  obtain ⟨m1, m2, m3, m4⟩ := g1 _ o2
  have htk : od.take (i + 1) = od.take i ++ [od[i]] := (List.take_append_getElem hi).symm
  intro fu
  induction fu with
  | zero => intro k h1 h2; omega
  | succ fu ih =>
    intro k h1 h2
    rw [f_Arc_differentCodes_27]
    simp only [ob_s, gI_mk (isI_m m1 (k := 6) (by omega) (by omega)), m3]
    by_cases hk : k = wc od[i]
    · rw [hk, if_pos (nI_le (Nat.le_refl _) (by omega)), nI_1, htk, List.flatMap_append]
      rw [List.take_of_length_le (l := cs_l wc cd od[i]) (by unfold cs_l; rw [List.length_map, List.length_range]; exact Nat.le_refl _), List.flatMap_singleton]
    · have hk2 : k < wc od[i] := by omega
      rw [if_neg (nI_ge hk2 (by omega))]
      obtain ⟨b1, hb1, hb2⟩ := cA_before (vv := vv) (ww := ww) (aa := aa) (bb := bb) (cd := cd) (e := k) m1 m2 m4 (by omega) (x := cd od[i] k) m_fu 0 (by omega) (by unfold m_fu; omega) (fun j hj => by omega)
      obtain ⟨b2, hb3, hb4⟩ := cA_earlier (ww := ww) h (n := i) (by omega) (x := cd od[i] k) m_fu 0 (by omega) (by unfold m_fu; omega) (fun a ha => by simp at ha)
      have hb5 : f_Message_hasCodeBefore (hp_mk vv ww aa bb) (77 + 4 * od[i]) (nI k) (cd od[i] k) = some (iB b1, hp_mk vv ww aa bb) := hb2
      have hb6 : f_Arc_isCodeEarlier (hp_mk vv ww aa bb) 0 (nI i) (cd od[i] k) = some (iB b2, hp_mk vv ww aa bb) := hb4
      have e1 : m_ldL (hp_mk vv ww aa bb) (77 + 4 * od[i] + 1 + 1) 2 (nI k) = some (cd od[i] k) := by
        rw [show 77 + 4 * od[i] + 1 + 1 = 77 + 4 * od[i] + 2 from rfl, ldL_n (sk_m2 m1) (show k < 50 by omega) (by omega), m4 k hk2]
      unfold f_Arc_differentCodes_70
      simp only [gR_mk (ref_m m1 (k := 1) (by omega)), ob_s, e1, is_m m1, gd_t, hb5, bd_s, is_0, hb6, nI_1]
      have hih := ih (k + 1) (by omega) (by revert h2 hk2; generalize wc od[i] = c; intro a b; omega)
      rw [cs_take hk2, ← List.append_assoc, dd_app] at hih
      have hin : cd od[i] k ∈ dd_l ((od.take i).flatMap (cs_l wc cd) ++ (cs_l wc cd od[i]).take k) ↔ (b1 = true ∨ b2 = true) := by
        rw [dd_mem, List.mem_append, cs_tmem (by omega), hb1, hb3, List.mem_flatMap]
        constructor
        · rintro (⟨a, a1, a2⟩ | q)
          · refine Or.inr ⟨a, a1, ?_⟩
            unfold cs_l at a2
            simpa [List.mem_map] using a2
          · exact Or.inl q
        · rintro (q | ⟨a, a1, j, a2, a3⟩)
          · exact Or.inr q
          · refine Or.inl ⟨a, a1, ?_⟩
            unfold cs_l
            exact List.mem_map.mpr ⟨j, List.mem_range.mpr a2, a3⟩
      cases b1 with
      | true =>
        rw [if_neg (show ¬ iB true = 0 by decide)]
        rw [if_pos (hin.mpr (Or.inl rfl))] at hih
        exact hih
      | false =>
        rw [if_pos (show iB false = 0 from rfl)]
        cases b2 with
        | true =>
          rw [if_neg (show ¬ iB true = 0 by decide)]
          rw [if_pos (hin.mpr (Or.inr rfl))] at hih
          exact hih
        | false =>
          rw [if_pos (show iB false = 0 from rfl)]
          rw [if_neg (fun z => by rcases hin.mp z with q | q <;> cases q), List.length_append, List.length_singleton] at hih
          exact hih
theorem cA_diff (h : ca_ok vv aa bb wc cd od) : f_Arc_differentCodes (hp_mk vv ww aa bb) 0 = some (nI (dd_l (od.flatMap (cs_l wc cd))).length, hp_mk vv ww aa bb) := by
  obtain ⟨g1, g2, g3⟩ := id h
  have gen : ∀ (fu k : Nat), k ≤ od.length → od.length - k < fu → f_Arc_differentCodes_4 fu (hp_mk vv ww aa bb) 0 (nI (dd_l ((od.take k).flatMap (cs_l wc cd))).length) (nI k) = some (nI (dd_l (od.flatMap (cs_l wc cd))).length, hp_mk vv ww aa bb) := by
    intro fu
    induction fu with
    | zero => intro k h1 h2; omega
    | succ fu ih =>
      intro k h1 h2
      rw [f_Arc_differentCodes_4]
      simp only [gi_0_7, ob_s, g3.1]
      by_cases hk : k = od.length
      · subst hk
        rw [if_pos (nI_le (Nat.le_refl _) (by omega)), List.take_length]
      · have hk2 : k < od.length := by omega
        obtain ⟨o1, o2⟩ := od_at hk2
        obtain ⟨m1, m2, m3, m4⟩ := g1 _ o2
        rw [if_neg (nI_ge hk2 (by omega))]
        have e1 := cA_inner (ww := ww) h hk2 (f_Arc_differentCodes_4 fu) m_fu 0 (by omega) (by unfold m_fu; omega)
        rw [List.take_zero, List.append_nil] at e1
        simp only [gr_0_5, gr_0_6, ob_s, ld_125 (show k < 12 by omega), g3.2 k hk2, o1, ldR_76 m1]
        have e2 : f_Arc_differentCodes_27 (f_Arc_differentCodes_4 fu) m_fu (hp_mk vv ww aa bb) 0 (nI (dd_l ((od.take k).flatMap (cs_l wc cd))).length) (nI k) (some (77 + 4 * od[k])) 0 = _ := e1
        rw [e2]
        exact ih (k + 1) (by omega) (by omega)
  exact gen m_fu 0 (by omega) (by unfold m_fu; omega)
end DIF
