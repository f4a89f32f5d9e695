/-! threads of the reference -/
theorem ch_64 {P : Nat → Option Nat} (hP : th_ok P) {q : Nat} (hq : q < 64) : ch_n P q 64 = none := by
  cases h : ch_n P q 64 with
  | none => rfl
  | some y => have := ch_63 hP hq h; omega
section THM
variable {vv : hp_V} {ww : hp_W} {aa : hp_V} {bb : hp_B} {P : Nat → Option Nat}
theorem tM_ring_l (hP : th_ok P) (h : en_P (aa 142) P) {x : Nat} (hx : x < 64) : ∀ (k fu q : Nat), q < 64 → ch_n P q k = none → k < fu → f_Mod_ring_2 fu (hp_mk vv ww aa bb) 126 (nI x) (nI q) = some (iB (th_up P k x q), hp_mk vv ww aa bb) := by
  intro k
  induction k with
  | zero => intro fu q hq h1; cases h1
  | succ k ih =>
    intro fu q hq h1 h2
    match fu, h2 with
    | fu + 1, h2 =>
      rw [f_Mod_ring_2]
      unfold f_Mod_ring_21 f_Mod_ring_31 th_up
      rw [if_neg (nI_pos (by omega))]
      by_cases e : q = x
      · subst e
        simp [iB]
      · have e2 : ¬ nI q = nI x := fun z => e (nI_inj (by omega) (by omega) z)
        simp only [if_neg e, if_neg e2, gr_126_19, ob_s, ld_142 hq, h q hq]
        cases hp : P q with
        | none =>
          match fu, h2 with
          | fu + 1, _ =>
            rw [f_Mod_ring_2]
            unfold f_Mod_ring_21 f_Mod_ring_31
            have e3 : ¬ th_enc none = nI x := fun z => by
              have := (enc_lt0 (o := none) (fun y hy => by cases hy)).mpr rfl
              rw [z] at this
              exact nI_pos (by omega) this
            rw [if_pos (show th_enc none < 0 from (by decide : (-1 : Int32) < 0)), if_neg e3]
            simp [iB]
          | 0, h2 => omega
        | some w =>
          rw [ch_step hp] at h1
          exact ih fu w (hP.1 _ _ hp).2 h1 (by omega)
    | 0, h2 => omega
theorem tM_ring (hP : th_ok P) (h : en_P (aa 142) P) {x q : Nat} (hx : x < 64) (hq : q < 64) : f_Mod_ring (hp_mk vv ww aa bb) 126 (nI x) (nI q) = some (iB (th_up P 64 x q), hp_mk vv ww aa bb) := tM_ring_l hP h hx 64 m_fu q hq (ch_64 hP hq) (by unfold m_fu; omega)
theorem tM_top_l (hP : th_ok P) (h : en_P (aa 142) P) : ∀ (k fu q : Nat), q < 64 → ch_n P q k = none → k ≤ fu → f_Mod_top_2 fu (hp_mk vv ww aa bb) 126 (nI q) = some (nI (th_top P k q), hp_mk vv ww aa bb) := by
  intro k
  induction k with
  | zero => intro fu q hq h1; cases h1
  | succ k ih =>
    intro fu q hq h1 h2
    match fu, h2 with
    | fu + 1, h2 =>
      rw [f_Mod_top_2]
      unfold th_top
      simp only [gr_126_19, ob_s, ld_142 hq, h q hq]
      cases hp : P q with
      | none => rw [if_pos (show th_enc none < 0 from (by decide : (-1 : Int32) < 0))]
      | some w =>
        have hw := (hP.1 _ _ hp).2
        rw [if_neg (show ¬ th_enc (some w) < 0 from nI_pos (by omega))]
        rw [ch_step hp] at h1
        exact ih fu w hw h1 (by omega)
    | 0, h2 => omega
theorem tM_top (hP : th_ok P) (h : en_P (aa 142) P) {q : Nat} (hq : q < 64) : f_Mod_top (hp_mk vv ww aa bb) 126 (nI q) = some (nI (th_top P 64 q), hp_mk vv ww aa bb) := tM_top_l hP h 64 m_fu q hq (ch_64 hP hq) (by unfold m_fu; omega)
/-- the reference's search for the next message by its count -/
def nx_inv (th : Nat → Bool) (mo : Nat → Nat) (mt k : Nat) (o : Option Nat) : Prop := match o with
  | none => ∀ m, m < k → th m = true → mo m ≤ mt
  | some a => a < 12 ∧ th a = true ∧ mt < mo a ∧ ∀ m, m < k → th m = true → mt < mo m → mo a ≤ mo m
theorem tM_after {th : Nat → Bool} {mo : Nat → Nat} {mt ad : Nat} (ht : ∀ m, m < 12 → aa 132 m = iB (th m)) (ho : ∀ m, m < 12 → aa 134 m = nI (mo m)) (hb : ∀ m, m < 12 → mo m ≤ ad) (had : ad < 2 ^ 30) (hmt : mt < 2 ^ 30) : ∀ (fu k : Nat) (o : Option Nat), k ≤ 12 → 12 - k < fu → nx_inv th mo mt k o → ∃ o', nx_inv th mo mt 12 o' ∧ f_Mod_addedAfter_4 fu (hp_mk vv ww aa bb) 126 (nI mt) (th_enc o) (nI k) = some (th_enc o', hp_mk vv ww aa bb) := by
  intro fu
  induction fu with
  | zero => intro k o h1 h2; omega
  | succ fu ih =>
    intro k o h1 h2 hi
    rw [f_Mod_addedAfter_4]
    unfold f_Mod_addedAfter_48 f_Mod_addedAfter_50
    by_cases hk : k = 12
    · subst hk
      exact ⟨o, hi, by rw [if_pos (show (12 : Int32) ≤ nI 12 from by decide)]⟩
    · have hk2 : k < 12 := by omega
      rw [if_neg (show ¬ (12 : Int32) ≤ nI k from nI_ge (b := 12) hk2 (by omega))]
      simp only [gr_126_7, gr_126_9, ob_s, ld_132 hk2, ht k hk2, ld_134 hk2, ho k hk2, nI_1]
      have hmk := hb k hk2
      cases hth : th k with
      | false =>
        rw [if_pos (show iB false = 0 from rfl)]
        refine ih (k + 1) o (by omega) (by omega) ?_
        cases o with
        | none =>
          exact fun m hm h3 => by
            by_cases e : m = k
            · subst e; rw [hth] at h3; cases h3
            · exact hi m (by omega) h3
        | some a =>
          exact ⟨hi.1, hi.2.1, hi.2.2.1, fun m hm h3 h4 => by
            by_cases e : m = k
            · subst e; rw [hth] at h3; cases h3
            · exact hi.2.2.2 m (by omega) h3 h4⟩
      | true =>
        rw [if_neg (show ¬ iB true = 0 by decide)]
        by_cases hm : mo k ≤ mt
        · rw [if_pos (nI_le hm (by omega))]
          refine ih (k + 1) o (by omega) (by omega) ?_
          cases o with
          | none =>
            exact fun m hm2 h3 => by
              by_cases e : m = k
              · subst e; exact hm
              · exact hi m (by omega) h3
          | some a =>
            exact ⟨hi.1, hi.2.1, hi.2.2.1, fun m hm2 h3 h4 => by
              by_cases e : m = k
              · subst e; omega
              · exact hi.2.2.2 m (by omega) h3 h4⟩
        · rw [if_neg (nI_ge (by omega) (by omega))]
          cases o with
          | none =>
            rw [if_pos (show th_enc none < 0 from (by decide : (-1 : Int32) < 0))]
            exact ih (k + 1) (some k) (by omega) (by omega) ⟨hk2, hth, by omega, fun m hm2 h3 h4 => by
              by_cases e : m = k
              · subst e; omega
              · have := hi m (by omega) h3; omega⟩
          | some a =>
            have hma := hb a hi.1
            rw [if_neg (show ¬ th_enc (some a) < 0 from nI_pos (by have := hi.1; omega))]
            have e1 : m_ld (hp_mk vv ww aa bb) 134 0 (th_enc (some a)) = some (nI (mo a)) := by
              show m_ld (hp_mk vv ww aa bb) 134 0 (nI a) = _
              rw [ld_134 hi.1, ho a hi.1]
            simp only [e1, ob_s]
            by_cases hc : mo a ≤ mo k
            · rw [if_pos (nI_le hc (by omega))]
              exact ih (k + 1) (some a) (by omega) (by omega) ⟨hi.1, hi.2.1, hi.2.2.1, fun m hm2 h3 h4 => by
                by_cases e : m = k
                · subst e; exact hc
                · exact hi.2.2.2 m (by omega) h3 h4⟩
            · rw [if_neg (nI_ge (by omega) (by omega))]
              exact ih (k + 1) (some k) (by omega) (by omega) ⟨hk2, hth, by omega, fun m hm2 h3 h4 => by
                by_cases e : m = k
                · subst e; omega
                · have := hi.2.2.2 m (by omega) h3 h4; omega⟩
/-- the next one is the next in the order -/
theorem nx_next {th : Nat → Bool} {mo : Nat → Nat} {mt : Nat} {pre rest : List Nat} {o : Option Nat} (hp : (pre ++ rest).Pairwise (fun a b => mo a < mo b)) (hm : ∀ m, m ∈ pre ++ rest ↔ m < 12 ∧ th m = true) (h1 : ∀ m ∈ pre, mo m ≤ mt) (h2 : ∀ m ∈ rest, mt < mo m) (hi : nx_inv th mo mt 12 o) : o = rest.head? := by
  cases rest with
  | nil =>
    cases o with
    | none => rfl
    | some a =>
      obtain ⟨a1, a2, a3, -⟩ := hi
      have := (hm a).mpr ⟨a1, a2⟩
      rw [List.append_nil] at this
      have := h1 a this
      omega
  | cons b rest =>
    have hb := (hm b).mp (List.mem_append_right _ List.mem_cons_self)
    have hb2 := h2 b List.mem_cons_self
    cases o with
    | none =>
      have := hi b hb.1 hb.2
      omega
    | some a =>
      obtain ⟨a1, a2, a3, a4⟩ := hi
      have hle := a4 b hb.1 hb.2 hb2
      rcases List.mem_append.mp ((hm a).mpr ⟨a1, a2⟩) with q | q
      · have := h1 a q; omega
      · rcases List.mem_cons.mp q with q | q
        · rw [q]; rfl
        · have := (List.pairwise_append.mp hp).2.1
          have := (List.pairwise_cons.mp this).1 a q
          omega
end THM
section THN
variable {vv : hp_V} {ww : hp_W} {aa : hp_V} {bb : hp_B} {P : Nat → Option Nat}
theorem tM_link_m (hP : th_ok P) {m rc id : Nat} {rf : Nat → Nat} (hm : m < 12) (hrc : rc ≤ 4) (hid : id < 64) (hrf : ∀ j, j < rc → rf j < 64) (h2 : aa 133 m = nI id) (h3 : ∀ j, j < rc → aa 135 (4 * m + j) = nI (rf j)) (kk : m_G → Nat → Int32 → Option (Unit × m_G)) : ∀ (fu k : Nat) (f : Nat → Int32), 1 ≤ k → (k ≤ rc ∨ (rc = 0 ∧ k = 1)) → rc - k < fu → (if rc = 0 then en_P f P else en_P f (th_refs rf (k - 1) P)) →
    ∃ f', en_P f' (th_join id rc rf P) ∧ f_Mod_linkAll_40 kk fu (hp_mk vv ww (up_a aa 142 f) bb) 126 (nI m) (nI rc) (nI k) = f_Mod_linkAll_159 kk (hp_mk vv ww (up_a aa 142 f') bb) 126 (nI m) := by
  intro fu
  induction fu with
  | zero => intro k f h4 h5 h6; omega
  | succ fu ih =>
    intro k f h4 h5 h6 hf
    rw [f_Mod_linkAll_40]
    by_cases h0 : rc = 0
    · subst h0
      rw [if_pos rfl] at hf
      refine ⟨f, by unfold th_join; rw [if_pos rfl]; exact hf, ?_⟩
      rw [if_pos (nI_le (by omega) (by omega)), if_pos (show nI 0 ≤ (0 : Int32) from by decide)]
    · rw [if_neg h0] at hf
      have q1 : ∀ j (v : hp_V) (F : Nat → Int32), j < rc → m_ld (hp_mk v ww (up_a aa 142 F) bb) 135 0 (nI (4 * m + j)) = some (nI (rf j)) := fun j v F hj => by
        rw [ld_135 (by omega), ua_n (by omega), h3 j hj]
      have e4 : ∀ j, (4 : Int32) * nI m + nI j = nI (4 * m + j) := fun j => by rw [show (4 : Int32) = nI 4 from rfl, pk_mul, nI_add]
      have e5 : ∀ j, 1 ≤ j → nI (4 * m + j) - 1 = nI (4 * m + (j - 1)) := fun j hj => by
        rw [show (1 : Int32) = nI 1 from rfl, pk_sub (by omega), show 4 * m + j - 1 = 4 * m + (j - 1) by omega]
      by_cases hk : k = rc
      · subst hk
        have hok := ok_refs hP (rf := rf) (k - 1) (fun j hj => hrf j (by omega))
        rw [if_pos (nI_le (Nat.le_refl k) (by omega)), if_neg (show ¬ nI k ≤ (0 : Int32) from nI_nle (by omega) (by omega))]
        have hr := tM_ring (vv := vv) (ww := ww) (aa := up_a aa 142 f) (bb := bb) hok (by rw [ua_s]; exact hf) hid (hrf (k - 1) (by omega))
        simp only [gr_126_8, gr_126_11, ob_s, ld_133 hm, ua_n (show 133 ≠ 142 by omega), h2, e4, e5 k h4, q1 (k - 1) vv f (by omega), is_126, gd_t, hr, bd_s, gr_126_19, st_142 hid, ua_s, ua_u]
        unfold th_join th_set
        rw [if_neg h0]
        by_cases hu : th_up (th_refs rf (k - 1) P) 64 id (rf (k - 1)) = true
        · refine ⟨f, by rw [if_pos hu]; exact hf, ?_⟩
          rw [hu, if_neg (by decide)]
        · refine ⟨upd f id (nI (rf (k - 1))), by rw [if_neg hu]; exact en_up hf, ?_⟩
          rw [show th_up (th_refs rf (k - 1) P) 64 id (rf (k - 1)) = false by simpa using hu, if_pos (show iB false = 0 from rfl)]
      · have hkr : k < rc := by omega
        have hok := ok_refs hP (rf := rf) (k - 1) (fun j hj => hrf j (by omega))
        rw [if_neg (nI_ge hkr (by omega))]
        have e142 : m_ld (hp_mk vv ww (up_a aa 142 f) bb) 142 0 (nI (rf k)) = some (th_enc (th_refs rf (k - 1) P (rf k))) := by
          rw [ld_142 (hrf k hkr), ua_s, hf _ (hrf k hkr)]
        have hr := tM_ring (vv := vv) (ww := ww) (aa := up_a aa 142 f) (bb := bb) hok (by rw [ua_s]; exact hf) (hrf k hkr) (hrf (k - 1) (by omega))
        simp only [gr_126_11, ob_s, e4, q1 k vv f hkr, e5 k h4, q1 (k - 1) vv f (by omega), gr_126_19, e142, is_126, gd_t, hr, bd_s, st_142 (hrf k hkr), ua_s, ua_u, f_Mod_linkAll_101, nI_1]
        have hstep : th_refs rf k P = if th_refs rf (k - 1) P (rf k) = none then th_set (th_refs rf (k - 1) P) (rf k) (rf (k - 1)) else th_refs rf (k - 1) P := by
          have : th_refs rf ((k - 1) + 1) P = if th_refs rf (k - 1) P (rf ((k - 1) + 1)) = none then th_set (th_refs rf (k - 1) P) (rf ((k - 1) + 1)) (rf (k - 1)) else th_refs rf (k - 1) P := rfl
          rw [show k - 1 + 1 = k by omega] at this
          exact this
        by_cases hnone : th_refs rf (k - 1) P (rf k) = none
        · rw [hnone, if_neg (show ¬ (0 : Int32) ≤ th_enc none from (by decide : ¬ (0 : Int32) ≤ -1))]
          rw [if_pos hnone] at hstep
          unfold th_set at hstep
          by_cases hu : th_up (th_refs rf (k - 1) P) 64 (rf k) (rf (k - 1)) = true
          · rw [hu, if_neg (by decide)]
            refine ih (k + 1) f (by omega) (by omega) (by omega) ?_
            rw [if_neg h0, show k + 1 - 1 = k by omega, hstep, if_pos hu]
            exact hf
          · rw [show th_up (th_refs rf (k - 1) P) 64 (rf k) (rf (k - 1)) = false by simpa using hu, if_pos (show iB false = 0 from rfl)]
            refine ih (k + 1) _ (by omega) (by omega) (by omega) ?_
            rw [if_neg h0, show k + 1 - 1 = k by omega, hstep, if_neg hu]
            exact en_up hf
        · obtain ⟨y, hy⟩ := Option.ne_none_iff_exists'.mp hnone
          have hy64 := (hok.1 _ _ hy).2
          rw [hy, if_pos (show (0 : Int32) ≤ th_enc (some y) from nI_pos' (by omega))]
          refine ih (k + 1) f (by omega) (by omega) (by omega) ?_
          rw [if_neg h0, show k + 1 - 1 = k by omega, hstep, if_neg hnone]
          exact hf
theorem tM_link_l {mi rc : Nat → Nat} {rf : Nat → Nat → Nat} {th : Nat → Bool} {mo : Nat → Nat} {ad : Nat} {od : List Nat} (ho : ∀ m ∈ od, m < 12 ∧ mi m < 64 ∧ rc m ≤ 4 ∧ (∀ j, j < rc m → rf m j < 64) ∧ aa 136 m = nI (rc m) ∧ aa 133 m = nI (mi m) ∧ ∀ j, j < rc m → aa 135 (4 * m + j) = nI (rf m j))
    (ht : ∀ m, m < 12 → aa 132 m = iB (th m)) (hmo : ∀ m, m < 12 → aa 134 m = nI (mo m)) (hb : ∀ m, m < 12 → mo m ≤ ad) (had : ad < 2 ^ 30) (hp : od.Pairwise (fun a b => mo a < mo b)) (hmem : ∀ m, m ∈ od ↔ m < 12 ∧ th m = true) :
    ∀ (rest pre : List Nat) (fu : Nat) (f : Nat → Int32) (P : Nat → Option Nat), od = pre ++ rest → rest.length < fu → th_ok P → en_P f P → ∃ f', en_P f' (rest.foldl (fun P m => th_join (mi m) (rc m) (rf m) P) P) ∧ f_Mod_linkAll_27 fu (hp_mk vv ww (up_a aa 142 f) bb) 126 (th_enc rest.head?) = some ((), hp_mk vv ww (up_a aa 142 f') bb) := by
  intro rest
  induction rest with
  | nil =>
    intro pre fu f P e hl hP hf
    match fu, hl with
    | fu + 1, _ =>
      refine ⟨f, hf, ?_⟩
      rw [f_Mod_linkAll_27, if_pos (show th_enc ([] : List Nat).head? < 0 from (by decide : (-1 : Int32) < 0))]
    | 0, hl => simp at hl
  | cons m rest ih =>
    intro pre fu f P e hl hP hf
    match fu, hl with
    | fu + 1, hl =>
      obtain ⟨g1, g2, g3, g4, g5, g6, g7⟩ := ho m (by rw [e]; exact List.mem_append_right _ List.mem_cons_self)
      obtain ⟨f1, hf1, hf2⟩ := tM_link_m (vv := vv) (ww := ww) (aa := aa) (bb := bb) hP g1 g3 g2 g4 g6 g7 (f_Mod_linkAll_27 fu) m_fu 1 f (by omega) (by omega) (by unfold m_fu; omega) (by split <;> exact hf)
      have e0 : od = (pre ++ [m]) ++ rest := by rw [e]; simp
      have hp' : ((pre ++ [m]) ++ rest).Pairwise (fun a b => mo a < mo b) := by rw [← e0]; exact hp
      obtain ⟨pp1, pp2, pp3⟩ := List.pairwise_append.mp hp'
      obtain ⟨pq1, pq2, pq3⟩ := List.pairwise_append.mp pp1
      obtain ⟨o', hi, hA⟩ := tM_after (vv := vv) (ww := ww) (aa := up_a aa 142 f1) (bb := bb) (th := th) (mo := mo) (mt := mo m) (ad := ad) (fun q hq => by rw [ua_n (by omega)]; exact ht q hq) (fun q hq => by rw [ua_n (by omega)]; exact hmo q hq) hb had (by have := hb m g1; omega) m_fu 0 none (by omega) (by unfold m_fu; omega) (fun q hq => by omega)
      have hnx := nx_next (th := th) (mo := mo) (mt := mo m) (pre := pre ++ [m]) (rest := rest) (o := o') hp' (by rw [← e0]; exact hmem) (fun q hq => by
        rcases List.mem_append.mp hq with h | h
        · exact Nat.le_of_lt (pq3 q h m (List.mem_singleton.mpr rfl))
        · rw [List.mem_singleton.mp h]; exact Nat.le_refl _) (fun q hq => pp3 m (List.mem_append_right _ (List.mem_singleton.mpr rfl)) q hq) hi
      subst hnx
      have hA' : f_Mod_addedAfter (hp_mk vv ww (up_a aa 142 f1) bb) 126 (nI (mo m)) = some (th_enc rest.head?, hp_mk vv ww (up_a aa 142 f1) bb) := hA
      obtain ⟨f2, hf3, hf4⟩ := ih (pre ++ [m]) fu f1 _ e0 (by simpa using hl) (ok_join hP g2 g4) hf1
      refine ⟨f2, hf3, ?_⟩
      have hh : th_enc (m :: rest).head? = nI m := rfl
      rw [f_Mod_linkAll_27, hh, if_neg (nI_pos (by omega))]
      simp only [gr_126_12, ob_s, ld_136 g1, ua_n (show 136 ≠ 142 by omega), g5]
      have hf2' : f_Mod_linkAll_40 (f_Mod_linkAll_27 fu) m_fu (hp_mk vv ww (up_a aa 142 f) bb) 126 (nI m) (nI (rc m)) 1 = _ := hf2
      rw [hf2']
      unfold f_Mod_linkAll_159
      simp only [gr_126_9, ob_s, ld_134 g1, ua_n (show 134 ≠ 142 by omega), hmo m g1, is_126, gd_t, hA', bd_s]
      exact hf4
    | 0, hl => simp at hl
theorem tM_link_0 (kP : ∀ f : Nat → Int32, (∀ q, q < 64 → f q = -1) → ∃ f', en_P f' P ∧ (m_gd (m_is (hp_mk vv ww (up_a aa 142 f) bb) 126 8) <| m_bd (f_Mod_addedAfter (hp_mk vv ww (up_a aa 142 f) bb) 126 0) fun v_3 g_2 => f_Mod_linkAll_27 m_fu g_2 126 v_3) = some ((), hp_mk vv ww (up_a aa 142 f') bb)) : ∀ (fu k : Nat) (f : Nat → Int32), k ≤ 64 → 64 - k < fu → (∀ q, q < k → f q = -1) → ∃ f', en_P f' P ∧ f_Mod_linkAll_2 fu (hp_mk vv ww (up_a aa 142 f) bb) 126 (nI k) = some ((), hp_mk vv ww (up_a aa 142 f') bb) := by
  intro fu
  induction fu with
  | zero => intro k f h1 h2; omega
  | succ fu ih =>
    intro k f h1 h2 h3
    rw [f_Mod_linkAll_2]
    by_cases hk : k = 64
    · subst hk
      rw [if_pos (show (64 : Int32) ≤ nI 64 from by decide)]
      exact kP f h3
    · rw [if_neg (show ¬ (64 : Int32) ≤ nI k from nI_ge (b := 64) (by omega) (by omega))]
      simp only [gr_126_19, ob_s, st_142 (show k < 64 by omega), ua_s, ua_u, nI_1]
      refine ih (k + 1) _ (by omega) (by omega) (fun q hq => ?_)
      unfold upd
      by_cases e : q = k
      · rw [if_pos e]
      · rw [if_neg e]; exact h3 q (by omega)
/-- linkAll: the parents of all messages, in the order in which they were added -/
theorem tM_link {mi rc : Nat → Nat} {rf : Nat → Nat → Nat} {th : Nat → Bool} {mo : Nat → Nat} {ad : Nat} {od : List Nat} (ho : ∀ m ∈ od, m < 12 ∧ mi m < 64 ∧ rc m ≤ 4 ∧ (∀ j, j < rc m → rf m j < 64) ∧ aa 136 m = nI (rc m) ∧ aa 133 m = nI (mi m) ∧ ∀ j, j < rc m → aa 135 (4 * m + j) = nI (rf m j))
    (ht : ∀ m, m < 12 → aa 132 m = iB (th m)) (hmo : ∀ m, m < 12 → aa 134 m = nI (mo m)) (hb : ∀ m, m < 12 → mo m ≤ ad) (had : ad < 2 ^ 30) (hp : od.Pairwise (fun a b => mo a < mo b)) (hmem : ∀ m, m ∈ od ↔ m < 12 ∧ th m = true) (h1 : ∀ m ∈ od, 1 ≤ mo m) (hlen : od.length ≤ 12) :
    ∃ f', en_P f' (th_all mi rc rf od) ∧ f_Mod_linkAll (hp_mk vv ww aa bb) 126 = some ((), hp_mk vv ww (up_a aa 142 f') bb) := by
  have := tM_link_0 (vv := vv) (ww := ww) (aa := aa) (bb := bb) (P := th_all mi rc rf od) (fun f hf => ?_) m_fu 0 (aa 142) (by omega) (by unfold m_fu; omega) (fun q hq => by omega)
  · rw [ua_id] at this
    exact this
  · obtain ⟨o', hi, hA⟩ := tM_after (vv := vv) (ww := ww) (aa := up_a aa 142 f) (bb := bb) (th := th) (mo := mo) (mt := 0) (ad := ad) (fun q hq => by rw [ua_n (by omega)]; exact ht q hq) (fun q hq => by rw [ua_n (by omega)]; exact hmo q hq) hb had (by omega) m_fu 0 none (by omega) (by unfold m_fu; omega) (fun q hq => by omega)
    have hnx := nx_next (th := th) (mo := mo) (mt := 0) (pre := []) (rest := od) (o := o') hp hmem (fun q hq => by cases hq) (fun q hq => h1 q hq) hi
    subst hnx
    have hA' : f_Mod_addedAfter (hp_mk vv ww (up_a aa 142 f) bb) 126 0 = some (th_enc od.head?, hp_mk vv ww (up_a aa 142 f) bb) := hA
    obtain ⟨f', h3, h4⟩ := tM_link_l (vv := vv) (ww := ww) (aa := aa) (bb := bb) ho ht hmo hb had hp hmem od [] m_fu f (fun _ => none) rfl (by unfold m_fu; omega) ok_nil (fun q hq => hf q hq)
    refine ⟨f', h3, ?_⟩
    simp only [is_126, gd_t, hA', bd_s]
    exact h4
end THN
