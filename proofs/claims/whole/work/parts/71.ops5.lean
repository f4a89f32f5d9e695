/-! root, answers, drop -/
theorem inv_cg {i j : Nat} {vv vv' : hp_V} {ww ww' : hp_W} {aa aa' : hp_V} {bb bb' : hp_B} {ln : Nat} {lc : Nat → Int32} {dn : Nat} {DL : Nat → Nat} {DC : Nat → Nat → Int32} {th : Nat → Bool} {mi rc : Nat → Nat} {rf : Nat → Nat → Nat} {wc : Nat → Nat} {cd : Nat → Nat → Int64} {fl : Nat → Nat → Int32} {lv : Nat → Nat} {tg : Nat → Int32} {od : List Nat} {mo : Nat → Nat} {ad fd : Nat} {ep : Int32} (hij : i ≤ j) (h : Inv_z i vv ww aa bb ln lc dn DL DC th mi rc rf wc cd fl lv tg od mo ad fd ep)
    (hv : ∀ a k, (a < 66 ∨ (76 ≤ a ∧ a < 126) ∨ (a = 66 ∧ k = 1) ∨ (a = 126 ∧ (k = 2 ∨ k = 10 ∨ k = 20 ∨ k = 21 ∨ k = 27))) → vv' a k = vv a k) (ha : ∀ a, (a < 68 ∨ a = 70 ∨ (76 ≤ a ∧ a < 129) ∨ (132 ≤ a ∧ a < 142)) → aa' a = aa a) (hb : ∀ a, bb' a = bb a) (hw : ww' 66 = ww 66 ∧ ww' 126 = ww 126) (h68 : ∀ x, x < 40 → fits .char (.int (aa' 68 x)) = true) :
    Inv_z j vv' ww' aa' bb' ln lc dn DL DC th mi rc rf wc cd fl lv tg od mo ad fd ep := by
  obtain ⟨⟨l1, l2, l3⟩, ⟨d1, d2, d3⟩, a3, ⟨b1, b2, b3⟩, ⟨e1, e2, e3⟩, a6, ⟨m1, m2, m3⟩, a8, a9⟩ := h
  have hd := d3.1
  refine ⟨⟨cg_Aline l1 (hv 1 1 (by omega)) (ha 2 (by omega)), cg_Mline l2 (by rw [ha 128 (by omega)]) (fun x hx => by rw [ha 127 (by omega)]), l3⟩, ⟨cg_Adraft d1 (hv 3 1 (by omega)) (fun k hk => hv _ 1 (by omega)) (fun k hk => ha _ (by omega)), cg_Mdraft d2 (hv 126 2 (by omega)) (fun k hk => by rw [ha 128 (by omega)]) (fun k hk x hx => by rw [ha 127 (by omega)]), d3⟩, ?_, ⟨cg_Amsg b1 (fun x k h1 h2 => hv x k (by omega)) (fun x h1 h2 => ha x (by omega)) (fun x _ _ => hb x), cg_Mmsg b2 (fun x h1 h2 => ha x (by omega)) (hb 140), b3⟩, ⟨cg_Aord e1 (hv 0 7 (by omega)) (ha 125 (by omega)), cg_Mord e2 (hv 126 10 (by omega)) (ha 134 (by omega)), Nat.le_trans e3 hij⟩, cg_par a6 (ha 70 (by omega)), ⟨cg_Amis m1 (fun k => hv 0 k (by omega)), cg_Mmis m2 (hv 126 20 (by omega)) (hv 126 21 (by omega)), m3⟩, cg_Alet a8 hw.1 (hv 66 1 (by omega)), cg_Mlet a9 hw.2 (hv 126 27 (by omega))⟩
  intro q hq x hx
  by_cases h : q = 68
  · subst h; exact h68 x hx
  · rw [ha q (by
      simp only [hp_isC, Bool.or_eq_true, Bool.and_eq_true, beq_iff_eq, decide_eq_true_eq] at hq
      omega)]
    exact a3 q hq x hx
theorem inv_142 {i j : Nat} {vv : hp_V} {ww : hp_W} {aa : hp_V} {bb : hp_B} {ln : Nat} {lc : Nat → Int32} {dn : Nat} {DL : Nat → Nat} {DC : Nat → Nat → Int32} {th : Nat → Bool} {mi rc : Nat → Nat} {rf : Nat → Nat → Nat} {wc : Nat → Nat} {cd : Nat → Nat → Int64} {fl : Nat → Nat → Int32} {lv : Nat → Nat} {tg : Nat → Int32} {od : List Nat} {mo : Nat → Nat} {ad fd : Nat} {ep : Int32} (f : Nat → Int32) (hij : i ≤ j) (h : Inv_z i vv ww aa bb ln lc dn DL DC th mi rc rf wc cd fl lv tg od mo ad fd ep) : Inv_z j vv ww (up_a aa 142 f) bb ln lc dn DL DC th mi rc rf wc cd fl lv tg od mo ad fd ep :=
  inv_cg hij h (fun _ _ _ => rfl) (fun a h => ua_n (by omega)) (fun _ => rfl) ⟨rfl, rfl⟩ (fun x hx => by rw [ua_n (by omega)]; exact h.2.2.1 68 rfl x hx)
theorem od_len {th : Nat → Bool} {od : List Nat} (hn : od.Nodup) (hm : ∀ m, m ∈ od ↔ m < 12 ∧ th m = true) : od.length ≤ 12 := by
  refine pig_h 12 od.length (fun k => od.getD k 0) (fun k hk => ?_) (fun a b ha hb e => ?_)
  · have : od.getD k 0 = od[k] := by simp [hk]
    rw [this]
    exact ((hm _).mp (List.getElem_mem hk)).1
  · simp only [List.getD_eq_getElem?_getD, List.getElem?_eq_getElem ha, List.getElem?_eq_getElem hb, Option.getD_some] at e
    exact (List.getElem_inj hn).mp e
section MLK
variable {i : Nat} {vv : hp_V} {ww : hp_W} {aa : hp_V} {bb : hp_B} {ln : Nat} {lc : Nat → Int32} {dn : Nat} {DL : Nat → Nat} {DC : Nat → Nat → Int32} {th : Nat → Bool} {mi rc : Nat → Nat} {rf : Nat → Nat → Nat} {wc : Nat → Nat} {cd : Nat → Nat → Int64} {fl : Nat → Nat → Int32} {lv : Nat → Nat} {tg : Nat → Int32} {od : List Nat} {mo : Nat → Nat} {ad fd : Nat} {ep : Int32}
theorem inv_ok (h : Inv_z i vv ww aa bb ln lc dn DL DC th mi rc rf wc cd fl lv tg od mo ad fd ep) : th_ok (th_all mi rc rf od) := by
  obtain ⟨-, -, -, ⟨-, -, hX⟩, -⟩ := h
  exact ok_all (fun m hm => ⟨(hX.1 m ((hX.2.2.2 m).mp hm).1).1, (hX.1 m ((hX.2.2.2 m).mp hm).1).2.2.1⟩)
theorem inv_link (hi : i ≤ 2048) (h : Inv_z i vv ww aa bb ln lc dn DL DC th mi rc rf wc cd fl lv tg od mo ad fd ep) : ∃ f', en_P f' (th_all mi rc rf od) ∧ f_Mod_linkAll (hp_mk vv ww aa bb) 126 = some ((), hp_mk vv ww (up_a aa 142 f') bb) := by
  obtain ⟨-, -, -, ⟨hA, hM, hX⟩, ⟨o1, ⟨o2, o3, o4, o5, o6⟩, o7⟩, -⟩ := h
  refine tM_link (th := th) (mo := mo) (ad := ad) (fun m hm => ?_) (fun m hm => (hM m hm).1) o3 o6 (by omega) o4 hX.2.2.2 o5 (od_len hX.2.2.1 hX.2.2.2)
  have hm12 := ((hX.2.2.2 m).mp hm).1
  obtain ⟨x1, x2, x3, -⟩ := hX.1 m hm12
  obtain ⟨M1, M2, M3, M4, M5, M6, M7, M8⟩ := hM m hm12
  exact ⟨hm12, x1, x2, x3, M3, M2, M7⟩
end MLK
theorem op_root (i : Nat) (hi : i ≤ 2048) (x : Int32) : op_two (Inv_g i) (Inv_g (i + 4)) (fun g => f_Arc_root g 0 x) (fun g => f_Mod_root g 126 x) := by
  refine op_do (fun vv ww aa bb ln lc dn DL DC th mi rc rf wc cd fl lv tg od mo ad fd ep hz => ?_)
  have hno : x < 0 ∨ (64 : Int32) ≤ x → ∃ r v1 w1 a1 b1 v2 w2 a2 b2, (fun g => f_Arc_root g 0 x) (hp_mk vv ww aa bb) = some (r, hp_mk v1 w1 a1 b1) ∧ (fun g => f_Mod_root g 126 x) (hp_mk v1 w1 a1 b1) = some (r, hp_mk v2 w2 a2 b2) ∧ In_s (i + 4) v2 w2 a2 b2 := fun hx => by
    refine ⟨-1, vv, ww, aa, bb, vv, ww, aa, bb, ?_, ?_, _, _, _, _, _, _, _, _, _, _, _, _, _, _, _, _, _, _, _, inv_mono (by omega) hz⟩
    · simp only [f_Arc_root, f_Arc_root_10]
      by_cases h1 : x < 0
      · rw [if_pos h1]
      · rw [if_neg h1, if_neg (Int32.not_lt.mpr (hx.resolve_left h1))]
    · simp only [f_Mod_root, mo_out, if_pos hx, bd_s]; rfl
  rcases pk_ix x (n := 64) (by omega) with hx | hx | ⟨q, hq, rfl⟩
  · exact hno (Or.inl hx)
  · exact hno (Or.inr hx)
  · have hok := inv_ok hz
    obtain ⟨f', hf1, hf2⟩ := inv_link hi hz
    have hpar := hz.2.2.2.2.2.1
    refine ⟨nI (th_top (th_all mi rc rf od) 64 q), vv, ww, aa, bb, vv, ww, up_a aa 142 f', bb, ?_, ?_, _, _, _, _, _, _, _, _, _, _, _, _, _, _, _, _, _, _, _, inv_142 f' (by omega) hz⟩
    · have e1 : f_Threads_topOf (hp_mk vv ww aa bb) 69 (nI q) = some (nI (th_top (th_all mi rc rf od) 64 q), hp_mk vv ww aa bb) := tA_top hok hpar m_fu 0 q (by omega) (by unfold m_fu; omega) hq
      simp only [f_Arc_root]
      rw [if_neg (nI_pos (by omega)), if_pos (show nI q < (64 : Int32) from nI_lt (b := 64) hq (by omega))]
      simp only [gr_0_3, ob_s, is_69, gd_t, e1, bd_s]
    · have e1 := tM_top (vv := vv) (ww := ww) (aa := up_a aa 142 f') (bb := bb) hok (by rw [ua_s]; exact hf1) hq
      have g3 : ¬ (nI q < 0 ∨ (64 : Int32) ≤ nI q) := fun z => z.elim (nI_pos (by omega)) (nI_ge (b := 64) hq (by omega))
      simp only [f_Mod_root, mo_out, if_neg g3, bd_s, is_126, gd_t, hf2, e1]
      rfl
/-- the message with an ID: the first from k on -/
def wi_n (th : Nat → Bool) (mi : Nat → Nat) (id : Nat) : Nat → Nat → Option Nat
  | 0, _ => none
  | fu + 1, k => if th k = true ∧ mi k = id then some k else wi_n th mi id fu (k + 1)
theorem wi_s {th : Nat → Bool} {mi : Nat → Nat} {id n k : Nat} : wi_n th mi id (n + 1) k = if th k = true ∧ mi k = id then some k else wi_n th mi id n (k + 1) := rfl
theorem wi_lt {th : Nat → Bool} {mi : Nat → Nat} {id : Nat} : ∀ n k m, wi_n th mi id n k = some m → m < k + n ∧ th m = true ∧ mi m = id := by
  intro n
  induction n with
  | zero => intro k m h; cases h
  | succ n ih =>
    intro k m h
    unfold wi_n at h
    split at h
    · rename_i hc
      cases h
      exact ⟨by omega, hc.1, hc.2⟩
    · have := ih (k + 1) m h
      exact ⟨by omega, this.2⟩
section WID
variable {vv : hp_V} {ww : hp_W} {aa : hp_V} {bb : hp_B} {th : Nat → Bool} {mi : Nat → Nat}
theorem wA_id (h : ∀ m, m < 12 → vv (77 + 4 * m) 3 = iB (th m) ∧ vv (77 + 4 * m) 4 = nI (mi m) ∧ mi m < 64) {id : Nat} (hid : id < 64) : ∀ (fu k : Nat), k ≤ 12 → 12 - k < fu → f_Arc_numberWithId_2 fu (hp_mk vv ww aa bb) 0 (nI id) (nI k) = some (th_enc (wi_n th mi id (12 - k) k), hp_mk vv ww aa bb) := by
  intro fu
  induction fu with
  | zero => intro k h1 h2; omega
  | succ fu ih =>
    intro k h1 h2
    rw [f_Arc_numberWithId_2]
    unfold f_Arc_numberWithId_35
    by_cases hk : k = 12
    · subst hk
      rw [if_pos (show (12 : Int32) ≤ nI 12 from by decide)]
      rfl
    · have hk2 : k < 12 := by omega
      obtain ⟨a1, a2, a3⟩ := h k hk2
      rw [if_neg (show ¬ (12 : Int32) ≤ nI k from nI_ge (b := 12) hk2 (by omega)), show 12 - k = (11 - k) + 1 by omega]
      have hih := ih (k + 1) (by omega) (by omega)
      rw [show 12 - (k + 1) = 11 - k by omega] at hih
      simp only [gr_0_5, ob_s, ldR_76 hk2, gI_mk (isI_m hk2 (k := 3) (by omega) (by omega)), gI_mk (isI_m hk2 (k := 4) (by omega) (by omega)), a1, a2, nI_1, hih]
      rw [wi_s]
      cases hth : th k with
      | false => simp [iB]
      | true =>
        rw [if_neg (show ¬ iB true = 0 by decide)]
        by_cases e : mi k = id
        · rw [if_pos (by rw [e]), if_pos ⟨rfl, e⟩]; rfl
        · rw [if_neg (fun z => e (nI_inj (by omega) (by omega) z)), if_neg (fun z => e z.2)]
theorem wM_id (h : ∀ m, m < 12 → aa 132 m = iB (th m) ∧ aa 133 m = nI (mi m) ∧ mi m < 64) {id : Nat} (hid : id < 64) : ∀ (fu k : Nat), k ≤ 12 → 12 - k < fu → f_Mod_withId_2 fu (hp_mk vv ww aa bb) 126 (nI id) (nI k) = some (th_enc (wi_n th mi id (12 - k) k), hp_mk vv ww aa bb) := by
  intro fu
  induction fu with
  | zero => intro k h1 h2; omega
  | succ fu ih =>
    intro k h1 h2
    rw [f_Mod_withId_2]
    unfold f_Mod_withId_29
    by_cases hk : k = 12
    · subst hk
      rw [if_pos (show (12 : Int32) ≤ nI 12 from by decide)]
      rfl
    · have hk2 : k < 12 := by omega
      obtain ⟨a1, a2, a3⟩ := h k hk2
      rw [if_neg (show ¬ (12 : Int32) ≤ nI k from nI_ge (b := 12) hk2 (by omega)), show 12 - k = (11 - k) + 1 by omega]
      have hih := ih (k + 1) (by omega) (by omega)
      rw [show 12 - (k + 1) = 11 - k by omega] at hih
      simp only [gr_126_7, gr_126_8, ob_s, ld_132 hk2, ld_133 hk2, a1, a2, nI_1, hih]
      rw [wi_s]
      cases hth : th k with
      | false => simp [iB]
      | true =>
        rw [if_neg (show ¬ iB true = 0 by decide)]
        by_cases e : mi k = id
        · rw [if_pos (by rw [e]), if_pos ⟨rfl, e⟩]; rfl
        · rw [if_neg (fun z => e (nI_inj (by omega) (by omega) z)), if_neg (fun z => e z.2)]
end WID
/-- the message that is answered: the first on the chain -/
def an_f (P : Nat → Option Nat) (wi : Nat → Option Nat) : Nat → Option Nat → Int32
  | 0, _ => -4
  | _ + 1, none => -4
  | fu + 1, some q => match wi q with
    | some m => nI m
    | none => an_f P wi fu (P q)
theorem an_s {P : Nat → Option Nat} {wi : Nat → Option Nat} {fu q : Nat} : an_f P wi (fu + 1) (some q) = match wi q with
    | some m => nI m
    | none => an_f P wi fu (P q) := rfl
section ANS
variable {vv : hp_V} {ww : hp_W} {aa : hp_V} {bb : hp_B} {P : Nat → Option Nat} {wi : Nat → Option Nat}
theorem aA_loop (hP : th_ok P) (h : en_P (aa 70) P) (hw : ∀ q m, wi q = some m → m < 12) (hn : ∀ q, q < 64 → f_Arc_numberWithId (hp_mk vv ww aa bb) 0 (nI q) = some (th_enc (wi q), hp_mk vv ww aa bb)) : ∀ (fu s : Nat) (o : Option Nat), s ≤ 64 → 64 - s < fu → (∀ y, o = some y → y < 64) → f_Arc_answers_27 fu (hp_mk vv ww aa bb) 0 (th_enc o) (nI s) = some (an_f P wi (64 - s) o, hp_mk vv ww aa bb) := by
  intro fu
  induction fu with
  | zero => intro s o h1 h2; omega
  | succ fu ih =>
    intro s o h1 h2 h3
    rw [f_Arc_answers_27]
    unfold f_Arc_answers_68
    by_cases hs : s = 64
    · subst hs
      rw [if_pos (show (64 : Int32) ≤ nI 64 from by decide)]
      rfl
    · rw [if_neg (show ¬ (64 : Int32) ≤ nI s from nI_ge (b := 64) (by omega) (by omega)), show 64 - s = (63 - s) + 1 by omega]
      cases o with
      | none => rw [if_pos (show th_enc none < 0 from (by decide : (-1 : Int32) < 0))]; rfl
      | some q =>
        have hq := h3 q rfl
        have e0 : th_enc (some q) = nI q := rfl
        rw [e0, if_neg (nI_pos (by omega))]
        have ep : f_Threads_parentOf (hp_mk vv ww aa bb) 69 (nI q) = some (th_enc (P q), hp_mk vv ww aa bb) := by
          unfold f_Threads_parentOf f_Threads_parentOf_20
          rw [if_neg (nI_pos (by omega)), if_pos (show nI q < (64 : Int32) from nI_lt (b := 64) hq (by omega))]
          simp only [gr_69_0, ob_s, ld_70 hq, h q hq]
        have hih := ih (s + 1) (P q) (by omega) (by omega) (fun y hy => (hP.1 _ _ hy).2)
        rw [show 64 - (s + 1) = 63 - s by omega] at hih
        simp only [is_0, gd_t, hn q hq, bd_s, gr_0_3, ob_s, is_69, ep, nI_1, hih]
        rw [an_s]
        cases hwq : wi q with
        | none => rw [if_pos (show th_enc none < 0 from (by decide : (-1 : Int32) < 0))]
        | some m => rw [if_neg (show ¬ th_enc (some m) < 0 from nI_pos (by have := hw q m hwq; omega))]; rfl
theorem aM_loop (hP : th_ok P) (h : en_P (aa 142) P) (hw : ∀ q m, wi q = some m → m < 12) (hn : ∀ q, q < 64 → f_Mod_withId (hp_mk vv ww aa bb) 126 (nI q) = some (th_enc (wi q), hp_mk vv ww aa bb)) : ∀ (k fu : Nat) (o : Option Nat), (∀ y, o = some y → y < 64 ∧ ch_n P y k = none) → k < fu → f_Mod_answers_26 fu (hp_mk vv ww aa bb) 126 (th_enc o) = some (an_f P wi (k + 1) o, hp_mk vv ww aa bb) := by
  intro k
  induction k with
  | zero =>
    intro fu o h1 h2
    match fu, h2 with
    | fu + 1, _ =>
      cases o with
      | none =>
        rw [f_Mod_answers_26, if_pos (show th_enc none < 0 from (by decide : (-1 : Int32) < 0))]
        rfl
      | some y => have := (h1 y rfl).2; cases this
    | 0, h2 => omega
  | succ k ih =>
    intro fu o h1 h2
    match fu, h2 with
    | fu + 1, h2 =>
      rw [f_Mod_answers_26]
      unfold f_Mod_answers_48 f_Mod_answers_62
      cases o with
      | none => rw [if_pos (show th_enc none < 0 from (by decide : (-1 : Int32) < 0))]; rfl
      | some q =>
        obtain ⟨hq, hc⟩ := h1 q rfl
        have e0 : th_enc (some q) = nI q := rfl
        rw [e0, if_neg (nI_pos (by omega))]
        have hih := ih fu (P q) (fun y hy => ⟨(hP.1 _ _ hy).2, by rw [ch_step hy] at hc; exact hc⟩) (by omega)
        simp only [is_126, gd_t, hn q hq, bd_s, gr_126_19, ob_s, ld_142 hq, h q hq, hih]
        rw [an_s]
        cases hwq : wi q with
        | none => rw [if_neg (show ¬ (0 : Int32) ≤ th_enc none from (by decide : ¬ (0 : Int32) ≤ -1))]
        | some m =>
          rw [if_pos (show (0 : Int32) ≤ th_enc (some m) from nI_pos' (by have := hw q m hwq; omega)), if_pos (show (0 : Int32) ≤ nI q from nI_pos' (by omega))]
          rfl
    | 0, h2 => omega
/-- more fuel than the chain has IDs changes nothing -/
theorem an_more : ∀ (k : Nat) (o : Option Nat), (∀ y, o = some y → ch_n P y k = none) → ∀ a b, k ≤ a → k ≤ b → an_f P wi (a + 1) o = an_f P wi (b + 1) o := by
  intro k
  induction k with
  | zero =>
    intro o h a b _ _
    cases o with
    | none => rfl
    | some y => have := h y rfl; cases this
  | succ k ih =>
    intro o h a b ha hb
    cases o with
    | none => rfl
    | some q =>
      unfold an_f
      cases hwq : wi q with
      | some m => rfl
      | none =>
        have := ih (P q) (fun y hy => by have := h q rfl; rw [ch_step hy] at this; exact this) (a - 1) (b - 1) (by omega) (by omega)
        rw [show a - 1 + 1 = a by omega, show b - 1 + 1 = b by omega] at this
        exact this
end ANS
theorem op_answers (i : Nat) (hi : i ≤ 2048) (x : Int32) : op_two (Inv_g i) (Inv_g (i + 4)) (fun g => f_Arc_answers g 0 x) (fun g => f_Mod_answers g 126 x) := by
  refine op_do (fun vv ww aa bb ln lc dn DL DC th mi rc rf wc cd fl lv tg od mo ad fd ep hz => ?_)
  have hA := hz.2.2.2.1.1
  have hM := hz.2.2.2.1.2.1
  have hX := hz.2.2.2.1.2.2
  have hsame : (fun g => f_Arc_answers g 0 x) (hp_mk vv ww aa bb) = some (-1, hp_mk vv ww aa bb) → (fun g => f_Mod_answers g 126 x) (hp_mk vv ww aa bb) = some (-1, hp_mk vv ww aa bb) → ∃ r v1 w1 a1 b1 v2 w2 a2 b2, (fun g => f_Arc_answers g 0 x) (hp_mk vv ww aa bb) = some (r, hp_mk v1 w1 a1 b1) ∧ (fun g => f_Mod_answers g 126 x) (hp_mk v1 w1 a1 b1) = some (r, hp_mk v2 w2 a2 b2) ∧ In_s (i + 4) v2 w2 a2 b2 := fun h1 h2 => ⟨-1, vv, ww, aa, bb, vv, ww, aa, bb, h1, h2, _, _, _, _, _, _, _, _, _, _, _, _, _, _, _, _, _, _, _, inv_mono (by omega) hz⟩
  have hno : x < 0 ∨ (12 : Int32) ≤ x → (fun g => f_Arc_answers g 0 x) (hp_mk vv ww aa bb) = some (-1, hp_mk vv ww aa bb) ∧ (fun g => f_Mod_answers g 126 x) (hp_mk vv ww aa bb) = some (-1, hp_mk vv ww aa bb) := fun hx => ⟨by
    simp only [f_Arc_answers, is_0, gd_t, ar_msgAt_no hx, bd_s], by
    simp only [f_Mod_answers, is_126, gd_t, mo_noM_no hx, bd_s]; rfl⟩
  rcases pk_ix x (n := 12) (by omega) with hx | hx | ⟨m, hm, rfl⟩
  · exact hsame (hno (Or.inl hx)).1 (hno (Or.inl hx)).2
  · exact hsame (hno (Or.inr hx)).1 (hno (Or.inr hx)).2
  · obtain ⟨A1, A2, A3, A4, A5, A6, A7, A8⟩ := hA m hm
    obtain ⟨M1, M2, M3, M4, M5, M6, M7, M8⟩ := hM m hm
    cases hth : th m with
    | false =>
      rw [hth] at A1 M1
      refine hsame ?_ ?_
      · simp only [f_Arc_answers, is_0, gd_t, ar_msgAt hm A1, bd_s]; rfl
      · simp only [f_Mod_answers, is_126, gd_t, mo_noM hm M1, bd_s]; rfl
    | true =>
      rw [hth] at A1 M1
      have hok := inv_ok hz
      obtain ⟨f', hf1, hf2⟩ := inv_link hi hz
      have hpar := hz.2.2.2.2.2.1
      have hmi := (hX.1 m hm).1
      have hwl : ∀ q a, wi_n th mi q 12 0 = some a → a < 12 := fun q a h => by have := (wi_lt 12 0 a h).1; omega
      have e1 := aA_loop (vv := vv) (ww := ww) (aa := aa) (bb := bb) (wi := fun q => wi_n th mi q 12 0) hok hpar hwl (fun q hq => wA_id (fun a ha => ⟨(hA a ha).1, (hA a ha).2.1, (hX.1 a ha).1⟩) hq m_fu 0 (by omega) (by unfold m_fu; omega)) m_fu 0 (th_all mi rc rf od (mi m)) (by omega) (by unfold m_fu; omega) (fun y hy => (hok.1 _ _ hy).2)
      have e2 := aM_loop (vv := vv) (ww := ww) (aa := up_a aa 142 f') (bb := bb) (wi := fun q => wi_n th mi q 12 0) hok (by rw [ua_s]; exact hf1) hwl (fun q hq => wM_id (fun a ha => ⟨by rw [ua_n (by omega)]; exact (hM a ha).1, by rw [ua_n (by omega)]; exact (hM a ha).2.1, (hX.1 a ha).1⟩) hq m_fu 0 (by omega) (by unfold m_fu; omega)) 64 m_fu (th_all mi rc rf od (mi m)) (fun y hy => ⟨(hok.1 _ _ hy).2, ch_64 hok (hok.1 _ _ hy).2⟩) (by unfold m_fu; omega)
      have e3 : an_f (th_all mi rc rf od) (fun q => wi_n th mi q 12 0) 64 (th_all mi rc rf od (mi m)) = an_f (th_all mi rc rf od) (fun q => wi_n th mi q 12 0) 65 (th_all mi rc rf od (mi m)) := by
        refine an_more 63 _ (fun y hy => ?_) 63 64 (by omega) (by omega)
        cases hc : ch_n (th_all mi rc rf od) y 63 with
        | none => rfl
        | some z =>
          have e : ch_n (th_all mi rc rf od) (mi m) 64 = some z := by rw [show 64 = 63 + 1 from rfl, ch_step hy]; exact hc
          rw [ch_64 hok hmi] at e
          cases e
      refine ⟨an_f (th_all mi rc rf od) (fun q => wi_n th mi q 12 0) 64 (th_all mi rc rf od (mi m)), vv, ww, aa, bb, vv, ww, up_a aa 142 f', bb, ?_, ?_, _, _, _, _, _, _, _, _, _, _, _, _, _, _, _, _, _, _, _, inv_142 f' (by omega) hz⟩
      · have ep : f_Threads_parentOf (hp_mk vv ww aa bb) 69 (nI (mi m)) = some (th_enc (th_all mi rc rf od (mi m)), hp_mk vv ww aa bb) := by
          unfold f_Threads_parentOf f_Threads_parentOf_20
          rw [if_neg (nI_pos (by omega)), if_pos (show nI (mi m) < (64 : Int32) from nI_lt (b := 64) hmi (by omega))]
          simp only [gr_69_0, ob_s, ld_70 hmi, hpar _ hmi]
        simp only [f_Arc_answers, is_0, gd_t, ar_msgAt hm A1, bd_s, if_true, gr_0_3, ob_s, gI_mk (isI_m hm (k := 4) (by omega) (by omega)), A2, is_69, ep]
        exact e1
      · simp only [f_Mod_answers, is_126, gd_t, mo_noM hm M1, bd_s]
        simp only [Bool.not_true, show iB false = 0 from rfl, if_true, is_126, gd_t, hf2, bd_s, gr_126_19, gr_126_8, ob_s, ld_133 hm, ua_n (show 133 ≠ 142 by omega), M2, ld_142 hmi, ua_s, hf1 _ hmi]
        rw [e3]
        exact e2
