/-! search: the reference's loop for where the error is -/
theorem sl_in {c : Nat} (h : 0 < sl_n c) : 97 ≤ c ∧ c ≤ 122 := by
  unfold sl_n at h
  by_cases e : 97 ≤ c ∧ c ≤ 122
  · exact e
  · rw [if_neg e] at h; omega
theorem nn_a {a b : Nat} {P : Prop} (h : Nat.beq a b = false) (z : a = b) : P := by
  rw [z, Nat.beq_refl] at h; cases h
theorem be_st {K : List lv_T} {L : lv_T} {x : Nat → Bool} {c : Nat} {q : qs_T} (h : be_n K L x c = some q) : (q.1 = 0 ∨ q.1 = 5) ∧ c ≠ 40 ∧ (c = 41 → q.2.2.2.1.length + 1 = K.length) ∧ (c ≠ 41 → q.2.2.2.1.length = K.length) := by
  unfold be_n at h
  by_cases e1 : c = 38
  · rw [if_pos e1] at h; cases h; exact ⟨Or.inl rfl, by omega, fun z => absurd z (by omega), fun _ => rfl⟩
  · rw [if_neg e1] at h
    by_cases e2 : c = 124
    · rw [if_pos e2] at h; cases h; exact ⟨Or.inl rfl, by omega, fun z => absurd z (by omega), fun _ => rfl⟩
    · rw [if_neg e2] at h
      by_cases e3 : c = 41
      · rw [if_pos e3] at h
        rcases List.eq_nil_or_concat K with rfl | ⟨K0, L0, e⟩
        · cases h
        · rw [List.concat_eq_append] at e
          subst e
          rw [List.getLast?_concat] at h
          dsimp only at h
          rw [List.dropLast_concat] at h
          cases h
          exact ⟨Or.inr rfl, by omega, fun _ => by rw [List.length_append]; rfl, fun z => absurd e3 z⟩
      · rw [if_neg e3] at h; cases h
def qi_n (c : Nat → Nat) (k : Nat) (q : qs_T) : Prop := q.1 ≤ 5 ∧ q.2.2.2.1.length ≤ 6 ∧ (q.1 = 1 → 1 ≤ k ∧ q.2.2.1 = [sl_n (c (k - 1))] ∧ 97 ≤ c (k - 1) ∧ c (k - 1) ≤ 122)
theorem qs_st {WP : Bool → Option Nat → List Nat → Nat → Bool} {TP : Nat → Nat → Bool} {md : Nat} {fo : Option Nat} {ls : List Nat} {K : List lv_T} {L : lv_T} {x : Nat → Bool} {c : Nat} {q : qs_T} (hK : K.length ≤ 6) (h : qs_n WP TP md fo ls K L x c = some q) : q.1 ≤ 5 ∧ q.2.2.2.1.length ≤ 6 ∧ (c = 40 → q.2.2.2.1.length = K.length + 1) ∧ (c = 41 → q.2.2.2.1.length + 1 = K.length) ∧ (c ≠ 40 → c ≠ 41 → q.2.2.2.1.length = K.length) ∧ (q.1 = 1 → q.2.2.1 = [sl_n c] ∧ 97 ≤ c ∧ c ≤ 122) := by
  have beq : ∀ {L' : lv_T} {x' : Nat → Bool}, be_n K L' x' c = some q → q.1 ≤ 5 ∧ q.2.2.2.1.length ≤ 6 ∧ (c = 40 → q.2.2.2.1.length = K.length + 1) ∧ (c = 41 → q.2.2.2.1.length + 1 = K.length) ∧ (c ≠ 40 → c ≠ 41 → q.2.2.2.1.length = K.length) ∧ (q.1 = 1 → q.2.2.1 = [sl_n c] ∧ 97 ≤ c ∧ c ≤ 122) := fun {L' x'} hb => by
    obtain ⟨b1, b2, b3, b4⟩ := be_st hb
    refine ⟨by omega, ?_, fun z => absurd z b2, b3, fun _ z => b4 z, fun z => by omega⟩
    by_cases e : c = 41
    · have := b3 e; omega
    · have := b4 e; omega
  unfold qs_n at h
  by_cases m0 : md = 0
  · rw [if_pos m0] at h
    by_cases e1 : c = 33
    · rw [if_pos e1] at h; cases h
      exact ⟨Nat.zero_le _, hK, fun z => absurd z (by omega), fun z => absurd z (by omega), fun _ _ => rfl, fun z => nn_a rfl z⟩
    · rw [if_neg e1] at h
      by_cases e2 : c = 40
      · rw [if_pos e2] at h
        by_cases e6 : K.length = 6
        · rw [if_pos e6] at h; cases h
        · rw [if_neg e6] at h; cases h
          have hl : (K ++ [L]).length = K.length + 1 := by rw [List.length_append]; rfl
          exact ⟨Nat.zero_le _, by dsimp only; omega, fun _ => hl, fun z => absurd z (by omega), fun z => absurd e2 z, fun z => nn_a rfl z⟩
      · rw [if_neg e2] at h
        by_cases e3 : 0 < sl_n c
        · rw [if_pos e3] at h; cases h
          have := sl_in e3
          exact ⟨Nat.le_of_ble_eq_true rfl, hK, fun z => absurd z e2, fun z => absurd z (by omega), fun _ _ => rfl, fun _ => ⟨rfl, this⟩⟩
        · rw [if_neg e3] at h; cases h
  · rw [if_neg m0] at h
    by_cases m3 : md = 3
    · rw [if_pos m3] at h
      by_cases e3 : 0 < sl_n c
      · rw [if_pos e3] at h; cases h
        have := sl_in e3
        exact ⟨Nat.le_of_ble_eq_true rfl, hK, fun z => absurd z (by omega), fun z => absurd z (by omega), fun _ _ => rfl, fun z => nn_a rfl z⟩
      · rw [if_neg e3] at h; cases h
    · rw [if_neg m3] at h
      by_cases m4 : md = 4
      · rw [if_pos m4] at h
        by_cases e3 : 48 ≤ c ∧ c ≤ 55
        · rw [if_pos e3] at h; cases h
          exact ⟨Nat.le_of_ble_eq_true rfl, hK, fun z => absurd z (by omega), fun z => absurd z (by omega), fun _ _ => rfl, fun z => nn_a rfl z⟩
        · rw [if_neg e3] at h; cases h
      · rw [if_neg m4] at h
        by_cases m5 : md = 5
        · rw [if_pos m5] at h; exact beq h
        · rw [if_neg m5] at h
          by_cases e3 : 0 < sl_n c
          · rw [if_pos e3] at h; cases h
            have := sl_in e3
            exact ⟨Nat.le_of_ble_eq_true rfl, hK, fun z => absurd z (by omega), fun z => absurd z (by omega), fun _ _ => rfl, fun z => nn_a rfl z⟩
          · rw [if_neg e3] at h
            by_cases e4 : c = 42
            · rw [if_pos e4] at h; cases h
              exact ⟨Nat.le_of_ble_eq_true rfl, hK, fun z => absurd z (by omega), fun z => absurd z (by omega), fun _ _ => rfl, fun z => nn_a rfl z⟩
            · rw [if_neg e4] at h
              by_cases e5 : md = 1 ∧ c = 58
              · rw [if_pos e5] at h
                have := e5.2
                revert h
                cases fn_n ls with
                | none => intro h; cases h
                | some o =>
                  cases o with
                  | none => intro h; cases h; exact ⟨Nat.le_of_ble_eq_true rfl, hK, fun z => absurd z (by omega), fun z => absurd z (by omega), fun _ _ => rfl, fun z => nn_a rfl z⟩
                  | some f => intro h; cases h; exact ⟨Nat.le_of_ble_eq_true rfl, hK, fun z => absurd z (by omega), fun z => absurd z (by omega), fun _ _ => rfl, fun z => nn_a rfl z⟩
              · rw [if_neg e5] at h; exact beq h
theorem qi_st {WP : Bool → Option Nat → List Nat → Nat → Bool} {TP : Nat → Nat → Bool} {c : Nat → Nat} {k : Nat} {q q' : qs_T} (hi : qi_n c k q) (h : qs_n WP TP q.1 q.2.1 q.2.2.1 q.2.2.2.1 q.2.2.2.2.1 q.2.2.2.2.2 (c k) = some q') : qi_n c (k + 1) q' := by
  obtain ⟨s1, s2, s3, s4, s5, s6⟩ := qs_st hi.2.1 h
  exact ⟨s1, s2, fun z => ⟨by omega, s6 z⟩⟩
section FLM
variable {vv : hp_V} {ww : hp_W} {aa : hp_V} {bb : hp_B} {WP : Bool → Option Nat → List Nat → Nat → Bool} {TP : Nat → Nat → Bool} {c : Nat → Nat} {n : Nat}
def ql_M (aa : hp_V) (n : Nat) (c : Nat → Nat) : Prop := n ≤ 40 ∧ ∀ k, k < n → aa 127 (1200 + k) = nI (c k) ∧ c k < 256
theorem ql_at (h : ql_M aa n c) {k : Nat} (hk : k < n) : f_Mod_at (hp_mk vv ww aa bb) 126 30 (nI k) = some (nI (c k), hp_mk vv ww aa bb) := by
  have h1 := h.1
  have e := mo_at (vv := vv) (ww := ww) (aa := aa) (bb := bb) (l := 30) (k := k) (by omega)
  have e' : f_Mod_at (hp_mk vv ww aa bb) 126 30 (nI k) = some (aa 127 (1200 + k), hp_mk vv ww aa bb) := e
  rw [e', (h.2 k hk).1]
theorem fq_M (h : ql_M aa n c) : ∀ (fu t k : Nat) (q : qs_T), k + t = n → t < fu → qi_n c k q → f_Mod_fault_7 fu (hp_mk vv ww aa bb) 126 (nI n) (nI q.1) (nI q.2.2.2.1.length) (nI k) = some ((ep_n WP TP c t k q).1, hp_mk vv ww aa bb) := by
  have h40 := h.1
  intro fu
  induction fu with
  | zero => intro t k q _ h; omega
  | succ fu ih =>
    intro t k q hk ht hi
    obtain ⟨md, fo, ls, K, L, x⟩ := q
    obtain ⟨i1, i2, i3⟩ := hi
    dsimp only at i1 i2 i3 ⊢
    cases t with
    | zero =>
      have hkn : k = n := by omega
      subst hkn
      rw [f_Mod_fault_7, if_pos (nI_le (Nat.le_refl _) (by omega))]
      unfold f_Mod_fault_103 f_Mod_fault_107 f_Mod_fault_108
      show _ = some (if qf_b (md, fo, ls, K, L, x) = true then -1 else nI k, _)
      have hqf : qf_b (md, fo, ls, K, L, x) = decide (K.length = 0 ∧ (md = 1 ∨ md = 2 ∨ md = 5)) := rfl
      rw [hqf]
      by_cases e0 : K.length = 0
      · rw [if_pos (show nI K.length = 0 by rw [e0]; rfl)]
        by_cases m1 : md = 1
        · rw [if_pos (show nI md = 1 by rw [m1]; rfl), decide_eq_true ⟨e0, by omega⟩]; rfl
        · rw [if_neg (show ¬ nI md = (1 : Int32) from nI_ne (b := 1) (by omega) (by omega) m1)]
          by_cases m2 : md = 2
          · rw [if_pos (show nI md = 2 by rw [m2]; rfl), decide_eq_true ⟨e0, by omega⟩]; rfl
          · rw [if_neg (show ¬ nI md = (2 : Int32) from nI_ne (b := 2) (by omega) (by omega) m2)]
            by_cases m5 : md = 5
            · rw [if_pos (show nI md = 5 by rw [m5]; rfl), decide_eq_true ⟨e0, by omega⟩]; rfl
            · rw [if_neg (show ¬ nI md = (5 : Int32) from nI_ne (b := 5) (by omega) (by omega) m5), decide_eq_false (by omega)]; rfl
      · rw [if_neg (nI_ne0 (by omega) (by omega)), decide_eq_false (fun z => e0 z.1)]; rfl
    | succ t =>
      have hkn : k < n := by omega
      have hck := (h.2 k hkn).2
      rw [f_Mod_fault_7, if_neg (nI_ge hkn (by omega)), is_126, gd_t, ql_at h hkn, bd_s, ep_s]
      dsimp only
      have nxt : ∀ c', c' < 256 → (md = 1 → ls = [sl_n c'] ∧ 97 ≤ c' ∧ c' ≤ 122) → f_Mod_fault_46 (f_Mod_fault_7 fu) (hp_mk vv ww aa bb) 126 (nI n) (nI K.length) (nI k) (nI (c k)) (nI c') (nI (c k)) (nI md) (some 126) = some ((match qs_n WP TP md fo ls K L x (c k) with
          | none => (nI k, md, fo, ls, K, L, x)
          | some q' => ep_n WP TP c t (k + 1) q').1, hp_mk vv ww aa bb) := fun c' hc' hm => by
        unfold f_Mod_fault_46
        rw [ob_s, is_126, gd_t, nx_M (WP := WP) (TP := TP) (fo := fo) (L := L) (x := x) i2 i1 hck hc' hm, bd_s]
        cases ho : qs_n WP TP md fo ls K L x (c k) with
        | none => rw [if_neg (show ¬ (0 : Int32) ≤ nx_v none by decide)]
        | some q' =>
          obtain ⟨s1, s2, s3, s4, s5, s6⟩ := qs_st i2 ho
          have hi' : qi_n c (k + 1) q' := ⟨s1, s2, fun z => ⟨by omega, s6 z⟩⟩
          have e := ih t (k + 1) q' (by omega) (by omega) hi'
          rw [if_pos (show (0 : Int32) ≤ nx_v (some q') from nI_le (Nat.zero_le _) (by omega))]
          dsimp only
          have ev : nx_v (some q') = nI q'.1 := rfl
          rw [ev]
          unfold f_Mod_fault_68 f_Mod_fault_78
          by_cases e40 : c k = 40
          · rw [if_pos (show nI (c k) = 40 by rw [e40]; rfl), if_neg (show ¬ nI (c k) = (41 : Int32) from nI_ne (b := 41) (by omega) (by omega) (by omega)), nI_1, nI_1, ← s3 e40]
            exact e
          · rw [if_neg (show ¬ nI (c k) = (40 : Int32) from nI_ne (b := 40) (by omega) (by omega) e40)]
            by_cases e41 : c k = 41
            · rw [if_pos (show nI (c k) = 41 by rw [e41]; rfl), ← s4 e41, nI_am1, nI_pred, nI_1]
              exact e
            · rw [if_neg (show ¬ nI (c k) = (41 : Int32) from nI_ne (b := 41) (by omega) (by omega) e41), ← s5 e40 e41, nI_1]
              exact e
      by_cases k0 : k = 0
      · rw [if_pos (show nI k ≤ 0 by rw [k0]; decide)]
        exact nxt 0 (by omega) (fun z => by have := (i3 z).1; omega)
      · rw [if_neg (nI_nle (by omega) (by omega)), is_126, gd_t]
        have ek : nI k - 1 = nI (k - 1) := by
          have := nI_pred (k - 1)
          rwa [Nat.sub_add_cancel (by omega)] at this
        rw [ek, ql_at h (show k - 1 < n by omega), bd_s]
        exact nxt (c (k - 1)) (h.2 (k - 1) (by omega)).2 (fun z => (i3 z).2)
end FLM
