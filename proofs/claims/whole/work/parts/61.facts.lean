/-! what the cells are, by families; numbers -/
theorem in_nI {k len : Nat} (h : k < len) (hl : len < 2 ^ 31) : m_in (nI k) len = true := by
  unfold m_in
  rw [nI_clamp (by omega)]
  simp only [Bool.and_eq_true, decide_eq_true_eq]
  exact ⟨nI_pos' (by omega), h⟩
theorem lit_I (n : Nat) : (OfNat.ofNat n : Int32) = nI n := rfl
theorem sk_L {i : Nat} (h : hp_isL i = true) : hp_sk i = (1, 1, 0, [(0, i + 1), (1, 0)], hp_nof) := by
  unfold hp_sk; rw [if_pos h]
theorem isL_C {i : Nat} (h : hp_isL i = true) : hp_isC (i + 1) = true := by
  simp only [hp_isL, hp_isC, Bool.or_eq_true, Bool.and_eq_true, beq_iff_eq, decide_eq_true_eq] at h ⊢
  omega
theorem isC_nL {i : Nat} (h : hp_isC i = true) : ¬ hp_isL i = true := by
  simp only [hp_isL, hp_isC, Bool.or_eq_true, Bool.and_eq_true, beq_iff_eq, decide_eq_true_eq] at h ⊢
  omega
theorem sk_C {i : Nat} (h : hp_isC i = true) : hp_sk i = (2, 1, 40, [], hp_nof) := by
  unfold hp_sk; rw [if_neg (isC_nL h), if_pos h]
theorem isL_d {k : Nat} (h : k < 30) : hp_isL (5 + 2 * k) = true := by
  simp only [hp_isL, Bool.or_eq_true, Bool.and_eq_true, beq_iff_eq, decide_eq_true_eq]
  omega
theorem isL_1 : hp_isL 1 = true := rfl
theorem isL_67 : hp_isL 67 = true := rfl
theorem isM_nL {i : Nat} (h : hp_isM i = true) : ¬ hp_isL i = true ∧ ¬ hp_isC i = true := by
  simp only [hp_isL, hp_isC, hp_isM, Bool.or_eq_true, Bool.and_eq_true, beq_iff_eq, decide_eq_true_eq] at h ⊢
  omega
theorem sk_M {i : Nat} (h : hp_isM i = true) : hp_sk i = (if (i - 77) % 4 = 0 then (1, 4, 0, hp_msg i, hp_nof) else if (i - 77) % 4 = 1 then (2, 0, 4, [], hp_nof) else if (i - 77) % 4 = 2 then (3, 2, 50, [], hp_nof) else (2, 0, 50, [], hp_nof)) := by
  unfold hp_sk; rw [if_neg (isM_nL h).1, if_neg (isM_nL h).2, if_pos h]
theorem isM_k {i : Nat} (h1 : 77 ≤ i) (h2 : i < 125) : hp_isM i = true := by
  simp only [hp_isM, Bool.and_eq_true, decide_eq_true_eq]; omega
theorem sk_m0 {m : Nat} (h : m < 12) : hp_sk (77 + 4 * m) = (1, 4, 0, hp_msg (77 + 4 * m), hp_nof) := by
  rw [sk_M (isM_k (by omega) (by omega)), if_pos (by omega)]
theorem sk_m1 {m : Nat} (h : m < 12) : hp_sk (77 + 4 * m + 1) = (2, 0, 4, [], hp_nof) := by
  rw [sk_M (isM_k (by omega) (by omega)), if_neg (by omega), if_pos (by omega)]
theorem sk_m2 {m : Nat} (h : m < 12) : hp_sk (77 + 4 * m + 2) = (3, 2, 50, [], hp_nof) := by
  rw [sk_M (isM_k (by omega) (by omega)), if_neg (by omega), if_neg (by omega), if_pos (by omega)]
theorem sk_m3 {m : Nat} (h : m < 12) : hp_sk (77 + 4 * m + 3) = (2, 0, 50, [], hp_nof) := by
  rw [sk_M (isM_k (by omega) (by omega)), if_neg (by omega), if_neg (by omega), if_neg (by omega)]
theorem isI_L {i : Nat} (h : hp_isL i = true) : hp_isI i 1 1 = true := by unfold hp_isI; rw [sk_L h]; rfl
theorem ref_L {i : Nat} (h : hp_isL i = true) : hp_ref i 1 0 = some (some (i + 1)) := by unfold hp_ref; rw [sk_L h]; rfl
theorem isI_m {m k : Nat} (h : m < 12) (h1 : 3 ≤ k) (h2 : k < 9) : hp_isI (77 + 4 * m) 4 k = true := by
  unfold hp_isI; rw [sk_m0 h]
  rcases (show k = 3 ∨ k = 4 ∨ k = 5 ∨ k = 6 ∨ k = 7 ∨ k = 8 by omega) with rfl | rfl | rfl | rfl | rfl | rfl <;> rfl
theorem ref_m {m k : Nat} (h : m < 12) (h2 : k < 3) : hp_ref (77 + 4 * m) 4 k = some (some (77 + 4 * m + 1 + k)) := by
  unfold hp_ref; rw [sk_m0 h]
  rcases (show k = 0 ∨ k = 1 ∨ k = 2 by omega) with rfl | rfl | rfl <;> rfl
theorem sk_4 : hp_sk 4 = (4, 4, 30, [], fun k => if k < 30 then some (5 + 2 * k) else none) := rfl
theorem sk_76 : hp_sk 76 = (4, 5, 12, [], fun k => if k < 12 then some (77 + 4 * k) else none) := rfl
theorem isJ_lt {i : Nat} (h : i = 66 ∨ i = 75) : hp_isJ i 3 0 = true ∧ hp_isI i 3 1 = true := by rcases h with rfl | rfl <;> exact ⟨rfl, rfl⟩
section FCT
variable {vv : hp_V} {ww : hp_W} {aa : hp_V} {bb : hp_B}
theorem bd_s {α β : Type} {x : α} {g : m_G} {k : α → m_G → Option β} : m_bd (some (x, g)) k = k x g := rfl
theorem gd_t {β : Type} {k : Option β} : m_gd true k = k := rfl
theorem ob_s {α β : Type} {x : α} {k : α → Option β} : (some x).bind k = k x := rfl
theorem pL_lt {i : Nat} (h : i = 66 ∨ i = 75) {x : Int64} : m_pL (hp_mk vv ww aa bb) i 3 0 x = some (hp_mk vv (up_w ww i x) aa bb) := by
  refine pL_mk (isJ_lt h).1 (fun q ts f e j t ht h0 h1 => ?_)
  have e2 : hp_sk i = (1, 3, 0, [(2, 0), (1, 0)], hp_nof) := by rcases h with rfl | rfl <;> rfl
  have e3 : [(2, 0), (1, 0)] = ts := by
    have := e2.symm.trans e
    injection this with _ a; injection a with _ a; injection a with _ a; injection a with a _
  subst e3
  match j, ht with
  | 0, _ => rfl
  | 1, ht => cases ht; exact absurd rfl h1
  | j + 2, ht => simp at ht
theorem pL_mod {x : Int64} : m_pL (hp_mk vv ww aa bb) 126 8 26 x = some (hp_mk vv (up_w ww 126 x) aa bb) := by
  refine pL_mk rfl (fun q ts f e j t ht h0 h1 => ?_)
  have e2 : hp_sk 126 = (1, 8, 0, hp_mod, hp_nof) := rfl
  have e3 : hp_mod = ts := by
    have := e2.symm.trans e
    injection this with _ a; injection a with _ a; injection a with _ a; injection a with a _
  subst e3
  have hd : ∀ j, j < 28 → ∀ t, hp_mod[j]? = some t → t.1 ≠ 0 → t.1 ≠ 1 → j = 26 := by
    intro j hj
    have : hp_mod[j]? = some (hp_mod[j]'(by simpa [hp_mod] using hj)) := List.getElem?_eq_getElem _
    intro t ht h0 h1
    rw [this] at ht
    have ht := Option.some.inj ht
    subst ht
    revert h0 h1
    revert hj
    revert j
    decide +kernel
  exact hd j (by have := (List.getElem?_eq_some_iff.mp ht).1; simpa [hp_mod] using this) t ht h0 h1
theorem ldR_4 {k : Nat} (h : k < 30) : m_ldR (hp_mk vv ww aa bb) 4 4 (nI k) = some (some (5 + 2 * k)) := by
  rw [ldR_mk sk_4 (in_nI h (by omega)), nI_clamp (by omega)]
  simp [h]
theorem ldR_76 {k : Nat} (h : k < 12) : m_ldR (hp_mk vv ww aa bb) 76 5 (nI k) = some (some (77 + 4 * k)) := by
  rw [ldR_mk sk_76 (in_nI h (by omega)), nI_clamp (by omega)]
  simp [h]
theorem ld_n {i t len k : Nat} (h : hp_sk i = (2, t, len, [], hp_nof)) (hk : k < len) (hl : len < 2 ^ 31) : m_ld (hp_mk vv ww aa bb) i t (nI k) = some (aa i k) := by
  rw [ld_mk h (in_nI hk hl), nI_clamp (by omega)]
theorem ldL_n {i t len k : Nat} (h : hp_sk i = (3, t, len, [], hp_nof)) (hk : k < len) (hl : len < 2 ^ 31) : m_ldL (hp_mk vv ww aa bb) i t (nI k) = some (bb i k) := by
  rw [ldL_mk h (in_nI hk hl), nI_clamp (by omega)]
theorem st_n {i t len k : Nat} {y : Int32} (h : hp_sk i = (2, t, len, [], hp_nof)) (hk : k < len) (hl : len < 2 ^ 31) : m_st (hp_mk vv ww aa bb) i t (nI k) y = some (hp_mk vv ww (up_a aa i (upd (aa i) k y)) bb) := by
  rw [st_mk h (in_nI hk hl), nI_clamp (by omega)]
theorem stL_n {i t len k : Nat} {y : Int64} (h : hp_sk i = (3, t, len, [], hp_nof)) (hk : k < len) (hl : len < 2 ^ 31) : m_stL (hp_mk vv ww aa bb) i t (nI k) y = some (hp_mk vv ww aa (up_b bb i (vp_updL (bb i) k y))) := by
  rw [stL_mk h (in_nI hk hl), nI_clamp (by omega)]
theorem is_L {i : Nat} (h : hp_isL i = true) : m_is (hp_mk vv ww aa bb) i 1 = true := is_mk (sk_L h)
theorem is_m {m : Nat} (h : m < 12) : m_is (hp_mk vv ww aa bb) (77 + 4 * m) 4 = true := is_mk (sk_m0 h)
theorem is_lt {i : Nat} (h : i = 66 ∨ i = 75) : m_is (hp_mk vv ww aa bb) i 3 = true := by
  have e2 : hp_sk i = (1, 3, 0, [(2, 0), (1, 0)], hp_nof) := by rcases h with rfl | rfl <;> rfl
  exact is_mk e2
end FCT
