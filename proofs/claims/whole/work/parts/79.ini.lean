/-! both objects made: the first heap -/
def i0_v : hp_V := fun a k => if (a = 0 ∧ k = 9) ∨ (a = 126 ∧ k = 21) ∨ (a = 71 ∧ k = 6) then -1 else 0
def i0_a : hp_V := fun a => if a = 70 then (fun k => if k < 64 then -1 else 0) else fun _ => 0
def i0_F : m_G := hp_mk i0_v (fun _ => 0) i0_a (fun _ _ => 0)
theorem i0_n {a k : Nat} (h : ¬ ((a = 0 ∧ k = 9) ∨ (a = 126 ∧ k = 21) ∨ (a = 71 ∧ k = 6))) : i0_v a k = 0 := by unfold i0_v; rw [if_neg h]
theorem i0_b {a : Nat} (h : a ≠ 70) : i0_a a = fun _ => 0 := by unfold i0_a; rw [if_neg h]
theorem F_L {i : Nat} (h : hp_isL i = true) : i0_F i = .inr (1, [.ref (i + 1), .int 0]) := by
  have hi : ¬ ((i = 0 ∧ 1 = 9) ∨ (i = 126 ∧ 1 = 21) ∨ (i = 71 ∧ 1 = 6)) := by omega
  have e : i0_v i 1 = 0 := i0_n hi
  unfold i0_F hp_mk
  rw [sk_L h]
  show (Sum.inr (1, [Value.ref (i + 1), Value.int (i0_v i 1)]) : m_E) = _
  rw [e]
theorem F_C {i : Nat} (h : hp_isC i = true) : i0_F i = .inl (1, 40, .inl (fun _ => 0)) := by
  have hi : i ≠ 70 := fun z => by rw [z] at h; cases h
  unfold i0_F hp_mk
  rw [sk_C h]
  show (Sum.inl (1, 40, Sum.inl (i0_a i)) : m_E) = _
  rw [i0_b hi]
theorem F_hi {i : Nat} (h : 145 ≤ i) : i0_F i = m_dead := by
  have h1 : hp_isL i = false := by
    unfold hp_isL; simp; omega
  have h2 : hp_isC i = false := by
    unfold hp_isC; simp; omega
  have h3 : hp_isM i = false := by
    unfold hp_isM; simp; omega
  have h4 : hp_sk i = (0, 0, 0, [], hp_nof) := by
    unfold hp_sk
    rw [h1, h2, h3, if_neg (by decide), if_neg (by decide), if_neg (by decide)]
    split <;> first | rfl | omega
  unfold i0_F hp_mk
  rw [h4]; rfl
theorem pf_g {g : m_G} {a c k : Nat} {fs : List Value} {v : Value} (h : g a = .inr (c, fs)) (hk : k < fs.length) : m_pf g a c k v = some (va_up g a (.inr (c, fs.set k v))) := by
  unfold m_pf; rw [h]; dsimp only; rw [if_pos ⟨rfl, hk⟩]
theorem pf_e {g : m_G} {a c k : Nat} {fs fs' : List Value} {v : Value} (h : g a = .inr (c, fs)) (hk : k < fs.length) (e : fs.set k v = fs') : m_pf g a c k v = some (va_up g a (.inr (c, fs'))) := by rw [← e]; exact pf_g h hk
theorem gf_g {g : m_G} {a c k : Nat} {fs : List Value} (h : g a = .inr (c, fs)) : m_gf g a c k = fs[k]? := by
  unfold m_gf; rw [h]; dsimp only; rw [if_pos rfl]
/-- a line -/
theorem li_n {g : m_G} {n : Nat} (h : g n = .inr (1, [.null, .int 0])) : ∃ g', f_Line_init (n + 1) g n = some ((), g') ∧ g' n = .inr (1, [.ref (n + 1), .int 0]) ∧ g' (n + 1) = .inl (1, 40, .inl (fun _ => 0)) ∧ ∀ i, i ≠ n → i ≠ n + 1 → g' i = g i := by
  have e1 : va_up g (n + 1) (.inl (1, 40, .inl (fun _ => 0))) n = .inr (1, [.null, .int 0]) := by rw [va_up_ne _ _ (by omega)]; exact h
  refine ⟨va_up (va_up (va_up g (n + 1) (.inl (1, 40, .inl (fun _ => 0)))) n (.inr (1, [.ref (n + 1), .int 0]))) n (.inr (1, [.ref (n + 1), .int 0])), ?_, va_up_self _ _ _, ?_, fun i h1 h2 => ?_⟩
  · unfold f_Line_init m_nw m_pR m_pI
    rw [ob_s, pf_e (fs' := [.ref (n + 1), .int 0]) e1 (by show 0 < 2; omega) rfl, ob_s]
    rw [pf_e (fs := [.ref (n + 1), .int 0]) (fs' := [.ref (n + 1), .int 0]) (va_up_self _ _ _) (by show 1 < 2; omega) rfl, ob_s]
  · rw [va_up_ne _ _ (by omega), va_up_ne _ _ (by omega), va_up_self]
  · rw [va_up_ne _ _ h1, va_up_ne _ _ h1, va_up_ne _ _ h2]
theorem le_n {g : m_G} {a : Nat} (h : g a = .inr (3, [.long 0, .int 0])) : ∃ g', f_Letters_init g a = some ((), g') ∧ ∀ i, g' i = g i := by
  refine ⟨va_up (va_up g a (.inr (3, [.long 0, .int 0]))) a (.inr (3, [.long 0, .int 0])), ?_, fun i => ?_⟩
  · unfold f_Letters_init m_pL m_pI
    rw [pf_e (fs' := [.long 0, .int 0]) h (by show 0 < 2; omega) rfl, ob_s]
    rw [pf_e (fs := [.long 0, .int 0]) (fs' := [.long 0, .int 0]) (va_up_self _ _ _) (by show 1 < 2; omega) rfl, ob_s]
  · by_cases e : i = a
    · rw [e, va_up_self, h]
    · rw [va_up_ne _ _ e, va_up_ne _ _ e]
theorem me_n {g : m_G} {n : Nat} (h : g n = .inr (4, [.null, .null, .null, .int 0, .int 0, .int 0, .int 0, .int 0, .int 0])) : ∃ g', f_Message_init (n + 1) g n = some ((), g') ∧ g' n = .inr (4, [.ref (n + 1), .ref (n + 2), .ref (n + 3), .int 0, .int 0, .int 0, .int 0, .int 0, .int 0]) ∧ g' (n + 1) = .inl (0, 4, .inl (fun _ => 0)) ∧ g' (n + 2) = .inl (2, 50, .inr (.inl (fun _ => 0))) ∧ g' (n + 3) = .inl (0, 50, .inl (fun _ => 0)) ∧ ∀ i, i ≠ n → i ≠ n + 1 → i ≠ n + 2 → i ≠ n + 3 → g' i = g i := by
  obtain ⟨A1, hA1⟩ : ∃ x : m_E, x = .inl (0, 4, .inl (fun _ => 0)) := ⟨_, rfl⟩
  obtain ⟨A2, hA2⟩ : ∃ x : m_E, x = .inl (2, 50, .inr (.inl (fun _ => 0))) := ⟨_, rfl⟩
  obtain ⟨A3, hA3⟩ : ∃ x : m_E, x = .inl (0, 50, .inl (fun _ => 0)) := ⟨_, rfl⟩
  obtain ⟨M1, hM1⟩ : ∃ x : m_E, x = .inr (4, [.ref (n + 1), .null, .null, .int 0, .int 0, .int 0, .int 0, .int 0, .int 0]) := ⟨_, rfl⟩
  obtain ⟨M2, hM2⟩ : ∃ x : m_E, x = .inr (4, [.ref (n + 1), .ref (n + 2), .null, .int 0, .int 0, .int 0, .int 0, .int 0, .int 0]) := ⟨_, rfl⟩
  obtain ⟨M3, hM3⟩ : ∃ x : m_E, x = .inr (4, [.ref (n + 1), .ref (n + 2), .ref (n + 3), .int 0, .int 0, .int 0, .int 0, .int 0, .int 0]) := ⟨_, rfl⟩
  have last : ∀ k, 3 ≤ k → k < 9 → ∀ g : m_G, m_pf (va_up g n M3) n 4 k (.int 0) = some (va_up (va_up g n M3) n M3) := fun k h3 h9 g => by
    rw [pf_g (fs := [.ref (n + 1), .ref (n + 2), .ref (n + 3), .int 0, .int 0, .int 0, .int 0, .int 0, .int 0]) (by rw [va_up_self, hM3]) (by show k < 9; exact h9)]
    have hk : k = 3 ∨ k = 4 ∨ k = 5 ∨ k = 6 ∨ k = 7 ∨ k = 8 := by omega
    rcases hk with rfl | rfl | rfl | rfl | rfl | rfl <;> (rw [hM3]; rfl)
  refine ⟨va_up (va_up (va_up (va_up (va_up (va_up (va_up (va_up (va_up (va_up (va_up (va_up g (n + 1) A1) n M1) (n + 2) A2) n M2) (n + 3) A3) n M3) n M3) n M3) n M3) n M3) n M3) n M3, ?_, ?_, ?_, ?_, ?_, fun i h1 h2 h3 h4 => ?_⟩
  · unfold f_Message_init m_nw m_pR m_pI m_pZ
    rw [← hA1, ← hA2, ← hA3, ob_s]
    rw [pf_g (fs := [.null, .null, .null, .int 0, .int 0, .int 0, .int 0, .int 0, .int 0]) (by rw [va_up_ne _ _ (by omega)]; exact h) (by show 0 < 9; omega), ob_s]
    rw [show (Sum.inr (4, [Value.null, .null, .null, .int 0, .int 0, .int 0, .int 0, .int 0, .int 0].set 0 (m_rv (some (n + 1)))) : m_E) = M1 from by rw [hM1]; rfl, ob_s]
    rw [pf_g (fs := [.ref (n + 1), .null, .null, .int 0, .int 0, .int 0, .int 0, .int 0, .int 0]) (by rw [va_up_ne _ _ (by omega), va_up_self, hM1]) (by show 1 < 9; omega), ob_s]
    rw [show (Sum.inr (4, [Value.ref (n + 1), .null, .null, .int 0, .int 0, .int 0, .int 0, .int 0, .int 0].set 1 (m_rv (some (n + 1 + 1)))) : m_E) = M2 from by rw [hM2]; rfl, ob_s]
    rw [pf_g (fs := [.ref (n + 1), .ref (n + 2), .null, .int 0, .int 0, .int 0, .int 0, .int 0, .int 0]) (by rw [va_up_ne _ _ (by omega), va_up_self, hM2]) (by show 2 < 9; omega), ob_s]
    rw [show (Sum.inr (4, [Value.ref (n + 1), .ref (n + 2), .null, .int 0, .int 0, .int 0, .int 0, .int 0, .int 0].set 2 (m_rv (some (n + 1 + 2)))) : m_E) = M3 from by rw [hM3]; rfl]
    rw [if_pos (Or.inl rfl), last 3 (by omega) (by omega), ob_s, last 4 (by omega) (by omega), ob_s, last 5 (by omega) (by omega), ob_s, last 6 (by omega) (by omega), ob_s, last 7 (by omega) (by omega), ob_s, last 8 (by omega) (by omega), ob_s]
  · rw [va_up_self, hM3]
  · rw [va_up_ne _ _ (by omega), va_up_ne _ _ (by omega), va_up_ne _ _ (by omega), va_up_ne _ _ (by omega), va_up_ne _ _ (by omega), va_up_ne _ _ (by omega), va_up_ne _ _ (by omega), va_up_ne _ _ (by omega), va_up_ne _ _ (by omega), va_up_ne _ _ (by omega), va_up_ne _ _ (by omega), va_up_self, hA1]
  · rw [va_up_ne _ _ (by omega), va_up_ne _ _ (by omega), va_up_ne _ _ (by omega), va_up_ne _ _ (by omega), va_up_ne _ _ (by omega), va_up_ne _ _ (by omega), va_up_ne _ _ (by omega), va_up_ne _ _ (by omega), va_up_ne _ _ (by omega), va_up_self, hA2]
  · rw [va_up_ne _ _ (by omega), va_up_ne _ _ (by omega), va_up_ne _ _ (by omega), va_up_ne _ _ (by omega), va_up_ne _ _ (by omega), va_up_ne _ _ (by omega), va_up_ne _ _ (by omega), va_up_self, hA3]
  · rw [va_up_ne _ _ h1, va_up_ne _ _ h1, va_up_ne _ _ h1, va_up_ne _ _ h1, va_up_ne _ _ h1, va_up_ne _ _ h1, va_up_ne _ _ h1, va_up_ne _ _ h4, va_up_ne _ _ h1, va_up_ne _ _ h3, va_up_ne _ _ h1, va_up_ne _ _ h2]
theorem tc_n {a n : Nat} (hne : a ≠ n) : ∀ (fu k : Nat) (g : m_G), k ≤ 64 → 64 - k < fu → g a = .inr (6, [.ref n]) → g n = .inl (0, 64, .inl (fun j => if j < k then -1 else 0)) → ∃ g', f_Threads_clear_2 fu g a (nI k) = some ((), g') ∧ g' n = .inl (0, 64, .inl (fun j => if j < 64 then -1 else 0)) ∧ ∀ i, i ≠ n → g' i = g i := by
  intro fu
  induction fu with
  | zero => intro k g _ h; omega
  | succ fu ih =>
    intro k g hk hf ha hn
    rw [f_Threads_clear_2]
    by_cases e : k = 64
    · subst e
      rw [if_pos (show (64 : Int32) ≤ nI 64 by decide)]
      exact ⟨g, rfl, hn, fun _ _ => rfl⟩
    · rw [if_neg (show ¬ (64 : Int32) ≤ nI k from nI_ge (b := 64) (by omega) (by omega))]
      have e1 : m_gR g a 6 0 = some (some n) := by
        unfold m_gR; rw [gf_g ha]; rfl
      have hin : m_in (nI k) 64 = true := by
        unfold m_in; rw [nI_clamp (by omega), decide_eq_true (nI_pos' (by omega)), decide_eq_true (show k < 64 by omega)]; rfl
      have e2 : m_st g n 0 (nI k) (-1) = some (va_up g n (.inl (0, 64, .inl (fun j => if j < k + 1 then -1 else 0)))) := by
        unfold m_st; rw [hn]; dsimp only; rw [if_pos ⟨rfl, hin⟩, nI_clamp (by omega)]
        refine congrArg (fun f => some (va_up g n (.inl (0, 64, .inl f)))) (funext fun j => ?_)
        show (if j = k then -1 else if j < k then -1 else 0) = _
        by_cases ej : j = k
        · rw [if_pos ej, if_pos (by omega)]
        · rw [if_neg ej]
          by_cases ek : j < k
          · rw [if_pos ek, if_pos (by omega)]
          · rw [if_neg ek, if_neg (by omega)]
      obtain ⟨g', x1, x2, x3⟩ := ih (k + 1) (va_up g n (.inl (0, 64, .inl (fun j => if j < k + 1 then -1 else 0)))) (by omega) (by omega) (by rw [va_up_ne _ _ hne]; exact ha) (va_up_self _ _ _)
      refine ⟨g', ?_, x2, fun i hi => ?_⟩
      · rw [e1, ob_s, ob_s, e2, ob_s, nI_1]; exact x1
      · rw [x3 i hi, va_up_ne _ _ hi]
theorem th_n {g : m_G} {n : Nat} (h : g n = .inr (6, [.null])) : ∃ g', f_Threads_init (n + 1) g n = some ((), g') ∧ g' n = .inr (6, [.ref (n + 1)]) ∧ g' (n + 1) = .inl (0, 64, .inl (fun j => if j < 64 then -1 else 0)) ∧ ∀ i, i ≠ n → i ≠ n + 1 → g' i = g i := by
  obtain ⟨g1, x1, x2, x3⟩ := tc_n (a := n) (n := n + 1) (by omega) m_fu 0 (va_up (va_up g (n + 1) (.inl (0, 64, .inl (fun _ => 0)))) n (.inr (6, [.ref (n + 1)]))) (by omega) (by unfold m_fu; omega) (va_up_self _ _ _) (by
    rw [va_up_ne _ _ (by omega), va_up_self]
    exact congrArg (fun f => Sum.inl (0, 64, Sum.inl f)) (funext fun j => (if_neg (Nat.not_lt_zero j)).symm))
  refine ⟨g1, ?_, by rw [x3 n (by omega), va_up_self], x2, fun i h1 h2 => by rw [x3 i h2, va_up_ne _ _ h1, va_up_ne _ _ h2]⟩
  unfold f_Threads_init m_nw m_pR
  rw [ob_s, pf_g (fs := [.null]) (by rw [va_up_ne _ _ (by omega)]; exact h) (by show 0 < 1; omega), ob_s]
  have his : m_is (va_up (va_up g (n + 1) (.inl (0, 64, .inl (fun _ => 0)))) n (.inr (6, [Value.null].set 0 (m_rv (some (n + 1)))))) n 6 = true := by
    unfold m_is; rw [va_up_self]; rfl
  rw [his, gd_t]
  unfold f_Threads_clear
  have x1' : f_Threads_clear_2 m_fu (va_up (va_up g (n + 1) (.inl (0, 64, .inl (fun _ => 0)))) n (.inr (6, [Value.null].set 0 (m_rv (some (n + 1)))))) n 0 = some ((), g1) := x1
  rw [x1', bd_s]
-- ==== the pieces together
theorem nw_g {g : m_G} {n : Nat} {x : m_E} : ∃ g', m_nw g n x = some g' ∧ g' n = x ∧ ∀ i, i ≠ n → g' i = g i := ⟨va_up g n x, rfl, va_up_self _ _ _, fun i h => va_up_ne _ _ h⟩
theorem pR_g {g : m_G} {a c k r : Nat} {fs fs' : List Value} (h : g a = .inr (c, fs)) (hk : k < fs.length) (e : fs.set k (.ref r) = fs') : ∃ g', m_pR g a c k (some r) = some g' ∧ g' a = .inr (c, fs') ∧ ∀ i, i ≠ a → g' i = g i := ⟨_, pf_e h hk e, va_up_self _ _ _, fun i h => va_up_ne _ _ h⟩
theorem pI_g {g : m_G} {a c k : Nat} {x : Int32} {fs fs' : List Value} (h : g a = .inr (c, fs)) (hk : k < fs.length) (e : fs.set k (.int x) = fs') : ∃ g', m_pI g a c k x = some g' ∧ g' a = .inr (c, fs') ∧ ∀ i, i ≠ a → g' i = g i := ⟨_, pf_e h hk e, va_up_self _ _ _, fun i h => va_up_ne _ _ h⟩
theorem gR_g {g : m_G} {a c k r : Nat} {fs : List Value} (h : g a = .inr (c, fs)) (e : fs[k]? = some (.ref r)) : m_gR g a c k = some (some r) := by
  unfold m_gR; rw [gf_g h, e]; rfl
theorem sR_g {g : m_G} {a t ci len k v : Nat} {x : Int32} {f f' : Nat → Option Nat} (h : g a = .inl (t, len, .inr (.inr (.inr (.inr f))))) (hx : x = nI k) (hk : k < len) (hl : len < 2 ^ 31) (hv : m_is g v ci = true) (e : va_up f k (some v) = f') : ∃ g', m_stR g a t ci x v = some g' ∧ g' a = .inl (t, len, .inr (.inr (.inr (.inr f')))) ∧ ∀ i, i ≠ a → g' i = g i := by
  refine ⟨va_up g a (.inl (t, len, .inr (.inr (.inr (.inr f'))))), ?_, va_up_self _ _ _, fun i h => va_up_ne _ _ h⟩
  have hin : m_in (nI k) len = true := by
    unfold m_in; rw [nI_clamp (by omega), decide_eq_true (nI_pos' (by omega)), decide_eq_true hk]; rfl
  unfold m_stR; rw [h, hx]; dsimp only; rw [if_pos ⟨rfl, hin, hv⟩, nI_clamp (by omega), e]
theorem re_n {g : m_G} (h : g 65 = .inr (5, [.null, .null])) : ∃ g', f_Reader_init 66 g 65 = some ((), g') ∧ g' 65 = .inr (5, [.ref 66, .ref 67]) ∧ g' 66 = .inr (3, [.long 0, .int 0]) ∧ g' 67 = .inr (1, [.ref 68, .int 0]) ∧ g' 68 = .inl (1, 40, .inl (fun _ => 0)) ∧ ∀ i, i < 65 ∨ 69 ≤ i → g' i = g i := by
  obtain ⟨g1, e1, a1, f1⟩ := nw_g (g := g) (n := 66) (x := .inr (3, [.long 0, .int 0]))
  obtain ⟨g2, e2, f2⟩ := le_n a1
  obtain ⟨g3, e3, a3, f3⟩ := pR_g (g := g2) (a := 65) (c := 5) (k := 0) (r := 66) (fs' := [.ref 66, .null]) (by rw [f2, f1 65 (by omega)]; exact h) (by show 0 < 2; omega) rfl
  obtain ⟨g4, e4, a4, f4⟩ := nw_g (g := g3) (n := 67) (x := .inr (1, [.null, .int 0]))
  obtain ⟨g5, e5, a5, b5, f5⟩ := li_n a4
  obtain ⟨g6, e6, a6, f6⟩ := pR_g (g := g5) (a := 65) (c := 5) (k := 1) (r := 67) (fs' := [.ref 66, .ref 67]) (by rw [f5 65 (by omega) (by omega), f4 65 (by omega)]; exact a3) (by show 1 < 2; omega) rfl
  refine ⟨g6, ?_, a6, ?_, ?_, ?_, fun i hi => ?_⟩
  · unfold f_Reader_init
    simp only [Nat.reduceAdd] at e5 ⊢
    rw [e1, ob_s, e2, bd_s, e3, ob_s, e4, ob_s, e5, bd_s, e6, ob_s]
  · rw [f6 66 (by omega), f5 66 (by omega) (by omega), f4 66 (by omega), f3 66 (by omega), f2]; exact a1
  · rw [f6 67 (by omega)]; exact a5
  · rw [f6 68 (by omega)]; exact b5
  · rw [f6 i (by omega), f5 i (by omega) (by omega), f4 i (by omega), f3 i (by omega), f2, f1 i (by omega)]
theorem qu_n {g : m_G} (h : g 71 = .inr (7, [.null, .null, .null, .null, .int 0, .int 0, .int 0])) : ∃ g', f_Query_init 72 g 71 = some ((), g') ∧ g' 71 = .inr (7, [.ref 72, .ref 73, .ref 74, .ref 75, .int 0, .int 0, .int (-1)]) ∧ g' 72 = .inl (0, 7, .inl (fun _ => 0)) ∧ g' 73 = .inl (0, 7, .inl (fun _ => 0)) ∧ g' 74 = .inl (3, 7, .inl (fun _ => 0)) ∧ g' 75 = .inr (3, [.long 0, .int 0]) ∧ ∀ i, i < 71 ∨ 76 ≤ i → g' i = g i := by
  obtain ⟨g1, e1, a1, f1⟩ := nw_g (g := g) (n := 72) (x := .inl (0, 7, .inl (fun _ => 0)))
  obtain ⟨g2, e2, a2, f2⟩ := pR_g (g := g1) (a := 71) (c := 7) (k := 0) (r := 72) (fs' := [.ref 72, .null, .null, .null, .int 0, .int 0, .int 0]) (by rw [f1 71 (by omega)]; exact h) (by show 0 < 7; omega) rfl
  obtain ⟨g3, e3, a3, f3⟩ := nw_g (g := g2) (n := 73) (x := .inl (0, 7, .inl (fun _ => 0)))
  obtain ⟨g4, e4, a4, f4⟩ := pR_g (g := g3) (a := 71) (c := 7) (k := 1) (r := 73) (fs' := [.ref 72, .ref 73, .null, .null, .int 0, .int 0, .int 0]) (by rw [f3 71 (by omega)]; exact a2) (by show 1 < 7; omega) rfl
  obtain ⟨g5, e5, a5, f5⟩ := nw_g (g := g4) (n := 74) (x := .inl (3, 7, .inl (fun _ => 0)))
  obtain ⟨g6, e6, a6, f6⟩ := pR_g (g := g5) (a := 71) (c := 7) (k := 2) (r := 74) (fs' := [.ref 72, .ref 73, .ref 74, .null, .int 0, .int 0, .int 0]) (by rw [f5 71 (by omega)]; exact a4) (by show 2 < 7; omega) rfl
  obtain ⟨g7, e7, a7, f7⟩ := nw_g (g := g6) (n := 75) (x := .inr (3, [.long 0, .int 0]))
  obtain ⟨g8, e8, f8⟩ := le_n a7
  obtain ⟨g9, e9, a9, f9⟩ := pR_g (g := g8) (a := 71) (c := 7) (k := 3) (r := 75) (fs' := [.ref 72, .ref 73, .ref 74, .ref 75, .int 0, .int 0, .int 0]) (by rw [f8, f7 71 (by omega)]; exact a6) (by show 3 < 7; omega) rfl
  obtain ⟨g10, e10, a10, f10⟩ := pI_g (g := g9) (a := 71) (c := 7) (k := 4) (x := 0) (fs' := [.ref 72, .ref 73, .ref 74, .ref 75, .int 0, .int 0, .int 0]) a9 (by show 4 < 7; omega) rfl
  obtain ⟨g11, e11, a11, f11⟩ := pI_g (g := g10) (a := 71) (c := 7) (k := 5) (x := 0) (fs' := [.ref 72, .ref 73, .ref 74, .ref 75, .int 0, .int 0, .int 0]) a10 (by show 5 < 7; omega) rfl
  obtain ⟨g12, e12, a12, f12⟩ := pI_g (g := g11) (a := 71) (c := 7) (k := 6) (x := -1) (fs' := [.ref 72, .ref 73, .ref 74, .ref 75, .int 0, .int 0, .int (-1)]) a11 (by show 6 < 7; omega) rfl
  have fr : ∀ i, i ≠ 71 → i ≠ 72 → i ≠ 73 → i ≠ 74 → i ≠ 75 → g12 i = g i := fun i h1 h2 h3 h4 h5 => by
    rw [f12 i h1, f11 i h1, f10 i h1, f9 i h1, f8, f7 i h5, f6 i h1, f5 i h4, f4 i h1, f3 i h3, f2 i h1, f1 i h2]
  refine ⟨g12, ?_, a12, ?_, ?_, ?_, ?_, fun i hi => fr i (by omega) (by omega) (by omega) (by omega) (by omega)⟩
  · unfold f_Query_init
    simp only [Nat.reduceAdd]
    rw [e1, ob_s, e2, ob_s, e3, ob_s, e4, ob_s, e5, ob_s, e6, ob_s, e7, ob_s, e8, bd_s, e9, ob_s, e10, ob_s, e11, ob_s, e12, ob_s]
  · rw [f12 72 (by omega), f11 72 (by omega), f10 72 (by omega), f9 72 (by omega), f8, f7 72 (by omega), f6 72 (by omega), f5 72 (by omega), f4 72 (by omega), f3 72 (by omega), f2 72 (by omega)]; exact a1
  · rw [f12 73 (by omega), f11 73 (by omega), f10 73 (by omega), f9 73 (by omega), f8, f7 73 (by omega), f6 73 (by omega), f5 73 (by omega), f4 73 (by omega)]; exact a3
  · rw [f12 74 (by omega), f11 74 (by omega), f10 74 (by omega), f9 74 (by omega), f8, f7 74 (by omega), f6 74 (by omega)]; exact a5
  · rw [f12 75 (by omega), f11 75 (by omega), f10 75 (by omega), f9 75 (by omega), f8]; exact a7
-- the draft
def dk_P (g0 : m_G) (k : Nat) (g : m_G) : Prop := g 3 = .inr (2, [.ref 4, .int 0]) ∧ g 4 = .inl (4, 30, .inr (.inr (.inr (.inr (fun j => if j < k then some (5 + 2 * j) else none))))) ∧ (∀ j, j < k → g (5 + 2 * j) = .inr (1, [.ref (6 + 2 * j), .int 0]) ∧ g (6 + 2 * j) = .inl (1, 40, .inl (fun _ => 0))) ∧ ∀ i, i < 3 ∨ 5 + 2 * k ≤ i → g i = g0 i
theorem dk_s {g0 g : m_G} {k N N1 : Nat} {x : Int32} (h : dk_P g0 k g) (hk : k < 30) (hN : N = 5 + 2 * k) (hN1 : N1 = N + 1) (hx : x = nI k) : ∃ g', dk_P g0 (k + 1) g' ∧ ∀ kk : m_G → Option (Unit × m_G), ((m_gR g 3 2 0).bind fun v_5 => (m_nw g N (.inr (1, [.null, .int 0]))).bind fun g_6 => m_bd (f_Line_init N1 g_6 N) fun _ g_7 => Option.bind v_5 fun a_9 => (m_stR g_7 a_9 4 1 x N).bind kk) = kk g' := by
  obtain ⟨h1, h2, h3, h4⟩ := h
  obtain ⟨g1, e1, a1, f1⟩ := nw_g (g := g) (n := N) (x := .inr (1, [.null, .int 0]))
  obtain ⟨g2, e2, a2, b2, f2⟩ := li_n a1
  rw [← hN1] at e2 a2 b2 f2
  have his : m_is g2 N 1 = true := by unfold m_is; rw [a2]; rfl
  obtain ⟨g3, e3, a3, f3⟩ := sR_g (g := g2) (a := 4) (t := 4) (ci := 1) (len := 30) (k := k) (v := N) (x := x) (f' := fun j => if j < k + 1 then some (5 + 2 * j) else none) (by rw [f2 4 (by omega) (by omega), f1 4 (by omega)]; exact h2) hx hk (by omega) his (funext fun j => by
    by_cases e : j = k
    · rw [e, va_up_self, if_pos (by omega), hN]
    · rw [va_up_ne _ _ e]
      by_cases e2 : j < k
      · rw [if_pos e2, if_pos (by omega)]
      · rw [if_neg e2, if_neg (by omega)])
  have fr : ∀ i, i ≠ 4 → i ≠ N → i ≠ N1 → g3 i = g i := fun i z1 z2 z3 => by rw [f3 i z1, f2 i z2 z3, f1 i z2]
  refine ⟨g3, ⟨by rw [fr 3 (by omega) (by omega) (by omega)]; exact h1, a3, fun j hj => ?_, fun i hi => ?_⟩, fun kk => ?_⟩
  · by_cases e : j = k
    · rw [e, ← hN, show 6 + 2 * k = N1 by omega, f3 N (by omega), f3 N1 (by omega)]
      exact ⟨a2, b2⟩
    · rw [fr _ (by omega) (by omega) (by omega), fr _ (by omega) (by omega) (by omega)]
      exact h3 j (by omega)
  · rw [fr i (by omega) (by omega) (by omega)]; exact h4 i (by omega)
  · rw [gR_g h1 (k := 0) (r := 4) rfl, ob_s, e1, ob_s, e2, bd_s, ob_s, e3, ob_s]
set_option maxRecDepth 100000 in
theorem dr_n {g : m_G} (h : g 3 = .inr (2, [.null, .int 0])) : ∃ g', f_Draft_init 4 g 3 = some ((), g') ∧ dk_P g 30 g' := by
  obtain ⟨g1, e1, a1, f1⟩ := nw_g (g := g) (n := 4) (x := .inl (4, 30, .inr (.inr (.inr (.inr (fun _ => none))))))
  obtain ⟨g2, e2, a2, f2⟩ := pR_g (g := g1) (a := 3) (c := 2) (k := 0) (r := 4) (fs' := [.ref 4, .int 0]) (by rw [f1 3 (by omega)]; exact h) (by show 0 < 2; omega) rfl
  obtain ⟨g3, e3, a3, f3⟩ := pI_g (g := g2) (a := 3) (c := 2) (k := 1) (x := 0) (fs' := [.ref 4, .int 0]) a2 (by show 1 < 2; omega) rfl
  have d0 : dk_P g 0 g3 := ⟨a3, by
    rw [f3 4 (by omega), f2 4 (by omega), a1]
    exact congrArg (fun f => Sum.inl (4, 30, Sum.inr (Sum.inr (Sum.inr (Sum.inr f))))) (funext fun j => (if_neg (Nat.not_lt_zero j)).symm), fun j hj => absurd hj (Nat.not_lt_zero _), fun i hi => by rw [f3 i (by omega), f2 i (by omega), f1 i (by omega)]⟩
  obtain ⟨h1, d1, q1⟩ := dk_s (N := 5) (N1 := 6) (x := 0) d0 (by omega) (by omega) (by omega) rfl
  obtain ⟨h2, d2, q2⟩ := dk_s (N := 7) (N1 := 8) (x := 1) d1 (by omega) (by omega) (by omega) rfl
  obtain ⟨h3, d3, q3⟩ := dk_s (N := 9) (N1 := 10) (x := 2) d2 (by omega) (by omega) (by omega) rfl
  obtain ⟨h4, d4, q4⟩ := dk_s (N := 11) (N1 := 12) (x := 3) d3 (by omega) (by omega) (by omega) rfl
  obtain ⟨h5, d5, q5⟩ := dk_s (N := 13) (N1 := 14) (x := 4) d4 (by omega) (by omega) (by omega) rfl
  obtain ⟨h6, d6, q6⟩ := dk_s (N := 15) (N1 := 16) (x := 5) d5 (by omega) (by omega) (by omega) rfl
  obtain ⟨h7, d7, q7⟩ := dk_s (N := 17) (N1 := 18) (x := 6) d6 (by omega) (by omega) (by omega) rfl
  obtain ⟨h8, d8, q8⟩ := dk_s (N := 19) (N1 := 20) (x := 7) d7 (by omega) (by omega) (by omega) rfl
  obtain ⟨h9, d9, q9⟩ := dk_s (N := 21) (N1 := 22) (x := 8) d8 (by omega) (by omega) (by omega) rfl
  obtain ⟨h10, d10, q10⟩ := dk_s (N := 23) (N1 := 24) (x := 9) d9 (by omega) (by omega) (by omega) rfl
  obtain ⟨h11, d11, q11⟩ := dk_s (N := 25) (N1 := 26) (x := 10) d10 (by omega) (by omega) (by omega) rfl
  obtain ⟨h12, d12, q12⟩ := dk_s (N := 27) (N1 := 28) (x := 11) d11 (by omega) (by omega) (by omega) rfl
  obtain ⟨h13, d13, q13⟩ := dk_s (N := 29) (N1 := 30) (x := 12) d12 (by omega) (by omega) (by omega) rfl
  obtain ⟨h14, d14, q14⟩ := dk_s (N := 31) (N1 := 32) (x := 13) d13 (by omega) (by omega) (by omega) rfl
  obtain ⟨h15, d15, q15⟩ := dk_s (N := 33) (N1 := 34) (x := 14) d14 (by omega) (by omega) (by omega) rfl
  obtain ⟨h16, d16, q16⟩ := dk_s (N := 35) (N1 := 36) (x := 15) d15 (by omega) (by omega) (by omega) rfl
  obtain ⟨h17, d17, q17⟩ := dk_s (N := 37) (N1 := 38) (x := 16) d16 (by omega) (by omega) (by omega) rfl
  obtain ⟨h18, d18, q18⟩ := dk_s (N := 39) (N1 := 40) (x := 17) d17 (by omega) (by omega) (by omega) rfl
  obtain ⟨h19, d19, q19⟩ := dk_s (N := 41) (N1 := 42) (x := 18) d18 (by omega) (by omega) (by omega) rfl
  obtain ⟨h20, d20, q20⟩ := dk_s (N := 43) (N1 := 44) (x := 19) d19 (by omega) (by omega) (by omega) rfl
  obtain ⟨h21, d21, q21⟩ := dk_s (N := 45) (N1 := 46) (x := 20) d20 (by omega) (by omega) (by omega) rfl
  obtain ⟨h22, d22, q22⟩ := dk_s (N := 47) (N1 := 48) (x := 21) d21 (by omega) (by omega) (by omega) rfl
  obtain ⟨h23, d23, q23⟩ := dk_s (N := 49) (N1 := 50) (x := 22) d22 (by omega) (by omega) (by omega) rfl
  obtain ⟨h24, d24, q24⟩ := dk_s (N := 51) (N1 := 52) (x := 23) d23 (by omega) (by omega) (by omega) rfl
  obtain ⟨h25, d25, q25⟩ := dk_s (N := 53) (N1 := 54) (x := 24) d24 (by omega) (by omega) (by omega) rfl
  obtain ⟨h26, d26, q26⟩ := dk_s (N := 55) (N1 := 56) (x := 25) d25 (by omega) (by omega) (by omega) rfl
  obtain ⟨h27, d27, q27⟩ := dk_s (N := 57) (N1 := 58) (x := 26) d26 (by omega) (by omega) (by omega) rfl
  obtain ⟨h28, d28, q28⟩ := dk_s (N := 59) (N1 := 60) (x := 27) d27 (by omega) (by omega) (by omega) rfl
  obtain ⟨h29, d29, q29⟩ := dk_s (N := 61) (N1 := 62) (x := 28) d28 (by omega) (by omega) (by omega) rfl
  obtain ⟨h30, d30, q30⟩ := dk_s (N := 63) (N1 := 64) (x := 29) d29 (by omega) (by omega) (by omega) rfl
  refine ⟨h30, ?_, d30⟩
  unfold f_Draft_init
  simp only [Nat.reduceAdd]
  rw [e1, ob_s, e2, ob_s, e3, ob_s, q1, q2, q3, q4, q5, q6, q7, q8, q9, q10, q11, q12, q13, q14, q15, q16, q17, q18, q19, q20, q21, q22, q23, q24, q25, q26, q27, q28, q29, q30]
-- the archive
def hq_P (N : Nat) (x : m_E) (g : m_G) : Prop := ∀ i, g i = if i = 0 then x else if i < N then i0_F i else m_dead
theorem hq_x {N N' : Nat} {x : m_E} {g g' : m_G} (h : hq_P N x g) (hN : 0 < N) (hle : N ≤ N') (hfr : ∀ i, i < N ∨ N' ≤ i → g' i = g i) (hnew : ∀ i, N ≤ i → i < N' → g' i = i0_F i) : hq_P N' x g' := fun i => by
  by_cases e : i = 0
  · rw [if_pos e, hfr i (by omega), h i, if_pos e]
  · rw [if_neg e]
    by_cases e1 : i < N
    · rw [if_pos (by omega), hfr i (by omega), h i, if_neg e, if_pos e1]
    · by_cases e2 : i < N'
      · rw [if_pos e2, hnew i (by omega) e2]
      · rw [if_neg e2, hfr i (by omega), h i, if_neg e, if_neg e1]
theorem hq_R {N k r : Nat} {fs fs' : List Value} {g : m_G} (h : hq_P N (.inr (0, fs)) g) (hk : k < fs.length) (e : fs.set k (.ref r) = fs') : ∃ g', m_pR g 0 0 k (some r) = some g' ∧ hq_P N (.inr (0, fs')) g' := by
  obtain ⟨g', e1, a1, f1⟩ := pR_g (g := g) (a := 0) (c := 0) (k := k) (r := r) (fs := fs) (by rw [h 0, if_pos rfl]) hk e
  refine ⟨g', e1, fun i => ?_⟩
  by_cases z : i = 0
  · rw [z, a1, if_pos rfl]
  · rw [f1 i z, h i, if_neg z, if_neg z]
theorem hq_I {N k : Nat} {x : Int32} {fs fs' : List Value} {g : m_G} (h : hq_P N (.inr (0, fs)) g) (hk : k < fs.length) (e : fs.set k (.int x) = fs') : ∃ g', m_pI g 0 0 k x = some g' ∧ hq_P N (.inr (0, fs')) g' := by
  obtain ⟨g', e1, a1, f1⟩ := pI_g (g := g) (a := 0) (c := 0) (k := k) (x := x) (fs := fs) (by rw [h 0, if_pos rfl]) hk e
  refine ⟨g', e1, fun i => ?_⟩
  by_cases z : i = 0
  · rw [z, a1, if_pos rfl]
  · rw [f1 i z, h i, if_neg z, if_neg z]
theorem hq_0 {N : Nat} {x : m_E} {g : m_G} (h : hq_P N x g) {i : Nat} (hi : N ≤ i) (hN : 0 < N) : g i = m_dead := by
  rw [h i, if_neg (by omega), if_neg (by omega)]
def mq_P (k : Nat) (x : m_E) (g : m_G) : Prop := ∀ i, g i = if i = 0 then x else if i = 76 then .inl (5, 12, .inr (.inr (.inr (.inr (fun j => if j < k then some (77 + 4 * j) else none))))) else if i < 77 + 4 * k then i0_F i else m_dead
theorem F_m0 {m : Nat} (h : m < 12) : i0_F (77 + 4 * m) = .inr (4, [.ref (77 + 4 * m + 1), .ref (77 + 4 * m + 2), .ref (77 + 4 * m + 3), .int 0, .int 0, .int 0, .int 0, .int 0, .int 0]) := by
  have e : ∀ k, i0_v (77 + 4 * m) k = 0 := fun k => i0_n (by omega)
  unfold i0_F hp_mk
  rw [sk_m0 h]
  show (Sum.inr (4, [Value.ref (77 + 4 * m + 1), .ref (77 + 4 * m + 2), .ref (77 + 4 * m + 3), .int (i0_v (77 + 4 * m) 3), .int (i0_v (77 + 4 * m) 4), .int (i0_v (77 + 4 * m) 5), .int (i0_v (77 + 4 * m) 6), .int (i0_v (77 + 4 * m) 7), .int (i0_v (77 + 4 * m) 8)]) : m_E) = _
  rw [e, e, e, e, e, e]
theorem F_m1 {m : Nat} (h : m < 12) : i0_F (77 + 4 * m + 1) = .inl (0, 4, .inl (fun _ => 0)) := by
  unfold i0_F hp_mk
  rw [sk_m1 h]
  show (Sum.inl (0, 4, Sum.inl (i0_a (77 + 4 * m + 1))) : m_E) = _
  rw [i0_b (by omega)]
theorem F_m2 {m : Nat} (h : m < 12) : i0_F (77 + 4 * m + 2) = .inl (2, 50, .inr (.inl (fun _ => 0))) := by
  unfold i0_F hp_mk
  rw [sk_m2 h]; rfl
theorem F_m3 {m : Nat} (h : m < 12) : i0_F (77 + 4 * m + 3) = .inl (0, 50, .inl (fun _ => 0)) := by
  unfold i0_F hp_mk
  rw [sk_m3 h]
  show (Sum.inl (0, 50, Sum.inl (i0_a (77 + 4 * m + 3))) : m_E) = _
  rw [i0_b (by omega)]
theorem mq_s {g : m_G} {k N N1 : Nat} {x : Int32} {fs : List Value} (h : mq_P k (.inr (0, fs)) g) (h5 : fs[5]? = some (.ref 76)) (hk : k < 12) (hN : N = 77 + 4 * k) (hN1 : N1 = N + 1) (hx : x = nI k) : ∃ g', mq_P (k + 1) (.inr (0, fs)) g' ∧ ∀ kk : m_G → Option (Unit × m_G), ((m_gR g 0 0 5).bind fun v_24 => (m_nw g N (.inr (4, [.null, .null, .null, .int 0, .int 0, .int 0, .int 0, .int 0, .int 0]))).bind fun g_25 => m_bd (f_Message_init N1 g_25 N) fun _ g_26 => Option.bind v_24 fun a_28 => (m_stR g_26 a_28 5 4 x N).bind kk) = kk g' := by
  obtain ⟨g1, e1, a1, f1⟩ := nw_g (g := g) (n := N) (x := .inr (4, [.null, .null, .null, .int 0, .int 0, .int 0, .int 0, .int 0, .int 0]))
  obtain ⟨g2, e2, a2, b2, c2, d2, f2⟩ := me_n a1
  rw [← hN1] at e2
  have his : m_is g2 N 4 = true := by unfold m_is; rw [a2]; rfl
  obtain ⟨g3, e3, a3, f3⟩ := sR_g (g := g2) (a := 76) (t := 5) (ci := 4) (len := 12) (k := k) (v := N) (x := x) (f' := fun j => if j < k + 1 then some (77 + 4 * j) else none) (by rw [f2 76 (by omega) (by omega) (by omega) (by omega), f1 76 (by omega), h 76, if_neg (by omega), if_pos rfl]) hx hk (by omega) his (funext fun j => by
    by_cases e : j = k
    · rw [e, va_up_self, if_pos (by omega), hN]
    · rw [va_up_ne _ _ e]
      by_cases e2 : j < k
      · rw [if_pos e2, if_pos (by omega)]
      · rw [if_neg e2, if_neg (by omega)])
  refine ⟨g3, fun i => ?_, fun kk => ?_⟩
  · by_cases i0 : i = 76
    · rw [if_neg (by omega), if_pos i0, i0, a3]
    · rw [f3 i i0]
      by_cases z0 : i = N
      · rw [if_neg (by omega), if_neg i0, if_pos (by omega), z0, a2, hN, F_m0 hk]
      · by_cases z1 : i = N + 1
        · rw [if_neg (by omega), if_neg i0, if_pos (by omega), z1, b2, hN, F_m1 hk]
        · by_cases z2 : i = N + 2
          · rw [if_neg (by omega), if_neg i0, if_pos (by omega), z2, c2, hN, F_m2 hk]
          · by_cases z3 : i = N + 3
            · rw [if_neg (by omega), if_neg i0, if_pos (by omega), z3, d2, hN, F_m3 hk]
            · rw [f2 i z0 z1 z2 z3, f1 i z0, h i, if_neg i0, if_neg i0]
              by_cases w : i = 0
              · rw [if_pos w, if_pos w]
              · rw [if_neg w, if_neg w]
                by_cases w2 : i < 77 + 4 * k
                · rw [if_pos w2, if_pos (by omega)]
                · rw [if_neg w2, if_neg (by omega)]
  · rw [gR_g (g := g) (a := 0) (c := 0) (fs := fs) (by rw [h 0, if_pos rfl]) (k := 5) (r := 76) h5, ob_s, e1, ob_s, e2, bd_s, ob_s, e3, ob_s]
theorem ar_n {g : m_G} (h : hq_P 1 (.inr (0, [.null, .null, .null, .null, .null, .null, .null, .int 0, .int 0, .int 0])) g) : ∃ g', f_Arc_init 1 g 0 = some ((), g') ∧ ∀ i, g' i = if i < 126 then i0_F i else m_dead := by
  -- the line
  obtain ⟨g1, e1, a1, f1⟩ := nw_g (g := g) (n := 1) (x := .inr (1, [.null, .int 0]))
  obtain ⟨g2, e2, a2, b2, f2⟩ := li_n a1
  have h2 : hq_P 3 _ g2 := hq_x h (by omega) (by omega) (fun i hi => by rw [f2 i (by omega) (by omega), f1 i (by omega)]) (fun i z1 z2 => by
    have : i = 1 ∨ i = 2 := by omega
    rcases this with rfl | rfl
    · rw [a2]; rfl
    · exact b2)
  obtain ⟨g3, e3, h3⟩ := hq_R h2 (k := 0) (r := 1) (fs' := [.ref 1, .null, .null, .null, .null, .null, .null, .int 0, .int 0, .int 0]) (by show 0 < 10; omega) rfl
  -- the draft
  obtain ⟨g4, e4, a4, f4⟩ := nw_g (g := g3) (n := 3) (x := .inr (2, [.null, .int 0]))
  obtain ⟨g5, e5, d1, d2, d3, d4⟩ := dr_n a4
  have h5 : hq_P 65 _ g5 := hq_x h3 (by omega) (by omega) (fun i hi => by rw [d4 i (by omega), f4 i (by omega)]) (fun i z1 z2 => by
    by_cases i3 : i = 3
    · rw [i3, d1]; rfl
    · by_cases i4 : i = 4
      · rw [i4, d2]; rfl
      · obtain ⟨j, hj⟩ : ∃ j, j = (i - 5) / 2 := ⟨_, rfl⟩
        obtain ⟨x1, x2⟩ := d3 j (by omega)
        by_cases ip : (i - 5) % 2 = 0
        · have hi : i = 5 + 2 * j := by omega
          rw [hi, x1, F_L (by unfold hp_isL; simp; omega)]
          have : 6 + 2 * j = 5 + 2 * j + 1 := by omega
          rw [this]
        · have hi : i = 6 + 2 * j := by omega
          rw [hi, x2, F_C (by unfold hp_isC; simp; omega)])
  obtain ⟨g6, e6, h6⟩ := hq_R h5 (k := 1) (r := 3) (fs' := [.ref 1, .ref 3, .null, .null, .null, .null, .null, .int 0, .int 0, .int 0]) (by show 1 < 10; omega) rfl
  -- the reader
  obtain ⟨g7, e7, a7, f7⟩ := nw_g (g := g6) (n := 65) (x := .inr (5, [.null, .null]))
  obtain ⟨g8, e8, r1, r2, r3, r4, r5⟩ := re_n a7
  have h8 : hq_P 69 _ g8 := hq_x h6 (by omega) (by omega) (fun i hi => by rw [r5 i (by omega), f7 i (by omega)]) (fun i z1 z2 => by
    have : i = 65 ∨ i = 66 ∨ i = 67 ∨ i = 68 := by omega
    rcases this with rfl | rfl | rfl | rfl
    · rw [r1]; rfl
    · rw [r2]; rfl
    · rw [r3]; rfl
    · rw [r4]; rfl)
  obtain ⟨g9, e9, h9⟩ := hq_R h8 (k := 2) (r := 65) (fs' := [.ref 1, .ref 3, .ref 65, .null, .null, .null, .null, .int 0, .int 0, .int 0]) (by show 2 < 10; omega) rfl
  -- the threads
  obtain ⟨g10, e10, a10, f10⟩ := nw_g (g := g9) (n := 69) (x := .inr (6, [.null]))
  obtain ⟨g11, e11, t1, t2, t3⟩ := th_n a10
  have h11 : hq_P 71 _ g11 := hq_x h9 (by omega) (by omega) (fun i hi => by rw [t3 i (by omega) (by omega), f10 i (by omega)]) (fun i z1 z2 => by
    have : i = 69 ∨ i = 70 := by omega
    rcases this with rfl | rfl
    · rw [t1]; rfl
    · exact t2)
  obtain ⟨g12, e12, h12⟩ := hq_R h11 (k := 3) (r := 69) (fs' := [.ref 1, .ref 3, .ref 65, .ref 69, .null, .null, .null, .int 0, .int 0, .int 0]) (by show 3 < 10; omega) rfl
  -- the query
  obtain ⟨g13, e13, a13, f13⟩ := nw_g (g := g12) (n := 71) (x := .inr (7, [.null, .null, .null, .null, .int 0, .int 0, .int 0]))
  obtain ⟨g14, e14, u1, u2, u3, u4, u5, u6⟩ := qu_n a13
  have h14 : hq_P 76 _ g14 := hq_x h12 (by omega) (by omega) (fun i hi => by rw [u6 i (by omega), f13 i (by omega)]) (fun i z1 z2 => by
    have : i = 71 ∨ i = 72 ∨ i = 73 ∨ i = 74 ∨ i = 75 := by omega
    rcases this with rfl | rfl | rfl | rfl | rfl
    · rw [u1]; rfl
    · rw [u2]; rfl
    · rw [u3]; rfl
    · rw [u4]; rfl
    · rw [u5]; rfl)
  obtain ⟨g15, e15, h15⟩ := hq_R h14 (k := 4) (r := 71) (fs' := [.ref 1, .ref 3, .ref 65, .ref 69, .ref 71, .null, .null, .int 0, .int 0, .int 0]) (by show 4 < 10; omega) rfl
  -- the messages
  obtain ⟨g16, e16, a16, f16⟩ := nw_g (g := g15) (n := 76) (x := .inl (5, 12, .inr (.inr (.inr (.inr (fun _ => none))))))
  obtain ⟨g17, e17, a17, f17⟩ := pR_g (g := g16) (a := 0) (c := 0) (k := 5) (r := 76) (fs' := [.ref 1, .ref 3, .ref 65, .ref 69, .ref 71, .ref 76, .null, .int 0, .int 0, .int 0]) (by rw [f16 0 (by omega), h15 0, if_pos rfl]) (by show 5 < 10; omega) rfl
  have m0 : mq_P 0 (.inr (0, [.ref 1, .ref 3, .ref 65, .ref 69, .ref 71, .ref 76, .null, .int 0, .int 0, .int 0])) g17 := fun i => by
    by_cases i0 : i = 0
    · rw [if_pos i0, i0, a17]
    · rw [if_neg i0, f17 i i0]
      by_cases i6 : i = 76
      · rw [if_pos i6, i6, a16]
        exact congrArg (fun f => Sum.inl (5, 12, Sum.inr (Sum.inr (Sum.inr (Sum.inr f))))) (funext fun j => (if_neg (Nat.not_lt_zero j)).symm)
      · rw [if_neg i6, f16 i i6, h15 i, if_neg i0]
        by_cases w : i < 76
        · rw [if_pos w, if_pos (by omega)]
        · rw [if_neg w, if_neg (by omega)]
  obtain ⟨y1, m1, q1⟩ := mq_s (N := 77) (N1 := 78) (x := 0) m0 rfl (by omega) (by omega) (by omega) rfl
  obtain ⟨y2, m2, q2⟩ := mq_s (N := 81) (N1 := 82) (x := 1) m1 rfl (by omega) (by omega) (by omega) rfl
  obtain ⟨y3, m3, q3⟩ := mq_s (N := 85) (N1 := 86) (x := 2) m2 rfl (by omega) (by omega) (by omega) rfl
  obtain ⟨y4, m4, q4⟩ := mq_s (N := 89) (N1 := 90) (x := 3) m3 rfl (by omega) (by omega) (by omega) rfl
  obtain ⟨y5, m5, q5⟩ := mq_s (N := 93) (N1 := 94) (x := 4) m4 rfl (by omega) (by omega) (by omega) rfl
  obtain ⟨y6, m6, q6⟩ := mq_s (N := 97) (N1 := 98) (x := 5) m5 rfl (by omega) (by omega) (by omega) rfl
  obtain ⟨y7, m7, q7⟩ := mq_s (N := 101) (N1 := 102) (x := 6) m6 rfl (by omega) (by omega) (by omega) rfl
  obtain ⟨y8, m8, q8⟩ := mq_s (N := 105) (N1 := 106) (x := 7) m7 rfl (by omega) (by omega) (by omega) rfl
  obtain ⟨y9, m9, q9⟩ := mq_s (N := 109) (N1 := 110) (x := 8) m8 rfl (by omega) (by omega) (by omega) rfl
  obtain ⟨y10, m10, q10⟩ := mq_s (N := 113) (N1 := 114) (x := 9) m9 rfl (by omega) (by omega) (by omega) rfl
  obtain ⟨y11, m11, q11⟩ := mq_s (N := 117) (N1 := 118) (x := 10) m10 rfl (by omega) (by omega) (by omega) rfl
  obtain ⟨y12, m12, q12⟩ := mq_s (N := 121) (N1 := 122) (x := 11) m11 rfl (by omega) (by omega) (by omega) rfl
  have hm : hq_P 125 (.inr (0, [.ref 1, .ref 3, .ref 65, .ref 69, .ref 71, .ref 76, .null, .int 0, .int 0, .int 0])) y12 := fun i => by
    rw [m12 i]
    by_cases i0 : i = 0
    · rw [if_pos i0, if_pos i0]
    · rw [if_neg i0, if_neg i0]
      by_cases i6 : i = 76
      · rw [if_pos i6, if_pos (by omega), i6]; rfl
      · rw [if_neg i6]
  -- the order
  obtain ⟨g18, e18, a18, f18⟩ := nw_g (g := y12) (n := 125) (x := .inl (0, 12, .inl (fun _ => 0)))
  have h18 : hq_P 126 _ g18 := hq_x hm (by omega) (by omega) (fun i hi => by rw [f18 i (by omega)]) (fun i z1 z2 => by
    have : i = 125 := by omega
    rw [this, a18]; rfl)
  obtain ⟨g19, e19, h19⟩ := hq_R h18 (k := 6) (r := 125) (fs' := [.ref 1, .ref 3, .ref 65, .ref 69, .ref 71, .ref 76, .ref 125, .int 0, .int 0, .int 0]) (by show 6 < 10; omega) rfl
  obtain ⟨g20, e20, h20⟩ := hq_I h19 (k := 7) (x := 0) (fs' := [.ref 1, .ref 3, .ref 65, .ref 69, .ref 71, .ref 76, .ref 125, .int 0, .int 0, .int 0]) (by show 7 < 10; omega) rfl
  obtain ⟨g21, e21, h21⟩ := hq_I h20 (k := 8) (x := 0) (fs' := [.ref 1, .ref 3, .ref 65, .ref 69, .ref 71, .ref 76, .ref 125, .int 0, .int 0, .int 0]) (by show 8 < 10; omega) rfl
  obtain ⟨g22, e22, h22⟩ := hq_I h21 (k := 9) (x := -1) (fs' := [.ref 1, .ref 3, .ref 65, .ref 69, .ref 71, .ref 76, .ref 125, .int 0, .int 0, .int (-1)]) (by show 9 < 10; omega) rfl
  refine ⟨g22, ?_, fun i => ?_⟩
  · unfold f_Arc_init
    simp only [Nat.reduceAdd] at e2 e11 ⊢
    rw [e1, ob_s, e2, bd_s, e3, ob_s, e4, ob_s, e5, bd_s, e6, ob_s, e7, ob_s, e8, bd_s, e9, ob_s, e10, ob_s, e11, bd_s, e12, ob_s, e13, ob_s, e14, bd_s, e15, ob_s, e16, ob_s, e17, ob_s, q1, q2, q3, q4, q5, q6, q7, q8, q9, q10, q11, q12, e18, ob_s, e19, ob_s, e20, ob_s, e21, ob_s, e22, ob_s]
  · rw [h22 i]
    by_cases i0 : i = 0
    · rw [if_pos i0, if_pos (by omega), i0]; rfl
    · rw [if_neg i0]
-- the reference
def md_P (N : Nat) (fs : List Value) (g : m_G) : Prop := ∀ i, g i = if i = 126 then .inr (8, fs) else if i < N then i0_F i else m_dead
theorem md_a {N k : Nat} {fs : List Value} {g : m_G} {x : m_E} {kk : m_G → Option (Unit × m_G)} {Q : m_G → Prop} (h : md_P N fs g) (hx : i0_F N = x) (hN : 126 < N) (hk : k < fs.length) (next : ∀ g', md_P (N + 1) (fs.set k (.ref N)) g' → ∃ r, kk g' = some ((), r) ∧ Q r) : ∃ r, ((m_nw g N x).bind fun g1 => (m_pR g1 126 8 k (some N)).bind kk) = some ((), r) ∧ Q r := by
  obtain ⟨g1, e1, a1, f1⟩ := nw_g (g := g) (n := N) (x := x)
  obtain ⟨g2, e2, a2, f2⟩ := pR_g (g := g1) (a := 126) (c := 8) (k := k) (r := N) (fs := fs) (by rw [f1 126 (by omega), h 126, if_pos rfl]) hk rfl
  rw [e1, ob_s, e2, ob_s]
  refine next g2 (fun i => ?_)
  by_cases z : i = 126
  · rw [z, a2, if_pos rfl]
  · rw [if_neg z, f2 i z]
    by_cases w : i = N
    · rw [w, a1, if_pos (by omega), hx]
    · rw [f1 i w, h i, if_neg z]
      by_cases v : i < N
      · rw [if_pos v, if_pos (by omega)]
      · rw [if_neg v, if_neg (by omega)]
theorem md_I {N k : Nat} {fs : List Value} {g : m_G} {x : Int32} {kk : m_G → Option (Unit × m_G)} {Q : m_G → Prop} (h : md_P N fs g) (hk : k < fs.length) (next : ∀ g', md_P N (fs.set k (.int x)) g' → ∃ r, kk g' = some ((), r) ∧ Q r) : ∃ r, ((m_pI g 126 8 k x).bind kk) = some ((), r) ∧ Q r := by
  obtain ⟨g2, e2, a2, f2⟩ := pI_g (g := g) (a := 126) (c := 8) (k := k) (x := x) (fs := fs) (by rw [h 126, if_pos rfl]) hk rfl
  rw [e2, ob_s]
  refine next g2 (fun i => ?_)
  by_cases z : i = 126
  · rw [z, a2, if_pos rfl]
  · rw [if_neg z, f2 i z, h i, if_neg z]
theorem mo_n {g : m_G} (h : md_P 127 [.null, .null, .int 0, .null, .null, .null, .int 0, .null, .null, .null, .int 0, .null, .null, .null, .null, .null, .null, .null, .int 0, .null, .int 0, .int 0, .null, .null, .int 0, .int 0, .long 0, .int 0] g) : ∃ r, f_Mod_init 127 g 126 = some ((), r) ∧ r = i0_F := by
  unfold f_Mod_init
  simp only [Nat.reduceAdd]
  refine md_a (N := 127) (k := 0) h rfl (by omega) (by decide) fun g h => ?_
  refine md_a (N := 128) (k := 1) h rfl (by omega) (by decide) fun g h => ?_
  refine md_a (N := 129) (k := 3) h rfl (by omega) (by decide) fun g h => ?_
  refine md_a (N := 130) (k := 4) h rfl (by omega) (by decide) fun g h => ?_
  refine md_a (N := 131) (k := 5) h rfl (by omega) (by decide) fun g h => ?_
  refine md_a (N := 132) (k := 7) h rfl (by omega) (by decide) fun g h => ?_
  refine md_a (N := 133) (k := 8) h rfl (by omega) (by decide) fun g h => ?_
  refine md_a (N := 134) (k := 9) h rfl (by omega) (by decide) fun g h => ?_
  refine md_a (N := 135) (k := 11) h rfl (by omega) (by decide) fun g h => ?_
  refine md_a (N := 136) (k := 12) h rfl (by omega) (by decide) fun g h => ?_
  refine md_a (N := 137) (k := 13) h rfl (by omega) (by decide) fun g h => ?_
  refine md_a (N := 138) (k := 14) h rfl (by omega) (by decide) fun g h => ?_
  refine md_a (N := 139) (k := 15) h rfl (by omega) (by decide) fun g h => ?_
  refine md_a (N := 140) (k := 16) h rfl (by omega) (by decide) fun g h => ?_
  refine md_a (N := 141) (k := 17) h rfl (by omega) (by decide) fun g h => ?_
  refine md_a (N := 142) (k := 19) h rfl (by omega) (by decide) fun g h => ?_
  refine md_I (k := 21) h (by decide) fun g h => ?_
  refine md_a (N := 143) (k := 22) h rfl (by omega) (by decide) fun g h => ?_
  refine md_a (N := 144) (k := 23) h rfl (by omega) (by decide) fun g h => ?_
  refine ⟨g, rfl, funext fun i => ?_⟩
  rw [h i]
  by_cases z : i = 126
  · rw [if_pos z, z]; rfl
  · rw [if_neg z]
    by_cases w : i < 145
    · rw [if_pos w]
    · rw [if_neg w, F_hi (by omega)]
theorem inv_0 : Inv_g 0 i0_F := by
  refine ⟨i0_v, fun _ => 0, i0_a, fun _ _ => 0, 0, fun _ => 0, 0, fun _ => 0, fun _ _ => 0, fun _ => false, fun _ => 0, fun _ => 0, fun _ _ => 0, fun _ => 0, fun _ _ => 0, fun _ _ => 0, fun _ => 0, fun _ => 0, [], fun _ => 0, 0, 0, -1, rfl, ?_⟩
  have nl : ∀ {P : Nat → Prop} (j : Nat), j < 0 → P j := fun j hj => absurd hj (Nat.not_lt_zero _)
  refine ⟨⟨⟨rfl, nl⟩, ⟨rfl, nl⟩, Nat.zero_le _, nl⟩, ⟨⟨rfl, nl⟩, ⟨rfl, nl⟩, Nat.zero_le _, nl⟩, fun i hi j hj => ?_, ⟨fun m hm => ?_, fun m hm => ?_, fun m hm => ?_, fun a b _ _ h => (by cases h), List.nodup_nil, fun m => ?_⟩, ⟨⟨rfl, nl⟩, ⟨rfl, fun m hm => ?_, List.Pairwise.nil, fun m hm => (by cases hm), fun m hm => ?_⟩, Nat.zero_le _⟩, fun q hq => ?_, ⟨⟨rfl, rfl⟩, ⟨rfl, rfl⟩, by omega⟩, ⟨rfl, rfl⟩, ⟨rfl, rfl⟩⟩
  · have : i ≠ 70 := fun z => by rw [z] at hi; cases hi
    rw [i0_b this]; rfl
  · rw [i0_n (by omega), i0_n (by omega), i0_n (by omega), i0_n (by omega), i0_n (by omega), i0_n (by omega)]
    exact ⟨rfl, rfl, rfl, rfl, rfl, rfl, nl, nl⟩
  · exact ⟨rfl, rfl, rfl, rfl, rfl, rfl, nl, nl⟩
  · exact ⟨by show 0 < 64; omega, Nat.zero_le _, nl, Nat.zero_le _, Nat.zero_le _, nl⟩
  · exact ⟨fun h => (by cases h), fun h => (by cases h.2)⟩
  · rfl
  · exact Nat.le_refl _
  · show (if q < 64 then (-1 : Int32) else 0) = _
    rw [if_pos hq]; rfl
theorem ini_g : law_ini Inv_g := by
  obtain ⟨g2, e2, h2⟩ := ar_n (g := va_up (fun _ => m_dead) 0 (.inr (0, [.null, .null, .null, .null, .null, .null, .null, .int 0, .int 0, .int 0]))) (fun i => by
    by_cases z : i = 0
    · rw [z, va_up_self, if_pos rfl]
    · rw [va_up_ne _ _ z, if_neg z, if_neg (by omega)])
  obtain ⟨g3, e3, a3, f3⟩ := nw_g (g := g2) (n := 126) (x := .inr (8, [.null, .null, .int 0, .null, .null, .null, .int 0, .null, .null, .null, .int 0, .null, .null, .null, .null, .null, .null, .null, .int 0, .null, .int 0, .int 0, .null, .null, .int 0, .int 0, .long 0, .int 0]))
  obtain ⟨g4, e4, h4⟩ := mo_n (g := g3) (fun i => by
    by_cases z : i = 126
    · rw [z, a3, if_pos rfl]
    · rw [if_neg z, f3 i z, h2 i]
      by_cases w : i < 126
      · rw [if_pos w, if_pos (by omega)]
      · rw [if_neg w, if_neg (by omega)])
  exact ⟨_, g2, g3, g4, rfl, e2, e3, e4, by rw [h4]; exact inv_0⟩
