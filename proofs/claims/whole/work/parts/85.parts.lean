/-! parts -/
def sm_l {α : Type} (g : α → Nat) : List α → Nat
  | [] => 0
  | x :: l => g x + sm_l g l
theorem sm_app {α : Type} {g : α → Nat} : ∀ {l r : List α}, sm_l g (l ++ r) = sm_l g l + sm_l g r := by
  intro l
  induction l with
  | nil => intro r; show sm_l g r = 0 + sm_l g r; omega
  | cons x l ih => intro r; show g x + sm_l g (l ++ r) = g x + sm_l g l + sm_l g r; rw [ih]; omega
theorem sm_rev {α : Type} {g : α → Nat} : ∀ {l : List α}, sm_l g l.reverse = sm_l g l := by
  intro l
  induction l with
  | nil => rfl
  | cons x l ih => rw [List.reverse_cons, sm_app, ih]; show _ + (g x + 0) = g x + _; omega
theorem sm_map {α β : Type} {g : β → Nat} {h : α → β} : ∀ {l : List α}, sm_l g (l.map h) = sm_l (fun x => g (h x)) l := by
  intro l
  induction l with
  | nil => rfl
  | cons x l ih => show g (h x) + sm_l g (l.map h) = _; rw [ih]; rfl
theorem sm_mul {α : Type} {g : α → Nat} {c : Nat} : ∀ {l : List α}, sm_l (fun x => c * g x) l = c * sm_l g l := by
  intro l
  induction l with
  | nil => rfl
  | cons x l ih => show c * g x + sm_l _ l = c * (g x + sm_l g l); rw [ih, Nat.mul_add]
theorem sm_len {α : Type} {g : α → Nat} : ∀ {l : List α}, (∀ x ∈ l, 1 ≤ g x) → l.length ≤ sm_l g l := by
  intro l
  induction l with
  | nil => intro _; exact Nat.le_refl _
  | cons x l ih =>
    intro h
    have h1 := h x List.mem_cons_self
    have h2 := ih (fun y hy => h y (List.mem_cons_of_mem _ hy))
    show l.length + 1 ≤ g x + sm_l g l
    omega
def close_l (s : Option Nat) (e : Nat) : List (Nat × Nat) := match s with
  | none => []
  | some x => [(x, e)]
def su_e (p : Nat → Bool) (e : Nat) : Nat → Option Nat → Nat → List (Nat × Nat)
  | 0, s, _ => close_l s e
  | n + 1, s, i => if p i = true then close_l s i ++ su_e p e n (some (i + 1)) (i + 1) else su_e p e n s (i + 1)
theorem su_s {p : Nat → Bool} {e n : Nat} {s : Option Nat} {i : Nat} : su_e p e (n + 1) s i = if p i = true then close_l s i ++ su_e p e n (some (i + 1)) (i + 1) else su_e p e n s (i + 1) := rfl
theorem su_0 {p : Nat → Bool} {e : Nat} {s : Option Nat} {i : Nat} : su_e p e 0 s i = close_l s e := rfl
theorem su_r {p : Nat → Bool} {e : Nat} : ∀ (n : Nat) (s : Option Nat) (i : Nat), su_e p e (n + 1) s i = if p (i + n) = true then su_e p (i + n) n s i ++ [(i + n + 1, e)] else su_e p e n s i := by
  intro n
  induction n with
  | zero =>
    intro s i
    rw [su_s, Nat.add_zero]
    by_cases h : p i = true
    · rw [if_pos h, if_pos (show p (i + 0) = true from h)]; rfl
    · rw [if_neg h, if_neg (show ¬ p (i + 0) = true from h)]; rfl
  | succ n ih =>
    intro s i
    rw [su_s]
    have ei : i + 1 + n = i + (n + 1) := by omega
    by_cases h : p i = true
    · rw [if_pos h, ih, ei]
      by_cases h2 : p (i + (n + 1)) = true
      · rw [if_pos h2, if_pos h2, su_s, if_pos h, List.append_assoc]
      · rw [if_neg h2, if_neg h2, su_s, if_pos h]
    · rw [if_neg h, ih, ei]
      by_cases h2 : p (i + (n + 1)) = true
      · rw [if_pos h2, if_pos h2, su_s, if_neg h]
      · rw [if_neg h2, if_neg h2, su_s, if_neg h]
theorem su_in {p : Nat → Bool} {e : Nat} : ∀ (n : Nat) (s : Option Nat) (i : Nat), i + n ≤ e → (∀ x, s = some x → x ≤ i) → ∀ q ∈ su_e p e n s i, q.1 ≤ q.2 ∧ q.2 ≤ e := by
  intro n
  induction n with
  | zero =>
    intro s i h1 h2 q hq
    rw [su_0] at hq
    cases s with
    | none => cases hq
    | some x => have := h2 x rfl; rw [List.mem_singleton.mp hq]; dsimp only; omega
  | succ n ih =>
    intro s i h1 h2 q hq
    rw [su_s] at hq
    by_cases h : p i = true
    · rw [if_pos h] at hq
      rcases List.mem_append.mp hq with a | a
      · cases s with
        | none => cases a
        | some x => have := h2 x rfl; rw [List.mem_singleton.mp a]; dsimp only; omega
      · exact ih (some (i + 1)) (i + 1) (by omega) (fun x hx => by cases hx; omega) q a
    · rw [if_neg h] at hq
      exact ih s (i + 1) (by omega) (fun x hx => by have := h2 x hx; omega) q hq
def iv_w (q : Nat × Nat) : Nat := q.2 - q.1 + 1
theorem su_w {p : Nat → Bool} {e : Nat} : ∀ (n : Nat) (s : Option Nat) (i : Nat), i + n = e → (∀ x, s = some x → x ≤ i) → sm_l iv_w (su_e p e n s i) ≤ (match s with
    | none => e - i
    | some x => e - x + 1) := by
  intro n
  induction n with
  | zero =>
    intro s i h1 h2
    rw [su_0]
    cases s with
    | none => exact Nat.zero_le _
    | some x => show (e - x + 1) + 0 ≤ e - x + 1; omega
  | succ n ih =>
    intro s i h1 h2
    rw [su_s]
    by_cases h : p i = true
    · rw [if_pos h, sm_app]
      have := ih (some (i + 1)) (i + 1) (by omega) (fun x hx => by cases hx; omega)
      dsimp only at this
      cases s with
      | none => show 0 + _ ≤ e - i; omega
      | some x => have hx := h2 x rfl; show (i - x + 1 + 0) + _ ≤ e - x + 1; omega
    · rw [if_neg h]
      have := ih s (i + 1) (by omega) (fun x hx => by have := h2 x hx; omega)
      cases s with
      | none => dsimp only at this ⊢; omega
      | some x => exact this
def mb_v (DL : Nat → Nat) (dc : Nat → Nat → Nat) (f t : Nat) : Option Nat := match hd_v DL dc f t 109 with
  | none => none
  | some k => if DL k = 3 then some (dc k 2) else none
def pl_b (DL : Nat → Nat) (dc : Nat → Nat → Nat) (f t b : Nat) : List (Nat × Nat) := su_e (fun k => ct_p (DL k) (dc k) b) (cl_n DL dc b (t - bd_v DL f t) (bd_v DL f t)) (cl_n DL dc b (t - bd_v DL f t) (bd_v DL f t) - bd_v DL f t) none (bd_v DL f t)
def rp_n (DL : Nat → Nat) (dc : Nat → Nat → Nat) : Nat → Nat → Nat → List (List Nat × Nat) × Nat → List (List Nat × Nat) × Nat
  | 0, f, t, S => (lf_v DL dc f t S.1, S.2 + 1)
  | d + 1, f, t, S => match mb_v DL dc f t with
    | none => (lf_v DL dc f t S.1, S.2 + 1)
    | some b => (pl_b DL dc f t b).foldl (fun S q => rp_n DL dc d q.1 q.2 S) S
theorem rp_0 {DL : Nat → Nat} {dc : Nat → Nat → Nat} {f t : Nat} {S : List (List Nat × Nat) × Nat} : rp_n DL dc 0 f t S = (lf_v DL dc f t S.1, S.2 + 1) := rfl
theorem rp_s {DL : Nat → Nat} {dc : Nat → Nat → Nat} {d f t : Nat} {S : List (List Nat × Nat) × Nat} : rp_n DL dc (d + 1) f t S = match mb_v DL dc f t with
    | none => (lf_v DL dc f t S.1, S.2 + 1)
    | some b => (pl_b DL dc f t b).foldl (fun S q => rp_n DL dc d q.1 q.2 S) S := rfl
theorem pl_in {DL : Nat → Nat} {dc : Nat → Nat → Nat} {f t b : Nat} (h : f ≤ t) : (∀ q ∈ pl_b DL dc f t b, q.1 ≤ q.2 ∧ q.2 ≤ t) ∧ sm_l iv_w (pl_b DL dc f t b) ≤ t - f := by
  have hb := bd_r (DL := DL) h
  have hc := cl_r (DL := DL) (dc := dc) (b := b) (t - bd_v DL f t) (bd_v DL f t)
  constructor
  · intro q hq
    have := su_in (p := fun k => ct_p (DL k) (dc k) b) _ none _ (by omega) (fun x hx => by cases hx) q hq
    omega
  · have := su_w (p := fun k => ct_p (DL k) (dc k) b) (e := cl_n DL dc b (t - bd_v DL f t) (bd_v DL f t)) (cl_n DL dc b (t - bd_v DL f t) (bd_v DL f t) - bd_v DL f t) none (bd_v DL f t) (by omega) (fun x hx => by cases hx)
    dsimp only at this
    unfold pl_b
    omega
theorem rp_lv {DL : Nat → Nat} {dc : Nat → Nat → Nat} : ∀ (d f t : Nat) (S : List (List Nat × Nat) × Nat), f ≤ t → (rp_n DL dc d f t S).2 ≤ S.2 + (t - f + 1) := by
  intro d
  induction d with
  | zero => intro f t S h; rw [rp_0]; dsimp only; omega
  | succ d ih =>
    intro f t S h
    rw [rp_s]
    cases hb : mb_v DL dc f t with
    | none => dsimp only; omega
    | some b =>
      dsimp only
      have hp := pl_in (DL := DL) (dc := dc) (b := b) h
      have gen : ∀ (L : List (Nat × Nat)) (S : List (List Nat × Nat) × Nat), (∀ q ∈ L, q.1 ≤ q.2) → (L.foldl (fun S q => rp_n DL dc d q.1 q.2 S) S).2 ≤ S.2 + sm_l iv_w L := by
        intro L
        induction L with
        | nil => intro S _; exact Nat.le_refl _
        | cons q L ihL =>
          intro S hL
          rw [List.foldl_cons]
          have h1 := ihL (rp_n DL dc d q.1 q.2 S) (fun x hx => hL x (List.mem_cons_of_mem _ hx))
          have h2 := ih q.1 q.2 S (hL q List.mem_cons_self)
          show _ ≤ S.2 + ((q.2 - q.1 + 1) + sm_l iv_w L)
          omega
      have := gen _ S (fun q hq => (hp.1 q hq).1)
      omega
section PAA
variable {m : Nat} {n : Nat} {DL : Nat → Nat} {dc : Nat → Nat → Nat}
theorem mu_A (hm : m < 12) {d dp b e : Nat} (hb : b < 256) (hen : e ≤ n) (K : m_G → Nat → Option Nat → Int32 → Int32 → Int32 → Option Nat → Option (Unit × m_G))
    (hK : ∀ (f t : Nat) (S : List (List Nat × Nat) × Nat) (vv : hp_V) (ww : hp_W) (aa : hp_V) (bb : hp_B), f ≤ t → t ≤ n → dr_A vv aa n DL dc → pa_A m vv ww aa bb S → ∃ v1 w1 a1 b1, K (hp_mk vv ww aa bb) 65 (some 3) (nI f) (nI t) (nI (dp + 1)) (some (77 + 4 * m)) = some ((), hp_mk v1 w1 a1 b1) ∧ pa_A m v1 w1 a1 b1 (rp_n DL dc d f t S) ∧ fr_A m vv ww aa bb v1 w1 a1 b1) :
    ∀ (fu i : Nat) (s : Option Nat) (S : List (List Nat × Nat) × Nat) (vv : hp_V) (ww : hp_W) (aa : hp_V) (bb : hp_B), dr_A vv aa n DL dc → i ≤ e → e - i < fu → (∀ x, s = some x → x ≤ i) → pa_A m vv ww aa bb S → ∃ v1 w1 a1 b1, f_Reader_readMulti_16 K fu (hp_mk vv ww aa bb) 65 (some 3) (nI dp) (some (77 + 4 * m)) (nI b) (nI e) (th_enc s) (nI i) = some ((), hp_mk v1 w1 a1 b1) ∧ pa_A m v1 w1 a1 b1 ((su_e (fun k => ct_p (DL k) (dc k) b) e (e - i) s i).foldl (fun S q => rp_n DL dc d q.1 q.2 S) S) ∧ fr_A m vv ww aa bb v1 w1 a1 b1 := by
  intro fu
  induction fu with
  | zero => intro i s S vv ww aa bb _ h1 h2; omega
  | succ fu ih =>
    intro i s S vv ww aa bb hd h1 h2 hs hp
    have h30 := hd.1
    rw [f_Reader_readMulti_16]
    unfold f_Reader_readMulti_90 f_Reader_readMulti_58 f_Reader_readMulti_64
    by_cases ei : i = e
    · subst ei
      rw [if_pos (nI_le (Nat.le_refl _) (by omega)), Nat.sub_self, su_0]
      cases s with
      | none =>
        rw [if_pos (show th_enc none < 0 by decide)]
        exact ⟨vv, ww, aa, bb, rfl, hp, fr_Ar⟩
      | some x =>
        have hx := hs x rfl
        rw [if_neg (show ¬ th_enc (some x) < 0 from nI_pos (by omega))]
        obtain ⟨v1, w1, a1, b1, t1, t2, t3⟩ := hK x i S vv ww aa bb hx hen hd hp
        have t1' : K (hp_mk vv ww aa bb) 65 (some 3) (th_enc (some x)) (nI i) (nI (dp + 1)) (some (77 + 4 * m)) = _ := t1
        refine ⟨v1, w1, a1, b1, ?_, t2, t3⟩
        simp only [is_65, gd_t, nI_1, t1', bd_s]
    · have hi30 : i < 30 := by omega
      rw [if_neg (nI_ge (by omega) (by omega)), show e - i = (e - (i + 1)) + 1 by omega, su_s]
      simp only [ob_s, gr_3_0, ldR_4 hi30, is_L (isL_d hi30), gd_t, ic_A (isL_d hi30) (hd.2 i (by omega)) hb, bd_s, nI_1]
      cases hc : ct_p (DL i) (dc i) b with
      | false =>
        rw [if_pos (show iB false = 0 from rfl), if_neg (by decide)]
        exact ih (i + 1) s S vv ww aa bb hd (by omega) (by omega) (fun x hx => by have := hs x hx; omega) hp
      | true =>
        rw [if_neg (show ¬ iB true = 0 by decide), if_pos rfl, List.foldl_append]
        cases s with
        | none =>
          rw [if_pos (show th_enc none < 0 by decide)]
          exact ih (i + 1) (some (i + 1)) S vv ww aa bb hd (by omega) (by omega) (fun x hx => by cases hx; omega) hp
        | some x =>
          have hx := hs x rfl
          rw [if_neg (show ¬ th_enc (some x) < 0 from nI_pos (by omega))]
          obtain ⟨v1, w1, a1, b1, t1, t2, t3⟩ := hK x i S vv ww aa bb hx (by omega) hd hp
          have t1' : K (hp_mk vv ww aa bb) 65 (some 3) (th_enc (some x)) (nI i) (nI (dp + 1)) (some (77 + 4 * m)) = _ := t1
          obtain ⟨v2, w2, a2, b2, s1, s2, s3⟩ := ih (i + 1) (some (i + 1)) (rp_n DL dc d x i S) v1 w1 a1 b1 (dr_Af hm hd t3) (by omega) (by omega) (fun x hx => by cases hx; omega) t2
          refine ⟨v2, w2, a2, b2, ?_, s2, fr_At t3 s3⟩
          simp only [is_65, gd_t, nI_1, t1', bd_s]
          exact s1
theorem rp_A (hm : m < 12) : ∀ (d F : Nat), d < F → d ≤ 3 → ∀ (f t : Nat) (S : List (List Nat × Nat) × Nat) (vv : hp_V) (ww : hp_W) (aa : hp_V) (bb : hp_B), f ≤ t → t ≤ n → dr_A vv aa n DL dc → pa_A m vv ww aa bb S → ∃ v1 w1 a1 b1, f_Reader_readPart F (hp_mk vv ww aa bb) 65 (some 3) (nI f) (nI t) (nI (4 - d)) (some (77 + 4 * m)) = some ((), hp_mk v1 w1 a1 b1) ∧ pa_A m v1 w1 a1 b1 (rp_n DL dc d f t S) ∧ fr_A m vv ww aa bb v1 w1 a1 b1 := by
  intro d
  induction d with
  | zero =>
    intro F hF _ f t S vv ww aa bb h1 h2 hd hp
    obtain ⟨F, rfl⟩ : ∃ F', F = F' + 1 := ⟨F - 1, by omega⟩
    have h30 := hd.1
    rw [f_Reader_readPart]
    unfold f_Reader_readPartB f_Reader_readPart_18 f_Reader_readPart_63 f_Reader_readPart_81
    rw [if_pos (show (4 : Int32) ≤ nI (4 - 0) by decide)]
    have e1 := hd_A (ww := ww) (bb := bb) hd (key := 101) h1 h2 (by omega)
    have e1' : f_Draft_header (hp_mk vv ww aa bb) 3 (nI f) (nI t) 101 = _ := e1
    obtain ⟨v1, w1, a1, b1, s1, s2, s3⟩ := lf_A hm hd h1 h2 hp
    refine ⟨v1, w1, a1, b1, ?_, s2, s3⟩
    simp only [ob_s, is_3, gd_t, bd_A hd h1 h2, bd_s, e1', is_65, s1]
  | succ d ih =>
    intro F hF hd3 f t S vv ww aa bb h1 h2 hd hp
    obtain ⟨F, rfl⟩ : ∃ F', F = F' + 1 := ⟨F - 1, by omega⟩
    have h30 := hd.1
    rw [f_Reader_readPart]
    unfold f_Reader_readPartB f_Reader_readPart_18 f_Reader_readPart_63 f_Reader_readPart_81
    rw [if_neg (show ¬ (4 : Int32) ≤ nI (4 - (d + 1)) from nI_ge (b := 4) (by omega) (by omega))]
    have e0 := hd_A (ww := ww) (bb := bb) hd (key := 109) h1 h2 (by omega)
    have e0' : f_Draft_header (hp_mk vv ww aa bb) 3 (nI f) (nI t) 109 = _ := e0
    have e1 := hd_A (ww := ww) (bb := bb) hd (key := 101) h1 h2 (by omega)
    have e1' : f_Draft_header (hp_mk vv ww aa bb) 3 (nI f) (nI t) 101 = _ := e1
    simp only [ob_s, is_3, gd_t, e0', bd_A hd h1 h2, bd_s]
    have leaf : mb_v DL dc f t = none → ∃ v1 w1 a1 b1, (m_bd (f_Draft_header (hp_mk vv ww aa bb) 3 (nI f) (nI t) 101) fun v_3 g_2 => m_gd (m_is g_2 65 5) (m_bd (f_Reader_readLeaf g_2 65 (some 3) (nI (bd_v DL f t)) (nI t) v_3 (some (77 + 4 * m))) fun _ g_4 => some ((), g_4))) = some ((), hp_mk v1 w1 a1 b1) ∧ pa_A m v1 w1 a1 b1 (rp_n DL dc (d + 1) f t S) ∧ fr_A m vv ww aa bb v1 w1 a1 b1 := fun hn => by
      obtain ⟨v1, w1, a1, b1, s1, s2, s3⟩ := lf_A hm hd h1 h2 hp
      refine ⟨v1, w1, a1, b1, ?_, ?_, s3⟩
      · simp only [e1', bd_s, is_65, gd_t, s1]
      · rw [rp_s, hn]; exact s2
    cases hh : hd_v DL dc f t 109 with
    | none => exact leaf (by unfold mb_v; rw [hh])
    | some k =>
      have hr := hd_vr h1 hh
      have hk30 : k < 30 := by omega
      have hl := hd.2 k (by omega)
      have h40 := hl.1
      simp only [Option.map_some, gI_mk (isI_L (isL_d hk30)), ob_s, hl.2.1]
      by_cases e3 : DL k = 3
      · rw [if_pos (show nI (DL k) = 3 by rw [e3]; rfl)]
        have ha := at_A (ww := ww) (bb := bb) (isL_d hk30) hl (j := 2) (by omega)
        have ha' : f_Line_at (hp_mk vv ww aa bb) (5 + 2 * k) 2 = _ := ha
        have q := (hl.2.2 2 (by omega)).2
        have hb := bd_r (DL := DL) h1
        have hc := cl_r (DL := DL) (dc := dc) (b := dc k 2) (t - bd_v DL f t) (bd_v DL f t)
        have ec : f_Draft_closingPlace (hp_mk vv ww aa bb) 3 (nI (bd_v DL f t)) (nI t) (nI (dc k 2)) = some (nI (cl_n DL dc (dc k 2) (t - bd_v DL f t) (bd_v DL f t)), hp_mk vv ww aa bb) := cl_A hd h2 q m_fu (bd_v DL f t) hb.2 (by unfold m_fu; omega)
        have hmu := mu_A (DL := DL) (dc := dc) (n := n) hm (d := d) (dp := 4 - (d + 1)) (b := dc k 2) (e := cl_n DL dc (dc k 2) (t - bd_v DL f t) (bd_v DL f t)) q (by omega) (f_Reader_readPart F) (fun f' t' S' vv' ww' aa' bb' z1 z2 z3 z4 => by
          have := ih F (by omega) (by omega) f' t' S' vv' ww' aa' bb' z1 z2 z3 z4
          rw [show 4 - d = 4 - (d + 1) + 1 by omega] at this
          exact this) m_fu (bd_v DL f t) none S vv ww aa bb hd (by omega) (by unfold m_fu; omega) (fun x hx => by cases hx) hp
        obtain ⟨v1, w1, a1, b1, s1, s2, s3⟩ := hmu
        have s1' : f_Reader_readMulti_16 (f_Reader_readPart F) m_fu (hp_mk vv ww aa bb) 65 (some 3) (nI (4 - (d + 1))) (some (77 + 4 * m)) (nI (dc k 2)) (nI (cl_n DL dc (dc k 2) (t - bd_v DL f t) (bd_v DL f t))) (-1) (nI (bd_v DL f t)) = _ := s1
        refine ⟨v1, w1, a1, b1, ?_, ?_, s3⟩
        · unfold f_Reader_readMulti
          simp only [is_L (isL_d hk30), gd_t, ha', if_pos (show 2 < DL k by omega), bd_s, is_65, ob_s, is_3, ec, s1']
        · rw [rp_s, show mb_v DL dc f t = some (dc k 2) by unfold mb_v; rw [hh]; dsimp only; rw [if_pos e3]]
          exact s2
      · rw [if_neg (show ¬ nI _ = (3 : Int32) from nI_ne (b := 3) (by omega) (by omega) e3)]
        exact leaf (by unfold mb_v; rw [hh]; dsimp only; rw [if_neg e3])
end PAA
