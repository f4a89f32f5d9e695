/-! search: the reference's two stacks (sets at 143, signs at 144) -/
def ek_P (vv : hp_V) (ww : hp_W) (aa : hp_V) (bb : hp_B) (X : List Int32) (G : List Nat) (ns ng : Nat) (g : m_G) : Prop := ∃ v1 a1, g = hp_mk v1 ww a1 bb ∧ (∀ o k, ¬ (o = 126 ∧ (k = 24 ∨ k = 25)) → v1 o k = vv o k) ∧ (∀ o, o ≠ 143 → o ≠ 144 → a1 o = aa o) ∧ v1 126 24 = nI ns ∧ v1 126 25 = nI ng ∧ (∀ j y, X[j]? = some y → a1 143 j = y) ∧ (∀ j y, G[j]? = some y → a1 144 j = nI y)
section EKP
variable {vv : hp_V} {ww : hp_W} {aa : hp_V} {bb : hp_B} {X Y : List Int32} {G H : List Nat} {ns ng : Nat} {g : m_G}
theorem ek_is (h : ek_P vv ww aa bb X G ns ng g) : m_is g 126 8 = true := by
  obtain ⟨v1, a1, rfl, _⟩ := h; exact is_126
theorem ek_24 (h : ek_P vv ww aa bb X G ns ng g) : m_gI g 126 8 24 = some (nI ns) := by
  obtain ⟨v1, a1, rfl, _, _, h4, _⟩ := h; rw [gi_126_24, h4]
theorem ek_25 (h : ek_P vv ww aa bb X G ns ng g) : m_gI g 126 8 25 = some (nI ng) := by
  obtain ⟨v1, a1, rfl, _, _, _, h5, _⟩ := h; rw [gi_126_25, h5]
theorem ek_22 (h : ek_P vv ww aa bb X G ns ng g) : m_gR g 126 8 22 = some (some 143) := by
  obtain ⟨v1, a1, rfl, _⟩ := h; exact gr_126_22
theorem ek_23 (h : ek_P vv ww aa bb X G ns ng g) : m_gR g 126 8 23 = some (some 144) := by
  obtain ⟨v1, a1, rfl, _⟩ := h; exact gr_126_23
theorem ek_lx (h : ek_P vv ww aa bb X G ns ng g) {j : Nat} {y : Int32} (hj : X[j]? = some y) (h44 : j < 44) : m_ld g 143 0 (nI j) = some y := by
  obtain ⟨v1, a1, rfl, _, _, _, _, h6, _⟩ := h; rw [ld_143 h44, h6 j y hj]
theorem ek_lg (h : ek_P vv ww aa bb X G ns ng g) {j y : Nat} (hj : G[j]? = some y) (h44 : j < 44) : m_ld g 144 0 (nI j) = some (nI y) := by
  obtain ⟨v1, a1, rfl, _, _, _, _, _, h7⟩ := h; rw [ld_144 h44, h7 j y hj]
theorem ek_p24 (h : ek_P vv ww aa bb X G ns ng g) (k : Nat) : ∃ g', m_pI g 126 8 24 (nI k) = some g' ∧ ek_P vv ww aa bb X G k ng g' := by
  obtain ⟨v1, a1, rfl, h1, h2, h4, h5, h6, h7⟩ := h
  refine ⟨_, pi_126_24, up_v v1 126 24 (nI k), a1, rfl, fun o j ho => ?_, h2, ?_, ?_, h6, h7⟩
  · unfold up_v; rw [if_neg (fun z => ho ⟨z.1, Or.inl z.2⟩)]; exact h1 o j ho
  · unfold up_v; rw [if_pos ⟨rfl, rfl⟩]
  · unfold up_v; rw [if_neg (by omega)]; exact h5
theorem ek_p25 (h : ek_P vv ww aa bb X G ns ng g) (k : Nat) : ∃ g', m_pI g 126 8 25 (nI k) = some g' ∧ ek_P vv ww aa bb X G ns k g' := by
  obtain ⟨v1, a1, rfl, h1, h2, h4, h5, h6, h7⟩ := h
  refine ⟨_, pi_126_25, up_v v1 126 25 (nI k), a1, rfl, fun o j ho => ?_, h2, ?_, ?_, h6, h7⟩
  · unfold up_v; rw [if_neg (fun z => ho ⟨z.1, Or.inr z.2⟩)]; exact h1 o j ho
  · unfold up_v; rw [if_neg (by omega)]; exact h4
  · unfold up_v; rw [if_pos ⟨rfl, rfl⟩]
theorem cc_get {α : Type} {l : List α} {a z : α} {i : Nat} (hi : i ≠ l.length) (h : (l ++ [a])[i]? = some z) : l[i]? = some z := by
  have hl : i < l.length := by
    have := (List.getElem?_eq_some_iff.mp h).1
    rw [List.length_append, List.length_singleton] at this; omega
  rw [List.getElem?_append_left hl] at h; exact h
theorem ek_sx (h : ek_P vv ww aa bb X G ns ng g) {j : Nat} (hj : j = X.length) (h44 : j < 44) (y : Int32) : ∃ g', m_st g 143 0 (nI j) y = some g' ∧ ek_P vv ww aa bb (X ++ [y]) G ns ng g' := by
  obtain ⟨v1, a1, rfl, h1, h2, h4, h5, h6, h7⟩ := h
  refine ⟨_, st_143 h44, v1, up_a a1 143 (upd (a1 143) j y), rfl, h1, fun o o1 o2 => ?_, h4, h5, fun i z hz => ?_, fun i z hz => ?_⟩
  · unfold up_a; rw [if_neg o1]; exact h2 o o1 o2
  · unfold up_a; rw [if_pos rfl]
    by_cases e : i = j
    · rw [e, pk_us]; rw [e, hj, List.getElem?_concat_length] at hz; exact Option.some.inj hz
    · rw [pk_un e]; exact h6 i z (cc_get (by omega) hz)
  · unfold up_a; rw [if_neg (by omega)]; exact h7 i z hz
theorem ek_sg (h : ek_P vv ww aa bb X G ns ng g) {j : Nat} (hj : j = G.length) (h44 : j < 44) (y : Nat) : ∃ g', m_st g 144 0 (nI j) (nI y) = some g' ∧ ek_P vv ww aa bb X (G ++ [y]) ns ng g' := by
  obtain ⟨v1, a1, rfl, h1, h2, h4, h5, h6, h7⟩ := h
  refine ⟨_, st_144 h44, v1, up_a a1 144 (upd (a1 144) j (nI y)), rfl, h1, fun o o1 o2 => ?_, h4, h5, fun i z hz => ?_, fun i z hz => ?_⟩
  · unfold up_a; rw [if_neg o2]; exact h2 o o1 o2
  · unfold up_a; rw [if_neg (by omega)]; exact h6 i z hz
  · unfold up_a; rw [if_pos rfl]
    by_cases e : i = j
    · rw [e, pk_us]; rw [e, hj, List.getElem?_concat_length] at hz; rw [Option.some.inj hz]
    · rw [pk_un e]; exact h7 i z (cc_get (by omega) hz)
theorem ek_wx (h : ek_P vv ww aa bb (X ++ Y) G ns ng g) : ek_P vv ww aa bb X G ns ng g := by
  obtain ⟨v1, a1, e, h1, h2, h4, h5, h6, h7⟩ := h
  exact ⟨v1, a1, e, h1, h2, h4, h5, fun j y hy => h6 j y (by rw [List.getElem?_append_left (List.getElem?_eq_some_iff.mp hy).1]; exact hy), h7⟩
theorem ek_wg (h : ek_P vv ww aa bb X (G ++ H) ns ng g) : ek_P vv ww aa bb X G ns ng g := by
  obtain ⟨v1, a1, e, h1, h2, h4, h5, h6, h7⟩ := h
  exact ⟨v1, a1, e, h1, h2, h4, h5, h6, fun j y hy => h7 j y (by rw [List.getElem?_append_left (List.getElem?_eq_some_iff.mp hy).1]; exact hy)⟩
theorem ek_pr {th : Nat → Bool} (ht : ∀ m, m < 12 → aa 132 m = iB (th m)) (h : ek_P vv ww aa bb X G ns ng g) : f_Mod_present g 126 = some (nI (bm_n th 12), g) := by
  obtain ⟨v1, a1, rfl, h1, h2, _⟩ := h
  exact mM_pres (fun m hm => by rw [h2 132 (by omega) (by omega)]; exact ht m hm)
theorem on_47 (h : ek_P vv ww aa bb X G X.length ng g) (h44 : X.length < 44) (y : Int32) : ∃ g', f_Mod_one_47 g 126 y = some ((), g') ∧ ek_P vv ww aa bb (X ++ [y]) G (X.length + 1) ng g' := by
  unfold f_Mod_one_47
  obtain ⟨g1, e1, h1⟩ := ek_sx h rfl h44 y
  obtain ⟨g2, e2, h2⟩ := ek_p24 h1 (X.length + 1)
  refine ⟨g2, ?_, h2⟩
  simp only [ek_22 h, ob_s, ek_24 h, e1, ek_24 h1, nI_1, e2]
theorem on_2 {th : Nat → Bool} (ht : ∀ m, m < 12 → aa 132 m = iB (th m)) (hx : X.length < 44) (hl : ∀ y, G.getLast? = some y → y ≠ 33 ∧ y < 256) : ∀ (n fu : Nat) (p : Nat → Bool) (g : m_G), n < fu → G.length + n ≤ 44 → ek_P vv ww aa bb X (G ++ List.replicate n 33) X.length (G.length + n) g → ∃ g', f_Mod_one_2 fu g 126 (ms_p th p) = some ((), g') ∧ ek_P vv ww aa bb (X ++ [ms_p th (fun m => if od_b n = true then !p m else p m)]) G (X.length + 1) G.length g' := by
  intro n
  induction n with
  | zero =>
    intro fu p g hf hg h
    have h' : ek_P vv ww aa bb X G X.length G.length g := by
      rw [List.replicate_zero, List.append_nil] at h; exact h
    have hp : (fun m => if od_b 0 = true then !p m else p m) = p := funext fun m => if_neg (by decide)
    rw [hp]
    cases fu with
    | zero => omega
    | succ fu =>
      rw [f_Mod_one_2, ek_25 h', ob_s]
      obtain ⟨g', e1, e2⟩ := on_47 h' hx (ms_p th p)
      refine ⟨g', ?_, e2⟩
      by_cases hG : G.length = 0
      · rw [hG, if_pos (show nI 0 ≤ 0 by decide)]; exact e1
      · rw [if_neg (nI_nle (by omega) (by omega))]
        rcases List.eq_nil_or_concat G with e | ⟨G0, y, e⟩
        · rw [e] at hG; exact absurd rfl hG
        · rw [List.concat_eq_append] at e
          have hy := hl y (by rw [e]; exact List.getLast?_concat)
          have hlen : G.length = G0.length + 1 := by rw [e, List.length_append]; rfl
          have hld : m_ld g 144 0 (nI G0.length) = some (nI y) := ek_lg h' (by rw [e]; exact List.getElem?_concat_length) (by omega)
          have hpr : nI G.length - 1 = nI G0.length := by rw [hlen]; exact nI_pred _
          simp only [ek_23 h', ob_s, ek_25 h', hpr, hld]
          rw [if_neg (show ¬ nI y = (33 : Int32) from nI_ne (b := 33) (by omega) (by omega) hy.1)]
          exact e1
  | succ n ih =>
    intro fu p g hf hg h
    rw [List.replicate_succ', ← List.append_assoc] at h
    have hlen : (G ++ List.replicate n 33).length = G.length + n := by rw [List.length_append, List.length_replicate]
    cases fu with
    | zero => omega
    | succ fu =>
      have hld : m_ld g 144 0 (nI (G.length + n)) = some (nI 33) := ek_lg h (by rw [← hlen]; exact List.getElem?_concat_length) (by omega)
      have hpr : nI (G.length + (n + 1)) - 1 = nI (G.length + n) := nI_pred _
      obtain ⟨g1, e1, h1⟩ := ek_p25 h (G.length + n)
      obtain ⟨g', e2, h2⟩ := ih fu (fun m => !p m) g1 (by omega) (by omega) (ek_wg h1)
      refine ⟨g', ?_, ?_⟩
      · rw [f_Mod_one_2, ek_25 h, ob_s, if_neg (nI_nle (by omega) (by omega))]
        simp only [ek_23 h, ob_s, ek_25 h, hpr, hld]
        rw [if_pos (show nI 33 = (33 : Int32) from rfl), ek_is h, gd_t, ek_pr ht h, bd_s]
        simp only [ek_25 h, ob_s, hpr, e1]
        rw [ms_not]; exact e2
      · have hp : (fun m => if od_b (n + 1) = true then !p m else p m) = (fun m => if od_b n = true then !!p m else !p m) := funext fun m => by
          unfold od_b
          by_cases e : n % 2 = 1
          · rw [decide_eq_true e, decide_eq_false (show ¬ (n + 1) % 2 = 1 by omega), if_neg (by decide), if_pos rfl, Bool.not_not]
          · rw [decide_eq_false e, decide_eq_true (show (n + 1) % 2 = 1 by omega), if_neg (show ¬ false = true by decide), if_pos rfl]
        rw [hp]; exact h2
theorem re_43 {u v : Int32} {s : Nat} (h : ek_P vv ww aa bb (X ++ [u, v]) (G ++ [s]) (X.length + 2) (G.length + 1) g) (hX : X.length + 2 ≤ 44) (hG : G.length + 1 ≤ 44) (hs : s < 256) (kk : m_G → Nat → Int32 → Option (Unit × m_G)) (x1 : Int32) : ∃ g', f_Mod_reduce_43 kk g 126 x1 = kk g' 126 x1 ∧ ek_P vv ww aa bb (X ++ [if s = 38 then u &&& v else u ||| v]) G (X.length + 1) G.length g' := by
  obtain ⟨g1, e1, h1⟩ := ek_p25 h G.length
  obtain ⟨g2, e2, h2⟩ := ek_p24 h1 (X.length + 1)
  obtain ⟨g3, e3, h3⟩ := ek_sx (X := X) (ek_wx (Y := [u, v]) (ek_wg h2)) rfl (by omega) (if s = 38 then u &&& v else u ||| v)
  refine ⟨g3, ?_, h3⟩
  have p1 : nI (G.length + 1) - 1 = nI G.length := nI_pred _
  have p2 : nI (X.length + 2) - 1 = nI (X.length + 1) := nI_pred _
  have p3 : nI (X.length + 1) - 1 = nI X.length := nI_pred _
  have l1 : m_ld g2 144 0 (nI G.length) = some (nI s) := ek_lg h2 List.getElem?_concat_length (by omega)
  have l2 : m_ld g2 143 0 (nI X.length) = some u := ek_lx h2 (by rw [List.getElem?_append_right (Nat.le_refl _), Nat.sub_self]; rfl) (by omega)
  have l3 : m_ld g2 143 0 (nI (X.length + 1)) = some v := ek_lx h2 (by rw [List.getElem?_append_right (by omega), Nat.add_sub_cancel_left]; rfl) (by omega)
  unfold f_Mod_reduce_43
  simp only [ek_25 h, ob_s, p1, e1, ek_24 h1, p2, e2, ek_23 h2, ek_25 h2, l1, ek_22 h2, ek_24 h2, p3, l2, l3]
  by_cases e38 : s = 38
  · rw [if_pos (show nI s = 38 by rw [e38]; rfl)]
    rw [if_pos e38] at e3
    rw [e3, ob_s]
  · rw [if_neg (show ¬ nI s = (38 : Int32) from nI_ne (b := 38) (by omega) (by omega) e38)]
    rw [if_neg e38] at e3
    rw [e3, ob_s]
theorem re_1 {u v : Int32} {s : Nat} {x1 : Int32} (h : ek_P vv ww aa bb (X ++ [u, v]) (G ++ [s]) (X.length + 2) (G.length + 1) g) (hX : X.length + 2 ≤ 44) (hG : G.length + 1 ≤ 44) (hs : s = 38 ∨ (s = 124 ∧ x1 = 1)) (fu : Nat) : ∃ g', f_Mod_reduce_0 (fu + 1) g 126 x1 = f_Mod_reduce_0 fu g' 126 x1 ∧ ek_P vv ww aa bb (X ++ [if s = 38 then u &&& v else u ||| v]) G (X.length + 1) G.length g' := by
  obtain ⟨g', e1, e2⟩ := re_43 h hX hG (by omega) (f_Mod_reduce_0 fu) x1
  refine ⟨g', ?_, e2⟩
  have p1 : nI (G.length + 1) - 1 = nI G.length := nI_pred _
  have l1 : m_ld g 144 0 (nI G.length) = some (nI s) := ek_lg h List.getElem?_concat_length (by omega)
  rw [f_Mod_reduce_0, ek_25 h, ob_s, if_neg (nI_nle (by omega) (by omega))]
  simp only [ek_23 h, ob_s, ek_25 h, p1, l1]
  rcases hs with hs | ⟨hs, hx⟩
  · rw [if_pos (show nI s = 38 by rw [hs]; rfl)]; exact e1
  · rw [if_neg (show ¬ nI s = (38 : Int32) from nI_ne (b := 38) (by omega) (by omega) (by omega)), if_neg (show ¬ x1 = 0 by rw [hx]; decide), if_pos (show nI s = 124 by rw [hs]; rfl)]; exact e1
theorem re_0 {x1 : Int32} (h : ek_P vv ww aa bb X G ns G.length g) (hG : G.length ≤ 44) (hs : ∀ y, G.getLast? = some y → y < 256 ∧ y ≠ 38 ∧ (y ≠ 124 ∨ x1 = 0)) (fu : Nat) : f_Mod_reduce_0 (fu + 1) g 126 x1 = some ((), g) := by
  rw [f_Mod_reduce_0, ek_25 h, ob_s]
  by_cases hG0 : G.length = 0
  · rw [hG0, if_pos (show nI 0 ≤ 0 by decide)]; rfl
  · rw [if_neg (nI_nle (by omega) (by omega))]
    rcases List.eq_nil_or_concat G with e | ⟨G0, y, e⟩
    · rw [e] at hG0; exact absurd rfl hG0
    · rw [List.concat_eq_append] at e
      obtain ⟨y1, y2, y3⟩ := hs y (by rw [e]; exact List.getLast?_concat)
      have hlen : G.length = G0.length + 1 := by rw [e, List.length_append]; rfl
      have hld : m_ld g 144 0 (nI G0.length) = some (nI y) := ek_lg h (by rw [e]; exact List.getElem?_concat_length) (by omega)
      have hpr : nI G.length - 1 = nI G0.length := by rw [hlen]; exact nI_pred _
      simp only [ek_23 h, ob_s, ek_25 h, hpr, hld]
      rw [if_neg (show ¬ nI y = (38 : Int32) from nI_ne (b := 38) (by omega) (by omega) y2)]
      by_cases ex : x1 = 0
      · rw [if_pos ex]; rfl
      · rw [if_neg ex, if_neg (show ¬ nI y = (124 : Int32) from nI_ne (b := 124) (by omega) (by omega) (by rcases y3 with y3 | y3; exact y3; exact absurd y3 ex))]; rfl
end EKP
-- the levels on the stacks
def sA_g (A : Option (Nat → Bool)) : List Nat := match A with
  | none => []
  | some _ => [124]
def sB_g (B : Option (Nat → Bool)) : List Nat := match B with
  | none => []
  | some _ => [38]
def sA_x (th : Nat → Bool) (A : Option (Nat → Bool)) : List Int32 := match A with
  | none => []
  | some p => [ms_p th p]
def lv_G (L : lv_T) : List Nat := sA_g L.1 ++ sB_g L.2.1 ++ List.replicate L.2.2 33
def lv_X (th : Nat → Bool) (L : lv_T) : List Int32 := sA_x th L.1 ++ sA_x th L.2.1
def kl_G (K : List lv_T) : List Nat := K.flatMap (fun L => lv_G L ++ [40])
def kl_X (th : Nat → Bool) (K : List lv_T) : List Int32 := K.flatMap (lv_X th)
theorem kl_Gc {K : List lv_T} {L : lv_T} : kl_G (K ++ [L]) = kl_G K ++ lv_G L ++ [40] := by
  unfold kl_G; rw [List.flatMap_append, List.flatMap_singleton, List.append_assoc]
theorem kl_Xc {th : Nat → Bool} {K : List lv_T} {L : lv_T} : kl_X th (K ++ [L]) = kl_X th K ++ lv_X th L := by
  unfold kl_X; rw [List.flatMap_append, List.flatMap_singleton]
theorem kl_Gl {K : List lv_T} {y : Nat} (h : (kl_G K).getLast? = some y) : y = 40 := by
  rcases List.eq_nil_or_concat K with e | ⟨K0, L0, e⟩
  · rw [e] at h; cases h
  · rw [List.concat_eq_append] at e
    rw [e, kl_Gc, List.getLast?_concat] at h
    exact (Option.some.inj h).symm
theorem kA_l {K : List lv_T} {A : Option (Nat → Bool)} {y : Nat} (h : (kl_G K ++ sA_g A).getLast? = some y) : y = 40 ∨ y = 124 := by
  cases A with
  | none => rw [show sA_g none = [] from rfl, List.append_nil] at h; exact Or.inl (kl_Gl h)
  | some p => rw [show sA_g (some p) = [124] from rfl, List.getLast?_concat] at h; exact Or.inr (Option.some.inj h).symm
theorem kB_l {K : List lv_T} {A B : Option (Nat → Bool)} {y : Nat} (h : (kl_G K ++ sA_g A ++ sB_g B).getLast? = some y) : y = 40 ∨ y = 124 ∨ y = 38 := by
  cases B with
  | none => rw [show sB_g none = [] from rfl, List.append_nil] at h; rcases kA_l h with z | z; exact Or.inl z; exact Or.inr (Or.inl z)
  | some p => rw [show sB_g (some p) = [38] from rfl, List.getLast?_concat] at h; exact Or.inr (Or.inr (Option.some.inj h).symm)
/-- ONE is due, in the levels K and L, after k characters -/
def ed_P (vv : hp_V) (ww : hp_W) (aa : hp_V) (bb : hp_B) (th : Nat → Bool) (k : Nat) (K : List lv_T) (L : lv_T) (g : m_G) : Prop := ek_P vv ww aa bb (kl_X th K ++ lv_X th L) (kl_G K ++ lv_G L) (kl_X th K ++ lv_X th L).length (kl_G K ++ lv_G L).length g ∧ (kl_X th K ++ lv_X th L).length ≤ k ∧ (kl_G K ++ lv_G L).length ≤ k
/-- behind ONE, whose set is x -/
def eb_P (vv : hp_V) (ww : hp_W) (aa : hp_V) (bb : hp_B) (th : Nat → Bool) (k : Nat) (K : List lv_T) (L : lv_T) (x : Nat → Bool) (g : m_G) : Prop := ek_P vv ww aa bb (kl_X th K ++ lv_X th L ++ [ms_p th x]) (kl_G K ++ sA_g L.1 ++ sB_g L.2.1) ((kl_X th K ++ lv_X th L).length + 1) (kl_G K ++ sA_g L.1 ++ sB_g L.2.1).length g ∧ (kl_X th K ++ lv_X th L).length + 1 ≤ k ∧ (kl_G K ++ sA_g L.1 ++ sB_g L.2.1).length ≤ k
section EVL
variable {vv : hp_V} {ww : hp_W} {aa : hp_V} {bb : hp_B} {th : Nat → Bool} {K : List lv_T} {L : lv_T} {x p : Nat → Bool} {g : m_G} {k : Nat}
theorem ed_is (h : ed_P vv ww aa bb th k K L g) : m_is g 126 8 = true := ek_is h.1
theorem eb_is (h : eb_P vv ww aa bb th k K L x g) : m_is g 126 8 = true := ek_is h.1
theorem eb_mo (h : eb_P vv ww aa bb th k K L x g) {k' : Nat} (hk : k ≤ k') : eb_P vv ww aa bb th k' K L x g := ⟨h.1, Nat.le_trans h.2.1 hk, Nat.le_trans h.2.2 hk⟩
theorem one_d (ht : ∀ m, m < 12 → aa 132 m = iB (th m)) (h : ed_P vv ww aa bb th k K L g) (hk : k ≤ 43) (p : Nat → Bool) : ∃ g', f_Mod_one g 126 (ms_p th p) = some ((), g') ∧ eb_P vv ww aa bb th (k + 1) K (lv_z L) (ng_b L p) g' := by
  obtain ⟨h1, h2, h3⟩ := h
  have eG : kl_G K ++ lv_G L = kl_G K ++ sA_g L.1 ++ sB_g L.2.1 ++ List.replicate L.2.2 33 := by
    unfold lv_G; rw [List.append_assoc, List.append_assoc, List.append_assoc]
  rw [eG] at h1 h3
  rw [List.length_append (bs := List.replicate L.2.2 33), List.length_replicate] at h1 h3
  obtain ⟨g', e1, e2⟩ := on_2 ht (X := kl_X th K ++ lv_X th L) (by omega) (fun y hy => by have := kB_l hy; omega) L.2.2 m_fu p g (by unfold m_fu; omega) (by omega) h1
  exact ⟨g', e1, e2, by dsimp only [lv_z]; show (kl_X th K ++ lv_X th L).length + 1 ≤ _; omega, by show (kl_G K ++ sA_g L.1 ++ sB_g L.2.1).length ≤ _; omega⟩
theorem rdB_x {A B : Option (Nat → Bool)} {X : List Int32} {G : List Nat} {x1 : Int32} (h : ek_P vv ww aa bb (X ++ sA_x th B ++ [ms_p th x]) (G ++ sB_g B) ((X ++ sA_x th B).length + 1) (G ++ sB_g B).length g) (hX : (X ++ sA_x th B).length + 1 ≤ 44) (hG : (G ++ sB_g B).length ≤ 44) (fu : Nat) : ∃ g' fu', fu ≤ fu' ∧ f_Mod_reduce_0 (fu + 1) g 126 x1 = f_Mod_reduce_0 fu' g' 126 x1 ∧ ek_P vv ww aa bb (X ++ [ms_p th (fun m => pB_b B m && x m)]) G (X.length + 1) G.length g' := by
  cases B with
  | none =>
    have e0 : sA_x th none = [] := rfl
    have e1 : sB_g none = [] := rfl
    rw [e0, e1, List.append_nil, List.append_nil] at h
    have hp : (fun m => pB_b none m && x m) = x := funext fun m => Bool.true_and _
    rw [hp]
    exact ⟨g, fu + 1, Nat.le_succ _, rfl, h⟩
  | some q =>
    have e0 : sA_x th (some q) = [ms_p th q] := rfl
    have e1 : sB_g (some q) = [38] := rfl
    rw [e0, e1, List.length_append (bs := [ms_p th q]), List.length_append (bs := [38])] at h
    rw [e1, List.length_append] at hG
    rw [e0, List.length_append] at hX
    obtain ⟨g', e2, e3⟩ := re_1 (X := X) (G := G) (u := ms_p th q) (v := ms_p th x) (s := 38) (x1 := x1) (by rw [List.append_assoc] at h; exact h) hX hG (Or.inl rfl) fu
    rw [if_pos rfl, ms_and] at e3
    exact ⟨g', fu, Nat.le_refl _, e2, e3⟩
theorem rdA_x {A : Option (Nat → Bool)} {X : List Int32} {G : List Nat} (h : ek_P vv ww aa bb (X ++ sA_x th A ++ [ms_p th x]) (G ++ sA_g A) ((X ++ sA_x th A).length + 1) (G ++ sA_g A).length g) (hX : (X ++ sA_x th A).length + 1 ≤ 44) (hG : (G ++ sA_g A).length ≤ 44) (fu : Nat) : ∃ g' fu', fu ≤ fu' ∧ f_Mod_reduce_0 (fu + 1) g 126 1 = f_Mod_reduce_0 fu' g' 126 1 ∧ ek_P vv ww aa bb (X ++ [ms_p th (fun m => pA_b A m || x m)]) G (X.length + 1) G.length g' := by
  cases A with
  | none =>
    have e0 : sA_x th none = [] := rfl
    have e1 : sA_g none = [] := rfl
    rw [e0, e1, List.append_nil, List.append_nil] at h
    have hp : (fun m => pA_b none m || x m) = x := funext fun m => Bool.false_or _
    rw [hp]
    exact ⟨g, fu + 1, Nat.le_succ _, rfl, h⟩
  | some q =>
    have e0 : sA_x th (some q) = [ms_p th q] := rfl
    have e1 : sA_g (some q) = [124] := rfl
    rw [e0, e1, List.length_append (bs := [ms_p th q]), List.length_append (bs := [124])] at h
    rw [e1, List.length_append] at hG
    rw [e0, List.length_append] at hX
    obtain ⟨g', e2, e3⟩ := re_1 (X := X) (G := G) (u := ms_p th q) (v := ms_p th x) (s := 124) (x1 := 1) (by rw [List.append_assoc] at h; exact h) hX hG (Or.inr ⟨rfl, rfl⟩) fu
    rw [if_neg (by omega), ms_or] at e3
    exact ⟨g', fu, Nat.le_refl _, e2, e3⟩
theorem red_f (h : eb_P vv ww aa bb th k K L x g) (hk : k ≤ 44) : ∃ g', f_Mod_reduce g 126 0 = some ((), g') ∧ ek_P vv ww aa bb (kl_X th K ++ sA_x th L.1 ++ [ms_p th (fun m => pB_b L.2.1 m && x m)]) (kl_G K ++ sA_g L.1) ((kl_X th K ++ sA_x th L.1).length + 1) (kl_G K ++ sA_g L.1).length g' := by
  obtain ⟨h1, h2, h3⟩ := h
  unfold lv_X at h1 h2
  rw [← List.append_assoc] at h1 h2
  obtain ⟨g', fu', f1, f2, f3⟩ := rdB_x (A := none) (x1 := 0) h1 (by omega) (by omega) 99999
  have hl : (kl_G K ++ sA_g L.1).length ≤ 44 := by rw [List.length_append] at h3; omega
  refine ⟨g', ?_, f3⟩
  show f_Mod_reduce_0 (99999 + 1) g 126 0 = _
  rw [f2]
  cases fu' with
  | zero => omega
  | succ fu' => exact re_0 f3 hl (fun y hy => by have := kA_l hy; exact ⟨by omega, by omega, Or.inr rfl⟩) fu'
theorem red_t (h : eb_P vv ww aa bb th k K L x g) (hk : k ≤ 44) : ∃ g', f_Mod_reduce g 126 1 = some ((), g') ∧ ek_P vv ww aa bb (kl_X th K ++ [ms_p th (vl_b L x)]) (kl_G K) ((kl_X th K).length + 1) (kl_G K).length g' := by
  obtain ⟨h1, h2, h3⟩ := h
  unfold lv_X at h1 h2
  rw [← List.append_assoc] at h1 h2
  obtain ⟨g1, fu', f1, f2, f3⟩ := rdB_x (A := none) (x1 := 1) h1 (by omega) (by omega) 99999
  have hl : (kl_G K ++ sA_g L.1).length ≤ 44 := by rw [List.length_append] at h3; omega
  have hl2 : (kl_X th K ++ sA_x th L.1).length + 1 ≤ 44 := by rw [List.length_append] at h2; omega
  have hl3 : (kl_G K).length ≤ 44 := by rw [List.length_append] at hl; omega
  cases fu' with
  | zero => omega
  | succ fu' =>
    obtain ⟨g', fu2, f4, f5, f6⟩ := rdA_x f3 hl2 hl fu'
    refine ⟨g', ?_, f6⟩
    show f_Mod_reduce_0 (99999 + 1) g 126 1 = _
    rw [f2, f5]
    cases fu2 with
    | zero => omega
    | succ fu2 => exact re_0 f6 hl3 (fun y hy => by have := kl_Gl hy; exact ⟨by omega, by omega, Or.inl (by omega)⟩) fu2
theorem sg_12 {X : List Int32} {G : List Nat} {ns : Nat} (h : ek_P vv ww aa bb X G ns G.length g) (hG : G.length < 44) (y : Nat) : ∃ g', f_Mod_sign_12 g 126 (nI y) = some ((), g') ∧ ek_P vv ww aa bb X (G ++ [y]) ns (G.length + 1) g' := by
  obtain ⟨g1, e1, h1⟩ := ek_sg h rfl hG y
  obtain ⟨g2, e2, h2⟩ := ek_p25 h1 (G.length + 1)
  refine ⟨g2, ?_, h2⟩
  unfold f_Mod_sign_12 f_Mod_sign_117
  simp only [ek_23 h, ob_s, ek_25 h, e1, ek_25 h1, nI_1, e2]
theorem sg_33 (h : ed_P vv ww aa bb th k K L g) (hk : k ≤ 43) : ∃ g', f_Mod_sign g 126 33 = some ((), g') ∧ ed_P vv ww aa bb th (k + 1) K (L.1, L.2.1, L.2.2 + 1) g' := by
  obtain ⟨h1, h2, h3⟩ := h
  obtain ⟨g', e1, e2⟩ := sg_12 h1 (by omega) 33
  have eG : kl_G K ++ lv_G (L.1, L.2.1, L.2.2 + 1) = kl_G K ++ lv_G L ++ [33] := by
    unfold lv_G; dsimp only; rw [List.replicate_succ']; simp only [List.append_assoc]
  have eX : lv_X th (L.1, L.2.1, L.2.2 + 1) = lv_X th L := rfl
  refine ⟨g', ?_, ?_, ?_, ?_⟩
  · unfold f_Mod_sign; rw [if_pos rfl]; exact e1
  · rw [eG, eX, List.length_append (bs := [33])]; exact e2
  · rw [eX]; omega
  · rw [eG, List.length_append (bs := [33])]; show _ + 1 ≤ _; omega
theorem sg_40 (h : ed_P vv ww aa bb th k K L g) (hk : k ≤ 43) : ∃ g', f_Mod_sign g 126 40 = some ((), g') ∧ ed_P vv ww aa bb th (k + 1) (K ++ [L]) lv_0 g' := by
  obtain ⟨h1, h2, h3⟩ := h
  obtain ⟨g', e1, e2⟩ := sg_12 h1 (by omega) 40
  have eG : kl_G (K ++ [L]) ++ lv_G lv_0 = kl_G K ++ lv_G L ++ [40] := by
    rw [kl_Gc]; exact List.append_nil _
  have eX : kl_X th (K ++ [L]) ++ lv_X th lv_0 = kl_X th K ++ lv_X th L := by
    rw [kl_Xc]; exact List.append_nil _
  refine ⟨g', ?_, ?_, ?_, ?_⟩
  · unfold f_Mod_sign; rw [if_neg (by decide), if_pos rfl]; exact e1
  · rw [eG, eX, List.length_append (bs := [40])]; exact e2
  · rw [eX]; omega
  · rw [eG, List.length_append (bs := [40])]; show _ + 1 ≤ _; omega
theorem sg_38 (h : eb_P vv ww aa bb th k K L x g) (hk : k ≤ 43) : ∃ g', f_Mod_sign g 126 38 = some ((), g') ∧ ed_P vv ww aa bb th (k + 1) K (L.1, some (fun m => pB_b L.2.1 m && x m), 0) g' := by
  obtain ⟨g1, r1, r2⟩ := red_f h (by omega)
  obtain ⟨h1, h2, h3⟩ := h
  rw [List.length_append] at h3
  have h2' : (kl_X th K ++ sA_x th L.1).length + 1 ≤ k := by
    unfold lv_X at h2; rw [← List.append_assoc, List.length_append] at h2; omega
  obtain ⟨g2, e1, h4⟩ := ek_sg r2 rfl (by omega) 38
  obtain ⟨g3, e2, h5⟩ := ek_p25 h4 ((kl_G K ++ sA_g L.1).length + 1)
  have eG : kl_G K ++ lv_G (L.1, some (fun m => pB_b L.2.1 m && x m), 0) = kl_G K ++ sA_g L.1 ++ [38] := by
    unfold lv_G; dsimp only; rw [List.replicate_zero, List.append_nil, ← List.append_assoc]; rfl
  have eX : kl_X th K ++ lv_X th (L.1, some (fun m => pB_b L.2.1 m && x m), 0) = kl_X th K ++ sA_x th L.1 ++ [ms_p th (fun m => pB_b L.2.1 m && x m)] := by
    unfold lv_X; dsimp only; rw [← List.append_assoc]; rfl
  refine ⟨g3, ?_, ?_, ?_, ?_⟩
  · unfold f_Mod_sign; rw [if_neg (by decide), if_neg (by decide), if_neg (by decide), if_neg (by decide)]
    unfold f_Mod_sign_94 f_Mod_sign_117
    have e1' : m_st g1 144 0 (nI (kl_G K ++ sA_g L.1).length) 38 = some g2 := e1
    simp only [ob_s, ek_is h1, gd_t, r1, bd_s, ek_23 r2, ek_25 r2, e1', ek_25 h4, nI_1, e2]
  · rw [eG, eX, List.length_append (bs := [38]), List.length_append (as := kl_X th K ++ sA_x th L.1)]; exact h5
  · rw [eX, List.length_append (as := kl_X th K ++ sA_x th L.1)]; show _ + 1 ≤ _; omega
  · rw [eG, List.length_append (bs := [38])]; show _ + 1 ≤ _; omega
theorem sg_124 (h : eb_P vv ww aa bb th k K L x g) (hk : k ≤ 43) : ∃ g', f_Mod_sign g 126 124 = some ((), g') ∧ ed_P vv ww aa bb th (k + 1) K (some (vl_b L x), none, 0) g' := by
  obtain ⟨g1, r1, r2⟩ := red_t h (by omega)
  obtain ⟨h1, h2, h3⟩ := h
  have h3' : (kl_G K).length ≤ k := by rw [List.length_append, List.length_append] at h3; omega
  have h2' : (kl_X th K).length + 1 ≤ k := by rw [List.length_append] at h2; omega
  obtain ⟨g2, e1, h4⟩ := ek_sg r2 rfl (by omega) 124
  obtain ⟨g3, e2, h5⟩ := ek_p25 h4 ((kl_G K).length + 1)
  have eG : kl_G K ++ lv_G (some (vl_b L x), none, 0) = kl_G K ++ [124] := rfl
  have eX : kl_X th K ++ lv_X th (some (vl_b L x), none, 0) = kl_X th K ++ [ms_p th (vl_b L x)] := rfl
  refine ⟨g3, ?_, ?_, ?_, ?_⟩
  · unfold f_Mod_sign; rw [if_neg (by decide), if_neg (by decide), if_neg (by decide), if_pos rfl]
    unfold f_Mod_sign_94 f_Mod_sign_117
    have e1' : m_st g1 144 0 (nI (kl_G K).length) 124 = some g2 := e1
    simp only [ob_s, ek_is h1, gd_t, r1, bd_s, ek_23 r2, ek_25 r2, e1', ek_25 h4, nI_1, e2]
  · rw [eG, eX, List.length_append (bs := [124]), List.length_append (as := kl_X th K)]; exact h5
  · rw [eX, List.length_append (as := kl_X th K)]; show _ + 1 ≤ _; omega
  · rw [eG, List.length_append (bs := [124])]; show _ + 1 ≤ _; omega
theorem sg_41 (ht : ∀ m, m < 12 → aa 132 m = iB (th m)) {L0 : lv_T} (h : eb_P vv ww aa bb th k (K ++ [L0]) L x g) (hk : k ≤ 43) : ∃ g', f_Mod_sign g 126 41 = some ((), g') ∧ eb_P vv ww aa bb th (k + 1) K (lv_z L0) (ng_b L0 (vl_b L x)) g' := by
  obtain ⟨g1, r1, r2⟩ := red_t h (by omega)
  obtain ⟨h1, h2, h3⟩ := h
  rw [kl_Xc, kl_Gc] at r2
  rw [kl_Xc, List.length_append (bs := lv_X th L)] at h2
  rw [kl_Gc, List.length_append (bs := sB_g L.2.1), List.length_append (bs := sA_g L.1), List.length_append (bs := [40])] at h3
  have h3' : (kl_G K ++ lv_G L0).length + 1 ≤ k := by
    have : ([40] : List Nat).length = 1 := rfl
    omega
  have r3 : ek_P vv ww aa bb (kl_X th K ++ lv_X th L0 ++ [ms_p th (vl_b L x)]) (kl_G K ++ lv_G L0 ++ [40]) ((kl_X th K ++ lv_X th L0).length + 1) ((kl_G K ++ lv_G L0).length + 1) g1 := by
    rw [List.length_append (bs := [40])] at r2; exact r2
  obtain ⟨g2, e1, h4⟩ := ek_p25 r3 (kl_G K ++ lv_G L0).length
  obtain ⟨g3, e2, h5⟩ := ek_p24 h4 (kl_X th K ++ lv_X th L0).length
  have l1 : m_ld g3 143 0 (nI (kl_X th K ++ lv_X th L0).length) = some (ms_p th (vl_b L x)) := ek_lx h5 List.getElem?_concat_length (by omega)
  have hd : ed_P vv ww aa bb th k K L0 g3 := ⟨ek_wx (ek_wg h5), by omega, by omega⟩
  obtain ⟨g4, e3, h6⟩ := one_d ht hd hk (vl_b L x)
  refine ⟨g4, ?_, h6⟩
  have p1 : nI ((kl_G K ++ lv_G L0).length + 1) - 1 = nI (kl_G K ++ lv_G L0).length := nI_pred _
  have p2 : nI ((kl_X th K ++ lv_X th L0).length + 1) - 1 = nI (kl_X th K ++ lv_X th L0).length := nI_pred _
  unfold f_Mod_sign; rw [if_neg (by decide), if_neg (by decide), if_pos rfl]
  unfold f_Mod_sign_117
  simp only [ek_is h1, gd_t, r1, bd_s, ek_25 r3, ob_s, p1, e1, ek_24 h4, p2, e2, ek_22 h5, ek_24 h5, l1, ek_is h5, e3]
end EVL
