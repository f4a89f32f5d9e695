/-! WHAT HOLDS BETWEEN THE TWO OBJECTS. Words for a state: ln, lc (THE LINE), dn, DL, DC (THE DRAFT), th mi rc rf wc cd fl lv tg (MESSAGES: there, id, references, words, leaves, tags), od (in which order they were added), mo, ad (the reference's own count of that), fd (FOUND), ep (errorAt). -/
def th_up (P : Nat → Option Nat) : Nat → Nat → Nat → Bool
  | 0, _, _ => false
  | fu + 1, x, q => if q = x then true else match P q with
    | none => false
    | some z => th_up P fu x z
def th_set (P : Nat → Option Nat) (x y : Nat) : Nat → Option Nat := if th_up P 64 x y = true then P else va_up P x (some y)
def th_refs (rf : Nat → Nat) : Nat → (Nat → Option Nat) → Nat → Option Nat
  | 0, P => P
  | k + 1, P => if th_refs rf k P (rf (k + 1)) = none then th_set (th_refs rf k P) (rf (k + 1)) (rf k) else th_refs rf k P
def th_join (id rc : Nat) (rf : Nat → Nat) (P : Nat → Option Nat) : Nat → Option Nat := if rc = 0 then P else th_set (th_refs rf (rc - 1) P) id (rf (rc - 1))
def th_all (mi rc : Nat → Nat) (rf : Nat → Nat → Nat) (od : List Nat) : Nat → Option Nat := od.foldl (fun P m => th_join (mi m) (rc m) (rf m) P) (fun _ => none)
def th_enc (o : Option Nat) : Int32 := match o with
  | none => -1
  | some q => nI q
def cw_val (ds : List Nat) : Nat := ds.foldl (fun c d => 32 * c + d) 0
def cw_ok (ds : List Nat) : Prop := 1 ≤ ds.length ∧ ds.length ≤ 12 ∧ ∀ d ∈ ds, 1 ≤ d ∧ d ≤ 26
def iB (b : Bool) : Int32 := if b = true then 1 else 0
section INV
variable (vv : hp_V) (ww : hp_W) (aa : hp_V) (bb : hp_B)
def rA_line (ln : Nat) (lc : Nat → Int32) : Prop := vv 1 1 = nI ln ∧ ∀ j, j < ln → aa 2 j = lc j
def rM_line (ln : Nat) (lc : Nat → Int32) : Prop := aa 128 30 = nI ln ∧ ∀ j, j < ln → aa 127 (1200 + j) = lc j
def rA_draft (dn : Nat) (DL : Nat → Nat) (DC : Nat → Nat → Int32) : Prop := vv 3 1 = nI dn ∧ ∀ k, k < dn → vv (5 + 2 * k) 1 = nI (DL k) ∧ ∀ j, j < DL k → aa (5 + 2 * k + 1) j = DC k j
def rM_draft (dn : Nat) (DL : Nat → Nat) (DC : Nat → Nat → Int32) : Prop := vv 126 2 = nI dn ∧ ∀ k, k < dn → aa 128 k = nI (DL k) ∧ ∀ j, j < DL k → aa 127 (40 * k + j) = DC k j
def rA_chr : Prop := ∀ i, hp_isC i = true → ∀ j, j < 40 → fits .char (.int (aa i j)) = true
def rA_msg (th : Nat → Bool) (mi rc : Nat → Nat) (rf : Nat → Nat → Nat) (wc : Nat → Nat) (cd : Nat → Nat → Int64) (fl : Nat → Nat → Int32) (lv : Nat → Nat) (tg : Nat → Int32) : Prop := ∀ m, m < 12 →
  vv (77 + 4 * m) 3 = iB (th m) ∧ vv (77 + 4 * m) 4 = nI (mi m) ∧ vv (77 + 4 * m) 5 = nI (rc m) ∧ vv (77 + 4 * m) 6 = nI (wc m) ∧ vv (77 + 4 * m) 7 = nI (lv m) ∧ vv (77 + 4 * m) 8 = tg m ∧
  (∀ j, j < rc m → aa (77 + 4 * m + 1) j = nI (rf m j)) ∧ ∀ j, j < wc m → bb (77 + 4 * m + 2) j = cd m j ∧ aa (77 + 4 * m + 3) j = fl m j
def rM_msg (th : Nat → Bool) (mi rc : Nat → Nat) (rf : Nat → Nat → Nat) (wc : Nat → Nat) (cd : Nat → Nat → Int64) (fl : Nat → Nat → Int32) (lv : Nat → Nat) (tg : Nat → Int32) : Prop := ∀ m, m < 12 →
  aa 132 m = iB (th m) ∧ aa 133 m = nI (mi m) ∧ aa 136 m = nI (rc m) ∧ aa 139 m = nI (wc m) ∧ aa 138 m = nI (lv m) ∧ aa 137 m = tg m ∧
  (∀ j, j < rc m → aa 135 (4 * m + j) = nI (rf m j)) ∧ ∀ j, j < wc m → bb 140 (50 * m + j) = cd m j ∧ aa 141 (50 * m + j) = fl m j
def rA_ord (od : List Nat) : Prop := vv 0 7 = nI od.length ∧ ∀ k, k < od.length → aa 125 k = nI (od.getD k 0)
def rM_ord (od : List Nat) (mo : Nat → Nat) (ad : Nat) : Prop := vv 126 10 = nI ad ∧ (∀ m, m < 12 → aa 134 m = nI (mo m)) ∧ od.Pairwise (fun a b => mo a < mo b) ∧ (∀ m ∈ od, 1 ≤ mo m) ∧ ∀ m, m < 12 → mo m ≤ ad
def rA_par (P : Nat → Option Nat) : Prop := ∀ q, q < 64 → aa 70 q = th_enc (P q)
def rA_mis (fd : Nat) (ep : Int32) : Prop := vv 0 8 = nI fd ∧ vv 0 9 = ep
def rM_mis (fd : Nat) (ep : Int32) : Prop := vv 126 20 = nI fd ∧ vv 126 21 = ep
def rA_let : Prop := ww 66 = 0 ∧ vv 66 1 = 0
def rM_let : Prop := ww 126 = 0 ∧ vv 126 27 = 0
end INV
def rX_line (ln : Nat) (lc : Nat → Int32) : Prop := ln ≤ 40 ∧ ∀ j, j < ln → ∃ c, c < 256 ∧ lc j = nI c
def rX_draft (dn : Nat) (DL : Nat → Nat) (DC : Nat → Nat → Int32) : Prop := dn ≤ 30 ∧ ∀ k, k < dn → DL k ≤ 40 ∧ ∀ j, j < DL k → ∃ c, c < 256 ∧ DC k j = nI c
def rX_msg (th : Nat → Bool) (mi rc : Nat → Nat) (rf : Nat → Nat → Nat) (wc : Nat → Nat) (cd : Nat → Nat → Int64) (fl : Nat → Nat → Int32) (lv : Nat → Nat) (od : List Nat) : Prop :=
  (∀ m, m < 12 → mi m < 64 ∧ rc m ≤ 4 ∧ (∀ j, j < rc m → rf m j < 64) ∧ wc m ≤ 50 ∧ lv m ≤ 100 ∧ ∀ j, j < wc m → ∃ ds, cw_ok ds ∧ cd m j = lN (cw_val ds)) ∧
  (∀ a b, a < 12 → b < 12 → th a = true → th b = true → mi a = mi b → a = b) ∧ od.Nodup ∧ ∀ m, m ∈ od ↔ m < 12 ∧ th m = true
/-- all that holds before a call at the place i of the script -/
def Inv_z (i : Nat) (vv : hp_V) (ww : hp_W) (aa : hp_V) (bb : hp_B) (ln : Nat) (lc : Nat → Int32) (dn : Nat) (DL : Nat → Nat) (DC : Nat → Nat → Int32) (th : Nat → Bool) (mi rc : Nat → Nat) (rf : Nat → Nat → Nat) (wc : Nat → Nat) (cd : Nat → Nat → Int64) (fl : Nat → Nat → Int32) (lv : Nat → Nat) (tg : Nat → Int32) (od : List Nat) (mo : Nat → Nat) (ad fd : Nat) (ep : Int32) : Prop :=
  (rA_line vv aa ln lc ∧ rM_line aa ln lc ∧ rX_line ln lc) ∧ (rA_draft vv aa dn DL DC ∧ rM_draft vv aa dn DL DC ∧ rX_draft dn DL DC) ∧ rA_chr aa ∧
  (rA_msg vv aa bb th mi rc rf wc cd fl lv tg ∧ rM_msg aa bb th mi rc rf wc cd fl lv tg ∧ rX_msg th mi rc rf wc cd fl lv od) ∧
  (rA_ord vv aa od ∧ rM_ord vv aa od mo ad ∧ ad ≤ i) ∧ rA_par aa (th_all mi rc rf od) ∧ (rA_mis vv fd ep ∧ rM_mis vv fd ep ∧ fd < 4096) ∧ rA_let vv ww ∧ rM_let vv ww
def Inv_g (i : Nat) (g : m_G) : Prop := ∃ vv ww aa bb ln lc dn DL DC th mi rc rf wc cd fl lv tg od mo ad fd ep, g = hp_mk vv ww aa bb ∧ Inv_z i vv ww aa bb ln lc dn DL DC th mi rc rf wc cd fl lv tg od mo ad fd ep
theorem inv_is0 (i : Nat) (g : m_G) (h : Inv_g i g) : m_is g 0 0 = true := by
  obtain ⟨vv, ww, aa, bb, ln, lc, dn, DL, DC, th, mi, rc, rf, wc, cd, fl, lv, tg, od, mo, ad, fd, ep, rfl, h⟩ := h
  exact is_mk (ts := hp_arc) (f := hp_nof) (l := 0) rfl
-- what stays when other cells change
section CGR
variable {vv vv' : hp_V} {ww ww' : hp_W} {aa aa' : hp_V} {bb bb' : hp_B}
theorem cg_Aline {ln : Nat} {lc : Nat → Int32} (h : rA_line vv aa ln lc) (h1 : vv' 1 1 = vv 1 1) (h2 : aa' 2 = aa 2) : rA_line vv' aa' ln lc := by
  unfold rA_line at h ⊢; rw [h1, h2]; exact h
theorem cg_Mline {ln : Nat} {lc : Nat → Int32} (h : rM_line aa ln lc) (h1 : aa' 128 30 = aa 128 30) (h2 : ∀ j, j < ln → aa' 127 (1200 + j) = aa 127 (1200 + j)) : rM_line aa' ln lc := by
  unfold rM_line at h ⊢; rw [h1]; exact ⟨h.1, fun j hj => by rw [h2 j hj]; exact h.2 j hj⟩
theorem cg_Adraft {dn : Nat} {DL : Nat → Nat} {DC : Nat → Nat → Int32} (h : rA_draft vv aa dn DL DC) (h1 : vv' 3 1 = vv 3 1) (h2 : ∀ k, k < dn → vv' (5 + 2 * k) 1 = vv (5 + 2 * k) 1) (h3 : ∀ k, k < dn → aa' (5 + 2 * k + 1) = aa (5 + 2 * k + 1)) : rA_draft vv' aa' dn DL DC := by
  unfold rA_draft at h ⊢; rw [h1]; exact ⟨h.1, fun k hk => by rw [h2 k hk, h3 k hk]; exact h.2 k hk⟩
theorem cg_Mdraft {dn : Nat} {DL : Nat → Nat} {DC : Nat → Nat → Int32} (h : rM_draft vv aa dn DL DC) (h1 : vv' 126 2 = vv 126 2) (h2 : ∀ k, k < dn → aa' 128 k = aa 128 k) (h3 : ∀ k, k < dn → ∀ j, j < DL k → aa' 127 (40 * k + j) = aa 127 (40 * k + j)) : rM_draft vv' aa' dn DL DC := by
  unfold rM_draft at h ⊢; rw [h1]; exact ⟨h.1, fun k hk => by rw [h2 k hk]; exact ⟨(h.2 k hk).1, fun j hj => by rw [h3 k hk j hj]; exact (h.2 k hk).2 j hj⟩⟩
theorem cg_chr (h : rA_chr aa) (h1 : ∀ i, hp_isC i = true → aa' i = aa i) : rA_chr aa' := fun i hi j hj => by rw [h1 i hi]; exact h i hi j hj
theorem cg_Amsg {th : Nat → Bool} {mi rc : Nat → Nat} {rf : Nat → Nat → Nat} {wc : Nat → Nat} {cd : Nat → Nat → Int64} {fl : Nat → Nat → Int32} {lv : Nat → Nat} {tg : Nat → Int32} (h : rA_msg vv aa bb th mi rc rf wc cd fl lv tg) (h1 : ∀ i k, 77 ≤ i → i < 125 → vv' i k = vv i k) (h2 : ∀ i, 77 ≤ i → i < 125 → aa' i = aa i) (h3 : ∀ i, 77 ≤ i → i < 125 → bb' i = bb i) : rA_msg vv' aa' bb' th mi rc rf wc cd fl lv tg := by
  intro m hm
  have h := h m hm
  rw [h1 _ 3 (by omega) (by omega), h1 _ 4 (by omega) (by omega), h1 _ 5 (by omega) (by omega), h1 _ 6 (by omega) (by omega), h1 _ 7 (by omega) (by omega), h1 _ 8 (by omega) (by omega), h2 _ (by omega) (by omega), h2 (77 + 4 * m + 3) (by omega) (by omega), h3 _ (by omega) (by omega)]
  exact h
theorem cg_Mmsg {th : Nat → Bool} {mi rc : Nat → Nat} {rf : Nat → Nat → Nat} {wc : Nat → Nat} {cd : Nat → Nat → Int64} {fl : Nat → Nat → Int32} {lv : Nat → Nat} {tg : Nat → Int32} (h : rM_msg aa bb th mi rc rf wc cd fl lv tg) (h2 : ∀ i, 132 ≤ i → i < 142 → aa' i = aa i) (h3 : bb' 140 = bb 140) : rM_msg aa' bb' th mi rc rf wc cd fl lv tg := by
  intro m hm
  have h := h m hm
  rw [h2 132 (by omega) (by omega), h2 133 (by omega) (by omega), h2 136 (by omega) (by omega), h2 139 (by omega) (by omega), h2 138 (by omega) (by omega), h2 137 (by omega) (by omega), h2 135 (by omega) (by omega), h2 141 (by omega) (by omega), h3]
  exact h
theorem cg_Aord {od : List Nat} (h : rA_ord vv aa od) (h1 : vv' 0 7 = vv 0 7) (h2 : aa' 125 = aa 125) : rA_ord vv' aa' od := by
  unfold rA_ord at h ⊢; rw [h1, h2]; exact h
theorem cg_Mord {od : List Nat} {mo : Nat → Nat} {ad : Nat} (h : rM_ord vv aa od mo ad) (h1 : vv' 126 10 = vv 126 10) (h2 : aa' 134 = aa 134) : rM_ord vv' aa' od mo ad := by
  unfold rM_ord at h ⊢; rw [h1, h2]; exact h
theorem cg_par {P : Nat → Option Nat} (h : rA_par aa P) (h1 : aa' 70 = aa 70) : rA_par aa' P := by
  unfold rA_par at h ⊢; rw [h1]; exact h
theorem cg_Amis {fd : Nat} {ep : Int32} (h : rA_mis vv fd ep) (h1 : ∀ k, vv' 0 k = vv 0 k) : rA_mis vv' fd ep := by
  unfold rA_mis at h ⊢; rw [h1, h1]; exact h
theorem cg_Mmis {fd : Nat} {ep : Int32} (h : rM_mis vv fd ep) (h1 : vv' 126 20 = vv 126 20) (h2 : vv' 126 21 = vv 126 21) : rM_mis vv' fd ep := by
  unfold rM_mis at h ⊢; rw [h1, h2]; exact h
theorem cg_Alet (h : rA_let vv ww) (h1 : ww' 66 = ww 66) (h2 : vv' 66 1 = vv 66 1) : rA_let vv' ww' := by
  unfold rA_let at h ⊢; rw [h1, h2]; exact h
theorem cg_Mlet (h : rM_let vv ww) (h1 : ww' 126 = ww 126) (h2 : vv' 126 27 = vv 126 27) : rM_let vv' ww' := by
  unfold rM_let at h ⊢; rw [h1, h2]; exact h
end CGR
