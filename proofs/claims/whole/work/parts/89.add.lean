/-! add -/
theorem vu_s {α : Type} {f : Nat → α} {m : Nat} {x : α} : va_up f m x m = x := by unfold va_up; rw [if_pos rfl]
theorem vu_n {α : Type} {f : Nat → α} {m a : Nat} {x : α} (h : a ≠ m) : va_up f m x a = f a := by unfold va_up; rw [if_neg h]
def ff_n (th : Nat → Bool) : Nat → Nat → Option Nat
  | 0, _ => none
  | n + 1, k => if th k = true then ff_n th n (k + 1) else some k
theorem ff_s {th : Nat → Bool} {n k : Nat} : ff_n th (n + 1) k = if th k = true then ff_n th n (k + 1) else some k := rfl
theorem ff_r {th : Nat → Bool} : ∀ n k m, ff_n th n k = some m → m < k + n ∧ th m = false := by
  intro n
  induction n with
  | zero => intro k m h; cases h
  | succ n ih =>
    intro k m h
    rw [ff_s] at h
    by_cases e : th k = true
    · rw [if_pos e] at h; have := ih _ _ h; exact ⟨by omega, this.2⟩
    · rw [if_neg e] at h; cases h; exact ⟨by omega, by simpa using e⟩
theorem wi_no {th : Nat → Bool} {mi : Nat → Nat} {id : Nat} : ∀ n k, wi_n th mi id n k = none → ∀ j, k ≤ j → j < k + n → ¬ (th j = true ∧ mi j = id) := by
  intro n
  induction n with
  | zero => intro k _ j h1 h2; omega
  | succ n ih =>
    intro k h j h1 h2
    rw [wi_s] at h
    by_cases e : th k = true ∧ mi k = id
    · rw [if_pos e] at h; cases h
    · rw [if_neg e] at h
      by_cases ej : j = k
      · rw [ej]; exact e
      · exact ih (k + 1) h j (by omega) (by omega)
section ADD
variable {vv : hp_V} {ww : hp_W} {aa : hp_V} {bb : hp_B} {th : Nat → Bool} {mi : Nat → Nat}
theorem nf_A (h : ∀ m, m < 12 → vv (77 + 4 * m) 3 = iB (th m)) : ∀ (fu k : Nat), k ≤ 12 → 12 - k < fu → f_Arc_numberForDraft_27 fu (hp_mk vv ww aa bb) 0 (nI k) = some (match ff_n th (12 - k) k with
    | none => -2
    | some m => nI m, hp_mk vv ww aa bb) := by
  intro fu
  induction fu with
  | zero => intro k h1 h2; omega
  | succ fu ih =>
    intro k h1 h2
    rw [f_Arc_numberForDraft_27]
    by_cases hk : k = 12
    · subst hk
      rw [if_pos (show (12 : Int32) ≤ nI 12 from by decide)]; rfl
    · have hk2 : k < 12 := by omega
      rw [if_neg (show ¬ (12 : Int32) ≤ nI k from nI_ge (b := 12) hk2 (by omega)), show 12 - k = (12 - (k + 1)) + 1 by omega, ff_s]
      simp only [gr_0_5, ob_s, ldR_76 hk2, gI_mk (isI_m hk2 (k := 3) (by omega) (by omega)), h k hk2, nI_1]
      cases hth : th k with
      | false => rw [if_pos (show iB false = 0 from rfl), if_neg (by decide)]
      | true =>
        rw [if_neg (show ¬ iB true = 0 by decide), if_pos rfl]
        exact ih (k + 1) (by omega) (by omega)
theorem nf_M1 (h : ∀ m, m < 12 → aa 132 m = iB (th m) ∧ aa 133 m = nI (mi m) ∧ mi m < 64) {id n : Nat} (hid : id < 64) : ∀ (fu q : Nat) (x : Int32), q ≤ 12 → q < fu → (∃ j, j < q ∧ th j = true ∧ mi j = id) → f_Mod_add_55 fu (hp_mk vv ww aa bb) 126 (nI n) (nI id) x (nI q - 1) = some (-1, hp_mk vv ww aa bb) := by
  intro fu
  induction fu with
  | zero => intro q x h1 h2; omega
  | succ fu ih =>
    intro q x h1 h2 hj
    rw [f_Mod_add_55]
    cases q with
    | zero => obtain ⟨j, z, _⟩ := hj; omega
    | succ q =>
      have hq : q < 12 := by omega
      obtain ⟨i1, i2, i3⟩ := h q hq
      rw [nI_pred, if_neg (nI_pos (by omega))]
      unfold f_Mod_add_83 f_Mod_add_97
      simp only [gr_126_7, ob_s, ld_132 hq, i1, gr_126_8, ld_133 hq, i2, nI_am1]
      have hj2 : ¬ (th q = true ∧ mi q = id) → ∃ j, j < q ∧ th j = true ∧ mi j = id := fun z => by
        obtain ⟨j, z1, z2⟩ := hj
        refine ⟨j, ?_, z2⟩
        by_cases e : j = q
        · rw [e] at z2; exact absurd z2 z
        · omega
      cases hth : th q with
      | false =>
        rw [if_pos (show iB false = 0 from rfl)]
        exact ih q (nI q) (by omega) (by omega) (hj2 (fun z => by rw [hth] at z; cases z.1))
      | true =>
        rw [if_neg (show ¬ iB true = 0 by decide)]
        by_cases e : mi q = id
        · rw [if_pos (by rw [e])]
        · rw [if_neg (nI_ne (by omega) (by omega) e)]
          exact ih q x (by omega) (by omega) (hj2 (fun z => e z.2))
theorem nf_M2 (h : ∀ m, m < 12 → aa 132 m = iB (th m) ∧ aa 133 m = nI (mi m) ∧ mi m < 64) {id n : Nat} (hid : id < 64) (hno : ∀ j, j < 12 → ¬ (th j = true ∧ mi j = id)) : ∀ (fu q : Nat), q ≤ 12 → q < fu → f_Mod_add_55 fu (hp_mk vv ww aa bb) 126 (nI n) (nI id) (nI ((ff_n th (12 - q) q).getD 12)) (nI q - 1) = match ff_n th 12 0 with
    | none => some (-2, hp_mk vv ww aa bb)
    | some m => m_bd (f_Mod_fill (hp_mk vv ww aa bb) 126 (nI m) (nI id) (nI n)) (fun _ g => some (nI m, g)) := by
  intro fu
  induction fu with
  | zero => intro q h1 h2; omega
  | succ fu ih =>
    intro q h1 h2
    rw [f_Mod_add_55]
    cases q with
    | zero =>
      rw [if_pos (by decide)]
      simp only [Nat.sub_zero]
      cases hf : ff_n th 12 0 with
      | none => rw [if_pos (by decide)]
      | some m =>
        have := ff_r _ _ _ hf
        rw [if_neg (show ¬ nI ((some m).getD 12) = (12 : Int32) from nI_ne (b := 12) (by show m < _; omega) (by omega) (by show m ≠ 12; omega))]
        simp only [is_126, gd_t]
        rfl
    | succ q =>
      have hq : q < 12 := by omega
      obtain ⟨i1, i2, i3⟩ := h q hq
      rw [nI_pred, if_neg (nI_pos (by omega))]
      unfold f_Mod_add_83 f_Mod_add_97
      simp only [gr_126_7, ob_s, ld_132 hq, i1, gr_126_8, ld_133 hq, i2, nI_am1]
      have hih := ih q (by omega) (by omega)
      rw [show 12 - q = (12 - (q + 1)) + 1 by omega, ff_s] at hih
      cases hth : th q with
      | false =>
        rw [if_pos (show iB false = 0 from rfl)]
        rw [hth, if_neg (by decide)] at hih
        exact hih
      | true =>
        rw [if_neg (show ¬ iB true = 0 by decide), if_neg (nI_ne (by omega) (by omega) (fun z => hno q hq ⟨hth, z⟩)), if_neg (show ¬ iB true = 0 by decide)]
        rw [hth, if_pos rfl] at hih
        exact hih
end ADD
theorem op_add (i : Nat) (hi : i ≤ 2048) : op_two (Inv_g i) (Inv_g (i + 4)) (fun g => f_Arc_add g 0) (fun g => f_Mod_add g 126) := by
  refine op_do (fun vv ww aa bb ln lc dn DL DC th mi rc rf wc cd fl lv tg od mo ad fd ep hz => ?_)
  have hz0 := hz
  obtain ⟨l0, ⟨d1, d2, d3⟩, a3, ⟨hA, hM, hX⟩, ⟨o1, ⟨o2, o3, o4, o5, o6⟩, o7⟩, a6, ⟨m1, m2, m3⟩, a8, a9⟩ := hz
  obtain ⟨dc, hdc⟩ : ∃ dc : Nat → Nat → Nat, dc = fun k j => (DC k j).toNatClampNeg := ⟨_, rfl⟩
  have hch : ∀ k, k < dn → ∀ j, j < DL k → DC k j = nI (dc k j) ∧ dc k j < 256 := fun k hk j hj => by
    obtain ⟨c, c1, c2⟩ := (d3.2 k hk).2 j hj
    have : dc k j = c := by rw [hdc]; dsimp only; rw [c2, nI_clamp (by omega)]
    rw [this]; exact ⟨c2, c1⟩
  have drA : dr_A vv aa dn DL dc := ⟨d3.1, fun k hk => ⟨(d3.2 k hk).1, (d1.2 k hk).1, fun j hj => ⟨by rw [(d1.2 k hk).2 j hj, (hch k hk j hj).1], (hch k hk j hj).2⟩⟩⟩
  have drM : dr_M aa dn DL dc := ⟨d3.1, fun k hk => ⟨(d3.2 k hk).1, (d2.2 k hk).1, fun j hj => ⟨by rw [(d2.2 k hk).2 j hj, (hch k hk j hj).1], (hch k hk j hj).2⟩⟩⟩
  have hdn := d3.1
  have eidA := id_A (ww := ww) (bb := bb) drA d1.1
  -- the reference's start
  have startM : ∀ (v : hp_V) (w : hp_W) (a : hp_V) (b : hp_B), v 126 2 = nI dn → dr_M a dn DL dc → f_Mod_add (hp_mk v w a b) 126 = f_Mod_add_39 (hp_mk (up_v v 126 2 0) w a b) 126 (nI dn) (th_enc (id_v DL dc dn)) := fun v w a b z1 z2 => by
    have e1 := hd_M (vv := up_v v 126 2 0) (ww := w) (bb := b) z2 (f := 0) (t := dn) (key := 105) (Nat.zero_le _) (Nat.le_refl _) (by omega)
    have e1' : f_Mod_header (hp_mk (up_v v 126 2 0) w a b) 126 0 (nI dn) 105 = _ := e1
    unfold f_Mod_add
    simp only [gi_126_2, ob_s, z1, pi_126_2, is_126, gd_t, e1', bd_s]
    unfold id_v
    cases hh : hd_v DL dc 0 dn 105 with
    | none => rw [if_neg (by decide)]; rfl
    | some k =>
      have hr := hd_vr (by omega) hh
      rw [if_pos (show (0 : Int32) ≤ th_enc (some k) from nI_pos' (by omega))]
      have el : m_ld (hp_mk (up_v v 126 2 0) w a b) 128 0 (th_enc (some k)) = some (a 128 k) := ld_128 (by omega)
      have en := nu_M (vv := up_v v 126 2 0) (ww := w) (bb := b) z2 hr.2.1 (f := 2) (t := DL k) hr.2.2 (Nat.le_refl _)
      have en' : f_Mod_number (hp_mk (up_v v 126 2 0) w a b) 126 (th_enc (some k)) 2 (nI (DL k)) = _ := en
      simp only [gr_126_1, ob_s, el, (z2.2 k hr.2.1).2.1, is_126, gd_t, en', bd_s]
  have clrA : ∀ (v : hp_V) (w : hp_W) (a : hp_V) (b : hp_B) (x : Int32), f_Arc_add_50 (hp_mk v w a b) 0 x = some (x, hp_mk (up_v v 3 1 0) w a b) := fun v w a b x => by
    simp only [f_Arc_add_50, gr_0_1, ob_s, is_3, gd_t, f_Draft_clear, pi_3_1, bd_s]
  have hvM : up_v vv 3 1 0 126 2 = nI dn := by rw [uv_i (by omega)]; exact d2.1
  -- nothing is added: only the draft is emptied
  have fail : ∀ r : Int32, r < 0 → f_Arc_numberForDraft (hp_mk vv ww aa bb) 0 = some (r, hp_mk vv ww aa bb) → f_Mod_add_39 (hp_mk (up_v (up_v vv 3 1 0) 126 2 0) ww aa bb) 126 (nI dn) (th_enc (id_v DL dc dn)) = some (r, hp_mk (up_v (up_v vv 3 1 0) 126 2 0) ww aa bb) → ∃ r v1 w1 a1 b1 v2 w2 a2 b2, (fun g => f_Arc_add g 0) (hp_mk vv ww aa bb) = some (r, hp_mk v1 w1 a1 b1) ∧ (fun g => f_Mod_add g 126) (hp_mk v1 w1 a1 b1) = some (r, hp_mk v2 w2 a2 b2) ∧ In_s (i + 4) v2 w2 a2 b2 := fun r hr h1 h2 => by
    refine ⟨r, up_v vv 3 1 0, ww, aa, bb, up_v (up_v vv 3 1 0) 126 2 0, ww, aa, bb, ?_, ?_, ln, lc, 0, DL, DC, th, mi, rc, rf, wc, cd, fl, lv, tg, od, mo, ad, fd, ep, ?_⟩
    · simp only [f_Arc_add, is_0, gd_t, h1, bd_s, if_pos hr, clrA]
    · dsimp only
      rw [startM _ _ _ _ hvM drM, h2]
    · refine inv_ld (by omega) hz0 (fun a k h1 h2 => ?_) (fun a h1 h2 h3 => rfl) ⟨cg_Aline l0.1 (by rw [uv_i (by omega), uv_i (by omega)]) rfl, l0.2.1, l0.2.2⟩ ⟨⟨?_, fun k hk => absurd hk (by omega)⟩, ⟨uv_s, fun k hk => absurd hk (by omega)⟩, by omega, fun k hk => absurd hk (by omega)⟩ a3
      · by_cases h126 : a = 126
        · rw [uv_n (Or.inr (h2 h126)), uv_i (by omega)]
        · rw [uv_i h126, uv_i (by omega)]
      · rw [uv_i (by omega), uv_s]; rfl
  have nfd : ∀ x, f_Draft_id (hp_mk vv ww aa bb) 3 = some (x, hp_mk vv ww aa bb) → f_Arc_numberForDraft (hp_mk vv ww aa bb) 0 = if (0 : Int32) ≤ x then m_bd (f_Arc_numberWithId (hp_mk vv ww aa bb) 0 x) (fun v g => if (v : Int32) < 0 then f_Arc_numberForDraft_27 m_fu g 0 0 else some (-1, g)) else some (-3, hp_mk vv ww aa bb) := fun x z => by
    unfold f_Arc_numberForDraft
    simp only [gr_0_1, ob_s, is_3, gd_t, z, bd_s, is_0]
  cases hid : id_v DL dc dn with
  | none =>
    rw [hid] at eidA
    refine fail (-3) (by decide) ?_ ?_
    · rw [nfd _ eidA, if_neg (by decide)]
    · rw [hid]; unfold f_Mod_add_39; rw [if_neg (by decide)]
  | some id =>
    rw [hid] at eidA
    have hid64 : id < 64 := by
      unfold id_v at hid
      cases hh : hd_v DL dc 0 dn 105 with
      | none => rw [hh] at hid; cases hid
      | some k => rw [hh] at hid; exact nu_lt hid
    have hAid := wA_id (vv := vv) (ww := ww) (aa := aa) (bb := bb) (th := th) (mi := mi) (fun m hm => ⟨(hA m hm).1, (hA m hm).2.1, (hX.1 m hm).1⟩) hid64 m_fu 0 (by omega) (by unfold m_fu; omega)
    have hAid' : f_Arc_numberWithId (hp_mk vv ww aa bb) 0 (th_enc (some id)) = some (th_enc (wi_n th mi id 12 0), hp_mk vv ww aa bb) := hAid
    have hpos : (0 : Int32) ≤ th_enc (some id) := nI_pos' (by omega)
    have hMi : ∀ m, m < 12 → aa 132 m = iB (th m) ∧ aa 133 m = nI (mi m) ∧ mi m < 64 := fun m hm => ⟨(hM m hm).1, (hM m hm).2.1, (hX.1 m hm).1⟩
    cases hw : wi_n th mi id 12 0 with
    | some k =>
      have hk := wi_lt _ _ _ hw
      rw [hw] at hAid'
      refine fail (-1) (by decide) ?_ ?_
      · rw [nfd _ eidA, if_pos hpos, hAid', bd_s, if_neg (show ¬ th_enc (some k) < 0 from nI_pos (by omega))]
      · rw [hid]; unfold f_Mod_add_39; rw [if_pos hpos]
        exact nf_M1 hMi hid64 m_fu 12 12 (by omega) (by unfold m_fu; omega) ⟨k, by omega, hk.2⟩
    | none =>
      rw [hw] at hAid'
      have hno : ∀ j, j < 12 → ¬ (th j = true ∧ mi j = id) := fun j hj => wi_no 12 0 hw j (Nat.zero_le _) (by omega)
      have hAf := nf_A (ww := ww) (aa := aa) (bb := bb) (fun m hm => (hA m hm).1) m_fu 0 (by omega) (by unfold m_fu; omega)
      have hAf' : f_Arc_numberForDraft_27 m_fu (hp_mk vv ww aa bb) 0 0 = some (match ff_n th 12 0 with
        | none => -2
        | some m => nI m, hp_mk vv ww aa bb) := hAf
      have nfr : f_Arc_numberForDraft (hp_mk vv ww aa bb) 0 = some (match ff_n th 12 0 with
        | none => -2
        | some m => nI m, hp_mk vv ww aa bb) := by
        rw [nfd _ eidA, if_pos hpos, hAid', bd_s, if_pos (show th_enc none < 0 by decide)]
        exact hAf'
      have goM : ∀ (v : hp_V) (w : hp_W) (a : hp_V) (b : hp_B), (∀ m, m < 12 → a 132 m = iB (th m) ∧ a 133 m = nI (mi m) ∧ mi m < 64) → f_Mod_add_39 (hp_mk v w a b) 126 (nI dn) (th_enc (some id)) = match ff_n th 12 0 with
        | none => some (-2, hp_mk v w a b)
        | some m => m_bd (f_Mod_fill (hp_mk v w a b) 126 (nI m) (nI id) (nI dn)) (fun _ g => some (nI m, g)) := fun v w a b z => by
        unfold f_Mod_add_39; rw [if_pos hpos]
        exact nf_M2 z hid64 hno m_fu 12 (by omega) (by unfold m_fu; omega)
      cases hff : ff_n th 12 0 with
      | none =>
        rw [hff] at nfr
        refine fail (-2) (by decide) nfr ?_
        rw [hid, goM _ _ _ _ hMi, hff]
      | some m =>
        rw [hff] at nfr
        obtain ⟨hm', hthm⟩ := ff_r _ _ _ hff
        have hm : m < 12 := by omega
        obtain ⟨v1, w1, a1, b1, r1, r2, ⟨r3, r4, r5, r6, r7⟩, r8, r9, r10, r11⟩ := rd_A (ww := ww) (bb := bb) hm drA d1.1 (fun x hx => a3 68 rfl x hx) a8 hid
        obtain ⟨W, lvm⟩ : ∃ W, W = (dr_v DL dc dn).1 := ⟨_, rfl⟩
        obtain ⟨L, hL⟩ : ∃ L, L = rl_v DL dc dn := ⟨_, rfl⟩
        rw [← hL] at r5 r7
        have hLok : L.length ≤ 4 ∧ ∀ x ∈ L, x < 64 := by rw [hL]; exact rl_ok
        have hLget : ∀ j, j < L.length → L.getD j 0 < 64 := fun j hj => by
          have : L.getD j 0 = L[j] := by simp [hj]
          rw [this]; exact hLok.2 _ (List.getElem_mem hj)
        -- the new state's words
        obtain ⟨th', hth'⟩ : ∃ f, f = va_up th m true := ⟨_, rfl⟩
        obtain ⟨mi', hmi'⟩ : ∃ f, f = va_up mi m id := ⟨_, rfl⟩
        obtain ⟨rc', hrc'⟩ : ∃ f, f = va_up rc m L.length := ⟨_, rfl⟩
        obtain ⟨rf', hrf'⟩ : ∃ f, f = va_up rf m (fun j => L.getD j 0) := ⟨_, rfl⟩
        obtain ⟨od', hod'⟩ : ∃ f, f = od ++ [m] := ⟨_, rfl⟩
        have hmod : m ∉ od := fun z => by have := ((hX.2.2.2 m).mp z).2; rw [hthm] at this; cases this
        have hnm : ∀ a, a ∈ od → a ≠ m := fun a ha z => hmod (by rw [← z]; exact ha)
        have hmem : ∀ a, a ∈ od' ↔ a < 12 ∧ th' a = true := fun a => by
          rw [hod', List.mem_append, List.mem_singleton, hX.2.2.2 a, hth']
          by_cases e : a = m
          · rw [e, vu_s]; simp [hm]
          · rw [vu_n e]; simp [e]
        have hnod : od'.Nodup := by
          rw [hod']
          exact List.nodup_append.mpr ⟨hX.2.2.1, by simp, fun a ha b hb => by rw [List.mem_singleton.mp hb]; intro e; exact hmod (e ▸ ha)⟩
        have hlen' := od_len hnod hmem
        have hlo : od'.length = od.length + 1 := by rw [hod', List.length_append]; rfl
        have ho12 : od.length < 12 := by omega
        have xA : ∀ a, a < 12 → mi' a < 64 ∧ rc' a ≤ 4 ∧ ∀ j, j < rc' a → rf' a j < 64 := fun a ha => by
          by_cases e : a = m
          · rw [e, hmi', hrc', hrf', vu_s, vu_s, vu_s]; exact ⟨hid64, hLok.1, hLget⟩
          · rw [hmi', hrc', hrf', vu_n e, vu_n e, vu_n e]; exact ⟨(hX.1 a ha).1, (hX.1 a ha).2.1, (hX.1 a ha).2.2.1⟩
        -- the class
        obtain ⟨vB0, hvB0⟩ : ∃ v, v = up_v v1 0 7 (nI od'.length) := ⟨_, rfl⟩
        obtain ⟨aB0, haB0⟩ : ∃ a, a = up_a a1 125 (upd (a1 125) od.length (nI m)) := ⟨_, rfl⟩
        have c125 : ∀ k, k < od'.length → aB0 125 k = nI (od'.getD k 0) := fun k hk => by
          rw [haB0, ua_s, hod', getD_app]
          by_cases e : k < od.length
          · rw [if_pos e, pk_un (by omega), r10 125 (by omega) (by omega) (by omega)]; exact o1.2 k e
          · rw [if_neg e, if_pos (by omega), show k = od.length by omega, pk_us]
        have msgA : ∀ a, a < 12 → vB0 (77 + 4 * a) 5 = nI (rc' a) ∧ vB0 (77 + 4 * a) 4 = nI (mi' a) ∧ ∀ j, j < rc' a → aB0 (77 + 4 * a + 1) j = nI (rf' a j) := fun a ha => by
          rw [hvB0, haB0, uv_i (by omega), uv_i (by omega), ua_n (by omega)]
          by_cases e : a = m
          · rw [e, hmi', hrc', hrf', vu_s, vu_s, vu_s]; exact ⟨r5, r4, r7⟩
          · rw [hmi', hrc', hrf', vu_n e, vu_n e, vu_n e, r8 _ _ (by omega) (by omega) (by omega), r8 _ _ (by omega) (by omega) (by omega), r10 _ (by omega) (by omega) (by omega)]
            exact ⟨(hA a ha).2.2.1, (hA a ha).2.1, (hA a ha).2.2.2.2.2.2.1⟩
        obtain ⟨f2, hf3, hf4⟩ := tA_rejoin (vv := vB0) (ww := w1) (aa := aB0) (bb := b1) (mi := mi') (rc := rc') (rf := rf') (od := od') (fun a ha => by
          have ha12 := ((hmem a).mp ha).1
          obtain ⟨x1, x2, x3⟩ := xA a ha12
          obtain ⟨y1, y2, y3⟩ := msgA a ha12
          exact ⟨ha12, x1, x2, x3, y1, y2, y3⟩) (by rw [hvB0, uv_s]) hlen' c125
        obtain ⟨vB, hvB⟩ : ∃ v, v = up_v vB0 3 1 0 := ⟨_, rfl⟩
        obtain ⟨aB, haB⟩ : ∃ a, a = up_a aB0 70 f2 := ⟨_, rfl⟩
        have fvB : ∀ a k, a ≠ 77 + 4 * m → ¬ (a = 66 ∧ k = 1) → ¬ (a = 67 ∧ k = 1) → ¬ (a = 0 ∧ k = 7) → ¬ (a = 3 ∧ k = 1) → vB a k = vv a k := fun a k z1 z2 z3 z4 z5 => by rw [hvB, hvB0, uv_n (by omega), uv_n (by omega), r8 a k z1 z2 z3]
        have faB : ∀ a, a ≠ 68 → a ≠ 77 + 4 * m + 1 → a ≠ 77 + 4 * m + 3 → a ≠ 125 → a ≠ 70 → aB a = aa a := fun a z1 z2 z3 z4 z5 => by rw [haB, haB0, ua_n z5, ua_n z4, r10 a z1 z2 z3]
        have drM2 : dr_M aB dn DL dc := dr_Mf drM (faB 127 (by omega) (by omega) (by omega) (by omega) (by omega)) (faB 128 (by omega) (by omega) (by omega) (by omega) (by omega))
        have hMi2 : ∀ k, k < 12 → aB 132 k = iB (th k) ∧ aB 133 k = nI (mi k) ∧ mi k < 64 := fun k hk => by
          rw [faB 132 (by omega) (by omega) (by omega) (by omega) (by omega), faB 133 (by omega) (by omega) (by omega) (by omega) (by omega)]; exact hMi k hk
        have hlM : rM_let (up_v vB 126 2 0) w1 := cg_Mlet a9 (r9 126 (by omega)) (by rw [uv_n (by omega), fvB 126 27 (by omega) (by omega) (by omega) (by omega) (by omega)])
        obtain ⟨v2, w2, a2, b2, q1, q2, ⟨q3, q4, q5, q6, q7, q8, q9⟩, p1, p2, p3, p4, p5, p6, p7, p8, p9⟩ := fi_M (vv := up_v vB 126 2 0) (ww := w1) (bb := b1) (id := id) (ad := ad) hm drM2 hlM (by rw [uv_n (by omega), fvB 126 10 (by omega) (by omega) (by omega) (by omega) (by omega)]; exact o2)
        rw [← hL] at q8 q9
        have fv2 : ∀ a k, a < 126 → v2 a k = vB a k := fun a k z => by rw [p1 a k (by omega), uv_i (by omega)]
        have fa2 : ∀ a, a < 129 → a2 a = aB a := p3
        obtain ⟨S, hS⟩ : ∃ S, S = dr_v DL dc dn := ⟨_, rfl⟩
        rw [← hS] at r2 q2
        obtain ⟨⟨g1, -, g2, g3, g4, g5⟩, g6, g7⟩ := r2
        obtain ⟨⟨e1, -, -, e2, e3, e4, ct, e5, -, e6⟩, e7⟩ := q2
        have hlv : S.2 ≤ 100 := by
          have := rp_lv (DL := DL) (dc := dc) 3 0 dn (hw_v DL dc dn 102 1 (hw_v DL dc dn 115 0 []), 0) (Nat.zero_le _)
          rw [hS]; unfold dr_v; dsimp only at this; omega
        refine ⟨nI m, vB, w1, aB, b1, v2, w2, a2, b2, ?_, ?_, ln, lc, 0, DL, DC, th', mi', rc', rf', va_up wc m S.1.length, va_up cd m (fun j => lN (cw_val (S.1.getD j ([], 0)).1)), va_up fl m (fun j => nI (S.1.getD j ([], 0)).2), va_up lv m S.2, va_up tg m 0, od', va_up mo m (ad + 1), ad + 1, fd, ep, ?_⟩
        · have q07 : v1 0 7 = nI od.length := by rw [r8 0 7 (by omega) (by omega) (by omega)]; exact o1.1
          simp only [f_Arc_add, is_0, gd_t, nfr, bd_s, if_neg (show ¬ nI m < 0 from nI_pos (by omega)), gr_0_2, gr_0_1, gr_0_5, ob_s, ldR_76 hm, is_65, r1, gr_0_6, gi_0_7, q07, st_125 ho12, ← haB0, nI_1, ← hlo, pi_0_7, ← hvB0, hf4, ← haB, clrA, ← hvB]
        · show f_Mod_add (hp_mk vB w1 aB b1) 126 = _
          rw [startM _ _ _ _ (by rw [fvB 126 2 (by omega) (by omega) (by omega) (by omega) (by omega)]; exact d2.1) drM2, hid, goM _ _ _ _ hMi2, hff]
          dsimp only
          rw [q1, bd_s]
        · refine ⟨⟨cg_Aline l0.1 ?_ ?_, cg_Mline l0.2.1 ?_ (fun j hj => ?_), l0.2.2⟩, ⟨⟨?_, fun k hk => absurd hk (by omega)⟩, ⟨?_, fun k hk => absurd hk (by omega)⟩, by omega, fun k hk => absurd hk (by omega)⟩, ?_, ⟨fun a ha => ?_, fun a ha => ?_, ?_⟩, ⟨⟨?_, fun k hk => ?_⟩, ⟨q6, fun a ha => ?_, ?_, fun a ha => ?_, fun a ha => ?_⟩, by omega⟩, ?_, ⟨⟨?_, ?_⟩, ⟨?_, ?_⟩, m3⟩, ⟨?_, ?_⟩, ?_, ?_⟩
          · rw [fv2 1 1 (by omega), fvB 1 1 (by omega) (by omega) (by omega) (by omega) (by omega)]
          · rw [fa2 2 (by omega), faB 2 (by omega) (by omega) (by omega) (by omega) (by omega)]
          · rw [fa2 128 (by omega), faB 128 (by omega) (by omega) (by omega) (by omega) (by omega)]
          · rw [fa2 127 (by omega), faB 127 (by omega) (by omega) (by omega) (by omega) (by omega)]
          · rw [fv2 3 1 (by omega), hvB, uv_s]; rfl
          · rw [p1 126 2 (by omega), uv_s]; rfl
          · intro q hq x hx
            by_cases e : q = 68
            · rw [e, fa2 68 (by omega), haB, haB0, ua_n (by omega), ua_n (by omega)]; exact g7 x hx
            · have hq2 := hq
              simp only [hp_isC, Bool.or_eq_true, Bool.and_eq_true, beq_iff_eq, decide_eq_true_eq] at hq2
              rw [fa2 q (by omega), faB q e (by omega) (by omega) (by omega) (by omega)]; exact a3 q hq x hx
          · by_cases e : a = m
            · have hvm : ∀ k, v2 (77 + 4 * a) k = v1 (77 + 4 * m) k := fun k => by rw [fv2 _ k (by omega), hvB, hvB0, uv_i (by omega), uv_i (by omega), e]
              have ham : ∀ y, 77 ≤ y → y < 125 → a2 y = a1 y := fun y z1 z2 => by rw [fa2 y (by omega), haB, haB0, ua_n (by omega), ua_n (by omega)]
              rw [hvm, hvm, hvm, hvm, hvm, hvm, ham _ (by omega) (by omega), ham (77 + 4 * a + 3) (by omega) (by omega), p8 _ (by omega), e, hth', hmi', hrc', hrf', vu_s, vu_s, vu_s, vu_s, vu_s, vu_s, vu_s, vu_s, vu_s]
              exact ⟨r3, r4, r5, g2, g6, r6, r7, g3⟩
            · have hvm : ∀ k, v2 (77 + 4 * a) k = vv (77 + 4 * a) k := fun k => by rw [fv2 _ k (by omega), fvB _ k (by omega) (by omega) (by omega) (by omega) (by omega)]
              have ham : ∀ y, 77 ≤ y → y < 125 → y ≠ 77 + 4 * m + 1 → y ≠ 77 + 4 * m + 3 → a2 y = aa y := fun y z1 z2 z3 z4 => by rw [fa2 y (by omega), faB y (by omega) z3 z4 (by omega) (by omega)]
              rw [hvm, hvm, hvm, hvm, hvm, hvm, ham _ (by omega) (by omega) (by omega) (by omega), ham (77 + 4 * a + 3) (by omega) (by omega) (by omega) (by omega), p8 _ (by omega), r11 _ (by omega), hth', hmi', hrc', hrf', vu_n e, vu_n e, vu_n e, vu_n e, vu_n e, vu_n e, vu_n e, vu_n e, vu_n e]
              exact hA a ha
          · by_cases e : a = m
            · rw [e, hth', hmi', hrc', hrf', vu_s, vu_s, vu_s, vu_s, vu_s, vu_s, vu_s, vu_s, vu_s]
              exact ⟨q3, q4, q8, e2, e7, q7, q9, e3⟩
            · have ham : ∀ y, 132 ≤ y → y < 140 → y ≠ 135 → a2 y a = aa y a := fun y z1 z2 z3 => by rw [p5 y a z1 z2 z3 e, faB y (by omega) (by omega) (by omega) (by omega) (by omega)]
              obtain ⟨B1, B2, B3, B4, B5, B6, B7, B8⟩ := hM a ha
              have hxa := hX.1 a ha
              rw [ham 132 (by omega) (by omega) (by omega), ham 133 (by omega) (by omega) (by omega), ham 136 (by omega) (by omega) (by omega), ham 139 (by omega) (by omega) (by omega), ham 138 (by omega) (by omega) (by omega), ham 137 (by omega) (by omega) (by omega), hth', hmi', hrc', hrf', vu_n e, vu_n e, vu_n e, vu_n e, vu_n e, vu_n e, vu_n e, vu_n e, vu_n e]
              refine ⟨B1, B2, B3, B4, B5, B6, fun j hj => ?_, fun j hj => ?_⟩
              · rw [p6 _ (by omega), faB 135 (by omega) (by omega) (by omega) (by omega) (by omega)]; exact B7 j hj
              · rw [p9 _ (by omega), r11 140 (by omega), p7 _ (by omega), faB 141 (by omega) (by omega) (by omega) (by omega) (by omega)]; exact B8 j hj
          · refine ⟨fun a ha => ?_, fun a b h1 h2 h3 h4 h5 => ?_, hnod, hmem⟩
            · obtain ⟨x1, x2, x3⟩ := xA a ha
              refine ⟨x1, x2, x3, ?_⟩
              by_cases e : a = m
              · rw [e, vu_s, vu_s, vu_s]
                refine ⟨g1.1, hlv, fun j hj => ⟨(S.1.getD j ([], 0)).1, ?_, rfl⟩⟩
                have : S.1.getD j ([], 0) = S.1[j] := by simp [hj]
                rw [this]; exact g1.2 _ (List.getElem_mem hj)
              · rw [vu_n e, vu_n e, vu_n e]; exact (hX.1 a ha).2.2.2
            · rw [hth'] at h3 h4
              rw [hmi'] at h5
              by_cases ea : a = m
              · by_cases eb : b = m
                · rw [ea, eb]
                · rw [ea, vu_s, vu_n eb] at h5
                  rw [vu_n eb] at h4
                  exact absurd ⟨h4, h5.symm⟩ (hno b h2)
              · rw [vu_n ea] at h3 h5
                by_cases eb : b = m
                · rw [eb, vu_s] at h5
                  exact absurd ⟨h3, h5⟩ (hno a h1)
                · rw [vu_n eb] at h4 h5
                  exact hX.2.1 a b h1 h2 h3 h4 h5
          · rw [fv2 0 7 (by omega), hvB, hvB0, uv_i (by omega), uv_s]
          · rw [fa2 125 (by omega), haB, ua_n (by omega)]; exact c125 k hk
          · by_cases e : a = m
            · rw [e, vu_s]; exact q5
            · rw [vu_n e, p5 134 a (by omega) (by omega) (by omega) e, faB 134 (by omega) (by omega) (by omega) (by omega) (by omega)]; exact o3 a ha
          · rw [hod']
            refine List.pairwise_append.mpr ⟨?_, by simp, fun a ha b hb => ?_⟩
            · refine o4.imp_of_mem (fun {a b} ha hb hab => ?_)
              rw [vu_n (hnm a ha), vu_n (hnm b hb)]; exact hab
            · rw [List.mem_singleton.mp hb, vu_s, vu_n (hnm a ha)]
              have := o6 a ((hX.2.2.2 a).mp ha).1
              omega
          · rw [hod', List.mem_append, List.mem_singleton] at ha
            rcases ha with ha | ha
            · rw [vu_n (hnm a ha)]; exact o5 a ha
            · rw [ha, vu_s]; omega
          · by_cases e : a = m
            · rw [e, vu_s]; exact Nat.le_refl _
            · rw [vu_n e]; have := o6 a ha; omega
          · intro q hq
            rw [fa2 70 (by omega), haB, ua_s]; exact hf3 q hq
          · rw [fv2 0 8 (by omega), fvB 0 8 (by omega) (by omega) (by omega) (by omega) (by omega)]; exact m1.1
          · rw [fv2 0 9 (by omega), fvB 0 9 (by omega) (by omega) (by omega) (by omega) (by omega)]; exact m1.2
          · rw [p1 126 20 (by omega), uv_n (by omega), fvB 126 20 (by omega) (by omega) (by omega) (by omega) (by omega)]; exact m2.1
          · rw [p1 126 21 (by omega), uv_n (by omega), fvB 126 21 (by omega) (by omega) (by omega) (by omega) (by omega)]; exact m2.2
          · rw [p2 66 (by omega)]; exact g4
          · rw [fv2 66 1 (by omega), hvB, hvB0, uv_i (by omega), uv_i (by omega)]; exact g5
          · exact e4
          · rw [e6, show ct = 0 by omega]; rfl
