/-! search: sets as bits; prefixes -/
def bt (x : Int32) (m : Nat) : Bool := x.toBitVec.getLsbD m
section BTS
variable {x y : Int32} {m : Nat}
theorem bt_and : bt (x &&& y) m = (bt x m && bt y m) := by unfold bt; rw [Int32.toBitVec_and, BitVec.getLsbD_and]
theorem bt_or : bt (x ||| y) m = (bt x m || bt y m) := by unfold bt; rw [Int32.toBitVec_or, BitVec.getLsbD_or]
theorem bt_m1 (h : m < 32) : bt (-1) m = true := by
  unfold bt
  rw [show (-1 : Int32).toBitVec = BitVec.allOnes 32 from rfl, BitVec.getLsbD_allOnes]
  exact decide_eq_true h
theorem bt_not (h : m < 32) : bt (x ^^^ (-1)) m = !bt x m := by
  have := bt_m1 h
  unfold bt at this ⊢
  rw [Int32.toBitVec_xor, BitVec.getLsbD_xor, this]
  cases x.toBitVec.getLsbD m <;> rfl
theorem bt_0 : bt 0 m = false := by
  unfold bt
  rw [show (0 : Int32).toBitVec = 0#32 from rfl, BitVec.getLsbD_zero]
theorem bt_nI {n : Nat} (h : m < 32) : bt (nI n) m = n.testBit m := by
  unfold bt
  rw [show (nI n).toBitVec = BitVec.ofNat 32 n from rfl, BitVec.getLsbD_ofNat, decide_eq_true h, Bool.true_and]
theorem bt_ext (h : ∀ m, m < 32 → bt x m = bt y m) : x = y := by
  apply Int32.toBitVec_inj.mp
  exact BitVec.eq_of_getLsbD_eq (fun i hi => h i hi)
end BTS
def ms_p (th p : Nat → Bool) : Int32 := nI (bm_n (fun m => th m && p m) 12)
section MSP
variable {th p q : Nat → Bool}
theorem bt_ms {m : Nat} (h : m < 32) : bt (ms_p th p) m = (decide (m < 12) && (th m && p m)) := by
  unfold ms_p; rw [bt_nI h, bm_bit]
theorem ms_and : ms_p th p &&& ms_p th q = ms_p th (fun m => p m && q m) := by
  apply bt_ext; intro m hm
  rw [bt_and, bt_ms hm, bt_ms hm, bt_ms hm]
  cases decide (m < 12) <;> cases th m <;> cases p m <;> cases q m <;> rfl
theorem ms_or : ms_p th p ||| ms_p th q = ms_p th (fun m => p m || q m) := by
  apply bt_ext; intro m hm
  rw [bt_or, bt_ms hm, bt_ms hm, bt_ms hm]
  cases decide (m < 12) <;> cases th m <;> cases p m <;> cases q m <;> rfl
theorem ms_not : nI (bm_n th 12) &&& (ms_p th p ^^^ (-1)) = ms_p th (fun m => !p m) := by
  apply bt_ext; intro m hm
  rw [bt_and, bt_not hm, bt_ms hm, bt_ms hm, bt_nI hm, bm_bit]
  cases decide (m < 12) <;> cases th m <;> cases p m <;> rfl
theorem ms_fin {x : Int32} (h : ∀ m, m < 12 → th m = true → bt x m = p m) : x &&& nI (bm_n th 12) = ms_p th p := by
  apply bt_ext; intro m hm
  rw [bt_and, bt_ms hm, bt_nI hm, bm_bit]
  by_cases e : m < 12
  · rw [decide_eq_true e]
    cases ht : th m with
    | false => simp
    | true => rw [h m e ht]; simp
  · rw [decide_eq_false e]; simp
theorem ms_cg (h : ∀ m, m < 12 → th m = true → p m = q m) : ms_p th p = ms_p th q := by
  apply bt_ext; intro m hm
  rw [bt_ms hm, bt_ms hm]
  by_cases e : m < 12
  · cases ht : th m with
    | false => simp
    | true => rw [h m e ht]
  · rw [decide_eq_false e]; simp
end MSP
-- words as numbers
def dg_ok (ds : List Nat) : Prop := ∀ d ∈ ds, 1 ≤ d ∧ d ≤ 26
theorem cw_snoc : ∀ (n : Nat) (ds : List Nat), ds.length = n + 1 → ∃ es d, ds = es ++ [d] ∧ es.length = n := by
  intro n ds h
  rcases List.eq_nil_or_concat ds with rfl | ⟨es, d, e⟩
  · cases h
  · rw [List.concat_eq_append] at e
    refine ⟨es, d, e, ?_⟩
    rw [e, List.length_append, List.length_singleton] at h
    omega
theorem cw_bd : ∀ (n : Nat) (ds : List Nat), ds.length = n → dg_ok ds → cw_val ds < 32 ^ n ∧ (0 < n → 32 ^ (n - 1) ≤ cw_val ds) := by
  intro n
  induction n with
  | zero =>
    intro ds h _
    rw [List.length_eq_zero_iff.mp h]
    exact ⟨by decide, fun z => absurd z (by omega)⟩
  | succ n ih =>
    intro ds h hd
    obtain ⟨es, d, rfl, he⟩ := cw_snoc n ds h
    have hdd := hd d (List.mem_append.mpr (Or.inr (List.mem_singleton.mpr rfl)))
    have hes : dg_ok es := fun x hx => hd x (List.mem_append.mpr (Or.inl hx))
    obtain ⟨i1, i2⟩ := ih es he hes
    rw [cw_app]
    have hp : 32 ^ (n + 1) = 32 * 32 ^ n := by rw [Nat.pow_succ, Nat.mul_comm]
    refine ⟨by omega, fun _ => ?_⟩
    rw [Nat.add_sub_cancel]
    cases n with
    | zero => show 1 ≤ _; omega
    | succ n =>
      have := i2 (by omega)
      rw [Nat.add_sub_cancel] at this
      have hp2 : 32 ^ (n + 1) = 32 * 32 ^ n := by rw [Nat.pow_succ, Nat.mul_comm]
      omega
theorem cw_60 {ds : List Nat} (h : dg_ok ds) (hl : ds.length ≤ 12) : cw_val ds < 2 ^ 60 := by
  have h1 := (cw_bd ds.length ds rfl h).1
  have h2 : 32 ^ ds.length ≤ 32 ^ 12 := Nat.pow_le_pow_right (by omega) hl
  have : (32 : Nat) ^ 12 = 2 ^ 60 := by decide
  omega
def pb_b (ds es : List Nat) : Bool := decide (es.length ≤ ds.length ∧ cw_val ds / 32 ^ (ds.length - es.length) = cw_val es)
theorem pb_uq {ds es : List Nat} (h1 : dg_ok ds) (h2 : dg_ok es) (h3 : 1 ≤ es.length) (h4 : 1 ≤ ds.length) {j : Nat} (h : cw_val ds / 32 ^ j = cw_val es) : ds.length = es.length + j := by
  obtain ⟨a1, a2⟩ := cw_bd _ ds rfl h1
  obtain ⟨b1, b2⟩ := cw_bd _ es rfl h2
  have a2 := a2 h4
  have b2 := b2 h3
  have hpj : 0 < 32 ^ j := Nat.pow_pos (by omega)
  have e1 : cw_val es * 32 ^ j ≤ cw_val ds := by rw [← h]; exact Nat.div_mul_le_self _ _
  have e2 : cw_val ds < (cw_val es + 1) * 32 ^ j := by
    rw [← h]
    exact Nat.lt_mul_of_div_lt (Nat.lt_succ_self _) hpj
  have e3 : 32 ^ (es.length - 1) * 32 ^ j ≤ cw_val es * 32 ^ j := Nat.mul_le_mul_right _ b2
  have e4 : (cw_val es + 1) * 32 ^ j ≤ 32 ^ es.length * 32 ^ j := Nat.mul_le_mul_right _ b1
  rw [← Nat.pow_add] at e3 e4
  have c1 : 32 ^ (es.length - 1 + j) < 32 ^ ds.length := by omega
  have c2 : 32 ^ (ds.length - 1) < 32 ^ (es.length + j) := by omega
  have c3 := (Nat.pow_lt_pow_iff_right (by omega : 1 < 32)).mp c1
  have c4 := (Nat.pow_lt_pow_iff_right (by omega : 1 < 32)).mp c2
  omega
theorem pb_iff {ds es : List Nat} (h1 : cw_ok ds) (h2 : cw_ok es) : pb_b ds es = true ↔ ∃ j, j < 12 ∧ cw_val ds / 32 ^ j = cw_val es := by
  unfold pb_b
  rw [decide_eq_true_eq]
  constructor
  · rintro ⟨a, b⟩
    have := h1.2.1
    have := h2.1
    exact ⟨_, by omega, b⟩
  · rintro ⟨j, a, b⟩
    have := pb_uq h1.2.2 h2.2.2 h2.1 h1.1 b
    refine ⟨by omega, ?_⟩
    rw [show ds.length - es.length = j by omega]; exact b
theorem lsh_5 {n : Nat} (h : n < 2 ^ 63) : lN n >>> ((5 : Int32).toInt64 &&& 63) = lN (n / 32) := by
  apply Int64.toBitVec_inj.mp
  rw [Int64.toBitVec_shiftRight]
  have e1 : (((5 : Int32).toInt64 &&& 63).toBitVec.smod 64) = 5#64 := by decide
  rw [e1]
  have hm : (lN n).toBitVec.msb = false := by
    rw [wb_tb, BitVec.msb_eq_decide]
    apply decide_eq_false
    rw [BitVec.toNat_ofNat, Nat.mod_eq_of_lt (by omega)]
    omega
  rw [BitVec.sshiftRight_eq', BitVec.sshiftRight_eq_of_msb_false hm]
  apply BitVec.eq_of_toNat_eq
  rw [BitVec.toNat_ushiftRight, wb_tn (by omega), wb_tn (by omega), Nat.shiftRight_eq_div_pow]
  rfl
theorem bw_A {g : m_G} {v w : Nat} (hv : v < 2 ^ 60) (hw : w < 2 ^ 60) : ∀ (fu k : Nat), k ≤ 12 → 12 - k < fu → (∀ j, j < k → v / 32 ^ j ≠ w) → ∃ b : Bool, (b = true ↔ ∃ j, j < 12 ∧ v / 32 ^ j = w) ∧ f_Message_beginsWith_6 fu g (lN w) (lN (v / 32 ^ k)) (nI k) = some (iB b, g) := by
  intro fu
  induction fu with
  | zero => intro k h1 h2; omega
  | succ fu ih =>
    intro k h1 h2 h3
    have hk : v / 32 ^ k < 2 ^ 60 := Nat.lt_of_le_of_lt (Nat.div_le_self _ _) hv
    rw [f_Message_beginsWith_6]
    by_cases e : k = 12
    · subst e
      refine ⟨false, ⟨fun z => (by cases z), fun z => ?_⟩, ?_⟩
      · obtain ⟨j, a1, a2⟩ := z; exact absurd a2 (h3 j a1)
      · rw [if_pos (show (12 : Int32) ≤ nI 12 by decide)]; rfl
    · rw [if_neg (show ¬ (12 : Int32) ≤ nI k from nI_ge (b := 12) (by omega) (by omega))]
      by_cases e2 : v / 32 ^ k = w
      · refine ⟨true, ⟨fun _ => ⟨k, by omega, e2⟩, fun _ => rfl⟩, ?_⟩
        rw [if_pos (cmp_0.mpr (by rw [e2]))]; rfl
      · rw [if_neg (fun z => e2 ((pk_lEQ (by omega) (by omega)).mp (cmp_0.mp z))), nI_1, lsh_5 (by omega), Nat.div_div_eq_div_mul, ← Nat.pow_succ]
        exact ih (k + 1) (by omega) (by omega) (fun j hj => by
          by_cases e3 : j = k
          · rw [e3]; exact e2
          · exact h3 j (by omega))
theorem bw_C {g : m_G} {ds es : List Nat} (h1 : cw_ok ds) (h2 : cw_ok es) : f_Message_beginsWith g (lN (cw_val ds)) (lN (cw_val es)) = some (iB (pb_b ds es), g) := by
  obtain ⟨b, hb1, hb2⟩ := bw_A (g := g) (cw_60 h1.2.2 h1.2.1) (cw_60 h2.2.2 h2.2.1) m_fu 0 (by omega) (by unfold m_fu; omega) (fun j hj => by omega)
  rw [Nat.pow_zero, Nat.div_one] at hb2
  have : b = pb_b ds es := by
    apply Bool.eq_iff_iff.mpr
    rw [hb1, pb_iff h1 h2]
  rw [← this]; exact hb2
theorem cmp_pos {v : Nat} (h0 : 0 < v) (h : v < 2 ^ 63) : ¬ lg_cmp (lN v) 0 ≤ 0 := by
  have a1 : lN v > 0 := (pk_lLT (a := 0) (by omega) h).mpr h0
  unfold lg_cmp
  rw [if_pos a1]
  decide
theorem cmp_z : lg_cmp (lN 0) 0 ≤ 0 := by decide
theorem lo_M {g : m_G} : ∀ (n fu q : Nat) (ds : List Nat), ds.length = n → n ≤ 12 → dg_ok ds → n < fu → f_Mod_lettersOf_4 fu g (nI q) (lN (cw_val ds)) = some (nI (q + n), g) := by
  intro n
  induction n with
  | zero =>
    intro fu q ds h _ _ hf
    obtain ⟨fu, rfl⟩ : ∃ f', fu = f' + 1 := ⟨fu - 1, by omega⟩
    rw [List.length_eq_zero_iff.mp h, f_Mod_lettersOf_4]
    rw [if_pos (show lg_cmp (lN (cw_val [])) 0 ≤ 0 from cmp_z)]; rfl
  | succ n ih =>
    intro fu q ds h h12 hd hf
    obtain ⟨fu, rfl⟩ : ∃ f', fu = f' + 1 := ⟨fu - 1, by omega⟩
    have h60 := cw_60 hd (by omega)
    have hpos := (cw_bd _ ds h hd).2 (by omega)
    have hp1 : 0 < 32 ^ (n + 1 - 1) := Nat.pow_pos (by omega)
    rw [f_Mod_lettersOf_4, if_neg (cmp_pos (by omega) (by omega)), if_neg (by decide), nI_1]
    obtain ⟨es, d, rfl, he⟩ := cw_snoc n ds h
    have hdd := hd d (List.mem_append.mpr (Or.inr (List.mem_singleton.mpr rfl)))
    have hes : dg_ok es := fun x hx => hd x (List.mem_append.mpr (Or.inl hx))
    have ed : lN (cw_val (es ++ [d])) / 32 = lN (cw_val es) := by
      rw [show (32 : Int64) = lN 32 from rfl, pk_lDiv (by omega) (by omega) (by omega), cw_app]
      congr 1
      omega
    rw [ed, ih fu (q + 1) es he (by omega) hes (by omega), show q + 1 + n = q + (n + 1) by omega]
theorem be_M {g : m_G} {v w more : Nat} (hv : v < 2 ^ 60) (hw : w < 2 ^ 60) (hm : more ≤ 12) : ∀ (fu k : Nat), k ≤ more → more - k < fu → f_Mod_begins_17 fu g (lN w) (nI more) (lN (v / 32 ^ k)) (nI k) = some (iB (decide (v / 32 ^ more = w)), g) := by
  intro fu
  induction fu with
  | zero => intro k h1 h2; omega
  | succ fu ih =>
    intro k h1 h2
    have hk : v / 32 ^ k < 2 ^ 60 := Nat.lt_of_le_of_lt (Nat.div_le_self _ _) hv
    rw [f_Mod_begins_17]
    unfold f_Mod_begins_54 f_Mod_begins_55
    by_cases e : k = more
    · subst e
      rw [if_pos (nI_le (Nat.le_refl _) (by omega)), if_neg (nI_pos (by omega))]
      by_cases e2 : v / 32 ^ k = w
      · rw [if_pos (cmp_0.mpr (by rw [e2])), if_pos (by decide), decide_eq_true e2]; rfl
      · rw [if_neg (fun z => e2 ((pk_lEQ (by omega) (by omega)).mp (cmp_0.mp z))), if_pos (by decide), decide_eq_false e2]; rfl
    · rw [if_neg (nI_ge (by omega) (by omega)), if_neg (by decide), nI_1, show (32 : Int64) = lN 32 from rfl, pk_lDiv (by omega) (by omega) (by omega), Nat.div_div_eq_div_mul, ← Nat.pow_succ]
      exact ih (k + 1) (by omega) (by omega)
theorem be_C {g : m_G} {ds es : List Nat} (h1 : cw_ok ds) (h2 : cw_ok es) : f_Mod_begins g (lN (cw_val ds)) (lN (cw_val es)) = some (iB (pb_b ds es), g) := by
  have a1 := h1.2.1
  have a2 := h2.2.1
  have e1 : f_Mod_lettersOf g (lN (cw_val ds)) = some (nI ds.length, g) := by
    have := lo_M (g := g) ds.length m_fu 0 ds rfl a1 h1.2.2 (by unfold m_fu; omega)
    rw [Nat.zero_add] at this; exact this
  have e2 : f_Mod_lettersOf g (lN (cw_val es)) = some (nI es.length, g) := by
    have := lo_M (g := g) es.length m_fu 0 es rfl a2 h2.2.2 (by unfold m_fu; omega)
    rw [Nat.zero_add] at this; exact this
  unfold f_Mod_begins
  rw [e1, bd_s, e2, bd_s]
  unfold pb_b
  by_cases e : es.length ≤ ds.length
  · rw [pk_sub e]
    have := be_M (g := g) (more := ds.length - es.length) (cw_60 h1.2.2 h1.2.1) (cw_60 h2.2.2 h2.2.1) (by omega) m_fu 0 (by omega) (by unfold m_fu; omega)
    rw [Nat.pow_zero, Nat.div_one] at this
    have hd : decide (es.length ≤ ds.length ∧ cw_val ds / 32 ^ (ds.length - es.length) = cw_val es) = decide (cw_val ds / 32 ^ (ds.length - es.length) = cw_val es) := by simp [e]
    rw [hd]; exact this
  · rw [decide_eq_false (fun z => e z.1), show m_fu = 99999 + 1 from rfl, f_Mod_begins_17]
    have hneg : nI ds.length - nI es.length < 0 := pk_sneg (by omega) (by omega)
    rw [if_pos (Int32.le_of_lt hneg), if_pos hneg]; rfl
