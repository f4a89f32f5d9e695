/-! Long.bitCount counts the bits (the first rows are the kit's rows on 64 bits, pasted) -/
theorem wb_tb (n : Nat) : (lN n).toBitVec = BitVec.ofNat 64 n := rfl
theorem wb_inj {a b : Int64} (h : a.toBitVec = b.toBitVec) : a = b := Int64.toBitVec_inj.mp h
theorem wb_tn {n : Nat} (h : n < 2 ^ 64) : (lN n).toBitVec.toNat = n := by rw [wb_tb, BitVec.toNat_ofNat, Nat.mod_eq_of_lt h]
theorem wb_cu : ∀ k, k < 64 → ((nI k).toInt64.toUInt64 &&& Int64.toUInt64 63) = UInt64.ofNat k := by decide +kernel
theorem wb_shr {n k : Nat} (hn : n < 2 ^ 64) (hk : k < 64) : ((lN n).toUInt64 >>> ((nI k).toInt64.toUInt64 &&& Int64.toUInt64 63)).toInt64 = lN (n / 2 ^ k) := by
  rw [wb_cu k hk]
  apply wb_inj
  apply BitVec.eq_of_toNat_eq
  show ((lN n).toUInt64 >>> UInt64.ofNat k).toNat = (BitVec.ofNat 64 _).toNat
  have h1 : (UInt64.ofNat k).toNat = k := by
    show (BitVec.ofNat 64 k).toNat = k
    rw [BitVec.toNat_ofNat, Nat.mod_eq_of_lt (by omega)]
  have h2 : (lN n).toUInt64.toNat = n := wb_tn hn
  rw [UInt64.toNat_shiftRight, h1, h2, Nat.mod_eq_of_lt hk, Nat.shiftRight_eq_div_pow, BitVec.toNat_ofNat, Nat.mod_eq_of_lt (Nat.lt_of_le_of_lt (Nat.div_le_self _ _) hn)]
def pc_1 (x : Int64) : Int64 := x - ((x.toUInt64 >>> ((1 : Int32).toInt64.toUInt64 &&& Int64.toUInt64 63)).toInt64 &&& 6148914691236517205)
def pc_2 (x : Int64) : Int64 := (x &&& 3689348814741910323) + ((x.toUInt64 >>> ((2 : Int32).toInt64.toUInt64 &&& Int64.toUInt64 63)).toInt64 &&& 3689348814741910323)
def pc_3 (x : Int64) : Int64 := (x + (x.toUInt64 >>> ((4 : Int32).toInt64.toUInt64 &&& Int64.toUInt64 63)).toInt64) &&& 1085102592571150095
def pc_4 (x : Int64) : Int64 := x + (x.toUInt64 >>> ((8 : Int32).toInt64.toUInt64 &&& Int64.toUInt64 63)).toInt64
def pc_5 (x : Int64) : Int64 := x + (x.toUInt64 >>> ((16 : Int32).toInt64.toUInt64 &&& Int64.toUInt64 63)).toInt64
def pc_6 (x : Int64) : Int64 := x + (x.toUInt64 >>> ((32 : Int32).toInt64.toUInt64 &&& Int64.toUInt64 63)).toInt64
theorem pc_all {g : m_G} {x : Int64} : f_Long_bitCount g x = some ((pc_6 (pc_5 (pc_4 (pc_3 (pc_2 (pc_1 x)))))).toInt32 &&& 127, g) := rfl
/-- the number of k bytes -/
def bv_n (c : Nat → Nat) : Nat → Nat
  | 0 => 0
  | k + 1 => c 0 + 256 * bv_n (fun i => c (i + 1)) k
theorem and_byte {a c m k : Nat} (ha : a < 256) (hc : c < 256) : (a + 256 * m) &&& (c + 256 * k) = (a &&& c) + 256 * (m &&& k) := by
  have hac : a &&& c < 256 := Nat.lt_of_le_of_lt Nat.and_le_left ha
  apply Nat.eq_of_testBit_eq
  intro j
  rw [Nat.testBit_and]
  rw [show a + 256 * m = 2 ^ 8 * m + a by omega, show c + 256 * k = 2 ^ 8 * k + c by omega, show (a &&& c) + 256 * (m &&& k) = 2 ^ 8 * (m &&& k) + (a &&& c) by omega]
  rw [Nat.testBit_two_pow_mul_add _ (show a < 2 ^ 8 by omega), Nat.testBit_two_pow_mul_add _ (show c < 2 ^ 8 by omega), Nat.testBit_two_pow_mul_add _ (show a &&& c < 2 ^ 8 by omega)]
  by_cases h : j < 8
  · simp [h, Nat.testBit_and]
  · simp [h, Nat.testBit_and]
theorem f_85 : ∀ b, b < 256 → ∀ e, e < 2 → (b / 2 + 128 * e) &&& 85 = (b / 2) &&& 85 := by decide +kernel
theorem f_51 : ∀ b, b < 256 → ∀ e, e < 4 → (b / 4 + 64 * e) &&& 51 = (b / 4) &&& 51 := by decide +kernel
theorem f_15 : ∀ b, b < 69 → ∀ e, e < 5 → (b + b / 16 + 16 * e) &&& 15 = (b + b / 16) &&& 15 := by decide +kernel
def by_1 (b : Nat) : Nat := b - ((b / 2) &&& 85)
def by_2 (b : Nat) : Nat := (b &&& 51) + ((b / 4) &&& 51)
def by_3 (b : Nat) : Nat := (b + b / 16) &&& 15
theorem by_ok : ∀ b, b < 256 → by_1 b < 256 ∧ by_2 (by_1 b) < 69 ∧ by_2 (by_1 b) % 16 < 5 ∧ by_3 (by_2 (by_1 b)) = bn_n b 8 := by decide +kernel
theorem bv_lt {c : Nat → Nat} : ∀ k (c : Nat → Nat), (∀ i, c i < 256) → bv_n c k < 256 ^ k := by
  intro k
  induction k with
  | zero => intro c h; simp [bv_n]
  | succ k ih =>
    intro c h
    have h1 := ih (fun i => c (i + 1)) (fun i => h (i + 1))
    have h2 := h 0
    unfold bv_n
    rw [Nat.pow_succ]
    omega
theorem sg_1 : ∀ k (c : Nat → Nat), (∀ i, c i < 256) → ((bv_n c k / 2) &&& bv_n (fun _ => 85) k) ≤ bv_n c k ∧ bv_n c k - ((bv_n c k / 2) &&& bv_n (fun _ => 85) k) = bv_n (fun i => by_1 (c i)) k := by
  intro k
  induction k with
  | zero => intro c _; exact ⟨by simp [bv_n], by simp [bv_n]⟩
  | succ k ih =>
    intro c h
    obtain ⟨i1, i2⟩ := ih (fun i => c (i + 1)) (fun i => h (i + 1))
    have h0 := h 0
    simp only [bv_n]
    generalize bv_n (fun i => c (i + 1)) k = m at i1 i2
    generalize bv_n (fun _ => 85) k = M at i1 i2
    rw [show (c 0 + 256 * m) / 2 = (c 0 / 2 + 128 * (m % 2)) + 256 * (m / 2) by omega, and_byte (by omega) (by omega), f_85 _ h0 _ (by omega), ← i2]
    have hle : (c 0 / 2) &&& 85 ≤ c 0 / 2 := Nat.and_le_left
    unfold by_1
    omega
theorem sg_2 : ∀ k (c : Nat → Nat), (∀ i, c i < 256) → (bv_n c k &&& bv_n (fun _ => 51) k) + ((bv_n c k / 4) &&& bv_n (fun _ => 51) k) = bv_n (fun i => by_2 (c i)) k := by
  intro k
  induction k with
  | zero => intro c _; simp [bv_n]
  | succ k ih =>
    intro c h
    have i2 := ih (fun i => c (i + 1)) (fun i => h (i + 1))
    have h0 := h 0
    simp only [bv_n]
    generalize bv_n (fun i => c (i + 1)) k = m at i2
    generalize bv_n (fun _ => 51) k = M at i2
    rw [show (c 0 + 256 * m) / 4 = (c 0 / 4 + 64 * (m % 4)) + 256 * (m / 4) by omega, and_byte h0 (show 51 < 256 by omega), and_byte (show c 0 / 4 + 64 * (m % 4) < 256 by omega) (show 51 < 256 by omega), f_51 _ h0 _ (by omega), ← i2]
    unfold by_2
    omega
theorem sg_3 : ∀ k (c : Nat → Nat), (∀ i, c i < 69 ∧ c i % 16 < 5) → (bv_n c k + bv_n c k / 16) &&& bv_n (fun _ => 15) k = bv_n (fun i => by_3 (c i)) k := by
  intro k
  induction k with
  | zero => intro c _; simp [bv_n]
  | succ k ih =>
    intro c h
    have i2 := ih (fun i => c (i + 1)) (fun i => h (i + 1))
    have h0 := h 0
    have hm : bv_n (fun i => c (i + 1)) k % 16 < 5 := by
      cases k with
      | zero => simp [bv_n]
      | succ k =>
        simp only [bv_n]
        have := (h 1).2
        simp only [Nat.zero_add] at *
        omega
    simp only [bv_n]
    generalize bv_n (fun i => c (i + 1)) k = m at i2 hm
    generalize bv_n (fun _ => 15) k = M at i2
    rw [show c 0 + 256 * m + (c 0 + 256 * m) / 16 = (c 0 + c 0 / 16 + 16 * (m % 16)) + 256 * (m + m / 16) by omega, and_byte (by omega) (by omega), f_15 _ h0.1 _ hm, i2]
    rfl
theorem bv_of : ∀ k n, n < 256 ^ k → n = bv_n (fun i => n / 256 ^ i % 256) k := by
  intro k
  induction k with
  | zero => intro n h; simp [bv_n] at h ⊢; omega
  | succ k ih =>
    intro n h
    have h2 := ih (n / 256) (by
      rw [Nat.pow_succ] at h
      exact Nat.div_lt_of_lt_mul (by rw [Nat.mul_comm]; exact h))
    simp only [bv_n, Nat.pow_zero, Nat.div_one]
    have e : (fun i => n / 256 ^ (i + 1) % 256) = (fun i => n / 256 / 256 ^ i % 256) := by
      funext i
      rw [Nat.div_div_eq_div_mul, Nat.pow_succ, Nat.mul_comm 256]
    rw [e, ← h2]
    omega
theorem bn_s {x k : Nat} : bn_n x (k + 1) = bn_n x k + (x.testBit k).toNat := rfl
theorem bn_add (x : Nat) (a : Nat) : ∀ b, bn_n x (a + b) = bn_n x a + bn_n (x / 2 ^ a) b := by
  intro b
  induction b with
  | zero => simp [bn_n]
  | succ b ih =>
    rw [show a + (b + 1) = (a + b) + 1 by omega, bn_s, bn_s, ih, Nat.testBit_div_two_pow, Nat.add_assoc, Nat.add_comm b a]
theorem bn_mod (x : Nat) : bn_n (x % 256) 8 = bn_n x 8 := by
  have h : ∀ k, k ≤ 8 → bn_n (x % 256) k = bn_n x k := by
    intro k
    induction k with
    | zero => intro _; rfl
    | succ k ih =>
      intro hk
      unfold bn_n
      rw [ih (by omega), show (256 : Nat) = 2 ^ 8 from rfl, Nat.testBit_mod_two_pow]
      simp [show k < 8 by omega]
  exact h 8 (Nat.le_refl _)
theorem bl_add (a b : Nat) : lN a + lN b = lN (a + b) := lN_add a b
theorem bn_64 {n : Nat} : bn_n n 64 = bn_n (n / 256 ^ 0 % 256) 8 + bn_n (n / 256 ^ 1 % 256) 8 + bn_n (n / 256 ^ 2 % 256) 8 + bn_n (n / 256 ^ 3 % 256) 8 + bn_n (n / 256 ^ 4 % 256) 8 + bn_n (n / 256 ^ 5 % 256) 8 + bn_n (n / 256 ^ 6 % 256) 8 + bn_n (n / 256 ^ 7 % 256) 8 := by
  simp only [bn_mod]
  rw [show (64 : Nat) = 8 + 56 from rfl, bn_add, show (56 : Nat) = 8 + 48 from rfl, bn_add, show (48 : Nat) = 8 + 40 from rfl, bn_add, show (40 : Nat) = 8 + 32 from rfl, bn_add, show (32 : Nat) = 8 + 24 from rfl, bn_add, show (24 : Nat) = 8 + 16 from rfl, bn_add, show (16 : Nat) = 8 + 8 from rfl, bn_add]
  simp only [Nat.div_div_eq_div_mul]
  simp only [Nat.reducePow, Nat.reduceMul, Nat.div_one]
  omega
theorem lN_land {a b : Nat} {c : Int64} (h : c = lN b) : lN a &&& c = lN (a &&& b) := by rw [h, bl_and]
theorem pop_sum {p : Nat → Nat} (hp : ∀ i, p i ≤ 8) {s t4 t5 t6 : Nat} (hs : s = bv_n p 8) (h4 : t4 = s + s / 2 ^ 8) (h5 : t5 = t4 + t4 / 2 ^ 16) (h6 : t6 = t5 + t5 / 2 ^ 32) : t6 < 2 ^ 64 ∧ t5 < 2 ^ 64 ∧ t4 < 2 ^ 64 ∧ t6 % 128 = p 0 + p 1 + p 2 + p 3 + p 4 + p 5 + p 6 + p 7 := by
  simp only [bv_n, Nat.zero_add, Nat.mul_zero, Nat.add_zero] at hs
  simp only [show (0 + 1 : Nat) = 1 from rfl, show (1 + 1 : Nat) = 2 from rfl, show (2 + 1 : Nat) = 3 from rfl, show (3 + 1 : Nat) = 4 from rfl, show (4 + 1 : Nat) = 5 from rfl, show (5 + 1 : Nat) = 6 from rfl, show (6 + 1 : Nat) = 7 from rfl] at hs
  have a0 := hp 0
  have a1 := hp 1
  have a2 := hp 2
  have a3 := hp 3
  have a4 := hp 4
  have a5 := hp 5
  have a6 := hp 6
  have a7 := hp 7
  generalize p 0 = p0 at *
  generalize p 1 = p1 at *
  generalize p 2 = p2 at *
  generalize p 3 = p3 at *
  generalize p 4 = p4 at *
  generalize p 5 = p5 at *
  generalize p 6 = p6 at *
  generalize p 7 = p7 at *
  have b4 : t4 = (p0 + p1) + 256 * ((p1 + p2) + 256 * ((p2 + p3) + 256 * ((p3 + p4) + 256 * ((p4 + p5) + 256 * ((p5 + p6) + 256 * ((p6 + p7) + 256 * p7)))))) := by omega
  have b5 : t5 = (p0 + p1 + p2 + p3) + 256 * ((p1 + p2 + p3 + p4) + 256 * ((p2 + p3 + p4 + p5) + 256 * ((p3 + p4 + p5 + p6) + 256 * ((p4 + p5 + p6 + p7) + 256 * ((p5 + p6 + p7) + 256 * ((p6 + p7) + 256 * p7)))))) := by omega
  have b6 : t6 = (p0 + p1 + p2 + p3 + p4 + p5 + p6 + p7) + 256 * ((p1 + p2 + p3 + p4 + p5 + p6 + p7) + 256 * ((p2 + p3 + p4 + p5 + p6 + p7) + 256 * ((p3 + p4 + p5 + p6 + p7) + 256 * ((p4 + p5 + p6 + p7) + 256 * ((p5 + p6 + p7) + 256 * ((p6 + p7) + 256 * p7)))))) := by omega
  refine ⟨by omega, by omega, by omega, by omega⟩
theorem pop_64 {g : m_G} {n : Nat} (hn : n < 2 ^ 64) : f_Long_bitCount g (lN n) = some (nI (bn_n n 64), g) := by
  rw [pc_all]
  obtain ⟨c, hc⟩ : ∃ c : Nat → Nat, c = fun i => n / 256 ^ i % 256 := ⟨_, rfl⟩
  have hcl : ∀ i, c i < 256 := fun i => by rw [hc]; exact Nat.mod_lt _ (by omega)
  have hnc : n = bv_n c 8 := by rw [hc]; exact bv_of 8 n (by simpa using hn)
  obtain ⟨s1a, s1b⟩ := sg_1 8 c hcl
  have b1 : ∀ i, by_1 (c i) < 256 := fun i => (by_ok _ (hcl i)).1
  have s2 := sg_2 8 (fun i => by_1 (c i)) b1
  have b2 : ∀ i, by_2 (by_1 (c i)) < 69 ∧ by_2 (by_1 (c i)) % 16 < 5 := fun i => ⟨(by_ok _ (hcl i)).2.1, (by_ok _ (hcl i)).2.2.1⟩
  have s3 := sg_3 8 (fun i => by_2 (by_1 (c i))) b2
  have e3 : (fun i => by_3 (by_2 (by_1 (c i)))) = (fun i => bn_n (c i) 8) := by funext i; exact (by_ok _ (hcl i)).2.2.2
  rw [e3] at s3
  have l1 : bv_n (fun i => by_1 (c i)) 8 < 2 ^ 64 := by have := bv_lt (c := c) 8 _ b1; simpa using this
  have l2 : bv_n (fun i => by_2 (by_1 (c i))) 8 < 2 ^ 64 := by have := bv_lt (c := c) 8 _ (fun i => Nat.lt_trans (b2 i).1 (by omega)); simpa using this
  have l3 : bv_n (fun i => bn_n (c i) 8) 8 < 2 ^ 64 := by have := bv_lt (c := c) 8 (fun i => bn_n (c i) 8) (fun i => by have := bn_le (c i) 8; omega); simpa using this
  have q1 : pc_1 (lN n) = lN (bv_n (fun i => by_1 (c i)) 8) := by
    unfold pc_1
    have := wb_shr (n := n) (k := 1) hn (by omega)
    rw [show ((lN n).toUInt64 >>> ((1 : Int32).toInt64.toUInt64 &&& Int64.toUInt64 63)).toInt64 = lN (n / 2 ^ 1) from this, lN_land (b := bv_n (fun _ => 85) 8) (by decide +kernel)]
    rw [show n / 2 ^ 1 = n / 2 by simp, hnc, lN_sub s1a, s1b]
  have q2 : pc_2 (lN (bv_n (fun i => by_1 (c i)) 8)) = lN (bv_n (fun i => by_2 (by_1 (c i))) 8) := by
    unfold pc_2
    have := wb_shr (k := 2) l1 (by omega)
    rw [show ((lN (bv_n (fun i => by_1 (c i)) 8)).toUInt64 >>> ((2 : Int32).toInt64.toUInt64 &&& Int64.toUInt64 63)).toInt64 = lN (bv_n (fun i => by_1 (c i)) 8 / 2 ^ 2) from this, lN_land (b := bv_n (fun _ => 51) 8) (by decide +kernel), lN_land (b := bv_n (fun _ => 51) 8) (by decide +kernel), lN_add]
    rw [show (2 : Nat) ^ 2 = 4 from rfl, s2]
  have q3 : pc_3 (lN (bv_n (fun i => by_2 (by_1 (c i))) 8)) = lN (bv_n (fun i => bn_n (c i) 8) 8) := by
    unfold pc_3
    have := wb_shr (k := 4) l2 (by omega)
    rw [show ((lN (bv_n (fun i => by_2 (by_1 (c i))) 8)).toUInt64 >>> ((4 : Int32).toInt64.toUInt64 &&& Int64.toUInt64 63)).toInt64 = lN (bv_n (fun i => by_2 (by_1 (c i))) 8 / 2 ^ 4) from this, lN_add, lN_land (b := bv_n (fun _ => 15) 8) (by decide +kernel)]
    rw [show (2 : Nat) ^ 4 = 16 from rfl, s3]
  obtain ⟨s, hs⟩ : ∃ s, s = bv_n (fun i => bn_n (c i) 8) 8 := ⟨_, rfl⟩
  obtain ⟨t4, h4⟩ : ∃ t, t = s + s / 2 ^ 8 := ⟨_, rfl⟩
  obtain ⟨t5, h5⟩ : ∃ t, t = t4 + t4 / 2 ^ 16 := ⟨_, rfl⟩
  obtain ⟨t6, h6⟩ : ∃ t, t = t5 + t5 / 2 ^ 32 := ⟨_, rfl⟩
  obtain ⟨z6, z5, z4, zs⟩ := pop_sum (p := fun i => bn_n (c i) 8) (fun i => bn_le _ 8) hs h4 h5 h6
  have q4 : pc_4 (lN s) = lN t4 := by
    unfold pc_4
    rw [show ((lN s).toUInt64 >>> ((8 : Int32).toInt64.toUInt64 &&& Int64.toUInt64 63)).toInt64 = lN (s / 2 ^ 8) from wb_shr (k := 8) (by rw [hs]; exact l3) (by omega), lN_add, ← h4]
  have q5 : pc_5 (lN t4) = lN t5 := by
    unfold pc_5
    rw [show ((lN t4).toUInt64 >>> ((16 : Int32).toInt64.toUInt64 &&& Int64.toUInt64 63)).toInt64 = lN (t4 / 2 ^ 16) from wb_shr (k := 16) z4 (by omega), lN_add, ← h5]
  have q6 : pc_6 (lN t5) = lN t6 := by
    unfold pc_6
    rw [show ((lN t5).toUInt64 >>> ((32 : Int32).toInt64.toUInt64 &&& Int64.toUInt64 63)).toInt64 = lN (t5 / 2 ^ 32) from wb_shr (k := 32) z5 (by omega), lN_add, ← h6]
  rw [q1, q2, q3, ← hs, q4, q5, q6, lN_i]
  have e127 : nI t6 &&& 127 = nI (t6 % 128) := by
    rw [show (127 : Int32) = nI 127 from rfl, bi_and, show (127 : Nat) = 2 ^ 7 - 1 from rfl, Nat.and_two_pow_sub_one_eq_mod]
  rw [e127, zs, bn_64, hc]
