/-! counting bits: both say the same -/
def mk8 (m : Nat) : Nat → Nat
  | 0 => 0
  | k + 1 => m + 256 * mk8 m k
def q1 (b : Nat) : Nat := b - (b / 2 &&& 85)
def q2 (d : Nat) : Nat := (d &&& 51) + (d / 4 &&& 51)
def q3 (e : Nat) : Nat := (e + e / 16) % 16
def mp8 (f : Nat → Nat) : Nat → Nat → Nat
  | 0, _ => 0
  | k + 1, n => f (n % 256) + 256 * mp8 f k (n / 256)
def pb8 : Nat → Nat → Nat
  | 0, _ => 0
  | k + 1, n => pc8 (n % 256) + pb8 k (n / 256)
theorem and_by (a m M : Nat) (hm : m < 256) : a &&& (m + 256 * M) = (a % 256 &&& m) + 256 * (a / 256 &&& M) := by
  have h1 : (a &&& (m + 256 * M)) % 2 ^ 8 = (a % 2 ^ 8) &&& ((m + 256 * M) % 2 ^ 8) := Nat.and_mod_two_pow
  have h2 : (a &&& (m + 256 * M)) / 2 ^ 8 = (a / 2 ^ 8) &&& ((m + 256 * M) / 2 ^ 8) := Nat.and_div_two_pow
  rw [show (m + 256 * M) % 2 ^ 8 = m by omega] at h1
  rw [show (m + 256 * M) / 2 ^ 8 = M by omega] at h2
  change (a &&& (m + 256 * M)) % 256 = (a % 256 &&& m) at h1
  change (a &&& (m + 256 * M)) / 256 = (a / 256 &&& M) at h2
  omega
theorem b_85 : ∀ c, c < 2 → ∀ b, b < 256 → (b / 2 + 128 * c) &&& 85 = b / 2 &&& 85 := by decide +kernel
theorem b_51 : ∀ c, c < 4 → ∀ b, b < 256 → (b / 4 + 64 * c) &&& 51 = b / 4 &&& 51 := by decide +kernel
theorem b_q1 : ∀ b, b < 256 → q1 b < 256 ∧ (b / 2 &&& 85) ≤ b := by decide +kernel
theorem b_q2 : ∀ d, d < 256 → q2 d ≤ 102 ∧ q2 d % 16 ≤ 6 := by decide +kernel
theorem b_q3 : ∀ b, b < 256 → q3 (q2 (q1 b)) = pc8 b := by decide +kernel
theorem mp_1 : ∀ k n, n < 256 ^ k → (n / 2 &&& mk8 85 k) ≤ n ∧ n - (n / 2 &&& mk8 85 k) = mp8 q1 k n
  | 0, n, h => by
    have : n = 0 := by simpa using h
    subst this
    exact ⟨by decide, rfl⟩
  | k + 1, n, h => by
    have h2 : n / 256 < 256 ^ k := by rw [Nat.pow_succ] at h; exact Nat.div_lt_of_lt_mul (by rw [Nat.mul_comm]; exact h)
    obtain ⟨i1, i2⟩ := mp_1 k (n / 256) h2
    show (n / 2 &&& (85 + 256 * mk8 85 k)) ≤ n ∧ n - (n / 2 &&& (85 + 256 * mk8 85 k)) = q1 (n % 256) + 256 * mp8 q1 k (n / 256)
    rw [and_by _ _ _ (by omega), show n / 2 / 256 = n / 256 / 2 by omega, show n / 2 % 256 = n % 256 / 2 + 128 * (n / 256 % 2) by omega, b_85 _ (by omega) _ (by omega)]
    have hb := (b_q1 (n % 256) (by omega)).2
    rw [← i2]
    unfold q1
    omega
theorem mp_2 : ∀ k n, (mp8 q1 k n &&& mk8 51 k) + (mp8 q1 k n / 4 &&& mk8 51 k) = mp8 (fun b => q2 (q1 b)) k n
  | 0, n => by show ((0 : Nat) &&& 0) + (0 / 4 &&& 0) = 0; decide
  | k + 1, n => by
    have ih := mp_2 k (n / 256)
    have hb := (b_q1 (n % 256) (by omega)).1
    show (q1 (n % 256) + 256 * mp8 q1 k (n / 256) &&& (51 + 256 * mk8 51 k)) + ((q1 (n % 256) + 256 * mp8 q1 k (n / 256)) / 4 &&& (51 + 256 * mk8 51 k)) = q2 (q1 (n % 256)) + 256 * mp8 (fun b => q2 (q1 b)) k (n / 256)
    rw [← ih]
    generalize mp8 q1 k (n / 256) = m
    generalize q1 (n % 256) = d at hb
    rw [and_by _ _ _ (by omega), and_by _ _ _ (by omega), show (d + 256 * m) % 256 = d by omega, show (d + 256 * m) / 256 = m by omega, show (d + 256 * m) / 4 % 256 = d / 4 + 64 * (m % 4) by omega, show (d + 256 * m) / 4 / 256 = m / 4 by omega, b_51 _ (by omega) _ hb]
    unfold q2
    omega
theorem mp_lo (k n : Nat) : mp8 (fun b => q2 (q1 b)) k n % 16 ≤ 6 := by
  cases k with
  | zero => show 0 % 16 ≤ 6; decide
  | succ k =>
    show (q2 (q1 (n % 256)) + 256 * mp8 (fun b => q2 (q1 b)) k (n / 256)) % 16 ≤ 6
    have := (b_q2 (q1 (n % 256)) (b_q1 (n % 256) (by omega)).1).2
    omega
theorem and15 (a : Nat) (h : a < 256) : a &&& 15 = a % 16 := Nat.and_two_pow_sub_one_eq_mod a 4
theorem mp_3 : ∀ k n, (mp8 (fun b => q2 (q1 b)) k n + mp8 (fun b => q2 (q1 b)) k n / 16) &&& mk8 15 k = mp8 pc8 k n
  | 0, n => by show ((0 : Nat) + 0 / 16) &&& 0 = 0; decide
  | k + 1, n => by
    have ih := mp_3 k (n / 256)
    have hd := (b_q1 (n % 256) (by omega)).1
    have he := b_q2 (q1 (n % 256)) hd
    have h3 := b_q3 (n % 256) (by omega)
    have hlo := mp_lo k (n / 256)
    show (q2 (q1 (n % 256)) + 256 * mp8 (fun b => q2 (q1 b)) k (n / 256) + (q2 (q1 (n % 256)) + 256 * mp8 (fun b => q2 (q1 b)) k (n / 256)) / 16) &&& (15 + 256 * mk8 15 k) = pc8 (n % 256) + 256 * mp8 pc8 k (n / 256)
    rw [← ih, ← h3]
    generalize mp8 (fun b => q2 (q1 b)) k (n / 256) = m at *
    generalize q2 (q1 (n % 256)) = e at *
    rw [and_by _ _ _ (by omega), show (e + 256 * m + (e + 256 * m) / 16) % 256 = e + e / 16 + 16 * (m % 16) by omega, show (e + 256 * m + (e + 256 * m) / 16) / 256 = m + m / 16 by omega, and15 _ (by omega)]
    unfold q3
    omega
theorem sw_a {c0 c1 R1 R2 T : Nat} (h0 : c0 ≤ 8) (h1 : R1 = c1 + 256 * R2) (hT : T = c0 + 256 * R1) : T + T / 256 = (c0 + c1) + 256 * (R1 + R2) := by
  have : T / 256 = R1 := by omega
  rw [this]; omega
theorem sw_b {c0 c1 c2 c3 R1 R2 R3 R4 a : Nat} (h0 : c0 ≤ 8) (h1 : c1 ≤ 8) (h2 : c2 ≤ 8) (e1 : R1 = c1 + 256 * R2) (e2 : R2 = c2 + 256 * R3) (ha : a = (c0 + c1) + 256 * (R1 + R2)) : a / 65536 = R2 + R3 := by
  have : a = (c0 + c1 + 256 * (c1 + c2)) + 65536 * (R2 + R3) := by omega
  omega
theorem sw_c {c0 c1 c2 c3 c4 R1 R2 R3 R4 R5 a b : Nat} (e1 : R1 = c1 + 256 * R2) (e2 : R2 = c2 + 256 * R3) (e3 : R3 = c3 + 256 * R4) (e4 : R4 = c4 + 256 * R5) (ha : a = (c0 + c1) + 256 * (R1 + R2)) (hb : b = a + (R2 + R3)) : b = (c0 + c1 + c2 + c3 + 256 * (c1 + c2 + c3 + c4)) + 65536 * (R2 + R3 + R4 + R5) := by
  have a2 : a = (c0 + c1 + 256 * (c1 + c2)) + 65536 * (R2 + R3) := by omega
  have a3 : R2 + R3 = (c2 + c3) + 256 * (c3 + c4) + 65536 * (R4 + R5) := by omega
  omega
theorem sw_d {r S b x y : Nat} (hx : x ≤ 65535) (hy : y ≤ 65535) (e : r = y + 65536 * S) (hb : b = x + 65536 * r) : b / 4294967296 = S := by omega
theorem sw_e {s k d : Nat} (hs : s ≤ 64) (hd : d = s + 256 * k) : d % 128 = s := by omega
theorem sw_t {c0 c1 c2 c3 c4 c5 c6 c7 T : Nat} (h0 : c0 ≤ 8) (h1 : c1 ≤ 8) (h2 : c2 ≤ 8) (h3 : c3 ≤ 8) (h4 : c4 ≤ 8) (h5 : c5 ≤ 8) (h6 : c6 ≤ 8) (h7 : c7 ≤ 8) (hT : T = c0 + 256 * (c1 + 256 * (c2 + 256 * (c3 + 256 * (c4 + 256 * (c5 + 256 * (c6 + 256 * c7))))))) : T < 4611686018427387904 := by omega
theorem sw_end {c0 c1 c2 c3 c4 c5 c6 c7 T : Nat} (h0 : c0 ≤ 8) (h1 : c1 ≤ 8) (h2 : c2 ≤ 8) (h3 : c3 ≤ 8) (h4 : c4 ≤ 8) (h5 : c5 ≤ 8) (h6 : c6 ≤ 8) (h7 : c7 ≤ 8) (hT : T = c0 + 256 * (c1 + 256 * (c2 + 256 * (c3 + 256 * (c4 + 256 * (c5 + 256 * (c6 + 256 * c7))))))) : (T + T / 256 + (T + T / 256) / 65536 + (T + T / 256 + (T + T / 256) / 65536) / 4294967296) % 128 = c0 + c1 + c2 + c3 + c4 + c5 + c6 + c7 := by
  obtain ⟨R6, e6⟩ : ∃ r, r = c6 + 256 * c7 := ⟨_, rfl⟩
  rw [← e6] at hT
  obtain ⟨R5, e5⟩ : ∃ r, r = c5 + 256 * R6 := ⟨_, rfl⟩
  rw [← e5] at hT
  obtain ⟨R4, e4⟩ : ∃ r, r = c4 + 256 * R5 := ⟨_, rfl⟩
  rw [← e4] at hT
  obtain ⟨R3, e3⟩ : ∃ r, r = c3 + 256 * R4 := ⟨_, rfl⟩
  rw [← e3] at hT
  obtain ⟨R2, e2⟩ : ∃ r, r = c2 + 256 * R3 := ⟨_, rfl⟩
  rw [← e2] at hT
  obtain ⟨R1, e1⟩ : ∃ r, r = c1 + 256 * R2 := ⟨_, rfl⟩
  rw [← e1] at hT
  have ea := sw_a h0 e1 hT
  rw [ea]
  obtain ⟨a, ha⟩ : ∃ r, r = (c0 + c1) + 256 * (R1 + R2) := ⟨_, rfl⟩
  rw [← ha]
  rw [sw_b (c3 := c3) (R4 := R4) h0 h1 h2 e1 e2 ha]
  obtain ⟨b, hb⟩ : ∃ r, r = a + (R2 + R3) := ⟨_, rfl⟩
  rw [← hb]
  have ec := sw_c e1 e2 e3 e4 ha hb
  have ed : R2 + R3 + R4 + R5 = (c2 + c3 + c4 + c5 + 256 * (c3 + c4 + c5 + c6)) + 65536 * (R4 + R5 + R6 + c7) := by
    clear ha hb ec ea hT e1
    omega
  rw [sw_d (x := c0 + c1 + c2 + c3 + 256 * (c1 + c2 + c3 + c4)) (y := c2 + c3 + c4 + c5 + 256 * (c3 + c4 + c5 + c6)) (by clear ha hb ec ea hT ed e1 e2 e3 e4 e5 e6; omega) (by clear ha hb ec ea hT ed e1 e2 e3 e4 e5 e6; omega) ed ec]
  refine sw_e (k := (c1 + c2 + c3 + c4) + 256 * (R2 + R3 + R4 + R5) + (R5 + R6 + c7)) (by clear ha hb ec ea hT ed e1 e2 e3 e4 e5 e6; omega) ?_
  clear ha hb ea hT ed e1 e2 e3
  omega
/-! from machine words to numbers -/
theorem l_and (a b : Nat) : lN a &&& lN b = lN (a &&& b) := by
  apply Int64.toBitVec_inj.mp
  show BitVec.ofNat 64 a &&& BitVec.ofNat 64 b = BitVec.ofNat 64 (a &&& b)
  apply BitVec.eq_of_getLsbD_eq
  intro i hi
  simp [BitVec.getLsbD_and, BitVec.getLsbD_ofNat, hi, Nat.testBit_and]
theorem l_or (a b : Nat) : lN a ||| lN b = lN (a ||| b) := by
  apply Int64.toBitVec_inj.mp
  show BitVec.ofNat 64 a ||| BitVec.ofNat 64 b = BitVec.ofNat 64 (a ||| b)
  apply BitVec.eq_of_getLsbD_eq
  intro i hi
  simp [BitVec.getLsbD_or, BitVec.getLsbD_ofNat, hi, Nat.testBit_or]
theorem l_add (a b : Nat) : lN a + lN b = lN (a + b) := by
  show Int64.ofNat a + Int64.ofNat b = Int64.ofNat (a + b)
  rw [Int64.ofNat_add]
theorem l_sub (a b : Nat) (h : b ≤ a) : lN a - lN b = lN (a - b) := by
  have : lN a = lN (a - b) + lN b := by rw [l_add, Nat.sub_add_cancel h]
  rw [this, Int64.add_sub_cancel]
theorem l_shr (a k : Nat) (ha : a < 2 ^ 64) (hk : k < 64) : ((lN a).toUInt64 >>> UInt64.ofNat k).toInt64 = lN (a / 2 ^ k) := by
  apply Int64.toBitVec_inj.mp
  show (BitVec.ofNat 64 a) >>> (BitVec.ofNat 64 k % 64#64) = BitVec.ofNat 64 (a / 2 ^ k)
  apply BitVec.eq_of_toNat_eq
  have hk2 : (BitVec.ofNat 64 k % 64#64).toNat = k := by
    rw [BitVec.toNat_umod, BitVec.toNat_ofNat]
    show k % 2 ^ 64 % 64 = k
    omega
  rw [BitVec.ushiftRight_eq', hk2, BitVec.toNat_ushiftRight, BitVec.toNat_ofNat, BitVec.toNat_ofNat, Nat.mod_eq_of_lt ha, Nat.shiftRight_eq_div_pow]
  have : a / 2 ^ k ≤ a := Nat.div_le_self _ _
  rw [Nat.mod_eq_of_lt (by omega)]
theorem mp_lt {f : Nat → Nat} (hf : ∀ b, b < 256 → f b < 256) : ∀ k n, mp8 f k n < 256 ^ k
  | 0, _ => by show 0 < 1; omega
  | k + 1, n => by
    have ih := mp_lt hf k (n / 256)
    have hb := hf (n % 256) (by omega)
    show f (n % 256) + 256 * mp8 f k (n / 256) < 256 ^ (k + 1)
    rw [Nat.pow_succ]
    omega
theorem l_i32 (d : Nat) : (lN d).toInt32 = nI d := by
  apply Int32.toBitVec_inj.mp
  show (BitVec.ofNat 64 d).signExtend 32 = BitVec.ofNat 32 d
  rw [BitVec.signExtend_eq_setWidth_of_le _ (by omega), BitVec.setWidth_ofNat_of_le (by omega)]
def z9 (x : Int64) : Int64 := x - (((x).toUInt64 >>> (((1 : Int32)).toInt64.toUInt64 &&& Int64.toUInt64 63)).toInt64 &&& (6148914691236517205 : Int64))
def z23 (y : Int64) : Int64 := (y &&& (3689348814741910323 : Int64)) + (((y).toUInt64 >>> (((2 : Int32)).toInt64.toUInt64 &&& Int64.toUInt64 63)).toInt64 &&& (3689348814741910323 : Int64))
def z33 (y : Int64) : Int64 := (y + ((y).toUInt64 >>> (((4 : Int32)).toInt64.toUInt64 &&& Int64.toUInt64 63)).toInt64) &&& (1085102592571150095 : Int64)
def z40 (y : Int64) : Int64 := y + ((y).toUInt64 >>> (((8 : Int32)).toInt64.toUInt64 &&& Int64.toUInt64 63)).toInt64
def z47 (y : Int64) : Int64 := y + ((y).toUInt64 >>> (((16 : Int32)).toInt64.toUInt64 &&& Int64.toUInt64 63)).toInt64
def z54 (y : Int64) : Int64 := y + ((y).toUInt64 >>> (((32 : Int32)).toInt64.toUInt64 &&& Int64.toUInt64 63)).toInt64
theorem bc_z (x : Int64) : bcI x = (z54 (z47 (z40 (z33 (z23 (z9 x)))))).toInt32 &&& (127 : Int32) := rfl
theorem z9_n (n : Nat) (h : n < 2 ^ 64) : z9 (lN n) = lN (mp8 q1 8 n) := by
  have p1 := mp_1 8 n h
  unfold z9
  rw [show ((1 : Int32).toInt64.toUInt64 &&& Int64.toUInt64 63) = UInt64.ofNat 1 by decide +kernel, l_shr n 1 h (by omega), show (6148914691236517205 : Int64) = lN (mk8 85 8) by decide +kernel, l_and, l_sub _ _ p1.1]
  exact congrArg lN p1.2
theorem z23_n (n : Nat) : z23 (lN (mp8 q1 8 n)) = lN (mp8 (fun b => q2 (q1 b)) 8 n) := by
  have b9 : mp8 q1 8 n < 2 ^ 64 := mp_lt (fun b hb => (b_q1 b hb).1) 8 n
  have p2 := mp_2 8 n
  unfold z23
  rw [show ((2 : Int32).toInt64.toUInt64 &&& Int64.toUInt64 63) = UInt64.ofNat 2 by decide +kernel, l_shr _ 2 b9 (by omega), show (3689348814741910323 : Int64) = lN (mk8 51 8) by decide +kernel, l_and, l_and, l_add]
  exact congrArg lN p2
theorem z33_n (n : Nat) : z33 (lN (mp8 (fun b => q2 (q1 b)) 8 n)) = lN (mp8 pc8 8 n) := by
  have b23 : mp8 (fun b => q2 (q1 b)) 8 n < 2 ^ 64 := mp_lt (fun b hb => by have := (b_q2 (q1 b) (b_q1 b hb).1).1; omega) 8 n
  have p3 := mp_3 8 n
  unfold z33
  rw [show ((4 : Int32).toInt64.toUInt64 &&& Int64.toUInt64 63) = UInt64.ofNat 4 by decide +kernel, l_shr _ 4 b23 (by omega), show (1085102592571150095 : Int64) = lN (mk8 15 8) by decide +kernel, l_add, l_and]
  exact congrArg lN p3
theorem z40_n (T : Nat) (h : T < 4611686018427387904) : z40 (lN T) = lN (T + T / 256) := by
  unfold z40
  rw [show ((8 : Int32).toInt64.toUInt64 &&& Int64.toUInt64 63) = UInt64.ofNat 8 by decide +kernel, l_shr _ 8 (by omega) (by omega), l_add]
theorem z47_n (T : Nat) (h : T < 9223372036854775808) : z47 (lN T) = lN (T + T / 65536) := by
  unfold z47
  rw [show ((16 : Int32).toInt64.toUInt64 &&& Int64.toUInt64 63) = UInt64.ofNat 16 by decide +kernel, l_shr _ 16 (by omega) (by omega), l_add]
theorem z54_n (T : Nat) (h : T < 18446744073709551616) : z54 (lN T) = lN (T + T / 4294967296) := by
  unfold z54
  rw [show ((32 : Int32).toInt64.toUInt64 &&& Int64.toUInt64 63) = UInt64.ofNat 32 by decide +kernel, l_shr _ 32 h (by omega), l_add]
theorem mp_c (n : Nat) : ∃ c0 c1 c2 c3 c4 c5 c6 c7, (c0 ≤ 8 ∧ c1 ≤ 8 ∧ c2 ≤ 8 ∧ c3 ≤ 8 ∧ c4 ≤ 8 ∧ c5 ≤ 8 ∧ c6 ≤ 8 ∧ c7 ≤ 8) ∧ mp8 pc8 8 n = c0 + 256 * (c1 + 256 * (c2 + 256 * (c3 + 256 * (c4 + 256 * (c5 + 256 * (c6 + 256 * c7)))))) ∧ pb8 8 n = c0 + c1 + c2 + c3 + c4 + c5 + c6 + c7 := by
  have st : ∀ k m, mp8 pc8 (k + 1) m = pc8 (m % 256) + 256 * mp8 pc8 k (m / 256) := fun _ _ => rfl
  have sp : ∀ k m, pb8 (k + 1) m = pc8 (m % 256) + pb8 k (m / 256) := fun _ _ => rfl
  have z : ∀ m, mp8 pc8 0 m = 0 := fun _ => rfl
  have zp : ∀ m, pb8 0 m = 0 := fun _ => rfl
  refine ⟨_, _, _, _, _, _, _, _, ⟨pc8_le _, pc8_le _, pc8_le _, pc8_le _, pc8_le _, pc8_le _, pc8_le _, pc8_le _⟩, by rw [st, st, st, st, st, st, st, st, z, Nat.mul_zero, Nat.add_zero], ?_⟩
  rw [sp, sp, sp, sp, sp, sp, sp, sp, zp, Nat.add_zero]
  simp only [Nat.add_assoc]
theorem bc_n (n : Nat) (h : n < 2 ^ 64) : bcI (lN n) = nI (pb8 8 n) := by
  obtain ⟨c0, c1, c2, c3, c4, c5, c6, c7, ⟨h0, h1, h2, h3, h4, h5, h6, h7⟩, eT, eP⟩ := mp_c n
  have r1 := sw_end h0 h1 h2 h3 h4 h5 h6 h7 eT
  have bT := sw_t h0 h1 h2 h3 h4 h5 h6 h7 eT
  rw [bc_z, z9_n n h, z23_n, z33_n]
  rw [← eP] at r1
  clear eT eP h0 h1 h2 h3 h4 h5 h6 h7
  generalize mp8 pc8 8 n = T at r1 bT ⊢
  rw [z40_n T bT, z47_n _ (by omega), z54_n _ (by omega), l_i32, show (127 : Int32) = nI 127 from rfl, i_and, show (T + T / 256 + (T + T / 256) / 65536 + (T + T / 256 + (T + T / 256) / 65536) / 4294967296) &&& 127 = (T + T / 256 + (T + T / 256) / 65536 + (T + T / 256 + (T + T / 256) / 65536) / 4294967296) % 128 from Nat.and_two_pow_sub_one_eq_mod _ 7, r1]
section BC
variable {X : Nat → Nat} {N : Nat}
noncomputable def tgM (X : Nat → Nat) (s : Nat) : Nat → Nat
  | 0 => 0
  | t + 1 => tgM X s t + itp (hv X s t) (2 ^ t) 0
theorem tgM_lt (X : Nat → Nat) (s : Nat) : ∀ t, tgM X s t < 2 ^ t
  | 0 => by show 0 < 1; omega
  | t + 1 => by
    have := tgM_lt X s t
    show tgM X s t + itp _ _ _ < 2 ^ (t + 1)
    rw [Nat.pow_succ]
    unfold itp
    split <;> omega
theorem sh_t : ∀ t, t < 48 → (1 : Int64) <<< ((nI t).toInt64 &&& 63) = lN (2 ^ t) := by decide +kernel
theorem tg_lN (X : Nat → Nat) (s : Nat) : ∀ t, t ≤ 48 → tgN X s t = lN (tgM X s t)
  | 0, _ => rfl
  | t + 1, h => by
    have ih := tg_lN X s t (by omega)
    have hlt := tgM_lt X s t
    show itp _ _ _ = lN (tgM X s t + itp _ _ _)
    by_cases g : hv X s t
    · rw [itp_pos g, itp_pos g, ih, sh_t t (by omega), l_or]
      have := Nat.two_pow_add_eq_or_of_lt hlt 1
      rw [Nat.mul_one] at this
      rw [Nat.or_comm, ← this, Nat.add_comm]
    · rw [itp_neg g, itp_neg g, ih]; rfl
theorem pc_t : ∀ t, t < 8 → ∀ n, n < 256 → n < 2 ^ t → pc8 (n + 2 ^ t) = pc8 n + 1 := by decide +kernel
theorem pb_add : ∀ k t n, t < 8 * k → n < 2 ^ t → pb8 k (n + 2 ^ t) = pb8 k n + 1
  | 0, t, n, h, _ => absurd h (by omega)
  | k + 1, t, n, h, hn => by
    show pc8 ((n + 2 ^ t) % 256) + pb8 k ((n + 2 ^ t) / 256) = pc8 (n % 256) + pb8 k (n / 256) + 1
    by_cases g : t < 8
    · have h8 : 2 ^ t ≤ 2 ^ 7 := Nat.pow_le_pow_right (by omega) (by omega)
      rw [Nat.mod_eq_of_lt (show n + 2 ^ t < 256 by omega), Nat.mod_eq_of_lt (show n < 256 by omega), Nat.div_eq_of_lt (show n + 2 ^ t < 256 by omega), Nat.div_eq_of_lt (show n < 256 by omega), pc_t t g n (by omega) hn]
      omega
    · have e : 2 ^ t = 256 * 2 ^ (t - 8) := by
        rw [show (256 : Nat) = 2 ^ 8 from rfl, ← Nat.pow_add, show 8 + (t - 8) = t by omega]
      rw [e] at hn ⊢
      rw [show (n + 256 * 2 ^ (t - 8)) % 256 = n % 256 by omega, show (n + 256 * 2 ^ (t - 8)) / 256 = n / 256 + 2 ^ (t - 8) by omega, pb_add k (t - 8) (n / 256) (by omega) (by omega)]
      omega
theorem pb_vd (X : Nat → Nat) (s : Nat) : ∀ t, t ≤ 48 → pb8 8 (tgM X s t) = vdN X s t
  | 0, _ => by show pb8 8 0 = 0; decide
  | t + 1, h => by
    have ih := pb_vd X s t (by omega)
    show pb8 8 (tgM X s t + itp _ _ _) = itp _ _ _
    by_cases g : hv X s t
    · rw [itp_pos g, itp_pos g, pb_add 8 t _ (by omega) (tgM_lt X s t), ih]
    · rw [itp_neg g, itp_neg g, Nat.add_zero, ih]
theorem bc_eq (X : Nat → Nat) (s : Nat) : bcI (tgN X s 48) = nI (vdN X s 48) := by
  have := tgM_lt X s 48
  rw [tg_lN X s 48 (Nat.le_refl _), bc_n _ (by omega), pb_vd X s 48 (Nat.le_refl _)]
theorem on_eq (X : Nat → Nat) : onB X = onA X := by
  unfold onB onA
  rw [bc_eq]
end BC
